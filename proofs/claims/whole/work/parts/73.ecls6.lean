/-! THE CLASS'S CODER, PURE: a whole function; how long its code is -/
/-- 1 + 3 * its length is at most 4 * nodes, and 3 more at an end -/
def TL (tl : Bool) (own : Nat) (k v : Int32) (a : Fo) : Prop := ∀ e : Bool, 3 * eXn tl own k v a e + 1 ≤ 4 * (fo_n a + 1) + (if e then 3 else 0)
def TLs (tl : Bool) (own : Nat) : Fo → Prop
  | .inner _ k v a b => TL tl own k v a ∧ TLs tl own b
  | .leaf => True
section TLS
variable {tl : Bool} {own : Nat} {par : Int32 → Nat} {N : Nat}
theorem tl_gen : ∀ (F : Fo), TLs tl own F → ∀ (e : Bool) (pk : Int32) (i : Nat), gK pk → 3 * eN tl own F e pk i + fo_l F ≤ 4 * fo_n F
  | .leaf, _, _, _, _, _ => Nat.le_refl _
  | .inner y k v a b, T, e, pk, i, hg => by
    have r := tl_gen b T.2 e pk (i + 1) hg
    have t := T.1 false
    rw [eN_in, hg.la, Bool.and_false, hg.S]
    simp only [fo_l, fo_n, List.length_nil]
    simp only [Bool.false_eq_true, if_false] at t
    omega
theorem tl_all : ∀ (F : Fo) (S : Nat → List Int32), fo_w N par F S → TLs tl own F
  | .leaf, _, _ => trivial
  | .inner y k v a b, S, h => by
    obtain ⟨h1, h2, h3, h4, h5, h6⟩ := h
    have Ta := tl_all a _ h5
    refine ⟨?_, tl_all b _ h6⟩
    intro e
    by_cases hg : gK k
    · have r := tl_gen a Ta e k 0 hg
      have q := eL_le (tl := tl) (own := own) k v e (fun _ => 0)
      unfold eXn
      cases e
      · simp only [Bool.false_eq_true, if_false] at q ⊢
        omega
      · simp only [if_true] at q ⊢
        omega
    · rcases Classical.not_not.mp hg with rfl | rfl | rfl
      · obtain ⟨y1, k1, v1, a1, y2, k2, v2, a2, rfl⟩ := fo_l2 h2
        obtain ⟨T1, T2, _⟩ := Ta
        have en : fo_n (.inner y1 k1 v1 a1 (.inner y2 k2 v2 a2 .leaf)) = fo_n a1 + 1 + (fo_n a2 + 1 + 0) := rfl
        have ec : eXn tl own 12 v (.inner y1 k1 v1 a1 (.inner y2 k2 v2 a2 .leaf)) e = eXn tl own k1 v1 a1 (e && kLast 12 0) + 1 + (eXn tl own k2 v2 a2 (e && kLast 12 1) + 0 + 0) + 0 := rfl
        have l0 : (e && kLast 12 0) = false := by cases e <;> rfl
        have l1 : (e && kLast 12 1) = e := by cases e <;> rfl
        have t1 := T1 false
        have t2 := T2 e
        rw [ec, l0, l1, en]
        simp only [Bool.false_eq_true, if_false] at t1
        omega
      · obtain ⟨y1, k1, v1, a1, y2, k2, v2, a2, rfl⟩ := fo_l2 h2
        obtain ⟨T1, T2, _⟩ := Ta
        have en : fo_n (.inner y1 k1 v1 a1 (.inner y2 k2 v2 a2 .leaf)) = fo_n a1 + 1 + (fo_n a2 + 1 + 0) := rfl
        have ec : eXn tl own 14 v (.inner y1 k1 v1 a1 (.inner y2 k2 v2 a2 .leaf)) e = eXn tl own k1 v1 a1 (e && kLast 14 0) + 1 + (eXn tl own k2 v2 a2 (e && kLast 14 1) + 0 + 0) + 0 := rfl
        have l0 : (e && kLast 14 0) = false := by cases e <;> rfl
        have l1 : (e && kLast 14 1) = e := by cases e <;> rfl
        have t1 := T1 false
        have t2 := T2 e
        rw [ec, l0, l1, en]
        simp only [Bool.false_eq_true, if_false] at t1
        omega
      · obtain ⟨y1, k1, v1, a1, y2, k2, v2, a2, y3, k3, v3, a3, rfl⟩ := fo_l3 h2
        obtain ⟨T1, T2, T3, _⟩ := Ta
        have en : fo_n (.inner y1 k1 v1 a1 (.inner y2 k2 v2 a2 (.inner y3 k3 v3 a3 .leaf))) = fo_n a1 + 1 + (fo_n a2 + 1 + (fo_n a3 + 1 + 0)) := rfl
        have l0 : (e && kLast 13 0) = false := by cases e <;> rfl
        have l1 : (e && kLast 13 1) = e := by cases e <;> rfl
        have l2 : (e && kLast 13 2) = e := by cases e <;> rfl
        have t1 := T1 false
        have t2 := T2 e
        have t3 := T3 e
        rw [if_ec, l0, l1, l2, en]
        simp only [Bool.false_eq_true, if_false] at t1
        cases e
        · rw [show (eS 13 1 false 0 0).length = 1 from rfl]
          simp only [Bool.false_eq_true, if_false] at t2 t3 ⊢
          omega
        · rw [show (eS 13 1 true 0 0).length = 0 from rfl]
          simp only [if_true] at t2 t3 ⊢
          omega
theorem fo_l1 {a : Fo} (h : fo_l a = 1) : ∃ y k v a1, a = .inner y k v a1 .leaf := by
  match a, h with
  | .leaf, h => cases h
  | .inner y k v a1 .leaf, _ => exact ⟨y, k, v, a1, rfl⟩
  | .inner _ _ _ _ (.inner _ _ _ _ b), h => exact absurd h (by simp [fo_l])
section TC
variable {P y n : Nat} {k v : Int32} {a : Fo}
theorem eTC_e : eTC tl own P (.inner y k v a .leaf) = eX tl own k v a true P Int32.toNatClampNeg 0 := by
  have : eTC tl own P (.inner y k v a .leaf) = eX tl own k v a true P Int32.toNatClampNeg 0 ++ [] ++ [] := rfl
  rw [this, List.append_nil, List.append_nil]
theorem eTM_e : eTM tl (.inner y k v a .leaf) = tM tl k a true 0 0 := rfl
theorem eTZ_e : eTZ P (.inner y k v a .leaf) = tZ k v a P Int32.toNatClampNeg P := rfl
end TC
theorem eTC_len {F : Fo} {P : Nat} {S : Nat → List Int32} (h : fo_w N par F S) (h1 : fo_l F = 1) : 3 * (eTC tl own P F).length ≤ 4 * fo_n F + 2 := by
  obtain ⟨y, k, v, a, rfl⟩ := fo_l1 h1
  rw [eTC_e, eX_len]
  have := (tl_all (tl := tl) (own := own) _ S h).1 true
  simp only [if_true] at this
  simp only [fo_n]
  omega
/-- what is emitted as a node at an end is left, or by its kids: something -/
theorem eTC_pos : ∀ (F : Fo) (S : Nat → List Int32), fo_w N par F S → ∀ (e : Bool) (pk : Int32) (i : Nat), F ≠ .leaf → 0 < eN tl own F e pk i
  | .leaf, _, _, _, _, _, h => absurd rfl h
  | .inner y k v a b, S, hw, e, pk, i, _ => by
    rw [eN_in]
    unfold eXn
    obtain ⟨h1, h2, h3, h4, h5, h6⟩ := hw
    by_cases hg : gK k
    · have : 0 < (eL tl own k v (e && kLast pk i) (fun _ => 0)).length := by
        unfold eL
        rw [if_neg (show ¬ (k = 12 ∨ k = 14 ∨ k = 13) from hg)]
        split
        · split
          · simp
          · split <;> simp
        · split
          · simp
          · split <;> simp
      omega
    · have hl : fo_l a ≠ 0 := by
        rw [h2]
        rcases Classical.not_not.mp hg with rfl | rfl | rfl
        · exact Nat.succ_ne_zero 1
        · exact Nat.succ_ne_zero 1
        · exact Nat.succ_ne_zero 2
      have hne : a ≠ .leaf := fun c => hl (by rw [c]; rfl)
      have := eTC_pos a _ h5 (e && kLast pk i) k 0 hne
      omega
/-- a function's pass from its beginning to its end -/
theorem enc_root {cap : Nat} {F : Fo} {P u0 s0 : Nat} {op od ae ar ho be so : Nat → Int32} (hcap : cap < 2 ^ 30) (h1 : fo_l F = 1) (hw : fo_w N par F (fun _ => (List.range P).map nI)) (hd : ((List.range P).map nI ++ fo_b F).Nodup) (hv : ∀ w ∈ fo_b F, ∃ j, w = nI j ∧ j < 120) (hP : P ≤ 6) (hn : fo_n F ≤ 500) (hc : u0 + (eTC tl own P F).length ≤ cap) :
    ks_us (visT (kEnF P) (kLvF cap u0 tl own par) (kBkF cap u0) F s0 (kIni op od u0 P ae ar ho be so)) = u0 + (eTC tl own P F).length ∧ ks_op (visT (kEnF P) (kLvF cap u0 tl own par) (kBkF cap u0) F s0 (kIni op od u0 P ae ar ho be so)) = wr op u0 ((eTC tl own P F).map (·.1)) ∧ ks_od (visT (kEnF P) (kLvF cap u0 tl own par) (kBkF cap u0) F s0 (kIni op od u0 P ae ar ho be so)) = wr od u0 ((eTC tl own P F).map (·.2)) ∧ ks_mh (visT (kEnF P) (kLvF cap u0 tl own par) (kBkF cap u0) F s0 (kIni op od u0 P ae ar ho be so)) = nI (eTM tl F) ∧ ks_sl (visT (kEnF P) (kLvF cap u0 tl own par) (kBkF cap u0) F s0 (kIni op od u0 P ae ar ho be so)) = nI (eTZ P F) := by
  obtain ⟨y, k, v, a, rfl⟩ := fo_l1 h1
  rw [eTC_e, eTM_e, eTZ_e]
  rw [eTC_e, eX_len] at hc
  have ev : visT (kEnF P) (kLvF cap u0 tl own par) (kBkF cap u0) (.inner y k v a .leaf) s0 (kIni op od u0 P ae ar ho be so) = kLv cap u0 0 tl own par k v (kv cap u0 tl own par a 0 k v 0 (kEn0 P k v (kIni op od u0 P ae ar ho be so))) := by
    have : visT (kEnF P) (kLvF cap u0 tl own par) (kBkF cap u0) (.inner y k v a .leaf) s0 (kIni op od u0 P ae ar ho be so) = kLvF cap u0 tl own par [(s0, k, v, fo_l a, fo_l a)] (vis (kEnF P) (kLvF cap u0 tl own par) (kBkF cap u0) a [] (s0, k, v, 0, fo_l a) (s0 + 1) (kEnF P [(s0, k, v, 0, fo_l a)] (kIni op od u0 P ae ar ho be so))) := rfl
    rw [this, vis_kv]
    rfl
  rw [ev]
  have eb : fo_b (.inner y k v a .leaf) = tB k v a ++ [] := rfl
  rw [List.append_nil] at eb
  rw [eb] at hd hv
  have hd' := List.nodup_append.mp hd
  have hnS : ∀ w ∈ tB k v a, w ∉ (List.range P).map nI := fun w hw c => hd'.2.2 w c w hw rfl
  obtain ⟨w1, _⟩ := fo_w_in hw hd'.2.1 (fun w hw => ⟨hnS w hw, hv w hw⟩)
  have w1 : tW N par k v a ((List.range P).map nI) := w1
  obtain ⟨si, esi⟩ : ∃ si, kSetAr 0 (nI P) (kSetAe 0 1 (kIni op od u0 P ae ar ho be so)) = si := ⟨_, rfl⟩
  obtain ⟨s1, es1⟩ : ∃ s1, kEn0 P k v (kIni op od u0 P ae ar ho be so) = s1 := ⟨_, rfl⟩
  have er : s1 = kLet k v 0 si := by rw [← es1, ← esi]; rfl
  obtain ⟨f1, f2, f3, f4, f5, f6⟩ := kLet_f (k := k) (v := v) (s := si) (D := 0)
  rw [← er] at f1 f2 f3 f4 f5 f6
  simp only [Prod.mk.injEq] at f1
  obtain ⟨g1, g2, g3, g4, g5, g6⟩ := f1
  have x1 : ks_us si = u0 ∧ ks_op si = op ∧ ks_od si = od ∧ ks_h si = 0 ∧ ks_mh si = 0 ∧ ks_sl si = nI P ∧ ks_so si = fun j => if j < P then nI j else so j := by rw [← esi]; exact ⟨rfl, rfl, rfl, rfl, rfl, rfl, rfl⟩
  have x2 : ks_ae si = va_up ae 0 1 := by rw [← esi]; rfl
  have x3 : ks_ar si = va_up ar 0 (nI P) := by rw [← esi]; rfl
  obtain ⟨z1, z2, z3, z4, z5, z6, z7⟩ := x1
  have u1 : ks_us s1 = u0 := g3.trans z1
  have hv0 : k = 14 → ∃ j, v = nI j ∧ j < 120 ∧ v ∉ (List.range P).map nI := fun c => by
    have : v ∈ tB k v a := by unfold tB; rw [if_pos c]; simp
    obtain ⟨j, q1, q2⟩ := hv v this
    exact ⟨j, q1, q2, hnS v this⟩
  have fn : fo_n (.inner y k v a .leaf) = fo_n a + 1 + 0 := rfl
  have K := (nb_all (cap := cap) (base := u0) (tl := tl) (own := own) (par := par) (N := N) hcap (.inner y k v a .leaf)).1 0 true P Int32.toNatClampNeg ((List.range P).map nI) 0 0 P s1 (by rw [f2, x2, va_up_self]; rfl) (by rw [f3, x3, va_up_self]) (fun c => by rw [f6, if_pos c, va_up_self, x3, va_up_self]) ⟨g4.trans z4, Nat.le_refl _, g5.trans z5, g6.trans z6, by omega, by omega⟩ (fun w hw => by
      obtain ⟨j, q1, q2⟩ := List.mem_map.mp hw
      have q1 := List.mem_range.mp q1
      refine ⟨j, q2.symm, by omega, ?_, ?_⟩
      · rw [f6, ← q2, nI_clamp (by omega), z7]
        by_cases c : k = 14
        · obtain ⟨j2, r1, r2, r3⟩ := hv0 c
          rw [if_pos c, va_up_ne]
          · exact if_pos q1
          · intro c2
            rw [r1, nI_clamp (by omega)] at c2
            exact r3 (by rw [r1, ← c2, q2]; exact hw)
        · rw [if_neg c]
          exact if_pos q1
      · rw [← q2, nI_clamp (by omega)]
        omega) w1 (by omega) (by omega) (by omega) (by omega)
  rw [es1]
  obtain ⟨K1, K2, _⟩ := K
  rw [u1, Nat.sub_self] at K1
  obtain ⟨q1, q2, q3, _⟩ := K1
  refine ⟨?_, ?_, ?_, K2.1, K2.2.1⟩
  · rw [q1, u1]
  · rw [q2, u1, show ks_op s1 = op from g1.trans z2]
  · rw [q3, u1, show ks_od s1 = od from g2.trans z3]
end TLS
