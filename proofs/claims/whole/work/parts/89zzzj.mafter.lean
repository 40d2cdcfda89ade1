/-! READ: the model behind its reading -/
def maP (c k : Nat) : Bool := Nat.beq c 146 || Nat.beq c 147 || ((Nat.beq c 148 || Nat.beq c 149 || Nat.beq c 156) && Nat.blt k 24) || (Nat.ble 151 c && Nat.ble c 155 && Nat.blt k 31200)
theorem maP_i {c k : Nat} : maP c k = true ↔ c = 146 ∨ c = 147 ∨ ((c = 148 ∨ c = 149 ∨ c = 156) ∧ k < 24) ∨ (151 ≤ c ∧ c ≤ 155 ∧ k < 31200) := by
  unfold maP
  simp only [Bool.or_eq_true, Bool.and_eq_true, Nat.beq_eq, Nat.ble_eq, Nat.blt_eq]
  omega
def mreP (c k : Nat) : Bool := maP c k || mgP c k || mmP c k
theorem mreP_in {c k : Nat} (h : mreP c k = true) : (146 ≤ c ∧ c ≤ 156) ∨ (159 ≤ c ∧ c ≤ 162) ∨ (171 ≤ c ∧ c ≤ 189) ∨ (c = 144 ∧ (k = 29 ∨ k = 33 ∨ k = 50 ∨ k = 54 ∨ k = 65 ∨ k = 66)) := by
  unfold mreP at h
  rw [Bool.or_eq_true, Bool.or_eq_true] at h
  rcases h with (h | h) | h
  · have := maP_i.mp h; omega
  · have := mgP_in h; omega
  · have := mmP_in h; omega
theorem mreP_r {c k : Nat} (h : ¬ ((146 ≤ c ∧ c ≤ 156) ∨ (159 ≤ c ∧ c ≤ 162) ∨ (171 ≤ c ∧ c ≤ 189) ∨ (c = 144 ∧ (k = 29 ∨ k = 33 ∨ k = 50 ∨ k = 54 ∨ k = 65 ∨ k = 66)))) : mreP c k = false := by
  cases e : mreP c k with
  | false => rfl
  | true => exact absurd (mreP_in e) h
section MA
variable {cx : gCx} {d : Nat} {ad : Nat → Nat} {u : gSt} {post : Option Value → gSt → Prop} {A : List Fn} {bud : Int32}
abbrev fbA (A : List Fn) : Nat → Fo := fun f => fnB (fAt A f)
abbrev fvA (A : List Fn) : Nat → Nat := fun f => fnV (fAt A f)
abbrev cyA (A : List Fn) : Nat → Bool := fun g => comA A g g
abbrev reA (A : List Fn) (bud : Int32) : Nat → IR := mkRe (cyA A) (parOf A) (fbA A) (fvA A) (ordA A) A.length false bud
abbrev boA (A : List Fn) (bud : Int32) : Nat → Fo := mkBo (cyA A) (parOf A) (fbA A) (fvA A) (ordA A) A.length false false bud
theorem mBd.nn {t : gSt} {x V : Nat} {B : Fo} (h : mBd t ad x B V) : mBn t ad x B := ⟨h.1, h.2.2⟩
theorem mBn.dd {t : gSt} {x V : Nat} {B : Fo} (h : mBn t ad x B) (hV : t.2.1 (ad 149) x = nI V) : mBd t ad x B V := ⟨h.1, hV, h.2⟩
theorem mFn.bd {FS : List FD} {g : Int32 → Int32} {U : Nat → Int32} {f : Nat} {q : FD} {t : gSt} (h : mFn ad g f q t) (h1 : fo_l q.2.2.2 = 1) : mBd t ad (48 + f) (fnB (fnA g U f q)) (fnV (fnA g U f q)) := by
  obtain ⟨m1, m2, m3, m4, m5, m6, m7⟩ := h
  have := fo_ac_le q.2.2.2
  refine ⟨?_, m3, fo_ac q.2.2.2, m5, ?_, m6⟩
  · show _ = nI (fo_n (fo_mv g q.2.2.2))
    rw [fo_n_mv]; exact m4
  · show _ < fo_n (fo_mv g q.2.2.2)
    rw [fo_n_mv]; omega
theorem m_after {o2 o3 : Option Value} {bd1 : Nat → Nat} (hn : A.length ≤ 24) (hA : ∀ f F, A[f]? = some F → fn_ok A 400 46 F ∧ cd_ok A f F ∧ fnR F = 0 ∧ srcOk false f F ∧ bdOk A) (hL : Lay u ad) (h23 : u.2.1 (ad 144) 23 = nI A.length) (h11 : u.2.1 (ad 144) 11 = nI A.length) (h46 : u.2.1 (ad 144) 46 = bud) (hv : vB ad u)
    (hM : ∀ f F, A[f]? = some F → u.2.2.1 (ad 169) f = pk6 (fnN F) ∧ u.2.1 (ad 170) f = nI (fnP F) ∧ mBd u ad (48 + f) (fnB F) (fnV F))
    (hbb : ∀ f, f < A.length → cdG A.length (eTC false f (parOf A (nI f)) (boA A bud f)) ∧ 2 + eTZ (parOf A (nI f)) (boA A bud f) + eTM false (boA A bud f) ≤ 2000)
    (hbd1 : isBd A.length (fun f g => cCal (eTC false f (parOf A (nI f)) (boA A bud f)) g) (fun f g => cTal (eTC false f (parOf A (nI f)) (boA A bud f)) g) (fun f => 2 + eTZ (parOf A (nI f)) (boA A bud f) + eTM false (boA A bud f)) bd1)
    (k : ∀ w, gFr ad mreP u w → MKH w ad A.length (parOf A) (cyA A) (fbA A) (fvA A) (ordA A) bud → (∀ f, f < A.length → mBd w ad (24 + f) (boA A bud f) (reA A bud f).2.1 ∧ w.2.1 (ad 150) f = nI (reA A bud f).2.2) → (∀ f, f < A.length → codM w ad f false f (parOf A (nI f)) (fbA A f) ∧ codM w ad (24 + f) false f (parOf A (nI f)) (boA A bud f)) → (∀ f, f < A.length → w.2.1 (ad 188) f = fnU (fAt A f) ∧ w.2.1 (ad 188) (24 + f) = (if bNon A.length (fun f g => cCal (eTC false f (parOf A (nI f)) (boA A bud f)) g) (fun f g => cTal (eTC false f (parOf A (nI f)) (boA A bud f)) g) f = true then -1 else nI (bd1 f))) → (∀ f F, A[f]? = some F → w.2.2.1 (ad 146) f = pk6 (fnN F)) → (∀ f g, f < A.length → g < A.length → w.2.1 (ad 172) (24 * f + g) = b32 (dirA A f g) ∧ w.2.1 (ad 171) (24 * f + g) = b32 (comA A f g)) → (∀ j, j < A.length → w.2.1 (ad 173) j = nI (ordA A j)) → post (some (.int (nI A.length))) w) : WR cx d ad post 214 [some (.int 0), o2, o3] u := by
  obtain ⟨hord, hok⟩ := ord_A hn hA
  have hsz : ∀ f F, A[f]? = some F → fo_n (fnB F) ≤ 400 := fun f F hF => (hA f F hF).1.2.2.2.2.2.1
  have loop : ∀ (m i : Nat) (w : gSt), i + m = A.length → gFr ad maP u w → (∀ f F, A[f]? = some F → f < i → w.2.2.1 (ad 146) f = pk6 (fnN F) ∧ w.2.1 (ad 147) f = nI (fnP F) ∧ mBd w ad f (fnB F) (fnV F)) → WR cx d ad post 214 [some (.int (nI i)), o2, o3] w := by
    intro m
    induction m with
    | zero =>
      intro i w hi Fw hw
      have hi : i = A.length := by omega
      have w23 : w.2.1 (ad 144) 23 = nI A.length := by rw [Fw.i 144 23 (bool_r maP_i (by omega))]; exact h23
      refine x_Mo_read_214 Fw.L ⟨fun _ => ?_, fun z => absurd (by rw [w23, hi]; exact nI_le (Nat.le_refl _) (by omega)) z⟩
      have hwA : ∀ g, g < A.length → mBd w ad g (fbA A g) (fvA A g) := fun g hg => (hw g _ (A_at hg) (by omega)).2.2
      refine m_findGraph (d := d + 9) (nd := fun g => fo_q (fbA A g)) Fw.L hn (by rw [Fw.i 144 11 (bool_r maP_i (by omega))]; exact h11) (fun g hg => ⟨⟨?_, ?_, fun i q hq => ?_⟩, ?_⟩) (fun u1 F1 g172 g171 g173 => ⟨rfl, F1.L, ?_⟩)
      · rw [fo_qn]; exact (hwA g hg).1
      · rw [fo_qn]; have := hsz g _ (A_at hg); show fo_n (fnB (fAt A g)) ≤ 1300; omega
      · obtain ⟨-, -, N, -, -, hm⟩ := hwA g hg
        have := fo_qm _ 0 hm i q hq
        rw [Nat.zero_add] at this
        exact this
      · obtain ⟨S, hS⟩ := A_w hA hg
        exact fo_qg _ (fo_wv _ _ hS)
      have d172 : ∀ f g, f < A.length → g < A.length → u1.2.1 (ad 172) (24 * f + g) = b32 (dirA A f g) := fun f g hf hg => by rw [g172 f g hf hg, dir_q hn hA hf hg]
      have d171 : ∀ f g, f < A.length → g < A.length → u1.2.1 (ad 171) (24 * f + g) = b32 (comA A f g) := fun f g hf hg => by
        rw [g171 f g hf hg, clF_cg (R := dirA A) (n := A.length) (fun a b ha hb' => dir_q hn hA ha hb') A.length f g (Nat.le_refl _) hf hg]
        rfl
      have d173 : ∀ j, j < A.length → u1.2.1 (ad 173) j = nI (ordA A j) := fun j hj => g173 j _ (by rw [ord_q hn hA]; exact hok j hj)
      have H1 : MKH u1 ad A.length (parOf A) (cyA A) (fbA A) (fvA A) (ordA A) bud := by
        obtain ⟨q, q1, q2⟩ := hv
        refine ⟨hn, F1.L, ?_, ?_, fun h hh => d171 h h hh hh, d173, fun g hg => ?_, ⟨q, ?_, q2⟩, fun f hf => ?_, fun f hf => (hA f _ (A_at hf)).1.S (A_at hf) hn, A_par6 hn hA, hord.I⟩
        · rw [F1.i 144 11 (mgP_r (by omega)), Fw.i 144 11 (bool_r maP_i (by omega))]; exact h11
        · rw [F1.i 144 46 (mgP_r (by omega)), Fw.i 144 46 (bool_r maP_i (by omega))]; exact h46
        · rw [F1.i 147 g (mgP_r (by omega)), (at_A (A_at hg) hn).2.1]; exact (hw g _ (A_at hg) (by omega)).2.1
        · rw [F1.i 144 33 (mgP_r (by omega)), Fw.i 144 33 (bool_r maP_i (by omega))]; exact q1
        · exact (hwA f hf).fr (by have := hsz f _ (A_at hf); show fo_n (fnB (fAt A f)) ≤ 1300; omega) F1 (fun c hc => mgP_r (by omega)) (fun c k h1 h2 h3 h4 => mgP_r (by omega))
      obtain ⟨bd0, hbd0, hU0⟩ := bdOk.ex hn hA
      refine m_make (d := d + 6) (m1 := false) (m2 := false) (tl := false) (cl0 := fun f g => cCal (eTC false f (parOf A (nI f)) (fbA A f)) g) (tb0 := fun f g => cTal (eTC false f (parOf A (nI f)) (fbA A f)) g) (fr0 := bFr A) (bd0 := bd0) (cl1 := fun f g => cCal (eTC false f (parOf A (nI f)) (boA A bud f)) g) (tb1 := fun f g => cTal (eTC false f (parOf A (nI f)) (boA A bud f)) g) (fr1 := fun f => 2 + eTZ (parOf A (nI f)) (boA A bud f) + eTM false (boA A bud f)) (bd1 := bd1) H1 (by decide) (by decide) (by decide) (fun f g => rfl) (fun f g => rfl) (fun f hf => (A_cd hn hA hf).2.1) (fun f hf => (A_cd hn hA hf).2.2) (fun f hf => (A_cd hn hA hf).1) hbd0 (fun f g => rfl) (fun f g => rfl) (fun f hf => rfl) (fun f hf => (hbb f hf).2) (fun f hf => (hbb f hf).1) hbd1 (fun v Fv Hv Bv Cv Uv => ⟨_, rfl, Fv.L, ?_⟩)
      have FF : gFr ad mreP u v := ((Fw.mo (fun c k q => by unfold mreP; rw [q]; rfl)).tr (F1.mo (fun c k q => by unfold mreP; rw [q, Bool.or_true]; rfl))).tr (Fv.mo (fun c k q => by unfold mreP; rw [q, Bool.or_true]))
      rw [Hv.c11]
      refine k v FF Hv Bv Cv (fun f hf => ⟨by rw [(Uv f hf).1, hU0 f hf], (Uv f hf).2⟩) (fun f F hF => ?_) (fun f g hf hg => ⟨?_, ?_⟩) (fun j hj => ?_)
      · have hf := (at_A hF hn).2.2
        rw [Fv.j 146 f (mmP_r (by omega)), F1.j 146 f (mgP_r (by omega))]; exact (hw f F hF (by omega)).1
      · rw [Fv.i 172 _ (mmP_r (by omega))]; exact d172 f g hf hg
      · rw [Fv.i 171 _ (mmP_r (by omega))]; exact d171 f g hf hg
      · rw [Fv.i 173 _ (mmP_r (by omega))]; exact d173 j hj
    | succ m ih =>
      intro i w hi Fw hw
      have hil : i < A.length := by omega
      have w23 : w.2.1 (ad 144) 23 = nI A.length := by rw [Fw.i 144 23 (bool_r maP_i (by omega))]; exact h23
      refine x_Mo_read_214 Fw.L ⟨fun z => absurd z (by rw [w23]; exact nI_ge (by omega) (by omega)), fun _ => ?_⟩
      rw [nI_clamp (show i < 2 ^ 31 by omega)]
      refine ⟨vp_in_nI (by omega) (by omega), vp_in_nI (by omega) (by omega), fun t5 e5 => ⟨vp_in_nI (by omega) (by omega), vp_in_nI (by omega) (by omega), fun t6 e6 => ?_⟩⟩
      have F5 : gFr ad maP u t5 := by rw [e5]; exact Fw.sj (maP_i.mpr (Or.inl rfl))
      have F6 : gFr ad maP u t6 := by rw [e6]; exact F5.si (maP_i.mpr (Or.inr (Or.inl rfl)))
      obtain ⟨m1, m2, m3⟩ := hM i _ (A_at hil)
      have s6 := hsz i _ (A_at hil)
      have b6 : mBd t6 ad (48 + i) (fnB (fAt A i)) (fnV (fAt A i)) := m3.fr (by omega) F6 (fun c hc => bool_r maP_i (by omega)) (fun c k h1 h2 h3 h4 => bool_r maP_i (by omega))
      rw [show (48 : Int32) = nI 48 from rfl, nI_add, nI_1]
      refine m_copyAll (d := d + 10) (x := 48 + i) (y := i) (by omega) (by omega) (by omega) F6.L (by omega) b6.nn (fun v Fv bv v149 => ⟨rfl, Fv.L, ih (i + 1) v (by omega) (F6.tr (Fv.mo (fun c k q => maP_i.mpr (by have := myP_in q; omega)))) (fun f F hF hf => ?_)⟩)
      have j6 : t6.2.2.1 (ad 146) = fun k => if k = i then pk6 (fnN (fAt A i)) else w.2.2.1 (ad 146) k := funext (fun k => by
        rw [e6, g_si_j, e5]
        by_cases z : k = i
        · rw [if_pos z, z]
          refine g_up_v.trans ?_
          rw [Fw.j 169 i (bool_r maP_i (by omega))]; exact m1
        · rw [if_neg z]
          exact g_up_j z)
      have i6 : ∀ k, t6.2.1 (ad 147) k = if k = i then nI (fnP (fAt A i)) else w.2.1 (ad 147) k := fun k => by
        rw [e6, g_rdi]
        by_cases z : k = i
        · rw [if_pos ⟨rfl, z⟩, if_pos z, F5.i 170 i (bool_r maP_i (by omega))]; exact m2
        · rw [if_neg (fun y => z y.2), if_neg z, e5, g_sj_i]
      rw [Fv.j 146 f (myP_r (by omega)), Fv.i 147 f (myP_r (by omega)), j6, i6]
      by_cases z : f = i
      · rw [z] at hF ⊢
        rw [A_at hil] at hF
        have eF := Option.some.inj hF
        simp only [if_true]
        rw [← eF]
        exact ⟨rfl, rfl, bv.dd (by rw [v149]; exact b6.2.1)⟩
      · simp only [if_neg z]
        obtain ⟨q1, q2, q3⟩ := hw f F hF (by omega)
        have sF := hsz f F hF
        have hfl := (at_A hF hn).2.2
        have F56 : gFr ad (fun c _ => Nat.beq c 146 || Nat.beq c 147) w t6 := by rw [e6, e5]; exact ((gFr.rf Fw.L).sj rfl).si rfl
        have q6 : mBd t6 ad f (fnB F) (fnV F) := q3.fr (by omega) F56 (fun c hc => by rcases hc with rfl | rfl | rfl <;> rfl) (fun c k h1 h2 _ _ => by
          rw [Bool.or_eq_false_iff]
          exact ⟨Bool.eq_false_iff.mpr (fun y => by have := Nat.beq_eq.mp y; omega), Bool.eq_false_iff.mpr (fun y => by have := Nat.beq_eq.mp y; omega)⟩)
        exact ⟨q1, q2, q6.fr (by omega) Fv (fun c hc => myP_r (by omega)) (fun c k h1 h2 h3 h4 => myP_r (by omega))⟩
  exact loop A.length 0 u (by omega) (gFr.rf hL) (fun f F hF hf => by omega)
end MA
