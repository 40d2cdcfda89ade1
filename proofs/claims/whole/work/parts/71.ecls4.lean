/-! THE CLASS'S CODER, PURE: sequences and lets -/
section KS2
variable {cap base : Nat} {tl : Bool} {own : Nat} {par : Int32 → Nat} {N : Nat}
theorem fo_l2 {a : Fo} (h : fo_l a = 2) : ∃ y1 k1 v1 a1 y2 k2 v2 a2, a = .inner y1 k1 v1 a1 (.inner y2 k2 v2 a2 .leaf) := by
  match a, h with
  | .leaf, h => cases h
  | .inner _ _ _ _ .leaf, h => cases h
  | .inner y1 k1 v1 a1 (.inner y2 k2 v2 a2 .leaf), _ => exact ⟨y1, k1, v1, a1, y2, k2, v2, a2, rfl⟩
  | .inner _ _ _ _ (.inner _ _ _ _ (.inner _ _ _ _ b)), h => exact absurd h (by simp [fo_l])
theorem fo_l3 {a : Fo} (h : fo_l a = 3) : ∃ y1 k1 v1 a1 y2 k2 v2 a2 y3 k3 v3 a3, a = .inner y1 k1 v1 a1 (.inner y2 k2 v2 a2 (.inner y3 k3 v3 a3 .leaf)) := by
  match a, h with
  | .leaf, h => cases h
  | .inner _ _ _ _ .leaf, h => cases h
  | .inner _ _ _ _ (.inner _ _ _ _ .leaf), h => cases h
  | .inner y1 k1 v1 a1 (.inner y2 k2 v2 a2 (.inner y3 k3 v3 a3 .leaf)), _ => exact ⟨y1, k1, v1, a1, y2, k2, v2, a2, y3, k3, v3, a3, rfl⟩
  | .inner _ _ _ _ (.inner _ _ _ _ (.inner _ _ _ _ (.inner _ _ _ _ b))), h => exact absurd h (by simp [fo_l])
theorem nb_seq {v : Int32} {a : Fo} (T : KTs cap base tl own par N a) : KT cap base tl own par N 12 v a := by
  intro D e n σ S h m z s hae har _ hq hS hW hb hc h1 h2
  obtain ⟨w1, w2, w3, w4, w5, w6⟩ := hW
  obtain ⟨y1, k1, v1, a1, y2, k2, v2, a2, rfl⟩ := fo_l2 w2
  obtain ⟨T1, T2, _⟩ := T
  have etb : tB 12 v (.inner y1 k1 v1 a1 (.inner y2 k2 v2 a2 .leaf)) = tB k1 v1 a1 ++ (tB k2 v2 a2 ++ []) := rfl
  rw [List.append_nil] at etb
  rw [etb] at w5 w6
  rw [k_sc_g (by decide)] at w4
  have hd := List.nodup_append.mp w5
  obtain ⟨x1, x2⟩ := fo_w_in w4 hd.1 (fun w hw => w6 w (List.mem_append.mpr (Or.inl hw)))
  obtain ⟨x3, _⟩ := fo_w_in x2 hd.2.1 (fun w hw => w6 w (List.mem_append.mpr (Or.inr hw)))
  have en : fo_n (.inner y1 k1 v1 a1 (.inner y2 k2 v2 a2 .leaf)) = fo_n a1 + 1 + (fo_n a2 + 1 + 0) := rfl
  have l0 : (e && kLast 12 0) = false := by cases e <;> rfl
  have l1 : (e && kLast 12 1) = e := by cases e <;> rfl
  have ec : eXn tl own 12 v (.inner y1 k1 v1 a1 (.inner y2 k2 v2 a2 .leaf)) e = eXn tl own k1 v1 a1 (e && kLast 12 0) + 1 + (eXn tl own k2 v2 a2 (e && kLast 12 1) + 0 + 0) + 0 := rfl
  rw [ec, l0, l1] at hc
  have K1 := kid_ok T1 (pk := 12) (i := 0) (e' := false) (n' := n) hae har hq hS x1 hb l0.symm rfl (by omega) (by omega) (by omega)
  obtain ⟨s1, es1⟩ : ∃ s1, kLv cap base (D + 1) tl own par k1 v1 (kv cap base tl own par a1 (D + 1) k1 v1 0 (kEn1 (D + 1) 12 0 k1 v1 s)) = s1 := ⟨_, rfl⟩
  rw [es1] at K1
  obtain ⟨g1, g2, g3, g4, g5⟩ := K1
  obtain ⟨g6, g7⟩ := g4 rfl
  have u1 : ks_us s1 = ks_us s + eXn tl own k1 v1 a1 false := by rw [g1.1, eX_len]
  obtain ⟨s2, es2⟩ : ∃ s2, kRise (-1) (kEmit cap 12 0 s1) = s2 := ⟨_, rfl⟩
  have q2 : KQ s2 h (tM tl k1 a1 false h m) (tZ k1 v1 a1 n σ z) := by
    rw [← es2]
    exact (KQ.emit ⟨g6, g7, g2⟩).dn1
  have r2 : KR (D + 1) s1 s2 [(12, 0)] := by
    rw [← es2]
    exact (KR.emit (by omega)).tr .rise
  have so2 : ks_so s2 = ks_so s1 := by rw [← es2, kR_so, kE_so]
  have r02 := g1.tr r2
  have lv := r02.2.2.2 D (by omega)
  have u2 : ks_us s2 = ks_us s + eXn tl own k1 v1 a1 false + 1 := by rw [r2.1, u1]; rfl
  have K2 := kid_ok T2 (pk := 12) (i := 1) (e' := e) (n' := n) (lv.1.trans hae) (lv.2.1.trans har) q2 (hS.mo (B := tB k1 v1 a1) (fun j hj hB => by rw [so2]; exact g5 j hj hB) (fun w hw c => (w6 w (List.mem_append.mpr (Or.inl c))).1 hw)) x3 (by omega) l1.symm rfl (by omega) (by omega) (by omega)
  obtain ⟨s3, es3⟩ : ∃ s3, kLv cap base (D + 1) tl own par k2 v2 (kv cap base tl own par a2 (D + 1) k2 v2 0 (kEn1 (D + 1) 12 1 k2 v2 s2)) = s3 := ⟨_, rfl⟩
  rw [es3] at K2
  obtain ⟨f1, f2, f3, f4, f5⟩ := K2
  have e1 : kLv cap base D tl own par 12 v (kv cap base tl own par (.inner y1 k1 v1 a1 (.inner y2 k2 v2 a2 .leaf)) D 12 v 0 s) = s3 := by
    have : kv cap base tl own par (.inner y1 k1 v1 a1 (.inner y2 k2 v2 a2 .leaf)) D 12 v 0 s = kBk cap base D 12 v 1 (kLv cap base (D + 1) tl own par k2 v2 (kv cap base tl own par a2 (D + 1) k2 v2 0 (kEn1 (D + 1) 12 1 k2 v2 (kBk cap base D 12 v 0 (kLv cap base (D + 1) tl own par k1 v1 (kv cap base tl own par a1 (D + 1) k1 v1 0 (kEn1 (D + 1) 12 0 k1 v1 s))))))) := rfl
    rw [this, es1]
    have b0 : kBk cap base D 12 v 0 s1 = s2 := by rw [← es2]; exact if_pos (by decide)
    have b1 : ∀ s', kBk cap base D 12 v 1 s' = s' := fun s' => by
      unfold kBk
      rw [if_neg (by decide), if_neg (by decide), if_neg (by decide), if_neg (by decide)]
    rw [b0, es3, b1]
    exact if_pos (by decide)
  rw [e1]
  have em : tM tl 12 (.inner y1 k1 v1 a1 (.inner y2 k2 v2 a2 .leaf)) e h m = tM tl k2 a2 (e && kLast 12 1) h (tM tl k1 a1 (e && kLast 12 0) h m) := rfl
  have ez : tZ 12 v (.inner y1 k1 v1 a1 (.inner y2 k2 v2 a2 .leaf)) n σ z = tZ k2 v2 a2 n σ (tZ k1 v1 a1 n σ z) := rfl
  have eb : fo_b (.inner y1 k1 v1 a1 (.inner y2 k2 v2 a2 .leaf)) = tB k1 v1 a1 ++ (tB k2 v2 a2 ++ []) := rfl
  rw [em, ez, eb, l0, l1]
  refine ⟨?_, f2, by omega, f4, fun j hj hB => ?_⟩
  · have ex : eX tl own 12 v (.inner y1 k1 v1 a1 (.inner y2 k2 v2 a2 .leaf)) e n σ (ks_us s - base) = (eX tl own k1 v1 a1 (e && kLast 12 0) n σ (ks_us s - base) ++ [(12, 0)] ++ (eX tl own k2 v2 a2 (e && kLast 12 1) n σ (ks_us s - base + (eXn tl own k1 v1 a1 (e && kLast 12 0) + 1)) ++ [] ++ [])) ++ [] := rfl
    rw [ex, l0, l1]
    simp only [List.append_nil]
    rw [show ks_us s - base + (eXn tl own k1 v1 a1 false + 1) = ks_us s2 - base by omega]
    exact (r02.tr f1).mo (Nat.le_succ D)
  · rw [List.append_nil, List.mem_append] at hB
    rw [f5 j hj (fun c => hB (Or.inr c)), so2, g5 j hj (fun c => hB (Or.inl c))]
theorem nb_let {v : Int32} {a : Fo} (T : KTs cap base tl own par N a) : KT cap base tl own par N 14 v a := by
  intro D e n σ S h m z s hae har hsv hq hS hW hb hc h1 h2
  have hsv := hsv rfl
  obtain ⟨w1, w2, w3, w4, w5, w6⟩ := hW
  obtain ⟨y1, k1, v1, a1, y2, k2, v2, a2, rfl⟩ := fo_l2 w2
  obtain ⟨T1, T2, _⟩ := T
  have etb : tB 14 v (.inner y1 k1 v1 a1 (.inner y2 k2 v2 a2 .leaf)) = v :: (tB k1 v1 a1 ++ (tB k2 v2 a2 ++ [])) := rfl
  rw [List.append_nil] at etb
  rw [etb] at w5 w6
  obtain ⟨hnv, w5⟩ := List.nodup_cons.mp w5
  obtain ⟨hvS, jv, ejv, hjv⟩ := w6 v (List.mem_cons_self ..)
  have w6' : ∀ w ∈ tB k1 v1 a1 ++ tB k2 v2 a2, w ∉ S ∧ ∃ j, w = nI j ∧ j < 120 := fun w hw => w6 w (List.mem_cons_of_mem _ hw)
  have hd := List.nodup_append.mp w5
  obtain ⟨x1, x2⟩ := fo_w_in w4 hd.1 (fun w hw => w6' w (List.mem_append.mpr (Or.inl hw)))
  obtain ⟨x3, _⟩ := fo_w_in x2 hd.2.1 (fun w hw => by
    obtain ⟨p1, p2⟩ := w6' w (List.mem_append.mpr (Or.inr hw))
    refine ⟨?_, p2⟩
    show ¬ w ∈ v :: S
    intro c
    rcases List.mem_cons.mp c with c | c
    · exact hnv (by rw [← c]; exact List.mem_append.mpr (Or.inr hw))
    · exact p1 c)
  have x1 : tW N par k1 v1 a1 S := x1
  have x3 : tW N par k2 v2 a2 (v :: S) := x3
  have en : fo_n (.inner y1 k1 v1 a1 (.inner y2 k2 v2 a2 .leaf)) = fo_n a1 + 1 + (fo_n a2 + 1 + 0) := rfl
  have l0 : (e && kLast 14 0) = false := by cases e <;> rfl
  have l1 : (e && kLast 14 1) = e := by cases e <;> rfl
  have ec : eXn tl own 14 v (.inner y1 k1 v1 a1 (.inner y2 k2 v2 a2 .leaf)) e = eXn tl own k1 v1 a1 (e && kLast 14 0) + 1 + (eXn tl own k2 v2 a2 (e && kLast 14 1) + 0 + 0) + 0 := rfl
  rw [ec, l0, l1] at hc
  have K1 := kid_ok T1 (pk := 14) (i := 0) (e' := false) (n' := n) hae har hq hS x1 hb l0.symm rfl (by omega) (by omega) (by omega)
  obtain ⟨s1, es1⟩ : ∃ s1, kLv cap base (D + 1) tl own par k1 v1 (kv cap base tl own par a1 (D + 1) k1 v1 0 (kEn1 (D + 1) 14 0 k1 v1 s)) = s1 := ⟨_, rfl⟩
  rw [es1] at K1
  obtain ⟨g1, g2, g3, g4, g5⟩ := K1
  obtain ⟨g6, g7⟩ := g4 rfl
  have u1 : ks_us s1 = ks_us s + eXn tl own k1 v1 a1 false := by rw [g1.1, eX_len]
  have ev : v.toNatClampNeg = jv := by rw [ejv, nI_clamp (by omega)]
  have sv1 : ks_so s1 v.toNatClampNeg = nI n := by
    rw [ev, g5 jv hjv (by rw [← ejv]; exact fun c => hnv (List.mem_append.mpr (Or.inl c))), ← ev]
    exact hsv
  obtain ⟨s2, es2⟩ : ∃ s2, kRise (-1) (kEmit cap 13 (nI n) (kUse v.toNatClampNeg s1)) = s2 := ⟨_, rfl⟩
  have q2 : KQ s2 h (tM tl k1 a1 false h m) (max (tZ k1 v1 a1 n σ z) (n + 1)) := by
    rw [← es2]
    exact ((KQ.use ⟨g6, g7, g2⟩ sv1 (by omega)).emit).dn1
  have r2 : KR (D + 1) s1 s2 [(13, nI n)] := by
    rw [← es2]
    exact KR.use.tr ((KR.emit (by rw [kU_us]; omega)).tr .rise)
  have so2 : ks_so s2 = ks_so s1 := by rw [← es2, kR_so, kE_so, kU_so]
  have r02 := g1.tr r2
  have lv := r02.2.2.2 D (by omega)
  have u2 : ks_us s2 = ks_us s + eXn tl own k1 v1 a1 false + 1 := by rw [r2.1, u1]; rfl
  have hS2 : sC (v :: S) (fun w => if w = v then n else σ w) s2 := by
    intro w hw
    rcases List.mem_cons.mp hw with c | c
    · refine ⟨jv, c.trans ejv, hjv, ?_, ?_⟩
      · rw [so2, ← ev, sv1]
        show nI n = nI (if w = v then n else σ w)
        rw [if_pos c]
      · show (if w = v then n else σ w) < 10000
        rw [if_pos c]
        omega
    · obtain ⟨j, q1, q2, q3, q4⟩ := hS w c
      have hne : ¬ w = v := fun c2 => hvS (by rw [← c2]; exact c)
      refine ⟨j, q1, q2, ?_, ?_⟩
      · rw [so2, g5 j q2 (by rw [← q1]; exact fun c3 => (w6' w (List.mem_append.mpr (Or.inl c3))).1 c), q3]
        show nI (σ w) = nI (if w = v then n else σ w)
        rw [if_neg hne]
      · show (if w = v then n else σ w) < 10000
        rw [if_neg hne]
        exact q4
  have K2 := kid_ok T2 (pk := 14) (i := 1) (e' := e) (n' := n + 1) (lv.1.trans hae) (lv.2.1.trans har) q2 hS2 x3 (by omega) l1.symm rfl (by omega) (by omega) (by omega)
  obtain ⟨s3, es3⟩ : ∃ s3, kLv cap base (D + 1) tl own par k2 v2 (kv cap base tl own par a2 (D + 1) k2 v2 0 (kEn1 (D + 1) 14 1 k2 v2 s2)) = s3 := ⟨_, rfl⟩
  rw [es3] at K2
  obtain ⟨f1, f2, f3, f4, f5⟩ := K2
  have e1 : kLv cap base D tl own par 14 v (kv cap base tl own par (.inner y1 k1 v1 a1 (.inner y2 k2 v2 a2 .leaf)) D 14 v 0 s) = s3 := by
    have : kv cap base tl own par (.inner y1 k1 v1 a1 (.inner y2 k2 v2 a2 .leaf)) D 14 v 0 s = kBk cap base D 14 v 1 (kLv cap base (D + 1) tl own par k2 v2 (kv cap base tl own par a2 (D + 1) k2 v2 0 (kEn1 (D + 1) 14 1 k2 v2 (kBk cap base D 14 v 0 (kLv cap base (D + 1) tl own par k1 v1 (kv cap base tl own par a1 (D + 1) k1 v1 0 (kEn1 (D + 1) 14 0 k1 v1 s))))))) := rfl
    rw [this, es1]
    have b0 : kBk cap base D 14 v 0 s1 = s2 := by
      rw [← es2, ← sv1]
      unfold kBk
      rw [if_neg (by decide), if_pos (by decide)]
    have b1 : ∀ s', kBk cap base D 14 v 1 s' = s' := fun s' => by
      unfold kBk
      rw [if_neg (by decide), if_neg (by decide), if_neg (by decide), if_neg (by decide)]
    rw [b0, es3, b1]
    exact if_pos (by decide)
  rw [e1]
  have em : tM tl 14 (.inner y1 k1 v1 a1 (.inner y2 k2 v2 a2 .leaf)) e h m = tM tl k2 a2 (e && kLast 14 1) h (tM tl k1 a1 (e && kLast 14 0) h m) := rfl
  have ez : tZ 14 v (.inner y1 k1 v1 a1 (.inner y2 k2 v2 a2 .leaf)) n σ z = tZ k2 v2 a2 (n + 1) (fun w => if w = v then n else σ w) (max (tZ k1 v1 a1 n σ z) (n + 1)) := rfl
  have eb : fo_b (.inner y1 k1 v1 a1 (.inner y2 k2 v2 a2 .leaf)) = tB k1 v1 a1 ++ (tB k2 v2 a2 ++ []) := rfl
  rw [em, ez, eb, l0, l1]
  refine ⟨?_, f2, by omega, f4, fun j hj hB => ?_⟩
  · have ex : eX tl own 14 v (.inner y1 k1 v1 a1 (.inner y2 k2 v2 a2 .leaf)) e n σ (ks_us s - base) = (eX tl own k1 v1 a1 (e && kLast 14 0) n σ (ks_us s - base) ++ [(13, nI n)] ++ (eX tl own k2 v2 a2 (e && kLast 14 1) (n + 1) (fun w => if w = v then n else σ w) (ks_us s - base + (eXn tl own k1 v1 a1 (e && kLast 14 0) + 1)) ++ [] ++ [])) ++ [] := rfl
    rw [ex, l0, l1]
    simp only [List.append_nil]
    rw [show ks_us s - base + (eXn tl own k1 v1 a1 false + 1) = ks_us s2 - base by omega]
    exact (r02.tr f1).mo (Nat.le_succ D)
  · rw [List.append_nil, List.mem_append] at hB
    rw [f5 j hj (fun c => hB (Or.inr c)), so2, g5 j hj (fun c => hB (Or.inl c))]
end KS2
