/-! THE CLASS'S CODER, PURE: ifs; all -/
section KF1
variable {tl : Bool} {own : Nat} {y1 y2 y3 : Nat} {k1 v1 k2 v2 k3 v3 v : Int32} {a1 a2 a3 : Fo} {e : Bool} {n o h m z : Nat} {σ : Int32 → Nat}
theorem if_ec : eXn tl own 13 v (.inner y1 k1 v1 a1 (.inner y2 k2 v2 a2 (.inner y3 k3 v3 a3 .leaf))) e = eXn tl own k1 v1 a1 (e && kLast 13 0) + 1 + (eXn tl own k2 v2 a2 (e && kLast 13 1) + (eS 13 1 e 0 0).length + (eXn tl own k3 v3 a3 (e && kLast 13 2) + 0 + 0)) + 0 := rfl
theorem if_exf : eX tl own 13 v (.inner y1 k1 v1 a1 (.inner y2 k2 v2 a2 (.inner y3 k3 v3 a3 .leaf))) false n σ o = (eX tl own k1 v1 a1 false n σ o ++ [(14, nI (o + (eXn tl own k1 v1 a1 false + 1) + (eXn tl own k2 v2 a2 false + 1)))] ++ (eX tl own k2 v2 a2 false n σ (o + (eXn tl own k1 v1 a1 false + 1)) ++ [(15, nI (o + (eXn tl own k1 v1 a1 false + 1) + (eXn tl own k2 v2 a2 false + 1) + (eXn tl own k3 v3 a3 false + 0 + 0)))] ++ (eX tl own k3 v3 a3 false n σ (o + (eXn tl own k1 v1 a1 false + 1) + (eXn tl own k2 v2 a2 false + 1)) ++ [] ++ []))) ++ [] := rfl
theorem if_ext : eX tl own 13 v (.inner y1 k1 v1 a1 (.inner y2 k2 v2 a2 (.inner y3 k3 v3 a3 .leaf))) true n σ o = (eX tl own k1 v1 a1 false n σ o ++ [(14, nI (o + (eXn tl own k1 v1 a1 false + 1) + (eXn tl own k2 v2 a2 true + 0)))] ++ (eX tl own k2 v2 a2 true n σ (o + (eXn tl own k1 v1 a1 false + 1)) ++ [] ++ (eX tl own k3 v3 a3 true n σ (o + (eXn tl own k1 v1 a1 false + 1) + (eXn tl own k2 v2 a2 true + 0)) ++ [] ++ []))) ++ [] := rfl
theorem if_em : tM tl 13 (.inner y1 k1 v1 a1 (.inner y2 k2 v2 a2 (.inner y3 k3 v3 a3 .leaf))) e h m = tM tl k3 a3 (e && kLast 13 2) h (tM tl k2 a2 (e && kLast 13 1) h (tM tl k1 a1 (e && kLast 13 0) h m)) := rfl
theorem if_ez : tZ 13 v (.inner y1 k1 v1 a1 (.inner y2 k2 v2 a2 (.inner y3 k3 v3 a3 .leaf))) n σ z = tZ k3 v3 a3 n σ (tZ k2 v2 a2 n σ (tZ k1 v1 a1 n σ z)) := rfl
end KF1
theorem kR_ar {x : Int32} {s : KS} : ks_ar (kRise x s) = ks_ar s := rfl
theorem kH_ar {D : Nat} {x : Int32} {s : KS} : ks_ar (kSetHo D x s) = ks_ar s := rfl
section KF2
variable {cap base : Nat} {tl : Bool} {own : Nat} {par : Int32 → Nat} {N : Nat}
theorem nb_if {v : Int32} {a : Fo} (hcap : cap < 2 ^ 30) (T : KTs cap base tl own par N a) : KT cap base tl own par N 13 v a := by
  intro D e n σ S h m z s hae har _ hq hS hW hb hc h1 h2
  obtain ⟨w1, w2, w3, w4, w5, w6⟩ := hW
  obtain ⟨y1, k1, v1, a1, y2, k2, v2, a2, y3, k3, v3, a3, rfl⟩ := fo_l3 w2
  obtain ⟨T1, T2, T3, _⟩ := T
  have etb : tB 13 v (.inner y1 k1 v1 a1 (.inner y2 k2 v2 a2 (.inner y3 k3 v3 a3 .leaf))) = tB k1 v1 a1 ++ (tB k2 v2 a2 ++ (tB k3 v3 a3 ++ [])) := rfl
  rw [List.append_nil] at etb
  rw [etb] at w5 w6
  rw [k_sc_g (by decide)] at w4
  have hd := List.nodup_append.mp w5
  have hd2 := List.nodup_append.mp hd.2.1
  obtain ⟨x1, x2⟩ := fo_w_in w4 hd.1 (fun w hw => w6 w (List.mem_append.mpr (Or.inl hw)))
  obtain ⟨x3, x4⟩ := fo_w_in x2 hd2.1 (fun w hw => w6 w (List.mem_append.mpr (Or.inr (List.mem_append.mpr (Or.inl hw)))))
  obtain ⟨x5, _⟩ := fo_w_in x4 hd2.2.1 (fun w hw => w6 w (List.mem_append.mpr (Or.inr (List.mem_append.mpr (Or.inr hw)))))
  have en : fo_n (.inner y1 k1 v1 a1 (.inner y2 k2 v2 a2 (.inner y3 k3 v3 a3 .leaf))) = fo_n a1 + 1 + (fo_n a2 + 1 + (fo_n a3 + 1 + 0)) := rfl
  have l0 : (e && kLast 13 0) = false := by cases e <;> rfl
  have l1 : (e && kLast 13 1) = e := by cases e <;> rfl
  have l2 : (e && kLast 13 2) = e := by cases e <;> rfl
  rw [if_ec, l0, l1, l2] at hc
  have K1 := kid_ok T1 (pk := 13) (i := 0) (e' := false) (n' := n) hae har hq hS x1 hb l0.symm rfl (by omega) (by omega) (by omega)
  obtain ⟨s1, es1⟩ : ∃ s1, kLv cap base (D + 1) tl own par k1 v1 (kv cap base tl own par a1 (D + 1) k1 v1 0 (kEn1 (D + 1) 13 0 k1 v1 s)) = s1 := ⟨_, rfl⟩
  rw [es1] at K1
  obtain ⟨g1, g2, g3, g4, g5⟩ := K1
  obtain ⟨g6, g7⟩ := g4 rfl
  have L1 : (eX tl own k1 v1 a1 false n σ (ks_us s - base)).length = eXn tl own k1 v1 a1 false := eX_len
  have u1 : ks_us s1 = ks_us s + eXn tl own k1 v1 a1 false := by rw [g1.1, L1]
  obtain ⟨sx, esx⟩ : ∃ sx, kRise (-1) (kSetHo D (nI (ks_us s1)) (kEmit cap 14 0 s1)) = sx := ⟨_, rfl⟩
  obtain ⟨s2, es2⟩ : ∃ s2, kSetBe D (ks_h sx) sx = s2 := ⟨_, rfl⟩
  have qx : KQ sx h (tM tl k1 a1 false h m) (tZ k1 v1 a1 n σ z) := by
    rw [← esx]
    exact (KQ.ho (KQ.emit ⟨g6, g7, g2⟩)).dn1
  have q2 : KQ s2 h (tM tl k1 a1 false h m) (tZ k1 v1 a1 n σ z) := by
    rw [← es2]
    exact qx.be
  have r2 : KR D s1 s2 [(14, 0)] := by
    rw [← es2, ← esx]
    exact (KR.emit (by omega)).tr (KR.setho.tr (KR.rise.tr KR.setbe))
  have so2 : ks_so s2 = ks_so s1 := by
    rw [← es2, show ks_so (kSetBe D (ks_h sx) sx) = ks_so sx from rfl, ← esx, kR_so, show ks_so (kSetHo D (nI (ks_us s1)) (kEmit cap 14 0 s1)) = ks_so (kEmit cap 14 0 s1) from rfl, kE_so]
  have ho2 : ks_ho s2 D = nI (ks_us s1) := by
    rw [← es2, show ks_ho (kSetBe D (ks_h sx) sx) = ks_ho sx from rfl, ← esx, kR_ho, show ks_ho (kSetHo D (nI (ks_us s1)) (kEmit cap 14 0 s1)) = va_up (ks_ho (kEmit cap 14 0 s1)) D (nI (ks_us s1)) from rfl, va_up_self]
  have be2 : ks_be s2 D = nI h := by
    rw [← es2, show ks_be (kSetBe D (ks_h sx) sx) = va_up (ks_be sx) D (ks_h sx) from rfl, va_up_self]
    exact qx.1
  have ae2 : ks_ae s2 D = b32 e := by
    rw [← es2, show ks_ae (kSetBe D (ks_h sx) sx) = ks_ae sx from rfl, ← esx, kR_ae, show ks_ae (kSetHo D (nI (ks_us s1)) (kEmit cap 14 0 s1)) = ks_ae (kEmit cap 14 0 s1) from rfl, kE_at, (g1.2.2.2 D (by omega)).1]
    exact hae
  have kE_ar' : ks_ar (kEmit cap 14 0 s1) = ks_ar s1 := congrArg (·.2.2.2.2.1) kE_ae
  have ar2 : ks_ar s2 D = nI n := by
    rw [← es2, show ks_ar (kSetBe D (ks_h sx) sx) = ks_ar sx from rfl, ← esx, kR_ar, kH_ar, kE_ar', (g1.2.2.2 D (by omega)).2.1]
    exact har
  have u2 : ks_us s2 = ks_us s + eXn tl own k1 v1 a1 false + 1 := by rw [r2.1, u1]; rfl
  have hS2 : sC S σ s2 := hS.mo (B := tB k1 v1 a1) (fun j hj hB => by rw [so2]; exact g5 j hj hB) (fun w hw c => (w6 w (List.mem_append.mpr (Or.inl c))).1 hw)
  have K2 := kid_ok T2 (pk := 13) (i := 1) (e' := e) (n' := n) ae2 ar2 q2 hS2 x3 (by omega) l1.symm rfl (by omega) (by omega) (by omega)
  obtain ⟨s3, es3⟩ : ∃ s3, kLv cap base (D + 1) tl own par k2 v2 (kv cap base tl own par a2 (D + 1) k2 v2 0 (kEn1 (D + 1) 13 1 k2 v2 s2)) = s3 := ⟨_, rfl⟩
  rw [es3] at K2
  obtain ⟨f1, f2, f3, f4, f5⟩ := K2
  have L2 : (eX tl own k2 v2 a2 e n σ (ks_us s2 - base)).length = eXn tl own k2 v2 a2 e := eX_len
  have u3 : ks_us s3 = ks_us s2 + eXn tl own k2 v2 a2 e := by rw [f1.1, L2]
  have lv3 := f1.2.2.2 D (by omega)
  have ae3 : ks_ae s3 D = b32 e := lv3.1.trans ae2
  have ar3 : ks_ar s3 D = nI n := lv3.2.1.trans ar2
  have ho3 : ks_ho s3 D = nI (ks_us s1) := lv3.2.2.1.trans ho2
  have be3 : ks_be s3 D = nI h := lv3.2.2.2.trans be2
  have hS3 : sC S σ s3 := hS2.mo f5 (fun w hw c => (w6 w (List.mem_append.mpr (Or.inr (List.mem_append.mpr (Or.inl c))))).1 hw)
  have r03 := ((g1.mo (Nat.le_succ D)).tr r2).tr (f1.mo (Nat.le_succ D))
  rw [List.append_assoc] at r03
  have ekv : kv cap base tl own par (.inner y1 k1 v1 a1 (.inner y2 k2 v2 a2 (.inner y3 k3 v3 a3 .leaf))) D 13 v 0 s = kBk cap base D 13 v 2 (kLv cap base (D + 1) tl own par k3 v3 (kv cap base tl own par a3 (D + 1) k3 v3 0 (kEn1 (D + 1) 13 2 k3 v3 (kBk cap base D 13 v 1 (kLv cap base (D + 1) tl own par k2 v2 (kv cap base tl own par a2 (D + 1) k2 v2 0 (kEn1 (D + 1) 13 1 k2 v2 (kBk cap base D 13 v 0 (kLv cap base (D + 1) tl own par k1 v1 (kv cap base tl own par a1 (D + 1) k1 v1 0 (kEn1 (D + 1) 13 0 k1 v1 s))))))))))) := rfl
  have b0 : kBk cap base D 13 v 0 s1 = s2 := by
    rw [← es2, ← esx]
    unfold kBk
    rw [if_neg (by decide), if_neg (by decide), if_pos (by decide)]
  have b2 : ∀ s', kBk cap base D 13 v 2 s' = s' := fun s' => by
    unfold kBk
    rw [if_neg (by decide), if_neg (by decide), if_neg (by decide), if_neg (by decide)]
  rw [ekv, es1, b0, es3, b2]
  have eb : fo_b (.inner y1 k1 v1 a1 (.inner y2 k2 v2 a2 (.inner y3 k3 v3 a3 .leaf))) = tB k1 v1 a1 ++ (tB k2 v2 a2 ++ (tB k3 v3 a3 ++ [])) := rfl
  rw [if_em, if_ez, eb, l0, l1, l2, List.append_nil]
  have soA : ∀ s4 s5, ks_so s4 = ks_so s3 → (∀ j, j < 120 → nI j ∉ tB k3 v3 a3 → ks_so s5 j = ks_so s4 j) → ∀ j, j < 120 → nI j ∉ tB k1 v1 a1 ++ (tB k2 v2 a2 ++ tB k3 v3 a3) → ks_so s5 j = ks_so s j := fun s4 s5 z4 z5 j hj hB => by
    rw [List.mem_append, List.mem_append] at hB
    rw [z5 j hj (fun c => hB (Or.inr (Or.inr c))), z4, f5 j hj (fun c => hB (Or.inr (Or.inl c))), so2, g5 j hj (fun c => hB (Or.inl c))]
  have ho1 : nI (ks_us s1) = nI (ks_us s + (eX tl own k1 v1 a1 false n σ (ks_us s - base)).length) := by rw [u1, L1]
  cases e with
  | true =>
    rw [show (eS 13 1 true 0 0).length = 0 from rfl] at hc
    obtain ⟨s4, es4⟩ : ∃ s4, kSetH (nI h) (kFill cap base (nI (ks_us s1)) s3) = s4 := ⟨_, rfl⟩
    have b1 : kBk cap base D 13 v 1 s3 = s4 := by
      rw [← es4]
      unfold kBk
      rw [if_neg (by decide), if_neg (by decide), if_neg (by decide), if_pos (by decide), if_neg (by rw [ae3]; decide), be3, ho3]
    rw [b1]
    have F4 := r03.fill (cap := cap) (base := base) (by rw [L1]; omega) hcap hb
    rw [← ho1] at F4
    have F4 := F4.tr (KR.seth (x := nI h))
    rw [es4, List.append_nil] at F4
    have q4 : KQ s4 h (tM tl k2 a2 true h (tM tl k1 a1 false h m)) (tZ k2 v2 a2 n σ (tZ k1 v1 a1 n σ z)) := by
      rw [← es4]
      exact (f2.fill).seth (by omega)
    have so4 : ks_so s4 = ks_so s3 := by rw [← es4, show ks_so (kSetH (nI h) (kFill cap base (nI (ks_us s1)) s3)) = ks_so (kFill cap base (nI (ks_us s1)) s3) from rfl, kF_so]
    have kFl : ks_ae (kFill cap base (nI (ks_us s1)) s3) = ks_ae s3 ∧ ks_ar (kFill cap base (nI (ks_us s1)) s3) = ks_ar s3 := ⟨congrArg (·.2.2.2.2.1) kF_rs, congrArg (·.2.2.2.2.2.1) kF_rs⟩
    have ae4 : ks_ae s4 D = b32 true := by rw [← es4, show ks_ae (kSetH (nI h) (kFill cap base (nI (ks_us s1)) s3)) = ks_ae (kFill cap base (nI (ks_us s1)) s3) from rfl, kFl.1]; exact ae3
    have ar4 : ks_ar s4 D = nI n := by rw [← es4, show ks_ar (kSetH (nI h) (kFill cap base (nI (ks_us s1)) s3)) = ks_ar (kFill cap base (nI (ks_us s1)) s3) from rfl, kFl.2]; exact ar3
    have u4 : ks_us s4 = ks_us s3 := by rw [← es4, show ks_us (kSetH (nI h) (kFill cap base (nI (ks_us s1)) s3)) = ks_us (kFill cap base (nI (ks_us s1)) s3) from rfl, kF_us]
    have K3 := kid_ok T3 (pk := 13) (i := 2) (e' := true) (n' := n) ae4 ar4 q4 (fun w hw => by rw [so4]; exact hS3 w hw) x5 (by omega) l2.symm rfl (by omega) (by omega) (by omega)
    obtain ⟨s5, es5⟩ : ∃ s5, kLv cap base (D + 1) tl own par k3 v3 (kv cap base tl own par a3 (D + 1) k3 v3 0 (kEn1 (D + 1) 13 2 k3 v3 s4)) = s5 := ⟨_, rfl⟩
    rw [es5] at K3 ⊢
    obtain ⟨d1, d2, d3, d4, d5⟩ := K3
    have ae5 : ks_ae s5 D = b32 true := (d1.2.2.2 D (by omega)).1.trans ae4
    have el : kLv cap base D tl own par 13 v s5 = s5 := by
      unfold kLv
      rw [if_neg (by decide), if_pos (by decide), if_neg (by rw [ae5]; decide)]
    rw [el]
    refine ⟨?_, d2, by omega, (fun c => by cases c), soA s4 s5 so4 d5⟩
    rw [if_ext]
    simp only [List.append_nil, Nat.add_zero]
    have := F4.tr (d1.mo (Nat.le_succ D))
    rw [show ks_us s - base + (eXn tl own k1 v1 a1 false + 1) + eXn tl own k2 v2 a2 true = ks_us s3 - base by omega, show ks_us s - base + (eXn tl own k1 v1 a1 false + 1) = ks_us s2 - base by omega]
    rw [u4] at this
    simpa using this
  | false =>
    rw [show (eS 13 1 false 0 0).length = 1 from rfl] at hc
    obtain ⟨sy, esy⟩ : ∃ sy, kSetHo D (nI (ks_us s3)) (kEmit cap 15 0 s3) = sy := ⟨_, rfl⟩
    obtain ⟨s4, es4⟩ : ∃ s4, kSetH (nI h) (kFill cap base (nI (ks_us s1)) sy) = s4 := ⟨_, rfl⟩
    have b1 : kBk cap base D 13 v 1 s3 = s4 := by
      rw [← es4, ← esy]
      unfold kBk
      rw [if_neg (by decide), if_neg (by decide), if_neg (by decide), if_pos (by decide), if_pos (by rw [ae3]; rfl), be3, ho3]
    rw [b1]
    have ry : KR D s3 sy [(15, 0)] := by
      rw [← esy]
      exact (KR.emit (by omega)).tr KR.setho
    have uy : ks_us sy = ks_us s3 + 1 := by rw [ry.1]; rfl
    have r0y := r03.tr ry
    rw [List.append_assoc] at r0y
    have F4 := KR.fill (k := 14) (x := 0) (a := eX tl own k1 v1 a1 false n σ (ks_us s - base)) (b := eX tl own k2 v2 a2 false n σ (ks_us s2 - base) ++ [(15, 0)]) (cap := cap) (base := base) (s1 := sy) (by simpa using r0y) (by rw [L1]; omega) hcap hb
    rw [← ho1] at F4
    have F4 := F4.tr (KR.seth (x := nI h))
    rw [es4, List.append_nil] at F4
    have my : KM sy (tM tl k2 a2 false h (tM tl k1 a1 false h m)) (tZ k2 v2 a2 n σ (tZ k1 v1 a1 n σ z)) := by
      rw [← esy]
      exact f2.emit
    have q4 : KQ s4 h (tM tl k2 a2 false h (tM tl k1 a1 false h m)) (tZ k2 v2 a2 n σ (tZ k1 v1 a1 n σ z)) := by
      rw [← es4]
      exact (my.fill).seth (by omega)
    have kFl : ks_ae (kFill cap base (nI (ks_us s1)) sy) = ks_ae sy ∧ ks_ar (kFill cap base (nI (ks_us s1)) sy) = ks_ar sy ∧ ks_ho (kFill cap base (nI (ks_us s1)) sy) = ks_ho sy := ⟨congrArg (·.2.2.2.2.1) kF_rs, congrArg (·.2.2.2.2.2.1) kF_rs, congrArg (·.2.2.2.2.2.2.1) kF_rs⟩
    have kE_ar3 : ks_ar (kEmit cap 15 0 s3) = ks_ar s3 := congrArg (·.2.2.2.2.1) kE_ae
    have so4 : ks_so s4 = ks_so s3 := by rw [← es4, show ks_so (kSetH (nI h) (kFill cap base (nI (ks_us s1)) sy)) = ks_so (kFill cap base (nI (ks_us s1)) sy) from rfl, kF_so, ← esy, show ks_so (kSetHo D (nI (ks_us s3)) (kEmit cap 15 0 s3)) = ks_so (kEmit cap 15 0 s3) from rfl, kE_so]
    have ae4 : ks_ae s4 D = b32 false := by rw [← es4, show ks_ae (kSetH (nI h) (kFill cap base (nI (ks_us s1)) sy)) = ks_ae (kFill cap base (nI (ks_us s1)) sy) from rfl, kFl.1, ← esy, show ks_ae (kSetHo D (nI (ks_us s3)) (kEmit cap 15 0 s3)) = ks_ae (kEmit cap 15 0 s3) from rfl, kE_at]; exact ae3
    have ar4 : ks_ar s4 D = nI n := by rw [← es4, show ks_ar (kSetH (nI h) (kFill cap base (nI (ks_us s1)) sy)) = ks_ar (kFill cap base (nI (ks_us s1)) sy) from rfl, kFl.2.1, ← esy, show ks_ar (kSetHo D (nI (ks_us s3)) (kEmit cap 15 0 s3)) = ks_ar (kEmit cap 15 0 s3) from rfl, kE_ar3]; exact ar3
    have ho4 : ks_ho s4 D = nI (ks_us s3) := by rw [← es4, show ks_ho (kSetH (nI h) (kFill cap base (nI (ks_us s1)) sy)) = ks_ho (kFill cap base (nI (ks_us s1)) sy) from rfl, kFl.2.2, ← esy, show ks_ho (kSetHo D (nI (ks_us s3)) (kEmit cap 15 0 s3)) = va_up (ks_ho (kEmit cap 15 0 s3)) D (nI (ks_us s3)) from rfl, va_up_self]
    have u4 : ks_us s4 = ks_us sy := by rw [← es4, show ks_us (kSetH (nI h) (kFill cap base (nI (ks_us s1)) sy)) = ks_us (kFill cap base (nI (ks_us s1)) sy) from rfl, kF_us]
    have K3 := kid_ok T3 (pk := 13) (i := 2) (e' := false) (n' := n) ae4 ar4 q4 (fun w hw => by rw [so4]; exact hS3 w hw) x5 (by omega) l2.symm rfl (by omega) (by omega) (by omega)
    obtain ⟨s5, es5⟩ : ∃ s5, kLv cap base (D + 1) tl own par k3 v3 (kv cap base tl own par a3 (D + 1) k3 v3 0 (kEn1 (D + 1) 13 2 k3 v3 s4)) = s5 := ⟨_, rfl⟩
    rw [es5] at K3 ⊢
    obtain ⟨d1, d2, d3, d4, d5⟩ := K3
    have lv5 := d1.2.2.2 D (by omega)
    have ae5 : ks_ae s5 D = b32 false := lv5.1.trans ae4
    have ho5 : ks_ho s5 D = nI (ks_us s3) := lv5.2.2.1.trans ho4
    have L3 : (eX tl own k3 v3 a3 false n σ (ks_us s4 - base)).length = eXn tl own k3 v3 a3 false := eX_len
    have u5 : ks_us s5 = ks_us s4 + eXn tl own k3 v3 a3 false := by rw [d1.1, L3]
    have el : kLv cap base D tl own par 13 v s5 = kFill cap base (nI (ks_us s3)) s5 := by
      unfold kLv
      rw [if_neg (by decide), if_pos (by decide), if_pos (by rw [ae5]; rfl), ho5]
    rw [el]
    have r05 := F4.tr (d1.mo (Nat.le_succ D))
    have F5 := KR.fill (k := 15) (x := 0) (a := eX tl own k1 v1 a1 false n σ (ks_us s - base) ++ (14, nI (ks_us sy - base)) :: eX tl own k2 v2 a2 false n σ (ks_us s2 - base)) (b := eX tl own k3 v3 a3 false n σ (ks_us s4 - base)) (cap := cap) (base := base) (s1 := s5) (s := s) (D := D) (by simpa using r05) (by rw [List.length_append, List.length_cons, L1, L2]; omega) hcap hb
    rw [List.length_append, List.length_cons, L1, L2, show ks_us s + (eXn tl own k1 v1 a1 false + (eXn tl own k2 v2 a2 false + 1)) = ks_us s3 by omega] at F5
    refine ⟨?_, d2.fill, by omega, (fun c => by
      rw [kF_h]
      exact d4 rfl), soA s4 _ so4 (fun j hj hB => by rw [kF_so]; exact d5 j hj hB)⟩
    rw [if_exf]
    simp only [List.append_nil, Nat.add_zero]
    rw [show ks_us s - base + (eXn tl own k1 v1 a1 false + 1) + (eXn tl own k2 v2 a2 false + 1) + eXn tl own k3 v3 a3 false = ks_us s5 - base by omega, show ks_us s - base + (eXn tl own k1 v1 a1 false + 1) + (eXn tl own k2 v2 a2 false + 1) = ks_us sy - base by omega, show ks_us s - base + (eXn tl own k1 v1 a1 false + 1) = ks_us s2 - base by omega]
    rw [u4] at F5
    simpa using F5
theorem nb_all (hcap : cap < 2 ^ 30) : ∀ F : Fo, KTs cap base tl own par N F
  | .leaf => trivial
  | .inner _ k v a b => by
    refine ⟨?_, nb_all hcap b⟩
    have T := nb_all hcap a
    by_cases h : gK k
    · exact nb_gen h T
    · rcases Classical.not_not.mp h with rfl | rfl | rfl
      · exact nb_seq T
      · exact nb_let T
      · exact nb_if hcap T
end KF2
