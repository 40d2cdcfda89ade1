theorem p_argument {cx : gCx} {d : Nat} {ad : Nat → Nat} {Rest : gSt → Prop} (hr : ∀ t u, g_ag ad t u → Rest t → Rest u) (i v : Int32) : g_pair cx (d + 2) (g_Inv ad Rest) (ad c_Tr) (ad c_Mo) i_Tr_argument i_Mo_argument [.int i, .int v] := by
  intro t hI post hp
  have hL := hI.1
  have hs := hI.2.1
  refine m_Tr_argument (hL.k c_Tr (by decide)) (hL.r c_Tr f_Tr_arguments c_Tr_arguments (by decide)) (hL.k c_Tr_arguments (by decide)) (hL.l c_Tr_arguments (by decide)) (fun c => hp _ t (hL.k c_Mo (by decide)) (fun post2 h2 => ?_)) (fun c => hp _ _ (hL.k c_Mo (by decide)) (fun post2 h2 => ?_))
  · exact m_Mo_argument (hL.nm c_Mo_arguments (by decide) (by decide)) (hL.k c_Mo (by decide)) (hL.r c_Mo f_Mo_arguments c_Mo_arguments (by decide)) (hL.k c_Mo_arguments (by decide)) (hL.l c_Mo_arguments (by decide)) (fun _ => h2 _ (hI.code hr)) (fun z => absurd c z)
  · refine m_Mo_argument (hL.nm c_Mo_arguments (by decide) (by decide)) (hL.k c_Mo (by decide)) (hL.r c_Mo f_Mo_arguments c_Mo_arguments (by decide)) (hL.k c_Mo_arguments (by decide)) (hL.l c_Mo_arguments (by decide)) (fun z => absurd z c) (fun _ => ?_)
    have n1 : ad c_Tr ≠ ad c_Tr_arguments := hL.ne _ _ (by decide) (by decide) (by decide)
    have n2 : ad c_Tr ≠ ad c_Mo := hL.ne _ _ (by decide) (by decide) (by decide)
    have n3 : ad c_Tr ≠ ad c_Mo_arguments := hL.ne _ _ (by decide) (by decide) (by decide)
    have n4 : ad c_Mo ≠ ad c_Tr_arguments := hL.ne _ _ (by decide) (by decide) (by decide)
    have n5 : ad c_Mo ≠ ad c_Mo_arguments := hL.ne _ _ (by decide) (by decide) (by decide)
    have n6 : ad c_Mo_arguments ≠ ad c_Tr_arguments := hL.ne _ _ (by decide) (by decide) (by decide)
    have hi : i.toNatClampNeg < 6 := by
      obtain ⟨j, hj, e⟩ := nI_of (fun q => c (Or.inl q))
      rw [e, nI_clamp hj]
      exact Nat.lt_of_not_le (fun q => c (Or.inr (by rw [e]; exact nI_le (a := 6) q hj)))
    have e : ∀ q, q < 199 → q ≠ c_Tr_arguments → q ≠ c_Mo → q ≠ c_Mo_arguments → ∀ j, (g_si (g_si (g_si t (ad c_Tr_arguments) i.toNatClampNeg v) (ad c_Mo) f_Mo_code 0) (ad c_Mo_arguments) i.toNatClampNeg v).2.1 (ad q) j = t.2.1 (ad q) j := fun q h1 h2 h3 h4 j => by rw [g_rd_ne (hL.ne _ _ h1 (by decide) h4), g_rd_ne (hL.nm q h1 h3), g_rd_ne (hL.ne _ _ h1 (by decide) h2)]
    have hag : g_ag ad t (g_si (g_si (g_si t (ad c_Tr_arguments) i.toNatClampNeg v) (ad c_Mo) f_Mo_code 0) (ad c_Mo_arguments) i.toNatClampNeg v) := ((g_ag.si (Or.inl (Or.inr (Or.inr (Or.inl rfl))))).tr (g_ag.si (Or.inr (Or.inr ⟨rfl, Or.inl rfl⟩)))).tr (g_ag.si (Or.inl (Or.inr (Or.inr (Or.inr rfl)))))
    have h2 := h2 _ ⟨hL.ag hag, hs.ag hL hag ?_ ?_ ?_, hr _ _ hag hI.2.2⟩
    · rw [g_rd_ne n6, ← hs.2.2.2.1 _ hi]
      exact h2
    · obtain ⟨n, a1, a2, a3, a4⟩ := hs.1
      exact ⟨n, a1, by rw [e c_Tr (by decide) (by decide) (by decide) (by decide)]; exact a2, by rw [g_rd_ne n5, g_rd_k (by decide), g_rd_ne n4]; exact a3, fun j hj => by rw [e c_Tr_text (by decide) (by decide) (by decide) (by decide), e c_Mo_text (by decide) (by decide) (by decide) (by decide)]; exact a4 j hj⟩
    · rw [e c_Tr (by decide) (by decide) (by decide) (by decide), g_rd_ne n5, g_rd_k (by decide), g_rd_ne n4]
      exact hs.2.2.1
    · intro j hj
      rw [g_rd_ne n6.symm, g_rd_ne n4.symm]
      by_cases q : j = i.toNatClampNeg
      · subst q
        rw [g_rd_at, g_rd_at]
      · rw [g_rd_k q, g_rd_k q, g_rd_ne n5.symm, g_rd_ne n6]
        exact hs.2.2.2.1 j hj
theorem g_fb_b (v : Int64) (i : Int32) : (g_fb v i).toInt8.toInt32 = g_fb v i := by
  unfold g_fb
  show ((((v >>> ((8 * i).toInt64 &&& 63)).toInt32.toInt8.toInt32).toInt8.toInt32).toInt8.toInt32 : Int32) = _
  rw [Int8.toInt8_toInt32, Int8.toInt8_toInt32]
  exact (congrArg Int8.toInt32 (Int8.toInt8_toInt32 _)).symm
theorem p_feed {cx : gCx} {d : Nat} {ad : Nat → Nat} {Rest : gSt → Prop} (hr : ∀ t u, g_ag ad t u → Rest t → Rest u) (v : Int64) (n : Int32) : g_pair cx (d + 2) (g_Inv ad Rest) (ad c_Tr) (ad c_Mo) i_Tr_feed i_Mo_feed [.long v, .int n] := by
  intro t hI post hp
  have hL := hI.1
  have hs := hI.2.1
  obtain ⟨len, a1, a2, a3, a4⟩ := hs.1
  have n1 : ad c_Tr ≠ ad c_Mo := hL.ne _ _ (by decide) (by decide) (by decide)
  have n2 : ad c_Tr ≠ ad c_Tr_text := hL.ne _ _ (by decide) (by decide) (by decide)
  have n3 : ad c_Tr ≠ ad c_Mo_text := hL.ne _ _ (by decide) (by decide) (by decide)
  have n4 : ad c_Mo ≠ ad c_Tr_text := hL.ne _ _ (by decide) (by decide) (by decide)
  have n5 : ad c_Mo ≠ ad c_Mo_text := hL.ne _ _ (by decide) (by decide) (by decide)
  have n6 : ad c_Tr_text ≠ ad c_Mo_text := hL.ne _ _ (by decide) (by decide) (by decide)
  refine m_Tr_feed (hL.k c_Tr (by decide)) (hL.r c_Tr f_Tr_text c_Tr_text (by decide)) (hL.k c_Tr_text (by decide)) (hL.l c_Tr_text (by decide)) a2 a1 n2 (fun u hu => ?_)
  obtain ⟨u1, u2, u3⟩ := hu
  have hLu := hL.fr u1
  have eM : u.2.1 (ad c_Mo) = t.2.1 (ad c_Mo) := u1.2.2 _ (by simp [n1.symm, n4])
  have eX : u.2.1 (ad c_Mo_text) = t.2.1 (ad c_Mo_text) := u1.2.2 _ (by simp [n3.symm, n6.symm])
  refine hp _ u (hLu.k c_Mo (by decide)) (fun post2 h2 => ?_)
  refine m_Mo_feed (hLu.k c_Mo (by decide)) (hLu.r c_Mo f_Mo_text c_Mo_text (by decide)) (hLu.k c_Mo_text (by decide)) (hLu.l c_Mo_text (by decide)) (by rw [eM]; exact a3) a1 n5 (fun w hw => h2 w ?_)
  obtain ⟨w1, w2, w3⟩ := hw
  have agu : g_ag ad t u := ⟨u1.1, u1.2.1, fun a k c1 c2 c3 c4 c5 c6 => by
    by_cases q : a = ad c_Tr
    · rw [q]
      exact u2 k (fun z => c5 ⟨q, Or.inl z⟩)
    · rw [u1.2.2 a (by simp [q, c1])]⟩
  have agc : g_ag ad u (g_si u (ad c_Mo) f_Mo_code 0) := g_ag.si (Or.inr (Or.inr ⟨rfl, Or.inl rfl⟩))
  have agw : g_ag ad (g_si u (ad c_Mo) f_Mo_code 0) w := ⟨w1.1, w1.2.1, fun a k c1 c2 c3 c4 c5 c6 => by
    by_cases q : a = ad c_Mo
    · rw [q]
      exact w2 k (fun z => c6 ⟨q, Or.inr (Or.inl z)⟩)
    · rw [w1.2.2 a (by simp [q, c2])]⟩
  have hag := (agu.tr agc).tr agw
  -- what w holds of the class's side is what u holds
  have fT : w.2.1 (ad c_Tr) = u.2.1 (ad c_Tr) := (w1.2.2 _ (by simp [n1, n3])).trans (g_si_ne n1)
  have fX : w.2.1 (ad c_Tr_text) = u.2.1 (ad c_Tr_text) := (w1.2.2 _ (by simp [n4.symm, n6])).trans (g_si_ne n4.symm)
  have fA : w.2.1 (ad c_Tr_arguments) = t.2.1 (ad c_Tr_arguments) := by
    rw [w1.2.2 _ (by simp [hL.ne c_Tr_arguments c_Mo (by decide) (by decide) (by decide), hL.ne c_Tr_arguments c_Mo_text (by decide) (by decide) (by decide)]), g_si_ne (hL.ne c_Tr_arguments c_Mo (by decide) (by decide) (by decide)), u1.2.2 _ (by simp [hL.ne c_Tr_arguments c_Tr (by decide) (by decide) (by decide), hL.ne c_Tr_arguments c_Tr_text (by decide) (by decide) (by decide)])]
  have fB : w.2.1 (ad c_Mo_arguments) = t.2.1 (ad c_Mo_arguments) := by
    rw [w1.2.2 _ (by simp [hL.ne c_Mo_arguments c_Mo (by decide) (by decide) (by decide), hL.ne c_Mo_arguments c_Mo_text (by decide) (by decide) (by decide)]), g_si_ne (hL.ne c_Mo_arguments c_Mo (by decide) (by decide) (by decide)), u1.2.2 _ (by simp [hL.ne c_Mo_arguments c_Tr (by decide) (by decide) (by decide), hL.ne c_Mo_arguments c_Tr_text (by decide) (by decide) (by decide)])]
  have fC : (g_si u (ad c_Mo) f_Mo_code 0).2.1 (ad c_Mo_text) = t.2.1 (ad c_Mo_text) := (g_si_ne n5.symm).trans eX
  refine ⟨hL.ag hag, hs.ag hL hag ?_ ?_ ?_, hr _ _ hag hI.2.2⟩
  · by_cases c1 : n < 0 ∨ 8 < n
    · rw [if_pos c1] at u3 w3
      subst u3
      refine ⟨len, a1, by rw [fT]; exact a2, by rw [w3, g_rd_k (by decide)]; exact a3, fun j hj => by rw [fX, w3, g_rd_ne n5.symm]; exact a4 j hj⟩
    · rw [if_neg c1] at u3 w3
      by_cases c2 : n = 0
      · rw [if_pos c2] at u3 w3
        exact ⟨0, by omega, by rw [fT, u3.1]; rfl, by rw [w3.1]; rfl, fun j hj => absurd hj (by omega)⟩
      · rw [if_neg c2] at u3 w3
        by_cases c3 : 3000 < nI len + n
        · rw [if_pos c3] at u3 w3
          subst u3
          refine ⟨len, a1, by rw [fT]; exact a2, by rw [w3, g_rd_k (by decide)]; exact a3, fun j hj => by rw [fX, w3, g_rd_ne n5.symm]; exact a4 j hj⟩
        · rw [if_neg c3] at u3 w3
          have d1 : ¬ n < 0 := fun z => c1 (Or.inl z)
          have d2 : n ≤ 8 := Int32.not_lt.mp (fun z => c1 (Or.inr z))
          obtain ⟨k, hk8, e⟩ := nI_of2 (M := 8) (n := 8) rfl d1 d2
          have hcl : n.toNatClampNeg = k := by rw [e]; exact nI_clamp (by omega)
          have h3 : len + k ≤ 3000 := by
            rw [e, nI_add] at c3
            exact (nI_leI (by omega) (by omega)).mp (show nI (len + k) ≤ nI 3000 from Int32.not_lt.mp c3)
          rw [hcl] at u3 w3
          refine ⟨len + k, h3, by rw [fT]; exact u3.1, w3.1, fun j hj => ?_⟩
          rw [fX, u3.2, w3.2, fC]
          unfold g_frow
          by_cases q : len ≤ j ∧ j < len + k
          · rw [if_pos q, if_pos q]
            exact ⟨rfl, g_fb_b _ _⟩
          · rw [if_neg q, if_neg q]
            exact a4 j (by omega)
  · rw [fT, u2 _ (by decide), w2 _ (by decide), g_rd_k (by decide), eM]
    exact hs.2.2.1
  · intro j hj
    rw [fA, fB]
    exact hs.2.2.2.1 j hj
