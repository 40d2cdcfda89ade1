def g_simT (t : gSt) (ad : Nat → Nat) : Prop := ∃ n, n ≤ 3000 ∧ t.2.1 (ad c_Tr) f_Tr_textLength = nI n ∧ t.2.1 (ad c_Mo) f_Mo_textSize = nI n ∧ ∀ j, j < n → t.2.1 (ad c_Tr_text) j = t.2.1 (ad c_Mo_text) j ∧ (t.2.1 (ad c_Mo_text) j).toInt8.toInt32 = t.2.1 (ad c_Mo_text) j
/-- text, budget and arguments anew, the rest as it was -/
theorem g_sim.ag {t w : gSt} {ad : Nat → Nat} (hL : Lay t ad) (hag : g_ag ad t w) (h : g_sim t ad) (h1 : g_simT w ad) (h3 : w.2.1 (ad c_Tr) f_Tr_inlineBudget = w.2.1 (ad c_Mo) f_Mo_budget) (h4 : ∀ j, j < 6 → w.2.1 (ad c_Tr_arguments) j = w.2.1 (ad c_Mo_arguments) j) : g_sim w ad := by
  have k0 : ∀ i j, i < 199 → i ∉ [c_Tr, c_Mo, c_Tr_text, c_Mo_text, c_Tr_arguments, c_Mo_arguments] → w.2.1 (ad i) j = t.2.1 (ad i) j := by
    intro i j hi hm
    simp only [List.mem_cons, List.not_mem_nil, or_false, not_or] at hm
    obtain ⟨m1, m2, m3, m4, m5, m6⟩ := hm
    exact hag.2.2 _ _ (hL.ne _ _ hi (by decide) m3) (hL.ne _ _ hi (by decide) m4) (hL.ne _ _ hi (by decide) m5) (hL.ne _ _ hi (by decide) m6) (fun q => hL.ne _ _ hi (by decide) m1 q.1) (fun q => hL.ne _ _ hi (by decide) m2 q.1)
  have kT : ∀ j, j ≠ f_Tr_textLength → j ≠ f_Tr_inlineBudget → w.2.1 (ad c_Tr) j = t.2.1 (ad c_Tr) j := fun j e1 e2 => hag.2.2 _ _ (hL.ne _ _ (by decide) (by decide) (by decide)) (hL.ne _ _ (by decide) (by decide) (by decide)) (hL.ne _ _ (by decide) (by decide) (by decide)) (hL.ne _ _ (by decide) (by decide) (by decide)) (fun q => q.2.elim e1 e2) (fun q => hL.ne c_Tr c_Mo (by decide) (by decide) (by decide) q.1)
  have kM : ∀ j, j ≠ f_Mo_code → j ≠ f_Mo_textSize → j ≠ f_Mo_budget → w.2.1 (ad c_Mo) j = t.2.1 (ad c_Mo) j := fun j e1 e2 e3 => hag.2.2 _ _ (hL.ne _ _ (by decide) (by decide) (by decide)) (hL.ne _ _ (by decide) (by decide) (by decide)) (hL.ne _ _ (by decide) (by decide) (by decide)) (hL.ne _ _ (by decide) (by decide) (by decide)) (fun q => hL.ne c_Mo c_Tr (by decide) (by decide) (by decide) q.1) (fun q => q.2.elim e1 (fun z => z.elim e2 e3))
  obtain ⟨-, b, -, -, ⟨f1, n2, g1, g2, g3, g4⟩, ⟨n3, v, w1, w2, w3, w4, w5, w6⟩⟩ := h
  have hv : v < 199 ∧ v ∉ [c_Tr, c_Mo, c_Tr_text, c_Mo_text, c_Tr_arguments, c_Mo_arguments] := by rcases w2 with rfl | rfl <;> decide
  refine ⟨h1, ?_, h3, h4, ⟨⟨?_, ?_, ?_⟩, n2, g1, ?_, ?_, fun j hj => ?_⟩, ⟨n3, v, w1, w2, by rw [hag.2.1]; exact w3, ?_, ?_, fun j hj => ?_⟩⟩
  · rw [kT _ (by decide) (by decide), kM _ (by decide) (by decide) (by decide)]; exact b
  · rw [k0 c_Machine _ (by decide) (by decide), kM _ (by decide) (by decide) (by decide)]; exact f1.1
  · rw [k0 c_Machine _ (by decide) (by decide), kM _ (by decide) (by decide) (by decide)]; exact f1.2.1
  · rw [k0 c_Machine _ (by decide) (by decide), kM _ (by decide) (by decide) (by decide)]; exact f1.2.2
  · rw [k0 c_Machine _ (by decide) (by decide)]; exact g2
  · rw [kM _ (by decide) (by decide) (by decide)]; exact g3
  · rw [k0 c_Machine_puts _ (by decide) (by decide), k0 c_Mo_putRow _ (by decide) (by decide)]; exact g4 j hj
  · rw [k0 c_Writer _ (by decide) (by decide)]; exact w4
  · rw [kM _ (by decide) (by decide) (by decide)]; exact w5
  · rw [k0 v _ hv.1 hv.2, k0 c_Mo_out _ (by decide) (by decide)]; exact w6 j hj
theorem p_budget {cx : gCx} {d : Nat} {ad : Nat → Nat} {Rest : gSt → Prop} (hr : ∀ t u, g_ag ad t u → Rest t → Rest u) (b : Int32) : g_pair cx (d + 2) (g_Inv ad Rest) (ad c_Tr) (ad c_Mo) i_Tr_budget i_Mo_budget [.int b] := by
  intro t hI post hp
  have hL := hI.1
  have hs := hI.2.1
  refine m_Tr_budget (hL.k c_Tr (by decide)) (fun c => hp _ t (hL.k c_Mo (by decide)) (fun post2 h2 => ?_)) (fun c => hp _ _ (hL.k c_Mo (by decide)) (fun post2 h2 => ?_))
  · exact m_Mo_budget (hL.k c_Mo (by decide)) (fun _ => h2 _ (hI.code hr)) (fun z => absurd c z)
  · refine m_Mo_budget (hL.k c_Mo (by decide)) (fun z => absurd z c) (fun _ => ?_)
    have n1 : ad c_Tr ≠ ad c_Mo := hL.ne _ _ (by decide) (by decide) (by decide)
    have e : ∀ i, i < 199 → i ≠ c_Tr → i ≠ c_Mo → ∀ j, (g_si (g_si (g_si t (ad c_Tr) f_Tr_inlineBudget b) (ad c_Mo) f_Mo_code 0) (ad c_Mo) f_Mo_budget b).2.1 (ad i) j = t.2.1 (ad i) j := fun i h1 h2 h3 j => by rw [g_rd_ne (hL.nm i h1 h3), g_rd_ne (hL.nm i h1 h3), g_rd_ne (hL.ne _ _ h1 (by decide) h2)]
    have hag : g_ag ad t (g_si (g_si (g_si t (ad c_Tr) f_Tr_inlineBudget b) (ad c_Mo) f_Mo_code 0) (ad c_Mo) f_Mo_budget b) := ((g_ag.si (Or.inr (Or.inl ⟨rfl, Or.inr rfl⟩))).tr (g_ag.si (Or.inr (Or.inr ⟨rfl, Or.inl rfl⟩)))).tr (g_ag.si (Or.inr (Or.inr ⟨rfl, Or.inr (Or.inr rfl)⟩)))
    have h2 := h2 _ ⟨hL.ag hag, hs.ag hL hag ?_ ?_ ?_, hr _ _ hag hI.2.2⟩
    · rw [g_rd_ne n1.symm, ← hs.2.2.1]
      exact h2
    · obtain ⟨n, a1, a2, a3, a4⟩ := hs.1
      exact ⟨n, a1, by rw [g_rd_ne n1, g_rd_ne n1, g_rd_k (by decide)]; exact a2, by rw [g_rd_k (by decide), g_rd_k (by decide), g_rd_ne n1.symm]; exact a3, fun j hj => by rw [e c_Tr_text (by decide) (by decide) (by decide), e c_Mo_text (by decide) (by decide) (by decide)]; exact a4 j hj⟩
    · rw [g_rd_ne n1, g_rd_ne n1, g_rd_at, g_rd_at]
    · intro j hj
      rw [e c_Tr_arguments (by decide) (by decide) (by decide), e c_Mo_arguments (by decide) (by decide) (by decide)]
      exact hs.2.2.2.1 j hj
