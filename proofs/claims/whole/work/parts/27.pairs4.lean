/-! PAIRS: order, calls -/
theorem in_has {k : Int32} {n : Nat} (hn : n < 2 ^ 31) : ((0 : Int64) ≤ k.toInt64 ∧ k.toInt64 ≤ (nI n - 1).toInt64) ↔ ¬ (k < 0 ∨ nI n ≤ k) := by
  have e : (nI n - 1).toInt = (n : Int) - 1 := by
    cases n with
    | zero => decide
    | succ m => rw [nI_pred, nI_toInt (by omega)]; omega
  have h0 : (0 : Int32).toInt = 0 := by decide
  have h00 : (0 : Int64).toInt = 0 := by decide
  rw [Int64.le_iff_toInt_le, Int64.le_iff_toInt_le, Int32.toInt_toInt64, Int32.toInt_toInt64, e, h00, Int32.lt_iff_toInt_lt, Int32.le_iff_toInt_le, nI_toInt hn, h0]
  omega
theorem has_of {k : Int32} {n : Nat} (hn : n < 2 ^ 31) (h : ¬ (k < 0 ∨ nI n ≤ k)) : ∃ j, j < n ∧ k = nI j := by
  obtain ⟨j, hj, e⟩ := nI_of (fun q => h (Or.inl q))
  exact ⟨j, Nat.lt_of_not_le (fun q => h (Or.inr (by rw [e]; exact nI_le q hj))), e⟩
theorem in_lit {k : Int32} {m : Nat} (hm : m < 2 ^ 31) : ((0 : Int64) ≤ k.toInt64 ∧ k.toInt64 ≤ Int64.ofNat m) ↔ ¬ (k < 0 ∨ nI m < k) := by
  have h0 : (0 : Int32).toInt = 0 := by decide
  have h00 : (0 : Int64).toInt = 0 := by decide
  rw [Int64.le_iff_toInt_le, Int64.le_iff_toInt_le, Int32.toInt_toInt64, Int64.toInt_ofNat_of_lt (by omega), h00, Int32.lt_iff_toInt_lt, Int32.lt_iff_toInt_lt, nI_toInt hm, h0]
  omega
section P4
variable {cx : gCx} {d : Nat} {ad : Nat → Nat}
theorem p_order {Rest : gSt → Prop} (hr : ∀ t u, g_ag ad t u → Rest t → Rest u) (hx : ∀ t, Rest t → gRest ad t) (k : Int32) : g_pair cx (d + 3) (g_Inv ad Rest) (ad c_Tr) (ad c_Mo) i_Tr_order i_Mo_order [.int k] := by
  intro t hI post hp
  have hL := hI.1
  obtain ⟨p, p2, A, B, dir, com, ord, h1, h2, h3, h4, h5, h6, h7, h8, h9, h10, h11, h12, h13⟩ := hx _ hI.2.2
  have hP : isP p := by rcases h1 with ⟨rfl, -⟩ | ⟨rfl, -⟩ <;> simp [isP]
  have hn : A.length < 2 ^ 31 := by omega
  rw [mR_e rfl] at h2
  have hc : t.2.1 (ad p) 15 = nI A.length := by rw [← h6.1]; exact (mI_p hP 0).symm
  have hc2 : t.2.1 (ad c_Mo) 11 = nI A.length := by rw [← h8.1]; exact (mI_e rfl).symm
  refine x_Tr_order hP hL h2 ?_
  refine m_Program_has (hL.pk hP 0 (by decide)) ?_
  rw [hc]
  have hmo : ∀ (r : Int32), (¬ (k < 0 ∨ nI A.length ≤ k) → ∃ j, j < A.length ∧ k = nI j ∧ r = nI (ord j)) → ((k < 0 ∨ nI A.length ≤ k) → r = -1) → post (some (.int r)) t := by
    intro r ha hb
    refine hp r t (hL.k c_Mo (by decide)) (fun post2 h2 => ?_)
    refine x_Mo_order hL (fun t1 e1 => ?_)
    subst e1
    refine m_Mo_in ?_
    rw [g_rd_k (by decide), hc2]
    by_cases c : k < 0 ∨ nI A.length ≤ k
    · rw [if_neg (fun q => (in_has hn).mp q c)]
      refine ⟨_, rfl, hL.si, fun _ => ?_, fun q => absurd rfl q⟩
      rw [← hb c]
      exact h2 _ (hI.code hr)
    · rw [if_pos ((in_has hn).mpr c)]
      refine ⟨_, rfl, hL.si, fun q => absurd q (by decide), fun _ => ?_⟩
      obtain ⟨j, hj, e, er⟩ := ha c
      subst e
      refine ⟨vp_in_nI (by omega) (by omega), ?_⟩
      have e2 : (g_si t (ad 144) 0 0).2.1 (ad 173) (nI j).toNatClampNeg = r := by
        rw [g_rd_ne (hL.ne 173 144 (by decide) (by decide) (by decide)), nI_clamp (by omega), er, ← (h9.2 j hj).2]
        exact (mI_e rfl).symm
      rw [e2]
      exact h2 _ (hI.code hr)
  by_cases c : k < 0 ∨ nI A.length ≤ k
  · rw [if_pos c]
    exact ⟨_, rfl, hL, fun _ => hmo (-1) (fun q => absurd c q) (fun _ => rfl), fun q => absurd rfl q⟩
  · rw [if_neg c]
    obtain ⟨j, hj, e⟩ := has_of hn c
    refine ⟨_, rfl, hL, fun q => absurd q (by decide), fun _ => ⟨by rw [e]; exact vp_in_nI (by omega) (by omega), ?_⟩⟩
    refine hmo _ (fun _ => ⟨j, hj, e, ?_⟩) (fun q => absurd q c)
    rw [e, nI_clamp (by omega), ← (h9.2 j hj).1]
    exact (mI_e rfl).symm
end P4
