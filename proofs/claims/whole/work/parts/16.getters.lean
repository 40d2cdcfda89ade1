/-! SHORT PUBLIC METHODS, on their own cells -/
theorem g_b1 {p : Prop} [Decidable p] : ((if p then (1 : Int32) else 0) = 0) ↔ ¬ p := by
  by_cases h : p
  · simp [h]
  · simp [h]
theorem m_Tr_budget {cx : gCx} {d x : Nat} {b : Int32} {t : gSt} {post : Option Value → gSt → Prop} (hk : g_k t x k_Tr) (h1 : b < 0 ∨ 500 < b → post (some (.int (-2))) t) (h2 : ¬ (b < 0 ∨ 500 < b) → post (some (.int (t.2.1 x f_Tr_inlineBudget))) (g_si t x f_Tr_inlineBudget b)) : g_E cx (d + 1) i_Tr_budget [.ref x, .int b] t post := by
  refine g_call mt_Tr_budget rfl (by decide) (Nat.le_of_ble_eq_true rfl) ?_
  refine g_run [] 30 (fun P hP => And.intro (fun c1 => ?_) (fun c1 => And.intro (fun c2 => ?_) (fun c2 => ?_)))
  · exact And.intro rfl (And.intro rfl (h1 (Or.inl c1)))
  · have c1 : ¬ b < 0 := c1
    have c2 : b ≤ 500 := c2
    exact And.intro hk (And.intro hk (And.intro rfl (And.intro rfl (h2 (fun q => q.elim c1 (fun z => absurd (Int32.lt_of_lt_of_le z c2) Int32.lt_irrefl))))))
  · have c2 : ¬ b ≤ 500 := c2
    exact And.intro rfl (And.intro rfl (h1 (Or.inr (Int32.not_le.mp c2))))
theorem m_Mo_budget {cx : gCx} {d m : Nat} {b : Int32} {t : gSt} {post : Option Value → gSt → Prop} (hk : g_k t m k_Mo) (h1 : b < 0 ∨ 500 < b → post (some (.int (-2))) (g_si t m f_Mo_code 0)) (h2 : ¬ (b < 0 ∨ 500 < b) → post (some (.int (t.2.1 m f_Mo_budget))) (g_si (g_si t m f_Mo_code 0) m f_Mo_budget b)) : g_E cx (d + 2) i_Mo_budget [.ref m, .int b] t post := by
  refine g_call mt_Mo_budget rfl (by decide) (Nat.le_of_ble_eq_true rfl) ?_
  refine g_run [] 30 (fun P hP => And.intro hk (m_Mo_in ?_))
  refine And.intro (fun c => ?_) (fun c => ?_)
  · have c : ¬ (if (0 : Int64) ≤ b.toInt64 ∧ b.toInt64 ≤ 500 then (1 : Int32) else 0) = 0 := c
    rw [g_b1, Decidable.not_not] at c
    have c1 : ¬ b < 0 := Int32.not_lt.mpr ((g_le64 (a := 0)).mp c.1)
    have c2 : b ≤ 500 := (g_le64 (b := 500)).mp c.2
    have h2 := h2 (fun q => q.elim c1 (fun z => absurd (Int32.lt_of_lt_of_le z c2) Int32.lt_irrefl))
    refine And.intro hk (And.intro hk (And.intro rfl (And.intro rfl ?_)))
    rw [g_rd_k (by decide)]
    exact h2
  · have c : ¬ ¬ (if (0 : Int64) ≤ b.toInt64 ∧ b.toInt64 ≤ 500 then (1 : Int32) else 0) = 0 := c
    rw [g_b1, Decidable.not_not] at c
    refine And.intro rfl (And.intro rfl (h1 ?_))
    by_cases q : b < 0
    · exact Or.inl q
    · by_cases q2 : 500 < b
      · exact Or.inr q2
      · exact absurd ⟨(g_le64 (a := 0)).mpr (Int32.not_lt.mp q), (g_le64 (b := 500)).mpr (Int32.not_lt.mp q2)⟩ c
theorem m_Mo_place {cx : gCx} {d m : Nat} {t : gSt} {post : Option Value → gSt → Prop} (hk : g_k t m k_Mo) (h : post (some (.int (t.2.1 m f_Mo_place))) (g_si t m f_Mo_code 0)) : g_E cx (d + 1) i_Mo_place [.ref m] t post := by
  refine g_call mt_Mo_place rfl (by decide) (Nat.le_of_ble_eq_true rfl) ?_
  refine g_run [] 10 (fun P hP => And.intro hk (And.intro hk (And.intro rfl (And.intro rfl ?_))))
  rw [g_rd_k (by decide)]
  exact h
theorem m_Tr_argument {cx : gCx} {d x a : Nat} {i v : Int32} {t : gSt} {post : Option Value → gSt → Prop} (hk : g_k t x k_Tr) (hR : t.2.2.2 x f_Tr_arguments = some a) (hk2 : g_k t a 15) (hl : t.1.2.2 a = 6) (h1 : i < 0 ∨ 6 ≤ i → post (some (.int (-2))) t) (h2 : ¬ (i < 0 ∨ 6 ≤ i) → post (some (.int (t.2.1 a i.toNatClampNeg))) (g_si t a i.toNatClampNeg v)) : g_E cx (d + 1) i_Tr_argument [.ref x, .int i, .int v] t post := by
  refine g_call mt_Tr_argument rfl (by decide) (Nat.le_of_ble_eq_true rfl) ?_
  refine g_run [] 30 (fun P hP => And.intro (fun c1 => ?_) (fun c1 => And.intro (fun c2 => ?_) (fun c2 => ?_)))
  · exact And.intro rfl (And.intro rfl (h1 (Or.inl c1)))
  · have c1 : ¬ i < 0 := c1
    have c2 : i < 6 := c2
    have hin : vp_in i (t.1.2.2 a) := by
      obtain ⟨j, hj, e⟩ := nI_of c1
      rw [hl, e]
      rw [e] at c2
      exact vp_in_nI ((nI_ltI hj (by decide)).mp (show nI j < nI 6 from c2)) (by decide)
    refine And.intro hk (Or.inl ⟨a, hR, Or.inl (And.intro hk2 (And.intro hin ?_))⟩)
    refine And.intro hk (Or.inl ⟨a, hR, And.intro hk2 (And.intro hin ?_)⟩)
    exact And.intro rfl (And.intro rfl (h2 (fun q => q.elim c1 (fun z => absurd (Int32.lt_of_lt_of_le c2 z) Int32.lt_irrefl))))
  · have c2 : ¬ i < 6 := c2
    exact And.intro rfl (And.intro rfl (h1 (Or.inr (Int32.not_lt.mp c2))))
theorem m_Mo_argument {cx : gCx} {d m a : Nat} {i v : Int32} {t : gSt} {post : Option Value → gSt → Prop} (hne : a ≠ m) (hk : g_k t m k_Mo) (hR : t.2.2.2 m f_Mo_arguments = some a) (hk2 : g_k t a 15) (hl : t.1.2.2 a = 6) (h1 : i < 0 ∨ 6 ≤ i → post (some (.int (-2))) (g_si t m f_Mo_code 0)) (h2 : ¬ (i < 0 ∨ 6 ≤ i) → post (some (.int (t.2.1 a i.toNatClampNeg))) (g_si (g_si t m f_Mo_code 0) a i.toNatClampNeg v)) : g_E cx (d + 2) i_Mo_argument [.ref m, .int i, .int v] t post := by
  refine g_call mt_Mo_argument rfl (by decide) (Nat.le_of_ble_eq_true rfl) ?_
  refine g_run [] 40 (fun P hP => And.intro hk (m_Mo_in ?_))
  refine And.intro (fun c => ?_) (fun c => ?_)
  · have c : ¬ (if (0 : Int64) ≤ i.toInt64 ∧ i.toInt64 ≤ 5 then (1 : Int32) else 0) = 0 := c
    rw [g_b1, Decidable.not_not] at c
    have c1 : ¬ i < 0 := Int32.not_lt.mpr ((g_le64 (a := 0)).mp c.1)
    have c2 : i ≤ 5 := (g_le64 (b := 5)).mp c.2
    obtain ⟨j, hj, e⟩ := nI_of2 (M := 5) (n := 5) rfl c1 c2
    have hin : vp_in i (t.1.2.2 a) := by rw [hl, e]; exact vp_in_nI (by omega) (by decide)
    have h2 := h2 (fun q => q.elim c1 (fun z => by rw [e] at z; exact absurd ((nI_leI (a := 6) (by decide) (by omega)).mp (show nI 6 ≤ nI j from z)) (by omega)))
    refine And.intro hk (Or.inl ⟨a, hR, Or.inl (And.intro hk2 (And.intro hin ?_))⟩)
    refine And.intro hk (Or.inl ⟨a, hR, And.intro hk2 (And.intro hin ?_)⟩)
    refine And.intro rfl (And.intro rfl ?_)
    rw [g_rd_ne hne]
    exact h2
  · have c : ¬ ¬ (if (0 : Int64) ≤ i.toInt64 ∧ i.toInt64 ≤ 5 then (1 : Int32) else 0) = 0 := c
    rw [g_b1, Decidable.not_not] at c
    refine And.intro rfl (And.intro rfl (h1 ?_))
    by_cases q : i < 0
    · exact Or.inl q
    · by_cases q2 : 6 ≤ i
      · exact Or.inr q2
      · have q3 : i ≤ 5 := by
          obtain ⟨j, hj, e⟩ := nI_of q
          rw [e] at q2 ⊢
          exact nI_le (b := 5) (Nat.le_of_lt_succ (Nat.lt_of_not_le (fun z => q2 (nI_le z hj)))) (by decide)
        exact absurd ⟨(g_le64 (a := 0)).mpr (Int32.not_lt.mp q), (g_le64 (b := 5)).mpr q3⟩ c
/-- told, of class and model: out of four ints -/
def g_told (v s w p : Int32) (k : Int32) : Int32 := if k = 0 then v else if k = 1 then s else if k = 2 then w else if k = 3 then p else -2
theorem m_Mo_told {cx : gCx} {d m : Nat} {k : Int32} {t : gSt} {post : Option Value → gSt → Prop} (hk : g_k t m k_Mo) (h : post (some (.int (g_told (t.2.1 m f_Mo_result) (t.2.1 m f_Mo_steps) (t.2.1 m f_Mo_most) (t.2.1 m f_Mo_puts) k))) (g_si t m f_Mo_code 0)) : g_E cx (d + 1) i_Mo_told [.ref m, .int k] t post := by
  refine g_call mt_Mo_told rfl (by decide) (Nat.le_of_ble_eq_true rfl) ?_
  refine g_run [] 40 (fun P hP => And.intro hk (And.intro (fun c => ?_) (fun c => ?_)))
  · have c : ¬ k = 0 := c
    refine And.intro (fun c1 => ?_) (fun c1 => ?_)
    · have c1 : ¬ k = 1 := c1
      refine And.intro (fun c2 => ?_) (fun c2 => ?_)
      · have c2 : ¬ k = 2 := c2
        refine And.intro (fun c3 => ?_) (fun c3 => ?_)
        · have c3 : ¬ k = 3 := c3
          rw [g_told, if_neg c, if_neg c1, if_neg c2, if_neg c3] at h
          exact And.intro rfl (And.intro rfl h)
        · have c3 : k = 3 := Decidable.not_not.mp c3
          rw [g_told, if_neg c, if_neg c1, if_neg c2, if_pos c3] at h
          refine And.intro hk (And.intro rfl (And.intro rfl ?_))
          rw [g_rd_k (by decide)]
          exact h
      · have c2 : k = 2 := Decidable.not_not.mp c2
        rw [g_told, if_neg c, if_neg c1, if_pos c2] at h
        refine And.intro hk (And.intro rfl (And.intro rfl ?_))
        rw [g_rd_k (by decide)]
        exact h
    · have c1 : k = 1 := Decidable.not_not.mp c1
      rw [g_told, if_neg c, if_pos c1] at h
      refine And.intro hk (And.intro rfl (And.intro rfl ?_))
      rw [g_rd_k (by decide)]
      exact h
  · have c : k = 0 := Decidable.not_not.mp c
    rw [g_told, if_pos c] at h
    refine And.intro hk (And.intro rfl (And.intro rfl ?_))
    rw [g_rd_k (by decide)]
    exact h
