theorem g_out {k : Int32} {n : Nat} (hn : n < 2 ^ 31) (h : ∀ j : Nat, j ≤ n → k ≠ nI j) : k.toInt < 0 ∨ (n : Int) < k.toInt := by
  by_cases h1 : k < 0
  · left
    exact Int32.lt_iff_toInt_lt.mp h1
  · right
    obtain ⟨j, hj, e⟩ := nI_of h1
    have : ¬ j ≤ n := fun q => h j q e
    rw [e, nI_toInt hj]
    omega
theorem m_Tr_told {cx : gCx} {d x q : Nat} {k : Int32} {t : gSt} {post : Option Value → gSt → Prop} (hk : g_k t x k_Tr) (hR : t.2.2.2 x f_Tr_machine = some q) (hq : g_k t q k_Machine) (h : post (some (.int (g_told (t.2.1 q f_Machine_outcome) (t.2.1 q f_Machine_steps) (t.2.1 q f_Machine_mostWords) (t.2.1 q f_Machine_putCount) k))) t) : g_E cx (d + 1) i_Tr_told [.ref x, .int k] t post := by
  refine g_call mt_Tr_told rfl (by decide) (Nat.le_of_ble_eq_true rfl) ?_
  refine g_run [1] 5 (fun P hP => hP _ ?_)
  show g_W cx (g_E cx d) mt_Tr_told post (1, [some (.ref x), some (.int k)], [.int k], t, 0, 0)
  by_cases c0 : k = 0
  · rw [g_told, if_pos c0] at h
    refine g_sw (tgt := 32) rfl (by subst c0; decide) ?_
    exact g_run [] 10 (fun P hP => And.intro hk (Or.inl ⟨q, hR, And.intro hq (And.intro rfl (And.intro rfl h))⟩))
  · by_cases c1 : k = 1
    · rw [g_told, if_neg c0, if_pos c1] at h
      refine g_sw (tgt := 40) rfl (by subst c1; decide) ?_
      exact g_run [] 10 (fun P hP => And.intro hk (Or.inl ⟨q, hR, And.intro hq (And.intro rfl (And.intro rfl h))⟩))
    · by_cases c2 : k = 2
      · rw [g_told, if_neg c0, if_neg c1, if_pos c2] at h
        refine g_sw (tgt := 48) rfl (by subst c2; decide) ?_
        exact g_run [] 10 (fun P hP => And.intro hk (Or.inl ⟨q, hR, And.intro hq (And.intro rfl (And.intro rfl h))⟩))
      · by_cases c3 : k = 3
        · rw [g_told, if_neg c0, if_neg c1, if_neg c2, if_pos c3] at h
          refine g_sw (tgt := 56) rfl (by subst c3; decide) ?_
          exact g_run [] 10 (fun P hP => And.intro hk (Or.inl ⟨q, hR, And.intro hq (And.intro rfl (And.intro rfl h))⟩))
        · rw [g_told, if_neg c0, if_neg c1, if_neg c2, if_neg c3] at h
          have ho : k.toInt < 0 ∨ (3 : Int) < k.toInt := g_out (k := k) (n := 3) (by decide) (fun j hj => by
            match j, hj with
            | 0, _ => exact c0
            | 1, _ => exact c1
            | 2, _ => exact c2
            | 3, _ => exact c3
            | j + 4, hj => exact absurd hj (by omega))
          refine g_sw (tgt := 64) rfl (by rw [g_tsw, if_pos ho]; decide) ?_
          exact g_run [] 10 (fun P hP => And.intro rfl (And.intro rfl h))
/-- putAt and octet: the i-th of n, else z -/
def g_nth (f : Nat → Int32) (n z i : Int32) : Int32 := if i < 0 ∨ n ≤ i then z else f i.toNatClampNeg
theorem m_Tr_putAt {cx : gCx} {d x q a n : Nat} {i : Int32} {t : gSt} {post : Option Value → gSt → Prop} (hk : g_k t x k_Tr) (hR : t.2.2.2 x f_Tr_machine = some q) (hq : g_k t q k_Machine) (hR2 : t.2.2.2 q f_Machine_puts = some a) (ha : g_k t a 15) (hl : t.1.2.2 a = 200) (hn : t.2.1 q f_Machine_putCount = nI n) (hn2 : n ≤ 200) (h : post (some (.int (g_nth (t.2.1 a) (nI n) 0 i))) t) : g_E cx (d + 1) i_Tr_putAt [.ref x, .int i] t post := by
  refine g_call mt_Tr_putAt rfl (by decide) (Nat.le_of_ble_eq_true rfl) ?_
  refine g_run [] 40 (fun P hP => And.intro (fun c1 => ?_) (fun c1 => ?_))
  · have c1 : i < 0 := c1
    rw [g_nth, if_pos (Or.inl c1)] at h
    exact And.intro rfl (And.intro rfl h)
  · have c1 : ¬ i < 0 := c1
    refine And.intro hk (Or.inl ⟨q, hR, And.intro hq (And.intro (fun c2 => ?_) (fun c2 => ?_))⟩)
    · have c2 : t.2.1 q f_Machine_putCount ≤ i := c2
      rw [hn] at c2
      rw [g_nth, if_pos (Or.inr c2)] at h
      exact And.intro rfl (And.intro rfl h)
    · have c2 : ¬ t.2.1 q f_Machine_putCount ≤ i := c2
      rw [hn] at c2
      rw [g_nth, if_neg (fun z => z.elim c1 c2)] at h
      obtain ⟨j, hj, e⟩ := nI_of c1
      have hjn : j < n := by
        rw [e] at c2
        exact Nat.lt_of_not_le (fun z => c2 (nI_le z hj))
      have hin : vp_in i (t.1.2.2 a) := by rw [hl, e]; exact vp_in_nI (by omega) (by decide)
      refine And.intro hk (Or.inl ⟨q, hR, And.intro hq (Or.inl ⟨a, hR2, Or.inl (And.intro ha (And.intro hin ?_))⟩)⟩)
      exact And.intro rfl (And.intro rfl h)
/-- in(i, 0, n - 1), for an n of small size -/
theorem g_in1 {i : Int32} {n : Nat} (hn : n < 2 ^ 30) : ((0 : Int64) ≤ i.toInt64 ∧ i.toInt64 ≤ (nI n - 1).toInt64) ↔ ¬ (i < 0 ∨ nI n ≤ i) := by
  have e1 : (nI n - 1).toInt = (n : Int) - 1 := pk_sub_toInt (a := n) (b := 1) (by omega) (by omega)
  have e2 : (nI n).toInt = (n : Int) := nI_toInt (by omega)
  rw [show ((0 : Int64) ≤ i.toInt64 ↔ (0 : Int32) ≤ i) from g_le64 (a := 0), g_le64, Int32.le_iff_toInt_le, Int32.le_iff_toInt_le, Int32.le_iff_toInt_le, Int32.lt_iff_toInt_lt, e1, e2, show (0 : Int32).toInt = 0 from rfl]
  omega
theorem m_Mo_putAt {cx : gCx} {d m a n : Nat} {i : Int32} {t : gSt} {post : Option Value → gSt → Prop} (hne : a ≠ m) (hk : g_k t m k_Mo) (hR : t.2.2.2 m f_Mo_putRow = some a) (ha : g_k t a 15) (hl : t.1.2.2 a = 200) (hn : t.2.1 m f_Mo_puts = nI n) (hn2 : n ≤ 200) (h : post (some (.int (g_nth (t.2.1 a) (nI n) 0 i))) (g_si t m f_Mo_code 0)) : g_E cx (d + 2) i_Mo_putAt [.ref m, .int i] t post := by
  refine g_call mt_Mo_putAt rfl (by decide) (Nat.le_of_ble_eq_true rfl) ?_
  have hn3 : (g_si t m f_Mo_code 0).2.1 m f_Mo_puts = nI n := by rw [g_rd_k (by decide)]; exact hn
  refine g_run [] 40 (fun P hP => And.intro hk (And.intro hk (m_Mo_in ?_)))
  refine And.intro (fun c => ?_) (fun c => ?_)
  · have c : (if (0 : Int64) ≤ i.toInt64 ∧ i.toInt64 ≤ ((g_si t m f_Mo_code 0).2.1 m f_Mo_puts - 1).toInt64 then (1 : Int32) else 0) = 0 := c
    rw [g_b1, hn3, g_in1 (by omega), Decidable.not_not] at c
    rw [g_nth, if_pos c] at h
    exact And.intro rfl (And.intro rfl h)
  · have c : ¬ (if (0 : Int64) ≤ i.toInt64 ∧ i.toInt64 ≤ ((g_si t m f_Mo_code 0).2.1 m f_Mo_puts - 1).toInt64 then (1 : Int32) else 0) = 0 := c
    rw [g_b1, hn3, g_in1 (by omega), Decidable.not_not] at c
    rw [g_nth, if_neg c] at h
    have c1 : ¬ i < 0 := fun z => c (Or.inl z)
    obtain ⟨j, hj, e⟩ := nI_of c1
    have hjn : j < n := Nat.lt_of_not_le (fun z => c (Or.inr (by rw [e]; exact nI_le z hj)))
    have hin : vp_in i (t.1.2.2 a) := by rw [hl, e]; exact vp_in_nI (by omega) (by decide)
    refine And.intro hk (Or.inl ⟨a, hR, Or.inl (And.intro ha (And.intro hin ?_))⟩)
    refine And.intro rfl (And.intro rfl ?_)
    rw [g_rd_ne hne]
    exact h
