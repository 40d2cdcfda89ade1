theorem m_Writer_byteAt {cx : gCx} {d q a n : Nat} {i : Int32} {t : gSt} {post : Option Value → gSt → Prop} (hq : g_k t q k_Writer) (hR2 : t.2.2.2 q f_Writer_written = some a) (ha : g_k t a 13) (hl : t.1.2.2 a = 6000) (hn : t.2.1 q f_Writer_length = nI n) (hn2 : n ≤ 6000) (h : post (some (.int (g_nth (t.2.1 a) (nI n) (-1) i))) t) : g_E cx (d + 1) i_Writer_byteAt [.ref q, .int i] t post := by
  refine g_call mt_Writer_byteAt rfl (by decide) (Nat.le_of_ble_eq_true rfl) ?_
  refine g_run [] 40 (fun P hP => And.intro (fun c1 => ?_) (fun c1 => ?_))
  · have c1 : i < 0 := c1
    rw [g_nth, if_pos (Or.inl c1)] at h
    exact And.intro rfl (And.intro rfl h)
  · have c1 : ¬ i < 0 := c1
    refine And.intro hq (And.intro (fun c2 => ?_) (fun c2 => ?_))
    · have c2 : t.2.1 q f_Writer_length ≤ i := c2
      rw [hn] at c2
      rw [g_nth, if_pos (Or.inr c2)] at h
      exact And.intro rfl (And.intro rfl h)
    · have c2 : ¬ t.2.1 q f_Writer_length ≤ i := c2
      rw [hn] at c2
      rw [g_nth, if_neg (fun z => z.elim c1 c2)] at h
      obtain ⟨j, hj, e⟩ := nI_of c1
      have hjn : j < n := by
        rw [e] at c2
        exact Nat.lt_of_not_le (fun z => c2 (nI_le z hj))
      have hin : vp_in i (t.1.2.2 a) := by rw [hl, e]; exact vp_in_nI (by omega) (by decide)
      refine And.intro hq (Or.inl ⟨a, hR2, Or.inl (And.intro (Or.inl ha) (And.intro hin ?_))⟩)
      exact And.intro rfl (And.intro rfl h)
theorem m_Tr_octet {cx : gCx} {d x q a n : Nat} {i : Int32} {t : gSt} {post : Option Value → gSt → Prop} (hk : g_k t x k_Tr) (hR : t.2.2.2 x f_Tr_writer = some q) (hq : g_k t q k_Writer) (hR2 : t.2.2.2 q f_Writer_written = some a) (ha : g_k t a 13) (hl : t.1.2.2 a = 6000) (hn : t.2.1 q f_Writer_length = nI n) (hn2 : n ≤ 6000) (h : post (some (.int (g_nth (t.2.1 a) (nI n) (-1) i))) t) : g_E cx (d + 2) i_Tr_octet [.ref x, .int i] t post := by
  refine g_call mt_Tr_octet rfl (by decide) (Nat.le_of_ble_eq_true rfl) ?_
  refine g_run [] 10 (fun P hP => And.intro hk (Or.inl ⟨q, hR, And.intro hq ?_⟩))
  exact m_Writer_byteAt hq hR2 ha hl hn hn2 (And.intro rfl (And.intro rfl h))
theorem m_Mo_octet {cx : gCx} {d m a n : Nat} {i : Int32} {t : gSt} {post : Option Value → gSt → Prop} (hne : a ≠ m) (hk : g_k t m k_Mo) (hR : t.2.2.2 m f_Mo_out = some a) (ha : g_k t a 13) (hl : t.1.2.2 a = 6100) (hn : t.2.1 m f_Mo_outSize = nI n) (hn2 : n ≤ 6000) (h : post (some (.int (g_nth (fun j => t.2.1 a j &&& 255) (nI n) (-1) i))) (g_si t m f_Mo_code 0)) : g_E cx (d + 2) i_Mo_octet [.ref m, .int i] t post := by
  refine g_call mt_Mo_octet rfl (by decide) (Nat.le_of_ble_eq_true rfl) ?_
  have hn3 : (g_si t m f_Mo_code 0).2.1 m f_Mo_outSize = nI n := by rw [g_rd_k (by decide)]; exact hn
  refine g_run [] 40 (fun P hP => And.intro hk (And.intro hk (m_Mo_in ?_)))
  refine And.intro (fun c => ?_) (fun c => ?_)
  · have c : (if (0 : Int64) ≤ i.toInt64 ∧ i.toInt64 ≤ ((g_si t m f_Mo_code 0).2.1 m f_Mo_outSize - 1).toInt64 then (1 : Int32) else 0) = 0 := c
    rw [g_b1, hn3, g_in1 (by omega), Decidable.not_not] at c
    rw [g_nth, if_pos c] at h
    exact And.intro rfl (And.intro rfl h)
  · have c : ¬ (if (0 : Int64) ≤ i.toInt64 ∧ i.toInt64 ≤ ((g_si t m f_Mo_code 0).2.1 m f_Mo_outSize - 1).toInt64 then (1 : Int32) else 0) = 0 := c
    rw [g_b1, hn3, g_in1 (by omega), Decidable.not_not] at c
    rw [g_nth, if_neg c] at h
    have c1 : ¬ i < 0 := fun z => c (Or.inl z)
    obtain ⟨j, hj, e⟩ := nI_of c1
    have hjn : j < n := Nat.lt_of_not_le (fun z => c (Or.inr (by rw [e]; exact nI_le z hj)))
    have hin : vp_in i (t.1.2.2 a) := by rw [hl, e]; exact vp_in_nI (by omega) (by decide)
    refine And.intro hk (Or.inl ⟨a, hR, Or.inl (And.intro (Or.inl ha) (And.intro hin ?_))⟩)
    refine And.intro rfl (And.intro rfl ?_)
    rw [g_rd_ne hne]
    exact h
theorem p_octet {cx : gCx} {d : Nat} {ad : Nat → Nat} {Rest : gSt → Prop} (hr : ∀ t u, g_ag ad t u → Rest t → Rest u) (i : Int32) : g_pair cx (d + 2) (g_Inv ad Rest) (ad c_Tr) (ad c_Mo) i_Tr_octet i_Mo_octet [.int i] := by
  intro t hI post hp
  have hL := hI.1
  obtain ⟨-, -, -, -, -, ⟨n, w, w1, w2, w3, w4, w5, w6⟩⟩ := hI.2.1
  have hw : g_k t (ad w) 13 ∧ t.1.2.2 (ad w) = 6000 := by
    rcases w2 with rfl | rfl
    · exact ⟨hL.k c_Writer_written (by decide), hL.l c_Writer_written (by decide)⟩
    · exact ⟨hL.k c_Writer_draft (by decide), hL.l c_Writer_draft (by decide)⟩
  refine m_Tr_octet (hL.k c_Tr (by decide)) (hL.r c_Tr f_Tr_writer c_Writer (by decide)) (hL.k c_Writer (by decide)) w3 hw.1 hw.2 w4 w1 (hp _ t (hL.k c_Mo (by decide)) (fun post2 h2 => ?_))
  refine m_Mo_octet (hL.nm c_Mo_out (by decide) (by decide)) (hL.k c_Mo (by decide)) (hL.r c_Mo f_Mo_out c_Mo_out (by decide)) (hL.k c_Mo_out (by decide)) (hL.l c_Mo_out (by decide)) w5 w1 ?_
  rw [← g_nth_eq (f := t.2.1 (ad w)) (by omega) (fun j hj => by rw [(w6 j hj).1]; exact (w6 j hj).2.symm)]
  exact h2 _ (hI.code hr)
