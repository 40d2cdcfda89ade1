/-! READ: the class, with the new source -/
theorem x_Tr_rd {cx : gCx} {d : Nat} {ad : Nat → Nat} {p : Nat} (hp : isP p) {p2 : Nat} (hp2 : isP p2) {t : gSt} {post : Option Value → gSt → Prop} (hL : Lay t ad) (hr_0_12 : t.2.2.2 (ad 0) 12 = some (ad p2)) (h : g_E cx d i_Reader_readInto [.ref (ad 3), .ref (ad p2), .ref (ad 1), .int (t.2.1 (ad 0) 13)] t (fun r u1 => ∃ y2 : Int32, r = some (.int y2) ∧ Lay u1 ad ∧ u1.2.2.2 (ad 0) 11 = some (ad p) ∧ u1.2.2.2 (ad 0) 12 = some (ad p2) ∧ ((y2 = 0 → ∀ t3, t3 = g_si u1 (ad 0) 14 (-1) → ∀ t4, t4 = g_sr t3 (ad 0) 11 (some (ad p2)) → ∀ t6, t6 = g_sr t4 (ad 0) 12 (some (ad p)) → g_E cx d i_Graph_draw [.ref (ad 11), .ref (ad p2)] t6 (fun r u8 => r = none ∧ Lay u8 ad ∧ u8.2.2.2 (ad 0) 11 = some (ad p2) ∧ (g_E cx d i_Coder_encode [.ref (ad 67), .ref (ad p2), .int 0] u8 (fun r u10 => r = none ∧ Lay u10 ad ∧ u10.2.2.2 (ad 0) 11 = some (ad p2) ∧ (g_E cx d i_Bounds_find [.ref (ad 79), .ref (ad p2)] u10 (fun r u12 => r = none ∧ Lay u12 ad ∧ (g_E cx d i_Tr_makeOutput [.ref (ad 0), .int 0] u12 (fun r u14 => ∃ y15 : Int32, r = some (.int y15) ∧ Lay u14 ad ∧ u14.2.2.2 (ad 0) 11 = some (ad p2) ∧ (post (some (.int (u14.2.1 (ad p2) 15))) u14))))))))) ∧ (¬ (y2 = 0) → g_E cx d i_Reader_faultPlace [.ref (ad 3)] u1 (fun r u16 => ∃ y17 : Int32, r = some (.int y17) ∧ Lay u16 ad ∧ (∀ t18, t18 = g_si u16 (ad 0) 14 y17 → post (some (.int ((-10) - y2))) t18)))))) : g_E cx (d + 1) i_Tr_read [.ref (ad 0)] t post := by
  refine g_call mt_Tr_read rfl (by decide) (Nat.le_of_ble_eq_true rfl) ?_
  refine g_run [] 400 (fun P hP => ?_)
  refine And.intro (hL.k 0 (by decide)) (Or.inl ⟨_, (hL.r 0 2 3 (by decide)), ?_⟩)
  refine And.intro (hL.k 0 (by decide)) (Or.inl ⟨_, hr_0_12, ?_⟩)
  refine And.intro (hL.k 0 (by decide)) (Or.inl ⟨_, (hL.r 0 0 1 (by decide)), ?_⟩)
  refine And.intro (hL.k 0 (by decide)) ?_
  refine And.intro (hL.k 3 (by decide)) ?_
  refine g_Em h (fun r u h => ?_)
  obtain ⟨y2, rfl, hL, hr_0_11, hr_0_12, h⟩ := h
  refine And.intro (fun c => ?_) (fun c => ?_)
  · have h := h.1 c
    refine And.intro (hL.k 0 (by decide)) ?_
    have h := h _ rfl
    refine And.intro (hL.k 0 (by decide)) (Or.inl ⟨_, hr_0_11, ?_⟩)
    refine And.intro (hL.k 0 (by decide)) (Or.inl ⟨_, hr_0_12, ?_⟩)
    refine And.intro (hL.k 0 (by decide)) ?_
    have h := h _ rfl
    have hL := hL.sr 0 11 (some (ad p2)) (by decide +kernel)
    refine And.intro (hL.k 0 (by decide)) ?_
    have h := h _ rfl
    have hL := hL.sr 0 12 (some (ad p)) (by decide +kernel)
    refine And.intro (hL.k 0 (by decide)) (Or.inl ⟨_, (hL.r 0 3 11 (by decide)), ?_⟩)
    refine And.intro (hL.k 0 (by decide)) (Or.inl ⟨_, ((g_rr_o (Or.inr (by decide))).trans g_rr_at), ?_⟩)
    refine And.intro (hL.k 11 (by decide)) ?_
    refine g_Em h (fun r u h => ?_)
    obtain ⟨rfl, hL, hr_0_11, h⟩ := h
    refine And.intro (hL.k 0 (by decide)) (Or.inl ⟨_, (hL.r 0 6 67 (by decide)), ?_⟩)
    refine And.intro (hL.k 0 (by decide)) (Or.inl ⟨_, hr_0_11, ?_⟩)
    refine And.intro (hL.k 67 (by decide)) ?_
    refine g_Em h (fun r u h => ?_)
    obtain ⟨rfl, hL, hr_0_11, h⟩ := h
    refine And.intro (hL.k 0 (by decide)) (Or.inl ⟨_, (hL.r 0 7 79 (by decide)), ?_⟩)
    refine And.intro (hL.k 0 (by decide)) (Or.inl ⟨_, hr_0_11, ?_⟩)
    refine And.intro (hL.k 79 (by decide)) ?_
    refine g_Em h (fun r u h => ?_)
    obtain ⟨rfl, hL, h⟩ := h
    refine And.intro (hL.k 0 (by decide)) ?_
    refine g_Em h (fun r u h => ?_)
    obtain ⟨y15, rfl, hL, hr_0_11, h⟩ := h
    refine And.intro (hL.k 0 (by decide)) (Or.inl ⟨_, hr_0_11, ?_⟩)
    refine And.intro (hL.pk hp2 0 (by decide)) ?_
    exact And.intro rfl (And.intro rfl h)
  · have h := h.2 c
    refine And.intro (hL.k 0 (by decide)) (Or.inl ⟨_, (hL.r 0 2 3 (by decide)), ?_⟩)
    refine And.intro (hL.k 3 (by decide)) ?_
    refine g_Em h (fun r u h => ?_)
    obtain ⟨y17, rfl, hL, h⟩ := h
    refine And.intro (hL.k 0 (by decide)) ?_
    have h := h _ rfl
    exact And.intro rfl (And.intro rfl h)
