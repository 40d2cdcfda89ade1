/-! PRINTED by wip/gen/xparts.py: symbolic execution, method by method -/
theorem x_Tr_read {cx : gCx} {d : Nat} {ad : Nat → Nat} {p : Nat} (hp : isP p) {p2 : Nat} (hp2 : isP p2) {t : gSt} {post : Option Value → gSt → Prop} (hL : Lay t ad) (hr_0_12 : t.2.2.2 (ad 0) 12 = some (ad p2)) (h : g_E cx d i_Reader_readInto [.ref (ad 3), .ref (ad p2), .ref (ad 1), .int (t.2.1 (ad 0) 13)] t (fun r u1 => ∃ y2 : Int32, r = some (.int y2) ∧ Lay u1 ad ∧ u1.2.2.2 (ad 0) 11 = some (ad p) ∧ u1.2.2.2 (ad 0) 12 = some (ad p2) ∧ ((y2 = 0 → ∀ t3, t3 = g_si u1 (ad 0) 14 (-1) → ∀ t4, t4 = g_sr t3 (ad 0) 11 (some (ad p2)) → ∀ t6, t6 = g_sr t4 (ad 0) 12 (some (ad p)) → g_E cx d i_Graph_draw [.ref (ad 11), .ref (ad p2)] t6 (fun r u8 => r = none ∧ Lay u8 ad ∧ u8.2.2.2 (ad 0) 11 = some (ad p) ∧ (g_E cx d i_Coder_encode [.ref (ad 67), .ref (ad p), .int 0] u8 (fun r u10 => r = none ∧ Lay u10 ad ∧ u10.2.2.2 (ad 0) 11 = some (ad p) ∧ (g_E cx d i_Bounds_find [.ref (ad 79), .ref (ad p)] u10 (fun r u12 => r = none ∧ Lay u12 ad ∧ (g_E cx d i_Tr_makeOutput [.ref (ad 0), .int 0] u12 (fun r u14 => ∃ y15 : Int32, r = some (.int y15) ∧ Lay u14 ad ∧ u14.2.2.2 (ad 0) 11 = some (ad p) ∧ (post (some (.int (u14.2.1 (ad p) 15))) u14))))))))) ∧ (¬ (y2 = 0) → g_E cx d i_Reader_faultPlace [.ref (ad 3)] u1 (fun r u16 => ∃ y17 : Int32, r = some (.int y17) ∧ Lay u16 ad ∧ (∀ t18, t18 = g_si u16 (ad 0) 14 y17 → post (some (.int ((-10) - y2))) t18)))))) : g_E cx (d + 1) i_Tr_read [.ref (ad 0)] t post := by
  refine g_call mt_Tr_read rfl (by decide) (Nat.le_of_ble_eq_true rfl) ?_
  refine g_run [] 400 (fun P hP => ?_)
  refine And.intro (hL.k 0 (by decide)) (Or.inl ⟨_, (hL.r 0 2 3 (by decide)), ?_⟩)
  refine And.intro (hL.k 0 (by decide)) (Or.inl ⟨_, hr_0_12, ?_⟩)
  refine And.intro (hL.k 0 (by decide)) (Or.inl ⟨_, (hL.r 0 0 1 (by decide)), ?_⟩)
  refine And.intro (hL.k 0 (by decide)) ?_
  refine And.intro (hL.k 3 (by decide)) ?_
  refine g_Em h (fun r u h => ?_)
  obtain ⟨y2, rfl, hL, hr_0_11, hr_0_12, h⟩ := h
  refine And.intro (fun c => ?_) (fun c => ?_)
  · have h := h.1 c
    refine And.intro (hL.k 0 (by decide)) ?_
    have h := h _ rfl
    refine And.intro (hL.k 0 (by decide)) (Or.inl ⟨_, hr_0_11, ?_⟩)
    refine And.intro (hL.k 0 (by decide)) (Or.inl ⟨_, hr_0_12, ?_⟩)
    refine And.intro (hL.k 0 (by decide)) ?_
    have h := h _ rfl
    have hL := hL.sr 0 11 (some (ad p2)) (by decide +kernel)
    refine And.intro (hL.k 0 (by decide)) ?_
    have h := h _ rfl
    have hL := hL.sr 0 12 (some (ad p)) (by decide +kernel)
    refine And.intro (hL.k 0 (by decide)) (Or.inl ⟨_, (hL.r 0 3 11 (by decide)), ?_⟩)
    refine And.intro (hL.k 0 (by decide)) (Or.inl ⟨_, ((g_rr_o (Or.inr (by decide))).trans g_rr_at), ?_⟩)
    refine And.intro (hL.k 11 (by decide)) ?_
    refine g_Em h (fun r u h => ?_)
    obtain ⟨rfl, hL, hr_0_11, h⟩ := h
    refine And.intro (hL.k 0 (by decide)) (Or.inl ⟨_, (hL.r 0 6 67 (by decide)), ?_⟩)
    refine And.intro (hL.k 0 (by decide)) (Or.inl ⟨_, hr_0_11, ?_⟩)
    refine And.intro (hL.k 67 (by decide)) ?_
    refine g_Em h (fun r u h => ?_)
    obtain ⟨rfl, hL, hr_0_11, h⟩ := h
    refine And.intro (hL.k 0 (by decide)) (Or.inl ⟨_, (hL.r 0 7 79 (by decide)), ?_⟩)
    refine And.intro (hL.k 0 (by decide)) (Or.inl ⟨_, hr_0_11, ?_⟩)
    refine And.intro (hL.k 79 (by decide)) ?_
    refine g_Em h (fun r u h => ?_)
    obtain ⟨rfl, hL, h⟩ := h
    refine And.intro (hL.k 0 (by decide)) ?_
    refine g_Em h (fun r u h => ?_)
    obtain ⟨y15, rfl, hL, hr_0_11, h⟩ := h
    refine And.intro (hL.k 0 (by decide)) (Or.inl ⟨_, hr_0_11, ?_⟩)
    refine And.intro (hL.pk hp 0 (by decide)) ?_
    exact And.intro rfl (And.intro rfl h)
  · have h := h.2 c
    refine And.intro (hL.k 0 (by decide)) (Or.inl ⟨_, (hL.r 0 2 3 (by decide)), ?_⟩)
    refine And.intro (hL.k 3 (by decide)) ?_
    refine g_Em h (fun r u h => ?_)
    obtain ⟨y17, rfl, hL, h⟩ := h
    refine And.intro (hL.k 0 (by decide)) ?_
    have h := h _ rfl
    exact And.intro rfl (And.intro rfl h)
theorem x_Tr_trim {cx : gCx} {d : Nat} {ad : Nat → Nat} {a1 : Int32} {t : gSt} {post : Option Value → gSt → Prop} (hL : Lay t ad) (h : (a1 < 0 → post (some (.int (-2))) t) ∧ (¬ (a1 < 0) → (a1 ≤ 7 → g_E cx d i_Tr_makeOutput [.ref (ad 0), .int a1] t (fun r u1 => ∃ y2 : Int32, r = some (.int y2) ∧ Lay u1 ad ∧ (post (some (.int y2)) u1))) ∧ (¬ (a1 ≤ 7) → post (some (.int (-2))) t))) : g_E cx (d + 1) i_Tr_trim [.ref (ad 0), .int a1] t post := by
  refine g_call mt_Tr_trim rfl (by decide) (Nat.le_of_ble_eq_true rfl) ?_
  refine g_run [] 400 (fun P hP => ?_)
  refine And.intro (fun c => ?_) (fun c => ?_)
  · have h := h.1 c
    exact And.intro rfl (And.intro rfl h)
  · have h := h.2 c
    refine And.intro (fun c => ?_) (fun c => ?_)
    · have h := h.1 c
      refine And.intro (hL.k 0 (by decide)) ?_
      refine g_Em h (fun r u h => ?_)
      obtain ⟨y2, rfl, hL, h⟩ := h
      exact And.intro rfl (And.intro rfl h)
    · have h := h.2 c
      exact And.intro rfl (And.intro rfl h)
theorem x_Tr_function {cx : gCx} {d : Nat} {ad : Nat → Nat} {p : Nat} (hp : isP p) {a1 a2 a3 : Int32} {t : gSt} {post : Option Value → gSt → Prop} (hL : Lay t ad) (h : g_E cx d i_Tr_programOf [.ref (ad 0), .int a1] t (fun r u1 => Lay u1 ad ∧ ((∃ p, isP p ∧ r = some (.ref (ad p)) ∧ (g_E cx d i_Program_has [.ref (ad p), .int a2] u1 (fun r u3 => ∃ y4 : Int32, r = some (.int y4) ∧ Lay u3 ad ∧ ((¬ y4 = 0 → (a3 = 0 → g_W cx (g_E cx d) mt_Tr_function post (72, [some (.ref (ad 0)), some (.int a1), some (.int a2), some (.int a3), some (.ref (ad p))], [], u3, 0, 0)) ∧ (a3 = 1 → g_W cx (g_E cx d) mt_Tr_function post (80, [some (.ref (ad 0)), some (.int a1), some (.int a2), some (.int a3), some (.ref (ad p))], [], u3, 0, 0)) ∧ (a3 = 2 → g_W cx (g_E cx d) mt_Tr_function post (88, [some (.ref (ad 0)), some (.int a1), some (.int a2), some (.int a3), some (.ref (ad p))], [], u3, 0, 0)) ∧ (a3 = 3 → g_W cx (g_E cx d) mt_Tr_function post (96, [some (.ref (ad 0)), some (.int a1), some (.int a2), some (.int a3), some (.ref (ad p))], [], u3, 0, 0)) ∧ (a3 = 4 → g_W cx (g_E cx d) mt_Tr_function post (103, [some (.ref (ad 0)), some (.int a1), some (.int a2), some (.int a3), some (.ref (ad p))], [], u3, 0, 0)) ∧ (a3 = 5 → g_W cx (g_E cx d) mt_Tr_function post (110, [some (.ref (ad 0)), some (.int a1), some (.int a2), some (.int a3), some (.ref (ad p))], [], u3, 0, 0)) ∧ (a3 = 6 → g_W cx (g_E cx d) mt_Tr_function post (118, [some (.ref (ad 0)), some (.int a1), some (.int a2), some (.int a3), some (.ref (ad p))], [], u3, 0, 0)) ∧ (a3 = 7 → g_W cx (g_E cx d) mt_Tr_function post (126, [some (.ref (ad 0)), some (.int a1), some (.int a2), some (.int a3), some (.ref (ad p))], [], u3, 0, 0)) ∧ (a3 < 0 ∨ 7 < a3 → g_W cx (g_E cx d) mt_Tr_function post (134, [some (.ref (ad 0)), some (.int a1), some (.int a2), some (.int a3), some (.ref (ad p))], [], u3, 0, 0))) ∧ (¬ (¬ y4 = 0) → post (some (.int (-1))) u3))))) ∨ (r = some .null ∧ (post (some (.int (-1))) u1))))) : g_E cx (d + 1) i_Tr_function [.ref (ad 0), .int a1, .int a2, .int a3] t post := by
  refine g_call mt_Tr_function rfl (by decide) (Nat.le_of_ble_eq_true rfl) ?_
  refine g_run [24, 72, 80, 88, 96, 103, 110, 118, 126, 134] 400 (fun P hP => ?_)
  refine And.intro (hL.k 0 (by decide)) ?_
  refine g_Em h (fun r u h => ?_)
  obtain ⟨hL, ⟨p, hp, rfl, h⟩ | ⟨rfl, h⟩⟩ := h
  · refine And.intro (hL.pk hp 0 (by decide)) ?_
    refine g_Em h (fun r u h => ?_)
    obtain ⟨y4, rfl, hL, h⟩ := h
    refine And.intro (fun c => ?_) (fun c => ?_)
    · have h := h.1 c
      refine hP _ ?_
      rcases g_swc _ 0 7 (by decide) (by decide) (by decide) with c | c | ⟨j, hj, c⟩
      · exact g_sw (tgt := 134) rfl (g_swlo c) (h.2.2.2.2.2.2.2.2 (Or.inl c))
      · exact g_sw (tgt := 134) rfl (g_swhi c) (h.2.2.2.2.2.2.2.2 (Or.inr c))
      · match j, hj with
        | 0, _ => exact g_sw (tgt := 72) rfl (by rw [c]; decide) (h.1 c)
        | 1, _ => exact g_sw (tgt := 80) rfl (by rw [c]; decide) (h.2.1 c)
        | 2, _ => exact g_sw (tgt := 88) rfl (by rw [c]; decide) (h.2.2.1 c)
        | 3, _ => exact g_sw (tgt := 96) rfl (by rw [c]; decide) (h.2.2.2.1 c)
        | 4, _ => exact g_sw (tgt := 103) rfl (by rw [c]; decide) (h.2.2.2.2.1 c)
        | 5, _ => exact g_sw (tgt := 110) rfl (by rw [c]; decide) (h.2.2.2.2.2.1 c)
        | 6, _ => exact g_sw (tgt := 118) rfl (by rw [c]; decide) (h.2.2.2.2.2.2.1 c)
        | 7, _ => exact g_sw (tgt := 126) rfl (by rw [c]; decide) (h.2.2.2.2.2.2.2.1 c)
        | j + 8, hj => exact absurd hj (by omega)
    · have h := h.2 c
      exact And.intro rfl (And.intro rfl h)
  · exact And.intro rfl (And.intro rfl h)
theorem x_Tr_function_72 {cx : gCx} {d : Nat} {ad : Nat → Nat} {p : Nat} (hp : isP p) {l1 l2 l3 : Int32} {t : gSt} {post : Option Value → gSt → Prop} (hL : Lay t ad) (h : vp_in l2 24 ∧ (post (some (.int (t.2.1 (ad (p + 5)) (l2 : Int32).toNatClampNeg))) t)) : g_W cx (g_E cx d) mt_Tr_function post (72, [some (.ref (ad 0)), some (.int l1), some (.int l2), some (.int l3), some (.ref (ad p))], [], t, 0, 0) := by
  refine g_run [24, 72, 80, 88, 96, 103, 110, 118, 126, 134] 400 (fun P hP => ?_)
  refine And.intro (hL.pk hp 0 (by decide)) (Or.inl ⟨_, (hL.pr hp 6 (by decide)), ?_⟩)
  refine Or.inl (And.intro (hL.pk hp 5 (by decide)) (And.intro (hL.pv hp 5 (by decide) (by decide) h.1) ?_))
  have h := h.2
  exact And.intro rfl (And.intro rfl h)
theorem x_Tr_function_80 {cx : gCx} {d : Nat} {ad : Nat → Nat} {p : Nat} (hp : isP p) {l1 l2 l3 : Int32} {t : gSt} {post : Option Value → gSt → Prop} (hL : Lay t ad) (h : vp_in l2 24 ∧ (post (some (.int (t.2.1 (ad (p + 2)) (l2 : Int32).toNatClampNeg))) t)) : g_W cx (g_E cx d) mt_Tr_function post (80, [some (.ref (ad 0)), some (.int l1), some (.int l2), some (.int l3), some (.ref (ad p))], [], t, 0, 0) := by
  refine g_run [24, 72, 80, 88, 96, 103, 110, 118, 126, 134] 400 (fun P hP => ?_)
  refine And.intro (hL.pk hp 0 (by decide)) (Or.inl ⟨_, (hL.pr hp 3 (by decide)), ?_⟩)
  refine Or.inl (And.intro (hL.pk hp 2 (by decide)) (And.intro (hL.pv hp 2 (by decide) (by decide) h.1) ?_))
  have h := h.2
  exact And.intro rfl (And.intro rfl h)
theorem x_Tr_function_88 {cx : gCx} {d : Nat} {ad : Nat → Nat} {p : Nat} (hp : isP p) {l1 l2 l3 : Int32} {t : gSt} {post : Option Value → gSt → Prop} (hL : Lay t ad) (h : vp_in l2 24 ∧ (post (some (.int (t.2.1 (ad (p + 3)) (l2 : Int32).toNatClampNeg))) t)) : g_W cx (g_E cx d) mt_Tr_function post (88, [some (.ref (ad 0)), some (.int l1), some (.int l2), some (.int l3), some (.ref (ad p))], [], t, 0, 0) := by
  refine g_run [24, 72, 80, 88, 96, 103, 110, 118, 126, 134] 400 (fun P hP => ?_)
  refine And.intro (hL.pk hp 0 (by decide)) (Or.inl ⟨_, (hL.pr hp 4 (by decide)), ?_⟩)
  refine Or.inl (And.intro (hL.pk hp 3 (by decide)) (And.intro (hL.pv hp 3 (by decide) (by decide) h.1) ?_))
  have h := h.2
  exact And.intro rfl (And.intro rfl h)
theorem x_Tr_function_96 {cx : gCx} {d : Nat} {ad : Nat → Nat} {p : Nat} (hp : isP p) {l1 l2 l3 : Int32} {t : gSt} {post : Option Value → gSt → Prop} (hL : Lay t ad) (h : g_E cx d i_Program_countCalls [.ref (ad p), .int l2] t (fun r u1 => ∃ y2 : Int32, r = some (.int y2) ∧ Lay u1 ad ∧ (post (some (.int y2)) u1))) : g_W cx (g_E cx d) mt_Tr_function post (96, [some (.ref (ad 0)), some (.int l1), some (.int l2), some (.int l3), some (.ref (ad p))], [], t, 0, 0) := by
  refine g_run [24, 72, 80, 88, 96, 103, 110, 118, 126, 134] 400 (fun P hP => ?_)
  refine And.intro (hL.pk hp 0 (by decide)) ?_
  refine g_Em h (fun r u h => ?_)
  obtain ⟨y2, rfl, hL, h⟩ := h
  exact And.intro rfl (And.intro rfl h)
theorem x_Tr_function_103 {cx : gCx} {d : Nat} {ad : Nat → Nat} {p : Nat} (hp : isP p) {l1 l2 l3 : Int32} {t : gSt} {post : Option Value → gSt → Prop} (hL : Lay t ad) (h : g_E cx d i_Program_frame [.ref (ad p), .int l2] t (fun r u1 => ∃ y2 : Int32, r = some (.int y2) ∧ Lay u1 ad ∧ (post (some (.int y2)) u1))) : g_W cx (g_E cx d) mt_Tr_function post (103, [some (.ref (ad 0)), some (.int l1), some (.int l2), some (.int l3), some (.ref (ad p))], [], t, 0, 0) := by
  refine g_run [24, 72, 80, 88, 96, 103, 110, 118, 126, 134] 400 (fun P hP => ?_)
  refine And.intro (hL.pk hp 0 (by decide)) ?_
  refine g_Em h (fun r u h => ?_)
  obtain ⟨y2, rfl, hL, h⟩ := h
  exact And.intro rfl (And.intro rfl h)
theorem x_Tr_function_110 {cx : gCx} {d : Nat} {ad : Nat → Nat} {p : Nat} (hp : isP p) {l1 l2 l3 : Int32} {t : gSt} {post : Option Value → gSt → Prop} (hL : Lay t ad) (h : vp_in l2 24 ∧ (post (some (.int (t.2.1 (ad (p + 8)) (l2 : Int32).toNatClampNeg))) t)) : g_W cx (g_E cx d) mt_Tr_function post (110, [some (.ref (ad 0)), some (.int l1), some (.int l2), some (.int l3), some (.ref (ad p))], [], t, 0, 0) := by
  refine g_run [24, 72, 80, 88, 96, 103, 110, 118, 126, 134] 400 (fun P hP => ?_)
  refine And.intro (hL.pk hp 0 (by decide)) (Or.inl ⟨_, (hL.pr hp 11 (by decide)), ?_⟩)
  refine Or.inl (And.intro (hL.pk hp 8 (by decide)) (And.intro (hL.pv hp 8 (by decide) (by decide) h.1) ?_))
  have h := h.2
  exact And.intro rfl (And.intro rfl h)
theorem x_Tr_function_118 {cx : gCx} {d : Nat} {ad : Nat → Nat} {p : Nat} (hp : isP p) {l1 l2 l3 : Int32} {t : gSt} {post : Option Value → gSt → Prop} (hL : Lay t ad) (h : vp_in l2 24 ∧ (post (some (.int (t.2.1 (ad (p + 11)) (l2 : Int32).toNatClampNeg))) t)) : g_W cx (g_E cx d) mt_Tr_function post (118, [some (.ref (ad 0)), some (.int l1), some (.int l2), some (.int l3), some (.ref (ad p))], [], t, 0, 0) := by
  refine g_run [24, 72, 80, 88, 96, 103, 110, 118, 126, 134] 400 (fun P hP => ?_)
  refine And.intro (hL.pk hp 0 (by decide)) (Or.inl ⟨_, (hL.pr hp 14 (by decide)), ?_⟩)
  refine Or.inl (And.intro (hL.pk hp 11 (by decide)) (And.intro (hL.pv hp 11 (by decide) (by decide) h.1) ?_))
  have h := h.2
  exact And.intro rfl (And.intro rfl h)
theorem x_Tr_function_126 {cx : gCx} {d : Nat} {ad : Nat → Nat} {p : Nat} (hp : isP p) {l1 l2 l3 : Int32} {t : gSt} {post : Option Value → gSt → Prop} (hL : Lay t ad) (h : vp_in l2 24 ∧ (post (some (.int (t.2.1 (ad (p + 6)) (l2 : Int32).toNatClampNeg))) t)) : g_W cx (g_E cx d) mt_Tr_function post (126, [some (.ref (ad 0)), some (.int l1), some (.int l2), some (.int l3), some (.ref (ad p))], [], t, 0, 0) := by
  refine g_run [24, 72, 80, 88, 96, 103, 110, 118, 126, 134] 400 (fun P hP => ?_)
  refine And.intro (hL.pk hp 0 (by decide)) (Or.inl ⟨_, (hL.pr hp 7 (by decide)), ?_⟩)
  refine Or.inl (And.intro (hL.pk hp 6 (by decide)) (And.intro (hL.pv hp 6 (by decide) (by decide) h.1) ?_))
  have h := h.2
  exact And.intro rfl (And.intro rfl h)
theorem x_Tr_function_134 {cx : gCx} {d : Nat} {ad : Nat → Nat} {p : Nat} (hp : isP p) {l1 l2 l3 : Int32} {t : gSt} {post : Option Value → gSt → Prop} (hL : Lay t ad) (h : post (some (.int (-2))) t) : g_W cx (g_E cx d) mt_Tr_function post (134, [some (.ref (ad 0)), some (.int l1), some (.int l2), some (.int l3), some (.ref (ad p))], [], t, 0, 0) := by
  refine g_run [24, 72, 80, 88, 96, 103, 110, 118, 126, 134] 400 (fun P hP => ?_)
  exact And.intro rfl (And.intro rfl h)
theorem x_Tr_calls {cx : gCx} {d : Nat} {ad : Nat → Nat} {p : Nat} (hp : isP p) {a1 a2 a3 : Int32} {t : gSt} {post : Option Value → gSt → Prop} (hL : Lay t ad) (hr_0_11 : t.2.2.2 (ad 0) 11 = some (ad p)) (h : g_E cx d i_Program_has [.ref (ad p), .int a1] t (fun r u1 => ∃ y2 : Int32, r = some (.int y2) ∧ Lay u1 ad ∧ u1.2.2.2 (ad 0) 11 = some (ad p) ∧ ((y2 = 0 → post (some (.int (-1))) u1) ∧ (¬ (y2 = 0) → g_E cx d i_Program_has [.ref (ad p), .int a2] u1 (fun r u3 => ∃ y4 : Int32, r = some (.int y4) ∧ Lay u3 ad ∧ ((¬ y4 = 0 → (¬ a3 = 0 → (¬ a3 = 1 → post (some (.int (-2))) u3) ∧ (¬ (¬ a3 = 1) → g_E cx d i_Graph_inOneCircle [.ref (ad 11), .int a1, .int a2] u3 (fun r u5 => ∃ y6 : Int32, r = some (.int y6) ∧ Lay u5 ad ∧ ((y6 = 0 → post (some (.int 0)) u5) ∧ (¬ (y6 = 0) → post (some (.int 1)) u5))))) ∧ (¬ (¬ a3 = 0) → g_E cx d i_Graph_doesCall [.ref (ad 11), .int a1, .int a2] u3 (fun r u7 => ∃ y8 : Int32, r = some (.int y8) ∧ Lay u7 ad ∧ ((y8 = 0 → post (some (.int 0)) u7) ∧ (¬ (y8 = 0) → post (some (.int 1)) u7))))) ∧ (¬ (¬ y4 = 0) → post (some (.int (-1))) u3))))))) : g_E cx (d + 1) i_Tr_calls [.ref (ad 0), .int a1, .int a2, .int a3] t post := by
  refine g_call mt_Tr_calls rfl (by decide) (Nat.le_of_ble_eq_true rfl) ?_
  refine g_run [] 400 (fun P hP => ?_)
  refine And.intro (hL.k 0 (by decide)) (Or.inl ⟨_, hr_0_11, ?_⟩)
  refine And.intro (hL.pk hp 0 (by decide)) ?_
  refine g_Em h (fun r u h => ?_)
  obtain ⟨y2, rfl, hL, hr_0_11, h⟩ := h
  refine And.intro (fun c => ?_) (fun c => ?_)
  · have h := h.1 c
    exact And.intro rfl (And.intro rfl h)
  · have h := h.2 c
    refine And.intro (hL.k 0 (by decide)) (Or.inl ⟨_, hr_0_11, ?_⟩)
    refine And.intro (hL.pk hp 0 (by decide)) ?_
    refine g_Em h (fun r u h => ?_)
    obtain ⟨y4, rfl, hL, h⟩ := h
    refine And.intro (fun c => ?_) (fun c => ?_)
    · have h := h.1 c
      refine And.intro (fun c => ?_) (fun c => ?_)
      · have h := h.1 c
        refine And.intro (fun c => ?_) (fun c => ?_)
        · have h := h.1 c
          exact And.intro rfl (And.intro rfl h)
        · have h := h.2 c
          refine And.intro (hL.k 0 (by decide)) (Or.inl ⟨_, (hL.r 0 3 11 (by decide)), ?_⟩)
          refine And.intro (hL.k 11 (by decide)) ?_
          refine g_Em h (fun r u h => ?_)
          obtain ⟨y6, rfl, hL, h⟩ := h
          refine And.intro (fun c => ?_) (fun c => ?_)
          · have h := h.1 c
            exact And.intro rfl (And.intro rfl h)
          · have h := h.2 c
            exact And.intro rfl (And.intro rfl h)
      · have h := h.2 c
        refine And.intro (hL.k 0 (by decide)) (Or.inl ⟨_, (hL.r 0 3 11 (by decide)), ?_⟩)
        refine And.intro (hL.k 11 (by decide)) ?_
        refine g_Em h (fun r u h => ?_)
        obtain ⟨y8, rfl, hL, h⟩ := h
        refine And.intro (fun c => ?_) (fun c => ?_)
        · have h := h.1 c
          exact And.intro rfl (And.intro rfl h)
        · have h := h.2 c
          exact And.intro rfl (And.intro rfl h)
    · have h := h.2 c
      exact And.intro rfl (And.intro rfl h)
theorem x_Tr_order {cx : gCx} {d : Nat} {ad : Nat → Nat} {p : Nat} (hp : isP p) {a1 : Int32} {t : gSt} {post : Option Value → gSt → Prop} (hL : Lay t ad) (hr_0_11 : t.2.2.2 (ad 0) 11 = some (ad p)) (h : g_E cx d i_Program_has [.ref (ad p), .int a1] t (fun r u1 => ∃ y2 : Int32, r = some (.int y2) ∧ Lay u1 ad ∧ ((y2 = 0 → post (some (.int (-1))) u1) ∧ (¬ (y2 = 0) → vp_in a1 24 ∧ (post (some (.int (u1.2.1 (ad 18) (a1 : Int32).toNatClampNeg))) u1))))) : g_E cx (d + 1) i_Tr_order [.ref (ad 0), .int a1] t post := by
  refine g_call mt_Tr_order rfl (by decide) (Nat.le_of_ble_eq_true rfl) ?_
  refine g_run [] 400 (fun P hP => ?_)
  refine And.intro (hL.k 0 (by decide)) (Or.inl ⟨_, hr_0_11, ?_⟩)
  refine And.intro (hL.pk hp 0 (by decide)) ?_
  refine g_Em h (fun r u h => ?_)
  obtain ⟨y2, rfl, hL, h⟩ := h
  refine And.intro (fun c => ?_) (fun c => ?_)
  · have h := h.1 c
    exact And.intro rfl (And.intro rfl h)
  · have h := h.2 c
    refine And.intro (hL.k 0 (by decide)) (Or.inl ⟨_, (hL.r 0 3 11 (by decide)), ?_⟩)
    refine And.intro (hL.k 11 (by decide)) (Or.inl ⟨_, (hL.r 11 1 18 (by decide)), ?_⟩)
    refine Or.inl (And.intro (hL.k 18 (by decide)) (And.intro (hL.v 18 (by decide) h.1) ?_))
    have h := h.2
    exact And.intro rfl (And.intro rfl h)
theorem x_Tr_write {cx : gCx} {d : Nat} {ad : Nat → Nat} {p : Nat} (hp : isP p) {a1 a2 : Int32} {t : gSt} {post : Option Value → gSt → Prop} (hL : Lay t ad) (h : g_E cx d i_Tr_programOf [.ref (ad 0), .int a1] t (fun r u1 => Lay u1 ad ∧ ((∃ p, isP p ∧ r = some (.ref (ad p)) ∧ (g_E cx d i_Program_has [.ref (ad p), .int a2] u1 (fun r u3 => ∃ y4 : Int32, r = some (.int y4) ∧ Lay u3 ad ∧ ((¬ y4 = 0 → g_E cx d i_Writer_writeOut [.ref (ad 83), .ref (ad p), .int a2] u3 (fun r u5 => ∃ y6 : Int32, r = some (.int y6) ∧ Lay u5 ad ∧ ((y6 = 0 → post (some (.int (-4))) u5) ∧ (¬ (y6 = 0) → post (some (.int (u5.2.1 (ad 83) 7))) u5)))) ∧ (¬ (¬ y4 = 0) → post (some (.int (-1))) u3))))) ∨ (r = some .null ∧ (post (some (.int (-1))) u1))))) : g_E cx (d + 1) i_Tr_write [.ref (ad 0), .int a1, .int a2] t post := by
  refine g_call mt_Tr_write rfl (by decide) (Nat.le_of_ble_eq_true rfl) ?_
  refine g_run [] 400 (fun P hP => ?_)
  refine And.intro (hL.k 0 (by decide)) ?_
  refine g_Em h (fun r u h => ?_)
  obtain ⟨hL, ⟨p, hp, rfl, h⟩ | ⟨rfl, h⟩⟩ := h
  · refine And.intro (hL.pk hp 0 (by decide)) ?_
    refine g_Em h (fun r u h => ?_)
    obtain ⟨y4, rfl, hL, h⟩ := h
    refine And.intro (fun c => ?_) (fun c => ?_)
    · have h := h.1 c
      refine And.intro (hL.k 0 (by decide)) (Or.inl ⟨_, (hL.r 0 8 83 (by decide)), ?_⟩)
      refine And.intro (hL.k 83 (by decide)) ?_
      refine g_Em h (fun r u h => ?_)
      obtain ⟨y6, rfl, hL, h⟩ := h
      refine And.intro (fun c => ?_) (fun c => ?_)
      · have h := h.1 c
        exact And.intro rfl (And.intro rfl h)
      · have h := h.2 c
        refine And.intro (hL.k 0 (by decide)) (Or.inl ⟨_, (hL.r 0 8 83 (by decide)), ?_⟩)
        refine And.intro (hL.k 83 (by decide)) ?_
        exact And.intro rfl (And.intro rfl h)
    · have h := h.2 c
      exact And.intro rfl (And.intro rfl h)
  · exact And.intro rfl (And.intro rfl h)
theorem x_Tr_code {cx : gCx} {d : Nat} {ad : Nat → Nat} {p : Nat} (hp : isP p) {a1 a2 a3 a4 : Int32} {t : gSt} {post : Option Value → gSt → Prop} (hL : Lay t ad) (h : g_E cx d i_Tr_programOf [.ref (ad 0), .int a1] t (fun r u1 => Lay u1 ad ∧ ((∃ p, isP p ∧ r = some (.ref (ad p)) ∧ (g_E cx d i_Program_has [.ref (ad p), .int a2] u1 (fun r u3 => ∃ y4 : Int32, r = some (.int y4) ∧ Lay u3 ad ∧ ((y4 = 0 → post (some (.int (-1))) u3) ∧ (¬ (y4 = 0) → (a3 < 0 → post (some (.int (-1))) u3) ∧ (¬ (a3 < 0) → vp_in a2 24 ∧ ((a3 < (u3.2.1 (ad (p + 8)) (a2 : Int32).toNatClampNeg) → (¬ a4 = 0 → (¬ a4 = 1 → post (some (.int (-2))) u3) ∧ (¬ (¬ a4 = 1) → vp_in a2 24 ∧ (vp_in ((u3.2.1 (ad (p + 7)) (a2 : Int32).toNatClampNeg) + a3) (c_len (p + 15)) ∧ (post (some (.int (u3.2.1 (ad (p + 15)) (((u3.2.1 (ad (p + 7)) (a2 : Int32).toNatClampNeg) + a3) : Int32).toNatClampNeg))) u3)))) ∧ (¬ (¬ a4 = 0) → vp_in a2 24 ∧ (vp_in ((u3.2.1 (ad (p + 7)) (a2 : Int32).toNatClampNeg) + a3) (c_len (p + 14)) ∧ (post (some (.int (u3.2.1 (ad (p + 14)) (((u3.2.1 (ad (p + 7)) (a2 : Int32).toNatClampNeg) + a3) : Int32).toNatClampNeg))) u3)))) ∧ (¬ (a3 < (u3.2.1 (ad (p + 8)) (a2 : Int32).toNatClampNeg)) → post (some (.int (-1))) u3)))))))) ∨ (r = some .null ∧ (post (some (.int (-1))) u1))))) : g_E cx (d + 1) i_Tr_code [.ref (ad 0), .int a1, .int a2, .int a3, .int a4] t post := by
  refine g_call mt_Tr_code rfl (by decide) (Nat.le_of_ble_eq_true rfl) ?_
  refine g_run [] 400 (fun P hP => ?_)
  refine And.intro (hL.k 0 (by decide)) ?_
  refine g_Em h (fun r u h => ?_)
  obtain ⟨hL, ⟨p, hp, rfl, h⟩ | ⟨rfl, h⟩⟩ := h
  · refine And.intro (hL.pk hp 0 (by decide)) ?_
    refine g_Em h (fun r u h => ?_)
    obtain ⟨y4, rfl, hL, h⟩ := h
    refine And.intro (fun c => ?_) (fun c => ?_)
    · have h := h.1 c
      exact And.intro rfl (And.intro rfl h)
    · have h := h.2 c
      refine And.intro (fun c => ?_) (fun c => ?_)
      · have h := h.1 c
        exact And.intro rfl (And.intro rfl h)
      · have h := h.2 c
        refine And.intro (hL.pk hp 0 (by decide)) (Or.inl ⟨_, (hL.pr hp 11 (by decide)), ?_⟩)
        refine Or.inl (And.intro (hL.pk hp 8 (by decide)) (And.intro (hL.pv hp 8 (by decide) (by decide) h.1) ?_))
        have h := h.2
        refine And.intro (fun c => ?_) (fun c => ?_)
        · have h := h.1 c
          refine And.intro (fun c => ?_) (fun c => ?_)
          · have h := h.1 c
            refine And.intro (fun c => ?_) (fun c => ?_)
            · have h := h.1 c
              exact And.intro rfl (And.intro rfl h)
            · have h := h.2 c
              refine And.intro (hL.pk hp 0 (by decide)) (Or.inl ⟨_, (hL.pr hp 9 (by decide)), ?_⟩)
              refine And.intro (hL.pk hp 0 (by decide)) (Or.inl ⟨_, (hL.pr hp 10 (by decide)), ?_⟩)
              refine Or.inl (And.intro (hL.pk hp 7 (by decide)) (And.intro (hL.pv hp 7 (by decide) (by decide) h.1) ?_))
              have h := h.2
              refine Or.inl (And.intro (hL.pk hp 15 (by decide)) (And.intro (hL.pv2 hp 15 (by decide) h.1) ?_))
              have h := h.2
              exact And.intro rfl (And.intro rfl h)
          · have h := h.2 c
            refine And.intro (hL.pk hp 0 (by decide)) (Or.inl ⟨_, (hL.pr hp 8 (by decide)), ?_⟩)
            refine And.intro (hL.pk hp 0 (by decide)) (Or.inl ⟨_, (hL.pr hp 10 (by decide)), ?_⟩)
            refine Or.inl (And.intro (hL.pk hp 7 (by decide)) (And.intro (hL.pv hp 7 (by decide) (by decide) h.1) ?_))
            have h := h.2
            refine Or.inl (And.intro (hL.pk hp 14 (by decide)) (And.intro (hL.pv2 hp 14 (by decide) h.1) ?_))
            have h := h.2
            exact And.intro rfl (And.intro rfl h)
        · have h := h.2 c
          exact And.intro rfl (And.intro rfl h)
  · exact And.intro rfl (And.intro rfl h)
theorem x_Tr_run {cx : gCx} {d : Nat} {ad : Nat → Nat} {p : Nat} (hp : isP p) {a1 a2 a3 a4 : Int32} {t : gSt} {post : Option Value → gSt → Prop} (hL : Lay t ad) (h : g_E cx d i_Tr_programOf [.ref (ad 0), .int a1] t (fun r u1 => Lay u1 ad ∧ ((∃ p, isP p ∧ r = some (.ref (ad p)) ∧ (g_E cx d i_Program_has [.ref (ad p), .int a2] u1 (fun r u3 => ∃ y4 : Int32, r = some (.int y4) ∧ Lay u3 ad ∧ ((¬ y4 = 0 → (a3 < 0 → post (some (.int (-2))) u3) ∧ (¬ (a3 < 0) → (20000 < a3 → post (some (.int (-2))) u3) ∧ (¬ (20000 < a3) → (a4 < 0 → post (some (.int (-2))) u3) ∧ (¬ (a4 < 0) → (a4 ≤ 20000 → g_E cx d i_Machine_load [.ref (ad 93), .ref (ad p), .int a3] u3 (fun r u5 => r = none ∧ Lay u5 ad ∧ (g_E cx d i_Machine_perform [.ref (ad 93), .int a2, .ref (ad 2), .int a4] u5 (fun r u7 => ∃ y8 : Int32, r = some (.int y8) ∧ Lay u7 ad ∧ (post (some (.int y8)) u7))))) ∧ (¬ (a4 ≤ 20000) → post (some (.int (-2))) u3))))) ∧ (¬ (¬ y4 = 0) → post (some (.int (-1))) u3))))) ∨ (r = some .null ∧ (post (some (.int (-1))) u1))))) : g_E cx (d + 1) i_Tr_run [.ref (ad 0), .int a1, .int a2, .int a3, .int a4] t post := by
  refine g_call mt_Tr_run rfl (by decide) (Nat.le_of_ble_eq_true rfl) ?_
  refine g_run [] 400 (fun P hP => ?_)
  refine And.intro (hL.k 0 (by decide)) ?_
  refine g_Em h (fun r u h => ?_)
  obtain ⟨hL, ⟨p, hp, rfl, h⟩ | ⟨rfl, h⟩⟩ := h
  · refine And.intro (hL.pk hp 0 (by decide)) ?_
    refine g_Em h (fun r u h => ?_)
    obtain ⟨y4, rfl, hL, h⟩ := h
    refine And.intro (fun c => ?_) (fun c => ?_)
    · have h := h.1 c
      refine And.intro (fun c => ?_) (fun c => ?_)
      · have h := h.1 c
        exact And.intro rfl (And.intro rfl h)
      · have h := h.2 c
        refine And.intro (fun c => ?_) (fun c => ?_)
        · have h := h.1 c
          exact And.intro rfl (And.intro rfl h)
        · have h := h.2 c
          refine And.intro (fun c => ?_) (fun c => ?_)
          · have h := h.1 c
            exact And.intro rfl (And.intro rfl h)
          · have h := h.2 c
            refine And.intro (fun c => ?_) (fun c => ?_)
            · have h := h.1 c
              refine And.intro (hL.k 0 (by decide)) (Or.inl ⟨_, (hL.r 0 9 93 (by decide)), ?_⟩)
              refine And.intro (hL.k 93 (by decide)) ?_
              refine g_Em h (fun r u h => ?_)
              obtain ⟨rfl, hL, h⟩ := h
              refine And.intro (hL.k 0 (by decide)) (Or.inl ⟨_, (hL.r 0 9 93 (by decide)), ?_⟩)
              refine And.intro (hL.k 0 (by decide)) (Or.inl ⟨_, (hL.r 0 1 2 (by decide)), ?_⟩)
              refine And.intro (hL.k 93 (by decide)) ?_
              refine g_Em h (fun r u h => ?_)
              obtain ⟨y8, rfl, hL, h⟩ := h
              exact And.intro rfl (And.intro rfl h)
            · have h := h.2 c
              exact And.intro rfl (And.intro rfl h)
    · have h := h.2 c
      exact And.intro rfl (And.intro rfl h)
  · exact And.intro rfl (And.intro rfl h)
theorem x_Tr_programOf {cx : gCx} {d : Nat} {ad : Nat → Nat} {p : Nat} (hp : isP p) {a1 : Int32} {t : gSt} {post : Option Value → gSt → Prop} (hL : Lay t ad) (hr_0_11 : t.2.2.2 (ad 0) 11 = some (ad p)) (h : (¬ a1 = 0 → (¬ a1 = 1 → post (some .null) t) ∧ (¬ (¬ a1 = 1) → post (some (.ref (ad 96))) t)) ∧ (¬ (¬ a1 = 0) → post (some (.ref (ad p))) t)) : g_E cx (d + 1) i_Tr_programOf [.ref (ad 0), .int a1] t post := by
  refine g_call mt_Tr_programOf rfl (by decide) (Nat.le_of_ble_eq_true rfl) ?_
  refine g_run [] 400 (fun P hP => ?_)
  refine And.intro (fun c => ?_) (fun c => ?_)
  · have h := h.1 c
    refine And.intro (fun c => ?_) (fun c => ?_)
    · have h := h.1 c
      exact And.intro rfl (And.intro (Or.inl ⟨_, rfl⟩) h)
    · have h := h.2 c
      refine And.intro (hL.k 0 (by decide)) (Or.inl ⟨_, (hL.r 0 10 96 (by decide)), ?_⟩)
      exact And.intro rfl (And.intro (Or.inl ⟨_, rfl⟩) h)
  · have h := h.2 c
    refine And.intro (hL.k 0 (by decide)) (Or.inl ⟨_, hr_0_11, ?_⟩)
    exact And.intro rfl (And.intro (Or.inl ⟨_, rfl⟩) h)
theorem x_Tr_makeOutput {cx : gCx} {d : Nat} {ad : Nat → Nat} {a1 : Int32} {t : gSt} {post : Option Value → gSt → Prop} (hL : Lay t ad) (h : ((a1 &&& 1) = 0 → g_W cx (g_E cx d) mt_Tr_makeOutput post (14, [some (.ref (ad 0)), some (.int a1), none, none], [.int (-1)], t, 0, 0)) ∧ (¬ ((a1 &&& 1) = 0) → g_W cx (g_E cx d) mt_Tr_makeOutput post (14, [some (.ref (ad 0)), some (.int a1), none, none], [.int (t.2.1 (ad 0) 15)], t, 0, 0))) : g_E cx (d + 1) i_Tr_makeOutput [.ref (ad 0), .int a1] t post := by
  refine g_call mt_Tr_makeOutput rfl (by decide) (Nat.le_of_ble_eq_true rfl) ?_
  refine g_run [14, 53, 72] 400 (fun P hP => ?_)
  refine And.intro (fun c => ?_) (fun c => ?_)
  · have h := h.1 c
    exact hP _ h
  · have h := h.2 c
    refine And.intro (hL.k 0 (by decide)) ?_
    exact hP _ h
theorem x_Tr_makeOutput_14 {cx : gCx} {d : Nat} {ad : Nat → Nat} {p : Nat} (hp : isP p) {l1 s0 : Int32} {t : gSt} {post : Option Value → gSt → Prop} (hL : Lay t ad) (hr_0_11 : t.2.2.2 (ad 0) 11 = some (ad p)) (h : g_E cx d i_Inliner_inlineAll [.ref (ad 47), .ref (ad p), .ref (ad 96), .ref (ad 11), .int s0] t (fun r u1 => ∃ y2 : Int32, r = some (.int y2) ∧ Lay u1 ad ∧ (((l1 &&& 2) = 0 → g_W cx (g_E cx d) mt_Tr_makeOutput post (53, [some (.ref (ad 0)), some (.int l1), some (.int s0), some (.int y2)], [], u1, 0, 0)) ∧ (¬ ((l1 &&& 2) = 0) → g_E cx d i_Folder_foldAll [.ref (ad 55), .ref (ad 96)] u1 (fun r u3 => r = none ∧ Lay u3 ad ∧ (g_W cx (g_E cx d) mt_Tr_makeOutput post (53, [some (.ref (ad 0)), some (.int l1), some (.int s0), some (.int y2)], [], u3, 0, 0))))))) : g_W cx (g_E cx d) mt_Tr_makeOutput post (14, [some (.ref (ad 0)), some (.int l1), none, none], [.int s0], t, 0, 0) := by
  refine g_run [14, 53, 72] 400 (fun P hP => ?_)
  refine And.intro (hL.k 0 (by decide)) (Or.inl ⟨_, (hL.r 0 4 47 (by decide)), ?_⟩)
  refine And.intro (hL.k 0 (by decide)) (Or.inl ⟨_, hr_0_11, ?_⟩)
  refine And.intro (hL.k 0 (by decide)) (Or.inl ⟨_, (hL.r 0 10 96 (by decide)), ?_⟩)
  refine And.intro (hL.k 0 (by decide)) (Or.inl ⟨_, (hL.r 0 3 11 (by decide)), ?_⟩)
  refine And.intro (hL.k 47 (by decide)) ?_
  refine g_Em h (fun r u h => ?_)
  obtain ⟨y2, rfl, hL, h⟩ := h
  refine And.intro (fun c => ?_) (fun c => ?_)
  · have h := h.1 c
    exact hP _ h
  · have h := h.2 c
    refine And.intro (hL.k 0 (by decide)) (Or.inl ⟨_, (hL.r 0 5 55 (by decide)), ?_⟩)
    refine And.intro (hL.k 0 (by decide)) (Or.inl ⟨_, (hL.r 0 10 96 (by decide)), ?_⟩)
    refine And.intro (hL.k 55 (by decide)) ?_
    refine g_Em h (fun r u h => ?_)
    obtain ⟨rfl, hL, h⟩ := h
    exact hP _ h
theorem x_Tr_makeOutput_53 {cx : gCx} {d : Nat} {ad : Nat → Nat} {l1 l2 l3 : Int32} {t : gSt} {post : Option Value → gSt → Prop} (hL : Lay t ad) (h : ((l1 &&& 4) = 0 → g_W cx (g_E cx d) mt_Tr_makeOutput post (72, [some (.ref (ad 0)), some (.int l1), some (.int l2), some (.int l3)], [.int 0, .ref (ad 96), .ref (ad 67)], t, 0, 0)) ∧ (¬ ((l1 &&& 4) = 0) → g_W cx (g_E cx d) mt_Tr_makeOutput post (72, [some (.ref (ad 0)), some (.int l1), some (.int l2), some (.int l3)], [.int 1, .ref (ad 96), .ref (ad 67)], t, 0, 0))) : g_W cx (g_E cx d) mt_Tr_makeOutput post (53, [some (.ref (ad 0)), some (.int l1), some (.int l2), some (.int l3)], [], t, 0, 0) := by
  refine g_run [14, 53, 72] 400 (fun P hP => ?_)
  refine And.intro (hL.k 0 (by decide)) (Or.inl ⟨_, (hL.r 0 6 67 (by decide)), ?_⟩)
  refine And.intro (hL.k 0 (by decide)) (Or.inl ⟨_, (hL.r 0 10 96 (by decide)), ?_⟩)
  refine And.intro (fun c => ?_) (fun c => ?_)
  · have h := h.1 c
    exact hP _ h
  · have h := h.2 c
    exact hP _ h
theorem x_Tr_makeOutput_72 {cx : gCx} {d : Nat} {ad : Nat → Nat} {l1 l2 l3 s0 : Int32} {t : gSt} {post : Option Value → gSt → Prop} (hL : Lay t ad) (h : g_E cx d i_Coder_encode [.ref (ad 67), .ref (ad 96), .int s0] t (fun r u1 => r = none ∧ Lay u1 ad ∧ (g_E cx d i_Bounds_find [.ref (ad 79), .ref (ad 96)] u1 (fun r u3 => r = none ∧ Lay u3 ad ∧ (post (some (.int l3)) u3))))) : g_W cx (g_E cx d) mt_Tr_makeOutput post (72, [some (.ref (ad 0)), some (.int l1), some (.int l2), some (.int l3)], [.int s0, .ref (ad 96), .ref (ad 67)], t, 0, 0) := by
  refine g_run [14, 53, 72] 400 (fun P hP => ?_)
  refine And.intro (hL.k 67 (by decide)) ?_
  refine g_Em h (fun r u h => ?_)
  obtain ⟨rfl, hL, h⟩ := h
  refine And.intro (hL.k 0 (by decide)) (Or.inl ⟨_, (hL.r 0 7 79 (by decide)), ?_⟩)
  refine And.intro (hL.k 0 (by decide)) (Or.inl ⟨_, (hL.r 0 10 96 (by decide)), ?_⟩)
  refine And.intro (hL.k 79 (by decide)) ?_
  refine g_Em h (fun r u h => ?_)
  obtain ⟨rfl, hL, h⟩ := h
  exact And.intro rfl (And.intro rfl h)
theorem x_Tr_operate {cx : gCx} {d : Nat} {ad : Nat → Nat} {a1 a2 a3 : Int32} {t : gSt} {post : Option Value → gSt → Prop} (hL : Lay t ad) (h : (a1 = 3 → g_W cx (g_E cx d) mt_Tr_operate post (44, [some (.int a1), some (.int a2), some (.int a3)], [], t, 0, 0)) ∧ (a1 = 4 → g_W cx (g_E cx d) mt_Tr_operate post (48, [some (.int a1), some (.int a2), some (.int a3)], [], t, 0, 0)) ∧ (a1 = 5 → g_W cx (g_E cx d) mt_Tr_operate post (52, [some (.int a1), some (.int a2), some (.int a3)], [], t, 0, 0)) ∧ (a1 = 6 → g_W cx (g_E cx d) mt_Tr_operate post (56, [some (.int a1), some (.int a2), some (.int a3)], [], t, 0, 0)) ∧ (a1 = 7 → g_W cx (g_E cx d) mt_Tr_operate post (68, [some (.int a1), some (.int a2), some (.int a3)], [], t, 0, 0)) ∧ (a1 = 8 → g_W cx (g_E cx d) mt_Tr_operate post (80, [some (.int a1), some (.int a2), some (.int a3)], [], t, 0, 0)) ∧ (a1 = 9 → g_W cx (g_E cx d) mt_Tr_operate post (91, [some (.int a1), some (.int a2), some (.int a3)], [], t, 0, 0)) ∧ (a1 < 3 ∨ 9 < a1 → g_W cx (g_E cx d) mt_Tr_operate post (102, [some (.int a1), some (.int a2), some (.int a3)], [], t, 0, 0))) : g_E cx (d + 1) i_Tr_operate [.int a1, .int a2, .int a3] t post := by
  refine g_call mt_Tr_operate rfl (by decide) (Nat.le_of_ble_eq_true rfl) ?_
  refine g_run [1, 44, 48, 52, 56, 68, 80, 91, 102] 400 (fun P hP => ?_)
  refine hP _ ?_
  rcases g_swc _ 3 9 (by decide) (by decide) (by decide) with c | c | ⟨j, hj, c⟩
  · exact g_sw (tgt := 102) rfl (g_swlo c) (h.2.2.2.2.2.2.2 (Or.inl c))
  · exact g_sw (tgt := 102) rfl (g_swhi c) (h.2.2.2.2.2.2.2 (Or.inr c))
  · match j, hj with
    | 0, _ => exact g_sw (tgt := 44) rfl (by rw [c]; decide) (h.1 c)
    | 1, _ => exact g_sw (tgt := 48) rfl (by rw [c]; decide) (h.2.1 c)
    | 2, _ => exact g_sw (tgt := 52) rfl (by rw [c]; decide) (h.2.2.1 c)
    | 3, _ => exact g_sw (tgt := 56) rfl (by rw [c]; decide) (h.2.2.2.1 c)
    | 4, _ => exact g_sw (tgt := 68) rfl (by rw [c]; decide) (h.2.2.2.2.1 c)
    | 5, _ => exact g_sw (tgt := 80) rfl (by rw [c]; decide) (h.2.2.2.2.2.1 c)
    | 6, _ => exact g_sw (tgt := 91) rfl (by rw [c]; decide) (h.2.2.2.2.2.2.1 c)
    | j + 7, hj => exact absurd hj (by omega)
theorem x_Tr_operate_44 {cx : gCx} {d : Nat} {ad : Nat → Nat} {l0 l1 l2 : Int32} {t : gSt} {post : Option Value → gSt → Prop} (hL : Lay t ad) (h : post (some (.int (l1 + l2))) t) : g_W cx (g_E cx d) mt_Tr_operate post (44, [some (.int l0), some (.int l1), some (.int l2)], [], t, 0, 0) := by
  refine g_run [1, 44, 48, 52, 56, 68, 80, 91, 102] 400 (fun P hP => ?_)
  exact And.intro rfl (And.intro rfl h)
theorem x_Tr_operate_48 {cx : gCx} {d : Nat} {ad : Nat → Nat} {l0 l1 l2 : Int32} {t : gSt} {post : Option Value → gSt → Prop} (hL : Lay t ad) (h : post (some (.int (l1 - l2))) t) : g_W cx (g_E cx d) mt_Tr_operate post (48, [some (.int l0), some (.int l1), some (.int l2)], [], t, 0, 0) := by
  refine g_run [1, 44, 48, 52, 56, 68, 80, 91, 102] 400 (fun P hP => ?_)
  exact And.intro rfl (And.intro rfl h)
theorem x_Tr_operate_52 {cx : gCx} {d : Nat} {ad : Nat → Nat} {l0 l1 l2 : Int32} {t : gSt} {post : Option Value → gSt → Prop} (hL : Lay t ad) (h : post (some (.int (l1 * l2))) t) : g_W cx (g_E cx d) mt_Tr_operate post (52, [some (.int l0), some (.int l1), some (.int l2)], [], t, 0, 0) := by
  refine g_run [1, 44, 48, 52, 56, 68, 80, 91, 102] 400 (fun P hP => ?_)
  exact And.intro rfl (And.intro rfl h)
theorem x_Tr_operate_56 {cx : gCx} {d : Nat} {ad : Nat → Nat} {l0 l1 l2 : Int32} {t : gSt} {post : Option Value → gSt → Prop} (hL : Lay t ad) (h : (¬ l2 = 0 → ¬ l2 = 0 ∧ (post (some (.int (l1 / l2))) t)) ∧ (¬ (¬ l2 = 0) → post (some (.int 0)) t)) : g_W cx (g_E cx d) mt_Tr_operate post (56, [some (.int l0), some (.int l1), some (.int l2)], [], t, 0, 0) := by
  refine g_run [1, 44, 48, 52, 56, 68, 80, 91, 102] 400 (fun P hP => ?_)
  refine And.intro (fun c => ?_) (fun c => ?_)
  · have h := h.1 c
    refine And.intro h.1 ?_
    have h := h.2
    exact And.intro rfl (And.intro rfl h)
  · have h := h.2 c
    exact And.intro rfl (And.intro rfl h)
theorem x_Tr_operate_68 {cx : gCx} {d : Nat} {ad : Nat → Nat} {l0 l1 l2 : Int32} {t : gSt} {post : Option Value → gSt → Prop} (hL : Lay t ad) (h : (¬ l2 = 0 → ¬ l2 = 0 ∧ (post (some (.int (l1 - l1 / l2 * l2))) t)) ∧ (¬ (¬ l2 = 0) → post (some (.int 0)) t)) : g_W cx (g_E cx d) mt_Tr_operate post (68, [some (.int l0), some (.int l1), some (.int l2)], [], t, 0, 0) := by
  refine g_run [1, 44, 48, 52, 56, 68, 80, 91, 102] 400 (fun P hP => ?_)
  refine And.intro (fun c => ?_) (fun c => ?_)
  · have h := h.1 c
    refine And.intro h.1 ?_
    have h := h.2
    exact And.intro rfl (And.intro rfl h)
  · have h := h.2 c
    exact And.intro rfl (And.intro rfl h)
theorem x_Tr_operate_80 {cx : gCx} {d : Nat} {ad : Nat → Nat} {l0 l1 l2 : Int32} {t : gSt} {post : Option Value → gSt → Prop} (hL : Lay t ad) (h : (l2 ≤ l1 → post (some (.int 0)) t) ∧ (¬ (l2 ≤ l1) → post (some (.int 1)) t)) : g_W cx (g_E cx d) mt_Tr_operate post (80, [some (.int l0), some (.int l1), some (.int l2)], [], t, 0, 0) := by
  refine g_run [1, 44, 48, 52, 56, 68, 80, 91, 102] 400 (fun P hP => ?_)
  refine And.intro (fun c => ?_) (fun c => ?_)
  · have h := h.1 c
    exact And.intro rfl (And.intro rfl h)
  · have h := h.2 c
    exact And.intro rfl (And.intro rfl h)
theorem x_Tr_operate_91 {cx : gCx} {d : Nat} {ad : Nat → Nat} {l0 l1 l2 : Int32} {t : gSt} {post : Option Value → gSt → Prop} (hL : Lay t ad) (h : (¬ l1 = l2 → post (some (.int 0)) t) ∧ (¬ (¬ l1 = l2) → post (some (.int 1)) t)) : g_W cx (g_E cx d) mt_Tr_operate post (91, [some (.int l0), some (.int l1), some (.int l2)], [], t, 0, 0) := by
  refine g_run [1, 44, 48, 52, 56, 68, 80, 91, 102] 400 (fun P hP => ?_)
  refine And.intro (fun c => ?_) (fun c => ?_)
  · have h := h.1 c
    exact And.intro rfl (And.intro rfl h)
  · have h := h.2 c
    exact And.intro rfl (And.intro rfl h)
theorem x_Tr_operate_102 {cx : gCx} {d : Nat} {ad : Nat → Nat} {l0 l1 l2 : Int32} {t : gSt} {post : Option Value → gSt → Prop} (hL : Lay t ad) (h : post (some (.int 0)) t) : g_W cx (g_E cx d) mt_Tr_operate post (102, [some (.int l0), some (.int l1), some (.int l2)], [], t, 0, 0) := by
  refine g_run [1, 44, 48, 52, 56, 68, 80, 91, 102] 400 (fun P hP => ?_)
  exact And.intro rfl (And.intro rfl h)
theorem x_Tr_dividesByZero {cx : gCx} {d : Nat} {ad : Nat → Nat} {a1 a2 : Int32} {t : gSt} {post : Option Value → gSt → Prop} (hL : Lay t ad) (h : (¬ a2 = 0 → post (some (.int 0)) t) ∧ (¬ (¬ a2 = 0) → (a1 = 6 → post (some (.int 1)) t) ∧ (¬ (a1 = 6) → (¬ a1 = 7 → post (some (.int 0)) t) ∧ (¬ (¬ a1 = 7) → post (some (.int 1)) t)))) : g_E cx (d + 1) i_Tr_dividesByZero [.int a1, .int a2] t post := by
  refine g_call mt_Tr_dividesByZero rfl (by decide) (Nat.le_of_ble_eq_true rfl) ?_
  refine g_run [] 400 (fun P hP => ?_)
  refine And.intro (fun c => ?_) (fun c => ?_)
  · have h := h.1 c
    exact And.intro rfl (And.intro rfl h)
  · have h := h.2 c
    refine And.intro (fun c => ?_) (fun c => ?_)
    · have h := h.1 c
      exact And.intro rfl (And.intro rfl h)
    · have h := h.2 c
      refine And.intro (fun c => ?_) (fun c => ?_)
      · have h := h.1 c
        exact And.intro rfl (And.intro rfl h)
      · have h := h.2 c
        exact And.intro rfl (And.intro rfl h)
theorem x_Tr_closeOver {cx : gCx} {d : Nat} {ad : Nat → Nat} {q : Nat} (hq : isR q) {a2 : Int32} {t : gSt} {post : Option Value → gSt → Prop} (hL : Lay t ad) (h : g_W cx (g_E cx d) mt_Tr_closeOver post (2, [some (.ref (ad q)), some (.int a2), some (.int 0), none], [], t, 0, 0)) : g_E cx (d + 1) i_Tr_closeOver [.ref (ad q), .int a2] t post := by
  refine g_call mt_Tr_closeOver rfl (by decide) (Nat.le_of_ble_eq_true rfl) ?_
  refine g_run [2, 9] 400 (fun P hP => ?_)
  exact hP _ h
theorem x_Tr_closeOver_2 {cx : gCx} {d : Nat} {ad : Nat → Nat} {q : Nat} (hq : isR q) {l1 l2 : Int32} {o3 : Option Value} {t : gSt} {post : Option Value → gSt → Prop} (hL : Lay t ad) (h : (l1 ≤ l2 → post none t) ∧ (¬ (l1 ≤ l2) → g_W cx (g_E cx d) mt_Tr_closeOver post (9, [some (.ref (ad q)), some (.int l1), some (.int l2), some (.int 0)], [], t, 0, 0))) : g_W cx (g_E cx d) mt_Tr_closeOver post (2, [some (.ref (ad q)), some (.int l1), some (.int l2), o3], [], t, 0, 0) := by
  refine g_run [2, 9] 400 (fun P hP => ?_)
  refine And.intro (fun c => ?_) (fun c => ?_)
  · have h := h.1 c
    exact And.intro rfl (And.intro rfl h)
  · have h := h.2 c
    exact hP _ h
theorem x_Tr_closeOver_9 {cx : gCx} {d : Nat} {ad : Nat → Nat} {q : Nat} (hq : isR q) {l1 l2 l3 : Int32} {t : gSt} {post : Option Value → gSt → Prop} (hL : Lay t ad) (h : (l1 ≤ l3 → g_W cx (g_E cx d) mt_Tr_closeOver post (2, [some (.ref (ad q)), some (.int l1), some (.int (l2 + 1)), some (.int l3)], [], t, 0, 0)) ∧ (¬ (l1 ≤ l3) → vp_in l3 24 ∧ (g_E cx d i_Tr_hasBit [.int (t.2.1 (ad q) (l3 : Int32).toNatClampNeg), .int l2] t (fun r u1 => ∃ y2 : Int32, r = some (.int y2) ∧ Lay u1 ad ∧ ((y2 = 0 → g_W cx (g_E cx d) mt_Tr_closeOver post (9, [some (.ref (ad q)), some (.int l1), some (.int l2), some (.int (l3 + 1))], [], u1, 0, 0)) ∧ (¬ (y2 = 0) → vp_in l3 24 ∧ (vp_in l2 24 ∧ (vp_in l3 24 ∧ (∀ t3, t3 = g_si u1 (ad q) (l3 : Int32).toNatClampNeg ((u1.2.1 (ad q) (l3 : Int32).toNatClampNeg) ||| (u1.2.1 (ad q) (l2 : Int32).toNatClampNeg)) → g_W cx (g_E cx d) mt_Tr_closeOver post (9, [some (.ref (ad q)), some (.int l1), some (.int l2), some (.int (l3 + 1))], [], t3, 0, 0)))))))))) : g_W cx (g_E cx d) mt_Tr_closeOver post (9, [some (.ref (ad q)), some (.int l1), some (.int l2), some (.int l3)], [], t, 0, 0) := by
  refine g_run [2, 9] 400 (fun P hP => ?_)
  refine And.intro (fun c => ?_) (fun c => ?_)
  · have h := h.1 c
    exact hP _ h
  · have h := h.2 c
    refine Or.inl (And.intro (hL.rk hq) (And.intro (hL.rv hq h.1) ?_))
    have h := h.2
    refine g_Em h (fun r u h => ?_)
    obtain ⟨y2, rfl, hL, h⟩ := h
    refine And.intro (fun c => ?_) (fun c => ?_)
    · have h := h.1 c
      exact hP _ h
    · have h := h.2 c
      refine Or.inl (And.intro (hL.rk hq) (And.intro (hL.rv hq h.1) ?_))
      have h := h.2
      refine Or.inl (And.intro (hL.rk hq) (And.intro (hL.rv hq h.1) ?_))
      have h := h.2
      refine And.intro (hL.rk hq) (And.intro (hL.rv hq h.1) ?_)
      have h := h.2 _ rfl
      exact hP _ h
theorem x_Tr_hasBit {cx : gCx} {d : Nat} {ad : Nat → Nat} {a1 a2 : Int32} {t : gSt} {post : Option Value → gSt → Prop} (hL : Lay t ad) (h : (((a1 >>> (a2 &&& 31)) &&& 1) = 0 → post (some (.int 0)) t) ∧ (¬ (((a1 >>> (a2 &&& 31)) &&& 1) = 0) → post (some (.int 1)) t)) : g_E cx (d + 1) i_Tr_hasBit [.int a1, .int a2] t post := by
  refine g_call mt_Tr_hasBit rfl (by decide) (Nat.le_of_ble_eq_true rfl) ?_
  refine g_run [] 400 (fun P hP => ?_)
  refine And.intro (fun c => ?_) (fun c => ?_)
  · have h := h.1 c
    exact And.intro rfl (And.intro rfl h)
  · have h := h.2 c
    exact And.intro rfl (And.intro rfl h)
