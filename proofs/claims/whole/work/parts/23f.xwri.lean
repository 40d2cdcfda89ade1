/-! PRINTED by wip/gen/xparts.py: symbolic execution, method by method -/
theorem x_Writer_writeOut {cx : gCx} {d : Nat} {ad : Nat → Nat} {p : Nat} (hp : isP p) {a2 : Int32} {t : gSt} {post : Option Value → gSt → Prop} (hL : Lay t ad) (h : ∀ t1, t1 = g_si t (ad 83) 5 0 → ∀ t2, t2 = g_si t1 (ad 83) 6 0 → ∀ t3, t3 = g_sr t2 (ad 83) 4 (some (ad p)) → g_E cx d i_Walk_begin [.ref (ad 84), .ref (ad p), .int a2] t3 (fun r u5 => r = none ∧ Lay u5 ad ∧ (g_W cx (g_E cx d) mt_Writer_writeOut post (26, [some (.ref (ad 83)), some (.ref (ad p)), some (.int a2), some (.int 0)], [], u5, 0, 0)))) : g_E cx (d + 1) i_Writer_writeOut [.ref (ad 83), .ref (ad p), .int a2] t post := by
  refine g_call mt_Writer_writeOut rfl (by decide) (Nat.le_of_ble_eq_true rfl) ?_
  refine g_run [26] 400 (fun P hP => ?_)
  refine And.intro (hL.k 83 (by decide)) ?_
  have h := h _ rfl
  refine And.intro (hL.k 83 (by decide)) (And.intro ⟨rfl, rfl⟩ ?_)
  have h := h _ rfl
  refine And.intro (hL.k 83 (by decide)) ?_
  have h := h _ rfl
  have hL := hL.sr 83 4 (some (ad p)) (by decide +kernel)
  refine And.intro (hL.k 83 (by decide)) (Or.inl ⟨_, (hL.r 83 0 84 (by decide)), ?_⟩)
  refine And.intro (hL.k 84 (by decide)) ?_
  refine g_Em h (fun r u h => ?_)
  obtain ⟨rfl, hL, h⟩ := h
  exact hP _ h
theorem x_Writer_writeOut_26 {cx : gCx} {d : Nat} {ad : Nat → Nat} {p : Nat} (hp : isP p) {v1 : Nat} (hv1 : isV v1) {v2 : Nat} (hv2 : isV v2) {l2 l3 : Int32} {t : gSt} {post : Option Value → gSt → Prop} (hL : Lay t ad) (hr_83_1 : t.2.2.2 (ad 83) 1 = some (ad v1)) (hr_83_2 : t.2.2.2 (ad 83) 2 = some (ad v2)) (h : (1500 ≤ l3 → ((t.2.1 (ad 83) 6) = 0 → ∀ t1, t1 = g_sr t (ad 83) 1 (some (ad v2)) → ∀ t3, t3 = g_sr t1 (ad 83) 2 (some (ad v1)) → ∀ t5, t5 = g_si t3 (ad 83) 7 (t3.2.1 (ad 83) 5) → post (some (.int 1)) t5) ∧ (¬ ((t.2.1 (ad 83) 6) = 0) → post (some (.int 0)) t)) ∧ (¬ (1500 ≤ l3) → g_E cx d i_Walk_advance [.ref (ad 84)] t (fun r u6 => ∃ y7 : Int32, r = some (.int y7) ∧ Lay u6 ad ∧ u6.2.2.2 (ad 83) 1 = some (ad v1) ∧ u6.2.2.2 (ad 83) 2 = some (ad v2) ∧ ((y7 = 0 → ((u6.2.1 (ad 83) 6) = 0 → ∀ t8, t8 = g_sr u6 (ad 83) 1 (some (ad v2)) → ∀ t10, t10 = g_sr t8 (ad 83) 2 (some (ad v1)) → ∀ t12, t12 = g_si t10 (ad 83) 7 (t10.2.1 (ad 83) 5) → post (some (.int 1)) t12) ∧ (¬ ((u6.2.1 (ad 83) 6) = 0) → post (some (.int 0)) u6)) ∧ (¬ (y7 = 0) → (¬ (u6.2.1 (ad 84) 5) = 1 → (¬ (u6.2.1 (ad 84) 5) = 2 → g_E cx d i_Writer_leave [.ref (ad 83), .int (u6.2.1 (ad 84) 6)] u6 (fun r u13 => r = none ∧ Lay u13 ad ∧ (g_W cx (g_E cx d) mt_Writer_writeOut post (26, [some (.ref (ad 83)), some (.ref (ad p)), some (.int l2), some (.int (l3 + 1))], [], u13, 0, 0)))) ∧ (¬ (¬ (u6.2.1 (ad 84) 5) = 2) → g_E cx d i_Writer_behindKid [.ref (ad 83), .int (u6.2.1 (ad 84) 6), .int (u6.2.1 (ad 84) 7)] u6 (fun r u15 => r = none ∧ Lay u15 ad ∧ (g_W cx (g_E cx d) mt_Writer_writeOut post (26, [some (.ref (ad 83)), some (.ref (ad p)), some (.int l2), some (.int (l3 + 1))], [], u15, 0, 0))))) ∧ (¬ (¬ (u6.2.1 (ad 84) 5) = 1) → g_E cx d i_Writer_enter [.ref (ad 83), .int (u6.2.1 (ad 84) 6)] u6 (fun r u17 => r = none ∧ Lay u17 ad ∧ (g_W cx (g_E cx d) mt_Writer_writeOut post (26, [some (.ref (ad 83)), some (.ref (ad p)), some (.int l2), some (.int (l3 + 1))], [], u17, 0, 0))))))))) : g_W cx (g_E cx d) mt_Writer_writeOut post (26, [some (.ref (ad 83)), some (.ref (ad p)), some (.int l2), some (.int l3)], [], t, 0, 0) := by
  refine g_run [26] 400 (fun P hP => ?_)
  refine And.intro (fun c => ?_) (fun c => ?_)
  · have h := h.1 c
    refine And.intro (hL.k 83 (by decide)) ?_
    refine And.intro (fun c => ?_) (fun c => ?_)
    · have h := h.1 c
      refine And.intro (hL.k 83 (by decide)) (Or.inl ⟨_, hr_83_1, ?_⟩)
      refine And.intro (hL.k 83 (by decide)) (Or.inl ⟨_, hr_83_2, ?_⟩)
      refine And.intro (hL.k 83 (by decide)) ?_
      have h := h _ rfl
      have hL := hL.sr 83 1 (some (ad v2)) (by decide +kernel)
      refine And.intro (hL.k 83 (by decide)) ?_
      have h := h _ rfl
      have hL := hL.sr 83 2 (some (ad v1)) (by decide +kernel)
      refine And.intro (hL.k 83 (by decide)) ?_
      refine And.intro (hL.k 83 (by decide)) ?_
      have h := h _ rfl
      exact And.intro rfl (And.intro rfl h)
    · have h := h.2 c
      exact And.intro rfl (And.intro rfl h)
  · have h := h.2 c
    refine And.intro (hL.k 83 (by decide)) (Or.inl ⟨_, (hL.r 83 0 84 (by decide)), ?_⟩)
    refine And.intro (hL.k 84 (by decide)) ?_
    refine g_Em h (fun r u h => ?_)
    obtain ⟨y7, rfl, hL, hr_83_1, hr_83_2, h⟩ := h
    refine And.intro (fun c => ?_) (fun c => ?_)
    · have h := h.1 c
      refine And.intro (hL.k 83 (by decide)) ?_
      refine And.intro (fun c => ?_) (fun c => ?_)
      · have h := h.1 c
        refine And.intro (hL.k 83 (by decide)) (Or.inl ⟨_, hr_83_1, ?_⟩)
        refine And.intro (hL.k 83 (by decide)) (Or.inl ⟨_, hr_83_2, ?_⟩)
        refine And.intro (hL.k 83 (by decide)) ?_
        have h := h _ rfl
        have hL := hL.sr 83 1 (some (ad v2)) (by decide +kernel)
        refine And.intro (hL.k 83 (by decide)) ?_
        have h := h _ rfl
        have hL := hL.sr 83 2 (some (ad v1)) (by decide +kernel)
        refine And.intro (hL.k 83 (by decide)) ?_
        refine And.intro (hL.k 83 (by decide)) ?_
        have h := h _ rfl
        exact And.intro rfl (And.intro rfl h)
      · have h := h.2 c
        exact And.intro rfl (And.intro rfl h)
    · have h := h.2 c
      refine And.intro (hL.k 83 (by decide)) (Or.inl ⟨_, (hL.r 83 0 84 (by decide)), ?_⟩)
      refine And.intro (hL.k 84 (by decide)) ?_
      refine And.intro (fun c => ?_) (fun c => ?_)
      · have h := h.1 c
        refine And.intro (hL.k 83 (by decide)) (Or.inl ⟨_, (hL.r 83 0 84 (by decide)), ?_⟩)
        refine And.intro (hL.k 84 (by decide)) ?_
        refine And.intro (fun c => ?_) (fun c => ?_)
        · have h := h.1 c
          refine And.intro (hL.k 83 (by decide)) (Or.inl ⟨_, (hL.r 83 0 84 (by decide)), ?_⟩)
          refine And.intro (hL.k 84 (by decide)) ?_
          refine And.intro (hL.k 83 (by decide)) ?_
          refine g_Em h (fun r u h => ?_)
          obtain ⟨rfl, hL, h⟩ := h
          exact hP _ h
        · have h := h.2 c
          refine And.intro (hL.k 83 (by decide)) (Or.inl ⟨_, (hL.r 83 0 84 (by decide)), ?_⟩)
          refine And.intro (hL.k 84 (by decide)) ?_
          refine And.intro (hL.k 83 (by decide)) (Or.inl ⟨_, (hL.r 83 0 84 (by decide)), ?_⟩)
          refine And.intro (hL.k 84 (by decide)) ?_
          refine And.intro (hL.k 83 (by decide)) ?_
          refine g_Em h (fun r u h => ?_)
          obtain ⟨rfl, hL, h⟩ := h
          exact hP _ h
      · have h := h.2 c
        refine And.intro (hL.k 83 (by decide)) (Or.inl ⟨_, (hL.r 83 0 84 (by decide)), ?_⟩)
        refine And.intro (hL.k 84 (by decide)) ?_
        refine And.intro (hL.k 83 (by decide)) ?_
        refine g_Em h (fun r u h => ?_)
        obtain ⟨rfl, hL, h⟩ := h
        exact hP _ h
theorem x_Writer_enter {cx : gCx} {d : Nat} {ad : Nat → Nat} {a1 : Int32} {t : gSt} {post : Option Value → gSt → Prop} (hL : Lay t ad) (h : vp_in a1 500 ∧ (∀ x1 : Int32, x1 = (t.2.1 (ad 87) (a1 : Int32).toNatClampNeg) → vp_in a1 500 ∧ (((t.2.1 (ad 86) (a1 : Int32).toNatClampNeg) = 1 → g_W cx (g_E cx d) mt_Writer_enter post (92, [some (.ref (ad 83)), some (.int a1), some (.int x1)], [], t, 0, 0)) ∧ ((t.2.1 (ad 86) (a1 : Int32).toNatClampNeg) = 2 → g_W cx (g_E cx d) mt_Writer_enter post (100, [some (.ref (ad 83)), some (.int a1), some (.int x1)], [], t, 0, 0)) ∧ ((t.2.1 (ad 86) (a1 : Int32).toNatClampNeg) = 10 → g_W cx (g_E cx d) mt_Writer_enter post (108, [some (.ref (ad 83)), some (.int a1), some (.int x1)], [], t, 0, 0)) ∧ ((t.2.1 (ad 86) (a1 : Int32).toNatClampNeg) = 11 → g_W cx (g_E cx d) mt_Writer_enter post (117, [some (.ref (ad 83)), some (.int a1), some (.int x1)], [], t, 0, 0)) ∧ ((t.2.1 (ad 86) (a1 : Int32).toNatClampNeg) = 13 → g_W cx (g_E cx d) mt_Writer_enter post (126, [some (.ref (ad 83)), some (.int a1), some (.int x1)], [], t, 0, 0)) ∧ ((t.2.1 (ad 86) (a1 : Int32).toNatClampNeg) = 14 → g_W cx (g_E cx d) mt_Writer_enter post (135, [some (.ref (ad 83)), some (.int a1), some (.int x1)], [], t, 0, 0)) ∧ ((t.2.1 (ad 86) (a1 : Int32).toNatClampNeg) = 15 → g_W cx (g_E cx d) mt_Writer_enter post (155, [some (.ref (ad 83)), some (.int a1), some (.int x1)], [], t, 0, 0)) ∧ ((t.2.1 (ad 86) (a1 : Int32).toNatClampNeg) < 1 ∨ 15 < (t.2.1 (ad 86) (a1 : Int32).toNatClampNeg) ∨ (t.2.1 (ad 86) (a1 : Int32).toNatClampNeg) = 3 ∨ (t.2.1 (ad 86) (a1 : Int32).toNatClampNeg) = 4 ∨ (t.2.1 (ad 86) (a1 : Int32).toNatClampNeg) = 5 ∨ (t.2.1 (ad 86) (a1 : Int32).toNatClampNeg) = 6 ∨ (t.2.1 (ad 86) (a1 : Int32).toNatClampNeg) = 7 ∨ (t.2.1 (ad 86) (a1 : Int32).toNatClampNeg) = 8 ∨ (t.2.1 (ad 86) (a1 : Int32).toNatClampNeg) = 9 ∨ (t.2.1 (ad 86) (a1 : Int32).toNatClampNeg) = 12 → g_W cx (g_E cx d) mt_Writer_enter post (177, [some (.ref (ad 83)), some (.int a1), some (.int x1)], [], t, 0, 0))))) : g_E cx (d + 1) i_Writer_enter [.ref (ad 83), .int a1] t post := by
  refine g_call mt_Writer_enter rfl (by decide) (Nat.le_of_ble_eq_true rfl) ?_
  refine g_run [19, 92, 100, 108, 117, 126, 135, 155, 177] 400 (fun P hP => ?_)
  refine And.intro (hL.k 83 (by decide)) (Or.inl ⟨_, (hL.r 83 0 84 (by decide)), ?_⟩)
  refine And.intro (hL.k 84 (by decide)) (Or.inl ⟨_, (hL.r 84 2 87 (by decide)), ?_⟩)
  refine Or.inl (And.intro (hL.k 87 (by decide)) (And.intro (hL.v 87 (by decide) h.1) ?_))
  have h := h.2
  have h := h _ rfl
  refine And.intro (hL.k 83 (by decide)) (Or.inl ⟨_, (hL.r 83 0 84 (by decide)), ?_⟩)
  refine And.intro (hL.k 84 (by decide)) (Or.inl ⟨_, (hL.r 84 1 86 (by decide)), ?_⟩)
  refine Or.inl (And.intro (hL.k 86 (by decide)) (And.intro (hL.v 86 (by decide) h.1) ?_))
  have h := h.2
  refine hP _ ?_
  rcases g_swc _ 1 15 (by decide) (by decide) (by decide) with c | c | ⟨j, hj, c⟩
  · exact g_sw (tgt := 177) rfl (g_swlo c) (h.2.2.2.2.2.2.2 (Or.inl c))
  · exact g_sw (tgt := 177) rfl (g_swhi c) (h.2.2.2.2.2.2.2 (Or.inr (Or.inl c)))
  · match j, hj with
    | 0, _ => exact g_sw (tgt := 92) rfl (by rw [c]; decide) (h.1 c)
    | 1, _ => exact g_sw (tgt := 100) rfl (by rw [c]; decide) (h.2.1 c)
    | 2, _ => exact g_sw (tgt := 177) rfl (by rw [c]; decide) (h.2.2.2.2.2.2.2 (Or.inr (Or.inr (Or.inl c))))
    | 3, _ => exact g_sw (tgt := 177) rfl (by rw [c]; decide) (h.2.2.2.2.2.2.2 (Or.inr (Or.inr (Or.inr (Or.inl c)))))
    | 4, _ => exact g_sw (tgt := 177) rfl (by rw [c]; decide) (h.2.2.2.2.2.2.2 (Or.inr (Or.inr (Or.inr (Or.inr (Or.inl c))))))
    | 5, _ => exact g_sw (tgt := 177) rfl (by rw [c]; decide) (h.2.2.2.2.2.2.2 (Or.inr (Or.inr (Or.inr (Or.inr (Or.inr (Or.inl c)))))))
    | 6, _ => exact g_sw (tgt := 177) rfl (by rw [c]; decide) (h.2.2.2.2.2.2.2 (Or.inr (Or.inr (Or.inr (Or.inr (Or.inr (Or.inr (Or.inl c))))))))
    | 7, _ => exact g_sw (tgt := 177) rfl (by rw [c]; decide) (h.2.2.2.2.2.2.2 (Or.inr (Or.inr (Or.inr (Or.inr (Or.inr (Or.inr (Or.inr (Or.inl c)))))))))
    | 8, _ => exact g_sw (tgt := 177) rfl (by rw [c]; decide) (h.2.2.2.2.2.2.2 (Or.inr (Or.inr (Or.inr (Or.inr (Or.inr (Or.inr (Or.inr (Or.inr (Or.inl c))))))))))
    | 9, _ => exact g_sw (tgt := 108) rfl (by rw [c]; decide) (h.2.2.1 c)
    | 10, _ => exact g_sw (tgt := 117) rfl (by rw [c]; decide) (h.2.2.2.1 c)
    | 11, _ => exact g_sw (tgt := 177) rfl (by rw [c]; decide) (h.2.2.2.2.2.2.2 (Or.inr (Or.inr (Or.inr (Or.inr (Or.inr (Or.inr (Or.inr (Or.inr (Or.inr c))))))))))
    | 12, _ => exact g_sw (tgt := 126) rfl (by rw [c]; decide) (h.2.2.2.2.1 c)
    | 13, _ => exact g_sw (tgt := 135) rfl (by rw [c]; decide) (h.2.2.2.2.2.1 c)
    | 14, _ => exact g_sw (tgt := 155) rfl (by rw [c]; decide) (h.2.2.2.2.2.2.1 c)
    | j + 15, hj => exact absurd hj (by omega)
theorem x_Writer_enter_92 {cx : gCx} {d : Nat} {ad : Nat → Nat} {l1 l2 : Int32} {t : gSt} {post : Option Value → gSt → Prop} (hL : Lay t ad) (h : g_E cx d i_Writer_addNumber [.ref (ad 83), .int l2] t (fun r u1 => r = none ∧ Lay u1 ad ∧ (post none u1))) : g_W cx (g_E cx d) mt_Writer_enter post (92, [some (.ref (ad 83)), some (.int l1), some (.int l2)], [], t, 0, 0) := by
  refine g_run [19, 92, 100, 108, 117, 126, 135, 155, 177] 400 (fun P hP => ?_)
  refine And.intro (hL.k 83 (by decide)) ?_
  refine g_Em h (fun r u h => ?_)
  obtain ⟨rfl, hL, h⟩ := h
  exact And.intro rfl (And.intro rfl h)
theorem x_Writer_enter_100 {cx : gCx} {d : Nat} {ad : Nat → Nat} {l1 l2 : Int32} {t : gSt} {post : Option Value → gSt → Prop} (hL : Lay t ad) (h : g_E cx d i_Writer_addVariable [.ref (ad 83), .int l2] t (fun r u1 => r = none ∧ Lay u1 ad ∧ (post none u1))) : g_W cx (g_E cx d) mt_Writer_enter post (100, [some (.ref (ad 83)), some (.int l1), some (.int l2)], [], t, 0, 0) := by
  refine g_run [19, 92, 100, 108, 117, 126, 135, 155, 177] 400 (fun P hP => ?_)
  refine And.intro (hL.k 83 (by decide)) ?_
  refine g_Em h (fun r u h => ?_)
  obtain ⟨rfl, hL, h⟩ := h
  exact And.intro rfl (And.intro rfl h)
theorem x_Writer_enter_108 {cx : gCx} {d : Nat} {ad : Nat → Nat} {l1 l2 : Int32} {t : gSt} {post : Option Value → gSt → Prop} (hL : Lay t ad) (h : g_E cx d i_Writer_addText [.ref (ad 83), .ref (cx.2.2.1 1)] t (fun r u1 => r = none ∧ Lay u1 ad ∧ (post none u1))) : g_W cx (g_E cx d) mt_Writer_enter post (108, [some (.ref (ad 83)), some (.int l1), some (.int l2)], [], t, 0, 0) := by
  refine g_run [19, 92, 100, 108, 117, 126, 135, 155, 177] 400 (fun P hP => ?_)
  refine And.intro (hL.k 83 (by decide)) ?_
  refine g_Em h (fun r u h => ?_)
  obtain ⟨rfl, hL, h⟩ := h
  exact And.intro rfl (And.intro rfl h)
theorem x_Writer_enter_117 {cx : gCx} {d : Nat} {ad : Nat → Nat} {l1 l2 : Int32} {t : gSt} {post : Option Value → gSt → Prop} (hL : Lay t ad) (h : g_E cx d i_Writer_addText [.ref (ad 83), .ref (cx.2.2.1 4)] t (fun r u1 => r = none ∧ Lay u1 ad ∧ (post none u1))) : g_W cx (g_E cx d) mt_Writer_enter post (117, [some (.ref (ad 83)), some (.int l1), some (.int l2)], [], t, 0, 0) := by
  refine g_run [19, 92, 100, 108, 117, 126, 135, 155, 177] 400 (fun P hP => ?_)
  refine And.intro (hL.k 83 (by decide)) ?_
  refine g_Em h (fun r u h => ?_)
  obtain ⟨rfl, hL, h⟩ := h
  exact And.intro rfl (And.intro rfl h)
theorem x_Writer_enter_126 {cx : gCx} {d : Nat} {ad : Nat → Nat} {l1 l2 : Int32} {t : gSt} {post : Option Value → gSt → Prop} (hL : Lay t ad) (h : g_E cx d i_Writer_addText [.ref (ad 83), .ref (cx.2.2.1 5)] t (fun r u1 => r = none ∧ Lay u1 ad ∧ (post none u1))) : g_W cx (g_E cx d) mt_Writer_enter post (126, [some (.ref (ad 83)), some (.int l1), some (.int l2)], [], t, 0, 0) := by
  refine g_run [19, 92, 100, 108, 117, 126, 135, 155, 177] 400 (fun P hP => ?_)
  refine And.intro (hL.k 83 (by decide)) ?_
  refine g_Em h (fun r u h => ?_)
  obtain ⟨rfl, hL, h⟩ := h
  exact And.intro rfl (And.intro rfl h)
theorem x_Writer_enter_135 {cx : gCx} {d : Nat} {ad : Nat → Nat} {l1 l2 : Int32} {t : gSt} {post : Option Value → gSt → Prop} (hL : Lay t ad) (h : g_E cx d i_Writer_addText [.ref (ad 83), .ref (cx.2.2.1 6)] t (fun r u1 => r = none ∧ Lay u1 ad ∧ (g_E cx d i_Writer_addVariable [.ref (ad 83), .int l2] u1 (fun r u3 => r = none ∧ Lay u3 ad ∧ (g_E cx d i_Writer_addText [.ref (ad 83), .ref (cx.2.2.1 7)] u3 (fun r u5 => r = none ∧ Lay u5 ad ∧ (post none u5))))))) : g_W cx (g_E cx d) mt_Writer_enter post (135, [some (.ref (ad 83)), some (.int l1), some (.int l2)], [], t, 0, 0) := by
  refine g_run [19, 92, 100, 108, 117, 126, 135, 155, 177] 400 (fun P hP => ?_)
  refine And.intro (hL.k 83 (by decide)) ?_
  refine g_Em h (fun r u h => ?_)
  obtain ⟨rfl, hL, h⟩ := h
  refine And.intro (hL.k 83 (by decide)) ?_
  refine g_Em h (fun r u h => ?_)
  obtain ⟨rfl, hL, h⟩ := h
  refine And.intro (hL.k 83 (by decide)) ?_
  refine g_Em h (fun r u h => ?_)
  obtain ⟨rfl, hL, h⟩ := h
  exact And.intro rfl (And.intro rfl h)
theorem x_Writer_enter_155 {cx : gCx} {d : Nat} {ad : Nat → Nat} {p : Nat} (hp : isP p) {l1 l2 : Int32} {t : gSt} {post : Option Value → gSt → Prop} (hL : Lay t ad) (hr_83_4 : t.2.2.2 (ad 83) 4 = some (ad p)) (h : vp_in l2 24 ∧ (g_E cx d i_Writer_addName [.ref (ad 83), .long (t.2.2.1 (ad (p + 1)) (l2 : Int32).toNatClampNeg)] t (fun r u1 => r = none ∧ Lay u1 ad ∧ (g_E cx d i_Writer_addText [.ref (ad 83), .ref (cx.2.2.1 8)] u1 (fun r u3 => r = none ∧ Lay u3 ad ∧ (post none u3)))))) : g_W cx (g_E cx d) mt_Writer_enter post (155, [some (.ref (ad 83)), some (.int l1), some (.int l2)], [], t, 0, 0) := by
  refine g_run [19, 92, 100, 108, 117, 126, 135, 155, 177] 400 (fun P hP => ?_)
  refine And.intro (hL.k 83 (by decide)) (Or.inl ⟨_, hr_83_4, ?_⟩)
  refine And.intro (hL.pk hp 0 (by decide)) (Or.inl ⟨_, (hL.pr hp 2 (by decide)), ?_⟩)
  refine Or.inl (And.intro (hL.pk hp 1 (by decide)) (And.intro (hL.pv hp 1 (by decide) (by decide) h.1) ?_))
  have h := h.2
  refine And.intro (hL.k 83 (by decide)) ?_
  refine g_Em h (fun r u h => ?_)
  obtain ⟨rfl, hL, h⟩ := h
  refine And.intro (hL.k 83 (by decide)) ?_
  refine g_Em h (fun r u h => ?_)
  obtain ⟨rfl, hL, h⟩ := h
  exact And.intro rfl (And.intro rfl h)
theorem x_Writer_enter_177 {cx : gCx} {d : Nat} {ad : Nat → Nat} {l1 l2 : Int32} {t : gSt} {post : Option Value → gSt → Prop} (hL : Lay t ad) (h : g_E cx d i_Writer_addText [.ref (ad 83), .ref (cx.2.2.1 8)] t (fun r u1 => r = none ∧ Lay u1 ad ∧ (post none u1))) : g_W cx (g_E cx d) mt_Writer_enter post (177, [some (.ref (ad 83)), some (.int l1), some (.int l2)], [], t, 0, 0) := by
  refine g_run [19, 92, 100, 108, 117, 126, 135, 155, 177] 400 (fun P hP => ?_)
  refine And.intro (hL.k 83 (by decide)) ?_
  refine g_Em h (fun r u h => ?_)
  obtain ⟨rfl, hL, h⟩ := h
  exact And.intro rfl (And.intro rfl h)
theorem x_Writer_behindKid {cx : gCx} {d : Nat} {ad : Nat → Nat} {p : Nat} (hp : isP p) {a1 a2 : Int32} {t : gSt} {post : Option Value → gSt → Prop} (hL : Lay t ad) (hr_83_4 : t.2.2.2 (ad 83) 4 = some (ad p)) (h : vp_in a1 500 ∧ (∀ x1 : Int32, x1 = (t.2.1 (ad 86) (a1 : Int32).toNatClampNeg) → vp_in a1 500 ∧ (g_E cx d i_Program_kids [.ref (ad p), .int x1, .int (t.2.1 (ad 87) (a1 : Int32).toNatClampNeg)] t (fun r u2 => ∃ y3 : Int32, r = some (.int y3) ∧ Lay u2 ad ∧ (((a2 + 1) < y3 → (x1 = 9 → g_W cx (g_E cx d) mt_Writer_behindKid post (76, [some (.ref (ad 83)), some (.int a1), some (.int a2), some (.int x1)], [], u2, 0, 0)) ∧ (x1 = 12 → g_W cx (g_E cx d) mt_Writer_behindKid post (85, [some (.ref (ad 83)), some (.int a1), some (.int a2), some (.int x1)], [], u2, 0, 0)) ∧ (x1 = 13 → g_W cx (g_E cx d) mt_Writer_behindKid post (94, [some (.ref (ad 83)), some (.int a1), some (.int a2), some (.int x1)], [], u2, 0, 0)) ∧ (x1 = 14 → g_W cx (g_E cx d) mt_Writer_behindKid post (112, [some (.ref (ad 83)), some (.int a1), some (.int a2), some (.int x1)], [], u2, 0, 0)) ∧ (x1 = 15 → g_W cx (g_E cx d) mt_Writer_behindKid post (121, [some (.ref (ad 83)), some (.int a1), some (.int a2), some (.int x1)], [], u2, 0, 0)) ∧ (x1 < 9 ∨ 15 < x1 ∨ x1 = 10 ∨ x1 = 11 → g_W cx (g_E cx d) mt_Writer_behindKid post (130, [some (.ref (ad 83)), some (.int a1), some (.int a2), some (.int x1)], [], u2, 0, 0))) ∧ (¬ ((a2 + 1) < y3) → post none u2)))))) : g_E cx (d + 1) i_Writer_behindKid [.ref (ad 83), .int a1, .int a2] t post := by
  refine g_call mt_Writer_behindKid rfl (by decide) (Nat.le_of_ble_eq_true rfl) ?_
  refine g_run [35, 76, 85, 94, 112, 121, 130] 400 (fun P hP => ?_)
  refine And.intro (hL.k 83 (by decide)) (Or.inl ⟨_, (hL.r 83 0 84 (by decide)), ?_⟩)
  refine And.intro (hL.k 84 (by decide)) (Or.inl ⟨_, (hL.r 84 1 86 (by decide)), ?_⟩)
  refine Or.inl (And.intro (hL.k 86 (by decide)) (And.intro (hL.v 86 (by decide) h.1) ?_))
  have h := h.2
  have h := h _ rfl
  refine And.intro (hL.k 83 (by decide)) (Or.inl ⟨_, hr_83_4, ?_⟩)
  refine And.intro (hL.k 83 (by decide)) (Or.inl ⟨_, (hL.r 83 0 84 (by decide)), ?_⟩)
  refine And.intro (hL.k 84 (by decide)) (Or.inl ⟨_, (hL.r 84 2 87 (by decide)), ?_⟩)
  refine Or.inl (And.intro (hL.k 87 (by decide)) (And.intro (hL.v 87 (by decide) h.1) ?_))
  have h := h.2
  refine And.intro (hL.pk hp 0 (by decide)) ?_
  refine g_Em h (fun r u h => ?_)
  obtain ⟨y3, rfl, hL, h⟩ := h
  refine And.intro (fun c => ?_) (fun c => ?_)
  · have h := h.1 c
    refine hP _ ?_
    rcases g_swc _ 9 15 (by decide) (by decide) (by decide) with c | c | ⟨j, hj, c⟩
    · exact g_sw (tgt := 130) rfl (g_swlo c) (h.2.2.2.2.2 (Or.inl c))
    · exact g_sw (tgt := 130) rfl (g_swhi c) (h.2.2.2.2.2 (Or.inr (Or.inl c)))
    · match j, hj with
      | 0, _ => exact g_sw (tgt := 76) rfl (by rw [c]; decide) (h.1 c)
      | 1, _ => exact g_sw (tgt := 130) rfl (by rw [c]; decide) (h.2.2.2.2.2 (Or.inr (Or.inr (Or.inl c))))
      | 2, _ => exact g_sw (tgt := 130) rfl (by rw [c]; decide) (h.2.2.2.2.2 (Or.inr (Or.inr (Or.inr c))))
      | 3, _ => exact g_sw (tgt := 85) rfl (by rw [c]; decide) (h.2.1 c)
      | 4, _ => exact g_sw (tgt := 94) rfl (by rw [c]; decide) (h.2.2.1 c)
      | 5, _ => exact g_sw (tgt := 112) rfl (by rw [c]; decide) (h.2.2.2.1 c)
      | 6, _ => exact g_sw (tgt := 121) rfl (by rw [c]; decide) (h.2.2.2.2.1 c)
      | j + 7, hj => exact absurd hj (by omega)
  · have h := h.2 c
    exact And.intro rfl (And.intro rfl h)
theorem x_Writer_behindKid_76 {cx : gCx} {d : Nat} {ad : Nat → Nat} {l1 l2 l3 : Int32} {t : gSt} {post : Option Value → gSt → Prop} (hL : Lay t ad) (h : g_E cx d i_Writer_addText [.ref (ad 83), .ref (cx.2.2.1 9)] t (fun r u1 => r = none ∧ Lay u1 ad ∧ (post none u1))) : g_W cx (g_E cx d) mt_Writer_behindKid post (76, [some (.ref (ad 83)), some (.int l1), some (.int l2), some (.int l3)], [], t, 0, 0) := by
  refine g_run [35, 76, 85, 94, 112, 121, 130] 400 (fun P hP => ?_)
  refine And.intro (hL.k 83 (by decide)) ?_
  refine g_Em h (fun r u h => ?_)
  obtain ⟨rfl, hL, h⟩ := h
  exact And.intro rfl (And.intro rfl h)
theorem x_Writer_behindKid_85 {cx : gCx} {d : Nat} {ad : Nat → Nat} {l1 l2 l3 : Int32} {t : gSt} {post : Option Value → gSt → Prop} (hL : Lay t ad) (h : g_E cx d i_Writer_addText [.ref (ad 83), .ref (cx.2.2.1 10)] t (fun r u1 => r = none ∧ Lay u1 ad ∧ (post none u1))) : g_W cx (g_E cx d) mt_Writer_behindKid post (85, [some (.ref (ad 83)), some (.int l1), some (.int l2), some (.int l3)], [], t, 0, 0) := by
  refine g_run [35, 76, 85, 94, 112, 121, 130] 400 (fun P hP => ?_)
  refine And.intro (hL.k 83 (by decide)) ?_
  refine g_Em h (fun r u h => ?_)
  obtain ⟨rfl, hL, h⟩ := h
  exact And.intro rfl (And.intro rfl h)
theorem x_Writer_behindKid_94 {cx : gCx} {d : Nat} {ad : Nat → Nat} {l1 l2 l3 : Int32} {t : gSt} {post : Option Value → gSt → Prop} (hL : Lay t ad) (h : (¬ l2 = 0 → g_E cx d i_Writer_addText [.ref (ad 83), .ref (cx.2.2.1 12)] t (fun r u1 => r = none ∧ Lay u1 ad ∧ (post none u1))) ∧ (¬ (¬ l2 = 0) → g_E cx d i_Writer_addText [.ref (ad 83), .ref (cx.2.2.1 11)] t (fun r u3 => r = none ∧ Lay u3 ad ∧ (post none u3)))) : g_W cx (g_E cx d) mt_Writer_behindKid post (94, [some (.ref (ad 83)), some (.int l1), some (.int l2), some (.int l3)], [], t, 0, 0) := by
  refine g_run [35, 76, 85, 94, 112, 121, 130] 400 (fun P hP => ?_)
  refine And.intro (fun c => ?_) (fun c => ?_)
  · have h := h.1 c
    refine And.intro (hL.k 83 (by decide)) ?_
    refine g_Em h (fun r u h => ?_)
    obtain ⟨rfl, hL, h⟩ := h
    exact And.intro rfl (And.intro rfl h)
  · have h := h.2 c
    refine And.intro (hL.k 83 (by decide)) ?_
    refine g_Em h (fun r u h => ?_)
    obtain ⟨rfl, hL, h⟩ := h
    exact And.intro rfl (And.intro rfl h)
theorem x_Writer_behindKid_112 {cx : gCx} {d : Nat} {ad : Nat → Nat} {l1 l2 l3 : Int32} {t : gSt} {post : Option Value → gSt → Prop} (hL : Lay t ad) (h : g_E cx d i_Writer_addText [.ref (ad 83), .ref (cx.2.2.1 13)] t (fun r u1 => r = none ∧ Lay u1 ad ∧ (post none u1))) : g_W cx (g_E cx d) mt_Writer_behindKid post (112, [some (.ref (ad 83)), some (.int l1), some (.int l2), some (.int l3)], [], t, 0, 0) := by
  refine g_run [35, 76, 85, 94, 112, 121, 130] 400 (fun P hP => ?_)
  refine And.intro (hL.k 83 (by decide)) ?_
  refine g_Em h (fun r u h => ?_)
  obtain ⟨rfl, hL, h⟩ := h
  exact And.intro rfl (And.intro rfl h)
theorem x_Writer_behindKid_121 {cx : gCx} {d : Nat} {ad : Nat → Nat} {l1 l2 l3 : Int32} {t : gSt} {post : Option Value → gSt → Prop} (hL : Lay t ad) (h : g_E cx d i_Writer_addText [.ref (ad 83), .ref (cx.2.2.1 14)] t (fun r u1 => r = none ∧ Lay u1 ad ∧ (post none u1))) : g_W cx (g_E cx d) mt_Writer_behindKid post (121, [some (.ref (ad 83)), some (.int l1), some (.int l2), some (.int l3)], [], t, 0, 0) := by
  refine g_run [35, 76, 85, 94, 112, 121, 130] 400 (fun P hP => ?_)
  refine And.intro (hL.k 83 (by decide)) ?_
  refine g_Em h (fun r u h => ?_)
  obtain ⟨rfl, hL, h⟩ := h
  exact And.intro rfl (And.intro rfl h)
theorem x_Writer_behindKid_130 {cx : gCx} {d : Nat} {ad : Nat → Nat} {l1 l2 l3 : Int32} {t : gSt} {post : Option Value → gSt → Prop} (hL : Lay t ad) (h : g_E cx d i_Writer_addOperator [.ref (ad 83), .int l3] t (fun r u1 => r = none ∧ Lay u1 ad ∧ (post none u1))) : g_W cx (g_E cx d) mt_Writer_behindKid post (130, [some (.ref (ad 83)), some (.int l1), some (.int l2), some (.int l3)], [], t, 0, 0) := by
  refine g_run [35, 76, 85, 94, 112, 121, 130] 400 (fun P hP => ?_)
  refine And.intro (hL.k 83 (by decide)) ?_
  refine g_Em h (fun r u h => ?_)
  obtain ⟨rfl, hL, h⟩ := h
  exact And.intro rfl (And.intro rfl h)
theorem x_Writer_leave {cx : gCx} {d : Nat} {ad : Nat → Nat} {a1 : Int32} {t : gSt} {post : Option Value → gSt → Prop} (hL : Lay t ad) (h : vp_in a1 500 ∧ (((t.2.1 (ad 86) (a1 : Int32).toNatClampNeg) = 1 → post none t) ∧ (¬ ((t.2.1 (ad 86) (a1 : Int32).toNatClampNeg) = 1) → vp_in a1 500 ∧ (((t.2.1 (ad 86) (a1 : Int32).toNatClampNeg) = 2 → post none t) ∧ (¬ ((t.2.1 (ad 86) (a1 : Int32).toNatClampNeg) = 2) → g_E cx d i_Writer_addText [.ref (ad 83), .ref (cx.2.2.1 2)] t (fun r u1 => r = none ∧ Lay u1 ad ∧ (post none u1))))))) : g_E cx (d + 1) i_Writer_leave [.ref (ad 83), .int a1] t post := by
  refine g_call mt_Writer_leave rfl (by decide) (Nat.le_of_ble_eq_true rfl) ?_
  refine g_run [] 400 (fun P hP => ?_)
  refine And.intro (hL.k 83 (by decide)) (Or.inl ⟨_, (hL.r 83 0 84 (by decide)), ?_⟩)
  refine And.intro (hL.k 84 (by decide)) (Or.inl ⟨_, (hL.r 84 1 86 (by decide)), ?_⟩)
  refine Or.inl (And.intro (hL.k 86 (by decide)) (And.intro (hL.v 86 (by decide) h.1) ?_))
  have h := h.2
  refine And.intro (fun c => ?_) (fun c => ?_)
  · have h := h.1 c
    exact And.intro rfl (And.intro rfl h)
  · have h := h.2 c
    refine And.intro (hL.k 83 (by decide)) (Or.inl ⟨_, (hL.r 83 0 84 (by decide)), ?_⟩)
    refine And.intro (hL.k 84 (by decide)) (Or.inl ⟨_, (hL.r 84 1 86 (by decide)), ?_⟩)
    refine Or.inl (And.intro (hL.k 86 (by decide)) (And.intro (hL.v 86 (by decide) h.1) ?_))
    have h := h.2
    refine And.intro (fun c => ?_) (fun c => ?_)
    · have h := h.1 c
      exact And.intro rfl (And.intro rfl h)
    · have h := h.2 c
      refine And.intro (hL.k 83 (by decide)) ?_
      refine g_Em h (fun r u h => ?_)
      obtain ⟨rfl, hL, h⟩ := h
      exact And.intro rfl (And.intro rfl h)
theorem x_Writer_addOperator {cx : gCx} {d : Nat} {ad : Nat → Nat} {a1 : Int32} {t : gSt} {post : Option Value → gSt → Prop} (hL : Lay t ad) (hz : ∃ z, cx.2.1 (cx.2.2.1 15) z ∧ z.1 = 20) (h : (a1 < 3 → post none t) ∧ (¬ (a1 < 3) → (8 < a1 → post none t) ∧ (¬ (8 < a1) → g_E cx d i_Str_charAt_5068e [.ref (cx.2.2.1 15), .int (a1 - 3)] t (fun r u1 => ∃ y2 : Int32, r = some (.int y2) ∧ Lay u1 ad ∧ (g_E cx d i_Writer_addByte [.ref (ad 83), .int y2] u1 (fun r u3 => r = none ∧ Lay u3 ad ∧ (post none u3))))))) : g_E cx (d + 1) i_Writer_addOperator [.ref (ad 83), .int a1] t post := by
  refine g_call mt_Writer_addOperator rfl (by decide) (Nat.le_of_ble_eq_true rfl) ?_
  refine g_run [] 400 (fun P hP => ?_)
  refine And.intro (fun c => ?_) (fun c => ?_)
  · have h := h.1 c
    exact And.intro rfl (And.intro rfl h)
  · have h := h.2 c
    refine And.intro (fun c => ?_) (fun c => ?_)
    · have h := h.1 c
      exact And.intro rfl (And.intro rfl h)
    · have h := h.2 c
      refine And.intro hz ?_
      refine g_Em h (fun r u h => ?_)
      obtain ⟨y2, rfl, hL, h⟩ := h
      refine And.intro (hL.k 83 (by decide)) ?_
      refine g_Em h (fun r u h => ?_)
      obtain ⟨rfl, hL, h⟩ := h
      exact And.intro rfl (And.intro rfl h)
theorem x_Writer_addNumber {cx : gCx} {d : Nat} {ad : Nat → Nat} {a1 : Int32} {t : gSt} {post : Option Value → gSt → Prop} (hL : Lay t ad) (h : (0 ≤ a1 → g_E cx d i_Writer_addDigits [.ref (ad 83), .long a1.toInt64] t (fun r u1 => r = none ∧ Lay u1 ad ∧ (post none u1))) ∧ (¬ (0 ≤ a1) → g_E cx d i_Writer_addText [.ref (ad 83), .ref (cx.2.2.1 1)] t (fun r u3 => r = none ∧ Lay u3 ad ∧ (g_E cx d i_Writer_addDigits [.ref (ad 83), .long (-a1.toInt64)] u3 (fun r u5 => r = none ∧ Lay u5 ad ∧ (g_E cx d i_Writer_addText [.ref (ad 83), .ref (cx.2.2.1 2)] u5 (fun r u7 => r = none ∧ Lay u7 ad ∧ (post none u7)))))))) : g_E cx (d + 1) i_Writer_addNumber [.ref (ad 83), .int a1] t post := by
  refine g_call mt_Writer_addNumber rfl (by decide) (Nat.le_of_ble_eq_true rfl) ?_
  refine g_run [] 400 (fun P hP => ?_)
  refine And.intro (fun c => ?_) (fun c => ?_)
  · have h := h.1 c
    refine And.intro (hL.k 83 (by decide)) ?_
    refine g_Em h (fun r u h => ?_)
    obtain ⟨rfl, hL, h⟩ := h
    exact And.intro rfl (And.intro rfl h)
  · have h := h.2 c
    refine And.intro (hL.k 83 (by decide)) ?_
    refine g_Em h (fun r u h => ?_)
    obtain ⟨rfl, hL, h⟩ := h
    refine And.intro (hL.k 83 (by decide)) ?_
    refine g_Em h (fun r u h => ?_)
    obtain ⟨rfl, hL, h⟩ := h
    refine And.intro (hL.k 83 (by decide)) ?_
    refine g_Em h (fun r u h => ?_)
    obtain ⟨rfl, hL, h⟩ := h
    exact And.intro rfl (And.intro rfl h)
theorem x_Writer_addVariable {cx : gCx} {d : Nat} {ad : Nat → Nat} {a1 : Int32} {t : gSt} {post : Option Value → gSt → Prop} (hL : Lay t ad) (h : g_E cx d i_Writer_addText [.ref (ad 83), .ref (cx.2.2.1 3)] t (fun r u1 => r = none ∧ Lay u1 ad ∧ (g_E cx d i_Writer_addDigits [.ref (ad 83), .long a1.toInt64] u1 (fun r u3 => r = none ∧ Lay u3 ad ∧ (post none u3))))) : g_E cx (d + 1) i_Writer_addVariable [.ref (ad 83), .int a1] t post := by
  refine g_call mt_Writer_addVariable rfl (by decide) (Nat.le_of_ble_eq_true rfl) ?_
  refine g_run [] 400 (fun P hP => ?_)
  refine And.intro (hL.k 83 (by decide)) ?_
  refine g_Em h (fun r u h => ?_)
  obtain ⟨rfl, hL, h⟩ := h
  refine And.intro (hL.k 83 (by decide)) ?_
  refine g_Em h (fun r u h => ?_)
  obtain ⟨rfl, hL, h⟩ := h
  exact And.intro rfl (And.intro rfl h)
theorem x_Writer_addDigits {cx : gCx} {d : Nat} {ad : Nat → Nat} {a1 : Int64} {t : gSt} {post : Option Value → gSt → Prop} (hL : Lay t ad) (h : g_W cx (g_E cx d) mt_Writer_addDigits post (5, [some (.ref (ad 83)), some (.long a1), none, some (.long a1), none, some (.int 0), none], [], t, 0, 0)) : g_E cx (d + 1) i_Writer_addDigits [.ref (ad 83), .long a1] t post := by
  refine g_call mt_Writer_addDigits rfl (by decide) (Nat.le_of_ble_eq_true rfl) ?_
  refine g_run [5, 54] 400 (fun P hP => ?_)
  exact hP _ h
theorem x_Writer_addDigits_5 {cx : gCx} {d : Nat} {ad : Nat → Nat} {l5 : Int32} {l1 l3 : Int64} {t : gSt} {post : Option Value → gSt → Prop} (hL : Lay t ad) (h : vp_in l5 10 ∧ (∀ t1, t1 = g_si t (ad 92) (l5 : Int32).toNatClampNeg (vp_nar .char ((48 + (l3 - l3 / 10 * 10)).toInt32.toUInt32 % 65536).toInt32) → ∀ x2 : Int64, x2 = (l3 / 10) → ((Int32.ofNat (t1.1.2.2 (ad 92))) ≤ (l5 + 1) → ∀ x3 : Int32, x3 = ((l5 + 1) - 1) → g_W cx (g_E cx d) mt_Writer_addDigits post (54, [some (.ref (ad 83)), some (.long l1), none, some (.long x2), none, some (.int (l5 + 1)), some (.int x3)], [], t1, 0, 0)) ∧ (¬ ((Int32.ofNat (t1.1.2.2 (ad 92))) ≤ (l5 + 1)) → (0 < (lg_cmp x2 0) → g_W cx (g_E cx d) mt_Writer_addDigits post (5, [some (.ref (ad 83)), some (.long l1), none, some (.long x2), none, some (.int (l5 + 1)), none], [], t1, 0, 0)) ∧ (¬ (0 < (lg_cmp x2 0)) → ∀ x4 : Int32, x4 = ((l5 + 1) - 1) → g_W cx (g_E cx d) mt_Writer_addDigits post (54, [some (.ref (ad 83)), some (.long l1), none, some (.long x2), none, some (.int (l5 + 1)), some (.int x4)], [], t1, 0, 0))))) : g_W cx (g_E cx d) mt_Writer_addDigits post (5, [some (.ref (ad 83)), some (.long l1), none, some (.long l3), none, some (.int l5), none], [], t, 0, 0) := by
  refine g_run [5, 54] 400 (fun P hP => ?_)
  refine And.intro (hL.k 83 (by decide)) (Or.inl ⟨_, (hL.r 83 3 92 (by decide)), ?_⟩)
  refine And.intro (by decide) ?_
  refine And.intro (hL.k 92 (by decide)) (And.intro (hL.v 92 (by decide) h.1) ?_)
  have h := h.2 _ rfl
  refine And.intro (by decide) ?_
  have h := h _ rfl
  refine And.intro (hL.k 83 (by decide)) (Or.inl ⟨_, (hL.r 83 3 92 (by decide)), ?_⟩)
  refine Or.inl (And.intro (hL.k 92 (by decide)).1 (And.intro (g_karr (hL.k 92 (by decide)) (by decide) (by decide)) ?_))
  refine And.intro (fun c => ?_) (fun c => ?_)
  · have h := h.1 c
    have h := h _ rfl
    exact hP _ h
  · have h := h.2 c
    refine And.intro (fun c => ?_) (fun c => ?_)
    · have h := h.1 c
      exact hP _ h
    · have h := h.2 c
      have h := h _ rfl
      exact hP _ h
theorem x_Writer_addDigits_54 {cx : gCx} {d : Nat} {ad : Nat → Nat} {l5 l6 : Int32} {l1 l3 : Int64} {t : gSt} {post : Option Value → gSt → Prop} (hL : Lay t ad) (h : (l6 < 0 → post none t) ∧ (¬ (l6 < 0) → vp_in l6 10 ∧ (g_E cx d i_Writer_addByte [.ref (ad 83), .int (t.2.1 (ad 92) (l6 : Int32).toNatClampNeg)] t (fun r u1 => r = none ∧ Lay u1 ad ∧ (g_W cx (g_E cx d) mt_Writer_addDigits post (54, [some (.ref (ad 83)), some (.long l1), none, some (.long l3), none, some (.int l5), some (.int (l6 + (-1)))], [], u1, 0, 0)))))) : g_W cx (g_E cx d) mt_Writer_addDigits post (54, [some (.ref (ad 83)), some (.long l1), none, some (.long l3), none, some (.int l5), some (.int l6)], [], t, 0, 0) := by
  refine g_run [5, 54] 400 (fun P hP => ?_)
  refine And.intro (fun c => ?_) (fun c => ?_)
  · have h := h.1 c
    exact And.intro rfl (And.intro rfl h)
  · have h := h.2 c
    refine And.intro (hL.k 83 (by decide)) (Or.inl ⟨_, (hL.r 83 3 92 (by decide)), ?_⟩)
    refine And.intro (hL.k 92 (by decide)) (And.intro (hL.v 92 (by decide) h.1) ?_)
    have h := h.2
    refine And.intro (hL.k 83 (by decide)) ?_
    refine g_Em h (fun r u h => ?_)
    obtain ⟨rfl, hL, h⟩ := h
    exact hP _ h
theorem x_Writer_addName {cx : gCx} {d : Nat} {ad : Nat → Nat} {a1 : Int64} {t : gSt} {post : Option Value → gSt → Prop} (hL : Lay t ad) (h : g_W cx (g_E cx d) mt_Writer_addName post (3, [some (.ref (ad 83)), some (.long a1), none, some (.int 7), none], [], t, 0, 0)) : g_E cx (d + 1) i_Writer_addName [.ref (ad 83), .long a1] t post := by
  refine g_call mt_Writer_addName rfl (by decide) (Nat.le_of_ble_eq_true rfl) ?_
  refine g_run [3] 400 (fun P hP => ?_)
  exact hP _ h
theorem x_Writer_addName_3 {cx : gCx} {d : Nat} {ad : Nat → Nat} {l3 : Int32} {l1 : Int64} {o4 : Option Value} {t : gSt} {post : Option Value → gSt → Prop} (hL : Lay t ad) (h : (l3 < 0 → post none t) ∧ (¬ (l3 < 0) → ∀ x1 : Int32, x1 = ((l1 >>> (((8 * l3) : Int32).toInt64 &&& 63)).toInt32 &&& 255) → (x1 = 0 → g_W cx (g_E cx d) mt_Writer_addName post (3, [some (.ref (ad 83)), some (.long l1), none, some (.int (l3 + (-1))), some (.int x1)], [], t, 0, 0)) ∧ (¬ (x1 = 0) → g_E cx d i_Writer_addByte [.ref (ad 83), .int (x1.toUInt32 % 65536).toInt32] t (fun r u2 => r = none ∧ Lay u2 ad ∧ (g_W cx (g_E cx d) mt_Writer_addName post (3, [some (.ref (ad 83)), some (.long l1), none, some (.int (l3 + (-1))), some (.int x1)], [], u2, 0, 0)))))) : g_W cx (g_E cx d) mt_Writer_addName post (3, [some (.ref (ad 83)), some (.long l1), none, some (.int l3), o4], [], t, 0, 0) := by
  refine g_run [3] 400 (fun P hP => ?_)
  refine And.intro (fun c => ?_) (fun c => ?_)
  · have h := h.1 c
    exact And.intro rfl (And.intro rfl h)
  · have h := h.2 c
    have h := h _ rfl
    refine And.intro (fun c => ?_) (fun c => ?_)
    · have h := h.1 c
      exact hP _ h
    · have h := h.2 c
      refine And.intro (hL.k 83 (by decide)) ?_
      refine g_Em h (fun r u h => ?_)
      obtain ⟨rfl, hL, h⟩ := h
      exact hP _ h
theorem x_Writer_addText {cx : gCx} {d : Nat} {ad : Nat → Nat} {sa : Nat} {t : gSt} {post : Option Value → gSt → Prop} (hL : Lay t ad) (h : g_W cx (g_E cx d) mt_Writer_addText post (2, [some (.ref (ad 83)), some (.ref sa), some (.int 0)], [], t, 0, 0)) : g_E cx (d + 1) i_Writer_addText [.ref (ad 83), .ref sa] t post := by
  refine g_call mt_Writer_addText rfl (by decide) (Nat.le_of_ble_eq_true rfl) ?_
  refine g_run [2] 400 (fun P hP => ?_)
  exact hP _ h
theorem x_Writer_addText_2 {cx : gCx} {d : Nat} {ad : Nat → Nat} {l2 : Int32} {sa : Nat} {t : gSt} {post : Option Value → gSt → Prop} (hL : Lay t ad) (hz : ∃ z, cx.2.1 sa z ∧ z.1 = 20) (h : g_E cx d i_Str_length_8abf5 [.ref sa] t (fun r u1 => ∃ y2 : Int32, r = some (.int y2) ∧ Lay u1 ad ∧ ((y2 ≤ l2 → post none u1) ∧ (¬ (y2 ≤ l2) → g_E cx d i_Str_charAt_5068e [.ref sa, .int l2] u1 (fun r u3 => ∃ y4 : Int32, r = some (.int y4) ∧ Lay u3 ad ∧ (g_E cx d i_Writer_addByte [.ref (ad 83), .int y4] u3 (fun r u5 => r = none ∧ Lay u5 ad ∧ (g_W cx (g_E cx d) mt_Writer_addText post (2, [some (.ref (ad 83)), some (.ref sa), some (.int (l2 + 1))], [], u5, 0, 0))))))))) : g_W cx (g_E cx d) mt_Writer_addText post (2, [some (.ref (ad 83)), some (.ref sa), some (.int l2)], [], t, 0, 0) := by
  refine g_run [2] 400 (fun P hP => ?_)
  refine And.intro hz ?_
  refine g_Em h (fun r u h => ?_)
  obtain ⟨y2, rfl, hL, h⟩ := h
  refine And.intro (fun c => ?_) (fun c => ?_)
  · have h := h.1 c
    exact And.intro rfl (And.intro rfl h)
  · have h := h.2 c
    refine And.intro hz ?_
    refine g_Em h (fun r u h => ?_)
    obtain ⟨y4, rfl, hL, h⟩ := h
    refine And.intro (hL.k 83 (by decide)) ?_
    refine g_Em h (fun r u h => ?_)
    obtain ⟨rfl, hL, h⟩ := h
    exact hP _ h
theorem x_Writer_addByte {cx : gCx} {d : Nat} {ad : Nat → Nat} {v2 : Nat} (hv2 : isV v2) {a1 : Int32} {t : gSt} {post : Option Value → gSt → Prop} (hL : Lay t ad) (hr_83_2 : t.2.2.2 (ad 83) 2 = some (ad v2)) (h : ((t.2.1 (ad 83) 5) < 6000 → vp_in (t.2.1 (ad 83) 5) 6000 ∧ (∀ t1, t1 = g_si t (ad v2) ((t.2.1 (ad 83) 5) : Int32).toNatClampNeg (vp_nar .byte a1.toInt8.toInt32) → ∀ t2, t2 = g_si t1 (ad 83) 5 ((t1.2.1 (ad 83) 5) + 1) → post none t2)) ∧ (¬ ((t.2.1 (ad 83) 5) < 6000) → ∀ t3, t3 = g_si t (ad 83) 6 1 → post none t3)) : g_E cx (d + 1) i_Writer_addByte [.ref (ad 83), .int a1] t post := by
  refine g_call mt_Writer_addByte rfl (by decide) (Nat.le_of_ble_eq_true rfl) ?_
  refine g_run [] 400 (fun P hP => ?_)
  refine And.intro (hL.k 83 (by decide)) ?_
  refine And.intro (fun c => ?_) (fun c => ?_)
  · have h := h.1 c
    refine And.intro (hL.k 83 (by decide)) (Or.inl ⟨_, hr_83_2, ?_⟩)
    refine And.intro (hL.k 83 (by decide)) ?_
    refine And.intro (hL.vv hv2 h.1) (Or.inl (And.intro (hL.vk hv2) ?_))
    have h := h.2 _ rfl
    refine And.intro (hL.k 83 (by decide)) ?_
    refine And.intro (hL.k 83 (by decide)) ?_
    have h := h _ rfl
    exact And.intro rfl (And.intro rfl h)
  · have h := h.2 c
    refine And.intro (hL.k 83 (by decide)) (And.intro ⟨rfl, rfl⟩ ?_)
    have h := h _ rfl
    exact And.intro rfl (And.intro rfl h)
