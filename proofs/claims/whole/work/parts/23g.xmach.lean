/-! PRINTED by wip/gen/xparts.py: symbolic execution, method by method -/
theorem x_Machine_load {cx : gCx} {d : Nat} {ad : Nat → Nat} {p : Nat} (hp : isP p) {a2 : Int32} {t : gSt} {post : Option Value → gSt → Prop} (hL : Lay t ad) (h : ∀ t1, t1 = g_sr t (ad 93) 6 (some (ad p)) → ∀ t3, t3 = g_si t1 (ad 93) 7 (if 20000 < a2 then 20000 else a2) → ∀ t4, t4 = g_si t3 (ad 93) 1 0 → ∀ t5, t5 = g_si t4 (ad 93) 2 0 → ∀ t6, t6 = g_si t5 (ad 93) 3 0 → ∀ t7, t7 = g_si t6 (ad 93) 4 0 → post none t7) : g_E cx (d + 1) i_Machine_load [.ref (ad 93), .ref (ad p), .int a2] t post := by
  refine g_call mt_Machine_load rfl (by decide) (Nat.le_of_ble_eq_true rfl) ?_
  refine g_run [] 400 (fun P hP => ?_)
  refine And.intro (hL.k 93 (by decide)) ?_
  have h := h _ rfl
  have hL := hL.sr 93 6 (some (ad p)) (by decide +kernel)
  refine And.intro (hL.k 93 (by decide)) ?_
  have h := h _ rfl
  refine And.intro (hL.k 93 (by decide)) ?_
  have h := h _ rfl
  refine And.intro (hL.k 93 (by decide)) ?_
  have h := h _ rfl
  refine And.intro (hL.k 93 (by decide)) ?_
  have h := h _ rfl
  refine And.intro (hL.k 93 (by decide)) ?_
  have h := h _ rfl
  exact And.intro rfl (And.intro rfl h)
theorem x_Machine_perform {cx : gCx} {d : Nat} {ad : Nat → Nat} {p : Nat} (hp : isP p) {a1 a3 : Int32} {t : gSt} {post : Option Value → gSt → Prop} (hL : Lay t ad) (h : g_E cx d i_Machine_fits [.ref (ad 93), .int a1, .int 0] t (fun r u1 => ∃ y2 : Int32, r = some (.int y2) ∧ Lay u1 ad ∧ u1.2.2.2 (ad 93) 6 = some (ad p) ∧ ((¬ y2 = 0 → vp_in a1 24 ∧ ((¬ 0 < 0 ∧ ¬ 2 < 0 ∧ ¬ (u1.2.1 (ad (p + 2)) (a1 : Int32).toNatClampNeg) < 0 ∧ (0 : Int32).toNatClampNeg + ((u1.2.1 (ad (p + 2)) (a1 : Int32).toNatClampNeg) : Int32).toNatClampNeg ≤ 6 ∧ (2 : Int32).toNatClampNeg + ((u1.2.1 (ad (p + 2)) (a1 : Int32).toNatClampNeg) : Int32).toNatClampNeg ≤ 20000) ∧ (∀ t3, t3 = g_row u1 (ad 95) (va_cpy (u1.2.1 (ad 2)) (u1.2.1 (ad 95)) (0 : Int32).toNatClampNeg (2 : Int32).toNatClampNeg ((u1.2.1 (ad (p + 2)) (a1 : Int32).toNatClampNeg) : Int32).toNatClampNeg) → vp_in 0 20000 ∧ (∀ t4, t4 = g_si t3 (ad 95) (0 : Int32).toNatClampNeg (-1) → vp_in 1 20000 ∧ (∀ t5, t5 = g_si t4 (ad 95) (1 : Int32).toNatClampNeg 0 → g_E cx d i_Machine_enterFrame [.ref (ad 93), .int a1, .int 0] t5 (fun r u6 => r = none ∧ Lay u6 ad ∧ (g_W cx (g_E cx d) mt_Machine_perform post (53, [some (.ref (ad 93)), some (.int a1), some (.ref (ad 2)), some (.int a3), some (.int 0)], [], u6, 0, 0)))))))) ∧ (¬ (¬ y2 = 0) → post (some (.int 2)) u1)))) : g_E cx (d + 1) i_Machine_perform [.ref (ad 93), .int a1, .ref (ad 2), .int a3] t post := by
  refine g_call mt_Machine_perform rfl (by decide) (Nat.le_of_ble_eq_true rfl) ?_
  refine g_run [53] 400 (fun P hP => ?_)
  refine And.intro (hL.k 93 (by decide)) ?_
  refine g_Em h (fun r u h => ?_)
  obtain ⟨y2, rfl, hL, hr_93_6, h⟩ := h
  refine And.intro (fun c => ?_) (fun c => ?_)
  · have h := h.1 c
    refine And.intro (hL.k 93 (by decide)) (Or.inl ⟨_, (hL.r 93 5 95 (by decide)), ?_⟩)
    refine And.intro (hL.k 93 (by decide)) (Or.inl ⟨_, hr_93_6, ?_⟩)
    refine And.intro (hL.pk hp 0 (by decide)) (Or.inl ⟨_, (hL.pr hp 3 (by decide)), ?_⟩)
    refine Or.inl (And.intro (hL.pk hp 2 (by decide)) (And.intro (hL.pv hp 2 (by decide) (by decide) h.1) ?_))
    have h := h.2
    refine And.intro (hL.k 95 (by decide)) (And.intro (hL.k 2 (by decide)) (And.intro ⟨(by decide), (by decide), h.1.2.2.1, (hL.la 2 (by decide) h.1.2.2.2.1), (hL.la 95 (by decide) h.1.2.2.2.2)⟩ ?_))
    have h := h.2 _ rfl
    refine And.intro (hL.k 93 (by decide)) (Or.inl ⟨_, (hL.r 93 5 95 (by decide)), ?_⟩)
    refine And.intro (hL.k 95 (by decide)) (And.intro (hL.v 95 (by decide) h.1) ?_)
    have h := h.2 _ rfl
    refine And.intro (hL.k 93 (by decide)) (Or.inl ⟨_, (hL.r 93 5 95 (by decide)), ?_⟩)
    refine And.intro (hL.k 95 (by decide)) (And.intro (hL.v 95 (by decide) h.1) ?_)
    have h := h.2 _ rfl
    refine And.intro (hL.k 93 (by decide)) ?_
    refine g_Em h (fun r u h => ?_)
    obtain ⟨rfl, hL, h⟩ := h
    exact hP _ h
  · have h := h.2 c
    exact And.intro rfl (And.intro rfl h)
theorem x_Machine_perform_53 {cx : gCx} {d : Nat} {ad : Nat → Nat} {l1 l3 l4 : Int32} {t : gSt} {post : Option Value → gSt → Prop} (hL : Lay t ad) (h : (l3 ≤ (t.2.1 (ad 93) 2) → (¬ l4 = 0 → post (some (.int l4)) t) ∧ (¬ (¬ l4 = 0) → post (some (.int 4)) t)) ∧ (¬ (l3 ≤ (t.2.1 (ad 93) 2)) → (¬ l4 = 0 → (¬ l4 = 0 → post (some (.int l4)) t) ∧ (¬ (¬ l4 = 0) → post (some (.int 4)) t)) ∧ (¬ (¬ l4 = 0) → ∀ t1, t1 = g_si t (ad 93) 2 ((t.2.1 (ad 93) 2) + 1) → g_E cx d i_Machine_step [.ref (ad 93)] t1 (fun r u2 => ∃ y3 : Int32, r = some (.int y3) ∧ Lay u2 ad ∧ (g_W cx (g_E cx d) mt_Machine_perform post (53, [some (.ref (ad 93)), some (.int l1), some (.ref (ad 2)), some (.int l3), some (.int y3)], [], u2, 0, 0)))))) : g_W cx (g_E cx d) mt_Machine_perform post (53, [some (.ref (ad 93)), some (.int l1), some (.ref (ad 2)), some (.int l3), some (.int l4)], [], t, 0, 0) := by
  refine g_run [53] 400 (fun P hP => ?_)
  refine And.intro (hL.k 93 (by decide)) ?_
  refine And.intro (fun c => ?_) (fun c => ?_)
  · have h := h.1 c
    refine And.intro (fun c => ?_) (fun c => ?_)
    · have h := h.1 c
      exact And.intro rfl (And.intro rfl h)
    · have h := h.2 c
      exact And.intro rfl (And.intro rfl h)
  · have h := h.2 c
    refine And.intro (fun c => ?_) (fun c => ?_)
    · have h := h.1 c
      refine And.intro (fun c => ?_) (fun c => ?_)
      · have h := h.1 c
        exact And.intro rfl (And.intro rfl h)
      · have h := h.2 c
        exact And.intro rfl (And.intro rfl h)
    · have h := h.2 c
      refine And.intro (hL.k 93 (by decide)) ?_
      refine And.intro (hL.k 93 (by decide)) ?_
      have h := h _ rfl
      refine And.intro (hL.k 93 (by decide)) ?_
      refine g_Em h (fun r u h => ?_)
      obtain ⟨y3, rfl, hL, h⟩ := h
      exact hP _ h
theorem x_Machine_fits {cx : gCx} {d : Nat} {ad : Nat → Nat} {p : Nat} (hp : isP p) {a1 a2 : Int32} {t : gSt} {post : Option Value → gSt → Prop} (hL : Lay t ad) (hr_93_6 : t.2.2.2 (ad 93) 6 = some (ad p)) (h : g_E cx d i_Program_frame [.ref (ad p), .int a1] t (fun r u1 => ∃ y2 : Int32, r = some (.int y2) ∧ Lay u1 ad ∧ (((u1.2.1 (ad 93) 7) < (a2 + y2) → post (some (.int 0)) u1) ∧ (¬ ((u1.2.1 (ad 93) 7) < (a2 + y2)) → post (some (.int 1)) u1)))) : g_E cx (d + 1) i_Machine_fits [.ref (ad 93), .int a1, .int a2] t post := by
  refine g_call mt_Machine_fits rfl (by decide) (Nat.le_of_ble_eq_true rfl) ?_
  refine g_run [] 400 (fun P hP => ?_)
  refine And.intro (hL.k 93 (by decide)) (Or.inl ⟨_, hr_93_6, ?_⟩)
  refine And.intro (hL.pk hp 0 (by decide)) ?_
  refine g_Em h (fun r u h => ?_)
  obtain ⟨y2, rfl, hL, h⟩ := h
  refine And.intro (hL.k 93 (by decide)) ?_
  refine And.intro (fun c => ?_) (fun c => ?_)
  · have h := h.1 c
    exact And.intro rfl (And.intro rfl h)
  · have h := h.2 c
    exact And.intro rfl (And.intro rfl h)
theorem x_Machine_enterFrame {cx : gCx} {d : Nat} {ad : Nat → Nat} {p : Nat} (hp : isP p) {a1 a2 : Int32} {t : gSt} {post : Option Value → gSt → Prop} (hL : Lay t ad) (hr_93_6 : t.2.2.2 (ad 93) 6 = some (ad p)) (h : ∀ t1, t1 = g_si t (ad 93) 8 a1 → ∀ t2, t2 = g_si t1 (ad 93) 9 0 → ∀ t3, t3 = g_si t2 (ad 93) 10 a2 → vp_in a1 24 ∧ (∀ t4, t4 = g_si t3 (ad 93) 11 ((a2 + 2) + (t3.2.1 (ad (p + 9)) (a1 : Int32).toNatClampNeg)) → g_E cx d i_Program_frame [.ref (ad p), .int a1] t4 (fun r u5 => ∃ y6 : Int32, r = some (.int y6) ∧ Lay u5 ad ∧ (∀ t7, t7 = g_si u5 (ad 93) 3 (if (t4.2.1 (ad 93) 3) < (a2 + y6) then (a2 + y6) else (t4.2.1 (ad 93) 3)) → post none t7)))) : g_E cx (d + 1) i_Machine_enterFrame [.ref (ad 93), .int a1, .int a2] t post := by
  refine g_call mt_Machine_enterFrame rfl (by decide) (Nat.le_of_ble_eq_true rfl) ?_
  refine g_run [] 400 (fun P hP => ?_)
  refine And.intro (hL.k 93 (by decide)) ?_
  have h := h _ rfl
  refine And.intro (hL.k 93 (by decide)) ?_
  have h := h _ rfl
  refine And.intro (hL.k 93 (by decide)) ?_
  have h := h _ rfl
  refine And.intro (hL.k 93 (by decide)) (Or.inl ⟨_, hr_93_6, ?_⟩)
  refine And.intro (hL.pk hp 0 (by decide)) (Or.inl ⟨_, (hL.pr hp 12 (by decide)), ?_⟩)
  refine Or.inl (And.intro (hL.pk hp 9 (by decide)) (And.intro (hL.pv hp 9 (by decide) (by decide) h.1) ?_))
  have h := h.2
  refine And.intro (hL.k 93 (by decide)) ?_
  have h := h _ rfl
  refine And.intro (hL.k 93 (by decide)) ?_
  refine And.intro (hL.k 93 (by decide)) (Or.inl ⟨_, hr_93_6, ?_⟩)
  refine And.intro (hL.pk hp 0 (by decide)) ?_
  refine g_Em h (fun r u h => ?_)
  obtain ⟨y6, rfl, hL, h⟩ := h
  refine And.intro (hL.k 93 (by decide)) ?_
  have h := h _ rfl
  exact And.intro rfl (And.intro rfl h)
theorem x_Machine_step {cx : gCx} {d : Nat} {ad : Nat → Nat} {p : Nat} (hp : isP p) {t : gSt} {post : Option Value → gSt → Prop} (hL : Lay t ad) (hr_93_6 : t.2.2.2 (ad 93) 6 = some (ad p)) (h : vp_in (t.2.1 (ad 93) 8) 24 ∧ (∀ x1 : Int32, x1 = ((t.2.1 (ad (p + 7)) ((t.2.1 (ad 93) 8) : Int32).toNatClampNeg) + (t.2.1 (ad 93) 9)) → vp_in x1 (c_len (p + 15)) ∧ (∀ x2 : Int32, x2 = (t.2.1 (ad (p + 15)) (x1 : Int32).toNatClampNeg) → vp_in x1 (c_len (p + 14)) ∧ (∀ x3 : Int32, x3 = (t.2.1 (ad (p + 14)) (x1 : Int32).toNatClampNeg) → ∀ t4, t4 = g_si t (ad 93) 9 ((t.2.1 (ad 93) 9) + 1) → (x3 = 1 → g_W cx (g_E cx d) mt_Machine_step post (140, [some (.ref (ad 93)), some (.int x1), some (.int x2), some (.int x3)], [], t4, 0, 0)) ∧ (x3 = 2 → g_W cx (g_E cx d) mt_Machine_step post (147, [some (.ref (ad 93)), some (.int x1), some (.int x2), some (.int x3)], [], t4, 0, 0)) ∧ (x3 = 10 → g_W cx (g_E cx d) mt_Machine_step post (166, [some (.ref (ad 93)), some (.int x1), some (.int x2), some (.int x3)], [], t4, 0, 0)) ∧ (x3 = 11 → g_W cx (g_E cx d) mt_Machine_step post (177, [some (.ref (ad 93)), some (.int x1), some (.int x2), some (.int x3)], [], t4, 0, 0)) ∧ (x3 = 12 → g_W cx (g_E cx d) mt_Machine_step post (182, [some (.ref (ad 93)), some (.int x1), some (.int x2), some (.int x3)], [], t4, 0, 0)) ∧ (x3 = 13 → g_W cx (g_E cx d) mt_Machine_step post (189, [some (.ref (ad 93)), some (.int x1), some (.int x2), some (.int x3)], [], t4, 0, 0)) ∧ (x3 = 14 → g_W cx (g_E cx d) mt_Machine_step post (208, [some (.ref (ad 93)), some (.int x1), some (.int x2), some (.int x3)], [], t4, 0, 0)) ∧ (x3 = 15 → g_W cx (g_E cx d) mt_Machine_step post (229, [some (.ref (ad 93)), some (.int x1), some (.int x2), some (.int x3)], [], t4, 0, 0)) ∧ (x3 = 16 → g_W cx (g_E cx d) mt_Machine_step post (236, [some (.ref (ad 93)), some (.int x1), some (.int x2), some (.int x3)], [], t4, 0, 0)) ∧ (x3 = 17 → g_W cx (g_E cx d) mt_Machine_step post (242, [some (.ref (ad 93)), some (.int x1), some (.int x2), some (.int x3)], [], t4, 0, 0)) ∧ (x3 = 18 → g_W cx (g_E cx d) mt_Machine_step post (247, [some (.ref (ad 93)), some (.int x1), some (.int x2), some (.int x3)], [], t4, 0, 0)) ∧ (x3 = 19 → g_W cx (g_E cx d) mt_Machine_step post (256, [some (.ref (ad 93)), some (.int x1), some (.int x2), some (.int x3)], [], t4, 0, 0)) ∧ (x3 < 1 ∨ 19 < x3 ∨ x3 = 3 ∨ x3 = 4 ∨ x3 = 5 ∨ x3 = 6 ∨ x3 = 7 ∨ x3 = 8 ∨ x3 = 9 → g_W cx (g_E cx d) mt_Machine_step post (262, [some (.ref (ad 93)), some (.int x1), some (.int x2), some (.int x3)], [], t4, 0, 0)))))) : g_E cx (d + 1) i_Machine_step [.ref (ad 93)] t post := by
  refine g_call mt_Machine_step rfl (by decide) (Nat.le_of_ble_eq_true rfl) ?_
  refine g_run [49, 140, 147, 166, 177, 182, 189, 208, 229, 236, 242, 247, 256, 262] 400 (fun P hP => ?_)
  refine And.intro (hL.k 93 (by decide)) (Or.inl ⟨_, hr_93_6, ?_⟩)
  refine And.intro (hL.pk hp 0 (by decide)) (Or.inl ⟨_, (hL.pr hp 10 (by decide)), ?_⟩)
  refine And.intro (hL.k 93 (by decide)) ?_
  refine Or.inl (And.intro (hL.pk hp 7 (by decide)) (And.intro (hL.pv hp 7 (by decide) (by decide) h.1) ?_))
  have h := h.2
  refine And.intro (hL.k 93 (by decide)) ?_
  have h := h _ rfl
  refine And.intro (hL.k 93 (by decide)) (Or.inl ⟨_, hr_93_6, ?_⟩)
  refine And.intro (hL.pk hp 0 (by decide)) (Or.inl ⟨_, (hL.pr hp 9 (by decide)), ?_⟩)
  refine Or.inl (And.intro (hL.pk hp 15 (by decide)) (And.intro (hL.pv2 hp 15 (by decide) h.1) ?_))
  have h := h.2
  have h := h _ rfl
  refine And.intro (hL.k 93 (by decide)) (Or.inl ⟨_, hr_93_6, ?_⟩)
  refine And.intro (hL.pk hp 0 (by decide)) (Or.inl ⟨_, (hL.pr hp 8 (by decide)), ?_⟩)
  refine Or.inl (And.intro (hL.pk hp 14 (by decide)) (And.intro (hL.pv2 hp 14 (by decide) h.1) ?_))
  have h := h.2
  have h := h _ rfl
  refine And.intro (hL.k 93 (by decide)) ?_
  refine And.intro (hL.k 93 (by decide)) ?_
  have h := h _ rfl
  refine hP _ ?_
  rcases g_swc _ 1 19 (by decide) (by decide) (by decide) with c | c | ⟨j, hj, c⟩
  · exact g_sw (tgt := 262) rfl (g_swlo c) (h.2.2.2.2.2.2.2.2.2.2.2.2 (Or.inl c))
  · exact g_sw (tgt := 262) rfl (g_swhi c) (h.2.2.2.2.2.2.2.2.2.2.2.2 (Or.inr (Or.inl c)))
  · match j, hj with
    | 0, _ => exact g_sw (tgt := 140) rfl (by rw [c]; decide) (h.1 c)
    | 1, _ => exact g_sw (tgt := 147) rfl (by rw [c]; decide) (h.2.1 c)
    | 2, _ => exact g_sw (tgt := 262) rfl (by rw [c]; decide) (h.2.2.2.2.2.2.2.2.2.2.2.2 (Or.inr (Or.inr (Or.inl c))))
    | 3, _ => exact g_sw (tgt := 262) rfl (by rw [c]; decide) (h.2.2.2.2.2.2.2.2.2.2.2.2 (Or.inr (Or.inr (Or.inr (Or.inl c)))))
    | 4, _ => exact g_sw (tgt := 262) rfl (by rw [c]; decide) (h.2.2.2.2.2.2.2.2.2.2.2.2 (Or.inr (Or.inr (Or.inr (Or.inr (Or.inl c))))))
    | 5, _ => exact g_sw (tgt := 262) rfl (by rw [c]; decide) (h.2.2.2.2.2.2.2.2.2.2.2.2 (Or.inr (Or.inr (Or.inr (Or.inr (Or.inr (Or.inl c)))))))
    | 6, _ => exact g_sw (tgt := 262) rfl (by rw [c]; decide) (h.2.2.2.2.2.2.2.2.2.2.2.2 (Or.inr (Or.inr (Or.inr (Or.inr (Or.inr (Or.inr (Or.inl c))))))))
    | 7, _ => exact g_sw (tgt := 262) rfl (by rw [c]; decide) (h.2.2.2.2.2.2.2.2.2.2.2.2 (Or.inr (Or.inr (Or.inr (Or.inr (Or.inr (Or.inr (Or.inr (Or.inl c)))))))))
    | 8, _ => exact g_sw (tgt := 262) rfl (by rw [c]; decide) (h.2.2.2.2.2.2.2.2.2.2.2.2 (Or.inr (Or.inr (Or.inr (Or.inr (Or.inr (Or.inr (Or.inr (Or.inr c)))))))))
    | 9, _ => exact g_sw (tgt := 166) rfl (by rw [c]; decide) (h.2.2.1 c)
    | 10, _ => exact g_sw (tgt := 177) rfl (by rw [c]; decide) (h.2.2.2.1 c)
    | 11, _ => exact g_sw (tgt := 182) rfl (by rw [c]; decide) (h.2.2.2.2.1 c)
    | 12, _ => exact g_sw (tgt := 189) rfl (by rw [c]; decide) (h.2.2.2.2.2.1 c)
    | 13, _ => exact g_sw (tgt := 208) rfl (by rw [c]; decide) (h.2.2.2.2.2.2.1 c)
    | 14, _ => exact g_sw (tgt := 229) rfl (by rw [c]; decide) (h.2.2.2.2.2.2.2.1 c)
    | 15, _ => exact g_sw (tgt := 236) rfl (by rw [c]; decide) (h.2.2.2.2.2.2.2.2.1 c)
    | 16, _ => exact g_sw (tgt := 242) rfl (by rw [c]; decide) (h.2.2.2.2.2.2.2.2.2.1 c)
    | 17, _ => exact g_sw (tgt := 247) rfl (by rw [c]; decide) (h.2.2.2.2.2.2.2.2.2.2.1 c)
    | 18, _ => exact g_sw (tgt := 256) rfl (by rw [c]; decide) (h.2.2.2.2.2.2.2.2.2.2.2.1 c)
    | j + 19, hj => exact absurd hj (by omega)
theorem x_Machine_step_140 {cx : gCx} {d : Nat} {ad : Nat → Nat} {l1 l2 l3 : Int32} {t : gSt} {post : Option Value → gSt → Prop} (hL : Lay t ad) (h : g_E cx d i_Machine_push [.ref (ad 93), .int l2] t (fun r u1 => r = none ∧ Lay u1 ad ∧ (post (some (.int 0)) u1))) : g_W cx (g_E cx d) mt_Machine_step post (140, [some (.ref (ad 93)), some (.int l1), some (.int l2), some (.int l3)], [], t, 0, 0) := by
  refine g_run [49, 140, 147, 166, 177, 182, 189, 208, 229, 236, 242, 247, 256, 262] 400 (fun P hP => ?_)
  refine And.intro (hL.k 93 (by decide)) ?_
  refine g_Em h (fun r u h => ?_)
  obtain ⟨rfl, hL, h⟩ := h
  exact And.intro rfl (And.intro rfl h)
theorem x_Machine_step_147 {cx : gCx} {d : Nat} {ad : Nat → Nat} {l1 l2 l3 : Int32} {t : gSt} {post : Option Value → gSt → Prop} (hL : Lay t ad) (h : vp_in (((t.2.1 (ad 93) 10) + 2) + l2) 20000 ∧ (g_E cx d i_Machine_push [.ref (ad 93), .int (t.2.1 (ad 95) ((((t.2.1 (ad 93) 10) + 2) + l2) : Int32).toNatClampNeg)] t (fun r u1 => r = none ∧ Lay u1 ad ∧ (post (some (.int 0)) u1)))) : g_W cx (g_E cx d) mt_Machine_step post (147, [some (.ref (ad 93)), some (.int l1), some (.int l2), some (.int l3)], [], t, 0, 0) := by
  refine g_run [49, 140, 147, 166, 177, 182, 189, 208, 229, 236, 242, 247, 256, 262] 400 (fun P hP => ?_)
  refine And.intro (hL.k 93 (by decide)) (Or.inl ⟨_, (hL.r 93 5 95 (by decide)), ?_⟩)
  refine And.intro (hL.k 93 (by decide)) ?_
  refine Or.inl (And.intro (hL.k 95 (by decide)) (And.intro (hL.v 95 (by decide) h.1) ?_))
  have h := h.2
  refine And.intro (hL.k 93 (by decide)) ?_
  refine g_Em h (fun r u h => ?_)
  obtain ⟨rfl, hL, h⟩ := h
  exact And.intro rfl (And.intro rfl h)
theorem x_Machine_step_166 {cx : gCx} {d : Nat} {ad : Nat → Nat} {l1 l2 l3 : Int32} {t : gSt} {post : Option Value → gSt → Prop} (hL : Lay t ad) (h : g_E cx d i_Machine_pop [.ref (ad 93)] t (fun r u1 => ∃ y2 : Int32, r = some (.int y2) ∧ Lay u1 ad ∧ (g_E cx d i_Machine_push [.ref (ad 93), .int (-y2)] u1 (fun r u3 => r = none ∧ Lay u3 ad ∧ (post (some (.int 0)) u3))))) : g_W cx (g_E cx d) mt_Machine_step post (166, [some (.ref (ad 93)), some (.int l1), some (.int l2), some (.int l3)], [], t, 0, 0) := by
  refine g_run [49, 140, 147, 166, 177, 182, 189, 208, 229, 236, 242, 247, 256, 262] 400 (fun P hP => ?_)
  refine And.intro (hL.k 93 (by decide)) ?_
  refine g_Em h (fun r u h => ?_)
  obtain ⟨y2, rfl, hL, h⟩ := h
  refine And.intro (hL.k 93 (by decide)) ?_
  refine g_Em h (fun r u h => ?_)
  obtain ⟨rfl, hL, h⟩ := h
  exact And.intro rfl (And.intro rfl h)
theorem x_Machine_step_177 {cx : gCx} {d : Nat} {ad : Nat → Nat} {l1 l2 l3 : Int32} {t : gSt} {post : Option Value → gSt → Prop} (hL : Lay t ad) (h : g_E cx d i_Machine_putTop [.ref (ad 93)] t (fun r u1 => ∃ y2 : Int32, r = some (.int y2) ∧ Lay u1 ad ∧ (post (some (.int y2)) u1))) : g_W cx (g_E cx d) mt_Machine_step post (177, [some (.ref (ad 93)), some (.int l1), some (.int l2), some (.int l3)], [], t, 0, 0) := by
  refine g_run [49, 140, 147, 166, 177, 182, 189, 208, 229, 236, 242, 247, 256, 262] 400 (fun P hP => ?_)
  refine And.intro (hL.k 93 (by decide)) ?_
  refine g_Em h (fun r u h => ?_)
  obtain ⟨y2, rfl, hL, h⟩ := h
  exact And.intro rfl (And.intro rfl h)
theorem x_Machine_step_182 {cx : gCx} {d : Nat} {ad : Nat → Nat} {l1 l2 l3 : Int32} {t : gSt} {post : Option Value → gSt → Prop} (hL : Lay t ad) (h : g_E cx d i_Machine_pop [.ref (ad 93)] t (fun r u1 => ∃ y2 : Int32, r = some (.int y2) ∧ Lay u1 ad ∧ (post (some (.int 0)) u1))) : g_W cx (g_E cx d) mt_Machine_step post (182, [some (.ref (ad 93)), some (.int l1), some (.int l2), some (.int l3)], [], t, 0, 0) := by
  refine g_run [49, 140, 147, 166, 177, 182, 189, 208, 229, 236, 242, 247, 256, 262] 400 (fun P hP => ?_)
  refine And.intro (hL.k 93 (by decide)) ?_
  refine g_Em h (fun r u h => ?_)
  obtain ⟨y2, rfl, hL, h⟩ := h
  exact And.intro rfl (And.intro rfl h)
theorem x_Machine_step_189 {cx : gCx} {d : Nat} {ad : Nat → Nat} {l1 l2 l3 : Int32} {t : gSt} {post : Option Value → gSt → Prop} (hL : Lay t ad) (h : g_E cx d i_Machine_pop [.ref (ad 93)] t (fun r u1 => ∃ y2 : Int32, r = some (.int y2) ∧ Lay u1 ad ∧ (vp_in (((t.2.1 (ad 93) 10) + 2) + l2) 20000 ∧ (∀ t3, t3 = g_si u1 (ad 95) ((((t.2.1 (ad 93) 10) + 2) + l2) : Int32).toNatClampNeg y2 → post (some (.int 0)) t3)))) : g_W cx (g_E cx d) mt_Machine_step post (189, [some (.ref (ad 93)), some (.int l1), some (.int l2), some (.int l3)], [], t, 0, 0) := by
  refine g_run [49, 140, 147, 166, 177, 182, 189, 208, 229, 236, 242, 247, 256, 262] 400 (fun P hP => ?_)
  refine And.intro (hL.k 93 (by decide)) (Or.inl ⟨_, (hL.r 93 5 95 (by decide)), ?_⟩)
  refine And.intro (hL.k 93 (by decide)) ?_
  refine And.intro (hL.k 93 (by decide)) ?_
  refine g_Em h (fun r u h => ?_)
  obtain ⟨y2, rfl, hL, h⟩ := h
  refine And.intro (hL.k 95 (by decide)) (And.intro (hL.v 95 (by decide) h.1) ?_)
  have h := h.2 _ rfl
  exact And.intro rfl (And.intro rfl h)
theorem x_Machine_step_208 {cx : gCx} {d : Nat} {ad : Nat → Nat} {l1 l2 l3 : Int32} {t : gSt} {post : Option Value → gSt → Prop} (hL : Lay t ad) (h : g_E cx d i_Machine_pop [.ref (ad 93)] t (fun r u1 => ∃ y2 : Int32, r = some (.int y2) ∧ Lay u1 ad ∧ ((¬ y2 = 0 → ∀ t3, t3 = g_si u1 (ad 93) 9 (u1.2.1 (ad 93) 9) → post (some (.int 0)) t3) ∧ (¬ (¬ y2 = 0) → ∀ t4, t4 = g_si u1 (ad 93) 9 l2 → post (some (.int 0)) t4)))) : g_W cx (g_E cx d) mt_Machine_step post (208, [some (.ref (ad 93)), some (.int l1), some (.int l2), some (.int l3)], [], t, 0, 0) := by
  refine g_run [49, 140, 147, 166, 177, 182, 189, 208, 229, 236, 242, 247, 256, 262] 400 (fun P hP => ?_)
  refine And.intro (hL.k 93 (by decide)) ?_
  refine g_Em h (fun r u h => ?_)
  obtain ⟨y2, rfl, hL, h⟩ := h
  refine And.intro (fun c => ?_) (fun c => ?_)
  · have h := h.1 c
    refine And.intro (hL.k 93 (by decide)) ?_
    refine And.intro (hL.k 93 (by decide)) ?_
    have h := h _ rfl
    exact And.intro rfl (And.intro rfl h)
  · have h := h.2 c
    refine And.intro (hL.k 93 (by decide)) ?_
    have h := h _ rfl
    exact And.intro rfl (And.intro rfl h)
theorem x_Machine_step_229 {cx : gCx} {d : Nat} {ad : Nat → Nat} {l1 l2 l3 : Int32} {t : gSt} {post : Option Value → gSt → Prop} (hL : Lay t ad) (h : ∀ t1, t1 = g_si t (ad 93) 9 l2 → post (some (.int 0)) t1) : g_W cx (g_E cx d) mt_Machine_step post (229, [some (.ref (ad 93)), some (.int l1), some (.int l2), some (.int l3)], [], t, 0, 0) := by
  refine g_run [49, 140, 147, 166, 177, 182, 189, 208, 229, 236, 242, 247, 256, 262] 400 (fun P hP => ?_)
  refine And.intro (hL.k 93 (by decide)) ?_
  have h := h _ rfl
  exact And.intro rfl (And.intro rfl h)
theorem x_Machine_step_236 {cx : gCx} {d : Nat} {ad : Nat → Nat} {l1 l2 l3 : Int32} {t : gSt} {post : Option Value → gSt → Prop} (hL : Lay t ad) (h : g_E cx d i_Machine_enterCalled [.ref (ad 93), .int l2] t (fun r u1 => ∃ y2 : Int32, r = some (.int y2) ∧ Lay u1 ad ∧ (post (some (.int y2)) u1))) : g_W cx (g_E cx d) mt_Machine_step post (236, [some (.ref (ad 93)), some (.int l1), some (.int l2), some (.int l3)], [], t, 0, 0) := by
  refine g_run [49, 140, 147, 166, 177, 182, 189, 208, 229, 236, 242, 247, 256, 262] 400 (fun P hP => ?_)
  refine And.intro (hL.k 93 (by decide)) ?_
  refine g_Em h (fun r u h => ?_)
  obtain ⟨y2, rfl, hL, h⟩ := h
  exact And.intro rfl (And.intro rfl h)
theorem x_Machine_step_242 {cx : gCx} {d : Nat} {ad : Nat → Nat} {l1 l2 l3 : Int32} {t : gSt} {post : Option Value → gSt → Prop} (hL : Lay t ad) (h : g_E cx d i_Machine_goBack [.ref (ad 93)] t (fun r u1 => ∃ y2 : Int32, r = some (.int y2) ∧ Lay u1 ad ∧ (post (some (.int y2)) u1))) : g_W cx (g_E cx d) mt_Machine_step post (242, [some (.ref (ad 93)), some (.int l1), some (.int l2), some (.int l3)], [], t, 0, 0) := by
  refine g_run [49, 140, 147, 166, 177, 182, 189, 208, 229, 236, 242, 247, 256, 262] 400 (fun P hP => ?_)
  refine And.intro (hL.k 93 (by decide)) ?_
  refine g_Em h (fun r u h => ?_)
  obtain ⟨y2, rfl, hL, h⟩ := h
  exact And.intro rfl (And.intro rfl h)
theorem x_Machine_step_247 {cx : gCx} {d : Nat} {ad : Nat → Nat} {l1 l2 l3 : Int32} {t : gSt} {post : Option Value → gSt → Prop} (hL : Lay t ad) (h : g_E cx d i_Machine_takeOwnPlace [.ref (ad 93), .int (t.2.1 (ad 93) 8)] t (fun r u1 => ∃ y2 : Int32, r = some (.int y2) ∧ Lay u1 ad ∧ (post (some (.int y2)) u1))) : g_W cx (g_E cx d) mt_Machine_step post (247, [some (.ref (ad 93)), some (.int l1), some (.int l2), some (.int l3)], [], t, 0, 0) := by
  refine g_run [49, 140, 147, 166, 177, 182, 189, 208, 229, 236, 242, 247, 256, 262] 400 (fun P hP => ?_)
  refine And.intro (hL.k 93 (by decide)) ?_
  refine And.intro (hL.k 93 (by decide)) ?_
  refine g_Em h (fun r u h => ?_)
  obtain ⟨y2, rfl, hL, h⟩ := h
  exact And.intro rfl (And.intro rfl h)
theorem x_Machine_step_256 {cx : gCx} {d : Nat} {ad : Nat → Nat} {l1 l2 l3 : Int32} {t : gSt} {post : Option Value → gSt → Prop} (hL : Lay t ad) (h : g_E cx d i_Machine_takeOwnPlace [.ref (ad 93), .int l2] t (fun r u1 => ∃ y2 : Int32, r = some (.int y2) ∧ Lay u1 ad ∧ (post (some (.int y2)) u1))) : g_W cx (g_E cx d) mt_Machine_step post (256, [some (.ref (ad 93)), some (.int l1), some (.int l2), some (.int l3)], [], t, 0, 0) := by
  refine g_run [49, 140, 147, 166, 177, 182, 189, 208, 229, 236, 242, 247, 256, 262] 400 (fun P hP => ?_)
  refine And.intro (hL.k 93 (by decide)) ?_
  refine g_Em h (fun r u h => ?_)
  obtain ⟨y2, rfl, hL, h⟩ := h
  exact And.intro rfl (And.intro rfl h)
theorem x_Machine_step_262 {cx : gCx} {d : Nat} {ad : Nat → Nat} {l1 l2 l3 : Int32} {t : gSt} {post : Option Value → gSt → Prop} (hL : Lay t ad) (h : g_E cx d i_Machine_combine [.ref (ad 93), .int l3] t (fun r u1 => ∃ y2 : Int32, r = some (.int y2) ∧ Lay u1 ad ∧ (post (some (.int y2)) u1))) : g_W cx (g_E cx d) mt_Machine_step post (262, [some (.ref (ad 93)), some (.int l1), some (.int l2), some (.int l3)], [], t, 0, 0) := by
  refine g_run [49, 140, 147, 166, 177, 182, 189, 208, 229, 236, 242, 247, 256, 262] 400 (fun P hP => ?_)
  refine And.intro (hL.k 93 (by decide)) ?_
  refine g_Em h (fun r u h => ?_)
  obtain ⟨y2, rfl, hL, h⟩ := h
  exact And.intro rfl (And.intro rfl h)
theorem x_Machine_push {cx : gCx} {d : Nat} {ad : Nat → Nat} {a1 : Int32} {t : gSt} {post : Option Value → gSt → Prop} (hL : Lay t ad) (h : (20000 ≤ (t.2.1 (ad 93) 11) → post none t) ∧ (¬ (20000 ≤ (t.2.1 (ad 93) 11)) → vp_in (t.2.1 (ad 93) 11) 20000 ∧ (∀ t1, t1 = g_si t (ad 95) ((t.2.1 (ad 93) 11) : Int32).toNatClampNeg a1 → ∀ t2, t2 = g_si t1 (ad 93) 11 ((t1.2.1 (ad 93) 11) + 1) → post none t2))) : g_E cx (d + 1) i_Machine_push [.ref (ad 93), .int a1] t post := by
  refine g_call mt_Machine_push rfl (by decide) (Nat.le_of_ble_eq_true rfl) ?_
  refine g_run [] 400 (fun P hP => ?_)
  refine And.intro (hL.k 93 (by decide)) ?_
  refine And.intro (fun c => ?_) (fun c => ?_)
  · have h := h.1 c
    exact And.intro rfl (And.intro rfl h)
  · have h := h.2 c
    refine And.intro (hL.k 93 (by decide)) (Or.inl ⟨_, (hL.r 93 5 95 (by decide)), ?_⟩)
    refine And.intro (hL.k 93 (by decide)) ?_
    refine And.intro (hL.k 95 (by decide)) (And.intro (hL.v 95 (by decide) h.1) ?_)
    have h := h.2 _ rfl
    refine And.intro (hL.k 93 (by decide)) ?_
    refine And.intro (hL.k 93 (by decide)) ?_
    have h := h _ rfl
    exact And.intro rfl (And.intro rfl h)
theorem x_Machine_pop {cx : gCx} {d : Nat} {ad : Nat → Nat} {t : gSt} {post : Option Value → gSt → Prop} (hL : Lay t ad) (h : (0 < (t.2.1 (ad 93) 11) → ∀ t1, t1 = g_si t (ad 93) 11 ((t.2.1 (ad 93) 11) - 1) → vp_in (t1.2.1 (ad 93) 11) 20000 ∧ (post (some (.int (t1.2.1 (ad 95) ((t1.2.1 (ad 93) 11) : Int32).toNatClampNeg))) t1)) ∧ (¬ (0 < (t.2.1 (ad 93) 11)) → post (some (.int 0)) t)) : g_E cx (d + 1) i_Machine_pop [.ref (ad 93)] t post := by
  refine g_call mt_Machine_pop rfl (by decide) (Nat.le_of_ble_eq_true rfl) ?_
  refine g_run [] 400 (fun P hP => ?_)
  refine And.intro (hL.k 93 (by decide)) ?_
  refine And.intro (fun c => ?_) (fun c => ?_)
  · have h := h.1 c
    refine And.intro (hL.k 93 (by decide)) ?_
    refine And.intro (hL.k 93 (by decide)) ?_
    have h := h _ rfl
    refine And.intro (hL.k 93 (by decide)) (Or.inl ⟨_, (hL.r 93 5 95 (by decide)), ?_⟩)
    refine And.intro (hL.k 93 (by decide)) ?_
    refine Or.inl (And.intro (hL.k 95 (by decide)) (And.intro (hL.v 95 (by decide) h.1) ?_))
    have h := h.2
    exact And.intro rfl (And.intro rfl h)
  · have h := h.2 c
    exact And.intro rfl (And.intro rfl h)
theorem x_Machine_combine {cx : gCx} {d : Nat} {ad : Nat → Nat} {a1 : Int32} {t : gSt} {post : Option Value → gSt → Prop} (hL : Lay t ad) (h : g_E cx d i_Machine_pop [.ref (ad 93)] t (fun r u1 => ∃ y2 : Int32, r = some (.int y2) ∧ Lay u1 ad ∧ (g_E cx d i_Machine_pop [.ref (ad 93)] u1 (fun r u3 => ∃ y4 : Int32, r = some (.int y4) ∧ Lay u3 ad ∧ (g_E cx d i_Tr_dividesByZero [.int a1, .int y2] u3 (fun r u5 => ∃ y6 : Int32, r = some (.int y6) ∧ Lay u5 ad ∧ ((y6 = 0 → g_E cx d i_Tr_operate [.int a1, .int y4, .int y2] u5 (fun r u7 => ∃ y8 : Int32, r = some (.int y8) ∧ Lay u7 ad ∧ (g_E cx d i_Machine_push [.ref (ad 93), .int y8] u7 (fun r u9 => r = none ∧ Lay u9 ad ∧ (post (some (.int 0)) u9))))) ∧ (¬ (y6 = 0) → post (some (.int 3)) u5)))))))) : g_E cx (d + 1) i_Machine_combine [.ref (ad 93), .int a1] t post := by
  refine g_call mt_Machine_combine rfl (by decide) (Nat.le_of_ble_eq_true rfl) ?_
  refine g_run [] 400 (fun P hP => ?_)
  refine And.intro (hL.k 93 (by decide)) ?_
  refine g_Em h (fun r u h => ?_)
  obtain ⟨y2, rfl, hL, h⟩ := h
  refine And.intro (hL.k 93 (by decide)) ?_
  refine g_Em h (fun r u h => ?_)
  obtain ⟨y4, rfl, hL, h⟩ := h
  refine g_Em h (fun r u h => ?_)
  obtain ⟨y6, rfl, hL, h⟩ := h
  refine And.intro (fun c => ?_) (fun c => ?_)
  · have h := h.1 c
    refine g_Em h (fun r u h => ?_)
    obtain ⟨y8, rfl, hL, h⟩ := h
    refine And.intro (hL.k 93 (by decide)) ?_
    refine g_Em h (fun r u h => ?_)
    obtain ⟨rfl, hL, h⟩ := h
    exact And.intro rfl (And.intro rfl h)
  · have h := h.2 c
    exact And.intro rfl (And.intro rfl h)
theorem x_Machine_putTop {cx : gCx} {d : Nat} {ad : Nat → Nat} {t : gSt} {post : Option Value → gSt → Prop} (hL : Lay t ad) (h : ((t.2.1 (ad 93) 4) < 200 → g_E cx d i_Machine_pop [.ref (ad 93)] t (fun r u1 => ∃ y2 : Int32, r = some (.int y2) ∧ Lay u1 ad ∧ (vp_in (u1.2.1 (ad 93) 4) 200 ∧ (∀ t3, t3 = g_si u1 (ad 94) ((u1.2.1 (ad 93) 4) : Int32).toNatClampNeg y2 → ∀ t4, t4 = g_si t3 (ad 93) 4 ((t3.2.1 (ad 93) 4) + 1) → g_E cx d i_Machine_push [.ref (ad 93), .int y2] t4 (fun r u5 => r = none ∧ Lay u5 ad ∧ (post (some (.int 0)) u5)))))) ∧ (¬ ((t.2.1 (ad 93) 4) < 200) → post (some (.int 5)) t)) : g_E cx (d + 1) i_Machine_putTop [.ref (ad 93)] t post := by
  refine g_call mt_Machine_putTop rfl (by decide) (Nat.le_of_ble_eq_true rfl) ?_
  refine g_run [] 400 (fun P hP => ?_)
  refine And.intro (hL.k 93 (by decide)) ?_
  refine And.intro (fun c => ?_) (fun c => ?_)
  · have h := h.1 c
    refine And.intro (hL.k 93 (by decide)) ?_
    refine g_Em h (fun r u h => ?_)
    obtain ⟨y2, rfl, hL, h⟩ := h
    refine And.intro (hL.k 93 (by decide)) (Or.inl ⟨_, (hL.r 93 0 94 (by decide)), ?_⟩)
    refine And.intro (hL.k 93 (by decide)) ?_
    refine And.intro (hL.k 94 (by decide)) (And.intro (hL.v 94 (by decide) h.1) ?_)
    have h := h.2 _ rfl
    refine And.intro (hL.k 93 (by decide)) ?_
    refine And.intro (hL.k 93 (by decide)) ?_
    have h := h _ rfl
    refine And.intro (hL.k 93 (by decide)) ?_
    refine g_Em h (fun r u h => ?_)
    obtain ⟨rfl, hL, h⟩ := h
    exact And.intro rfl (And.intro rfl h)
  · have h := h.2 c
    exact And.intro rfl (And.intro rfl h)
theorem x_Machine_enterCalled {cx : gCx} {d : Nat} {ad : Nat → Nat} {p : Nat} (hp : isP p) {a1 : Int32} {t : gSt} {post : Option Value → gSt → Prop} (hL : Lay t ad) (hr_93_6 : t.2.2.2 (ad 93) 6 = some (ad p)) (h : g_E cx d i_Program_frame [.ref (ad p), .int (t.2.1 (ad 93) 8)] t (fun r u1 => ∃ y2 : Int32, r = some (.int y2) ∧ Lay u1 ad ∧ (∀ x3 : Int32, x3 = ((t.2.1 (ad 93) 10) + y2) → g_E cx d i_Machine_fits [.ref (ad 93), .int a1, .int x3] u1 (fun r u4 => ∃ y5 : Int32, r = some (.int y5) ∧ Lay u4 ad ∧ u4.2.2.2 (ad 93) 6 = some (ad p) ∧ ((¬ y5 = 0 → vp_in a1 24 ∧ (∀ t6, t6 = g_si u4 (ad 93) 11 ((u4.2.1 (ad 93) 11) - (u4.2.1 (ad (p + 2)) (a1 : Int32).toNatClampNeg)) → vp_in a1 24 ∧ ((¬ (t6.2.1 (ad 93) 11) < 0 ∧ ¬ (x3 + 2) < 0 ∧ ¬ (t6.2.1 (ad (p + 2)) (a1 : Int32).toNatClampNeg) < 0 ∧ ((t6.2.1 (ad 93) 11) : Int32).toNatClampNeg + ((t6.2.1 (ad (p + 2)) (a1 : Int32).toNatClampNeg) : Int32).toNatClampNeg ≤ 20000 ∧ ((x3 + 2) : Int32).toNatClampNeg + ((t6.2.1 (ad (p + 2)) (a1 : Int32).toNatClampNeg) : Int32).toNatClampNeg ≤ 20000) ∧ (∀ t7, t7 = g_row t6 (ad 95) (va_cpy (t6.2.1 (ad 95)) (t6.2.1 (ad 95)) ((t6.2.1 (ad 93) 11) : Int32).toNatClampNeg ((x3 + 2) : Int32).toNatClampNeg ((t6.2.1 (ad (p + 2)) (a1 : Int32).toNatClampNeg) : Int32).toNatClampNeg) → vp_in x3 20000 ∧ (∀ t8, t8 = g_si t7 (ad 95) (x3 : Int32).toNatClampNeg (((t7.2.1 (ad 93) 8) * 1024) + (t7.2.1 (ad 93) 9)) → vp_in (x3 + 1) 20000 ∧ (∀ t9, t9 = g_si t8 (ad 95) ((x3 + 1) : Int32).toNatClampNeg (t8.2.1 (ad 93) 11) → g_E cx d i_Machine_enterFrame [.ref (ad 93), .int a1, .int x3] t9 (fun r u10 => r = none ∧ Lay u10 ad ∧ (post (some (.int 0)) u10)))))))) ∧ (¬ (¬ y5 = 0) → post (some (.int 2)) u4)))))) : g_E cx (d + 1) i_Machine_enterCalled [.ref (ad 93), .int a1] t post := by
  refine g_call mt_Machine_enterCalled rfl (by decide) (Nat.le_of_ble_eq_true rfl) ?_
  refine g_run [] 400 (fun P hP => ?_)
  refine And.intro (hL.k 93 (by decide)) ?_
  refine And.intro (hL.k 93 (by decide)) (Or.inl ⟨_, hr_93_6, ?_⟩)
  refine And.intro (hL.k 93 (by decide)) ?_
  refine And.intro (hL.pk hp 0 (by decide)) ?_
  refine g_Em h (fun r u h => ?_)
  obtain ⟨y2, rfl, hL, h⟩ := h
  have h := h _ rfl
  refine And.intro (hL.k 93 (by decide)) ?_
  refine g_Em h (fun r u h => ?_)
  obtain ⟨y5, rfl, hL, hr_93_6, h⟩ := h
  refine And.intro (fun c => ?_) (fun c => ?_)
  · have h := h.1 c
    refine And.intro (hL.k 93 (by decide)) ?_
    refine And.intro (hL.k 93 (by decide)) (Or.inl ⟨_, hr_93_6, ?_⟩)
    refine And.intro (hL.pk hp 0 (by decide)) (Or.inl ⟨_, (hL.pr hp 3 (by decide)), ?_⟩)
    refine Or.inl (And.intro (hL.pk hp 2 (by decide)) (And.intro (hL.pv hp 2 (by decide) (by decide) h.1) ?_))
    have h := h.2
    refine And.intro (hL.k 93 (by decide)) ?_
    have h := h _ rfl
    refine And.intro (hL.k 93 (by decide)) (Or.inl ⟨_, (hL.r 93 5 95 (by decide)), ?_⟩)
    refine And.intro (hL.k 93 (by decide)) ?_
    refine And.intro (hL.k 93 (by decide)) (Or.inl ⟨_, (hL.r 93 5 95 (by decide)), ?_⟩)
    refine And.intro (hL.k 93 (by decide)) (Or.inl ⟨_, hr_93_6, ?_⟩)
    refine And.intro (hL.pk hp 0 (by decide)) (Or.inl ⟨_, (hL.pr hp 3 (by decide)), ?_⟩)
    refine Or.inl (And.intro (hL.pk hp 2 (by decide)) (And.intro (hL.pv hp 2 (by decide) (by decide) h.1) ?_))
    have h := h.2
    refine And.intro (hL.k 95 (by decide)) (And.intro (hL.k 95 (by decide)) (And.intro ⟨h.1.1, h.1.2.1, h.1.2.2.1, (hL.la 95 (by decide) h.1.2.2.2.1), (hL.la 95 (by decide) h.1.2.2.2.2)⟩ ?_))
    have h := h.2 _ rfl
    refine And.intro (hL.k 93 (by decide)) (Or.inl ⟨_, (hL.r 93 5 95 (by decide)), ?_⟩)
    refine And.intro (hL.k 93 (by decide)) ?_
    refine And.intro (hL.k 93 (by decide)) ?_
    refine And.intro (hL.k 95 (by decide)) (And.intro (hL.v 95 (by decide) h.1) ?_)
    have h := h.2 _ rfl
    refine And.intro (hL.k 93 (by decide)) (Or.inl ⟨_, (hL.r 93 5 95 (by decide)), ?_⟩)
    refine And.intro (hL.k 93 (by decide)) ?_
    refine And.intro (hL.k 95 (by decide)) (And.intro (hL.v 95 (by decide) h.1) ?_)
    have h := h.2 _ rfl
    refine And.intro (hL.k 93 (by decide)) ?_
    refine g_Em h (fun r u h => ?_)
    obtain ⟨rfl, hL, h⟩ := h
    exact And.intro rfl (And.intro rfl h)
  · have h := h.2 c
    exact And.intro rfl (And.intro rfl h)
theorem x_Machine_goBack {cx : gCx} {d : Nat} {ad : Nat → Nat} {p : Nat} (hp : isP p) {t : gSt} {post : Option Value → gSt → Prop} (hL : Lay t ad) (h : g_E cx d i_Machine_pop [.ref (ad 93)] t (fun r u1 => ∃ y2 : Int32, r = some (.int y2) ∧ Lay u1 ad ∧ u1.2.2.2 (ad 93) 6 = some (ad p) ∧ (vp_in (u1.2.1 (ad 93) 10) 20000 ∧ (∀ x3 : Int32, x3 = (u1.2.1 (ad 95) ((u1.2.1 (ad 93) 10) : Int32).toNatClampNeg) → (¬ x3 = (-1) → vp_in ((u1.2.1 (ad 93) 10) + 1) 20000 ∧ (∀ t4, t4 = g_si u1 (ad 93) 11 (u1.2.1 (ad 95) (((u1.2.1 (ad 93) 10) + 1) : Int32).toNatClampNeg) → ∀ t5, t5 = g_si t4 (ad 93) 8 (x3 / 1024) → ∀ t6, t6 = g_si t5 (ad 93) 9 (x3 - x3 / 1024 * 1024) → g_E cx d i_Program_frame [.ref (ad p), .int (t6.2.1 (ad 93) 8)] t6 (fun r u7 => ∃ y8 : Int32, r = some (.int y8) ∧ Lay u7 ad ∧ (∀ t9, t9 = g_si u7 (ad 93) 10 ((t6.2.1 (ad 93) 10) - y8) → g_E cx d i_Machine_push [.ref (ad 93), .int y2] t9 (fun r u10 => r = none ∧ Lay u10 ad ∧ (post (some (.int 0)) u10)))))) ∧ (¬ (¬ x3 = (-1)) → ∀ t12, t12 = g_si u1 (ad 93) 1 y2 → post (some (.int 1)) t12))))) : g_E cx (d + 1) i_Machine_goBack [.ref (ad 93)] t post := by
  refine g_call mt_Machine_goBack rfl (by decide) (Nat.le_of_ble_eq_true rfl) ?_
  refine g_run [] 400 (fun P hP => ?_)
  refine And.intro (hL.k 93 (by decide)) ?_
  refine g_Em h (fun r u h => ?_)
  obtain ⟨y2, rfl, hL, hr_93_6, h⟩ := h
  refine And.intro (hL.k 93 (by decide)) (Or.inl ⟨_, (hL.r 93 5 95 (by decide)), ?_⟩)
  refine And.intro (hL.k 93 (by decide)) ?_
  refine Or.inl (And.intro (hL.k 95 (by decide)) (And.intro (hL.v 95 (by decide) h.1) ?_))
  have h := h.2
  have h := h _ rfl
  refine And.intro (fun c => ?_) (fun c => ?_)
  · have h := h.1 c
    refine And.intro (hL.k 93 (by decide)) (Or.inl ⟨_, (hL.r 93 5 95 (by decide)), ?_⟩)
    refine And.intro (hL.k 93 (by decide)) ?_
    refine Or.inl (And.intro (hL.k 95 (by decide)) (And.intro (hL.v 95 (by decide) h.1) ?_))
    have h := h.2
    refine And.intro (hL.k 93 (by decide)) ?_
    have h := h _ rfl
    refine And.intro (by decide) ?_
    refine And.intro (hL.k 93 (by decide)) ?_
    have h := h _ rfl
    refine And.intro (by decide) ?_
    refine And.intro (hL.k 93 (by decide)) ?_
    have h := h _ rfl
    refine And.intro (hL.k 93 (by decide)) ?_
    refine And.intro (hL.k 93 (by decide)) (Or.inl ⟨_, hr_93_6, ?_⟩)
    refine And.intro (hL.k 93 (by decide)) ?_
    refine And.intro (hL.pk hp 0 (by decide)) ?_
    refine g_Em h (fun r u h => ?_)
    obtain ⟨y8, rfl, hL, h⟩ := h
    refine And.intro (hL.k 93 (by decide)) ?_
    have h := h _ rfl
    refine And.intro (hL.k 93 (by decide)) ?_
    refine g_Em h (fun r u h => ?_)
    obtain ⟨rfl, hL, h⟩ := h
    exact And.intro rfl (And.intro rfl h)
  · have h := h.2 c
    refine And.intro (hL.k 93 (by decide)) ?_
    have h := h _ rfl
    exact And.intro rfl (And.intro rfl h)
theorem x_Machine_takeOwnPlace {cx : gCx} {d : Nat} {ad : Nat → Nat} {p : Nat} (hp : isP p) {a1 : Int32} {t : gSt} {post : Option Value → gSt → Prop} (hL : Lay t ad) (h : g_E cx d i_Machine_fits [.ref (ad 93), .int a1, .int (t.2.1 (ad 93) 10)] t (fun r u1 => ∃ y2 : Int32, r = some (.int y2) ∧ Lay u1 ad ∧ u1.2.2.2 (ad 93) 6 = some (ad p) ∧ ((¬ y2 = 0 → vp_in a1 24 ∧ (∀ t3, t3 = g_si u1 (ad 93) 11 ((u1.2.1 (ad 93) 11) - (u1.2.1 (ad (p + 2)) (a1 : Int32).toNatClampNeg)) → vp_in a1 24 ∧ ((¬ (t3.2.1 (ad 93) 11) < 0 ∧ ¬ ((t3.2.1 (ad 93) 10) + 2) < 0 ∧ ¬ (t3.2.1 (ad (p + 2)) (a1 : Int32).toNatClampNeg) < 0 ∧ ((t3.2.1 (ad 93) 11) : Int32).toNatClampNeg + ((t3.2.1 (ad (p + 2)) (a1 : Int32).toNatClampNeg) : Int32).toNatClampNeg ≤ 20000 ∧ (((t3.2.1 (ad 93) 10) + 2) : Int32).toNatClampNeg + ((t3.2.1 (ad (p + 2)) (a1 : Int32).toNatClampNeg) : Int32).toNatClampNeg ≤ 20000) ∧ (∀ t4, t4 = g_row t3 (ad 95) (va_cpy (t3.2.1 (ad 95)) (t3.2.1 (ad 95)) ((t3.2.1 (ad 93) 11) : Int32).toNatClampNeg (((t3.2.1 (ad 93) 10) + 2) : Int32).toNatClampNeg ((t3.2.1 (ad (p + 2)) (a1 : Int32).toNatClampNeg) : Int32).toNatClampNeg) → g_E cx d i_Machine_enterFrame [.ref (ad 93), .int a1, .int (t4.2.1 (ad 93) 10)] t4 (fun r u5 => r = none ∧ Lay u5 ad ∧ (post (some (.int 0)) u5)))))) ∧ (¬ (¬ y2 = 0) → post (some (.int 2)) u1)))) : g_E cx (d + 1) i_Machine_takeOwnPlace [.ref (ad 93), .int a1] t post := by
  refine g_call mt_Machine_takeOwnPlace rfl (by decide) (Nat.le_of_ble_eq_true rfl) ?_
  refine g_run [] 400 (fun P hP => ?_)
  refine And.intro (hL.k 93 (by decide)) ?_
  refine And.intro (hL.k 93 (by decide)) ?_
  refine g_Em h (fun r u h => ?_)
  obtain ⟨y2, rfl, hL, hr_93_6, h⟩ := h
  refine And.intro (fun c => ?_) (fun c => ?_)
  · have h := h.1 c
    refine And.intro (hL.k 93 (by decide)) ?_
    refine And.intro (hL.k 93 (by decide)) (Or.inl ⟨_, hr_93_6, ?_⟩)
    refine And.intro (hL.pk hp 0 (by decide)) (Or.inl ⟨_, (hL.pr hp 3 (by decide)), ?_⟩)
    refine Or.inl (And.intro (hL.pk hp 2 (by decide)) (And.intro (hL.pv hp 2 (by decide) (by decide) h.1) ?_))
    have h := h.2
    refine And.intro (hL.k 93 (by decide)) ?_
    have h := h _ rfl
    refine And.intro (hL.k 93 (by decide)) (Or.inl ⟨_, (hL.r 93 5 95 (by decide)), ?_⟩)
    refine And.intro (hL.k 93 (by decide)) ?_
    refine And.intro (hL.k 93 (by decide)) (Or.inl ⟨_, (hL.r 93 5 95 (by decide)), ?_⟩)
    refine And.intro (hL.k 93 (by decide)) ?_
    refine And.intro (hL.k 93 (by decide)) (Or.inl ⟨_, hr_93_6, ?_⟩)
    refine And.intro (hL.pk hp 0 (by decide)) (Or.inl ⟨_, (hL.pr hp 3 (by decide)), ?_⟩)
    refine Or.inl (And.intro (hL.pk hp 2 (by decide)) (And.intro (hL.pv hp 2 (by decide) (by decide) h.1) ?_))
    have h := h.2
    refine And.intro (hL.k 95 (by decide)) (And.intro (hL.k 95 (by decide)) (And.intro ⟨h.1.1, h.1.2.1, h.1.2.2.1, (hL.la 95 (by decide) h.1.2.2.2.1), (hL.la 95 (by decide) h.1.2.2.2.2)⟩ ?_))
    have h := h.2 _ rfl
    refine And.intro (hL.k 93 (by decide)) ?_
    refine And.intro (hL.k 93 (by decide)) ?_
    refine g_Em h (fun r u h => ?_)
    obtain ⟨rfl, hL, h⟩ := h
    exact And.intro rfl (And.intro rfl h)
  · have h := h.2 c
    exact And.intro rfl (And.intro rfl h)
