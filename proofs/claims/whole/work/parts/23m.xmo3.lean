/-! PRINTED by wip/gen/xparts.py: symbolic execution, method by method -/
theorem x_Mo_again {cx : gCx} {d : Nat} {ad : Nat → Nat} {a1 a2 a3 : Int32} {t : gSt} {post : Option Value → gSt → Prop} (hL : Lay t ad) (h : ∀ x1 : Int32, x1 = ((1300 * a1) + a2) → vp_in x1 93600 ∧ (∀ x2 : Int32, x2 = (t.2.1 (ad 151) (x1 : Int32).toNatClampNeg) → (¬ x2 = 15 → (x2 = 1 → g_W cx (g_E cx d) mt_Mo_again post (123, [some (.ref (ad 144)), some (.int a1), some (.int a2), some (.int a3), some (.int x1), some (.int x2), none, none, none], [], t, 0, 0)) ∧ (¬ (x2 = 1) → (¬ x2 = 2 → (x2 = 10 → g_W cx (g_E cx d) mt_Mo_again post (158, [some (.ref (ad 144)), some (.int a1), some (.int a2), some (.int a3), some (.int x1), some (.int x2), none, none, none], [], t, 0, 0)) ∧ (¬ (x2 = 10) → (x2 = 11 → g_W cx (g_E cx d) mt_Mo_again post (158, [some (.ref (ad 144)), some (.int a1), some (.int a2), some (.int a3), some (.int x1), some (.int x2), none, none, none], [], t, 0, 0)) ∧ (¬ (x2 = 11) → g_W cx (g_E cx d) mt_Mo_again post (159, [some (.ref (ad 144)), some (.int a1), some (.int a2), some (.int a3), some (.int x1), some (.int x2), none, none, none], [.int 1], t, 0, 0)))) ∧ (¬ (¬ x2 = 2) → g_W cx (g_E cx d) mt_Mo_again post (123, [some (.ref (ad 144)), some (.int a1), some (.int a2), some (.int a3), some (.int x1), some (.int x2), none, none, none], [], t, 0, 0)))) ∧ (¬ (¬ x2 = 15) → vp_in a3 72 ∧ (∀ x3 : Int32, x3 = (t.2.1 (ad 156) (a3 : Int32).toNatClampNeg) → g_W cx (g_E cx d) mt_Mo_again post (36, [some (.ref (ad 144)), some (.int a1), some (.int a2), some (.int a3), some (.int x1), some (.int x2), some (.int x3), some (.int 0), none], [], t, 0, 0))))) : g_E cx (d + 1) i_Mo_again [.ref (ad 144), .int a1, .int a2, .int a3] t post := by
  refine g_call mt_Mo_again rfl (by decide) (Nat.le_of_ble_eq_true rfl) ?_
  refine g_run [36, 123, 158, 159, 201, 240] 400 (fun P hP => ?_)
  have h := h _ rfl
  refine And.intro (hL.k 144 (by decide)) (Or.inl ⟨_, (hL.r 144 17 151 (by decide)), ?_⟩)
  refine Or.inl (And.intro (hL.k 151 (by decide)) (And.intro (hL.v 151 (by decide) h.1) ?_))
  have h := h.2
  have h := h _ rfl
  refine And.intro (fun c => ?_) (fun c => ?_)
  · have h := h.1 c
    refine And.intro (fun c => ?_) (fun c => ?_)
    · have h := h.1 c
      exact hP _ h
    · have h := h.2 c
      refine And.intro (fun c => ?_) (fun c => ?_)
      · have h := h.1 c
        refine And.intro (fun c => ?_) (fun c => ?_)
        · have h := h.1 c
          exact hP _ h
        · have h := h.2 c
          refine And.intro (fun c => ?_) (fun c => ?_)
          · have h := h.1 c
            exact hP _ h
          · have h := h.2 c
            exact hP _ h
      · have h := h.2 c
        exact hP _ h
  · have h := h.2 c
    refine And.intro (hL.k 144 (by decide)) (Or.inl ⟨_, (hL.r 144 22 156 (by decide)), ?_⟩)
    refine Or.inl (And.intro (hL.k 156 (by decide)) (And.intro (hL.v 156 (by decide) h.1) ?_))
    have h := h.2
    have h := h _ rfl
    exact hP _ h
theorem x_Mo_again_36 {cx : gCx} {d : Nat} {ad : Nat → Nat} {l1 l2 l3 l4 l5 l6 l7 : Int32} {o8 : Option Value} {t : gSt} {post : Option Value → gSt → Prop} (hL : Lay t ad) (h : vp_in l4 93600 ∧ (((t.2.1 (ad 153) (l4 : Int32).toNatClampNeg) ≤ l7 → vp_in l4 93600 ∧ (vp_in l4 93600 ∧ (g_E cx d i_Mo_node [.ref (ad 144), .int l3, .int 15, .int l6, .int (t.2.1 (ad 153) (l4 : Int32).toNatClampNeg), .int (t.2.1 (ad 154) (l4 : Int32).toNatClampNeg)] t (fun r u1 => ∃ y2 : Int32, r = some (.int y2) ∧ Lay u1 ad ∧ (post (some (.int y2)) u1))))) ∧ (¬ ((t.2.1 (ad 153) (l4 : Int32).toNatClampNeg) ≤ l7) → vp_in l4 93600 ∧ (vp_in (((1300 * l1) + (t.2.1 (ad 152) (l4 : Int32).toNatClampNeg)) + l7) 93600 ∧ (vp_in (t.2.1 (ad 155) ((((1300 * l1) + (t.2.1 (ad 152) (l4 : Int32).toNatClampNeg)) + l7) : Int32).toNatClampNeg) 1300 ∧ (g_E cx d i_Mo_addArgument [.ref (ad 144), .int l3, .int (t.2.1 (ad 177) ((t.2.1 (ad 155) ((((1300 * l1) + (t.2.1 (ad 152) (l4 : Int32).toNatClampNeg)) + l7) : Int32).toNatClampNeg) : Int32).toNatClampNeg)] t (fun r u3 => ∃ y4 : Int32, r = some (.int y4) ∧ Lay u3 ad ∧ (g_W cx (g_E cx d) mt_Mo_again post (36, [some (.ref (ad 144)), some (.int l1), some (.int l2), some (.int l3), some (.int l4), some (.int l5), some (.int l6), some (.int (l7 + 1)), some (.int y4)], [], u3, 0, 0))))))))) : g_W cx (g_E cx d) mt_Mo_again post (36, [some (.ref (ad 144)), some (.int l1), some (.int l2), some (.int l3), some (.int l4), some (.int l5), some (.int l6), some (.int l7), o8], [], t, 0, 0) := by
  refine g_run [36, 123, 158, 159, 201, 240] 400 (fun P hP => ?_)
  refine And.intro (hL.k 144 (by decide)) (Or.inl ⟨_, (hL.r 144 19 153 (by decide)), ?_⟩)
  refine Or.inl (And.intro (hL.k 153 (by decide)) (And.intro (hL.v 153 (by decide) h.1) ?_))
  have h := h.2
  refine And.intro (fun c => ?_) (fun c => ?_)
  · have h := h.1 c
    refine And.intro (hL.k 144 (by decide)) (Or.inl ⟨_, (hL.r 144 19 153 (by decide)), ?_⟩)
    refine Or.inl (And.intro (hL.k 153 (by decide)) (And.intro (hL.v 153 (by decide) h.1) ?_))
    have h := h.2
    refine And.intro (hL.k 144 (by decide)) (Or.inl ⟨_, (hL.r 144 20 154 (by decide)), ?_⟩)
    refine Or.inl (And.intro (hL.k 154 (by decide)) (And.intro (hL.v 154 (by decide) h.1) ?_))
    have h := h.2
    refine And.intro (hL.k 144 (by decide)) ?_
    refine g_Em h (fun r u h => ?_)
    obtain ⟨y2, rfl, hL, h⟩ := h
    exact And.intro rfl (And.intro rfl h)
  · have h := h.2 c
    refine And.intro (hL.k 144 (by decide)) (Or.inl ⟨_, (hL.r 144 55 177 (by decide)), ?_⟩)
    refine And.intro (hL.k 144 (by decide)) (Or.inl ⟨_, (hL.r 144 21 155 (by decide)), ?_⟩)
    refine And.intro (hL.k 144 (by decide)) (Or.inl ⟨_, (hL.r 144 18 152 (by decide)), ?_⟩)
    refine Or.inl (And.intro (hL.k 152 (by decide)) (And.intro (hL.v 152 (by decide) h.1) ?_))
    have h := h.2
    refine Or.inl (And.intro (hL.k 155 (by decide)) (And.intro (hL.v 155 (by decide) h.1) ?_))
    have h := h.2
    refine Or.inl (And.intro (hL.k 177 (by decide)) (And.intro (hL.v 177 (by decide) h.1) ?_))
    have h := h.2
    refine And.intro (hL.k 144 (by decide)) ?_
    refine g_Em h (fun r u h => ?_)
    obtain ⟨y4, rfl, hL, h⟩ := h
    exact hP _ h
theorem x_Mo_again_123 {cx : gCx} {d : Nat} {ad : Nat → Nat} {l1 l2 l3 l4 l5 : Int32} {t : gSt} {post : Option Value → gSt → Prop} (hL : Lay t ad) (h : vp_in l4 93600 ∧ (g_E cx d i_Mo_node [.ref (ad 144), .int l3, .int l5, .int (t.2.1 (ad 152) (l4 : Int32).toNatClampNeg), .int 0, .int 0] t (fun r u1 => ∃ y2 : Int32, r = some (.int y2) ∧ Lay u1 ad ∧ (post (some (.int y2)) u1)))) : g_W cx (g_E cx d) mt_Mo_again post (123, [some (.ref (ad 144)), some (.int l1), some (.int l2), some (.int l3), some (.int l4), some (.int l5), none, none, none], [], t, 0, 0) := by
  refine g_run [36, 123, 158, 159, 201, 240] 400 (fun P hP => ?_)
  refine And.intro (hL.k 144 (by decide)) (Or.inl ⟨_, (hL.r 144 18 152 (by decide)), ?_⟩)
  refine Or.inl (And.intro (hL.k 152 (by decide)) (And.intro (hL.v 152 (by decide) h.1) ?_))
  have h := h.2
  refine And.intro (hL.k 144 (by decide)) ?_
  refine g_Em h (fun r u h => ?_)
  obtain ⟨y2, rfl, hL, h⟩ := h
  exact And.intro rfl (And.intro rfl h)
theorem x_Mo_again_158 {cx : gCx} {d : Nat} {ad : Nat → Nat} {l1 l2 l3 l4 l5 : Int32} {t : gSt} {post : Option Value → gSt → Prop} (hL : Lay t ad) (h : g_W cx (g_E cx d) mt_Mo_again post (159, [some (.ref (ad 144)), some (.int l1), some (.int l2), some (.int l3), some (.int l4), some (.int l5), none, none, none], [.int 0], t, 0, 0)) : g_W cx (g_E cx d) mt_Mo_again post (158, [some (.ref (ad 144)), some (.int l1), some (.int l2), some (.int l3), some (.int l4), some (.int l5), none, none, none], [], t, 0, 0) := by
  refine g_run [36, 123, 158, 159, 201, 240] 400 (fun P hP => ?_)
  exact hP _ h
theorem x_Mo_again_159 {cx : gCx} {d : Nat} {ad : Nat → Nat} {l1 l2 l3 l4 l5 s0 : Int32} {t : gSt} {post : Option Value → gSt → Prop} (hL : Lay t ad) (h : (¬ l5 = 13 → (¬ l5 = 14 → g_W cx (g_E cx d) mt_Mo_again post (201, [some (.ref (ad 144)), some (.int l1), some (.int l2), some (.int l3), some (.int l4), some (.int l5), some (.int s0), none, none], [.int 0], t, 0, 0)) ∧ (¬ (¬ l5 = 14) → vp_in l4 93600 ∧ (g_W cx (g_E cx d) mt_Mo_again post (201, [some (.ref (ad 144)), some (.int l1), some (.int l2), some (.int l3), some (.int l4), some (.int l5), some (.int s0), none, none], [.int (t.2.1 (ad 154) (l4 : Int32).toNatClampNeg)], t, 0, 0)))) ∧ (¬ (¬ l5 = 13) → vp_in l4 93600 ∧ (vp_in (t.2.1 (ad 154) (l4 : Int32).toNatClampNeg) 1300 ∧ (g_W cx (g_E cx d) mt_Mo_again post (201, [some (.ref (ad 144)), some (.int l1), some (.int l2), some (.int l3), some (.int l4), some (.int l5), some (.int s0), none, none], [.int (t.2.1 (ad 177) ((t.2.1 (ad 154) (l4 : Int32).toNatClampNeg) : Int32).toNatClampNeg)], t, 0, 0))))) : g_W cx (g_E cx d) mt_Mo_again post (159, [some (.ref (ad 144)), some (.int l1), some (.int l2), some (.int l3), some (.int l4), some (.int l5), none, none, none], [.int s0], t, 0, 0) := by
  refine g_run [36, 123, 158, 159, 201, 240] 400 (fun P hP => ?_)
  refine And.intro (fun c => ?_) (fun c => ?_)
  · have h := h.1 c
    refine And.intro (fun c => ?_) (fun c => ?_)
    · have h := h.1 c
      exact hP _ h
    · have h := h.2 c
      refine And.intro (hL.k 144 (by decide)) (Or.inl ⟨_, (hL.r 144 20 154 (by decide)), ?_⟩)
      refine Or.inl (And.intro (hL.k 154 (by decide)) (And.intro (hL.v 154 (by decide) h.1) ?_))
      have h := h.2
      exact hP _ h
  · have h := h.2 c
    refine And.intro (hL.k 144 (by decide)) (Or.inl ⟨_, (hL.r 144 55 177 (by decide)), ?_⟩)
    refine And.intro (hL.k 144 (by decide)) (Or.inl ⟨_, (hL.r 144 20 154 (by decide)), ?_⟩)
    refine Or.inl (And.intro (hL.k 154 (by decide)) (And.intro (hL.v 154 (by decide) h.1) ?_))
    have h := h.2
    refine Or.inl (And.intro (hL.k 177 (by decide)) (And.intro (hL.v 177 (by decide) h.1) ?_))
    have h := h.2
    exact hP _ h
theorem x_Mo_again_201 {cx : gCx} {d : Nat} {ad : Nat → Nat} {l1 l2 l3 l4 l5 l6 s0 : Int32} {t : gSt} {post : Option Value → gSt → Prop} (hL : Lay t ad) (h : vp_in l4 93600 ∧ (vp_in (t.2.1 (ad 152) (l4 : Int32).toNatClampNeg) 1300 ∧ ((l6 = 0 → g_W cx (g_E cx d) mt_Mo_again post (240, [some (.ref (ad 144)), some (.int l1), some (.int l2), some (.int l3), some (.int l4), some (.int l5), some (.int l6), some (.int s0), none], [.int 0, .int (t.2.1 (ad 177) ((t.2.1 (ad 152) (l4 : Int32).toNatClampNeg) : Int32).toNatClampNeg), .int l5, .int l3, .ref (ad 144)], t, 0, 0)) ∧ (¬ (l6 = 0) → vp_in l4 93600 ∧ (vp_in (t.2.1 (ad 153) (l4 : Int32).toNatClampNeg) 1300 ∧ (g_W cx (g_E cx d) mt_Mo_again post (240, [some (.ref (ad 144)), some (.int l1), some (.int l2), some (.int l3), some (.int l4), some (.int l5), some (.int l6), some (.int s0), none], [.int (t.2.1 (ad 177) ((t.2.1 (ad 153) (l4 : Int32).toNatClampNeg) : Int32).toNatClampNeg), .int (t.2.1 (ad 177) ((t.2.1 (ad 152) (l4 : Int32).toNatClampNeg) : Int32).toNatClampNeg), .int l5, .int l3, .ref (ad 144)], t, 0, 0))))))) : g_W cx (g_E cx d) mt_Mo_again post (201, [some (.ref (ad 144)), some (.int l1), some (.int l2), some (.int l3), some (.int l4), some (.int l5), some (.int l6), none, none], [.int s0], t, 0, 0) := by
  refine g_run [36, 123, 158, 159, 201, 240] 400 (fun P hP => ?_)
  refine And.intro (hL.k 144 (by decide)) (Or.inl ⟨_, (hL.r 144 55 177 (by decide)), ?_⟩)
  refine And.intro (hL.k 144 (by decide)) (Or.inl ⟨_, (hL.r 144 18 152 (by decide)), ?_⟩)
  refine Or.inl (And.intro (hL.k 152 (by decide)) (And.intro (hL.v 152 (by decide) h.1) ?_))
  have h := h.2
  refine Or.inl (And.intro (hL.k 177 (by decide)) (And.intro (hL.v 177 (by decide) h.1) ?_))
  have h := h.2
  refine And.intro (fun c => ?_) (fun c => ?_)
  · have h := h.1 c
    exact hP _ h
  · have h := h.2 c
    refine And.intro (hL.k 144 (by decide)) (Or.inl ⟨_, (hL.r 144 55 177 (by decide)), ?_⟩)
    refine And.intro (hL.k 144 (by decide)) (Or.inl ⟨_, (hL.r 144 19 153 (by decide)), ?_⟩)
    refine Or.inl (And.intro (hL.k 153 (by decide)) (And.intro (hL.v 153 (by decide) h.1) ?_))
    have h := h.2
    refine Or.inl (And.intro (hL.k 177 (by decide)) (And.intro (hL.v 177 (by decide) h.1) ?_))
    have h := h.2
    exact hP _ h
theorem x_Mo_again_240 {cx : gCx} {d : Nat} {ad : Nat → Nat} {l1 l2 l3 l4 l5 l6 l7 s0 s1 s2 s3 : Int32} {t : gSt} {post : Option Value → gSt → Prop} (hL : Lay t ad) (h : g_E cx d i_Mo_node [.ref (ad 144), .int s3, .int s2, .int s1, .int s0, .int l7] t (fun r u1 => ∃ y2 : Int32, r = some (.int y2) ∧ Lay u1 ad ∧ (post (some (.int y2)) u1))) : g_W cx (g_E cx d) mt_Mo_again post (240, [some (.ref (ad 144)), some (.int l1), some (.int l2), some (.int l3), some (.int l4), some (.int l5), some (.int l6), some (.int l7), none], [.int s0, .int s1, .int s2, .int s3, .ref (ad 144)], t, 0, 0) := by
  refine g_run [36, 123, 158, 159, 201, 240] 400 (fun P hP => ?_)
  refine And.intro (hL.k 144 (by decide)) ?_
  refine g_Em h (fun r u h => ?_)
  obtain ⟨y2, rfl, hL, h⟩ := h
  exact And.intro rfl (And.intro rfl h)
theorem x_Mo_inline {cx : gCx} {d : Nat} {ad : Nat → Nat} {a1 : Int32} {t : gSt} {post : Option Value → gSt → Prop} (hL : Lay t ad) (h : ∀ x1 : Int32, x1 = (24 + a1) → vp_in 48 72 ∧ (∀ t2, t2 = g_si t (ad 148) (48 : Int32).toNatClampNeg 0 → vp_in 48 72 ∧ (∀ t3, t3 = g_si t2 (ad 156) (48 : Int32).toNatClampNeg 0 → vp_in x1 72 ∧ (∀ x4 : Int32, x4 = (t3.2.1 (ad 148) (x1 : Int32).toNatClampNeg) → vp_in x1 72 ∧ (∀ x5 : Int32, x5 = (t3.2.1 (ad 149) (x1 : Int32).toNatClampNeg) → g_W cx (g_E cx d) mt_Mo_inline post (41, [some (.ref (ad 144)), some (.int a1), some (.int x1), some (.int 48), some (.int x4), some (.int x5), some (.int 0), none, none, none], [], t3, 0, 0)))))) : g_E cx (d + 1) i_Mo_inline [.ref (ad 144), .int a1] t post := by
  refine g_call mt_Mo_inline rfl (by decide) (Nat.le_of_ble_eq_true rfl) ?_
  refine g_run [41, 167, 168, 262] 400 (fun P hP => ?_)
  have h := h _ rfl
  refine And.intro (hL.k 144 (by decide)) (Or.inl ⟨_, (hL.r 144 14 148 (by decide)), ?_⟩)
  refine And.intro (hL.k 148 (by decide)) (And.intro (hL.v 148 (by decide) h.1) ?_)
  have h := h.2 _ rfl
  refine And.intro (hL.k 144 (by decide)) (Or.inl ⟨_, (hL.r 144 22 156 (by decide)), ?_⟩)
  refine And.intro (hL.k 156 (by decide)) (And.intro (hL.v 156 (by decide) h.1) ?_)
  have h := h.2 _ rfl
  refine And.intro (hL.k 144 (by decide)) (Or.inl ⟨_, (hL.r 144 14 148 (by decide)), ?_⟩)
  refine Or.inl (And.intro (hL.k 148 (by decide)) (And.intro (hL.v 148 (by decide) h.1) ?_))
  have h := h.2
  have h := h _ rfl
  refine And.intro (hL.k 144 (by decide)) (Or.inl ⟨_, (hL.r 144 15 149 (by decide)), ?_⟩)
  refine Or.inl (And.intro (hL.k 149 (by decide)) (And.intro (hL.v 149 (by decide) h.1) ?_))
  have h := h.2
  have h := h _ rfl
  exact hP _ h
theorem x_Mo_inline_41 {cx : gCx} {d : Nat} {ad : Nat → Nat} {l1 l2 l3 l4 l5 l6 : Int32} {o7 o8 o9 : Option Value} {t : gSt} {post : Option Value → gSt → Prop} (hL : Lay t ad) (h : vp_in l2 72 ∧ (((t.2.1 (ad 148) (l2 : Int32).toNatClampNeg) ≤ l6 → g_E cx d i_Mo_copyAll [.ref (ad 144), .int l3, .int l2] t (fun r u1 => r = none ∧ Lay u1 ad ∧ (vp_in l2 72 ∧ (∀ t3, t3 = g_si u1 (ad 149) (l2 : Int32).toNatClampNeg l5 → post none t3)))) ∧ (¬ ((t.2.1 (ad 148) (l2 : Int32).toNatClampNeg) ≤ l6) → ∀ x4 : Int32, x4 = ((1300 * l2) + l6) → vp_in x4 93600 ∧ (∀ x5 : Int32, x5 = (t.2.1 (ad 154) (x4 : Int32).toNatClampNeg) → vp_in x4 93600 ∧ ((¬ (t.2.1 (ad 151) (x4 : Int32).toNatClampNeg) = 15 → g_W cx (g_E cx d) mt_Mo_inline post (167, [some (.ref (ad 144)), some (.int l1), some (.int l2), some (.int l3), some (.int l4), some (.int l5), some (.int l6), some (.int x4), some (.int x5), o9], [], t, 0, 0)) ∧ (¬ (¬ (t.2.1 (ad 151) (x4 : Int32).toNatClampNeg) = 15) → vp_in ((24 * x5) + x5) 576 ∧ ((¬ (t.2.1 (ad 171) (((24 * x5) + x5) : Int32).toNatClampNeg) = 0 → g_W cx (g_E cx d) mt_Mo_inline post (167, [some (.ref (ad 144)), some (.int l1), some (.int l2), some (.int l3), some (.int l4), some (.int l5), some (.int l6), some (.int x4), some (.int x5), o9], [], t, 0, 0)) ∧ (¬ (¬ (t.2.1 (ad 171) (((24 * x5) + x5) : Int32).toNatClampNeg) = 0) → vp_in (24 + x5) 72 ∧ (((t.2.1 (ad 144) 46) < (t.2.1 (ad 148) ((24 + x5) : Int32).toNatClampNeg) → g_W cx (g_E cx d) mt_Mo_inline post (167, [some (.ref (ad 144)), some (.int l1), some (.int l2), some (.int l3), some (.int l4), some (.int l5), some (.int l6), some (.int x4), some (.int x5), o9], [], t, 0, 0)) ∧ (¬ ((t.2.1 (ad 144) 46) < (t.2.1 (ad 148) ((24 + x5) : Int32).toNatClampNeg)) → vp_in x4 93600 ∧ (vp_in (24 + x5) 72 ∧ ((500 < (((l4 - 1) + (t.2.1 (ad 153) (x4 : Int32).toNatClampNeg)) + (t.2.1 (ad 148) ((24 + x5) : Int32).toNatClampNeg)) → g_W cx (g_E cx d) mt_Mo_inline post (167, [some (.ref (ad 144)), some (.int l1), some (.int l2), some (.int l3), some (.int l4), some (.int l5), some (.int l6), some (.int x4), some (.int x5), o9], [], t, 0, 0)) ∧ (¬ (500 < (((l4 - 1) + (t.2.1 (ad 153) (x4 : Int32).toNatClampNeg)) + (t.2.1 (ad 148) ((24 + x5) : Int32).toNatClampNeg))) → vp_in (24 + x5) 72 ∧ ((120 < (l5 + (t.2.1 (ad 149) ((24 + x5) : Int32).toNatClampNeg)) → g_W cx (g_E cx d) mt_Mo_inline post (167, [some (.ref (ad 144)), some (.int l1), some (.int l2), some (.int l3), some (.int l4), some (.int l5), some (.int l6), some (.int x4), some (.int x5), o9], [], t, 0, 0)) ∧ (¬ (120 < (l5 + (t.2.1 (ad 149) ((24 + x5) : Int32).toNatClampNeg))) → g_W cx (g_E cx d) mt_Mo_inline post (168, [some (.ref (ad 144)), some (.int l1), some (.int l2), some (.int l3), some (.int l4), some (.int l5), some (.int l6), some (.int x4), some (.int x5), o9], [.int 1], t, 0, 0)))))))))))))))) : g_W cx (g_E cx d) mt_Mo_inline post (41, [some (.ref (ad 144)), some (.int l1), some (.int l2), some (.int l3), some (.int l4), some (.int l5), some (.int l6), o7, o8, o9], [], t, 0, 0) := by
  refine g_run [41, 167, 168, 262] 400 (fun P hP => ?_)
  refine And.intro (hL.k 144 (by decide)) (Or.inl ⟨_, (hL.r 144 14 148 (by decide)), ?_⟩)
  refine Or.inl (And.intro (hL.k 148 (by decide)) (And.intro (hL.v 148 (by decide) h.1) ?_))
  have h := h.2
  refine And.intro (fun c => ?_) (fun c => ?_)
  · have h := h.1 c
    refine And.intro (hL.k 144 (by decide)) ?_
    refine g_Em h (fun r u h => ?_)
    obtain ⟨rfl, hL, h⟩ := h
    refine And.intro (hL.k 144 (by decide)) (Or.inl ⟨_, (hL.r 144 15 149 (by decide)), ?_⟩)
    refine And.intro (hL.k 149 (by decide)) (And.intro (hL.v 149 (by decide) h.1) ?_)
    have h := h.2 _ rfl
    exact And.intro rfl (And.intro rfl h)
  · have h := h.2 c
    have h := h _ rfl
    refine And.intro (hL.k 144 (by decide)) (Or.inl ⟨_, (hL.r 144 20 154 (by decide)), ?_⟩)
    refine Or.inl (And.intro (hL.k 154 (by decide)) (And.intro (hL.v 154 (by decide) h.1) ?_))
    have h := h.2
    have h := h _ rfl
    refine And.intro (hL.k 144 (by decide)) (Or.inl ⟨_, (hL.r 144 17 151 (by decide)), ?_⟩)
    refine Or.inl (And.intro (hL.k 151 (by decide)) (And.intro (hL.v 151 (by decide) h.1) ?_))
    have h := h.2
    refine And.intro (fun c => ?_) (fun c => ?_)
    · have h := h.1 c
      exact hP _ h
    · have h := h.2 c
      refine And.intro (hL.k 144 (by decide)) (Or.inl ⟨_, (hL.r 144 47 171 (by decide)), ?_⟩)
      refine Or.inl (And.intro (Or.inr (hL.k 171 (by decide))) (And.intro (hL.v 171 (by decide) h.1) ?_))
      have h := h.2
      refine And.intro (fun c => ?_) (fun c => ?_)
      · have h := h.1 c
        exact hP _ h
      · have h := h.2 c
        refine And.intro (hL.k 144 (by decide)) (Or.inl ⟨_, (hL.r 144 14 148 (by decide)), ?_⟩)
        refine Or.inl (And.intro (hL.k 148 (by decide)) (And.intro (hL.v 148 (by decide) h.1) ?_))
        have h := h.2
        refine And.intro (hL.k 144 (by decide)) ?_
        refine And.intro (fun c => ?_) (fun c => ?_)
        · have h := h.1 c
          exact hP _ h
        · have h := h.2 c
          refine And.intro (hL.k 144 (by decide)) (Or.inl ⟨_, (hL.r 144 19 153 (by decide)), ?_⟩)
          refine Or.inl (And.intro (hL.k 153 (by decide)) (And.intro (hL.v 153 (by decide) h.1) ?_))
          have h := h.2
          refine And.intro (hL.k 144 (by decide)) (Or.inl ⟨_, (hL.r 144 14 148 (by decide)), ?_⟩)
          refine Or.inl (And.intro (hL.k 148 (by decide)) (And.intro (hL.v 148 (by decide) h.1) ?_))
          have h := h.2
          refine And.intro (fun c => ?_) (fun c => ?_)
          · have h := h.1 c
            exact hP _ h
          · have h := h.2 c
            refine And.intro (hL.k 144 (by decide)) (Or.inl ⟨_, (hL.r 144 15 149 (by decide)), ?_⟩)
            refine Or.inl (And.intro (hL.k 149 (by decide)) (And.intro (hL.v 149 (by decide) h.1) ?_))
            have h := h.2
            refine And.intro (fun c => ?_) (fun c => ?_)
            · have h := h.1 c
              exact hP _ h
            · have h := h.2 c
              exact hP _ h
theorem x_Mo_inline_167 {cx : gCx} {d : Nat} {ad : Nat → Nat} {l1 l2 l3 l4 l5 l6 l7 l8 : Int32} {o9 : Option Value} {t : gSt} {post : Option Value → gSt → Prop} (hL : Lay t ad) (h : g_W cx (g_E cx d) mt_Mo_inline post (168, [some (.ref (ad 144)), some (.int l1), some (.int l2), some (.int l3), some (.int l4), some (.int l5), some (.int l6), some (.int l7), some (.int l8), o9], [.int 0], t, 0, 0)) : g_W cx (g_E cx d) mt_Mo_inline post (167, [some (.ref (ad 144)), some (.int l1), some (.int l2), some (.int l3), some (.int l4), some (.int l5), some (.int l6), some (.int l7), some (.int l8), o9], [], t, 0, 0) := by
  refine g_run [41, 167, 168, 262] 400 (fun P hP => ?_)
  exact hP _ h
theorem x_Mo_inline_168 {cx : gCx} {d : Nat} {ad : Nat → Nat} {l1 l2 l3 l4 l5 l6 l7 l8 s0 : Int32} {o9 : Option Value} {t : gSt} {post : Option Value → gSt → Prop} (hL : Lay t ad) (h : (¬ s0 = 0 → vp_in l7 93600 ∧ (vp_in (24 + l8) 72 ∧ (∀ x1 : Int32, x1 = (l4 + (((t.2.1 (ad 153) (l7 : Int32).toNatClampNeg) - 1) + (t.2.1 (ad 148) ((24 + l8) : Int32).toNatClampNeg))) → g_E cx d i_Mo_replace [.ref (ad 144), .int l2, .int l7, .int l8, .int l3, .int l5] t (fun r u2 => ∃ y3 : Int32, r = some (.int y3) ∧ Lay u2 ad ∧ (vp_in l6 1300 ∧ (∀ t4, t4 = g_si u2 (ad 177) (l6 : Int32).toNatClampNeg y3 → vp_in (24 + l8) 72 ∧ (∀ x5 : Int32, x5 = (l5 + (t4.2.1 (ad 149) ((24 + l8) : Int32).toNatClampNeg)) → vp_in l1 24 ∧ (vp_in l1 24 ∧ (∀ t6, t6 = g_si t4 (ad 150) (l1 : Int32).toNatClampNeg ((t4.2.1 (ad 150) (l1 : Int32).toNatClampNeg) + 1) → g_W cx (g_E cx d) mt_Mo_inline post (262, [some (.ref (ad 144)), some (.int l1), some (.int l2), some (.int l3), some (.int x1), some (.int x5), some (.int l6), some (.int l7), some (.int l8), some (.int s0)], [], t6, 0, 0)))))))))) ∧ (¬ (¬ s0 = 0) → g_E cx d i_Mo_again [.ref (ad 144), .int l2, .int l6, .int l3] t (fun r u7 => ∃ y8 : Int32, r = some (.int y8) ∧ Lay u7 ad ∧ (vp_in l6 1300 ∧ (∀ t9, t9 = g_si u7 (ad 177) (l6 : Int32).toNatClampNeg y8 → g_W cx (g_E cx d) mt_Mo_inline post (262, [some (.ref (ad 144)), some (.int l1), some (.int l2), some (.int l3), some (.int l4), some (.int l5), some (.int l6), some (.int l7), some (.int l8), some (.int s0)], [], t9, 0, 0)))))) : g_W cx (g_E cx d) mt_Mo_inline post (168, [some (.ref (ad 144)), some (.int l1), some (.int l2), some (.int l3), some (.int l4), some (.int l5), some (.int l6), some (.int l7), some (.int l8), o9], [.int s0], t, 0, 0) := by
  refine g_run [41, 167, 168, 262] 400 (fun P hP => ?_)
  refine And.intro (fun c => ?_) (fun c => ?_)
  · have h := h.1 c
    refine And.intro (hL.k 144 (by decide)) (Or.inl ⟨_, (hL.r 144 19 153 (by decide)), ?_⟩)
    refine Or.inl (And.intro (hL.k 153 (by decide)) (And.intro (hL.v 153 (by decide) h.1) ?_))
    have h := h.2
    refine And.intro (hL.k 144 (by decide)) (Or.inl ⟨_, (hL.r 144 14 148 (by decide)), ?_⟩)
    refine Or.inl (And.intro (hL.k 148 (by decide)) (And.intro (hL.v 148 (by decide) h.1) ?_))
    have h := h.2
    have h := h _ rfl
    refine And.intro (hL.k 144 (by decide)) (Or.inl ⟨_, (hL.r 144 55 177 (by decide)), ?_⟩)
    refine And.intro (hL.k 144 (by decide)) ?_
    refine g_Em h (fun r u h => ?_)
    obtain ⟨y3, rfl, hL, h⟩ := h
    refine And.intro (hL.k 177 (by decide)) (And.intro (hL.v 177 (by decide) h.1) ?_)
    have h := h.2 _ rfl
    refine And.intro (hL.k 144 (by decide)) (Or.inl ⟨_, (hL.r 144 15 149 (by decide)), ?_⟩)
    refine Or.inl (And.intro (hL.k 149 (by decide)) (And.intro (hL.v 149 (by decide) h.1) ?_))
    have h := h.2
    have h := h _ rfl
    refine And.intro (hL.k 144 (by decide)) (Or.inl ⟨_, (hL.r 144 16 150 (by decide)), ?_⟩)
    refine Or.inl (And.intro (hL.k 150 (by decide)) (And.intro (hL.v 150 (by decide) h.1) ?_))
    have h := h.2
    refine And.intro (hL.k 150 (by decide)) (And.intro (hL.v 150 (by decide) h.1) ?_)
    have h := h.2 _ rfl
    exact hP _ h
  · have h := h.2 c
    refine And.intro (hL.k 144 (by decide)) (Or.inl ⟨_, (hL.r 144 55 177 (by decide)), ?_⟩)
    refine And.intro (hL.k 144 (by decide)) ?_
    refine g_Em h (fun r u h => ?_)
    obtain ⟨y8, rfl, hL, h⟩ := h
    refine And.intro (hL.k 177 (by decide)) (And.intro (hL.v 177 (by decide) h.1) ?_)
    have h := h.2 _ rfl
    exact hP _ h
theorem x_Mo_inline_262 {cx : gCx} {d : Nat} {ad : Nat → Nat} {l1 l2 l3 l4 l5 l6 l7 l8 l9 : Int32} {t : gSt} {post : Option Value → gSt → Prop} (hL : Lay t ad) (h : g_W cx (g_E cx d) mt_Mo_inline post (41, [some (.ref (ad 144)), some (.int l1), some (.int l2), some (.int l3), some (.int l4), some (.int l5), some (.int (l6 + 1)), some (.int l7), some (.int l8), some (.int l9)], [], t, 0, 0)) : g_W cx (g_E cx d) mt_Mo_inline post (262, [some (.ref (ad 144)), some (.int l1), some (.int l2), some (.int l3), some (.int l4), some (.int l5), some (.int l6), some (.int l7), some (.int l8), some (.int l9)], [], t, 0, 0) := by
  refine g_run [41, 167, 168, 262] 400 (fun P hP => ?_)
  exact hP _ h
theorem x_Mo_replace {cx : gCx} {d : Nat} {ad : Nat → Nat} {a1 a2 a3 a4 a5 : Int32} {t : gSt} {post : Option Value → gSt → Prop} (hL : Lay t ad) (h : ∀ x1 : Int32, x1 = (24 + a3) → vp_in a4 72 ∧ (∀ x2 : Int32, x2 = (t.2.1 (ad 148) (a4 : Int32).toNatClampNeg) → vp_in a4 72 ∧ (∀ x3 : Int32, x3 = (t.2.1 (ad 156) (a4 : Int32).toNatClampNeg) → g_W cx (g_E cx d) mt_Mo_replace post (27, [some (.ref (ad 144)), some (.int a1), some (.int a2), some (.int a3), some (.int a4), some (.int a5), some (.int x1), some (.int x2), some (.int x3), some (.int 0), none], [], t, 0, 0)))) : g_E cx (d + 1) i_Mo_replace [.ref (ad 144), .int a1, .int a2, .int a3, .int a4, .int a5] t post := by
  refine g_call mt_Mo_replace rfl (by decide) (Nat.le_of_ble_eq_true rfl) ?_
  refine g_run [27, 73, 103, 176, 202, 231, 273, 308, 356, 404, 472] 400 (fun P hP => ?_)
  have h := h _ rfl
  refine And.intro (hL.k 144 (by decide)) (Or.inl ⟨_, (hL.r 144 14 148 (by decide)), ?_⟩)
  refine Or.inl (And.intro (hL.k 148 (by decide)) (And.intro (hL.v 148 (by decide) h.1) ?_))
  have h := h.2
  have h := h _ rfl
  refine And.intro (hL.k 144 (by decide)) (Or.inl ⟨_, (hL.r 144 22 156 (by decide)), ?_⟩)
  refine Or.inl (And.intro (hL.k 156 (by decide)) (And.intro (hL.v 156 (by decide) h.1) ?_))
  have h := h.2
  have h := h _ rfl
  exact hP _ h
theorem x_Mo_replace_27 {cx : gCx} {d : Nat} {ad : Nat → Nat} {l1 l2 l3 l4 l5 l6 l7 l8 l9 : Int32} {o10 : Option Value} {t : gSt} {post : Option Value → gSt → Prop} (hL : Lay t ad) (h : vp_in l6 72 ∧ (((t.2.1 (ad 156) (l6 : Int32).toNatClampNeg) ≤ l9 → g_W cx (g_E cx d) mt_Mo_replace post (73, [some (.ref (ad 144)), some (.int l1), some (.int l2), some (.int l3), some (.int l4), some (.int l5), some (.int l6), some (.int l7), some (.int l8), some (.int 0), o10], [], t, 0, 0)) ∧ (¬ ((t.2.1 (ad 156) (l6 : Int32).toNatClampNeg) ≤ l9) → vp_in ((1300 * l6) + l9) 93600 ∧ (g_E cx d i_Mo_addArgument [.ref (ad 144), .int l4, .int (l7 + (t.2.1 (ad 155) (((1300 * l6) + l9) : Int32).toNatClampNeg))] t (fun r u1 => ∃ y2 : Int32, r = some (.int y2) ∧ Lay u1 ad ∧ (g_W cx (g_E cx d) mt_Mo_replace post (27, [some (.ref (ad 144)), some (.int l1), some (.int l2), some (.int l3), some (.int l4), some (.int l5), some (.int l6), some (.int l7), some (.int l8), some (.int (l9 + 1)), some (.int y2)], [], u1, 0, 0))))))) : g_W cx (g_E cx d) mt_Mo_replace post (27, [some (.ref (ad 144)), some (.int l1), some (.int l2), some (.int l3), some (.int l4), some (.int l5), some (.int l6), some (.int l7), some (.int l8), some (.int l9), o10], [], t, 0, 0) := by
  refine g_run [27, 73, 103, 176, 202, 231, 273, 308, 356, 404, 472] 400 (fun P hP => ?_)
  refine And.intro (hL.k 144 (by decide)) (Or.inl ⟨_, (hL.r 144 22 156 (by decide)), ?_⟩)
  refine Or.inl (And.intro (hL.k 156 (by decide)) (And.intro (hL.v 156 (by decide) h.1) ?_))
  have h := h.2
  refine And.intro (fun c => ?_) (fun c => ?_)
  · have h := h.1 c
    exact hP _ h
  · have h := h.2 c
    refine And.intro (hL.k 144 (by decide)) (Or.inl ⟨_, (hL.r 144 21 155 (by decide)), ?_⟩)
    refine Or.inl (And.intro (hL.k 155 (by decide)) (And.intro (hL.v 155 (by decide) h.1) ?_))
    have h := h.2
    refine And.intro (hL.k 144 (by decide)) ?_
    refine g_Em h (fun r u h => ?_)
    obtain ⟨y2, rfl, hL, h⟩ := h
    exact hP _ h
theorem x_Mo_replace_73 {cx : gCx} {d : Nat} {ad : Nat → Nat} {l1 l2 l3 l4 l5 l6 l7 l8 l9 : Int32} {o10 : Option Value} {t : gSt} {post : Option Value → gSt → Prop} (hL : Lay t ad) (h : vp_in l6 72 ∧ (((t.2.1 (ad 148) (l6 : Int32).toNatClampNeg) ≤ l9 → vp_in l4 72 ∧ (∀ x1 : Int32, x1 = ((t.2.1 (ad 148) (l4 : Int32).toNatClampNeg) - 1) → vp_in l2 93600 ∧ (∀ x2 : Int32, x2 = ((t.2.1 (ad 153) (l2 : Int32).toNatClampNeg) - 1) → g_W cx (g_E cx d) mt_Mo_replace post (472, [some (.ref (ad 144)), some (.int l1), some (.int l2), some (.int l3), some (.int l4), some (.int l5), some (.int l6), some (.int l7), some (.int l8), some (.int x1), some (.int x2)], [], t, 0, 0)))) ∧ (¬ ((t.2.1 (ad 148) (l6 : Int32).toNatClampNeg) ≤ l9) → ∀ x3 : Int32, x3 = ((1300 * l6) + l9) → vp_in x3 93600 ∧ (((t.2.1 (ad 151) (x3 : Int32).toNatClampNeg) = 1 → g_W cx (g_E cx d) mt_Mo_replace post (176, [some (.ref (ad 144)), some (.int l1), some (.int l2), some (.int l3), some (.int l4), some (.int l5), some (.int l6), some (.int l7), some (.int l8), some (.int l9), some (.int x3)], [], t, 0, 0)) ∧ ((t.2.1 (ad 151) (x3 : Int32).toNatClampNeg) = 2 → g_W cx (g_E cx d) mt_Mo_replace post (202, [some (.ref (ad 144)), some (.int l1), some (.int l2), some (.int l3), some (.int l4), some (.int l5), some (.int l6), some (.int l7), some (.int l8), some (.int l9), some (.int x3)], [], t, 0, 0)) ∧ ((t.2.1 (ad 151) (x3 : Int32).toNatClampNeg) = 10 ∨ (t.2.1 (ad 151) (x3 : Int32).toNatClampNeg) = 11 → g_W cx (g_E cx d) mt_Mo_replace post (273, [some (.ref (ad 144)), some (.int l1), some (.int l2), some (.int l3), some (.int l4), some (.int l5), some (.int l6), some (.int l7), some (.int l8), some (.int l9), some (.int x3)], [], t, 0, 0)) ∧ ((t.2.1 (ad 151) (x3 : Int32).toNatClampNeg) = 13 → g_W cx (g_E cx d) mt_Mo_replace post (308, [some (.ref (ad 144)), some (.int l1), some (.int l2), some (.int l3), some (.int l4), some (.int l5), some (.int l6), some (.int l7), some (.int l8), some (.int l9), some (.int x3)], [], t, 0, 0)) ∧ ((t.2.1 (ad 151) (x3 : Int32).toNatClampNeg) = 14 → g_W cx (g_E cx d) mt_Mo_replace post (356, [some (.ref (ad 144)), some (.int l1), some (.int l2), some (.int l3), some (.int l4), some (.int l5), some (.int l6), some (.int l7), some (.int l8), some (.int l9), some (.int x3)], [], t, 0, 0)) ∧ ((t.2.1 (ad 151) (x3 : Int32).toNatClampNeg) = 15 → g_W cx (g_E cx d) mt_Mo_replace post (231, [some (.ref (ad 144)), some (.int l1), some (.int l2), some (.int l3), some (.int l4), some (.int l5), some (.int l6), some (.int l7), some (.int l8), some (.int l9), some (.int x3)], [], t, 0, 0)) ∧ ((t.2.1 (ad 151) (x3 : Int32).toNatClampNeg) < 1 ∨ 15 < (t.2.1 (ad 151) (x3 : Int32).toNatClampNeg) ∨ (t.2.1 (ad 151) (x3 : Int32).toNatClampNeg) = 3 ∨ (t.2.1 (ad 151) (x3 : Int32).toNatClampNeg) = 4 ∨ (t.2.1 (ad 151) (x3 : Int32).toNatClampNeg) = 5 ∨ (t.2.1 (ad 151) (x3 : Int32).toNatClampNeg) = 6 ∨ (t.2.1 (ad 151) (x3 : Int32).toNatClampNeg) = 7 ∨ (t.2.1 (ad 151) (x3 : Int32).toNatClampNeg) = 8 ∨ (t.2.1 (ad 151) (x3 : Int32).toNatClampNeg) = 9 ∨ (t.2.1 (ad 151) (x3 : Int32).toNatClampNeg) = 12 → g_W cx (g_E cx d) mt_Mo_replace post (404, [some (.ref (ad 144)), some (.int l1), some (.int l2), some (.int l3), some (.int l4), some (.int l5), some (.int l6), some (.int l7), some (.int l8), some (.int l9), some (.int x3)], [], t, 0, 0)))))) : g_W cx (g_E cx d) mt_Mo_replace post (73, [some (.ref (ad 144)), some (.int l1), some (.int l2), some (.int l3), some (.int l4), some (.int l5), some (.int l6), some (.int l7), some (.int l8), some (.int l9), o10], [], t, 0, 0) := by
  refine g_run [27, 73, 103, 176, 202, 231, 273, 308, 356, 404, 472] 400 (fun P hP => ?_)
  refine And.intro (hL.k 144 (by decide)) (Or.inl ⟨_, (hL.r 144 14 148 (by decide)), ?_⟩)
  refine Or.inl (And.intro (hL.k 148 (by decide)) (And.intro (hL.v 148 (by decide) h.1) ?_))
  have h := h.2
  refine And.intro (fun c => ?_) (fun c => ?_)
  · have h := h.1 c
    refine And.intro (hL.k 144 (by decide)) (Or.inl ⟨_, (hL.r 144 14 148 (by decide)), ?_⟩)
    refine Or.inl (And.intro (hL.k 148 (by decide)) (And.intro (hL.v 148 (by decide) h.1) ?_))
    have h := h.2
    have h := h _ rfl
    refine And.intro (hL.k 144 (by decide)) (Or.inl ⟨_, (hL.r 144 19 153 (by decide)), ?_⟩)
    refine Or.inl (And.intro (hL.k 153 (by decide)) (And.intro (hL.v 153 (by decide) h.1) ?_))
    have h := h.2
    have h := h _ rfl
    exact hP _ h
  · have h := h.2 c
    have h := h _ rfl
    refine And.intro (hL.k 144 (by decide)) (Or.inl ⟨_, (hL.r 144 17 151 (by decide)), ?_⟩)
    refine Or.inl (And.intro (hL.k 151 (by decide)) (And.intro (hL.v 151 (by decide) h.1) ?_))
    have h := h.2
    refine hP _ ?_
    rcases g_swc _ 1 15 (by decide) (by decide) (by decide) with c | c | ⟨j, hj, c⟩
    · exact g_sw (tgt := 404) rfl (g_swlo c) (h.2.2.2.2.2.2 (Or.inl c))
    · exact g_sw (tgt := 404) rfl (g_swhi c) (h.2.2.2.2.2.2 (Or.inr (Or.inl c)))
    · match j, hj with
      | 0, _ => exact g_sw (tgt := 176) rfl (by rw [c]; decide) (h.1 c)
      | 1, _ => exact g_sw (tgt := 202) rfl (by rw [c]; decide) (h.2.1 c)
      | 2, _ => exact g_sw (tgt := 404) rfl (by rw [c]; decide) (h.2.2.2.2.2.2 (Or.inr (Or.inr (Or.inl c))))
      | 3, _ => exact g_sw (tgt := 404) rfl (by rw [c]; decide) (h.2.2.2.2.2.2 (Or.inr (Or.inr (Or.inr (Or.inl c)))))
      | 4, _ => exact g_sw (tgt := 404) rfl (by rw [c]; decide) (h.2.2.2.2.2.2 (Or.inr (Or.inr (Or.inr (Or.inr (Or.inl c))))))
      | 5, _ => exact g_sw (tgt := 404) rfl (by rw [c]; decide) (h.2.2.2.2.2.2 (Or.inr (Or.inr (Or.inr (Or.inr (Or.inr (Or.inl c)))))))
      | 6, _ => exact g_sw (tgt := 404) rfl (by rw [c]; decide) (h.2.2.2.2.2.2 (Or.inr (Or.inr (Or.inr (Or.inr (Or.inr (Or.inr (Or.inl c))))))))
      | 7, _ => exact g_sw (tgt := 404) rfl (by rw [c]; decide) (h.2.2.2.2.2.2 (Or.inr (Or.inr (Or.inr (Or.inr (Or.inr (Or.inr (Or.inr (Or.inl c)))))))))
      | 8, _ => exact g_sw (tgt := 404) rfl (by rw [c]; decide) (h.2.2.2.2.2.2 (Or.inr (Or.inr (Or.inr (Or.inr (Or.inr (Or.inr (Or.inr (Or.inr (Or.inl c))))))))))
      | 9, _ => exact g_sw (tgt := 273) rfl (by rw [c]; decide) (h.2.2.1 (Or.inl c))
      | 10, _ => exact g_sw (tgt := 273) rfl (by rw [c]; decide) (h.2.2.1 (Or.inr c))
      | 11, _ => exact g_sw (tgt := 404) rfl (by rw [c]; decide) (h.2.2.2.2.2.2 (Or.inr (Or.inr (Or.inr (Or.inr (Or.inr (Or.inr (Or.inr (Or.inr (Or.inr c))))))))))
      | 12, _ => exact g_sw (tgt := 308) rfl (by rw [c]; decide) (h.2.2.2.1 c)
      | 13, _ => exact g_sw (tgt := 356) rfl (by rw [c]; decide) (h.2.2.2.2.1 c)
      | 14, _ => exact g_sw (tgt := 231) rfl (by rw [c]; decide) (h.2.2.2.2.2.1 c)
      | j + 15, hj => exact absurd hj (by omega)
theorem x_Mo_replace_176 {cx : gCx} {d : Nat} {ad : Nat → Nat} {l1 l2 l3 l4 l5 l6 l7 l8 l9 l10 : Int32} {t : gSt} {post : Option Value → gSt → Prop} (hL : Lay t ad) (h : vp_in l10 93600 ∧ (g_E cx d i_Mo_node [.ref (ad 144), .int l4, .int 1, .int (t.2.1 (ad 152) (l10 : Int32).toNatClampNeg), .int 0, .int 0] t (fun r u1 => ∃ y2 : Int32, r = some (.int y2) ∧ Lay u1 ad ∧ (vp_in l9 1300 ∧ (∀ t3, t3 = g_si u1 (ad 180) (l9 : Int32).toNatClampNeg y2 → g_W cx (g_E cx d) mt_Mo_replace post (73, [some (.ref (ad 144)), some (.int l1), some (.int l2), some (.int l3), some (.int l4), some (.int l5), some (.int l6), some (.int l7), some (.int l8), some (.int (l9 + 1)), some (.int l10)], [], t3, 0, 0)))))) : g_W cx (g_E cx d) mt_Mo_replace post (176, [some (.ref (ad 144)), some (.int l1), some (.int l2), some (.int l3), some (.int l4), some (.int l5), some (.int l6), some (.int l7), some (.int l8), some (.int l9), some (.int l10)], [], t, 0, 0) := by
  refine g_run [27, 73, 103, 176, 202, 231, 273, 308, 356, 404, 472] 400 (fun P hP => ?_)
  refine And.intro (hL.k 144 (by decide)) (Or.inl ⟨_, (hL.r 144 58 180 (by decide)), ?_⟩)
  refine And.intro (hL.k 144 (by decide)) (Or.inl ⟨_, (hL.r 144 18 152 (by decide)), ?_⟩)
  refine Or.inl (And.intro (hL.k 152 (by decide)) (And.intro (hL.v 152 (by decide) h.1) ?_))
  have h := h.2
  refine And.intro (hL.k 144 (by decide)) ?_
  refine g_Em h (fun r u h => ?_)
  obtain ⟨y2, rfl, hL, h⟩ := h
  refine And.intro (hL.k 180 (by decide)) (And.intro (hL.v 180 (by decide) h.1) ?_)
  have h := h.2 _ rfl
  exact hP _ h
theorem x_Mo_replace_202 {cx : gCx} {d : Nat} {ad : Nat → Nat} {l1 l2 l3 l4 l5 l6 l7 l8 l9 l10 : Int32} {t : gSt} {post : Option Value → gSt → Prop} (hL : Lay t ad) (h : vp_in l10 93600 ∧ (g_E cx d i_Mo_node [.ref (ad 144), .int l4, .int 2, .int (l5 + (t.2.1 (ad 152) (l10 : Int32).toNatClampNeg)), .int 0, .int 0] t (fun r u1 => ∃ y2 : Int32, r = some (.int y2) ∧ Lay u1 ad ∧ (vp_in l9 1300 ∧ (∀ t3, t3 = g_si u1 (ad 180) (l9 : Int32).toNatClampNeg y2 → g_W cx (g_E cx d) mt_Mo_replace post (73, [some (.ref (ad 144)), some (.int l1), some (.int l2), some (.int l3), some (.int l4), some (.int l5), some (.int l6), some (.int l7), some (.int l8), some (.int (l9 + 1)), some (.int l10)], [], t3, 0, 0)))))) : g_W cx (g_E cx d) mt_Mo_replace post (202, [some (.ref (ad 144)), some (.int l1), some (.int l2), some (.int l3), some (.int l4), some (.int l5), some (.int l6), some (.int l7), some (.int l8), some (.int l9), some (.int l10)], [], t, 0, 0) := by
  refine g_run [27, 73, 103, 176, 202, 231, 273, 308, 356, 404, 472] 400 (fun P hP => ?_)
  refine And.intro (hL.k 144 (by decide)) (Or.inl ⟨_, (hL.r 144 58 180 (by decide)), ?_⟩)
  refine And.intro (hL.k 144 (by decide)) (Or.inl ⟨_, (hL.r 144 18 152 (by decide)), ?_⟩)
  refine Or.inl (And.intro (hL.k 152 (by decide)) (And.intro (hL.v 152 (by decide) h.1) ?_))
  have h := h.2
  refine And.intro (hL.k 144 (by decide)) ?_
  refine g_Em h (fun r u h => ?_)
  obtain ⟨y2, rfl, hL, h⟩ := h
  refine And.intro (hL.k 180 (by decide)) (And.intro (hL.v 180 (by decide) h.1) ?_)
  have h := h.2 _ rfl
  exact hP _ h
theorem x_Mo_replace_231 {cx : gCx} {d : Nat} {ad : Nat → Nat} {l1 l2 l3 l4 l5 l6 l7 l8 l9 l10 : Int32} {t : gSt} {post : Option Value → gSt → Prop} (hL : Lay t ad) (h : vp_in l10 93600 ∧ (vp_in l10 93600 ∧ (vp_in l10 93600 ∧ (g_E cx d i_Mo_node [.ref (ad 144), .int l4, .int 15, .int (l8 + (t.2.1 (ad 152) (l10 : Int32).toNatClampNeg)), .int (t.2.1 (ad 153) (l10 : Int32).toNatClampNeg), .int (t.2.1 (ad 154) (l10 : Int32).toNatClampNeg)] t (fun r u1 => ∃ y2 : Int32, r = some (.int y2) ∧ Lay u1 ad ∧ (vp_in l9 1300 ∧ (∀ t3, t3 = g_si u1 (ad 180) (l9 : Int32).toNatClampNeg y2 → g_W cx (g_E cx d) mt_Mo_replace post (73, [some (.ref (ad 144)), some (.int l1), some (.int l2), some (.int l3), some (.int l4), some (.int l5), some (.int l6), some (.int l7), some (.int l8), some (.int (l9 + 1)), some (.int l10)], [], t3, 0, 0)))))))) : g_W cx (g_E cx d) mt_Mo_replace post (231, [some (.ref (ad 144)), some (.int l1), some (.int l2), some (.int l3), some (.int l4), some (.int l5), some (.int l6), some (.int l7), some (.int l8), some (.int l9), some (.int l10)], [], t, 0, 0) := by
  refine g_run [27, 73, 103, 176, 202, 231, 273, 308, 356, 404, 472] 400 (fun P hP => ?_)
  refine And.intro (hL.k 144 (by decide)) (Or.inl ⟨_, (hL.r 144 58 180 (by decide)), ?_⟩)
  refine And.intro (hL.k 144 (by decide)) (Or.inl ⟨_, (hL.r 144 18 152 (by decide)), ?_⟩)
  refine Or.inl (And.intro (hL.k 152 (by decide)) (And.intro (hL.v 152 (by decide) h.1) ?_))
  have h := h.2
  refine And.intro (hL.k 144 (by decide)) (Or.inl ⟨_, (hL.r 144 19 153 (by decide)), ?_⟩)
  refine Or.inl (And.intro (hL.k 153 (by decide)) (And.intro (hL.v 153 (by decide) h.1) ?_))
  have h := h.2
  refine And.intro (hL.k 144 (by decide)) (Or.inl ⟨_, (hL.r 144 20 154 (by decide)), ?_⟩)
  refine Or.inl (And.intro (hL.k 154 (by decide)) (And.intro (hL.v 154 (by decide) h.1) ?_))
  have h := h.2
  refine And.intro (hL.k 144 (by decide)) ?_
  refine g_Em h (fun r u h => ?_)
  obtain ⟨y2, rfl, hL, h⟩ := h
  refine And.intro (hL.k 180 (by decide)) (And.intro (hL.v 180 (by decide) h.1) ?_)
  have h := h.2 _ rfl
  exact hP _ h
theorem x_Mo_replace_273 {cx : gCx} {d : Nat} {ad : Nat → Nat} {l1 l2 l3 l4 l5 l6 l7 l8 l9 l10 : Int32} {t : gSt} {post : Option Value → gSt → Prop} (hL : Lay t ad) (h : vp_in l10 93600 ∧ (vp_in l10 93600 ∧ (g_E cx d i_Mo_node [.ref (ad 144), .int l4, .int (t.2.1 (ad 151) (l10 : Int32).toNatClampNeg), .int (l7 + (t.2.1 (ad 152) (l10 : Int32).toNatClampNeg)), .int 0, .int 0] t (fun r u1 => ∃ y2 : Int32, r = some (.int y2) ∧ Lay u1 ad ∧ (vp_in l9 1300 ∧ (∀ t3, t3 = g_si u1 (ad 180) (l9 : Int32).toNatClampNeg y2 → g_W cx (g_E cx d) mt_Mo_replace post (73, [some (.ref (ad 144)), some (.int l1), some (.int l2), some (.int l3), some (.int l4), some (.int l5), some (.int l6), some (.int l7), some (.int l8), some (.int (l9 + 1)), some (.int l10)], [], t3, 0, 0))))))) : g_W cx (g_E cx d) mt_Mo_replace post (273, [some (.ref (ad 144)), some (.int l1), some (.int l2), some (.int l3), some (.int l4), some (.int l5), some (.int l6), some (.int l7), some (.int l8), some (.int l9), some (.int l10)], [], t, 0, 0) := by
  refine g_run [27, 73, 103, 176, 202, 231, 273, 308, 356, 404, 472] 400 (fun P hP => ?_)
  refine And.intro (hL.k 144 (by decide)) (Or.inl ⟨_, (hL.r 144 58 180 (by decide)), ?_⟩)
  refine And.intro (hL.k 144 (by decide)) (Or.inl ⟨_, (hL.r 144 17 151 (by decide)), ?_⟩)
  refine Or.inl (And.intro (hL.k 151 (by decide)) (And.intro (hL.v 151 (by decide) h.1) ?_))
  have h := h.2
  refine And.intro (hL.k 144 (by decide)) (Or.inl ⟨_, (hL.r 144 18 152 (by decide)), ?_⟩)
  refine Or.inl (And.intro (hL.k 152 (by decide)) (And.intro (hL.v 152 (by decide) h.1) ?_))
  have h := h.2
  refine And.intro (hL.k 144 (by decide)) ?_
  refine g_Em h (fun r u h => ?_)
  obtain ⟨y2, rfl, hL, h⟩ := h
  refine And.intro (hL.k 180 (by decide)) (And.intro (hL.v 180 (by decide) h.1) ?_)
  have h := h.2 _ rfl
  exact hP _ h
theorem x_Mo_replace_308 {cx : gCx} {d : Nat} {ad : Nat → Nat} {l1 l2 l3 l4 l5 l6 l7 l8 l9 l10 : Int32} {t : gSt} {post : Option Value → gSt → Prop} (hL : Lay t ad) (h : vp_in l10 93600 ∧ (vp_in l10 93600 ∧ (vp_in l10 93600 ∧ (g_E cx d i_Mo_node [.ref (ad 144), .int l4, .int 13, .int (l7 + (t.2.1 (ad 152) (l10 : Int32).toNatClampNeg)), .int (l7 + (t.2.1 (ad 153) (l10 : Int32).toNatClampNeg)), .int (l7 + (t.2.1 (ad 154) (l10 : Int32).toNatClampNeg))] t (fun r u1 => ∃ y2 : Int32, r = some (.int y2) ∧ Lay u1 ad ∧ (vp_in l9 1300 ∧ (∀ t3, t3 = g_si u1 (ad 180) (l9 : Int32).toNatClampNeg y2 → g_W cx (g_E cx d) mt_Mo_replace post (73, [some (.ref (ad 144)), some (.int l1), some (.int l2), some (.int l3), some (.int l4), some (.int l5), some (.int l6), some (.int l7), some (.int l8), some (.int (l9 + 1)), some (.int l10)], [], t3, 0, 0)))))))) : g_W cx (g_E cx d) mt_Mo_replace post (308, [some (.ref (ad 144)), some (.int l1), some (.int l2), some (.int l3), some (.int l4), some (.int l5), some (.int l6), some (.int l7), some (.int l8), some (.int l9), some (.int l10)], [], t, 0, 0) := by
  refine g_run [27, 73, 103, 176, 202, 231, 273, 308, 356, 404, 472] 400 (fun P hP => ?_)
  refine And.intro (hL.k 144 (by decide)) (Or.inl ⟨_, (hL.r 144 58 180 (by decide)), ?_⟩)
  refine And.intro (hL.k 144 (by decide)) (Or.inl ⟨_, (hL.r 144 18 152 (by decide)), ?_⟩)
  refine Or.inl (And.intro (hL.k 152 (by decide)) (And.intro (hL.v 152 (by decide) h.1) ?_))
  have h := h.2
  refine And.intro (hL.k 144 (by decide)) (Or.inl ⟨_, (hL.r 144 19 153 (by decide)), ?_⟩)
  refine Or.inl (And.intro (hL.k 153 (by decide)) (And.intro (hL.v 153 (by decide) h.1) ?_))
  have h := h.2
  refine And.intro (hL.k 144 (by decide)) (Or.inl ⟨_, (hL.r 144 20 154 (by decide)), ?_⟩)
  refine Or.inl (And.intro (hL.k 154 (by decide)) (And.intro (hL.v 154 (by decide) h.1) ?_))
  have h := h.2
  refine And.intro (hL.k 144 (by decide)) ?_
  refine g_Em h (fun r u h => ?_)
  obtain ⟨y2, rfl, hL, h⟩ := h
  refine And.intro (hL.k 180 (by decide)) (And.intro (hL.v 180 (by decide) h.1) ?_)
  have h := h.2 _ rfl
  exact hP _ h
theorem x_Mo_replace_356 {cx : gCx} {d : Nat} {ad : Nat → Nat} {l1 l2 l3 l4 l5 l6 l7 l8 l9 l10 : Int32} {t : gSt} {post : Option Value → gSt → Prop} (hL : Lay t ad) (h : vp_in l10 93600 ∧ (vp_in l10 93600 ∧ (vp_in l10 93600 ∧ (g_E cx d i_Mo_node [.ref (ad 144), .int l4, .int 14, .int (l7 + (t.2.1 (ad 152) (l10 : Int32).toNatClampNeg)), .int (l7 + (t.2.1 (ad 153) (l10 : Int32).toNatClampNeg)), .int (l5 + (t.2.1 (ad 154) (l10 : Int32).toNatClampNeg))] t (fun r u1 => ∃ y2 : Int32, r = some (.int y2) ∧ Lay u1 ad ∧ (vp_in l9 1300 ∧ (∀ t3, t3 = g_si u1 (ad 180) (l9 : Int32).toNatClampNeg y2 → g_W cx (g_E cx d) mt_Mo_replace post (73, [some (.ref (ad 144)), some (.int l1), some (.int l2), some (.int l3), some (.int l4), some (.int l5), some (.int l6), some (.int l7), some (.int l8), some (.int (l9 + 1)), some (.int l10)], [], t3, 0, 0)))))))) : g_W cx (g_E cx d) mt_Mo_replace post (356, [some (.ref (ad 144)), some (.int l1), some (.int l2), some (.int l3), some (.int l4), some (.int l5), some (.int l6), some (.int l7), some (.int l8), some (.int l9), some (.int l10)], [], t, 0, 0) := by
  refine g_run [27, 73, 103, 176, 202, 231, 273, 308, 356, 404, 472] 400 (fun P hP => ?_)
  refine And.intro (hL.k 144 (by decide)) (Or.inl ⟨_, (hL.r 144 58 180 (by decide)), ?_⟩)
  refine And.intro (hL.k 144 (by decide)) (Or.inl ⟨_, (hL.r 144 18 152 (by decide)), ?_⟩)
  refine Or.inl (And.intro (hL.k 152 (by decide)) (And.intro (hL.v 152 (by decide) h.1) ?_))
  have h := h.2
  refine And.intro (hL.k 144 (by decide)) (Or.inl ⟨_, (hL.r 144 19 153 (by decide)), ?_⟩)
  refine Or.inl (And.intro (hL.k 153 (by decide)) (And.intro (hL.v 153 (by decide) h.1) ?_))
  have h := h.2
  refine And.intro (hL.k 144 (by decide)) (Or.inl ⟨_, (hL.r 144 20 154 (by decide)), ?_⟩)
  refine Or.inl (And.intro (hL.k 154 (by decide)) (And.intro (hL.v 154 (by decide) h.1) ?_))
  have h := h.2
  refine And.intro (hL.k 144 (by decide)) ?_
  refine g_Em h (fun r u h => ?_)
  obtain ⟨y2, rfl, hL, h⟩ := h
  refine And.intro (hL.k 180 (by decide)) (And.intro (hL.v 180 (by decide) h.1) ?_)
  have h := h.2 _ rfl
  exact hP _ h
theorem x_Mo_replace_404 {cx : gCx} {d : Nat} {ad : Nat → Nat} {l1 l2 l3 l4 l5 l6 l7 l8 l9 l10 : Int32} {t : gSt} {post : Option Value → gSt → Prop} (hL : Lay t ad) (h : vp_in l10 93600 ∧ (vp_in l10 93600 ∧ (vp_in l10 93600 ∧ (g_E cx d i_Mo_node [.ref (ad 144), .int l4, .int (t.2.1 (ad 151) (l10 : Int32).toNatClampNeg), .int (l7 + (t.2.1 (ad 152) (l10 : Int32).toNatClampNeg)), .int (l7 + (t.2.1 (ad 153) (l10 : Int32).toNatClampNeg)), .int 0] t (fun r u1 => ∃ y2 : Int32, r = some (.int y2) ∧ Lay u1 ad ∧ (vp_in l9 1300 ∧ (∀ t3, t3 = g_si u1 (ad 180) (l9 : Int32).toNatClampNeg y2 → g_W cx (g_E cx d) mt_Mo_replace post (73, [some (.ref (ad 144)), some (.int l1), some (.int l2), some (.int l3), some (.int l4), some (.int l5), some (.int l6), some (.int l7), some (.int l8), some (.int (l9 + 1)), some (.int l10)], [], t3, 0, 0)))))))) : g_W cx (g_E cx d) mt_Mo_replace post (404, [some (.ref (ad 144)), some (.int l1), some (.int l2), some (.int l3), some (.int l4), some (.int l5), some (.int l6), some (.int l7), some (.int l8), some (.int l9), some (.int l10)], [], t, 0, 0) := by
  refine g_run [27, 73, 103, 176, 202, 231, 273, 308, 356, 404, 472] 400 (fun P hP => ?_)
  refine And.intro (hL.k 144 (by decide)) (Or.inl ⟨_, (hL.r 144 58 180 (by decide)), ?_⟩)
  refine And.intro (hL.k 144 (by decide)) (Or.inl ⟨_, (hL.r 144 17 151 (by decide)), ?_⟩)
  refine Or.inl (And.intro (hL.k 151 (by decide)) (And.intro (hL.v 151 (by decide) h.1) ?_))
  have h := h.2
  refine And.intro (hL.k 144 (by decide)) (Or.inl ⟨_, (hL.r 144 18 152 (by decide)), ?_⟩)
  refine Or.inl (And.intro (hL.k 152 (by decide)) (And.intro (hL.v 152 (by decide) h.1) ?_))
  have h := h.2
  refine And.intro (hL.k 144 (by decide)) (Or.inl ⟨_, (hL.r 144 19 153 (by decide)), ?_⟩)
  refine Or.inl (And.intro (hL.k 153 (by decide)) (And.intro (hL.v 153 (by decide) h.1) ?_))
  have h := h.2
  refine And.intro (hL.k 144 (by decide)) ?_
  refine g_Em h (fun r u h => ?_)
  obtain ⟨y2, rfl, hL, h⟩ := h
  refine And.intro (hL.k 180 (by decide)) (And.intro (hL.v 180 (by decide) h.1) ?_)
  have h := h.2 _ rfl
  exact hP _ h
theorem x_Mo_replace_472 {cx : gCx} {d : Nat} {ad : Nat → Nat} {l1 l2 l3 l4 l5 l6 l7 l8 l9 l10 : Int32} {t : gSt} {post : Option Value → gSt → Prop} (hL : Lay t ad) (h : (l10 < 0 → post (some (.int l9)) t) ∧ (¬ (l10 < 0) → vp_in l2 93600 ∧ (vp_in (((1300 * l1) + (t.2.1 (ad 152) (l2 : Int32).toNatClampNeg)) + l10) 93600 ∧ (vp_in (t.2.1 (ad 155) ((((1300 * l1) + (t.2.1 (ad 152) (l2 : Int32).toNatClampNeg)) + l10) : Int32).toNatClampNeg) 1300 ∧ (g_E cx d i_Mo_node [.ref (ad 144), .int l4, .int 14, .int (t.2.1 (ad 177) ((t.2.1 (ad 155) ((((1300 * l1) + (t.2.1 (ad 152) (l2 : Int32).toNatClampNeg)) + l10) : Int32).toNatClampNeg) : Int32).toNatClampNeg), .int l9, .int (l5 + l10)] t (fun r u1 => ∃ y2 : Int32, r = some (.int y2) ∧ Lay u1 ad ∧ (g_W cx (g_E cx d) mt_Mo_replace post (472, [some (.ref (ad 144)), some (.int l1), some (.int l2), some (.int l3), some (.int l4), some (.int l5), some (.int l6), some (.int l7), some (.int l8), some (.int y2), some (.int (l10 + (-1)))], [], u1, 0, 0)))))))) : g_W cx (g_E cx d) mt_Mo_replace post (472, [some (.ref (ad 144)), some (.int l1), some (.int l2), some (.int l3), some (.int l4), some (.int l5), some (.int l6), some (.int l7), some (.int l8), some (.int l9), some (.int l10)], [], t, 0, 0) := by
  refine g_run [27, 73, 103, 176, 202, 231, 273, 308, 356, 404, 472] 400 (fun P hP => ?_)
  refine And.intro (fun c => ?_) (fun c => ?_)
  · have h := h.1 c
    exact And.intro rfl (And.intro rfl h)
  · have h := h.2 c
    refine And.intro (hL.k 144 (by decide)) (Or.inl ⟨_, (hL.r 144 55 177 (by decide)), ?_⟩)
    refine And.intro (hL.k 144 (by decide)) (Or.inl ⟨_, (hL.r 144 21 155 (by decide)), ?_⟩)
    refine And.intro (hL.k 144 (by decide)) (Or.inl ⟨_, (hL.r 144 18 152 (by decide)), ?_⟩)
    refine Or.inl (And.intro (hL.k 152 (by decide)) (And.intro (hL.v 152 (by decide) h.1) ?_))
    have h := h.2
    refine Or.inl (And.intro (hL.k 155 (by decide)) (And.intro (hL.v 155 (by decide) h.1) ?_))
    have h := h.2
    refine Or.inl (And.intro (hL.k 177 (by decide)) (And.intro (hL.v 177 (by decide) h.1) ?_))
    have h := h.2
    refine And.intro (hL.k 144 (by decide)) ?_
    refine g_Em h (fun r u h => ?_)
    obtain ⟨y2, rfl, hL, h⟩ := h
    exact hP _ h
theorem x_Mo_reckon {cx : gCx} {d : Nat} {ad : Nat → Nat} {a1 a2 a3 : Int32} {t : gSt} {post : Option Value → gSt → Prop} (hL : Lay t ad) (h : (a1 = 3 → g_W cx (g_E cx d) mt_Mo_reckon post (44, [some (.int a1), some (.int a2), some (.int a3)], [], t, 0, 0)) ∧ (a1 = 4 → g_W cx (g_E cx d) mt_Mo_reckon post (48, [some (.int a1), some (.int a2), some (.int a3)], [], t, 0, 0)) ∧ (a1 = 5 → g_W cx (g_E cx d) mt_Mo_reckon post (52, [some (.int a1), some (.int a2), some (.int a3)], [], t, 0, 0)) ∧ (a1 = 6 → g_W cx (g_E cx d) mt_Mo_reckon post (56, [some (.int a1), some (.int a2), some (.int a3)], [], t, 0, 0)) ∧ (a1 = 7 → g_W cx (g_E cx d) mt_Mo_reckon post (70, [some (.int a1), some (.int a2), some (.int a3)], [], t, 0, 0)) ∧ (a1 = 8 → g_W cx (g_E cx d) mt_Mo_reckon post (83, [some (.int a1), some (.int a2), some (.int a3)], [], t, 0, 0)) ∧ (a1 = 9 → g_W cx (g_E cx d) mt_Mo_reckon post (94, [some (.int a1), some (.int a2), some (.int a3)], [], t, 0, 0)) ∧ (a1 < 3 ∨ 9 < a1 → g_W cx (g_E cx d) mt_Mo_reckon post (105, [some (.int a1), some (.int a2), some (.int a3)], [], t, 0, 0))) : g_E cx (d + 1) i_Mo_reckon [.int a1, .int a2, .int a3] t post := by
  refine g_call mt_Mo_reckon rfl (by decide) (Nat.le_of_ble_eq_true rfl) ?_
  refine g_run [1, 44, 48, 52, 56, 70, 83, 94, 105] 400 (fun P hP => ?_)
  refine hP _ ?_
  rcases g_swc _ 3 9 (by decide) (by decide) (by decide) with c | c | ⟨j, hj, c⟩
  · exact g_sw (tgt := 105) rfl (g_swlo c) (h.2.2.2.2.2.2.2 (Or.inl c))
  · exact g_sw (tgt := 105) rfl (g_swhi c) (h.2.2.2.2.2.2.2 (Or.inr c))
  · match j, hj with
    | 0, _ => exact g_sw (tgt := 44) rfl (by rw [c]; decide) (h.1 c)
    | 1, _ => exact g_sw (tgt := 48) rfl (by rw [c]; decide) (h.2.1 c)
    | 2, _ => exact g_sw (tgt := 52) rfl (by rw [c]; decide) (h.2.2.1 c)
    | 3, _ => exact g_sw (tgt := 56) rfl (by rw [c]; decide) (h.2.2.2.1 c)
    | 4, _ => exact g_sw (tgt := 70) rfl (by rw [c]; decide) (h.2.2.2.2.1 c)
    | 5, _ => exact g_sw (tgt := 83) rfl (by rw [c]; decide) (h.2.2.2.2.2.1 c)
    | 6, _ => exact g_sw (tgt := 94) rfl (by rw [c]; decide) (h.2.2.2.2.2.2.1 c)
    | j + 7, hj => exact absurd hj (by omega)
theorem x_Mo_reckon_44 {cx : gCx} {d : Nat} {ad : Nat → Nat} {l0 l1 l2 : Int32} {t : gSt} {post : Option Value → gSt → Prop} (hL : Lay t ad) (h : post (some (.int (l1 + l2))) t) : g_W cx (g_E cx d) mt_Mo_reckon post (44, [some (.int l0), some (.int l1), some (.int l2)], [], t, 0, 0) := by
  refine g_run [1, 44, 48, 52, 56, 70, 83, 94, 105] 400 (fun P hP => ?_)
  exact And.intro rfl (And.intro rfl h)
theorem x_Mo_reckon_48 {cx : gCx} {d : Nat} {ad : Nat → Nat} {l0 l1 l2 : Int32} {t : gSt} {post : Option Value → gSt → Prop} (hL : Lay t ad) (h : post (some (.int (l1 - l2))) t) : g_W cx (g_E cx d) mt_Mo_reckon post (48, [some (.int l0), some (.int l1), some (.int l2)], [], t, 0, 0) := by
  refine g_run [1, 44, 48, 52, 56, 70, 83, 94, 105] 400 (fun P hP => ?_)
  exact And.intro rfl (And.intro rfl h)
theorem x_Mo_reckon_52 {cx : gCx} {d : Nat} {ad : Nat → Nat} {l0 l1 l2 : Int32} {t : gSt} {post : Option Value → gSt → Prop} (hL : Lay t ad) (h : post (some (.int (l1 * l2))) t) : g_W cx (g_E cx d) mt_Mo_reckon post (52, [some (.int l0), some (.int l1), some (.int l2)], [], t, 0, 0) := by
  refine g_run [1, 44, 48, 52, 56, 70, 83, 94, 105] 400 (fun P hP => ?_)
  exact And.intro rfl (And.intro rfl h)
theorem x_Mo_reckon_56 {cx : gCx} {d : Nat} {ad : Nat → Nat} {l0 l1 l2 : Int32} {t : gSt} {post : Option Value → gSt → Prop} (hL : Lay t ad) (h : (¬ l2 = (-1) → ¬ l2 = 0 ∧ (post (some (.int (l1 / l2))) t)) ∧ (¬ (¬ l2 = (-1)) → post (some (.int (-l1))) t)) : g_W cx (g_E cx d) mt_Mo_reckon post (56, [some (.int l0), some (.int l1), some (.int l2)], [], t, 0, 0) := by
  refine g_run [1, 44, 48, 52, 56, 70, 83, 94, 105] 400 (fun P hP => ?_)
  refine And.intro (fun c => ?_) (fun c => ?_)
  · have h := h.1 c
    refine And.intro h.1 ?_
    have h := h.2
    exact And.intro rfl (And.intro rfl h)
  · have h := h.2 c
    exact And.intro rfl (And.intro rfl h)
theorem x_Mo_reckon_70 {cx : gCx} {d : Nat} {ad : Nat → Nat} {l0 l1 l2 : Int32} {t : gSt} {post : Option Value → gSt → Prop} (hL : Lay t ad) (h : (¬ l2 = (-1) → ¬ l2 = 0 ∧ (post (some (.int (l1 - l1 / l2 * l2))) t)) ∧ (¬ (¬ l2 = (-1)) → post (some (.int 0)) t)) : g_W cx (g_E cx d) mt_Mo_reckon post (70, [some (.int l0), some (.int l1), some (.int l2)], [], t, 0, 0) := by
  refine g_run [1, 44, 48, 52, 56, 70, 83, 94, 105] 400 (fun P hP => ?_)
  refine And.intro (fun c => ?_) (fun c => ?_)
  · have h := h.1 c
    refine And.intro h.1 ?_
    have h := h.2
    exact And.intro rfl (And.intro rfl h)
  · have h := h.2 c
    exact And.intro rfl (And.intro rfl h)
theorem x_Mo_reckon_83 {cx : gCx} {d : Nat} {ad : Nat → Nat} {l0 l1 l2 : Int32} {t : gSt} {post : Option Value → gSt → Prop} (hL : Lay t ad) (h : (l2 ≤ l1 → post (some (.int 0)) t) ∧ (¬ (l2 ≤ l1) → post (some (.int 1)) t)) : g_W cx (g_E cx d) mt_Mo_reckon post (83, [some (.int l0), some (.int l1), some (.int l2)], [], t, 0, 0) := by
  refine g_run [1, 44, 48, 52, 56, 70, 83, 94, 105] 400 (fun P hP => ?_)
  refine And.intro (fun c => ?_) (fun c => ?_)
  · have h := h.1 c
    exact And.intro rfl (And.intro rfl h)
  · have h := h.2 c
    exact And.intro rfl (And.intro rfl h)
theorem x_Mo_reckon_94 {cx : gCx} {d : Nat} {ad : Nat → Nat} {l0 l1 l2 : Int32} {t : gSt} {post : Option Value → gSt → Prop} (hL : Lay t ad) (h : (¬ l1 = l2 → post (some (.int 0)) t) ∧ (¬ (¬ l1 = l2) → post (some (.int 1)) t)) : g_W cx (g_E cx d) mt_Mo_reckon post (94, [some (.int l0), some (.int l1), some (.int l2)], [], t, 0, 0) := by
  refine g_run [1, 44, 48, 52, 56, 70, 83, 94, 105] 400 (fun P hP => ?_)
  refine And.intro (fun c => ?_) (fun c => ?_)
  · have h := h.1 c
    exact And.intro rfl (And.intro rfl h)
  · have h := h.2 c
    exact And.intro rfl (And.intro rfl h)
theorem x_Mo_reckon_105 {cx : gCx} {d : Nat} {ad : Nat → Nat} {l0 l1 l2 : Int32} {t : gSt} {post : Option Value → gSt → Prop} (hL : Lay t ad) (h : post (some (.int (-l1))) t) : g_W cx (g_E cx d) mt_Mo_reckon post (105, [some (.int l0), some (.int l1), some (.int l2)], [], t, 0, 0) := by
  refine g_run [1, 44, 48, 52, 56, 70, 83, 94, 105] 400 (fun P hP => ?_)
  exact And.intro rfl (And.intro rfl h)
theorem x_Mo_isNumber {cx : gCx} {d : Nat} {ad : Nat → Nat} {a1 a2 : Int32} {t : gSt} {post : Option Value → gSt → Prop} (hL : Lay t ad) (h : vp_in ((1300 * a1) + a2) 93600 ∧ ((¬ (t.2.1 (ad 151) (((1300 * a1) + a2) : Int32).toNatClampNeg) = 1 → post (some (.int 0)) t) ∧ (¬ (¬ (t.2.1 (ad 151) (((1300 * a1) + a2) : Int32).toNatClampNeg) = 1) → post (some (.int 1)) t))) : g_E cx (d + 1) i_Mo_isNumber [.ref (ad 144), .int a1, .int a2] t post := by
  refine g_call mt_Mo_isNumber rfl (by decide) (Nat.le_of_ble_eq_true rfl) ?_
  refine g_run [] 400 (fun P hP => ?_)
  refine And.intro (hL.k 144 (by decide)) (Or.inl ⟨_, (hL.r 144 17 151 (by decide)), ?_⟩)
  refine Or.inl (And.intro (hL.k 151 (by decide)) (And.intro (hL.v 151 (by decide) h.1) ?_))
  have h := h.2
  refine And.intro (fun c => ?_) (fun c => ?_)
  · have h := h.1 c
    exact And.intro rfl (And.intro rfl h)
  · have h := h.2 c
    exact And.intro rfl (And.intro rfl h)
theorem x_Mo_numberOf {cx : gCx} {d : Nat} {ad : Nat → Nat} {a1 a2 : Int32} {t : gSt} {post : Option Value → gSt → Prop} (hL : Lay t ad) (h : vp_in ((1300 * a1) + a2) 93600 ∧ (post (some (.int (t.2.1 (ad 152) (((1300 * a1) + a2) : Int32).toNatClampNeg))) t)) : g_E cx (d + 1) i_Mo_numberOf [.ref (ad 144), .int a1, .int a2] t post := by
  refine g_call mt_Mo_numberOf rfl (by decide) (Nat.le_of_ble_eq_true rfl) ?_
  refine g_run [] 400 (fun P hP => ?_)
  refine And.intro (hL.k 144 (by decide)) (Or.inl ⟨_, (hL.r 144 18 152 (by decide)), ?_⟩)
  refine Or.inl (And.intro (hL.k 152 (by decide)) (And.intro (hL.v 152 (by decide) h.1) ?_))
  have h := h.2
  exact And.intro rfl (And.intro rfl h)
theorem x_Mo_fold {cx : gCx} {d : Nat} {ad : Nat → Nat} {a1 : Int32} {t : gSt} {post : Option Value → gSt → Prop} (hL : Lay t ad) (h : vp_in 48 72 ∧ (∀ t1, t1 = g_si t (ad 148) (48 : Int32).toNatClampNeg 0 → vp_in 48 72 ∧ (∀ t2, t2 = g_si t1 (ad 156) (48 : Int32).toNatClampNeg 0 → vp_in a1 72 ∧ (∀ x3 : Int32, x3 = (t2.2.1 (ad 148) (a1 : Int32).toNatClampNeg) → g_W cx (g_E cx d) mt_Mo_fold post (27, [some (.ref (ad 144)), some (.int a1), some (.int 48), some (.int x3), some (.int 0), none, none], [], t2, 0, 0))))) : g_E cx (d + 1) i_Mo_fold [.ref (ad 144), .int a1] t post := by
  refine g_call mt_Mo_fold rfl (by decide) (Nat.le_of_ble_eq_true rfl) ?_
  refine g_run [27, 52, 116, 154, 223] 400 (fun P hP => ?_)
  refine And.intro (hL.k 144 (by decide)) (Or.inl ⟨_, (hL.r 144 14 148 (by decide)), ?_⟩)
  refine And.intro (hL.k 148 (by decide)) (And.intro (hL.v 148 (by decide) h.1) ?_)
  have h := h.2 _ rfl
  refine And.intro (hL.k 144 (by decide)) (Or.inl ⟨_, (hL.r 144 22 156 (by decide)), ?_⟩)
  refine And.intro (hL.k 156 (by decide)) (And.intro (hL.v 156 (by decide) h.1) ?_)
  have h := h.2 _ rfl
  refine And.intro (hL.k 144 (by decide)) (Or.inl ⟨_, (hL.r 144 14 148 (by decide)), ?_⟩)
  refine Or.inl (And.intro (hL.k 148 (by decide)) (And.intro (hL.v 148 (by decide) h.1) ?_))
  have h := h.2
  have h := h _ rfl
  exact hP _ h
theorem x_Mo_fold_27 {cx : gCx} {d : Nat} {ad : Nat → Nat} {l1 l2 l3 l4 : Int32} {t : gSt} {post : Option Value → gSt → Prop} (hL : Lay t ad) (h : (130 ≤ l4 → g_W cx (g_E cx d) mt_Mo_fold post (52, [some (.ref (ad 144)), some (.int l1), some (.int l2), some (.int l3), some (.int 0), none, none], [], t, 0, 0)) ∧ (¬ (130 ≤ l4) → vp_in l4 130 ∧ (∀ t1, t1 = g_si t (ad 181) (l4 : Int32).toNatClampNeg (-1) → g_W cx (g_E cx d) mt_Mo_fold post (27, [some (.ref (ad 144)), some (.int l1), some (.int l2), some (.int l3), some (.int (l4 + 1)), none, none], [], t1, 0, 0)))) : g_W cx (g_E cx d) mt_Mo_fold post (27, [some (.ref (ad 144)), some (.int l1), some (.int l2), some (.int l3), some (.int l4), none, none], [], t, 0, 0) := by
  refine g_run [27, 52, 116, 154, 223] 400 (fun P hP => ?_)
  refine And.intro (fun c => ?_) (fun c => ?_)
  · have h := h.1 c
    exact hP _ h
  · have h := h.2 c
    refine And.intro (hL.k 144 (by decide)) (Or.inl ⟨_, (hL.r 144 59 181 (by decide)), ?_⟩)
    refine And.intro (hL.k 181 (by decide)) (And.intro (hL.v 181 (by decide) h.1) ?_)
    have h := h.2 _ rfl
    exact hP _ h
theorem x_Mo_fold_52 {cx : gCx} {d : Nat} {ad : Nat → Nat} {l1 l2 l3 l4 : Int32} {t : gSt} {post : Option Value → gSt → Prop} (hL : Lay t ad) (h : (l3 ≤ l4 → g_W cx (g_E cx d) mt_Mo_fold post (116, [some (.ref (ad 144)), some (.int l1), some (.int l2), some (.int l3), some (.int 0), none, none], [], t, 0, 0)) ∧ (¬ (l3 ≤ l4) → vp_in ((1300 * l1) + l4) 93600 ∧ ((¬ (t.2.1 (ad 151) (((1300 * l1) + l4) : Int32).toNatClampNeg) = 14 → g_W cx (g_E cx d) mt_Mo_fold post (52, [some (.ref (ad 144)), some (.int l1), some (.int l2), some (.int l3), some (.int (l4 + 1)), none, none], [], t, 0, 0)) ∧ (¬ (¬ (t.2.1 (ad 151) (((1300 * l1) + l4) : Int32).toNatClampNeg) = 14) → vp_in ((1300 * l1) + l4) 93600 ∧ (vp_in ((1300 * l1) + l4) 93600 ∧ (vp_in (t.2.1 (ad 154) (((1300 * l1) + l4) : Int32).toNatClampNeg) 130 ∧ (∀ t1, t1 = g_si t (ad 181) ((t.2.1 (ad 154) (((1300 * l1) + l4) : Int32).toNatClampNeg) : Int32).toNatClampNeg (t.2.1 (ad 152) (((1300 * l1) + l4) : Int32).toNatClampNeg) → g_W cx (g_E cx d) mt_Mo_fold post (52, [some (.ref (ad 144)), some (.int l1), some (.int l2), some (.int l3), some (.int (l4 + 1)), none, none], [], t1, 0, 0)))))))) : g_W cx (g_E cx d) mt_Mo_fold post (52, [some (.ref (ad 144)), some (.int l1), some (.int l2), some (.int l3), some (.int l4), none, none], [], t, 0, 0) := by
  refine g_run [27, 52, 116, 154, 223] 400 (fun P hP => ?_)
  refine And.intro (fun c => ?_) (fun c => ?_)
  · have h := h.1 c
    exact hP _ h
  · have h := h.2 c
    refine And.intro (hL.k 144 (by decide)) (Or.inl ⟨_, (hL.r 144 17 151 (by decide)), ?_⟩)
    refine Or.inl (And.intro (hL.k 151 (by decide)) (And.intro (hL.v 151 (by decide) h.1) ?_))
    have h := h.2
    refine And.intro (fun c => ?_) (fun c => ?_)
    · have h := h.1 c
      exact hP _ h
    · have h := h.2 c
      refine And.intro (hL.k 144 (by decide)) (Or.inl ⟨_, (hL.r 144 59 181 (by decide)), ?_⟩)
      refine And.intro (hL.k 144 (by decide)) (Or.inl ⟨_, (hL.r 144 20 154 (by decide)), ?_⟩)
      refine Or.inl (And.intro (hL.k 154 (by decide)) (And.intro (hL.v 154 (by decide) h.1) ?_))
      have h := h.2
      refine And.intro (hL.k 144 (by decide)) (Or.inl ⟨_, (hL.r 144 18 152 (by decide)), ?_⟩)
      refine Or.inl (And.intro (hL.k 152 (by decide)) (And.intro (hL.v 152 (by decide) h.1) ?_))
      have h := h.2
      refine And.intro (hL.k 181 (by decide)) (And.intro (hL.v 181 (by decide) h.1) ?_)
      have h := h.2 _ rfl
      exact hP _ h
theorem x_Mo_fold_116 {cx : gCx} {d : Nat} {ad : Nat → Nat} {l1 l2 l3 l4 : Int32} {t : gSt} {post : Option Value → gSt → Prop} (hL : Lay t ad) (h : (l3 ≤ l4 → vp_in l2 72 ∧ (∀ x1 : Int32, x1 = (t.2.1 (ad 148) (l2 : Int32).toNatClampNeg) → g_W cx (g_E cx d) mt_Mo_fold post (154, [some (.ref (ad 144)), some (.int l1), some (.int l2), some (.int l3), some (.int x1), some (.int 0), none], [], t, 0, 0))) ∧ (¬ (l3 ≤ l4) → g_E cx d i_Mo_foldOne [.ref (ad 144), .int l1, .int l4, .int l2] t (fun r u2 => ∃ y3 : Int32, r = some (.int y3) ∧ Lay u2 ad ∧ (vp_in l4 1300 ∧ (∀ t4, t4 = g_si u2 (ad 177) (l4 : Int32).toNatClampNeg y3 → g_W cx (g_E cx d) mt_Mo_fold post (116, [some (.ref (ad 144)), some (.int l1), some (.int l2), some (.int l3), some (.int (l4 + 1)), none, none], [], t4, 0, 0)))))) : g_W cx (g_E cx d) mt_Mo_fold post (116, [some (.ref (ad 144)), some (.int l1), some (.int l2), some (.int l3), some (.int l4), none, none], [], t, 0, 0) := by
  refine g_run [27, 52, 116, 154, 223] 400 (fun P hP => ?_)
  refine And.intro (fun c => ?_) (fun c => ?_)
  · have h := h.1 c
    refine And.intro (hL.k 144 (by decide)) (Or.inl ⟨_, (hL.r 144 14 148 (by decide)), ?_⟩)
    refine Or.inl (And.intro (hL.k 148 (by decide)) (And.intro (hL.v 148 (by decide) h.1) ?_))
    have h := h.2
    have h := h _ rfl
    exact hP _ h
  · have h := h.2 c
    refine And.intro (hL.k 144 (by decide)) (Or.inl ⟨_, (hL.r 144 55 177 (by decide)), ?_⟩)
    refine And.intro (hL.k 144 (by decide)) ?_
    refine g_Em h (fun r u h => ?_)
    obtain ⟨y3, rfl, hL, h⟩ := h
    refine And.intro (hL.k 177 (by decide)) (And.intro (hL.v 177 (by decide) h.1) ?_)
    have h := h.2 _ rfl
    exact hP _ h
theorem x_Mo_fold_154 {cx : gCx} {d : Nat} {ad : Nat → Nat} {l1 l2 l3 l4 l5 : Int32} {t : gSt} {post : Option Value → gSt → Prop} (hL : Lay t ad) (h : (l4 ≤ l5 → g_E cx d i_Mo_keepParts [.ref (ad 144), .int l2, .int (l4 - 1)] t (fun r u1 => r = none ∧ Lay u1 ad ∧ (vp_in l1 72 ∧ (∀ t3, t3 = g_si u1 (ad 148) (l1 : Int32).toNatClampNeg 0 → vp_in l1 72 ∧ (∀ t4, t4 = g_si t3 (ad 156) (l1 : Int32).toNatClampNeg 0 → g_W cx (g_E cx d) mt_Mo_fold post (223, [some (.ref (ad 144)), some (.int l1), some (.int l2), some (.int l3), some (.int l4), some (.int l1), some (.int 0)], [], t4, 0, 0)))))) ∧ (¬ (l4 ≤ l5) → vp_in (l3 - 1) 1300 ∧ ((¬ l5 = (t.2.1 (ad 177) ((l3 - 1) : Int32).toNatClampNeg) → vp_in l5 1300 ∧ (∀ t5, t5 = g_si t (ad 179) (l5 : Int32).toNatClampNeg (vp_nar .boolean 0) → g_W cx (g_E cx d) mt_Mo_fold post (154, [some (.ref (ad 144)), some (.int l1), some (.int l2), some (.int l3), some (.int l4), some (.int (l5 + 1)), none], [], t5, 0, 0))) ∧ (¬ (¬ l5 = (t.2.1 (ad 177) ((l3 - 1) : Int32).toNatClampNeg)) → vp_in l5 1300 ∧ (∀ t6, t6 = g_si t (ad 179) (l5 : Int32).toNatClampNeg (vp_nar .boolean 1) → g_W cx (g_E cx d) mt_Mo_fold post (154, [some (.ref (ad 144)), some (.int l1), some (.int l2), some (.int l3), some (.int l4), some (.int (l5 + 1)), none], [], t6, 0, 0)))))) : g_W cx (g_E cx d) mt_Mo_fold post (154, [some (.ref (ad 144)), some (.int l1), some (.int l2), some (.int l3), some (.int l4), some (.int l5), none], [], t, 0, 0) := by
  refine g_run [27, 52, 116, 154, 223] 400 (fun P hP => ?_)
  refine And.intro (fun c => ?_) (fun c => ?_)
  · have h := h.1 c
    refine And.intro (hL.k 144 (by decide)) ?_
    refine g_Em h (fun r u h => ?_)
    obtain ⟨rfl, hL, h⟩ := h
    refine And.intro (hL.k 144 (by decide)) (Or.inl ⟨_, (hL.r 144 14 148 (by decide)), ?_⟩)
    refine And.intro (hL.k 148 (by decide)) (And.intro (hL.v 148 (by decide) h.1) ?_)
    have h := h.2 _ rfl
    refine And.intro (hL.k 144 (by decide)) (Or.inl ⟨_, (hL.r 144 22 156 (by decide)), ?_⟩)
    refine And.intro (hL.k 156 (by decide)) (And.intro (hL.v 156 (by decide) h.1) ?_)
    have h := h.2 _ rfl
    exact hP _ h
  · have h := h.2 c
    refine And.intro (hL.k 144 (by decide)) (Or.inl ⟨_, (hL.r 144 57 179 (by decide)), ?_⟩)
    refine And.intro (hL.k 144 (by decide)) (Or.inl ⟨_, (hL.r 144 55 177 (by decide)), ?_⟩)
    refine Or.inl (And.intro (hL.k 177 (by decide)) (And.intro (hL.v 177 (by decide) h.1) ?_))
    have h := h.2
    refine And.intro (fun c => ?_) (fun c => ?_)
    · have h := h.1 c
      refine And.intro (hL.v 179 (by decide) h.1) (Or.inr (And.intro (hL.k 179 (by decide)) ?_))
      have h := h.2 _ rfl
      exact hP _ h
    · have h := h.2 c
      refine And.intro (hL.v 179 (by decide) h.1) (Or.inr (And.intro (hL.k 179 (by decide)) ?_))
      have h := h.2 _ rfl
      exact hP _ h
theorem x_Mo_fold_223 {cx : gCx} {d : Nat} {ad : Nat → Nat} {l1 l2 l3 l4 l5 l6 : Int32} {t : gSt} {post : Option Value → gSt → Prop} (hL : Lay t ad) (h : (l4 ≤ l6 → post none t) ∧ (¬ (l4 ≤ l6) → vp_in l6 1300 ∧ (((t.2.1 (ad 179) (l6 : Int32).toNatClampNeg) = 0 → g_W cx (g_E cx d) mt_Mo_fold post (223, [some (.ref (ad 144)), some (.int l1), some (.int l2), some (.int l3), some (.int l4), some (.int l5), some (.int (l6 + 1))], [], t, 0, 0)) ∧ (¬ ((t.2.1 (ad 179) (l6 : Int32).toNatClampNeg) = 0) → g_E cx d i_Mo_again [.ref (ad 144), .int l2, .int l6, .int l5] t (fun r u1 => ∃ y2 : Int32, r = some (.int y2) ∧ Lay u1 ad ∧ (vp_in l6 1300 ∧ (∀ t3, t3 = g_si u1 (ad 177) (l6 : Int32).toNatClampNeg y2 → g_W cx (g_E cx d) mt_Mo_fold post (223, [some (.ref (ad 144)), some (.int l1), some (.int l2), some (.int l3), some (.int l4), some (.int l5), some (.int (l6 + 1))], [], t3, 0, 0)))))))) : g_W cx (g_E cx d) mt_Mo_fold post (223, [some (.ref (ad 144)), some (.int l1), some (.int l2), some (.int l3), some (.int l4), some (.int l5), some (.int l6)], [], t, 0, 0) := by
  refine g_run [27, 52, 116, 154, 223] 400 (fun P hP => ?_)
  refine And.intro (fun c => ?_) (fun c => ?_)
  · have h := h.1 c
    exact And.intro rfl (And.intro rfl h)
  · have h := h.2 c
    refine And.intro (hL.k 144 (by decide)) (Or.inl ⟨_, (hL.r 144 57 179 (by decide)), ?_⟩)
    refine Or.inl (And.intro (Or.inr (hL.k 179 (by decide))) (And.intro (hL.v 179 (by decide) h.1) ?_))
    have h := h.2
    refine And.intro (fun c => ?_) (fun c => ?_)
    · have h := h.1 c
      exact hP _ h
    · have h := h.2 c
      refine And.intro (hL.k 144 (by decide)) (Or.inl ⟨_, (hL.r 144 55 177 (by decide)), ?_⟩)
      refine And.intro (hL.k 144 (by decide)) ?_
      refine g_Em h (fun r u h => ?_)
      obtain ⟨y2, rfl, hL, h⟩ := h
      refine And.intro (hL.k 177 (by decide)) (And.intro (hL.v 177 (by decide) h.1) ?_)
      have h := h.2 _ rfl
      exact hP _ h
theorem x_Mo_keepParts {cx : gCx} {d : Nat} {ad : Nat → Nat} {a1 a2 : Int32} {t : gSt} {post : Option Value → gSt → Prop} (hL : Lay t ad) (h : g_W cx (g_E cx d) mt_Mo_keepParts post (2, [some (.ref (ad 144)), some (.int a1), some (.int a2), some (.int a2), none, none], [], t, 0, 0)) : g_E cx (d + 1) i_Mo_keepParts [.ref (ad 144), .int a1, .int a2] t post := by
  refine g_call mt_Mo_keepParts rfl (by decide) (Nat.le_of_ble_eq_true rfl) ?_
  refine g_run [2, 53, 151, 176] 400 (fun P hP => ?_)
  exact hP _ h
theorem x_Mo_keepParts_2 {cx : gCx} {d : Nat} {ad : Nat → Nat} {l1 l2 l3 : Int32} {o4 o5 : Option Value} {t : gSt} {post : Option Value → gSt → Prop} (hL : Lay t ad) (h : (l3 < 0 → post none t) ∧ (¬ (l3 < 0) → ∀ x1 : Int32, x1 = ((1300 * l1) + l3) → vp_in l3 1300 ∧ (((t.2.1 (ad 179) (l3 : Int32).toNatClampNeg) = 0 → g_W cx (g_E cx d) mt_Mo_keepParts post (176, [some (.ref (ad 144)), some (.int l1), some (.int l2), some (.int l3), some (.int x1), o5], [], t, 0, 0)) ∧ (¬ ((t.2.1 (ad 179) (l3 : Int32).toNatClampNeg) = 0) → vp_in x1 93600 ∧ ((2 < (t.2.1 (ad 151) (x1 : Int32).toNatClampNeg) → vp_in x1 93600 ∧ ((¬ (t.2.1 (ad 151) (x1 : Int32).toNatClampNeg) = 15 → vp_in x1 93600 ∧ (vp_in (t.2.1 (ad 152) (x1 : Int32).toNatClampNeg) 1300 ∧ (∀ t2, t2 = g_si t (ad 179) ((t.2.1 (ad 152) (x1 : Int32).toNatClampNeg) : Int32).toNatClampNeg (vp_nar .boolean 1) → vp_in x1 93600 ∧ (((t2.2.1 (ad 151) (x1 : Int32).toNatClampNeg) = 10 → g_W cx (g_E cx d) mt_Mo_keepParts post (151, [some (.ref (ad 144)), some (.int l1), some (.int l2), some (.int l3), some (.int x1), o5], [], t2, 0, 0)) ∧ (¬ ((t2.2.1 (ad 151) (x1 : Int32).toNatClampNeg) = 10) → vp_in x1 93600 ∧ (((t2.2.1 (ad 151) (x1 : Int32).toNatClampNeg) = 11 → g_W cx (g_E cx d) mt_Mo_keepParts post (151, [some (.ref (ad 144)), some (.int l1), some (.int l2), some (.int l3), some (.int x1), o5], [], t2, 0, 0)) ∧ (¬ ((t2.2.1 (ad 151) (x1 : Int32).toNatClampNeg) = 11) → vp_in x1 93600 ∧ (vp_in (t2.2.1 (ad 153) (x1 : Int32).toNatClampNeg) 1300 ∧ (∀ t3, t3 = g_si t2 (ad 179) ((t2.2.1 (ad 153) (x1 : Int32).toNatClampNeg) : Int32).toNatClampNeg (vp_nar .boolean 1) → g_W cx (g_E cx d) mt_Mo_keepParts post (151, [some (.ref (ad 144)), some (.int l1), some (.int l2), some (.int l3), some (.int x1), o5], [], t3, 0, 0)))))))))) ∧ (¬ (¬ (t.2.1 (ad 151) (x1 : Int32).toNatClampNeg) = 15) → g_W cx (g_E cx d) mt_Mo_keepParts post (53, [some (.ref (ad 144)), some (.int l1), some (.int l2), some (.int l3), some (.int x1), some (.int 0)], [], t, 0, 0)))) ∧ (¬ (2 < (t.2.1 (ad 151) (x1 : Int32).toNatClampNeg)) → g_W cx (g_E cx d) mt_Mo_keepParts post (176, [some (.ref (ad 144)), some (.int l1), some (.int l2), some (.int l3), some (.int x1), o5], [], t, 0, 0))))))) : g_W cx (g_E cx d) mt_Mo_keepParts post (2, [some (.ref (ad 144)), some (.int l1), some (.int l2), some (.int l3), o4, o5], [], t, 0, 0) := by
  refine g_run [2, 53, 151, 176] 400 (fun P hP => ?_)
  refine And.intro (fun c => ?_) (fun c => ?_)
  · have h := h.1 c
    exact And.intro rfl (And.intro rfl h)
  · have h := h.2 c
    have h := h _ rfl
    refine And.intro (hL.k 144 (by decide)) (Or.inl ⟨_, (hL.r 144 57 179 (by decide)), ?_⟩)
    refine Or.inl (And.intro (Or.inr (hL.k 179 (by decide))) (And.intro (hL.v 179 (by decide) h.1) ?_))
    have h := h.2
    refine And.intro (fun c => ?_) (fun c => ?_)
    · have h := h.1 c
      exact hP _ h
    · have h := h.2 c
      refine And.intro (hL.k 144 (by decide)) (Or.inl ⟨_, (hL.r 144 17 151 (by decide)), ?_⟩)
      refine Or.inl (And.intro (hL.k 151 (by decide)) (And.intro (hL.v 151 (by decide) h.1) ?_))
      have h := h.2
      refine And.intro (fun c => ?_) (fun c => ?_)
      · have h := h.1 c
        refine And.intro (hL.k 144 (by decide)) (Or.inl ⟨_, (hL.r 144 17 151 (by decide)), ?_⟩)
        refine Or.inl (And.intro (hL.k 151 (by decide)) (And.intro (hL.v 151 (by decide) h.1) ?_))
        have h := h.2
        refine And.intro (fun c => ?_) (fun c => ?_)
        · have h := h.1 c
          refine And.intro (hL.k 144 (by decide)) (Or.inl ⟨_, (hL.r 144 57 179 (by decide)), ?_⟩)
          refine And.intro (hL.k 144 (by decide)) (Or.inl ⟨_, (hL.r 144 18 152 (by decide)), ?_⟩)
          refine Or.inl (And.intro (hL.k 152 (by decide)) (And.intro (hL.v 152 (by decide) h.1) ?_))
          have h := h.2
          refine And.intro (hL.v 179 (by decide) h.1) (Or.inr (And.intro (hL.k 179 (by decide)) ?_))
          have h := h.2 _ rfl
          refine And.intro (hL.k 144 (by decide)) (Or.inl ⟨_, (hL.r 144 17 151 (by decide)), ?_⟩)
          refine Or.inl (And.intro (hL.k 151 (by decide)) (And.intro (hL.v 151 (by decide) h.1) ?_))
          have h := h.2
          refine And.intro (fun c => ?_) (fun c => ?_)
          · have h := h.1 c
            exact hP _ h
          · have h := h.2 c
            refine And.intro (hL.k 144 (by decide)) (Or.inl ⟨_, (hL.r 144 17 151 (by decide)), ?_⟩)
            refine Or.inl (And.intro (hL.k 151 (by decide)) (And.intro (hL.v 151 (by decide) h.1) ?_))
            have h := h.2
            refine And.intro (fun c => ?_) (fun c => ?_)
            · have h := h.1 c
              exact hP _ h
            · have h := h.2 c
              refine And.intro (hL.k 144 (by decide)) (Or.inl ⟨_, (hL.r 144 57 179 (by decide)), ?_⟩)
              refine And.intro (hL.k 144 (by decide)) (Or.inl ⟨_, (hL.r 144 19 153 (by decide)), ?_⟩)
              refine Or.inl (And.intro (hL.k 153 (by decide)) (And.intro (hL.v 153 (by decide) h.1) ?_))
              have h := h.2
              refine And.intro (hL.v 179 (by decide) h.1) (Or.inr (And.intro (hL.k 179 (by decide)) ?_))
              have h := h.2 _ rfl
              exact hP _ h
        · have h := h.2 c
          exact hP _ h
      · have h := h.2 c
        exact hP _ h
theorem x_Mo_keepParts_53 {cx : gCx} {d : Nat} {ad : Nat → Nat} {l1 l2 l3 l4 l5 : Int32} {t : gSt} {post : Option Value → gSt → Prop} (hL : Lay t ad) (h : vp_in l4 93600 ∧ (((t.2.1 (ad 153) (l4 : Int32).toNatClampNeg) ≤ l5 → g_W cx (g_E cx d) mt_Mo_keepParts post (176, [some (.ref (ad 144)), some (.int l1), some (.int l2), some (.int l3), some (.int l4), some (.int l5)], [], t, 0, 0)) ∧ (¬ ((t.2.1 (ad 153) (l4 : Int32).toNatClampNeg) ≤ l5) → vp_in l4 93600 ∧ (vp_in (((1300 * l1) + (t.2.1 (ad 152) (l4 : Int32).toNatClampNeg)) + l5) 93600 ∧ (vp_in (t.2.1 (ad 155) ((((1300 * l1) + (t.2.1 (ad 152) (l4 : Int32).toNatClampNeg)) + l5) : Int32).toNatClampNeg) 1300 ∧ (∀ t1, t1 = g_si t (ad 179) ((t.2.1 (ad 155) ((((1300 * l1) + (t.2.1 (ad 152) (l4 : Int32).toNatClampNeg)) + l5) : Int32).toNatClampNeg) : Int32).toNatClampNeg (vp_nar .boolean 1) → g_W cx (g_E cx d) mt_Mo_keepParts post (53, [some (.ref (ad 144)), some (.int l1), some (.int l2), some (.int l3), some (.int l4), some (.int (l5 + 1))], [], t1, 0, 0))))))) : g_W cx (g_E cx d) mt_Mo_keepParts post (53, [some (.ref (ad 144)), some (.int l1), some (.int l2), some (.int l3), some (.int l4), some (.int l5)], [], t, 0, 0) := by
  refine g_run [2, 53, 151, 176] 400 (fun P hP => ?_)
  refine And.intro (hL.k 144 (by decide)) (Or.inl ⟨_, (hL.r 144 19 153 (by decide)), ?_⟩)
  refine Or.inl (And.intro (hL.k 153 (by decide)) (And.intro (hL.v 153 (by decide) h.1) ?_))
  have h := h.2
  refine And.intro (fun c => ?_) (fun c => ?_)
  · have h := h.1 c
    exact hP _ h
  · have h := h.2 c
    refine And.intro (hL.k 144 (by decide)) (Or.inl ⟨_, (hL.r 144 57 179 (by decide)), ?_⟩)
    refine And.intro (hL.k 144 (by decide)) (Or.inl ⟨_, (hL.r 144 21 155 (by decide)), ?_⟩)
    refine And.intro (hL.k 144 (by decide)) (Or.inl ⟨_, (hL.r 144 18 152 (by decide)), ?_⟩)
    refine Or.inl (And.intro (hL.k 152 (by decide)) (And.intro (hL.v 152 (by decide) h.1) ?_))
    have h := h.2
    refine Or.inl (And.intro (hL.k 155 (by decide)) (And.intro (hL.v 155 (by decide) h.1) ?_))
    have h := h.2
    refine And.intro (hL.v 179 (by decide) h.1) (Or.inr (And.intro (hL.k 179 (by decide)) ?_))
    have h := h.2 _ rfl
    exact hP _ h
theorem x_Mo_keepParts_151 {cx : gCx} {d : Nat} {ad : Nat → Nat} {l1 l2 l3 l4 : Int32} {o5 : Option Value} {t : gSt} {post : Option Value → gSt → Prop} (hL : Lay t ad) (h : vp_in l4 93600 ∧ ((¬ (t.2.1 (ad 151) (l4 : Int32).toNatClampNeg) = 13 → g_W cx (g_E cx d) mt_Mo_keepParts post (176, [some (.ref (ad 144)), some (.int l1), some (.int l2), some (.int l3), some (.int l4), o5], [], t, 0, 0)) ∧ (¬ (¬ (t.2.1 (ad 151) (l4 : Int32).toNatClampNeg) = 13) → vp_in l4 93600 ∧ (vp_in (t.2.1 (ad 154) (l4 : Int32).toNatClampNeg) 1300 ∧ (∀ t1, t1 = g_si t (ad 179) ((t.2.1 (ad 154) (l4 : Int32).toNatClampNeg) : Int32).toNatClampNeg (vp_nar .boolean 1) → g_W cx (g_E cx d) mt_Mo_keepParts post (176, [some (.ref (ad 144)), some (.int l1), some (.int l2), some (.int l3), some (.int l4), o5], [], t1, 0, 0)))))) : g_W cx (g_E cx d) mt_Mo_keepParts post (151, [some (.ref (ad 144)), some (.int l1), some (.int l2), some (.int l3), some (.int l4), o5], [], t, 0, 0) := by
  refine g_run [2, 53, 151, 176] 400 (fun P hP => ?_)
  refine And.intro (hL.k 144 (by decide)) (Or.inl ⟨_, (hL.r 144 17 151 (by decide)), ?_⟩)
  refine Or.inl (And.intro (hL.k 151 (by decide)) (And.intro (hL.v 151 (by decide) h.1) ?_))
  have h := h.2
  refine And.intro (fun c => ?_) (fun c => ?_)
  · have h := h.1 c
    exact hP _ h
  · have h := h.2 c
    refine And.intro (hL.k 144 (by decide)) (Or.inl ⟨_, (hL.r 144 57 179 (by decide)), ?_⟩)
    refine And.intro (hL.k 144 (by decide)) (Or.inl ⟨_, (hL.r 144 20 154 (by decide)), ?_⟩)
    refine Or.inl (And.intro (hL.k 154 (by decide)) (And.intro (hL.v 154 (by decide) h.1) ?_))
    have h := h.2
    refine And.intro (hL.v 179 (by decide) h.1) (Or.inr (And.intro (hL.k 179 (by decide)) ?_))
    have h := h.2 _ rfl
    exact hP _ h
theorem x_Mo_keepParts_176 {cx : gCx} {d : Nat} {ad : Nat → Nat} {l1 l2 l3 l4 : Int32} {o5 : Option Value} {t : gSt} {post : Option Value → gSt → Prop} (hL : Lay t ad) (h : g_W cx (g_E cx d) mt_Mo_keepParts post (2, [some (.ref (ad 144)), some (.int l1), some (.int l2), some (.int (l3 + (-1))), some (.int l4), o5], [], t, 0, 0)) : g_W cx (g_E cx d) mt_Mo_keepParts post (176, [some (.ref (ad 144)), some (.int l1), some (.int l2), some (.int l3), some (.int l4), o5], [], t, 0, 0) := by
  refine g_run [2, 53, 151, 176] 400 (fun P hP => ?_)
  exact hP _ h
theorem x_Mo_stands {cx : gCx} {d : Nat} {ad : Nat → Nat} {a1 a2 a3 : Int32} {t : gSt} {post : Option Value → gSt → Prop} (hL : Lay t ad) (h : g_W cx (g_E cx d) mt_Mo_stands post (3, [some (.ref (ad 144)), some (.int a1), some (.int a2), some (.int a3), some (.int 0)], [], t, 0, 0)) : g_E cx (d + 1) i_Mo_stands [.ref (ad 144), .int a1, .int a2, .int a3] t post := by
  refine g_call mt_Mo_stands rfl (by decide) (Nat.le_of_ble_eq_true rfl) ?_
  refine g_run [3, 42] 400 (fun P hP => ?_)
  exact hP _ h
theorem x_Mo_stands_3 {cx : gCx} {d : Nat} {ad : Nat → Nat} {l1 l2 l3 l4 : Int32} {t : gSt} {post : Option Value → gSt → Prop} (hL : Lay t ad) (h : (l2 < l4 → g_E cx d i_Mo_keepParts [.ref (ad 144), .int l1, .int l2] t (fun r u1 => r = none ∧ Lay u1 ad ∧ (g_W cx (g_E cx d) mt_Mo_stands post (42, [some (.ref (ad 144)), some (.int l1), some (.int l2), some (.int l3), some (.int 0)], [], u1, 0, 0)))) ∧ (¬ (l2 < l4) → (¬ l4 = l2 → vp_in l4 1300 ∧ (∀ t3, t3 = g_si t (ad 179) (l4 : Int32).toNatClampNeg (vp_nar .boolean 0) → g_W cx (g_E cx d) mt_Mo_stands post (3, [some (.ref (ad 144)), some (.int l1), some (.int l2), some (.int l3), some (.int (l4 + 1))], [], t3, 0, 0))) ∧ (¬ (¬ l4 = l2) → vp_in l4 1300 ∧ (∀ t4, t4 = g_si t (ad 179) (l4 : Int32).toNatClampNeg (vp_nar .boolean 1) → g_W cx (g_E cx d) mt_Mo_stands post (3, [some (.ref (ad 144)), some (.int l1), some (.int l2), some (.int l3), some (.int (l4 + 1))], [], t4, 0, 0))))) : g_W cx (g_E cx d) mt_Mo_stands post (3, [some (.ref (ad 144)), some (.int l1), some (.int l2), some (.int l3), some (.int l4)], [], t, 0, 0) := by
  refine g_run [3, 42] 400 (fun P hP => ?_)
  refine And.intro (fun c => ?_) (fun c => ?_)
  · have h := h.1 c
    refine And.intro (hL.k 144 (by decide)) ?_
    refine g_Em h (fun r u h => ?_)
    obtain ⟨rfl, hL, h⟩ := h
    exact hP _ h
  · have h := h.2 c
    refine And.intro (hL.k 144 (by decide)) (Or.inl ⟨_, (hL.r 144 57 179 (by decide)), ?_⟩)
    refine And.intro (fun c => ?_) (fun c => ?_)
    · have h := h.1 c
      refine And.intro (hL.v 179 (by decide) h.1) (Or.inr (And.intro (hL.k 179 (by decide)) ?_))
      have h := h.2 _ rfl
      exact hP _ h
    · have h := h.2 c
      refine And.intro (hL.v 179 (by decide) h.1) (Or.inr (And.intro (hL.k 179 (by decide)) ?_))
      have h := h.2 _ rfl
      exact hP _ h
theorem x_Mo_stands_42 {cx : gCx} {d : Nat} {ad : Nat → Nat} {l1 l2 l3 l4 : Int32} {t : gSt} {post : Option Value → gSt → Prop} (hL : Lay t ad) (h : (l2 < l4 → post (some (.int 0)) t) ∧ (¬ (l2 < l4) → vp_in l4 1300 ∧ (((t.2.1 (ad 179) (l4 : Int32).toNatClampNeg) = 0 → g_W cx (g_E cx d) mt_Mo_stands post (42, [some (.ref (ad 144)), some (.int l1), some (.int l2), some (.int l3), some (.int (l4 + 1))], [], t, 0, 0)) ∧ (¬ ((t.2.1 (ad 179) (l4 : Int32).toNatClampNeg) = 0) → vp_in ((1300 * l1) + l4) 93600 ∧ ((¬ (t.2.1 (ad 151) (((1300 * l1) + l4) : Int32).toNatClampNeg) = 2 → g_W cx (g_E cx d) mt_Mo_stands post (42, [some (.ref (ad 144)), some (.int l1), some (.int l2), some (.int l3), some (.int (l4 + 1))], [], t, 0, 0)) ∧ (¬ (¬ (t.2.1 (ad 151) (((1300 * l1) + l4) : Int32).toNatClampNeg) = 2) → vp_in ((1300 * l1) + l4) 93600 ∧ ((¬ (t.2.1 (ad 152) (((1300 * l1) + l4) : Int32).toNatClampNeg) = l3 → g_W cx (g_E cx d) mt_Mo_stands post (42, [some (.ref (ad 144)), some (.int l1), some (.int l2), some (.int l3), some (.int (l4 + 1))], [], t, 0, 0)) ∧ (¬ (¬ (t.2.1 (ad 152) (((1300 * l1) + l4) : Int32).toNatClampNeg) = l3) → post (some (.int 1)) t)))))))) : g_W cx (g_E cx d) mt_Mo_stands post (42, [some (.ref (ad 144)), some (.int l1), some (.int l2), some (.int l3), some (.int l4)], [], t, 0, 0) := by
  refine g_run [3, 42] 400 (fun P hP => ?_)
  refine And.intro (fun c => ?_) (fun c => ?_)
  · have h := h.1 c
    exact And.intro rfl (And.intro rfl h)
  · have h := h.2 c
    refine And.intro (hL.k 144 (by decide)) (Or.inl ⟨_, (hL.r 144 57 179 (by decide)), ?_⟩)
    refine Or.inl (And.intro (Or.inr (hL.k 179 (by decide))) (And.intro (hL.v 179 (by decide) h.1) ?_))
    have h := h.2
    refine And.intro (fun c => ?_) (fun c => ?_)
    · have h := h.1 c
      exact hP _ h
    · have h := h.2 c
      refine And.intro (hL.k 144 (by decide)) (Or.inl ⟨_, (hL.r 144 17 151 (by decide)), ?_⟩)
      refine Or.inl (And.intro (hL.k 151 (by decide)) (And.intro (hL.v 151 (by decide) h.1) ?_))
      have h := h.2
      refine And.intro (fun c => ?_) (fun c => ?_)
      · have h := h.1 c
        exact hP _ h
      · have h := h.2 c
        refine And.intro (hL.k 144 (by decide)) (Or.inl ⟨_, (hL.r 144 18 152 (by decide)), ?_⟩)
        refine Or.inl (And.intro (hL.k 152 (by decide)) (And.intro (hL.v 152 (by decide) h.1) ?_))
        have h := h.2
        refine And.intro (fun c => ?_) (fun c => ?_)
        · have h := h.1 c
          exact hP _ h
        · have h := h.2 c
          exact And.intro rfl (And.intro rfl h)
theorem x_Mo_foldOne {cx : gCx} {d : Nat} {ad : Nat → Nat} {a1 a2 a3 : Int32} {t : gSt} {post : Option Value → gSt → Prop} (hL : Lay t ad) (h : ∀ x1 : Int32, x1 = ((1300 * a1) + a2) → vp_in x1 93600 ∧ (∀ x2 : Int32, x2 = (t.2.1 (ad 151) (x1 : Int32).toNatClampNeg) → (x2 = 1 → g_W cx (g_E cx d) mt_Mo_foldOne post (31, [some (.ref (ad 144)), some (.int a1), some (.int a2), some (.int a3), some (.int x1), some (.int x2), none, none, none], [], t, 0, 0)) ∧ (¬ (x2 = 1) → (¬ x2 = 15 → g_W cx (g_E cx d) mt_Mo_foldOne post (61, [some (.ref (ad 144)), some (.int a1), some (.int a2), some (.int a3), some (.int x1), some (.int x2), none, none, none], [], t, 0, 0)) ∧ (¬ (¬ x2 = 15) → g_W cx (g_E cx d) mt_Mo_foldOne post (31, [some (.ref (ad 144)), some (.int a1), some (.int a2), some (.int a3), some (.int x1), some (.int x2), none, none, none], [], t, 0, 0))))) : g_E cx (d + 1) i_Mo_foldOne [.ref (ad 144), .int a1, .int a2, .int a3] t post := by
  refine g_call mt_Mo_foldOne rfl (by decide) (Nat.le_of_ble_eq_true rfl) ?_
  refine g_run [31, 57, 61, 124, 131, 144, 212, 213, 259, 273, 309, 310, 369, 379, 419, 439, 483, 486, 562, 566, 567] 400 (fun P hP => ?_)
  have h := h _ rfl
  refine And.intro (hL.k 144 (by decide)) (Or.inl ⟨_, (hL.r 144 17 151 (by decide)), ?_⟩)
  refine Or.inl (And.intro (hL.k 151 (by decide)) (And.intro (hL.v 151 (by decide) h.1) ?_))
  have h := h.2
  have h := h _ rfl
  refine And.intro (fun c => ?_) (fun c => ?_)
  · have h := h.1 c
    exact hP _ h
  · have h := h.2 c
    refine And.intro (fun c => ?_) (fun c => ?_)
    · have h := h.1 c
      exact hP _ h
    · have h := h.2 c
      exact hP _ h
theorem x_Mo_foldOne_31 {cx : gCx} {d : Nat} {ad : Nat → Nat} {l1 l2 l3 l4 l5 : Int32} {t : gSt} {post : Option Value → gSt → Prop} (hL : Lay t ad) (h : g_E cx d i_Mo_again [.ref (ad 144), .int l1, .int l2, .int l3] t (fun r u1 => ∃ y2 : Int32, r = some (.int y2) ∧ Lay u1 ad ∧ ((¬ l5 = 1 → g_W cx (g_E cx d) mt_Mo_foldOne post (57, [some (.ref (ad 144)), some (.int l1), some (.int l2), some (.int l3), some (.int l4), some (.int l5), some (.int y2), none, none], [.int 0, .int y2, .ref (ad 178)], u1, 0, 0)) ∧ (¬ (¬ l5 = 1) → g_W cx (g_E cx d) mt_Mo_foldOne post (57, [some (.ref (ad 144)), some (.int l1), some (.int l2), some (.int l3), some (.int l4), some (.int l5), some (.int y2), none, none], [.int 1, .int y2, .ref (ad 178)], u1, 0, 0))))) : g_W cx (g_E cx d) mt_Mo_foldOne post (31, [some (.ref (ad 144)), some (.int l1), some (.int l2), some (.int l3), some (.int l4), some (.int l5), none, none, none], [], t, 0, 0) := by
  refine g_run [31, 57, 61, 124, 131, 144, 212, 213, 259, 273, 309, 310, 369, 379, 419, 439, 483, 486, 562, 566, 567] 400 (fun P hP => ?_)
  refine And.intro (hL.k 144 (by decide)) ?_
  refine g_Em h (fun r u h => ?_)
  obtain ⟨y2, rfl, hL, h⟩ := h
  refine And.intro (hL.k 144 (by decide)) (Or.inl ⟨_, (hL.r 144 56 178 (by decide)), ?_⟩)
  refine And.intro (fun c => ?_) (fun c => ?_)
  · have h := h.1 c
    exact hP _ h
  · have h := h.2 c
    exact hP _ h
theorem x_Mo_foldOne_57 {cx : gCx} {d : Nat} {ad : Nat → Nat} {l1 l2 l3 l4 l5 l6 s0 s1 : Int32} {t : gSt} {post : Option Value → gSt → Prop} (hL : Lay t ad) (h : vp_in s1 1300 ∧ (∀ t1, t1 = g_si t (ad 178) (s1 : Int32).toNatClampNeg (vp_nar .boolean s0) → post (some (.int l6)) t1)) : g_W cx (g_E cx d) mt_Mo_foldOne post (57, [some (.ref (ad 144)), some (.int l1), some (.int l2), some (.int l3), some (.int l4), some (.int l5), some (.int l6), none, none], [.int s0, .int s1, .ref (ad 178)], t, 0, 0) := by
  refine g_run [31, 57, 61, 124, 131, 144, 212, 213, 259, 273, 309, 310, 369, 379, 419, 439, 483, 486, 562, 566, 567] 400 (fun P hP => ?_)
  refine And.intro (hL.v 178 (by decide) h.1) (Or.inr (And.intro (hL.k 178 (by decide)) ?_))
  have h := h.2 _ rfl
  exact And.intro rfl (And.intro rfl h)
theorem x_Mo_foldOne_61 {cx : gCx} {d : Nat} {ad : Nat → Nat} {l1 l2 l3 l4 l5 : Int32} {t : gSt} {post : Option Value → gSt → Prop} (hL : Lay t ad) (h : (¬ l5 = 2 → g_W cx (g_E cx d) mt_Mo_foldOne post (144, [some (.ref (ad 144)), some (.int l1), some (.int l2), some (.int l3), some (.int l4), some (.int l5), none, none, none], [], t, 0, 0)) ∧ (¬ (¬ l5 = 2) → vp_in l4 93600 ∧ (vp_in (t.2.1 (ad 152) (l4 : Int32).toNatClampNeg) 130 ∧ (∀ x1 : Int32, x1 = (t.2.1 (ad 181) ((t.2.1 (ad 152) (l4 : Int32).toNatClampNeg) : Int32).toNatClampNeg) → (x1 < 0 → g_W cx (g_E cx d) mt_Mo_foldOne post (124, [some (.ref (ad 144)), some (.int l1), some (.int l2), some (.int l3), some (.int l4), some (.int l5), some (.int x1), none, none], [], t, 0, 0)) ∧ (¬ (x1 < 0) → vp_in x1 1300 ∧ (g_E cx d i_Mo_isNumber [.ref (ad 144), .int l3, .int (t.2.1 (ad 177) (x1 : Int32).toNatClampNeg)] t (fun r u2 => ∃ y3 : Int32, r = some (.int y3) ∧ Lay u2 ad ∧ ((y3 = 0 → g_W cx (g_E cx d) mt_Mo_foldOne post (124, [some (.ref (ad 144)), some (.int l1), some (.int l2), some (.int l3), some (.int l4), some (.int l5), some (.int x1), none, none], [], u2, 0, 0)) ∧ (¬ (y3 = 0) → vp_in x1 1300 ∧ (g_E cx d i_Mo_numberOf [.ref (ad 144), .int l3, .int (u2.2.1 (ad 177) (x1 : Int32).toNatClampNeg)] u2 (fun r u4 => ∃ y5 : Int32, r = some (.int y5) ∧ Lay u4 ad ∧ (g_E cx d i_Mo_node [.ref (ad 144), .int l3, .int 1, .int y5, .int 0, .int 0] u4 (fun r u6 => ∃ y7 : Int32, r = some (.int y7) ∧ Lay u6 ad ∧ (g_W cx (g_E cx d) mt_Mo_foldOne post (131, [some (.ref (ad 144)), some (.int l1), some (.int l2), some (.int l3), some (.int l4), some (.int l5), some (.int x1), none, none], [.int y7], u6, 0, 0))))))))))))))) : g_W cx (g_E cx d) mt_Mo_foldOne post (61, [some (.ref (ad 144)), some (.int l1), some (.int l2), some (.int l3), some (.int l4), some (.int l5), none, none, none], [], t, 0, 0) := by
  refine g_run [31, 57, 61, 124, 131, 144, 212, 213, 259, 273, 309, 310, 369, 379, 419, 439, 483, 486, 562, 566, 567] 400 (fun P hP => ?_)
  refine And.intro (fun c => ?_) (fun c => ?_)
  · have h := h.1 c
    exact hP _ h
  · have h := h.2 c
    refine And.intro (hL.k 144 (by decide)) (Or.inl ⟨_, (hL.r 144 59 181 (by decide)), ?_⟩)
    refine And.intro (hL.k 144 (by decide)) (Or.inl ⟨_, (hL.r 144 18 152 (by decide)), ?_⟩)
    refine Or.inl (And.intro (hL.k 152 (by decide)) (And.intro (hL.v 152 (by decide) h.1) ?_))
    have h := h.2
    refine Or.inl (And.intro (hL.k 181 (by decide)) (And.intro (hL.v 181 (by decide) h.1) ?_))
    have h := h.2
    have h := h _ rfl
    refine And.intro (fun c => ?_) (fun c => ?_)
    · have h := h.1 c
      exact hP _ h
    · have h := h.2 c
      refine And.intro (hL.k 144 (by decide)) (Or.inl ⟨_, (hL.r 144 55 177 (by decide)), ?_⟩)
      refine Or.inl (And.intro (hL.k 177 (by decide)) (And.intro (hL.v 177 (by decide) h.1) ?_))
      have h := h.2
      refine And.intro (hL.k 144 (by decide)) ?_
      refine g_Em h (fun r u h => ?_)
      obtain ⟨y3, rfl, hL, h⟩ := h
      refine And.intro (fun c => ?_) (fun c => ?_)
      · have h := h.1 c
        exact hP _ h
      · have h := h.2 c
        refine And.intro (hL.k 144 (by decide)) (Or.inl ⟨_, (hL.r 144 55 177 (by decide)), ?_⟩)
        refine Or.inl (And.intro (hL.k 177 (by decide)) (And.intro (hL.v 177 (by decide) h.1) ?_))
        have h := h.2
        refine And.intro (hL.k 144 (by decide)) ?_
        refine g_Em h (fun r u h => ?_)
        obtain ⟨y5, rfl, hL, h⟩ := h
        refine And.intro (hL.k 144 (by decide)) ?_
        refine g_Em h (fun r u h => ?_)
        obtain ⟨y7, rfl, hL, h⟩ := h
        exact hP _ h
theorem x_Mo_foldOne_124 {cx : gCx} {d : Nat} {ad : Nat → Nat} {l1 l2 l3 l4 l5 l6 : Int32} {t : gSt} {post : Option Value → gSt → Prop} (hL : Lay t ad) (h : g_E cx d i_Mo_again [.ref (ad 144), .int l1, .int l2, .int l3] t (fun r u1 => ∃ y2 : Int32, r = some (.int y2) ∧ Lay u1 ad ∧ (g_W cx (g_E cx d) mt_Mo_foldOne post (131, [some (.ref (ad 144)), some (.int l1), some (.int l2), some (.int l3), some (.int l4), some (.int l5), some (.int l6), none, none], [.int y2], u1, 0, 0)))) : g_W cx (g_E cx d) mt_Mo_foldOne post (124, [some (.ref (ad 144)), some (.int l1), some (.int l2), some (.int l3), some (.int l4), some (.int l5), some (.int l6), none, none], [], t, 0, 0) := by
  refine g_run [31, 57, 61, 124, 131, 144, 212, 213, 259, 273, 309, 310, 369, 379, 419, 439, 483, 486, 562, 566, 567] 400 (fun P hP => ?_)
  refine And.intro (hL.k 144 (by decide)) ?_
  refine g_Em h (fun r u h => ?_)
  obtain ⟨y2, rfl, hL, h⟩ := h
  exact hP _ h
theorem x_Mo_foldOne_131 {cx : gCx} {d : Nat} {ad : Nat → Nat} {l1 l2 l3 l4 l5 l6 s0 : Int32} {t : gSt} {post : Option Value → gSt → Prop} (hL : Lay t ad) (h : vp_in s0 1300 ∧ (∀ t1, t1 = g_si t (ad 178) (s0 : Int32).toNatClampNeg (vp_nar .boolean 1) → post (some (.int s0)) t1)) : g_W cx (g_E cx d) mt_Mo_foldOne post (131, [some (.ref (ad 144)), some (.int l1), some (.int l2), some (.int l3), some (.int l4), some (.int l5), some (.int l6), none, none], [.int s0], t, 0, 0) := by
  refine g_run [31, 57, 61, 124, 131, 144, 212, 213, 259, 273, 309, 310, 369, 379, 419, 439, 483, 486, 562, 566, 567] 400 (fun P hP => ?_)
  refine And.intro (hL.k 144 (by decide)) (Or.inl ⟨_, (hL.r 144 56 178 (by decide)), ?_⟩)
  refine And.intro (hL.v 178 (by decide) h.1) (Or.inr (And.intro (hL.k 178 (by decide)) ?_))
  have h := h.2 _ rfl
  exact And.intro rfl (And.intro rfl h)
theorem x_Mo_foldOne_144 {cx : gCx} {d : Nat} {ad : Nat → Nat} {l1 l2 l3 l4 l5 : Int32} {t : gSt} {post : Option Value → gSt → Prop} (hL : Lay t ad) (h : vp_in l4 93600 ∧ (vp_in (t.2.1 (ad 152) (l4 : Int32).toNatClampNeg) 1300 ∧ (∀ x1 : Int32, x1 = (t.2.1 (ad 177) ((t.2.1 (ad 152) (l4 : Int32).toNatClampNeg) : Int32).toNatClampNeg) → (¬ l5 = 13 → g_W cx (g_E cx d) mt_Mo_foldOne post (213, [some (.ref (ad 144)), some (.int l1), some (.int l2), some (.int l3), some (.int l4), some (.int l5), some (.int x1), none, none], [], t, 0, 0)) ∧ (¬ (¬ l5 = 13) → g_E cx d i_Mo_isNumber [.ref (ad 144), .int l3, .int x1] t (fun r u2 => ∃ y3 : Int32, r = some (.int y3) ∧ Lay u2 ad ∧ ((y3 = 0 → g_W cx (g_E cx d) mt_Mo_foldOne post (213, [some (.ref (ad 144)), some (.int l1), some (.int l2), some (.int l3), some (.int l4), some (.int l5), some (.int x1), none, none], [], u2, 0, 0)) ∧ (¬ (y3 = 0) → g_E cx d i_Mo_numberOf [.ref (ad 144), .int l3, .int x1] u2 (fun r u4 => ∃ y5 : Int32, r = some (.int y5) ∧ Lay u4 ad ∧ ((¬ y5 = 0 → vp_in l4 93600 ∧ (vp_in (u4.2.1 (ad 153) (l4 : Int32).toNatClampNeg) 1300 ∧ (g_W cx (g_E cx d) mt_Mo_foldOne post (212, [some (.ref (ad 144)), some (.int l1), some (.int l2), some (.int l3), some (.int l4), some (.int l5), some (.int x1), none, none], [.int (u4.2.1 (ad 177) ((u4.2.1 (ad 153) (l4 : Int32).toNatClampNeg) : Int32).toNatClampNeg)], u4, 0, 0)))) ∧ (¬ (¬ y5 = 0) → vp_in l4 93600 ∧ (vp_in (u4.2.1 (ad 154) (l4 : Int32).toNatClampNeg) 1300 ∧ (g_W cx (g_E cx d) mt_Mo_foldOne post (212, [some (.ref (ad 144)), some (.int l1), some (.int l2), some (.int l3), some (.int l4), some (.int l5), some (.int x1), none, none], [.int (u4.2.1 (ad 177) ((u4.2.1 (ad 154) (l4 : Int32).toNatClampNeg) : Int32).toNatClampNeg)], u4, 0, 0))))))))))))) : g_W cx (g_E cx d) mt_Mo_foldOne post (144, [some (.ref (ad 144)), some (.int l1), some (.int l2), some (.int l3), some (.int l4), some (.int l5), none, none, none], [], t, 0, 0) := by
  refine g_run [31, 57, 61, 124, 131, 144, 212, 213, 259, 273, 309, 310, 369, 379, 419, 439, 483, 486, 562, 566, 567] 400 (fun P hP => ?_)
  refine And.intro (hL.k 144 (by decide)) (Or.inl ⟨_, (hL.r 144 55 177 (by decide)), ?_⟩)
  refine And.intro (hL.k 144 (by decide)) (Or.inl ⟨_, (hL.r 144 18 152 (by decide)), ?_⟩)
  refine Or.inl (And.intro (hL.k 152 (by decide)) (And.intro (hL.v 152 (by decide) h.1) ?_))
  have h := h.2
  refine Or.inl (And.intro (hL.k 177 (by decide)) (And.intro (hL.v 177 (by decide) h.1) ?_))
  have h := h.2
  have h := h _ rfl
  refine And.intro (fun c => ?_) (fun c => ?_)
  · have h := h.1 c
    exact hP _ h
  · have h := h.2 c
    refine And.intro (hL.k 144 (by decide)) ?_
    refine g_Em h (fun r u h => ?_)
    obtain ⟨y3, rfl, hL, h⟩ := h
    refine And.intro (fun c => ?_) (fun c => ?_)
    · have h := h.1 c
      exact hP _ h
    · have h := h.2 c
      refine And.intro (hL.k 144 (by decide)) ?_
      refine g_Em h (fun r u h => ?_)
      obtain ⟨y5, rfl, hL, h⟩ := h
      refine And.intro (fun c => ?_) (fun c => ?_)
      · have h := h.1 c
        refine And.intro (hL.k 144 (by decide)) (Or.inl ⟨_, (hL.r 144 55 177 (by decide)), ?_⟩)
        refine And.intro (hL.k 144 (by decide)) (Or.inl ⟨_, (hL.r 144 19 153 (by decide)), ?_⟩)
        refine Or.inl (And.intro (hL.k 153 (by decide)) (And.intro (hL.v 153 (by decide) h.1) ?_))
        have h := h.2
        refine Or.inl (And.intro (hL.k 177 (by decide)) (And.intro (hL.v 177 (by decide) h.1) ?_))
        have h := h.2
        exact hP _ h
      · have h := h.2 c
        refine And.intro (hL.k 144 (by decide)) (Or.inl ⟨_, (hL.r 144 55 177 (by decide)), ?_⟩)
        refine And.intro (hL.k 144 (by decide)) (Or.inl ⟨_, (hL.r 144 20 154 (by decide)), ?_⟩)
        refine Or.inl (And.intro (hL.k 154 (by decide)) (And.intro (hL.v 154 (by decide) h.1) ?_))
        have h := h.2
        refine Or.inl (And.intro (hL.k 177 (by decide)) (And.intro (hL.v 177 (by decide) h.1) ?_))
        have h := h.2
        exact hP _ h
theorem x_Mo_foldOne_212 {cx : gCx} {d : Nat} {ad : Nat → Nat} {l1 l2 l3 l4 l5 l6 s0 : Int32} {t : gSt} {post : Option Value → gSt → Prop} (hL : Lay t ad) (h : post (some (.int s0)) t) : g_W cx (g_E cx d) mt_Mo_foldOne post (212, [some (.ref (ad 144)), some (.int l1), some (.int l2), some (.int l3), some (.int l4), some (.int l5), some (.int l6), none, none], [.int s0], t, 0, 0) := by
  refine g_run [31, 57, 61, 124, 131, 144, 212, 213, 259, 273, 309, 310, 369, 379, 419, 439, 483, 486, 562, 566, 567] 400 (fun P hP => ?_)
  exact And.intro rfl (And.intro rfl h)
theorem x_Mo_foldOne_213 {cx : gCx} {d : Nat} {ad : Nat → Nat} {l1 l2 l3 l4 l5 l6 : Int32} {t : gSt} {post : Option Value → gSt → Prop} (hL : Lay t ad) (h : (¬ l5 = 10 → g_W cx (g_E cx d) mt_Mo_foldOne post (259, [some (.ref (ad 144)), some (.int l1), some (.int l2), some (.int l3), some (.int l4), some (.int l5), some (.int l6), none, none], [], t, 0, 0)) ∧ (¬ (¬ l5 = 10) → g_E cx d i_Mo_isNumber [.ref (ad 144), .int l3, .int l6] t (fun r u1 => ∃ y2 : Int32, r = some (.int y2) ∧ Lay u1 ad ∧ ((y2 = 0 → g_W cx (g_E cx d) mt_Mo_foldOne post (259, [some (.ref (ad 144)), some (.int l1), some (.int l2), some (.int l3), some (.int l4), some (.int l5), some (.int l6), none, none], [], u1, 0, 0)) ∧ (¬ (y2 = 0) → g_E cx d i_Mo_numberOf [.ref (ad 144), .int l3, .int l6] u1 (fun r u3 => ∃ y4 : Int32, r = some (.int y4) ∧ Lay u3 ad ∧ (g_E cx d i_Mo_node [.ref (ad 144), .int l3, .int 1, .int (-y4), .int 0, .int 0] u3 (fun r u5 => ∃ y6 : Int32, r = some (.int y6) ∧ Lay u5 ad ∧ (vp_in y6 1300 ∧ (∀ t7, t7 = g_si u5 (ad 178) (y6 : Int32).toNatClampNeg (vp_nar .boolean 1) → post (some (.int y6)) t7)))))))))) : g_W cx (g_E cx d) mt_Mo_foldOne post (213, [some (.ref (ad 144)), some (.int l1), some (.int l2), some (.int l3), some (.int l4), some (.int l5), some (.int l6), none, none], [], t, 0, 0) := by
  refine g_run [31, 57, 61, 124, 131, 144, 212, 213, 259, 273, 309, 310, 369, 379, 419, 439, 483, 486, 562, 566, 567] 400 (fun P hP => ?_)
  refine And.intro (fun c => ?_) (fun c => ?_)
  · have h := h.1 c
    exact hP _ h
  · have h := h.2 c
    refine And.intro (hL.k 144 (by decide)) ?_
    refine g_Em h (fun r u h => ?_)
    obtain ⟨y2, rfl, hL, h⟩ := h
    refine And.intro (fun c => ?_) (fun c => ?_)
    · have h := h.1 c
      exact hP _ h
    · have h := h.2 c
      refine And.intro (hL.k 144 (by decide)) ?_
      refine g_Em h (fun r u h => ?_)
      obtain ⟨y4, rfl, hL, h⟩ := h
      refine And.intro (hL.k 144 (by decide)) ?_
      refine g_Em h (fun r u h => ?_)
      obtain ⟨y6, rfl, hL, h⟩ := h
      refine And.intro (hL.k 144 (by decide)) (Or.inl ⟨_, (hL.r 144 56 178 (by decide)), ?_⟩)
      refine And.intro (hL.v 178 (by decide) h.1) (Or.inr (And.intro (hL.k 178 (by decide)) ?_))
      have h := h.2 _ rfl
      exact And.intro rfl (And.intro rfl h)
theorem x_Mo_foldOne_259 {cx : gCx} {d : Nat} {ad : Nat → Nat} {l1 l2 l3 l4 l5 l6 : Int32} {t : gSt} {post : Option Value → gSt → Prop} (hL : Lay t ad) (h : (l5 = 10 → g_W cx (g_E cx d) mt_Mo_foldOne post (273, [some (.ref (ad 144)), some (.int l1), some (.int l2), some (.int l3), some (.int l4), some (.int l5), some (.int l6), none, none], [], t, 0, 0)) ∧ (¬ (l5 = 10) → (¬ l5 = 11 → vp_in l4 93600 ∧ (vp_in (t.2.1 (ad 153) (l4 : Int32).toNatClampNeg) 1300 ∧ (∀ x1 : Int32, x1 = (t.2.1 (ad 177) ((t.2.1 (ad 153) (l4 : Int32).toNatClampNeg) : Int32).toNatClampNeg) → (9 < l5 → g_W cx (g_E cx d) mt_Mo_foldOne post (419, [some (.ref (ad 144)), some (.int l1), some (.int l2), some (.int l3), some (.int l4), some (.int l5), some (.int l6), some (.int x1), none], [], t, 0, 0)) ∧ (¬ (9 < l5) → g_E cx d i_Mo_isNumber [.ref (ad 144), .int l3, .int l6] t (fun r u2 => ∃ y3 : Int32, r = some (.int y3) ∧ Lay u2 ad ∧ ((y3 = 0 → g_W cx (g_E cx d) mt_Mo_foldOne post (419, [some (.ref (ad 144)), some (.int l1), some (.int l2), some (.int l3), some (.int l4), some (.int l5), some (.int l6), some (.int x1), none], [], u2, 0, 0)) ∧ (¬ (y3 = 0) → g_E cx d i_Mo_isNumber [.ref (ad 144), .int l3, .int x1] u2 (fun r u4 => ∃ y5 : Int32, r = some (.int y5) ∧ Lay u4 ad ∧ ((y5 = 0 → g_W cx (g_E cx d) mt_Mo_foldOne post (419, [some (.ref (ad 144)), some (.int l1), some (.int l2), some (.int l3), some (.int l4), some (.int l5), some (.int l6), some (.int x1), none], [], u4, 0, 0)) ∧ (¬ (y5 = 0) → (l5 = 6 → g_W cx (g_E cx d) mt_Mo_foldOne post (369, [some (.ref (ad 144)), some (.int l1), some (.int l2), some (.int l3), some (.int l4), some (.int l5), some (.int l6), some (.int x1), none], [], u4, 0, 0)) ∧ (¬ (l5 = 6) → (¬ l5 = 7 → g_W cx (g_E cx d) mt_Mo_foldOne post (379, [some (.ref (ad 144)), some (.int l1), some (.int l2), some (.int l3), some (.int l4), some (.int l5), some (.int l6), some (.int x1), none], [], u4, 0, 0)) ∧ (¬ (¬ l5 = 7) → g_W cx (g_E cx d) mt_Mo_foldOne post (369, [some (.ref (ad 144)), some (.int l1), some (.int l2), some (.int l3), some (.int l4), some (.int l5), some (.int l6), some (.int x1), none], [], u4, 0, 0))))))))))))) ∧ (¬ (¬ l5 = 11) → g_W cx (g_E cx d) mt_Mo_foldOne post (273, [some (.ref (ad 144)), some (.int l1), some (.int l2), some (.int l3), some (.int l4), some (.int l5), some (.int l6), none, none], [], t, 0, 0)))) : g_W cx (g_E cx d) mt_Mo_foldOne post (259, [some (.ref (ad 144)), some (.int l1), some (.int l2), some (.int l3), some (.int l4), some (.int l5), some (.int l6), none, none], [], t, 0, 0) := by
  refine g_run [31, 57, 61, 124, 131, 144, 212, 213, 259, 273, 309, 310, 369, 379, 419, 439, 483, 486, 562, 566, 567] 400 (fun P hP => ?_)
  refine And.intro (fun c => ?_) (fun c => ?_)
  · have h := h.1 c
    exact hP _ h
  · have h := h.2 c
    refine And.intro (fun c => ?_) (fun c => ?_)
    · have h := h.1 c
      refine And.intro (hL.k 144 (by decide)) (Or.inl ⟨_, (hL.r 144 55 177 (by decide)), ?_⟩)
      refine And.intro (hL.k 144 (by decide)) (Or.inl ⟨_, (hL.r 144 19 153 (by decide)), ?_⟩)
      refine Or.inl (And.intro (hL.k 153 (by decide)) (And.intro (hL.v 153 (by decide) h.1) ?_))
      have h := h.2
      refine Or.inl (And.intro (hL.k 177 (by decide)) (And.intro (hL.v 177 (by decide) h.1) ?_))
      have h := h.2
      have h := h _ rfl
      refine And.intro (fun c => ?_) (fun c => ?_)
      · have h := h.1 c
        exact hP _ h
      · have h := h.2 c
        refine And.intro (hL.k 144 (by decide)) ?_
        refine g_Em h (fun r u h => ?_)
        obtain ⟨y3, rfl, hL, h⟩ := h
        refine And.intro (fun c => ?_) (fun c => ?_)
        · have h := h.1 c
          exact hP _ h
        · have h := h.2 c
          refine And.intro (hL.k 144 (by decide)) ?_
          refine g_Em h (fun r u h => ?_)
          obtain ⟨y5, rfl, hL, h⟩ := h
          refine And.intro (fun c => ?_) (fun c => ?_)
          · have h := h.1 c
            exact hP _ h
          · have h := h.2 c
            refine And.intro (fun c => ?_) (fun c => ?_)
            · have h := h.1 c
              exact hP _ h
            · have h := h.2 c
              refine And.intro (fun c => ?_) (fun c => ?_)
              · have h := h.1 c
                exact hP _ h
              · have h := h.2 c
                exact hP _ h
    · have h := h.2 c
      exact hP _ h
theorem x_Mo_foldOne_273 {cx : gCx} {d : Nat} {ad : Nat → Nat} {l1 l2 l3 l4 l5 l6 : Int32} {t : gSt} {post : Option Value → gSt → Prop} (hL : Lay t ad) (h : g_E cx d i_Mo_again [.ref (ad 144), .int l1, .int l2, .int l3] t (fun r u1 => ∃ y2 : Int32, r = some (.int y2) ∧ Lay u1 ad ∧ ((¬ l5 = 10 → g_W cx (g_E cx d) mt_Mo_foldOne post (309, [some (.ref (ad 144)), some (.int l1), some (.int l2), some (.int l3), some (.int l4), some (.int l5), some (.int l6), some (.int y2), none], [.int y2, .ref (ad 178)], u1, 0, 0)) ∧ (¬ (¬ l5 = 10) → vp_in l6 1300 ∧ (((u1.2.1 (ad 178) (l6 : Int32).toNatClampNeg) = 0 → g_W cx (g_E cx d) mt_Mo_foldOne post (309, [some (.ref (ad 144)), some (.int l1), some (.int l2), some (.int l3), some (.int l4), some (.int l5), some (.int l6), some (.int y2), none], [.int y2, .ref (ad 178)], u1, 0, 0)) ∧ (¬ ((u1.2.1 (ad 178) (l6 : Int32).toNatClampNeg) = 0) → g_W cx (g_E cx d) mt_Mo_foldOne post (310, [some (.ref (ad 144)), some (.int l1), some (.int l2), some (.int l3), some (.int l4), some (.int l5), some (.int l6), some (.int y2), none], [.int 1, .int y2, .ref (ad 178)], u1, 0, 0))))))) : g_W cx (g_E cx d) mt_Mo_foldOne post (273, [some (.ref (ad 144)), some (.int l1), some (.int l2), some (.int l3), some (.int l4), some (.int l5), some (.int l6), none, none], [], t, 0, 0) := by
  refine g_run [31, 57, 61, 124, 131, 144, 212, 213, 259, 273, 309, 310, 369, 379, 419, 439, 483, 486, 562, 566, 567] 400 (fun P hP => ?_)
  refine And.intro (hL.k 144 (by decide)) ?_
  refine g_Em h (fun r u h => ?_)
  obtain ⟨y2, rfl, hL, h⟩ := h
  refine And.intro (hL.k 144 (by decide)) (Or.inl ⟨_, (hL.r 144 56 178 (by decide)), ?_⟩)
  refine And.intro (fun c => ?_) (fun c => ?_)
  · have h := h.1 c
    exact hP _ h
  · have h := h.2 c
    refine And.intro (hL.k 144 (by decide)) (Or.inl ⟨_, (hL.r 144 56 178 (by decide)), ?_⟩)
    refine Or.inl (And.intro (Or.inr (hL.k 178 (by decide))) (And.intro (hL.v 178 (by decide) h.1) ?_))
    have h := h.2
    refine And.intro (fun c => ?_) (fun c => ?_)
    · have h := h.1 c
      exact hP _ h
    · have h := h.2 c
      exact hP _ h
theorem x_Mo_foldOne_309 {cx : gCx} {d : Nat} {ad : Nat → Nat} {l1 l2 l3 l4 l5 l6 l7 s0 : Int32} {t : gSt} {post : Option Value → gSt → Prop} (hL : Lay t ad) (h : g_W cx (g_E cx d) mt_Mo_foldOne post (310, [some (.ref (ad 144)), some (.int l1), some (.int l2), some (.int l3), some (.int l4), some (.int l5), some (.int l6), some (.int l7), none], [.int 0, .int s0, .ref (ad 178)], t, 0, 0)) : g_W cx (g_E cx d) mt_Mo_foldOne post (309, [some (.ref (ad 144)), some (.int l1), some (.int l2), some (.int l3), some (.int l4), some (.int l5), some (.int l6), some (.int l7), none], [.int s0, .ref (ad 178)], t, 0, 0) := by
  refine g_run [31, 57, 61, 124, 131, 144, 212, 213, 259, 273, 309, 310, 369, 379, 419, 439, 483, 486, 562, 566, 567] 400 (fun P hP => ?_)
  exact hP _ h
theorem x_Mo_foldOne_310 {cx : gCx} {d : Nat} {ad : Nat → Nat} {l1 l2 l3 l4 l5 l6 l7 s0 s1 : Int32} {t : gSt} {post : Option Value → gSt → Prop} (hL : Lay t ad) (h : vp_in s1 1300 ∧ (∀ t1, t1 = g_si t (ad 178) (s1 : Int32).toNatClampNeg (vp_nar .boolean s0) → post (some (.int l7)) t1)) : g_W cx (g_E cx d) mt_Mo_foldOne post (310, [some (.ref (ad 144)), some (.int l1), some (.int l2), some (.int l3), some (.int l4), some (.int l5), some (.int l6), some (.int l7), none], [.int s0, .int s1, .ref (ad 178)], t, 0, 0) := by
  refine g_run [31, 57, 61, 124, 131, 144, 212, 213, 259, 273, 309, 310, 369, 379, 419, 439, 483, 486, 562, 566, 567] 400 (fun P hP => ?_)
  refine And.intro (hL.v 178 (by decide) h.1) (Or.inr (And.intro (hL.k 178 (by decide)) ?_))
  have h := h.2 _ rfl
  exact And.intro rfl (And.intro rfl h)
theorem x_Mo_foldOne_369 {cx : gCx} {d : Nat} {ad : Nat → Nat} {l1 l2 l3 l4 l5 l6 l7 : Int32} {t : gSt} {post : Option Value → gSt → Prop} (hL : Lay t ad) (h : g_E cx d i_Mo_numberOf [.ref (ad 144), .int l3, .int l7] t (fun r u1 => ∃ y2 : Int32, r = some (.int y2) ∧ Lay u1 ad ∧ ((y2 = 0 → g_W cx (g_E cx d) mt_Mo_foldOne post (419, [some (.ref (ad 144)), some (.int l1), some (.int l2), some (.int l3), some (.int l4), some (.int l5), some (.int l6), some (.int l7), none], [], u1, 0, 0)) ∧ (¬ (y2 = 0) → g_W cx (g_E cx d) mt_Mo_foldOne post (379, [some (.ref (ad 144)), some (.int l1), some (.int l2), some (.int l3), some (.int l4), some (.int l5), some (.int l6), some (.int l7), none], [], u1, 0, 0))))) : g_W cx (g_E cx d) mt_Mo_foldOne post (369, [some (.ref (ad 144)), some (.int l1), some (.int l2), some (.int l3), some (.int l4), some (.int l5), some (.int l6), some (.int l7), none], [], t, 0, 0) := by
  refine g_run [31, 57, 61, 124, 131, 144, 212, 213, 259, 273, 309, 310, 369, 379, 419, 439, 483, 486, 562, 566, 567] 400 (fun P hP => ?_)
  refine And.intro (hL.k 144 (by decide)) ?_
  refine g_Em h (fun r u h => ?_)
  obtain ⟨y2, rfl, hL, h⟩ := h
  refine And.intro (fun c => ?_) (fun c => ?_)
  · have h := h.1 c
    exact hP _ h
  · have h := h.2 c
    exact hP _ h
theorem x_Mo_foldOne_379 {cx : gCx} {d : Nat} {ad : Nat → Nat} {l1 l2 l3 l4 l5 l6 l7 : Int32} {t : gSt} {post : Option Value → gSt → Prop} (hL : Lay t ad) (h : g_E cx d i_Mo_numberOf [.ref (ad 144), .int l3, .int l6] t (fun r u1 => ∃ y2 : Int32, r = some (.int y2) ∧ Lay u1 ad ∧ (g_E cx d i_Mo_numberOf [.ref (ad 144), .int l3, .int l7] u1 (fun r u3 => ∃ y4 : Int32, r = some (.int y4) ∧ Lay u3 ad ∧ (g_E cx d i_Mo_reckon [.int l5, .int y2, .int y4] u3 (fun r u5 => ∃ y6 : Int32, r = some (.int y6) ∧ Lay u5 ad ∧ (g_E cx d i_Mo_node [.ref (ad 144), .int l3, .int 1, .int y6, .int 0, .int 0] u5 (fun r u7 => ∃ y8 : Int32, r = some (.int y8) ∧ Lay u7 ad ∧ (vp_in y8 1300 ∧ (∀ t9, t9 = g_si u7 (ad 178) (y8 : Int32).toNatClampNeg (vp_nar .boolean 1) → post (some (.int y8)) t9)))))))))) : g_W cx (g_E cx d) mt_Mo_foldOne post (379, [some (.ref (ad 144)), some (.int l1), some (.int l2), some (.int l3), some (.int l4), some (.int l5), some (.int l6), some (.int l7), none], [], t, 0, 0) := by
  refine g_run [31, 57, 61, 124, 131, 144, 212, 213, 259, 273, 309, 310, 369, 379, 419, 439, 483, 486, 562, 566, 567] 400 (fun P hP => ?_)
  refine And.intro (hL.k 144 (by decide)) ?_
  refine g_Em h (fun r u h => ?_)
  obtain ⟨y2, rfl, hL, h⟩ := h
  refine And.intro (hL.k 144 (by decide)) ?_
  refine g_Em h (fun r u h => ?_)
  obtain ⟨y4, rfl, hL, h⟩ := h
  refine g_Em h (fun r u h => ?_)
  obtain ⟨y6, rfl, hL, h⟩ := h
  refine And.intro (hL.k 144 (by decide)) ?_
  refine g_Em h (fun r u h => ?_)
  obtain ⟨y8, rfl, hL, h⟩ := h
  refine And.intro (hL.k 144 (by decide)) (Or.inl ⟨_, (hL.r 144 56 178 (by decide)), ?_⟩)
  refine And.intro (hL.v 178 (by decide) h.1) (Or.inr (And.intro (hL.k 178 (by decide)) ?_))
  have h := h.2 _ rfl
  exact And.intro rfl (And.intro rfl h)
theorem x_Mo_foldOne_419 {cx : gCx} {d : Nat} {ad : Nat → Nat} {l1 l2 l3 l4 l5 l6 l7 : Int32} {t : gSt} {post : Option Value → gSt → Prop} (hL : Lay t ad) (h : (¬ l5 = 12 → g_W cx (g_E cx d) mt_Mo_foldOne post (439, [some (.ref (ad 144)), some (.int l1), some (.int l2), some (.int l3), some (.int l4), some (.int l5), some (.int l6), some (.int l7), none], [], t, 0, 0)) ∧ (¬ (¬ l5 = 12) → vp_in l6 1300 ∧ (((t.2.1 (ad 178) (l6 : Int32).toNatClampNeg) = 0 → g_W cx (g_E cx d) mt_Mo_foldOne post (439, [some (.ref (ad 144)), some (.int l1), some (.int l2), some (.int l3), some (.int l4), some (.int l5), some (.int l6), some (.int l7), none], [], t, 0, 0)) ∧ (¬ ((t.2.1 (ad 178) (l6 : Int32).toNatClampNeg) = 0) → post (some (.int l7)) t)))) : g_W cx (g_E cx d) mt_Mo_foldOne post (419, [some (.ref (ad 144)), some (.int l1), some (.int l2), some (.int l3), some (.int l4), some (.int l5), some (.int l6), some (.int l7), none], [], t, 0, 0) := by
  refine g_run [31, 57, 61, 124, 131, 144, 212, 213, 259, 273, 309, 310, 369, 379, 419, 439, 483, 486, 562, 566, 567] 400 (fun P hP => ?_)
  refine And.intro (fun c => ?_) (fun c => ?_)
  · have h := h.1 c
    exact hP _ h
  · have h := h.2 c
    refine And.intro (hL.k 144 (by decide)) (Or.inl ⟨_, (hL.r 144 56 178 (by decide)), ?_⟩)
    refine Or.inl (And.intro (Or.inr (hL.k 178 (by decide))) (And.intro (hL.v 178 (by decide) h.1) ?_))
    have h := h.2
    refine And.intro (fun c => ?_) (fun c => ?_)
    · have h := h.1 c
      exact hP _ h
    · have h := h.2 c
      exact And.intro rfl (And.intro rfl h)
theorem x_Mo_foldOne_439 {cx : gCx} {d : Nat} {ad : Nat → Nat} {l1 l2 l3 l4 l5 l6 l7 : Int32} {t : gSt} {post : Option Value → gSt → Prop} (hL : Lay t ad) (h : (¬ l5 = 14 → g_W cx (g_E cx d) mt_Mo_foldOne post (486, [some (.ref (ad 144)), some (.int l1), some (.int l2), some (.int l3), some (.int l4), some (.int l5), some (.int l6), some (.int l7), none], [], t, 0, 0)) ∧ (¬ (¬ l5 = 14) → g_E cx d i_Mo_isNumber [.ref (ad 144), .int l3, .int l6] t (fun r u1 => ∃ y2 : Int32, r = some (.int y2) ∧ Lay u1 ad ∧ ((¬ y2 = 0 → g_W cx (g_E cx d) mt_Mo_foldOne post (483, [some (.ref (ad 144)), some (.int l1), some (.int l2), some (.int l3), some (.int l4), some (.int l5), some (.int l6), some (.int l7), none], [], u1, 0, 0)) ∧ (¬ (¬ y2 = 0) → vp_in l6 1300 ∧ (((u1.2.1 (ad 178) (l6 : Int32).toNatClampNeg) = 0 → g_W cx (g_E cx d) mt_Mo_foldOne post (486, [some (.ref (ad 144)), some (.int l1), some (.int l2), some (.int l3), some (.int l4), some (.int l5), some (.int l6), some (.int l7), none], [], u1, 0, 0)) ∧ (¬ ((u1.2.1 (ad 178) (l6 : Int32).toNatClampNeg) = 0) → vp_in l4 93600 ∧ (g_E cx d i_Mo_stands [.ref (ad 144), .int l3, .int l7, .int (u1.2.1 (ad 154) (l4 : Int32).toNatClampNeg)] u1 (fun r u3 => ∃ y4 : Int32, r = some (.int y4) ∧ Lay u3 ad ∧ ((¬ y4 = 0 → g_W cx (g_E cx d) mt_Mo_foldOne post (486, [some (.ref (ad 144)), some (.int l1), some (.int l2), some (.int l3), some (.int l4), some (.int l5), some (.int l6), some (.int l7), none], [], u3, 0, 0)) ∧ (¬ (¬ y4 = 0) → g_W cx (g_E cx d) mt_Mo_foldOne post (483, [some (.ref (ad 144)), some (.int l1), some (.int l2), some (.int l3), some (.int l4), some (.int l5), some (.int l6), some (.int l7), none], [], u3, 0, 0)))))))))))) : g_W cx (g_E cx d) mt_Mo_foldOne post (439, [some (.ref (ad 144)), some (.int l1), some (.int l2), some (.int l3), some (.int l4), some (.int l5), some (.int l6), some (.int l7), none], [], t, 0, 0) := by
  refine g_run [31, 57, 61, 124, 131, 144, 212, 213, 259, 273, 309, 310, 369, 379, 419, 439, 483, 486, 562, 566, 567] 400 (fun P hP => ?_)
  refine And.intro (fun c => ?_) (fun c => ?_)
  · have h := h.1 c
    exact hP _ h
  · have h := h.2 c
    refine And.intro (hL.k 144 (by decide)) ?_
    refine g_Em h (fun r u h => ?_)
    obtain ⟨y2, rfl, hL, h⟩ := h
    refine And.intro (fun c => ?_) (fun c => ?_)
    · have h := h.1 c
      exact hP _ h
    · have h := h.2 c
      refine And.intro (hL.k 144 (by decide)) (Or.inl ⟨_, (hL.r 144 56 178 (by decide)), ?_⟩)
      refine Or.inl (And.intro (Or.inr (hL.k 178 (by decide))) (And.intro (hL.v 178 (by decide) h.1) ?_))
      have h := h.2
      refine And.intro (fun c => ?_) (fun c => ?_)
      · have h := h.1 c
        exact hP _ h
      · have h := h.2 c
        refine And.intro (hL.k 144 (by decide)) (Or.inl ⟨_, (hL.r 144 20 154 (by decide)), ?_⟩)
        refine Or.inl (And.intro (hL.k 154 (by decide)) (And.intro (hL.v 154 (by decide) h.1) ?_))
        have h := h.2
        refine And.intro (hL.k 144 (by decide)) ?_
        refine g_Em h (fun r u h => ?_)
        obtain ⟨y4, rfl, hL, h⟩ := h
        refine And.intro (fun c => ?_) (fun c => ?_)
        · have h := h.1 c
          exact hP _ h
        · have h := h.2 c
          exact hP _ h
theorem x_Mo_foldOne_483 {cx : gCx} {d : Nat} {ad : Nat → Nat} {l1 l2 l3 l4 l5 l6 l7 : Int32} {t : gSt} {post : Option Value → gSt → Prop} (hL : Lay t ad) (h : post (some (.int l7)) t) : g_W cx (g_E cx d) mt_Mo_foldOne post (483, [some (.ref (ad 144)), some (.int l1), some (.int l2), some (.int l3), some (.int l4), some (.int l5), some (.int l6), some (.int l7), none], [], t, 0, 0) := by
  refine g_run [31, 57, 61, 124, 131, 144, 212, 213, 259, 273, 309, 310, 369, 379, 419, 439, 483, 486, 562, 566, 567] 400 (fun P hP => ?_)
  exact And.intro rfl (And.intro rfl h)
theorem x_Mo_foldOne_486 {cx : gCx} {d : Nat} {ad : Nat → Nat} {l1 l2 l3 l4 l5 l6 l7 : Int32} {t : gSt} {post : Option Value → gSt → Prop} (hL : Lay t ad) (h : g_E cx d i_Mo_again [.ref (ad 144), .int l1, .int l2, .int l3] t (fun r u1 => ∃ y2 : Int32, r = some (.int y2) ∧ Lay u1 ad ∧ ((l5 = 6 → g_W cx (g_E cx d) mt_Mo_foldOne post (566, [some (.ref (ad 144)), some (.int l1), some (.int l2), some (.int l3), some (.int l4), some (.int l5), some (.int l6), some (.int l7), some (.int y2)], [.int y2, .ref (ad 178)], u1, 0, 0)) ∧ (¬ (l5 = 6) → (l5 = 7 → g_W cx (g_E cx d) mt_Mo_foldOne post (566, [some (.ref (ad 144)), some (.int l1), some (.int l2), some (.int l3), some (.int l4), some (.int l5), some (.int l6), some (.int l7), some (.int y2)], [.int y2, .ref (ad 178)], u1, 0, 0)) ∧ (¬ (l5 = 7) → vp_in l6 1300 ∧ (((u1.2.1 (ad 178) (l6 : Int32).toNatClampNeg) = 0 → g_W cx (g_E cx d) mt_Mo_foldOne post (566, [some (.ref (ad 144)), some (.int l1), some (.int l2), some (.int l3), some (.int l4), some (.int l5), some (.int l6), some (.int l7), some (.int y2)], [.int y2, .ref (ad 178)], u1, 0, 0)) ∧ (¬ ((u1.2.1 (ad 178) (l6 : Int32).toNatClampNeg) = 0) → vp_in l7 1300 ∧ (((u1.2.1 (ad 178) (l7 : Int32).toNatClampNeg) = 0 → g_W cx (g_E cx d) mt_Mo_foldOne post (566, [some (.ref (ad 144)), some (.int l1), some (.int l2), some (.int l3), some (.int l4), some (.int l5), some (.int l6), some (.int l7), some (.int y2)], [.int y2, .ref (ad 178)], u1, 0, 0)) ∧ (¬ ((u1.2.1 (ad 178) (l7 : Int32).toNatClampNeg) = 0) → (¬ l5 = 13 → g_W cx (g_E cx d) mt_Mo_foldOne post (562, [some (.ref (ad 144)), some (.int l1), some (.int l2), some (.int l3), some (.int l4), some (.int l5), some (.int l6), some (.int l7), some (.int y2)], [.int y2, .ref (ad 178)], u1, 0, 0)) ∧ (¬ (¬ l5 = 13) → vp_in l4 93600 ∧ (vp_in (u1.2.1 (ad 154) (l4 : Int32).toNatClampNeg) 1300 ∧ (vp_in (u1.2.1 (ad 177) ((u1.2.1 (ad 154) (l4 : Int32).toNatClampNeg) : Int32).toNatClampNeg) 1300 ∧ (((u1.2.1 (ad 178) ((u1.2.1 (ad 177) ((u1.2.1 (ad 154) (l4 : Int32).toNatClampNeg) : Int32).toNatClampNeg) : Int32).toNatClampNeg) = 0 → g_W cx (g_E cx d) mt_Mo_foldOne post (566, [some (.ref (ad 144)), some (.int l1), some (.int l2), some (.int l3), some (.int l4), some (.int l5), some (.int l6), some (.int l7), some (.int y2)], [.int y2, .ref (ad 178)], u1, 0, 0)) ∧ (¬ ((u1.2.1 (ad 178) ((u1.2.1 (ad 177) ((u1.2.1 (ad 154) (l4 : Int32).toNatClampNeg) : Int32).toNatClampNeg) : Int32).toNatClampNeg) = 0) → g_W cx (g_E cx d) mt_Mo_foldOne post (562, [some (.ref (ad 144)), some (.int l1), some (.int l2), some (.int l3), some (.int l4), some (.int l5), some (.int l6), some (.int l7), some (.int y2)], [.int y2, .ref (ad 178)], u1, 0, 0))))))))))))))) : g_W cx (g_E cx d) mt_Mo_foldOne post (486, [some (.ref (ad 144)), some (.int l1), some (.int l2), some (.int l3), some (.int l4), some (.int l5), some (.int l6), some (.int l7), none], [], t, 0, 0) := by
  refine g_run [31, 57, 61, 124, 131, 144, 212, 213, 259, 273, 309, 310, 369, 379, 419, 439, 483, 486, 562, 566, 567] 400 (fun P hP => ?_)
  refine And.intro (hL.k 144 (by decide)) ?_
  refine g_Em h (fun r u h => ?_)
  obtain ⟨y2, rfl, hL, h⟩ := h
  refine And.intro (hL.k 144 (by decide)) (Or.inl ⟨_, (hL.r 144 56 178 (by decide)), ?_⟩)
  refine And.intro (fun c => ?_) (fun c => ?_)
  · have h := h.1 c
    exact hP _ h
  · have h := h.2 c
    refine And.intro (fun c => ?_) (fun c => ?_)
    · have h := h.1 c
      exact hP _ h
    · have h := h.2 c
      refine And.intro (hL.k 144 (by decide)) (Or.inl ⟨_, (hL.r 144 56 178 (by decide)), ?_⟩)
      refine Or.inl (And.intro (Or.inr (hL.k 178 (by decide))) (And.intro (hL.v 178 (by decide) h.1) ?_))
      have h := h.2
      refine And.intro (fun c => ?_) (fun c => ?_)
      · have h := h.1 c
        exact hP _ h
      · have h := h.2 c
        refine And.intro (hL.k 144 (by decide)) (Or.inl ⟨_, (hL.r 144 56 178 (by decide)), ?_⟩)
        refine Or.inl (And.intro (Or.inr (hL.k 178 (by decide))) (And.intro (hL.v 178 (by decide) h.1) ?_))
        have h := h.2
        refine And.intro (fun c => ?_) (fun c => ?_)
        · have h := h.1 c
          exact hP _ h
        · have h := h.2 c
          refine And.intro (fun c => ?_) (fun c => ?_)
          · have h := h.1 c
            exact hP _ h
          · have h := h.2 c
            refine And.intro (hL.k 144 (by decide)) (Or.inl ⟨_, (hL.r 144 56 178 (by decide)), ?_⟩)
            refine And.intro (hL.k 144 (by decide)) (Or.inl ⟨_, (hL.r 144 55 177 (by decide)), ?_⟩)
            refine And.intro (hL.k 144 (by decide)) (Or.inl ⟨_, (hL.r 144 20 154 (by decide)), ?_⟩)
            refine Or.inl (And.intro (hL.k 154 (by decide)) (And.intro (hL.v 154 (by decide) h.1) ?_))
            have h := h.2
            refine Or.inl (And.intro (hL.k 177 (by decide)) (And.intro (hL.v 177 (by decide) h.1) ?_))
            have h := h.2
            refine Or.inl (And.intro (Or.inr (hL.k 178 (by decide))) (And.intro (hL.v 178 (by decide) h.1) ?_))
            have h := h.2
            refine And.intro (fun c => ?_) (fun c => ?_)
            · have h := h.1 c
              exact hP _ h
            · have h := h.2 c
              exact hP _ h
theorem x_Mo_foldOne_562 {cx : gCx} {d : Nat} {ad : Nat → Nat} {l1 l2 l3 l4 l5 l6 l7 l8 s0 : Int32} {t : gSt} {post : Option Value → gSt → Prop} (hL : Lay t ad) (h : g_W cx (g_E cx d) mt_Mo_foldOne post (567, [some (.ref (ad 144)), some (.int l1), some (.int l2), some (.int l3), some (.int l4), some (.int l5), some (.int l6), some (.int l7), some (.int l8)], [.int 1, .int s0, .ref (ad 178)], t, 0, 0)) : g_W cx (g_E cx d) mt_Mo_foldOne post (562, [some (.ref (ad 144)), some (.int l1), some (.int l2), some (.int l3), some (.int l4), some (.int l5), some (.int l6), some (.int l7), some (.int l8)], [.int s0, .ref (ad 178)], t, 0, 0) := by
  refine g_run [31, 57, 61, 124, 131, 144, 212, 213, 259, 273, 309, 310, 369, 379, 419, 439, 483, 486, 562, 566, 567] 400 (fun P hP => ?_)
  exact hP _ h
theorem x_Mo_foldOne_566 {cx : gCx} {d : Nat} {ad : Nat → Nat} {l1 l2 l3 l4 l5 l6 l7 l8 s0 : Int32} {t : gSt} {post : Option Value → gSt → Prop} (hL : Lay t ad) (h : g_W cx (g_E cx d) mt_Mo_foldOne post (567, [some (.ref (ad 144)), some (.int l1), some (.int l2), some (.int l3), some (.int l4), some (.int l5), some (.int l6), some (.int l7), some (.int l8)], [.int 0, .int s0, .ref (ad 178)], t, 0, 0)) : g_W cx (g_E cx d) mt_Mo_foldOne post (566, [some (.ref (ad 144)), some (.int l1), some (.int l2), some (.int l3), some (.int l4), some (.int l5), some (.int l6), some (.int l7), some (.int l8)], [.int s0, .ref (ad 178)], t, 0, 0) := by
  refine g_run [31, 57, 61, 124, 131, 144, 212, 213, 259, 273, 309, 310, 369, 379, 419, 439, 483, 486, 562, 566, 567] 400 (fun P hP => ?_)
  exact hP _ h
theorem x_Mo_foldOne_567 {cx : gCx} {d : Nat} {ad : Nat → Nat} {l1 l2 l3 l4 l5 l6 l7 l8 s0 s1 : Int32} {t : gSt} {post : Option Value → gSt → Prop} (hL : Lay t ad) (h : vp_in s1 1300 ∧ (∀ t1, t1 = g_si t (ad 178) (s1 : Int32).toNatClampNeg (vp_nar .boolean s0) → post (some (.int l8)) t1)) : g_W cx (g_E cx d) mt_Mo_foldOne post (567, [some (.ref (ad 144)), some (.int l1), some (.int l2), some (.int l3), some (.int l4), some (.int l5), some (.int l6), some (.int l7), some (.int l8)], [.int s0, .int s1, .ref (ad 178)], t, 0, 0) := by
  refine g_run [31, 57, 61, 124, 131, 144, 212, 213, 259, 273, 309, 310, 369, 379, 419, 439, 483, 486, 562, 566, 567] 400 (fun P hP => ?_)
  refine And.intro (hL.v 178 (by decide) h.1) (Or.inr (And.intro (hL.k 178 (by decide)) ?_))
  have h := h.2 _ rfl
  exact And.intro rfl (And.intro rfl h)
theorem x_Mo_noFunction {cx : gCx} {d : Nat} {ad : Nat → Nat} {a1 a2 : Int32} {t : gSt} {post : Option Value → gSt → Prop} (hL : Lay t ad) (h : g_E cx d i_Mo_in [.long a1.toInt64, .long 0, .long 1] t (fun r u1 => ∃ y2 : Int32, r = some (.int y2) ∧ Lay u1 ad ∧ ((y2 = 0 → post (some (.int 1)) u1) ∧ (¬ (y2 = 0) → g_E cx d i_Mo_in [.long a2.toInt64, .long 0, .long ((u1.2.1 (ad 144) 11) - 1).toInt64] u1 (fun r u3 => ∃ y4 : Int32, r = some (.int y4) ∧ Lay u3 ad ∧ ((¬ y4 = 0 → post (some (.int 0)) u3) ∧ (¬ (¬ y4 = 0) → post (some (.int 1)) u3))))))) : g_E cx (d + 1) i_Mo_noFunction [.ref (ad 144), .int a1, .int a2] t post := by
  refine g_call mt_Mo_noFunction rfl (by decide) (Nat.le_of_ble_eq_true rfl) ?_
  refine g_run [] 400 (fun P hP => ?_)
  refine g_Em h (fun r u h => ?_)
  obtain ⟨y2, rfl, hL, h⟩ := h
  refine And.intro (fun c => ?_) (fun c => ?_)
  · have h := h.1 c
    exact And.intro rfl (And.intro rfl h)
  · have h := h.2 c
    refine And.intro (hL.k 144 (by decide)) ?_
    refine g_Em h (fun r u h => ?_)
    obtain ⟨y4, rfl, hL, h⟩ := h
    refine And.intro (fun c => ?_) (fun c => ?_)
    · have h := h.1 c
      exact And.intro rfl (And.intro rfl h)
    · have h := h.2 c
      exact And.intro rfl (And.intro rfl h)
