/-! PRINTED by wip/gen/xparts.py: symbolic execution, method by method -/
theorem x_Mo_functionOf {cx : gCx} {d : Nat} {ad : Nat → Nat} {a2 : Int32} {a1 : Int64} {t : gSt} {post : Option Value → gSt → Prop} (hL : Lay t ad) (h : g_W cx (g_E cx d) mt_Mo_functionOf post (3, [some (.ref (ad 144)), some (.long a1), none, some (.int a2), some (.int 0)], [], t, 0, 0)) : g_E cx (d + 1) i_Mo_functionOf [.ref (ad 144), .long a1, .int a2] t post := by
  refine g_call mt_Mo_functionOf rfl (by decide) (Nat.le_of_ble_eq_true rfl) ?_
  refine g_run [3] 400 (fun P hP => ?_)
  exact hP _ h
theorem x_Mo_functionOf_3 {cx : gCx} {d : Nat} {ad : Nat → Nat} {l3 l4 : Int32} {l1 : Int64} {t : gSt} {post : Option Value → gSt → Prop} (hL : Lay t ad) (h : (l3 ≤ l4 → post (some (.int (-1))) t) ∧ (¬ (l3 ≤ l4) → vp_in l4 25 ∧ ((¬ (lg_cmp (t.2.2.1 (ad 169) (l4 : Int32).toNatClampNeg) l1) = 0 → g_W cx (g_E cx d) mt_Mo_functionOf post (3, [some (.ref (ad 144)), some (.long l1), none, some (.int l3), some (.int (l4 + 1))], [], t, 0, 0)) ∧ (¬ (¬ (lg_cmp (t.2.2.1 (ad 169) (l4 : Int32).toNatClampNeg) l1) = 0) → post (some (.int l4)) t)))) : g_W cx (g_E cx d) mt_Mo_functionOf post (3, [some (.ref (ad 144)), some (.long l1), none, some (.int l3), some (.int l4)], [], t, 0, 0) := by
  refine g_run [3] 400 (fun P hP => ?_)
  refine And.intro (fun c => ?_) (fun c => ?_)
  · have h := h.1 c
    exact And.intro rfl (And.intro rfl h)
  · have h := h.2 c
    refine And.intro (hL.k 144 (by decide)) (Or.inl ⟨_, (hL.r 144 43 169 (by decide)), ?_⟩)
    refine Or.inl (And.intro (hL.k 169 (by decide)) (And.intro (hL.v 169 (by decide) h.1) ?_))
    have h := h.2
    refine And.intro (fun c => ?_) (fun c => ?_)
    · have h := h.1 c
      exact hP _ h
    · have h := h.2 c
      exact And.intro rfl (And.intro rfl h)
theorem x_Mo_readFunction {cx : gCx} {d : Nat} {ad : Nat → Nat} {t : gSt} {post : Option Value → gSt → Prop} (hL : Lay t ad) (h : g_E cx d i_Mo_must [.ref (ad 144), .int 3] t (fun r u1 => ∃ y2 : Int32, r = some (.int y2) ∧ Lay u1 ad ∧ ((¬ y2 = 0 → g_E cx d i_Mo_look [.ref (ad 144)] u1 (fun r u3 => ∃ y4 : Int32, r = some (.int y4) ∧ Lay u3 ad ∧ ((y4 = 2 → g_E cx d i_Mo_functionOf [.ref (ad 144), .long (u3.2.2.1 (ad 144) 10), .int (u3.2.1 (ad 144) 23)] u3 (fun r u5 => ∃ y6 : Int32, r = some (.int y6) ∧ Lay u5 ad ∧ ((y6 < 0 → (¬ (u5.2.1 (ad 144) 23) = 24 → vp_in (u5.2.1 (ad 144) 23) 25 ∧ (∀ t7, t7 = g_sj u5 (ad 169) ((u5.2.1 (ad 144) 23) : Int32).toNatClampNeg (u5.2.2.1 (ad 144) 10) → g_E cx d i_Mo_take [.ref (ad 144)] t7 (fun r u8 => r = none ∧ Lay u8 ad ∧ (∀ t10, t10 = g_si u8 (ad 144) 28 0 → g_E cx d i_Mo_must [.ref (ad 144), .int 10] t10 (fun r u11 => ∃ y12 : Int32, r = some (.int y12) ∧ Lay u11 ad ∧ ((¬ y12 = 0 → g_E cx d i_Mo_look [.ref (ad 144)] u11 (fun r u13 => ∃ y14 : Int32, r = some (.int y14) ∧ Lay u13 ad ∧ ((y14 = 11 → g_W cx (g_E cx d) mt_Mo_readFunction post (119, [some (.ref (ad 144)), some (.int 0), none, none], [.int 0], u13, 0, 0)) ∧ (¬ (y14 = 11) → g_W cx (g_E cx d) mt_Mo_readFunction post (119, [some (.ref (ad 144)), some (.int 0), none, none], [.int 1], u13, 0, 0))))) ∧ (¬ (¬ y12 = 0) → post none u11))))))) ∧ (¬ (¬ (u5.2.1 (ad 144) 23) = 24) → g_E cx d i_Mo_fail [.ref (ad 144), .int 5, .int (u5.2.1 (ad 144) 8)] u5 (fun r u15 => r = none ∧ Lay u15 ad ∧ (post none u15)))) ∧ (¬ (y6 < 0) → g_E cx d i_Mo_fail [.ref (ad 144), .int 3, .int (u5.2.1 (ad 144) 8)] u5 (fun r u17 => r = none ∧ Lay u17 ad ∧ (post none u17)))))) ∧ (¬ (y4 = 2) → g_E cx d i_Mo_fail [.ref (ad 144), .int 2, .int (u3.2.1 (ad 144) 8)] u3 (fun r u19 => r = none ∧ Lay u19 ad ∧ (post none u19)))))) ∧ (¬ (¬ y2 = 0) → post none u1)))) : g_E cx (d + 1) i_Mo_readFunction [.ref (ad 144)] t post := by
  refine g_call mt_Mo_readFunction rfl (by decide) (Nat.le_of_ble_eq_true rfl) ?_
  refine g_run [119, 120, 151, 240, 252, 270, 374, 408] 400 (fun P hP => ?_)
  refine And.intro (hL.k 144 (by decide)) ?_
  refine g_Em h (fun r u h => ?_)
  obtain ⟨y2, rfl, hL, h⟩ := h
  refine And.intro (fun c => ?_) (fun c => ?_)
  · have h := h.1 c
    refine And.intro (hL.k 144 (by decide)) ?_
    refine g_Em h (fun r u h => ?_)
    obtain ⟨y4, rfl, hL, h⟩ := h
    refine And.intro (fun c => ?_) (fun c => ?_)
    · have h := h.1 c
      refine And.intro (hL.k 144 (by decide)) ?_
      refine And.intro (hL.k 144 (by decide)) ?_
      refine And.intro (hL.k 144 (by decide)) ?_
      refine g_Em h (fun r u h => ?_)
      obtain ⟨y6, rfl, hL, h⟩ := h
      refine And.intro (fun c => ?_) (fun c => ?_)
      · have h := h.1 c
        refine And.intro (hL.k 144 (by decide)) ?_
        refine And.intro (fun c => ?_) (fun c => ?_)
        · have h := h.1 c
          refine And.intro (hL.k 144 (by decide)) (Or.inl ⟨_, (hL.r 144 43 169 (by decide)), ?_⟩)
          refine And.intro (hL.k 144 (by decide)) ?_
          refine And.intro (hL.k 144 (by decide)) ?_
          refine And.intro (hL.k 169 (by decide)) (And.intro (hL.v 169 (by decide) h.1) ?_)
          have h := h.2 _ rfl
          refine And.intro (hL.k 144 (by decide)) ?_
          refine g_Em h (fun r u h => ?_)
          obtain ⟨rfl, hL, h⟩ := h
          refine And.intro (hL.k 144 (by decide)) ?_
          have h := h _ rfl
          refine And.intro (hL.k 144 (by decide)) ?_
          refine g_Em h (fun r u h => ?_)
          obtain ⟨y12, rfl, hL, h⟩ := h
          refine And.intro (fun c => ?_) (fun c => ?_)
          · have h := h.1 c
            refine And.intro (hL.k 144 (by decide)) ?_
            refine g_Em h (fun r u h => ?_)
            obtain ⟨y14, rfl, hL, h⟩ := h
            refine And.intro (fun c => ?_) (fun c => ?_)
            · have h := h.1 c
              exact hP _ h
            · have h := h.2 c
              exact hP _ h
          · have h := h.2 c
            exact And.intro rfl (And.intro rfl h)
        · have h := h.2 c
          refine And.intro (hL.k 144 (by decide)) ?_
          refine And.intro (hL.k 144 (by decide)) ?_
          refine g_Em h (fun r u h => ?_)
          obtain ⟨rfl, hL, h⟩ := h
          exact And.intro rfl (And.intro rfl h)
      · have h := h.2 c
        refine And.intro (hL.k 144 (by decide)) ?_
        refine And.intro (hL.k 144 (by decide)) ?_
        refine g_Em h (fun r u h => ?_)
        obtain ⟨rfl, hL, h⟩ := h
        exact And.intro rfl (And.intro rfl h)
    · have h := h.2 c
      refine And.intro (hL.k 144 (by decide)) ?_
      refine And.intro (hL.k 144 (by decide)) ?_
      refine g_Em h (fun r u h => ?_)
      obtain ⟨rfl, hL, h⟩ := h
      exact And.intro rfl (And.intro rfl h)
  · have h := h.2 c
    exact And.intro rfl (And.intro rfl h)
theorem x_Mo_readFunction_119 {cx : gCx} {d : Nat} {ad : Nat → Nat} {l1 s0 : Int32} {t : gSt} {post : Option Value → gSt → Prop} (hL : Lay t ad) (h : g_W cx (g_E cx d) mt_Mo_readFunction post (120, [some (.ref (ad 144)), some (.int l1), some (.int s0), none], [], t, 0, 0)) : g_W cx (g_E cx d) mt_Mo_readFunction post (119, [some (.ref (ad 144)), some (.int l1), none, none], [.int s0], t, 0, 0) := by
  refine g_run [119, 120, 151, 240, 252, 270, 374, 408] 400 (fun P hP => ?_)
  exact hP _ h
theorem x_Mo_readFunction_120 {cx : gCx} {d : Nat} {ad : Nat → Nat} {l1 l2 : Int32} {o3 : Option Value} {t : gSt} {post : Option Value → gSt → Prop} (hL : Lay t ad) (h : (l2 = 0 → g_W cx (g_E cx d) mt_Mo_readFunction post (252, [some (.ref (ad 144)), some (.int l1), some (.int l2), o3], [], t, 0, 0)) ∧ (¬ (l2 = 0) → (¬ (t.2.1 (ad 144) 3) = 0 → g_W cx (g_E cx d) mt_Mo_readFunction post (252, [some (.ref (ad 144)), some (.int l1), some (.int l2), o3], [], t, 0, 0)) ∧ (¬ (¬ (t.2.1 (ad 144) 3) = 0) → g_E cx d i_Mo_look [.ref (ad 144)] t (fun r u1 => ∃ y2 : Int32, r = some (.int y2) ∧ Lay u1 ad ∧ ((y2 = 2 → g_W cx (g_E cx d) mt_Mo_readFunction post (151, [some (.ref (ad 144)), some (.int l1), some (.int l2), some (.int 0)], [], u1, 0, 0)) ∧ (¬ (y2 = 2) → g_E cx d i_Mo_fail [.ref (ad 144), .int 2, .int (u1.2.1 (ad 144) 8)] u1 (fun r u3 => r = none ∧ Lay u3 ad ∧ (post none u3)))))))) : g_W cx (g_E cx d) mt_Mo_readFunction post (120, [some (.ref (ad 144)), some (.int l1), some (.int l2), o3], [], t, 0, 0) := by
  refine g_run [119, 120, 151, 240, 252, 270, 374, 408] 400 (fun P hP => ?_)
  refine And.intro (fun c => ?_) (fun c => ?_)
  · have h := h.1 c
    exact hP _ h
  · have h := h.2 c
    refine And.intro (hL.k 144 (by decide)) ?_
    refine And.intro (fun c => ?_) (fun c => ?_)
    · have h := h.1 c
      exact hP _ h
    · have h := h.2 c
      refine And.intro (hL.k 144 (by decide)) ?_
      refine g_Em h (fun r u h => ?_)
      obtain ⟨y2, rfl, hL, h⟩ := h
      refine And.intro (fun c => ?_) (fun c => ?_)
      · have h := h.1 c
        exact hP _ h
      · have h := h.2 c
        refine And.intro (hL.k 144 (by decide)) ?_
        refine And.intro (hL.k 144 (by decide)) ?_
        refine g_Em h (fun r u h => ?_)
        obtain ⟨rfl, hL, h⟩ := h
        exact And.intro rfl (And.intro rfl h)
theorem x_Mo_readFunction_151 {cx : gCx} {d : Nat} {ad : Nat → Nat} {l1 l2 l3 : Int32} {t : gSt} {post : Option Value → gSt → Prop} (hL : Lay t ad) (h : (l1 ≤ l3 → (¬ l1 = 6 → vp_in l1 50 ∧ (∀ t1, t1 = g_sj t (ad 157) (l1 : Int32).toNatClampNeg (t.2.2.1 (ad 144) 10) → vp_in l1 50 ∧ (∀ t2, t2 = g_si t1 (ad 158) (l1 : Int32).toNatClampNeg l1 → g_E cx d i_Mo_take [.ref (ad 144)] t2 (fun r u3 => r = none ∧ Lay u3 ad ∧ (g_E cx d i_Mo_look [.ref (ad 144)] u3 (fun r u5 => ∃ y6 : Int32, r = some (.int y6) ∧ Lay u5 ad ∧ ((¬ y6 = 12 → g_W cx (g_E cx d) mt_Mo_readFunction post (240, [some (.ref (ad 144)), some (.int (l1 + 1)), some (.int l2), some (.int l3)], [.int 0], u5, 0, 0)) ∧ (¬ (¬ y6 = 12) → g_W cx (g_E cx d) mt_Mo_readFunction post (240, [some (.ref (ad 144)), some (.int (l1 + 1)), some (.int l2), some (.int l3)], [.int 1], u5, 0, 0))))))))) ∧ (¬ (¬ l1 = 6) → g_E cx d i_Mo_fail [.ref (ad 144), .int 5, .int (t.2.1 (ad 144) 8)] t (fun r u7 => r = none ∧ Lay u7 ad ∧ (post none u7)))) ∧ (¬ (l1 ≤ l3) → vp_in l3 50 ∧ ((¬ (lg_cmp (t.2.2.1 (ad 157) (l3 : Int32).toNatClampNeg) (t.2.2.1 (ad 144) 10)) = 0 → g_W cx (g_E cx d) mt_Mo_readFunction post (151, [some (.ref (ad 144)), some (.int l1), some (.int l2), some (.int (l3 + 1))], [], t, 0, 0)) ∧ (¬ (¬ (lg_cmp (t.2.2.1 (ad 157) (l3 : Int32).toNatClampNeg) (t.2.2.1 (ad 144) 10)) = 0) → g_E cx d i_Mo_fail [.ref (ad 144), .int 3, .int (t.2.1 (ad 144) 8)] t (fun r u9 => r = none ∧ Lay u9 ad ∧ (post none u9)))))) : g_W cx (g_E cx d) mt_Mo_readFunction post (151, [some (.ref (ad 144)), some (.int l1), some (.int l2), some (.int l3)], [], t, 0, 0) := by
  refine g_run [119, 120, 151, 240, 252, 270, 374, 408] 400 (fun P hP => ?_)
  refine And.intro (fun c => ?_) (fun c => ?_)
  · have h := h.1 c
    refine And.intro (fun c => ?_) (fun c => ?_)
    · have h := h.1 c
      refine And.intro (hL.k 144 (by decide)) (Or.inl ⟨_, (hL.r 144 26 157 (by decide)), ?_⟩)
      refine And.intro (hL.k 144 (by decide)) ?_
      refine And.intro (hL.k 157 (by decide)) (And.intro (hL.v 157 (by decide) h.1) ?_)
      have h := h.2 _ rfl
      refine And.intro (hL.k 144 (by decide)) (Or.inl ⟨_, (hL.r 144 27 158 (by decide)), ?_⟩)
      refine And.intro (hL.k 158 (by decide)) (And.intro (hL.v 158 (by decide) h.1) ?_)
      have h := h.2 _ rfl
      refine And.intro (hL.k 144 (by decide)) ?_
      refine g_Em h (fun r u h => ?_)
      obtain ⟨rfl, hL, h⟩ := h
      refine And.intro (hL.k 144 (by decide)) ?_
      refine g_Em h (fun r u h => ?_)
      obtain ⟨y6, rfl, hL, h⟩ := h
      refine And.intro (fun c => ?_) (fun c => ?_)
      · have h := h.1 c
        exact hP _ h
      · have h := h.2 c
        exact hP _ h
    · have h := h.2 c
      refine And.intro (hL.k 144 (by decide)) ?_
      refine And.intro (hL.k 144 (by decide)) ?_
      refine g_Em h (fun r u h => ?_)
      obtain ⟨rfl, hL, h⟩ := h
      exact And.intro rfl (And.intro rfl h)
  · have h := h.2 c
    refine And.intro (hL.k 144 (by decide)) (Or.inl ⟨_, (hL.r 144 26 157 (by decide)), ?_⟩)
    refine Or.inl (And.intro (hL.k 157 (by decide)) (And.intro (hL.v 157 (by decide) h.1) ?_))
    have h := h.2
    refine And.intro (hL.k 144 (by decide)) ?_
    refine And.intro (fun c => ?_) (fun c => ?_)
    · have h := h.1 c
      exact hP _ h
    · have h := h.2 c
      refine And.intro (hL.k 144 (by decide)) ?_
      refine And.intro (hL.k 144 (by decide)) ?_
      refine g_Em h (fun r u h => ?_)
      obtain ⟨rfl, hL, h⟩ := h
      exact And.intro rfl (And.intro rfl h)
theorem x_Mo_readFunction_240 {cx : gCx} {d : Nat} {ad : Nat → Nat} {l1 l2 l3 s0 : Int32} {t : gSt} {post : Option Value → gSt → Prop} (hL : Lay t ad) (h : (s0 = 0 → g_W cx (g_E cx d) mt_Mo_readFunction post (120, [some (.ref (ad 144)), some (.int l1), some (.int s0), some (.int l3)], [], t, 0, 0)) ∧ (¬ (s0 = 0) → g_E cx d i_Mo_take [.ref (ad 144)] t (fun r u1 => r = none ∧ Lay u1 ad ∧ (g_W cx (g_E cx d) mt_Mo_readFunction post (120, [some (.ref (ad 144)), some (.int l1), some (.int s0), some (.int l3)], [], u1, 0, 0))))) : g_W cx (g_E cx d) mt_Mo_readFunction post (240, [some (.ref (ad 144)), some (.int l1), some (.int l2), some (.int l3)], [.int s0], t, 0, 0) := by
  refine g_run [119, 120, 151, 240, 252, 270, 374, 408] 400 (fun P hP => ?_)
  refine And.intro (fun c => ?_) (fun c => ?_)
  · have h := h.1 c
    exact hP _ h
  · have h := h.2 c
    refine And.intro (hL.k 144 (by decide)) ?_
    refine g_Em h (fun r u h => ?_)
    obtain ⟨rfl, hL, h⟩ := h
    exact hP _ h
theorem x_Mo_readFunction_252 {cx : gCx} {d : Nat} {ad : Nat → Nat} {l1 l2 : Int32} {o3 : Option Value} {t : gSt} {post : Option Value → gSt → Prop} (hL : Lay t ad) (h : g_E cx d i_Mo_must [.ref (ad 144), .int 11] t (fun r u1 => ∃ y2 : Int32, r = some (.int y2) ∧ Lay u1 ad ∧ ((y2 = 0 → g_W cx (g_E cx d) mt_Mo_readFunction post (270, [some (.ref (ad 144)), some (.int l1), some (.int l2), o3], [], u1, 0, 0)) ∧ (¬ (y2 = 0) → g_E cx d i_Mo_must [.ref (ad 144), .int 14] u1 (fun r u3 => ∃ y4 : Int32, r = some (.int y4) ∧ Lay u3 ad ∧ ((¬ y4 = 0 → ∀ t5, t5 = g_si u3 (ad 144) 28 l1 → vp_in (t5.2.1 (ad 144) 23) 25 ∧ (∀ t6, t6 = g_si t5 (ad 170) ((t5.2.1 (ad 144) 23) : Int32).toNatClampNeg l1 → ∀ t7, t7 = g_si t6 (ad 144) 25 0 → ∀ t8, t8 = g_si t7 (ad 144) 24 0 → ∀ t9, t9 = g_si t8 (ad 144) 45 l1 → vp_in (48 + (t9.2.1 (ad 144) 23)) 72 ∧ (∀ t10, t10 = g_si t9 (ad 148) ((48 + (t9.2.1 (ad 144) 23)) : Int32).toNatClampNeg 0 → vp_in (48 + (t10.2.1 (ad 144) 23)) 72 ∧ (∀ t11, t11 = g_si t10 (ad 156) ((48 + (t10.2.1 (ad 144) 23)) : Int32).toNatClampNeg 0 → ∀ x12 : Int32, x12 = (t11.2.1 (ad 144) 23) → ∀ t13, t13 = g_si t11 (ad 144) 23 (48 + x12) → g_E cx d i_Mo_readExp [.ref (ad 144)] t13 (fun r u14 => r = none ∧ Lay u14 ad ∧ (∀ t16, t16 = g_si u14 (ad 144) 23 x12 → (¬ (t16.2.1 (ad 144) 3) = 0 → g_W cx (g_E cx d) mt_Mo_readFunction post (374, [some (.ref (ad 144)), some (.int l1), some (.int l2), some (.int x12)], [], t16, 0, 0)) ∧ (¬ (¬ (t16.2.1 (ad 144) 3) = 0) → g_E cx d i_Mo_look [.ref (ad 144)] t16 (fun r u17 => ∃ y18 : Int32, r = some (.int y18) ∧ Lay u17 ad ∧ ((y18 = 22 → g_W cx (g_E cx d) mt_Mo_readFunction post (374, [some (.ref (ad 144)), some (.int l1), some (.int l2), some (.int x12)], [], u17, 0, 0)) ∧ (¬ (y18 = 22) → g_E cx d i_Mo_fail [.ref (ad 144), .int 2, .int (u17.2.1 (ad 144) 8)] u17 (fun r u19 => r = none ∧ Lay u19 ad ∧ (g_W cx (g_E cx d) mt_Mo_readFunction post (374, [some (.ref (ad 144)), some (.int l1), some (.int l2), some (.int x12)], [], u19, 0, 0))))))))))))) ∧ (¬ (¬ y4 = 0) → g_W cx (g_E cx d) mt_Mo_readFunction post (270, [some (.ref (ad 144)), some (.int l1), some (.int l2), o3], [], u3, 0, 0)))))))) : g_W cx (g_E cx d) mt_Mo_readFunction post (252, [some (.ref (ad 144)), some (.int l1), some (.int l2), o3], [], t, 0, 0) := by
  refine g_run [119, 120, 151, 240, 252, 270, 374, 408] 400 (fun P hP => ?_)
  refine And.intro (hL.k 144 (by decide)) ?_
  refine g_Em h (fun r u h => ?_)
  obtain ⟨y2, rfl, hL, h⟩ := h
  refine And.intro (fun c => ?_) (fun c => ?_)
  · have h := h.1 c
    exact hP _ h
  · have h := h.2 c
    refine And.intro (hL.k 144 (by decide)) ?_
    refine g_Em h (fun r u h => ?_)
    obtain ⟨y4, rfl, hL, h⟩ := h
    refine And.intro (fun c => ?_) (fun c => ?_)
    · have h := h.1 c
      refine And.intro (hL.k 144 (by decide)) ?_
      have h := h _ rfl
      refine And.intro (hL.k 144 (by decide)) (Or.inl ⟨_, (hL.r 144 44 170 (by decide)), ?_⟩)
      refine And.intro (hL.k 144 (by decide)) ?_
      refine And.intro (hL.k 170 (by decide)) (And.intro (hL.v 170 (by decide) h.1) ?_)
      have h := h.2 _ rfl
      refine And.intro (hL.k 144 (by decide)) ?_
      have h := h _ rfl
      refine And.intro (hL.k 144 (by decide)) ?_
      have h := h _ rfl
      refine And.intro (hL.k 144 (by decide)) ?_
      have h := h _ rfl
      refine And.intro (hL.k 144 (by decide)) (Or.inl ⟨_, (hL.r 144 14 148 (by decide)), ?_⟩)
      refine And.intro (hL.k 144 (by decide)) ?_
      refine And.intro (hL.k 148 (by decide)) (And.intro (hL.v 148 (by decide) h.1) ?_)
      have h := h.2 _ rfl
      refine And.intro (hL.k 144 (by decide)) (Or.inl ⟨_, (hL.r 144 22 156 (by decide)), ?_⟩)
      refine And.intro (hL.k 144 (by decide)) ?_
      refine And.intro (hL.k 156 (by decide)) (And.intro (hL.v 156 (by decide) h.1) ?_)
      have h := h.2 _ rfl
      refine And.intro (hL.k 144 (by decide)) ?_
      have h := h _ rfl
      refine And.intro (hL.k 144 (by decide)) ?_
      have h := h _ rfl
      refine And.intro (hL.k 144 (by decide)) ?_
      refine g_Em h (fun r u h => ?_)
      obtain ⟨rfl, hL, h⟩ := h
      refine And.intro (hL.k 144 (by decide)) ?_
      have h := h _ rfl
      refine And.intro (hL.k 144 (by decide)) ?_
      refine And.intro (fun c => ?_) (fun c => ?_)
      · have h := h.1 c
        exact hP _ h
      · have h := h.2 c
        refine And.intro (hL.k 144 (by decide)) ?_
        refine g_Em h (fun r u h => ?_)
        obtain ⟨y18, rfl, hL, h⟩ := h
        refine And.intro (fun c => ?_) (fun c => ?_)
        · have h := h.1 c
          exact hP _ h
        · have h := h.2 c
          refine And.intro (hL.k 144 (by decide)) ?_
          refine And.intro (hL.k 144 (by decide)) ?_
          refine g_Em h (fun r u h => ?_)
          obtain ⟨rfl, hL, h⟩ := h
          exact hP _ h
    · have h := h.2 c
      exact hP _ h
theorem x_Mo_readFunction_270 {cx : gCx} {d : Nat} {ad : Nat → Nat} {l1 l2 : Int32} {o3 : Option Value} {t : gSt} {post : Option Value → gSt → Prop} (hL : Lay t ad) (h : post none t) : g_W cx (g_E cx d) mt_Mo_readFunction post (270, [some (.ref (ad 144)), some (.int l1), some (.int l2), o3], [], t, 0, 0) := by
  refine g_run [119, 120, 151, 240, 252, 270, 374, 408] 400 (fun P hP => ?_)
  exact And.intro rfl (And.intro rfl h)
theorem x_Mo_readFunction_374 {cx : gCx} {d : Nat} {ad : Nat → Nat} {l1 l2 l3 : Int32} {t : gSt} {post : Option Value → gSt → Prop} (hL : Lay t ad) (h : (¬ (t.2.1 (ad 144) 3) = 0 → g_W cx (g_E cx d) mt_Mo_readFunction post (408, [some (.ref (ad 144)), some (.int l1), some (.int l2), some (.int l3)], [], t, 0, 0)) ∧ (¬ (¬ (t.2.1 (ad 144) 3) = 0) → vp_in (48 + (t.2.1 (ad 144) 23)) 72 ∧ (((t.2.1 (ad 148) ((48 + (t.2.1 (ad 144) 23)) : Int32).toNatClampNeg) ≤ 400 → g_W cx (g_E cx d) mt_Mo_readFunction post (408, [some (.ref (ad 144)), some (.int l1), some (.int l2), some (.int l3)], [], t, 0, 0)) ∧ (¬ ((t.2.1 (ad 148) ((48 + (t.2.1 (ad 144) 23)) : Int32).toNatClampNeg) ≤ 400) → g_E cx d i_Mo_fail [.ref (ad 144), .int 5, .int (t.2.1 (ad 144) 8)] t (fun r u1 => r = none ∧ Lay u1 ad ∧ (g_W cx (g_E cx d) mt_Mo_readFunction post (408, [some (.ref (ad 144)), some (.int l1), some (.int l2), some (.int l3)], [], u1, 0, 0))))))) : g_W cx (g_E cx d) mt_Mo_readFunction post (374, [some (.ref (ad 144)), some (.int l1), some (.int l2), some (.int l3)], [], t, 0, 0) := by
  refine g_run [119, 120, 151, 240, 252, 270, 374, 408] 400 (fun P hP => ?_)
  refine And.intro (hL.k 144 (by decide)) ?_
  refine And.intro (fun c => ?_) (fun c => ?_)
  · have h := h.1 c
    exact hP _ h
  · have h := h.2 c
    refine And.intro (hL.k 144 (by decide)) (Or.inl ⟨_, (hL.r 144 14 148 (by decide)), ?_⟩)
    refine And.intro (hL.k 144 (by decide)) ?_
    refine Or.inl (And.intro (hL.k 148 (by decide)) (And.intro (hL.v 148 (by decide) h.1) ?_))
    have h := h.2
    refine And.intro (fun c => ?_) (fun c => ?_)
    · have h := h.1 c
      exact hP _ h
    · have h := h.2 c
      refine And.intro (hL.k 144 (by decide)) ?_
      refine And.intro (hL.k 144 (by decide)) ?_
      refine g_Em h (fun r u h => ?_)
      obtain ⟨rfl, hL, h⟩ := h
      exact hP _ h
theorem x_Mo_readFunction_408 {cx : gCx} {d : Nat} {ad : Nat → Nat} {l1 l2 l3 : Int32} {t : gSt} {post : Option Value → gSt → Prop} (hL : Lay t ad) (h : vp_in (48 + (t.2.1 (ad 144) 23)) 72 ∧ (∀ t1, t1 = g_si t (ad 149) ((48 + (t.2.1 (ad 144) 23)) : Int32).toNatClampNeg (l1 + (t.2.1 (ad 144) 25)) → g_E cx d i_Mo_take [.ref (ad 144)] t1 (fun r u2 => r = none ∧ Lay u2 ad ∧ (∀ t4, t4 = g_si u2 (ad 144) 23 ((u2.2.1 (ad 144) 23) + 1) → post none t4)))) : g_W cx (g_E cx d) mt_Mo_readFunction post (408, [some (.ref (ad 144)), some (.int l1), some (.int l2), some (.int l3)], [], t, 0, 0) := by
  refine g_run [119, 120, 151, 240, 252, 270, 374, 408] 400 (fun P hP => ?_)
  refine And.intro (hL.k 144 (by decide)) (Or.inl ⟨_, (hL.r 144 15 149 (by decide)), ?_⟩)
  refine And.intro (hL.k 144 (by decide)) ?_
  refine And.intro (hL.k 144 (by decide)) ?_
  refine And.intro (hL.k 149 (by decide)) (And.intro (hL.v 149 (by decide) h.1) ?_)
  have h := h.2 _ rfl
  refine And.intro (hL.k 144 (by decide)) ?_
  refine g_Em h (fun r u h => ?_)
  obtain ⟨rfl, hL, h⟩ := h
  refine And.intro (hL.k 144 (by decide)) ?_
  refine And.intro (hL.k 144 (by decide)) ?_
  have h := h _ rfl
  exact And.intro rfl (And.intro rfl h)
theorem x_Mo_read {cx : gCx} {d : Nat} {ad : Nat → Nat} {t : gSt} {post : Option Value → gSt → Prop} (hL : Lay t ad) (h : ∀ t1, t1 = g_si t (ad 144) 0 0 → ∀ t2, t2 = g_si t1 (ad 144) 3 0 → ∀ t3, t3 = g_si t2 (ad 144) 4 (-1) → ∀ t4, t4 = g_si t3 (ad 144) 5 0 → ∀ t5, t5 = g_si t4 (ad 144) 6 0 → ∀ t6, t6 = g_si t5 (ad 144) 35 0 → ∀ t7, t7 = g_si t6 (ad 144) 23 0 → g_W cx (g_E cx d) mt_Mo_read post (35, [some (.ref (ad 144)), none, none, none], [], t7, 0, 0)) : g_E cx (d + 1) i_Mo_read [.ref (ad 144)] t post := by
  refine g_call mt_Mo_read rfl (by decide) (Nat.le_of_ble_eq_true rfl) ?_
  refine g_run [35, 58, 75, 214] 400 (fun P hP => ?_)
  refine And.intro (hL.k 144 (by decide)) ?_
  have h := h _ rfl
  refine And.intro (hL.k 144 (by decide)) ?_
  have h := h _ rfl
  refine And.intro (hL.k 144 (by decide)) ?_
  have h := h _ rfl
  refine And.intro (hL.k 144 (by decide)) ?_
  have h := h _ rfl
  refine And.intro (hL.k 144 (by decide)) (And.intro ⟨rfl, rfl⟩ ?_)
  have h := h _ rfl
  refine And.intro (hL.k 144 (by decide)) ?_
  have h := h _ rfl
  refine And.intro (hL.k 144 (by decide)) ?_
  have h := h _ rfl
  exact hP _ h
theorem x_Mo_read_35 {cx : gCx} {d : Nat} {ad : Nat → Nat} {t : gSt} {post : Option Value → gSt → Prop} (hL : Lay t ad) (h : (¬ (t.2.1 (ad 144) 3) = 0 → g_W cx (g_E cx d) mt_Mo_read post (58, [some (.ref (ad 144)), some (.int 0), none, none], [], t, 0, 0)) ∧ (¬ (¬ (t.2.1 (ad 144) 3) = 0) → g_E cx d i_Mo_look [.ref (ad 144)] t (fun r u1 => ∃ y2 : Int32, r = some (.int y2) ∧ Lay u1 ad ∧ ((y2 = 0 → g_W cx (g_E cx d) mt_Mo_read post (58, [some (.ref (ad 144)), some (.int 0), none, none], [], u1, 0, 0)) ∧ (¬ (y2 = 0) → g_E cx d i_Mo_readFunction [.ref (ad 144)] u1 (fun r u3 => r = none ∧ Lay u3 ad ∧ (g_W cx (g_E cx d) mt_Mo_read post (35, [some (.ref (ad 144)), none, none, none], [], u3, 0, 0)))))))) : g_W cx (g_E cx d) mt_Mo_read post (35, [some (.ref (ad 144)), none, none, none], [], t, 0, 0) := by
  refine g_run [35, 58, 75, 214] 400 (fun P hP => ?_)
  refine And.intro (hL.k 144 (by decide)) ?_
  refine And.intro (fun c => ?_) (fun c => ?_)
  · have h := h.1 c
    exact hP _ h
  · have h := h.2 c
    refine And.intro (hL.k 144 (by decide)) ?_
    refine g_Em h (fun r u h => ?_)
    obtain ⟨y2, rfl, hL, h⟩ := h
    refine And.intro (fun c => ?_) (fun c => ?_)
    · have h := h.1 c
      exact hP _ h
    · have h := h.2 c
      refine And.intro (hL.k 144 (by decide)) ?_
      refine g_Em h (fun r u h => ?_)
      obtain ⟨rfl, hL, h⟩ := h
      exact hP _ h
theorem x_Mo_read_58 {cx : gCx} {d : Nat} {ad : Nat → Nat} {l1 : Int32} {o2 o3 : Option Value} {t : gSt} {post : Option Value → gSt → Prop} (hL : Lay t ad) (h : ((t.2.1 (ad 144) 2) ≤ l1 → ((t.2.1 (ad 144) 3) ≤ 0 → ∀ t1, t1 = g_si t (ad 144) 11 (t.2.1 (ad 144) 23) → g_W cx (g_E cx d) mt_Mo_read post (214, [some (.ref (ad 144)), some (.int 0), o2, o3], [], t1, 0, 0)) ∧ (¬ ((t.2.1 (ad 144) 3) ≤ 0) → post (some (.int ((-10) - (t.2.1 (ad 144) 3)))) t)) ∧ (¬ ((t.2.1 (ad 144) 2) ≤ l1) → (¬ (t.2.1 (ad 144) 3) = 0 → ((t.2.1 (ad 144) 3) ≤ 0 → ∀ t2, t2 = g_si t (ad 144) 11 (t.2.1 (ad 144) 23) → g_W cx (g_E cx d) mt_Mo_read post (214, [some (.ref (ad 144)), some (.int 0), o2, o3], [], t2, 0, 0)) ∧ (¬ ((t.2.1 (ad 144) 3) ≤ 0) → post (some (.int ((-10) - (t.2.1 (ad 144) 3)))) t)) ∧ (¬ (¬ (t.2.1 (ad 144) 3) = 0) → g_W cx (g_E cx d) mt_Mo_read post (75, [some (.ref (ad 144)), some (.int l1), some (.int 0), o3], [], t, 0, 0)))) : g_W cx (g_E cx d) mt_Mo_read post (58, [some (.ref (ad 144)), some (.int l1), o2, o3], [], t, 0, 0) := by
  refine g_run [35, 58, 75, 214] 400 (fun P hP => ?_)
  refine And.intro (hL.k 144 (by decide)) ?_
  refine And.intro (fun c => ?_) (fun c => ?_)
  · have h := h.1 c
    refine And.intro (hL.k 144 (by decide)) ?_
    refine And.intro (fun c => ?_) (fun c => ?_)
    · have h := h.1 c
      refine And.intro (hL.k 144 (by decide)) ?_
      refine And.intro (hL.k 144 (by decide)) ?_
      have h := h _ rfl
      exact hP _ h
    · have h := h.2 c
      refine And.intro (hL.k 144 (by decide)) ?_
      exact And.intro rfl (And.intro rfl h)
  · have h := h.2 c
    refine And.intro (hL.k 144 (by decide)) ?_
    refine And.intro (fun c => ?_) (fun c => ?_)
    · have h := h.1 c
      refine And.intro (hL.k 144 (by decide)) ?_
      refine And.intro (fun c => ?_) (fun c => ?_)
      · have h := h.1 c
        refine And.intro (hL.k 144 (by decide)) ?_
        refine And.intro (hL.k 144 (by decide)) ?_
        have h := h _ rfl
        exact hP _ h
      · have h := h.2 c
        refine And.intro (hL.k 144 (by decide)) ?_
        exact And.intro rfl (And.intro rfl h)
    · have h := h.2 c
      exact hP _ h
theorem x_Mo_read_75 {cx : gCx} {d : Nat} {ad : Nat → Nat} {l1 l2 : Int32} {o3 : Option Value} {t : gSt} {post : Option Value → gSt → Prop} (hL : Lay t ad) (h : ((t.2.1 (ad 144) 35) ≤ l2 → g_W cx (g_E cx d) mt_Mo_read post (58, [some (.ref (ad 144)), some (.int (l1 + 1)), some (.int l2), o3], [], t, 0, 0)) ∧ (¬ ((t.2.1 (ad 144) 35) ≤ l2) → (¬ (t.2.1 (ad 144) 3) = 0 → g_W cx (g_E cx d) mt_Mo_read post (58, [some (.ref (ad 144)), some (.int (l1 + 1)), some (.int l2), o3], [], t, 0, 0)) ∧ (¬ (¬ (t.2.1 (ad 144) 3) = 0) → vp_in l2 1100 ∧ ((¬ (t.2.1 (ad 164) (l2 : Int32).toNatClampNeg) = l1 → g_W cx (g_E cx d) mt_Mo_read post (75, [some (.ref (ad 144)), some (.int l1), some (.int (l2 + 1)), o3], [], t, 0, 0)) ∧ (¬ (¬ (t.2.1 (ad 164) (l2 : Int32).toNatClampNeg) = l1) → vp_in l2 1100 ∧ (g_E cx d i_Mo_functionOf [.ref (ad 144), .long (t.2.2.1 (ad 163) (l2 : Int32).toNatClampNeg), .int (t.2.1 (ad 144) 23)] t (fun r u1 => ∃ y2 : Int32, r = some (.int y2) ∧ Lay u1 ad ∧ ((0 ≤ y2 → vp_in y2 25 ∧ (vp_in l2 1100 ∧ (((u1.2.1 (ad 170) (y2 : Int32).toNatClampNeg) = (u1.2.1 (ad 165) (l2 : Int32).toNatClampNeg) → vp_in l2 1100 ∧ (vp_in l2 1100 ∧ (vp_in ((1300 * (u1.2.1 (ad 167) (l2 : Int32).toNatClampNeg)) + (u1.2.1 (ad 166) (l2 : Int32).toNatClampNeg)) 93600 ∧ (∀ t3, t3 = g_si u1 (ad 154) (((1300 * (u1.2.1 (ad 167) (l2 : Int32).toNatClampNeg)) + (u1.2.1 (ad 166) (l2 : Int32).toNatClampNeg)) : Int32).toNatClampNeg y2 → g_W cx (g_E cx d) mt_Mo_read post (75, [some (.ref (ad 144)), some (.int l1), some (.int (l2 + 1)), some (.int y2)], [], t3, 0, 0))))) ∧ (¬ ((u1.2.1 (ad 170) (y2 : Int32).toNatClampNeg) = (u1.2.1 (ad 165) (l2 : Int32).toNatClampNeg)) → g_E cx d i_Mo_fail [.ref (ad 144), .int 7, .int l1] u1 (fun r u4 => r = none ∧ Lay u4 ad ∧ (g_W cx (g_E cx d) mt_Mo_read post (75, [some (.ref (ad 144)), some (.int l1), some (.int (l2 + 1)), some (.int y2)], [], u4, 0, 0))))))) ∧ (¬ (0 ≤ y2) → g_E cx d i_Mo_fail [.ref (ad 144), .int 6, .int l1] u1 (fun r u6 => r = none ∧ Lay u6 ad ∧ (g_W cx (g_E cx d) mt_Mo_read post (75, [some (.ref (ad 144)), some (.int l1), some (.int (l2 + 1)), some (.int y2)], [], u6, 0, 0)))))))))))) : g_W cx (g_E cx d) mt_Mo_read post (75, [some (.ref (ad 144)), some (.int l1), some (.int l2), o3], [], t, 0, 0) := by
  refine g_run [35, 58, 75, 214] 400 (fun P hP => ?_)
  refine And.intro (hL.k 144 (by decide)) ?_
  refine And.intro (fun c => ?_) (fun c => ?_)
  · have h := h.1 c
    exact hP _ h
  · have h := h.2 c
    refine And.intro (hL.k 144 (by decide)) ?_
    refine And.intro (fun c => ?_) (fun c => ?_)
    · have h := h.1 c
      exact hP _ h
    · have h := h.2 c
      refine And.intro (hL.k 144 (by decide)) (Or.inl ⟨_, (hL.r 144 37 164 (by decide)), ?_⟩)
      refine Or.inl (And.intro (hL.k 164 (by decide)) (And.intro (hL.v 164 (by decide) h.1) ?_))
      have h := h.2
      refine And.intro (fun c => ?_) (fun c => ?_)
      · have h := h.1 c
        exact hP _ h
      · have h := h.2 c
        refine And.intro (hL.k 144 (by decide)) (Or.inl ⟨_, (hL.r 144 36 163 (by decide)), ?_⟩)
        refine Or.inl (And.intro (hL.k 163 (by decide)) (And.intro (hL.v 163 (by decide) h.1) ?_))
        have h := h.2
        refine And.intro (hL.k 144 (by decide)) ?_
        refine And.intro (hL.k 144 (by decide)) ?_
        refine g_Em h (fun r u h => ?_)
        obtain ⟨y2, rfl, hL, h⟩ := h
        refine And.intro (fun c => ?_) (fun c => ?_)
        · have h := h.1 c
          refine And.intro (hL.k 144 (by decide)) (Or.inl ⟨_, (hL.r 144 44 170 (by decide)), ?_⟩)
          refine Or.inl (And.intro (hL.k 170 (by decide)) (And.intro (hL.v 170 (by decide) h.1) ?_))
          have h := h.2
          refine And.intro (hL.k 144 (by decide)) (Or.inl ⟨_, (hL.r 144 38 165 (by decide)), ?_⟩)
          refine Or.inl (And.intro (hL.k 165 (by decide)) (And.intro (hL.v 165 (by decide) h.1) ?_))
          have h := h.2
          refine And.intro (fun c => ?_) (fun c => ?_)
          · have h := h.1 c
            refine And.intro (hL.k 144 (by decide)) (Or.inl ⟨_, (hL.r 144 20 154 (by decide)), ?_⟩)
            refine And.intro (hL.k 144 (by decide)) (Or.inl ⟨_, (hL.r 144 40 167 (by decide)), ?_⟩)
            refine Or.inl (And.intro (hL.k 167 (by decide)) (And.intro (hL.v 167 (by decide) h.1) ?_))
            have h := h.2
            refine And.intro (hL.k 144 (by decide)) (Or.inl ⟨_, (hL.r 144 39 166 (by decide)), ?_⟩)
            refine Or.inl (And.intro (hL.k 166 (by decide)) (And.intro (hL.v 166 (by decide) h.1) ?_))
            have h := h.2
            refine And.intro (hL.k 154 (by decide)) (And.intro (hL.v 154 (by decide) h.1) ?_)
            have h := h.2 _ rfl
            exact hP _ h
          · have h := h.2 c
            refine And.intro (hL.k 144 (by decide)) ?_
            refine g_Em h (fun r u h => ?_)
            obtain ⟨rfl, hL, h⟩ := h
            exact hP _ h
        · have h := h.2 c
          refine And.intro (hL.k 144 (by decide)) ?_
          refine g_Em h (fun r u h => ?_)
          obtain ⟨rfl, hL, h⟩ := h
          exact hP _ h
theorem x_Mo_read_214 {cx : gCx} {d : Nat} {ad : Nat → Nat} {l1 : Int32} {o2 o3 : Option Value} {t : gSt} {post : Option Value → gSt → Prop} (hL : Lay t ad) (h : ((t.2.1 (ad 144) 23) ≤ l1 → g_E cx d i_Mo_findGraph [.ref (ad 144)] t (fun r u1 => r = none ∧ Lay u1 ad ∧ (g_E cx d i_Mo_make [.ref (ad 144), .int 0] u1 (fun r u3 => ∃ y4 : Int32, r = some (.int y4) ∧ Lay u3 ad ∧ (post (some (.int (u3.2.1 (ad 144) 11))) u3))))) ∧ (¬ ((t.2.1 (ad 144) 23) ≤ l1) → vp_in l1 25 ∧ (vp_in l1 24 ∧ (∀ t5, t5 = g_sj t (ad 146) (l1 : Int32).toNatClampNeg (t.2.2.1 (ad 169) (l1 : Int32).toNatClampNeg) → vp_in l1 25 ∧ (vp_in l1 24 ∧ (∀ t6, t6 = g_si t5 (ad 147) (l1 : Int32).toNatClampNeg (t5.2.1 (ad 170) (l1 : Int32).toNatClampNeg) → g_E cx d i_Mo_copyAll [.ref (ad 144), .int (48 + l1), .int l1] t6 (fun r u7 => r = none ∧ Lay u7 ad ∧ (g_W cx (g_E cx d) mt_Mo_read post (214, [some (.ref (ad 144)), some (.int (l1 + 1)), o2, o3], [], u7, 0, 0))))))))) : g_W cx (g_E cx d) mt_Mo_read post (214, [some (.ref (ad 144)), some (.int l1), o2, o3], [], t, 0, 0) := by
  refine g_run [35, 58, 75, 214] 400 (fun P hP => ?_)
  refine And.intro (hL.k 144 (by decide)) ?_
  refine And.intro (fun c => ?_) (fun c => ?_)
  · have h := h.1 c
    refine And.intro (hL.k 144 (by decide)) ?_
    refine g_Em h (fun r u h => ?_)
    obtain ⟨rfl, hL, h⟩ := h
    refine And.intro (hL.k 144 (by decide)) ?_
    refine g_Em h (fun r u h => ?_)
    obtain ⟨y4, rfl, hL, h⟩ := h
    refine And.intro (hL.k 144 (by decide)) ?_
    exact And.intro rfl (And.intro rfl h)
  · have h := h.2 c
    refine And.intro (hL.k 144 (by decide)) (Or.inl ⟨_, (hL.r 144 12 146 (by decide)), ?_⟩)
    refine And.intro (hL.k 144 (by decide)) (Or.inl ⟨_, (hL.r 144 43 169 (by decide)), ?_⟩)
    refine Or.inl (And.intro (hL.k 169 (by decide)) (And.intro (hL.v 169 (by decide) h.1) ?_))
    have h := h.2
    refine And.intro (hL.k 146 (by decide)) (And.intro (hL.v 146 (by decide) h.1) ?_)
    have h := h.2 _ rfl
    refine And.intro (hL.k 144 (by decide)) (Or.inl ⟨_, (hL.r 144 13 147 (by decide)), ?_⟩)
    refine And.intro (hL.k 144 (by decide)) (Or.inl ⟨_, (hL.r 144 44 170 (by decide)), ?_⟩)
    refine Or.inl (And.intro (hL.k 170 (by decide)) (And.intro (hL.v 170 (by decide) h.1) ?_))
    have h := h.2
    refine And.intro (hL.k 147 (by decide)) (And.intro (hL.v 147 (by decide) h.1) ?_)
    have h := h.2 _ rfl
    refine And.intro (hL.k 144 (by decide)) ?_
    refine g_Em h (fun r u h => ?_)
    obtain ⟨rfl, hL, h⟩ := h
    exact hP _ h
theorem x_Mo_copyAll {cx : gCx} {d : Nat} {ad : Nat → Nat} {a1 a2 : Int32} {t : gSt} {post : Option Value → gSt → Prop} (hL : Lay t ad) (h : vp_in a1 72 ∧ (vp_in a2 72 ∧ (∀ t1, t1 = g_si t (ad 148) (a2 : Int32).toNatClampNeg (t.2.1 (ad 148) (a1 : Int32).toNatClampNeg) → vp_in a1 72 ∧ (vp_in a2 72 ∧ (∀ t2, t2 = g_si t1 (ad 149) (a2 : Int32).toNatClampNeg (t1.2.1 (ad 149) (a1 : Int32).toNatClampNeg) → vp_in a1 72 ∧ (vp_in a2 72 ∧ (∀ t3, t3 = g_si t2 (ad 156) (a2 : Int32).toNatClampNeg (t2.2.1 (ad 156) (a1 : Int32).toNatClampNeg) → g_W cx (g_E cx d) mt_Mo_copyAll post (38, [some (.ref (ad 144)), some (.int a1), some (.int a2), some (.int 0)], [], t3, 0, 0)))))))) : g_E cx (d + 1) i_Mo_copyAll [.ref (ad 144), .int a1, .int a2] t post := by
  refine g_call mt_Mo_copyAll rfl (by decide) (Nat.le_of_ble_eq_true rfl) ?_
  refine g_run [38, 152] 400 (fun P hP => ?_)
  refine And.intro (hL.k 144 (by decide)) (Or.inl ⟨_, (hL.r 144 14 148 (by decide)), ?_⟩)
  refine And.intro (hL.k 144 (by decide)) (Or.inl ⟨_, (hL.r 144 14 148 (by decide)), ?_⟩)
  refine Or.inl (And.intro (hL.k 148 (by decide)) (And.intro (hL.v 148 (by decide) h.1) ?_))
  have h := h.2
  refine And.intro (hL.k 148 (by decide)) (And.intro (hL.v 148 (by decide) h.1) ?_)
  have h := h.2 _ rfl
  refine And.intro (hL.k 144 (by decide)) (Or.inl ⟨_, (hL.r 144 15 149 (by decide)), ?_⟩)
  refine And.intro (hL.k 144 (by decide)) (Or.inl ⟨_, (hL.r 144 15 149 (by decide)), ?_⟩)
  refine Or.inl (And.intro (hL.k 149 (by decide)) (And.intro (hL.v 149 (by decide) h.1) ?_))
  have h := h.2
  refine And.intro (hL.k 149 (by decide)) (And.intro (hL.v 149 (by decide) h.1) ?_)
  have h := h.2 _ rfl
  refine And.intro (hL.k 144 (by decide)) (Or.inl ⟨_, (hL.r 144 22 156 (by decide)), ?_⟩)
  refine And.intro (hL.k 144 (by decide)) (Or.inl ⟨_, (hL.r 144 22 156 (by decide)), ?_⟩)
  refine Or.inl (And.intro (hL.k 156 (by decide)) (And.intro (hL.v 156 (by decide) h.1) ?_))
  have h := h.2
  refine And.intro (hL.k 156 (by decide)) (And.intro (hL.v 156 (by decide) h.1) ?_)
  have h := h.2 _ rfl
  exact hP _ h
theorem x_Mo_copyAll_38 {cx : gCx} {d : Nat} {ad : Nat → Nat} {l1 l2 l3 : Int32} {t : gSt} {post : Option Value → gSt → Prop} (hL : Lay t ad) (h : vp_in l1 72 ∧ (((t.2.1 (ad 148) (l1 : Int32).toNatClampNeg) ≤ l3 → g_W cx (g_E cx d) mt_Mo_copyAll post (152, [some (.ref (ad 144)), some (.int l1), some (.int l2), some (.int 0)], [], t, 0, 0)) ∧ (¬ ((t.2.1 (ad 148) (l1 : Int32).toNatClampNeg) ≤ l3) → vp_in ((1300 * l1) + l3) 93600 ∧ (vp_in ((1300 * l2) + l3) 93600 ∧ (∀ t1, t1 = g_si t (ad 151) (((1300 * l2) + l3) : Int32).toNatClampNeg (t.2.1 (ad 151) (((1300 * l1) + l3) : Int32).toNatClampNeg) → vp_in ((1300 * l1) + l3) 93600 ∧ (vp_in ((1300 * l2) + l3) 93600 ∧ (∀ t2, t2 = g_si t1 (ad 152) (((1300 * l2) + l3) : Int32).toNatClampNeg (t1.2.1 (ad 152) (((1300 * l1) + l3) : Int32).toNatClampNeg) → vp_in ((1300 * l1) + l3) 93600 ∧ (vp_in ((1300 * l2) + l3) 93600 ∧ (∀ t3, t3 = g_si t2 (ad 153) (((1300 * l2) + l3) : Int32).toNatClampNeg (t2.2.1 (ad 153) (((1300 * l1) + l3) : Int32).toNatClampNeg) → vp_in ((1300 * l1) + l3) 93600 ∧ (vp_in ((1300 * l2) + l3) 93600 ∧ (∀ t4, t4 = g_si t3 (ad 154) (((1300 * l2) + l3) : Int32).toNatClampNeg (t3.2.1 (ad 154) (((1300 * l1) + l3) : Int32).toNatClampNeg) → g_W cx (g_E cx d) mt_Mo_copyAll post (38, [some (.ref (ad 144)), some (.int l1), some (.int l2), some (.int (l3 + 1))], [], t4, 0, 0)))))))))))) : g_W cx (g_E cx d) mt_Mo_copyAll post (38, [some (.ref (ad 144)), some (.int l1), some (.int l2), some (.int l3)], [], t, 0, 0) := by
  refine g_run [38, 152] 400 (fun P hP => ?_)
  refine And.intro (hL.k 144 (by decide)) (Or.inl ⟨_, (hL.r 144 14 148 (by decide)), ?_⟩)
  refine Or.inl (And.intro (hL.k 148 (by decide)) (And.intro (hL.v 148 (by decide) h.1) ?_))
  have h := h.2
  refine And.intro (fun c => ?_) (fun c => ?_)
  · have h := h.1 c
    exact hP _ h
  · have h := h.2 c
    refine And.intro (hL.k 144 (by decide)) (Or.inl ⟨_, (hL.r 144 17 151 (by decide)), ?_⟩)
    refine And.intro (hL.k 144 (by decide)) (Or.inl ⟨_, (hL.r 144 17 151 (by decide)), ?_⟩)
    refine Or.inl (And.intro (hL.k 151 (by decide)) (And.intro (hL.v 151 (by decide) h.1) ?_))
    have h := h.2
    refine And.intro (hL.k 151 (by decide)) (And.intro (hL.v 151 (by decide) h.1) ?_)
    have h := h.2 _ rfl
    refine And.intro (hL.k 144 (by decide)) (Or.inl ⟨_, (hL.r 144 18 152 (by decide)), ?_⟩)
    refine And.intro (hL.k 144 (by decide)) (Or.inl ⟨_, (hL.r 144 18 152 (by decide)), ?_⟩)
    refine Or.inl (And.intro (hL.k 152 (by decide)) (And.intro (hL.v 152 (by decide) h.1) ?_))
    have h := h.2
    refine And.intro (hL.k 152 (by decide)) (And.intro (hL.v 152 (by decide) h.1) ?_)
    have h := h.2 _ rfl
    refine And.intro (hL.k 144 (by decide)) (Or.inl ⟨_, (hL.r 144 19 153 (by decide)), ?_⟩)
    refine And.intro (hL.k 144 (by decide)) (Or.inl ⟨_, (hL.r 144 19 153 (by decide)), ?_⟩)
    refine Or.inl (And.intro (hL.k 153 (by decide)) (And.intro (hL.v 153 (by decide) h.1) ?_))
    have h := h.2
    refine And.intro (hL.k 153 (by decide)) (And.intro (hL.v 153 (by decide) h.1) ?_)
    have h := h.2 _ rfl
    refine And.intro (hL.k 144 (by decide)) (Or.inl ⟨_, (hL.r 144 20 154 (by decide)), ?_⟩)
    refine And.intro (hL.k 144 (by decide)) (Or.inl ⟨_, (hL.r 144 20 154 (by decide)), ?_⟩)
    refine Or.inl (And.intro (hL.k 154 (by decide)) (And.intro (hL.v 154 (by decide) h.1) ?_))
    have h := h.2
    refine And.intro (hL.k 154 (by decide)) (And.intro (hL.v 154 (by decide) h.1) ?_)
    have h := h.2 _ rfl
    exact hP _ h
theorem x_Mo_copyAll_152 {cx : gCx} {d : Nat} {ad : Nat → Nat} {l1 l2 l3 : Int32} {t : gSt} {post : Option Value → gSt → Prop} (hL : Lay t ad) (h : vp_in l1 72 ∧ (((t.2.1 (ad 156) (l1 : Int32).toNatClampNeg) ≤ l3 → post none t) ∧ (¬ ((t.2.1 (ad 156) (l1 : Int32).toNatClampNeg) ≤ l3) → vp_in ((1300 * l1) + l3) 93600 ∧ (vp_in ((1300 * l2) + l3) 93600 ∧ (∀ t1, t1 = g_si t (ad 155) (((1300 * l2) + l3) : Int32).toNatClampNeg (t.2.1 (ad 155) (((1300 * l1) + l3) : Int32).toNatClampNeg) → g_W cx (g_E cx d) mt_Mo_copyAll post (152, [some (.ref (ad 144)), some (.int l1), some (.int l2), some (.int (l3 + 1))], [], t1, 0, 0)))))) : g_W cx (g_E cx d) mt_Mo_copyAll post (152, [some (.ref (ad 144)), some (.int l1), some (.int l2), some (.int l3)], [], t, 0, 0) := by
  refine g_run [38, 152] 400 (fun P hP => ?_)
  refine And.intro (hL.k 144 (by decide)) (Or.inl ⟨_, (hL.r 144 22 156 (by decide)), ?_⟩)
  refine Or.inl (And.intro (hL.k 156 (by decide)) (And.intro (hL.v 156 (by decide) h.1) ?_))
  have h := h.2
  refine And.intro (fun c => ?_) (fun c => ?_)
  · have h := h.1 c
    exact And.intro rfl (And.intro rfl h)
  · have h := h.2 c
    refine And.intro (hL.k 144 (by decide)) (Or.inl ⟨_, (hL.r 144 21 155 (by decide)), ?_⟩)
    refine And.intro (hL.k 144 (by decide)) (Or.inl ⟨_, (hL.r 144 21 155 (by decide)), ?_⟩)
    refine Or.inl (And.intro (hL.k 155 (by decide)) (And.intro (hL.v 155 (by decide) h.1) ?_))
    have h := h.2
    refine And.intro (hL.k 155 (by decide)) (And.intro (hL.v 155 (by decide) h.1) ?_)
    have h := h.2 _ rfl
    exact hP _ h
theorem x_Mo_findGraph {cx : gCx} {d : Nat} {ad : Nat → Nat} {t : gSt} {post : Option Value → gSt → Prop} (hL : Lay t ad) (h : g_W cx (g_E cx d) mt_Mo_findGraph post (2, [some (.ref (ad 144)), some (.int 0), none, none], [], t, 0, 0)) : g_E cx (d + 1) i_Mo_findGraph [.ref (ad 144)] t post := by
  refine g_call mt_Mo_findGraph rfl (by decide) (Nat.le_of_ble_eq_true rfl) ?_
  refine g_run [2, 24, 41, 105, 132, 142, 152, 243] 400 (fun P hP => ?_)
  exact hP _ h
theorem x_Mo_findGraph_2 {cx : gCx} {d : Nat} {ad : Nat → Nat} {l1 : Int32} {t : gSt} {post : Option Value → gSt → Prop} (hL : Lay t ad) (h : (576 ≤ l1 → g_W cx (g_E cx d) mt_Mo_findGraph post (24, [some (.ref (ad 144)), some (.int 0), none, none], [], t, 0, 0)) ∧ (¬ (576 ≤ l1) → vp_in l1 576 ∧ (∀ t1, t1 = g_si t (ad 172) (l1 : Int32).toNatClampNeg (vp_nar .boolean 0) → g_W cx (g_E cx d) mt_Mo_findGraph post (2, [some (.ref (ad 144)), some (.int (l1 + 1)), none, none], [], t1, 0, 0)))) : g_W cx (g_E cx d) mt_Mo_findGraph post (2, [some (.ref (ad 144)), some (.int l1), none, none], [], t, 0, 0) := by
  refine g_run [2, 24, 41, 105, 132, 142, 152, 243] 400 (fun P hP => ?_)
  refine And.intro (fun c => ?_) (fun c => ?_)
  · have h := h.1 c
    exact hP _ h
  · have h := h.2 c
    refine And.intro (hL.k 144 (by decide)) (Or.inl ⟨_, (hL.r 144 48 172 (by decide)), ?_⟩)
    refine And.intro (hL.v 172 (by decide) h.1) (Or.inr (And.intro (hL.k 172 (by decide)) ?_))
    have h := h.2 _ rfl
    exact hP _ h
theorem x_Mo_findGraph_24 {cx : gCx} {d : Nat} {ad : Nat → Nat} {l1 : Int32} {o2 : Option Value} {t : gSt} {post : Option Value → gSt → Prop} (hL : Lay t ad) (h : ((t.2.1 (ad 144) 11) ≤ l1 → g_W cx (g_E cx d) mt_Mo_findGraph post (105, [some (.ref (ad 144)), some (.int 0), o2, none], [], t, 0, 0)) ∧ (¬ ((t.2.1 (ad 144) 11) ≤ l1) → vp_in l1 24 ∧ (∀ t1, t1 = g_si t (ad 174) (l1 : Int32).toNatClampNeg (vp_nar .boolean 0) → g_W cx (g_E cx d) mt_Mo_findGraph post (41, [some (.ref (ad 144)), some (.int l1), some (.int 0), none], [], t1, 0, 0)))) : g_W cx (g_E cx d) mt_Mo_findGraph post (24, [some (.ref (ad 144)), some (.int l1), o2, none], [], t, 0, 0) := by
  refine g_run [2, 24, 41, 105, 132, 142, 152, 243] 400 (fun P hP => ?_)
  refine And.intro (hL.k 144 (by decide)) ?_
  refine And.intro (fun c => ?_) (fun c => ?_)
  · have h := h.1 c
    exact hP _ h
  · have h := h.2 c
    refine And.intro (hL.k 144 (by decide)) (Or.inl ⟨_, (hL.r 144 51 174 (by decide)), ?_⟩)
    refine And.intro (hL.v 174 (by decide) h.1) (Or.inr (And.intro (hL.k 174 (by decide)) ?_))
    have h := h.2 _ rfl
    exact hP _ h
theorem x_Mo_findGraph_41 {cx : gCx} {d : Nat} {ad : Nat → Nat} {l1 l2 : Int32} {t : gSt} {post : Option Value → gSt → Prop} (hL : Lay t ad) (h : vp_in l1 72 ∧ (((t.2.1 (ad 148) (l1 : Int32).toNatClampNeg) ≤ l2 → g_W cx (g_E cx d) mt_Mo_findGraph post (24, [some (.ref (ad 144)), some (.int (l1 + 1)), some (.int l2), none], [], t, 0, 0)) ∧ (¬ ((t.2.1 (ad 148) (l1 : Int32).toNatClampNeg) ≤ l2) → vp_in ((1300 * l1) + l2) 93600 ∧ ((¬ (t.2.1 (ad 151) (((1300 * l1) + l2) : Int32).toNatClampNeg) = 15 → g_W cx (g_E cx d) mt_Mo_findGraph post (41, [some (.ref (ad 144)), some (.int l1), some (.int (l2 + 1)), none], [], t, 0, 0)) ∧ (¬ (¬ (t.2.1 (ad 151) (((1300 * l1) + l2) : Int32).toNatClampNeg) = 15) → vp_in ((1300 * l1) + l2) 93600 ∧ (vp_in ((24 * l1) + (t.2.1 (ad 154) (((1300 * l1) + l2) : Int32).toNatClampNeg)) 576 ∧ (∀ t1, t1 = g_si t (ad 172) (((24 * l1) + (t.2.1 (ad 154) (((1300 * l1) + l2) : Int32).toNatClampNeg)) : Int32).toNatClampNeg (vp_nar .boolean 1) → g_W cx (g_E cx d) mt_Mo_findGraph post (41, [some (.ref (ad 144)), some (.int l1), some (.int (l2 + 1)), none], [], t1, 0, 0)))))))) : g_W cx (g_E cx d) mt_Mo_findGraph post (41, [some (.ref (ad 144)), some (.int l1), some (.int l2), none], [], t, 0, 0) := by
  refine g_run [2, 24, 41, 105, 132, 142, 152, 243] 400 (fun P hP => ?_)
  refine And.intro (hL.k 144 (by decide)) (Or.inl ⟨_, (hL.r 144 14 148 (by decide)), ?_⟩)
  refine Or.inl (And.intro (hL.k 148 (by decide)) (And.intro (hL.v 148 (by decide) h.1) ?_))
  have h := h.2
  refine And.intro (fun c => ?_) (fun c => ?_)
  · have h := h.1 c
    exact hP _ h
  · have h := h.2 c
    refine And.intro (hL.k 144 (by decide)) (Or.inl ⟨_, (hL.r 144 17 151 (by decide)), ?_⟩)
    refine Or.inl (And.intro (hL.k 151 (by decide)) (And.intro (hL.v 151 (by decide) h.1) ?_))
    have h := h.2
    refine And.intro (fun c => ?_) (fun c => ?_)
    · have h := h.1 c
      exact hP _ h
    · have h := h.2 c
      refine And.intro (hL.k 144 (by decide)) (Or.inl ⟨_, (hL.r 144 48 172 (by decide)), ?_⟩)
      refine And.intro (hL.k 144 (by decide)) (Or.inl ⟨_, (hL.r 144 20 154 (by decide)), ?_⟩)
      refine Or.inl (And.intro (hL.k 154 (by decide)) (And.intro (hL.v 154 (by decide) h.1) ?_))
      have h := h.2
      refine And.intro (hL.v 172 (by decide) h.1) (Or.inr (And.intro (hL.k 172 (by decide)) ?_))
      have h := h.2 _ rfl
      exact hP _ h
theorem x_Mo_findGraph_105 {cx : gCx} {d : Nat} {ad : Nat → Nat} {l1 : Int32} {o2 : Option Value} {t : gSt} {post : Option Value → gSt → Prop} (hL : Lay t ad) (h : (576 ≤ l1 → g_W cx (g_E cx d) mt_Mo_findGraph post (132, [some (.ref (ad 144)), some (.int 0), o2, none], [], t, 0, 0)) ∧ (¬ (576 ≤ l1) → vp_in l1 576 ∧ (vp_in l1 576 ∧ (∀ t1, t1 = g_si t (ad 171) (l1 : Int32).toNatClampNeg (vp_nar .boolean (t.2.1 (ad 172) (l1 : Int32).toNatClampNeg)) → g_W cx (g_E cx d) mt_Mo_findGraph post (105, [some (.ref (ad 144)), some (.int (l1 + 1)), o2, none], [], t1, 0, 0))))) : g_W cx (g_E cx d) mt_Mo_findGraph post (105, [some (.ref (ad 144)), some (.int l1), o2, none], [], t, 0, 0) := by
  refine g_run [2, 24, 41, 105, 132, 142, 152, 243] 400 (fun P hP => ?_)
  refine And.intro (fun c => ?_) (fun c => ?_)
  · have h := h.1 c
    exact hP _ h
  · have h := h.2 c
    refine And.intro (hL.k 144 (by decide)) (Or.inl ⟨_, (hL.r 144 47 171 (by decide)), ?_⟩)
    refine And.intro (hL.k 144 (by decide)) (Or.inl ⟨_, (hL.r 144 48 172 (by decide)), ?_⟩)
    refine Or.inl (And.intro (Or.inr (hL.k 172 (by decide))) (And.intro (hL.v 172 (by decide) h.1) ?_))
    have h := h.2
    refine And.intro (hL.v 171 (by decide) h.1) (Or.inr (And.intro (hL.k 171 (by decide)) ?_))
    have h := h.2 _ rfl
    exact hP _ h
theorem x_Mo_findGraph_132 {cx : gCx} {d : Nat} {ad : Nat → Nat} {l1 : Int32} {o2 o3 : Option Value} {t : gSt} {post : Option Value → gSt → Prop} (hL : Lay t ad) (h : ((t.2.1 (ad 144) 11) ≤ l1 → ∀ t1, t1 = g_si t (ad 144) 50 0 → g_W cx (g_E cx d) mt_Mo_findGraph post (243, [some (.ref (ad 144)), some (.int 0), o2, o3], [], t1, 0, 0)) ∧ (¬ ((t.2.1 (ad 144) 11) ≤ l1) → g_W cx (g_E cx d) mt_Mo_findGraph post (142, [some (.ref (ad 144)), some (.int l1), some (.int 0), o3], [], t, 0, 0))) : g_W cx (g_E cx d) mt_Mo_findGraph post (132, [some (.ref (ad 144)), some (.int l1), o2, o3], [], t, 0, 0) := by
  refine g_run [2, 24, 41, 105, 132, 142, 152, 243] 400 (fun P hP => ?_)
  refine And.intro (hL.k 144 (by decide)) ?_
  refine And.intro (fun c => ?_) (fun c => ?_)
  · have h := h.1 c
    refine And.intro (hL.k 144 (by decide)) ?_
    have h := h _ rfl
    exact hP _ h
  · have h := h.2 c
    exact hP _ h
theorem x_Mo_findGraph_142 {cx : gCx} {d : Nat} {ad : Nat → Nat} {l1 l2 : Int32} {o3 : Option Value} {t : gSt} {post : Option Value → gSt → Prop} (hL : Lay t ad) (h : ((t.2.1 (ad 144) 11) ≤ l2 → g_W cx (g_E cx d) mt_Mo_findGraph post (132, [some (.ref (ad 144)), some (.int (l1 + 1)), some (.int l2), o3], [], t, 0, 0)) ∧ (¬ ((t.2.1 (ad 144) 11) ≤ l2) → g_W cx (g_E cx d) mt_Mo_findGraph post (152, [some (.ref (ad 144)), some (.int l1), some (.int l2), some (.int 0)], [], t, 0, 0))) : g_W cx (g_E cx d) mt_Mo_findGraph post (142, [some (.ref (ad 144)), some (.int l1), some (.int l2), o3], [], t, 0, 0) := by
  refine g_run [2, 24, 41, 105, 132, 142, 152, 243] 400 (fun P hP => ?_)
  refine And.intro (hL.k 144 (by decide)) ?_
  refine And.intro (fun c => ?_) (fun c => ?_)
  · have h := h.1 c
    exact hP _ h
  · have h := h.2 c
    exact hP _ h
theorem x_Mo_findGraph_152 {cx : gCx} {d : Nat} {ad : Nat → Nat} {l1 l2 l3 : Int32} {t : gSt} {post : Option Value → gSt → Prop} (hL : Lay t ad) (h : ((t.2.1 (ad 144) 11) ≤ l3 → g_W cx (g_E cx d) mt_Mo_findGraph post (142, [some (.ref (ad 144)), some (.int l1), some (.int (l2 + 1)), some (.int l3)], [], t, 0, 0)) ∧ (¬ ((t.2.1 (ad 144) 11) ≤ l3) → vp_in ((24 * l2) + l3) 576 ∧ ((¬ (t.2.1 (ad 171) (((24 * l2) + l3) : Int32).toNatClampNeg) = 0 → vp_in ((24 * l2) + l3) 576 ∧ (∀ t1, t1 = g_si t (ad 171) (((24 * l2) + l3) : Int32).toNatClampNeg (vp_nar .boolean 1) → g_W cx (g_E cx d) mt_Mo_findGraph post (152, [some (.ref (ad 144)), some (.int l1), some (.int l2), some (.int (l3 + 1))], [], t1, 0, 0))) ∧ (¬ (¬ (t.2.1 (ad 171) (((24 * l2) + l3) : Int32).toNatClampNeg) = 0) → vp_in ((24 * l2) + l1) 576 ∧ (((t.2.1 (ad 171) (((24 * l2) + l1) : Int32).toNatClampNeg) = 0 → vp_in ((24 * l2) + l3) 576 ∧ (∀ t2, t2 = g_si t (ad 171) (((24 * l2) + l3) : Int32).toNatClampNeg (vp_nar .boolean 0) → g_W cx (g_E cx d) mt_Mo_findGraph post (152, [some (.ref (ad 144)), some (.int l1), some (.int l2), some (.int (l3 + 1))], [], t2, 0, 0))) ∧ (¬ ((t.2.1 (ad 171) (((24 * l2) + l1) : Int32).toNatClampNeg) = 0) → vp_in ((24 * l1) + l3) 576 ∧ (((t.2.1 (ad 171) (((24 * l1) + l3) : Int32).toNatClampNeg) = 0 → vp_in ((24 * l2) + l3) 576 ∧ (∀ t3, t3 = g_si t (ad 171) (((24 * l2) + l3) : Int32).toNatClampNeg (vp_nar .boolean 0) → g_W cx (g_E cx d) mt_Mo_findGraph post (152, [some (.ref (ad 144)), some (.int l1), some (.int l2), some (.int (l3 + 1))], [], t3, 0, 0))) ∧ (¬ ((t.2.1 (ad 171) (((24 * l1) + l3) : Int32).toNatClampNeg) = 0) → vp_in ((24 * l2) + l3) 576 ∧ (∀ t4, t4 = g_si t (ad 171) (((24 * l2) + l3) : Int32).toNatClampNeg (vp_nar .boolean 1) → g_W cx (g_E cx d) mt_Mo_findGraph post (152, [some (.ref (ad 144)), some (.int l1), some (.int l2), some (.int (l3 + 1))], [], t4, 0, 0)))))))))) : g_W cx (g_E cx d) mt_Mo_findGraph post (152, [some (.ref (ad 144)), some (.int l1), some (.int l2), some (.int l3)], [], t, 0, 0) := by
  refine g_run [2, 24, 41, 105, 132, 142, 152, 243] 400 (fun P hP => ?_)
  refine And.intro (hL.k 144 (by decide)) ?_
  refine And.intro (fun c => ?_) (fun c => ?_)
  · have h := h.1 c
    exact hP _ h
  · have h := h.2 c
    refine And.intro (hL.k 144 (by decide)) (Or.inl ⟨_, (hL.r 144 47 171 (by decide)), ?_⟩)
    refine And.intro (hL.k 144 (by decide)) (Or.inl ⟨_, (hL.r 144 47 171 (by decide)), ?_⟩)
    refine Or.inl (And.intro (Or.inr (hL.k 171 (by decide))) (And.intro (hL.v 171 (by decide) h.1) ?_))
    have h := h.2
    refine And.intro (fun c => ?_) (fun c => ?_)
    · have h := h.1 c
      refine And.intro (hL.v 171 (by decide) h.1) (Or.inr (And.intro (hL.k 171 (by decide)) ?_))
      have h := h.2 _ rfl
      exact hP _ h
    · have h := h.2 c
      refine And.intro (hL.k 144 (by decide)) (Or.inl ⟨_, (hL.r 144 47 171 (by decide)), ?_⟩)
      refine Or.inl (And.intro (Or.inr (hL.k 171 (by decide))) (And.intro (hL.v 171 (by decide) h.1) ?_))
      have h := h.2
      refine And.intro (fun c => ?_) (fun c => ?_)
      · have h := h.1 c
        refine And.intro (hL.v 171 (by decide) h.1) (Or.inr (And.intro (hL.k 171 (by decide)) ?_))
        have h := h.2 _ rfl
        exact hP _ h
      · have h := h.2 c
        refine And.intro (hL.k 144 (by decide)) (Or.inl ⟨_, (hL.r 144 47 171 (by decide)), ?_⟩)
        refine Or.inl (And.intro (Or.inr (hL.k 171 (by decide))) (And.intro (hL.v 171 (by decide) h.1) ?_))
        have h := h.2
        refine And.intro (fun c => ?_) (fun c => ?_)
        · have h := h.1 c
          refine And.intro (hL.v 171 (by decide) h.1) (Or.inr (And.intro (hL.k 171 (by decide)) ?_))
          have h := h.2 _ rfl
          exact hP _ h
        · have h := h.2 c
          refine And.intro (hL.v 171 (by decide) h.1) (Or.inr (And.intro (hL.k 171 (by decide)) ?_))
          have h := h.2 _ rfl
          exact hP _ h
theorem x_Mo_findGraph_243 {cx : gCx} {d : Nat} {ad : Nat → Nat} {l1 : Int32} {o2 o3 : Option Value} {t : gSt} {post : Option Value → gSt → Prop} (hL : Lay t ad) (h : ((t.2.1 (ad 144) 11) ≤ l1 → post none t) ∧ (¬ ((t.2.1 (ad 144) 11) ≤ l1) → vp_in l1 24 ∧ ((¬ (t.2.1 (ad 174) (l1 : Int32).toNatClampNeg) = 0 → g_W cx (g_E cx d) mt_Mo_findGraph post (243, [some (.ref (ad 144)), some (.int (l1 + 1)), o2, o3], [], t, 0, 0)) ∧ (¬ (¬ (t.2.1 (ad 174) (l1 : Int32).toNatClampNeg) = 0) → g_E cx d i_Mo_lookFromOne [.ref (ad 144), .int l1] t (fun r u1 => r = none ∧ Lay u1 ad ∧ (g_W cx (g_E cx d) mt_Mo_findGraph post (243, [some (.ref (ad 144)), some (.int (l1 + 1)), o2, o3], [], u1, 0, 0))))))) : g_W cx (g_E cx d) mt_Mo_findGraph post (243, [some (.ref (ad 144)), some (.int l1), o2, o3], [], t, 0, 0) := by
  refine g_run [2, 24, 41, 105, 132, 142, 152, 243] 400 (fun P hP => ?_)
  refine And.intro (hL.k 144 (by decide)) ?_
  refine And.intro (fun c => ?_) (fun c => ?_)
  · have h := h.1 c
    exact And.intro rfl (And.intro rfl h)
  · have h := h.2 c
    refine And.intro (hL.k 144 (by decide)) (Or.inl ⟨_, (hL.r 144 51 174 (by decide)), ?_⟩)
    refine Or.inl (And.intro (Or.inr (hL.k 174 (by decide))) (And.intro (hL.v 174 (by decide) h.1) ?_))
    have h := h.2
    refine And.intro (fun c => ?_) (fun c => ?_)
    · have h := h.1 c
      exact hP _ h
    · have h := h.2 c
      refine And.intro (hL.k 144 (by decide)) ?_
      refine g_Em h (fun r u h => ?_)
      obtain ⟨rfl, hL, h⟩ := h
      exact hP _ h
theorem x_Mo_lookFromOne {cx : gCx} {d : Nat} {ad : Nat → Nat} {a1 : Int32} {t : gSt} {post : Option Value → gSt → Prop} (hL : Lay t ad) (h : vp_in 0 24 ∧ (∀ t1, t1 = g_si t (ad 175) (0 : Int32).toNatClampNeg a1 → vp_in 0 24 ∧ (∀ t2, t2 = g_si t1 (ad 176) (0 : Int32).toNatClampNeg 0 → vp_in a1 24 ∧ (∀ t3, t3 = g_si t2 (ad 174) (a1 : Int32).toNatClampNeg (vp_nar .boolean 1) → g_W cx (g_E cx d) mt_Mo_lookFromOne post (23, [some (.ref (ad 144)), some (.int a1), some (.int 1), none, none, none], [], t3, 0, 0))))) : g_E cx (d + 1) i_Mo_lookFromOne [.ref (ad 144), .int a1] t post := by
  refine g_call mt_Mo_lookFromOne rfl (by decide) (Nat.le_of_ble_eq_true rfl) ?_
  refine g_run [23] 400 (fun P hP => ?_)
  refine And.intro (hL.k 144 (by decide)) (Or.inl ⟨_, (hL.r 144 52 175 (by decide)), ?_⟩)
  refine And.intro (hL.k 175 (by decide)) (And.intro (hL.v 175 (by decide) h.1) ?_)
  have h := h.2 _ rfl
  refine And.intro (hL.k 144 (by decide)) (Or.inl ⟨_, (hL.r 144 53 176 (by decide)), ?_⟩)
  refine And.intro (hL.k 176 (by decide)) (And.intro (hL.v 176 (by decide) h.1) ?_)
  have h := h.2 _ rfl
  refine And.intro (hL.k 144 (by decide)) (Or.inl ⟨_, (hL.r 144 51 174 (by decide)), ?_⟩)
  refine And.intro (hL.v 174 (by decide) h.1) (Or.inr (And.intro (hL.k 174 (by decide)) ?_))
  have h := h.2 _ rfl
  exact hP _ h
theorem x_Mo_lookFromOne_23 {cx : gCx} {d : Nat} {ad : Nat → Nat} {l1 l2 : Int32} {o3 o4 o5 : Option Value} {t : gSt} {post : Option Value → gSt → Prop} (hL : Lay t ad) (h : (l2 ≤ 0 → post none t) ∧ (¬ (l2 ≤ 0) → vp_in (l2 - 1) 24 ∧ (∀ x1 : Int32, x1 = (t.2.1 (ad 175) ((l2 - 1) : Int32).toNatClampNeg) → vp_in (l2 - 1) 24 ∧ (∀ x2 : Int32, x2 = (t.2.1 (ad 176) ((l2 - 1) : Int32).toNatClampNeg) → vp_in x1 72 ∧ ((¬ x2 = (t.2.1 (ad 148) (x1 : Int32).toNatClampNeg) → vp_in (l2 - 1) 24 ∧ (vp_in (l2 - 1) 24 ∧ (∀ t3, t3 = g_si t (ad 176) ((l2 - 1) : Int32).toNatClampNeg ((t.2.1 (ad 176) ((l2 - 1) : Int32).toNatClampNeg) + 1) → vp_in ((1300 * x1) + x2) 93600 ∧ ((¬ (t3.2.1 (ad 151) (((1300 * x1) + x2) : Int32).toNatClampNeg) = 15 → g_W cx (g_E cx d) mt_Mo_lookFromOne post (23, [some (.ref (ad 144)), some (.int l1), some (.int l2), some (.int x1), some (.int x2), some (.int (-1))], [], t3, 0, 0)) ∧ (¬ (¬ (t3.2.1 (ad 151) (((1300 * x1) + x2) : Int32).toNatClampNeg) = 15) → vp_in ((1300 * x1) + x2) 93600 ∧ (∀ x4 : Int32, x4 = (t3.2.1 (ad 154) (((1300 * x1) + x2) : Int32).toNatClampNeg) → (x4 < 0 → g_W cx (g_E cx d) mt_Mo_lookFromOne post (23, [some (.ref (ad 144)), some (.int l1), some (.int l2), some (.int x1), some (.int x2), some (.int x4)], [], t3, 0, 0)) ∧ (¬ (x4 < 0) → vp_in x4 24 ∧ ((¬ (t3.2.1 (ad 174) (x4 : Int32).toNatClampNeg) = 0 → g_W cx (g_E cx d) mt_Mo_lookFromOne post (23, [some (.ref (ad 144)), some (.int l1), some (.int l2), some (.int x1), some (.int x2), some (.int x4)], [], t3, 0, 0)) ∧ (¬ (¬ (t3.2.1 (ad 174) (x4 : Int32).toNatClampNeg) = 0) → vp_in x4 24 ∧ (∀ t5, t5 = g_si t3 (ad 174) (x4 : Int32).toNatClampNeg (vp_nar .boolean 1) → vp_in l2 24 ∧ (∀ t6, t6 = g_si t5 (ad 175) (l2 : Int32).toNatClampNeg x4 → vp_in l2 24 ∧ (∀ t7, t7 = g_si t6 (ad 176) (l2 : Int32).toNatClampNeg 0 → g_W cx (g_E cx d) mt_Mo_lookFromOne post (23, [some (.ref (ad 144)), some (.int l1), some (.int (l2 + 1)), some (.int x1), some (.int x2), some (.int x4)], [], t7, 0, 0))))))))))))) ∧ (¬ (¬ x2 = (t.2.1 (ad 148) (x1 : Int32).toNatClampNeg)) → vp_in (t.2.1 (ad 144) 50) 24 ∧ (∀ t8, t8 = g_si t (ad 173) ((t.2.1 (ad 144) 50) : Int32).toNatClampNeg x1 → ∀ t9, t9 = g_si t8 (ad 144) 50 ((t8.2.1 (ad 144) 50) + 1) → g_W cx (g_E cx d) mt_Mo_lookFromOne post (23, [some (.ref (ad 144)), some (.int l1), some (.int (l2 + (-1))), some (.int x1), some (.int x2), o5], [], t9, 0, 0)))))))) : g_W cx (g_E cx d) mt_Mo_lookFromOne post (23, [some (.ref (ad 144)), some (.int l1), some (.int l2), o3, o4, o5], [], t, 0, 0) := by
  refine g_run [23] 400 (fun P hP => ?_)
  refine And.intro (fun c => ?_) (fun c => ?_)
  · have h := h.1 c
    exact And.intro rfl (And.intro rfl h)
  · have h := h.2 c
    refine And.intro (hL.k 144 (by decide)) (Or.inl ⟨_, (hL.r 144 52 175 (by decide)), ?_⟩)
    refine Or.inl (And.intro (hL.k 175 (by decide)) (And.intro (hL.v 175 (by decide) h.1) ?_))
    have h := h.2
    have h := h _ rfl
    refine And.intro (hL.k 144 (by decide)) (Or.inl ⟨_, (hL.r 144 53 176 (by decide)), ?_⟩)
    refine Or.inl (And.intro (hL.k 176 (by decide)) (And.intro (hL.v 176 (by decide) h.1) ?_))
    have h := h.2
    have h := h _ rfl
    refine And.intro (hL.k 144 (by decide)) (Or.inl ⟨_, (hL.r 144 14 148 (by decide)), ?_⟩)
    refine Or.inl (And.intro (hL.k 148 (by decide)) (And.intro (hL.v 148 (by decide) h.1) ?_))
    have h := h.2
    refine And.intro (fun c => ?_) (fun c => ?_)
    · have h := h.1 c
      refine And.intro (hL.k 144 (by decide)) (Or.inl ⟨_, (hL.r 144 53 176 (by decide)), ?_⟩)
      refine Or.inl (And.intro (hL.k 176 (by decide)) (And.intro (hL.v 176 (by decide) h.1) ?_))
      have h := h.2
      refine And.intro (hL.k 176 (by decide)) (And.intro (hL.v 176 (by decide) h.1) ?_)
      have h := h.2 _ rfl
      refine And.intro (hL.k 144 (by decide)) (Or.inl ⟨_, (hL.r 144 17 151 (by decide)), ?_⟩)
      refine Or.inl (And.intro (hL.k 151 (by decide)) (And.intro (hL.v 151 (by decide) h.1) ?_))
      have h := h.2
      refine And.intro (fun c => ?_) (fun c => ?_)
      · have h := h.1 c
        refine And.intro (fun c => ?_) (fun c => (c (show ((-1) : Int32) < (0 : Int32) by decide)).elim)
        exact hP _ h
      · have h := h.2 c
        refine And.intro (hL.k 144 (by decide)) (Or.inl ⟨_, (hL.r 144 20 154 (by decide)), ?_⟩)
        refine Or.inl (And.intro (hL.k 154 (by decide)) (And.intro (hL.v 154 (by decide) h.1) ?_))
        have h := h.2
        have h := h _ rfl
        refine And.intro (fun c => ?_) (fun c => ?_)
        · have h := h.1 c
          exact hP _ h
        · have h := h.2 c
          refine And.intro (hL.k 144 (by decide)) (Or.inl ⟨_, (hL.r 144 51 174 (by decide)), ?_⟩)
          refine Or.inl (And.intro (Or.inr (hL.k 174 (by decide))) (And.intro (hL.v 174 (by decide) h.1) ?_))
          have h := h.2
          refine And.intro (fun c => ?_) (fun c => ?_)
          · have h := h.1 c
            exact hP _ h
          · have h := h.2 c
            refine And.intro (hL.k 144 (by decide)) (Or.inl ⟨_, (hL.r 144 51 174 (by decide)), ?_⟩)
            refine And.intro (hL.v 174 (by decide) h.1) (Or.inr (And.intro (hL.k 174 (by decide)) ?_))
            have h := h.2 _ rfl
            refine And.intro (hL.k 144 (by decide)) (Or.inl ⟨_, (hL.r 144 52 175 (by decide)), ?_⟩)
            refine And.intro (hL.k 175 (by decide)) (And.intro (hL.v 175 (by decide) h.1) ?_)
            have h := h.2 _ rfl
            refine And.intro (hL.k 144 (by decide)) (Or.inl ⟨_, (hL.r 144 53 176 (by decide)), ?_⟩)
            refine And.intro (hL.k 176 (by decide)) (And.intro (hL.v 176 (by decide) h.1) ?_)
            have h := h.2 _ rfl
            exact hP _ h
    · have h := h.2 c
      refine And.intro (hL.k 144 (by decide)) (Or.inl ⟨_, (hL.r 144 49 173 (by decide)), ?_⟩)
      refine And.intro (hL.k 144 (by decide)) ?_
      refine And.intro (hL.k 173 (by decide)) (And.intro (hL.v 173 (by decide) h.1) ?_)
      have h := h.2 _ rfl
      refine And.intro (hL.k 144 (by decide)) ?_
      refine And.intro (hL.k 144 (by decide)) ?_
      have h := h _ rfl
      exact hP _ h
theorem x_Mo_calls {cx : gCx} {d : Nat} {ad : Nat → Nat} {a1 a2 a3 : Int32} {t : gSt} {post : Option Value → gSt → Prop} (hL : Lay t ad) (h : ∀ t1, t1 = g_si t (ad 144) 0 0 → g_E cx d i_Mo_in [.long a1.toInt64, .long 0, .long ((t1.2.1 (ad 144) 11) - 1).toInt64] t1 (fun r u2 => ∃ y3 : Int32, r = some (.int y3) ∧ Lay u2 ad ∧ ((y3 = 0 → g_W cx (g_E cx d) mt_Mo_calls post (37, [some (.ref (ad 144)), some (.int a1), some (.int a2), some (.int a3), none], [], u2, 0, 0)) ∧ (¬ (y3 = 0) → g_W cx (g_E cx d) mt_Mo_calls post (21, [some (.ref (ad 144)), some (.int a1), some (.int a2), some (.int a3), none], [], u2, 0, 0))))) : g_E cx (d + 1) i_Mo_calls [.ref (ad 144), .int a1, .int a2, .int a3] t post := by
  refine g_call mt_Mo_calls rfl (by decide) (Nat.le_of_ble_eq_true rfl) ?_
  refine g_run [21, 37, 39, 102, 103, 115] 400 (fun P hP => ?_)
  refine And.intro (hL.k 144 (by decide)) ?_
  have h := h _ rfl
  refine And.intro (hL.k 144 (by decide)) ?_
  refine g_Em h (fun r u h => ?_)
  obtain ⟨y3, rfl, hL, h⟩ := h
  refine And.intro (fun c => ?_) (fun c => ?_)
  · have h := h.1 c
    exact hP _ h
  · have h := h.2 c
    exact hP _ h
theorem x_Mo_calls_21 {cx : gCx} {d : Nat} {ad : Nat → Nat} {l1 l2 l3 : Int32} {t : gSt} {post : Option Value → gSt → Prop} (hL : Lay t ad) (h : g_E cx d i_Mo_in [.long l2.toInt64, .long 0, .long ((t.2.1 (ad 144) 11) - 1).toInt64] t (fun r u1 => ∃ y2 : Int32, r = some (.int y2) ∧ Lay u1 ad ∧ ((¬ y2 = 0 → g_W cx (g_E cx d) mt_Mo_calls post (39, [some (.ref (ad 144)), some (.int l1), some (.int l2), some (.int l3), none], [], u1, 0, 0)) ∧ (¬ (¬ y2 = 0) → g_W cx (g_E cx d) mt_Mo_calls post (37, [some (.ref (ad 144)), some (.int l1), some (.int l2), some (.int l3), none], [], u1, 0, 0))))) : g_W cx (g_E cx d) mt_Mo_calls post (21, [some (.ref (ad 144)), some (.int l1), some (.int l2), some (.int l3), none], [], t, 0, 0) := by
  refine g_run [21, 37, 39, 102, 103, 115] 400 (fun P hP => ?_)
  refine And.intro (hL.k 144 (by decide)) ?_
  refine g_Em h (fun r u h => ?_)
  obtain ⟨y2, rfl, hL, h⟩ := h
  refine And.intro (fun c => ?_) (fun c => ?_)
  · have h := h.1 c
    exact hP _ h
  · have h := h.2 c
    exact hP _ h
theorem x_Mo_calls_37 {cx : gCx} {d : Nat} {ad : Nat → Nat} {l1 l2 l3 : Int32} {t : gSt} {post : Option Value → gSt → Prop} (hL : Lay t ad) (h : post (some (.int (-1))) t) : g_W cx (g_E cx d) mt_Mo_calls post (37, [some (.ref (ad 144)), some (.int l1), some (.int l2), some (.int l3), none], [], t, 0, 0) := by
  refine g_run [21, 37, 39, 102, 103, 115] 400 (fun P hP => ?_)
  exact And.intro rfl (And.intro rfl h)
theorem x_Mo_calls_39 {cx : gCx} {d : Nat} {ad : Nat → Nat} {l1 l2 l3 : Int32} {t : gSt} {post : Option Value → gSt → Prop} (hL : Lay t ad) (h : g_E cx d i_Mo_in [.long l3.toInt64, .long 0, .long 1] t (fun r u1 => ∃ y2 : Int32, r = some (.int y2) ∧ Lay u1 ad ∧ ((¬ y2 = 0 → (¬ l3 = 0 → vp_in ((24 * l1) + l2) 576 ∧ (((u1.2.1 (ad 171) (((24 * l1) + l2) : Int32).toNatClampNeg) = 0 → g_W cx (g_E cx d) mt_Mo_calls post (102, [some (.ref (ad 144)), some (.int l1), some (.int l2), some (.int l3), none], [], u1, 0, 0)) ∧ (¬ ((u1.2.1 (ad 171) (((24 * l1) + l2) : Int32).toNatClampNeg) = 0) → vp_in ((24 * l2) + l1) 576 ∧ (((u1.2.1 (ad 171) (((24 * l2) + l1) : Int32).toNatClampNeg) = 0 → g_W cx (g_E cx d) mt_Mo_calls post (102, [some (.ref (ad 144)), some (.int l1), some (.int l2), some (.int l3), none], [], u1, 0, 0)) ∧ (¬ ((u1.2.1 (ad 171) (((24 * l2) + l1) : Int32).toNatClampNeg) = 0) → g_W cx (g_E cx d) mt_Mo_calls post (103, [some (.ref (ad 144)), some (.int l1), some (.int l2), some (.int l3), none], [.int 1], u1, 0, 0)))))) ∧ (¬ (¬ l3 = 0) → vp_in ((24 * l1) + l2) 576 ∧ (g_W cx (g_E cx d) mt_Mo_calls post (103, [some (.ref (ad 144)), some (.int l1), some (.int l2), some (.int l3), none], [.int (u1.2.1 (ad 172) (((24 * l1) + l2) : Int32).toNatClampNeg)], u1, 0, 0)))) ∧ (¬ (¬ y2 = 0) → post (some (.int (-2))) u1)))) : g_W cx (g_E cx d) mt_Mo_calls post (39, [some (.ref (ad 144)), some (.int l1), some (.int l2), some (.int l3), none], [], t, 0, 0) := by
  refine g_run [21, 37, 39, 102, 103, 115] 400 (fun P hP => ?_)
  refine g_Em h (fun r u h => ?_)
  obtain ⟨y2, rfl, hL, h⟩ := h
  refine And.intro (fun c => ?_) (fun c => ?_)
  · have h := h.1 c
    refine And.intro (fun c => ?_) (fun c => ?_)
    · have h := h.1 c
      refine And.intro (hL.k 144 (by decide)) (Or.inl ⟨_, (hL.r 144 47 171 (by decide)), ?_⟩)
      refine Or.inl (And.intro (Or.inr (hL.k 171 (by decide))) (And.intro (hL.v 171 (by decide) h.1) ?_))
      have h := h.2
      refine And.intro (fun c => ?_) (fun c => ?_)
      · have h := h.1 c
        exact hP _ h
      · have h := h.2 c
        refine And.intro (hL.k 144 (by decide)) (Or.inl ⟨_, (hL.r 144 47 171 (by decide)), ?_⟩)
        refine Or.inl (And.intro (Or.inr (hL.k 171 (by decide))) (And.intro (hL.v 171 (by decide) h.1) ?_))
        have h := h.2
        refine And.intro (fun c => ?_) (fun c => ?_)
        · have h := h.1 c
          exact hP _ h
        · have h := h.2 c
          exact hP _ h
    · have h := h.2 c
      refine And.intro (hL.k 144 (by decide)) (Or.inl ⟨_, (hL.r 144 48 172 (by decide)), ?_⟩)
      refine Or.inl (And.intro (Or.inr (hL.k 172 (by decide))) (And.intro (hL.v 172 (by decide) h.1) ?_))
      have h := h.2
      exact hP _ h
  · have h := h.2 c
    exact And.intro rfl (And.intro rfl h)
theorem x_Mo_calls_102 {cx : gCx} {d : Nat} {ad : Nat → Nat} {l1 l2 l3 : Int32} {t : gSt} {post : Option Value → gSt → Prop} (hL : Lay t ad) (h : g_W cx (g_E cx d) mt_Mo_calls post (103, [some (.ref (ad 144)), some (.int l1), some (.int l2), some (.int l3), none], [.int 0], t, 0, 0)) : g_W cx (g_E cx d) mt_Mo_calls post (102, [some (.ref (ad 144)), some (.int l1), some (.int l2), some (.int l3), none], [], t, 0, 0) := by
  refine g_run [21, 37, 39, 102, 103, 115] 400 (fun P hP => ?_)
  exact hP _ h
theorem x_Mo_calls_103 {cx : gCx} {d : Nat} {ad : Nat → Nat} {l1 l2 l3 s0 : Int32} {t : gSt} {post : Option Value → gSt → Prop} (hL : Lay t ad) (h : (s0 = 0 → g_W cx (g_E cx d) mt_Mo_calls post (115, [some (.ref (ad 144)), some (.int l1), some (.int l2), some (.int l3), some (.int s0)], [.int 0], t, 0, 0)) ∧ (¬ (s0 = 0) → g_W cx (g_E cx d) mt_Mo_calls post (115, [some (.ref (ad 144)), some (.int l1), some (.int l2), some (.int l3), some (.int s0)], [.int 1], t, 0, 0))) : g_W cx (g_E cx d) mt_Mo_calls post (103, [some (.ref (ad 144)), some (.int l1), some (.int l2), some (.int l3), none], [.int s0], t, 0, 0) := by
  refine g_run [21, 37, 39, 102, 103, 115] 400 (fun P hP => ?_)
  refine And.intro (fun c => ?_) (fun c => ?_)
  · have h := h.1 c
    exact hP _ h
  · have h := h.2 c
    exact hP _ h
theorem x_Mo_calls_115 {cx : gCx} {d : Nat} {ad : Nat → Nat} {l1 l2 l3 l4 s0 : Int32} {t : gSt} {post : Option Value → gSt → Prop} (hL : Lay t ad) (h : post (some (.int s0)) t) : g_W cx (g_E cx d) mt_Mo_calls post (115, [some (.ref (ad 144)), some (.int l1), some (.int l2), some (.int l3), some (.int l4)], [.int s0], t, 0, 0) := by
  refine g_run [21, 37, 39, 102, 103, 115] 400 (fun P hP => ?_)
  exact And.intro rfl (And.intro rfl h)
theorem x_Mo_order {cx : gCx} {d : Nat} {ad : Nat → Nat} {a1 : Int32} {t : gSt} {post : Option Value → gSt → Prop} (hL : Lay t ad) (h : ∀ t1, t1 = g_si t (ad 144) 0 0 → g_E cx d i_Mo_in [.long a1.toInt64, .long 0, .long ((t1.2.1 (ad 144) 11) - 1).toInt64] t1 (fun r u2 => ∃ y3 : Int32, r = some (.int y3) ∧ Lay u2 ad ∧ ((y3 = 0 → post (some (.int (-1))) u2) ∧ (¬ (y3 = 0) → vp_in a1 24 ∧ (post (some (.int (u2.2.1 (ad 173) (a1 : Int32).toNatClampNeg))) u2))))) : g_E cx (d + 1) i_Mo_order [.ref (ad 144), .int a1] t post := by
  refine g_call mt_Mo_order rfl (by decide) (Nat.le_of_ble_eq_true rfl) ?_
  refine g_run [] 400 (fun P hP => ?_)
  refine And.intro (hL.k 144 (by decide)) ?_
  have h := h _ rfl
  refine And.intro (hL.k 144 (by decide)) ?_
  refine g_Em h (fun r u h => ?_)
  obtain ⟨y3, rfl, hL, h⟩ := h
  refine And.intro (fun c => ?_) (fun c => ?_)
  · have h := h.1 c
    exact And.intro rfl (And.intro rfl h)
  · have h := h.2 c
    refine And.intro (hL.k 144 (by decide)) (Or.inl ⟨_, (hL.r 144 49 173 (by decide)), ?_⟩)
    refine Or.inl (And.intro (hL.k 173 (by decide)) (And.intro (hL.v 173 (by decide) h.1) ?_))
    have h := h.2
    exact And.intro rfl (And.intro rfl h)
theorem x_Mo_make {cx : gCx} {d : Nat} {ad : Nat → Nat} {a1 : Int32} {t : gSt} {post : Option Value → gSt → Prop} (hL : Lay t ad) (h : (¬ (a1 &&& 4) = 4 → ∀ t1, t1 = g_si t (ad 144) 54 0 → g_W cx (g_E cx d) mt_Mo_make post (20, [some (.ref (ad 144)), some (.int a1), some (.int 0), some (.int 0)], [], t1, 0, 0)) ∧ (¬ (¬ (a1 &&& 4) = 4) → ∀ t2, t2 = g_si t (ad 144) 54 1 → g_W cx (g_E cx d) mt_Mo_make post (20, [some (.ref (ad 144)), some (.int a1), some (.int 0), some (.int 0)], [], t2, 0, 0))) : g_E cx (d + 1) i_Mo_make [.ref (ad 144), .int a1] t post := by
  refine g_call mt_Mo_make rfl (by decide) (Nat.le_of_ble_eq_true rfl) ?_
  refine g_run [20, 52, 99, 130] 400 (fun P hP => ?_)
  refine And.intro (fun c => ?_) (fun c => ?_)
  · have h := h.1 c
    refine And.intro (hL.k 144 (by decide)) (And.intro ⟨rfl, rfl⟩ ?_)
    have h := h _ rfl
    exact hP _ h
  · have h := h.2 c
    refine And.intro (hL.k 144 (by decide)) (And.intro ⟨rfl, rfl⟩ ?_)
    have h := h _ rfl
    exact hP _ h
theorem x_Mo_make_20 {cx : gCx} {d : Nat} {ad : Nat → Nat} {l1 l2 l3 : Int32} {t : gSt} {post : Option Value → gSt → Prop} (hL : Lay t ad) (h : ((t.2.1 (ad 144) 11) ≤ l3 → g_W cx (g_E cx d) mt_Mo_make post (52, [some (.ref (ad 144)), some (.int l1), some (.int l2), some (.int 0)], [], t, 0, 0)) ∧ (¬ ((t.2.1 (ad 144) 11) ≤ l3) → g_E cx d i_Mo_copyAll [.ref (ad 144), .int l3, .int (24 + l3)] t (fun r u1 => r = none ∧ Lay u1 ad ∧ (vp_in l3 24 ∧ (∀ t3, t3 = g_si u1 (ad 150) (l3 : Int32).toNatClampNeg 0 → g_W cx (g_E cx d) mt_Mo_make post (20, [some (.ref (ad 144)), some (.int l1), some (.int l2), some (.int (l3 + 1))], [], t3, 0, 0)))))) : g_W cx (g_E cx d) mt_Mo_make post (20, [some (.ref (ad 144)), some (.int l1), some (.int l2), some (.int l3)], [], t, 0, 0) := by
  refine g_run [20, 52, 99, 130] 400 (fun P hP => ?_)
  refine And.intro (hL.k 144 (by decide)) ?_
  refine And.intro (fun c => ?_) (fun c => ?_)
  · have h := h.1 c
    exact hP _ h
  · have h := h.2 c
    refine And.intro (hL.k 144 (by decide)) ?_
    refine g_Em h (fun r u h => ?_)
    obtain ⟨rfl, hL, h⟩ := h
    refine And.intro (hL.k 144 (by decide)) (Or.inl ⟨_, (hL.r 144 16 150 (by decide)), ?_⟩)
    refine And.intro (hL.k 150 (by decide)) (And.intro (hL.v 150 (by decide) h.1) ?_)
    have h := h.2 _ rfl
    exact hP _ h
theorem x_Mo_make_52 {cx : gCx} {d : Nat} {ad : Nat → Nat} {l1 l2 l3 : Int32} {t : gSt} {post : Option Value → gSt → Prop} (hL : Lay t ad) (h : ((t.2.1 (ad 144) 11) ≤ l3 → g_W cx (g_E cx d) mt_Mo_make post (99, [some (.ref (ad 144)), some (.int l1), some (.int l2), some (.int 0)], [], t, 0, 0)) ∧ (¬ ((t.2.1 (ad 144) 11) ≤ l3) → (¬ (l1 &&& 1) = 1 → g_W cx (g_E cx d) mt_Mo_make post (99, [some (.ref (ad 144)), some (.int l1), some (.int l2), some (.int 0)], [], t, 0, 0)) ∧ (¬ (¬ (l1 &&& 1) = 1) → vp_in l3 24 ∧ (g_E cx d i_Mo_inline [.ref (ad 144), .int (t.2.1 (ad 173) (l3 : Int32).toNatClampNeg)] t (fun r u1 => r = none ∧ Lay u1 ad ∧ (vp_in l3 24 ∧ (vp_in (u1.2.1 (ad 173) (l3 : Int32).toNatClampNeg) 24 ∧ (∀ x3 : Int32, x3 = (l2 + (u1.2.1 (ad 150) ((u1.2.1 (ad 173) (l3 : Int32).toNatClampNeg) : Int32).toNatClampNeg)) → g_W cx (g_E cx d) mt_Mo_make post (52, [some (.ref (ad 144)), some (.int l1), some (.int x3), some (.int (l3 + 1))], [], u1, 0, 0))))))))) : g_W cx (g_E cx d) mt_Mo_make post (52, [some (.ref (ad 144)), some (.int l1), some (.int l2), some (.int l3)], [], t, 0, 0) := by
  refine g_run [20, 52, 99, 130] 400 (fun P hP => ?_)
  refine And.intro (hL.k 144 (by decide)) ?_
  refine And.intro (fun c => ?_) (fun c => ?_)
  · have h := h.1 c
    exact hP _ h
  · have h := h.2 c
    refine And.intro (fun c => ?_) (fun c => ?_)
    · have h := h.1 c
      exact hP _ h
    · have h := h.2 c
      refine And.intro (hL.k 144 (by decide)) (Or.inl ⟨_, (hL.r 144 49 173 (by decide)), ?_⟩)
      refine Or.inl (And.intro (hL.k 173 (by decide)) (And.intro (hL.v 173 (by decide) h.1) ?_))
      have h := h.2
      refine And.intro (hL.k 144 (by decide)) ?_
      refine g_Em h (fun r u h => ?_)
      obtain ⟨rfl, hL, h⟩ := h
      refine And.intro (hL.k 144 (by decide)) (Or.inl ⟨_, (hL.r 144 16 150 (by decide)), ?_⟩)
      refine And.intro (hL.k 144 (by decide)) (Or.inl ⟨_, (hL.r 144 49 173 (by decide)), ?_⟩)
      refine Or.inl (And.intro (hL.k 173 (by decide)) (And.intro (hL.v 173 (by decide) h.1) ?_))
      have h := h.2
      refine Or.inl (And.intro (hL.k 150 (by decide)) (And.intro (hL.v 150 (by decide) h.1) ?_))
      have h := h.2
      have h := h _ rfl
      exact hP _ h
theorem x_Mo_make_99 {cx : gCx} {d : Nat} {ad : Nat → Nat} {l1 l2 l3 : Int32} {t : gSt} {post : Option Value → gSt → Prop} (hL : Lay t ad) (h : ((t.2.1 (ad 144) 11) ≤ l3 → g_W cx (g_E cx d) mt_Mo_make post (130, [some (.ref (ad 144)), some (.int l1), some (.int l2), some (.int 0)], [], t, 0, 0)) ∧ (¬ ((t.2.1 (ad 144) 11) ≤ l3) → (¬ (l1 &&& 2) = 2 → g_W cx (g_E cx d) mt_Mo_make post (130, [some (.ref (ad 144)), some (.int l1), some (.int l2), some (.int 0)], [], t, 0, 0)) ∧ (¬ (¬ (l1 &&& 2) = 2) → g_E cx d i_Mo_fold [.ref (ad 144), .int (24 + l3)] t (fun r u1 => r = none ∧ Lay u1 ad ∧ (g_W cx (g_E cx d) mt_Mo_make post (99, [some (.ref (ad 144)), some (.int l1), some (.int l2), some (.int (l3 + 1))], [], u1, 0, 0)))))) : g_W cx (g_E cx d) mt_Mo_make post (99, [some (.ref (ad 144)), some (.int l1), some (.int l2), some (.int l3)], [], t, 0, 0) := by
  refine g_run [20, 52, 99, 130] 400 (fun P hP => ?_)
  refine And.intro (hL.k 144 (by decide)) ?_
  refine And.intro (fun c => ?_) (fun c => ?_)
  · have h := h.1 c
    exact hP _ h
  · have h := h.2 c
    refine And.intro (fun c => ?_) (fun c => ?_)
    · have h := h.1 c
      exact hP _ h
    · have h := h.2 c
      refine And.intro (hL.k 144 (by decide)) ?_
      refine g_Em h (fun r u h => ?_)
      obtain ⟨rfl, hL, h⟩ := h
      exact hP _ h
theorem x_Mo_make_130 {cx : gCx} {d : Nat} {ad : Nat → Nat} {l1 l2 l3 : Int32} {t : gSt} {post : Option Value → gSt → Prop} (hL : Lay t ad) (h : ((t.2.1 (ad 144) 11) ≤ l3 → g_E cx d i_Mo_bounds [.ref (ad 144), .int 0] t (fun r u1 => r = none ∧ Lay u1 ad ∧ (g_E cx d i_Mo_bounds [.ref (ad 144), .int 1] u1 (fun r u3 => r = none ∧ Lay u3 ad ∧ (post (some (.int l2)) u3))))) ∧ (¬ ((t.2.1 (ad 144) 11) ≤ l3) → g_E cx d i_Mo_compile [.ref (ad 144), .int l3, .int 0] t (fun r u5 => r = none ∧ Lay u5 ad ∧ (g_E cx d i_Mo_compile [.ref (ad 144), .int (24 + l3), .int (u5.2.1 (ad 144) 54)] u5 (fun r u7 => r = none ∧ Lay u7 ad ∧ (g_W cx (g_E cx d) mt_Mo_make post (130, [some (.ref (ad 144)), some (.int l1), some (.int l2), some (.int (l3 + 1))], [], u7, 0, 0))))))) : g_W cx (g_E cx d) mt_Mo_make post (130, [some (.ref (ad 144)), some (.int l1), some (.int l2), some (.int l3)], [], t, 0, 0) := by
  refine g_run [20, 52, 99, 130] 400 (fun P hP => ?_)
  refine And.intro (hL.k 144 (by decide)) ?_
  refine And.intro (fun c => ?_) (fun c => ?_)
  · have h := h.1 c
    refine And.intro (hL.k 144 (by decide)) ?_
    refine g_Em h (fun r u h => ?_)
    obtain ⟨rfl, hL, h⟩ := h
    refine And.intro (hL.k 144 (by decide)) ?_
    refine g_Em h (fun r u h => ?_)
    obtain ⟨rfl, hL, h⟩ := h
    exact And.intro rfl (And.intro rfl h)
  · have h := h.2 c
    refine And.intro (hL.k 144 (by decide)) ?_
    refine g_Em h (fun r u h => ?_)
    obtain ⟨rfl, hL, h⟩ := h
    refine And.intro (hL.k 144 (by decide)) ?_
    refine And.intro (hL.k 144 (by decide)) ?_
    refine g_Em h (fun r u h => ?_)
    obtain ⟨rfl, hL, h⟩ := h
    exact hP _ h
theorem x_Mo_trim {cx : gCx} {d : Nat} {ad : Nat → Nat} {a1 : Int32} {t : gSt} {post : Option Value → gSt → Prop} (hL : Lay t ad) (h : ∀ t1, t1 = g_si t (ad 144) 0 0 → g_E cx d i_Mo_in [.long a1.toInt64, .long 0, .long 7] t1 (fun r u2 => ∃ y3 : Int32, r = some (.int y3) ∧ Lay u2 ad ∧ ((y3 = 0 → post (some (.int (-2))) u2) ∧ (¬ (y3 = 0) → g_E cx d i_Mo_make [.ref (ad 144), .int a1] u2 (fun r u4 => ∃ y5 : Int32, r = some (.int y5) ∧ Lay u4 ad ∧ (post (some (.int y5)) u4)))))) : g_E cx (d + 1) i_Mo_trim [.ref (ad 144), .int a1] t post := by
  refine g_call mt_Mo_trim rfl (by decide) (Nat.le_of_ble_eq_true rfl) ?_
  refine g_run [] 400 (fun P hP => ?_)
  refine And.intro (hL.k 144 (by decide)) ?_
  have h := h _ rfl
  refine g_Em h (fun r u h => ?_)
  obtain ⟨y3, rfl, hL, h⟩ := h
  refine And.intro (fun c => ?_) (fun c => ?_)
  · have h := h.1 c
    exact And.intro rfl (And.intro rfl h)
  · have h := h.2 c
    refine And.intro (hL.k 144 (by decide)) ?_
    refine g_Em h (fun r u h => ?_)
    obtain ⟨y5, rfl, hL, h⟩ := h
    exact And.intro rfl (And.intro rfl h)
