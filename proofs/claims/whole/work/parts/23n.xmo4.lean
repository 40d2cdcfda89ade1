/-! PRINTED by wip/gen/xparts.py: symbolic execution, method by method -/
theorem x_Mo_instruction {cx : gCx} {d : Nat} {ad : Nat → Nat} {a1 a2 : Int32} {t : gSt} {post : Option Value → gSt → Prop} (hL : Lay t ad) (h : vp_in (t.2.1 (ad 144) 65) 48 ∧ (vp_in ((1600 * (t.2.1 (ad 144) 65)) + (t.2.1 (ad 184) ((t.2.1 (ad 144) 65) : Int32).toNatClampNeg)) 76800 ∧ (∀ t1, t1 = g_si t (ad 182) (((1600 * (t.2.1 (ad 144) 65)) + (t.2.1 (ad 184) ((t.2.1 (ad 144) 65) : Int32).toNatClampNeg)) : Int32).toNatClampNeg a1 → vp_in (t1.2.1 (ad 144) 65) 48 ∧ (vp_in ((1600 * (t1.2.1 (ad 144) 65)) + (t1.2.1 (ad 184) ((t1.2.1 (ad 144) 65) : Int32).toNatClampNeg)) 76800 ∧ (∀ t2, t2 = g_si t1 (ad 183) (((1600 * (t1.2.1 (ad 144) 65)) + (t1.2.1 (ad 184) ((t1.2.1 (ad 144) 65) : Int32).toNatClampNeg)) : Int32).toNatClampNeg a2 → vp_in (t2.2.1 (ad 144) 65) 48 ∧ (vp_in (t2.2.1 (ad 144) 65) 48 ∧ (∀ t3, t3 = g_si t2 (ad 184) ((t2.2.1 (ad 144) 65) : Int32).toNatClampNeg ((t2.2.1 (ad 184) ((t2.2.1 (ad 144) 65) : Int32).toNatClampNeg) + 1) → post none t3))))))) : g_E cx (d + 1) i_Mo_instruction [.ref (ad 144), .int a1, .int a2] t post := by
  refine g_call mt_Mo_instruction rfl (by decide) (Nat.le_of_ble_eq_true rfl) ?_
  refine g_run [] 400 (fun P hP => ?_)
  refine And.intro (hL.k 144 (by decide)) (Or.inl ⟨_, (hL.r 144 60 182 (by decide)), ?_⟩)
  refine And.intro (hL.k 144 (by decide)) ?_
  refine And.intro (hL.k 144 (by decide)) (Or.inl ⟨_, (hL.r 144 62 184 (by decide)), ?_⟩)
  refine And.intro (hL.k 144 (by decide)) ?_
  refine Or.inl (And.intro (hL.k 184 (by decide)) (And.intro (hL.v 184 (by decide) h.1) ?_))
  have h := h.2
  refine And.intro (hL.k 182 (by decide)) (And.intro (hL.v 182 (by decide) h.1) ?_)
  have h := h.2 _ rfl
  refine And.intro (hL.k 144 (by decide)) (Or.inl ⟨_, (hL.r 144 61 183 (by decide)), ?_⟩)
  refine And.intro (hL.k 144 (by decide)) ?_
  refine And.intro (hL.k 144 (by decide)) (Or.inl ⟨_, (hL.r 144 62 184 (by decide)), ?_⟩)
  refine And.intro (hL.k 144 (by decide)) ?_
  refine Or.inl (And.intro (hL.k 184 (by decide)) (And.intro (hL.v 184 (by decide) h.1) ?_))
  have h := h.2
  refine And.intro (hL.k 183 (by decide)) (And.intro (hL.v 183 (by decide) h.1) ?_)
  have h := h.2 _ rfl
  refine And.intro (hL.k 144 (by decide)) (Or.inl ⟨_, (hL.r 144 62 184 (by decide)), ?_⟩)
  refine And.intro (hL.k 144 (by decide)) ?_
  refine Or.inl (And.intro (hL.k 184 (by decide)) (And.intro (hL.v 184 (by decide) h.1) ?_))
  have h := h.2
  refine And.intro (hL.k 184 (by decide)) (And.intro (hL.v 184 (by decide) h.1) ?_)
  have h := h.2 _ rfl
  exact And.intro rfl (And.intro rfl h)
theorem x_Mo_lays {cx : gCx} {d : Nat} {ad : Nat → Nat} {a1 : Int32} {t : gSt} {post : Option Value → gSt → Prop} (hL : Lay t ad) (h : ∀ t1, t1 = g_si t (ad 144) 66 ((t.2.1 (ad 144) 66) + a1) → vp_in (t1.2.1 (ad 144) 65) 48 ∧ (((t1.2.1 (ad 144) 66) ≤ (t1.2.1 (ad 186) ((t1.2.1 (ad 144) 65) : Int32).toNatClampNeg) → vp_in (t1.2.1 (ad 144) 65) 48 ∧ (vp_in (t1.2.1 (ad 144) 65) 48 ∧ (∀ t2, t2 = g_si t1 (ad 186) ((t1.2.1 (ad 144) 65) : Int32).toNatClampNeg (t1.2.1 (ad 186) ((t1.2.1 (ad 144) 65) : Int32).toNatClampNeg) → post none t2))) ∧ (¬ ((t1.2.1 (ad 144) 66) ≤ (t1.2.1 (ad 186) ((t1.2.1 (ad 144) 65) : Int32).toNatClampNeg)) → vp_in (t1.2.1 (ad 144) 65) 48 ∧ (∀ t3, t3 = g_si t1 (ad 186) ((t1.2.1 (ad 144) 65) : Int32).toNatClampNeg (t1.2.1 (ad 144) 66) → post none t3)))) : g_E cx (d + 1) i_Mo_lays [.ref (ad 144), .int a1] t post := by
  refine g_call mt_Mo_lays rfl (by decide) (Nat.le_of_ble_eq_true rfl) ?_
  refine g_run [] 400 (fun P hP => ?_)
  refine And.intro (hL.k 144 (by decide)) ?_
  refine And.intro (hL.k 144 (by decide)) ?_
  have h := h _ rfl
  refine And.intro (hL.k 144 (by decide)) (Or.inl ⟨_, (hL.r 144 64 186 (by decide)), ?_⟩)
  refine And.intro (hL.k 144 (by decide)) ?_
  refine And.intro (hL.k 144 (by decide)) ?_
  refine And.intro (hL.k 144 (by decide)) (Or.inl ⟨_, (hL.r 144 64 186 (by decide)), ?_⟩)
  refine And.intro (hL.k 144 (by decide)) ?_
  refine Or.inl (And.intro (hL.k 186 (by decide)) (And.intro (hL.v 186 (by decide) h.1) ?_))
  have h := h.2
  refine And.intro (fun c => ?_) (fun c => ?_)
  · have h := h.1 c
    refine And.intro (hL.k 144 (by decide)) (Or.inl ⟨_, (hL.r 144 64 186 (by decide)), ?_⟩)
    refine And.intro (hL.k 144 (by decide)) ?_
    refine Or.inl (And.intro (hL.k 186 (by decide)) (And.intro (hL.v 186 (by decide) h.1) ?_))
    have h := h.2
    refine And.intro (hL.k 186 (by decide)) (And.intro (hL.v 186 (by decide) h.1) ?_)
    have h := h.2 _ rfl
    exact And.intro rfl (And.intro rfl h)
  · have h := h.2 c
    refine And.intro (hL.k 144 (by decide)) ?_
    refine And.intro (hL.k 186 (by decide)) (And.intro (hL.v 186 (by decide) h.1) ?_)
    have h := h.2 _ rfl
    exact And.intro rfl (And.intro rfl h)
theorem x_Mo_slot {cx : gCx} {d : Nat} {ad : Nat → Nat} {a1 : Int32} {t : gSt} {post : Option Value → gSt → Prop} (hL : Lay t ad) (h : vp_in (t.2.1 (ad 144) 65) 48 ∧ (((a1 + 1) ≤ (t.2.1 (ad 185) ((t.2.1 (ad 144) 65) : Int32).toNatClampNeg) → vp_in (t.2.1 (ad 144) 65) 48 ∧ (vp_in (t.2.1 (ad 144) 65) 48 ∧ (∀ t1, t1 = g_si t (ad 185) ((t.2.1 (ad 144) 65) : Int32).toNatClampNeg (t.2.1 (ad 185) ((t.2.1 (ad 144) 65) : Int32).toNatClampNeg) → post none t1))) ∧ (¬ ((a1 + 1) ≤ (t.2.1 (ad 185) ((t.2.1 (ad 144) 65) : Int32).toNatClampNeg)) → vp_in (t.2.1 (ad 144) 65) 48 ∧ (∀ t2, t2 = g_si t (ad 185) ((t.2.1 (ad 144) 65) : Int32).toNatClampNeg (a1 + 1) → post none t2)))) : g_E cx (d + 1) i_Mo_slot [.ref (ad 144), .int a1] t post := by
  refine g_call mt_Mo_slot rfl (by decide) (Nat.le_of_ble_eq_true rfl) ?_
  refine g_run [] 400 (fun P hP => ?_)
  refine And.intro (hL.k 144 (by decide)) (Or.inl ⟨_, (hL.r 144 63 185 (by decide)), ?_⟩)
  refine And.intro (hL.k 144 (by decide)) ?_
  refine And.intro (hL.k 144 (by decide)) (Or.inl ⟨_, (hL.r 144 63 185 (by decide)), ?_⟩)
  refine And.intro (hL.k 144 (by decide)) ?_
  refine Or.inl (And.intro (hL.k 185 (by decide)) (And.intro (hL.v 185 (by decide) h.1) ?_))
  have h := h.2
  refine And.intro (fun c => ?_) (fun c => ?_)
  · have h := h.1 c
    refine And.intro (hL.k 144 (by decide)) (Or.inl ⟨_, (hL.r 144 63 185 (by decide)), ?_⟩)
    refine And.intro (hL.k 144 (by decide)) ?_
    refine Or.inl (And.intro (hL.k 185 (by decide)) (And.intro (hL.v 185 (by decide) h.1) ?_))
    have h := h.2
    refine And.intro (hL.k 185 (by decide)) (And.intro (hL.v 185 (by decide) h.1) ?_)
    have h := h.2 _ rfl
    exact And.intro rfl (And.intro rfl h)
  · have h := h.2 c
    refine And.intro (hL.k 185 (by decide)) (And.intro (hL.v 185 (by decide) h.1) ?_)
    have h := h.2 _ rfl
    exact And.intro rfl (And.intro rfl h)
theorem x_Mo_compile {cx : gCx} {d : Nat} {ad : Nat → Nat} {a1 a2 : Int32} {t : gSt} {post : Option Value → gSt → Prop} (hL : Lay t ad) (h : ∀ t1, t1 = g_si t (ad 144) 65 a1 → vp_in (t1.2.1 (ad 144) 65) 48 ∧ (∀ t2, t2 = g_si t1 (ad 184) ((t1.2.1 (ad 144) 65) : Int32).toNatClampNeg 0 → vp_in (t2.2.1 (ad 144) 65) 48 ∧ (∀ t3, t3 = g_si t2 (ad 186) ((t2.2.1 (ad 144) 65) : Int32).toNatClampNeg 0 → vp_in (a1 - a1 / 24 * 24) 24 ∧ (∀ x4 : Int32, x4 = (t3.2.1 (ad 147) ((a1 - a1 / 24 * 24) : Int32).toNatClampNeg) → vp_in (t3.2.1 (ad 144) 65) 48 ∧ (∀ t5, t5 = g_si t3 (ad 185) ((t3.2.1 (ad 144) 65) : Int32).toNatClampNeg x4 → ∀ t6, t6 = g_si t5 (ad 144) 66 0 → g_W cx (g_E cx d) mt_Mo_compile post (53, [some (.ref (ad 144)), some (.int a1), some (.int a2), some (.int x4), some (.int 0), none, none, none], [], t6, 0, 0)))))) : g_E cx (d + 1) i_Mo_compile [.ref (ad 144), .int a1, .int a2] t post := by
  refine g_call mt_Mo_compile rfl (by decide) (Nat.le_of_ble_eq_true rfl) ?_
  refine g_run [53, 97, 351, 427] 400 (fun P hP => ?_)
  refine And.intro (hL.k 144 (by decide)) ?_
  have h := h _ rfl
  refine And.intro (hL.k 144 (by decide)) (Or.inl ⟨_, (hL.r 144 62 184 (by decide)), ?_⟩)
  refine And.intro (hL.k 144 (by decide)) ?_
  refine And.intro (hL.k 184 (by decide)) (And.intro (hL.v 184 (by decide) h.1) ?_)
  have h := h.2 _ rfl
  refine And.intro (hL.k 144 (by decide)) (Or.inl ⟨_, (hL.r 144 64 186 (by decide)), ?_⟩)
  refine And.intro (hL.k 144 (by decide)) ?_
  refine And.intro (hL.k 186 (by decide)) (And.intro (hL.v 186 (by decide) h.1) ?_)
  have h := h.2 _ rfl
  refine And.intro (hL.k 144 (by decide)) (Or.inl ⟨_, (hL.r 144 13 147 (by decide)), ?_⟩)
  refine And.intro (by decide) ?_
  refine Or.inl (And.intro (hL.k 147 (by decide)) (And.intro (hL.v 147 (by decide) h.1) ?_))
  have h := h.2
  have h := h _ rfl
  refine And.intro (hL.k 144 (by decide)) (Or.inl ⟨_, (hL.r 144 63 185 (by decide)), ?_⟩)
  refine And.intro (hL.k 144 (by decide)) ?_
  refine And.intro (hL.k 185 (by decide)) (And.intro (hL.v 185 (by decide) h.1) ?_)
  have h := h.2 _ rfl
  refine And.intro (hL.k 144 (by decide)) ?_
  have h := h _ rfl
  exact hP _ h
theorem x_Mo_compile_53 {cx : gCx} {d : Nat} {ad : Nat → Nat} {l1 l2 l3 l4 : Int32} {t : gSt} {post : Option Value → gSt → Prop} (hL : Lay t ad) (h : (l3 ≤ l4 → ∀ t1, t1 = g_si t (ad 144) 29 0 → vp_in (t1.2.1 (ad 144) 65) 72 ∧ (g_E cx d i_Mo_push [.ref (ad 144), .int 42, .int ((t1.2.1 (ad 148) ((t1.2.1 (ad 144) 65) : Int32).toNatClampNeg) - 1), .int l3] t1 (fun r u2 => r = none ∧ Lay u2 ad ∧ (g_W cx (g_E cx d) mt_Mo_compile post (97, [some (.ref (ad 144)), some (.int l1), some (.int l2), some (.int l3), some (.int l4), none, none, none], [], u2, 0, 0))))) ∧ (¬ (l3 ≤ l4) → vp_in l4 130 ∧ (∀ t4, t4 = g_si t (ad 187) (l4 : Int32).toNatClampNeg l4 → g_W cx (g_E cx d) mt_Mo_compile post (53, [some (.ref (ad 144)), some (.int l1), some (.int l2), some (.int l3), some (.int (l4 + 1)), none, none, none], [], t4, 0, 0)))) : g_W cx (g_E cx d) mt_Mo_compile post (53, [some (.ref (ad 144)), some (.int l1), some (.int l2), some (.int l3), some (.int l4), none, none, none], [], t, 0, 0) := by
  refine g_run [53, 97, 351, 427] 400 (fun P hP => ?_)
  refine And.intro (fun c => ?_) (fun c => ?_)
  · have h := h.1 c
    refine And.intro (hL.k 144 (by decide)) ?_
    have h := h _ rfl
    refine And.intro (hL.k 144 (by decide)) (Or.inl ⟨_, (hL.r 144 14 148 (by decide)), ?_⟩)
    refine And.intro (hL.k 144 (by decide)) ?_
    refine Or.inl (And.intro (hL.k 148 (by decide)) (And.intro (hL.v 148 (by decide) h.1) ?_))
    have h := h.2
    refine And.intro (hL.k 144 (by decide)) ?_
    refine g_Em h (fun r u h => ?_)
    obtain ⟨rfl, hL, h⟩ := h
    exact hP _ h
  · have h := h.2 c
    refine And.intro (hL.k 144 (by decide)) (Or.inl ⟨_, (hL.r 144 67 187 (by decide)), ?_⟩)
    refine And.intro (hL.k 187 (by decide)) (And.intro (hL.v 187 (by decide) h.1) ?_)
    have h := h.2 _ rfl
    exact hP _ h
theorem x_Mo_compile_97 {cx : gCx} {d : Nat} {ad : Nat → Nat} {l1 l2 l3 l4 : Int32} {o5 o6 o7 : Option Value} {t : gSt} {post : Option Value → gSt → Prop} (hL : Lay t ad) (h : ((t.2.1 (ad 144) 29) ≤ 0 → post none t) ∧ (¬ ((t.2.1 (ad 144) 29) ≤ 0) → ∀ t1, t1 = g_si t (ad 144) 29 ((t.2.1 (ad 144) 29) - 1) → vp_in (t1.2.1 (ad 144) 29) 20000 ∧ (∀ x2 : Int32, x2 = (t1.2.1 (ad 159) ((t1.2.1 (ad 144) 29) : Int32).toNatClampNeg) → vp_in (t1.2.1 (ad 144) 29) 20000 ∧ (∀ x3 : Int32, x3 = (t1.2.1 (ad 160) ((t1.2.1 (ad 144) 29) : Int32).toNatClampNeg) → vp_in (t1.2.1 (ad 144) 29) 20000 ∧ (∀ x4 : Int32, x4 = (t1.2.1 (ad 161) ((t1.2.1 (ad 144) 29) : Int32).toNatClampNeg) → (¬ x2 = 41 → (¬ x2 = 42 → (¬ x2 = 40 → (¬ x2 = 45 → (¬ x2 = 46 → (¬ x2 = 43 → (¬ x2 = 44 → ∀ t5, t5 = g_si t1 (ad 144) 66 ((t1.2.1 (ad 144) 66) + x3) → g_W cx (g_E cx d) mt_Mo_compile post (427, [some (.ref (ad 144)), some (.int l1), some (.int l2), some (.int l3), some (.int x2), some (.int x3), some (.int x4), o7], [], t5, 0, 0)) ∧ (¬ (¬ x2 = 44) → g_E cx d i_Mo_got [.ref (ad 144)] t1 (fun r u6 => ∃ y7 : Int32, r = some (.int y7) ∧ Lay u6 ad ∧ (vp_in (u6.2.1 (ad 144) 65) 48 ∧ (vp_in ((1600 * (t1.2.1 (ad 144) 65)) + y7) 76800 ∧ (∀ t8, t8 = g_si u6 (ad 183) (((1600 * (t1.2.1 (ad 144) 65)) + y7) : Int32).toNatClampNeg (u6.2.1 (ad 184) ((u6.2.1 (ad 144) 65) : Int32).toNatClampNeg) → g_W cx (g_E cx d) mt_Mo_compile post (427, [some (.ref (ad 144)), some (.int l1), some (.int l2), some (.int l3), some (.int x2), some (.int x3), some (.int x4), o7], [], t8, 0, 0))))))) ∧ (¬ (¬ x2 = 43) → g_E cx d i_Mo_got [.ref (ad 144)] t1 (fun r u9 => ∃ y10 : Int32, r = some (.int y10) ∧ Lay u9 ad ∧ ((¬ x3 = 1 → ∀ t11, t11 = g_si u9 (ad 144) 66 0 → g_W cx (g_E cx d) mt_Mo_compile post (351, [some (.ref (ad 144)), some (.int l1), some (.int l2), some (.int l3), some (.int x2), some (.int x3), some (.int x4), some (.int y10)], [], t11, 0, 0)) ∧ (¬ (¬ x3 = 1) → vp_in (u9.2.1 (ad 144) 65) 48 ∧ (g_E cx d i_Mo_give [.ref (ad 144), .int (u9.2.1 (ad 184) ((u9.2.1 (ad 144) 65) : Int32).toNatClampNeg)] u9 (fun r u12 => r = none ∧ Lay u12 ad ∧ (g_E cx d i_Mo_instruction [.ref (ad 144), .int 15, .int 0] u12 (fun r u14 => r = none ∧ Lay u14 ad ∧ (g_W cx (g_E cx d) mt_Mo_compile post (351, [some (.ref (ad 144)), some (.int l1), some (.int l2), some (.int l3), some (.int x2), some (.int x3), some (.int x4), some (.int y10)], [], u14, 0, 0))))))))))) ∧ (¬ (¬ x2 = 46) → vp_in (t1.2.1 (ad 144) 65) 48 ∧ (vp_in (t1.2.1 (ad 144) 33) 3100 ∧ (∀ t16, t16 = g_si t1 (ad 162) ((t1.2.1 (ad 144) 33) : Int32).toNatClampNeg (t1.2.1 (ad 184) ((t1.2.1 (ad 144) 65) : Int32).toNatClampNeg) → ∀ t17, t17 = g_si t16 (ad 144) 33 ((t16.2.1 (ad 144) 33) + 1) → g_E cx d i_Mo_instruction [.ref (ad 144), .int 14, .int 0] t17 (fun r u18 => r = none ∧ Lay u18 ad ∧ (g_E cx d i_Mo_lays [.ref (ad 144), .int (-1)] u18 (fun r u20 => r = none ∧ Lay u20 ad ∧ (g_W cx (g_E cx d) mt_Mo_compile post (427, [some (.ref (ad 144)), some (.int l1), some (.int l2), some (.int l3), some (.int x2), some (.int x3), some (.int x4), o7], [], u20, 0, 0))))))))) ∧ (¬ (¬ x2 = 45) → g_E cx d i_Mo_instruction [.ref (ad 144), .int 13, .int x4] t1 (fun r u22 => r = none ∧ Lay u22 ad ∧ (g_E cx d i_Mo_slot [.ref (ad 144), .int x4] u22 (fun r u24 => r = none ∧ Lay u24 ad ∧ (g_E cx d i_Mo_lays [.ref (ad 144), .int (-1)] u24 (fun r u26 => r = none ∧ Lay u26 ad ∧ (vp_in ((1300 * (u26.2.1 (ad 144) 65)) + x3) 93600 ∧ (vp_in (u26.2.1 (ad 154) (((1300 * (u26.2.1 (ad 144) 65)) + x3) : Int32).toNatClampNeg) 130 ∧ (∀ t28, t28 = g_si u26 (ad 187) ((u26.2.1 (ad 154) (((1300 * (u26.2.1 (ad 144) 65)) + x3) : Int32).toNatClampNeg) : Int32).toNatClampNeg x4 → g_W cx (g_E cx d) mt_Mo_compile post (427, [some (.ref (ad 144)), some (.int l1), some (.int l2), some (.int l3), some (.int x2), some (.int x3), some (.int x4), o7], [], t28, 0, 0))))))))))) ∧ (¬ (¬ x2 = 40) → g_E cx d i_Mo_emit [.ref (ad 144), .int x3, .int x4] t1 (fun r u29 => r = none ∧ Lay u29 ad ∧ (g_W cx (g_E cx d) mt_Mo_compile post (427, [some (.ref (ad 144)), some (.int l1), some (.int l2), some (.int l3), some (.int x2), some (.int x3), some (.int x4), o7], [], u29, 0, 0))))) ∧ (¬ (¬ x2 = 42) → g_E cx d i_Mo_visitTail [.ref (ad 144), .int x3, .int x4, .int l2] t1 (fun r u31 => r = none ∧ Lay u31 ad ∧ (g_W cx (g_E cx d) mt_Mo_compile post (427, [some (.ref (ad 144)), some (.int l1), some (.int l2), some (.int l3), some (.int x2), some (.int x3), some (.int x4), o7], [], u31, 0, 0))))) ∧ (¬ (¬ x2 = 41) → g_E cx d i_Mo_visit [.ref (ad 144), .int x3, .int x4] t1 (fun r u33 => r = none ∧ Lay u33 ad ∧ (g_W cx (g_E cx d) mt_Mo_compile post (427, [some (.ref (ad 144)), some (.int l1), some (.int l2), some (.int l3), some (.int x2), some (.int x3), some (.int x4), o7], [], u33, 0, 0))))))))) : g_W cx (g_E cx d) mt_Mo_compile post (97, [some (.ref (ad 144)), some (.int l1), some (.int l2), some (.int l3), some (.int l4), o5, o6, o7], [], t, 0, 0) := by
  refine g_run [53, 97, 351, 427] 400 (fun P hP => ?_)
  refine And.intro (hL.k 144 (by decide)) ?_
  refine And.intro (fun c => ?_) (fun c => ?_)
  · have h := h.1 c
    exact And.intro rfl (And.intro rfl h)
  · have h := h.2 c
    refine And.intro (hL.k 144 (by decide)) ?_
    refine And.intro (hL.k 144 (by decide)) ?_
    have h := h _ rfl
    refine And.intro (hL.k 144 (by decide)) (Or.inl ⟨_, (hL.r 144 30 159 (by decide)), ?_⟩)
    refine And.intro (hL.k 144 (by decide)) ?_
    refine Or.inl (And.intro (hL.k 159 (by decide)) (And.intro (hL.v 159 (by decide) h.1) ?_))
    have h := h.2
    have h := h _ rfl
    refine And.intro (hL.k 144 (by decide)) (Or.inl ⟨_, (hL.r 144 31 160 (by decide)), ?_⟩)
    refine And.intro (hL.k 144 (by decide)) ?_
    refine Or.inl (And.intro (hL.k 160 (by decide)) (And.intro (hL.v 160 (by decide) h.1) ?_))
    have h := h.2
    have h := h _ rfl
    refine And.intro (hL.k 144 (by decide)) (Or.inl ⟨_, (hL.r 144 32 161 (by decide)), ?_⟩)
    refine And.intro (hL.k 144 (by decide)) ?_
    refine Or.inl (And.intro (hL.k 161 (by decide)) (And.intro (hL.v 161 (by decide) h.1) ?_))
    have h := h.2
    have h := h _ rfl
    refine And.intro (fun c => ?_) (fun c => ?_)
    · have h := h.1 c
      refine And.intro (fun c => ?_) (fun c => ?_)
      · have h := h.1 c
        refine And.intro (fun c => ?_) (fun c => ?_)
        · have h := h.1 c
          refine And.intro (fun c => ?_) (fun c => ?_)
          · have h := h.1 c
            refine And.intro (fun c => ?_) (fun c => ?_)
            · have h := h.1 c
              refine And.intro (fun c => ?_) (fun c => ?_)
              · have h := h.1 c
                refine And.intro (fun c => ?_) (fun c => ?_)
                · have h := h.1 c
                  refine And.intro (hL.k 144 (by decide)) ?_
                  refine And.intro (hL.k 144 (by decide)) ?_
                  have h := h _ rfl
                  exact hP _ h
                · have h := h.2 c
                  refine And.intro (hL.k 144 (by decide)) (Or.inl ⟨_, (hL.r 144 61 183 (by decide)), ?_⟩)
                  refine And.intro (hL.k 144 (by decide)) ?_
                  refine And.intro (hL.k 144 (by decide)) ?_
                  refine g_Em h (fun r u h => ?_)
                  obtain ⟨y7, rfl, hL, h⟩ := h
                  refine And.intro (hL.k 144 (by decide)) (Or.inl ⟨_, (hL.r 144 62 184 (by decide)), ?_⟩)
                  refine And.intro (hL.k 144 (by decide)) ?_
                  refine Or.inl (And.intro (hL.k 184 (by decide)) (And.intro (hL.v 184 (by decide) h.1) ?_))
                  have h := h.2
                  refine And.intro (hL.k 183 (by decide)) (And.intro (hL.v 183 (by decide) h.1) ?_)
                  have h := h.2 _ rfl
                  exact hP _ h
              · have h := h.2 c
                refine And.intro (hL.k 144 (by decide)) ?_
                refine g_Em h (fun r u h => ?_)
                obtain ⟨y10, rfl, hL, h⟩ := h
                refine And.intro (fun c => ?_) (fun c => ?_)
                · have h := h.1 c
                  refine And.intro (hL.k 144 (by decide)) ?_
                  have h := h _ rfl
                  exact hP _ h
                · have h := h.2 c
                  refine And.intro (hL.k 144 (by decide)) (Or.inl ⟨_, (hL.r 144 62 184 (by decide)), ?_⟩)
                  refine And.intro (hL.k 144 (by decide)) ?_
                  refine Or.inl (And.intro (hL.k 184 (by decide)) (And.intro (hL.v 184 (by decide) h.1) ?_))
                  have h := h.2
                  refine And.intro (hL.k 144 (by decide)) ?_
                  refine g_Em h (fun r u h => ?_)
                  obtain ⟨rfl, hL, h⟩ := h
                  refine And.intro (hL.k 144 (by decide)) ?_
                  refine g_Em h (fun r u h => ?_)
                  obtain ⟨rfl, hL, h⟩ := h
                  exact hP _ h
            · have h := h.2 c
              refine And.intro (hL.k 144 (by decide)) (Or.inl ⟨_, (hL.r 144 34 162 (by decide)), ?_⟩)
              refine And.intro (hL.k 144 (by decide)) ?_
              refine And.intro (hL.k 144 (by decide)) (Or.inl ⟨_, (hL.r 144 62 184 (by decide)), ?_⟩)
              refine And.intro (hL.k 144 (by decide)) ?_
              refine Or.inl (And.intro (hL.k 184 (by decide)) (And.intro (hL.v 184 (by decide) h.1) ?_))
              have h := h.2
              refine And.intro (hL.k 162 (by decide)) (And.intro (hL.v 162 (by decide) h.1) ?_)
              have h := h.2 _ rfl
              refine And.intro (hL.k 144 (by decide)) ?_
              refine And.intro (hL.k 144 (by decide)) ?_
              have h := h _ rfl
              refine And.intro (hL.k 144 (by decide)) ?_
              refine g_Em h (fun r u h => ?_)
              obtain ⟨rfl, hL, h⟩ := h
              refine And.intro (hL.k 144 (by decide)) ?_
              refine g_Em h (fun r u h => ?_)
              obtain ⟨rfl, hL, h⟩ := h
              exact hP _ h
          · have h := h.2 c
            refine And.intro (hL.k 144 (by decide)) ?_
            refine g_Em h (fun r u h => ?_)
            obtain ⟨rfl, hL, h⟩ := h
            refine And.intro (hL.k 144 (by decide)) ?_
            refine g_Em h (fun r u h => ?_)
            obtain ⟨rfl, hL, h⟩ := h
            refine And.intro (hL.k 144 (by decide)) ?_
            refine g_Em h (fun r u h => ?_)
            obtain ⟨rfl, hL, h⟩ := h
            refine And.intro (hL.k 144 (by decide)) (Or.inl ⟨_, (hL.r 144 67 187 (by decide)), ?_⟩)
            refine And.intro (hL.k 144 (by decide)) (Or.inl ⟨_, (hL.r 144 20 154 (by decide)), ?_⟩)
            refine And.intro (hL.k 144 (by decide)) ?_
            refine Or.inl (And.intro (hL.k 154 (by decide)) (And.intro (hL.v 154 (by decide) h.1) ?_))
            have h := h.2
            refine And.intro (hL.k 187 (by decide)) (And.intro (hL.v 187 (by decide) h.1) ?_)
            have h := h.2 _ rfl
            exact hP _ h
        · have h := h.2 c
          refine And.intro (hL.k 144 (by decide)) ?_
          refine g_Em h (fun r u h => ?_)
          obtain ⟨rfl, hL, h⟩ := h
          exact hP _ h
      · have h := h.2 c
        refine And.intro (hL.k 144 (by decide)) ?_
        refine g_Em h (fun r u h => ?_)
        obtain ⟨rfl, hL, h⟩ := h
        exact hP _ h
    · have h := h.2 c
      refine And.intro (hL.k 144 (by decide)) ?_
      refine g_Em h (fun r u h => ?_)
      obtain ⟨rfl, hL, h⟩ := h
      exact hP _ h
theorem x_Mo_compile_351 {cx : gCx} {d : Nat} {ad : Nat → Nat} {l1 l2 l3 l4 l5 l6 l7 : Int32} {t : gSt} {post : Option Value → gSt → Prop} (hL : Lay t ad) (h : vp_in (t.2.1 (ad 144) 65) 48 ∧ (vp_in ((1600 * (t.2.1 (ad 144) 65)) + l7) 76800 ∧ (∀ t1, t1 = g_si t (ad 183) (((1600 * (t.2.1 (ad 144) 65)) + l7) : Int32).toNatClampNeg (t.2.1 (ad 184) ((t.2.1 (ad 144) 65) : Int32).toNatClampNeg) → g_W cx (g_E cx d) mt_Mo_compile post (427, [some (.ref (ad 144)), some (.int l1), some (.int l2), some (.int l3), some (.int l4), some (.int l5), some (.int l6), some (.int l7)], [], t1, 0, 0)))) : g_W cx (g_E cx d) mt_Mo_compile post (351, [some (.ref (ad 144)), some (.int l1), some (.int l2), some (.int l3), some (.int l4), some (.int l5), some (.int l6), some (.int l7)], [], t, 0, 0) := by
  refine g_run [53, 97, 351, 427] 400 (fun P hP => ?_)
  refine And.intro (hL.k 144 (by decide)) (Or.inl ⟨_, (hL.r 144 61 183 (by decide)), ?_⟩)
  refine And.intro (hL.k 144 (by decide)) ?_
  refine And.intro (hL.k 144 (by decide)) (Or.inl ⟨_, (hL.r 144 62 184 (by decide)), ?_⟩)
  refine And.intro (hL.k 144 (by decide)) ?_
  refine Or.inl (And.intro (hL.k 184 (by decide)) (And.intro (hL.v 184 (by decide) h.1) ?_))
  have h := h.2
  refine And.intro (hL.k 183 (by decide)) (And.intro (hL.v 183 (by decide) h.1) ?_)
  have h := h.2 _ rfl
  exact hP _ h
theorem x_Mo_compile_427 {cx : gCx} {d : Nat} {ad : Nat → Nat} {l1 l2 l3 l4 l5 l6 : Int32} {o7 : Option Value} {t : gSt} {post : Option Value → gSt → Prop} (hL : Lay t ad) (h : g_W cx (g_E cx d) mt_Mo_compile post (97, [some (.ref (ad 144)), some (.int l1), some (.int l2), some (.int l3), some (.int l4), some (.int l5), some (.int l6), o7], [], t, 0, 0)) : g_W cx (g_E cx d) mt_Mo_compile post (427, [some (.ref (ad 144)), some (.int l1), some (.int l2), some (.int l3), some (.int l4), some (.int l5), some (.int l6), o7], [], t, 0, 0) := by
  refine g_run [53, 97, 351, 427] 400 (fun P hP => ?_)
  exact hP _ h
theorem x_Mo_emit {cx : gCx} {d : Nat} {ad : Nat → Nat} {a1 a2 : Int32} {t : gSt} {post : Option Value → gSt → Prop} (hL : Lay t ad) (h : (¬ a1 = 15 → (¬ a1 = 49 → (¬ a1 = 48 → g_E cx d i_Mo_instruction [.ref (ad 144), .int a1, .int 0] t (fun r u1 => r = none ∧ Lay u1 ad ∧ ((a1 ≤ 9 → g_W cx (g_E cx d) mt_Mo_emit post (129, [some (.ref (ad 144)), some (.int a1), some (.int a2), none], [.ref (ad 144)], u1, 0, 0)) ∧ (¬ (a1 ≤ 9) → (¬ a1 = 12 → g_W cx (g_E cx d) mt_Mo_emit post (134, [some (.ref (ad 144)), some (.int a1), some (.int a2), none], [.int 0, .ref (ad 144)], u1, 0, 0)) ∧ (¬ (¬ a1 = 12) → g_W cx (g_E cx d) mt_Mo_emit post (129, [some (.ref (ad 144)), some (.int a1), some (.int a2), none], [.ref (ad 144)], u1, 0, 0)))))) ∧ (¬ (¬ a1 = 48) → (¬ a2 = ((t.2.1 (ad 144) 65) - (t.2.1 (ad 144) 65) / 24 * 24) → g_W cx (g_E cx d) mt_Mo_emit post (75, [some (.ref (ad 144)), some (.int a1), some (.int a2), none], [.int 19, .ref (ad 144)], t, 0, 0)) ∧ (¬ (¬ a2 = ((t.2.1 (ad 144) 65) - (t.2.1 (ad 144) 65) / 24 * 24)) → g_W cx (g_E cx d) mt_Mo_emit post (75, [some (.ref (ad 144)), some (.int a1), some (.int a2), none], [.int 18, .ref (ad 144)], t, 0, 0)))) ∧ (¬ (¬ a1 = 49) → g_E cx d i_Mo_instruction [.ref (ad 144), .int 17, .int 0] t (fun r u3 => r = none ∧ Lay u3 ad ∧ (post none u3)))) ∧ (¬ (¬ a1 = 15) → vp_in a2 24 ∧ (∀ x5 : Int32, x5 = (t.2.1 (ad 147) (a2 : Int32).toNatClampNeg) → g_E cx d i_Mo_instruction [.ref (ad 144), .int 16, .int a2] t (fun r u6 => r = none ∧ Lay u6 ad ∧ (∀ t8, t8 = g_si u6 (ad 144) 66 ((u6.2.1 (ad 144) 66) - x5) → g_E cx d i_Mo_lays [.ref (ad 144), .int 1] t8 (fun r u9 => r = none ∧ Lay u9 ad ∧ (post none u9))))))) : g_E cx (d + 1) i_Mo_emit [.ref (ad 144), .int a1, .int a2] t post := by
  refine g_call mt_Mo_emit rfl (by decide) (Nat.le_of_ble_eq_true rfl) ?_
  refine g_run [75, 91, 129, 134] 400 (fun P hP => ?_)
  refine And.intro (fun c => ?_) (fun c => ?_)
  · have h := h.1 c
    refine And.intro (fun c => ?_) (fun c => ?_)
    · have h := h.1 c
      refine And.intro (fun c => ?_) (fun c => ?_)
      · have h := h.1 c
        refine And.intro (hL.k 144 (by decide)) ?_
        refine g_Em h (fun r u h => ?_)
        obtain ⟨rfl, hL, h⟩ := h
        refine And.intro (fun c => ?_) (fun c => ?_)
        · have h := h.1 c
          exact hP _ h
        · have h := h.2 c
          refine And.intro (fun c => ?_) (fun c => ?_)
          · have h := h.1 c
            exact hP _ h
          · have h := h.2 c
            exact hP _ h
      · have h := h.2 c
        refine And.intro (hL.k 144 (by decide)) ?_
        refine And.intro (by decide) ?_
        refine And.intro (fun c => ?_) (fun c => ?_)
        · have h := h.1 c
          exact hP _ h
        · have h := h.2 c
          exact hP _ h
    · have h := h.2 c
      refine And.intro (hL.k 144 (by decide)) ?_
      refine g_Em h (fun r u h => ?_)
      obtain ⟨rfl, hL, h⟩ := h
      exact And.intro rfl (And.intro rfl h)
  · have h := h.2 c
    refine And.intro (hL.k 144 (by decide)) (Or.inl ⟨_, (hL.r 144 13 147 (by decide)), ?_⟩)
    refine Or.inl (And.intro (hL.k 147 (by decide)) (And.intro (hL.v 147 (by decide) h.1) ?_))
    have h := h.2
    have h := h _ rfl
    refine And.intro (hL.k 144 (by decide)) ?_
    refine g_Em h (fun r u h => ?_)
    obtain ⟨rfl, hL, h⟩ := h
    refine And.intro (hL.k 144 (by decide)) ?_
    refine And.intro (hL.k 144 (by decide)) ?_
    have h := h _ rfl
    refine And.intro (hL.k 144 (by decide)) ?_
    refine g_Em h (fun r u h => ?_)
    obtain ⟨rfl, hL, h⟩ := h
    exact And.intro rfl (And.intro rfl h)
theorem x_Mo_emit_75 {cx : gCx} {d : Nat} {ad : Nat → Nat} {l1 l2 s0 : Int32} {t : gSt} {post : Option Value → gSt → Prop} (hL : Lay t ad) (h : (¬ l2 = ((t.2.1 (ad 144) 65) - (t.2.1 (ad 144) 65) / 24 * 24) → g_W cx (g_E cx d) mt_Mo_emit post (91, [some (.ref (ad 144)), some (.int l1), some (.int l2), none], [.int l2, .int s0, .ref (ad 144)], t, 0, 0)) ∧ (¬ (¬ l2 = ((t.2.1 (ad 144) 65) - (t.2.1 (ad 144) 65) / 24 * 24)) → g_W cx (g_E cx d) mt_Mo_emit post (91, [some (.ref (ad 144)), some (.int l1), some (.int l2), none], [.int 0, .int s0, .ref (ad 144)], t, 0, 0))) : g_W cx (g_E cx d) mt_Mo_emit post (75, [some (.ref (ad 144)), some (.int l1), some (.int l2), none], [.int s0, .ref (ad 144)], t, 0, 0) := by
  refine g_run [75, 91, 129, 134] 400 (fun P hP => ?_)
  refine And.intro (hL.k 144 (by decide)) ?_
  refine And.intro (by decide) ?_
  refine And.intro (fun c => ?_) (fun c => ?_)
  · have h := h.1 c
    exact hP _ h
  · have h := h.2 c
    exact hP _ h
theorem x_Mo_emit_91 {cx : gCx} {d : Nat} {ad : Nat → Nat} {l1 l2 s0 s1 : Int32} {t : gSt} {post : Option Value → gSt → Prop} (hL : Lay t ad) (h : g_E cx d i_Mo_instruction [.ref (ad 144), .int s1, .int s0] t (fun r u1 => r = none ∧ Lay u1 ad ∧ (vp_in l2 24 ∧ (∀ t3, t3 = g_si u1 (ad 144) 66 ((u1.2.1 (ad 144) 66) - (u1.2.1 (ad 147) (l2 : Int32).toNatClampNeg)) → post none t3)))) : g_W cx (g_E cx d) mt_Mo_emit post (91, [some (.ref (ad 144)), some (.int l1), some (.int l2), none], [.int s0, .int s1, .ref (ad 144)], t, 0, 0) := by
  refine g_run [75, 91, 129, 134] 400 (fun P hP => ?_)
  refine And.intro (hL.k 144 (by decide)) ?_
  refine g_Em h (fun r u h => ?_)
  obtain ⟨rfl, hL, h⟩ := h
  refine And.intro (hL.k 144 (by decide)) ?_
  refine And.intro (hL.k 144 (by decide)) (Or.inl ⟨_, (hL.r 144 13 147 (by decide)), ?_⟩)
  refine Or.inl (And.intro (hL.k 147 (by decide)) (And.intro (hL.v 147 (by decide) h.1) ?_))
  have h := h.2
  refine And.intro (hL.k 144 (by decide)) ?_
  have h := h _ rfl
  exact And.intro rfl (And.intro rfl h)
theorem x_Mo_emit_129 {cx : gCx} {d : Nat} {ad : Nat → Nat} {l1 l2 : Int32} {t : gSt} {post : Option Value → gSt → Prop} (hL : Lay t ad) (h : g_W cx (g_E cx d) mt_Mo_emit post (134, [some (.ref (ad 144)), some (.int l1), some (.int l2), none], [.int (-1), .ref (ad 144)], t, 0, 0)) : g_W cx (g_E cx d) mt_Mo_emit post (129, [some (.ref (ad 144)), some (.int l1), some (.int l2), none], [.ref (ad 144)], t, 0, 0) := by
  refine g_run [75, 91, 129, 134] 400 (fun P hP => ?_)
  exact hP _ h
theorem x_Mo_emit_134 {cx : gCx} {d : Nat} {ad : Nat → Nat} {l1 l2 s0 : Int32} {t : gSt} {post : Option Value → gSt → Prop} (hL : Lay t ad) (h : g_E cx d i_Mo_lays [.ref (ad 144), .int s0] t (fun r u1 => r = none ∧ Lay u1 ad ∧ (post none u1))) : g_W cx (g_E cx d) mt_Mo_emit post (134, [some (.ref (ad 144)), some (.int l1), some (.int l2), none], [.int s0, .ref (ad 144)], t, 0, 0) := by
  refine g_run [75, 91, 129, 134] 400 (fun P hP => ?_)
  refine And.intro (hL.k 144 (by decide)) ?_
  refine g_Em h (fun r u h => ?_)
  obtain ⟨rfl, hL, h⟩ := h
  exact And.intro rfl (And.intro rfl h)
theorem x_Mo_visit {cx : gCx} {d : Nat} {ad : Nat → Nat} {a1 a2 : Int32} {t : gSt} {post : Option Value → gSt → Prop} (hL : Lay t ad) (h : ∀ x1 : Int32, x1 = ((1300 * (t.2.1 (ad 144) 65)) + a1) → vp_in x1 93600 ∧ (((t.2.1 (ad 151) (x1 : Int32).toNatClampNeg) = 1 → g_W cx (g_E cx d) mt_Mo_visit post (92, [some (.ref (ad 144)), some (.int a1), some (.int a2), some (.int x1), none], [], t, 0, 0)) ∧ ((t.2.1 (ad 151) (x1 : Int32).toNatClampNeg) = 2 → g_W cx (g_E cx d) mt_Mo_visit post (111, [some (.ref (ad 144)), some (.int a1), some (.int a2), some (.int x1), none], [], t, 0, 0)) ∧ ((t.2.1 (ad 151) (x1 : Int32).toNatClampNeg) = 10 ∨ (t.2.1 (ad 151) (x1 : Int32).toNatClampNeg) = 11 → g_W cx (g_E cx d) mt_Mo_visit post (150, [some (.ref (ad 144)), some (.int a1), some (.int a2), some (.int x1), none], [], t, 0, 0)) ∧ ((t.2.1 (ad 151) (x1 : Int32).toNatClampNeg) = 12 → g_W cx (g_E cx d) mt_Mo_visit post (179, [some (.ref (ad 144)), some (.int a1), some (.int a2), some (.int x1), none], [], t, 0, 0)) ∧ ((t.2.1 (ad 151) (x1 : Int32).toNatClampNeg) = 13 → g_W cx (g_E cx d) mt_Mo_visit post (217, [some (.ref (ad 144)), some (.int a1), some (.int a2), some (.int x1), none], [], t, 0, 0)) ∧ ((t.2.1 (ad 151) (x1 : Int32).toNatClampNeg) = 14 → g_W cx (g_E cx d) mt_Mo_visit post (291, [some (.ref (ad 144)), some (.int a1), some (.int a2), some (.int x1), none], [], t, 0, 0)) ∧ ((t.2.1 (ad 151) (x1 : Int32).toNatClampNeg) = 15 → g_W cx (g_E cx d) mt_Mo_visit post (330, [some (.ref (ad 144)), some (.int a1), some (.int a2), some (.int x1), none], [], t, 0, 0)) ∧ ((t.2.1 (ad 151) (x1 : Int32).toNatClampNeg) < 1 ∨ 15 < (t.2.1 (ad 151) (x1 : Int32).toNatClampNeg) ∨ (t.2.1 (ad 151) (x1 : Int32).toNatClampNeg) = 3 ∨ (t.2.1 (ad 151) (x1 : Int32).toNatClampNeg) = 4 ∨ (t.2.1 (ad 151) (x1 : Int32).toNatClampNeg) = 5 ∨ (t.2.1 (ad 151) (x1 : Int32).toNatClampNeg) = 6 ∨ (t.2.1 (ad 151) (x1 : Int32).toNatClampNeg) = 7 ∨ (t.2.1 (ad 151) (x1 : Int32).toNatClampNeg) = 8 ∨ (t.2.1 (ad 151) (x1 : Int32).toNatClampNeg) = 9 → g_W cx (g_E cx d) mt_Mo_visit post (398, [some (.ref (ad 144)), some (.int a1), some (.int a2), some (.int x1), none], [], t, 0, 0)))) : g_E cx (d + 1) i_Mo_visit [.ref (ad 144), .int a1, .int a2] t post := by
  refine g_call mt_Mo_visit rfl (by decide) (Nat.le_of_ble_eq_true rfl) ?_
  refine g_run [17, 92, 111, 150, 179, 217, 291, 330, 354, 398] 400 (fun P hP => ?_)
  refine And.intro (hL.k 144 (by decide)) ?_
  have h := h _ rfl
  refine And.intro (hL.k 144 (by decide)) (Or.inl ⟨_, (hL.r 144 17 151 (by decide)), ?_⟩)
  refine Or.inl (And.intro (hL.k 151 (by decide)) (And.intro (hL.v 151 (by decide) h.1) ?_))
  have h := h.2
  refine hP _ ?_
  rcases g_swc _ 1 15 (by decide) (by decide) (by decide) with c | c | ⟨j, hj, c⟩
  · exact g_sw (tgt := 398) rfl (g_swlo c) (h.2.2.2.2.2.2.2 (Or.inl c))
  · exact g_sw (tgt := 398) rfl (g_swhi c) (h.2.2.2.2.2.2.2 (Or.inr (Or.inl c)))
  · match j, hj with
    | 0, _ => exact g_sw (tgt := 92) rfl (by rw [c]; decide) (h.1 c)
    | 1, _ => exact g_sw (tgt := 111) rfl (by rw [c]; decide) (h.2.1 c)
    | 2, _ => exact g_sw (tgt := 398) rfl (by rw [c]; decide) (h.2.2.2.2.2.2.2 (Or.inr (Or.inr (Or.inl c))))
    | 3, _ => exact g_sw (tgt := 398) rfl (by rw [c]; decide) (h.2.2.2.2.2.2.2 (Or.inr (Or.inr (Or.inr (Or.inl c)))))
    | 4, _ => exact g_sw (tgt := 398) rfl (by rw [c]; decide) (h.2.2.2.2.2.2.2 (Or.inr (Or.inr (Or.inr (Or.inr (Or.inl c))))))
    | 5, _ => exact g_sw (tgt := 398) rfl (by rw [c]; decide) (h.2.2.2.2.2.2.2 (Or.inr (Or.inr (Or.inr (Or.inr (Or.inr (Or.inl c)))))))
    | 6, _ => exact g_sw (tgt := 398) rfl (by rw [c]; decide) (h.2.2.2.2.2.2.2 (Or.inr (Or.inr (Or.inr (Or.inr (Or.inr (Or.inr (Or.inl c))))))))
    | 7, _ => exact g_sw (tgt := 398) rfl (by rw [c]; decide) (h.2.2.2.2.2.2.2 (Or.inr (Or.inr (Or.inr (Or.inr (Or.inr (Or.inr (Or.inr (Or.inl c)))))))))
    | 8, _ => exact g_sw (tgt := 398) rfl (by rw [c]; decide) (h.2.2.2.2.2.2.2 (Or.inr (Or.inr (Or.inr (Or.inr (Or.inr (Or.inr (Or.inr (Or.inr c)))))))))
    | 9, _ => exact g_sw (tgt := 150) rfl (by rw [c]; decide) (h.2.2.1 (Or.inl c))
    | 10, _ => exact g_sw (tgt := 150) rfl (by rw [c]; decide) (h.2.2.1 (Or.inr c))
    | 11, _ => exact g_sw (tgt := 179) rfl (by rw [c]; decide) (h.2.2.2.1 c)
    | 12, _ => exact g_sw (tgt := 217) rfl (by rw [c]; decide) (h.2.2.2.2.1 c)
    | 13, _ => exact g_sw (tgt := 291) rfl (by rw [c]; decide) (h.2.2.2.2.2.1 c)
    | 14, _ => exact g_sw (tgt := 330) rfl (by rw [c]; decide) (h.2.2.2.2.2.2.1 c)
    | j + 15, hj => exact absurd hj (by omega)
theorem x_Mo_visit_92 {cx : gCx} {d : Nat} {ad : Nat → Nat} {l1 l2 l3 : Int32} {t : gSt} {post : Option Value → gSt → Prop} (hL : Lay t ad) (h : vp_in l3 93600 ∧ (g_E cx d i_Mo_instruction [.ref (ad 144), .int 1, .int (t.2.1 (ad 152) (l3 : Int32).toNatClampNeg)] t (fun r u1 => r = none ∧ Lay u1 ad ∧ (g_E cx d i_Mo_lays [.ref (ad 144), .int 1] u1 (fun r u3 => r = none ∧ Lay u3 ad ∧ (post none u3)))))) : g_W cx (g_E cx d) mt_Mo_visit post (92, [some (.ref (ad 144)), some (.int l1), some (.int l2), some (.int l3), none], [], t, 0, 0) := by
  refine g_run [17, 92, 111, 150, 179, 217, 291, 330, 354, 398] 400 (fun P hP => ?_)
  refine And.intro (hL.k 144 (by decide)) (Or.inl ⟨_, (hL.r 144 18 152 (by decide)), ?_⟩)
  refine Or.inl (And.intro (hL.k 152 (by decide)) (And.intro (hL.v 152 (by decide) h.1) ?_))
  have h := h.2
  refine And.intro (hL.k 144 (by decide)) ?_
  refine g_Em h (fun r u h => ?_)
  obtain ⟨rfl, hL, h⟩ := h
  refine And.intro (hL.k 144 (by decide)) ?_
  refine g_Em h (fun r u h => ?_)
  obtain ⟨rfl, hL, h⟩ := h
  exact And.intro rfl (And.intro rfl h)
theorem x_Mo_visit_111 {cx : gCx} {d : Nat} {ad : Nat → Nat} {l1 l2 l3 : Int32} {t : gSt} {post : Option Value → gSt → Prop} (hL : Lay t ad) (h : vp_in l3 93600 ∧ (vp_in (t.2.1 (ad 152) (l3 : Int32).toNatClampNeg) 130 ∧ (g_E cx d i_Mo_instruction [.ref (ad 144), .int 2, .int (t.2.1 (ad 187) ((t.2.1 (ad 152) (l3 : Int32).toNatClampNeg) : Int32).toNatClampNeg)] t (fun r u1 => r = none ∧ Lay u1 ad ∧ (vp_in l3 93600 ∧ (vp_in (u1.2.1 (ad 152) (l3 : Int32).toNatClampNeg) 130 ∧ (g_E cx d i_Mo_slot [.ref (ad 144), .int (u1.2.1 (ad 187) ((u1.2.1 (ad 152) (l3 : Int32).toNatClampNeg) : Int32).toNatClampNeg)] u1 (fun r u3 => r = none ∧ Lay u3 ad ∧ (g_E cx d i_Mo_lays [.ref (ad 144), .int 1] u3 (fun r u5 => r = none ∧ Lay u5 ad ∧ (post none u5))))))))))) : g_W cx (g_E cx d) mt_Mo_visit post (111, [some (.ref (ad 144)), some (.int l1), some (.int l2), some (.int l3), none], [], t, 0, 0) := by
  refine g_run [17, 92, 111, 150, 179, 217, 291, 330, 354, 398] 400 (fun P hP => ?_)
  refine And.intro (hL.k 144 (by decide)) (Or.inl ⟨_, (hL.r 144 67 187 (by decide)), ?_⟩)
  refine And.intro (hL.k 144 (by decide)) (Or.inl ⟨_, (hL.r 144 18 152 (by decide)), ?_⟩)
  refine Or.inl (And.intro (hL.k 152 (by decide)) (And.intro (hL.v 152 (by decide) h.1) ?_))
  have h := h.2
  refine Or.inl (And.intro (hL.k 187 (by decide)) (And.intro (hL.v 187 (by decide) h.1) ?_))
  have h := h.2
  refine And.intro (hL.k 144 (by decide)) ?_
  refine g_Em h (fun r u h => ?_)
  obtain ⟨rfl, hL, h⟩ := h
  refine And.intro (hL.k 144 (by decide)) (Or.inl ⟨_, (hL.r 144 67 187 (by decide)), ?_⟩)
  refine And.intro (hL.k 144 (by decide)) (Or.inl ⟨_, (hL.r 144 18 152 (by decide)), ?_⟩)
  refine Or.inl (And.intro (hL.k 152 (by decide)) (And.intro (hL.v 152 (by decide) h.1) ?_))
  have h := h.2
  refine Or.inl (And.intro (hL.k 187 (by decide)) (And.intro (hL.v 187 (by decide) h.1) ?_))
  have h := h.2
  refine And.intro (hL.k 144 (by decide)) ?_
  refine g_Em h (fun r u h => ?_)
  obtain ⟨rfl, hL, h⟩ := h
  refine And.intro (hL.k 144 (by decide)) ?_
  refine g_Em h (fun r u h => ?_)
  obtain ⟨rfl, hL, h⟩ := h
  exact And.intro rfl (And.intro rfl h)
theorem x_Mo_visit_150 {cx : gCx} {d : Nat} {ad : Nat → Nat} {l1 l2 l3 : Int32} {t : gSt} {post : Option Value → gSt → Prop} (hL : Lay t ad) (h : vp_in l3 93600 ∧ (g_E cx d i_Mo_push [.ref (ad 144), .int 40, .int (t.2.1 (ad 151) (l3 : Int32).toNatClampNeg), .int 0] t (fun r u1 => r = none ∧ Lay u1 ad ∧ (vp_in l3 93600 ∧ (g_E cx d i_Mo_push [.ref (ad 144), .int 41, .int (u1.2.1 (ad 152) (l3 : Int32).toNatClampNeg), .int l2] u1 (fun r u3 => r = none ∧ Lay u3 ad ∧ (post none u3))))))) : g_W cx (g_E cx d) mt_Mo_visit post (150, [some (.ref (ad 144)), some (.int l1), some (.int l2), some (.int l3), none], [], t, 0, 0) := by
  refine g_run [17, 92, 111, 150, 179, 217, 291, 330, 354, 398] 400 (fun P hP => ?_)
  refine And.intro (hL.k 144 (by decide)) (Or.inl ⟨_, (hL.r 144 17 151 (by decide)), ?_⟩)
  refine Or.inl (And.intro (hL.k 151 (by decide)) (And.intro (hL.v 151 (by decide) h.1) ?_))
  have h := h.2
  refine And.intro (hL.k 144 (by decide)) ?_
  refine g_Em h (fun r u h => ?_)
  obtain ⟨rfl, hL, h⟩ := h
  refine And.intro (hL.k 144 (by decide)) (Or.inl ⟨_, (hL.r 144 18 152 (by decide)), ?_⟩)
  refine Or.inl (And.intro (hL.k 152 (by decide)) (And.intro (hL.v 152 (by decide) h.1) ?_))
  have h := h.2
  refine And.intro (hL.k 144 (by decide)) ?_
  refine g_Em h (fun r u h => ?_)
  obtain ⟨rfl, hL, h⟩ := h
  exact And.intro rfl (And.intro rfl h)
theorem x_Mo_visit_179 {cx : gCx} {d : Nat} {ad : Nat → Nat} {l1 l2 l3 : Int32} {t : gSt} {post : Option Value → gSt → Prop} (hL : Lay t ad) (h : vp_in l3 93600 ∧ (g_E cx d i_Mo_push [.ref (ad 144), .int 41, .int (t.2.1 (ad 153) (l3 : Int32).toNatClampNeg), .int l2] t (fun r u1 => r = none ∧ Lay u1 ad ∧ (g_E cx d i_Mo_push [.ref (ad 144), .int 40, .int 12, .int 0] u1 (fun r u3 => r = none ∧ Lay u3 ad ∧ (vp_in l3 93600 ∧ (g_E cx d i_Mo_push [.ref (ad 144), .int 41, .int (u3.2.1 (ad 152) (l3 : Int32).toNatClampNeg), .int l2] u3 (fun r u5 => r = none ∧ Lay u5 ad ∧ (post none u5))))))))) : g_W cx (g_E cx d) mt_Mo_visit post (179, [some (.ref (ad 144)), some (.int l1), some (.int l2), some (.int l3), none], [], t, 0, 0) := by
  refine g_run [17, 92, 111, 150, 179, 217, 291, 330, 354, 398] 400 (fun P hP => ?_)
  refine And.intro (hL.k 144 (by decide)) (Or.inl ⟨_, (hL.r 144 19 153 (by decide)), ?_⟩)
  refine Or.inl (And.intro (hL.k 153 (by decide)) (And.intro (hL.v 153 (by decide) h.1) ?_))
  have h := h.2
  refine And.intro (hL.k 144 (by decide)) ?_
  refine g_Em h (fun r u h => ?_)
  obtain ⟨rfl, hL, h⟩ := h
  refine And.intro (hL.k 144 (by decide)) ?_
  refine g_Em h (fun r u h => ?_)
  obtain ⟨rfl, hL, h⟩ := h
  refine And.intro (hL.k 144 (by decide)) (Or.inl ⟨_, (hL.r 144 18 152 (by decide)), ?_⟩)
  refine Or.inl (And.intro (hL.k 152 (by decide)) (And.intro (hL.v 152 (by decide) h.1) ?_))
  have h := h.2
  refine And.intro (hL.k 144 (by decide)) ?_
  refine g_Em h (fun r u h => ?_)
  obtain ⟨rfl, hL, h⟩ := h
  exact And.intro rfl (And.intro rfl h)
theorem x_Mo_visit_217 {cx : gCx} {d : Nat} {ad : Nat → Nat} {l1 l2 l3 : Int32} {t : gSt} {post : Option Value → gSt → Prop} (hL : Lay t ad) (h : g_E cx d i_Mo_push [.ref (ad 144), .int 44, .int 0, .int 0] t (fun r u1 => r = none ∧ Lay u1 ad ∧ (vp_in l3 93600 ∧ (g_E cx d i_Mo_push [.ref (ad 144), .int 41, .int (u1.2.1 (ad 154) (l3 : Int32).toNatClampNeg), .int l2] u1 (fun r u3 => r = none ∧ Lay u3 ad ∧ (g_E cx d i_Mo_push [.ref (ad 144), .int 47, .int (-1), .int 0] u3 (fun r u5 => r = none ∧ Lay u5 ad ∧ (g_E cx d i_Mo_push [.ref (ad 144), .int 43, .int 1, .int 0] u5 (fun r u7 => r = none ∧ Lay u7 ad ∧ (vp_in l3 93600 ∧ (g_E cx d i_Mo_push [.ref (ad 144), .int 41, .int (u7.2.1 (ad 153) (l3 : Int32).toNatClampNeg), .int l2] u7 (fun r u9 => r = none ∧ Lay u9 ad ∧ (g_E cx d i_Mo_push [.ref (ad 144), .int 46, .int 0, .int 0] u9 (fun r u11 => r = none ∧ Lay u11 ad ∧ (vp_in l3 93600 ∧ (g_E cx d i_Mo_push [.ref (ad 144), .int 41, .int (u11.2.1 (ad 152) (l3 : Int32).toNatClampNeg), .int l2] u11 (fun r u13 => r = none ∧ Lay u13 ad ∧ (post none u13)))))))))))))))))) : g_W cx (g_E cx d) mt_Mo_visit post (217, [some (.ref (ad 144)), some (.int l1), some (.int l2), some (.int l3), none], [], t, 0, 0) := by
  refine g_run [17, 92, 111, 150, 179, 217, 291, 330, 354, 398] 400 (fun P hP => ?_)
  refine And.intro (hL.k 144 (by decide)) ?_
  refine g_Em h (fun r u h => ?_)
  obtain ⟨rfl, hL, h⟩ := h
  refine And.intro (hL.k 144 (by decide)) (Or.inl ⟨_, (hL.r 144 20 154 (by decide)), ?_⟩)
  refine Or.inl (And.intro (hL.k 154 (by decide)) (And.intro (hL.v 154 (by decide) h.1) ?_))
  have h := h.2
  refine And.intro (hL.k 144 (by decide)) ?_
  refine g_Em h (fun r u h => ?_)
  obtain ⟨rfl, hL, h⟩ := h
  refine And.intro (hL.k 144 (by decide)) ?_
  refine g_Em h (fun r u h => ?_)
  obtain ⟨rfl, hL, h⟩ := h
  refine And.intro (hL.k 144 (by decide)) ?_
  refine g_Em h (fun r u h => ?_)
  obtain ⟨rfl, hL, h⟩ := h
  refine And.intro (hL.k 144 (by decide)) (Or.inl ⟨_, (hL.r 144 19 153 (by decide)), ?_⟩)
  refine Or.inl (And.intro (hL.k 153 (by decide)) (And.intro (hL.v 153 (by decide) h.1) ?_))
  have h := h.2
  refine And.intro (hL.k 144 (by decide)) ?_
  refine g_Em h (fun r u h => ?_)
  obtain ⟨rfl, hL, h⟩ := h
  refine And.intro (hL.k 144 (by decide)) ?_
  refine g_Em h (fun r u h => ?_)
  obtain ⟨rfl, hL, h⟩ := h
  refine And.intro (hL.k 144 (by decide)) (Or.inl ⟨_, (hL.r 144 18 152 (by decide)), ?_⟩)
  refine Or.inl (And.intro (hL.k 152 (by decide)) (And.intro (hL.v 152 (by decide) h.1) ?_))
  have h := h.2
  refine And.intro (hL.k 144 (by decide)) ?_
  refine g_Em h (fun r u h => ?_)
  obtain ⟨rfl, hL, h⟩ := h
  exact And.intro rfl (And.intro rfl h)
theorem x_Mo_visit_291 {cx : gCx} {d : Nat} {ad : Nat → Nat} {l1 l2 l3 : Int32} {t : gSt} {post : Option Value → gSt → Prop} (hL : Lay t ad) (h : vp_in l3 93600 ∧ (g_E cx d i_Mo_push [.ref (ad 144), .int 41, .int (t.2.1 (ad 153) (l3 : Int32).toNatClampNeg), .int (l2 + 1)] t (fun r u1 => r = none ∧ Lay u1 ad ∧ (g_E cx d i_Mo_push [.ref (ad 144), .int 45, .int l1, .int l2] u1 (fun r u3 => r = none ∧ Lay u3 ad ∧ (vp_in l3 93600 ∧ (g_E cx d i_Mo_push [.ref (ad 144), .int 41, .int (u3.2.1 (ad 152) (l3 : Int32).toNatClampNeg), .int l2] u3 (fun r u5 => r = none ∧ Lay u5 ad ∧ (post none u5))))))))) : g_W cx (g_E cx d) mt_Mo_visit post (291, [some (.ref (ad 144)), some (.int l1), some (.int l2), some (.int l3), none], [], t, 0, 0) := by
  refine g_run [17, 92, 111, 150, 179, 217, 291, 330, 354, 398] 400 (fun P hP => ?_)
  refine And.intro (hL.k 144 (by decide)) (Or.inl ⟨_, (hL.r 144 19 153 (by decide)), ?_⟩)
  refine Or.inl (And.intro (hL.k 153 (by decide)) (And.intro (hL.v 153 (by decide) h.1) ?_))
  have h := h.2
  refine And.intro (hL.k 144 (by decide)) ?_
  refine g_Em h (fun r u h => ?_)
  obtain ⟨rfl, hL, h⟩ := h
  refine And.intro (hL.k 144 (by decide)) ?_
  refine g_Em h (fun r u h => ?_)
  obtain ⟨rfl, hL, h⟩ := h
  refine And.intro (hL.k 144 (by decide)) (Or.inl ⟨_, (hL.r 144 18 152 (by decide)), ?_⟩)
  refine Or.inl (And.intro (hL.k 152 (by decide)) (And.intro (hL.v 152 (by decide) h.1) ?_))
  have h := h.2
  refine And.intro (hL.k 144 (by decide)) ?_
  refine g_Em h (fun r u h => ?_)
  obtain ⟨rfl, hL, h⟩ := h
  exact And.intro rfl (And.intro rfl h)
theorem x_Mo_visit_330 {cx : gCx} {d : Nat} {ad : Nat → Nat} {l1 l2 l3 : Int32} {t : gSt} {post : Option Value → gSt → Prop} (hL : Lay t ad) (h : vp_in l3 93600 ∧ (g_E cx d i_Mo_push [.ref (ad 144), .int 40, .int 15, .int (t.2.1 (ad 154) (l3 : Int32).toNatClampNeg)] t (fun r u1 => r = none ∧ Lay u1 ad ∧ (vp_in l3 93600 ∧ (∀ x3 : Int32, x3 = ((u1.2.1 (ad 153) (l3 : Int32).toNatClampNeg) - 1) → g_W cx (g_E cx d) mt_Mo_visit post (354, [some (.ref (ad 144)), some (.int l1), some (.int l2), some (.int l3), some (.int x3)], [], u1, 0, 0)))))) : g_W cx (g_E cx d) mt_Mo_visit post (330, [some (.ref (ad 144)), some (.int l1), some (.int l2), some (.int l3), none], [], t, 0, 0) := by
  refine g_run [17, 92, 111, 150, 179, 217, 291, 330, 354, 398] 400 (fun P hP => ?_)
  refine And.intro (hL.k 144 (by decide)) (Or.inl ⟨_, (hL.r 144 20 154 (by decide)), ?_⟩)
  refine Or.inl (And.intro (hL.k 154 (by decide)) (And.intro (hL.v 154 (by decide) h.1) ?_))
  have h := h.2
  refine And.intro (hL.k 144 (by decide)) ?_
  refine g_Em h (fun r u h => ?_)
  obtain ⟨rfl, hL, h⟩ := h
  refine And.intro (hL.k 144 (by decide)) (Or.inl ⟨_, (hL.r 144 19 153 (by decide)), ?_⟩)
  refine Or.inl (And.intro (hL.k 153 (by decide)) (And.intro (hL.v 153 (by decide) h.1) ?_))
  have h := h.2
  have h := h _ rfl
  exact hP _ h
theorem x_Mo_visit_354 {cx : gCx} {d : Nat} {ad : Nat → Nat} {l1 l2 l3 l4 : Int32} {t : gSt} {post : Option Value → gSt → Prop} (hL : Lay t ad) (h : (l4 < 0 → post none t) ∧ (¬ (l4 < 0) → vp_in l3 93600 ∧ (vp_in (((1300 * (t.2.1 (ad 144) 65)) + (t.2.1 (ad 152) (l3 : Int32).toNatClampNeg)) + l4) 93600 ∧ (g_E cx d i_Mo_push [.ref (ad 144), .int 41, .int (t.2.1 (ad 155) ((((1300 * (t.2.1 (ad 144) 65)) + (t.2.1 (ad 152) (l3 : Int32).toNatClampNeg)) + l4) : Int32).toNatClampNeg), .int l2] t (fun r u1 => r = none ∧ Lay u1 ad ∧ (g_W cx (g_E cx d) mt_Mo_visit post (354, [some (.ref (ad 144)), some (.int l1), some (.int l2), some (.int l3), some (.int (l4 + (-1)))], [], u1, 0, 0))))))) : g_W cx (g_E cx d) mt_Mo_visit post (354, [some (.ref (ad 144)), some (.int l1), some (.int l2), some (.int l3), some (.int l4)], [], t, 0, 0) := by
  refine g_run [17, 92, 111, 150, 179, 217, 291, 330, 354, 398] 400 (fun P hP => ?_)
  refine And.intro (fun c => ?_) (fun c => ?_)
  · have h := h.1 c
    exact And.intro rfl (And.intro rfl h)
  · have h := h.2 c
    refine And.intro (hL.k 144 (by decide)) (Or.inl ⟨_, (hL.r 144 21 155 (by decide)), ?_⟩)
    refine And.intro (hL.k 144 (by decide)) ?_
    refine And.intro (hL.k 144 (by decide)) (Or.inl ⟨_, (hL.r 144 18 152 (by decide)), ?_⟩)
    refine Or.inl (And.intro (hL.k 152 (by decide)) (And.intro (hL.v 152 (by decide) h.1) ?_))
    have h := h.2
    refine Or.inl (And.intro (hL.k 155 (by decide)) (And.intro (hL.v 155 (by decide) h.1) ?_))
    have h := h.2
    refine And.intro (hL.k 144 (by decide)) ?_
    refine g_Em h (fun r u h => ?_)
    obtain ⟨rfl, hL, h⟩ := h
    exact hP _ h
theorem x_Mo_visit_398 {cx : gCx} {d : Nat} {ad : Nat → Nat} {l1 l2 l3 : Int32} {t : gSt} {post : Option Value → gSt → Prop} (hL : Lay t ad) (h : vp_in l3 93600 ∧ (g_E cx d i_Mo_push [.ref (ad 144), .int 40, .int (t.2.1 (ad 151) (l3 : Int32).toNatClampNeg), .int 0] t (fun r u1 => r = none ∧ Lay u1 ad ∧ (vp_in l3 93600 ∧ (g_E cx d i_Mo_push [.ref (ad 144), .int 41, .int (u1.2.1 (ad 153) (l3 : Int32).toNatClampNeg), .int l2] u1 (fun r u3 => r = none ∧ Lay u3 ad ∧ (vp_in l3 93600 ∧ (g_E cx d i_Mo_push [.ref (ad 144), .int 41, .int (u3.2.1 (ad 152) (l3 : Int32).toNatClampNeg), .int l2] u3 (fun r u5 => r = none ∧ Lay u5 ad ∧ (post none u5)))))))))) : g_W cx (g_E cx d) mt_Mo_visit post (398, [some (.ref (ad 144)), some (.int l1), some (.int l2), some (.int l3), none], [], t, 0, 0) := by
  refine g_run [17, 92, 111, 150, 179, 217, 291, 330, 354, 398] 400 (fun P hP => ?_)
  refine And.intro (hL.k 144 (by decide)) (Or.inl ⟨_, (hL.r 144 17 151 (by decide)), ?_⟩)
  refine Or.inl (And.intro (hL.k 151 (by decide)) (And.intro (hL.v 151 (by decide) h.1) ?_))
  have h := h.2
  refine And.intro (hL.k 144 (by decide)) ?_
  refine g_Em h (fun r u h => ?_)
  obtain ⟨rfl, hL, h⟩ := h
  refine And.intro (hL.k 144 (by decide)) (Or.inl ⟨_, (hL.r 144 19 153 (by decide)), ?_⟩)
  refine Or.inl (And.intro (hL.k 153 (by decide)) (And.intro (hL.v 153 (by decide) h.1) ?_))
  have h := h.2
  refine And.intro (hL.k 144 (by decide)) ?_
  refine g_Em h (fun r u h => ?_)
  obtain ⟨rfl, hL, h⟩ := h
  refine And.intro (hL.k 144 (by decide)) (Or.inl ⟨_, (hL.r 144 18 152 (by decide)), ?_⟩)
  refine Or.inl (And.intro (hL.k 152 (by decide)) (And.intro (hL.v 152 (by decide) h.1) ?_))
  have h := h.2
  refine And.intro (hL.k 144 (by decide)) ?_
  refine g_Em h (fun r u h => ?_)
  obtain ⟨rfl, hL, h⟩ := h
  exact And.intro rfl (And.intro rfl h)
theorem x_Mo_visitTail {cx : gCx} {d : Nat} {ad : Nat → Nat} {a1 a2 a3 : Int32} {t : gSt} {post : Option Value → gSt → Prop} (hL : Lay t ad) (h : ∀ x1 : Int32, x1 = ((1300 * (t.2.1 (ad 144) 65)) + a1) → vp_in x1 93600 ∧ (((t.2.1 (ad 151) (x1 : Int32).toNatClampNeg) = 12 → g_W cx (g_E cx d) mt_Mo_visitTail post (48, [some (.ref (ad 144)), some (.int a1), some (.int a2), some (.int a3), some (.int x1), none], [], t, 0, 0)) ∧ ((t.2.1 (ad 151) (x1 : Int32).toNatClampNeg) = 13 → g_W cx (g_E cx d) mt_Mo_visitTail post (88, [some (.ref (ad 144)), some (.int a1), some (.int a2), some (.int a3), some (.int x1), none], [], t, 0, 0)) ∧ ((t.2.1 (ad 151) (x1 : Int32).toNatClampNeg) = 14 → g_W cx (g_E cx d) mt_Mo_visitTail post (149, [some (.ref (ad 144)), some (.int a1), some (.int a2), some (.int a3), some (.int x1), none], [], t, 0, 0)) ∧ ((t.2.1 (ad 151) (x1 : Int32).toNatClampNeg) = 15 → g_W cx (g_E cx d) mt_Mo_visitTail post (190, [some (.ref (ad 144)), some (.int a1), some (.int a2), some (.int a3), some (.int x1), none], [], t, 0, 0)) ∧ ((t.2.1 (ad 151) (x1 : Int32).toNatClampNeg) < 12 ∨ 15 < (t.2.1 (ad 151) (x1 : Int32).toNatClampNeg) → g_W cx (g_E cx d) mt_Mo_visitTail post (285, [some (.ref (ad 144)), some (.int a1), some (.int a2), some (.int a3), some (.int x1), none], [], t, 0, 0)))) : g_E cx (d + 1) i_Mo_visitTail [.ref (ad 144), .int a1, .int a2, .int a3] t post := by
  refine g_call mt_Mo_visitTail rfl (by decide) (Nat.le_of_ble_eq_true rfl) ?_
  refine g_run [19, 48, 88, 149, 190, 220, 285] 400 (fun P hP => ?_)
  refine And.intro (hL.k 144 (by decide)) ?_
  have h := h _ rfl
  refine And.intro (hL.k 144 (by decide)) (Or.inl ⟨_, (hL.r 144 17 151 (by decide)), ?_⟩)
  refine Or.inl (And.intro (hL.k 151 (by decide)) (And.intro (hL.v 151 (by decide) h.1) ?_))
  have h := h.2
  refine hP _ ?_
  rcases g_swc _ 12 15 (by decide) (by decide) (by decide) with c | c | ⟨j, hj, c⟩
  · exact g_sw (tgt := 285) rfl (g_swlo c) (h.2.2.2.2 (Or.inl c))
  · exact g_sw (tgt := 285) rfl (g_swhi c) (h.2.2.2.2 (Or.inr c))
  · match j, hj with
    | 0, _ => exact g_sw (tgt := 48) rfl (by rw [c]; decide) (h.1 c)
    | 1, _ => exact g_sw (tgt := 88) rfl (by rw [c]; decide) (h.2.1 c)
    | 2, _ => exact g_sw (tgt := 149) rfl (by rw [c]; decide) (h.2.2.1 c)
    | 3, _ => exact g_sw (tgt := 190) rfl (by rw [c]; decide) (h.2.2.2.1 c)
    | j + 4, hj => exact absurd hj (by omega)
theorem x_Mo_visitTail_48 {cx : gCx} {d : Nat} {ad : Nat → Nat} {l1 l2 l3 l4 : Int32} {t : gSt} {post : Option Value → gSt → Prop} (hL : Lay t ad) (h : vp_in l4 93600 ∧ (g_E cx d i_Mo_push [.ref (ad 144), .int 42, .int (t.2.1 (ad 153) (l4 : Int32).toNatClampNeg), .int l2] t (fun r u1 => r = none ∧ Lay u1 ad ∧ (g_E cx d i_Mo_push [.ref (ad 144), .int 40, .int 12, .int 0] u1 (fun r u3 => r = none ∧ Lay u3 ad ∧ (vp_in l4 93600 ∧ (g_E cx d i_Mo_push [.ref (ad 144), .int 41, .int (u3.2.1 (ad 152) (l4 : Int32).toNatClampNeg), .int l2] u3 (fun r u5 => r = none ∧ Lay u5 ad ∧ (post none u5))))))))) : g_W cx (g_E cx d) mt_Mo_visitTail post (48, [some (.ref (ad 144)), some (.int l1), some (.int l2), some (.int l3), some (.int l4), none], [], t, 0, 0) := by
  refine g_run [19, 48, 88, 149, 190, 220, 285] 400 (fun P hP => ?_)
  refine And.intro (hL.k 144 (by decide)) (Or.inl ⟨_, (hL.r 144 19 153 (by decide)), ?_⟩)
  refine Or.inl (And.intro (hL.k 153 (by decide)) (And.intro (hL.v 153 (by decide) h.1) ?_))
  have h := h.2
  refine And.intro (hL.k 144 (by decide)) ?_
  refine g_Em h (fun r u h => ?_)
  obtain ⟨rfl, hL, h⟩ := h
  refine And.intro (hL.k 144 (by decide)) ?_
  refine g_Em h (fun r u h => ?_)
  obtain ⟨rfl, hL, h⟩ := h
  refine And.intro (hL.k 144 (by decide)) (Or.inl ⟨_, (hL.r 144 18 152 (by decide)), ?_⟩)
  refine Or.inl (And.intro (hL.k 152 (by decide)) (And.intro (hL.v 152 (by decide) h.1) ?_))
  have h := h.2
  refine And.intro (hL.k 144 (by decide)) ?_
  refine g_Em h (fun r u h => ?_)
  obtain ⟨rfl, hL, h⟩ := h
  exact And.intro rfl (And.intro rfl h)
theorem x_Mo_visitTail_88 {cx : gCx} {d : Nat} {ad : Nat → Nat} {l1 l2 l3 l4 : Int32} {t : gSt} {post : Option Value → gSt → Prop} (hL : Lay t ad) (h : vp_in l4 93600 ∧ (g_E cx d i_Mo_push [.ref (ad 144), .int 42, .int (t.2.1 (ad 154) (l4 : Int32).toNatClampNeg), .int l2] t (fun r u1 => r = none ∧ Lay u1 ad ∧ (g_E cx d i_Mo_push [.ref (ad 144), .int 43, .int 0, .int 0] u1 (fun r u3 => r = none ∧ Lay u3 ad ∧ (vp_in l4 93600 ∧ (g_E cx d i_Mo_push [.ref (ad 144), .int 42, .int (u3.2.1 (ad 153) (l4 : Int32).toNatClampNeg), .int l2] u3 (fun r u5 => r = none ∧ Lay u5 ad ∧ (g_E cx d i_Mo_push [.ref (ad 144), .int 46, .int 0, .int 0] u5 (fun r u7 => r = none ∧ Lay u7 ad ∧ (vp_in l4 93600 ∧ (g_E cx d i_Mo_push [.ref (ad 144), .int 41, .int (u7.2.1 (ad 152) (l4 : Int32).toNatClampNeg), .int l2] u7 (fun r u9 => r = none ∧ Lay u9 ad ∧ (post none u9)))))))))))))) : g_W cx (g_E cx d) mt_Mo_visitTail post (88, [some (.ref (ad 144)), some (.int l1), some (.int l2), some (.int l3), some (.int l4), none], [], t, 0, 0) := by
  refine g_run [19, 48, 88, 149, 190, 220, 285] 400 (fun P hP => ?_)
  refine And.intro (hL.k 144 (by decide)) (Or.inl ⟨_, (hL.r 144 20 154 (by decide)), ?_⟩)
  refine Or.inl (And.intro (hL.k 154 (by decide)) (And.intro (hL.v 154 (by decide) h.1) ?_))
  have h := h.2
  refine And.intro (hL.k 144 (by decide)) ?_
  refine g_Em h (fun r u h => ?_)
  obtain ⟨rfl, hL, h⟩ := h
  refine And.intro (hL.k 144 (by decide)) ?_
  refine g_Em h (fun r u h => ?_)
  obtain ⟨rfl, hL, h⟩ := h
  refine And.intro (hL.k 144 (by decide)) (Or.inl ⟨_, (hL.r 144 19 153 (by decide)), ?_⟩)
  refine Or.inl (And.intro (hL.k 153 (by decide)) (And.intro (hL.v 153 (by decide) h.1) ?_))
  have h := h.2
  refine And.intro (hL.k 144 (by decide)) ?_
  refine g_Em h (fun r u h => ?_)
  obtain ⟨rfl, hL, h⟩ := h
  refine And.intro (hL.k 144 (by decide)) ?_
  refine g_Em h (fun r u h => ?_)
  obtain ⟨rfl, hL, h⟩ := h
  refine And.intro (hL.k 144 (by decide)) (Or.inl ⟨_, (hL.r 144 18 152 (by decide)), ?_⟩)
  refine Or.inl (And.intro (hL.k 152 (by decide)) (And.intro (hL.v 152 (by decide) h.1) ?_))
  have h := h.2
  refine And.intro (hL.k 144 (by decide)) ?_
  refine g_Em h (fun r u h => ?_)
  obtain ⟨rfl, hL, h⟩ := h
  exact And.intro rfl (And.intro rfl h)
theorem x_Mo_visitTail_149 {cx : gCx} {d : Nat} {ad : Nat → Nat} {l1 l2 l3 l4 : Int32} {t : gSt} {post : Option Value → gSt → Prop} (hL : Lay t ad) (h : vp_in l4 93600 ∧ (g_E cx d i_Mo_push [.ref (ad 144), .int 42, .int (t.2.1 (ad 153) (l4 : Int32).toNatClampNeg), .int (l2 + 1)] t (fun r u1 => r = none ∧ Lay u1 ad ∧ (g_E cx d i_Mo_push [.ref (ad 144), .int 45, .int l1, .int l2] u1 (fun r u3 => r = none ∧ Lay u3 ad ∧ (vp_in l4 93600 ∧ (g_E cx d i_Mo_push [.ref (ad 144), .int 41, .int (u3.2.1 (ad 152) (l4 : Int32).toNatClampNeg), .int l2] u3 (fun r u5 => r = none ∧ Lay u5 ad ∧ (post none u5))))))))) : g_W cx (g_E cx d) mt_Mo_visitTail post (149, [some (.ref (ad 144)), some (.int l1), some (.int l2), some (.int l3), some (.int l4), none], [], t, 0, 0) := by
  refine g_run [19, 48, 88, 149, 190, 220, 285] 400 (fun P hP => ?_)
  refine And.intro (hL.k 144 (by decide)) (Or.inl ⟨_, (hL.r 144 19 153 (by decide)), ?_⟩)
  refine Or.inl (And.intro (hL.k 153 (by decide)) (And.intro (hL.v 153 (by decide) h.1) ?_))
  have h := h.2
  refine And.intro (hL.k 144 (by decide)) ?_
  refine g_Em h (fun r u h => ?_)
  obtain ⟨rfl, hL, h⟩ := h
  refine And.intro (hL.k 144 (by decide)) ?_
  refine g_Em h (fun r u h => ?_)
  obtain ⟨rfl, hL, h⟩ := h
  refine And.intro (hL.k 144 (by decide)) (Or.inl ⟨_, (hL.r 144 18 152 (by decide)), ?_⟩)
  refine Or.inl (And.intro (hL.k 152 (by decide)) (And.intro (hL.v 152 (by decide) h.1) ?_))
  have h := h.2
  refine And.intro (hL.k 144 (by decide)) ?_
  refine g_Em h (fun r u h => ?_)
  obtain ⟨rfl, hL, h⟩ := h
  exact And.intro rfl (And.intro rfl h)
theorem x_Mo_visitTail_190 {cx : gCx} {d : Nat} {ad : Nat → Nat} {l1 l2 l3 l4 : Int32} {t : gSt} {post : Option Value → gSt → Prop} (hL : Lay t ad) (h : (l3 = 0 → g_E cx d i_Mo_push [.ref (ad 144), .int 40, .int 49, .int 0] t (fun r u1 => r = none ∧ Lay u1 ad ∧ (g_E cx d i_Mo_push [.ref (ad 144), .int 41, .int l1, .int l2] u1 (fun r u3 => r = none ∧ Lay u3 ad ∧ (post none u3))))) ∧ (¬ (l3 = 0) → vp_in l4 93600 ∧ (g_E cx d i_Mo_push [.ref (ad 144), .int 40, .int 48, .int (t.2.1 (ad 154) (l4 : Int32).toNatClampNeg)] t (fun r u5 => r = none ∧ Lay u5 ad ∧ (vp_in l4 93600 ∧ (∀ x7 : Int32, x7 = ((u5.2.1 (ad 153) (l4 : Int32).toNatClampNeg) - 1) → g_W cx (g_E cx d) mt_Mo_visitTail post (220, [some (.ref (ad 144)), some (.int l1), some (.int l2), some (.int l3), some (.int l4), some (.int x7)], [], u5, 0, 0))))))) : g_W cx (g_E cx d) mt_Mo_visitTail post (190, [some (.ref (ad 144)), some (.int l1), some (.int l2), some (.int l3), some (.int l4), none], [], t, 0, 0) := by
  refine g_run [19, 48, 88, 149, 190, 220, 285] 400 (fun P hP => ?_)
  refine And.intro (fun c => ?_) (fun c => ?_)
  · have h := h.1 c
    refine And.intro (hL.k 144 (by decide)) ?_
    refine g_Em h (fun r u h => ?_)
    obtain ⟨rfl, hL, h⟩ := h
    refine And.intro (hL.k 144 (by decide)) ?_
    refine g_Em h (fun r u h => ?_)
    obtain ⟨rfl, hL, h⟩ := h
    exact And.intro rfl (And.intro rfl h)
  · have h := h.2 c
    refine And.intro (hL.k 144 (by decide)) (Or.inl ⟨_, (hL.r 144 20 154 (by decide)), ?_⟩)
    refine Or.inl (And.intro (hL.k 154 (by decide)) (And.intro (hL.v 154 (by decide) h.1) ?_))
    have h := h.2
    refine And.intro (hL.k 144 (by decide)) ?_
    refine g_Em h (fun r u h => ?_)
    obtain ⟨rfl, hL, h⟩ := h
    refine And.intro (hL.k 144 (by decide)) (Or.inl ⟨_, (hL.r 144 19 153 (by decide)), ?_⟩)
    refine Or.inl (And.intro (hL.k 153 (by decide)) (And.intro (hL.v 153 (by decide) h.1) ?_))
    have h := h.2
    have h := h _ rfl
    exact hP _ h
theorem x_Mo_visitTail_220 {cx : gCx} {d : Nat} {ad : Nat → Nat} {l1 l2 l3 l4 l5 : Int32} {t : gSt} {post : Option Value → gSt → Prop} (hL : Lay t ad) (h : (l5 < 0 → post none t) ∧ (¬ (l5 < 0) → vp_in l4 93600 ∧ (vp_in (((1300 * (t.2.1 (ad 144) 65)) + (t.2.1 (ad 152) (l4 : Int32).toNatClampNeg)) + l5) 93600 ∧ (g_E cx d i_Mo_push [.ref (ad 144), .int 41, .int (t.2.1 (ad 155) ((((1300 * (t.2.1 (ad 144) 65)) + (t.2.1 (ad 152) (l4 : Int32).toNatClampNeg)) + l5) : Int32).toNatClampNeg), .int l2] t (fun r u1 => r = none ∧ Lay u1 ad ∧ (g_W cx (g_E cx d) mt_Mo_visitTail post (220, [some (.ref (ad 144)), some (.int l1), some (.int l2), some (.int l3), some (.int l4), some (.int (l5 + (-1)))], [], u1, 0, 0))))))) : g_W cx (g_E cx d) mt_Mo_visitTail post (220, [some (.ref (ad 144)), some (.int l1), some (.int l2), some (.int l3), some (.int l4), some (.int l5)], [], t, 0, 0) := by
  refine g_run [19, 48, 88, 149, 190, 220, 285] 400 (fun P hP => ?_)
  refine And.intro (fun c => ?_) (fun c => ?_)
  · have h := h.1 c
    exact And.intro rfl (And.intro rfl h)
  · have h := h.2 c
    refine And.intro (hL.k 144 (by decide)) (Or.inl ⟨_, (hL.r 144 21 155 (by decide)), ?_⟩)
    refine And.intro (hL.k 144 (by decide)) ?_
    refine And.intro (hL.k 144 (by decide)) (Or.inl ⟨_, (hL.r 144 18 152 (by decide)), ?_⟩)
    refine Or.inl (And.intro (hL.k 152 (by decide)) (And.intro (hL.v 152 (by decide) h.1) ?_))
    have h := h.2
    refine Or.inl (And.intro (hL.k 155 (by decide)) (And.intro (hL.v 155 (by decide) h.1) ?_))
    have h := h.2
    refine And.intro (hL.k 144 (by decide)) ?_
    refine g_Em h (fun r u h => ?_)
    obtain ⟨rfl, hL, h⟩ := h
    exact hP _ h
theorem x_Mo_visitTail_285 {cx : gCx} {d : Nat} {ad : Nat → Nat} {l1 l2 l3 l4 : Int32} {t : gSt} {post : Option Value → gSt → Prop} (hL : Lay t ad) (h : g_E cx d i_Mo_push [.ref (ad 144), .int 40, .int 49, .int 0] t (fun r u1 => r = none ∧ Lay u1 ad ∧ (g_E cx d i_Mo_push [.ref (ad 144), .int 41, .int l1, .int l2] u1 (fun r u3 => r = none ∧ Lay u3 ad ∧ (post none u3))))) : g_W cx (g_E cx d) mt_Mo_visitTail post (285, [some (.ref (ad 144)), some (.int l1), some (.int l2), some (.int l3), some (.int l4), none], [], t, 0, 0) := by
  refine g_run [19, 48, 88, 149, 190, 220, 285] 400 (fun P hP => ?_)
  refine And.intro (hL.k 144 (by decide)) ?_
  refine g_Em h (fun r u h => ?_)
  obtain ⟨rfl, hL, h⟩ := h
  refine And.intro (hL.k 144 (by decide)) ?_
  refine g_Em h (fun r u h => ?_)
  obtain ⟨rfl, hL, h⟩ := h
  exact And.intro rfl (And.intro rfl h)
theorem x_Mo_frame {cx : gCx} {d : Nat} {ad : Nat → Nat} {a1 : Int32} {t : gSt} {post : Option Value → gSt → Prop} (hL : Lay t ad) (h : vp_in a1 48 ∧ (vp_in a1 48 ∧ (post (some (.int ((2 + (t.2.1 (ad 185) (a1 : Int32).toNatClampNeg)) + (t.2.1 (ad 186) (a1 : Int32).toNatClampNeg)))) t))) : g_E cx (d + 1) i_Mo_frame [.ref (ad 144), .int a1] t post := by
  refine g_call mt_Mo_frame rfl (by decide) (Nat.le_of_ble_eq_true rfl) ?_
  refine g_run [] 400 (fun P hP => ?_)
  refine And.intro (hL.k 144 (by decide)) (Or.inl ⟨_, (hL.r 144 63 185 (by decide)), ?_⟩)
  refine Or.inl (And.intro (hL.k 185 (by decide)) (And.intro (hL.v 185 (by decide) h.1) ?_))
  have h := h.2
  refine And.intro (hL.k 144 (by decide)) (Or.inl ⟨_, (hL.r 144 64 186 (by decide)), ?_⟩)
  refine Or.inl (And.intro (hL.k 186 (by decide)) (And.intro (hL.v 186 (by decide) h.1) ?_))
  have h := h.2
  exact And.intro rfl (And.intro rfl h)
theorem x_Mo_bounds {cx : gCx} {d : Nat} {ad : Nat → Nat} {a1 : Int32} {t : gSt} {post : Option Value → gSt → Prop} (hL : Lay t ad) (h : g_W cx (g_E cx d) mt_Mo_bounds post (2, [some (.ref (ad 144)), some (.int a1), some (.int 0), none, none, none, none, none], [], t, 0, 0)) : g_E cx (d + 1) i_Mo_bounds [.ref (ad 144), .int a1] t post := by
  refine g_call mt_Mo_bounds rfl (by decide) (Nat.le_of_ble_eq_true rfl) ?_
  refine g_run [2, 24, 42, 82, 106, 125, 150, 160, 171, 235, 239, 240, 261, 279, 325, 356, 359, 400, 416, 423, 437, 445, 464, 519, 560, 586, 592] 400 (fun P hP => ?_)
  exact hP _ h
theorem x_Mo_bounds_2 {cx : gCx} {d : Nat} {ad : Nat → Nat} {l1 l2 : Int32} {t : gSt} {post : Option Value → gSt → Prop} (hL : Lay t ad) (h : (576 ≤ l2 → g_W cx (g_E cx d) mt_Mo_bounds post (24, [some (.ref (ad 144)), some (.int l1), some (.int 0), none, none, none, none, none], [], t, 0, 0)) ∧ (¬ (576 ≤ l2) → vp_in l2 576 ∧ (∀ t1, t1 = g_si t (ad 189) (l2 : Int32).toNatClampNeg (vp_nar .boolean 0) → g_W cx (g_E cx d) mt_Mo_bounds post (2, [some (.ref (ad 144)), some (.int l1), some (.int (l2 + 1)), none, none, none, none, none], [], t1, 0, 0)))) : g_W cx (g_E cx d) mt_Mo_bounds post (2, [some (.ref (ad 144)), some (.int l1), some (.int l2), none, none, none, none, none], [], t, 0, 0) := by
  refine g_run [2, 24, 42, 82, 106, 125, 150, 160, 171, 235, 239, 240, 261, 279, 325, 356, 359, 400, 416, 423, 437, 445, 464, 519, 560, 586, 592] 400 (fun P hP => ?_)
  refine And.intro (fun c => ?_) (fun c => ?_)
  · have h := h.1 c
    exact hP _ h
  · have h := h.2 c
    refine And.intro (hL.k 144 (by decide)) (Or.inl ⟨_, (hL.r 144 69 189 (by decide)), ?_⟩)
    refine And.intro (hL.v 189 (by decide) h.1) (Or.inr (And.intro (hL.k 189 (by decide)) ?_))
    have h := h.2 _ rfl
    exact hP _ h
theorem x_Mo_bounds_24 {cx : gCx} {d : Nat} {ad : Nat → Nat} {l1 l2 : Int32} {o3 o4 o5 : Option Value} {t : gSt} {post : Option Value → gSt → Prop} (hL : Lay t ad) (h : ((t.2.1 (ad 144) 11) ≤ l2 → g_W cx (g_E cx d) mt_Mo_bounds post (150, [some (.ref (ad 144)), some (.int l1), some (.int 0), o3, o4, o5, none, none], [], t, 0, 0)) ∧ (¬ ((t.2.1 (ad 144) 11) ≤ l2) → ∀ x1 : Int32, x1 = ((24 * l1) + l2) → g_W cx (g_E cx d) mt_Mo_bounds post (42, [some (.ref (ad 144)), some (.int l1), some (.int l2), some (.int x1), some (.int 0), o5, none, none], [], t, 0, 0))) : g_W cx (g_E cx d) mt_Mo_bounds post (24, [some (.ref (ad 144)), some (.int l1), some (.int l2), o3, o4, o5, none, none], [], t, 0, 0) := by
  refine g_run [2, 24, 42, 82, 106, 125, 150, 160, 171, 235, 239, 240, 261, 279, 325, 356, 359, 400, 416, 423, 437, 445, 464, 519, 560, 586, 592] 400 (fun P hP => ?_)
  refine And.intro (hL.k 144 (by decide)) ?_
  refine And.intro (fun c => ?_) (fun c => ?_)
  · have h := h.1 c
    exact hP _ h
  · have h := h.2 c
    have h := h _ rfl
    exact hP _ h
theorem x_Mo_bounds_42 {cx : gCx} {d : Nat} {ad : Nat → Nat} {l1 l2 l3 l4 : Int32} {o5 : Option Value} {t : gSt} {post : Option Value → gSt → Prop} (hL : Lay t ad) (h : vp_in l3 48 ∧ (((t.2.1 (ad 184) (l3 : Int32).toNatClampNeg) ≤ l4 → g_E cx d i_Mo_frame [.ref (ad 144), .int l3] t (fun r u1 => ∃ y2 : Int32, r = some (.int y2) ∧ Lay u1 ad ∧ (vp_in l3 48 ∧ (∀ t3, t3 = g_si u1 (ad 188) (l3 : Int32).toNatClampNeg y2 → g_W cx (g_E cx d) mt_Mo_bounds post (24, [some (.ref (ad 144)), some (.int l1), some (.int (l2 + 1)), some (.int l3), some (.int l4), o5, none, none], [], t3, 0, 0))))) ∧ (¬ ((t.2.1 (ad 184) (l3 : Int32).toNatClampNeg) ≤ l4) → vp_in ((1600 * l3) + l4) 76800 ∧ (∀ x4 : Int32, x4 = (t.2.1 (ad 182) (((1600 * l3) + l4) : Int32).toNatClampNeg) → (x4 = 16 → g_W cx (g_E cx d) mt_Mo_bounds post (82, [some (.ref (ad 144)), some (.int l1), some (.int l2), some (.int l3), some (.int l4), some (.int x4), none, none], [], t, 0, 0)) ∧ (¬ (x4 = 16) → (¬ x4 = 19 → g_W cx (g_E cx d) mt_Mo_bounds post (106, [some (.ref (ad 144)), some (.int l1), some (.int l2), some (.int l3), some (.int l4), some (.int x4), none, none], [], t, 0, 0)) ∧ (¬ (¬ x4 = 19) → g_W cx (g_E cx d) mt_Mo_bounds post (82, [some (.ref (ad 144)), some (.int l1), some (.int l2), some (.int l3), some (.int l4), some (.int x4), none, none], [], t, 0, 0))))))) : g_W cx (g_E cx d) mt_Mo_bounds post (42, [some (.ref (ad 144)), some (.int l1), some (.int l2), some (.int l3), some (.int l4), o5, none, none], [], t, 0, 0) := by
  refine g_run [2, 24, 42, 82, 106, 125, 150, 160, 171, 235, 239, 240, 261, 279, 325, 356, 359, 400, 416, 423, 437, 445, 464, 519, 560, 586, 592] 400 (fun P hP => ?_)
  refine And.intro (hL.k 144 (by decide)) (Or.inl ⟨_, (hL.r 144 62 184 (by decide)), ?_⟩)
  refine Or.inl (And.intro (hL.k 184 (by decide)) (And.intro (hL.v 184 (by decide) h.1) ?_))
  have h := h.2
  refine And.intro (fun c => ?_) (fun c => ?_)
  · have h := h.1 c
    refine And.intro (hL.k 144 (by decide)) (Or.inl ⟨_, (hL.r 144 68 188 (by decide)), ?_⟩)
    refine And.intro (hL.k 144 (by decide)) ?_
    refine g_Em h (fun r u h => ?_)
    obtain ⟨y2, rfl, hL, h⟩ := h
    refine And.intro (hL.k 188 (by decide)) (And.intro (hL.v 188 (by decide) h.1) ?_)
    have h := h.2 _ rfl
    exact hP _ h
  · have h := h.2 c
    refine And.intro (hL.k 144 (by decide)) (Or.inl ⟨_, (hL.r 144 60 182 (by decide)), ?_⟩)
    refine Or.inl (And.intro (hL.k 182 (by decide)) (And.intro (hL.v 182 (by decide) h.1) ?_))
    have h := h.2
    have h := h _ rfl
    refine And.intro (fun c => ?_) (fun c => ?_)
    · have h := h.1 c
      exact hP _ h
    · have h := h.2 c
      refine And.intro (fun c => ?_) (fun c => ?_)
      · have h := h.1 c
        exact hP _ h
      · have h := h.2 c
        exact hP _ h
theorem x_Mo_bounds_82 {cx : gCx} {d : Nat} {ad : Nat → Nat} {l1 l2 l3 l4 l5 : Int32} {t : gSt} {post : Option Value → gSt → Prop} (hL : Lay t ad) (h : vp_in ((1600 * l3) + l4) 76800 ∧ (vp_in ((24 * l2) + (t.2.1 (ad 183) (((1600 * l3) + l4) : Int32).toNatClampNeg)) 576 ∧ (∀ t1, t1 = g_si t (ad 189) (((24 * l2) + (t.2.1 (ad 183) (((1600 * l3) + l4) : Int32).toNatClampNeg)) : Int32).toNatClampNeg (vp_nar .boolean 1) → g_W cx (g_E cx d) mt_Mo_bounds post (106, [some (.ref (ad 144)), some (.int l1), some (.int l2), some (.int l3), some (.int l4), some (.int l5), none, none], [], t1, 0, 0)))) : g_W cx (g_E cx d) mt_Mo_bounds post (82, [some (.ref (ad 144)), some (.int l1), some (.int l2), some (.int l3), some (.int l4), some (.int l5), none, none], [], t, 0, 0) := by
  refine g_run [2, 24, 42, 82, 106, 125, 150, 160, 171, 235, 239, 240, 261, 279, 325, 356, 359, 400, 416, 423, 437, 445, 464, 519, 560, 586, 592] 400 (fun P hP => ?_)
  refine And.intro (hL.k 144 (by decide)) (Or.inl ⟨_, (hL.r 144 69 189 (by decide)), ?_⟩)
  refine And.intro (hL.k 144 (by decide)) (Or.inl ⟨_, (hL.r 144 61 183 (by decide)), ?_⟩)
  refine Or.inl (And.intro (hL.k 183 (by decide)) (And.intro (hL.v 183 (by decide) h.1) ?_))
  have h := h.2
  refine And.intro (hL.v 189 (by decide) h.1) (Or.inr (And.intro (hL.k 189 (by decide)) ?_))
  have h := h.2 _ rfl
  exact hP _ h
theorem x_Mo_bounds_106 {cx : gCx} {d : Nat} {ad : Nat → Nat} {l1 l2 l3 l4 l5 : Int32} {t : gSt} {post : Option Value → gSt → Prop} (hL : Lay t ad) (h : (¬ l5 = 18 → g_W cx (g_E cx d) mt_Mo_bounds post (125, [some (.ref (ad 144)), some (.int l1), some (.int l2), some (.int l3), some (.int l4), some (.int l5), none, none], [], t, 0, 0)) ∧ (¬ (¬ l5 = 18) → vp_in ((24 * l2) + l2) 576 ∧ (∀ t1, t1 = g_si t (ad 189) (((24 * l2) + l2) : Int32).toNatClampNeg (vp_nar .boolean 1) → g_W cx (g_E cx d) mt_Mo_bounds post (125, [some (.ref (ad 144)), some (.int l1), some (.int l2), some (.int l3), some (.int l4), some (.int l5), none, none], [], t1, 0, 0)))) : g_W cx (g_E cx d) mt_Mo_bounds post (106, [some (.ref (ad 144)), some (.int l1), some (.int l2), some (.int l3), some (.int l4), some (.int l5), none, none], [], t, 0, 0) := by
  refine g_run [2, 24, 42, 82, 106, 125, 150, 160, 171, 235, 239, 240, 261, 279, 325, 356, 359, 400, 416, 423, 437, 445, 464, 519, 560, 586, 592] 400 (fun P hP => ?_)
  refine And.intro (fun c => ?_) (fun c => ?_)
  · have h := h.1 c
    exact hP _ h
  · have h := h.2 c
    refine And.intro (hL.k 144 (by decide)) (Or.inl ⟨_, (hL.r 144 69 189 (by decide)), ?_⟩)
    refine And.intro (hL.v 189 (by decide) h.1) (Or.inr (And.intro (hL.k 189 (by decide)) ?_))
    have h := h.2 _ rfl
    exact hP _ h
theorem x_Mo_bounds_125 {cx : gCx} {d : Nat} {ad : Nat → Nat} {l1 l2 l3 l4 l5 : Int32} {t : gSt} {post : Option Value → gSt → Prop} (hL : Lay t ad) (h : g_W cx (g_E cx d) mt_Mo_bounds post (42, [some (.ref (ad 144)), some (.int l1), some (.int l2), some (.int l3), some (.int (l4 + 1)), some (.int l5), none, none], [], t, 0, 0)) : g_W cx (g_E cx d) mt_Mo_bounds post (125, [some (.ref (ad 144)), some (.int l1), some (.int l2), some (.int l3), some (.int l4), some (.int l5), none, none], [], t, 0, 0) := by
  refine g_run [2, 24, 42, 82, 106, 125, 150, 160, 171, 235, 239, 240, 261, 279, 325, 356, 359, 400, 416, 423, 437, 445, 464, 519, 560, 586, 592] 400 (fun P hP => ?_)
  exact hP _ h
theorem x_Mo_bounds_150 {cx : gCx} {d : Nat} {ad : Nat → Nat} {l1 l2 : Int32} {o3 o4 o5 : Option Value} {t : gSt} {post : Option Value → gSt → Prop} (hL : Lay t ad) (h : ((t.2.1 (ad 144) 11) ≤ l2 → g_W cx (g_E cx d) mt_Mo_bounds post (261, [some (.ref (ad 144)), some (.int l1), some (.int 0), o3, o4, o5, none, none], [], t, 0, 0)) ∧ (¬ ((t.2.1 (ad 144) 11) ≤ l2) → g_W cx (g_E cx d) mt_Mo_bounds post (160, [some (.ref (ad 144)), some (.int l1), some (.int l2), some (.int 0), o4, o5, none, none], [], t, 0, 0))) : g_W cx (g_E cx d) mt_Mo_bounds post (150, [some (.ref (ad 144)), some (.int l1), some (.int l2), o3, o4, o5, none, none], [], t, 0, 0) := by
  refine g_run [2, 24, 42, 82, 106, 125, 150, 160, 171, 235, 239, 240, 261, 279, 325, 356, 359, 400, 416, 423, 437, 445, 464, 519, 560, 586, 592] 400 (fun P hP => ?_)
  refine And.intro (hL.k 144 (by decide)) ?_
  refine And.intro (fun c => ?_) (fun c => ?_)
  · have h := h.1 c
    exact hP _ h
  · have h := h.2 c
    exact hP _ h
theorem x_Mo_bounds_160 {cx : gCx} {d : Nat} {ad : Nat → Nat} {l1 l2 l3 : Int32} {o4 o5 : Option Value} {t : gSt} {post : Option Value → gSt → Prop} (hL : Lay t ad) (h : ((t.2.1 (ad 144) 11) ≤ l3 → g_W cx (g_E cx d) mt_Mo_bounds post (150, [some (.ref (ad 144)), some (.int l1), some (.int (l2 + 1)), some (.int l3), o4, o5, none, none], [], t, 0, 0)) ∧ (¬ ((t.2.1 (ad 144) 11) ≤ l3) → g_W cx (g_E cx d) mt_Mo_bounds post (171, [some (.ref (ad 144)), some (.int l1), some (.int l2), some (.int l3), some (.int 0), o5, none, none], [], t, 0, 0))) : g_W cx (g_E cx d) mt_Mo_bounds post (160, [some (.ref (ad 144)), some (.int l1), some (.int l2), some (.int l3), o4, o5, none, none], [], t, 0, 0) := by
  refine g_run [2, 24, 42, 82, 106, 125, 150, 160, 171, 235, 239, 240, 261, 279, 325, 356, 359, 400, 416, 423, 437, 445, 464, 519, 560, 586, 592] 400 (fun P hP => ?_)
  refine And.intro (hL.k 144 (by decide)) ?_
  refine And.intro (fun c => ?_) (fun c => ?_)
  · have h := h.1 c
    exact hP _ h
  · have h := h.2 c
    exact hP _ h
theorem x_Mo_bounds_171 {cx : gCx} {d : Nat} {ad : Nat → Nat} {l1 l2 l3 l4 : Int32} {o5 : Option Value} {t : gSt} {post : Option Value → gSt → Prop} (hL : Lay t ad) (h : ((t.2.1 (ad 144) 11) ≤ l4 → g_W cx (g_E cx d) mt_Mo_bounds post (160, [some (.ref (ad 144)), some (.int l1), some (.int l2), some (.int (l3 + 1)), some (.int l4), o5, none, none], [], t, 0, 0)) ∧ (¬ ((t.2.1 (ad 144) 11) ≤ l4) → vp_in ((24 * l3) + l4) 576 ∧ ((¬ (t.2.1 (ad 189) (((24 * l3) + l4) : Int32).toNatClampNeg) = 0 → g_W cx (g_E cx d) mt_Mo_bounds post (235, [some (.ref (ad 144)), some (.int l1), some (.int l2), some (.int l3), some (.int l4), o5, none, none], [.int ((24 * l3) + l4), .ref (ad 189)], t, 0, 0)) ∧ (¬ (¬ (t.2.1 (ad 189) (((24 * l3) + l4) : Int32).toNatClampNeg) = 0) → vp_in ((24 * l3) + l2) 576 ∧ (((t.2.1 (ad 189) (((24 * l3) + l2) : Int32).toNatClampNeg) = 0 → g_W cx (g_E cx d) mt_Mo_bounds post (239, [some (.ref (ad 144)), some (.int l1), some (.int l2), some (.int l3), some (.int l4), o5, none, none], [.int ((24 * l3) + l4), .ref (ad 189)], t, 0, 0)) ∧ (¬ ((t.2.1 (ad 189) (((24 * l3) + l2) : Int32).toNatClampNeg) = 0) → vp_in ((24 * l2) + l4) 576 ∧ (((t.2.1 (ad 189) (((24 * l2) + l4) : Int32).toNatClampNeg) = 0 → g_W cx (g_E cx d) mt_Mo_bounds post (239, [some (.ref (ad 144)), some (.int l1), some (.int l2), some (.int l3), some (.int l4), o5, none, none], [.int ((24 * l3) + l4), .ref (ad 189)], t, 0, 0)) ∧ (¬ ((t.2.1 (ad 189) (((24 * l2) + l4) : Int32).toNatClampNeg) = 0) → g_W cx (g_E cx d) mt_Mo_bounds post (235, [some (.ref (ad 144)), some (.int l1), some (.int l2), some (.int l3), some (.int l4), o5, none, none], [.int ((24 * l3) + l4), .ref (ad 189)], t, 0, 0))))))))) : g_W cx (g_E cx d) mt_Mo_bounds post (171, [some (.ref (ad 144)), some (.int l1), some (.int l2), some (.int l3), some (.int l4), o5, none, none], [], t, 0, 0) := by
  refine g_run [2, 24, 42, 82, 106, 125, 150, 160, 171, 235, 239, 240, 261, 279, 325, 356, 359, 400, 416, 423, 437, 445, 464, 519, 560, 586, 592] 400 (fun P hP => ?_)
  refine And.intro (hL.k 144 (by decide)) ?_
  refine And.intro (fun c => ?_) (fun c => ?_)
  · have h := h.1 c
    exact hP _ h
  · have h := h.2 c
    refine And.intro (hL.k 144 (by decide)) (Or.inl ⟨_, (hL.r 144 69 189 (by decide)), ?_⟩)
    refine And.intro (hL.k 144 (by decide)) (Or.inl ⟨_, (hL.r 144 69 189 (by decide)), ?_⟩)
    refine Or.inl (And.intro (Or.inr (hL.k 189 (by decide))) (And.intro (hL.v 189 (by decide) h.1) ?_))
    have h := h.2
    refine And.intro (fun c => ?_) (fun c => ?_)
    · have h := h.1 c
      exact hP _ h
    · have h := h.2 c
      refine And.intro (hL.k 144 (by decide)) (Or.inl ⟨_, (hL.r 144 69 189 (by decide)), ?_⟩)
      refine Or.inl (And.intro (Or.inr (hL.k 189 (by decide))) (And.intro (hL.v 189 (by decide) h.1) ?_))
      have h := h.2
      refine And.intro (fun c => ?_) (fun c => ?_)
      · have h := h.1 c
        exact hP _ h
      · have h := h.2 c
        refine And.intro (hL.k 144 (by decide)) (Or.inl ⟨_, (hL.r 144 69 189 (by decide)), ?_⟩)
        refine Or.inl (And.intro (Or.inr (hL.k 189 (by decide))) (And.intro (hL.v 189 (by decide) h.1) ?_))
        have h := h.2
        refine And.intro (fun c => ?_) (fun c => ?_)
        · have h := h.1 c
          exact hP _ h
        · have h := h.2 c
          exact hP _ h
theorem x_Mo_bounds_235 {cx : gCx} {d : Nat} {ad : Nat → Nat} {l1 l2 l3 l4 s0 : Int32} {o5 : Option Value} {t : gSt} {post : Option Value → gSt → Prop} (hL : Lay t ad) (h : g_W cx (g_E cx d) mt_Mo_bounds post (240, [some (.ref (ad 144)), some (.int l1), some (.int l2), some (.int l3), some (.int l4), o5, none, none], [.int 1, .int s0, .ref (ad 189)], t, 0, 0)) : g_W cx (g_E cx d) mt_Mo_bounds post (235, [some (.ref (ad 144)), some (.int l1), some (.int l2), some (.int l3), some (.int l4), o5, none, none], [.int s0, .ref (ad 189)], t, 0, 0) := by
  refine g_run [2, 24, 42, 82, 106, 125, 150, 160, 171, 235, 239, 240, 261, 279, 325, 356, 359, 400, 416, 423, 437, 445, 464, 519, 560, 586, 592] 400 (fun P hP => ?_)
  exact hP _ h
theorem x_Mo_bounds_239 {cx : gCx} {d : Nat} {ad : Nat → Nat} {l1 l2 l3 l4 s0 : Int32} {o5 : Option Value} {t : gSt} {post : Option Value → gSt → Prop} (hL : Lay t ad) (h : g_W cx (g_E cx d) mt_Mo_bounds post (240, [some (.ref (ad 144)), some (.int l1), some (.int l2), some (.int l3), some (.int l4), o5, none, none], [.int 0, .int s0, .ref (ad 189)], t, 0, 0)) : g_W cx (g_E cx d) mt_Mo_bounds post (239, [some (.ref (ad 144)), some (.int l1), some (.int l2), some (.int l3), some (.int l4), o5, none, none], [.int s0, .ref (ad 189)], t, 0, 0) := by
  refine g_run [2, 24, 42, 82, 106, 125, 150, 160, 171, 235, 239, 240, 261, 279, 325, 356, 359, 400, 416, 423, 437, 445, 464, 519, 560, 586, 592] 400 (fun P hP => ?_)
  exact hP _ h
theorem x_Mo_bounds_240 {cx : gCx} {d : Nat} {ad : Nat → Nat} {l1 l2 l3 l4 s0 s1 : Int32} {o5 : Option Value} {t : gSt} {post : Option Value → gSt → Prop} (hL : Lay t ad) (h : vp_in s1 576 ∧ (∀ t1, t1 = g_si t (ad 189) (s1 : Int32).toNatClampNeg (vp_nar .boolean s0) → g_W cx (g_E cx d) mt_Mo_bounds post (171, [some (.ref (ad 144)), some (.int l1), some (.int l2), some (.int l3), some (.int (l4 + 1)), o5, none, none], [], t1, 0, 0))) : g_W cx (g_E cx d) mt_Mo_bounds post (240, [some (.ref (ad 144)), some (.int l1), some (.int l2), some (.int l3), some (.int l4), o5, none, none], [.int s0, .int s1, .ref (ad 189)], t, 0, 0) := by
  refine g_run [2, 24, 42, 82, 106, 125, 150, 160, 171, 235, 239, 240, 261, 279, 325, 356, 359, 400, 416, 423, 437, 445, 464, 519, 560, 586, 592] 400 (fun P hP => ?_)
  refine And.intro (hL.v 189 (by decide) h.1) (Or.inr (And.intro (hL.k 189 (by decide)) ?_))
  have h := h.2 _ rfl
  exact hP _ h
theorem x_Mo_bounds_261 {cx : gCx} {d : Nat} {ad : Nat → Nat} {l1 l2 : Int32} {o3 o4 o5 o6 : Option Value} {t : gSt} {post : Option Value → gSt → Prop} (hL : Lay t ad) (h : ((t.2.1 (ad 144) 11) ≤ l2 → g_W cx (g_E cx d) mt_Mo_bounds post (437, [some (.ref (ad 144)), some (.int l1), some (.int 1), o3, o4, o5, o6, none], [], t, 0, 0)) ∧ (¬ ((t.2.1 (ad 144) 11) ≤ l2) → ∀ x1 : Int32, x1 = ((24 * l1) + l2) → g_W cx (g_E cx d) mt_Mo_bounds post (279, [some (.ref (ad 144)), some (.int l1), some (.int l2), some (.int x1), some (.int 0), o5, o6, none], [], t, 0, 0))) : g_W cx (g_E cx d) mt_Mo_bounds post (261, [some (.ref (ad 144)), some (.int l1), some (.int l2), o3, o4, o5, o6, none], [], t, 0, 0) := by
  refine g_run [2, 24, 42, 82, 106, 125, 150, 160, 171, 235, 239, 240, 261, 279, 325, 356, 359, 400, 416, 423, 437, 445, 464, 519, 560, 586, 592] 400 (fun P hP => ?_)
  refine And.intro (hL.k 144 (by decide)) ?_
  refine And.intro (fun c => ?_) (fun c => ?_)
  · have h := h.1 c
    exact hP _ h
  · have h := h.2 c
    have h := h _ rfl
    exact hP _ h
theorem x_Mo_bounds_279 {cx : gCx} {d : Nat} {ad : Nat → Nat} {l1 l2 l3 l4 : Int32} {o5 o6 : Option Value} {t : gSt} {post : Option Value → gSt → Prop} (hL : Lay t ad) (h : vp_in l3 48 ∧ (((t.2.1 (ad 184) (l3 : Int32).toNatClampNeg) ≤ l4 → g_W cx (g_E cx d) mt_Mo_bounds post (261, [some (.ref (ad 144)), some (.int l1), some (.int (l2 + 1)), some (.int l3), some (.int l4), o5, o6, none], [], t, 0, 0)) ∧ (¬ ((t.2.1 (ad 184) (l3 : Int32).toNatClampNeg) ≤ l4) → vp_in ((1600 * l3) + l4) 76800 ∧ ((¬ (t.2.1 (ad 182) (((1600 * l3) + l4) : Int32).toNatClampNeg) = 16 → g_W cx (g_E cx d) mt_Mo_bounds post (325, [some (.ref (ad 144)), some (.int l1), some (.int l2), some (.int l3), some (.int l4), o5, o6, none], [.int (-1)], t, 0, 0)) ∧ (¬ (¬ (t.2.1 (ad 182) (((1600 * l3) + l4) : Int32).toNatClampNeg) = 16) → vp_in ((1600 * l3) + l4) 76800 ∧ (g_W cx (g_E cx d) mt_Mo_bounds post (325, [some (.ref (ad 144)), some (.int l1), some (.int l2), some (.int l3), some (.int l4), o5, o6, none], [.int (t.2.1 (ad 183) (((1600 * l3) + l4) : Int32).toNatClampNeg)], t, 0, 0))))))) : g_W cx (g_E cx d) mt_Mo_bounds post (279, [some (.ref (ad 144)), some (.int l1), some (.int l2), some (.int l3), some (.int l4), o5, o6, none], [], t, 0, 0) := by
  refine g_run [2, 24, 42, 82, 106, 125, 150, 160, 171, 235, 239, 240, 261, 279, 325, 356, 359, 400, 416, 423, 437, 445, 464, 519, 560, 586, 592] 400 (fun P hP => ?_)
  refine And.intro (hL.k 144 (by decide)) (Or.inl ⟨_, (hL.r 144 62 184 (by decide)), ?_⟩)
  refine Or.inl (And.intro (hL.k 184 (by decide)) (And.intro (hL.v 184 (by decide) h.1) ?_))
  have h := h.2
  refine And.intro (fun c => ?_) (fun c => ?_)
  · have h := h.1 c
    exact hP _ h
  · have h := h.2 c
    refine And.intro (hL.k 144 (by decide)) (Or.inl ⟨_, (hL.r 144 60 182 (by decide)), ?_⟩)
    refine Or.inl (And.intro (hL.k 182 (by decide)) (And.intro (hL.v 182 (by decide) h.1) ?_))
    have h := h.2
    refine And.intro (fun c => ?_) (fun c => ?_)
    · have h := h.1 c
      exact hP _ h
    · have h := h.2 c
      refine And.intro (hL.k 144 (by decide)) (Or.inl ⟨_, (hL.r 144 61 183 (by decide)), ?_⟩)
      refine Or.inl (And.intro (hL.k 183 (by decide)) (And.intro (hL.v 183 (by decide) h.1) ?_))
      have h := h.2
      exact hP _ h
theorem x_Mo_bounds_325 {cx : gCx} {d : Nat} {ad : Nat → Nat} {l1 l2 l3 l4 s0 : Int32} {o5 o6 : Option Value} {t : gSt} {post : Option Value → gSt → Prop} (hL : Lay t ad) (h : (s0 < 0 → g_W cx (g_E cx d) mt_Mo_bounds post (423, [some (.ref (ad 144)), some (.int l1), some (.int l2), some (.int l3), some (.int l4), some (.int s0), o6, none], [], t, 0, 0)) ∧ (¬ (s0 < 0) → (s0 = l2 → g_W cx (g_E cx d) mt_Mo_bounds post (356, [some (.ref (ad 144)), some (.int l1), some (.int l2), some (.int l3), some (.int l4), some (.int s0), o6, none], [], t, 0, 0)) ∧ (¬ (s0 = l2) → vp_in ((24 * s0) + l2) 576 ∧ ((¬ (t.2.1 (ad 189) (((24 * s0) + l2) : Int32).toNatClampNeg) = 0 → g_W cx (g_E cx d) mt_Mo_bounds post (356, [some (.ref (ad 144)), some (.int l1), some (.int l2), some (.int l3), some (.int l4), some (.int s0), o6, none], [], t, 0, 0)) ∧ (¬ (¬ (t.2.1 (ad 189) (((24 * s0) + l2) : Int32).toNatClampNeg) = 0) → g_W cx (g_E cx d) mt_Mo_bounds post (423, [some (.ref (ad 144)), some (.int l1), some (.int l2), some (.int l3), some (.int l4), some (.int s0), o6, none], [], t, 0, 0)))))) : g_W cx (g_E cx d) mt_Mo_bounds post (325, [some (.ref (ad 144)), some (.int l1), some (.int l2), some (.int l3), some (.int l4), o5, o6, none], [.int s0], t, 0, 0) := by
  refine g_run [2, 24, 42, 82, 106, 125, 150, 160, 171, 235, 239, 240, 261, 279, 325, 356, 359, 400, 416, 423, 437, 445, 464, 519, 560, 586, 592] 400 (fun P hP => ?_)
  refine And.intro (fun c => ?_) (fun c => ?_)
  · have h := h.1 c
    exact hP _ h
  · have h := h.2 c
    refine And.intro (fun c => ?_) (fun c => ?_)
    · have h := h.1 c
      exact hP _ h
    · have h := h.2 c
      refine And.intro (hL.k 144 (by decide)) (Or.inl ⟨_, (hL.r 144 69 189 (by decide)), ?_⟩)
      refine Or.inl (And.intro (Or.inr (hL.k 189 (by decide))) (And.intro (hL.v 189 (by decide) h.1) ?_))
      have h := h.2
      refine And.intro (fun c => ?_) (fun c => ?_)
      · have h := h.1 c
        exact hP _ h
      · have h := h.2 c
        exact hP _ h
theorem x_Mo_bounds_356 {cx : gCx} {d : Nat} {ad : Nat → Nat} {l1 l2 l3 l4 l5 : Int32} {o6 : Option Value} {t : gSt} {post : Option Value → gSt → Prop} (hL : Lay t ad) (h : g_W cx (g_E cx d) mt_Mo_bounds post (359, [some (.ref (ad 144)), some (.int l1), some (.int l2), some (.int l3), some (.int l4), some (.int l5), some (.int 0), none], [], t, 0, 0)) : g_W cx (g_E cx d) mt_Mo_bounds post (356, [some (.ref (ad 144)), some (.int l1), some (.int l2), some (.int l3), some (.int l4), some (.int l5), o6, none], [], t, 0, 0) := by
  refine g_run [2, 24, 42, 82, 106, 125, 150, 160, 171, 235, 239, 240, 261, 279, 325, 356, 359, 400, 416, 423, 437, 445, 464, 519, 560, 586, 592] 400 (fun P hP => ?_)
  exact hP _ h
theorem x_Mo_bounds_359 {cx : gCx} {d : Nat} {ad : Nat → Nat} {l1 l2 l3 l4 l5 l6 : Int32} {t : gSt} {post : Option Value → gSt → Prop} (hL : Lay t ad) (h : ((t.2.1 (ad 144) 11) ≤ l6 → g_W cx (g_E cx d) mt_Mo_bounds post (423, [some (.ref (ad 144)), some (.int l1), some (.int l2), some (.int l3), some (.int l4), some (.int l5), some (.int l6), none], [], t, 0, 0)) ∧ (¬ ((t.2.1 (ad 144) 11) ≤ l6) → (l6 = l2 → g_W cx (g_E cx d) mt_Mo_bounds post (400, [some (.ref (ad 144)), some (.int l1), some (.int l2), some (.int l3), some (.int l4), some (.int l5), some (.int l6), none], [.int ((24 * l1) + l6), .ref (ad 188)], t, 0, 0)) ∧ (¬ (l6 = l2) → vp_in ((24 * l6) + l2) 576 ∧ (((t.2.1 (ad 189) (((24 * l6) + l2) : Int32).toNatClampNeg) = 0 → vp_in ((24 * l1) + l6) 48 ∧ (g_W cx (g_E cx d) mt_Mo_bounds post (416, [some (.ref (ad 144)), some (.int l1), some (.int l2), some (.int l3), some (.int l4), some (.int l5), some (.int l6), none], [.int (t.2.1 (ad 188) (((24 * l1) + l6) : Int32).toNatClampNeg), .int ((24 * l1) + l6), .ref (ad 188)], t, 0, 0))) ∧ (¬ ((t.2.1 (ad 189) (((24 * l6) + l2) : Int32).toNatClampNeg) = 0) → g_W cx (g_E cx d) mt_Mo_bounds post (400, [some (.ref (ad 144)), some (.int l1), some (.int l2), some (.int l3), some (.int l4), some (.int l5), some (.int l6), none], [.int ((24 * l1) + l6), .ref (ad 188)], t, 0, 0)))))) : g_W cx (g_E cx d) mt_Mo_bounds post (359, [some (.ref (ad 144)), some (.int l1), some (.int l2), some (.int l3), some (.int l4), some (.int l5), some (.int l6), none], [], t, 0, 0) := by
  refine g_run [2, 24, 42, 82, 106, 125, 150, 160, 171, 235, 239, 240, 261, 279, 325, 356, 359, 400, 416, 423, 437, 445, 464, 519, 560, 586, 592] 400 (fun P hP => ?_)
  refine And.intro (hL.k 144 (by decide)) ?_
  refine And.intro (fun c => ?_) (fun c => ?_)
  · have h := h.1 c
    exact hP _ h
  · have h := h.2 c
    refine And.intro (hL.k 144 (by decide)) (Or.inl ⟨_, (hL.r 144 68 188 (by decide)), ?_⟩)
    refine And.intro (fun c => ?_) (fun c => ?_)
    · have h := h.1 c
      exact hP _ h
    · have h := h.2 c
      refine And.intro (hL.k 144 (by decide)) (Or.inl ⟨_, (hL.r 144 69 189 (by decide)), ?_⟩)
      refine Or.inl (And.intro (Or.inr (hL.k 189 (by decide))) (And.intro (hL.v 189 (by decide) h.1) ?_))
      have h := h.2
      refine And.intro (fun c => ?_) (fun c => ?_)
      · have h := h.1 c
        refine And.intro (hL.k 144 (by decide)) (Or.inl ⟨_, (hL.r 144 68 188 (by decide)), ?_⟩)
        refine Or.inl (And.intro (hL.k 188 (by decide)) (And.intro (hL.v 188 (by decide) h.1) ?_))
        have h := h.2
        exact hP _ h
      · have h := h.2 c
        exact hP _ h
theorem x_Mo_bounds_400 {cx : gCx} {d : Nat} {ad : Nat → Nat} {l1 l2 l3 l4 l5 l6 s0 : Int32} {t : gSt} {post : Option Value → gSt → Prop} (hL : Lay t ad) (h : g_W cx (g_E cx d) mt_Mo_bounds post (416, [some (.ref (ad 144)), some (.int l1), some (.int l2), some (.int l3), some (.int l4), some (.int l5), some (.int l6), none], [.int (-1), .int s0, .ref (ad 188)], t, 0, 0)) : g_W cx (g_E cx d) mt_Mo_bounds post (400, [some (.ref (ad 144)), some (.int l1), some (.int l2), some (.int l3), some (.int l4), some (.int l5), some (.int l6), none], [.int s0, .ref (ad 188)], t, 0, 0) := by
  refine g_run [2, 24, 42, 82, 106, 125, 150, 160, 171, 235, 239, 240, 261, 279, 325, 356, 359, 400, 416, 423, 437, 445, 464, 519, 560, 586, 592] 400 (fun P hP => ?_)
  exact hP _ h
theorem x_Mo_bounds_416 {cx : gCx} {d : Nat} {ad : Nat → Nat} {l1 l2 l3 l4 l5 l6 s0 s1 : Int32} {t : gSt} {post : Option Value → gSt → Prop} (hL : Lay t ad) (h : vp_in s1 48 ∧ (∀ t1, t1 = g_si t (ad 188) (s1 : Int32).toNatClampNeg s0 → g_W cx (g_E cx d) mt_Mo_bounds post (359, [some (.ref (ad 144)), some (.int l1), some (.int l2), some (.int l3), some (.int l4), some (.int l5), some (.int (l6 + 1)), none], [], t1, 0, 0))) : g_W cx (g_E cx d) mt_Mo_bounds post (416, [some (.ref (ad 144)), some (.int l1), some (.int l2), some (.int l3), some (.int l4), some (.int l5), some (.int l6), none], [.int s0, .int s1, .ref (ad 188)], t, 0, 0) := by
  refine g_run [2, 24, 42, 82, 106, 125, 150, 160, 171, 235, 239, 240, 261, 279, 325, 356, 359, 400, 416, 423, 437, 445, 464, 519, 560, 586, 592] 400 (fun P hP => ?_)
  refine And.intro (hL.k 188 (by decide)) (And.intro (hL.v 188 (by decide) h.1) ?_)
  have h := h.2 _ rfl
  exact hP _ h
theorem x_Mo_bounds_423 {cx : gCx} {d : Nat} {ad : Nat → Nat} {l1 l2 l3 l4 l5 : Int32} {o6 : Option Value} {t : gSt} {post : Option Value → gSt → Prop} (hL : Lay t ad) (h : g_W cx (g_E cx d) mt_Mo_bounds post (279, [some (.ref (ad 144)), some (.int l1), some (.int l2), some (.int l3), some (.int (l4 + 1)), some (.int l5), o6, none], [], t, 0, 0)) : g_W cx (g_E cx d) mt_Mo_bounds post (423, [some (.ref (ad 144)), some (.int l1), some (.int l2), some (.int l3), some (.int l4), some (.int l5), o6, none], [], t, 0, 0) := by
  refine g_run [2, 24, 42, 82, 106, 125, 150, 160, 171, 235, 239, 240, 261, 279, 325, 356, 359, 400, 416, 423, 437, 445, 464, 519, 560, 586, 592] 400 (fun P hP => ?_)
  exact hP _ h
theorem x_Mo_bounds_437 {cx : gCx} {d : Nat} {ad : Nat → Nat} {l1 l2 : Int32} {o3 o4 o5 o6 o7 : Option Value} {t : gSt} {post : Option Value → gSt → Prop} (hL : Lay t ad) (h : (l2 = 0 → post none t) ∧ (¬ (l2 = 0) → g_W cx (g_E cx d) mt_Mo_bounds post (445, [some (.ref (ad 144)), some (.int l1), some (.int 0), some (.int 0), o4, o5, o6, o7], [], t, 0, 0))) : g_W cx (g_E cx d) mt_Mo_bounds post (437, [some (.ref (ad 144)), some (.int l1), some (.int l2), o3, o4, o5, o6, o7], [], t, 0, 0) := by
  refine g_run [2, 24, 42, 82, 106, 125, 150, 160, 171, 235, 239, 240, 261, 279, 325, 356, 359, 400, 416, 423, 437, 445, 464, 519, 560, 586, 592] 400 (fun P hP => ?_)
  refine And.intro (fun c => ?_) (fun c => ?_)
  · have h := h.1 c
    exact And.intro rfl (And.intro rfl h)
  · have h := h.2 c
    exact hP _ h
theorem x_Mo_bounds_445 {cx : gCx} {d : Nat} {ad : Nat → Nat} {l1 l2 l3 : Int32} {o4 o5 o6 o7 : Option Value} {t : gSt} {post : Option Value → gSt → Prop} (hL : Lay t ad) (h : ((t.2.1 (ad 144) 11) ≤ l3 → g_W cx (g_E cx d) mt_Mo_bounds post (437, [some (.ref (ad 144)), some (.int l1), some (.int l2), some (.int l3), o4, o5, o6, o7], [], t, 0, 0)) ∧ (¬ ((t.2.1 (ad 144) 11) ≤ l3) → ∀ x1 : Int32, x1 = ((24 * l1) + l3) → g_W cx (g_E cx d) mt_Mo_bounds post (464, [some (.ref (ad 144)), some (.int l1), some (.int l2), some (.int l3), some (.int x1), some (.int 0), o6, o7], [], t, 0, 0))) : g_W cx (g_E cx d) mt_Mo_bounds post (445, [some (.ref (ad 144)), some (.int l1), some (.int l2), some (.int l3), o4, o5, o6, o7], [], t, 0, 0) := by
  refine g_run [2, 24, 42, 82, 106, 125, 150, 160, 171, 235, 239, 240, 261, 279, 325, 356, 359, 400, 416, 423, 437, 445, 464, 519, 560, 586, 592] 400 (fun P hP => ?_)
  refine And.intro (hL.k 144 (by decide)) ?_
  refine And.intro (fun c => ?_) (fun c => ?_)
  · have h := h.1 c
    exact hP _ h
  · have h := h.2 c
    have h := h _ rfl
    exact hP _ h
theorem x_Mo_bounds_464 {cx : gCx} {d : Nat} {ad : Nat → Nat} {l1 l2 l3 l4 l5 : Int32} {o6 o7 : Option Value} {t : gSt} {post : Option Value → gSt → Prop} (hL : Lay t ad) (h : vp_in l4 48 ∧ (((t.2.1 (ad 188) (l4 : Int32).toNatClampNeg) < 0 → g_W cx (g_E cx d) mt_Mo_bounds post (592, [some (.ref (ad 144)), some (.int l1), some (.int l2), some (.int l3), some (.int l4), some (.int l5), o6, o7], [], t, 0, 0)) ∧ (¬ ((t.2.1 (ad 188) (l4 : Int32).toNatClampNeg) < 0) → vp_in l4 48 ∧ (((t.2.1 (ad 184) (l4 : Int32).toNatClampNeg) ≤ l5 → g_W cx (g_E cx d) mt_Mo_bounds post (592, [some (.ref (ad 144)), some (.int l1), some (.int l2), some (.int l3), some (.int l4), some (.int l5), o6, o7], [], t, 0, 0)) ∧ (¬ ((t.2.1 (ad 184) (l4 : Int32).toNatClampNeg) ≤ l5) → vp_in ((1600 * l4) + l5) 76800 ∧ (∀ x1 : Int32, x1 = (t.2.1 (ad 182) (((1600 * l4) + l5) : Int32).toNatClampNeg) → (x1 = 16 → g_W cx (g_E cx d) mt_Mo_bounds post (519, [some (.ref (ad 144)), some (.int l1), some (.int l2), some (.int l3), some (.int l4), some (.int l5), some (.int x1), o7], [], t, 0, 0)) ∧ (¬ (x1 = 16) → (x1 = 19 → g_W cx (g_E cx d) mt_Mo_bounds post (519, [some (.ref (ad 144)), some (.int l1), some (.int l2), some (.int l3), some (.int l4), some (.int l5), some (.int x1), o7], [], t, 0, 0)) ∧ (¬ (x1 = 19) → g_W cx (g_E cx d) mt_Mo_bounds post (586, [some (.ref (ad 144)), some (.int l1), some (.int l2), some (.int l3), some (.int l4), some (.int l5), some (.int x1), o7], [], t, 0, 0))))))))) : g_W cx (g_E cx d) mt_Mo_bounds post (464, [some (.ref (ad 144)), some (.int l1), some (.int l2), some (.int l3), some (.int l4), some (.int l5), o6, o7], [], t, 0, 0) := by
  refine g_run [2, 24, 42, 82, 106, 125, 150, 160, 171, 235, 239, 240, 261, 279, 325, 356, 359, 400, 416, 423, 437, 445, 464, 519, 560, 586, 592] 400 (fun P hP => ?_)
  refine And.intro (hL.k 144 (by decide)) (Or.inl ⟨_, (hL.r 144 68 188 (by decide)), ?_⟩)
  refine Or.inl (And.intro (hL.k 188 (by decide)) (And.intro (hL.v 188 (by decide) h.1) ?_))
  have h := h.2
  refine And.intro (fun c => ?_) (fun c => ?_)
  · have h := h.1 c
    exact hP _ h
  · have h := h.2 c
    refine And.intro (hL.k 144 (by decide)) (Or.inl ⟨_, (hL.r 144 62 184 (by decide)), ?_⟩)
    refine Or.inl (And.intro (hL.k 184 (by decide)) (And.intro (hL.v 184 (by decide) h.1) ?_))
    have h := h.2
    refine And.intro (fun c => ?_) (fun c => ?_)
    · have h := h.1 c
      exact hP _ h
    · have h := h.2 c
      refine And.intro (hL.k 144 (by decide)) (Or.inl ⟨_, (hL.r 144 60 182 (by decide)), ?_⟩)
      refine Or.inl (And.intro (hL.k 182 (by decide)) (And.intro (hL.v 182 (by decide) h.1) ?_))
      have h := h.2
      have h := h _ rfl
      refine And.intro (fun c => ?_) (fun c => ?_)
      · have h := h.1 c
        exact hP _ h
      · have h := h.2 c
        refine And.intro (fun c => ?_) (fun c => ?_)
        · have h := h.1 c
          exact hP _ h
        · have h := h.2 c
          exact hP _ h
theorem x_Mo_bounds_519 {cx : gCx} {d : Nat} {ad : Nat → Nat} {l1 l2 l3 l4 l5 l6 : Int32} {o7 : Option Value} {t : gSt} {post : Option Value → gSt → Prop} (hL : Lay t ad) (h : vp_in ((1600 * l4) + l5) 76800 ∧ (vp_in ((24 * l1) + (t.2.1 (ad 183) (((1600 * l4) + l5) : Int32).toNatClampNeg)) 48 ∧ ((¬ l6 = 16 → g_W cx (g_E cx d) mt_Mo_bounds post (560, [some (.ref (ad 144)), some (.int l1), some (.int l2), some (.int l3), some (.int l4), some (.int l5), some (.int l6), o7], [.int 0, .int (t.2.1 (ad 188) (((24 * l1) + (t.2.1 (ad 183) (((1600 * l4) + l5) : Int32).toNatClampNeg)) : Int32).toNatClampNeg)], t, 0, 0)) ∧ (¬ (¬ l6 = 16) → g_E cx d i_Mo_frame [.ref (ad 144), .int l4] t (fun r u1 => ∃ y2 : Int32, r = some (.int y2) ∧ Lay u1 ad ∧ (g_W cx (g_E cx d) mt_Mo_bounds post (560, [some (.ref (ad 144)), some (.int l1), some (.int l2), some (.int l3), some (.int l4), some (.int l5), some (.int l6), o7], [.int y2, .int (t.2.1 (ad 188) (((24 * l1) + (t.2.1 (ad 183) (((1600 * l4) + l5) : Int32).toNatClampNeg)) : Int32).toNatClampNeg)], u1, 0, 0))))))) : g_W cx (g_E cx d) mt_Mo_bounds post (519, [some (.ref (ad 144)), some (.int l1), some (.int l2), some (.int l3), some (.int l4), some (.int l5), some (.int l6), o7], [], t, 0, 0) := by
  refine g_run [2, 24, 42, 82, 106, 125, 150, 160, 171, 235, 239, 240, 261, 279, 325, 356, 359, 400, 416, 423, 437, 445, 464, 519, 560, 586, 592] 400 (fun P hP => ?_)
  refine And.intro (hL.k 144 (by decide)) (Or.inl ⟨_, (hL.r 144 68 188 (by decide)), ?_⟩)
  refine And.intro (hL.k 144 (by decide)) (Or.inl ⟨_, (hL.r 144 61 183 (by decide)), ?_⟩)
  refine Or.inl (And.intro (hL.k 183 (by decide)) (And.intro (hL.v 183 (by decide) h.1) ?_))
  have h := h.2
  refine Or.inl (And.intro (hL.k 188 (by decide)) (And.intro (hL.v 188 (by decide) h.1) ?_))
  have h := h.2
  refine And.intro (fun c => ?_) (fun c => ?_)
  · have h := h.1 c
    exact hP _ h
  · have h := h.2 c
    refine And.intro (hL.k 144 (by decide)) ?_
    refine g_Em h (fun r u h => ?_)
    obtain ⟨y2, rfl, hL, h⟩ := h
    exact hP _ h
theorem x_Mo_bounds_560 {cx : gCx} {d : Nat} {ad : Nat → Nat} {l1 l2 l3 l4 l5 l6 s0 s1 : Int32} {o7 : Option Value} {t : gSt} {post : Option Value → gSt → Prop} (hL : Lay t ad) (h : ∀ x1 : Int32, x1 = (s1 + s0) → vp_in l4 48 ∧ ((x1 ≤ (t.2.1 (ad 188) (l4 : Int32).toNatClampNeg) → g_W cx (g_E cx d) mt_Mo_bounds post (586, [some (.ref (ad 144)), some (.int l1), some (.int l2), some (.int l3), some (.int l4), some (.int l5), some (.int l6), some (.int x1)], [], t, 0, 0)) ∧ (¬ (x1 ≤ (t.2.1 (ad 188) (l4 : Int32).toNatClampNeg)) → vp_in l4 48 ∧ (∀ t2, t2 = g_si t (ad 188) (l4 : Int32).toNatClampNeg x1 → g_W cx (g_E cx d) mt_Mo_bounds post (586, [some (.ref (ad 144)), some (.int l1), some (.int 1), some (.int l3), some (.int l4), some (.int l5), some (.int l6), some (.int x1)], [], t2, 0, 0))))) : g_W cx (g_E cx d) mt_Mo_bounds post (560, [some (.ref (ad 144)), some (.int l1), some (.int l2), some (.int l3), some (.int l4), some (.int l5), some (.int l6), o7], [.int s0, .int s1], t, 0, 0) := by
  refine g_run [2, 24, 42, 82, 106, 125, 150, 160, 171, 235, 239, 240, 261, 279, 325, 356, 359, 400, 416, 423, 437, 445, 464, 519, 560, 586, 592] 400 (fun P hP => ?_)
  have h := h _ rfl
  refine And.intro (hL.k 144 (by decide)) (Or.inl ⟨_, (hL.r 144 68 188 (by decide)), ?_⟩)
  refine Or.inl (And.intro (hL.k 188 (by decide)) (And.intro (hL.v 188 (by decide) h.1) ?_))
  have h := h.2
  refine And.intro (fun c => ?_) (fun c => ?_)
  · have h := h.1 c
    exact hP _ h
  · have h := h.2 c
    refine And.intro (hL.k 144 (by decide)) (Or.inl ⟨_, (hL.r 144 68 188 (by decide)), ?_⟩)
    refine And.intro (hL.k 188 (by decide)) (And.intro (hL.v 188 (by decide) h.1) ?_)
    have h := h.2 _ rfl
    exact hP _ h
theorem x_Mo_bounds_586 {cx : gCx} {d : Nat} {ad : Nat → Nat} {l1 l2 l3 l4 l5 l6 : Int32} {o7 : Option Value} {t : gSt} {post : Option Value → gSt → Prop} (hL : Lay t ad) (h : g_W cx (g_E cx d) mt_Mo_bounds post (464, [some (.ref (ad 144)), some (.int l1), some (.int l2), some (.int l3), some (.int l4), some (.int (l5 + 1)), some (.int l6), o7], [], t, 0, 0)) : g_W cx (g_E cx d) mt_Mo_bounds post (586, [some (.ref (ad 144)), some (.int l1), some (.int l2), some (.int l3), some (.int l4), some (.int l5), some (.int l6), o7], [], t, 0, 0) := by
  refine g_run [2, 24, 42, 82, 106, 125, 150, 160, 171, 235, 239, 240, 261, 279, 325, 356, 359, 400, 416, 423, 437, 445, 464, 519, 560, 586, 592] 400 (fun P hP => ?_)
  exact hP _ h
theorem x_Mo_bounds_592 {cx : gCx} {d : Nat} {ad : Nat → Nat} {l1 l2 l3 l4 l5 : Int32} {o6 o7 : Option Value} {t : gSt} {post : Option Value → gSt → Prop} (hL : Lay t ad) (h : g_W cx (g_E cx d) mt_Mo_bounds post (445, [some (.ref (ad 144)), some (.int l1), some (.int l2), some (.int (l3 + 1)), some (.int l4), some (.int l5), o6, o7], [], t, 0, 0)) : g_W cx (g_E cx d) mt_Mo_bounds post (592, [some (.ref (ad 144)), some (.int l1), some (.int l2), some (.int l3), some (.int l4), some (.int l5), o6, o7], [], t, 0, 0) := by
  refine g_run [2, 24, 42, 82, 106, 125, 150, 160, 171, 235, 239, 240, 261, 279, 325, 356, 359, 400, 416, 423, 437, 445, 464, 519, 560, 586, 592] 400 (fun P hP => ?_)
  exact hP _ h
theorem x_Mo_function {cx : gCx} {d : Nat} {ad : Nat → Nat} {a1 a2 a3 : Int32} {t : gSt} {post : Option Value → gSt → Prop} (hL : Lay t ad) (h : ∀ t1, t1 = g_si t (ad 144) 0 0 → g_E cx d i_Mo_noFunction [.ref (ad 144), .int a1, .int a2] t1 (fun r u2 => ∃ y3 : Int32, r = some (.int y3) ∧ Lay u2 ad ∧ ((y3 = 0 → ∀ x4 : Int32, x4 = ((24 * a1) + a2) → g_W cx (g_E cx d) mt_Mo_function post (30, [some (.ref (ad 144)), some (.int a1), some (.int a2), some (.int a3), some (.int x4), some (.int 0), some (.int 0)], [], u2, 0, 0)) ∧ (¬ (y3 = 0) → post (some (.int (-1))) u2)))) : g_E cx (d + 1) i_Mo_function [.ref (ad 144), .int a1, .int a2, .int a3] t post := by
  refine g_call mt_Mo_function rfl (by decide) (Nat.le_of_ble_eq_true rfl) ?_
  refine g_run [30, 78, 124, 132, 139, 147, 150, 157, 165, 173, 188] 400 (fun P hP => ?_)
  refine And.intro (hL.k 144 (by decide)) ?_
  have h := h _ rfl
  refine And.intro (hL.k 144 (by decide)) ?_
  refine g_Em h (fun r u h => ?_)
  obtain ⟨y3, rfl, hL, h⟩ := h
  refine And.intro (fun c => ?_) (fun c => ?_)
  · have h := h.1 c
    have h := h _ rfl
    exact hP _ h
  · have h := h.2 c
    exact And.intro rfl (And.intro rfl h)
theorem x_Mo_function_30 {cx : gCx} {d : Nat} {ad : Nat → Nat} {l1 l2 l3 l4 l5 l6 : Int32} {t : gSt} {post : Option Value → gSt → Prop} (hL : Lay t ad) (h : vp_in l4 72 ∧ (((t.2.1 (ad 148) (l4 : Int32).toNatClampNeg) ≤ l6 → (l3 = 0 → g_W cx (g_E cx d) mt_Mo_function post (124, [some (.ref (ad 144)), some (.int l1), some (.int l2), some (.int l3), some (.int l4), some (.int l5), some (.int l6)], [], t, 0, 0)) ∧ (l3 = 1 → g_W cx (g_E cx d) mt_Mo_function post (132, [some (.ref (ad 144)), some (.int l1), some (.int l2), some (.int l3), some (.int l4), some (.int l5), some (.int l6)], [], t, 0, 0)) ∧ (l3 = 2 → g_W cx (g_E cx d) mt_Mo_function post (139, [some (.ref (ad 144)), some (.int l1), some (.int l2), some (.int l3), some (.int l4), some (.int l5), some (.int l6)], [], t, 0, 0)) ∧ (l3 = 3 → g_W cx (g_E cx d) mt_Mo_function post (147, [some (.ref (ad 144)), some (.int l1), some (.int l2), some (.int l3), some (.int l4), some (.int l5), some (.int l6)], [], t, 0, 0)) ∧ (l3 = 4 → g_W cx (g_E cx d) mt_Mo_function post (150, [some (.ref (ad 144)), some (.int l1), some (.int l2), some (.int l3), some (.int l4), some (.int l5), some (.int l6)], [], t, 0, 0)) ∧ (l3 = 5 → g_W cx (g_E cx d) mt_Mo_function post (157, [some (.ref (ad 144)), some (.int l1), some (.int l2), some (.int l3), some (.int l4), some (.int l5), some (.int l6)], [], t, 0, 0)) ∧ (l3 = 6 → g_W cx (g_E cx d) mt_Mo_function post (165, [some (.ref (ad 144)), some (.int l1), some (.int l2), some (.int l3), some (.int l4), some (.int l5), some (.int l6)], [], t, 0, 0)) ∧ (l3 = 7 → g_W cx (g_E cx d) mt_Mo_function post (173, [some (.ref (ad 144)), some (.int l1), some (.int l2), some (.int l3), some (.int l4), some (.int l5), some (.int l6)], [], t, 0, 0)) ∧ (l3 < 0 ∨ 7 < l3 → g_W cx (g_E cx d) mt_Mo_function post (188, [some (.ref (ad 144)), some (.int l1), some (.int l2), some (.int l3), some (.int l4), some (.int l5), some (.int l6)], [], t, 0, 0))) ∧ (¬ ((t.2.1 (ad 148) (l4 : Int32).toNatClampNeg) ≤ l6) → vp_in ((1300 * l4) + l6) 93600 ∧ ((¬ (t.2.1 (ad 151) (((1300 * l4) + l6) : Int32).toNatClampNeg) = 15 → ∀ x1 : Int32, x1 = (l5 + 0) → g_W cx (g_E cx d) mt_Mo_function post (30, [some (.ref (ad 144)), some (.int l1), some (.int l2), some (.int l3), some (.int l4), some (.int x1), some (.int (l6 + 1))], [], t, 0, 0)) ∧ (¬ (¬ (t.2.1 (ad 151) (((1300 * l4) + l6) : Int32).toNatClampNeg) = 15) → ∀ x2 : Int32, x2 = (l5 + 1) → g_W cx (g_E cx d) mt_Mo_function post (30, [some (.ref (ad 144)), some (.int l1), some (.int l2), some (.int l3), some (.int l4), some (.int x2), some (.int (l6 + 1))], [], t, 0, 0)))))) : g_W cx (g_E cx d) mt_Mo_function post (30, [some (.ref (ad 144)), some (.int l1), some (.int l2), some (.int l3), some (.int l4), some (.int l5), some (.int l6)], [], t, 0, 0) := by
  refine g_run [30, 78, 124, 132, 139, 147, 150, 157, 165, 173, 188] 400 (fun P hP => ?_)
  refine And.intro (hL.k 144 (by decide)) (Or.inl ⟨_, (hL.r 144 14 148 (by decide)), ?_⟩)
  refine Or.inl (And.intro (hL.k 148 (by decide)) (And.intro (hL.v 148 (by decide) h.1) ?_))
  have h := h.2
  refine And.intro (fun c => ?_) (fun c => ?_)
  · have h := h.1 c
    refine hP _ ?_
    rcases g_swc _ 0 7 (by decide) (by decide) (by decide) with c | c | ⟨j, hj, c⟩
    · exact g_sw (tgt := 188) rfl (g_swlo c) (h.2.2.2.2.2.2.2.2 (Or.inl c))
    · exact g_sw (tgt := 188) rfl (g_swhi c) (h.2.2.2.2.2.2.2.2 (Or.inr c))
    · match j, hj with
      | 0, _ => exact g_sw (tgt := 124) rfl (by rw [c]; decide) (h.1 c)
      | 1, _ => exact g_sw (tgt := 132) rfl (by rw [c]; decide) (h.2.1 c)
      | 2, _ => exact g_sw (tgt := 139) rfl (by rw [c]; decide) (h.2.2.1 c)
      | 3, _ => exact g_sw (tgt := 147) rfl (by rw [c]; decide) (h.2.2.2.1 c)
      | 4, _ => exact g_sw (tgt := 150) rfl (by rw [c]; decide) (h.2.2.2.2.1 c)
      | 5, _ => exact g_sw (tgt := 157) rfl (by rw [c]; decide) (h.2.2.2.2.2.1 c)
      | 6, _ => exact g_sw (tgt := 165) rfl (by rw [c]; decide) (h.2.2.2.2.2.2.1 c)
      | 7, _ => exact g_sw (tgt := 173) rfl (by rw [c]; decide) (h.2.2.2.2.2.2.2.1 c)
      | j + 8, hj => exact absurd hj (by omega)
  · have h := h.2 c
    refine And.intro (hL.k 144 (by decide)) (Or.inl ⟨_, (hL.r 144 17 151 (by decide)), ?_⟩)
    refine Or.inl (And.intro (hL.k 151 (by decide)) (And.intro (hL.v 151 (by decide) h.1) ?_))
    have h := h.2
    refine And.intro (fun c => ?_) (fun c => ?_)
    · have h := h.1 c
      have h := h _ rfl
      exact hP _ h
    · have h := h.2 c
      have h := h _ rfl
      exact hP _ h
theorem x_Mo_function_124 {cx : gCx} {d : Nat} {ad : Nat → Nat} {l1 l2 l3 l4 l5 l6 : Int32} {t : gSt} {post : Option Value → gSt → Prop} (hL : Lay t ad) (h : vp_in l4 72 ∧ (post (some (.int (t.2.1 (ad 148) (l4 : Int32).toNatClampNeg))) t)) : g_W cx (g_E cx d) mt_Mo_function post (124, [some (.ref (ad 144)), some (.int l1), some (.int l2), some (.int l3), some (.int l4), some (.int l5), some (.int l6)], [], t, 0, 0) := by
  refine g_run [30, 78, 124, 132, 139, 147, 150, 157, 165, 173, 188] 400 (fun P hP => ?_)
  refine And.intro (hL.k 144 (by decide)) (Or.inl ⟨_, (hL.r 144 14 148 (by decide)), ?_⟩)
  refine Or.inl (And.intro (hL.k 148 (by decide)) (And.intro (hL.v 148 (by decide) h.1) ?_))
  have h := h.2
  exact And.intro rfl (And.intro rfl h)
theorem x_Mo_function_132 {cx : gCx} {d : Nat} {ad : Nat → Nat} {l1 l2 l3 l4 l5 l6 : Int32} {t : gSt} {post : Option Value → gSt → Prop} (hL : Lay t ad) (h : vp_in l2 24 ∧ (post (some (.int (t.2.1 (ad 147) (l2 : Int32).toNatClampNeg))) t)) : g_W cx (g_E cx d) mt_Mo_function post (132, [some (.ref (ad 144)), some (.int l1), some (.int l2), some (.int l3), some (.int l4), some (.int l5), some (.int l6)], [], t, 0, 0) := by
  refine g_run [30, 78, 124, 132, 139, 147, 150, 157, 165, 173, 188] 400 (fun P hP => ?_)
  refine And.intro (hL.k 144 (by decide)) (Or.inl ⟨_, (hL.r 144 13 147 (by decide)), ?_⟩)
  refine Or.inl (And.intro (hL.k 147 (by decide)) (And.intro (hL.v 147 (by decide) h.1) ?_))
  have h := h.2
  exact And.intro rfl (And.intro rfl h)
theorem x_Mo_function_139 {cx : gCx} {d : Nat} {ad : Nat → Nat} {l1 l2 l3 l4 l5 l6 : Int32} {t : gSt} {post : Option Value → gSt → Prop} (hL : Lay t ad) (h : vp_in l4 72 ∧ (post (some (.int (t.2.1 (ad 149) (l4 : Int32).toNatClampNeg))) t)) : g_W cx (g_E cx d) mt_Mo_function post (139, [some (.ref (ad 144)), some (.int l1), some (.int l2), some (.int l3), some (.int l4), some (.int l5), some (.int l6)], [], t, 0, 0) := by
  refine g_run [30, 78, 124, 132, 139, 147, 150, 157, 165, 173, 188] 400 (fun P hP => ?_)
  refine And.intro (hL.k 144 (by decide)) (Or.inl ⟨_, (hL.r 144 15 149 (by decide)), ?_⟩)
  refine Or.inl (And.intro (hL.k 149 (by decide)) (And.intro (hL.v 149 (by decide) h.1) ?_))
  have h := h.2
  exact And.intro rfl (And.intro rfl h)
theorem x_Mo_function_147 {cx : gCx} {d : Nat} {ad : Nat → Nat} {l1 l2 l3 l4 l5 l6 : Int32} {t : gSt} {post : Option Value → gSt → Prop} (hL : Lay t ad) (h : post (some (.int l5)) t) : g_W cx (g_E cx d) mt_Mo_function post (147, [some (.ref (ad 144)), some (.int l1), some (.int l2), some (.int l3), some (.int l4), some (.int l5), some (.int l6)], [], t, 0, 0) := by
  refine g_run [30, 78, 124, 132, 139, 147, 150, 157, 165, 173, 188] 400 (fun P hP => ?_)
  exact And.intro rfl (And.intro rfl h)
theorem x_Mo_function_150 {cx : gCx} {d : Nat} {ad : Nat → Nat} {l1 l2 l3 l4 l5 l6 : Int32} {t : gSt} {post : Option Value → gSt → Prop} (hL : Lay t ad) (h : g_E cx d i_Mo_frame [.ref (ad 144), .int l4] t (fun r u1 => ∃ y2 : Int32, r = some (.int y2) ∧ Lay u1 ad ∧ (post (some (.int y2)) u1))) : g_W cx (g_E cx d) mt_Mo_function post (150, [some (.ref (ad 144)), some (.int l1), some (.int l2), some (.int l3), some (.int l4), some (.int l5), some (.int l6)], [], t, 0, 0) := by
  refine g_run [30, 78, 124, 132, 139, 147, 150, 157, 165, 173, 188] 400 (fun P hP => ?_)
  refine And.intro (hL.k 144 (by decide)) ?_
  refine g_Em h (fun r u h => ?_)
  obtain ⟨y2, rfl, hL, h⟩ := h
  exact And.intro rfl (And.intro rfl h)
theorem x_Mo_function_157 {cx : gCx} {d : Nat} {ad : Nat → Nat} {l1 l2 l3 l4 l5 l6 : Int32} {t : gSt} {post : Option Value → gSt → Prop} (hL : Lay t ad) (h : vp_in l4 48 ∧ (post (some (.int (t.2.1 (ad 184) (l4 : Int32).toNatClampNeg))) t)) : g_W cx (g_E cx d) mt_Mo_function post (157, [some (.ref (ad 144)), some (.int l1), some (.int l2), some (.int l3), some (.int l4), some (.int l5), some (.int l6)], [], t, 0, 0) := by
  refine g_run [30, 78, 124, 132, 139, 147, 150, 157, 165, 173, 188] 400 (fun P hP => ?_)
  refine And.intro (hL.k 144 (by decide)) (Or.inl ⟨_, (hL.r 144 62 184 (by decide)), ?_⟩)
  refine Or.inl (And.intro (hL.k 184 (by decide)) (And.intro (hL.v 184 (by decide) h.1) ?_))
  have h := h.2
  exact And.intro rfl (And.intro rfl h)
theorem x_Mo_function_165 {cx : gCx} {d : Nat} {ad : Nat → Nat} {l1 l2 l3 l4 l5 l6 : Int32} {t : gSt} {post : Option Value → gSt → Prop} (hL : Lay t ad) (h : vp_in l4 48 ∧ (post (some (.int (t.2.1 (ad 188) (l4 : Int32).toNatClampNeg))) t)) : g_W cx (g_E cx d) mt_Mo_function post (165, [some (.ref (ad 144)), some (.int l1), some (.int l2), some (.int l3), some (.int l4), some (.int l5), some (.int l6)], [], t, 0, 0) := by
  refine g_run [30, 78, 124, 132, 139, 147, 150, 157, 165, 173, 188] 400 (fun P hP => ?_)
  refine And.intro (hL.k 144 (by decide)) (Or.inl ⟨_, (hL.r 144 68 188 (by decide)), ?_⟩)
  refine Or.inl (And.intro (hL.k 188 (by decide)) (And.intro (hL.v 188 (by decide) h.1) ?_))
  have h := h.2
  exact And.intro rfl (And.intro rfl h)
theorem x_Mo_function_173 {cx : gCx} {d : Nat} {ad : Nat → Nat} {l1 l2 l3 l4 l5 l6 : Int32} {t : gSt} {post : Option Value → gSt → Prop} (hL : Lay t ad) (h : (¬ l1 = 0 → vp_in l2 24 ∧ (post (some (.int (t.2.1 (ad 150) (l2 : Int32).toNatClampNeg))) t)) ∧ (¬ (¬ l1 = 0) → post (some (.int 0)) t)) : g_W cx (g_E cx d) mt_Mo_function post (173, [some (.ref (ad 144)), some (.int l1), some (.int l2), some (.int l3), some (.int l4), some (.int l5), some (.int l6)], [], t, 0, 0) := by
  refine g_run [30, 78, 124, 132, 139, 147, 150, 157, 165, 173, 188] 400 (fun P hP => ?_)
  refine And.intro (fun c => ?_) (fun c => ?_)
  · have h := h.1 c
    refine And.intro (hL.k 144 (by decide)) (Or.inl ⟨_, (hL.r 144 16 150 (by decide)), ?_⟩)
    refine Or.inl (And.intro (hL.k 150 (by decide)) (And.intro (hL.v 150 (by decide) h.1) ?_))
    have h := h.2
    exact And.intro rfl (And.intro rfl h)
  · have h := h.2 c
    exact And.intro rfl (And.intro rfl h)
theorem x_Mo_function_188 {cx : gCx} {d : Nat} {ad : Nat → Nat} {l1 l2 l3 l4 l5 l6 : Int32} {t : gSt} {post : Option Value → gSt → Prop} (hL : Lay t ad) (h : post (some (.int (-2))) t) : g_W cx (g_E cx d) mt_Mo_function post (188, [some (.ref (ad 144)), some (.int l1), some (.int l2), some (.int l3), some (.int l4), some (.int l5), some (.int l6)], [], t, 0, 0) := by
  refine g_run [30, 78, 124, 132, 139, 147, 150, 157, 165, 173, 188] 400 (fun P hP => ?_)
  exact And.intro rfl (And.intro rfl h)
theorem x_Mo_code {cx : gCx} {d : Nat} {ad : Nat → Nat} {a1 a2 a3 a4 : Int32} {t : gSt} {post : Option Value → gSt → Prop} (hL : Lay t ad) (h : ∀ t1, t1 = g_si t (ad 144) 0 0 → g_E cx d i_Mo_noFunction [.ref (ad 144), .int a1, .int a2] t1 (fun r u2 => ∃ y3 : Int32, r = some (.int y3) ∧ Lay u2 ad ∧ ((¬ y3 = 0 → post (some (.int (-1))) u2) ∧ (¬ (¬ y3 = 0) → vp_in ((24 * a1) + a2) 48 ∧ (g_E cx d i_Mo_in [.long a3.toInt64, .long 0, .long ((u2.2.1 (ad 184) (((24 * a1) + a2) : Int32).toNatClampNeg) - 1).toInt64] u2 (fun r u4 => ∃ y5 : Int32, r = some (.int y5) ∧ Lay u4 ad ∧ ((¬ y5 = 0 → ∀ x6 : Int32, x6 = ((1600 * ((24 * a1) + a2)) + a3) → (¬ a4 = 0 → (¬ a4 = 1 → post (some (.int (-2))) u4) ∧ (¬ (¬ a4 = 1) → vp_in x6 76800 ∧ (post (some (.int (u4.2.1 (ad 183) (x6 : Int32).toNatClampNeg))) u4))) ∧ (¬ (¬ a4 = 0) → vp_in x6 76800 ∧ (post (some (.int (u4.2.1 (ad 182) (x6 : Int32).toNatClampNeg))) u4))) ∧ (¬ (¬ y5 = 0) → post (some (.int (-1))) u4)))))))) : g_E cx (d + 1) i_Mo_code [.ref (ad 144), .int a1, .int a2, .int a3, .int a4] t post := by
  refine g_call mt_Mo_code rfl (by decide) (Nat.le_of_ble_eq_true rfl) ?_
  refine g_run [] 400 (fun P hP => ?_)
  refine And.intro (hL.k 144 (by decide)) ?_
  have h := h _ rfl
  refine And.intro (hL.k 144 (by decide)) ?_
  refine g_Em h (fun r u h => ?_)
  obtain ⟨y3, rfl, hL, h⟩ := h
  refine And.intro (fun c => ?_) (fun c => ?_)
  · have h := h.1 c
    exact And.intro rfl (And.intro rfl h)
  · have h := h.2 c
    refine And.intro (hL.k 144 (by decide)) (Or.inl ⟨_, (hL.r 144 62 184 (by decide)), ?_⟩)
    refine Or.inl (And.intro (hL.k 184 (by decide)) (And.intro (hL.v 184 (by decide) h.1) ?_))
    have h := h.2
    refine g_Em h (fun r u h => ?_)
    obtain ⟨y5, rfl, hL, h⟩ := h
    refine And.intro (fun c => ?_) (fun c => ?_)
    · have h := h.1 c
      have h := h _ rfl
      refine And.intro (fun c => ?_) (fun c => ?_)
      · have h := h.1 c
        refine And.intro (fun c => ?_) (fun c => ?_)
        · have h := h.1 c
          exact And.intro rfl (And.intro rfl h)
        · have h := h.2 c
          refine And.intro (hL.k 144 (by decide)) (Or.inl ⟨_, (hL.r 144 61 183 (by decide)), ?_⟩)
          refine Or.inl (And.intro (hL.k 183 (by decide)) (And.intro (hL.v 183 (by decide) h.1) ?_))
          have h := h.2
          exact And.intro rfl (And.intro rfl h)
      · have h := h.2 c
        refine And.intro (hL.k 144 (by decide)) (Or.inl ⟨_, (hL.r 144 60 182 (by decide)), ?_⟩)
        refine Or.inl (And.intro (hL.k 182 (by decide)) (And.intro (hL.v 182 (by decide) h.1) ?_))
        have h := h.2
        exact And.intro rfl (And.intro rfl h)
    · have h := h.2 c
      exact And.intro rfl (And.intro rfl h)
