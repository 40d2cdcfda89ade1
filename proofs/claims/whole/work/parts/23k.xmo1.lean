/-! PRINTED by wip/gen/xparts.py: symbolic execution, method by method -/
theorem x_Mo_sign {cx : gCx} {d : Nat} {ad : Nat → Nat} {a1 : Int32} {t : gSt} {post : Option Value → gSt → Prop} (hL : Lay t ad) (h : ((t.2.1 (ad 144) 2) ≤ a1 → post (some (.int (-1))) t) ∧ (¬ ((t.2.1 (ad 144) 2) ≤ a1) → vp_in a1 3000 ∧ (post (some (.int ((t.2.1 (ad 145) (a1 : Int32).toNatClampNeg) &&& 255))) t))) : g_E cx (d + 1) i_Mo_sign [.ref (ad 144), .int a1] t post := by
  refine g_call mt_Mo_sign rfl (by decide) (Nat.le_of_ble_eq_true rfl) ?_
  refine g_run [] 400 (fun P hP => ?_)
  refine And.intro (hL.k 144 (by decide)) ?_
  refine And.intro (fun c => ?_) (fun c => ?_)
  · have h := h.1 c
    exact And.intro rfl (And.intro rfl h)
  · have h := h.2 c
    refine And.intro (hL.k 144 (by decide)) (Or.inl ⟨_, (hL.r 144 1 145 (by decide)), ?_⟩)
    refine Or.inl (And.intro (Or.inl (hL.k 145 (by decide))) (And.intro (hL.v 145 (by decide) h.1) ?_))
    have h := h.2
    exact And.intro rfl (And.intro rfl h)
theorem x_Mo_letter {cx : gCx} {d : Nat} {ad : Nat → Nat} {a1 : Int32} {t : gSt} {post : Option Value → gSt → Prop} (hL : Lay t ad) (h : g_E cx d i_Mo_in [.long a1.toInt64, .long 97, .long 122] t (fun r u1 => ∃ y2 : Int32, r = some (.int y2) ∧ Lay u1 ad ∧ ((y2 = 0 → g_E cx d i_Mo_in [.long a1.toInt64, .long 48, .long 57] u1 (fun r u3 => ∃ y4 : Int32, r = some (.int y4) ∧ Lay u3 ad ∧ ((y4 = 0 → post (some (.int 0)) u3) ∧ (¬ (y4 = 0) → post (some (.int ((a1 - 48) + 27))) u3)))) ∧ (¬ (y2 = 0) → post (some (.int ((a1 - 97) + 1))) u1)))) : g_E cx (d + 1) i_Mo_letter [.int a1] t post := by
  refine g_call mt_Mo_letter rfl (by decide) (Nat.le_of_ble_eq_true rfl) ?_
  refine g_run [] 400 (fun P hP => ?_)
  refine g_Em h (fun r u h => ?_)
  obtain ⟨y2, rfl, hL, h⟩ := h
  refine And.intro (fun c => ?_) (fun c => ?_)
  · have h := h.1 c
    refine g_Em h (fun r u h => ?_)
    obtain ⟨y4, rfl, hL, h⟩ := h
    refine And.intro (fun c => ?_) (fun c => ?_)
    · have h := h.1 c
      exact And.intro rfl (And.intro rfl h)
    · have h := h.2 c
      exact And.intro rfl (And.intro rfl h)
  · have h := h.2 c
    exact And.intro rfl (And.intro rfl h)
theorem x_Mo_look {cx : gCx} {d : Nat} {ad : Nat → Nat} {t : gSt} {post : Option Value → gSt → Prop} (hL : Lay t ad) (h : ((t.2.1 (ad 144) 3) ≤ 0 → ((t.2.1 (ad 144) 6) = 0 → g_W cx (g_E cx d) mt_Mo_look post (21, [some (.ref (ad 144)), none, none], [], t, 0, 0)) ∧ (¬ ((t.2.1 (ad 144) 6) = 0) → post (some (.int (t.2.1 (ad 144) 7))) t)) ∧ (¬ ((t.2.1 (ad 144) 3) ≤ 0) → post (some (.int (-1))) t)) : g_E cx (d + 1) i_Mo_look [.ref (ad 144)] t post := by
  refine g_call mt_Mo_look rfl (by decide) (Nat.le_of_ble_eq_true rfl) ?_
  refine g_run [21, 73, 141, 189, 319, 359, 416, 457, 623, 642, 661, 665, 680] 400 (fun P hP => ?_)
  refine And.intro (hL.k 144 (by decide)) ?_
  refine And.intro (fun c => ?_) (fun c => ?_)
  · have h := h.1 c
    refine And.intro (hL.k 144 (by decide)) ?_
    refine And.intro (fun c => ?_) (fun c => ?_)
    · have h := h.1 c
      exact hP _ h
    · have h := h.2 c
      refine And.intro (hL.k 144 (by decide)) ?_
      exact And.intro rfl (And.intro rfl h)
  · have h := h.2 c
    exact And.intro rfl (And.intro rfl h)
theorem x_Mo_look_21 {cx : gCx} {d : Nat} {ad : Nat → Nat} {t : gSt} {post : Option Value → gSt → Prop} (hL : Lay t ad) (h : g_E cx d i_Mo_sign [.ref (ad 144), .int (t.2.1 (ad 144) 5)] t (fun r u1 => ∃ y2 : Int32, r = some (.int y2) ∧ Lay u1 ad ∧ ((y2 = 9 → g_W cx (g_E cx d) mt_Mo_look post (73, [some (.ref (ad 144)), none, none], [], u1, 0, 0)) ∧ (¬ (y2 = 9) → g_E cx d i_Mo_sign [.ref (ad 144), .int (u1.2.1 (ad 144) 5)] u1 (fun r u3 => ∃ y4 : Int32, r = some (.int y4) ∧ Lay u3 ad ∧ ((y4 = 10 → g_W cx (g_E cx d) mt_Mo_look post (73, [some (.ref (ad 144)), none, none], [], u3, 0, 0)) ∧ (¬ (y4 = 10) → g_E cx d i_Mo_sign [.ref (ad 144), .int (u3.2.1 (ad 144) 5)] u3 (fun r u5 => ∃ y6 : Int32, r = some (.int y6) ∧ Lay u5 ad ∧ ((y6 = 13 → g_W cx (g_E cx d) mt_Mo_look post (73, [some (.ref (ad 144)), none, none], [], u5, 0, 0)) ∧ (¬ (y6 = 13) → g_E cx d i_Mo_sign [.ref (ad 144), .int (u5.2.1 (ad 144) 5)] u5 (fun r u7 => ∃ y8 : Int32, r = some (.int y8) ∧ Lay u7 ad ∧ ((¬ y8 = 32 → ∀ t9, t9 = g_si u7 (ad 144) 6 1 → ∀ t10, t10 = g_si t9 (ad 144) 8 (t9.2.1 (ad 144) 5) → g_E cx d i_Mo_sign [.ref (ad 144), .int (t10.2.1 (ad 144) 5)] t10 (fun r u11 => ∃ y12 : Int32, r = some (.int y12) ∧ Lay u11 ad ∧ ((0 ≤ y12 → g_E cx d i_Mo_in [.long y12.toInt64, .long 97, .long 122] u11 (fun r u13 => ∃ y14 : Int32, r = some (.int y14) ∧ Lay u13 ad ∧ ((y14 = 0 → g_E cx d i_Mo_in [.long y12.toInt64, .long 48, .long 57] u13 (fun r u15 => ∃ y16 : Int32, r = some (.int y16) ∧ Lay u15 ad ∧ ((y16 = 0 → (¬ y12 = 40 → (¬ y12 = 41 → (¬ y12 = 44 → (¬ y12 = 59 → (¬ y12 = 61 → (¬ y12 = 43 → (¬ y12 = 45 → (¬ y12 = 42 → (¬ y12 = 47 → (¬ y12 = 37 → (¬ y12 = 60 → (¬ y12 = 46 → g_W cx (g_E cx d) mt_Mo_look post (623, [some (.ref (ad 144)), some (.int y12), some (.int 0)], [.int (-1), .ref (ad 144)], u15, 0, 0)) ∧ (¬ (¬ y12 = 46) → g_W cx (g_E cx d) mt_Mo_look post (623, [some (.ref (ad 144)), some (.int y12), some (.int 0)], [.int 22, .ref (ad 144)], u15, 0, 0))) ∧ (¬ (¬ y12 = 60) → g_W cx (g_E cx d) mt_Mo_look post (623, [some (.ref (ad 144)), some (.int y12), some (.int 0)], [.int 20, .ref (ad 144)], u15, 0, 0))) ∧ (¬ (¬ y12 = 37) → g_W cx (g_E cx d) mt_Mo_look post (623, [some (.ref (ad 144)), some (.int y12), some (.int 0)], [.int 19, .ref (ad 144)], u15, 0, 0))) ∧ (¬ (¬ y12 = 47) → g_W cx (g_E cx d) mt_Mo_look post (623, [some (.ref (ad 144)), some (.int y12), some (.int 0)], [.int 18, .ref (ad 144)], u15, 0, 0))) ∧ (¬ (¬ y12 = 42) → g_W cx (g_E cx d) mt_Mo_look post (623, [some (.ref (ad 144)), some (.int y12), some (.int 0)], [.int 17, .ref (ad 144)], u15, 0, 0))) ∧ (¬ (¬ y12 = 45) → g_W cx (g_E cx d) mt_Mo_look post (623, [some (.ref (ad 144)), some (.int y12), some (.int 0)], [.int 16, .ref (ad 144)], u15, 0, 0))) ∧ (¬ (¬ y12 = 43) → g_W cx (g_E cx d) mt_Mo_look post (623, [some (.ref (ad 144)), some (.int y12), some (.int 0)], [.int 15, .ref (ad 144)], u15, 0, 0))) ∧ (¬ (¬ y12 = 61) → g_E cx d i_Mo_sign [.ref (ad 144), .int ((u15.2.1 (ad 144) 5) + 1)] u15 (fun r u17 => ∃ y18 : Int32, r = some (.int y18) ∧ Lay u17 ad ∧ ((¬ y18 = 61 → g_W cx (g_E cx d) mt_Mo_look post (623, [some (.ref (ad 144)), some (.int y12), some (.int 0)], [.int 14, .ref (ad 144)], u17, 0, 0)) ∧ (¬ (¬ y18 = 61) → g_W cx (g_E cx d) mt_Mo_look post (623, [some (.ref (ad 144)), some (.int y12), some (.int 0)], [.int 21, .ref (ad 144)], u17, 0, 0)))))) ∧ (¬ (¬ y12 = 59) → g_W cx (g_E cx d) mt_Mo_look post (623, [some (.ref (ad 144)), some (.int y12), some (.int 0)], [.int 13, .ref (ad 144)], u15, 0, 0))) ∧ (¬ (¬ y12 = 44) → g_W cx (g_E cx d) mt_Mo_look post (623, [some (.ref (ad 144)), some (.int y12), some (.int 0)], [.int 12, .ref (ad 144)], u15, 0, 0))) ∧ (¬ (¬ y12 = 41) → g_W cx (g_E cx d) mt_Mo_look post (623, [some (.ref (ad 144)), some (.int y12), some (.int 0)], [.int 11, .ref (ad 144)], u15, 0, 0))) ∧ (¬ (¬ y12 = 40) → g_W cx (g_E cx d) mt_Mo_look post (623, [some (.ref (ad 144)), some (.int y12), some (.int 0)], [.int 10, .ref (ad 144)], u15, 0, 0))) ∧ (¬ (y16 = 0) → ∀ t19, t19 = g_sj u15 (ad 144) 9 0 → g_W cx (g_E cx d) mt_Mo_look post (359, [some (.ref (ad 144)), some (.int y12), some (.int 0)], [], t19, 0, 0))))) ∧ (¬ (y14 = 0) → ∀ t20, t20 = g_sj u13 (ad 144) 10 0 → g_W cx (g_E cx d) mt_Mo_look post (141, [some (.ref (ad 144)), some (.int y12), some (.int 0)], [], t20, 0, 0))))) ∧ (¬ (0 ≤ y12) → ∀ t21, t21 = g_si u11 (ad 144) 7 0 → g_W cx (g_E cx d) mt_Mo_look post (665, [some (.ref (ad 144)), some (.int y12), some (.int 0)], [], t21, 0, 0))))) ∧ (¬ (¬ y8 = 32) → g_W cx (g_E cx d) mt_Mo_look post (73, [some (.ref (ad 144)), none, none], [], u7, 0, 0)))))))))))))) : g_W cx (g_E cx d) mt_Mo_look post (21, [some (.ref (ad 144)), none, none], [], t, 0, 0) := by
  refine g_run [21, 73, 141, 189, 319, 359, 416, 457, 623, 642, 661, 665, 680] 400 (fun P hP => ?_)
  refine And.intro (hL.k 144 (by decide)) ?_
  refine And.intro (hL.k 144 (by decide)) ?_
  refine g_Em h (fun r u h => ?_)
  obtain ⟨y2, rfl, hL, h⟩ := h
  refine And.intro (fun c => ?_) (fun c => ?_)
  · have h := h.1 c
    exact hP _ h
  · have h := h.2 c
    refine And.intro (hL.k 144 (by decide)) ?_
    refine And.intro (hL.k 144 (by decide)) ?_
    refine g_Em h (fun r u h => ?_)
    obtain ⟨y4, rfl, hL, h⟩ := h
    refine And.intro (fun c => ?_) (fun c => ?_)
    · have h := h.1 c
      exact hP _ h
    · have h := h.2 c
      refine And.intro (hL.k 144 (by decide)) ?_
      refine And.intro (hL.k 144 (by decide)) ?_
      refine g_Em h (fun r u h => ?_)
      obtain ⟨y6, rfl, hL, h⟩ := h
      refine And.intro (fun c => ?_) (fun c => ?_)
      · have h := h.1 c
        exact hP _ h
      · have h := h.2 c
        refine And.intro (hL.k 144 (by decide)) ?_
        refine And.intro (hL.k 144 (by decide)) ?_
        refine g_Em h (fun r u h => ?_)
        obtain ⟨y8, rfl, hL, h⟩ := h
        refine And.intro (fun c => ?_) (fun c => ?_)
        · have h := h.1 c
          refine And.intro (hL.k 144 (by decide)) (And.intro ⟨rfl, rfl⟩ ?_)
          have h := h _ rfl
          refine And.intro (hL.k 144 (by decide)) ?_
          refine And.intro (hL.k 144 (by decide)) ?_
          have h := h _ rfl
          refine And.intro (hL.k 144 (by decide)) ?_
          refine And.intro (hL.k 144 (by decide)) ?_
          refine g_Em h (fun r u h => ?_)
          obtain ⟨y12, rfl, hL, h⟩ := h
          refine And.intro (fun c => ?_) (fun c => ?_)
          · have h := h.1 c
            refine g_Em h (fun r u h => ?_)
            obtain ⟨y14, rfl, hL, h⟩ := h
            refine And.intro (fun c => ?_) (fun c => ?_)
            · have h := h.1 c
              refine g_Em h (fun r u h => ?_)
              obtain ⟨y16, rfl, hL, h⟩ := h
              refine And.intro (fun c => ?_) (fun c => ?_)
              · have h := h.1 c
                refine And.intro (fun c => ?_) (fun c => ?_)
                · have h := h.1 c
                  refine And.intro (fun c => ?_) (fun c => ?_)
                  · have h := h.1 c
                    refine And.intro (fun c => ?_) (fun c => ?_)
                    · have h := h.1 c
                      refine And.intro (fun c => ?_) (fun c => ?_)
                      · have h := h.1 c
                        refine And.intro (fun c => ?_) (fun c => ?_)
                        · have h := h.1 c
                          refine And.intro (fun c => ?_) (fun c => ?_)
                          · have h := h.1 c
                            refine And.intro (fun c => ?_) (fun c => ?_)
                            · have h := h.1 c
                              refine And.intro (fun c => ?_) (fun c => ?_)
                              · have h := h.1 c
                                refine And.intro (fun c => ?_) (fun c => ?_)
                                · have h := h.1 c
                                  refine And.intro (fun c => ?_) (fun c => ?_)
                                  · have h := h.1 c
                                    refine And.intro (fun c => ?_) (fun c => ?_)
                                    · have h := h.1 c
                                      refine And.intro (fun c => ?_) (fun c => ?_)
                                      · have h := h.1 c
                                        exact hP _ h
                                      · have h := h.2 c
                                        exact hP _ h
                                    · have h := h.2 c
                                      exact hP _ h
                                  · have h := h.2 c
                                    exact hP _ h
                                · have h := h.2 c
                                  exact hP _ h
                              · have h := h.2 c
                                exact hP _ h
                            · have h := h.2 c
                              exact hP _ h
                          · have h := h.2 c
                            exact hP _ h
                        · have h := h.2 c
                          refine And.intro (hL.k 144 (by decide)) ?_
                          refine And.intro (hL.k 144 (by decide)) ?_
                          refine g_Em h (fun r u h => ?_)
                          obtain ⟨y18, rfl, hL, h⟩ := h
                          refine And.intro (fun c => ?_) (fun c => ?_)
                          · have h := h.1 c
                            exact hP _ h
                          · have h := h.2 c
                            exact hP _ h
                      · have h := h.2 c
                        exact hP _ h
                    · have h := h.2 c
                      exact hP _ h
                  · have h := h.2 c
                    exact hP _ h
                · have h := h.2 c
                  exact hP _ h
              · have h := h.2 c
                refine And.intro (hL.k 144 (by decide)) ?_
                have h := h _ rfl
                exact hP _ h
            · have h := h.2 c
              refine And.intro (hL.k 144 (by decide)) ?_
              have h := h _ rfl
              exact hP _ h
          · have h := h.2 c
            refine And.intro (hL.k 144 (by decide)) ?_
            have h := h _ rfl
            exact hP _ h
        · have h := h.2 c
          exact hP _ h
theorem x_Mo_look_73 {cx : gCx} {d : Nat} {ad : Nat → Nat} {t : gSt} {post : Option Value → gSt → Prop} (hL : Lay t ad) (h : ∀ t1, t1 = g_si t (ad 144) 5 ((t.2.1 (ad 144) 5) + 1) → g_W cx (g_E cx d) mt_Mo_look post (21, [some (.ref (ad 144)), none, none], [], t1, 0, 0)) : g_W cx (g_E cx d) mt_Mo_look post (73, [some (.ref (ad 144)), none, none], [], t, 0, 0) := by
  refine g_run [21, 73, 141, 189, 319, 359, 416, 457, 623, 642, 661, 665, 680] 400 (fun P hP => ?_)
  refine And.intro (hL.k 144 (by decide)) ?_
  refine And.intro (hL.k 144 (by decide)) ?_
  have h := h _ rfl
  exact hP _ h
theorem x_Mo_look_141 {cx : gCx} {d : Nat} {ad : Nat → Nat} {l1 l2 : Int32} {t : gSt} {post : Option Value → gSt → Prop} (hL : Lay t ad) (h : g_E cx d i_Mo_sign [.ref (ad 144), .int (t.2.1 (ad 144) 5)] t (fun r u1 => ∃ y2 : Int32, r = some (.int y2) ∧ Lay u1 ad ∧ (g_E cx d i_Mo_letter [.int y2] u1 (fun r u3 => ∃ y4 : Int32, r = some (.int y4) ∧ Lay u3 ad ∧ ((y4 ≤ 0 → (¬ (lg_cmp (u3.2.2.1 (ad 144) 10) 16710) = 0 → (¬ (lg_cmp (u3.2.2.1 (ad 144) 10) 49492) = 0 → (¬ (lg_cmp (u3.2.2.1 (ad 144) 10) 590) = 0 → (¬ (lg_cmp (u3.2.2.1 (ad 144) 10) 582) = 0 → (¬ (lg_cmp (u3.2.2.1 (ad 144) 10) 5275982) = 0 → (¬ (lg_cmp (u3.2.2.1 (ad 144) 10) 1361093) = 0 → (¬ (lg_cmp (u3.2.2.1 (ad 144) 10) 66900) = 0 → g_W cx (g_E cx d) mt_Mo_look post (319, [some (.ref (ad 144)), some (.int l1), some (.int l2)], [.int 2, .ref (ad 144)], u3, 0, 0)) ∧ (¬ (¬ (lg_cmp (u3.2.2.1 (ad 144) 10) 66900) = 0) → g_W cx (g_E cx d) mt_Mo_look post (319, [some (.ref (ad 144)), some (.int l1), some (.int l2)], [.int 9, .ref (ad 144)], u3, 0, 0))) ∧ (¬ (¬ (lg_cmp (u3.2.2.1 (ad 144) 10) 1361093) = 0) → g_W cx (g_E cx d) mt_Mo_look post (319, [some (.ref (ad 144)), some (.int l1), some (.int l2)], [.int 8, .ref (ad 144)], u3, 0, 0))) ∧ (¬ (¬ (lg_cmp (u3.2.2.1 (ad 144) 10) 5275982) = 0) → g_W cx (g_E cx d) mt_Mo_look post (319, [some (.ref (ad 144)), some (.int l1), some (.int l2)], [.int 7, .ref (ad 144)], u3, 0, 0))) ∧ (¬ (¬ (lg_cmp (u3.2.2.1 (ad 144) 10) 582) = 0) → g_W cx (g_E cx d) mt_Mo_look post (319, [some (.ref (ad 144)), some (.int l1), some (.int l2)], [.int 6, .ref (ad 144)], u3, 0, 0))) ∧ (¬ (¬ (lg_cmp (u3.2.2.1 (ad 144) 10) 590) = 0) → g_W cx (g_E cx d) mt_Mo_look post (319, [some (.ref (ad 144)), some (.int l1), some (.int l2)], [.int 5, .ref (ad 144)], u3, 0, 0))) ∧ (¬ (¬ (lg_cmp (u3.2.2.1 (ad 144) 10) 49492) = 0) → g_W cx (g_E cx d) mt_Mo_look post (319, [some (.ref (ad 144)), some (.int l1), some (.int l2)], [.int 4, .ref (ad 144)], u3, 0, 0))) ∧ (¬ (¬ (lg_cmp (u3.2.2.1 (ad 144) 10) 16710) = 0) → g_W cx (g_E cx d) mt_Mo_look post (319, [some (.ref (ad 144)), some (.int l1), some (.int l2)], [.int 3, .ref (ad 144)], u3, 0, 0))) ∧ (¬ (y4 ≤ 0) → (8 ≤ l2 → g_W cx (g_E cx d) mt_Mo_look post (189, [some (.ref (ad 144)), some (.int l1), some (.int l2)], [.long (u3.2.2.1 (ad 144) 10), .ref (ad 144)], u3, 0, 0)) ∧ (¬ (8 ≤ l2) → g_E cx d i_Mo_sign [.ref (ad 144), .int (u3.2.1 (ad 144) 5)] u3 (fun r u5 => ∃ y6 : Int32, r = some (.int y6) ∧ Lay u5 ad ∧ (g_E cx d i_Mo_letter [.int y6] u5 (fun r u7 => ∃ y8 : Int32, r = some (.int y8) ∧ Lay u7 ad ∧ (g_W cx (g_E cx d) mt_Mo_look post (189, [some (.ref (ad 144)), some (.int l1), some (.int l2)], [.long (((u3.2.2.1 (ad 144) 10) <<< ((6 : Int32).toInt64 &&& 63)) ||| y8.toInt64), .ref (ad 144)], u7, 0, 0)))))))))))) : g_W cx (g_E cx d) mt_Mo_look post (141, [some (.ref (ad 144)), some (.int l1), some (.int l2)], [], t, 0, 0) := by
  refine g_run [21, 73, 141, 189, 319, 359, 416, 457, 623, 642, 661, 665, 680] 400 (fun P hP => ?_)
  refine And.intro (hL.k 144 (by decide)) ?_
  refine And.intro (hL.k 144 (by decide)) ?_
  refine g_Em h (fun r u h => ?_)
  obtain ⟨y2, rfl, hL, h⟩ := h
  refine g_Em h (fun r u h => ?_)
  obtain ⟨y4, rfl, hL, h⟩ := h
  refine And.intro (fun c => ?_) (fun c => ?_)
  · have h := h.1 c
    refine And.intro (hL.k 144 (by decide)) ?_
    refine And.intro (fun c => ?_) (fun c => ?_)
    · have h := h.1 c
      refine And.intro (hL.k 144 (by decide)) ?_
      refine And.intro (fun c => ?_) (fun c => ?_)
      · have h := h.1 c
        refine And.intro (hL.k 144 (by decide)) ?_
        refine And.intro (fun c => ?_) (fun c => ?_)
        · have h := h.1 c
          refine And.intro (hL.k 144 (by decide)) ?_
          refine And.intro (fun c => ?_) (fun c => ?_)
          · have h := h.1 c
            refine And.intro (hL.k 144 (by decide)) ?_
            refine And.intro (fun c => ?_) (fun c => ?_)
            · have h := h.1 c
              refine And.intro (hL.k 144 (by decide)) ?_
              refine And.intro (fun c => ?_) (fun c => ?_)
              · have h := h.1 c
                refine And.intro (hL.k 144 (by decide)) ?_
                refine And.intro (fun c => ?_) (fun c => ?_)
                · have h := h.1 c
                  exact hP _ h
                · have h := h.2 c
                  exact hP _ h
              · have h := h.2 c
                exact hP _ h
            · have h := h.2 c
              exact hP _ h
          · have h := h.2 c
            exact hP _ h
        · have h := h.2 c
          exact hP _ h
      · have h := h.2 c
        exact hP _ h
    · have h := h.2 c
      exact hP _ h
  · have h := h.2 c
    refine And.intro (fun c => ?_) (fun c => ?_)
    · have h := h.1 c
      refine And.intro (hL.k 144 (by decide)) ?_
      exact hP _ h
    · have h := h.2 c
      refine And.intro (hL.k 144 (by decide)) ?_
      refine And.intro (hL.k 144 (by decide)) ?_
      refine And.intro (hL.k 144 (by decide)) ?_
      refine g_Em h (fun r u h => ?_)
      obtain ⟨y6, rfl, hL, h⟩ := h
      refine g_Em h (fun r u h => ?_)
      obtain ⟨y8, rfl, hL, h⟩ := h
      exact hP _ h
theorem x_Mo_look_189 {cx : gCx} {d : Nat} {ad : Nat → Nat} {l1 l2 : Int32} {s0 : Int64} {t : gSt} {post : Option Value → gSt → Prop} (hL : Lay t ad) (h : ∀ t1, t1 = g_sj t (ad 144) 10 s0 → ∀ t2, t2 = g_si t1 (ad 144) 5 ((t1.2.1 (ad 144) 5) + 1) → g_W cx (g_E cx d) mt_Mo_look post (141, [some (.ref (ad 144)), some (.int l1), some (.int (l2 + 1))], [], t2, 0, 0)) : g_W cx (g_E cx d) mt_Mo_look post (189, [some (.ref (ad 144)), some (.int l1), some (.int l2)], [.long s0, .ref (ad 144)], t, 0, 0) := by
  refine g_run [21, 73, 141, 189, 319, 359, 416, 457, 623, 642, 661, 665, 680] 400 (fun P hP => ?_)
  refine And.intro (hL.k 144 (by decide)) ?_
  have h := h _ rfl
  refine And.intro (hL.k 144 (by decide)) ?_
  refine And.intro (hL.k 144 (by decide)) ?_
  have h := h _ rfl
  exact hP _ h
theorem x_Mo_look_319 {cx : gCx} {d : Nat} {ad : Nat → Nat} {l1 l2 s0 : Int32} {t : gSt} {post : Option Value → gSt → Prop} (hL : Lay t ad) (h : ∀ t1, t1 = g_si t (ad 144) 7 s0 → (l2 ≤ 8 → g_W cx (g_E cx d) mt_Mo_look post (665, [some (.ref (ad 144)), some (.int l1), some (.int l2)], [], t1, 0, 0)) ∧ (¬ (l2 ≤ 8) → g_E cx d i_Mo_fail [.ref (ad 144), .int 1, .int (t1.2.1 (ad 144) 8)] t1 (fun r u2 => r = none ∧ Lay u2 ad ∧ (g_W cx (g_E cx d) mt_Mo_look post (665, [some (.ref (ad 144)), some (.int l1), some (.int l2)], [], u2, 0, 0))))) : g_W cx (g_E cx d) mt_Mo_look post (319, [some (.ref (ad 144)), some (.int l1), some (.int l2)], [.int s0, .ref (ad 144)], t, 0, 0) := by
  refine g_run [21, 73, 141, 189, 319, 359, 416, 457, 623, 642, 661, 665, 680] 400 (fun P hP => ?_)
  refine And.intro (hL.k 144 (by decide)) ?_
  have h := h _ rfl
  refine And.intro (fun c => ?_) (fun c => ?_)
  · have h := h.1 c
    exact hP _ h
  · have h := h.2 c
    refine And.intro (hL.k 144 (by decide)) ?_
    refine And.intro (hL.k 144 (by decide)) ?_
    refine g_Em h (fun r u h => ?_)
    obtain ⟨rfl, hL, h⟩ := h
    exact hP _ h
theorem x_Mo_look_359 {cx : gCx} {d : Nat} {ad : Nat → Nat} {l1 l2 : Int32} {t : gSt} {post : Option Value → gSt → Prop} (hL : Lay t ad) (h : g_E cx d i_Mo_sign [.ref (ad 144), .int (t.2.1 (ad 144) 5)] t (fun r u1 => ∃ y2 : Int32, r = some (.int y2) ∧ Lay u1 ad ∧ (g_E cx d i_Mo_in [.long y2.toInt64, .long 48, .long 57] u1 (fun r u3 => ∃ y4 : Int32, r = some (.int y4) ∧ Lay u3 ad ∧ ((y4 = 0 → ∀ t5, t5 = g_si u3 (ad 144) 7 1 → (10 < l2 → g_W cx (g_E cx d) mt_Mo_look post (457, [some (.ref (ad 144)), some (.int l1), some (.int l2)], [], t5, 0, 0)) ∧ (¬ (10 < l2) → ((lg_cmp (t5.2.2.1 (ad 144) 9) 2147483647) ≤ 0 → g_W cx (g_E cx d) mt_Mo_look post (665, [some (.ref (ad 144)), some (.int l1), some (.int l2)], [], t5, 0, 0)) ∧ (¬ ((lg_cmp (t5.2.2.1 (ad 144) 9) 2147483647) ≤ 0) → g_W cx (g_E cx d) mt_Mo_look post (457, [some (.ref (ad 144)), some (.int l1), some (.int l2)], [], t5, 0, 0)))) ∧ (¬ (y4 = 0) → (10 ≤ l2 → g_W cx (g_E cx d) mt_Mo_look post (416, [some (.ref (ad 144)), some (.int l1), some (.int l2)], [.long (u3.2.2.1 (ad 144) 9), .ref (ad 144)], u3, 0, 0)) ∧ (¬ (10 ≤ l2) → g_E cx d i_Mo_sign [.ref (ad 144), .int (u3.2.1 (ad 144) 5)] u3 (fun r u6 => ∃ y7 : Int32, r = some (.int y7) ∧ Lay u6 ad ∧ (g_W cx (g_E cx d) mt_Mo_look post (416, [some (.ref (ad 144)), some (.int l1), some (.int l2)], [.long (((10 * (u3.2.2.1 (ad 144) 9)) + y7.toInt64) - 48), .ref (ad 144)], u6, 0, 0)))))))))) : g_W cx (g_E cx d) mt_Mo_look post (359, [some (.ref (ad 144)), some (.int l1), some (.int l2)], [], t, 0, 0) := by
  refine g_run [21, 73, 141, 189, 319, 359, 416, 457, 623, 642, 661, 665, 680] 400 (fun P hP => ?_)
  refine And.intro (hL.k 144 (by decide)) ?_
  refine And.intro (hL.k 144 (by decide)) ?_
  refine g_Em h (fun r u h => ?_)
  obtain ⟨y2, rfl, hL, h⟩ := h
  refine g_Em h (fun r u h => ?_)
  obtain ⟨y4, rfl, hL, h⟩ := h
  refine And.intro (fun c => ?_) (fun c => ?_)
  · have h := h.1 c
    refine And.intro (hL.k 144 (by decide)) ?_
    have h := h _ rfl
    refine And.intro (fun c => ?_) (fun c => ?_)
    · have h := h.1 c
      exact hP _ h
    · have h := h.2 c
      refine And.intro (hL.k 144 (by decide)) ?_
      refine And.intro (fun c => ?_) (fun c => ?_)
      · have h := h.1 c
        exact hP _ h
      · have h := h.2 c
        exact hP _ h
  · have h := h.2 c
    refine And.intro (fun c => ?_) (fun c => ?_)
    · have h := h.1 c
      refine And.intro (hL.k 144 (by decide)) ?_
      exact hP _ h
    · have h := h.2 c
      refine And.intro (hL.k 144 (by decide)) ?_
      refine And.intro (hL.k 144 (by decide)) ?_
      refine And.intro (hL.k 144 (by decide)) ?_
      refine g_Em h (fun r u h => ?_)
      obtain ⟨y7, rfl, hL, h⟩ := h
      exact hP _ h
theorem x_Mo_look_416 {cx : gCx} {d : Nat} {ad : Nat → Nat} {l1 l2 : Int32} {s0 : Int64} {t : gSt} {post : Option Value → gSt → Prop} (hL : Lay t ad) (h : ∀ t1, t1 = g_sj t (ad 144) 9 s0 → ∀ t2, t2 = g_si t1 (ad 144) 5 ((t1.2.1 (ad 144) 5) + 1) → g_W cx (g_E cx d) mt_Mo_look post (359, [some (.ref (ad 144)), some (.int l1), some (.int (l2 + 1))], [], t2, 0, 0)) : g_W cx (g_E cx d) mt_Mo_look post (416, [some (.ref (ad 144)), some (.int l1), some (.int l2)], [.long s0, .ref (ad 144)], t, 0, 0) := by
  refine g_run [21, 73, 141, 189, 319, 359, 416, 457, 623, 642, 661, 665, 680] 400 (fun P hP => ?_)
  refine And.intro (hL.k 144 (by decide)) ?_
  have h := h _ rfl
  refine And.intro (hL.k 144 (by decide)) ?_
  refine And.intro (hL.k 144 (by decide)) ?_
  have h := h _ rfl
  exact hP _ h
theorem x_Mo_look_457 {cx : gCx} {d : Nat} {ad : Nat → Nat} {l1 l2 : Int32} {t : gSt} {post : Option Value → gSt → Prop} (hL : Lay t ad) (h : g_E cx d i_Mo_fail [.ref (ad 144), .int 1, .int (t.2.1 (ad 144) 8)] t (fun r u1 => r = none ∧ Lay u1 ad ∧ (g_W cx (g_E cx d) mt_Mo_look post (665, [some (.ref (ad 144)), some (.int l1), some (.int l2)], [], u1, 0, 0)))) : g_W cx (g_E cx d) mt_Mo_look post (457, [some (.ref (ad 144)), some (.int l1), some (.int l2)], [], t, 0, 0) := by
  refine g_run [21, 73, 141, 189, 319, 359, 416, 457, 623, 642, 661, 665, 680] 400 (fun P hP => ?_)
  refine And.intro (hL.k 144 (by decide)) ?_
  refine And.intro (hL.k 144 (by decide)) ?_
  refine g_Em h (fun r u h => ?_)
  obtain ⟨rfl, hL, h⟩ := h
  exact hP _ h
theorem x_Mo_look_623 {cx : gCx} {d : Nat} {ad : Nat → Nat} {l1 l2 s0 : Int32} {t : gSt} {post : Option Value → gSt → Prop} (hL : Lay t ad) (h : ∀ t1, t1 = g_si t (ad 144) 7 s0 → (0 ≤ (t1.2.1 (ad 144) 7) → g_W cx (g_E cx d) mt_Mo_look post (642, [some (.ref (ad 144)), some (.int l1), some (.int l2)], [], t1, 0, 0)) ∧ (¬ (0 ≤ (t1.2.1 (ad 144) 7)) → g_E cx d i_Mo_fail [.ref (ad 144), .int 1, .int (t1.2.1 (ad 144) 8)] t1 (fun r u2 => r = none ∧ Lay u2 ad ∧ (g_W cx (g_E cx d) mt_Mo_look post (642, [some (.ref (ad 144)), some (.int l1), some (.int l2)], [], u2, 0, 0))))) : g_W cx (g_E cx d) mt_Mo_look post (623, [some (.ref (ad 144)), some (.int l1), some (.int l2)], [.int s0, .ref (ad 144)], t, 0, 0) := by
  refine g_run [21, 73, 141, 189, 319, 359, 416, 457, 623, 642, 661, 665, 680] 400 (fun P hP => ?_)
  refine And.intro (hL.k 144 (by decide)) ?_
  have h := h _ rfl
  refine And.intro (hL.k 144 (by decide)) ?_
  refine And.intro (fun c => ?_) (fun c => ?_)
  · have h := h.1 c
    exact hP _ h
  · have h := h.2 c
    refine And.intro (hL.k 144 (by decide)) ?_
    refine And.intro (hL.k 144 (by decide)) ?_
    refine g_Em h (fun r u h => ?_)
    obtain ⟨rfl, hL, h⟩ := h
    exact hP _ h
theorem x_Mo_look_642 {cx : gCx} {d : Nat} {ad : Nat → Nat} {l1 l2 : Int32} {t : gSt} {post : Option Value → gSt → Prop} (hL : Lay t ad) (h : (¬ (t.2.1 (ad 144) 7) = 21 → g_W cx (g_E cx d) mt_Mo_look post (661, [some (.ref (ad 144)), some (.int l1), some (.int l2)], [.int 1, .int (t.2.1 (ad 144) 5), .ref (ad 144)], t, 0, 0)) ∧ (¬ (¬ (t.2.1 (ad 144) 7) = 21) → g_W cx (g_E cx d) mt_Mo_look post (661, [some (.ref (ad 144)), some (.int l1), some (.int l2)], [.int 2, .int (t.2.1 (ad 144) 5), .ref (ad 144)], t, 0, 0))) : g_W cx (g_E cx d) mt_Mo_look post (642, [some (.ref (ad 144)), some (.int l1), some (.int l2)], [], t, 0, 0) := by
  refine g_run [21, 73, 141, 189, 319, 359, 416, 457, 623, 642, 661, 665, 680] 400 (fun P hP => ?_)
  refine And.intro (hL.k 144 (by decide)) ?_
  refine And.intro (hL.k 144 (by decide)) ?_
  refine And.intro (fun c => ?_) (fun c => ?_)
  · have h := h.1 c
    exact hP _ h
  · have h := h.2 c
    exact hP _ h
theorem x_Mo_look_661 {cx : gCx} {d : Nat} {ad : Nat → Nat} {l1 l2 s0 s1 : Int32} {t : gSt} {post : Option Value → gSt → Prop} (hL : Lay t ad) (h : ∀ t1, t1 = g_si t (ad 144) 5 (s1 + s0) → g_W cx (g_E cx d) mt_Mo_look post (665, [some (.ref (ad 144)), some (.int l1), some (.int l2)], [], t1, 0, 0)) : g_W cx (g_E cx d) mt_Mo_look post (661, [some (.ref (ad 144)), some (.int l1), some (.int l2)], [.int s0, .int s1, .ref (ad 144)], t, 0, 0) := by
  refine g_run [21, 73, 141, 189, 319, 359, 416, 457, 623, 642, 661, 665, 680] 400 (fun P hP => ?_)
  refine And.intro (hL.k 144 (by decide)) ?_
  have h := h _ rfl
  exact hP _ h
theorem x_Mo_look_665 {cx : gCx} {d : Nat} {ad : Nat → Nat} {l1 l2 : Int32} {t : gSt} {post : Option Value → gSt → Prop} (hL : Lay t ad) (h : ((t.2.1 (ad 144) 3) ≤ 0 → g_W cx (g_E cx d) mt_Mo_look post (680, [some (.ref (ad 144)), some (.int l1), some (.int l2)], [.int (t.2.1 (ad 144) 7)], t, 0, 0)) ∧ (¬ ((t.2.1 (ad 144) 3) ≤ 0) → g_W cx (g_E cx d) mt_Mo_look post (680, [some (.ref (ad 144)), some (.int l1), some (.int l2)], [.int (-1)], t, 0, 0))) : g_W cx (g_E cx d) mt_Mo_look post (665, [some (.ref (ad 144)), some (.int l1), some (.int l2)], [], t, 0, 0) := by
  refine g_run [21, 73, 141, 189, 319, 359, 416, 457, 623, 642, 661, 665, 680] 400 (fun P hP => ?_)
  refine And.intro (hL.k 144 (by decide)) ?_
  refine And.intro (fun c => ?_) (fun c => ?_)
  · have h := h.1 c
    refine And.intro (hL.k 144 (by decide)) ?_
    exact hP _ h
  · have h := h.2 c
    exact hP _ h
theorem x_Mo_look_680 {cx : gCx} {d : Nat} {ad : Nat → Nat} {l1 l2 s0 : Int32} {t : gSt} {post : Option Value → gSt → Prop} (hL : Lay t ad) (h : post (some (.int s0)) t) : g_W cx (g_E cx d) mt_Mo_look post (680, [some (.ref (ad 144)), some (.int l1), some (.int l2)], [.int s0], t, 0, 0) := by
  refine g_run [21, 73, 141, 189, 319, 359, 416, 457, 623, 642, 661, 665, 680] 400 (fun P hP => ?_)
  exact And.intro rfl (And.intro rfl h)
theorem x_Mo_must {cx : gCx} {d : Nat} {ad : Nat → Nat} {a1 : Int32} {t : gSt} {post : Option Value → gSt → Prop} (hL : Lay t ad) (h : g_E cx d i_Mo_look [.ref (ad 144)] t (fun r u1 => ∃ y2 : Int32, r = some (.int y2) ∧ Lay u1 ad ∧ ((y2 = a1 → g_E cx d i_Mo_take [.ref (ad 144)] u1 (fun r u3 => r = none ∧ Lay u3 ad ∧ (post (some (.int 1)) u3))) ∧ (¬ (y2 = a1) → g_E cx d i_Mo_fail [.ref (ad 144), .int 2, .int (u1.2.1 (ad 144) 8)] u1 (fun r u5 => r = none ∧ Lay u5 ad ∧ (post (some (.int 0)) u5)))))) : g_E cx (d + 1) i_Mo_must [.ref (ad 144), .int a1] t post := by
  refine g_call mt_Mo_must rfl (by decide) (Nat.le_of_ble_eq_true rfl) ?_
  refine g_run [] 400 (fun P hP => ?_)
  refine And.intro (hL.k 144 (by decide)) ?_
  refine g_Em h (fun r u h => ?_)
  obtain ⟨y2, rfl, hL, h⟩ := h
  refine And.intro (fun c => ?_) (fun c => ?_)
  · have h := h.1 c
    refine And.intro (hL.k 144 (by decide)) ?_
    refine g_Em h (fun r u h => ?_)
    obtain ⟨rfl, hL, h⟩ := h
    exact And.intro rfl (And.intro rfl h)
  · have h := h.2 c
    refine And.intro (hL.k 144 (by decide)) ?_
    refine And.intro (hL.k 144 (by decide)) ?_
    refine g_Em h (fun r u h => ?_)
    obtain ⟨rfl, hL, h⟩ := h
    exact And.intro rfl (And.intro rfl h)
theorem x_Mo_node {cx : gCx} {d : Nat} {ad : Nat → Nat} {a1 a2 a3 a4 a5 : Int32} {t : gSt} {post : Option Value → gSt → Prop} (hL : Lay t ad) (h : vp_in a1 72 ∧ (∀ x1 : Int32, x1 = (t.2.1 (ad 148) (a1 : Int32).toNatClampNeg) → vp_in a1 72 ∧ (vp_in a1 72 ∧ (∀ t2, t2 = g_si t (ad 148) (a1 : Int32).toNatClampNeg ((t.2.1 (ad 148) (a1 : Int32).toNatClampNeg) + 1) → (1300 ≤ x1 → post (some (.int x1)) t2) ∧ (¬ (1300 ≤ x1) → vp_in ((1300 * a1) + x1) 93600 ∧ (∀ t3, t3 = g_si t2 (ad 151) (((1300 * a1) + x1) : Int32).toNatClampNeg a2 → vp_in ((1300 * a1) + x1) 93600 ∧ (∀ t4, t4 = g_si t3 (ad 152) (((1300 * a1) + x1) : Int32).toNatClampNeg a3 → vp_in ((1300 * a1) + x1) 93600 ∧ (∀ t5, t5 = g_si t4 (ad 153) (((1300 * a1) + x1) : Int32).toNatClampNeg a4 → vp_in ((1300 * a1) + x1) 93600 ∧ (∀ t6, t6 = g_si t5 (ad 154) (((1300 * a1) + x1) : Int32).toNatClampNeg a5 → post (some (.int x1)) t6))))))))) : g_E cx (d + 1) i_Mo_node [.ref (ad 144), .int a1, .int a2, .int a3, .int a4, .int a5] t post := by
  refine g_call mt_Mo_node rfl (by decide) (Nat.le_of_ble_eq_true rfl) ?_
  refine g_run [] 400 (fun P hP => ?_)
  refine And.intro (hL.k 144 (by decide)) (Or.inl ⟨_, (hL.r 144 14 148 (by decide)), ?_⟩)
  refine Or.inl (And.intro (hL.k 148 (by decide)) (And.intro (hL.v 148 (by decide) h.1) ?_))
  have h := h.2
  have h := h _ rfl
  refine And.intro (hL.k 144 (by decide)) (Or.inl ⟨_, (hL.r 144 14 148 (by decide)), ?_⟩)
  refine Or.inl (And.intro (hL.k 148 (by decide)) (And.intro (hL.v 148 (by decide) h.1) ?_))
  have h := h.2
  refine And.intro (hL.k 148 (by decide)) (And.intro (hL.v 148 (by decide) h.1) ?_)
  have h := h.2 _ rfl
  refine And.intro (fun c => ?_) (fun c => ?_)
  · have h := h.1 c
    exact And.intro rfl (And.intro rfl h)
  · have h := h.2 c
    refine And.intro (hL.k 144 (by decide)) (Or.inl ⟨_, (hL.r 144 17 151 (by decide)), ?_⟩)
    refine And.intro (hL.k 151 (by decide)) (And.intro (hL.v 151 (by decide) h.1) ?_)
    have h := h.2 _ rfl
    refine And.intro (hL.k 144 (by decide)) (Or.inl ⟨_, (hL.r 144 18 152 (by decide)), ?_⟩)
    refine And.intro (hL.k 152 (by decide)) (And.intro (hL.v 152 (by decide) h.1) ?_)
    have h := h.2 _ rfl
    refine And.intro (hL.k 144 (by decide)) (Or.inl ⟨_, (hL.r 144 19 153 (by decide)), ?_⟩)
    refine And.intro (hL.k 153 (by decide)) (And.intro (hL.v 153 (by decide) h.1) ?_)
    have h := h.2 _ rfl
    refine And.intro (hL.k 144 (by decide)) (Or.inl ⟨_, (hL.r 144 20 154 (by decide)), ?_⟩)
    refine And.intro (hL.k 154 (by decide)) (And.intro (hL.v 154 (by decide) h.1) ?_)
    have h := h.2 _ rfl
    exact And.intro rfl (And.intro rfl h)
theorem x_Mo_addArgument {cx : gCx} {d : Nat} {ad : Nat → Nat} {a1 a2 : Int32} {t : gSt} {post : Option Value → gSt → Prop} (hL : Lay t ad) (h : vp_in a1 72 ∧ ((1300 ≤ (t.2.1 (ad 156) (a1 : Int32).toNatClampNeg) → vp_in a1 72 ∧ (vp_in a1 72 ∧ (∀ t1, t1 = g_si t (ad 156) (a1 : Int32).toNatClampNeg ((t.2.1 (ad 156) (a1 : Int32).toNatClampNeg) + 1) → vp_in a1 72 ∧ (post (some (.int ((t1.2.1 (ad 156) (a1 : Int32).toNatClampNeg) - 1))) t1)))) ∧ (¬ (1300 ≤ (t.2.1 (ad 156) (a1 : Int32).toNatClampNeg)) → vp_in a1 72 ∧ (vp_in ((1300 * a1) + (t.2.1 (ad 156) (a1 : Int32).toNatClampNeg)) 93600 ∧ (∀ t2, t2 = g_si t (ad 155) (((1300 * a1) + (t.2.1 (ad 156) (a1 : Int32).toNatClampNeg)) : Int32).toNatClampNeg a2 → vp_in a1 72 ∧ (vp_in a1 72 ∧ (∀ t3, t3 = g_si t2 (ad 156) (a1 : Int32).toNatClampNeg ((t2.2.1 (ad 156) (a1 : Int32).toNatClampNeg) + 1) → vp_in a1 72 ∧ (post (some (.int ((t3.2.1 (ad 156) (a1 : Int32).toNatClampNeg) - 1))) t3)))))))) : g_E cx (d + 1) i_Mo_addArgument [.ref (ad 144), .int a1, .int a2] t post := by
  refine g_call mt_Mo_addArgument rfl (by decide) (Nat.le_of_ble_eq_true rfl) ?_
  refine g_run [] 400 (fun P hP => ?_)
  refine And.intro (hL.k 144 (by decide)) (Or.inl ⟨_, (hL.r 144 22 156 (by decide)), ?_⟩)
  refine Or.inl (And.intro (hL.k 156 (by decide)) (And.intro (hL.v 156 (by decide) h.1) ?_))
  have h := h.2
  refine And.intro (fun c => ?_) (fun c => ?_)
  · have h := h.1 c
    refine And.intro (hL.k 144 (by decide)) (Or.inl ⟨_, (hL.r 144 22 156 (by decide)), ?_⟩)
    refine Or.inl (And.intro (hL.k 156 (by decide)) (And.intro (hL.v 156 (by decide) h.1) ?_))
    have h := h.2
    refine And.intro (hL.k 156 (by decide)) (And.intro (hL.v 156 (by decide) h.1) ?_)
    have h := h.2 _ rfl
    refine And.intro (hL.k 144 (by decide)) (Or.inl ⟨_, (hL.r 144 22 156 (by decide)), ?_⟩)
    refine Or.inl (And.intro (hL.k 156 (by decide)) (And.intro (hL.v 156 (by decide) h.1) ?_))
    have h := h.2
    exact And.intro rfl (And.intro rfl h)
  · have h := h.2 c
    refine And.intro (hL.k 144 (by decide)) (Or.inl ⟨_, (hL.r 144 21 155 (by decide)), ?_⟩)
    refine And.intro (hL.k 144 (by decide)) (Or.inl ⟨_, (hL.r 144 22 156 (by decide)), ?_⟩)
    refine Or.inl (And.intro (hL.k 156 (by decide)) (And.intro (hL.v 156 (by decide) h.1) ?_))
    have h := h.2
    refine And.intro (hL.k 155 (by decide)) (And.intro (hL.v 155 (by decide) h.1) ?_)
    have h := h.2 _ rfl
    refine And.intro (hL.k 144 (by decide)) (Or.inl ⟨_, (hL.r 144 22 156 (by decide)), ?_⟩)
    refine Or.inl (And.intro (hL.k 156 (by decide)) (And.intro (hL.v 156 (by decide) h.1) ?_))
    have h := h.2
    refine And.intro (hL.k 156 (by decide)) (And.intro (hL.v 156 (by decide) h.1) ?_)
    have h := h.2 _ rfl
    refine And.intro (hL.k 144 (by decide)) (Or.inl ⟨_, (hL.r 144 22 156 (by decide)), ?_⟩)
    refine Or.inl (And.intro (hL.k 156 (by decide)) (And.intro (hL.v 156 (by decide) h.1) ?_))
    have h := h.2
    exact And.intro rfl (And.intro rfl h)
theorem x_Mo_give {cx : gCx} {d : Nat} {ad : Nat → Nat} {a1 : Int32} {t : gSt} {post : Option Value → gSt → Prop} (hL : Lay t ad) (h : vp_in (t.2.1 (ad 144) 33) 3100 ∧ (∀ t1, t1 = g_si t (ad 162) ((t.2.1 (ad 144) 33) : Int32).toNatClampNeg a1 → ∀ t2, t2 = g_si t1 (ad 144) 33 ((t1.2.1 (ad 144) 33) + 1) → post none t2)) : g_E cx (d + 1) i_Mo_give [.ref (ad 144), .int a1] t post := by
  refine g_call mt_Mo_give rfl (by decide) (Nat.le_of_ble_eq_true rfl) ?_
  refine g_run [] 400 (fun P hP => ?_)
  refine And.intro (hL.k 144 (by decide)) (Or.inl ⟨_, (hL.r 144 34 162 (by decide)), ?_⟩)
  refine And.intro (hL.k 144 (by decide)) ?_
  refine And.intro (hL.k 162 (by decide)) (And.intro (hL.v 162 (by decide) h.1) ?_)
  have h := h.2 _ rfl
  refine And.intro (hL.k 144 (by decide)) ?_
  refine And.intro (hL.k 144 (by decide)) ?_
  have h := h _ rfl
  exact And.intro rfl (And.intro rfl h)
theorem x_Mo_got {cx : gCx} {d : Nat} {ad : Nat → Nat} {t : gSt} {post : Option Value → gSt → Prop} (hL : Lay t ad) (h : ∀ t1, t1 = g_si t (ad 144) 33 ((t.2.1 (ad 144) 33) - 1) → vp_in (t1.2.1 (ad 144) 33) 3100 ∧ (post (some (.int (t1.2.1 (ad 162) ((t1.2.1 (ad 144) 33) : Int32).toNatClampNeg))) t1)) : g_E cx (d + 1) i_Mo_got [.ref (ad 144)] t post := by
  refine g_call mt_Mo_got rfl (by decide) (Nat.le_of_ble_eq_true rfl) ?_
  refine g_run [] 400 (fun P hP => ?_)
  refine And.intro (hL.k 144 (by decide)) ?_
  refine And.intro (hL.k 144 (by decide)) ?_
  have h := h _ rfl
  refine And.intro (hL.k 144 (by decide)) (Or.inl ⟨_, (hL.r 144 34 162 (by decide)), ?_⟩)
  refine And.intro (hL.k 144 (by decide)) ?_
  refine Or.inl (And.intro (hL.k 162 (by decide)) (And.intro (hL.v 162 (by decide) h.1) ?_))
  have h := h.2
  exact And.intro rfl (And.intro rfl h)
theorem x_Mo_opens {cx : gCx} {d : Nat} {ad : Nat → Nat} {t : gSt} {post : Option Value → gSt → Prop} (hL : Lay t ad) (h : (¬ (t.2.1 (ad 144) 24) = 30 → ∀ t1, t1 = g_si t (ad 144) 24 ((t.2.1 (ad 144) 24) + 1) → g_E cx d i_Mo_take [.ref (ad 144)] t1 (fun r u2 => r = none ∧ Lay u2 ad ∧ (post (some (.int 1)) u2))) ∧ (¬ (¬ (t.2.1 (ad 144) 24) = 30) → g_E cx d i_Mo_fail [.ref (ad 144), .int 5, .int (t.2.1 (ad 144) 8)] t (fun r u4 => r = none ∧ Lay u4 ad ∧ (post (some (.int 0)) u4)))) : g_E cx (d + 1) i_Mo_opens [.ref (ad 144)] t post := by
  refine g_call mt_Mo_opens rfl (by decide) (Nat.le_of_ble_eq_true rfl) ?_
  refine g_run [] 400 (fun P hP => ?_)
  refine And.intro (hL.k 144 (by decide)) ?_
  refine And.intro (fun c => ?_) (fun c => ?_)
  · have h := h.1 c
    refine And.intro (hL.k 144 (by decide)) ?_
    refine And.intro (hL.k 144 (by decide)) ?_
    have h := h _ rfl
    refine And.intro (hL.k 144 (by decide)) ?_
    refine g_Em h (fun r u h => ?_)
    obtain ⟨rfl, hL, h⟩ := h
    exact And.intro rfl (And.intro rfl h)
  · have h := h.2 c
    refine And.intro (hL.k 144 (by decide)) ?_
    refine And.intro (hL.k 144 (by decide)) ?_
    refine g_Em h (fun r u h => ?_)
    obtain ⟨rfl, hL, h⟩ := h
    exact And.intro rfl (And.intro rfl h)
theorem x_Mo_readExp {cx : gCx} {d : Nat} {ad : Nat → Nat} {t : gSt} {post : Option Value → gSt → Prop} (hL : Lay t ad) (h : ∀ t1, t1 = g_si t (ad 144) 29 0 → ∀ t2, t2 = g_si t1 (ad 144) 33 0 → g_E cx d i_Mo_push [.ref (ad 144), .int 1, .int 0, .int 0] t2 (fun r u3 => r = none ∧ Lay u3 ad ∧ (g_W cx (g_E cx d) mt_Mo_readExp post (17, [some (.ref (ad 144))], [], u3, 0, 0)))) : g_E cx (d + 1) i_Mo_readExp [.ref (ad 144)] t post := by
  refine g_call mt_Mo_readExp rfl (by decide) (Nat.le_of_ble_eq_true rfl) ?_
  refine g_run [17] 400 (fun P hP => ?_)
  refine And.intro (hL.k 144 (by decide)) ?_
  have h := h _ rfl
  refine And.intro (hL.k 144 (by decide)) ?_
  have h := h _ rfl
  refine And.intro (hL.k 144 (by decide)) ?_
  refine g_Em h (fun r u h => ?_)
  obtain ⟨rfl, hL, h⟩ := h
  exact hP _ h
theorem x_Mo_readExp_17 {cx : gCx} {d : Nat} {ad : Nat → Nat} {t : gSt} {post : Option Value → gSt → Prop} (hL : Lay t ad) (h : ((t.2.1 (ad 144) 29) ≤ 0 → post none t) ∧ (¬ ((t.2.1 (ad 144) 29) ≤ 0) → (¬ (t.2.1 (ad 144) 3) = 0 → post none t) ∧ (¬ (¬ (t.2.1 (ad 144) 3) = 0) → ∀ t1, t1 = g_si t (ad 144) 29 ((t.2.1 (ad 144) 29) - 1) → vp_in (t1.2.1 (ad 144) 29) 20000 ∧ (vp_in (t1.2.1 (ad 144) 29) 20000 ∧ (vp_in (t1.2.1 (ad 144) 29) 20000 ∧ (g_E cx d i_Mo_readTask [.ref (ad 144), .int (t1.2.1 (ad 159) ((t1.2.1 (ad 144) 29) : Int32).toNatClampNeg), .int (t1.2.1 (ad 160) ((t1.2.1 (ad 144) 29) : Int32).toNatClampNeg), .int (t1.2.1 (ad 161) ((t1.2.1 (ad 144) 29) : Int32).toNatClampNeg)] t1 (fun r u2 => r = none ∧ Lay u2 ad ∧ (g_W cx (g_E cx d) mt_Mo_readExp post (17, [some (.ref (ad 144))], [], u2, 0, 0))))))))) : g_W cx (g_E cx d) mt_Mo_readExp post (17, [some (.ref (ad 144))], [], t, 0, 0) := by
  refine g_run [17] 400 (fun P hP => ?_)
  refine And.intro (hL.k 144 (by decide)) ?_
  refine And.intro (fun c => ?_) (fun c => ?_)
  · have h := h.1 c
    exact And.intro rfl (And.intro rfl h)
  · have h := h.2 c
    refine And.intro (hL.k 144 (by decide)) ?_
    refine And.intro (fun c => ?_) (fun c => ?_)
    · have h := h.1 c
      exact And.intro rfl (And.intro rfl h)
    · have h := h.2 c
      refine And.intro (hL.k 144 (by decide)) ?_
      refine And.intro (hL.k 144 (by decide)) ?_
      have h := h _ rfl
      refine And.intro (hL.k 144 (by decide)) (Or.inl ⟨_, (hL.r 144 30 159 (by decide)), ?_⟩)
      refine And.intro (hL.k 144 (by decide)) ?_
      refine Or.inl (And.intro (hL.k 159 (by decide)) (And.intro (hL.v 159 (by decide) h.1) ?_))
      have h := h.2
      refine And.intro (hL.k 144 (by decide)) (Or.inl ⟨_, (hL.r 144 31 160 (by decide)), ?_⟩)
      refine And.intro (hL.k 144 (by decide)) ?_
      refine Or.inl (And.intro (hL.k 160 (by decide)) (And.intro (hL.v 160 (by decide) h.1) ?_))
      have h := h.2
      refine And.intro (hL.k 144 (by decide)) (Or.inl ⟨_, (hL.r 144 32 161 (by decide)), ?_⟩)
      refine And.intro (hL.k 144 (by decide)) ?_
      refine Or.inl (And.intro (hL.k 161 (by decide)) (And.intro (hL.v 161 (by decide) h.1) ?_))
      have h := h.2
      refine And.intro (hL.k 144 (by decide)) ?_
      refine g_Em h (fun r u h => ?_)
      obtain ⟨rfl, hL, h⟩ := h
      exact hP _ h
theorem x_Mo_two {cx : gCx} {d : Nat} {ad : Nat → Nat} {a1 : Int32} {t : gSt} {post : Option Value → gSt → Prop} (hL : Lay t ad) (h : g_E cx d i_Mo_got [.ref (ad 144)] t (fun r u1 => ∃ y2 : Int32, r = some (.int y2) ∧ Lay u1 ad ∧ (g_E cx d i_Mo_got [.ref (ad 144)] u1 (fun r u3 => ∃ y4 : Int32, r = some (.int y4) ∧ Lay u3 ad ∧ (g_E cx d i_Mo_node [.ref (ad 144), .int (u3.2.1 (ad 144) 23), .int a1, .int y4, .int y2, .int 0] u3 (fun r u5 => ∃ y6 : Int32, r = some (.int y6) ∧ Lay u5 ad ∧ (g_E cx d i_Mo_give [.ref (ad 144), .int y6] u5 (fun r u7 => r = none ∧ Lay u7 ad ∧ (post none u7))))))))) : g_E cx (d + 1) i_Mo_two [.ref (ad 144), .int a1] t post := by
  refine g_call mt_Mo_two rfl (by decide) (Nat.le_of_ble_eq_true rfl) ?_
  refine g_run [] 400 (fun P hP => ?_)
  refine And.intro (hL.k 144 (by decide)) ?_
  refine g_Em h (fun r u h => ?_)
  obtain ⟨y2, rfl, hL, h⟩ := h
  refine And.intro (hL.k 144 (by decide)) ?_
  refine g_Em h (fun r u h => ?_)
  obtain ⟨y4, rfl, hL, h⟩ := h
  refine And.intro (hL.k 144 (by decide)) ?_
  refine And.intro (hL.k 144 (by decide)) ?_
  refine g_Em h (fun r u h => ?_)
  obtain ⟨y6, rfl, hL, h⟩ := h
  refine And.intro (hL.k 144 (by decide)) ?_
  refine g_Em h (fun r u h => ?_)
  obtain ⟨rfl, hL, h⟩ := h
  exact And.intro rfl (And.intro rfl h)
theorem x_Mo_readTask {cx : gCx} {d : Nat} {ad : Nat → Nat} {a1 a2 a3 : Int32} {t : gSt} {post : Option Value → gSt → Prop} (hL : Lay t ad) (h : (a1 = 1 → g_W cx (g_E cx d) mt_Mo_readTask post (100, [some (.ref (ad 144)), some (.int a1), some (.int a2), some (.int a3), none, none], [], t, 0, 0)) ∧ (a1 = 2 → g_W cx (g_E cx d) mt_Mo_readTask post (107, [some (.ref (ad 144)), some (.int a1), some (.int a2), some (.int a3), none, none], [], t, 0, 0)) ∧ (a1 = 3 → g_W cx (g_E cx d) mt_Mo_readTask post (167, [some (.ref (ad 144)), some (.int a1), some (.int a2), some (.int a3), none, none], [], t, 0, 0)) ∧ (a1 = 4 → g_W cx (g_E cx d) mt_Mo_readTask post (217, [some (.ref (ad 144)), some (.int a1), some (.int a2), some (.int a3), none, none], [], t, 0, 0)) ∧ (a1 = 5 → g_W cx (g_E cx d) mt_Mo_readTask post (243, [some (.ref (ad 144)), some (.int a1), some (.int a2), some (.int a3), none, none], [], t, 0, 0)) ∧ (a1 = 6 → g_W cx (g_E cx d) mt_Mo_readTask post (270, [some (.ref (ad 144)), some (.int a1), some (.int a2), some (.int a3), none, none], [], t, 0, 0)) ∧ (a1 = 7 → g_W cx (g_E cx d) mt_Mo_readTask post (317, [some (.ref (ad 144)), some (.int a1), some (.int a2), some (.int a3), none, none], [], t, 0, 0)) ∧ (a1 = 8 → g_W cx (g_E cx d) mt_Mo_readTask post (348, [some (.ref (ad 144)), some (.int a1), some (.int a2), some (.int a3), none, none], [], t, 0, 0)) ∧ (a1 = 9 → g_W cx (g_E cx d) mt_Mo_readTask post (357, [some (.ref (ad 144)), some (.int a1), some (.int a2), some (.int a3), none, none], [], t, 0, 0)) ∧ (a1 = 10 → g_W cx (g_E cx d) mt_Mo_readTask post (376, [some (.ref (ad 144)), some (.int a1), some (.int a2), some (.int a3), none, none], [], t, 0, 0)) ∧ (a1 = 11 → g_W cx (g_E cx d) mt_Mo_readTask post (432, [some (.ref (ad 144)), some (.int a1), some (.int a2), some (.int a3), none, none], [], t, 0, 0)) ∧ (a1 = 12 → g_W cx (g_E cx d) mt_Mo_readTask post (440, [some (.ref (ad 144)), some (.int a1), some (.int a2), some (.int a3), none, none], [], t, 0, 0)) ∧ (a1 = 13 → g_W cx (g_E cx d) mt_Mo_readTask post (459, [some (.ref (ad 144)), some (.int a1), some (.int a2), some (.int a3), none, none], [], t, 0, 0)) ∧ (a1 = 14 → g_W cx (g_E cx d) mt_Mo_readTask post (513, [some (.ref (ad 144)), some (.int a1), some (.int a2), some (.int a3), none, none], [], t, 0, 0)) ∧ (a1 = 15 → g_W cx (g_E cx d) mt_Mo_readTask post (529, [some (.ref (ad 144)), some (.int a1), some (.int a2), some (.int a3), none, none], [], t, 0, 0)) ∧ (a1 = 16 → g_W cx (g_E cx d) mt_Mo_readTask post (548, [some (.ref (ad 144)), some (.int a1), some (.int a2), some (.int a3), none, none], [], t, 0, 0)) ∧ (a1 = 17 → g_W cx (g_E cx d) mt_Mo_readTask post (626, [some (.ref (ad 144)), some (.int a1), some (.int a2), some (.int a3), none, none], [], t, 0, 0)) ∧ (a1 = 18 → g_W cx (g_E cx d) mt_Mo_readTask post (642, [some (.ref (ad 144)), some (.int a1), some (.int a2), some (.int a3), none, none], [], t, 0, 0)) ∧ (a1 = 19 → g_W cx (g_E cx d) mt_Mo_readTask post (649, [some (.ref (ad 144)), some (.int a1), some (.int a2), some (.int a3), none, none], [], t, 0, 0)) ∧ (a1 = 20 → g_W cx (g_E cx d) mt_Mo_readTask post (682, [some (.ref (ad 144)), some (.int a1), some (.int a2), some (.int a3), none, none], [], t, 0, 0)) ∧ (a1 = 21 → g_W cx (g_E cx d) mt_Mo_readTask post (723, [some (.ref (ad 144)), some (.int a1), some (.int a2), some (.int a3), none, none], [], t, 0, 0)) ∧ (a1 < 1 ∨ 21 < a1 → g_W cx (g_E cx d) mt_Mo_readTask post (744, [some (.ref (ad 144)), some (.int a1), some (.int a2), some (.int a3), none, none], [], t, 0, 0))) : g_E cx (d + 1) i_Mo_readTask [.ref (ad 144), .int a1, .int a2, .int a3] t post := by
  refine g_call mt_Mo_readTask rfl (by decide) (Nat.le_of_ble_eq_true rfl) ?_
  refine g_run [1, 100, 107, 167, 217, 243, 270, 317, 348, 357, 376, 394, 413, 432, 440, 459, 477, 494, 513, 529, 548, 575, 607, 626, 642, 649, 682, 723, 744, 750] 400 (fun P hP => ?_)
  refine hP _ ?_
  rcases g_swc _ 1 21 (by decide) (by decide) (by decide) with c | c | ⟨j, hj, c⟩
  · exact g_sw (tgt := 744) rfl (g_swlo c) (h.2.2.2.2.2.2.2.2.2.2.2.2.2.2.2.2.2.2.2.2.2 (Or.inl c))
  · exact g_sw (tgt := 744) rfl (g_swhi c) (h.2.2.2.2.2.2.2.2.2.2.2.2.2.2.2.2.2.2.2.2.2 (Or.inr c))
  · match j, hj with
    | 0, _ => exact g_sw (tgt := 100) rfl (by rw [c]; decide) (h.1 c)
    | 1, _ => exact g_sw (tgt := 107) rfl (by rw [c]; decide) (h.2.1 c)
    | 2, _ => exact g_sw (tgt := 167) rfl (by rw [c]; decide) (h.2.2.1 c)
    | 3, _ => exact g_sw (tgt := 217) rfl (by rw [c]; decide) (h.2.2.2.1 c)
    | 4, _ => exact g_sw (tgt := 243) rfl (by rw [c]; decide) (h.2.2.2.2.1 c)
    | 5, _ => exact g_sw (tgt := 270) rfl (by rw [c]; decide) (h.2.2.2.2.2.1 c)
    | 6, _ => exact g_sw (tgt := 317) rfl (by rw [c]; decide) (h.2.2.2.2.2.2.1 c)
    | 7, _ => exact g_sw (tgt := 348) rfl (by rw [c]; decide) (h.2.2.2.2.2.2.2.1 c)
    | 8, _ => exact g_sw (tgt := 357) rfl (by rw [c]; decide) (h.2.2.2.2.2.2.2.2.1 c)
    | 9, _ => exact g_sw (tgt := 376) rfl (by rw [c]; decide) (h.2.2.2.2.2.2.2.2.2.1 c)
    | 10, _ => exact g_sw (tgt := 432) rfl (by rw [c]; decide) (h.2.2.2.2.2.2.2.2.2.2.1 c)
    | 11, _ => exact g_sw (tgt := 440) rfl (by rw [c]; decide) (h.2.2.2.2.2.2.2.2.2.2.2.1 c)
    | 12, _ => exact g_sw (tgt := 459) rfl (by rw [c]; decide) (h.2.2.2.2.2.2.2.2.2.2.2.2.1 c)
    | 13, _ => exact g_sw (tgt := 513) rfl (by rw [c]; decide) (h.2.2.2.2.2.2.2.2.2.2.2.2.2.1 c)
    | 14, _ => exact g_sw (tgt := 529) rfl (by rw [c]; decide) (h.2.2.2.2.2.2.2.2.2.2.2.2.2.2.1 c)
    | 15, _ => exact g_sw (tgt := 548) rfl (by rw [c]; decide) (h.2.2.2.2.2.2.2.2.2.2.2.2.2.2.2.1 c)
    | 16, _ => exact g_sw (tgt := 626) rfl (by rw [c]; decide) (h.2.2.2.2.2.2.2.2.2.2.2.2.2.2.2.2.1 c)
    | 17, _ => exact g_sw (tgt := 642) rfl (by rw [c]; decide) (h.2.2.2.2.2.2.2.2.2.2.2.2.2.2.2.2.2.1 c)
    | 18, _ => exact g_sw (tgt := 649) rfl (by rw [c]; decide) (h.2.2.2.2.2.2.2.2.2.2.2.2.2.2.2.2.2.2.1 c)
    | 19, _ => exact g_sw (tgt := 682) rfl (by rw [c]; decide) (h.2.2.2.2.2.2.2.2.2.2.2.2.2.2.2.2.2.2.2.1 c)
    | 20, _ => exact g_sw (tgt := 723) rfl (by rw [c]; decide) (h.2.2.2.2.2.2.2.2.2.2.2.2.2.2.2.2.2.2.2.2.1 c)
    | j + 21, hj => exact absurd hj (by omega)
theorem x_Mo_readTask_100 {cx : gCx} {d : Nat} {ad : Nat → Nat} {l1 l2 l3 : Int32} {t : gSt} {post : Option Value → gSt → Prop} (hL : Lay t ad) (h : g_E cx d i_Mo_beginExp [.ref (ad 144)] t (fun r u1 => r = none ∧ Lay u1 ad ∧ (g_W cx (g_E cx d) mt_Mo_readTask post (750, [some (.ref (ad 144)), some (.int l1), some (.int l2), some (.int l3), none, none], [], u1, 0, 0)))) : g_W cx (g_E cx d) mt_Mo_readTask post (100, [some (.ref (ad 144)), some (.int l1), some (.int l2), some (.int l3), none, none], [], t, 0, 0) := by
  refine g_run [1, 100, 107, 167, 217, 243, 270, 317, 348, 357, 376, 394, 413, 432, 440, 459, 477, 494, 513, 529, 548, 575, 607, 626, 642, 649, 682, 723, 744, 750] 400 (fun P hP => ?_)
  refine And.intro (hL.k 144 (by decide)) ?_
  refine g_Em h (fun r u h => ?_)
  obtain ⟨rfl, hL, h⟩ := h
  exact hP _ h
theorem x_Mo_readTask_107 {cx : gCx} {d : Nat} {ad : Nat → Nat} {l1 l2 l3 : Int32} {t : gSt} {post : Option Value → gSt → Prop} (hL : Lay t ad) (h : g_E cx d i_Mo_must [.ref (ad 144), .int 5] t (fun r u1 => ∃ y2 : Int32, r = some (.int y2) ∧ Lay u1 ad ∧ ((y2 = 0 → g_W cx (g_E cx d) mt_Mo_readTask post (750, [some (.ref (ad 144)), some (.int l1), some (.int l2), some (.int l3), none, none], [], u1, 0, 0)) ∧ (¬ (y2 = 0) → vp_in l2 50 ∧ (vp_in (u1.2.1 (ad 144) 28) 50 ∧ (∀ t3, t3 = g_sj u1 (ad 157) ((u1.2.1 (ad 144) 28) : Int32).toNatClampNeg (u1.2.2.1 (ad 168) (l2 : Int32).toNatClampNeg) → vp_in (t3.2.1 (ad 144) 28) 50 ∧ (∀ t4, t4 = g_si t3 (ad 158) ((t3.2.1 (ad 144) 28) : Int32).toNatClampNeg l2 → ∀ t5, t5 = g_si t4 (ad 144) 28 ((t4.2.1 (ad 144) 28) + 1) → g_E cx d i_Mo_push [.ref (ad 144), .int 3, .int l2, .int 0] t5 (fun r u6 => r = none ∧ Lay u6 ad ∧ (g_E cx d i_Mo_push [.ref (ad 144), .int 1, .int 0, .int 0] u6 (fun r u8 => r = none ∧ Lay u8 ad ∧ (g_W cx (g_E cx d) mt_Mo_readTask post (750, [some (.ref (ad 144)), some (.int l1), some (.int l2), some (.int l3), none, none], [], u8, 0, 0)))))))))))) : g_W cx (g_E cx d) mt_Mo_readTask post (107, [some (.ref (ad 144)), some (.int l1), some (.int l2), some (.int l3), none, none], [], t, 0, 0) := by
  refine g_run [1, 100, 107, 167, 217, 243, 270, 317, 348, 357, 376, 394, 413, 432, 440, 459, 477, 494, 513, 529, 548, 575, 607, 626, 642, 649, 682, 723, 744, 750] 400 (fun P hP => ?_)
  refine And.intro (hL.k 144 (by decide)) ?_
  refine g_Em h (fun r u h => ?_)
  obtain ⟨y2, rfl, hL, h⟩ := h
  refine And.intro (fun c => ?_) (fun c => ?_)
  · have h := h.1 c
    exact hP _ h
  · have h := h.2 c
    refine And.intro (hL.k 144 (by decide)) (Or.inl ⟨_, (hL.r 144 26 157 (by decide)), ?_⟩)
    refine And.intro (hL.k 144 (by decide)) ?_
    refine And.intro (hL.k 144 (by decide)) (Or.inl ⟨_, (hL.r 144 42 168 (by decide)), ?_⟩)
    refine Or.inl (And.intro (hL.k 168 (by decide)) (And.intro (hL.v 168 (by decide) h.1) ?_))
    have h := h.2
    refine And.intro (hL.k 157 (by decide)) (And.intro (hL.v 157 (by decide) h.1) ?_)
    have h := h.2 _ rfl
    refine And.intro (hL.k 144 (by decide)) (Or.inl ⟨_, (hL.r 144 27 158 (by decide)), ?_⟩)
    refine And.intro (hL.k 144 (by decide)) ?_
    refine And.intro (hL.k 158 (by decide)) (And.intro (hL.v 158 (by decide) h.1) ?_)
    have h := h.2 _ rfl
    refine And.intro (hL.k 144 (by decide)) ?_
    refine And.intro (hL.k 144 (by decide)) ?_
    have h := h _ rfl
    refine And.intro (hL.k 144 (by decide)) ?_
    refine g_Em h (fun r u h => ?_)
    obtain ⟨rfl, hL, h⟩ := h
    refine And.intro (hL.k 144 (by decide)) ?_
    refine g_Em h (fun r u h => ?_)
    obtain ⟨rfl, hL, h⟩ := h
    exact hP _ h
theorem x_Mo_readTask_167 {cx : gCx} {d : Nat} {ad : Nat → Nat} {l1 l2 l3 : Int32} {t : gSt} {post : Option Value → gSt → Prop} (hL : Lay t ad) (h : ∀ t1, t1 = g_si t (ad 144) 28 ((t.2.1 (ad 144) 28) - 1) → ∀ t2, t2 = g_si t1 (ad 144) 24 ((t1.2.1 (ad 144) 24) - 1) → g_E cx d i_Mo_got [.ref (ad 144)] t2 (fun r u3 => ∃ y4 : Int32, r = some (.int y4) ∧ Lay u3 ad ∧ (g_E cx d i_Mo_got [.ref (ad 144)] u3 (fun r u5 => ∃ y6 : Int32, r = some (.int y6) ∧ Lay u5 ad ∧ (g_E cx d i_Mo_node [.ref (ad 144), .int (u3.2.1 (ad 144) 23), .int 14, .int y6, .int y4, .int l2] u5 (fun r u7 => ∃ y8 : Int32, r = some (.int y8) ∧ Lay u7 ad ∧ (g_E cx d i_Mo_give [.ref (ad 144), .int y8] u7 (fun r u9 => r = none ∧ Lay u9 ad ∧ (g_W cx (g_E cx d) mt_Mo_readTask post (750, [some (.ref (ad 144)), some (.int l1), some (.int l2), some (.int l3), some (.int y4), none], [], u9, 0, 0)))))))))) : g_W cx (g_E cx d) mt_Mo_readTask post (167, [some (.ref (ad 144)), some (.int l1), some (.int l2), some (.int l3), none, none], [], t, 0, 0) := by
  refine g_run [1, 100, 107, 167, 217, 243, 270, 317, 348, 357, 376, 394, 413, 432, 440, 459, 477, 494, 513, 529, 548, 575, 607, 626, 642, 649, 682, 723, 744, 750] 400 (fun P hP => ?_)
  refine And.intro (hL.k 144 (by decide)) ?_
  refine And.intro (hL.k 144 (by decide)) ?_
  have h := h _ rfl
  refine And.intro (hL.k 144 (by decide)) ?_
  refine And.intro (hL.k 144 (by decide)) ?_
  have h := h _ rfl
  refine And.intro (hL.k 144 (by decide)) ?_
  refine g_Em h (fun r u h => ?_)
  obtain ⟨y4, rfl, hL, h⟩ := h
  refine And.intro (hL.k 144 (by decide)) ?_
  refine And.intro (hL.k 144 (by decide)) ?_
  refine g_Em h (fun r u h => ?_)
  obtain ⟨y6, rfl, hL, h⟩ := h
  refine And.intro (hL.k 144 (by decide)) ?_
  refine g_Em h (fun r u h => ?_)
  obtain ⟨y8, rfl, hL, h⟩ := h
  refine And.intro (hL.k 144 (by decide)) ?_
  refine g_Em h (fun r u h => ?_)
  obtain ⟨rfl, hL, h⟩ := h
  exact hP _ h
theorem x_Mo_readTask_217 {cx : gCx} {d : Nat} {ad : Nat → Nat} {l1 l2 l3 : Int32} {t : gSt} {post : Option Value → gSt → Prop} (hL : Lay t ad) (h : g_E cx d i_Mo_must [.ref (ad 144), .int 7] t (fun r u1 => ∃ y2 : Int32, r = some (.int y2) ∧ Lay u1 ad ∧ ((y2 = 0 → g_W cx (g_E cx d) mt_Mo_readTask post (750, [some (.ref (ad 144)), some (.int l1), some (.int l2), some (.int l3), none, none], [], u1, 0, 0)) ∧ (¬ (y2 = 0) → g_E cx d i_Mo_push [.ref (ad 144), .int 5, .int 0, .int 0] u1 (fun r u3 => r = none ∧ Lay u3 ad ∧ (g_E cx d i_Mo_push [.ref (ad 144), .int 1, .int 0, .int 0] u3 (fun r u5 => r = none ∧ Lay u5 ad ∧ (g_W cx (g_E cx d) mt_Mo_readTask post (750, [some (.ref (ad 144)), some (.int l1), some (.int l2), some (.int l3), none, none], [], u5, 0, 0))))))))) : g_W cx (g_E cx d) mt_Mo_readTask post (217, [some (.ref (ad 144)), some (.int l1), some (.int l2), some (.int l3), none, none], [], t, 0, 0) := by
  refine g_run [1, 100, 107, 167, 217, 243, 270, 317, 348, 357, 376, 394, 413, 432, 440, 459, 477, 494, 513, 529, 548, 575, 607, 626, 642, 649, 682, 723, 744, 750] 400 (fun P hP => ?_)
  refine And.intro (hL.k 144 (by decide)) ?_
  refine g_Em h (fun r u h => ?_)
  obtain ⟨y2, rfl, hL, h⟩ := h
  refine And.intro (fun c => ?_) (fun c => ?_)
  · have h := h.1 c
    exact hP _ h
  · have h := h.2 c
    refine And.intro (hL.k 144 (by decide)) ?_
    refine g_Em h (fun r u h => ?_)
    obtain ⟨rfl, hL, h⟩ := h
    refine And.intro (hL.k 144 (by decide)) ?_
    refine g_Em h (fun r u h => ?_)
    obtain ⟨rfl, hL, h⟩ := h
    exact hP _ h
theorem x_Mo_readTask_243 {cx : gCx} {d : Nat} {ad : Nat → Nat} {l1 l2 l3 : Int32} {t : gSt} {post : Option Value → gSt → Prop} (hL : Lay t ad) (h : g_E cx d i_Mo_must [.ref (ad 144), .int 8] t (fun r u1 => ∃ y2 : Int32, r = some (.int y2) ∧ Lay u1 ad ∧ ((y2 = 0 → g_W cx (g_E cx d) mt_Mo_readTask post (750, [some (.ref (ad 144)), some (.int l1), some (.int l2), some (.int l3), none, none], [], u1, 0, 0)) ∧ (¬ (y2 = 0) → g_E cx d i_Mo_push [.ref (ad 144), .int 6, .int 0, .int 0] u1 (fun r u3 => r = none ∧ Lay u3 ad ∧ (g_E cx d i_Mo_push [.ref (ad 144), .int 1, .int 0, .int 0] u3 (fun r u5 => r = none ∧ Lay u5 ad ∧ (g_W cx (g_E cx d) mt_Mo_readTask post (750, [some (.ref (ad 144)), some (.int l1), some (.int l2), some (.int l3), none, none], [], u5, 0, 0))))))))) : g_W cx (g_E cx d) mt_Mo_readTask post (243, [some (.ref (ad 144)), some (.int l1), some (.int l2), some (.int l3), none, none], [], t, 0, 0) := by
  refine g_run [1, 100, 107, 167, 217, 243, 270, 317, 348, 357, 376, 394, 413, 432, 440, 459, 477, 494, 513, 529, 548, 575, 607, 626, 642, 649, 682, 723, 744, 750] 400 (fun P hP => ?_)
  refine And.intro (hL.k 144 (by decide)) ?_
  refine g_Em h (fun r u h => ?_)
  obtain ⟨y2, rfl, hL, h⟩ := h
  refine And.intro (fun c => ?_) (fun c => ?_)
  · have h := h.1 c
    exact hP _ h
  · have h := h.2 c
    refine And.intro (hL.k 144 (by decide)) ?_
    refine g_Em h (fun r u h => ?_)
    obtain ⟨rfl, hL, h⟩ := h
    refine And.intro (hL.k 144 (by decide)) ?_
    refine g_Em h (fun r u h => ?_)
    obtain ⟨rfl, hL, h⟩ := h
    exact hP _ h
theorem x_Mo_readTask_270 {cx : gCx} {d : Nat} {ad : Nat → Nat} {l1 l2 l3 : Int32} {t : gSt} {post : Option Value → gSt → Prop} (hL : Lay t ad) (h : ∀ t1, t1 = g_si t (ad 144) 24 ((t.2.1 (ad 144) 24) - 1) → g_E cx d i_Mo_got [.ref (ad 144)] t1 (fun r u2 => ∃ y3 : Int32, r = some (.int y3) ∧ Lay u2 ad ∧ (g_E cx d i_Mo_got [.ref (ad 144)] u2 (fun r u4 => ∃ y5 : Int32, r = some (.int y5) ∧ Lay u4 ad ∧ (g_E cx d i_Mo_got [.ref (ad 144)] u4 (fun r u6 => ∃ y7 : Int32, r = some (.int y7) ∧ Lay u6 ad ∧ (g_E cx d i_Mo_node [.ref (ad 144), .int (u4.2.1 (ad 144) 23), .int 13, .int y7, .int y5, .int y3] u6 (fun r u8 => ∃ y9 : Int32, r = some (.int y9) ∧ Lay u8 ad ∧ (g_E cx d i_Mo_give [.ref (ad 144), .int y9] u8 (fun r u10 => r = none ∧ Lay u10 ad ∧ (g_W cx (g_E cx d) mt_Mo_readTask post (750, [some (.ref (ad 144)), some (.int l1), some (.int l2), some (.int l3), some (.int y3), some (.int y5)], [], u10, 0, 0)))))))))))) : g_W cx (g_E cx d) mt_Mo_readTask post (270, [some (.ref (ad 144)), some (.int l1), some (.int l2), some (.int l3), none, none], [], t, 0, 0) := by
  refine g_run [1, 100, 107, 167, 217, 243, 270, 317, 348, 357, 376, 394, 413, 432, 440, 459, 477, 494, 513, 529, 548, 575, 607, 626, 642, 649, 682, 723, 744, 750] 400 (fun P hP => ?_)
  refine And.intro (hL.k 144 (by decide)) ?_
  refine And.intro (hL.k 144 (by decide)) ?_
  have h := h _ rfl
  refine And.intro (hL.k 144 (by decide)) ?_
  refine g_Em h (fun r u h => ?_)
  obtain ⟨y3, rfl, hL, h⟩ := h
  refine And.intro (hL.k 144 (by decide)) ?_
  refine g_Em h (fun r u h => ?_)
  obtain ⟨y5, rfl, hL, h⟩ := h
  refine And.intro (hL.k 144 (by decide)) ?_
  refine And.intro (hL.k 144 (by decide)) ?_
  refine g_Em h (fun r u h => ?_)
  obtain ⟨y7, rfl, hL, h⟩ := h
  refine And.intro (hL.k 144 (by decide)) ?_
  refine g_Em h (fun r u h => ?_)
  obtain ⟨y9, rfl, hL, h⟩ := h
  refine And.intro (hL.k 144 (by decide)) ?_
  refine g_Em h (fun r u h => ?_)
  obtain ⟨rfl, hL, h⟩ := h
  exact hP _ h
theorem x_Mo_readTask_317 {cx : gCx} {d : Nat} {ad : Nat → Nat} {l1 l2 l3 : Int32} {t : gSt} {post : Option Value → gSt → Prop} (hL : Lay t ad) (h : g_E cx d i_Mo_look [.ref (ad 144)] t (fun r u1 => ∃ y2 : Int32, r = some (.int y2) ∧ Lay u1 ad ∧ ((¬ y2 = 13 → g_W cx (g_E cx d) mt_Mo_readTask post (750, [some (.ref (ad 144)), some (.int l1), some (.int l2), some (.int l3), none, none], [], u1, 0, 0)) ∧ (¬ (¬ y2 = 13) → g_E cx d i_Mo_take [.ref (ad 144)] u1 (fun r u3 => r = none ∧ Lay u3 ad ∧ (g_E cx d i_Mo_push [.ref (ad 144), .int 8, .int 0, .int 0] u3 (fun r u5 => r = none ∧ Lay u5 ad ∧ (g_E cx d i_Mo_push [.ref (ad 144), .int 1, .int 0, .int 0] u5 (fun r u7 => r = none ∧ Lay u7 ad ∧ (g_W cx (g_E cx d) mt_Mo_readTask post (750, [some (.ref (ad 144)), some (.int l1), some (.int l2), some (.int l3), none, none], [], u7, 0, 0))))))))))) : g_W cx (g_E cx d) mt_Mo_readTask post (317, [some (.ref (ad 144)), some (.int l1), some (.int l2), some (.int l3), none, none], [], t, 0, 0) := by
  refine g_run [1, 100, 107, 167, 217, 243, 270, 317, 348, 357, 376, 394, 413, 432, 440, 459, 477, 494, 513, 529, 548, 575, 607, 626, 642, 649, 682, 723, 744, 750] 400 (fun P hP => ?_)
  refine And.intro (hL.k 144 (by decide)) ?_
  refine g_Em h (fun r u h => ?_)
  obtain ⟨y2, rfl, hL, h⟩ := h
  refine And.intro (fun c => ?_) (fun c => ?_)
  · have h := h.1 c
    exact hP _ h
  · have h := h.2 c
    refine And.intro (hL.k 144 (by decide)) ?_
    refine g_Em h (fun r u h => ?_)
    obtain ⟨rfl, hL, h⟩ := h
    refine And.intro (hL.k 144 (by decide)) ?_
    refine g_Em h (fun r u h => ?_)
    obtain ⟨rfl, hL, h⟩ := h
    refine And.intro (hL.k 144 (by decide)) ?_
    refine g_Em h (fun r u h => ?_)
    obtain ⟨rfl, hL, h⟩ := h
    exact hP _ h
theorem x_Mo_readTask_348 {cx : gCx} {d : Nat} {ad : Nat → Nat} {l1 l2 l3 : Int32} {t : gSt} {post : Option Value → gSt → Prop} (hL : Lay t ad) (h : g_E cx d i_Mo_two [.ref (ad 144), .int 12] t (fun r u1 => r = none ∧ Lay u1 ad ∧ (g_W cx (g_E cx d) mt_Mo_readTask post (750, [some (.ref (ad 144)), some (.int l1), some (.int l2), some (.int l3), none, none], [], u1, 0, 0)))) : g_W cx (g_E cx d) mt_Mo_readTask post (348, [some (.ref (ad 144)), some (.int l1), some (.int l2), some (.int l3), none, none], [], t, 0, 0) := by
  refine g_run [1, 100, 107, 167, 217, 243, 270, 317, 348, 357, 376, 394, 413, 432, 440, 459, 477, 494, 513, 529, 548, 575, 607, 626, 642, 649, 682, 723, 744, 750] 400 (fun P hP => ?_)
  refine And.intro (hL.k 144 (by decide)) ?_
  refine g_Em h (fun r u h => ?_)
  obtain ⟨rfl, hL, h⟩ := h
  exact hP _ h
theorem x_Mo_readTask_357 {cx : gCx} {d : Nat} {ad : Nat → Nat} {l1 l2 l3 : Int32} {t : gSt} {post : Option Value → gSt → Prop} (hL : Lay t ad) (h : g_E cx d i_Mo_push [.ref (ad 144), .int 10, .int 0, .int 0] t (fun r u1 => r = none ∧ Lay u1 ad ∧ (g_E cx d i_Mo_push [.ref (ad 144), .int 12, .int 0, .int 0] u1 (fun r u3 => r = none ∧ Lay u3 ad ∧ (g_W cx (g_E cx d) mt_Mo_readTask post (750, [some (.ref (ad 144)), some (.int l1), some (.int l2), some (.int l3), none, none], [], u3, 0, 0)))))) : g_W cx (g_E cx d) mt_Mo_readTask post (357, [some (.ref (ad 144)), some (.int l1), some (.int l2), some (.int l3), none, none], [], t, 0, 0) := by
  refine g_run [1, 100, 107, 167, 217, 243, 270, 317, 348, 357, 376, 394, 413, 432, 440, 459, 477, 494, 513, 529, 548, 575, 607, 626, 642, 649, 682, 723, 744, 750] 400 (fun P hP => ?_)
  refine And.intro (hL.k 144 (by decide)) ?_
  refine g_Em h (fun r u h => ?_)
  obtain ⟨rfl, hL, h⟩ := h
  refine And.intro (hL.k 144 (by decide)) ?_
  refine g_Em h (fun r u h => ?_)
  obtain ⟨rfl, hL, h⟩ := h
  exact hP _ h
theorem x_Mo_readTask_376 {cx : gCx} {d : Nat} {ad : Nat → Nat} {l1 l2 l3 : Int32} {t : gSt} {post : Option Value → gSt → Prop} (hL : Lay t ad) (h : g_E cx d i_Mo_look [.ref (ad 144)] t (fun r u1 => ∃ y2 : Int32, r = some (.int y2) ∧ Lay u1 ad ∧ ((y2 = 20 → g_W cx (g_E cx d) mt_Mo_readTask post (394, [some (.ref (ad 144)), some (.int l1), some (.int l2), some (.int l3), none, none], [], u1, 0, 0)) ∧ (¬ (y2 = 20) → g_E cx d i_Mo_look [.ref (ad 144)] u1 (fun r u3 => ∃ y4 : Int32, r = some (.int y4) ∧ Lay u3 ad ∧ ((¬ y4 = 21 → g_W cx (g_E cx d) mt_Mo_readTask post (750, [some (.ref (ad 144)), some (.int l1), some (.int l2), some (.int l3), none, none], [], u3, 0, 0)) ∧ (¬ (¬ y4 = 21) → g_W cx (g_E cx d) mt_Mo_readTask post (394, [some (.ref (ad 144)), some (.int l1), some (.int l2), some (.int l3), none, none], [], u3, 0, 0)))))))) : g_W cx (g_E cx d) mt_Mo_readTask post (376, [some (.ref (ad 144)), some (.int l1), some (.int l2), some (.int l3), none, none], [], t, 0, 0) := by
  refine g_run [1, 100, 107, 167, 217, 243, 270, 317, 348, 357, 376, 394, 413, 432, 440, 459, 477, 494, 513, 529, 548, 575, 607, 626, 642, 649, 682, 723, 744, 750] 400 (fun P hP => ?_)
  refine And.intro (hL.k 144 (by decide)) ?_
  refine g_Em h (fun r u h => ?_)
  obtain ⟨y2, rfl, hL, h⟩ := h
  refine And.intro (fun c => ?_) (fun c => ?_)
  · have h := h.1 c
    exact hP _ h
  · have h := h.2 c
    refine And.intro (hL.k 144 (by decide)) ?_
    refine g_Em h (fun r u h => ?_)
    obtain ⟨y4, rfl, hL, h⟩ := h
    refine And.intro (fun c => ?_) (fun c => ?_)
    · have h := h.1 c
      exact hP _ h
    · have h := h.2 c
      exact hP _ h
theorem x_Mo_readTask_394 {cx : gCx} {d : Nat} {ad : Nat → Nat} {l1 l2 l3 : Int32} {t : gSt} {post : Option Value → gSt → Prop} (hL : Lay t ad) (h : (¬ (t.2.1 (ad 144) 7) = 20 → g_W cx (g_E cx d) mt_Mo_readTask post (413, [some (.ref (ad 144)), some (.int l1), some (.int l2), some (.int l3), none, none], [.int 9, .int 11, .ref (ad 144)], t, 0, 0)) ∧ (¬ (¬ (t.2.1 (ad 144) 7) = 20) → g_W cx (g_E cx d) mt_Mo_readTask post (413, [some (.ref (ad 144)), some (.int l1), some (.int l2), some (.int l3), none, none], [.int 8, .int 11, .ref (ad 144)], t, 0, 0))) : g_W cx (g_E cx d) mt_Mo_readTask post (394, [some (.ref (ad 144)), some (.int l1), some (.int l2), some (.int l3), none, none], [], t, 0, 0) := by
  refine g_run [1, 100, 107, 167, 217, 243, 270, 317, 348, 357, 376, 394, 413, 432, 440, 459, 477, 494, 513, 529, 548, 575, 607, 626, 642, 649, 682, 723, 744, 750] 400 (fun P hP => ?_)
  refine And.intro (hL.k 144 (by decide)) ?_
  refine And.intro (fun c => ?_) (fun c => ?_)
  · have h := h.1 c
    exact hP _ h
  · have h := h.2 c
    exact hP _ h
theorem x_Mo_readTask_413 {cx : gCx} {d : Nat} {ad : Nat → Nat} {l1 l2 l3 s0 s1 : Int32} {t : gSt} {post : Option Value → gSt → Prop} (hL : Lay t ad) (h : g_E cx d i_Mo_push [.ref (ad 144), .int s1, .int s0, .int 0] t (fun r u1 => r = none ∧ Lay u1 ad ∧ (g_E cx d i_Mo_take [.ref (ad 144)] u1 (fun r u3 => r = none ∧ Lay u3 ad ∧ (g_E cx d i_Mo_push [.ref (ad 144), .int 12, .int 0, .int 0] u3 (fun r u5 => r = none ∧ Lay u5 ad ∧ (g_W cx (g_E cx d) mt_Mo_readTask post (750, [some (.ref (ad 144)), some (.int l1), some (.int l2), some (.int l3), none, none], [], u5, 0, 0)))))))) : g_W cx (g_E cx d) mt_Mo_readTask post (413, [some (.ref (ad 144)), some (.int l1), some (.int l2), some (.int l3), none, none], [.int s0, .int s1, .ref (ad 144)], t, 0, 0) := by
  refine g_run [1, 100, 107, 167, 217, 243, 270, 317, 348, 357, 376, 394, 413, 432, 440, 459, 477, 494, 513, 529, 548, 575, 607, 626, 642, 649, 682, 723, 744, 750] 400 (fun P hP => ?_)
  refine And.intro (hL.k 144 (by decide)) ?_
  refine g_Em h (fun r u h => ?_)
  obtain ⟨rfl, hL, h⟩ := h
  refine And.intro (hL.k 144 (by decide)) ?_
  refine g_Em h (fun r u h => ?_)
  obtain ⟨rfl, hL, h⟩ := h
  refine And.intro (hL.k 144 (by decide)) ?_
  refine g_Em h (fun r u h => ?_)
  obtain ⟨rfl, hL, h⟩ := h
  exact hP _ h
theorem x_Mo_readTask_432 {cx : gCx} {d : Nat} {ad : Nat → Nat} {l1 l2 l3 : Int32} {t : gSt} {post : Option Value → gSt → Prop} (hL : Lay t ad) (h : g_E cx d i_Mo_two [.ref (ad 144), .int l2] t (fun r u1 => r = none ∧ Lay u1 ad ∧ (g_W cx (g_E cx d) mt_Mo_readTask post (750, [some (.ref (ad 144)), some (.int l1), some (.int l2), some (.int l3), none, none], [], u1, 0, 0)))) : g_W cx (g_E cx d) mt_Mo_readTask post (432, [some (.ref (ad 144)), some (.int l1), some (.int l2), some (.int l3), none, none], [], t, 0, 0) := by
  refine g_run [1, 100, 107, 167, 217, 243, 270, 317, 348, 357, 376, 394, 413, 432, 440, 459, 477, 494, 513, 529, 548, 575, 607, 626, 642, 649, 682, 723, 744, 750] 400 (fun P hP => ?_)
  refine And.intro (hL.k 144 (by decide)) ?_
  refine g_Em h (fun r u h => ?_)
  obtain ⟨rfl, hL, h⟩ := h
  exact hP _ h
theorem x_Mo_readTask_440 {cx : gCx} {d : Nat} {ad : Nat → Nat} {l1 l2 l3 : Int32} {t : gSt} {post : Option Value → gSt → Prop} (hL : Lay t ad) (h : g_E cx d i_Mo_push [.ref (ad 144), .int 13, .int 0, .int 0] t (fun r u1 => r = none ∧ Lay u1 ad ∧ (g_E cx d i_Mo_push [.ref (ad 144), .int 15, .int 0, .int 0] u1 (fun r u3 => r = none ∧ Lay u3 ad ∧ (g_W cx (g_E cx d) mt_Mo_readTask post (750, [some (.ref (ad 144)), some (.int l1), some (.int l2), some (.int l3), none, none], [], u3, 0, 0)))))) : g_W cx (g_E cx d) mt_Mo_readTask post (440, [some (.ref (ad 144)), some (.int l1), some (.int l2), some (.int l3), none, none], [], t, 0, 0) := by
  refine g_run [1, 100, 107, 167, 217, 243, 270, 317, 348, 357, 376, 394, 413, 432, 440, 459, 477, 494, 513, 529, 548, 575, 607, 626, 642, 649, 682, 723, 744, 750] 400 (fun P hP => ?_)
  refine And.intro (hL.k 144 (by decide)) ?_
  refine g_Em h (fun r u h => ?_)
  obtain ⟨rfl, hL, h⟩ := h
  refine And.intro (hL.k 144 (by decide)) ?_
  refine g_Em h (fun r u h => ?_)
  obtain ⟨rfl, hL, h⟩ := h
  exact hP _ h
theorem x_Mo_readTask_459 {cx : gCx} {d : Nat} {ad : Nat → Nat} {l1 l2 l3 : Int32} {t : gSt} {post : Option Value → gSt → Prop} (hL : Lay t ad) (h : g_E cx d i_Mo_look [.ref (ad 144)] t (fun r u1 => ∃ y2 : Int32, r = some (.int y2) ∧ Lay u1 ad ∧ ((y2 = 15 → g_W cx (g_E cx d) mt_Mo_readTask post (477, [some (.ref (ad 144)), some (.int l1), some (.int l2), some (.int l3), none, none], [], u1, 0, 0)) ∧ (¬ (y2 = 15) → g_E cx d i_Mo_look [.ref (ad 144)] u1 (fun r u3 => ∃ y4 : Int32, r = some (.int y4) ∧ Lay u3 ad ∧ ((¬ y4 = 16 → g_W cx (g_E cx d) mt_Mo_readTask post (750, [some (.ref (ad 144)), some (.int l1), some (.int l2), some (.int l3), none, none], [], u3, 0, 0)) ∧ (¬ (¬ y4 = 16) → g_W cx (g_E cx d) mt_Mo_readTask post (477, [some (.ref (ad 144)), some (.int l1), some (.int l2), some (.int l3), none, none], [], u3, 0, 0)))))))) : g_W cx (g_E cx d) mt_Mo_readTask post (459, [some (.ref (ad 144)), some (.int l1), some (.int l2), some (.int l3), none, none], [], t, 0, 0) := by
  refine g_run [1, 100, 107, 167, 217, 243, 270, 317, 348, 357, 376, 394, 413, 432, 440, 459, 477, 494, 513, 529, 548, 575, 607, 626, 642, 649, 682, 723, 744, 750] 400 (fun P hP => ?_)
  refine And.intro (hL.k 144 (by decide)) ?_
  refine g_Em h (fun r u h => ?_)
  obtain ⟨y2, rfl, hL, h⟩ := h
  refine And.intro (fun c => ?_) (fun c => ?_)
  · have h := h.1 c
    exact hP _ h
  · have h := h.2 c
    refine And.intro (hL.k 144 (by decide)) ?_
    refine g_Em h (fun r u h => ?_)
    obtain ⟨y4, rfl, hL, h⟩ := h
    refine And.intro (fun c => ?_) (fun c => ?_)
    · have h := h.1 c
      exact hP _ h
    · have h := h.2 c
      exact hP _ h
theorem x_Mo_readTask_477 {cx : gCx} {d : Nat} {ad : Nat → Nat} {l1 l2 l3 : Int32} {t : gSt} {post : Option Value → gSt → Prop} (hL : Lay t ad) (h : (¬ (t.2.1 (ad 144) 7) = 15 → g_W cx (g_E cx d) mt_Mo_readTask post (494, [some (.ref (ad 144)), some (.int l1), some (.int l2), some (.int l3), none, none], [.int 4, .int 14, .ref (ad 144)], t, 0, 0)) ∧ (¬ (¬ (t.2.1 (ad 144) 7) = 15) → g_W cx (g_E cx d) mt_Mo_readTask post (494, [some (.ref (ad 144)), some (.int l1), some (.int l2), some (.int l3), none, none], [.int 3, .int 14, .ref (ad 144)], t, 0, 0))) : g_W cx (g_E cx d) mt_Mo_readTask post (477, [some (.ref (ad 144)), some (.int l1), some (.int l2), some (.int l3), none, none], [], t, 0, 0) := by
  refine g_run [1, 100, 107, 167, 217, 243, 270, 317, 348, 357, 376, 394, 413, 432, 440, 459, 477, 494, 513, 529, 548, 575, 607, 626, 642, 649, 682, 723, 744, 750] 400 (fun P hP => ?_)
  refine And.intro (hL.k 144 (by decide)) ?_
  refine And.intro (fun c => ?_) (fun c => ?_)
  · have h := h.1 c
    exact hP _ h
  · have h := h.2 c
    exact hP _ h
theorem x_Mo_readTask_494 {cx : gCx} {d : Nat} {ad : Nat → Nat} {l1 l2 l3 s0 s1 : Int32} {t : gSt} {post : Option Value → gSt → Prop} (hL : Lay t ad) (h : g_E cx d i_Mo_push [.ref (ad 144), .int s1, .int s0, .int 0] t (fun r u1 => r = none ∧ Lay u1 ad ∧ (g_E cx d i_Mo_take [.ref (ad 144)] u1 (fun r u3 => r = none ∧ Lay u3 ad ∧ (g_E cx d i_Mo_push [.ref (ad 144), .int 15, .int 0, .int 0] u3 (fun r u5 => r = none ∧ Lay u5 ad ∧ (g_W cx (g_E cx d) mt_Mo_readTask post (750, [some (.ref (ad 144)), some (.int l1), some (.int l2), some (.int l3), none, none], [], u5, 0, 0)))))))) : g_W cx (g_E cx d) mt_Mo_readTask post (494, [some (.ref (ad 144)), some (.int l1), some (.int l2), some (.int l3), none, none], [.int s0, .int s1, .ref (ad 144)], t, 0, 0) := by
  refine g_run [1, 100, 107, 167, 217, 243, 270, 317, 348, 357, 376, 394, 413, 432, 440, 459, 477, 494, 513, 529, 548, 575, 607, 626, 642, 649, 682, 723, 744, 750] 400 (fun P hP => ?_)
  refine And.intro (hL.k 144 (by decide)) ?_
  refine g_Em h (fun r u h => ?_)
  obtain ⟨rfl, hL, h⟩ := h
  refine And.intro (hL.k 144 (by decide)) ?_
  refine g_Em h (fun r u h => ?_)
  obtain ⟨rfl, hL, h⟩ := h
  refine And.intro (hL.k 144 (by decide)) ?_
  refine g_Em h (fun r u h => ?_)
  obtain ⟨rfl, hL, h⟩ := h
  exact hP _ h
theorem x_Mo_readTask_513 {cx : gCx} {d : Nat} {ad : Nat → Nat} {l1 l2 l3 : Int32} {t : gSt} {post : Option Value → gSt → Prop} (hL : Lay t ad) (h : g_E cx d i_Mo_two [.ref (ad 144), .int l2] t (fun r u1 => r = none ∧ Lay u1 ad ∧ (g_E cx d i_Mo_push [.ref (ad 144), .int 13, .int 0, .int 0] u1 (fun r u3 => r = none ∧ Lay u3 ad ∧ (g_W cx (g_E cx d) mt_Mo_readTask post (750, [some (.ref (ad 144)), some (.int l1), some (.int l2), some (.int l3), none, none], [], u3, 0, 0)))))) : g_W cx (g_E cx d) mt_Mo_readTask post (513, [some (.ref (ad 144)), some (.int l1), some (.int l2), some (.int l3), none, none], [], t, 0, 0) := by
  refine g_run [1, 100, 107, 167, 217, 243, 270, 317, 348, 357, 376, 394, 413, 432, 440, 459, 477, 494, 513, 529, 548, 575, 607, 626, 642, 649, 682, 723, 744, 750] 400 (fun P hP => ?_)
  refine And.intro (hL.k 144 (by decide)) ?_
  refine g_Em h (fun r u h => ?_)
  obtain ⟨rfl, hL, h⟩ := h
  refine And.intro (hL.k 144 (by decide)) ?_
  refine g_Em h (fun r u h => ?_)
  obtain ⟨rfl, hL, h⟩ := h
  exact hP _ h
theorem x_Mo_readTask_529 {cx : gCx} {d : Nat} {ad : Nat → Nat} {l1 l2 l3 : Int32} {t : gSt} {post : Option Value → gSt → Prop} (hL : Lay t ad) (h : g_E cx d i_Mo_push [.ref (ad 144), .int 16, .int 0, .int 0] t (fun r u1 => r = none ∧ Lay u1 ad ∧ (g_E cx d i_Mo_push [.ref (ad 144), .int 18, .int 0, .int 0] u1 (fun r u3 => r = none ∧ Lay u3 ad ∧ (g_W cx (g_E cx d) mt_Mo_readTask post (750, [some (.ref (ad 144)), some (.int l1), some (.int l2), some (.int l3), none, none], [], u3, 0, 0)))))) : g_W cx (g_E cx d) mt_Mo_readTask post (529, [some (.ref (ad 144)), some (.int l1), some (.int l2), some (.int l3), none, none], [], t, 0, 0) := by
  refine g_run [1, 100, 107, 167, 217, 243, 270, 317, 348, 357, 376, 394, 413, 432, 440, 459, 477, 494, 513, 529, 548, 575, 607, 626, 642, 649, 682, 723, 744, 750] 400 (fun P hP => ?_)
  refine And.intro (hL.k 144 (by decide)) ?_
  refine g_Em h (fun r u h => ?_)
  obtain ⟨rfl, hL, h⟩ := h
  refine And.intro (hL.k 144 (by decide)) ?_
  refine g_Em h (fun r u h => ?_)
  obtain ⟨rfl, hL, h⟩ := h
  exact hP _ h
theorem x_Mo_readTask_548 {cx : gCx} {d : Nat} {ad : Nat → Nat} {l1 l2 l3 : Int32} {t : gSt} {post : Option Value → gSt → Prop} (hL : Lay t ad) (h : g_E cx d i_Mo_look [.ref (ad 144)] t (fun r u1 => ∃ y2 : Int32, r = some (.int y2) ∧ Lay u1 ad ∧ ((y2 = 17 → g_W cx (g_E cx d) mt_Mo_readTask post (575, [some (.ref (ad 144)), some (.int l1), some (.int l2), some (.int l3), none, none], [], u1, 0, 0)) ∧ (¬ (y2 = 17) → g_E cx d i_Mo_look [.ref (ad 144)] u1 (fun r u3 => ∃ y4 : Int32, r = some (.int y4) ∧ Lay u3 ad ∧ ((y4 = 18 → g_W cx (g_E cx d) mt_Mo_readTask post (575, [some (.ref (ad 144)), some (.int l1), some (.int l2), some (.int l3), none, none], [], u3, 0, 0)) ∧ (¬ (y4 = 18) → g_E cx d i_Mo_look [.ref (ad 144)] u3 (fun r u5 => ∃ y6 : Int32, r = some (.int y6) ∧ Lay u5 ad ∧ ((¬ y6 = 19 → g_W cx (g_E cx d) mt_Mo_readTask post (750, [some (.ref (ad 144)), some (.int l1), some (.int l2), some (.int l3), none, none], [], u5, 0, 0)) ∧ (¬ (¬ y6 = 19) → g_W cx (g_E cx d) mt_Mo_readTask post (575, [some (.ref (ad 144)), some (.int l1), some (.int l2), some (.int l3), none, none], [], u5, 0, 0))))))))))) : g_W cx (g_E cx d) mt_Mo_readTask post (548, [some (.ref (ad 144)), some (.int l1), some (.int l2), some (.int l3), none, none], [], t, 0, 0) := by
  refine g_run [1, 100, 107, 167, 217, 243, 270, 317, 348, 357, 376, 394, 413, 432, 440, 459, 477, 494, 513, 529, 548, 575, 607, 626, 642, 649, 682, 723, 744, 750] 400 (fun P hP => ?_)
  refine And.intro (hL.k 144 (by decide)) ?_
  refine g_Em h (fun r u h => ?_)
  obtain ⟨y2, rfl, hL, h⟩ := h
  refine And.intro (fun c => ?_) (fun c => ?_)
  · have h := h.1 c
    exact hP _ h
  · have h := h.2 c
    refine And.intro (hL.k 144 (by decide)) ?_
    refine g_Em h (fun r u h => ?_)
    obtain ⟨y4, rfl, hL, h⟩ := h
    refine And.intro (fun c => ?_) (fun c => ?_)
    · have h := h.1 c
      exact hP _ h
    · have h := h.2 c
      refine And.intro (hL.k 144 (by decide)) ?_
      refine g_Em h (fun r u h => ?_)
      obtain ⟨y6, rfl, hL, h⟩ := h
      refine And.intro (fun c => ?_) (fun c => ?_)
      · have h := h.1 c
        exact hP _ h
      · have h := h.2 c
        exact hP _ h
theorem x_Mo_readTask_575 {cx : gCx} {d : Nat} {ad : Nat → Nat} {l1 l2 l3 : Int32} {t : gSt} {post : Option Value → gSt → Prop} (hL : Lay t ad) (h : (¬ (t.2.1 (ad 144) 7) = 17 → (¬ (t.2.1 (ad 144) 7) = 18 → g_W cx (g_E cx d) mt_Mo_readTask post (607, [some (.ref (ad 144)), some (.int l1), some (.int l2), some (.int l3), none, none], [.int 7, .int 17, .ref (ad 144)], t, 0, 0)) ∧ (¬ (¬ (t.2.1 (ad 144) 7) = 18) → g_W cx (g_E cx d) mt_Mo_readTask post (607, [some (.ref (ad 144)), some (.int l1), some (.int l2), some (.int l3), none, none], [.int 6, .int 17, .ref (ad 144)], t, 0, 0))) ∧ (¬ (¬ (t.2.1 (ad 144) 7) = 17) → g_W cx (g_E cx d) mt_Mo_readTask post (607, [some (.ref (ad 144)), some (.int l1), some (.int l2), some (.int l3), none, none], [.int 5, .int 17, .ref (ad 144)], t, 0, 0))) : g_W cx (g_E cx d) mt_Mo_readTask post (575, [some (.ref (ad 144)), some (.int l1), some (.int l2), some (.int l3), none, none], [], t, 0, 0) := by
  refine g_run [1, 100, 107, 167, 217, 243, 270, 317, 348, 357, 376, 394, 413, 432, 440, 459, 477, 494, 513, 529, 548, 575, 607, 626, 642, 649, 682, 723, 744, 750] 400 (fun P hP => ?_)
  refine And.intro (hL.k 144 (by decide)) ?_
  refine And.intro (fun c => ?_) (fun c => ?_)
  · have h := h.1 c
    refine And.intro (hL.k 144 (by decide)) ?_
    refine And.intro (fun c => ?_) (fun c => ?_)
    · have h := h.1 c
      exact hP _ h
    · have h := h.2 c
      exact hP _ h
  · have h := h.2 c
    exact hP _ h
theorem x_Mo_readTask_607 {cx : gCx} {d : Nat} {ad : Nat → Nat} {l1 l2 l3 s0 s1 : Int32} {t : gSt} {post : Option Value → gSt → Prop} (hL : Lay t ad) (h : g_E cx d i_Mo_push [.ref (ad 144), .int s1, .int s0, .int 0] t (fun r u1 => r = none ∧ Lay u1 ad ∧ (g_E cx d i_Mo_take [.ref (ad 144)] u1 (fun r u3 => r = none ∧ Lay u3 ad ∧ (g_E cx d i_Mo_push [.ref (ad 144), .int 18, .int 0, .int 0] u3 (fun r u5 => r = none ∧ Lay u5 ad ∧ (g_W cx (g_E cx d) mt_Mo_readTask post (750, [some (.ref (ad 144)), some (.int l1), some (.int l2), some (.int l3), none, none], [], u5, 0, 0)))))))) : g_W cx (g_E cx d) mt_Mo_readTask post (607, [some (.ref (ad 144)), some (.int l1), some (.int l2), some (.int l3), none, none], [.int s0, .int s1, .ref (ad 144)], t, 0, 0) := by
  refine g_run [1, 100, 107, 167, 217, 243, 270, 317, 348, 357, 376, 394, 413, 432, 440, 459, 477, 494, 513, 529, 548, 575, 607, 626, 642, 649, 682, 723, 744, 750] 400 (fun P hP => ?_)
  refine And.intro (hL.k 144 (by decide)) ?_
  refine g_Em h (fun r u h => ?_)
  obtain ⟨rfl, hL, h⟩ := h
  refine And.intro (hL.k 144 (by decide)) ?_
  refine g_Em h (fun r u h => ?_)
  obtain ⟨rfl, hL, h⟩ := h
  refine And.intro (hL.k 144 (by decide)) ?_
  refine g_Em h (fun r u h => ?_)
  obtain ⟨rfl, hL, h⟩ := h
  exact hP _ h
theorem x_Mo_readTask_626 {cx : gCx} {d : Nat} {ad : Nat → Nat} {l1 l2 l3 : Int32} {t : gSt} {post : Option Value → gSt → Prop} (hL : Lay t ad) (h : g_E cx d i_Mo_two [.ref (ad 144), .int l2] t (fun r u1 => r = none ∧ Lay u1 ad ∧ (g_E cx d i_Mo_push [.ref (ad 144), .int 16, .int 0, .int 0] u1 (fun r u3 => r = none ∧ Lay u3 ad ∧ (g_W cx (g_E cx d) mt_Mo_readTask post (750, [some (.ref (ad 144)), some (.int l1), some (.int l2), some (.int l3), none, none], [], u3, 0, 0)))))) : g_W cx (g_E cx d) mt_Mo_readTask post (626, [some (.ref (ad 144)), some (.int l1), some (.int l2), some (.int l3), none, none], [], t, 0, 0) := by
  refine g_run [1, 100, 107, 167, 217, 243, 270, 317, 348, 357, 376, 394, 413, 432, 440, 459, 477, 494, 513, 529, 548, 575, 607, 626, 642, 649, 682, 723, 744, 750] 400 (fun P hP => ?_)
  refine And.intro (hL.k 144 (by decide)) ?_
  refine g_Em h (fun r u h => ?_)
  obtain ⟨rfl, hL, h⟩ := h
  refine And.intro (hL.k 144 (by decide)) ?_
  refine g_Em h (fun r u h => ?_)
  obtain ⟨rfl, hL, h⟩ := h
  exact hP _ h
theorem x_Mo_readTask_642 {cx : gCx} {d : Nat} {ad : Nat → Nat} {l1 l2 l3 : Int32} {t : gSt} {post : Option Value → gSt → Prop} (hL : Lay t ad) (h : g_E cx d i_Mo_unary [.ref (ad 144)] t (fun r u1 => r = none ∧ Lay u1 ad ∧ (g_W cx (g_E cx d) mt_Mo_readTask post (750, [some (.ref (ad 144)), some (.int l1), some (.int l2), some (.int l3), none, none], [], u1, 0, 0)))) : g_W cx (g_E cx d) mt_Mo_readTask post (642, [some (.ref (ad 144)), some (.int l1), some (.int l2), some (.int l3), none, none], [], t, 0, 0) := by
  refine g_run [1, 100, 107, 167, 217, 243, 270, 317, 348, 357, 376, 394, 413, 432, 440, 459, 477, 494, 513, 529, 548, 575, 607, 626, 642, 649, 682, 723, 744, 750] 400 (fun P hP => ?_)
  refine And.intro (hL.k 144 (by decide)) ?_
  refine g_Em h (fun r u h => ?_)
  obtain ⟨rfl, hL, h⟩ := h
  exact hP _ h
theorem x_Mo_readTask_649 {cx : gCx} {d : Nat} {ad : Nat → Nat} {l1 l2 l3 : Int32} {t : gSt} {post : Option Value → gSt → Prop} (hL : Lay t ad) (h : ∀ t1, t1 = g_si t (ad 144) 24 ((t.2.1 (ad 144) 24) - 1) → g_E cx d i_Mo_got [.ref (ad 144)] t1 (fun r u2 => ∃ y3 : Int32, r = some (.int y3) ∧ Lay u2 ad ∧ (g_E cx d i_Mo_node [.ref (ad 144), .int (t1.2.1 (ad 144) 23), .int 10, .int y3, .int 0, .int 0] u2 (fun r u4 => ∃ y5 : Int32, r = some (.int y5) ∧ Lay u4 ad ∧ (g_E cx d i_Mo_give [.ref (ad 144), .int y5] u4 (fun r u6 => r = none ∧ Lay u6 ad ∧ (g_W cx (g_E cx d) mt_Mo_readTask post (750, [some (.ref (ad 144)), some (.int l1), some (.int l2), some (.int l3), none, none], [], u6, 0, 0)))))))) : g_W cx (g_E cx d) mt_Mo_readTask post (649, [some (.ref (ad 144)), some (.int l1), some (.int l2), some (.int l3), none, none], [], t, 0, 0) := by
  refine g_run [1, 100, 107, 167, 217, 243, 270, 317, 348, 357, 376, 394, 413, 432, 440, 459, 477, 494, 513, 529, 548, 575, 607, 626, 642, 649, 682, 723, 744, 750] 400 (fun P hP => ?_)
  refine And.intro (hL.k 144 (by decide)) ?_
  refine And.intro (hL.k 144 (by decide)) ?_
  have h := h _ rfl
  refine And.intro (hL.k 144 (by decide)) ?_
  refine And.intro (hL.k 144 (by decide)) ?_
  refine g_Em h (fun r u h => ?_)
  obtain ⟨y3, rfl, hL, h⟩ := h
  refine And.intro (hL.k 144 (by decide)) ?_
  refine g_Em h (fun r u h => ?_)
  obtain ⟨y5, rfl, hL, h⟩ := h
  refine And.intro (hL.k 144 (by decide)) ?_
  refine g_Em h (fun r u h => ?_)
  obtain ⟨rfl, hL, h⟩ := h
  exact hP _ h
theorem x_Mo_readTask_682 {cx : gCx} {d : Nat} {ad : Nat → Nat} {l1 l2 l3 : Int32} {t : gSt} {post : Option Value → gSt → Prop} (hL : Lay t ad) (h : g_E cx d i_Mo_must [.ref (ad 144), .int 11] t (fun r u1 => ∃ y2 : Int32, r = some (.int y2) ∧ Lay u1 ad ∧ (∀ t3, t3 = g_si u1 (ad 144) 24 ((u1.2.1 (ad 144) 24) - 1) → g_E cx d i_Mo_got [.ref (ad 144)] t3 (fun r u4 => ∃ y5 : Int32, r = some (.int y5) ∧ Lay u4 ad ∧ (g_E cx d i_Mo_node [.ref (ad 144), .int (t3.2.1 (ad 144) 23), .int 11, .int y5, .int 0, .int 0] u4 (fun r u6 => ∃ y7 : Int32, r = some (.int y7) ∧ Lay u6 ad ∧ (g_E cx d i_Mo_give [.ref (ad 144), .int y7] u6 (fun r u8 => r = none ∧ Lay u8 ad ∧ (g_W cx (g_E cx d) mt_Mo_readTask post (750, [some (.ref (ad 144)), some (.int l1), some (.int l2), some (.int l3), some (.int y2), none], [], u8, 0, 0)))))))))) : g_W cx (g_E cx d) mt_Mo_readTask post (682, [some (.ref (ad 144)), some (.int l1), some (.int l2), some (.int l3), none, none], [], t, 0, 0) := by
  refine g_run [1, 100, 107, 167, 217, 243, 270, 317, 348, 357, 376, 394, 413, 432, 440, 459, 477, 494, 513, 529, 548, 575, 607, 626, 642, 649, 682, 723, 744, 750] 400 (fun P hP => ?_)
  refine And.intro (hL.k 144 (by decide)) ?_
  refine g_Em h (fun r u h => ?_)
  obtain ⟨y2, rfl, hL, h⟩ := h
  refine And.intro (hL.k 144 (by decide)) ?_
  refine And.intro (hL.k 144 (by decide)) ?_
  have h := h _ rfl
  refine And.intro (hL.k 144 (by decide)) ?_
  refine And.intro (hL.k 144 (by decide)) ?_
  refine g_Em h (fun r u h => ?_)
  obtain ⟨y5, rfl, hL, h⟩ := h
  refine And.intro (hL.k 144 (by decide)) ?_
  refine g_Em h (fun r u h => ?_)
  obtain ⟨y7, rfl, hL, h⟩ := h
  refine And.intro (hL.k 144 (by decide)) ?_
  refine g_Em h (fun r u h => ?_)
  obtain ⟨rfl, hL, h⟩ := h
  exact hP _ h
theorem x_Mo_readTask_723 {cx : gCx} {d : Nat} {ad : Nat → Nat} {l1 l2 l3 : Int32} {t : gSt} {post : Option Value → gSt → Prop} (hL : Lay t ad) (h : g_E cx d i_Mo_must [.ref (ad 144), .int 11] t (fun r u1 => ∃ y2 : Int32, r = some (.int y2) ∧ Lay u1 ad ∧ (∀ t3, t3 = g_si u1 (ad 144) 24 ((u1.2.1 (ad 144) 24) - 1) → g_W cx (g_E cx d) mt_Mo_readTask post (750, [some (.ref (ad 144)), some (.int l1), some (.int l2), some (.int l3), some (.int y2), none], [], t3, 0, 0)))) : g_W cx (g_E cx d) mt_Mo_readTask post (723, [some (.ref (ad 144)), some (.int l1), some (.int l2), some (.int l3), none, none], [], t, 0, 0) := by
  refine g_run [1, 100, 107, 167, 217, 243, 270, 317, 348, 357, 376, 394, 413, 432, 440, 459, 477, 494, 513, 529, 548, 575, 607, 626, 642, 649, 682, 723, 744, 750] 400 (fun P hP => ?_)
  refine And.intro (hL.k 144 (by decide)) ?_
  refine g_Em h (fun r u h => ?_)
  obtain ⟨y2, rfl, hL, h⟩ := h
  refine And.intro (hL.k 144 (by decide)) ?_
  refine And.intro (hL.k 144 (by decide)) ?_
  have h := h _ rfl
  exact hP _ h
theorem x_Mo_readTask_744 {cx : gCx} {d : Nat} {ad : Nat → Nat} {l1 l2 l3 : Int32} {t : gSt} {post : Option Value → gSt → Prop} (hL : Lay t ad) (h : g_E cx d i_Mo_endArgument [.ref (ad 144), .int l2, .int l3] t (fun r u1 => r = none ∧ Lay u1 ad ∧ (g_W cx (g_E cx d) mt_Mo_readTask post (750, [some (.ref (ad 144)), some (.int l1), some (.int l2), some (.int l3), none, none], [], u1, 0, 0)))) : g_W cx (g_E cx d) mt_Mo_readTask post (744, [some (.ref (ad 144)), some (.int l1), some (.int l2), some (.int l3), none, none], [], t, 0, 0) := by
  refine g_run [1, 100, 107, 167, 217, 243, 270, 317, 348, 357, 376, 394, 413, 432, 440, 459, 477, 494, 513, 529, 548, 575, 607, 626, 642, 649, 682, 723, 744, 750] 400 (fun P hP => ?_)
  refine And.intro (hL.k 144 (by decide)) ?_
  refine g_Em h (fun r u h => ?_)
  obtain ⟨rfl, hL, h⟩ := h
  exact hP _ h
theorem x_Mo_readTask_750 {cx : gCx} {d : Nat} {ad : Nat → Nat} {l1 l2 l3 : Int32} {o4 o5 : Option Value} {t : gSt} {post : Option Value → gSt → Prop} (hL : Lay t ad) (h : post none t) : g_W cx (g_E cx d) mt_Mo_readTask post (750, [some (.ref (ad 144)), some (.int l1), some (.int l2), some (.int l3), o4, o5], [], t, 0, 0) := by
  refine g_run [1, 100, 107, 167, 217, 243, 270, 317, 348, 357, 376, 394, 413, 432, 440, 459, 477, 494, 513, 529, 548, 575, 607, 626, 642, 649, 682, 723, 744, 750] 400 (fun P hP => ?_)
  exact And.intro rfl (And.intro rfl h)
theorem x_Mo_beginExp {cx : gCx} {d : Nat} {ad : Nat → Nat} {t : gSt} {post : Option Value → gSt → Prop} (hL : Lay t ad) (h : g_E cx d i_Mo_look [.ref (ad 144)] t (fun r u1 => ∃ y2 : Int32, r = some (.int y2) ∧ Lay u1 ad ∧ ((¬ y2 = 4 → (¬ y2 = 6 → g_E cx d i_Mo_push [.ref (ad 144), .int 7, .int 0, .int 0] u1 (fun r u3 => r = none ∧ Lay u3 ad ∧ (g_E cx d i_Mo_push [.ref (ad 144), .int 9, .int 0, .int 0] u3 (fun r u5 => r = none ∧ Lay u5 ad ∧ (post none u5))))) ∧ (¬ (¬ y2 = 6) → g_E cx d i_Mo_opens [.ref (ad 144)] u1 (fun r u7 => ∃ y8 : Int32, r = some (.int y8) ∧ Lay u7 ad ∧ ((y8 = 0 → post none u7) ∧ (¬ (y8 = 0) → g_E cx d i_Mo_push [.ref (ad 144), .int 4, .int 0, .int 0] u7 (fun r u9 => r = none ∧ Lay u9 ad ∧ (g_E cx d i_Mo_push [.ref (ad 144), .int 1, .int 0, .int 0] u9 (fun r u11 => r = none ∧ Lay u11 ad ∧ (post none u11))))))))) ∧ (¬ (¬ y2 = 4) → g_E cx d i_Mo_opens [.ref (ad 144)] u1 (fun r u13 => ∃ y14 : Int32, r = some (.int y14) ∧ Lay u13 ad ∧ ((¬ y14 = 0 → g_E cx d i_Mo_look [.ref (ad 144)] u13 (fun r u15 => ∃ y16 : Int32, r = some (.int y16) ∧ Lay u15 ad ∧ ((y16 = 2 → (¬ (u15.2.1 (ad 144) 25) = 40 → ∀ x17 : Int32, x17 = ((u15.2.1 (ad 144) 45) + (u15.2.1 (ad 144) 25)) → ∀ t18, t18 = g_si u15 (ad 144) 25 ((u15.2.1 (ad 144) 25) + 1) → vp_in x17 50 ∧ (∀ t19, t19 = g_sj t18 (ad 168) (x17 : Int32).toNatClampNeg (t18.2.2.1 (ad 144) 10) → g_E cx d i_Mo_take [.ref (ad 144)] t19 (fun r u20 => r = none ∧ Lay u20 ad ∧ (g_E cx d i_Mo_must [.ref (ad 144), .int 14] u20 (fun r u22 => ∃ y23 : Int32, r = some (.int y23) ∧ Lay u22 ad ∧ ((y23 = 0 → post none u22) ∧ (¬ (y23 = 0) → g_E cx d i_Mo_push [.ref (ad 144), .int 2, .int x17, .int 0] u22 (fun r u24 => r = none ∧ Lay u24 ad ∧ (g_E cx d i_Mo_push [.ref (ad 144), .int 1, .int 0, .int 0] u24 (fun r u26 => r = none ∧ Lay u26 ad ∧ (post none u26))))))))))) ∧ (¬ (¬ (u15.2.1 (ad 144) 25) = 40) → g_E cx d i_Mo_fail [.ref (ad 144), .int 5, .int (u15.2.1 (ad 144) 8)] u15 (fun r u28 => r = none ∧ Lay u28 ad ∧ (post none u28)))) ∧ (¬ (y16 = 2) → g_E cx d i_Mo_fail [.ref (ad 144), .int 2, .int (u15.2.1 (ad 144) 8)] u15 (fun r u30 => r = none ∧ Lay u30 ad ∧ (post none u30)))))) ∧ (¬ (¬ y14 = 0) → post none u13))))))) : g_E cx (d + 1) i_Mo_beginExp [.ref (ad 144)] t post := by
  refine g_call mt_Mo_beginExp rfl (by decide) (Nat.le_of_ble_eq_true rfl) ?_
  refine g_run [] 400 (fun P hP => ?_)
  refine And.intro (hL.k 144 (by decide)) ?_
  refine g_Em h (fun r u h => ?_)
  obtain ⟨y2, rfl, hL, h⟩ := h
  refine And.intro (fun c => ?_) (fun c => ?_)
  · have h := h.1 c
    refine And.intro (fun c => ?_) (fun c => ?_)
    · have h := h.1 c
      refine And.intro (hL.k 144 (by decide)) ?_
      refine g_Em h (fun r u h => ?_)
      obtain ⟨rfl, hL, h⟩ := h
      refine And.intro (hL.k 144 (by decide)) ?_
      refine g_Em h (fun r u h => ?_)
      obtain ⟨rfl, hL, h⟩ := h
      exact And.intro rfl (And.intro rfl h)
    · have h := h.2 c
      refine And.intro (hL.k 144 (by decide)) ?_
      refine g_Em h (fun r u h => ?_)
      obtain ⟨y8, rfl, hL, h⟩ := h
      refine And.intro (fun c => ?_) (fun c => ?_)
      · have h := h.1 c
        exact And.intro rfl (And.intro rfl h)
      · have h := h.2 c
        refine And.intro (hL.k 144 (by decide)) ?_
        refine g_Em h (fun r u h => ?_)
        obtain ⟨rfl, hL, h⟩ := h
        refine And.intro (hL.k 144 (by decide)) ?_
        refine g_Em h (fun r u h => ?_)
        obtain ⟨rfl, hL, h⟩ := h
        exact And.intro rfl (And.intro rfl h)
  · have h := h.2 c
    refine And.intro (hL.k 144 (by decide)) ?_
    refine g_Em h (fun r u h => ?_)
    obtain ⟨y14, rfl, hL, h⟩ := h
    refine And.intro (fun c => ?_) (fun c => ?_)
    · have h := h.1 c
      refine And.intro (hL.k 144 (by decide)) ?_
      refine g_Em h (fun r u h => ?_)
      obtain ⟨y16, rfl, hL, h⟩ := h
      refine And.intro (fun c => ?_) (fun c => ?_)
      · have h := h.1 c
        refine And.intro (hL.k 144 (by decide)) ?_
        refine And.intro (fun c => ?_) (fun c => ?_)
        · have h := h.1 c
          refine And.intro (hL.k 144 (by decide)) ?_
          refine And.intro (hL.k 144 (by decide)) ?_
          have h := h _ rfl
          refine And.intro (hL.k 144 (by decide)) ?_
          refine And.intro (hL.k 144 (by decide)) ?_
          have h := h _ rfl
          refine And.intro (hL.k 144 (by decide)) (Or.inl ⟨_, (hL.r 144 42 168 (by decide)), ?_⟩)
          refine And.intro (hL.k 144 (by decide)) ?_
          refine And.intro (hL.k 168 (by decide)) (And.intro (hL.v 168 (by decide) h.1) ?_)
          have h := h.2 _ rfl
          refine And.intro (hL.k 144 (by decide)) ?_
          refine g_Em h (fun r u h => ?_)
          obtain ⟨rfl, hL, h⟩ := h
          refine And.intro (hL.k 144 (by decide)) ?_
          refine g_Em h (fun r u h => ?_)
          obtain ⟨y23, rfl, hL, h⟩ := h
          refine And.intro (fun c => ?_) (fun c => ?_)
          · have h := h.1 c
            exact And.intro rfl (And.intro rfl h)
          · have h := h.2 c
            refine And.intro (hL.k 144 (by decide)) ?_
            refine g_Em h (fun r u h => ?_)
            obtain ⟨rfl, hL, h⟩ := h
            refine And.intro (hL.k 144 (by decide)) ?_
            refine g_Em h (fun r u h => ?_)
            obtain ⟨rfl, hL, h⟩ := h
            exact And.intro rfl (And.intro rfl h)
        · have h := h.2 c
          refine And.intro (hL.k 144 (by decide)) ?_
          refine And.intro (hL.k 144 (by decide)) ?_
          refine g_Em h (fun r u h => ?_)
          obtain ⟨rfl, hL, h⟩ := h
          exact And.intro rfl (And.intro rfl h)
      · have h := h.2 c
        refine And.intro (hL.k 144 (by decide)) ?_
        refine And.intro (hL.k 144 (by decide)) ?_
        refine g_Em h (fun r u h => ?_)
        obtain ⟨rfl, hL, h⟩ := h
        exact And.intro rfl (And.intro rfl h)
    · have h := h.2 c
      exact And.intro rfl (And.intro rfl h)
theorem x_Mo_unary {cx : gCx} {d : Nat} {ad : Nat → Nat} {t : gSt} {post : Option Value → gSt → Prop} (hL : Lay t ad) (h : g_E cx d i_Mo_look [.ref (ad 144)] t (fun r u1 => ∃ y2 : Int32, r = some (.int y2) ∧ Lay u1 ad ∧ ((¬ y2 = 16 → (¬ y2 = 1 → (¬ y2 = 9 → (¬ y2 = 10 → (¬ y2 = 2 → g_E cx d i_Mo_fail [.ref (ad 144), .int 2, .int (u1.2.1 (ad 144) 8)] u1 (fun r u3 => r = none ∧ Lay u3 ad ∧ (post none u3))) ∧ (¬ (¬ y2 = 2) → g_E cx d i_Mo_named [.ref (ad 144)] u1 (fun r u5 => r = none ∧ Lay u5 ad ∧ (post none u5)))) ∧ (¬ (¬ y2 = 10) → g_E cx d i_Mo_opens [.ref (ad 144)] u1 (fun r u7 => ∃ y8 : Int32, r = some (.int y8) ∧ Lay u7 ad ∧ ((y8 = 0 → post none u7) ∧ (¬ (y8 = 0) → g_E cx d i_Mo_push [.ref (ad 144), .int 21, .int 0, .int 0] u7 (fun r u9 => r = none ∧ Lay u9 ad ∧ (g_E cx d i_Mo_push [.ref (ad 144), .int 1, .int 0, .int 0] u9 (fun r u11 => r = none ∧ Lay u11 ad ∧ (post none u11))))))))) ∧ (¬ (¬ y2 = 9) → g_E cx d i_Mo_take [.ref (ad 144)] u1 (fun r u13 => r = none ∧ Lay u13 ad ∧ (g_E cx d i_Mo_look [.ref (ad 144)] u13 (fun r u15 => ∃ y16 : Int32, r = some (.int y16) ∧ Lay u15 ad ∧ ((y16 = 10 → g_E cx d i_Mo_opens [.ref (ad 144)] u15 (fun r u17 => ∃ y18 : Int32, r = some (.int y18) ∧ Lay u17 ad ∧ ((y18 = 0 → post none u17) ∧ (¬ (y18 = 0) → g_E cx d i_Mo_push [.ref (ad 144), .int 20, .int 0, .int 0] u17 (fun r u19 => r = none ∧ Lay u19 ad ∧ (g_E cx d i_Mo_push [.ref (ad 144), .int 1, .int 0, .int 0] u19 (fun r u21 => r = none ∧ Lay u21 ad ∧ (post none u21)))))))) ∧ (¬ (y16 = 10) → g_E cx d i_Mo_fail [.ref (ad 144), .int 2, .int (u15.2.1 (ad 144) 8)] u15 (fun r u23 => r = none ∧ Lay u23 ad ∧ (post none u23))))))))) ∧ (¬ (¬ y2 = 1) → g_E cx d i_Mo_node [.ref (ad 144), .int (u1.2.1 (ad 144) 23), .int 1, .int (u1.2.2.1 (ad 144) 9).toInt32, .int 0, .int 0] u1 (fun r u25 => ∃ y26 : Int32, r = some (.int y26) ∧ Lay u25 ad ∧ (g_E cx d i_Mo_give [.ref (ad 144), .int y26] u25 (fun r u27 => r = none ∧ Lay u27 ad ∧ (g_E cx d i_Mo_take [.ref (ad 144)] u27 (fun r u29 => r = none ∧ Lay u29 ad ∧ (post none u29)))))))) ∧ (¬ (¬ y2 = 16) → g_E cx d i_Mo_opens [.ref (ad 144)] u1 (fun r u31 => ∃ y32 : Int32, r = some (.int y32) ∧ Lay u31 ad ∧ ((y32 = 0 → post none u31) ∧ (¬ (y32 = 0) → g_E cx d i_Mo_push [.ref (ad 144), .int 19, .int 0, .int 0] u31 (fun r u33 => r = none ∧ Lay u33 ad ∧ (g_E cx d i_Mo_push [.ref (ad 144), .int 18, .int 0, .int 0] u33 (fun r u35 => r = none ∧ Lay u35 ad ∧ (post none u35))))))))))) : g_E cx (d + 1) i_Mo_unary [.ref (ad 144)] t post := by
  refine g_call mt_Mo_unary rfl (by decide) (Nat.le_of_ble_eq_true rfl) ?_
  refine g_run [] 400 (fun P hP => ?_)
  refine And.intro (hL.k 144 (by decide)) ?_
  refine g_Em h (fun r u h => ?_)
  obtain ⟨y2, rfl, hL, h⟩ := h
  refine And.intro (fun c => ?_) (fun c => ?_)
  · have h := h.1 c
    refine And.intro (fun c => ?_) (fun c => ?_)
    · have h := h.1 c
      refine And.intro (fun c => ?_) (fun c => ?_)
      · have h := h.1 c
        refine And.intro (fun c => ?_) (fun c => ?_)
        · have h := h.1 c
          refine And.intro (fun c => ?_) (fun c => ?_)
          · have h := h.1 c
            refine And.intro (hL.k 144 (by decide)) ?_
            refine And.intro (hL.k 144 (by decide)) ?_
            refine g_Em h (fun r u h => ?_)
            obtain ⟨rfl, hL, h⟩ := h
            exact And.intro rfl (And.intro rfl h)
          · have h := h.2 c
            refine And.intro (hL.k 144 (by decide)) ?_
            refine g_Em h (fun r u h => ?_)
            obtain ⟨rfl, hL, h⟩ := h
            exact And.intro rfl (And.intro rfl h)
        · have h := h.2 c
          refine And.intro (hL.k 144 (by decide)) ?_
          refine g_Em h (fun r u h => ?_)
          obtain ⟨y8, rfl, hL, h⟩ := h
          refine And.intro (fun c => ?_) (fun c => ?_)
          · have h := h.1 c
            exact And.intro rfl (And.intro rfl h)
          · have h := h.2 c
            refine And.intro (hL.k 144 (by decide)) ?_
            refine g_Em h (fun r u h => ?_)
            obtain ⟨rfl, hL, h⟩ := h
            refine And.intro (hL.k 144 (by decide)) ?_
            refine g_Em h (fun r u h => ?_)
            obtain ⟨rfl, hL, h⟩ := h
            exact And.intro rfl (And.intro rfl h)
      · have h := h.2 c
        refine And.intro (hL.k 144 (by decide)) ?_
        refine g_Em h (fun r u h => ?_)
        obtain ⟨rfl, hL, h⟩ := h
        refine And.intro (hL.k 144 (by decide)) ?_
        refine g_Em h (fun r u h => ?_)
        obtain ⟨y16, rfl, hL, h⟩ := h
        refine And.intro (fun c => ?_) (fun c => ?_)
        · have h := h.1 c
          refine And.intro (hL.k 144 (by decide)) ?_
          refine g_Em h (fun r u h => ?_)
          obtain ⟨y18, rfl, hL, h⟩ := h
          refine And.intro (fun c => ?_) (fun c => ?_)
          · have h := h.1 c
            exact And.intro rfl (And.intro rfl h)
          · have h := h.2 c
            refine And.intro (hL.k 144 (by decide)) ?_
            refine g_Em h (fun r u h => ?_)
            obtain ⟨rfl, hL, h⟩ := h
            refine And.intro (hL.k 144 (by decide)) ?_
            refine g_Em h (fun r u h => ?_)
            obtain ⟨rfl, hL, h⟩ := h
            exact And.intro rfl (And.intro rfl h)
        · have h := h.2 c
          refine And.intro (hL.k 144 (by decide)) ?_
          refine And.intro (hL.k 144 (by decide)) ?_
          refine g_Em h (fun r u h => ?_)
          obtain ⟨rfl, hL, h⟩ := h
          exact And.intro rfl (And.intro rfl h)
    · have h := h.2 c
      refine And.intro (hL.k 144 (by decide)) ?_
      refine And.intro (hL.k 144 (by decide)) ?_
      refine And.intro (hL.k 144 (by decide)) ?_
      refine g_Em h (fun r u h => ?_)
      obtain ⟨y26, rfl, hL, h⟩ := h
      refine And.intro (hL.k 144 (by decide)) ?_
      refine g_Em h (fun r u h => ?_)
      obtain ⟨rfl, hL, h⟩ := h
      refine And.intro (hL.k 144 (by decide)) ?_
      refine g_Em h (fun r u h => ?_)
      obtain ⟨rfl, hL, h⟩ := h
      exact And.intro rfl (And.intro rfl h)
  · have h := h.2 c
    refine And.intro (hL.k 144 (by decide)) ?_
    refine g_Em h (fun r u h => ?_)
    obtain ⟨y32, rfl, hL, h⟩ := h
    refine And.intro (fun c => ?_) (fun c => ?_)
    · have h := h.1 c
      exact And.intro rfl (And.intro rfl h)
    · have h := h.2 c
      refine And.intro (hL.k 144 (by decide)) ?_
      refine g_Em h (fun r u h => ?_)
      obtain ⟨rfl, hL, h⟩ := h
      refine And.intro (hL.k 144 (by decide)) ?_
      refine g_Em h (fun r u h => ?_)
      obtain ⟨rfl, hL, h⟩ := h
      exact And.intro rfl (And.intro rfl h)
theorem x_Mo_named {cx : gCx} {d : Nat} {ad : Nat → Nat} {t : gSt} {post : Option Value → gSt → Prop} (hL : Lay t ad) (h : ∀ x1 : Int32, x1 = (t.2.1 (ad 144) 8) → ∀ t2, t2 = g_sj t (ad 144) 41 (t.2.2.1 (ad 144) 10) → g_E cx d i_Mo_take [.ref (ad 144)] t2 (fun r u3 => r = none ∧ Lay u3 ad ∧ (g_E cx d i_Mo_look [.ref (ad 144)] u3 (fun r u5 => ∃ y6 : Int32, r = some (.int y6) ∧ Lay u5 ad ∧ ((¬ y6 = 10 → ((u5.2.1 (ad 144) 3) ≤ 0 → ∀ x7 : Int32, x7 = ((u5.2.1 (ad 144) 28) - 1) → g_W cx (g_E cx d) mt_Mo_named post (131, [some (.ref (ad 144)), some (.int x1), some (.int x7)], [], u5, 0, 0)) ∧ (¬ ((u5.2.1 (ad 144) 3) ≤ 0) → post none u5)) ∧ (¬ (¬ y6 = 10) → g_E cx d i_Mo_opens [.ref (ad 144)] u5 (fun r u8 => ∃ y9 : Int32, r = some (.int y9) ∧ Lay u8 ad ∧ ((¬ y9 = 0 → ∀ x10 : Int32, x10 = (u8.2.1 (ad 144) 35) → ∀ t11, t11 = g_si u8 (ad 144) 35 ((u8.2.1 (ad 144) 35) + 1) → vp_in x10 1100 ∧ (∀ t12, t12 = g_sj t11 (ad 163) (x10 : Int32).toNatClampNeg (t11.2.2.1 (ad 144) 41) → vp_in x10 1100 ∧ (∀ t13, t13 = g_si t12 (ad 164) (x10 : Int32).toNatClampNeg x1 → vp_in x10 1100 ∧ (∀ t14, t14 = g_si t13 (ad 165) (x10 : Int32).toNatClampNeg 0 → vp_in x10 1100 ∧ (∀ t15, t15 = g_si t14 (ad 167) (x10 : Int32).toNatClampNeg (t14.2.1 (ad 144) 23) → g_E cx d i_Mo_look [.ref (ad 144)] t15 (fun r u16 => ∃ y17 : Int32, r = some (.int y17) ∧ Lay u16 ad ∧ ((¬ y17 = 11 → g_E cx d i_Mo_push [.ref (ad 144), .int 22, .int x10, .int 0] u16 (fun r u18 => r = none ∧ Lay u18 ad ∧ (g_E cx d i_Mo_push [.ref (ad 144), .int 1, .int 0, .int 0] u18 (fun r u20 => r = none ∧ Lay u20 ad ∧ (post none u20))))) ∧ (¬ (¬ y17 = 11) → g_E cx d i_Mo_endCall [.ref (ad 144), .int x10] u16 (fun r u22 => r = none ∧ Lay u22 ad ∧ (post none u22)))))))))) ∧ (¬ (¬ y9 = 0) → post none u8))))))))) : g_E cx (d + 1) i_Mo_named [.ref (ad 144)] t post := by
  refine g_call mt_Mo_named rfl (by decide) (Nat.le_of_ble_eq_true rfl) ?_
  refine g_run [131] 400 (fun P hP => ?_)
  refine And.intro (hL.k 144 (by decide)) ?_
  have h := h _ rfl
  refine And.intro (hL.k 144 (by decide)) ?_
  refine And.intro (hL.k 144 (by decide)) ?_
  have h := h _ rfl
  refine And.intro (hL.k 144 (by decide)) ?_
  refine g_Em h (fun r u h => ?_)
  obtain ⟨rfl, hL, h⟩ := h
  refine And.intro (hL.k 144 (by decide)) ?_
  refine g_Em h (fun r u h => ?_)
  obtain ⟨y6, rfl, hL, h⟩ := h
  refine And.intro (fun c => ?_) (fun c => ?_)
  · have h := h.1 c
    refine And.intro (hL.k 144 (by decide)) ?_
    refine And.intro (fun c => ?_) (fun c => ?_)
    · have h := h.1 c
      refine And.intro (hL.k 144 (by decide)) ?_
      have h := h _ rfl
      exact hP _ h
    · have h := h.2 c
      exact And.intro rfl (And.intro rfl h)
  · have h := h.2 c
    refine And.intro (hL.k 144 (by decide)) ?_
    refine g_Em h (fun r u h => ?_)
    obtain ⟨y9, rfl, hL, h⟩ := h
    refine And.intro (fun c => ?_) (fun c => ?_)
    · have h := h.1 c
      refine And.intro (hL.k 144 (by decide)) ?_
      have h := h _ rfl
      refine And.intro (hL.k 144 (by decide)) ?_
      refine And.intro (hL.k 144 (by decide)) ?_
      have h := h _ rfl
      refine And.intro (hL.k 144 (by decide)) (Or.inl ⟨_, (hL.r 144 36 163 (by decide)), ?_⟩)
      refine And.intro (hL.k 144 (by decide)) ?_
      refine And.intro (hL.k 163 (by decide)) (And.intro (hL.v 163 (by decide) h.1) ?_)
      have h := h.2 _ rfl
      refine And.intro (hL.k 144 (by decide)) (Or.inl ⟨_, (hL.r 144 37 164 (by decide)), ?_⟩)
      refine And.intro (hL.k 164 (by decide)) (And.intro (hL.v 164 (by decide) h.1) ?_)
      have h := h.2 _ rfl
      refine And.intro (hL.k 144 (by decide)) (Or.inl ⟨_, (hL.r 144 38 165 (by decide)), ?_⟩)
      refine And.intro (hL.k 165 (by decide)) (And.intro (hL.v 165 (by decide) h.1) ?_)
      have h := h.2 _ rfl
      refine And.intro (hL.k 144 (by decide)) (Or.inl ⟨_, (hL.r 144 40 167 (by decide)), ?_⟩)
      refine And.intro (hL.k 144 (by decide)) ?_
      refine And.intro (hL.k 167 (by decide)) (And.intro (hL.v 167 (by decide) h.1) ?_)
      have h := h.2 _ rfl
      refine And.intro (hL.k 144 (by decide)) ?_
      refine g_Em h (fun r u h => ?_)
      obtain ⟨y17, rfl, hL, h⟩ := h
      refine And.intro (fun c => ?_) (fun c => ?_)
      · have h := h.1 c
        refine And.intro (hL.k 144 (by decide)) ?_
        refine g_Em h (fun r u h => ?_)
        obtain ⟨rfl, hL, h⟩ := h
        refine And.intro (hL.k 144 (by decide)) ?_
        refine g_Em h (fun r u h => ?_)
        obtain ⟨rfl, hL, h⟩ := h
        exact And.intro rfl (And.intro rfl h)
      · have h := h.2 c
        refine And.intro (hL.k 144 (by decide)) ?_
        refine g_Em h (fun r u h => ?_)
        obtain ⟨rfl, hL, h⟩ := h
        exact And.intro rfl (And.intro rfl h)
    · have h := h.2 c
      exact And.intro rfl (And.intro rfl h)
theorem x_Mo_named_131 {cx : gCx} {d : Nat} {ad : Nat → Nat} {l1 l2 : Int32} {t : gSt} {post : Option Value → gSt → Prop} (hL : Lay t ad) (h : (l2 < 0 → (0 ≤ l2 → vp_in l2 50 ∧ (g_E cx d i_Mo_node [.ref (ad 144), .int (t.2.1 (ad 144) 23), .int 2, .int (t.2.1 (ad 158) (l2 : Int32).toNatClampNeg), .int 0, .int 0] t (fun r u1 => ∃ y2 : Int32, r = some (.int y2) ∧ Lay u1 ad ∧ (g_E cx d i_Mo_give [.ref (ad 144), .int y2] u1 (fun r u3 => r = none ∧ Lay u3 ad ∧ (post none u3)))))) ∧ (¬ (0 ≤ l2) → g_E cx d i_Mo_fail [.ref (ad 144), .int 4, .int l1] t (fun r u5 => r = none ∧ Lay u5 ad ∧ (post none u5)))) ∧ (¬ (l2 < 0) → vp_in l2 50 ∧ (((lg_cmp (t.2.2.1 (ad 157) (l2 : Int32).toNatClampNeg) (t.2.2.1 (ad 144) 41)) = 0 → (0 ≤ l2 → vp_in l2 50 ∧ (g_E cx d i_Mo_node [.ref (ad 144), .int (t.2.1 (ad 144) 23), .int 2, .int (t.2.1 (ad 158) (l2 : Int32).toNatClampNeg), .int 0, .int 0] t (fun r u7 => ∃ y8 : Int32, r = some (.int y8) ∧ Lay u7 ad ∧ (g_E cx d i_Mo_give [.ref (ad 144), .int y8] u7 (fun r u9 => r = none ∧ Lay u9 ad ∧ (post none u9)))))) ∧ (¬ (0 ≤ l2) → g_E cx d i_Mo_fail [.ref (ad 144), .int 4, .int l1] t (fun r u11 => r = none ∧ Lay u11 ad ∧ (post none u11)))) ∧ (¬ ((lg_cmp (t.2.2.1 (ad 157) (l2 : Int32).toNatClampNeg) (t.2.2.1 (ad 144) 41)) = 0) → g_W cx (g_E cx d) mt_Mo_named post (131, [some (.ref (ad 144)), some (.int l1), some (.int (l2 + (-1)))], [], t, 0, 0))))) : g_W cx (g_E cx d) mt_Mo_named post (131, [some (.ref (ad 144)), some (.int l1), some (.int l2)], [], t, 0, 0) := by
  refine g_run [131] 400 (fun P hP => ?_)
  refine And.intro (fun c => ?_) (fun c => ?_)
  · have h := h.1 c
    refine And.intro (fun c => ?_) (fun c => ?_)
    · have h := h.1 c
      refine And.intro (hL.k 144 (by decide)) ?_
      refine And.intro (hL.k 144 (by decide)) (Or.inl ⟨_, (hL.r 144 27 158 (by decide)), ?_⟩)
      refine Or.inl (And.intro (hL.k 158 (by decide)) (And.intro (hL.v 158 (by decide) h.1) ?_))
      have h := h.2
      refine And.intro (hL.k 144 (by decide)) ?_
      refine g_Em h (fun r u h => ?_)
      obtain ⟨y2, rfl, hL, h⟩ := h
      refine And.intro (hL.k 144 (by decide)) ?_
      refine g_Em h (fun r u h => ?_)
      obtain ⟨rfl, hL, h⟩ := h
      exact And.intro rfl (And.intro rfl h)
    · have h := h.2 c
      refine And.intro (hL.k 144 (by decide)) ?_
      refine g_Em h (fun r u h => ?_)
      obtain ⟨rfl, hL, h⟩ := h
      exact And.intro rfl (And.intro rfl h)
  · have h := h.2 c
    refine And.intro (hL.k 144 (by decide)) (Or.inl ⟨_, (hL.r 144 26 157 (by decide)), ?_⟩)
    refine Or.inl (And.intro (hL.k 157 (by decide)) (And.intro (hL.v 157 (by decide) h.1) ?_))
    have h := h.2
    refine And.intro (hL.k 144 (by decide)) ?_
    refine And.intro (fun c => ?_) (fun c => ?_)
    · have h := h.1 c
      refine And.intro (fun c => ?_) (fun c => ?_)
      · have h := h.1 c
        refine And.intro (hL.k 144 (by decide)) ?_
        refine And.intro (hL.k 144 (by decide)) (Or.inl ⟨_, (hL.r 144 27 158 (by decide)), ?_⟩)
        refine Or.inl (And.intro (hL.k 158 (by decide)) (And.intro (hL.v 158 (by decide) h.1) ?_))
        have h := h.2
        refine And.intro (hL.k 144 (by decide)) ?_
        refine g_Em h (fun r u h => ?_)
        obtain ⟨y8, rfl, hL, h⟩ := h
        refine And.intro (hL.k 144 (by decide)) ?_
        refine g_Em h (fun r u h => ?_)
        obtain ⟨rfl, hL, h⟩ := h
        exact And.intro rfl (And.intro rfl h)
      · have h := h.2 c
        refine And.intro (hL.k 144 (by decide)) ?_
        refine g_Em h (fun r u h => ?_)
        obtain ⟨rfl, hL, h⟩ := h
        exact And.intro rfl (And.intro rfl h)
    · have h := h.2 c
      exact hP _ h
theorem x_Mo_endArgument {cx : gCx} {d : Nat} {ad : Nat → Nat} {a1 a2 : Int32} {t : gSt} {post : Option Value → gSt → Prop} (hL : Lay t ad) (h : vp_in a1 1100 ∧ (vp_in a1 1100 ∧ (∀ t1, t1 = g_si t (ad 165) (a1 : Int32).toNatClampNeg ((t.2.1 (ad 165) (a1 : Int32).toNatClampNeg) + 1) → g_E cx d i_Mo_look [.ref (ad 144)] t1 (fun r u2 => ∃ y3 : Int32, r = some (.int y3) ∧ Lay u2 ad ∧ ((¬ y3 = 12 → g_E cx d i_Mo_endCall [.ref (ad 144), .int a1] u2 (fun r u4 => r = none ∧ Lay u4 ad ∧ (post none u4))) ∧ (¬ (¬ y3 = 12) → g_E cx d i_Mo_take [.ref (ad 144)] u2 (fun r u6 => r = none ∧ Lay u6 ad ∧ (g_E cx d i_Mo_push [.ref (ad 144), .int 22, .int a1, .int 0] u6 (fun r u8 => r = none ∧ Lay u8 ad ∧ (g_E cx d i_Mo_push [.ref (ad 144), .int 1, .int 0, .int 0] u8 (fun r u10 => r = none ∧ Lay u10 ad ∧ (post none u10)))))))))))) : g_E cx (d + 1) i_Mo_endArgument [.ref (ad 144), .int a1, .int a2] t post := by
  refine g_call mt_Mo_endArgument rfl (by decide) (Nat.le_of_ble_eq_true rfl) ?_
  refine g_run [] 400 (fun P hP => ?_)
  refine And.intro (hL.k 144 (by decide)) (Or.inl ⟨_, (hL.r 144 38 165 (by decide)), ?_⟩)
  refine Or.inl (And.intro (hL.k 165 (by decide)) (And.intro (hL.v 165 (by decide) h.1) ?_))
  have h := h.2
  refine And.intro (hL.k 165 (by decide)) (And.intro (hL.v 165 (by decide) h.1) ?_)
  have h := h.2 _ rfl
  refine And.intro (hL.k 144 (by decide)) ?_
  refine g_Em h (fun r u h => ?_)
  obtain ⟨y3, rfl, hL, h⟩ := h
  refine And.intro (fun c => ?_) (fun c => ?_)
  · have h := h.1 c
    refine And.intro (hL.k 144 (by decide)) ?_
    refine g_Em h (fun r u h => ?_)
    obtain ⟨rfl, hL, h⟩ := h
    exact And.intro rfl (And.intro rfl h)
  · have h := h.2 c
    refine And.intro (hL.k 144 (by decide)) ?_
    refine g_Em h (fun r u h => ?_)
    obtain ⟨rfl, hL, h⟩ := h
    refine And.intro (hL.k 144 (by decide)) ?_
    refine g_Em h (fun r u h => ?_)
    obtain ⟨rfl, hL, h⟩ := h
    refine And.intro (hL.k 144 (by decide)) ?_
    refine g_Em h (fun r u h => ?_)
    obtain ⟨rfl, hL, h⟩ := h
    exact And.intro rfl (And.intro rfl h)
theorem x_Mo_endCall {cx : gCx} {d : Nat} {ad : Nat → Nat} {a1 : Int32} {t : gSt} {post : Option Value → gSt → Prop} (hL : Lay t ad) (h : g_E cx d i_Mo_must [.ref (ad 144), .int 11] t (fun r u1 => ∃ y2 : Int32, r = some (.int y2) ∧ Lay u1 ad ∧ ((¬ y2 = 0 → ∀ t3, t3 = g_si u1 (ad 144) 24 ((u1.2.1 (ad 144) 24) - 1) → vp_in a1 1100 ∧ (∀ x4 : Int32, x4 = (t3.2.1 (ad 165) (a1 : Int32).toNatClampNeg) → vp_in (t3.2.1 (ad 144) 23) 72 ∧ (∀ x5 : Int32, x5 = (t3.2.1 (ad 156) ((t3.2.1 (ad 144) 23) : Int32).toNatClampNeg) → g_W cx (g_E cx d) mt_Mo_endCall post (40, [some (.ref (ad 144)), some (.int a1), some (.int x4), some (.int x5), some (.int 0), none], [], t3, 0, 0)))) ∧ (¬ (¬ y2 = 0) → post none u1)))) : g_E cx (d + 1) i_Mo_endCall [.ref (ad 144), .int a1] t post := by
  refine g_call mt_Mo_endCall rfl (by decide) (Nat.le_of_ble_eq_true rfl) ?_
  refine g_run [40] 400 (fun P hP => ?_)
  refine And.intro (hL.k 144 (by decide)) ?_
  refine g_Em h (fun r u h => ?_)
  obtain ⟨y2, rfl, hL, h⟩ := h
  refine And.intro (fun c => ?_) (fun c => ?_)
  · have h := h.1 c
    refine And.intro (hL.k 144 (by decide)) ?_
    refine And.intro (hL.k 144 (by decide)) ?_
    have h := h _ rfl
    refine And.intro (hL.k 144 (by decide)) (Or.inl ⟨_, (hL.r 144 38 165 (by decide)), ?_⟩)
    refine Or.inl (And.intro (hL.k 165 (by decide)) (And.intro (hL.v 165 (by decide) h.1) ?_))
    have h := h.2
    have h := h _ rfl
    refine And.intro (hL.k 144 (by decide)) (Or.inl ⟨_, (hL.r 144 22 156 (by decide)), ?_⟩)
    refine And.intro (hL.k 144 (by decide)) ?_
    refine Or.inl (And.intro (hL.k 156 (by decide)) (And.intro (hL.v 156 (by decide) h.1) ?_))
    have h := h.2
    have h := h _ rfl
    exact hP _ h
  · have h := h.2 c
    exact And.intro rfl (And.intro rfl h)
theorem x_Mo_endCall_40 {cx : gCx} {d : Nat} {ad : Nat → Nat} {l1 l2 l3 l4 : Int32} {o5 : Option Value} {t : gSt} {post : Option Value → gSt → Prop} (hL : Lay t ad) (h : (l2 ≤ l4 → ∀ t1, t1 = g_si t (ad 144) 33 ((t.2.1 (ad 144) 33) - l2) → g_E cx d i_Mo_node [.ref (ad 144), .int (t1.2.1 (ad 144) 23), .int 15, .int l3, .int l2, .int 0] t1 (fun r u2 => ∃ y3 : Int32, r = some (.int y3) ∧ Lay u2 ad ∧ (vp_in l1 1100 ∧ (∀ t4, t4 = g_si u2 (ad 166) (l1 : Int32).toNatClampNeg y3 → vp_in l1 1100 ∧ (g_E cx d i_Mo_give [.ref (ad 144), .int (t4.2.1 (ad 166) (l1 : Int32).toNatClampNeg)] t4 (fun r u5 => r = none ∧ Lay u5 ad ∧ (post none u5))))))) ∧ (¬ (l2 ≤ l4) → vp_in (((t.2.1 (ad 144) 33) - l2) + l4) 3100 ∧ (g_E cx d i_Mo_addArgument [.ref (ad 144), .int (t.2.1 (ad 144) 23), .int (t.2.1 (ad 162) ((((t.2.1 (ad 144) 33) - l2) + l4) : Int32).toNatClampNeg)] t (fun r u7 => ∃ y8 : Int32, r = some (.int y8) ∧ Lay u7 ad ∧ (g_W cx (g_E cx d) mt_Mo_endCall post (40, [some (.ref (ad 144)), some (.int l1), some (.int l2), some (.int l3), some (.int (l4 + 1)), some (.int y8)], [], u7, 0, 0)))))) : g_W cx (g_E cx d) mt_Mo_endCall post (40, [some (.ref (ad 144)), some (.int l1), some (.int l2), some (.int l3), some (.int l4), o5], [], t, 0, 0) := by
  refine g_run [40] 400 (fun P hP => ?_)
  refine And.intro (fun c => ?_) (fun c => ?_)
  · have h := h.1 c
    refine And.intro (hL.k 144 (by decide)) ?_
    refine And.intro (hL.k 144 (by decide)) ?_
    have h := h _ rfl
    refine And.intro (hL.k 144 (by decide)) (Or.inl ⟨_, (hL.r 144 39 166 (by decide)), ?_⟩)
    refine And.intro (hL.k 144 (by decide)) ?_
    refine And.intro (hL.k 144 (by decide)) ?_
    refine g_Em h (fun r u h => ?_)
    obtain ⟨y3, rfl, hL, h⟩ := h
    refine And.intro (hL.k 166 (by decide)) (And.intro (hL.v 166 (by decide) h.1) ?_)
    have h := h.2 _ rfl
    refine And.intro (hL.k 144 (by decide)) (Or.inl ⟨_, (hL.r 144 39 166 (by decide)), ?_⟩)
    refine Or.inl (And.intro (hL.k 166 (by decide)) (And.intro (hL.v 166 (by decide) h.1) ?_))
    have h := h.2
    refine And.intro (hL.k 144 (by decide)) ?_
    refine g_Em h (fun r u h => ?_)
    obtain ⟨rfl, hL, h⟩ := h
    exact And.intro rfl (And.intro rfl h)
  · have h := h.2 c
    refine And.intro (hL.k 144 (by decide)) ?_
    refine And.intro (hL.k 144 (by decide)) (Or.inl ⟨_, (hL.r 144 34 162 (by decide)), ?_⟩)
    refine And.intro (hL.k 144 (by decide)) ?_
    refine Or.inl (And.intro (hL.k 162 (by decide)) (And.intro (hL.v 162 (by decide) h.1) ?_))
    have h := h.2
    refine And.intro (hL.k 144 (by decide)) ?_
    refine g_Em h (fun r u h => ?_)
    obtain ⟨y8, rfl, hL, h⟩ := h
    exact hP _ h
