/-! PRINTED by wip/gen/xparts.py: symbolic execution, method by method -/
theorem x_Tokens_begin {cx : gCx} {d : Nat} {ad : Nat → Nat} {a2 : Int32} {t : gSt} {post : Option Value → gSt → Prop} (hL : Lay t ad) (h : ∀ t1, t1 = g_sr t (ad 4) 0 (some (ad 1)) → ∀ t3, t3 = g_si t1 (ad 4) 1 (if (Int32.ofNat (t1.1.2.2 (ad 1))) < a2 then (Int32.ofNat (t1.1.2.2 (ad 1))) else a2) → ∀ t4, t4 = g_si t3 (ad 4) 2 0 → ∀ t5, t5 = g_si t4 (ad 4) 3 0 → ∀ t6, t6 = g_si t5 (ad 4) 8 0 → ∀ t7, t7 = g_si t6 (ad 4) 9 (-1) → post none t7) : g_E cx (d + 1) i_Tokens_begin [.ref (ad 4), .ref (ad 1), .int a2] t post := by
  refine g_call mt_Tokens_begin rfl (by decide) (Nat.le_of_ble_eq_true rfl) ?_
  refine g_run [] 400 (fun P hP => ?_)
  refine And.intro (hL.k 4 (by decide)) ?_
  have h := h _ rfl
  have hL := hL.sr 4 0 (some (ad 1)) (by decide +kernel)
  refine Or.inl (And.intro (hL.k 1 (by decide)).1 (And.intro (g_karr (hL.k 1 (by decide)) (by decide) (by decide)) ?_))
  refine And.intro (hL.k 4 (by decide)) ?_
  have h := h _ rfl
  refine And.intro (hL.k 4 (by decide)) ?_
  have h := h _ rfl
  refine And.intro (hL.k 4 (by decide)) (And.intro ⟨rfl, rfl⟩ ?_)
  have h := h _ rfl
  refine And.intro (hL.k 4 (by decide)) ?_
  have h := h _ rfl
  refine And.intro (hL.k 4 (by decide)) ?_
  have h := h _ rfl
  exact And.intro rfl (And.intro rfl h)
theorem x_Tokens_peek {cx : gCx} {d : Nat} {ad : Nat → Nat} {t : gSt} {post : Option Value → gSt → Prop} (hL : Lay t ad) (h : (¬ (t.2.1 (ad 4) 8) = 0 → g_W cx (g_E cx d) mt_Tokens_peek post (133, [some (.ref (ad 4))], [], t, 0, 0)) ∧ (¬ (¬ (t.2.1 (ad 4) 8) = 0) → (¬ (t.2.1 (ad 4) 3) = 0 → g_W cx (g_E cx d) mt_Tokens_peek post (133, [some (.ref (ad 4))], [], t, 0, 0)) ∧ (¬ (¬ (t.2.1 (ad 4) 3) = 0) → ∀ t1, t1 = g_si t (ad 4) 3 1 → g_W cx (g_E cx d) mt_Tokens_peek post (19, [some (.ref (ad 4))], [], t1, 0, 0)))) : g_E cx (d + 1) i_Tokens_peek [.ref (ad 4)] t post := by
  refine g_call mt_Tokens_peek rfl (by decide) (Nat.le_of_ble_eq_true rfl) ?_
  refine g_run [19, 58, 133, 149] 400 (fun P hP => ?_)
  refine And.intro (hL.k 4 (by decide)) ?_
  refine And.intro (fun c => ?_) (fun c => ?_)
  · have h := h.1 c
    exact hP _ h
  · have h := h.2 c
    refine And.intro (hL.k 4 (by decide)) ?_
    refine And.intro (fun c => ?_) (fun c => ?_)
    · have h := h.1 c
      exact hP _ h
    · have h := h.2 c
      refine And.intro (hL.k 4 (by decide)) (And.intro ⟨rfl, rfl⟩ ?_)
      have h := h _ rfl
      exact hP _ h
theorem x_Tokens_peek_19 {cx : gCx} {d : Nat} {ad : Nat → Nat} {t : gSt} {post : Option Value → gSt → Prop} (hL : Lay t ad) (hr_4_0 : t.2.2.2 (ad 4) 0 = some (ad 1)) (h : ((t.2.1 (ad 4) 1) ≤ (t.2.1 (ad 4) 2) → g_W cx (g_E cx d) mt_Tokens_peek post (58, [some (.ref (ad 4))], [], t, 0, 0)) ∧ (¬ ((t.2.1 (ad 4) 1) ≤ (t.2.1 (ad 4) 2)) → vp_in (t.2.1 (ad 4) 2) 3000 ∧ (g_E cx d i_Tokens_isBlank [.int (t.2.1 (ad 1) ((t.2.1 (ad 4) 2) : Int32).toNatClampNeg)] t (fun r u1 => ∃ y2 : Int32, r = some (.int y2) ∧ Lay u1 ad ∧ ((y2 = 0 → g_W cx (g_E cx d) mt_Tokens_peek post (58, [some (.ref (ad 4))], [], u1, 0, 0)) ∧ (¬ (y2 = 0) → ∀ t3, t3 = g_si u1 (ad 4) 2 ((u1.2.1 (ad 4) 2) + 1) → g_W cx (g_E cx d) mt_Tokens_peek post (19, [some (.ref (ad 4))], [], t3, 0, 0))))))) : g_W cx (g_E cx d) mt_Tokens_peek post (19, [some (.ref (ad 4))], [], t, 0, 0) := by
  refine g_run [19, 58, 133, 149] 400 (fun P hP => ?_)
  refine And.intro (hL.k 4 (by decide)) ?_
  refine And.intro (hL.k 4 (by decide)) ?_
  refine And.intro (fun c => ?_) (fun c => ?_)
  · have h := h.1 c
    exact hP _ h
  · have h := h.2 c
    refine And.intro (hL.k 4 (by decide)) (Or.inl ⟨_, hr_4_0, ?_⟩)
    refine And.intro (hL.k 4 (by decide)) ?_
    refine Or.inl (And.intro (Or.inl (hL.k 1 (by decide))) (And.intro (hL.v 1 (by decide) h.1) ?_))
    have h := h.2
    refine g_Em h (fun r u h => ?_)
    obtain ⟨y2, rfl, hL, h⟩ := h
    refine And.intro (fun c => ?_) (fun c => ?_)
    · have h := h.1 c
      exact hP _ h
    · have h := h.2 c
      refine And.intro (hL.k 4 (by decide)) ?_
      refine And.intro (hL.k 4 (by decide)) ?_
      have h := h _ rfl
      exact hP _ h
theorem x_Tokens_peek_58 {cx : gCx} {d : Nat} {ad : Nat → Nat} {t : gSt} {post : Option Value → gSt → Prop} (hL : Lay t ad) (hr_4_0 : t.2.2.2 (ad 4) 0 = some (ad 1)) (h : ∀ t1, t1 = g_si t (ad 4) 5 (t.2.1 (ad 4) 2) → ((t1.2.1 (ad 4) 2) < (t1.2.1 (ad 4) 1) → vp_in (t1.2.1 (ad 4) 2) 3000 ∧ (g_E cx d i_Tokens_isLetter [.int (t1.2.1 (ad 1) ((t1.2.1 (ad 4) 2) : Int32).toNatClampNeg)] t1 (fun r u2 => ∃ y3 : Int32, r = some (.int y3) ∧ Lay u2 ad ∧ u2.2.2.2 (ad 4) 0 = some (ad 1) ∧ ((y3 = 0 → vp_in (u2.2.1 (ad 4) 2) 3000 ∧ (g_E cx d i_Tokens_isDigit [.int (u2.2.1 (ad 1) ((u2.2.1 (ad 4) 2) : Int32).toNatClampNeg)] u2 (fun r u4 => ∃ y5 : Int32, r = some (.int y5) ∧ Lay u4 ad ∧ ((y5 = 0 → g_E cx d i_Tokens_scanSign [.ref (ad 4)] u4 (fun r u6 => r = none ∧ Lay u6 ad ∧ (g_W cx (g_E cx d) mt_Tokens_peek post (133, [some (.ref (ad 4))], [], u6, 0, 0)))) ∧ (¬ (y5 = 0) → g_E cx d i_Tokens_scanNumber [.ref (ad 4)] u4 (fun r u8 => r = none ∧ Lay u8 ad ∧ (g_W cx (g_E cx d) mt_Tokens_peek post (133, [some (.ref (ad 4))], [], u8, 0, 0)))))))) ∧ (¬ (y3 = 0) → g_E cx d i_Tokens_scanName [.ref (ad 4)] u2 (fun r u10 => r = none ∧ Lay u10 ad ∧ (g_W cx (g_E cx d) mt_Tokens_peek post (133, [some (.ref (ad 4))], [], u10, 0, 0)))))))) ∧ (¬ ((t1.2.1 (ad 4) 2) < (t1.2.1 (ad 4) 1)) → ∀ t12, t12 = g_si t1 (ad 4) 4 0 → g_W cx (g_E cx d) mt_Tokens_peek post (133, [some (.ref (ad 4))], [], t12, 0, 0))) : g_W cx (g_E cx d) mt_Tokens_peek post (58, [some (.ref (ad 4))], [], t, 0, 0) := by
  refine g_run [19, 58, 133, 149] 400 (fun P hP => ?_)
  refine And.intro (hL.k 4 (by decide)) ?_
  refine And.intro (hL.k 4 (by decide)) ?_
  have h := h _ rfl
  refine And.intro (hL.k 4 (by decide)) ?_
  refine And.intro (hL.k 4 (by decide)) ?_
  refine And.intro (fun c => ?_) (fun c => ?_)
  · have h := h.1 c
    refine And.intro (hL.k 4 (by decide)) (Or.inl ⟨_, hr_4_0, ?_⟩)
    refine And.intro (hL.k 4 (by decide)) ?_
    refine Or.inl (And.intro (Or.inl (hL.k 1 (by decide))) (And.intro (hL.v 1 (by decide) h.1) ?_))
    have h := h.2
    refine g_Em h (fun r u h => ?_)
    obtain ⟨y3, rfl, hL, hr_4_0, h⟩ := h
    refine And.intro (fun c => ?_) (fun c => ?_)
    · have h := h.1 c
      refine And.intro (hL.k 4 (by decide)) (Or.inl ⟨_, hr_4_0, ?_⟩)
      refine And.intro (hL.k 4 (by decide)) ?_
      refine Or.inl (And.intro (Or.inl (hL.k 1 (by decide))) (And.intro (hL.v 1 (by decide) h.1) ?_))
      have h := h.2
      refine g_Em h (fun r u h => ?_)
      obtain ⟨y5, rfl, hL, h⟩ := h
      refine And.intro (fun c => ?_) (fun c => ?_)
      · have h := h.1 c
        refine And.intro (hL.k 4 (by decide)) ?_
        refine g_Em h (fun r u h => ?_)
        obtain ⟨rfl, hL, h⟩ := h
        exact hP _ h
      · have h := h.2 c
        refine And.intro (hL.k 4 (by decide)) ?_
        refine g_Em h (fun r u h => ?_)
        obtain ⟨rfl, hL, h⟩ := h
        exact hP _ h
    · have h := h.2 c
      refine And.intro (hL.k 4 (by decide)) ?_
      refine g_Em h (fun r u h => ?_)
      obtain ⟨rfl, hL, h⟩ := h
      exact hP _ h
  · have h := h.2 c
    refine And.intro (hL.k 4 (by decide)) ?_
    have h := h _ rfl
    exact hP _ h
theorem x_Tokens_peek_133 {cx : gCx} {d : Nat} {ad : Nat → Nat} {t : gSt} {post : Option Value → gSt → Prop} (hL : Lay t ad) (h : (¬ (t.2.1 (ad 4) 8) = 0 → g_W cx (g_E cx d) mt_Tokens_peek post (149, [some (.ref (ad 4))], [.int 11], t, 0, 0)) ∧ (¬ (¬ (t.2.1 (ad 4) 8) = 0) → g_W cx (g_E cx d) mt_Tokens_peek post (149, [some (.ref (ad 4))], [.int (t.2.1 (ad 4) 4)], t, 0, 0))) : g_W cx (g_E cx d) mt_Tokens_peek post (133, [some (.ref (ad 4))], [], t, 0, 0) := by
  refine g_run [19, 58, 133, 149] 400 (fun P hP => ?_)
  refine And.intro (hL.k 4 (by decide)) ?_
  refine And.intro (fun c => ?_) (fun c => ?_)
  · have h := h.1 c
    exact hP _ h
  · have h := h.2 c
    refine And.intro (hL.k 4 (by decide)) ?_
    exact hP _ h
theorem x_Tokens_peek_149 {cx : gCx} {d : Nat} {ad : Nat → Nat} {s0 : Int32} {t : gSt} {post : Option Value → gSt → Prop} (hL : Lay t ad) (h : post (some (.int s0)) t) : g_W cx (g_E cx d) mt_Tokens_peek post (149, [some (.ref (ad 4))], [.int s0], t, 0, 0) := by
  refine g_run [19, 58, 133, 149] 400 (fun P hP => ?_)
  exact And.intro rfl (And.intro rfl h)
theorem x_Tokens_isAt {cx : gCx} {d : Nat} {ad : Nat → Nat} {a1 : Int32} {t : gSt} {post : Option Value → gSt → Prop} (hL : Lay t ad) (h : g_E cx d i_Tokens_peek [.ref (ad 4)] t (fun r u1 => ∃ y2 : Int32, r = some (.int y2) ∧ Lay u1 ad ∧ ((¬ y2 = a1 → post (some (.int 0)) u1) ∧ (¬ (¬ y2 = a1) → post (some (.int 1)) u1)))) : g_E cx (d + 1) i_Tokens_isAt [.ref (ad 4), .int a1] t post := by
  refine g_call mt_Tokens_isAt rfl (by decide) (Nat.le_of_ble_eq_true rfl) ?_
  refine g_run [] 400 (fun P hP => ?_)
  refine And.intro (hL.k 4 (by decide)) ?_
  refine g_Em h (fun r u h => ?_)
  obtain ⟨y2, rfl, hL, h⟩ := h
  refine And.intro (fun c => ?_) (fun c => ?_)
  · have h := h.1 c
    exact And.intro rfl (And.intro rfl h)
  · have h := h.2 c
    exact And.intro rfl (And.intro rfl h)
theorem x_Tokens_take {cx : gCx} {d : Nat} {ad : Nat → Nat} {t : gSt} {post : Option Value → gSt → Prop} (hL : Lay t ad) (h : ∀ t1, t1 = g_si t (ad 4) 3 0 → post none t1) : g_E cx (d + 1) i_Tokens_take [.ref (ad 4)] t post := by
  refine g_call mt_Tokens_take rfl (by decide) (Nat.le_of_ble_eq_true rfl) ?_
  refine g_run [] 400 (fun P hP => ?_)
  refine And.intro (hL.k 4 (by decide)) (And.intro ⟨rfl, rfl⟩ ?_)
  have h := h _ rfl
  exact And.intro rfl (And.intro rfl h)
theorem x_Tokens_need {cx : gCx} {d : Nat} {ad : Nat → Nat} {a1 : Int32} {t : gSt} {post : Option Value → gSt → Prop} (hL : Lay t ad) (h : g_E cx d i_Tokens_peek [.ref (ad 4)] t (fun r u1 => ∃ y2 : Int32, r = some (.int y2) ∧ Lay u1 ad ∧ ((y2 = a1 → g_E cx d i_Tokens_take [.ref (ad 4)] u1 (fun r u3 => r = none ∧ Lay u3 ad ∧ (post (some (.int 1)) u3))) ∧ (¬ (y2 = a1) → g_E cx d i_Tokens_failAt [.ref (ad 4), .int 2, .int (u1.2.1 (ad 4) 5)] u1 (fun r u5 => r = none ∧ Lay u5 ad ∧ (post (some (.int 0)) u5)))))) : g_E cx (d + 1) i_Tokens_need [.ref (ad 4), .int a1] t post := by
  refine g_call mt_Tokens_need rfl (by decide) (Nat.le_of_ble_eq_true rfl) ?_
  refine g_run [] 400 (fun P hP => ?_)
  refine And.intro (hL.k 4 (by decide)) ?_
  refine g_Em h (fun r u h => ?_)
  obtain ⟨y2, rfl, hL, h⟩ := h
  refine And.intro (fun c => ?_) (fun c => ?_)
  · have h := h.1 c
    refine And.intro (hL.k 4 (by decide)) ?_
    refine g_Em h (fun r u h => ?_)
    obtain ⟨rfl, hL, h⟩ := h
    exact And.intro rfl (And.intro rfl h)
  · have h := h.2 c
    refine And.intro (hL.k 4 (by decide)) ?_
    refine And.intro (hL.k 4 (by decide)) ?_
    refine g_Em h (fun r u h => ?_)
    obtain ⟨rfl, hL, h⟩ := h
    exact And.intro rfl (And.intro rfl h)
theorem x_Tokens_failHere {cx : gCx} {d : Nat} {ad : Nat → Nat} {a1 : Int32} {t : gSt} {post : Option Value → gSt → Prop} (hL : Lay t ad) (h : g_E cx d i_Tokens_failAt [.ref (ad 4), .int a1, .int (t.2.1 (ad 4) 5)] t (fun r u1 => r = none ∧ Lay u1 ad ∧ (post none u1))) : g_E cx (d + 1) i_Tokens_failHere [.ref (ad 4), .int a1] t post := by
  refine g_call mt_Tokens_failHere rfl (by decide) (Nat.le_of_ble_eq_true rfl) ?_
  refine g_run [] 400 (fun P hP => ?_)
  refine And.intro (hL.k 4 (by decide)) ?_
  refine And.intro (hL.k 4 (by decide)) ?_
  refine g_Em h (fun r u h => ?_)
  obtain ⟨rfl, hL, h⟩ := h
  exact And.intro rfl (And.intro rfl h)
theorem x_Tokens_failAt {cx : gCx} {d : Nat} {ad : Nat → Nat} {a1 a2 : Int32} {t : gSt} {post : Option Value → gSt → Prop} (hL : Lay t ad) (h : (¬ (t.2.1 (ad 4) 8) = 0 → post none t) ∧ (¬ (¬ (t.2.1 (ad 4) 8) = 0) → ∀ t1, t1 = g_si t (ad 4) 8 a1 → ∀ t2, t2 = g_si t1 (ad 4) 9 a2 → post none t2)) : g_E cx (d + 1) i_Tokens_failAt [.ref (ad 4), .int a1, .int a2] t post := by
  refine g_call mt_Tokens_failAt rfl (by decide) (Nat.le_of_ble_eq_true rfl) ?_
  refine g_run [] 400 (fun P hP => ?_)
  refine And.intro (hL.k 4 (by decide)) ?_
  refine And.intro (fun c => ?_) (fun c => ?_)
  · have h := h.1 c
    exact And.intro rfl (And.intro rfl h)
  · have h := h.2 c
    refine And.intro (hL.k 4 (by decide)) ?_
    have h := h _ rfl
    refine And.intro (hL.k 4 (by decide)) ?_
    have h := h _ rfl
    exact And.intro rfl (And.intro rfl h)
theorem x_Tokens_scanName {cx : gCx} {d : Nat} {ad : Nat → Nat} {t : gSt} {post : Option Value → gSt → Prop} (hL : Lay t ad) (h : ∀ t1, t1 = g_sj t (ad 4) 7 0 → g_W cx (g_E cx d) mt_Tokens_scanName post (5, [some (.ref (ad 4)), none], [], t1, 0, 0)) : g_E cx (d + 1) i_Tokens_scanName [.ref (ad 4)] t post := by
  refine g_call mt_Tokens_scanName rfl (by decide) (Nat.le_of_ble_eq_true rfl) ?_
  refine g_run [5, 111] 400 (fun P hP => ?_)
  refine And.intro (hL.k 4 (by decide)) ?_
  have h := h _ rfl
  exact hP _ h
theorem x_Tokens_scanName_5 {cx : gCx} {d : Nat} {ad : Nat → Nat} {t : gSt} {post : Option Value → gSt → Prop} (hL : Lay t ad) (hr_4_0 : t.2.2.2 (ad 4) 0 = some (ad 1)) (h : ((t.2.1 (ad 4) 1) ≤ (t.2.1 (ad 4) 2) → (((t.2.1 (ad 4) 2) - (t.2.1 (ad 4) 5)) ≤ 8 → ∀ t1, t1 = g_si t (ad 4) 4 1 → g_W cx (g_E cx d) mt_Tokens_scanName post (111, [some (.ref (ad 4)), some (.int 0)], [], t1, 0, 0)) ∧ (¬ (((t.2.1 (ad 4) 2) - (t.2.1 (ad 4) 5)) ≤ 8) → g_E cx d i_Tokens_failAt [.ref (ad 4), .int 1, .int (t.2.1 (ad 4) 5)] t (fun r u2 => r = none ∧ Lay u2 ad ∧ (∀ t4, t4 = g_si u2 (ad 4) 4 1 → g_W cx (g_E cx d) mt_Tokens_scanName post (111, [some (.ref (ad 4)), some (.int 0)], [], t4, 0, 0))))) ∧ (¬ ((t.2.1 (ad 4) 1) ≤ (t.2.1 (ad 4) 2)) → vp_in (t.2.1 (ad 4) 2) 3000 ∧ (g_E cx d i_Tokens_isLetter [.int (t.2.1 (ad 1) ((t.2.1 (ad 4) 2) : Int32).toNatClampNeg)] t (fun r u5 => ∃ y6 : Int32, r = some (.int y6) ∧ Lay u5 ad ∧ u5.2.2.2 (ad 4) 0 = some (ad 1) ∧ ((¬ y6 = 0 → vp_in (u5.2.1 (ad 4) 2) 3000 ∧ (∀ t7, t7 = g_sj u5 (ad 4) 7 (((u5.2.2.1 (ad 4) 7) <<< ((8 : Int32).toInt64 &&& 63)) ||| (u5.2.1 (ad 1) ((u5.2.1 (ad 4) 2) : Int32).toNatClampNeg).toInt64) → ∀ t8, t8 = g_si t7 (ad 4) 2 ((t7.2.1 (ad 4) 2) + 1) → g_W cx (g_E cx d) mt_Tokens_scanName post (5, [some (.ref (ad 4)), none], [], t8, 0, 0))) ∧ (¬ (¬ y6 = 0) → vp_in (u5.2.1 (ad 4) 2) 3000 ∧ (g_E cx d i_Tokens_isDigit [.int (u5.2.1 (ad 1) ((u5.2.1 (ad 4) 2) : Int32).toNatClampNeg)] u5 (fun r u9 => ∃ y10 : Int32, r = some (.int y10) ∧ Lay u9 ad ∧ u9.2.2.2 (ad 4) 0 = some (ad 1) ∧ ((y10 = 0 → (((u9.2.1 (ad 4) 2) - (u9.2.1 (ad 4) 5)) ≤ 8 → ∀ t11, t11 = g_si u9 (ad 4) 4 1 → g_W cx (g_E cx d) mt_Tokens_scanName post (111, [some (.ref (ad 4)), some (.int 0)], [], t11, 0, 0)) ∧ (¬ (((u9.2.1 (ad 4) 2) - (u9.2.1 (ad 4) 5)) ≤ 8) → g_E cx d i_Tokens_failAt [.ref (ad 4), .int 1, .int (u9.2.1 (ad 4) 5)] u9 (fun r u12 => r = none ∧ Lay u12 ad ∧ (∀ t14, t14 = g_si u12 (ad 4) 4 1 → g_W cx (g_E cx d) mt_Tokens_scanName post (111, [some (.ref (ad 4)), some (.int 0)], [], t14, 0, 0))))) ∧ (¬ (y10 = 0) → vp_in (u9.2.1 (ad 4) 2) 3000 ∧ (∀ t15, t15 = g_sj u9 (ad 4) 7 (((u9.2.2.1 (ad 4) 7) <<< ((8 : Int32).toInt64 &&& 63)) ||| (u9.2.1 (ad 1) ((u9.2.1 (ad 4) 2) : Int32).toNatClampNeg).toInt64) → ∀ t16, t16 = g_si t15 (ad 4) 2 ((t15.2.1 (ad 4) 2) + 1) → g_W cx (g_E cx d) mt_Tokens_scanName post (5, [some (.ref (ad 4)), none], [], t16, 0, 0)))))))))))) : g_W cx (g_E cx d) mt_Tokens_scanName post (5, [some (.ref (ad 4)), none], [], t, 0, 0) := by
  refine g_run [5, 111] 400 (fun P hP => ?_)
  refine And.intro (hL.k 4 (by decide)) ?_
  refine And.intro (hL.k 4 (by decide)) ?_
  refine And.intro (fun c => ?_) (fun c => ?_)
  · have h := h.1 c
    refine And.intro (hL.k 4 (by decide)) ?_
    refine And.intro (hL.k 4 (by decide)) ?_
    refine And.intro (fun c => ?_) (fun c => ?_)
    · have h := h.1 c
      refine And.intro (hL.k 4 (by decide)) ?_
      have h := h _ rfl
      exact hP _ h
    · have h := h.2 c
      refine And.intro (hL.k 4 (by decide)) ?_
      refine And.intro (hL.k 4 (by decide)) ?_
      refine g_Em h (fun r u h => ?_)
      obtain ⟨rfl, hL, h⟩ := h
      refine And.intro (hL.k 4 (by decide)) ?_
      have h := h _ rfl
      exact hP _ h
  · have h := h.2 c
    refine And.intro (hL.k 4 (by decide)) (Or.inl ⟨_, hr_4_0, ?_⟩)
    refine And.intro (hL.k 4 (by decide)) ?_
    refine Or.inl (And.intro (Or.inl (hL.k 1 (by decide))) (And.intro (hL.v 1 (by decide) h.1) ?_))
    have h := h.2
    refine g_Em h (fun r u h => ?_)
    obtain ⟨y6, rfl, hL, hr_4_0, h⟩ := h
    refine And.intro (fun c => ?_) (fun c => ?_)
    · have h := h.1 c
      refine And.intro (hL.k 4 (by decide)) ?_
      refine And.intro (hL.k 4 (by decide)) (Or.inl ⟨_, hr_4_0, ?_⟩)
      refine And.intro (hL.k 4 (by decide)) ?_
      refine Or.inl (And.intro (Or.inl (hL.k 1 (by decide))) (And.intro (hL.v 1 (by decide) h.1) ?_))
      have h := h.2
      refine And.intro (hL.k 4 (by decide)) ?_
      have h := h _ rfl
      refine And.intro (hL.k 4 (by decide)) ?_
      refine And.intro (hL.k 4 (by decide)) ?_
      have h := h _ rfl
      exact hP _ h
    · have h := h.2 c
      refine And.intro (hL.k 4 (by decide)) (Or.inl ⟨_, hr_4_0, ?_⟩)
      refine And.intro (hL.k 4 (by decide)) ?_
      refine Or.inl (And.intro (Or.inl (hL.k 1 (by decide))) (And.intro (hL.v 1 (by decide) h.1) ?_))
      have h := h.2
      refine g_Em h (fun r u h => ?_)
      obtain ⟨y10, rfl, hL, hr_4_0, h⟩ := h
      refine And.intro (fun c => ?_) (fun c => ?_)
      · have h := h.1 c
        refine And.intro (hL.k 4 (by decide)) ?_
        refine And.intro (hL.k 4 (by decide)) ?_
        refine And.intro (fun c => ?_) (fun c => ?_)
        · have h := h.1 c
          refine And.intro (hL.k 4 (by decide)) ?_
          have h := h _ rfl
          exact hP _ h
        · have h := h.2 c
          refine And.intro (hL.k 4 (by decide)) ?_
          refine And.intro (hL.k 4 (by decide)) ?_
          refine g_Em h (fun r u h => ?_)
          obtain ⟨rfl, hL, h⟩ := h
          refine And.intro (hL.k 4 (by decide)) ?_
          have h := h _ rfl
          exact hP _ h
      · have h := h.2 c
        refine And.intro (hL.k 4 (by decide)) ?_
        refine And.intro (hL.k 4 (by decide)) (Or.inl ⟨_, hr_4_0, ?_⟩)
        refine And.intro (hL.k 4 (by decide)) ?_
        refine Or.inl (And.intro (Or.inl (hL.k 1 (by decide))) (And.intro (hL.v 1 (by decide) h.1) ?_))
        have h := h.2
        refine And.intro (hL.k 4 (by decide)) ?_
        have h := h _ rfl
        refine And.intro (hL.k 4 (by decide)) ?_
        refine And.intro (hL.k 4 (by decide)) ?_
        have h := h _ rfl
        exact hP _ h
theorem x_Tokens_scanName_111 {cx : gCx} {d : Nat} {ad : Nat → Nat} {l1 : Int32} {t : gSt} {post : Option Value → gSt → Prop} (hL : Lay t ad) (hW : cx.2.1 cx.1 (16, 7, fun _ => 0, fun j => g_wds.getD j 0)) (h : (7 ≤ l1 → post none t) ∧ (¬ (7 ≤ l1) → vp_in l1 7 ∧ ((¬ (lg_cmp (t.2.2.1 (ad 4) 7) (g_wds.getD (l1 : Int32).toNatClampNeg 0)) = 0 → g_W cx (g_E cx d) mt_Tokens_scanName post (111, [some (.ref (ad 4)), some (.int (l1 + 1))], [], t, 0, 0)) ∧ (¬ (¬ (lg_cmp (t.2.2.1 (ad 4) 7) (g_wds.getD (l1 : Int32).toNatClampNeg 0)) = 0) → ∀ t1, t1 = g_si t (ad 4) 4 (3 + l1) → g_W cx (g_E cx d) mt_Tokens_scanName post (111, [some (.ref (ad 4)), some (.int (l1 + 1))], [], t1, 0, 0))))) : g_W cx (g_E cx d) mt_Tokens_scanName post (111, [some (.ref (ad 4)), some (.int l1)], [], t, 0, 0) := by
  refine g_run [5, 111] 400 (fun P hP => ?_)
  refine Or.inr ⟨_, hW, Or.inr (Or.inr rfl), ?_⟩
  refine And.intro (fun c => ?_) (fun c => ?_)
  · have h := h.1 c
    exact And.intro rfl (And.intro rfl h)
  · have h := h.2 c
    refine And.intro (hL.k 4 (by decide)) ?_
    refine Or.inr ⟨_, hW, rfl, h.1, ?_⟩
    have h := h.2
    refine And.intro (fun c => ?_) (fun c => ?_)
    · have h := h.1 c
      exact hP _ h
    · have h := h.2 c
      refine And.intro (hL.k 4 (by decide)) ?_
      have h := h _ rfl
      exact hP _ h
theorem x_Tokens_scanNumber {cx : gCx} {d : Nat} {ad : Nat → Nat} {t : gSt} {post : Option Value → gSt → Prop} (hL : Lay t ad) (h : g_W cx (g_E cx d) mt_Tokens_scanNumber post (2, [some (.ref (ad 4)), some (.long 0), none], [], t, 0, 0)) : g_E cx (d + 1) i_Tokens_scanNumber [.ref (ad 4)] t post := by
  refine g_call mt_Tokens_scanNumber rfl (by decide) (Nat.le_of_ble_eq_true rfl) ?_
  refine g_run [2] 400 (fun P hP => ?_)
  exact hP _ h
theorem x_Tokens_scanNumber_2 {cx : gCx} {d : Nat} {ad : Nat → Nat} {l1 : Int64} {t : gSt} {post : Option Value → gSt → Prop} (hL : Lay t ad) (hr_4_0 : t.2.2.2 (ad 4) 0 = some (ad 1)) (h : ((t.2.1 (ad 4) 1) ≤ (t.2.1 (ad 4) 2) → (10 < ((t.2.1 (ad 4) 2) - (t.2.1 (ad 4) 5)) → g_E cx d i_Tokens_failAt [.ref (ad 4), .int 1, .int (t.2.1 (ad 4) 5)] t (fun r u1 => r = none ∧ Lay u1 ad ∧ (∀ t3, t3 = g_si u1 (ad 4) 4 2 → ∀ t4, t4 = g_si t3 (ad 4) 6 l1.toInt32 → post none t4))) ∧ (¬ (10 < ((t.2.1 (ad 4) 2) - (t.2.1 (ad 4) 5))) → ((lg_cmp l1 2147483647) ≤ 0 → ∀ t5, t5 = g_si t (ad 4) 4 2 → ∀ t6, t6 = g_si t5 (ad 4) 6 l1.toInt32 → post none t6) ∧ (¬ ((lg_cmp l1 2147483647) ≤ 0) → g_E cx d i_Tokens_failAt [.ref (ad 4), .int 1, .int (t.2.1 (ad 4) 5)] t (fun r u7 => r = none ∧ Lay u7 ad ∧ (∀ t9, t9 = g_si u7 (ad 4) 4 2 → ∀ t10, t10 = g_si t9 (ad 4) 6 l1.toInt32 → post none t10))))) ∧ (¬ ((t.2.1 (ad 4) 1) ≤ (t.2.1 (ad 4) 2)) → vp_in (t.2.1 (ad 4) 2) 3000 ∧ (g_E cx d i_Tokens_isDigit [.int (t.2.1 (ad 1) ((t.2.1 (ad 4) 2) : Int32).toNatClampNeg)] t (fun r u11 => ∃ y12 : Int32, r = some (.int y12) ∧ Lay u11 ad ∧ u11.2.2.2 (ad 4) 0 = some (ad 1) ∧ ((y12 = 0 → (10 < ((u11.2.1 (ad 4) 2) - (u11.2.1 (ad 4) 5)) → g_E cx d i_Tokens_failAt [.ref (ad 4), .int 1, .int (u11.2.1 (ad 4) 5)] u11 (fun r u13 => r = none ∧ Lay u13 ad ∧ (∀ t15, t15 = g_si u13 (ad 4) 4 2 → ∀ t16, t16 = g_si t15 (ad 4) 6 l1.toInt32 → post none t16))) ∧ (¬ (10 < ((u11.2.1 (ad 4) 2) - (u11.2.1 (ad 4) 5))) → ((lg_cmp l1 2147483647) ≤ 0 → ∀ t17, t17 = g_si u11 (ad 4) 4 2 → ∀ t18, t18 = g_si t17 (ad 4) 6 l1.toInt32 → post none t18) ∧ (¬ ((lg_cmp l1 2147483647) ≤ 0) → g_E cx d i_Tokens_failAt [.ref (ad 4), .int 1, .int (u11.2.1 (ad 4) 5)] u11 (fun r u19 => r = none ∧ Lay u19 ad ∧ (∀ t21, t21 = g_si u19 (ad 4) 4 2 → ∀ t22, t22 = g_si t21 (ad 4) 6 l1.toInt32 → post none t22))))) ∧ (¬ (y12 = 0) → (10 ≤ ((u11.2.1 (ad 4) 2) - (u11.2.1 (ad 4) 5)) → ∀ t23, t23 = g_si u11 (ad 4) 2 ((u11.2.1 (ad 4) 2) + 1) → g_W cx (g_E cx d) mt_Tokens_scanNumber post (2, [some (.ref (ad 4)), some (.long l1), none], [], t23, 0, 0)) ∧ (¬ (10 ≤ ((u11.2.1 (ad 4) 2) - (u11.2.1 (ad 4) 5))) → vp_in (u11.2.1 (ad 4) 2) 3000 ∧ (∀ x24 : Int64, x24 = ((l1 * 10) + ((u11.2.1 (ad 1) ((u11.2.1 (ad 4) 2) : Int32).toNatClampNeg) - 48).toInt64) → ∀ t25, t25 = g_si u11 (ad 4) 2 ((u11.2.1 (ad 4) 2) + 1) → g_W cx (g_E cx d) mt_Tokens_scanNumber post (2, [some (.ref (ad 4)), some (.long x24), none], [], t25, 0, 0))))))))) : g_W cx (g_E cx d) mt_Tokens_scanNumber post (2, [some (.ref (ad 4)), some (.long l1), none], [], t, 0, 0) := by
  refine g_run [2] 400 (fun P hP => ?_)
  refine And.intro (hL.k 4 (by decide)) ?_
  refine And.intro (hL.k 4 (by decide)) ?_
  refine And.intro (fun c => ?_) (fun c => ?_)
  · have h := h.1 c
    refine And.intro (hL.k 4 (by decide)) ?_
    refine And.intro (hL.k 4 (by decide)) ?_
    refine And.intro (fun c => ?_) (fun c => ?_)
    · have h := h.1 c
      refine And.intro (hL.k 4 (by decide)) ?_
      refine And.intro (hL.k 4 (by decide)) ?_
      refine g_Em h (fun r u h => ?_)
      obtain ⟨rfl, hL, h⟩ := h
      refine And.intro (hL.k 4 (by decide)) ?_
      have h := h _ rfl
      refine And.intro (hL.k 4 (by decide)) ?_
      have h := h _ rfl
      exact And.intro rfl (And.intro rfl h)
    · have h := h.2 c
      refine And.intro (fun c => ?_) (fun c => ?_)
      · have h := h.1 c
        refine And.intro (hL.k 4 (by decide)) ?_
        have h := h _ rfl
        refine And.intro (hL.k 4 (by decide)) ?_
        have h := h _ rfl
        exact And.intro rfl (And.intro rfl h)
      · have h := h.2 c
        refine And.intro (hL.k 4 (by decide)) ?_
        refine And.intro (hL.k 4 (by decide)) ?_
        refine g_Em h (fun r u h => ?_)
        obtain ⟨rfl, hL, h⟩ := h
        refine And.intro (hL.k 4 (by decide)) ?_
        have h := h _ rfl
        refine And.intro (hL.k 4 (by decide)) ?_
        have h := h _ rfl
        exact And.intro rfl (And.intro rfl h)
  · have h := h.2 c
    refine And.intro (hL.k 4 (by decide)) (Or.inl ⟨_, hr_4_0, ?_⟩)
    refine And.intro (hL.k 4 (by decide)) ?_
    refine Or.inl (And.intro (Or.inl (hL.k 1 (by decide))) (And.intro (hL.v 1 (by decide) h.1) ?_))
    have h := h.2
    refine g_Em h (fun r u h => ?_)
    obtain ⟨y12, rfl, hL, hr_4_0, h⟩ := h
    refine And.intro (fun c => ?_) (fun c => ?_)
    · have h := h.1 c
      refine And.intro (hL.k 4 (by decide)) ?_
      refine And.intro (hL.k 4 (by decide)) ?_
      refine And.intro (fun c => ?_) (fun c => ?_)
      · have h := h.1 c
        refine And.intro (hL.k 4 (by decide)) ?_
        refine And.intro (hL.k 4 (by decide)) ?_
        refine g_Em h (fun r u h => ?_)
        obtain ⟨rfl, hL, h⟩ := h
        refine And.intro (hL.k 4 (by decide)) ?_
        have h := h _ rfl
        refine And.intro (hL.k 4 (by decide)) ?_
        have h := h _ rfl
        exact And.intro rfl (And.intro rfl h)
      · have h := h.2 c
        refine And.intro (fun c => ?_) (fun c => ?_)
        · have h := h.1 c
          refine And.intro (hL.k 4 (by decide)) ?_
          have h := h _ rfl
          refine And.intro (hL.k 4 (by decide)) ?_
          have h := h _ rfl
          exact And.intro rfl (And.intro rfl h)
        · have h := h.2 c
          refine And.intro (hL.k 4 (by decide)) ?_
          refine And.intro (hL.k 4 (by decide)) ?_
          refine g_Em h (fun r u h => ?_)
          obtain ⟨rfl, hL, h⟩ := h
          refine And.intro (hL.k 4 (by decide)) ?_
          have h := h _ rfl
          refine And.intro (hL.k 4 (by decide)) ?_
          have h := h _ rfl
          exact And.intro rfl (And.intro rfl h)
    · have h := h.2 c
      refine And.intro (hL.k 4 (by decide)) ?_
      refine And.intro (hL.k 4 (by decide)) ?_
      refine And.intro (fun c => ?_) (fun c => ?_)
      · have h := h.1 c
        refine And.intro (hL.k 4 (by decide)) ?_
        refine And.intro (hL.k 4 (by decide)) ?_
        have h := h _ rfl
        exact hP _ h
      · have h := h.2 c
        refine And.intro (hL.k 4 (by decide)) (Or.inl ⟨_, hr_4_0, ?_⟩)
        refine And.intro (hL.k 4 (by decide)) ?_
        refine Or.inl (And.intro (Or.inl (hL.k 1 (by decide))) (And.intro (hL.v 1 (by decide) h.1) ?_))
        have h := h.2
        have h := h _ rfl
        refine And.intro (hL.k 4 (by decide)) ?_
        refine And.intro (hL.k 4 (by decide)) ?_
        have h := h _ rfl
        exact hP _ h
theorem x_Tokens_scanSign {cx : gCx} {d : Nat} {ad : Nat → Nat} {t : gSt} {post : Option Value → gSt → Prop} (hL : Lay t ad) (hr_4_0 : t.2.2.2 (ad 4) 0 = some (ad 1)) (hz : ∃ z, cx.2.1 (cx.2.2.1 0) z ∧ z.1 = 20) (h : vp_in (t.2.1 (ad 4) 2) 3000 ∧ (∀ x1 : Int32, x1 = (t.2.1 (ad 1) ((t.2.1 (ad 4) 2) : Int32).toNatClampNeg) → (x1 < 0 → g_E cx d i_Tokens_failAt [.ref (ad 4), .int 1, .int (t.2.1 (ad 4) 5)] t (fun r u2 => r = none ∧ Lay u2 ad ∧ (post none u2))) ∧ (¬ (x1 < 0) → g_E cx d i_Str_indexOf_0f7a4 [.ref (cx.2.2.1 0), .int (x1.toUInt32 % 65536).toInt32] t (fun r u4 => ∃ y5 : Int32, r = some (.int y5) ∧ Lay u4 ad ∧ u4.2.2.2 (ad 4) 0 = some (ad 1) ∧ ((0 ≤ y5 → ∀ t6, t6 = g_si u4 (ad 4) 4 x1 → ∀ t7, t7 = g_si t6 (ad 4) 2 ((t6.2.1 (ad 4) 2) + 1) → (¬ x1 = 61 → post none t7) ∧ (¬ (¬ x1 = 61) → ((t7.2.1 (ad 4) 1) ≤ (t7.2.1 (ad 4) 2) → post none t7) ∧ (¬ ((t7.2.1 (ad 4) 1) ≤ (t7.2.1 (ad 4) 2)) → vp_in (t7.2.1 (ad 4) 2) 3000 ∧ ((¬ (t7.2.1 (ad 1) ((t7.2.1 (ad 4) 2) : Int32).toNatClampNeg) = 61 → post none t7) ∧ (¬ (¬ (t7.2.1 (ad 1) ((t7.2.1 (ad 4) 2) : Int32).toNatClampNeg) = 61) → ∀ t8, t8 = g_si t7 (ad 4) 4 10 → ∀ t9, t9 = g_si t8 (ad 4) 2 ((t8.2.1 (ad 4) 2) + 1) → post none t9))))) ∧ (¬ (0 ≤ y5) → g_E cx d i_Tokens_failAt [.ref (ad 4), .int 1, .int (u4.2.1 (ad 4) 5)] u4 (fun r u10 => r = none ∧ Lay u10 ad ∧ (post none u10)))))))) : g_E cx (d + 1) i_Tokens_scanSign [.ref (ad 4)] t post := by
  refine g_call mt_Tokens_scanSign rfl (by decide) (Nat.le_of_ble_eq_true rfl) ?_
  refine g_run [] 400 (fun P hP => ?_)
  refine And.intro (hL.k 4 (by decide)) (Or.inl ⟨_, hr_4_0, ?_⟩)
  refine And.intro (hL.k 4 (by decide)) ?_
  refine Or.inl (And.intro (Or.inl (hL.k 1 (by decide))) (And.intro (hL.v 1 (by decide) h.1) ?_))
  have h := h.2
  have h := h _ rfl
  refine And.intro (fun c => ?_) (fun c => ?_)
  · have h := h.1 c
    refine And.intro (hL.k 4 (by decide)) ?_
    refine And.intro (hL.k 4 (by decide)) ?_
    refine g_Em h (fun r u h => ?_)
    obtain ⟨rfl, hL, h⟩ := h
    exact And.intro rfl (And.intro rfl h)
  · have h := h.2 c
    refine And.intro hz ?_
    refine g_Em h (fun r u h => ?_)
    obtain ⟨y5, rfl, hL, hr_4_0, h⟩ := h
    refine And.intro (fun c => ?_) (fun c => ?_)
    · have h := h.1 c
      refine And.intro (hL.k 4 (by decide)) ?_
      have h := h _ rfl
      refine And.intro (hL.k 4 (by decide)) ?_
      refine And.intro (hL.k 4 (by decide)) ?_
      have h := h _ rfl
      refine And.intro (fun c => ?_) (fun c => ?_)
      · have h := h.1 c
        exact And.intro rfl (And.intro rfl h)
      · have h := h.2 c
        refine And.intro (hL.k 4 (by decide)) ?_
        refine And.intro (hL.k 4 (by decide)) ?_
        refine And.intro (fun c => ?_) (fun c => ?_)
        · have h := h.1 c
          exact And.intro rfl (And.intro rfl h)
        · have h := h.2 c
          refine And.intro (hL.k 4 (by decide)) (Or.inl ⟨_, hr_4_0, ?_⟩)
          refine And.intro (hL.k 4 (by decide)) ?_
          refine Or.inl (And.intro (Or.inl (hL.k 1 (by decide))) (And.intro (hL.v 1 (by decide) h.1) ?_))
          have h := h.2
          refine And.intro (fun c => ?_) (fun c => ?_)
          · have h := h.1 c
            exact And.intro rfl (And.intro rfl h)
          · have h := h.2 c
            refine And.intro (hL.k 4 (by decide)) ?_
            have h := h _ rfl
            refine And.intro (hL.k 4 (by decide)) ?_
            refine And.intro (hL.k 4 (by decide)) ?_
            have h := h _ rfl
            exact And.intro rfl (And.intro rfl h)
    · have h := h.2 c
      refine And.intro (hL.k 4 (by decide)) ?_
      refine And.intro (hL.k 4 (by decide)) ?_
      refine g_Em h (fun r u h => ?_)
      obtain ⟨rfl, hL, h⟩ := h
      exact And.intro rfl (And.intro rfl h)
theorem x_Tokens_isBlank {cx : gCx} {d : Nat} {ad : Nat → Nat} {a1 : Int32} {t : gSt} {post : Option Value → gSt → Prop} (hL : Lay t ad) (h : (a1 = 9 → post (some (.int 1)) t) ∧ (¬ (a1 = 9) → (a1 = 10 → post (some (.int 1)) t) ∧ (¬ (a1 = 10) → (a1 = 13 → post (some (.int 1)) t) ∧ (¬ (a1 = 13) → (¬ a1 = 32 → post (some (.int 0)) t) ∧ (¬ (¬ a1 = 32) → post (some (.int 1)) t))))) : g_E cx (d + 1) i_Tokens_isBlank [.int a1] t post := by
  refine g_call mt_Tokens_isBlank rfl (by decide) (Nat.le_of_ble_eq_true rfl) ?_
  refine g_run [] 400 (fun P hP => ?_)
  refine And.intro (fun c => ?_) (fun c => ?_)
  · have h := h.1 c
    exact And.intro rfl (And.intro rfl h)
  · have h := h.2 c
    refine And.intro (fun c => ?_) (fun c => ?_)
    · have h := h.1 c
      exact And.intro rfl (And.intro rfl h)
    · have h := h.2 c
      refine And.intro (fun c => ?_) (fun c => ?_)
      · have h := h.1 c
        exact And.intro rfl (And.intro rfl h)
      · have h := h.2 c
        refine And.intro (fun c => ?_) (fun c => ?_)
        · have h := h.1 c
          exact And.intro rfl (And.intro rfl h)
        · have h := h.2 c
          exact And.intro rfl (And.intro rfl h)
theorem x_Tokens_isLetter {cx : gCx} {d : Nat} {ad : Nat → Nat} {a1 : Int32} {t : gSt} {post : Option Value → gSt → Prop} (hL : Lay t ad) (h : (a1 < 97 → post (some (.int 0)) t) ∧ (¬ (a1 < 97) → (122 < a1 → post (some (.int 0)) t) ∧ (¬ (122 < a1) → post (some (.int 1)) t))) : g_E cx (d + 1) i_Tokens_isLetter [.int a1] t post := by
  refine g_call mt_Tokens_isLetter rfl (by decide) (Nat.le_of_ble_eq_true rfl) ?_
  refine g_run [] 400 (fun P hP => ?_)
  refine And.intro (fun c => ?_) (fun c => ?_)
  · have h := h.1 c
    exact And.intro rfl (And.intro rfl h)
  · have h := h.2 c
    refine And.intro (fun c => ?_) (fun c => ?_)
    · have h := h.1 c
      exact And.intro rfl (And.intro rfl h)
    · have h := h.2 c
      exact And.intro rfl (And.intro rfl h)
theorem x_Tokens_isDigit {cx : gCx} {d : Nat} {ad : Nat → Nat} {a1 : Int32} {t : gSt} {post : Option Value → gSt → Prop} (hL : Lay t ad) (h : (a1 < 48 → post (some (.int 0)) t) ∧ (¬ (a1 < 48) → (57 < a1 → post (some (.int 0)) t) ∧ (¬ (57 < a1) → post (some (.int 1)) t))) : g_E cx (d + 1) i_Tokens_isDigit [.int a1] t post := by
  refine g_call mt_Tokens_isDigit rfl (by decide) (Nat.le_of_ble_eq_true rfl) ?_
  refine g_run [] 400 (fun P hP => ?_)
  refine And.intro (fun c => ?_) (fun c => ?_)
  · have h := h.1 c
    exact And.intro rfl (And.intro rfl h)
  · have h := h.2 c
    refine And.intro (fun c => ?_) (fun c => ?_)
    · have h := h.1 c
      exact And.intro rfl (And.intro rfl h)
    · have h := h.2 c
      exact And.intro rfl (And.intro rfl h)
