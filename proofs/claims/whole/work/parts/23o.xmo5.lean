/-! PRINTED by wip/gen/xparts.py: symbolic execution, method by method -/
theorem x_Mo_put {cx : gCx} {d : Nat} {ad : Nat → Nat} {a1 : Int32} {t : gSt} {post : Option Value → gSt → Prop} (hL : Lay t ad) (h : (6100 ≤ (t.2.1 (ad 144) 73) → ∀ t1, t1 = g_si t (ad 144) 73 ((t.2.1 (ad 144) 73) + 1) → post none t1) ∧ (¬ (6100 ≤ (t.2.1 (ad 144) 73)) → vp_in (t.2.1 (ad 144) 73) 6100 ∧ (∀ t2, t2 = g_si t (ad 191) ((t.2.1 (ad 144) 73) : Int32).toNatClampNeg (vp_nar .byte a1.toInt8.toInt32) → ∀ t3, t3 = g_si t2 (ad 144) 73 ((t2.2.1 (ad 144) 73) + 1) → post none t3))) : g_E cx (d + 1) i_Mo_put [.ref (ad 144), .int a1] t post := by
  refine g_call mt_Mo_put rfl (by decide) (Nat.le_of_ble_eq_true rfl) ?_
  refine g_run [] 400 (fun P hP => ?_)
  refine And.intro (hL.k 144 (by decide)) ?_
  refine And.intro (fun c => ?_) (fun c => ?_)
  · have h := h.1 c
    refine And.intro (hL.k 144 (by decide)) ?_
    refine And.intro (hL.k 144 (by decide)) ?_
    have h := h _ rfl
    exact And.intro rfl (And.intro rfl h)
  · have h := h.2 c
    refine And.intro (hL.k 144 (by decide)) (Or.inl ⟨_, (hL.r 144 72 191 (by decide)), ?_⟩)
    refine And.intro (hL.k 144 (by decide)) ?_
    refine And.intro (hL.v 191 (by decide) h.1) (Or.inl (And.intro (hL.k 191 (by decide)) ?_))
    have h := h.2 _ rfl
    refine And.intro (hL.k 144 (by decide)) ?_
    refine And.intro (hL.k 144 (by decide)) ?_
    have h := h _ rfl
    exact And.intro rfl (And.intro rfl h)
theorem x_Mo_puts {cx : gCx} {d : Nat} {ad : Nat → Nat} {a1 : Int64} {t : gSt} {post : Option Value → gSt → Prop} (hL : Lay t ad) (h : g_W cx (g_E cx d) mt_Mo_puts post (3, [some (.ref (ad 144)), some (.long a1), none, some (.int 7), none], [], t, 0, 0)) : g_E cx (d + 1) i_Mo_puts [.ref (ad 144), .long a1] t post := by
  refine g_call mt_Mo_puts rfl (by decide) (Nat.le_of_ble_eq_true rfl) ?_
  refine g_run [3] 400 (fun P hP => ?_)
  exact hP _ h
theorem x_Mo_puts_3 {cx : gCx} {d : Nat} {ad : Nat → Nat} {l3 : Int32} {l1 : Int64} {o4 : Option Value} {t : gSt} {post : Option Value → gSt → Prop} (hL : Lay t ad) (h : (l3 < 0 → post none t) ∧ (¬ (l3 < 0) → ∀ x1 : Int32, x1 = ((l1 >>> (((8 * l3) : Int32).toInt64 &&& 63)) &&& 255).toInt32 → (x1 ≤ 0 → g_W cx (g_E cx d) mt_Mo_puts post (3, [some (.ref (ad 144)), some (.long l1), none, some (.int (l3 + (-1))), some (.int x1)], [], t, 0, 0)) ∧ (¬ (x1 ≤ 0) → g_E cx d i_Mo_put [.ref (ad 144), .int x1] t (fun r u2 => r = none ∧ Lay u2 ad ∧ (g_W cx (g_E cx d) mt_Mo_puts post (3, [some (.ref (ad 144)), some (.long l1), none, some (.int (l3 + (-1))), some (.int x1)], [], u2, 0, 0)))))) : g_W cx (g_E cx d) mt_Mo_puts post (3, [some (.ref (ad 144)), some (.long l1), none, some (.int l3), o4], [], t, 0, 0) := by
  refine g_run [3] 400 (fun P hP => ?_)
  refine And.intro (fun c => ?_) (fun c => ?_)
  · have h := h.1 c
    exact And.intro rfl (And.intro rfl h)
  · have h := h.2 c
    have h := h _ rfl
    refine And.intro (fun c => ?_) (fun c => ?_)
    · have h := h.1 c
      exact hP _ h
    · have h := h.2 c
      refine And.intro (hL.k 144 (by decide)) ?_
      refine g_Em h (fun r u h => ?_)
      obtain ⟨rfl, hL, h⟩ := h
      exact hP _ h
theorem x_Mo_decimal {cx : gCx} {d : Nat} {ad : Nat → Nat} {a1 : Int64} {t : gSt} {post : Option Value → gSt → Prop} (hL : Lay t ad) (h : g_W cx (g_E cx d) mt_Mo_decimal post (2, [some (.ref (ad 144)), some (.long a1), none, some (.long 1), none], [], t, 0, 0)) : g_E cx (d + 1) i_Mo_decimal [.ref (ad 144), .long a1] t post := by
  refine g_call mt_Mo_decimal rfl (by decide) (Nat.le_of_ble_eq_true rfl) ?_
  refine g_run [2, 21] 400 (fun P hP => ?_)
  exact hP _ h
theorem x_Mo_decimal_2 {cx : gCx} {d : Nat} {ad : Nat → Nat} {l1 l3 : Int64} {t : gSt} {post : Option Value → gSt → Prop} (hL : Lay t ad) (h : ¬ l3 = 0 ∧ (((lg_cmp (l1 / l3) 9) ≤ 0 → g_W cx (g_E cx d) mt_Mo_decimal post (21, [some (.ref (ad 144)), some (.long l1), none, some (.long l3), none], [], t, 0, 0)) ∧ (¬ ((lg_cmp (l1 / l3) 9) ≤ 0) → ∀ x1 : Int64, x1 = (l3 * 10) → g_W cx (g_E cx d) mt_Mo_decimal post (2, [some (.ref (ad 144)), some (.long l1), none, some (.long x1), none], [], t, 0, 0)))) : g_W cx (g_E cx d) mt_Mo_decimal post (2, [some (.ref (ad 144)), some (.long l1), none, some (.long l3), none], [], t, 0, 0) := by
  refine g_run [2, 21] 400 (fun P hP => ?_)
  refine And.intro h.1 ?_
  have h := h.2
  refine And.intro (fun c => ?_) (fun c => ?_)
  · have h := h.1 c
    exact hP _ h
  · have h := h.2 c
    have h := h _ rfl
    exact hP _ h
theorem x_Mo_decimal_21 {cx : gCx} {d : Nat} {ad : Nat → Nat} {l1 l3 : Int64} {t : gSt} {post : Option Value → gSt → Prop} (hL : Lay t ad) (h : ((lg_cmp l3 0) ≤ 0 → post none t) ∧ (¬ ((lg_cmp l3 0) ≤ 0) → ¬ l3 = 0 ∧ (g_E cx d i_Mo_put [.ref (ad 144), .int (48 + ((l1 / l3) - (l1 / l3) / 10 * 10)).toInt32] t (fun r u1 => r = none ∧ Lay u1 ad ∧ (∀ x3 : Int64, x3 = (l3 / 10) → g_W cx (g_E cx d) mt_Mo_decimal post (21, [some (.ref (ad 144)), some (.long l1), none, some (.long x3), none], [], u1, 0, 0)))))) : g_W cx (g_E cx d) mt_Mo_decimal post (21, [some (.ref (ad 144)), some (.long l1), none, some (.long l3), none], [], t, 0, 0) := by
  refine g_run [2, 21] 400 (fun P hP => ?_)
  refine And.intro (fun c => ?_) (fun c => ?_)
  · have h := h.1 c
    exact And.intro rfl (And.intro rfl h)
  · have h := h.2 c
    refine And.intro h.1 ?_
    have h := h.2
    refine And.intro (by decide) ?_
    refine And.intro (hL.k 144 (by decide)) ?_
    refine g_Em h (fun r u h => ?_)
    obtain ⟨rfl, hL, h⟩ := h
    refine And.intro (by decide) ?_
    have h := h _ rfl
    exact hP _ h
theorem x_Mo_nameOut {cx : gCx} {d : Nat} {ad : Nat → Nat} {a1 : Int64} {t : gSt} {post : Option Value → gSt → Prop} (hL : Lay t ad) (h : g_W cx (g_E cx d) mt_Mo_nameOut post (2, [some (.ref (ad 144)), some (.long a1), none, some (.int 0), none, none], [], t, 0, 0)) : g_E cx (d + 1) i_Mo_nameOut [.ref (ad 144), .long a1] t post := by
  refine g_call mt_Mo_nameOut rfl (by decide) (Nat.le_of_ble_eq_true rfl) ?_
  refine g_run [2, 24] 400 (fun P hP => ?_)
  exact hP _ h
theorem x_Mo_nameOut_2 {cx : gCx} {d : Nat} {ad : Nat → Nat} {l3 : Int32} {l1 : Int64} {t : gSt} {post : Option Value → gSt → Prop} (hL : Lay t ad) (h : ((lg_cmp (l1 >>> (((6 * l3) : Int32).toInt64 &&& 63)) 0) ≤ 0 → ∀ x1 : Int32, x1 = (l3 - 1) → g_W cx (g_E cx d) mt_Mo_nameOut post (24, [some (.ref (ad 144)), some (.long l1), none, some (.int l3), some (.int x1), none], [], t, 0, 0)) ∧ (¬ ((lg_cmp (l1 >>> (((6 * l3) : Int32).toInt64 &&& 63)) 0) ≤ 0) → g_W cx (g_E cx d) mt_Mo_nameOut post (2, [some (.ref (ad 144)), some (.long l1), none, some (.int (l3 + 1)), none, none], [], t, 0, 0))) : g_W cx (g_E cx d) mt_Mo_nameOut post (2, [some (.ref (ad 144)), some (.long l1), none, some (.int l3), none, none], [], t, 0, 0) := by
  refine g_run [2, 24] 400 (fun P hP => ?_)
  refine And.intro (fun c => ?_) (fun c => ?_)
  · have h := h.1 c
    have h := h _ rfl
    exact hP _ h
  · have h := h.2 c
    exact hP _ h
theorem x_Mo_nameOut_24 {cx : gCx} {d : Nat} {ad : Nat → Nat} {l3 l4 : Int32} {l1 : Int64} {o5 : Option Value} {t : gSt} {post : Option Value → gSt → Prop} (hL : Lay t ad) (h : (l4 < 0 → post none t) ∧ (¬ (l4 < 0) → ∀ x1 : Int32, x1 = ((l1 >>> (((6 * l4) : Int32).toInt64 &&& 63)) &&& 63).toInt32 → (27 ≤ x1 → g_E cx d i_Mo_put [.ref (ad 144), .int ((48 + x1) - 27)] t (fun r u2 => r = none ∧ Lay u2 ad ∧ (g_W cx (g_E cx d) mt_Mo_nameOut post (24, [some (.ref (ad 144)), some (.long l1), none, some (.int l3), some (.int (l4 + (-1))), some (.int x1)], [], u2, 0, 0)))) ∧ (¬ (27 ≤ x1) → g_E cx d i_Mo_put [.ref (ad 144), .int ((97 + x1) - 1)] t (fun r u4 => r = none ∧ Lay u4 ad ∧ (g_W cx (g_E cx d) mt_Mo_nameOut post (24, [some (.ref (ad 144)), some (.long l1), none, some (.int l3), some (.int (l4 + (-1))), some (.int x1)], [], u4, 0, 0)))))) : g_W cx (g_E cx d) mt_Mo_nameOut post (24, [some (.ref (ad 144)), some (.long l1), none, some (.int l3), some (.int l4), o5], [], t, 0, 0) := by
  refine g_run [2, 24] 400 (fun P hP => ?_)
  refine And.intro (fun c => ?_) (fun c => ?_)
  · have h := h.1 c
    exact And.intro rfl (And.intro rfl h)
  · have h := h.2 c
    have h := h _ rfl
    refine And.intro (fun c => ?_) (fun c => ?_)
    · have h := h.1 c
      refine And.intro (hL.k 144 (by decide)) ?_
      refine g_Em h (fun r u h => ?_)
      obtain ⟨rfl, hL, h⟩ := h
      exact hP _ h
    · have h := h.2 c
      refine And.intro (hL.k 144 (by decide)) ?_
      refine g_Em h (fun r u h => ?_)
      obtain ⟨rfl, hL, h⟩ := h
      exact hP _ h
theorem x_Mo_signOf {cx : gCx} {d : Nat} {ad : Nat → Nat} {a1 : Int32} {t : gSt} {post : Option Value → gSt → Prop} (hL : Lay t ad) (h : (a1 = 3 → g_W cx (g_E cx d) mt_Mo_signOf post (44, [some (.int a1)], [], t, 0, 0)) ∧ (a1 = 4 → g_W cx (g_E cx d) mt_Mo_signOf post (48, [some (.int a1)], [], t, 0, 0)) ∧ (a1 = 5 → g_W cx (g_E cx d) mt_Mo_signOf post (52, [some (.int a1)], [], t, 0, 0)) ∧ (a1 = 6 → g_W cx (g_E cx d) mt_Mo_signOf post (56, [some (.int a1)], [], t, 0, 0)) ∧ (a1 = 7 → g_W cx (g_E cx d) mt_Mo_signOf post (60, [some (.int a1)], [], t, 0, 0)) ∧ (a1 = 8 → g_W cx (g_E cx d) mt_Mo_signOf post (64, [some (.int a1)], [], t, 0, 0)) ∧ (a1 = 9 → g_W cx (g_E cx d) mt_Mo_signOf post (68, [some (.int a1)], [], t, 0, 0)) ∧ (a1 < 3 ∨ 9 < a1 → g_W cx (g_E cx d) mt_Mo_signOf post (72, [some (.int a1)], [], t, 0, 0))) : g_E cx (d + 1) i_Mo_signOf [.int a1] t post := by
  refine g_call mt_Mo_signOf rfl (by decide) (Nat.le_of_ble_eq_true rfl) ?_
  refine g_run [1, 44, 48, 52, 56, 60, 64, 68, 72] 400 (fun P hP => ?_)
  refine hP _ ?_
  rcases g_swc _ 3 9 (by decide) (by decide) (by decide) with c | c | ⟨j, hj, c⟩
  · exact g_sw (tgt := 72) rfl (g_swlo c) (h.2.2.2.2.2.2.2 (Or.inl c))
  · exact g_sw (tgt := 72) rfl (g_swhi c) (h.2.2.2.2.2.2.2 (Or.inr c))
  · match j, hj with
    | 0, _ => exact g_sw (tgt := 44) rfl (by rw [c]; decide) (h.1 c)
    | 1, _ => exact g_sw (tgt := 48) rfl (by rw [c]; decide) (h.2.1 c)
    | 2, _ => exact g_sw (tgt := 52) rfl (by rw [c]; decide) (h.2.2.1 c)
    | 3, _ => exact g_sw (tgt := 56) rfl (by rw [c]; decide) (h.2.2.2.1 c)
    | 4, _ => exact g_sw (tgt := 60) rfl (by rw [c]; decide) (h.2.2.2.2.1 c)
    | 5, _ => exact g_sw (tgt := 64) rfl (by rw [c]; decide) (h.2.2.2.2.2.1 c)
    | 6, _ => exact g_sw (tgt := 68) rfl (by rw [c]; decide) (h.2.2.2.2.2.2.1 c)
    | j + 7, hj => exact absurd hj (by omega)
theorem x_Mo_signOf_44 {cx : gCx} {d : Nat} {ad : Nat → Nat} {l0 : Int32} {t : gSt} {post : Option Value → gSt → Prop} (hL : Lay t ad) (h : post (some (.long 43)) t) : g_W cx (g_E cx d) mt_Mo_signOf post (44, [some (.int l0)], [], t, 0, 0) := by
  refine g_run [1, 44, 48, 52, 56, 60, 64, 68, 72] 400 (fun P hP => ?_)
  exact And.intro rfl (And.intro rfl h)
theorem x_Mo_signOf_48 {cx : gCx} {d : Nat} {ad : Nat → Nat} {l0 : Int32} {t : gSt} {post : Option Value → gSt → Prop} (hL : Lay t ad) (h : post (some (.long 45)) t) : g_W cx (g_E cx d) mt_Mo_signOf post (48, [some (.int l0)], [], t, 0, 0) := by
  refine g_run [1, 44, 48, 52, 56, 60, 64, 68, 72] 400 (fun P hP => ?_)
  exact And.intro rfl (And.intro rfl h)
theorem x_Mo_signOf_52 {cx : gCx} {d : Nat} {ad : Nat → Nat} {l0 : Int32} {t : gSt} {post : Option Value → gSt → Prop} (hL : Lay t ad) (h : post (some (.long 42)) t) : g_W cx (g_E cx d) mt_Mo_signOf post (52, [some (.int l0)], [], t, 0, 0) := by
  refine g_run [1, 44, 48, 52, 56, 60, 64, 68, 72] 400 (fun P hP => ?_)
  exact And.intro rfl (And.intro rfl h)
theorem x_Mo_signOf_56 {cx : gCx} {d : Nat} {ad : Nat → Nat} {l0 : Int32} {t : gSt} {post : Option Value → gSt → Prop} (hL : Lay t ad) (h : post (some (.long 47)) t) : g_W cx (g_E cx d) mt_Mo_signOf post (56, [some (.int l0)], [], t, 0, 0) := by
  refine g_run [1, 44, 48, 52, 56, 60, 64, 68, 72] 400 (fun P hP => ?_)
  exact And.intro rfl (And.intro rfl h)
theorem x_Mo_signOf_60 {cx : gCx} {d : Nat} {ad : Nat → Nat} {l0 : Int32} {t : gSt} {post : Option Value → gSt → Prop} (hL : Lay t ad) (h : post (some (.long 37)) t) : g_W cx (g_E cx d) mt_Mo_signOf post (60, [some (.int l0)], [], t, 0, 0) := by
  refine g_run [1, 44, 48, 52, 56, 60, 64, 68, 72] 400 (fun P hP => ?_)
  exact And.intro rfl (And.intro rfl h)
theorem x_Mo_signOf_64 {cx : gCx} {d : Nat} {ad : Nat → Nat} {l0 : Int32} {t : gSt} {post : Option Value → gSt → Prop} (hL : Lay t ad) (h : post (some (.long 60)) t) : g_W cx (g_E cx d) mt_Mo_signOf post (64, [some (.int l0)], [], t, 0, 0) := by
  refine g_run [1, 44, 48, 52, 56, 60, 64, 68, 72] 400 (fun P hP => ?_)
  exact And.intro rfl (And.intro rfl h)
theorem x_Mo_signOf_68 {cx : gCx} {d : Nat} {ad : Nat → Nat} {l0 : Int32} {t : gSt} {post : Option Value → gSt → Prop} (hL : Lay t ad) (h : post (some (.long 15677)) t) : g_W cx (g_E cx d) mt_Mo_signOf post (68, [some (.int l0)], [], t, 0, 0) := by
  refine g_run [1, 44, 48, 52, 56, 60, 64, 68, 72] 400 (fun P hP => ?_)
  exact And.intro rfl (And.intro rfl h)
theorem x_Mo_signOf_72 {cx : gCx} {d : Nat} {ad : Nat → Nat} {l0 : Int32} {t : gSt} {post : Option Value → gSt → Prop} (hL : Lay t ad) (h : post (some (.long 59)) t) : g_W cx (g_E cx d) mt_Mo_signOf post (72, [some (.int l0)], [], t, 0, 0) := by
  refine g_run [1, 44, 48, 52, 56, 60, 64, 68, 72] 400 (fun P hP => ?_)
  exact And.intro rfl (And.intro rfl h)
theorem x_Mo_wordOf {cx : gCx} {d : Nat} {ad : Nat → Nat} {a1 : Int32} {t : gSt} {post : Option Value → gSt → Prop} (hL : Lay t ad) (h : (a1 = 0 → g_W cx (g_E cx d) mt_Mo_wordOf post (36, [some (.int a1)], [], t, 0, 0)) ∧ (a1 = 1 → g_W cx (g_E cx d) mt_Mo_wordOf post (40, [some (.int a1)], [], t, 0, 0)) ∧ (a1 = 2 → g_W cx (g_E cx d) mt_Mo_wordOf post (44, [some (.int a1)], [], t, 0, 0)) ∧ (a1 = 3 → g_W cx (g_E cx d) mt_Mo_wordOf post (48, [some (.int a1)], [], t, 0, 0)) ∧ (a1 = 4 → g_W cx (g_E cx d) mt_Mo_wordOf post (52, [some (.int a1)], [], t, 0, 0)) ∧ (a1 < 0 ∨ 4 < a1 → g_W cx (g_E cx d) mt_Mo_wordOf post (56, [some (.int a1)], [], t, 0, 0))) : g_E cx (d + 1) i_Mo_wordOf [.int a1] t post := by
  refine g_call mt_Mo_wordOf rfl (by decide) (Nat.le_of_ble_eq_true rfl) ?_
  refine g_run [1, 36, 40, 44, 48, 52, 56] 400 (fun P hP => ?_)
  refine hP _ ?_
  rcases g_swc _ 0 4 (by decide) (by decide) (by decide) with c | c | ⟨j, hj, c⟩
  · exact g_sw (tgt := 56) rfl (g_swlo c) (h.2.2.2.2.2 (Or.inl c))
  · exact g_sw (tgt := 56) rfl (g_swhi c) (h.2.2.2.2.2 (Or.inr c))
  · match j, hj with
    | 0, _ => exact g_sw (tgt := 36) rfl (by rw [c]; decide) (h.1 c)
    | 1, _ => exact g_sw (tgt := 40) rfl (by rw [c]; decide) (h.2.1 c)
    | 2, _ => exact g_sw (tgt := 44) rfl (by rw [c]; decide) (h.2.2.1 c)
    | 3, _ => exact g_sw (tgt := 48) rfl (by rw [c]; decide) (h.2.2.2.1 c)
    | 4, _ => exact g_sw (tgt := 52) rfl (by rw [c]; decide) (h.2.2.2.2.1 c)
    | j + 5, hj => exact absurd hj (by omega)
theorem x_Mo_wordOf_36 {cx : gCx} {d : Nat} {ad : Nat → Nat} {l0 : Int32} {t : gSt} {post : Option Value → gSt → Prop} (hL : Lay t ad) (h : post (some (.long 41)) t) : g_W cx (g_E cx d) mt_Mo_wordOf post (36, [some (.int l0)], [], t, 0, 0) := by
  refine g_run [1, 36, 40, 44, 48, 52, 56] 400 (fun P hP => ?_)
  exact And.intro rfl (And.intro rfl h)
theorem x_Mo_wordOf_40 {cx : gCx} {d : Nat} {ad : Nat → Nat} {l0 : Int32} {t : gSt} {post : Option Value → gSt → Prop} (hL : Lay t ad) (h : post (some (.long 35684339772960)) t) : g_W cx (g_E cx d) mt_Mo_wordOf post (40, [some (.int l0)], [], t, 0, 0) := by
  refine g_run [1, 36, 40, 44, 48, 52, 56] 400 (fun P hP => ?_)
  exact And.intro rfl (And.intro rfl h)
theorem x_Mo_wordOf_44 {cx : gCx} {d : Nat} {ad : Nat → Nat} {l0 : Int32} {t : gSt} {post : Option Value → gSt → Prop} (hL : Lay t ad) (h : post (some (.long 35619983287584)) t) : g_W cx (g_E cx d) mt_Mo_wordOf post (44, [some (.int l0)], [], t, 0, 0) := by
  refine g_run [1, 36, 40, 44, 48, 52, 56] 400 (fun P hP => ?_)
  exact And.intro rfl (And.intro rfl h)
theorem x_Mo_wordOf_48 {cx : gCx} {d : Nat} {ad : Nat → Nat} {l0 : Int32} {t : gSt} {post : Option Value → gSt → Prop} (hL : Lay t ad) (h : post (some (.long 543780384)) t) : g_W cx (g_E cx d) mt_Mo_wordOf post (48, [some (.int l0)], [], t, 0, 0) := by
  refine g_run [1, 36, 40, 44, 48, 52, 56] 400 (fun P hP => ?_)
  exact And.intro rfl (And.intro rfl h)
theorem x_Mo_wordOf_52 {cx : gCx} {d : Nat} {ad : Nat → Nat} {l0 : Int32} {t : gSt} {post : Option Value → gSt → Prop} (hL : Lay t ad) (h : post (some (.long 44)) t) : g_W cx (g_E cx d) mt_Mo_wordOf post (52, [some (.int l0)], [], t, 0, 0) := by
  refine g_run [1, 36, 40, 44, 48, 52, 56] 400 (fun P hP => ?_)
  exact And.intro rfl (And.intro rfl h)
theorem x_Mo_wordOf_56 {cx : gCx} {d : Nat} {ad : Nat → Nat} {l0 : Int32} {t : gSt} {post : Option Value → gSt → Prop} (hL : Lay t ad) (h : g_E cx d i_Mo_signOf [.int (l0 - 100)] t (fun r u1 => ∃ y2 : Int64, r = some (.long y2) ∧ Lay u1 ad ∧ (post (some (.long y2)) u1))) : g_W cx (g_E cx d) mt_Mo_wordOf post (56, [some (.int l0)], [], t, 0, 0) := by
  refine g_run [1, 36, 40, 44, 48, 52, 56] 400 (fun P hP => ?_)
  refine g_Em h (fun r u h => ?_)
  obtain ⟨y2, rfl, hL, h⟩ := h
  exact And.intro rfl (And.intro rfl h)
theorem x_Mo_writeOne {cx : gCx} {d : Nat} {ad : Nat → Nat} {a1 a2 : Int32} {t : gSt} {post : Option Value → gSt → Prop} (hL : Lay t ad) (h : ∀ x1 : Int32, x1 = ((1300 * a1) + a2) → vp_in x1 93600 ∧ (∀ x2 : Int32, x2 = (t.2.1 (ad 151) (x1 : Int32).toNatClampNeg) → (x2 = 1 → g_W cx (g_E cx d) mt_Mo_writeOne post (92, [some (.ref (ad 144)), some (.int a1), some (.int a2), some (.int x1), some (.int x2), none], [], t, 0, 0)) ∧ (x2 = 2 → g_W cx (g_E cx d) mt_Mo_writeOne post (141, [some (.ref (ad 144)), some (.int a1), some (.int a2), some (.int x1), some (.int x2), none], [], t, 0, 0)) ∧ (x2 = 10 ∨ x2 = 11 → g_W cx (g_E cx d) mt_Mo_writeOne post (159, [some (.ref (ad 144)), some (.int a1), some (.int a2), some (.int x1), some (.int x2), none], [], t, 0, 0)) ∧ (x2 = 13 → g_W cx (g_E cx d) mt_Mo_writeOne post (201, [some (.ref (ad 144)), some (.int a1), some (.int a2), some (.int x1), some (.int x2), none], [], t, 0, 0)) ∧ (x2 = 14 → g_W cx (g_E cx d) mt_Mo_writeOne post (272, [some (.ref (ad 144)), some (.int a1), some (.int a2), some (.int x1), some (.int x2), none], [], t, 0, 0)) ∧ (x2 = 15 → g_W cx (g_E cx d) mt_Mo_writeOne post (339, [some (.ref (ad 144)), some (.int a1), some (.int a2), some (.int x1), some (.int x2), none], [], t, 0, 0)) ∧ (x2 < 1 ∨ 15 < x2 ∨ x2 = 3 ∨ x2 = 4 ∨ x2 = 5 ∨ x2 = 6 ∨ x2 = 7 ∨ x2 = 8 ∨ x2 = 9 ∨ x2 = 12 → g_W cx (g_E cx d) mt_Mo_writeOne post (430, [some (.ref (ad 144)), some (.int a1), some (.int a2), some (.int x1), some (.int x2), none], [], t, 0, 0)))) : g_E cx (d + 1) i_Mo_writeOne [.ref (ad 144), .int a1, .int a2] t post := by
  refine g_call mt_Mo_writeOne rfl (by decide) (Nat.le_of_ble_eq_true rfl) ?_
  refine g_run [18, 92, 141, 159, 201, 272, 339, 378, 430] 400 (fun P hP => ?_)
  have h := h _ rfl
  refine And.intro (hL.k 144 (by decide)) (Or.inl ⟨_, (hL.r 144 17 151 (by decide)), ?_⟩)
  refine Or.inl (And.intro (hL.k 151 (by decide)) (And.intro (hL.v 151 (by decide) h.1) ?_))
  have h := h.2
  have h := h _ rfl
  refine hP _ ?_
  rcases g_swc _ 1 15 (by decide) (by decide) (by decide) with c | c | ⟨j, hj, c⟩
  · exact g_sw (tgt := 430) rfl (g_swlo c) (h.2.2.2.2.2.2 (Or.inl c))
  · exact g_sw (tgt := 430) rfl (g_swhi c) (h.2.2.2.2.2.2 (Or.inr (Or.inl c)))
  · match j, hj with
    | 0, _ => exact g_sw (tgt := 92) rfl (by rw [c]; decide) (h.1 c)
    | 1, _ => exact g_sw (tgt := 141) rfl (by rw [c]; decide) (h.2.1 c)
    | 2, _ => exact g_sw (tgt := 430) rfl (by rw [c]; decide) (h.2.2.2.2.2.2 (Or.inr (Or.inr (Or.inl c))))
    | 3, _ => exact g_sw (tgt := 430) rfl (by rw [c]; decide) (h.2.2.2.2.2.2 (Or.inr (Or.inr (Or.inr (Or.inl c)))))
    | 4, _ => exact g_sw (tgt := 430) rfl (by rw [c]; decide) (h.2.2.2.2.2.2 (Or.inr (Or.inr (Or.inr (Or.inr (Or.inl c))))))
    | 5, _ => exact g_sw (tgt := 430) rfl (by rw [c]; decide) (h.2.2.2.2.2.2 (Or.inr (Or.inr (Or.inr (Or.inr (Or.inr (Or.inl c)))))))
    | 6, _ => exact g_sw (tgt := 430) rfl (by rw [c]; decide) (h.2.2.2.2.2.2 (Or.inr (Or.inr (Or.inr (Or.inr (Or.inr (Or.inr (Or.inl c))))))))
    | 7, _ => exact g_sw (tgt := 430) rfl (by rw [c]; decide) (h.2.2.2.2.2.2 (Or.inr (Or.inr (Or.inr (Or.inr (Or.inr (Or.inr (Or.inr (Or.inl c)))))))))
    | 8, _ => exact g_sw (tgt := 430) rfl (by rw [c]; decide) (h.2.2.2.2.2.2 (Or.inr (Or.inr (Or.inr (Or.inr (Or.inr (Or.inr (Or.inr (Or.inr (Or.inl c))))))))))
    | 9, _ => exact g_sw (tgt := 159) rfl (by rw [c]; decide) (h.2.2.1 (Or.inl c))
    | 10, _ => exact g_sw (tgt := 159) rfl (by rw [c]; decide) (h.2.2.1 (Or.inr c))
    | 11, _ => exact g_sw (tgt := 430) rfl (by rw [c]; decide) (h.2.2.2.2.2.2 (Or.inr (Or.inr (Or.inr (Or.inr (Or.inr (Or.inr (Or.inr (Or.inr (Or.inr c))))))))))
    | 12, _ => exact g_sw (tgt := 201) rfl (by rw [c]; decide) (h.2.2.2.1 c)
    | 13, _ => exact g_sw (tgt := 272) rfl (by rw [c]; decide) (h.2.2.2.2.1 c)
    | 14, _ => exact g_sw (tgt := 339) rfl (by rw [c]; decide) (h.2.2.2.2.2.1 c)
    | j + 15, hj => exact absurd hj (by omega)
theorem x_Mo_writeOne_92 {cx : gCx} {d : Nat} {ad : Nat → Nat} {l1 l2 l3 l4 : Int32} {t : gSt} {post : Option Value → gSt → Prop} (hL : Lay t ad) (h : vp_in l3 93600 ∧ ((0 ≤ (t.2.1 (ad 152) (l3 : Int32).toNatClampNeg) → vp_in l3 93600 ∧ (g_E cx d i_Mo_decimal [.ref (ad 144), .long (t.2.1 (ad 152) (l3 : Int32).toNatClampNeg).toInt64] t (fun r u1 => r = none ∧ Lay u1 ad ∧ (post none u1)))) ∧ (¬ (0 ≤ (t.2.1 (ad 152) (l3 : Int32).toNatClampNeg)) → g_E cx d i_Mo_puts [.ref (ad 144), .long 10285] t (fun r u3 => r = none ∧ Lay u3 ad ∧ (vp_in l3 93600 ∧ (g_E cx d i_Mo_decimal [.ref (ad 144), .long (-(u3.2.1 (ad 152) (l3 : Int32).toNatClampNeg).toInt64)] u3 (fun r u5 => r = none ∧ Lay u5 ad ∧ (g_E cx d i_Mo_put [.ref (ad 144), .int 41] u5 (fun r u7 => r = none ∧ Lay u7 ad ∧ (post none u7)))))))))) : g_W cx (g_E cx d) mt_Mo_writeOne post (92, [some (.ref (ad 144)), some (.int l1), some (.int l2), some (.int l3), some (.int l4), none], [], t, 0, 0) := by
  refine g_run [18, 92, 141, 159, 201, 272, 339, 378, 430] 400 (fun P hP => ?_)
  refine And.intro (hL.k 144 (by decide)) (Or.inl ⟨_, (hL.r 144 18 152 (by decide)), ?_⟩)
  refine Or.inl (And.intro (hL.k 152 (by decide)) (And.intro (hL.v 152 (by decide) h.1) ?_))
  have h := h.2
  refine And.intro (fun c => ?_) (fun c => ?_)
  · have h := h.1 c
    refine And.intro (hL.k 144 (by decide)) (Or.inl ⟨_, (hL.r 144 18 152 (by decide)), ?_⟩)
    refine Or.inl (And.intro (hL.k 152 (by decide)) (And.intro (hL.v 152 (by decide) h.1) ?_))
    have h := h.2
    refine And.intro (hL.k 144 (by decide)) ?_
    refine g_Em h (fun r u h => ?_)
    obtain ⟨rfl, hL, h⟩ := h
    exact And.intro rfl (And.intro rfl h)
  · have h := h.2 c
    refine And.intro (hL.k 144 (by decide)) ?_
    refine g_Em h (fun r u h => ?_)
    obtain ⟨rfl, hL, h⟩ := h
    refine And.intro (hL.k 144 (by decide)) (Or.inl ⟨_, (hL.r 144 18 152 (by decide)), ?_⟩)
    refine Or.inl (And.intro (hL.k 152 (by decide)) (And.intro (hL.v 152 (by decide) h.1) ?_))
    have h := h.2
    refine And.intro (hL.k 144 (by decide)) ?_
    refine g_Em h (fun r u h => ?_)
    obtain ⟨rfl, hL, h⟩ := h
    refine And.intro (hL.k 144 (by decide)) ?_
    refine g_Em h (fun r u h => ?_)
    obtain ⟨rfl, hL, h⟩ := h
    exact And.intro rfl (And.intro rfl h)
theorem x_Mo_writeOne_141 {cx : gCx} {d : Nat} {ad : Nat → Nat} {l1 l2 l3 l4 : Int32} {t : gSt} {post : Option Value → gSt → Prop} (hL : Lay t ad) (h : g_E cx d i_Mo_put [.ref (ad 144), .int 118] t (fun r u1 => r = none ∧ Lay u1 ad ∧ (vp_in l3 93600 ∧ (g_E cx d i_Mo_decimal [.ref (ad 144), .long (u1.2.1 (ad 152) (l3 : Int32).toNatClampNeg).toInt64] u1 (fun r u3 => r = none ∧ Lay u3 ad ∧ (post none u3)))))) : g_W cx (g_E cx d) mt_Mo_writeOne post (141, [some (.ref (ad 144)), some (.int l1), some (.int l2), some (.int l3), some (.int l4), none], [], t, 0, 0) := by
  refine g_run [18, 92, 141, 159, 201, 272, 339, 378, 430] 400 (fun P hP => ?_)
  refine And.intro (hL.k 144 (by decide)) ?_
  refine g_Em h (fun r u h => ?_)
  obtain ⟨rfl, hL, h⟩ := h
  refine And.intro (hL.k 144 (by decide)) (Or.inl ⟨_, (hL.r 144 18 152 (by decide)), ?_⟩)
  refine Or.inl (And.intro (hL.k 152 (by decide)) (And.intro (hL.v 152 (by decide) h.1) ?_))
  have h := h.2
  refine And.intro (hL.k 144 (by decide)) ?_
  refine g_Em h (fun r u h => ?_)
  obtain ⟨rfl, hL, h⟩ := h
  exact And.intro rfl (And.intro rfl h)
theorem x_Mo_writeOne_159 {cx : gCx} {d : Nat} {ad : Nat → Nat} {l1 l2 l3 l4 : Int32} {t : gSt} {post : Option Value → gSt → Prop} (hL : Lay t ad) (h : (¬ l4 = 10 → g_E cx d i_Mo_puts [.ref (ad 144), .long 1886745640] t (fun r u1 => r = none ∧ Lay u1 ad ∧ (g_E cx d i_Mo_push [.ref (ad 144), .int 61, .int 0, .int 0] u1 (fun r u3 => r = none ∧ Lay u3 ad ∧ (vp_in l3 93600 ∧ (g_E cx d i_Mo_push [.ref (ad 144), .int 60, .int (u3.2.1 (ad 152) (l3 : Int32).toNatClampNeg), .int 0] u3 (fun r u5 => r = none ∧ Lay u5 ad ∧ (post none u5)))))))) ∧ (¬ (¬ l4 = 10) → g_E cx d i_Mo_puts [.ref (ad 144), .long 10285] t (fun r u7 => r = none ∧ Lay u7 ad ∧ (g_E cx d i_Mo_push [.ref (ad 144), .int 61, .int 0, .int 0] u7 (fun r u9 => r = none ∧ Lay u9 ad ∧ (vp_in l3 93600 ∧ (g_E cx d i_Mo_push [.ref (ad 144), .int 60, .int (u9.2.1 (ad 152) (l3 : Int32).toNatClampNeg), .int 0] u9 (fun r u11 => r = none ∧ Lay u11 ad ∧ (post none u11))))))))) : g_W cx (g_E cx d) mt_Mo_writeOne post (159, [some (.ref (ad 144)), some (.int l1), some (.int l2), some (.int l3), some (.int l4), none], [], t, 0, 0) := by
  refine g_run [18, 92, 141, 159, 201, 272, 339, 378, 430] 400 (fun P hP => ?_)
  refine And.intro (fun c => ?_) (fun c => ?_)
  · have h := h.1 c
    refine And.intro (hL.k 144 (by decide)) ?_
    refine g_Em h (fun r u h => ?_)
    obtain ⟨rfl, hL, h⟩ := h
    refine And.intro (hL.k 144 (by decide)) ?_
    refine g_Em h (fun r u h => ?_)
    obtain ⟨rfl, hL, h⟩ := h
    refine And.intro (hL.k 144 (by decide)) (Or.inl ⟨_, (hL.r 144 18 152 (by decide)), ?_⟩)
    refine Or.inl (And.intro (hL.k 152 (by decide)) (And.intro (hL.v 152 (by decide) h.1) ?_))
    have h := h.2
    refine And.intro (hL.k 144 (by decide)) ?_
    refine g_Em h (fun r u h => ?_)
    obtain ⟨rfl, hL, h⟩ := h
    exact And.intro rfl (And.intro rfl h)
  · have h := h.2 c
    refine And.intro (hL.k 144 (by decide)) ?_
    refine g_Em h (fun r u h => ?_)
    obtain ⟨rfl, hL, h⟩ := h
    refine And.intro (hL.k 144 (by decide)) ?_
    refine g_Em h (fun r u h => ?_)
    obtain ⟨rfl, hL, h⟩ := h
    refine And.intro (hL.k 144 (by decide)) (Or.inl ⟨_, (hL.r 144 18 152 (by decide)), ?_⟩)
    refine Or.inl (And.intro (hL.k 152 (by decide)) (And.intro (hL.v 152 (by decide) h.1) ?_))
    have h := h.2
    refine And.intro (hL.k 144 (by decide)) ?_
    refine g_Em h (fun r u h => ?_)
    obtain ⟨rfl, hL, h⟩ := h
    exact And.intro rfl (And.intro rfl h)
theorem x_Mo_writeOne_201 {cx : gCx} {d : Nat} {ad : Nat → Nat} {l1 l2 l3 l4 : Int32} {t : gSt} {post : Option Value → gSt → Prop} (hL : Lay t ad) (h : g_E cx d i_Mo_puts [.ref (ad 144), .long 677996064] t (fun r u1 => r = none ∧ Lay u1 ad ∧ (g_E cx d i_Mo_push [.ref (ad 144), .int 61, .int 0, .int 0] u1 (fun r u3 => r = none ∧ Lay u3 ad ∧ (vp_in l3 93600 ∧ (g_E cx d i_Mo_push [.ref (ad 144), .int 60, .int (u3.2.1 (ad 154) (l3 : Int32).toNatClampNeg), .int 0] u3 (fun r u5 => r = none ∧ Lay u5 ad ∧ (g_E cx d i_Mo_push [.ref (ad 144), .int 61, .int 2, .int 0] u5 (fun r u7 => r = none ∧ Lay u7 ad ∧ (vp_in l3 93600 ∧ (g_E cx d i_Mo_push [.ref (ad 144), .int 60, .int (u7.2.1 (ad 153) (l3 : Int32).toNatClampNeg), .int 0] u7 (fun r u9 => r = none ∧ Lay u9 ad ∧ (g_E cx d i_Mo_push [.ref (ad 144), .int 61, .int 1, .int 0] u9 (fun r u11 => r = none ∧ Lay u11 ad ∧ (vp_in l3 93600 ∧ (g_E cx d i_Mo_push [.ref (ad 144), .int 60, .int (u11.2.1 (ad 152) (l3 : Int32).toNatClampNeg), .int 0] u11 (fun r u13 => r = none ∧ Lay u13 ad ∧ (post none u13)))))))))))))))))) : g_W cx (g_E cx d) mt_Mo_writeOne post (201, [some (.ref (ad 144)), some (.int l1), some (.int l2), some (.int l3), some (.int l4), none], [], t, 0, 0) := by
  refine g_run [18, 92, 141, 159, 201, 272, 339, 378, 430] 400 (fun P hP => ?_)
  refine And.intro (hL.k 144 (by decide)) ?_
  refine g_Em h (fun r u h => ?_)
  obtain ⟨rfl, hL, h⟩ := h
  refine And.intro (hL.k 144 (by decide)) ?_
  refine g_Em h (fun r u h => ?_)
  obtain ⟨rfl, hL, h⟩ := h
  refine And.intro (hL.k 144 (by decide)) (Or.inl ⟨_, (hL.r 144 20 154 (by decide)), ?_⟩)
  refine Or.inl (And.intro (hL.k 154 (by decide)) (And.intro (hL.v 154 (by decide) h.1) ?_))
  have h := h.2
  refine And.intro (hL.k 144 (by decide)) ?_
  refine g_Em h (fun r u h => ?_)
  obtain ⟨rfl, hL, h⟩ := h
  refine And.intro (hL.k 144 (by decide)) ?_
  refine g_Em h (fun r u h => ?_)
  obtain ⟨rfl, hL, h⟩ := h
  refine And.intro (hL.k 144 (by decide)) (Or.inl ⟨_, (hL.r 144 19 153 (by decide)), ?_⟩)
  refine Or.inl (And.intro (hL.k 153 (by decide)) (And.intro (hL.v 153 (by decide) h.1) ?_))
  have h := h.2
  refine And.intro (hL.k 144 (by decide)) ?_
  refine g_Em h (fun r u h => ?_)
  obtain ⟨rfl, hL, h⟩ := h
  refine And.intro (hL.k 144 (by decide)) ?_
  refine g_Em h (fun r u h => ?_)
  obtain ⟨rfl, hL, h⟩ := h
  refine And.intro (hL.k 144 (by decide)) (Or.inl ⟨_, (hL.r 144 18 152 (by decide)), ?_⟩)
  refine Or.inl (And.intro (hL.k 152 (by decide)) (And.intro (hL.v 152 (by decide) h.1) ?_))
  have h := h.2
  refine And.intro (hL.k 144 (by decide)) ?_
  refine g_Em h (fun r u h => ?_)
  obtain ⟨rfl, hL, h⟩ := h
  exact And.intro rfl (And.intro rfl h)
theorem x_Mo_writeOne_272 {cx : gCx} {d : Nat} {ad : Nat → Nat} {l1 l2 l3 l4 : Int32} {t : gSt} {post : Option Value → gSt → Prop} (hL : Lay t ad) (h : g_E cx d i_Mo_puts [.ref (ad 144), .long 44446023688310] t (fun r u1 => r = none ∧ Lay u1 ad ∧ (vp_in l3 93600 ∧ (g_E cx d i_Mo_decimal [.ref (ad 144), .long (u1.2.1 (ad 154) (l3 : Int32).toNatClampNeg).toInt64] u1 (fun r u3 => r = none ∧ Lay u3 ad ∧ (g_E cx d i_Mo_put [.ref (ad 144), .int 61] u3 (fun r u5 => r = none ∧ Lay u5 ad ∧ (g_E cx d i_Mo_push [.ref (ad 144), .int 61, .int 0, .int 0] u5 (fun r u7 => r = none ∧ Lay u7 ad ∧ (vp_in l3 93600 ∧ (g_E cx d i_Mo_push [.ref (ad 144), .int 60, .int (u7.2.1 (ad 153) (l3 : Int32).toNatClampNeg), .int 0] u7 (fun r u9 => r = none ∧ Lay u9 ad ∧ (g_E cx d i_Mo_push [.ref (ad 144), .int 61, .int 3, .int 0] u9 (fun r u11 => r = none ∧ Lay u11 ad ∧ (vp_in l3 93600 ∧ (g_E cx d i_Mo_push [.ref (ad 144), .int 60, .int (u11.2.1 (ad 152) (l3 : Int32).toNatClampNeg), .int 0] u11 (fun r u13 => r = none ∧ Lay u13 ad ∧ (post none u13)))))))))))))))))) : g_W cx (g_E cx d) mt_Mo_writeOne post (272, [some (.ref (ad 144)), some (.int l1), some (.int l2), some (.int l3), some (.int l4), none], [], t, 0, 0) := by
  refine g_run [18, 92, 141, 159, 201, 272, 339, 378, 430] 400 (fun P hP => ?_)
  refine And.intro (hL.k 144 (by decide)) ?_
  refine g_Em h (fun r u h => ?_)
  obtain ⟨rfl, hL, h⟩ := h
  refine And.intro (hL.k 144 (by decide)) (Or.inl ⟨_, (hL.r 144 20 154 (by decide)), ?_⟩)
  refine Or.inl (And.intro (hL.k 154 (by decide)) (And.intro (hL.v 154 (by decide) h.1) ?_))
  have h := h.2
  refine And.intro (hL.k 144 (by decide)) ?_
  refine g_Em h (fun r u h => ?_)
  obtain ⟨rfl, hL, h⟩ := h
  refine And.intro (hL.k 144 (by decide)) ?_
  refine g_Em h (fun r u h => ?_)
  obtain ⟨rfl, hL, h⟩ := h
  refine And.intro (hL.k 144 (by decide)) ?_
  refine g_Em h (fun r u h => ?_)
  obtain ⟨rfl, hL, h⟩ := h
  refine And.intro (hL.k 144 (by decide)) (Or.inl ⟨_, (hL.r 144 19 153 (by decide)), ?_⟩)
  refine Or.inl (And.intro (hL.k 153 (by decide)) (And.intro (hL.v 153 (by decide) h.1) ?_))
  have h := h.2
  refine And.intro (hL.k 144 (by decide)) ?_
  refine g_Em h (fun r u h => ?_)
  obtain ⟨rfl, hL, h⟩ := h
  refine And.intro (hL.k 144 (by decide)) ?_
  refine g_Em h (fun r u h => ?_)
  obtain ⟨rfl, hL, h⟩ := h
  refine And.intro (hL.k 144 (by decide)) (Or.inl ⟨_, (hL.r 144 18 152 (by decide)), ?_⟩)
  refine Or.inl (And.intro (hL.k 152 (by decide)) (And.intro (hL.v 152 (by decide) h.1) ?_))
  have h := h.2
  refine And.intro (hL.k 144 (by decide)) ?_
  refine g_Em h (fun r u h => ?_)
  obtain ⟨rfl, hL, h⟩ := h
  exact And.intro rfl (And.intro rfl h)
theorem x_Mo_writeOne_339 {cx : gCx} {d : Nat} {ad : Nat → Nat} {l1 l2 l3 l4 : Int32} {t : gSt} {post : Option Value → gSt → Prop} (hL : Lay t ad) (h : vp_in l3 93600 ∧ (vp_in (t.2.1 (ad 154) (l3 : Int32).toNatClampNeg) 24 ∧ (g_E cx d i_Mo_nameOut [.ref (ad 144), .long (t.2.2.1 (ad 146) ((t.2.1 (ad 154) (l3 : Int32).toNatClampNeg) : Int32).toNatClampNeg)] t (fun r u1 => r = none ∧ Lay u1 ad ∧ (g_E cx d i_Mo_put [.ref (ad 144), .int 40] u1 (fun r u3 => r = none ∧ Lay u3 ad ∧ (g_E cx d i_Mo_push [.ref (ad 144), .int 61, .int 0, .int 0] u3 (fun r u5 => r = none ∧ Lay u5 ad ∧ (vp_in l3 93600 ∧ (∀ x7 : Int32, x7 = ((u5.2.1 (ad 153) (l3 : Int32).toNatClampNeg) - 1) → g_W cx (g_E cx d) mt_Mo_writeOne post (378, [some (.ref (ad 144)), some (.int l1), some (.int l2), some (.int l3), some (.int l4), some (.int x7)], [], u5, 0, 0))))))))))) : g_W cx (g_E cx d) mt_Mo_writeOne post (339, [some (.ref (ad 144)), some (.int l1), some (.int l2), some (.int l3), some (.int l4), none], [], t, 0, 0) := by
  refine g_run [18, 92, 141, 159, 201, 272, 339, 378, 430] 400 (fun P hP => ?_)
  refine And.intro (hL.k 144 (by decide)) (Or.inl ⟨_, (hL.r 144 12 146 (by decide)), ?_⟩)
  refine And.intro (hL.k 144 (by decide)) (Or.inl ⟨_, (hL.r 144 20 154 (by decide)), ?_⟩)
  refine Or.inl (And.intro (hL.k 154 (by decide)) (And.intro (hL.v 154 (by decide) h.1) ?_))
  have h := h.2
  refine Or.inl (And.intro (hL.k 146 (by decide)) (And.intro (hL.v 146 (by decide) h.1) ?_))
  have h := h.2
  refine And.intro (hL.k 144 (by decide)) ?_
  refine g_Em h (fun r u h => ?_)
  obtain ⟨rfl, hL, h⟩ := h
  refine And.intro (hL.k 144 (by decide)) ?_
  refine g_Em h (fun r u h => ?_)
  obtain ⟨rfl, hL, h⟩ := h
  refine And.intro (hL.k 144 (by decide)) ?_
  refine g_Em h (fun r u h => ?_)
  obtain ⟨rfl, hL, h⟩ := h
  refine And.intro (hL.k 144 (by decide)) (Or.inl ⟨_, (hL.r 144 19 153 (by decide)), ?_⟩)
  refine Or.inl (And.intro (hL.k 153 (by decide)) (And.intro (hL.v 153 (by decide) h.1) ?_))
  have h := h.2
  have h := h _ rfl
  exact hP _ h
theorem x_Mo_writeOne_378 {cx : gCx} {d : Nat} {ad : Nat → Nat} {l1 l2 l3 l4 l5 : Int32} {t : gSt} {post : Option Value → gSt → Prop} (hL : Lay t ad) (h : (l5 < 0 → post none t) ∧ (¬ (l5 < 0) → vp_in l3 93600 ∧ (vp_in (((1300 * l1) + (t.2.1 (ad 152) (l3 : Int32).toNatClampNeg)) + l5) 93600 ∧ (g_E cx d i_Mo_push [.ref (ad 144), .int 60, .int (t.2.1 (ad 155) ((((1300 * l1) + (t.2.1 (ad 152) (l3 : Int32).toNatClampNeg)) + l5) : Int32).toNatClampNeg), .int 0] t (fun r u1 => r = none ∧ Lay u1 ad ∧ ((l5 ≤ 0 → g_W cx (g_E cx d) mt_Mo_writeOne post (378, [some (.ref (ad 144)), some (.int l1), some (.int l2), some (.int l3), some (.int l4), some (.int (l5 + (-1)))], [], u1, 0, 0)) ∧ (¬ (l5 ≤ 0) → g_E cx d i_Mo_push [.ref (ad 144), .int 61, .int 4, .int 0] u1 (fun r u3 => r = none ∧ Lay u3 ad ∧ (g_W cx (g_E cx d) mt_Mo_writeOne post (378, [some (.ref (ad 144)), some (.int l1), some (.int l2), some (.int l3), some (.int l4), some (.int (l5 + (-1)))], [], u3, 0, 0)))))))))) : g_W cx (g_E cx d) mt_Mo_writeOne post (378, [some (.ref (ad 144)), some (.int l1), some (.int l2), some (.int l3), some (.int l4), some (.int l5)], [], t, 0, 0) := by
  refine g_run [18, 92, 141, 159, 201, 272, 339, 378, 430] 400 (fun P hP => ?_)
  refine And.intro (fun c => ?_) (fun c => ?_)
  · have h := h.1 c
    exact And.intro rfl (And.intro rfl h)
  · have h := h.2 c
    refine And.intro (hL.k 144 (by decide)) (Or.inl ⟨_, (hL.r 144 21 155 (by decide)), ?_⟩)
    refine And.intro (hL.k 144 (by decide)) (Or.inl ⟨_, (hL.r 144 18 152 (by decide)), ?_⟩)
    refine Or.inl (And.intro (hL.k 152 (by decide)) (And.intro (hL.v 152 (by decide) h.1) ?_))
    have h := h.2
    refine Or.inl (And.intro (hL.k 155 (by decide)) (And.intro (hL.v 155 (by decide) h.1) ?_))
    have h := h.2
    refine And.intro (hL.k 144 (by decide)) ?_
    refine g_Em h (fun r u h => ?_)
    obtain ⟨rfl, hL, h⟩ := h
    refine And.intro (fun c => ?_) (fun c => ?_)
    · have h := h.1 c
      exact hP _ h
    · have h := h.2 c
      refine And.intro (hL.k 144 (by decide)) ?_
      refine g_Em h (fun r u h => ?_)
      obtain ⟨rfl, hL, h⟩ := h
      exact hP _ h
theorem x_Mo_writeOne_430 {cx : gCx} {d : Nat} {ad : Nat → Nat} {l1 l2 l3 l4 : Int32} {t : gSt} {post : Option Value → gSt → Prop} (hL : Lay t ad) (h : g_E cx d i_Mo_put [.ref (ad 144), .int 40] t (fun r u1 => r = none ∧ Lay u1 ad ∧ (g_E cx d i_Mo_push [.ref (ad 144), .int 61, .int 0, .int 0] u1 (fun r u3 => r = none ∧ Lay u3 ad ∧ (vp_in l3 93600 ∧ (g_E cx d i_Mo_push [.ref (ad 144), .int 60, .int (u3.2.1 (ad 153) (l3 : Int32).toNatClampNeg), .int 0] u3 (fun r u5 => r = none ∧ Lay u5 ad ∧ (g_E cx d i_Mo_push [.ref (ad 144), .int 61, .int (100 + l4), .int 0] u5 (fun r u7 => r = none ∧ Lay u7 ad ∧ (vp_in l3 93600 ∧ (g_E cx d i_Mo_push [.ref (ad 144), .int 60, .int (u7.2.1 (ad 152) (l3 : Int32).toNatClampNeg), .int 0] u7 (fun r u9 => r = none ∧ Lay u9 ad ∧ (post none u9))))))))))))) : g_W cx (g_E cx d) mt_Mo_writeOne post (430, [some (.ref (ad 144)), some (.int l1), some (.int l2), some (.int l3), some (.int l4), none], [], t, 0, 0) := by
  refine g_run [18, 92, 141, 159, 201, 272, 339, 378, 430] 400 (fun P hP => ?_)
  refine And.intro (hL.k 144 (by decide)) ?_
  refine g_Em h (fun r u h => ?_)
  obtain ⟨rfl, hL, h⟩ := h
  refine And.intro (hL.k 144 (by decide)) ?_
  refine g_Em h (fun r u h => ?_)
  obtain ⟨rfl, hL, h⟩ := h
  refine And.intro (hL.k 144 (by decide)) (Or.inl ⟨_, (hL.r 144 19 153 (by decide)), ?_⟩)
  refine Or.inl (And.intro (hL.k 153 (by decide)) (And.intro (hL.v 153 (by decide) h.1) ?_))
  have h := h.2
  refine And.intro (hL.k 144 (by decide)) ?_
  refine g_Em h (fun r u h => ?_)
  obtain ⟨rfl, hL, h⟩ := h
  refine And.intro (hL.k 144 (by decide)) ?_
  refine g_Em h (fun r u h => ?_)
  obtain ⟨rfl, hL, h⟩ := h
  refine And.intro (hL.k 144 (by decide)) (Or.inl ⟨_, (hL.r 144 18 152 (by decide)), ?_⟩)
  refine Or.inl (And.intro (hL.k 152 (by decide)) (And.intro (hL.v 152 (by decide) h.1) ?_))
  have h := h.2
  refine And.intro (hL.k 144 (by decide)) ?_
  refine g_Em h (fun r u h => ?_)
  obtain ⟨rfl, hL, h⟩ := h
  exact And.intro rfl (And.intro rfl h)
theorem x_Mo_write {cx : gCx} {d : Nat} {ad : Nat → Nat} {a1 a2 : Int32} {t : gSt} {post : Option Value → gSt → Prop} (hL : Lay t ad) (h : ∀ t1, t1 = g_si t (ad 144) 0 0 → g_E cx d i_Mo_noFunction [.ref (ad 144), .int a1, .int a2] t1 (fun r u2 => ∃ y3 : Int32, r = some (.int y3) ∧ Lay u2 ad ∧ ((y3 = 0 → ∀ x4 : Int32, x4 = ((24 * a1) + a2) → ∀ t5, t5 = g_si u2 (ad 144) 73 0 → ∀ t6, t6 = g_si t5 (ad 144) 29 0 → vp_in x4 72 ∧ (g_E cx d i_Mo_push [.ref (ad 144), .int 60, .int ((t6.2.1 (ad 148) (x4 : Int32).toNatClampNeg) - 1), .int 0] t6 (fun r u7 => r = none ∧ Lay u7 ad ∧ (g_W cx (g_E cx d) mt_Mo_write post (48, [some (.ref (ad 144)), some (.int a1), some (.int a2), some (.int x4), none], [], u7, 0, 0))))) ∧ (¬ (y3 = 0) → post (some (.int (-1))) u2)))) : g_E cx (d + 1) i_Mo_write [.ref (ad 144), .int a1, .int a2] t post := by
  refine g_call mt_Mo_write rfl (by decide) (Nat.le_of_ble_eq_true rfl) ?_
  refine g_run [48, 131] 400 (fun P hP => ?_)
  refine And.intro (hL.k 144 (by decide)) ?_
  have h := h _ rfl
  refine And.intro (hL.k 144 (by decide)) ?_
  refine g_Em h (fun r u h => ?_)
  obtain ⟨y3, rfl, hL, h⟩ := h
  refine And.intro (fun c => ?_) (fun c => ?_)
  · have h := h.1 c
    have h := h _ rfl
    refine And.intro (hL.k 144 (by decide)) ?_
    have h := h _ rfl
    refine And.intro (hL.k 144 (by decide)) ?_
    have h := h _ rfl
    refine And.intro (hL.k 144 (by decide)) (Or.inl ⟨_, (hL.r 144 14 148 (by decide)), ?_⟩)
    refine Or.inl (And.intro (hL.k 148 (by decide)) (And.intro (hL.v 148 (by decide) h.1) ?_))
    have h := h.2
    refine And.intro (hL.k 144 (by decide)) ?_
    refine g_Em h (fun r u h => ?_)
    obtain ⟨rfl, hL, h⟩ := h
    exact hP _ h
  · have h := h.2 c
    exact And.intro rfl (And.intro rfl h)
theorem x_Mo_write_48 {cx : gCx} {d : Nat} {ad : Nat → Nat} {l1 l2 l3 : Int32} {t : gSt} {post : Option Value → gSt → Prop} (hL : Lay t ad) (h : ((t.2.1 (ad 144) 29) ≤ 0 → ((t.2.1 (ad 144) 73) ≤ 6000 → g_W cx (g_E cx d) mt_Mo_write post (131, [some (.ref (ad 144)), some (.int l1), some (.int l2), some (.int l3), some (.int 0)], [], t, 0, 0)) ∧ (¬ ((t.2.1 (ad 144) 73) ≤ 6000) → post (some (.int (-4))) t)) ∧ (¬ ((t.2.1 (ad 144) 29) ≤ 0) → ∀ t1, t1 = g_si t (ad 144) 29 ((t.2.1 (ad 144) 29) - 1) → vp_in (t1.2.1 (ad 144) 29) 20000 ∧ ((¬ (t1.2.1 (ad 159) ((t1.2.1 (ad 144) 29) : Int32).toNatClampNeg) = 61 → vp_in (t1.2.1 (ad 144) 29) 20000 ∧ (g_E cx d i_Mo_writeOne [.ref (ad 144), .int l3, .int (t1.2.1 (ad 160) ((t1.2.1 (ad 144) 29) : Int32).toNatClampNeg)] t1 (fun r u2 => r = none ∧ Lay u2 ad ∧ (g_W cx (g_E cx d) mt_Mo_write post (48, [some (.ref (ad 144)), some (.int l1), some (.int l2), some (.int l3), none], [], u2, 0, 0))))) ∧ (¬ (¬ (t1.2.1 (ad 159) ((t1.2.1 (ad 144) 29) : Int32).toNatClampNeg) = 61) → vp_in (t1.2.1 (ad 144) 29) 20000 ∧ (g_E cx d i_Mo_wordOf [.int (t1.2.1 (ad 160) ((t1.2.1 (ad 144) 29) : Int32).toNatClampNeg)] t1 (fun r u4 => ∃ y5 : Int64, r = some (.long y5) ∧ Lay u4 ad ∧ (g_E cx d i_Mo_puts [.ref (ad 144), .long y5] u4 (fun r u6 => r = none ∧ Lay u6 ad ∧ (g_W cx (g_E cx d) mt_Mo_write post (48, [some (.ref (ad 144)), some (.int l1), some (.int l2), some (.int l3), none], [], u6, 0, 0)))))))))) : g_W cx (g_E cx d) mt_Mo_write post (48, [some (.ref (ad 144)), some (.int l1), some (.int l2), some (.int l3), none], [], t, 0, 0) := by
  refine g_run [48, 131] 400 (fun P hP => ?_)
  refine And.intro (hL.k 144 (by decide)) ?_
  refine And.intro (fun c => ?_) (fun c => ?_)
  · have h := h.1 c
    refine And.intro (hL.k 144 (by decide)) ?_
    refine And.intro (fun c => ?_) (fun c => ?_)
    · have h := h.1 c
      exact hP _ h
    · have h := h.2 c
      exact And.intro rfl (And.intro rfl h)
  · have h := h.2 c
    refine And.intro (hL.k 144 (by decide)) ?_
    refine And.intro (hL.k 144 (by decide)) ?_
    have h := h _ rfl
    refine And.intro (hL.k 144 (by decide)) (Or.inl ⟨_, (hL.r 144 30 159 (by decide)), ?_⟩)
    refine And.intro (hL.k 144 (by decide)) ?_
    refine Or.inl (And.intro (hL.k 159 (by decide)) (And.intro (hL.v 159 (by decide) h.1) ?_))
    have h := h.2
    refine And.intro (fun c => ?_) (fun c => ?_)
    · have h := h.1 c
      refine And.intro (hL.k 144 (by decide)) (Or.inl ⟨_, (hL.r 144 31 160 (by decide)), ?_⟩)
      refine And.intro (hL.k 144 (by decide)) ?_
      refine Or.inl (And.intro (hL.k 160 (by decide)) (And.intro (hL.v 160 (by decide) h.1) ?_))
      have h := h.2
      refine And.intro (hL.k 144 (by decide)) ?_
      refine g_Em h (fun r u h => ?_)
      obtain ⟨rfl, hL, h⟩ := h
      exact hP _ h
    · have h := h.2 c
      refine And.intro (hL.k 144 (by decide)) (Or.inl ⟨_, (hL.r 144 31 160 (by decide)), ?_⟩)
      refine And.intro (hL.k 144 (by decide)) ?_
      refine Or.inl (And.intro (hL.k 160 (by decide)) (And.intro (hL.v 160 (by decide) h.1) ?_))
      have h := h.2
      refine g_Em h (fun r u h => ?_)
      obtain ⟨y5, rfl, hL, h⟩ := h
      refine And.intro (hL.k 144 (by decide)) ?_
      refine g_Em h (fun r u h => ?_)
      obtain ⟨rfl, hL, h⟩ := h
      exact hP _ h
theorem x_Mo_write_131 {cx : gCx} {d : Nat} {ad : Nat → Nat} {l1 l2 l3 l4 : Int32} {t : gSt} {post : Option Value → gSt → Prop} (hL : Lay t ad) (h : ((t.2.1 (ad 144) 73) ≤ l4 → ∀ t1, t1 = g_si t (ad 144) 71 (t.2.1 (ad 144) 73) → post (some (.int (t1.2.1 (ad 144) 71))) t1) ∧ (¬ ((t.2.1 (ad 144) 73) ≤ l4) → vp_in l4 6100 ∧ (vp_in l4 6100 ∧ (∀ t2, t2 = g_si t (ad 190) (l4 : Int32).toNatClampNeg (vp_nar .byte (t.2.1 (ad 191) (l4 : Int32).toNatClampNeg)) → g_W cx (g_E cx d) mt_Mo_write post (131, [some (.ref (ad 144)), some (.int l1), some (.int l2), some (.int l3), some (.int (l4 + 1))], [], t2, 0, 0))))) : g_W cx (g_E cx d) mt_Mo_write post (131, [some (.ref (ad 144)), some (.int l1), some (.int l2), some (.int l3), some (.int l4)], [], t, 0, 0) := by
  refine g_run [48, 131] 400 (fun P hP => ?_)
  refine And.intro (hL.k 144 (by decide)) ?_
  refine And.intro (fun c => ?_) (fun c => ?_)
  · have h := h.1 c
    refine And.intro (hL.k 144 (by decide)) ?_
    refine And.intro (hL.k 144 (by decide)) ?_
    have h := h _ rfl
    refine And.intro (hL.k 144 (by decide)) ?_
    exact And.intro rfl (And.intro rfl h)
  · have h := h.2 c
    refine And.intro (hL.k 144 (by decide)) (Or.inl ⟨_, (hL.r 144 70 190 (by decide)), ?_⟩)
    refine And.intro (hL.k 144 (by decide)) (Or.inl ⟨_, (hL.r 144 72 191 (by decide)), ?_⟩)
    refine Or.inl (And.intro (Or.inl (hL.k 191 (by decide))) (And.intro (hL.v 191 (by decide) h.1) ?_))
    have h := h.2
    refine And.intro (hL.v 190 (by decide) h.1) (Or.inl (And.intro (hL.k 190 (by decide)) ?_))
    have h := h.2 _ rfl
    exact hP _ h
theorem x_Mo_lay {cx : gCx} {d : Nat} {ad : Nat → Nat} {a1 a2 a3 a4 : Int32} {t : gSt} {post : Option Value → gSt → Prop} (hL : Lay t ad) (h : g_E cx d i_Mo_frame [.ref (ad 144), .int a1] t (fun r u1 => ∃ y2 : Int32, r = some (.int y2) ∧ Lay u1 ad ∧ ((((t.2.1 (ad 144) 81) + y2) ≤ a3 → ∀ x3 : Int32, x3 = (u1.2.1 (ad 144) 81) → g_W cx (g_E cx d) mt_Mo_lay post (25, [some (.ref (ad 144)), some (.int a1), some (.int a2), some (.int a3), some (.int a4), some (.int x3), some (.int 0)], [], u1, 0, 0)) ∧ (¬ (((t.2.1 (ad 144) 81) + y2) ≤ a3) → post (some (.int 0)) u1)))) : g_E cx (d + 1) i_Mo_lay [.ref (ad 144), .int a1, .int a2, .int a3, .int a4] t post := by
  refine g_call mt_Mo_lay rfl (by decide) (Nat.le_of_ble_eq_true rfl) ?_
  refine g_run [25] 400 (fun P hP => ?_)
  refine And.intro (hL.k 144 (by decide)) ?_
  refine And.intro (hL.k 144 (by decide)) ?_
  refine g_Em h (fun r u h => ?_)
  obtain ⟨y2, rfl, hL, h⟩ := h
  refine And.intro (fun c => ?_) (fun c => ?_)
  · have h := h.1 c
    refine And.intro (hL.k 144 (by decide)) ?_
    have h := h _ rfl
    exact hP _ h
  · have h := h.2 c
    exact And.intro rfl (And.intro rfl h)
theorem x_Mo_lay_25 {cx : gCx} {d : Nat} {ad : Nat → Nat} {l1 l2 l3 l4 l5 l6 : Int32} {t : gSt} {post : Option Value → gSt → Prop} (hL : Lay t ad) (h : (l4 ≤ l6 → vp_in (t.2.1 (ad 144) 80) 7000 ∧ (∀ t1, t1 = g_si t (ad 194) ((t.2.1 (ad 144) 80) : Int32).toNatClampNeg l1 → vp_in (t1.2.1 (ad 144) 80) 7000 ∧ (∀ t2, t2 = g_si t1 (ad 195) ((t1.2.1 (ad 144) 80) : Int32).toNatClampNeg 0 → vp_in (t2.2.1 (ad 144) 80) 7000 ∧ (∀ t3, t3 = g_si t2 (ad 196) ((t2.2.1 (ad 144) 80) : Int32).toNatClampNeg (l5 + 2) → vp_in l1 48 ∧ (vp_in (t3.2.1 (ad 144) 80) 7000 ∧ (∀ t4, t4 = g_si t3 (ad 197) ((t3.2.1 (ad 144) 80) : Int32).toNatClampNeg ((l5 + 2) + (t3.2.1 (ad 185) (l1 : Int32).toNatClampNeg)) → g_E cx d i_Mo_frame [.ref (ad 144), .int l1] t4 (fun r u5 => ∃ y6 : Int32, r = some (.int y6) ∧ Lay u5 ad ∧ (∀ t7, t7 = g_si u5 (ad 144) 81 ((t4.2.1 (ad 144) 81) + y6) → ((t7.2.1 (ad 144) 81) ≤ (t7.2.1 (ad 144) 82) → ∀ t8, t8 = g_si t7 (ad 144) 82 (t7.2.1 (ad 144) 82) → ∀ t9, t9 = g_si t8 (ad 144) 80 ((t8.2.1 (ad 144) 80) + 1) → post (some (.int 1)) t9) ∧ (¬ ((t7.2.1 (ad 144) 81) ≤ (t7.2.1 (ad 144) 82)) → ∀ t10, t10 = g_si t7 (ad 144) 82 (t7.2.1 (ad 144) 81) → ∀ t11, t11 = g_si t10 (ad 144) 80 ((t10.2.1 (ad 144) 80) + 1) → post (some (.int 1)) t11))))))))) ∧ (¬ (l4 ≤ l6) → vp_in (l2 + l6) 20200 ∧ (vp_in ((l5 + 2) + l6) 20200 ∧ (∀ t12, t12 = g_si t (ad 193) (((l5 + 2) + l6) : Int32).toNatClampNeg (t.2.1 (ad 193) ((l2 + l6) : Int32).toNatClampNeg) → g_W cx (g_E cx d) mt_Mo_lay post (25, [some (.ref (ad 144)), some (.int l1), some (.int l2), some (.int l3), some (.int l4), some (.int l5), some (.int (l6 + 1))], [], t12, 0, 0))))) : g_W cx (g_E cx d) mt_Mo_lay post (25, [some (.ref (ad 144)), some (.int l1), some (.int l2), some (.int l3), some (.int l4), some (.int l5), some (.int l6)], [], t, 0, 0) := by
  refine g_run [25] 400 (fun P hP => ?_)
  refine And.intro (fun c => ?_) (fun c => ?_)
  · have h := h.1 c
    refine And.intro (hL.k 144 (by decide)) (Or.inl ⟨_, (hL.r 144 76 194 (by decide)), ?_⟩)
    refine And.intro (hL.k 144 (by decide)) ?_
    refine And.intro (hL.k 194 (by decide)) (And.intro (hL.v 194 (by decide) h.1) ?_)
    have h := h.2 _ rfl
    refine And.intro (hL.k 144 (by decide)) (Or.inl ⟨_, (hL.r 144 77 195 (by decide)), ?_⟩)
    refine And.intro (hL.k 144 (by decide)) ?_
    refine And.intro (hL.k 195 (by decide)) (And.intro (hL.v 195 (by decide) h.1) ?_)
    have h := h.2 _ rfl
    refine And.intro (hL.k 144 (by decide)) (Or.inl ⟨_, (hL.r 144 78 196 (by decide)), ?_⟩)
    refine And.intro (hL.k 144 (by decide)) ?_
    refine And.intro (hL.k 196 (by decide)) (And.intro (hL.v 196 (by decide) h.1) ?_)
    have h := h.2 _ rfl
    refine And.intro (hL.k 144 (by decide)) (Or.inl ⟨_, (hL.r 144 79 197 (by decide)), ?_⟩)
    refine And.intro (hL.k 144 (by decide)) ?_
    refine And.intro (hL.k 144 (by decide)) (Or.inl ⟨_, (hL.r 144 63 185 (by decide)), ?_⟩)
    refine Or.inl (And.intro (hL.k 185 (by decide)) (And.intro (hL.v 185 (by decide) h.1) ?_))
    have h := h.2
    refine And.intro (hL.k 197 (by decide)) (And.intro (hL.v 197 (by decide) h.1) ?_)
    have h := h.2 _ rfl
    refine And.intro (hL.k 144 (by decide)) ?_
    refine And.intro (hL.k 144 (by decide)) ?_
    refine g_Em h (fun r u h => ?_)
    obtain ⟨y6, rfl, hL, h⟩ := h
    refine And.intro (hL.k 144 (by decide)) ?_
    have h := h _ rfl
    refine And.intro (hL.k 144 (by decide)) ?_
    refine And.intro (hL.k 144 (by decide)) ?_
    refine And.intro (fun c => ?_) (fun c => ?_)
    · have h := h.1 c
      refine And.intro (hL.k 144 (by decide)) ?_
      refine And.intro (hL.k 144 (by decide)) ?_
      have h := h _ rfl
      refine And.intro (hL.k 144 (by decide)) ?_
      refine And.intro (hL.k 144 (by decide)) ?_
      have h := h _ rfl
      exact And.intro rfl (And.intro rfl h)
    · have h := h.2 c
      refine And.intro (hL.k 144 (by decide)) ?_
      refine And.intro (hL.k 144 (by decide)) ?_
      have h := h _ rfl
      refine And.intro (hL.k 144 (by decide)) ?_
      refine And.intro (hL.k 144 (by decide)) ?_
      have h := h _ rfl
      exact And.intro rfl (And.intro rfl h)
  · have h := h.2 c
    refine And.intro (hL.k 144 (by decide)) (Or.inl ⟨_, (hL.r 144 75 193 (by decide)), ?_⟩)
    refine And.intro (hL.k 144 (by decide)) (Or.inl ⟨_, (hL.r 144 75 193 (by decide)), ?_⟩)
    refine Or.inl (And.intro (hL.k 193 (by decide)) (And.intro (hL.v 193 (by decide) h.1) ?_))
    have h := h.2
    refine And.intro (hL.k 193 (by decide)) (And.intro (hL.v 193 (by decide) h.1) ?_)
    have h := h.2 _ rfl
    exact hP _ h
theorem x_Mo_run {cx : gCx} {d : Nat} {ad : Nat → Nat} {a1 a2 a3 a4 : Int32} {t : gSt} {post : Option Value → gSt → Prop} (hL : Lay t ad) (h : ∀ t1, t1 = g_si t (ad 144) 0 0 → g_E cx d i_Mo_noFunction [.ref (ad 144), .int a1, .int a2] t1 (fun r u2 => ∃ y3 : Int32, r = some (.int y3) ∧ Lay u2 ad ∧ ((y3 = 0 → g_W cx (g_E cx d) mt_Mo_run post (16, [some (.ref (ad 144)), some (.int a1), some (.int a2), some (.int a3), some (.int a4), none], [], u2, 0, 0)) ∧ (¬ (y3 = 0) → post (some (.int (-1))) u2)))) : g_E cx (d + 1) i_Mo_run [.ref (ad 144), .int a1, .int a2, .int a3, .int a4] t post := by
  refine g_call mt_Mo_run rfl (by decide) (Nat.le_of_ble_eq_true rfl) ?_
  refine g_run [16, 28, 41, 44, 77, 136] 400 (fun P hP => ?_)
  refine And.intro (hL.k 144 (by decide)) ?_
  have h := h _ rfl
  refine And.intro (hL.k 144 (by decide)) ?_
  refine g_Em h (fun r u h => ?_)
  obtain ⟨y3, rfl, hL, h⟩ := h
  refine And.intro (fun c => ?_) (fun c => ?_)
  · have h := h.1 c
    exact hP _ h
  · have h := h.2 c
    exact And.intro rfl (And.intro rfl h)
theorem x_Mo_run_16 {cx : gCx} {d : Nat} {ad : Nat → Nat} {l1 l2 l3 l4 : Int32} {t : gSt} {post : Option Value → gSt → Prop} (hL : Lay t ad) (h : g_E cx d i_Mo_in [.long l3.toInt64, .long 0, .long 20000] t (fun r u1 => ∃ y2 : Int32, r = some (.int y2) ∧ Lay u1 ad ∧ ((y2 = 0 → g_W cx (g_E cx d) mt_Mo_run post (41, [some (.ref (ad 144)), some (.int l1), some (.int l2), some (.int l3), some (.int l4), none], [], u1, 0, 0)) ∧ (¬ (y2 = 0) → g_W cx (g_E cx d) mt_Mo_run post (28, [some (.ref (ad 144)), some (.int l1), some (.int l2), some (.int l3), some (.int l4), none], [], u1, 0, 0))))) : g_W cx (g_E cx d) mt_Mo_run post (16, [some (.ref (ad 144)), some (.int l1), some (.int l2), some (.int l3), some (.int l4), none], [], t, 0, 0) := by
  refine g_run [16, 28, 41, 44, 77, 136] 400 (fun P hP => ?_)
  refine g_Em h (fun r u h => ?_)
  obtain ⟨y2, rfl, hL, h⟩ := h
  refine And.intro (fun c => ?_) (fun c => ?_)
  · have h := h.1 c
    exact hP _ h
  · have h := h.2 c
    exact hP _ h
theorem x_Mo_run_28 {cx : gCx} {d : Nat} {ad : Nat → Nat} {l1 l2 l3 l4 : Int32} {t : gSt} {post : Option Value → gSt → Prop} (hL : Lay t ad) (h : g_E cx d i_Mo_in [.long l4.toInt64, .long 0, .long 20000] t (fun r u1 => ∃ y2 : Int32, r = some (.int y2) ∧ Lay u1 ad ∧ ((¬ y2 = 0 → g_W cx (g_E cx d) mt_Mo_run post (44, [some (.ref (ad 144)), some (.int l1), some (.int l2), some (.int l3), some (.int l4), none], [], u1, 0, 0)) ∧ (¬ (¬ y2 = 0) → g_W cx (g_E cx d) mt_Mo_run post (41, [some (.ref (ad 144)), some (.int l1), some (.int l2), some (.int l3), some (.int l4), none], [], u1, 0, 0))))) : g_W cx (g_E cx d) mt_Mo_run post (28, [some (.ref (ad 144)), some (.int l1), some (.int l2), some (.int l3), some (.int l4), none], [], t, 0, 0) := by
  refine g_run [16, 28, 41, 44, 77, 136] 400 (fun P hP => ?_)
  refine g_Em h (fun r u h => ?_)
  obtain ⟨y2, rfl, hL, h⟩ := h
  refine And.intro (fun c => ?_) (fun c => ?_)
  · have h := h.1 c
    exact hP _ h
  · have h := h.2 c
    exact hP _ h
theorem x_Mo_run_41 {cx : gCx} {d : Nat} {ad : Nat → Nat} {l1 l2 l3 l4 : Int32} {t : gSt} {post : Option Value → gSt → Prop} (hL : Lay t ad) (h : post (some (.int (-2))) t) : g_W cx (g_E cx d) mt_Mo_run post (41, [some (.ref (ad 144)), some (.int l1), some (.int l2), some (.int l3), some (.int l4), none], [], t, 0, 0) := by
  refine g_run [16, 28, 41, 44, 77, 136] 400 (fun P hP => ?_)
  exact And.intro rfl (And.intro rfl h)
theorem x_Mo_run_44 {cx : gCx} {d : Nat} {ad : Nat → Nat} {l1 l2 l3 l4 : Int32} {t : gSt} {post : Option Value → gSt → Prop} (hL : Lay t ad) (h : ∀ t1, t1 = g_si t (ad 144) 80 0 → ∀ t2, t2 = g_si t1 (ad 144) 81 0 → ∀ t3, t3 = g_si t2 (ad 144) 82 0 → ∀ t4, t4 = g_si t3 (ad 144) 83 0 → ∀ t5, t5 = g_si t4 (ad 144) 84 0 → ∀ t6, t6 = g_si t5 (ad 144) 85 0 → g_W cx (g_E cx d) mt_Mo_run post (77, [some (.ref (ad 144)), some (.int l1), some (.int l2), some (.int l3), some (.int l4), some (.int 0)], [], t6, 0, 0)) : g_W cx (g_E cx d) mt_Mo_run post (44, [some (.ref (ad 144)), some (.int l1), some (.int l2), some (.int l3), some (.int l4), none], [], t, 0, 0) := by
  refine g_run [16, 28, 41, 44, 77, 136] 400 (fun P hP => ?_)
  refine And.intro (hL.k 144 (by decide)) ?_
  have h := h _ rfl
  refine And.intro (hL.k 144 (by decide)) ?_
  have h := h _ rfl
  refine And.intro (hL.k 144 (by decide)) ?_
  have h := h _ rfl
  refine And.intro (hL.k 144 (by decide)) ?_
  have h := h _ rfl
  refine And.intro (hL.k 144 (by decide)) ?_
  have h := h _ rfl
  refine And.intro (hL.k 144 (by decide)) ?_
  have h := h _ rfl
  exact hP _ h
theorem x_Mo_run_77 {cx : gCx} {d : Nat} {ad : Nat → Nat} {l1 l2 l3 l4 l5 : Int32} {t : gSt} {post : Option Value → gSt → Prop} (hL : Lay t ad) (h : (6 ≤ l5 → vp_in l2 24 ∧ (g_E cx d i_Mo_lay [.ref (ad 144), .int ((24 * l1) + l2), .int 20100, .int l3, .int (t.2.1 (ad 147) (l2 : Int32).toNatClampNeg)] t (fun r u1 => ∃ y2 : Int32, r = some (.int y2) ∧ Lay u1 ad ∧ ((¬ y2 = 0 → g_W cx (g_E cx d) mt_Mo_run post (136, [some (.ref (ad 144)), some (.int l1), some (.int l2), some (.int l3), some (.int l4), some (.int 0)], [], u1, 0, 0)) ∧ (¬ (¬ y2 = 0) → post (some (.int 2)) u1))))) ∧ (¬ (6 ≤ l5) → vp_in l5 6 ∧ (vp_in (20100 + l5) 20200 ∧ (∀ t3, t3 = g_si t (ad 193) ((20100 + l5) : Int32).toNatClampNeg (t.2.1 (ad 192) (l5 : Int32).toNatClampNeg) → g_W cx (g_E cx d) mt_Mo_run post (77, [some (.ref (ad 144)), some (.int l1), some (.int l2), some (.int l3), some (.int l4), some (.int (l5 + 1))], [], t3, 0, 0))))) : g_W cx (g_E cx d) mt_Mo_run post (77, [some (.ref (ad 144)), some (.int l1), some (.int l2), some (.int l3), some (.int l4), some (.int l5)], [], t, 0, 0) := by
  refine g_run [16, 28, 41, 44, 77, 136] 400 (fun P hP => ?_)
  refine And.intro (fun c => ?_) (fun c => ?_)
  · have h := h.1 c
    refine And.intro (hL.k 144 (by decide)) (Or.inl ⟨_, (hL.r 144 13 147 (by decide)), ?_⟩)
    refine Or.inl (And.intro (hL.k 147 (by decide)) (And.intro (hL.v 147 (by decide) h.1) ?_))
    have h := h.2
    refine And.intro (hL.k 144 (by decide)) ?_
    refine g_Em h (fun r u h => ?_)
    obtain ⟨y2, rfl, hL, h⟩ := h
    refine And.intro (fun c => ?_) (fun c => ?_)
    · have h := h.1 c
      exact hP _ h
    · have h := h.2 c
      exact And.intro rfl (And.intro rfl h)
  · have h := h.2 c
    refine And.intro (hL.k 144 (by decide)) (Or.inl ⟨_, (hL.r 144 75 193 (by decide)), ?_⟩)
    refine And.intro (hL.k 144 (by decide)) (Or.inl ⟨_, (hL.r 144 74 192 (by decide)), ?_⟩)
    refine Or.inl (And.intro (hL.k 192 (by decide)) (And.intro (hL.v 192 (by decide) h.1) ?_))
    have h := h.2
    refine And.intro (hL.k 193 (by decide)) (And.intro (hL.v 193 (by decide) h.1) ?_)
    have h := h.2 _ rfl
    exact hP _ h
theorem x_Mo_run_136 {cx : gCx} {d : Nat} {ad : Nat → Nat} {l1 l2 l3 l4 l5 : Int32} {t : gSt} {post : Option Value → gSt → Prop} (hL : Lay t ad) (h : (¬ l5 = 0 → post (some (.int l5)) t) ∧ (¬ (¬ l5 = 0) → (¬ (t.2.1 (ad 144) 83) = l4 → ∀ t1, t1 = g_si t (ad 144) 83 ((t.2.1 (ad 144) 83) + 1) → g_E cx d i_Mo_oneStep [.ref (ad 144), .int l3] t1 (fun r u2 => ∃ y3 : Int32, r = some (.int y3) ∧ Lay u2 ad ∧ (g_W cx (g_E cx d) mt_Mo_run post (136, [some (.ref (ad 144)), some (.int l1), some (.int l2), some (.int l3), some (.int l4), some (.int y3)], [], u2, 0, 0)))) ∧ (¬ (¬ (t.2.1 (ad 144) 83) = l4) → post (some (.int 4)) t))) : g_W cx (g_E cx d) mt_Mo_run post (136, [some (.ref (ad 144)), some (.int l1), some (.int l2), some (.int l3), some (.int l4), some (.int l5)], [], t, 0, 0) := by
  refine g_run [16, 28, 41, 44, 77, 136] 400 (fun P hP => ?_)
  refine And.intro (fun c => ?_) (fun c => ?_)
  · have h := h.1 c
    exact And.intro rfl (And.intro rfl h)
  · have h := h.2 c
    refine And.intro (hL.k 144 (by decide)) ?_
    refine And.intro (fun c => ?_) (fun c => ?_)
    · have h := h.1 c
      refine And.intro (hL.k 144 (by decide)) ?_
      refine And.intro (hL.k 144 (by decide)) ?_
      have h := h _ rfl
      refine And.intro (hL.k 144 (by decide)) ?_
      refine g_Em h (fun r u h => ?_)
      obtain ⟨y3, rfl, hL, h⟩ := h
      exact hP _ h
    · have h := h.2 c
      exact And.intro rfl (And.intro rfl h)
theorem x_Mo_oneStep {cx : gCx} {d : Nat} {ad : Nat → Nat} {a1 : Int32} {t : gSt} {post : Option Value → gSt → Prop} (hL : Lay t ad) (h : ∀ x1 : Int32, x1 = ((t.2.1 (ad 144) 80) - 1) → vp_in x1 7000 ∧ (∀ x2 : Int32, x2 = (t.2.1 (ad 194) (x1 : Int32).toNatClampNeg) → vp_in x1 7000 ∧ (∀ x3 : Int32, x3 = ((1600 * x2) + (t.2.1 (ad 195) (x1 : Int32).toNatClampNeg)) → g_W cx (g_E cx d) mt_Mo_oneStep post (28, [some (.ref (ad 144)), some (.int a1), some (.int x1), some (.int x2), some (.int x3), none, none, none], [], t, 0, 0)))) : g_E cx (d + 1) i_Mo_oneStep [.ref (ad 144), .int a1] t post := by
  refine g_call mt_Mo_oneStep rfl (by decide) (Nat.le_of_ble_eq_true rfl) ?_
  refine g_run [28, 45, 55, 62, 152, 173, 206, 227, 269, 281, 316, 354, 357, 367, 417, 418, 506, 533, 541, 565, 579] 400 (fun P hP => ?_)
  refine And.intro (hL.k 144 (by decide)) ?_
  have h := h _ rfl
  refine And.intro (hL.k 144 (by decide)) (Or.inl ⟨_, (hL.r 144 76 194 (by decide)), ?_⟩)
  refine Or.inl (And.intro (hL.k 194 (by decide)) (And.intro (hL.v 194 (by decide) h.1) ?_))
  have h := h.2
  have h := h _ rfl
  refine And.intro (hL.k 144 (by decide)) (Or.inl ⟨_, (hL.r 144 77 195 (by decide)), ?_⟩)
  refine Or.inl (And.intro (hL.k 195 (by decide)) (And.intro (hL.v 195 (by decide) h.1) ?_))
  have h := h.2
  have h := h _ rfl
  exact hP _ h
theorem x_Mo_oneStep_28 {cx : gCx} {d : Nat} {ad : Nat → Nat} {l1 l2 l3 l4 : Int32} {t : gSt} {post : Option Value → gSt → Prop} (hL : Lay t ad) (h : vp_in l4 76800 ∧ (∀ x1 : Int32, x1 = (t.2.1 (ad 183) (l4 : Int32).toNatClampNeg) → vp_in l2 7000 ∧ (∀ x2 : Int32, x2 = (t.2.1 (ad 197) (l2 : Int32).toNatClampNeg) → g_W cx (g_E cx d) mt_Mo_oneStep post (45, [some (.ref (ad 144)), some (.int l1), some (.int l2), some (.int l3), some (.int l4), some (.int x1), some (.int x2), none], [], t, 0, 0)))) : g_W cx (g_E cx d) mt_Mo_oneStep post (28, [some (.ref (ad 144)), some (.int l1), some (.int l2), some (.int l3), some (.int l4), none, none, none], [], t, 0, 0) := by
  refine g_run [28, 45, 55, 62, 152, 173, 206, 227, 269, 281, 316, 354, 357, 367, 417, 418, 506, 533, 541, 565, 579] 400 (fun P hP => ?_)
  refine And.intro (hL.k 144 (by decide)) (Or.inl ⟨_, (hL.r 144 61 183 (by decide)), ?_⟩)
  refine Or.inl (And.intro (hL.k 183 (by decide)) (And.intro (hL.v 183 (by decide) h.1) ?_))
  have h := h.2
  have h := h _ rfl
  refine And.intro (hL.k 144 (by decide)) (Or.inl ⟨_, (hL.r 144 79 197 (by decide)), ?_⟩)
  refine Or.inl (And.intro (hL.k 197 (by decide)) (And.intro (hL.v 197 (by decide) h.1) ?_))
  have h := h.2
  have h := h _ rfl
  exact hP _ h
theorem x_Mo_oneStep_45 {cx : gCx} {d : Nat} {ad : Nat → Nat} {l1 l2 l3 l4 l5 l6 : Int32} {t : gSt} {post : Option Value → gSt → Prop} (hL : Lay t ad) (h : vp_in l2 7000 ∧ (vp_in l2 7000 ∧ (∀ t1, t1 = g_si t (ad 195) (l2 : Int32).toNatClampNeg ((t.2.1 (ad 195) (l2 : Int32).toNatClampNeg) + 1) → g_W cx (g_E cx d) mt_Mo_oneStep post (55, [some (.ref (ad 144)), some (.int l1), some (.int l2), some (.int l3), some (.int l4), some (.int l5), some (.int l6), none], [], t1, 0, 0)))) : g_W cx (g_E cx d) mt_Mo_oneStep post (45, [some (.ref (ad 144)), some (.int l1), some (.int l2), some (.int l3), some (.int l4), some (.int l5), some (.int l6), none], [], t, 0, 0) := by
  refine g_run [28, 45, 55, 62, 152, 173, 206, 227, 269, 281, 316, 354, 357, 367, 417, 418, 506, 533, 541, 565, 579] 400 (fun P hP => ?_)
  refine And.intro (hL.k 144 (by decide)) (Or.inl ⟨_, (hL.r 144 77 195 (by decide)), ?_⟩)
  refine Or.inl (And.intro (hL.k 195 (by decide)) (And.intro (hL.v 195 (by decide) h.1) ?_))
  have h := h.2
  refine And.intro (hL.k 195 (by decide)) (And.intro (hL.v 195 (by decide) h.1) ?_)
  have h := h.2 _ rfl
  exact hP _ h
theorem x_Mo_oneStep_55 {cx : gCx} {d : Nat} {ad : Nat → Nat} {l1 l2 l3 l4 l5 l6 : Int32} {t : gSt} {post : Option Value → gSt → Prop} (hL : Lay t ad) (h : vp_in l4 76800 ∧ (((t.2.1 (ad 182) (l4 : Int32).toNatClampNeg) = 1 → g_W cx (g_E cx d) mt_Mo_oneStep post (152, [some (.ref (ad 144)), some (.int l1), some (.int l2), some (.int l3), some (.int l4), some (.int l5), some (.int l6), none], [], t, 0, 0)) ∧ ((t.2.1 (ad 182) (l4 : Int32).toNatClampNeg) = 2 → g_W cx (g_E cx d) mt_Mo_oneStep post (173, [some (.ref (ad 144)), some (.int l1), some (.int l2), some (.int l3), some (.int l4), some (.int l5), some (.int l6), none], [], t, 0, 0)) ∧ ((t.2.1 (ad 182) (l4 : Int32).toNatClampNeg) = 10 → g_W cx (g_E cx d) mt_Mo_oneStep post (206, [some (.ref (ad 144)), some (.int l1), some (.int l2), some (.int l3), some (.int l4), some (.int l5), some (.int l6), none], [], t, 0, 0)) ∧ ((t.2.1 (ad 182) (l4 : Int32).toNatClampNeg) = 11 → g_W cx (g_E cx d) mt_Mo_oneStep post (227, [some (.ref (ad 144)), some (.int l1), some (.int l2), some (.int l3), some (.int l4), some (.int l5), some (.int l6), none], [], t, 0, 0)) ∧ ((t.2.1 (ad 182) (l4 : Int32).toNatClampNeg) = 12 → g_W cx (g_E cx d) mt_Mo_oneStep post (269, [some (.ref (ad 144)), some (.int l1), some (.int l2), some (.int l3), some (.int l4), some (.int l5), some (.int l6), none], [], t, 0, 0)) ∧ ((t.2.1 (ad 182) (l4 : Int32).toNatClampNeg) = 13 → g_W cx (g_E cx d) mt_Mo_oneStep post (281, [some (.ref (ad 144)), some (.int l1), some (.int l2), some (.int l3), some (.int l4), some (.int l5), some (.int l6), none], [], t, 0, 0)) ∧ ((t.2.1 (ad 182) (l4 : Int32).toNatClampNeg) = 14 → g_W cx (g_E cx d) mt_Mo_oneStep post (316, [some (.ref (ad 144)), some (.int l1), some (.int l2), some (.int l3), some (.int l4), some (.int l5), some (.int l6), none], [], t, 0, 0)) ∧ ((t.2.1 (ad 182) (l4 : Int32).toNatClampNeg) = 15 → g_W cx (g_E cx d) mt_Mo_oneStep post (357, [some (.ref (ad 144)), some (.int l1), some (.int l2), some (.int l3), some (.int l4), some (.int l5), some (.int l6), none], [], t, 0, 0)) ∧ ((t.2.1 (ad 182) (l4 : Int32).toNatClampNeg) = 16 → g_W cx (g_E cx d) mt_Mo_oneStep post (367, [some (.ref (ad 144)), some (.int l1), some (.int l2), some (.int l3), some (.int l4), some (.int l5), some (.int l6), none], [], t, 0, 0)) ∧ ((t.2.1 (ad 182) (l4 : Int32).toNatClampNeg) = 17 → g_W cx (g_E cx d) mt_Mo_oneStep post (418, [some (.ref (ad 144)), some (.int l1), some (.int l2), some (.int l3), some (.int l4), some (.int l5), some (.int l6), none], [], t, 0, 0)) ∧ ((t.2.1 (ad 182) (l4 : Int32).toNatClampNeg) = 18 ∨ (t.2.1 (ad 182) (l4 : Int32).toNatClampNeg) = 19 → g_W cx (g_E cx d) mt_Mo_oneStep post (506, [some (.ref (ad 144)), some (.int l1), some (.int l2), some (.int l3), some (.int l4), some (.int l5), some (.int l6), none], [], t, 0, 0)) ∧ ((t.2.1 (ad 182) (l4 : Int32).toNatClampNeg) < 1 ∨ 19 < (t.2.1 (ad 182) (l4 : Int32).toNatClampNeg) ∨ (t.2.1 (ad 182) (l4 : Int32).toNatClampNeg) = 3 ∨ (t.2.1 (ad 182) (l4 : Int32).toNatClampNeg) = 4 ∨ (t.2.1 (ad 182) (l4 : Int32).toNatClampNeg) = 5 ∨ (t.2.1 (ad 182) (l4 : Int32).toNatClampNeg) = 6 ∨ (t.2.1 (ad 182) (l4 : Int32).toNatClampNeg) = 7 ∨ (t.2.1 (ad 182) (l4 : Int32).toNatClampNeg) = 8 ∨ (t.2.1 (ad 182) (l4 : Int32).toNatClampNeg) = 9 → g_W cx (g_E cx d) mt_Mo_oneStep post (541, [some (.ref (ad 144)), some (.int l1), some (.int l2), some (.int l3), some (.int l4), some (.int l5), some (.int l6), none], [], t, 0, 0)))) : g_W cx (g_E cx d) mt_Mo_oneStep post (55, [some (.ref (ad 144)), some (.int l1), some (.int l2), some (.int l3), some (.int l4), some (.int l5), some (.int l6), none], [], t, 0, 0) := by
  refine g_run [28, 45, 55, 62, 152, 173, 206, 227, 269, 281, 316, 354, 357, 367, 417, 418, 506, 533, 541, 565, 579] 400 (fun P hP => ?_)
  refine And.intro (hL.k 144 (by decide)) (Or.inl ⟨_, (hL.r 144 60 182 (by decide)), ?_⟩)
  refine Or.inl (And.intro (hL.k 182 (by decide)) (And.intro (hL.v 182 (by decide) h.1) ?_))
  have h := h.2
  refine hP _ ?_
  rcases g_swc _ 1 19 (by decide) (by decide) (by decide) with c | c | ⟨j, hj, c⟩
  · exact g_sw (tgt := 541) rfl (g_swlo c) (h.2.2.2.2.2.2.2.2.2.2.2 (Or.inl c))
  · exact g_sw (tgt := 541) rfl (g_swhi c) (h.2.2.2.2.2.2.2.2.2.2.2 (Or.inr (Or.inl c)))
  · match j, hj with
    | 0, _ => exact g_sw (tgt := 152) rfl (by rw [c]; decide) (h.1 c)
    | 1, _ => exact g_sw (tgt := 173) rfl (by rw [c]; decide) (h.2.1 c)
    | 2, _ => exact g_sw (tgt := 541) rfl (by rw [c]; decide) (h.2.2.2.2.2.2.2.2.2.2.2 (Or.inr (Or.inr (Or.inl c))))
    | 3, _ => exact g_sw (tgt := 541) rfl (by rw [c]; decide) (h.2.2.2.2.2.2.2.2.2.2.2 (Or.inr (Or.inr (Or.inr (Or.inl c)))))
    | 4, _ => exact g_sw (tgt := 541) rfl (by rw [c]; decide) (h.2.2.2.2.2.2.2.2.2.2.2 (Or.inr (Or.inr (Or.inr (Or.inr (Or.inl c))))))
    | 5, _ => exact g_sw (tgt := 541) rfl (by rw [c]; decide) (h.2.2.2.2.2.2.2.2.2.2.2 (Or.inr (Or.inr (Or.inr (Or.inr (Or.inr (Or.inl c)))))))
    | 6, _ => exact g_sw (tgt := 541) rfl (by rw [c]; decide) (h.2.2.2.2.2.2.2.2.2.2.2 (Or.inr (Or.inr (Or.inr (Or.inr (Or.inr (Or.inr (Or.inl c))))))))
    | 7, _ => exact g_sw (tgt := 541) rfl (by rw [c]; decide) (h.2.2.2.2.2.2.2.2.2.2.2 (Or.inr (Or.inr (Or.inr (Or.inr (Or.inr (Or.inr (Or.inr (Or.inl c)))))))))
    | 8, _ => exact g_sw (tgt := 541) rfl (by rw [c]; decide) (h.2.2.2.2.2.2.2.2.2.2.2 (Or.inr (Or.inr (Or.inr (Or.inr (Or.inr (Or.inr (Or.inr (Or.inr c)))))))))
    | 9, _ => exact g_sw (tgt := 206) rfl (by rw [c]; decide) (h.2.2.1 c)
    | 10, _ => exact g_sw (tgt := 227) rfl (by rw [c]; decide) (h.2.2.2.1 c)
    | 11, _ => exact g_sw (tgt := 269) rfl (by rw [c]; decide) (h.2.2.2.2.1 c)
    | 12, _ => exact g_sw (tgt := 281) rfl (by rw [c]; decide) (h.2.2.2.2.2.1 c)
    | 13, _ => exact g_sw (tgt := 316) rfl (by rw [c]; decide) (h.2.2.2.2.2.2.1 c)
    | 14, _ => exact g_sw (tgt := 357) rfl (by rw [c]; decide) (h.2.2.2.2.2.2.2.1 c)
    | 15, _ => exact g_sw (tgt := 367) rfl (by rw [c]; decide) (h.2.2.2.2.2.2.2.2.1 c)
    | 16, _ => exact g_sw (tgt := 418) rfl (by rw [c]; decide) (h.2.2.2.2.2.2.2.2.2.1 c)
    | 17, _ => exact g_sw (tgt := 506) rfl (by rw [c]; decide) (h.2.2.2.2.2.2.2.2.2.2.1 (Or.inl c))
    | 18, _ => exact g_sw (tgt := 506) rfl (by rw [c]; decide) (h.2.2.2.2.2.2.2.2.2.2.1 (Or.inr c))
    | j + 19, hj => exact absurd hj (by omega)
theorem x_Mo_oneStep_152 {cx : gCx} {d : Nat} {ad : Nat → Nat} {l1 l2 l3 l4 l5 l6 : Int32} {t : gSt} {post : Option Value → gSt → Prop} (hL : Lay t ad) (h : vp_in l6 20200 ∧ (∀ t1, t1 = g_si t (ad 193) (l6 : Int32).toNatClampNeg l5 → vp_in l2 7000 ∧ (vp_in l2 7000 ∧ (∀ t2, t2 = g_si t1 (ad 197) (l2 : Int32).toNatClampNeg ((t1.2.1 (ad 197) (l2 : Int32).toNatClampNeg) + 1) → post (some (.int 0)) t2)))) : g_W cx (g_E cx d) mt_Mo_oneStep post (152, [some (.ref (ad 144)), some (.int l1), some (.int l2), some (.int l3), some (.int l4), some (.int l5), some (.int l6), none], [], t, 0, 0) := by
  refine g_run [28, 45, 55, 62, 152, 173, 206, 227, 269, 281, 316, 354, 357, 367, 417, 418, 506, 533, 541, 565, 579] 400 (fun P hP => ?_)
  refine And.intro (hL.k 144 (by decide)) (Or.inl ⟨_, (hL.r 144 75 193 (by decide)), ?_⟩)
  refine And.intro (hL.k 193 (by decide)) (And.intro (hL.v 193 (by decide) h.1) ?_)
  have h := h.2 _ rfl
  refine And.intro (hL.k 144 (by decide)) (Or.inl ⟨_, (hL.r 144 79 197 (by decide)), ?_⟩)
  refine Or.inl (And.intro (hL.k 197 (by decide)) (And.intro (hL.v 197 (by decide) h.1) ?_))
  have h := h.2
  refine And.intro (hL.k 197 (by decide)) (And.intro (hL.v 197 (by decide) h.1) ?_)
  have h := h.2 _ rfl
  exact And.intro rfl (And.intro rfl h)
theorem x_Mo_oneStep_173 {cx : gCx} {d : Nat} {ad : Nat → Nat} {l1 l2 l3 l4 l5 l6 : Int32} {t : gSt} {post : Option Value → gSt → Prop} (hL : Lay t ad) (h : vp_in l2 7000 ∧ (vp_in ((t.2.1 (ad 196) (l2 : Int32).toNatClampNeg) + l5) 20200 ∧ (vp_in l6 20200 ∧ (∀ t1, t1 = g_si t (ad 193) (l6 : Int32).toNatClampNeg (t.2.1 (ad 193) (((t.2.1 (ad 196) (l2 : Int32).toNatClampNeg) + l5) : Int32).toNatClampNeg) → vp_in l2 7000 ∧ (vp_in l2 7000 ∧ (∀ t2, t2 = g_si t1 (ad 197) (l2 : Int32).toNatClampNeg ((t1.2.1 (ad 197) (l2 : Int32).toNatClampNeg) + 1) → post (some (.int 0)) t2)))))) : g_W cx (g_E cx d) mt_Mo_oneStep post (173, [some (.ref (ad 144)), some (.int l1), some (.int l2), some (.int l3), some (.int l4), some (.int l5), some (.int l6), none], [], t, 0, 0) := by
  refine g_run [28, 45, 55, 62, 152, 173, 206, 227, 269, 281, 316, 354, 357, 367, 417, 418, 506, 533, 541, 565, 579] 400 (fun P hP => ?_)
  refine And.intro (hL.k 144 (by decide)) (Or.inl ⟨_, (hL.r 144 75 193 (by decide)), ?_⟩)
  refine And.intro (hL.k 144 (by decide)) (Or.inl ⟨_, (hL.r 144 75 193 (by decide)), ?_⟩)
  refine And.intro (hL.k 144 (by decide)) (Or.inl ⟨_, (hL.r 144 78 196 (by decide)), ?_⟩)
  refine Or.inl (And.intro (hL.k 196 (by decide)) (And.intro (hL.v 196 (by decide) h.1) ?_))
  have h := h.2
  refine Or.inl (And.intro (hL.k 193 (by decide)) (And.intro (hL.v 193 (by decide) h.1) ?_))
  have h := h.2
  refine And.intro (hL.k 193 (by decide)) (And.intro (hL.v 193 (by decide) h.1) ?_)
  have h := h.2 _ rfl
  refine And.intro (hL.k 144 (by decide)) (Or.inl ⟨_, (hL.r 144 79 197 (by decide)), ?_⟩)
  refine Or.inl (And.intro (hL.k 197 (by decide)) (And.intro (hL.v 197 (by decide) h.1) ?_))
  have h := h.2
  refine And.intro (hL.k 197 (by decide)) (And.intro (hL.v 197 (by decide) h.1) ?_)
  have h := h.2 _ rfl
  exact And.intro rfl (And.intro rfl h)
theorem x_Mo_oneStep_206 {cx : gCx} {d : Nat} {ad : Nat → Nat} {l1 l2 l3 l4 l5 l6 : Int32} {t : gSt} {post : Option Value → gSt → Prop} (hL : Lay t ad) (h : vp_in (l6 - 1) 20200 ∧ (vp_in (l6 - 1) 20200 ∧ (∀ t1, t1 = g_si t (ad 193) ((l6 - 1) : Int32).toNatClampNeg (-(t.2.1 (ad 193) ((l6 - 1) : Int32).toNatClampNeg)) → post (some (.int 0)) t1))) : g_W cx (g_E cx d) mt_Mo_oneStep post (206, [some (.ref (ad 144)), some (.int l1), some (.int l2), some (.int l3), some (.int l4), some (.int l5), some (.int l6), none], [], t, 0, 0) := by
  refine g_run [28, 45, 55, 62, 152, 173, 206, 227, 269, 281, 316, 354, 357, 367, 417, 418, 506, 533, 541, 565, 579] 400 (fun P hP => ?_)
  refine And.intro (hL.k 144 (by decide)) (Or.inl ⟨_, (hL.r 144 75 193 (by decide)), ?_⟩)
  refine And.intro (hL.k 144 (by decide)) (Or.inl ⟨_, (hL.r 144 75 193 (by decide)), ?_⟩)
  refine Or.inl (And.intro (hL.k 193 (by decide)) (And.intro (hL.v 193 (by decide) h.1) ?_))
  have h := h.2
  refine And.intro (hL.k 193 (by decide)) (And.intro (hL.v 193 (by decide) h.1) ?_)
  have h := h.2 _ rfl
  exact And.intro rfl (And.intro rfl h)
theorem x_Mo_oneStep_227 {cx : gCx} {d : Nat} {ad : Nat → Nat} {l1 l2 l3 l4 l5 l6 : Int32} {t : gSt} {post : Option Value → gSt → Prop} (hL : Lay t ad) (h : (¬ (t.2.1 (ad 144) 85) = 200 → vp_in (l6 - 1) 20200 ∧ (vp_in (t.2.1 (ad 144) 85) 200 ∧ (∀ t1, t1 = g_si t (ad 198) ((t.2.1 (ad 144) 85) : Int32).toNatClampNeg (t.2.1 (ad 193) ((l6 - 1) : Int32).toNatClampNeg) → ∀ t2, t2 = g_si t1 (ad 144) 85 ((t1.2.1 (ad 144) 85) + 1) → post (some (.int 0)) t2))) ∧ (¬ (¬ (t.2.1 (ad 144) 85) = 200) → post (some (.int 5)) t)) : g_W cx (g_E cx d) mt_Mo_oneStep post (227, [some (.ref (ad 144)), some (.int l1), some (.int l2), some (.int l3), some (.int l4), some (.int l5), some (.int l6), none], [], t, 0, 0) := by
  refine g_run [28, 45, 55, 62, 152, 173, 206, 227, 269, 281, 316, 354, 357, 367, 417, 418, 506, 533, 541, 565, 579] 400 (fun P hP => ?_)
  refine And.intro (hL.k 144 (by decide)) ?_
  refine And.intro (fun c => ?_) (fun c => ?_)
  · have h := h.1 c
    refine And.intro (hL.k 144 (by decide)) (Or.inl ⟨_, (hL.r 144 86 198 (by decide)), ?_⟩)
    refine And.intro (hL.k 144 (by decide)) ?_
    refine And.intro (hL.k 144 (by decide)) (Or.inl ⟨_, (hL.r 144 75 193 (by decide)), ?_⟩)
    refine Or.inl (And.intro (hL.k 193 (by decide)) (And.intro (hL.v 193 (by decide) h.1) ?_))
    have h := h.2
    refine And.intro (hL.k 198 (by decide)) (And.intro (hL.v 198 (by decide) h.1) ?_)
    have h := h.2 _ rfl
    refine And.intro (hL.k 144 (by decide)) ?_
    refine And.intro (hL.k 144 (by decide)) ?_
    have h := h _ rfl
    exact And.intro rfl (And.intro rfl h)
  · have h := h.2 c
    exact And.intro rfl (And.intro rfl h)
theorem x_Mo_oneStep_269 {cx : gCx} {d : Nat} {ad : Nat → Nat} {l1 l2 l3 l4 l5 l6 : Int32} {t : gSt} {post : Option Value → gSt → Prop} (hL : Lay t ad) (h : vp_in l2 7000 ∧ (vp_in l2 7000 ∧ (∀ t1, t1 = g_si t (ad 197) (l2 : Int32).toNatClampNeg ((t.2.1 (ad 197) (l2 : Int32).toNatClampNeg) - 1) → post (some (.int 0)) t1))) : g_W cx (g_E cx d) mt_Mo_oneStep post (269, [some (.ref (ad 144)), some (.int l1), some (.int l2), some (.int l3), some (.int l4), some (.int l5), some (.int l6), none], [], t, 0, 0) := by
  refine g_run [28, 45, 55, 62, 152, 173, 206, 227, 269, 281, 316, 354, 357, 367, 417, 418, 506, 533, 541, 565, 579] 400 (fun P hP => ?_)
  refine And.intro (hL.k 144 (by decide)) (Or.inl ⟨_, (hL.r 144 79 197 (by decide)), ?_⟩)
  refine Or.inl (And.intro (hL.k 197 (by decide)) (And.intro (hL.v 197 (by decide) h.1) ?_))
  have h := h.2
  refine And.intro (hL.k 197 (by decide)) (And.intro (hL.v 197 (by decide) h.1) ?_)
  have h := h.2 _ rfl
  exact And.intro rfl (And.intro rfl h)
theorem x_Mo_oneStep_281 {cx : gCx} {d : Nat} {ad : Nat → Nat} {l1 l2 l3 l4 l5 l6 : Int32} {t : gSt} {post : Option Value → gSt → Prop} (hL : Lay t ad) (h : vp_in l2 7000 ∧ (vp_in (l6 - 1) 20200 ∧ (vp_in ((t.2.1 (ad 196) (l2 : Int32).toNatClampNeg) + l5) 20200 ∧ (∀ t1, t1 = g_si t (ad 193) (((t.2.1 (ad 196) (l2 : Int32).toNatClampNeg) + l5) : Int32).toNatClampNeg (t.2.1 (ad 193) ((l6 - 1) : Int32).toNatClampNeg) → vp_in l2 7000 ∧ (vp_in l2 7000 ∧ (∀ t2, t2 = g_si t1 (ad 197) (l2 : Int32).toNatClampNeg ((t1.2.1 (ad 197) (l2 : Int32).toNatClampNeg) - 1) → post (some (.int 0)) t2)))))) : g_W cx (g_E cx d) mt_Mo_oneStep post (281, [some (.ref (ad 144)), some (.int l1), some (.int l2), some (.int l3), some (.int l4), some (.int l5), some (.int l6), none], [], t, 0, 0) := by
  refine g_run [28, 45, 55, 62, 152, 173, 206, 227, 269, 281, 316, 354, 357, 367, 417, 418, 506, 533, 541, 565, 579] 400 (fun P hP => ?_)
  refine And.intro (hL.k 144 (by decide)) (Or.inl ⟨_, (hL.r 144 75 193 (by decide)), ?_⟩)
  refine And.intro (hL.k 144 (by decide)) (Or.inl ⟨_, (hL.r 144 78 196 (by decide)), ?_⟩)
  refine Or.inl (And.intro (hL.k 196 (by decide)) (And.intro (hL.v 196 (by decide) h.1) ?_))
  have h := h.2
  refine And.intro (hL.k 144 (by decide)) (Or.inl ⟨_, (hL.r 144 75 193 (by decide)), ?_⟩)
  refine Or.inl (And.intro (hL.k 193 (by decide)) (And.intro (hL.v 193 (by decide) h.1) ?_))
  have h := h.2
  refine And.intro (hL.k 193 (by decide)) (And.intro (hL.v 193 (by decide) h.1) ?_)
  have h := h.2 _ rfl
  refine And.intro (hL.k 144 (by decide)) (Or.inl ⟨_, (hL.r 144 79 197 (by decide)), ?_⟩)
  refine Or.inl (And.intro (hL.k 197 (by decide)) (And.intro (hL.v 197 (by decide) h.1) ?_))
  have h := h.2
  refine And.intro (hL.k 197 (by decide)) (And.intro (hL.v 197 (by decide) h.1) ?_)
  have h := h.2 _ rfl
  exact And.intro rfl (And.intro rfl h)
theorem x_Mo_oneStep_316 {cx : gCx} {d : Nat} {ad : Nat → Nat} {l1 l2 l3 l4 l5 l6 : Int32} {t : gSt} {post : Option Value → gSt → Prop} (hL : Lay t ad) (h : vp_in l2 7000 ∧ (vp_in l2 7000 ∧ (∀ t1, t1 = g_si t (ad 197) (l2 : Int32).toNatClampNeg ((t.2.1 (ad 197) (l2 : Int32).toNatClampNeg) - 1) → vp_in (l6 - 1) 20200 ∧ ((¬ (t1.2.1 (ad 193) ((l6 - 1) : Int32).toNatClampNeg) = 0 → vp_in l2 7000 ∧ (g_W cx (g_E cx d) mt_Mo_oneStep post (354, [some (.ref (ad 144)), some (.int l1), some (.int l2), some (.int l3), some (.int l4), some (.int l5), some (.int l6), none], [.int (t1.2.1 (ad 195) (l2 : Int32).toNatClampNeg), .int l2, .ref (ad 195)], t1, 0, 0))) ∧ (¬ (¬ (t1.2.1 (ad 193) ((l6 - 1) : Int32).toNatClampNeg) = 0) → g_W cx (g_E cx d) mt_Mo_oneStep post (354, [some (.ref (ad 144)), some (.int l1), some (.int l2), some (.int l3), some (.int l4), some (.int l5), some (.int l6), none], [.int l5, .int l2, .ref (ad 195)], t1, 0, 0)))))) : g_W cx (g_E cx d) mt_Mo_oneStep post (316, [some (.ref (ad 144)), some (.int l1), some (.int l2), some (.int l3), some (.int l4), some (.int l5), some (.int l6), none], [], t, 0, 0) := by
  refine g_run [28, 45, 55, 62, 152, 173, 206, 227, 269, 281, 316, 354, 357, 367, 417, 418, 506, 533, 541, 565, 579] 400 (fun P hP => ?_)
  refine And.intro (hL.k 144 (by decide)) (Or.inl ⟨_, (hL.r 144 79 197 (by decide)), ?_⟩)
  refine Or.inl (And.intro (hL.k 197 (by decide)) (And.intro (hL.v 197 (by decide) h.1) ?_))
  have h := h.2
  refine And.intro (hL.k 197 (by decide)) (And.intro (hL.v 197 (by decide) h.1) ?_)
  have h := h.2 _ rfl
  refine And.intro (hL.k 144 (by decide)) (Or.inl ⟨_, (hL.r 144 77 195 (by decide)), ?_⟩)
  refine And.intro (hL.k 144 (by decide)) (Or.inl ⟨_, (hL.r 144 75 193 (by decide)), ?_⟩)
  refine Or.inl (And.intro (hL.k 193 (by decide)) (And.intro (hL.v 193 (by decide) h.1) ?_))
  have h := h.2
  refine And.intro (fun c => ?_) (fun c => ?_)
  · have h := h.1 c
    refine And.intro (hL.k 144 (by decide)) (Or.inl ⟨_, (hL.r 144 77 195 (by decide)), ?_⟩)
    refine Or.inl (And.intro (hL.k 195 (by decide)) (And.intro (hL.v 195 (by decide) h.1) ?_))
    have h := h.2
    exact hP _ h
  · have h := h.2 c
    exact hP _ h
theorem x_Mo_oneStep_354 {cx : gCx} {d : Nat} {ad : Nat → Nat} {l1 l2 l3 l4 l5 l6 s0 s1 : Int32} {t : gSt} {post : Option Value → gSt → Prop} (hL : Lay t ad) (h : vp_in s1 7000 ∧ (∀ t1, t1 = g_si t (ad 195) (s1 : Int32).toNatClampNeg s0 → post (some (.int 0)) t1)) : g_W cx (g_E cx d) mt_Mo_oneStep post (354, [some (.ref (ad 144)), some (.int l1), some (.int l2), some (.int l3), some (.int l4), some (.int l5), some (.int l6), none], [.int s0, .int s1, .ref (ad 195)], t, 0, 0) := by
  refine g_run [28, 45, 55, 62, 152, 173, 206, 227, 269, 281, 316, 354, 357, 367, 417, 418, 506, 533, 541, 565, 579] 400 (fun P hP => ?_)
  refine And.intro (hL.k 195 (by decide)) (And.intro (hL.v 195 (by decide) h.1) ?_)
  have h := h.2 _ rfl
  exact And.intro rfl (And.intro rfl h)
theorem x_Mo_oneStep_357 {cx : gCx} {d : Nat} {ad : Nat → Nat} {l1 l2 l3 l4 l5 l6 : Int32} {t : gSt} {post : Option Value → gSt → Prop} (hL : Lay t ad) (h : vp_in l2 7000 ∧ (∀ t1, t1 = g_si t (ad 195) (l2 : Int32).toNatClampNeg l5 → post (some (.int 0)) t1)) : g_W cx (g_E cx d) mt_Mo_oneStep post (357, [some (.ref (ad 144)), some (.int l1), some (.int l2), some (.int l3), some (.int l4), some (.int l5), some (.int l6), none], [], t, 0, 0) := by
  refine g_run [28, 45, 55, 62, 152, 173, 206, 227, 269, 281, 316, 354, 357, 367, 417, 418, 506, 533, 541, 565, 579] 400 (fun P hP => ?_)
  refine And.intro (hL.k 144 (by decide)) (Or.inl ⟨_, (hL.r 144 77 195 (by decide)), ?_⟩)
  refine And.intro (hL.k 195 (by decide)) (And.intro (hL.v 195 (by decide) h.1) ?_)
  have h := h.2 _ rfl
  exact And.intro rfl (And.intro rfl h)
theorem x_Mo_oneStep_367 {cx : gCx} {d : Nat} {ad : Nat → Nat} {l1 l2 l3 l4 l5 l6 : Int32} {t : gSt} {post : Option Value → gSt → Prop} (hL : Lay t ad) (h : vp_in l5 24 ∧ (∀ x1 : Int32, x1 = (t.2.1 (ad 147) (l5 : Int32).toNatClampNeg) → vp_in l2 7000 ∧ (vp_in l2 7000 ∧ (∀ t2, t2 = g_si t (ad 197) (l2 : Int32).toNatClampNeg ((t.2.1 (ad 197) (l2 : Int32).toNatClampNeg) - x1) → g_E cx d i_Mo_lay [.ref (ad 144), .int (((l3 / 24) * 24) + l5), .int (l6 - x1), .int l1, .int x1] t2 (fun r u3 => ∃ y4 : Int32, r = some (.int y4) ∧ Lay u3 ad ∧ ((y4 = 0 → g_W cx (g_E cx d) mt_Mo_oneStep post (417, [some (.ref (ad 144)), some (.int l1), some (.int l2), some (.int l3), some (.int l4), some (.int l5), some (.int l6), some (.int x1)], [.int 2], u3, 0, 0)) ∧ (¬ (y4 = 0) → g_W cx (g_E cx d) mt_Mo_oneStep post (417, [some (.ref (ad 144)), some (.int l1), some (.int l2), some (.int l3), some (.int l4), some (.int l5), some (.int l6), some (.int x1)], [.int 0], u3, 0, 0)))))))) : g_W cx (g_E cx d) mt_Mo_oneStep post (367, [some (.ref (ad 144)), some (.int l1), some (.int l2), some (.int l3), some (.int l4), some (.int l5), some (.int l6), none], [], t, 0, 0) := by
  refine g_run [28, 45, 55, 62, 152, 173, 206, 227, 269, 281, 316, 354, 357, 367, 417, 418, 506, 533, 541, 565, 579] 400 (fun P hP => ?_)
  refine And.intro (hL.k 144 (by decide)) (Or.inl ⟨_, (hL.r 144 13 147 (by decide)), ?_⟩)
  refine Or.inl (And.intro (hL.k 147 (by decide)) (And.intro (hL.v 147 (by decide) h.1) ?_))
  have h := h.2
  have h := h _ rfl
  refine And.intro (hL.k 144 (by decide)) (Or.inl ⟨_, (hL.r 144 79 197 (by decide)), ?_⟩)
  refine Or.inl (And.intro (hL.k 197 (by decide)) (And.intro (hL.v 197 (by decide) h.1) ?_))
  have h := h.2
  refine And.intro (hL.k 197 (by decide)) (And.intro (hL.v 197 (by decide) h.1) ?_)
  have h := h.2 _ rfl
  refine And.intro (by decide) ?_
  refine And.intro (hL.k 144 (by decide)) ?_
  refine g_Em h (fun r u h => ?_)
  obtain ⟨y4, rfl, hL, h⟩ := h
  refine And.intro (fun c => ?_) (fun c => ?_)
  · have h := h.1 c
    exact hP _ h
  · have h := h.2 c
    exact hP _ h
theorem x_Mo_oneStep_417 {cx : gCx} {d : Nat} {ad : Nat → Nat} {l1 l2 l3 l4 l5 l6 l7 s0 : Int32} {t : gSt} {post : Option Value → gSt → Prop} (hL : Lay t ad) (h : post (some (.int s0)) t) : g_W cx (g_E cx d) mt_Mo_oneStep post (417, [some (.ref (ad 144)), some (.int l1), some (.int l2), some (.int l3), some (.int l4), some (.int l5), some (.int l6), some (.int l7)], [.int s0], t, 0, 0) := by
  refine g_run [28, 45, 55, 62, 152, 173, 206, 227, 269, 281, 316, 354, 357, 367, 417, 418, 506, 533, 541, 565, 579] 400 (fun P hP => ?_)
  exact And.intro rfl (And.intro rfl h)
theorem x_Mo_oneStep_418 {cx : gCx} {d : Nat} {ad : Nat → Nat} {l1 l2 l3 l4 l5 l6 : Int32} {t : gSt} {post : Option Value → gSt → Prop} (hL : Lay t ad) (h : vp_in (l6 - 1) 20200 ∧ (∀ t1, t1 = g_si t (ad 144) 84 (t.2.1 (ad 193) ((l6 - 1) : Int32).toNatClampNeg) → g_E cx d i_Mo_frame [.ref (ad 144), .int l3] t1 (fun r u2 => ∃ y3 : Int32, r = some (.int y3) ∧ Lay u2 ad ∧ (∀ t4, t4 = g_si u2 (ad 144) 81 ((t1.2.1 (ad 144) 81) - y3) → ∀ t5, t5 = g_si t4 (ad 144) 80 ((t4.2.1 (ad 144) 80) - 1) → (¬ (t5.2.1 (ad 144) 80) = 0 → vp_in ((t5.2.1 (ad 144) 80) - 1) 7000 ∧ (vp_in (t5.2.1 (ad 197) (((t5.2.1 (ad 144) 80) - 1) : Int32).toNatClampNeg) 20200 ∧ (∀ t6, t6 = g_si t5 (ad 193) ((t5.2.1 (ad 197) (((t5.2.1 (ad 144) 80) - 1) : Int32).toNatClampNeg) : Int32).toNatClampNeg (t5.2.1 (ad 144) 84) → vp_in ((t6.2.1 (ad 144) 80) - 1) 7000 ∧ (vp_in ((t6.2.1 (ad 144) 80) - 1) 7000 ∧ (∀ t7, t7 = g_si t6 (ad 197) (((t6.2.1 (ad 144) 80) - 1) : Int32).toNatClampNeg ((t6.2.1 (ad 197) (((t6.2.1 (ad 144) 80) - 1) : Int32).toNatClampNeg) + 1) → ∀ t8, t8 = g_si t7 (ad 144) 84 0 → post (some (.int 0)) t8))))) ∧ (¬ (¬ (t5.2.1 (ad 144) 80) = 0) → post (some (.int 1)) t5))))) : g_W cx (g_E cx d) mt_Mo_oneStep post (418, [some (.ref (ad 144)), some (.int l1), some (.int l2), some (.int l3), some (.int l4), some (.int l5), some (.int l6), none], [], t, 0, 0) := by
  refine g_run [28, 45, 55, 62, 152, 173, 206, 227, 269, 281, 316, 354, 357, 367, 417, 418, 506, 533, 541, 565, 579] 400 (fun P hP => ?_)
  refine And.intro (hL.k 144 (by decide)) (Or.inl ⟨_, (hL.r 144 75 193 (by decide)), ?_⟩)
  refine Or.inl (And.intro (hL.k 193 (by decide)) (And.intro (hL.v 193 (by decide) h.1) ?_))
  have h := h.2
  refine And.intro (hL.k 144 (by decide)) ?_
  have h := h _ rfl
  refine And.intro (hL.k 144 (by decide)) ?_
  refine And.intro (hL.k 144 (by decide)) ?_
  refine g_Em h (fun r u h => ?_)
  obtain ⟨y3, rfl, hL, h⟩ := h
  refine And.intro (hL.k 144 (by decide)) ?_
  have h := h _ rfl
  refine And.intro (hL.k 144 (by decide)) ?_
  refine And.intro (hL.k 144 (by decide)) ?_
  have h := h _ rfl
  refine And.intro (hL.k 144 (by decide)) ?_
  refine And.intro (fun c => ?_) (fun c => ?_)
  · have h := h.1 c
    refine And.intro (hL.k 144 (by decide)) (Or.inl ⟨_, (hL.r 144 75 193 (by decide)), ?_⟩)
    refine And.intro (hL.k 144 (by decide)) (Or.inl ⟨_, (hL.r 144 79 197 (by decide)), ?_⟩)
    refine And.intro (hL.k 144 (by decide)) ?_
    refine Or.inl (And.intro (hL.k 197 (by decide)) (And.intro (hL.v 197 (by decide) h.1) ?_))
    have h := h.2
    refine And.intro (hL.k 144 (by decide)) ?_
    refine And.intro (hL.k 193 (by decide)) (And.intro (hL.v 193 (by decide) h.1) ?_)
    have h := h.2 _ rfl
    refine And.intro (hL.k 144 (by decide)) (Or.inl ⟨_, (hL.r 144 79 197 (by decide)), ?_⟩)
    refine And.intro (hL.k 144 (by decide)) ?_
    refine Or.inl (And.intro (hL.k 197 (by decide)) (And.intro (hL.v 197 (by decide) h.1) ?_))
    have h := h.2
    refine And.intro (hL.k 197 (by decide)) (And.intro (hL.v 197 (by decide) h.1) ?_)
    have h := h.2 _ rfl
    refine And.intro (hL.k 144 (by decide)) ?_
    have h := h _ rfl
    exact And.intro rfl (And.intro rfl h)
  · have h := h.2 c
    exact And.intro rfl (And.intro rfl h)
theorem x_Mo_oneStep_506 {cx : gCx} {d : Nat} {ad : Nat → Nat} {l1 l2 l3 l4 l5 l6 : Int32} {t : gSt} {post : Option Value → gSt → Prop} (hL : Lay t ad) (h : vp_in l4 76800 ∧ ((¬ (t.2.1 (ad 182) (l4 : Int32).toNatClampNeg) = 18 → g_W cx (g_E cx d) mt_Mo_oneStep post (533, [some (.ref (ad 144)), some (.int l1), some (.int l2), some (.int l3), some (.int l4), some (.int l5), some (.int l6), none], [.int (((l3 / 24) * 24) + l5), .ref (ad 144)], t, 0, 0)) ∧ (¬ (¬ (t.2.1 (ad 182) (l4 : Int32).toNatClampNeg) = 18) → g_W cx (g_E cx d) mt_Mo_oneStep post (533, [some (.ref (ad 144)), some (.int l1), some (.int l2), some (.int l3), some (.int l4), some (.int l5), some (.int l6), none], [.int l3, .ref (ad 144)], t, 0, 0)))) : g_W cx (g_E cx d) mt_Mo_oneStep post (506, [some (.ref (ad 144)), some (.int l1), some (.int l2), some (.int l3), some (.int l4), some (.int l5), some (.int l6), none], [], t, 0, 0) := by
  refine g_run [28, 45, 55, 62, 152, 173, 206, 227, 269, 281, 316, 354, 357, 367, 417, 418, 506, 533, 541, 565, 579] 400 (fun P hP => ?_)
  refine And.intro (hL.k 144 (by decide)) (Or.inl ⟨_, (hL.r 144 60 182 (by decide)), ?_⟩)
  refine Or.inl (And.intro (hL.k 182 (by decide)) (And.intro (hL.v 182 (by decide) h.1) ?_))
  have h := h.2
  refine And.intro (fun c => ?_) (fun c => ?_)
  · have h := h.1 c
    refine And.intro (by decide) ?_
    exact hP _ h
  · have h := h.2 c
    exact hP _ h
theorem x_Mo_oneStep_533 {cx : gCx} {d : Nat} {ad : Nat → Nat} {l1 l2 l3 l4 l5 l6 s0 : Int32} {t : gSt} {post : Option Value → gSt → Prop} (hL : Lay t ad) (h : g_E cx d i_Mo_replaceFrame [.ref (ad 144), .int s0, .int l3, .int l6, .int l1] t (fun r u1 => ∃ y2 : Int32, r = some (.int y2) ∧ Lay u1 ad ∧ (post (some (.int y2)) u1))) : g_W cx (g_E cx d) mt_Mo_oneStep post (533, [some (.ref (ad 144)), some (.int l1), some (.int l2), some (.int l3), some (.int l4), some (.int l5), some (.int l6), none], [.int s0, .ref (ad 144)], t, 0, 0) := by
  refine g_run [28, 45, 55, 62, 152, 173, 206, 227, 269, 281, 316, 354, 357, 367, 417, 418, 506, 533, 541, 565, 579] 400 (fun P hP => ?_)
  refine And.intro (hL.k 144 (by decide)) ?_
  refine g_Em h (fun r u h => ?_)
  obtain ⟨y2, rfl, hL, h⟩ := h
  exact And.intro rfl (And.intro rfl h)
theorem x_Mo_oneStep_541 {cx : gCx} {d : Nat} {ad : Nat → Nat} {l1 l2 l3 l4 l5 l6 : Int32} {t : gSt} {post : Option Value → gSt → Prop} (hL : Lay t ad) (h : vp_in l4 76800 ∧ (((t.2.1 (ad 182) (l4 : Int32).toNatClampNeg) = 6 → g_W cx (g_E cx d) mt_Mo_oneStep post (565, [some (.ref (ad 144)), some (.int l1), some (.int l2), some (.int l3), some (.int l4), some (.int l5), some (.int l6), none], [], t, 0, 0)) ∧ (¬ ((t.2.1 (ad 182) (l4 : Int32).toNatClampNeg) = 6) → vp_in l4 76800 ∧ ((¬ (t.2.1 (ad 182) (l4 : Int32).toNatClampNeg) = 7 → g_W cx (g_E cx d) mt_Mo_oneStep post (579, [some (.ref (ad 144)), some (.int l1), some (.int l2), some (.int l3), some (.int l4), some (.int l5), some (.int l6), none], [], t, 0, 0)) ∧ (¬ (¬ (t.2.1 (ad 182) (l4 : Int32).toNatClampNeg) = 7) → g_W cx (g_E cx d) mt_Mo_oneStep post (565, [some (.ref (ad 144)), some (.int l1), some (.int l2), some (.int l3), some (.int l4), some (.int l5), some (.int l6), none], [], t, 0, 0)))))) : g_W cx (g_E cx d) mt_Mo_oneStep post (541, [some (.ref (ad 144)), some (.int l1), some (.int l2), some (.int l3), some (.int l4), some (.int l5), some (.int l6), none], [], t, 0, 0) := by
  refine g_run [28, 45, 55, 62, 152, 173, 206, 227, 269, 281, 316, 354, 357, 367, 417, 418, 506, 533, 541, 565, 579] 400 (fun P hP => ?_)
  refine And.intro (hL.k 144 (by decide)) (Or.inl ⟨_, (hL.r 144 60 182 (by decide)), ?_⟩)
  refine Or.inl (And.intro (hL.k 182 (by decide)) (And.intro (hL.v 182 (by decide) h.1) ?_))
  have h := h.2
  refine And.intro (fun c => ?_) (fun c => ?_)
  · have h := h.1 c
    exact hP _ h
  · have h := h.2 c
    refine And.intro (hL.k 144 (by decide)) (Or.inl ⟨_, (hL.r 144 60 182 (by decide)), ?_⟩)
    refine Or.inl (And.intro (hL.k 182 (by decide)) (And.intro (hL.v 182 (by decide) h.1) ?_))
    have h := h.2
    refine And.intro (fun c => ?_) (fun c => ?_)
    · have h := h.1 c
      exact hP _ h
    · have h := h.2 c
      exact hP _ h
theorem x_Mo_oneStep_565 {cx : gCx} {d : Nat} {ad : Nat → Nat} {l1 l2 l3 l4 l5 l6 : Int32} {t : gSt} {post : Option Value → gSt → Prop} (hL : Lay t ad) (h : vp_in (l6 - 1) 20200 ∧ ((¬ (t.2.1 (ad 193) ((l6 - 1) : Int32).toNatClampNeg) = 0 → g_W cx (g_E cx d) mt_Mo_oneStep post (579, [some (.ref (ad 144)), some (.int l1), some (.int l2), some (.int l3), some (.int l4), some (.int l5), some (.int l6), none], [], t, 0, 0)) ∧ (¬ (¬ (t.2.1 (ad 193) ((l6 - 1) : Int32).toNatClampNeg) = 0) → post (some (.int 3)) t))) : g_W cx (g_E cx d) mt_Mo_oneStep post (565, [some (.ref (ad 144)), some (.int l1), some (.int l2), some (.int l3), some (.int l4), some (.int l5), some (.int l6), none], [], t, 0, 0) := by
  refine g_run [28, 45, 55, 62, 152, 173, 206, 227, 269, 281, 316, 354, 357, 367, 417, 418, 506, 533, 541, 565, 579] 400 (fun P hP => ?_)
  refine And.intro (hL.k 144 (by decide)) (Or.inl ⟨_, (hL.r 144 75 193 (by decide)), ?_⟩)
  refine Or.inl (And.intro (hL.k 193 (by decide)) (And.intro (hL.v 193 (by decide) h.1) ?_))
  have h := h.2
  refine And.intro (fun c => ?_) (fun c => ?_)
  · have h := h.1 c
    exact hP _ h
  · have h := h.2 c
    exact And.intro rfl (And.intro rfl h)
theorem x_Mo_oneStep_579 {cx : gCx} {d : Nat} {ad : Nat → Nat} {l1 l2 l3 l4 l5 l6 : Int32} {t : gSt} {post : Option Value → gSt → Prop} (hL : Lay t ad) (h : vp_in l4 76800 ∧ (vp_in (l6 - 2) 20200 ∧ (vp_in (l6 - 1) 20200 ∧ (g_E cx d i_Mo_reckon [.int (t.2.1 (ad 182) (l4 : Int32).toNatClampNeg), .int (t.2.1 (ad 193) ((l6 - 2) : Int32).toNatClampNeg), .int (t.2.1 (ad 193) ((l6 - 1) : Int32).toNatClampNeg)] t (fun r u1 => ∃ y2 : Int32, r = some (.int y2) ∧ Lay u1 ad ∧ (vp_in (l6 - 2) 20200 ∧ (∀ t3, t3 = g_si u1 (ad 193) ((l6 - 2) : Int32).toNatClampNeg y2 → vp_in l2 7000 ∧ (vp_in l2 7000 ∧ (∀ t4, t4 = g_si t3 (ad 197) (l2 : Int32).toNatClampNeg ((t3.2.1 (ad 197) (l2 : Int32).toNatClampNeg) - 1) → post (some (.int 0)) t4))))))))) : g_W cx (g_E cx d) mt_Mo_oneStep post (579, [some (.ref (ad 144)), some (.int l1), some (.int l2), some (.int l3), some (.int l4), some (.int l5), some (.int l6), none], [], t, 0, 0) := by
  refine g_run [28, 45, 55, 62, 152, 173, 206, 227, 269, 281, 316, 354, 357, 367, 417, 418, 506, 533, 541, 565, 579] 400 (fun P hP => ?_)
  refine And.intro (hL.k 144 (by decide)) (Or.inl ⟨_, (hL.r 144 75 193 (by decide)), ?_⟩)
  refine And.intro (hL.k 144 (by decide)) (Or.inl ⟨_, (hL.r 144 60 182 (by decide)), ?_⟩)
  refine Or.inl (And.intro (hL.k 182 (by decide)) (And.intro (hL.v 182 (by decide) h.1) ?_))
  have h := h.2
  refine And.intro (hL.k 144 (by decide)) (Or.inl ⟨_, (hL.r 144 75 193 (by decide)), ?_⟩)
  refine Or.inl (And.intro (hL.k 193 (by decide)) (And.intro (hL.v 193 (by decide) h.1) ?_))
  have h := h.2
  refine And.intro (hL.k 144 (by decide)) (Or.inl ⟨_, (hL.r 144 75 193 (by decide)), ?_⟩)
  refine Or.inl (And.intro (hL.k 193 (by decide)) (And.intro (hL.v 193 (by decide) h.1) ?_))
  have h := h.2
  refine g_Em h (fun r u h => ?_)
  obtain ⟨y2, rfl, hL, h⟩ := h
  refine And.intro (hL.k 193 (by decide)) (And.intro (hL.v 193 (by decide) h.1) ?_)
  have h := h.2 _ rfl
  refine And.intro (hL.k 144 (by decide)) (Or.inl ⟨_, (hL.r 144 79 197 (by decide)), ?_⟩)
  refine Or.inl (And.intro (hL.k 197 (by decide)) (And.intro (hL.v 197 (by decide) h.1) ?_))
  have h := h.2
  refine And.intro (hL.k 197 (by decide)) (And.intro (hL.v 197 (by decide) h.1) ?_)
  have h := h.2 _ rfl
  exact And.intro rfl (And.intro rfl h)
theorem x_Mo_replaceFrame {cx : gCx} {d : Nat} {ad : Nat → Nat} {a1 a2 a3 a4 : Int32} {t : gSt} {post : Option Value → gSt → Prop} (hL : Lay t ad) (h : vp_in (a1 - a1 / 24 * 24) 24 ∧ (∀ x1 : Int32, x1 = (t.2.1 (ad 147) ((a1 - a1 / 24 * 24) : Int32).toNatClampNeg) → g_W cx (g_E cx d) mt_Mo_replaceFrame post (14, [some (.ref (ad 144)), some (.int a1), some (.int a2), some (.int a3), some (.int a4), some (.int x1), some (.int 0)], [], t, 0, 0))) : g_E cx (d + 1) i_Mo_replaceFrame [.ref (ad 144), .int a1, .int a2, .int a3, .int a4] t post := by
  refine g_call mt_Mo_replaceFrame rfl (by decide) (Nat.le_of_ble_eq_true rfl) ?_
  refine g_run [14] 400 (fun P hP => ?_)
  refine And.intro (hL.k 144 (by decide)) (Or.inl ⟨_, (hL.r 144 13 147 (by decide)), ?_⟩)
  refine And.intro (by decide) ?_
  refine Or.inl (And.intro (hL.k 147 (by decide)) (And.intro (hL.v 147 (by decide) h.1) ?_))
  have h := h.2
  have h := h _ rfl
  exact hP _ h
theorem x_Mo_replaceFrame_14 {cx : gCx} {d : Nat} {ad : Nat → Nat} {l1 l2 l3 l4 l5 l6 : Int32} {t : gSt} {post : Option Value → gSt → Prop} (hL : Lay t ad) (h : (l5 ≤ l6 → g_E cx d i_Mo_frame [.ref (ad 144), .int l2] t (fun r u1 => ∃ y2 : Int32, r = some (.int y2) ∧ Lay u1 ad ∧ (∀ t3, t3 = g_si u1 (ad 144) 81 ((t.2.1 (ad 144) 81) - y2) → ∀ t4, t4 = g_si t3 (ad 144) 80 ((t3.2.1 (ad 144) 80) - 1) → g_E cx d i_Mo_lay [.ref (ad 144), .int l1, .int 20110, .int l4, .int l5] t4 (fun r u5 => ∃ y6 : Int32, r = some (.int y6) ∧ Lay u5 ad ∧ ((y6 = 0 → post (some (.int 2)) u5) ∧ (¬ (y6 = 0) → post (some (.int 0)) u5)))))) ∧ (¬ (l5 ≤ l6) → vp_in ((l3 - l5) + l6) 20200 ∧ (vp_in (20110 + l6) 20200 ∧ (∀ t7, t7 = g_si t (ad 193) ((20110 + l6) : Int32).toNatClampNeg (t.2.1 (ad 193) (((l3 - l5) + l6) : Int32).toNatClampNeg) → g_W cx (g_E cx d) mt_Mo_replaceFrame post (14, [some (.ref (ad 144)), some (.int l1), some (.int l2), some (.int l3), some (.int l4), some (.int l5), some (.int (l6 + 1))], [], t7, 0, 0))))) : g_W cx (g_E cx d) mt_Mo_replaceFrame post (14, [some (.ref (ad 144)), some (.int l1), some (.int l2), some (.int l3), some (.int l4), some (.int l5), some (.int l6)], [], t, 0, 0) := by
  refine g_run [14] 400 (fun P hP => ?_)
  refine And.intro (fun c => ?_) (fun c => ?_)
  · have h := h.1 c
    refine And.intro (hL.k 144 (by decide)) ?_
    refine And.intro (hL.k 144 (by decide)) ?_
    refine g_Em h (fun r u h => ?_)
    obtain ⟨y2, rfl, hL, h⟩ := h
    refine And.intro (hL.k 144 (by decide)) ?_
    have h := h _ rfl
    refine And.intro (hL.k 144 (by decide)) ?_
    refine And.intro (hL.k 144 (by decide)) ?_
    have h := h _ rfl
    refine And.intro (hL.k 144 (by decide)) ?_
    refine g_Em h (fun r u h => ?_)
    obtain ⟨y6, rfl, hL, h⟩ := h
    refine And.intro (fun c => ?_) (fun c => ?_)
    · have h := h.1 c
      exact And.intro rfl (And.intro rfl h)
    · have h := h.2 c
      exact And.intro rfl (And.intro rfl h)
  · have h := h.2 c
    refine And.intro (hL.k 144 (by decide)) (Or.inl ⟨_, (hL.r 144 75 193 (by decide)), ?_⟩)
    refine And.intro (hL.k 144 (by decide)) (Or.inl ⟨_, (hL.r 144 75 193 (by decide)), ?_⟩)
    refine Or.inl (And.intro (hL.k 193 (by decide)) (And.intro (hL.v 193 (by decide) h.1) ?_))
    have h := h.2
    refine And.intro (hL.k 193 (by decide)) (And.intro (hL.v 193 (by decide) h.1) ?_)
    have h := h.2 _ rfl
    exact hP _ h
