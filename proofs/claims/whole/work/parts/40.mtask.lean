/-! THE MODEL'S TASKS, and what it puts -/
abbrev TK : Type := List (Int32 × Int32 × Int32)
def RT (ad : Nat → Nat) (T : TK) (t : gSt) : Prop := t.2.1 (ad 144) 29 = nI T.length ∧ ∀ i q, T[i]? = some q → t.2.1 (ad 159) i = q.1 ∧ t.2.1 (ad 160) i = q.2.1 ∧ t.2.1 (ad 161) i = q.2.2
def tkP (c k : Nat) : Bool := (Nat.ble 159 c && Nat.ble c 161) || (Nat.beq c 144 && Nat.beq k 29)
theorem tkP_r {c k : Nat} (h : (c < 159 ∨ 161 < c) ∧ (c ≠ 144 ∨ k ≠ 29)) : tkP c k = false := by
  have e : ∀ a b : Nat, a ≠ b → Nat.beq a b = false := fun a b h => Bool.eq_false_iff.mpr (fun q => h (Nat.eq_of_beq_eq_true q))
  have b : ∀ a b : Nat, b < a → Nat.ble a b = false := fun a b h => Bool.eq_false_iff.mpr (fun q => by have := Nat.ble_eq.mp q; omega)
  unfold tkP
  obtain ⟨h1, h2⟩ := h
  have x1 : (Nat.ble 159 c && Nat.ble c 161) = false := by
    rcases h1 with h1 | h1
    · rw [b 159 c h1]; rfl
    · rw [b c 161 h1, Bool.and_false]
  have x2 : (Nat.beq c 144 && Nat.beq k 29) = false := by
    rcases h2 with h2 | h2
    · rw [e c 144 h2]; rfl
    · rw [e k 29 h2, Bool.and_false]
  rw [x1, x2]; rfl
section MT
variable {cx : gCx} {d : Nat} {ad : Nat → Nat} {t u : gSt} {post : Option Value → gSt → Prop} {T : TK}
theorem RT.fr {P : Nat → Nat → Bool} (hF : gFr ad P t u) (h0 : P 144 29 = false) (h1 : ∀ k, P 159 k = false) (h2 : ∀ k, P 160 k = false) (h3 : ∀ k, P 161 k = false) (h : RT ad T t) : RT ad T u := by
  refine ⟨by rw [hF.i 144 29 h0]; exact h.1, fun i q hq => ?_⟩
  rw [hF.i 159 i (h1 i), hF.i 160 i (h2 i), hF.i 161 i (h3 i)]
  exact h.2 i q hq
theorem m_pushT {k a b : Int32} (hL : Lay t ad) (hT : RT ad T t) (hl : T.length < 20000) (h : ∀ u, gFr ad tkP t u → RT ad (T ++ [(k, a, b)]) u → post none u) : g_E cx (d + 1) i_Mo_push [.ref (ad 144), .int k, .int a, .int b] t post := by
  have e0 : t.2.1 (ad c_Mo) f_Mo_tasks = nI T.length := hT.1
  refine m_Mo_push hL (by rw [e0]; exact vp_in_nI hl (by omega)) ?_
  unfold mo_push
  rw [e0, nI_clamp (by omega), nI_1]
  have F1 : gFr ad tkP t (g_si t (ad c_Mo_task) T.length k) := (gFr.rf hL).si rfl
  have F2 : gFr ad tkP t (g_si (g_si t (ad c_Mo_task) T.length k) (ad c_Mo_taskA) T.length a) := F1.si rfl
  have F3 : gFr ad tkP t (g_si (g_si (g_si t (ad c_Mo_task) T.length k) (ad c_Mo_taskA) T.length a) (ad c_Mo_taskB) T.length b) := F2.si rfl
  have F4 := F3.si (c := c_Mo) (k := f_Mo_tasks) (v := nI (T.length + 1)) rfl
  refine h _ F4 ⟨?_, fun i q hq => ?_⟩
  · rw [g_rd_at, List.length_append]; rfl
  · rw [g_rd_ne (hL.ne 159 144 (by decide) (by decide) (by decide)), g_rd_ne (hL.ne 160 144 (by decide) (by decide) (by decide)), g_rd_ne (hL.ne 161 144 (by decide) (by decide) (by decide))]
    rw [g_rd_ne (hL.ne 159 161 (by decide) (by decide) (by decide)), g_rd_ne (hL.ne 160 161 (by decide) (by decide) (by decide)), g_rd_ne (hL.ne 159 160 (by decide) (by decide) (by decide))]
    by_cases hi : i < T.length
    · rw [List.getElem?_append_left hi] at hq
      rw [g_rd_k (by omega), g_rd_k (by omega), g_rd_k (by omega), g_rd_ne (hL.ne 160 159 (by decide) (by decide) (by decide)), g_rd_ne (hL.ne 161 160 (by decide) (by decide) (by decide)), g_rd_ne (hL.ne 161 159 (by decide) (by decide) (by decide))]
      exact hT.2 i q hq
    · rw [List.getElem?_append_right (by omega)] at hq
      have hi0 : i - T.length = 0 := by
        by_cases z : i - T.length = 0
        · exact z
        · rw [List.getElem?_eq_none (by simp; omega)] at hq; cases hq
      rw [hi0] at hq
      have hq : q = (k, a, b) := by simpa using hq.symm
      have hi1 : i = T.length := by omega
      subst hq; subst hi1
      exact ⟨g_rd_at, g_rd_at, g_rd_at⟩
end MT
