/-! FOLDING: what a node gives, as a row -/
section FP
variable {n : Nat} {par : Int32 → Nat} {ρ : RHO} {z : Nat} {v : Int32} {T1 T2 T3 : Fo}
theorem fnum_on {T : Fo} {S : Nat → List Int32} (h1 : fo_l T = 1) (hw : fo_w n par T S) : fnum T = onum (fo_p T) := by
  match T, h1, hw with
  | .inner z k v a .leaf, _, hw =>
    have e : fo_p (.inner z k v a .leaf) = (k, v) :: (fo_p a ++ []) := rfl
    rw [e, List.append_nil]
    match a with
    | .leaf => rfl
    | .inner z2 k2 v2 a2 b2 =>
      have hk : k ≠ 1 := fun c => by
        have := hw.2.1
        rw [c] at this
        exact absurd this (by simp [fo_l, k_ar])
      show (if k = 1 then some v else none) = onum ((k, v) :: (k2, v2) :: (fo_p a2 ++ fo_p b2))
      rw [if_neg hk]
      rfl
  | .inner _ _ _ _ (.inner _ _ _ _ _), h, _ => simp [fo_l] at h
theorem fo_p_two : fo_p (fo_ap T1 (fo_ap T2 .leaf)) = fo_p T1 ++ fo_p T2 := by
  rw [fo_p_ap, fo_p_ap]
  simp [fo_p]
theorem fo_p_in1 {k : Int32} {K : Fo} : fo_p (.inner z k v K .leaf) = (k, v) :: fo_p K := by
  show (k, v) :: (fo_p K ++ []) = _
  rw [List.append_nil]
theorem kid2 (h1 : fo_l T1 = 1) (h2 : fo_l T2 = 1) : fo_h (fo_ap T1 (fo_ap T2 .leaf)) = T1 ∧ fo_h (fo_u (fo_ap T1 (fo_ap T2 .leaf))) = T2 := by
  rw [(fo_hap h1).1, (fo_hap h1).2, (fo_hap h2).1]
  exact ⟨rfl, rfl⟩
theorem kid3 (h1 : fo_l T1 = 1) (h2 : fo_l T2 = 1) (h3 : fo_l T3 = 1) : fo_h (fo_ap T1 (fo_ap T2 (fo_ap T3 .leaf))) = T1 ∧ fo_h (fo_u (fo_ap T1 (fo_ap T2 (fo_ap T3 .leaf)))) = T2 ∧ fo_h (fo_u (fo_u (fo_ap T1 (fo_ap T2 (fo_ap T3 .leaf))))) = T3 := by
  rw [(fo_hap h1).1, (fo_hap h1).2, (fo_hap h2).1, (fo_hap h2).2, (fo_hap h3).1]
  exact ⟨rfl, rfl, rfl⟩
theorem cmb12 (h1 : fo_l T1 = 1) (h2 : fo_l T2 = 1) : fo_p (cmb ρ z 12 v (fo_ap T1 (fo_ap T2 .leaf))) = if (fo_p T1).all (fun q => fclm q.1) = true then fo_p T2 else (12, v) :: (fo_p T1 ++ fo_p T2) := by
  unfold cmb
  rw [if_neg (by decide), if_neg (by decide), if_neg (by decide), if_neg (by decide), if_pos rfl, (kid2 h1 h2).1, (kid2 h1 h2).2]
  unfold fcalm
  split
  · rfl
  · rw [fo_p_in1, fo_p_two]
theorem cmb14 {S : Nat → List Int32} (h1 : fo_l T1 = 1) (h2 : fo_l T2 = 1) (hw : fo_w n par T1 S) : fo_p (cmb ρ z 14 v (fo_ap T1 (fo_ap T2 .leaf))) = if ((onum (fo_p T1)).isSome || ((fo_p T1).all (fun q => fclm q.1) && !decide ((2, v) ∈ fo_p T2))) = true then fo_p T2 else (14, v) :: (fo_p T1 ++ fo_p T2) := by
  unfold cmb
  rw [if_neg (by decide), if_neg (by decide), if_neg (by decide), if_neg (by decide), if_neg (by decide), if_pos rfl, (kid2 h1 h2).1, (kid2 h1 h2).2, fnum_on h1 hw]
  unfold fcalm fstd
  split
  · rfl
  · rw [fo_p_in1, fo_p_two]
theorem cmb13 {S : Nat → List Int32} (h1 : fo_l T1 = 1) (h2 : fo_l T2 = 1) (h3 : fo_l T3 = 1) (hw : fo_w n par T1 S) : fo_p (cmb ρ z 13 v (fo_ap T1 (fo_ap T2 (fo_ap T3 .leaf)))) = match onum (fo_p T1) with | some x => (if x = 0 then fo_p T3 else fo_p T2) | none => (13, v) :: (fo_p T1 ++ fo_p T2 ++ fo_p T3) := by
  unfold cmb
  rw [if_neg (by decide), if_neg (by decide), if_pos rfl, (kid3 h1 h2 h3).1, (kid3 h1 h2 h3).2.1, (kid3 h1 h2 h3).2.2, fnum_on h1 hw]
  cases onum (fo_p T1) with
  | some x =>
    dsimp only
    split <;> rfl
  | none =>
    dsimp only
    rw [fo_p_in1, fo_p_ap, fo_p_two, List.append_assoc]
theorem cmb10 {S : Nat → List Int32} (h1 : fo_l T1 = 1) (hw : fo_w n par T1 S) : fo_p (cmb ρ z 10 v (fo_ap T1 .leaf)) = match onum (fo_p T1) with | some x => [(1, -x)] | none => (10, v) :: fo_p T1 := by
  unfold cmb
  rw [if_neg (by decide), if_neg (by decide), if_neg (by decide), if_pos rfl, (fo_hap h1).1, fnum_on h1 hw]
  cases onum (fo_p T1) with
  | some x => rfl
  | none =>
    dsimp only
    rw [fo_p_in1, fo_p_ap]
    simp [fo_p]
theorem fo_p_ne {T : Fo} (h1 : fo_l T = 1) : 1 ≤ (fo_p T).length := by
  match T, h1 with
  | .inner z k v a b, _ =>
    show 1 ≤ ((k, v) :: (fo_p a ++ fo_p b)).length
    rw [List.length_cons]
    omega
theorem cmb2 {S1 S2 : Nat → List Int32} {k : Int32} (hk : ∃ j, 3 ≤ j ∧ j ≤ 9 ∧ k = nI j) (h1 : fo_l T1 = 1) (h2 : fo_l T2 = 1) (hw1 : fo_w n par T1 S1) (hw2 : fo_w n par T2 S2) : fo_p (cmb ρ z k v (fo_ap T1 (fo_ap T2 .leaf))) = two k v (fo_p T1 ++ fo_p T2) := by
  obtain ⟨j, j3, j9, ej⟩ := hk
  have nk : ∀ i, i < 100 → (i < 3 ∨ 9 < i) → k ≠ nI i := fun i h100 hi c => by
    rw [ej, nI_eq (by omega) (by omega)] at c
    omega
  unfold cmb
  rw [if_neg (fun c => by
    rcases c with c | c | c
    · exact nk 1 (by omega) (by omega) c
    · exact nk 11 (by omega) (by omega) c
    · exact nk 15 (by omega) (by omega) c), if_neg (show ¬ k = 2 from nk 2 (by omega) (by omega)), if_neg (show ¬ k = 13 from nk 13 (by omega) (by omega)), if_neg (show ¬ k = 10 from nk 10 (by omega) (by omega)), if_neg (show ¬ k = 12 from nk 12 (by omega) (by omega)), if_neg (show ¬ k = 14 from nk 14 (by omega) (by omega)), (kid2 h1 h2).1, (kid2 h1 h2).2, fnum_on h1 hw1, fnum_on h2 hw2]
  have e0 : fo_p (.inner z k v (fo_ap T1 (fo_ap T2 .leaf)) .leaf) = (k, v) :: (fo_p T1 ++ fo_p T2) := by rw [fo_p_in1, fo_p_two]
  match hA : fo_p T1, hB : fo_p T2, fo_p_ne h1, fo_p_ne h2 with
  | [a], [b], _, _ =>
    rw [hA, hB] at e0
    show _ = if a.1 = 1 ∧ b.1 = 1 ∧ ¬ ((k = 6 ∨ k = 7) ∧ b.2 = 0) then [(1, op2 k a.2 b.2)] else [(k, v), a, b]
    show fo_p (match (if a.1 = 1 then some a.2 else none) with | some x => (match (if b.1 = 1 then some b.2 else none) with | some y => if (k = 6 ∨ k = 7) ∧ y = 0 then .inner z k v (fo_ap T1 (fo_ap T2 .leaf)) .leaf else fnd (op2 k x y) | none => .inner z k v (fo_ap T1 (fo_ap T2 .leaf)) .leaf) | none => .inner z k v (fo_ap T1 (fo_ap T2 .leaf)) .leaf) = _
    by_cases ca : a.1 = 1
    · rw [if_pos ca]
      dsimp only
      by_cases cb : b.1 = 1
      · rw [if_pos cb]
        dsimp only
        by_cases cc : (k = 6 ∨ k = 7) ∧ b.2 = 0
        · rw [if_pos cc, if_neg (fun q => q.2.2 cc), e0]
          rfl
        · rw [if_neg cc, if_pos ⟨ca, cb, cc⟩]
          rfl
      · rw [if_neg cb, if_neg (show ¬ (a.1 = 1 ∧ b.1 = 1 ∧ ¬ ((k = 6 ∨ k = 7) ∧ b.2 = 0)) from fun q => cb q.2.1)]
        dsimp only
        rw [e0]
        rfl
    · rw [if_neg ca, if_neg (show ¬ (a.1 = 1 ∧ b.1 = 1 ∧ ¬ ((k = 6 ∨ k = 7) ∧ b.2 = 0)) from fun q => ca q.1)]
      dsimp only
      rw [e0]
      rfl
  | [a], b :: b2 :: B, _, _ =>
    rw [hA, hB] at e0
    have : onum (b :: b2 :: B) = none := rfl
    rw [this]
    have e2 : two k v ([a] ++ b :: b2 :: B) = (k, v) :: ([a] ++ b :: b2 :: B) := rfl
    rw [e2, ← e0]
    cases onum [a] <;> rfl
  | a :: a2 :: A, b :: B, _, _ =>
    rw [hA, hB] at e0
    have : onum (a :: a2 :: A) = none := rfl
    rw [this]
    have e2 : two k v ((a :: a2 :: A) ++ b :: B) = (k, v) :: ((a :: a2 :: A) ++ b :: B) := by
      cases A <;> rfl
    rw [e2, ← e0]
end FP
