/-! TOKENS: T are the text's bytes, 256 behind its end n -/
def isB (c : Nat) : Bool := c == 9 || c == 10 || c == 13 || c == 32
def isL (c : Nat) : Bool := Nat.ble 97 c && Nat.ble c 122
def isD (c : Nat) : Bool := Nat.ble 48 c && Nat.ble c 57
def isA (c : Nat) : Bool := isL c || isD c
def ru (q : Nat → Bool) (T : Nat → Nat) : Nat → Nat → Nat
  | 0, a => a
  | f + 1, a => if q (T a) = true then ru q T f (a + 1) else a
/-- the first place from a on that is not of q -/
def rn (q : Nat → Bool) (T : Nat → Nat) (n a : Nat) : Nat := ru q T (n - a) a
/-- a text -/
def txt (T : Nat → Nat) (n : Nat) : Prop := n ≤ 3000 ∧ (∀ j, j < n → T j < 256) ∧ ∀ j, n ≤ j → T j = 256
section RU
variable {q : Nat → Bool} {T : Nat → Nat} {n a : Nat}
theorem rn_no (h : q (T a) = false) : rn q T n a = a := by
  unfold rn
  cases e : n - a with
  | zero => rfl
  | succ f => simp only [ru, h, Bool.false_eq_true, if_false]
theorem rn_yes (h : q (T a) = true) (ha : a < n) : rn q T n a = rn q T n (a + 1) := by
  unfold rn
  rw [show n - a = (n - (a + 1)) + 1 by omega]
  simp only [ru, h, if_true]
theorem ru_ge : ∀ (f a : Nat), a ≤ ru q T f a
  | 0, a => Nat.le_refl _
  | f + 1, a => by
    unfold ru
    split
    · have := ru_ge f (a + 1); omega
    · exact Nat.le_refl _
theorem ru_le : ∀ (f a : Nat), ru q T f a ≤ a + f
  | 0, a => Nat.le_refl _
  | f + 1, a => by
    unfold ru
    split
    · have := ru_le f (a + 1); omega
    · omega
theorem rn_ge : a ≤ rn q T n a := ru_ge _ _
theorem rn_le (h : a ≤ n) : rn q T n a ≤ n := by
  have := ru_le (q := q) (T := T) (n - a) a
  unfold rn
  omega
theorem ru_in : ∀ (f a j : Nat), a ≤ j → j < ru q T f a → q (T j) = true
  | 0, a, j, h1, h2 => by
    have : j < a := h2
    omega
  | f + 1, a, j, h1, h2 => by
    unfold ru at h2
    split at h2
    · rename_i h
      by_cases e : j = a
      · rw [e]; exact h
      · exact ru_in f (a + 1) j (by omega) h2
    · omega
theorem rn_in {j : Nat} (h1 : a ≤ j) (h2 : j < rn q T n a) : q (T j) = true := ru_in _ _ _ h1 h2
theorem ru_out : ∀ (f a : Nat), ru q T f a < a + f → q (T (ru q T f a)) = false
  | 0, a, h => by
    have : a < a + 0 := h
    omega
  | f + 1, a, h => by
    unfold ru at h ⊢
    split at h
    · rename_i h1
      rw [if_pos h1]
      exact ru_out f (a + 1) (by omega)
    · rename_i h1
      rw [if_neg h1]
      exact Bool.eq_false_iff.mpr h1
theorem rn_out (hT : txt T n) (h : a ≤ n) (h256 : q 256 = false) : q (T (rn q T n a)) = false := by
  have h1 := rn_le (q := q) (T := T) h
  by_cases e : rn q T n a = n
  · rw [e, hT.2.2 n (Nat.le_refl _)]
    exact h256
  · exact ru_out _ _ (by
      show rn q T n a < a + (n - a)
      omega)
end RU
/-- bytes -/
def tby (T : Nat → Nat) (p i : Nat) : List Nat := (List.range i).map (fun j => T (p + j))
theorem tby_s (T : Nat → Nat) (p i : Nat) : tby T p (i + 1) = tby T p i ++ [T (p + i)] := by
  unfold tby
  rw [List.range_succ, List.map_append]
  rfl
theorem tby_len (T : Nat → Nat) (p i : Nat) : (tby T p i).length = i := by
  unfold tby
  rw [List.length_map, List.length_range]
/-- digits' value -/
def dvl (T : Nat → Nat) (p : Nat) : Nat → Nat
  | 0 => 0
  | i + 1 => dvl T p i * 10 + (T (p + i) - 48)
def wdl : List (List Nat) := [[100, 101, 102], [108, 101, 116], [105, 110], [105, 102], [116, 104, 101, 110], [101, 108, 115, 101], [112, 117, 116]]
/-- the kind of a name -/
def nkd (l : List Nat) : Nat := if l = [100, 101, 102] then 3 else if l = [108, 101, 116] then 4 else if l = [105, 110] then 5 else if l = [105, 102] then 6 else if l = [116, 104, 101, 110] then 7 else if l = [101, 108, 115, 101] then 8 else if l = [112, 117, 116] then 9 else 2
/-- the kind of a sign; 23: none -/
def sgk (c c2 : Nat) : Nat := if c = 40 then 10 else if c = 41 then 11 else if c = 44 then 12 else if c = 59 then 13 else if c = 61 then (if c2 = 61 then 21 else 14) else if c = 43 then 15 else if c = 45 then 16 else if c = 42 then 17 else if c = 47 then 18 else if c = 37 then 19 else if c = 60 then 20 else if c = 46 then 22 else 23
section TK
variable (T : Nat → Nat) (n a : Nat)
def tkS : Nat := rn isB T n a
def tkN : List Nat := tby T (tkS T n a) (rn isA T n (tkS T n a) - tkS T n a)
def tkL : Nat := rn isD T n (tkS T n a) - tkS T n a
def tkW : Nat := dvl T (tkS T n a) (min (tkL T n a) 10)
/-- kind -/
def tkK : Nat :=
  if T (tkS T n a) = 256 then 0
  else if isL (T (tkS T n a)) = true then (if (tkN T n a).length ≤ 8 then nkd (tkN T n a) else 23)
  else if isD (T (tkS T n a)) = true then (if tkL T n a ≤ 10 ∧ tkW T n a ≤ 2147483647 then 1 else 23)
  else sgk (T (tkS T n a)) (T (tkS T n a + 1))
/-- where it ends -/
def tkE : Nat :=
  if T (tkS T n a) = 256 then tkS T n a
  else if isL (T (tkS T n a)) = true then rn isA T n (tkS T n a)
  else if isD (T (tkS T n a)) = true then rn isD T n (tkS T n a)
  else if sgk (T (tkS T n a)) (T (tkS T n a + 1)) = 21 then tkS T n a + 2 else tkS T n a + 1
end TK
theorem isL_i {c : Nat} : isL c = true ↔ 97 ≤ c ∧ c ≤ 122 := by
  unfold isL
  rw [Bool.and_eq_true, Nat.ble_eq, Nat.ble_eq]
theorem isD_i {c : Nat} : isD c = true ↔ 48 ≤ c ∧ c ≤ 57 := by
  unfold isD
  rw [Bool.and_eq_true, Nat.ble_eq, Nat.ble_eq]
theorem isA_i {c : Nat} : isA c = true ↔ (97 ≤ c ∧ c ≤ 122) ∨ (48 ≤ c ∧ c ≤ 57) := by
  unfold isA
  rw [Bool.or_eq_true, isL_i, isD_i]
theorem isB_i {c : Nat} : isB c = true ↔ c = 9 ∨ c = 10 ∨ c = 13 ∨ c = 32 := by
  unfold isB
  simp only [Bool.or_eq_true, beq_iff_eq]
  omega
theorem nkd_ge (l : List Nat) : 2 ≤ nkd l ∧ nkd l ≤ 9 := by
  unfold nkd
  repeat' split
  all_goals decide
theorem sgk_ge (c c2 : Nat) : 10 ≤ sgk c c2 ∧ sgk c c2 ≤ 23 := by
  unfold sgk
  repeat' split
  all_goals decide
section TL
variable {T : Nat → Nat} {n a : Nat}
theorem tkS_ge : a ≤ tkS T n a := rn_ge
theorem tkS_le (h : a ≤ n) : tkS T n a ≤ n := rn_le h
theorem tkS_lt (hT : txt T n) (h : a ≤ n) (hk : T (tkS T n a) ≠ 256) : tkS T n a < n := by
  have := tkS_le (T := T) h
  by_cases e : tkS T n a = n
  · rw [e] at hk
    exact absurd (hT.2.2 n (Nat.le_refl _)) hk
  · omega
theorem tkK_le : tkK T n a ≤ 23 := by
  have h1 := nkd_ge (tkN T n a)
  have h2 := sgk_ge (T (tkS T n a)) (T (tkS T n a + 1))
  unfold tkK
  repeat' split
  all_goals omega
/-- a token that is one ends behind its beginning -/
theorem tkE_gt (hT : txt T n) (h : a ≤ n) (hk : tkK T n a ≠ 0) : a < tkE T n a := by
  have h1 := tkS_ge (T := T) (n := n) (a := a)
  have h5 : ¬ T (tkS T n a) = 256 := fun q => hk (by unfold tkK; rw [if_pos q])
  have h2 := tkS_lt hT h h5
  unfold tkE
  rw [if_neg h5]
  split
  · rename_i q
    have := rn_yes (q := isA) (n := n) (T := T) (a := tkS T n a) (by unfold isA; rw [q]; rfl) h2
    have h6 := rn_ge (q := isA) (n := n) (T := T) (a := tkS T n a + 1)
    omega
  · split
    · rename_i q
      have := rn_yes (q := isD) (n := n) (T := T) (a := tkS T n a) q h2
      have h6 := rn_ge (q := isD) (n := n) (T := T) (a := tkS T n a + 1)
      omega
    · split <;> omega
theorem tkE_le (hT : txt T n) (h : a ≤ n) : tkE T n a ≤ n := by
  have h1 := tkS_le (T := T) h
  unfold tkE
  split
  · exact h1
  · rename_i h5
    have h2 := tkS_lt hT h h5
    split
    · exact rn_le h1
    · split
      · exact rn_le h1
      · split
        · rename_i q
          have : T (tkS T n a + 1) = 61 := by
            unfold sgk at q
            repeat' split at q
            all_goals first | assumption | omega
          by_cases e : tkS T n a + 1 < n
          · omega
          · rw [hT.2.2 _ (by omega)] at this
            omega
        · omega
theorem tkE_p (hT : txt T n) (h : a ≤ n) : tkS T n a ≤ tkE T n a := by
  unfold tkE
  split
  · exact Nat.le_refl _
  · split
    · exact rn_ge
    · split
      · exact rn_ge
      · split <;> omega
/-- a token's end is behind its place -/
theorem tkE_gp (hT : txt T n) (h : a ≤ n) (hk : tkK T n a ≠ 0) : tkS T n a < tkE T n a := by
  have h5 : ¬ T (tkS T n a) = 256 := fun q => hk (by unfold tkK; rw [if_pos q])
  have h2 := tkS_lt hT h h5
  unfold tkE
  rw [if_neg h5]
  split
  · rename_i q
    have := rn_yes (q := isA) (n := n) (T := T) (a := tkS T n a) (by unfold isA; rw [q]; rfl) h2
    have h6 := rn_ge (q := isA) (n := n) (T := T) (a := tkS T n a + 1)
    omega
  · split
    · rename_i q
      have := rn_yes (q := isD) (n := n) (T := T) (a := tkS T n a) q h2
      have h6 := rn_ge (q := isD) (n := n) (T := T) (a := tkS T n a + 1)
      omega
    · split <;> omega
theorem tkN_ok (hT : txt T n) (h : a ≤ n) (hk : tkK T n a = 2) : nm_ok (tkN T n a) := by
  have h5 : ¬ T (tkS T n a) = 256 := fun q => by
    unfold tkK at hk
    rw [if_pos q] at hk
    omega
  have h2 := tkS_lt hT h h5
  unfold tkK at hk
  rw [if_neg h5] at hk
  have hl : isL (T (tkS T n a)) = true := by
    cases e : isL (T (tkS T n a)) with
    | true => rfl
    | false =>
      rw [e] at hk
      have h3 := sgk_ge (T (tkS T n a)) (T (tkS T n a + 1))
      split at hk
      · rename_i q; cases q
      · split at hk
        · split at hk <;> omega
        · omega
  rw [if_pos hl] at hk
  have h8 : (tkN T n a).length ≤ 8 := by
    by_cases e : (tkN T n a).length ≤ 8
    · exact e
    · rw [if_neg e] at hk; omega
  have h3 : tkS T n a < rn isA T n (tkS T n a) := by
    have := rn_yes (q := isA) (n := n) (T := T) (a := tkS T n a) (by unfold isA; rw [hl]; rfl) h2
    have h6 := rn_ge (q := isA) (n := n) (T := T) (a := tkS T n a + 1)
    omega
  have hlen : (tkN T n a).length = rn isA T n (tkS T n a) - tkS T n a := tby_len _ _ _
  refine ⟨fun q => ?_, h8, fun c hc => ?_, fun c hc => ?_⟩
  · rw [q] at hlen
    have : ([] : List Nat).length = 0 := rfl
    omega
  · unfold tkN tby at hc
    obtain ⟨j, hj, e⟩ := List.mem_map.mp hc
    have hj := List.mem_range.mp hj
    have := isA_i.mp (rn_in (q := isA) (T := T) (n := n) (a := tkS T n a) (j := tkS T n a + j) (by omega) (by omega))
    rw [e] at this
    unfold lt6
    rcases this with q | q
    · rw [if_pos q]; omega
    · rw [if_neg (by omega), if_pos q]; omega
  · unfold tkN tby at hc
    rw [show rn isA T n (tkS T n a) - tkS T n a = (rn isA T n (tkS T n a) - tkS T n a - 1) + 1 by omega, List.range_succ_eq_map] at hc
    have hc : some (T (tkS T n a + 0)) = some c := hc
    have := (isL_i.mp hl).1
    rw [← Option.some.inj hc]
    exact this
end TL
