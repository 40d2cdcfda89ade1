/-! FORESTS: .inner _ k v kids rest: a first tree (kind k, value v), then the rest; .leaf: none -/
abbrev Fo : Type := Std.DTreeMap.Internal.Impl Int32 (fun _ => Int32)
/-- nodes -/
def fo_n : Fo → Nat
  | .inner _ _ _ a b => fo_n a + 1 + fo_n b
  | .leaf => 0
/-- trees -/
def fo_l : Fo → Nat
  | .inner _ _ _ _ b => fo_l b + 1
  | .leaf => 0
/-- in prefix order -/
def fo_p : Fo → List (Int32 × Int32)
  | .inner _ k v a b => (k, v) :: (fo_p a ++ fo_p b)
  | .leaf => []
/-- calls -/
def fo_c : Fo → Nat
  | .inner _ k _ a b => fo_c a + (if k = 15 then 1 else 0) + fo_c b
  | .leaf => 0
/-- the postfix numbers of the trees' roots, the forest's first node being number o -/
def fo_r : Fo → Nat → List Nat
  | .inner _ _ _ a b, o => (o + fo_n a) :: fo_r b (o + fo_n a + 1)
  | .leaf, _ => []
/-- node number m of kind k and value v, with roots rs below it, in the model's rows -/
def fo_k (K A B C G : Nat → Int32) (N : Nat) (ix : Nat → Nat) (m : Nat) (k v : Int32) (rs : List Nat) : Prop :=
  K (ix m) = k ∧ (k = 1 ∨ k = 2 → A (ix m) = v) ∧
  (k = 15 → C (ix m) = v ∧ B (ix m) = nI rs.length ∧ ∃ q, A (ix m) = nI q ∧ q + rs.length ≤ N ∧ ∀ i r, rs[i]? = some r → G (q + i) = nI (ix r)) ∧
  (¬ (k = 1 ∨ k = 2 ∨ k = 15) → (∀ r, rs[0]? = some r → A (ix m) = nI (ix r)) ∧ (∀ r, rs[1]? = some r → B (ix m) = nI (ix r)) ∧ (∀ r, rs[2]? = some r → C (ix m) = nI (ix r)) ∧ (k = 14 → C (ix m) = v))
/-- the forest in the model's rows, its first node being number o -/
def fo_m (K A B C G : Nat → Int32) (N : Nat) (ix : Nat → Nat) : Fo → Nat → Prop
  | .inner _ k v a b, o => fo_m K A B C G N ix a o ∧ fo_k K A B C G N ix (o + fo_n a) k v (fo_r a o) ∧ fo_m K A B C G N ix b (o + fo_n a + 1)
  | .leaf, _ => True
/-- how many kids -/
def k_ar (par : Int32 → Nat) (k v : Int32) : Nat := if k = 1 ∨ k = 2 then 0 else if k = 10 ∨ k = 11 then 1 else if k = 13 then 3 else if k = 15 then par v else 2
/-- the scopes of a node's kids -/
def k_sc (k v : Int32) (s : List Int32) : Nat → List Int32 := fun i => if k = 14 ∧ ¬ i = 0 then v :: s else s
/-- well formed: kinds, kids, variables in scope, functions that are there -/
def fo_w (n : Nat) (par : Int32 → Nat) : Fo → (Nat → List Int32) → Prop
  | .inner _ k v a b, S => (∃ j, 1 ≤ j ∧ j ≤ 15 ∧ k = nI j) ∧ fo_l a = k_ar par k v ∧ (k = 2 → v ∈ S 0) ∧ (k = 15 → ∃ g, v = nI g ∧ g < n) ∧ fo_w n par a (k_sc k v (S 0)) ∧ fo_w n par b (fun i => S (i + 1))
  | .leaf, _ => True
/-- the variables of its lets -/
def fo_b : Fo → List Int32
  | .inner _ k v a b => (if k = 14 then [v] else []) ++ fo_b a ++ fo_b b
  | .leaf => []
/-- the functions that it calls, in postfix order -/
def fo_g : Fo → List Int32
  | .inner _ k v a b => fo_g a ++ (if k = 15 then [v] else []) ++ fo_g b
  | .leaf => []
theorem fo_pn : ∀ F : Fo, (fo_p F).length = fo_n F
  | .inner _ _ _ a b => by
    simp only [fo_p, fo_n, List.length_cons, List.length_append, fo_pn a, fo_pn b]
    omega
  | .leaf => rfl
theorem fo_rl : ∀ (F : Fo) (o : Nat), (fo_r F o).length = fo_l F
  | .inner _ _ _ a b, o => by simp only [fo_r, fo_l, List.length_cons, fo_rl b]
  | .leaf, _ => rfl
/-- calls counted in prefix order and in postfix order -/
theorem fo_cp : ∀ F : Fo, (fo_p F).countP (fun q => q.1 = 15) = fo_c F
  | .inner _ k v a b => by
    simp only [fo_p, fo_c, List.countP_cons, List.countP_append, fo_cp a, fo_cp b, decide_eq_true_eq]
    omega
  | .leaf => rfl
theorem fo_cm {K A B C G : Nat → Int32} {N : Nat} {ix : Nat → Nat} : ∀ (F : Fo) (o : Nat), fo_m K A B C G N ix F o → (List.range' o (fo_n F)).countP (fun i => K (ix i) = 15) = fo_c F
  | .inner z k v a b, o, h => by
    have ha := fo_cm a o h.1
    have hb := fo_cm b _ h.2.2
    have e : fo_n (.inner z k v a b) = fo_n a + (1 + fo_n b) := by simp only [fo_n]; omega
    rw [e, ← List.range'_append, List.countP_append, ha, Nat.one_mul, Nat.add_comm 1 (fo_n b), List.range'_succ, List.countP_cons, hb, h.2.1.1]
    simp only [fo_c, decide_eq_true_eq]
    omega
  | .leaf, _, _ => rfl
