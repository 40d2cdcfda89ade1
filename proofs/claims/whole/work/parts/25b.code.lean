/-! THE CODE OF AN EXPRESSION: kids i .. of a node pk, pv that is at an end (e) or not, n variables around it, slots σ, from place o on -/
def kLast (pk : Int32) (dn : Nat) : Bool := if pk = 13 then decide (0 < dn) else (decide (pk = 14) || decide (pk = 12)) && decide (dn = 1)
def eR (e : Bool) : List (Int32 × Int32) := if e then [(17, 0)] else []
/-- what is emitted when a node is left -/
def eL (tl : Bool) (own : Nat) (k v : Int32) (e : Bool) (σ : Int32 → Nat) : List (Int32 × Int32) :=
  if k = 12 ∨ k = 14 ∨ k = 13 then []
  else if k = 15 then (if e = false ∨ tl = false then (16, v) :: eR e else if v = nI own then [(18, 0)] else [(19, v)])
  else if k = 1 then (1, v) :: eR e
  else if k = 2 then (2, nI (σ v)) :: eR e
  else (k, 0) :: eR e
/-- what is emitted behind kid i -/
def eS (pk : Int32) (i : Nat) (e : Bool) (n x : Nat) : List (Int32 × Int32) :=
  if pk = 12 ∧ i = 0 then [(12, 0)]
  else if pk = 14 ∧ i = 0 then [(13, nI n)]
  else if pk = 13 ∧ i = 0 then [(14, nI x)]
  else if pk = 13 ∧ i = 1 ∧ e = false then [(15, nI x)]
  else []
def eD (pk : Int32) (i n : Nat) : Nat := if pk = 14 ∧ i = 1 then n + 1 else n
def eV (pk pv : Int32) (i n : Nat) (σ : Int32 → Nat) : Int32 → Nat := if pk = 14 ∧ i = 1 then (fun w => if w = pv then n else σ w) else σ
def eN (tl : Bool) (own : Nat) : Fo → Bool → Int32 → Nat → Nat
  | .inner _ k v a b, e, pk, i => eN tl own a (e && kLast pk i) k 0 + (eL tl own k v (e && kLast pk i) (fun _ => 0)).length + (eS pk i e 0 0).length + eN tl own b e pk (i + 1)
  | .leaf, _, _, _ => 0
/-- the first tree's code, with what stands behind it -/
def eH (tl : Bool) (own : Nat) : Fo → Bool → Int32 → Nat → Nat
  | .inner _ k v a _, e, pk, i => eN tl own a (e && kLast pk i) k 0 + (eL tl own k v (e && kLast pk i) (fun _ => 0)).length + (eS pk i e 0 0).length
  | .leaf, _, _, _ => 0
def eF (tl : Bool) (own : Nat) : Fo → Bool → Nat → (Int32 → Nat) → Int32 → Int32 → Nat → Nat → List (Int32 × Int32)
  | .inner z k v a b, e, n, σ, pk, pv, i, o =>
    eF tl own a (e && kLast pk i) (eD pk i n) (eV pk pv i n σ) k v 0 o ++ eL tl own k v (e && kLast pk i) (eV pk pv i n σ) ++ eS pk i e n (o + eH tl own (.inner z k v a b) e pk i + (if i = 0 then eH tl own b e pk 1 else eN tl own b e pk (i + 1))) ++ eF tl own b e n σ pk pv (i + 1) (o + eH tl own (.inner z k v a b) e pk i)
  | .leaf, _, _, _, _, _, _, _ => []
/-- one tree -/
def eX (tl : Bool) (own : Nat) (k v : Int32) (a : Fo) (e : Bool) (n : Nat) (σ : Int32 → Nat) (o : Nat) : List (Int32 × Int32) := eF tl own a e n σ k v 0 o ++ eL tl own k v e σ
def eXn (tl : Bool) (own : Nat) (k v : Int32) (a : Fo) (e : Bool) : Nat := eN tl own a e k 0 + (eL tl own k v e (fun _ => 0)).length
/-- the greatest height -/
def eM (tl : Bool) : Fo → Bool → Int32 → Nat → Nat → Nat → Nat
  | .inner _ k _ a b, e, pk, i, h, m =>
    let hk := if pk = 12 ∨ pk = 14 ∨ pk = 13 then h else h + i
    let m1 := eM tl a (e && kLast pk i) k 0 hk m
    eM tl b e pk (i + 1) h (if k = 12 ∨ k = 14 ∨ k = 13 ∨ (k = 15 ∧ (e && kLast pk i) = true ∧ tl = true) then m1 else max m1 (hk + 1))
  | .leaf, _, _, _, _, m => m
/-- the slots -/
def eZ : Fo → Nat → (Int32 → Nat) → Int32 → Int32 → Nat → Nat → Nat
  | .inner _ k v a b, n, σ, pk, pv, i, z =>
    let z1 := eZ a (eD pk i n) (eV pk pv i n σ) k v 0 z
    let z2 := if k = 2 then max z1 (eV pk pv i n σ v + 1) else z1
    eZ b n σ pk pv (i + 1) (if pk = 14 ∧ i = 0 then max z2 (n + 1) else z2)
  | .leaf, _, _, _, _, _, z => z
theorem eL_len {tl : Bool} {own : Nat} {k v : Int32} {e : Bool} {σ σ' : Int32 → Nat} : (eL tl own k v e σ).length = (eL tl own k v e σ').length := by
  unfold eL
  repeat' split
  all_goals rfl
theorem eS_len {pk : Int32} {i : Nat} {e : Bool} {n n' x x' : Nat} : (eS pk i e n x).length = (eS pk i e n' x').length := by
  unfold eS
  repeat' split
  all_goals rfl
section EN
variable {tl : Bool} {own : Nat}
theorem eN_H : ∀ (F : Fo) (e : Bool) (pk : Int32) (i : Nat), eN tl own F e pk i = eH tl own F e pk i + (match F with | .inner _ _ _ _ b => eN tl own b e pk (i + 1) | .leaf => 0)
  | .inner _ k v a b, e, pk, i => rfl
  | .leaf, _, _, _ => rfl
theorem eF_len : ∀ (F : Fo) (e : Bool) (n : Nat) (σ : Int32 → Nat) (pk pv : Int32) (i o : Nat), (eF tl own F e n σ pk pv i o).length = eN tl own F e pk i
  | .inner z k v a b, e, n, σ, pk, pv, i, o => by
    simp only [eF, eN, List.length_append, eF_len a, eF_len b]
    rw [eL_len (σ' := fun _ => 0), eS_len (n' := 0) (x' := 0)]
  | .leaf, _, _, _, _, _, _, _ => rfl
theorem eX_len {k v : Int32} {a : Fo} {e : Bool} {n : Nat} {σ : Int32 → Nat} {o : Nat} : (eX tl own k v a e n σ o).length = eXn tl own k v a e := by
  unfold eX eXn
  rw [List.length_append, eF_len, eL_len]
theorem eL_le (k v : Int32) (e : Bool) (σ : Int32 → Nat) : (eL tl own k v e σ).length ≤ 1 + (if e then 1 else 0) := by
  unfold eL eR
  cases e <;> (repeat' split) <;> simp
end EN
/-- a program's function: its code, slots and temps are those of its expression -/
def fo_sl (P : Nat) : Int32 → Nat := fun v => v.toNatClampNeg
abbrev eTC (tl : Bool) (own P : Nat) (F : Fo) : List (Int32 × Int32) := eF tl own F true P Int32.toNatClampNeg 12 0 1 0
abbrev eTM (tl : Bool) (F : Fo) : Nat := eM tl F true 12 1 0 0
abbrev eTZ (P : Nat) (F : Fo) : Nat := eZ F P Int32.toNatClampNeg 12 0 1 P
