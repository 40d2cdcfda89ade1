/-! THE MACHINE: frames (function, place, slots that are set, values, the latest first), the top one first -/
abbrev Frm : Type := Nat × Nat × List Int32 × List Int32
abbrev MSt : Type := List Frm × List Int32 × Nat
def fsz (L : List Fn) (f : Nat) : Nat := 2 + fnS (fAt L f) + fnT (fAt L f)
/-- the words of frames -/
def bsz (L : List Fn) : List Frm → Nat
  | [] => 0
  | x :: r => fsz L x.1 + bsz L r
def op2 (k a b : Int32) : Int32 := if k = 3 then a + b else if k = 4 then a - b else if k = 5 then a * b else if k = 6 then a / b else if k = 7 then a - a / b * b else if k = 8 then (if a < b then 1 else 0) else if k = 9 then (if a = b then 1 else 0) else 0
def setx (l : List Int32) (s : Nat) (v : Int32) : List Int32 := if s < l.length then l.set s v else l ++ [v]
/-- the state of a frame behind one instruction that goes on in the frame, or nothing -/
def mloc (k n : Int32) (pc : Nat) (sl sk : List Int32) : Option (Nat × List Int32 × List Int32) :=
  if k = 1 then some (pc + 1, sl, n :: sk)
  else if k = 2 then some (pc + 1, sl, (sl[n.toNatClampNeg]?).getD 0 :: sk)
  else if k = 15 then some (n.toNatClampNeg, sl, sk)
  else match sk with
    | [] => none
    | v :: r =>
      if k = 10 then some (pc + 1, sl, -v :: r)
      else if k = 12 then some (pc + 1, sl, r)
      else if k = 13 then some (pc + 1, setx sl n.toNatClampNeg v, r)
      else if k = 14 then some ((if v = 0 then n.toNatClampNeg else pc + 1), sl, r)
      else none
def mstep (L : List Fn) (al : Nat) (m : MSt) : Int32 × Int32 × MSt :=
  match m with
  | ([], ps, mo) => (0, 0, [], ps, mo)
  | ((f, pc, sl, sk) :: rest, ps, mo) =>
    match (fnC (fAt L f))[pc]? with
    | none => (0, 0, (f, pc, sl, sk) :: rest, ps, mo)
    | some (k, n) =>
      match mloc k n pc sl sk with
      | some x => (0, 0, (f, x) :: rest, ps, mo)
      | none =>
        if k = 16 then
          (if al < bsz L rest + fsz L f + fsz L n.toNatClampNeg then (2, 0, m) else (0, 0, (n.toNatClampNeg, 0, (sk.take (fnP (fAt L n.toNatClampNeg))).reverse, []) :: (f, pc + 1, sl, sk.drop (fnP (fAt L n.toNatClampNeg))) :: rest, ps, max mo (bsz L rest + fsz L f + fsz L n.toNatClampNeg)))
        else if k = 18 ∨ k = 19 then
          (let g := if k = 18 then f else n.toNatClampNeg
           if al < bsz L rest + fsz L g then (2, 0, m) else (0, 0, (g, 0, (sk.take (fnP (fAt L g))).reverse, []) :: rest, ps, max mo (bsz L rest + fsz L g)))
        else match sk with
          | [] => (0, 0, m)
          | v :: r =>
            if k = 11 then (if 200 ≤ ps.length then (5, 0, m) else (0, 0, (f, pc + 1, sl, sk) :: rest, ps ++ [v], mo))
            else if k = 17 then
              (match rest with
               | [] => (1, v, m)
               | (f2, pc2, sl2, sk2) :: rest2 => (0, 0, (f2, pc2, sl2, v :: sk2) :: rest2, ps, mo))
            else match r with
              | [] => (0, 0, m)
              | a :: r2 => if (k = 6 ∨ k = 7) ∧ v = 0 then (3, 0, m) else (0, 0, (f, pc + 1, sl, op2 k a v :: r2) :: rest, ps, mo)
/-- halt, outcome, steps, state -/
def mrun (L : List Fn) (al : Nat) : Nat → MSt → Int32 × Int32 × Nat × MSt
  | 0, m => (4, 0, 0, m)
  | k + 1, m => if (mstep L al m).1 = 0 then ((mrun L al k (mstep L al m).2.2).1, (mrun L al k (mstep L al m).2.2).2.1, (mrun L al k (mstep L al m).2.2).2.2.1 + 1, (mrun L al k (mstep L al m).2.2).2.2.2) else ((mstep L al m).1, (mstep L al m).2.1, 1, (mstep L al m).2.2)
section MC
variable {A L : List Fn} {H : Nat → Nat → Nat × Nat} {al : Nat}
/-- a frame that keeps to its function's words; w values more are due -/
def frOk (L : List Fn) (H : Nat → Nat → Nat × Nat) (w : Nat) (x : Frm) : Prop := x.1 < L.length ∧ x.2.1 < (fnC (fAt L x.1)).length ∧ x.2.2.2.length + w = (H x.1 x.2.1).1 ∧ (H x.1 x.2.1).2 ≤ x.2.2.1.length ∧ x.2.2.1.length ≤ fnS (fAt L x.1)
def tyM (L : List Fn) (H : Nat → Nat → Nat × Nat) (al : Nat) (m : MSt) : Prop := ∃ x rest, m.1 = x :: rest ∧ frOk L H 0 x ∧ (∀ y ∈ rest, frOk L H 1 y) ∧ bsz L m.1 ≤ al ∧ m.2.1.length ≤ 200 ∧ m.2.2 ≤ al
/-- what is known of the functions -/
def mcOk (A L : List Fn) (H : Nat → Nat → Nat × Nat) : Prop := L.length = A.length ∧ L.length ≤ 24 ∧ (∀ f, f < L.length → fnP (fAt L f) = parOf A (nI f) ∧ fnP (fAt L f) ≤ 6 ∧ fnP (fAt L f) ≤ fnS (fAt L f) ∧ 0 ≤ fnT (fAt L f) ∧ fnS (fAt L f) ≤ 200 ∧ fnT (fAt L f) ≤ 600 ∧ 0 < (fnC (fAt L f)).length ∧ (fnC (fAt L f)).length ≤ 1000 ∧ (H f 0).1 = 0 ∧ (H f 0).2 ≤ fnP (fAt L f) ∧ ∀ pc q, (fnC (fAt L f))[pc]? = some q → cd_at A f (fnS (fAt L f)) (fnT (fAt L f)) (fnC (fAt L f)).length (H f) pc q)
theorem fAt_e {f : Nat} {F : Fn} (h : L[f]? = some F) : fAt L f = F := by unfold fAt; rw [h]; rfl
theorem setx_len {l : List Int32} {s : Nat} {v : Int32} (h : s ≤ l.length) : (setx l s v).length = max l.length (s + 1) := by
  unfold setx
  split
  · rw [List.length_set]; omega
  · rw [List.length_append]; simp; omega
theorem bsz_pos {m : List Frm} (hm : mcOk A L H) (h : ∀ y ∈ m, frOk L H 1 y) : 3 * m.length ≤ bsz L m := by
  induction m with
  | nil => exact Nat.le_refl _
  | cons x r ih =>
    have h1 := ih (fun y hy => h y (List.mem_cons_of_mem _ hy))
    obtain ⟨w1, w2, w3, -⟩ := h x List.mem_cons_self
    have h2 := ((hm.2.2 x.1 w1).2.2.2.2.2.2.2.2.2.2 x.2.1 _ (List.getElem?_eq_getElem w2)).1
    simp only [bsz, List.length_cons]
    unfold fsz
    omega
end MC
