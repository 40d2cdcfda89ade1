/-! PUTTING FUNCTIONS WHERE THEY ARE CALLED: the class's two passes, pure -/
section IP
variable (ok : Nat → Bool) (par : Int32 → Nat) (bd : Nat → Fo) (bV : Nat → Nat)
/-- what is chosen for a node -/
def iCho (k v : Int32) (s : IS) : Int32 := if k = 15 ∧ iMay ok par bd bV v.toNatClampNeg s = true then nI s.2.1 else -1
def iSt (k v : Int32) (s : IS) : IS := if k = 15 ∧ iMay ok par bd bV v.toNatClampNeg s = true then iNew par bd bV v.toNatClampNeg s else s
/-- the first pass: choices by place -/
def chF : Fo → Nat → (Nat → Int32) × IS → (Nat → Int32) × IS
  | .inner _ k v a b, nx, q => chF b (nx + 1 + fo_n a) (va_up (chF a (nx + 1) q).1 nx (iCho ok par bd bV k v (chF a (nx + 1) q).2), iSt ok par bd bV k v (chF a (nx + 1) q).2)
  | .leaf, _, q => q
def chL (s0 : Nat) (st : WS) (q : (Nat → Int32) × IS) : (Nat → Int32) × IS := match st.getLast? with
  | none => q
  | some (nd, k, v, _, _) => (va_up q.1 (nd - s0) (iCho ok par bd bV k v q.2), iSt ok par bd bV k v q.2)
/-- the second pass -/
def cpE (s0 : Nat) (B : Nat → Int32) (st : WS) (L : List (Int32 × Int32)) : List (Int32 × Int32) := match st.getLast? with
  | none => L
  | some (nd, k, v, _, _) => if B (nd - s0) = -1 then L ++ [(k, v)] else if 0 < par v then L ++ [(14, B (nd - s0) + nI 0)] else L
def cpB (s0 : Nat) (B : Nat → Int32) (st : WS) (L : List (Int32 × Int32)) : List (Int32 × Int32) := match st.getLast? with
  | none => L
  | some (nd, _, v, dn, _) => if B (nd - s0) = -1 then L else if dn < par v then L ++ [(14, B (nd - s0) + nI dn)] else L
def cpL (s0 : Nat) (B : Nat → Int32) (st : WS) (L : List (Int32 × Int32)) : List (Int32 × Int32) := match st.getLast? with
  | none => L
  | some (nd, _, v, _, _) => if B (nd - s0) = -1 then L else L ++ fo_p (fo_sh (B (nd - s0)).toNatClampNeg (bd v.toNatClampNeg))
/-- the kids c .. of P: with lets before those that are not the first, if the parent gives way to x -/
def sepI (x : Option Nat) (c P : Nat) : List (Int32 × Int32) := match x with
  | none => []
  | some q => if c + 1 < P then [(14, nI (q + (c + 1)))] else []
def trI (k v : Int32) (a' : Fo) (s : IS) : List (Int32 × Int32) := if k = 15 ∧ iMay ok par bd bV v.toNatClampNeg s = true then fo_p (nest s.2.1 a' (fo_sh s.2.1 (bd v.toNatClampNeg))) else (k, v) :: fo_p a'
def outI (x : Option Nat) (P : Nat) : Fo → IS → Nat → List (Int32 × Int32)
  | .inner _ k v a b, s, c => trI ok par bd bV k v (inF ok par bd bV a s).1 (inF ok par bd bV a s).2 ++ sepI x c P ++ outI x P b (iSt ok par bd bV k v (inF ok par bd bV a s).2) (c + 1)
  | .leaf, _, _ => []
end IP
section IQ
variable {ok : Nat → Bool} {par : Int32 → Nat} {bd : Nat → Fo} {bV : Nat → Nat}
theorem inF_in {z : Nat} {k v : Int32} {a b : Fo} {s : IS} : inF ok par bd bV (.inner z k v a b) s = (fo_ap (if k = 15 ∧ iMay ok par bd bV v.toNatClampNeg (inF ok par bd bV a s).2 = true then nest (inF ok par bd bV a s).2.2.1 (inF ok par bd bV a s).1 (fo_sh (inF ok par bd bV a s).2.2.1 (bd v.toNatClampNeg)) else .inner z k v (inF ok par bd bV a s).1 .leaf) (inF ok par bd bV b (iSt ok par bd bV k v (inF ok par bd bV a s).2)).1, (inF ok par bd bV b (iSt ok par bd bV k v (inF ok par bd bV a s).2)).2) := by
  unfold iSt
  by_cases h : k = 15 ∧ iMay ok par bd bV v.toNatClampNeg (inF ok par bd bV a s).2 = true
  · rw [inF_y h, if_pos h, if_pos h]
  · rw [inF_n h, if_neg h, if_neg h]
    rfl
theorem chF_s : ∀ (F : Fo) (nx : Nat) (q : (Nat → Int32) × IS), (chF ok par bd bV F nx q).2 = (inF ok par bd bV F q.2).2
  | .leaf, _, _ => rfl
  | .inner z k v a b, nx, q => by
    rw [chF, chF_s b, inF_in, chF_s a]
theorem chF_o : ∀ (F : Fo) (nx : Nat) (q : (Nat → Int32) × IS) (j : Nat), (j < nx ∨ nx + fo_n F ≤ j) → (chF ok par bd bV F nx q).1 j = q.1 j
  | .leaf, _, _, _, _ => rfl
  | .inner z k v a b, nx, q, j, h => by
    have en : fo_n (.inner z k v a b) = fo_n a + 1 + fo_n b := rfl
    rw [chF, chF_o b _ _ j (by omega)]
    dsimp only
    rw [va_up_ne _ _ (by omega), chF_o a _ _ j (by omega)]
theorem vis_ch {s0 : Nat} : ∀ (F : Fo) (st : WS) (top : WT) (nx : Nat) (q : (Nat → Int32) × IS), vis (fun _ q => q) (chL ok par bd bV s0) (fun _ q => q) F st top (s0 + nx) q = chF ok par bd bV F nx q
  | .leaf, _, _, _, _ => rfl
  | .inner z k v a b, st, top, nx, q => by
    rw [vis, chF, show s0 + nx + 1 = s0 + (nx + 1) by omega, vis_ch a, show s0 + (nx + 1) + fo_n a = s0 + (nx + 1 + fo_n a) by omega, vis_ch b]
    congr 1
    unfold chL
    have e : (st ++ [top] ++ [(s0 + nx, k, v, fo_l a, fo_l a)]).getLast? = some (s0 + nx, k, v, fo_l a, fo_l a) := by simp
    rw [e]
    dsimp only
    rw [Nat.add_sub_cancel_left]
theorem nest_ap {i : Nat} {T R B : Fo} (h : fo_l T = 1) : nest i (fo_ap T R) B = .inner 0 14 (nI i) (fo_ap T (nest (i + 1) R B)) .leaf := by
  match T, h with
  | .leaf, h => cases h
  | .inner z k v a .leaf, _ => rfl
  | .inner _ _ _ _ (.inner _ _ _ _ b), h => simp [fo_l] at h
theorem out_none {P : Nat} : ∀ (F : Fo) (s : IS) (c : Nat), outI ok par bd bV none P F s c = fo_p (inF ok par bd bV F s).1
  | .leaf, _, _ => rfl
  | .inner z k v a b, s, c => by
    rw [outI, inF_in, fo_p_ap, out_none b]
    unfold trI sepI
    rw [List.append_nil]
    congr 1
    split
    · rfl
    · simp [fo_p]
theorem out_nest {q P : Nat} {B : Fo} (hbd : ∀ g, ok g = true → fo_l (bd g) = 1) : ∀ (F : Fo) (s : IS) (c : Nat), c + fo_l F = P → fo_p (nest (q + c) (inF ok par bd bV F s).1 B) = (if c < P then [(14, nI (q + c))] else []) ++ outI ok par bd bV (some q) P F s c ++ fo_p B
  | .leaf, s, c, h => by
    have : c = P := h
    rw [if_neg (by omega)]
    rfl
  | .inner z k v a b, s, c, h => by
    have el : fo_l (.inner z k v a b) = fo_l b + 1 := rfl
    have hT : fo_l (if k = 15 ∧ iMay ok par bd bV v.toNatClampNeg (inF ok par bd bV a s).2 = true then nest (inF ok par bd bV a s).2.2.1 (inF ok par bd bV a s).1 (fo_sh (inF ok par bd bV a s).2.2.1 (bd v.toNatClampNeg)) else .inner z k v (inF ok par bd bV a s).1 .leaf) = 1 := by
      split
      · rename_i hh
        have hm := hh.2
        unfold iMay at hm
        rw [Bool.and_eq_true] at hm
        exact fo_l_nest _ _ _ (by rw [fo_l_sh]; exact hbd _ hm.1)
      · rfl
    have et : trI ok par bd bV k v (inF ok par bd bV a s).1 (inF ok par bd bV a s).2 = fo_p (if k = 15 ∧ iMay ok par bd bV v.toNatClampNeg (inF ok par bd bV a s).2 = true then nest (inF ok par bd bV a s).2.2.1 (inF ok par bd bV a s).1 (fo_sh (inF ok par bd bV a s).2.2.1 (bd v.toNatClampNeg)) else .inner z k v (inF ok par bd bV a s).1 .leaf) := by
      unfold trI
      split
      · rfl
      · simp [fo_p]
    rw [inF_in, outI]
    dsimp only
    obtain ⟨T, eT⟩ : ∃ T, (if k = 15 ∧ iMay ok par bd bV v.toNatClampNeg (inF ok par bd bV a s).2 = true then nest (inF ok par bd bV a s).2.2.1 (inF ok par bd bV a s).1 (fo_sh (inF ok par bd bV a s).2.2.1 (bd v.toNatClampNeg)) else .inner z k v (inF ok par bd bV a s).1 .leaf) = T := ⟨_, rfl⟩
    rw [eT] at hT et ⊢
    rw [nest_ap hT, et]
    have ih := out_nest (q := q) (P := P) (B := B) hbd b (iSt ok par bd bV k v (inF ok par bd bV a s).2) (c + 1) (by omega)
    rw [show q + (c + 1) = q + c + 1 by omega] at ih
    simp only [fo_p]
    rw [fo_p_ap, ih, if_pos (show c < P by omega)]
    unfold sepI
    dsimp only
    rw [show q + (c + 1) = q + c + 1 by omega]
    simp only [List.append_assoc, List.nil_append, List.cons_append, List.append_nil]
theorem inF_v : ∀ (F : Fo) (s : IS), s.2.1 ≤ 120 → (inF ok par bd bV F s).2.2.1 ≤ 120
  | .leaf, _, h => h
  | .inner z k v a b, s, h => by
    rw [inF_in]
    dsimp only
    refine inF_v b _ ?_
    have ha := inF_v a s h
    unfold iSt
    split
    · rename_i hh
      have hm := hh.2
      unfold iMay at hm
      rw [Bool.and_eq_true, Bool.and_eq_true, decide_eq_true_eq, decide_eq_true_eq] at hm
      unfold iNew
      exact hm.2.2
    · exact ha
/-- the second pass over kids, with the choices of the first -/
theorem vis_cp {n s0 : Nat} {B : Nat → Int32} (hn : n ≤ 24) (hbd : ∀ g, ok g = true → fo_l (bd g) = 1) : ∀ (F : Fo) (S : Nat → List Int32) (st : WS) (top : WT) (nx : Nat) (s : IS) (Br : Nat → Int32) (x : Option Nat) (L : List (Int32 × Int32)), fo_w n par F S → s.2.1 ≤ 120 → (∀ j, nx ≤ j → j < nx + fo_n F → B j = (chF ok par bd bV F nx (Br, s)).1 j) → (match x with | none => B (top.1 - s0) = -1 | some q => B (top.1 - s0) = nI q ∧ q < 2 ^ 20) → vis (cpE par s0 B) (cpL bd s0 B) (cpB par s0 B) F st top (s0 + nx) L = L ++ outI ok par bd bV x (par top.2.2.1) F s top.2.2.2.1
  | .leaf, _, _, _, _, _, _, _, L, _, _, _, _ => (List.append_nil L).symm
  | .inner z k v a b, S, st, top, nx, s, Br, x, L, hw, hs, hB, hx => by
    obtain ⟨w1, w2, w3, w4, w5, w6⟩ := hw
    have en : fo_n (.inner z k v a b) = fo_n a + 1 + fo_n b := rfl
    obtain ⟨sa, esa⟩ : ∃ sa, (inF ok par bd bV a s).2 = sa := ⟨_, rfl⟩
    have hca : (chF ok par bd bV a (nx + 1) (Br, s)).2 = sa := by rw [chF_s]; exact esa
    -- what stands at this node
    have hBn : B nx = iCho ok par bd bV k v sa := by
      rw [hB nx (Nat.le_refl _) (by omega), chF, chF_o b _ _ nx (by omega)]
      dsimp only
      rw [va_up_self, hca]
    have hBa : ∀ j, nx + 1 ≤ j → j < nx + 1 + fo_n a → B j = (chF ok par bd bV a (nx + 1) (Br, s)).1 j := by
      intro j j1 j2
      rw [hB j (by omega) (by omega), chF, chF_o b _ _ j (by omega)]
      dsimp only
      rw [va_up_ne _ _ (by omega)]
    have hBb : ∀ j, nx + 1 + fo_n a ≤ j → j < nx + 1 + fo_n a + fo_n b → B j = (chF ok par bd bV b (nx + 1 + fo_n a) (va_up (chF ok par bd bV a (nx + 1) (Br, s)).1 nx (iCho ok par bd bV k v sa), iSt ok par bd bV k v sa)).1 j := by
      intro j j1 j2
      rw [hB j (by omega) (by omega), chF, hca]
    rw [vis, show s0 + nx + 1 = s0 + (nx + 1) by omega, show s0 + (nx + 1) + fo_n a = s0 + (nx + 1 + fo_n a) by omega]
    have g1 : ∀ (q1 q2 : WT), (st ++ [q1] ++ [q2]).getLast? = some q2 := fun q1 q2 => by simp
    have g2 : ∀ (q1 : WT), (st ++ [q1]).getLast? = some q1 := fun q1 => by simp
    have hsa : sa.2.1 ≤ 120 := by rw [← esa]; exact inF_v a s hs
    have hst : (iSt ok par bd bV k v sa).2.1 ≤ 120 := by
      unfold iSt
      split
      · rename_i hh
        have hm := hh.2
        unfold iMay at hm
        rw [Bool.and_eq_true, Bool.and_eq_true, decide_eq_true_eq, decide_eq_true_eq] at hm
        unfold iNew
        exact hm.2.2
      · exact hsa
    have nm1 : ∀ q : Nat, q < 2 ^ 20 → ¬ nI q = -1 := fun q hq c => by
      have := nI_pos (n := q) (by omega)
      rw [c] at this
      exact this (by decide)
    -- the separator behind this tree
    have sep : ∀ L', cpB par s0 B (st ++ [wbump top]) L' = L' ++ sepI x top.2.2.2.1 (par top.2.2.1) := by
      intro L'
      unfold cpB
      rw [g2]
      dsimp only
      cases x with
      | none =>
        rw [if_pos hx]
        exact (List.append_nil L').symm
      | some q =>
        obtain ⟨hx1, hx2⟩ := hx
        rw [if_neg (by rw [hx1]; exact nm1 q hx2), hx1]
        unfold sepI
        dsimp only
        split
        · rw [nI_add]
        · exact (List.append_nil L').symm
    have tree : cpL bd s0 B (st ++ [top] ++ [(s0 + nx, k, v, fo_l a, fo_l a)]) (vis (cpE par s0 B) (cpL bd s0 B) (cpB par s0 B) a (st ++ [top]) (s0 + nx, k, v, 0, fo_l a) (s0 + (nx + 1)) (cpE par s0 B (st ++ [top] ++ [(s0 + nx, k, v, 0, fo_l a)]) L)) = L ++ trI ok par bd bV k v (inF ok par bd bV a s).1 sa := by
      have hnx : s0 + nx - s0 = nx := Nat.add_sub_cancel_left ..
      unfold trI
      by_cases h : k = 15 ∧ iMay ok par bd bV v.toNatClampNeg sa = true
      · have hBq : B nx = nI sa.2.1 := by rw [hBn]; exact if_pos h
        have hne := nm1 sa.2.1 (by omega)
        have hP : fo_l a = par v := by
          rw [w2, h.1]
          rfl
        rw [if_pos h, vis_cp hn hbd a _ (st ++ [top]) (s0 + nx, k, v, 0, fo_l a) (nx + 1) s Br (some sa.2.1) _ w5 hs hBa ⟨by dsimp only; rw [hnx]; exact hBq, by omega⟩]
        unfold cpL cpE
        rw [g1, g1]
        dsimp only
        rw [hnx, hBq, if_neg hne, if_neg hne, nI_clamp (by omega), nI_add]
        have := out_nest (q := sa.2.1) (P := par v) (B := fo_sh sa.2.1 (bd v.toNatClampNeg)) (ok := ok) (par := par) (bV := bV) hbd a s 0 (by omega)
        rw [Nat.add_zero] at this ⊢
        rw [this]
        split
        · simp only [List.append_assoc]
        · simp only [List.append_assoc, List.nil_append]
      · have hBq : B nx = -1 := by rw [hBn]; exact if_neg h
        rw [if_neg h, vis_cp hn hbd a _ (st ++ [top]) (s0 + nx, k, v, 0, fo_l a) (nx + 1) s Br none _ w5 hs hBa (by dsimp only; rw [hnx]; exact hBq)]
        unfold cpL cpE
        rw [g1, g1]
        dsimp only
        rw [hnx, hBq, if_pos rfl, if_pos rfl, out_none]
        simp only [List.append_assoc, List.cons_append, List.nil_append]
    rw [tree, sep, vis_cp hn hbd b _ st (wbump top) (nx + 1 + fo_n a) (iSt ok par bd bV k v sa) _ x _ w6 hst hBb hx, outI, esa]
    simp only [List.append_assoc]
end IQ
