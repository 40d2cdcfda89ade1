/-! THE CODE IS TYPED: by place its height and how many slots are set -/
def hR (e : Bool) (h n : Nat) : List (Nat × Nat) := if e then [(h + 1, n)] else []
def hL (tl : Bool) (k : Int32) (e : Bool) (h n r : Nat) : List (Nat × Nat) :=
  if k = 12 ∨ k = 14 ∨ k = 13 then []
  else if k = 15 then (if e = false ∨ tl = false then (h + r, n) :: hR e h n else [(h + r, n)])
  else (h + r, n) :: hR e h n
def hS (pk : Int32) (i : Nat) (e : Bool) (h n : Nat) : List (Nat × Nat) :=
  if pk = 12 ∧ i = 0 then [(h + 1, n)]
  else if pk = 14 ∧ i = 0 then [(h + 1, n)]
  else if pk = 13 ∧ i = 0 then [(h + 1, n)]
  else if pk = 13 ∧ i = 1 ∧ e = false then [(h + 1, n)]
  else []
abbrev hk (pk : Int32) (i h : Nat) : Nat := if pk = 12 ∨ pk = 14 ∨ pk = 13 then h else h + i
def hF (tl : Bool) : Fo → Bool → Nat → Int32 → Nat → Nat → List (Nat × Nat)
  | .inner _ k v a b, e, n, pk, i, h => hF tl a (e && kLast pk i) (eD pk i n) k 0 (hk pk i h) ++ hL tl k (e && kLast pk i) (hk pk i h) (eD pk i n) (fo_l a) ++ hS pk i e h n ++ hF tl b e n pk (i + 1) h
  | .leaf, _, _, _, _, _ => []
def hX (tl : Bool) (k : Int32) (a : Fo) (e : Bool) (n h : Nat) : List (Nat × Nat) := hF tl a e n k 0 h ++ hL tl k e h n (fo_l a)
theorem hF_in {tl : Bool} {y : Nat} {k v : Int32} {a b : Fo} {e : Bool} {n : Nat} {pk : Int32} {i h : Nat} : hF tl (.inner y k v a b) e n pk i h = hX tl k a (e && kLast pk i) (eD pk i n) (hk pk i h) ++ hS pk i e h n ++ hF tl b e n pk (i + 1) h := rfl
section HT
variable {tl : Bool} {own : Nat} {par : Int32 → Nat} {N : Nat}
theorem hL_len {k v : Int32} {e : Bool} {h n r : Nat} {σ : Int32 → Nat} : (hL tl k e h n r).length = (eL tl own k v e σ).length := by
  unfold hL eL hR eR
  repeat' split
  all_goals first | rfl | contradiction | omega
theorem hS_len {pk : Int32} {i : Nat} {e : Bool} {h n n' x : Nat} : (hS pk i e h n).length = (eS pk i e n' x).length := by
  unfold hS eS
  repeat' split
  all_goals rfl
theorem hF_len : ∀ (F : Fo) (e : Bool) (n : Nat) (pk : Int32) (i h : Nat), (hF tl F e n pk i h).length = eN tl own F e pk i
  | .inner y k v a b, e, n, pk, i, h => by
    simp only [hF, eN, List.length_append, hF_len a, hF_len b]
    rw [hL_len (own := own) (v := v) (σ := fun _ => 0), hS_len (n' := 0) (x := 0)]
  | .leaf, _, _, _, _, _ => rfl
theorem hX_len {k v : Int32} {a : Fo} {e : Bool} {n h : Nat} : (hX tl k a e n h).length = eXn tl own k v a e := by
  unfold hX eXn
  rw [List.length_append, hF_len (own := own), hL_len (own := own) (v := v) (σ := fun _ => 0)]
/-- the greatest height only grows -/
theorem tM_ge {k : Int32} {a : Fo} {e : Bool} {h m : Nat} (q : m ≤ eM tl a e k 0 h m) : m ≤ tM tl k a e h m := by
  unfold tM
  split <;> omega
theorem eM_ge : ∀ (F : Fo) (e : Bool) (pk : Int32) (i h m : Nat), m ≤ eM tl F e pk i h m
  | .inner y k v a b, e, pk, i, h, m => by
    rw [eM_in]
    exact Nat.le_trans (tM_ge (eM_ge a _ k 0 _ m)) (eM_ge b e pk (i + 1) h _)
  | .leaf, _, _, _, _, _ => Nat.le_refl _
theorem tM_ge' {k : Int32} {a : Fo} {e : Bool} {h m : Nat} : m ≤ tM tl k a e h m := tM_ge (eM_ge a e k 0 h m)
theorem tZ_ge {k v : Int32} {a : Fo} {n : Nat} {σ : Int32 → Nat} {z : Nat} (q : z ≤ eZ a n σ k v 0 z) : z ≤ tZ k v a n σ z := by
  unfold tZ
  split <;> omega
theorem eZ_ge : ∀ (F : Fo) (n : Nat) (σ : Int32 → Nat) (pk pv : Int32) (i z : Nat), z ≤ eZ F n σ pk pv i z
  | .inner y k v a b, n, σ, pk, pv, i, z => by
    rw [eZ_in]
    have h1 := tZ_ge (eZ_ge a (eD pk i n) (eV pk pv i n σ) k v 0 z)
    have h2 := eZ_ge b n σ pk pv (i + 1) (if pk = 14 ∧ i = 0 then max (tZ k v a (eD pk i n) (eV pk pv i n σ) z) (n + 1) else tZ k v a (eD pk i n) (eV pk pv i n σ) z)
    refine Nat.le_trans h1 (Nat.le_trans ?_ h2)
    split <;> omega
  | .leaf, _, _, _, _, _, _ => Nat.le_refl _
theorem tZ_ge' {k v : Int32} {a : Fo} {n : Nat} {σ : Int32 → Nat} {z : Nat} : z ≤ tZ k v a n σ z := tZ_ge (eZ_ge a n σ k v 0 z)
/-- a tree that is not at an end leaves one word more -/
def TH (tl : Bool) (k : Int32) (a : Fo) : Prop := ∀ h m, h ≤ m → h + 1 ≤ tM tl k a false h m
def THs (tl : Bool) : Fo → Prop
  | .inner _ k _ a b => TH tl k a ∧ THs tl b
  | .leaf => True
theorem th_gen : ∀ (F : Fo), THs tl F → ∀ (e : Bool) (pk : Int32) (i h m : Nat), gK pk → h + i ≤ m → h + i + fo_l F ≤ eM tl F e pk i h m
  | .leaf, _, _, _, _, _, _, _, hm => hm
  | .inner y k v a b, T, e, pk, i, h, m, hg, hm => by
    rw [eM_in, hg.la, Bool.and_false, if_neg (show ¬ (pk = 12 ∨ pk = 14 ∨ pk = 13) from hg)]
    have := th_gen b T.2 e pk (i + 1) h _ hg (T.1 (h + i) m hm)
    simp only [fo_l]
    omega
theorem th_all : ∀ (F : Fo) (S : Nat → List Int32), fo_w N par F S → THs tl F
  | .leaf, _, _ => trivial
  | .inner y k v a b, S, hw => by
    obtain ⟨h1, h2, h3, h4, h5, h6⟩ := hw
    have Ta := th_all a _ h5
    refine ⟨?_, th_all b _ h6⟩
    intro h m hm
    by_cases hg : gK k
    · unfold tM
      rw [if_neg (fun q => by
        rcases q with q | q | q | ⟨_, q, _⟩
        · exact hg (Or.inl q)
        · exact hg (Or.inr (Or.inl q))
        · exact hg (Or.inr (Or.inr q))
        · cases q)]
      omega
    · rcases Classical.not_not.mp hg with rfl | rfl | rfl
      · obtain ⟨y1, k1, v1, a1, y2, k2, v2, a2, rfl⟩ := fo_l2 h2
        exact Ta.2.1 h _ (Nat.le_trans hm tM_ge')
      · obtain ⟨y1, k1, v1, a1, y2, k2, v2, a2, rfl⟩ := fo_l2 h2
        exact Ta.2.1 h _ (Nat.le_trans hm tM_ge')
      · obtain ⟨y1, k1, v1, a1, y2, k2, v2, a2, y3, k3, v3, a3, rfl⟩ := fo_l3 h2
        exact Ta.2.2.1 h _ (Nat.le_trans hm (Nat.le_trans tM_ge' tM_ge'))
/-- where a tree's code begins: its height, its slots -/
theorem hF_0 : ∀ (F : Fo) (S : Nat → List Int32), fo_w N par F S → ∀ (e : Bool) (n : Nat) (pk : Int32) (h : Nat), F ≠ .leaf → (hF tl F e n pk 0 h)[0]? = some (h, n)
  | .leaf, _, _, _, _, _, _, q => absurd rfl q
  | .inner y k v a b, S, hw, e, n, pk, h, _ => by
    obtain ⟨h1, h2, h3, h4, h5, h6⟩ := hw
    have e1 : hk pk 0 h = h := by
      unfold hk
      split <;> omega
    have e2 : eD pk 0 n = n := if_neg (fun c => by cases c.2)
    rw [hF_in, e1, e2, List.append_assoc]
    unfold hX
    by_cases ha : a = .leaf
    · have hl : k_ar par k v = 0 := by rw [← h2, ha]; rfl
      have hg : gK k := fun c => by
        rcases c with rfl | rfl | rfl <;> cases hl
      rw [ha]
      simp only [hF, List.nil_append]
      unfold hL
      rw [if_neg (show ¬ (k = 12 ∨ k = 14 ∨ k = 13) from hg)]
      split
      · split <;> rfl
      · rfl
    · have := hF_0 a _ h5 (e && kLast pk 0) n k h ha
      rw [List.append_assoc, List.getElem?_append_left (by
        rcases Nat.eq_zero_or_pos (hF tl a (e && kLast pk 0) n k 0 h).length with c | c
        · rw [List.getElem?_eq_none (by omega)] at this; cases this
        · exact c)]
      exact this
theorem hX_0 {k v : Int32} {a : Fo} {S : List Int32} (hw : tW N par k v a S) (e : Bool) (n h : Nat) : (hX tl k a e n h)[0]? = some (h, n) := by
  have hf : fo_w N par (.inner 0 k v a .leaf) (fun _ => S) ∨ True := Or.inr trivial
  unfold hX
  by_cases ha : a = .leaf
  · have hl : k_ar par k v = 0 := by rw [← hw.2.1, ha]; rfl
    have hg : gK k := fun c => by
      rcases c with rfl | rfl | rfl <;> cases hl
    rw [ha]
    simp only [hF, List.nil_append]
    unfold hL
    rw [if_neg (show ¬ (k = 12 ∨ k = 14 ∨ k = 13) from hg)]
    split
    · split <;> rfl
    · rfl
  · have := hF_0 (tl := tl) a _ hw.2.2.2.1 e n k h ha
    rw [List.getElem?_append_left (by
      rcases Nat.eq_zero_or_pos (hF tl a e n k 0 h).length with c | c
      · rw [List.getElem?_eq_none (by omega)] at this; cases this
      · exact c)]
    exact this
end HT
