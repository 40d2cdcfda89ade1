/-! THE CLASS'S CODER, PURE: the pass as a function of levels; what is written -/
def wr (f : Nat → Int32) (u : Nat) (l : List Int32) : Nat → Int32 := fun j => if u ≤ j then (l[j - u]?).getD (f j) else f j
theorem wr_nil (f : Nat → Int32) (u : Nat) : wr f u [] = f := by
  funext j
  simp [wr]
theorem wr_app (f : Nat → Int32) (u : Nat) (a b : List Int32) : wr (wr f u a) (u + a.length) b = wr f u (a ++ b) := by
  funext j
  unfold wr
  by_cases h1 : u + a.length ≤ j
  · rw [if_pos h1, if_pos (by omega), if_pos (by omega), List.getElem?_append_right (by omega), show j - (u + a.length) = j - u - a.length by omega, List.getElem?_eq_none (l := a) (by omega)]
    rfl
  · rw [if_neg h1]
    by_cases h2 : u ≤ j
    · rw [if_pos h2, if_pos h2, List.getElem?_append_left (by omega)]
    · rw [if_neg h2, if_neg h2]
theorem wr_one (f : Nat → Int32) (u : Nat) (x : Int32) : va_up f u x = wr f u [x] := by
  funext j
  unfold va_up wr
  by_cases h1 : j = u
  · subst h1
    simp
  · rw [if_neg h1]
    by_cases h2 : u ≤ j
    · rw [if_pos h2, List.getElem?_eq_none (by simp; omega)]
      rfl
    · rw [if_neg h2]
theorem wr_fill (f : Nat → Int32) (u : Nat) (a b : List Int32) (x y : Int32) : va_up (wr f u (a ++ x :: b)) (u + a.length) y = wr f u (a ++ y :: b) := by
  funext j
  unfold va_up wr
  by_cases h1 : j = u + a.length
  · subst h1
    rw [if_pos rfl, if_pos (by omega), List.getElem?_append_right (by omega), show u + a.length - u - a.length = 0 by omega]
    rfl
  · rw [if_neg h1]
    by_cases h2 : u ≤ j
    · rw [if_pos h2, if_pos h2]
      by_cases h3 : j - u < a.length
      · rw [List.getElem?_append_left h3, List.getElem?_append_left h3]
      · rw [List.getElem?_append_right (by omega), List.getElem?_append_right (by omega)]
        obtain ⟨i, hi⟩ : ∃ i, j - u - a.length = i + 1 := ⟨j - u - a.length - 1, by omega⟩
        rw [hi, List.getElem?_cons_succ, List.getElem?_cons_succ]
    · rw [if_neg h2, if_neg h2]
theorem wr_at {f : Nat → Int32} {u : Nat} {l : List Int32} {i : Nat} {x : Int32} (h : l[i]? = some x) : wr f u l (u + i) = x := by
  unfold wr
  rw [if_pos (by omega), show u + i - u = i by omega, h]
  rfl
theorem wr_lo {f : Nat → Int32} {u : Nat} {l : List Int32} {i : Nat} (h : i < u) : wr f u l i = f i := if_neg (by omega)
/-- the kids i .. of a node pk, pv at level D -/
def kv (cap base : Nat) (tl : Bool) (own : Nat) (par : Int32 → Nat) : Fo → Nat → Int32 → Int32 → Nat → KS → KS
  | .inner _ k v a b, D, pk, pv, i, s => kv cap base tl own par b D pk pv (i + 1) (kBk cap base D pk pv i (kLv cap base (D + 1) tl own par k v (kv cap base tl own par a (D + 1) k v 0 (kEn1 (D + 1) pk i k v s))))
  | .leaf, _, _, _, _, s => s
theorem kEnF_app (P : Nat) (st : WS) (q x : WT) (s : KS) : kEnF P (st ++ [q] ++ [x]) s = kEn1 (st.length + 1) q.2.1 q.2.2.2.1 x.2.1 x.2.2.1 s := by
  unfold kEnF
  have e : (st ++ [q] ++ [x]).reverse = x :: q :: st.reverse := by simp
  rw [e]
  have l : (st ++ [q] ++ [x]).length - 1 = st.length + 1 := by simp
  rw [l]
theorem kLvF_app (cap base : Nat) (tl : Bool) (own : Nat) (par : Int32 → Nat) (st : WS) (x : WT) (s : KS) : kLvF cap base tl own par (st ++ [x]) s = kLv cap base st.length tl own par x.2.1 x.2.2.1 s := by
  unfold kLvF
  have e : (st ++ [x]).getLast? = some x := by simp
  rw [e]
  have l : (st ++ [x]).length - 1 = st.length := by simp
  rw [l]
theorem kBkF_app (cap base : Nat) (st : WS) (x : WT) (s : KS) : kBkF cap base (st ++ [x]) s = kBk cap base st.length x.2.1 x.2.2.1 (x.2.2.2.1 - 1) s := by
  unfold kBkF
  have e : (st ++ [x]).getLast? = some x := by simp
  rw [e]
  have l : (st ++ [x]).length - 1 = st.length := by simp
  rw [l]
theorem vis_kv {cap base : Nat} {tl : Bool} {own : Nat} {par : Int32 → Nat} {P : Nat} : ∀ (F : Fo) (st : WS) (q : WT) (nx : Nat) (s : KS), vis (kEnF P) (kLvF cap base tl own par) (kBkF cap base) F st q nx s = kv cap base tl own par F st.length q.2.1 q.2.2.1 q.2.2.2.1 s
  | .inner _ k v a b, st, q, nx, s => by
    unfold vis kv
    rw [vis_kv b, vis_kv a, kEnF_app, kLvF_app, kBkF_app]
    have l : (st ++ [q]).length = st.length + 1 := by simp
    rw [l]
    rfl
  | .leaf, st, q, nx, s => rfl
/-- from s to s' the code L was written, and the levels below D stand -/
def KR (D : Nat) (s s' : KS) (L : List (Int32 × Int32)) : Prop :=
  ks_us s' = ks_us s + L.length ∧ ks_op s' = wr (ks_op s) (ks_us s) (L.map (·.1)) ∧ ks_od s' = wr (ks_od s) (ks_us s) (L.map (·.2)) ∧ ∀ j, j < D → ks_ae s' j = ks_ae s j ∧ ks_ar s' j = ks_ar s j ∧ ks_ho s' j = ks_ho s j ∧ ks_be s' j = ks_be s j
theorem KR.rf (D : Nat) (s : KS) : KR D s s [] := ⟨rfl, (wr_nil _ _).symm, (wr_nil _ _).symm, fun _ _ => ⟨rfl, rfl, rfl, rfl⟩⟩
theorem KR.tr {D : Nat} {s1 s2 s3 : KS} {L M : List (Int32 × Int32)} (h : KR D s1 s2 L) (g : KR D s2 s3 M) : KR D s1 s3 (L ++ M) := by
  obtain ⟨a1, a2, a3, a4⟩ := h
  obtain ⟨b1, b2, b3, b4⟩ := g
  refine ⟨by rw [b1, a1, List.length_append]; omega, ?_, ?_, fun j hj => ?_⟩
  · rw [b2, a2, a1, List.map_append, ← wr_app, List.length_map]
  · rw [b3, a3, a1, List.map_append, ← wr_app, List.length_map]
  · obtain ⟨c1, c2, c3, c4⟩ := a4 j hj
    obtain ⟨d1, d2, d3, d4⟩ := b4 j hj
    exact ⟨d1.trans c1, d2.trans c2, d3.trans c3, d4.trans c4⟩
theorem KR.mo {D D' : Nat} {s s' : KS} {L : List (Int32 × Int32)} (h : KR D s s' L) (hD : D' ≤ D) : KR D' s s' L := ⟨h.1, h.2.1, h.2.2.1, fun j hj => h.2.2.2 j (by omega)⟩
/-- what writes no code -/
theorem KR.kp {D : Nat} {s s' : KS} (h1 : ks_us s' = ks_us s) (h2 : ks_op s' = ks_op s) (h3 : ks_od s' = ks_od s) (h4 : ∀ j, j < D → ks_ae s' j = ks_ae s j ∧ ks_ar s' j = ks_ar s j ∧ ks_ho s' j = ks_ho s j ∧ ks_be s' j = ks_be s j) : KR D s s' [] := ⟨h1, by rw [h2]; exact (wr_nil _ _).symm, by rw [h3]; exact (wr_nil _ _).symm, h4⟩
theorem KR.emit {D cap : Nat} {k n : Int32} {s : KS} (h : ks_us s < cap) : KR D s (kEmit cap k n s) [(k, n)] := by
  have e : kEmit cap k n s = (va_up (ks_op s) (ks_us s) k, va_up (ks_od s) (ks_us s) n, ks_us s + 1, s.2.2.2) := if_pos h
  rw [e]
  exact ⟨rfl, wr_one _ _ _, wr_one _ _ _, fun _ _ => ⟨rfl, rfl, rfl, rfl⟩⟩
theorem KR.rise {D : Nat} {x : Int32} {s : KS} : KR D s (kRise x s) [] := .kp rfl rfl rfl (fun _ _ => ⟨rfl, rfl, rfl, rfl⟩)
theorem KR.use {D : Nat} {v : Nat} {s : KS} : KR D s (kUse v s) [] := .kp rfl rfl rfl (fun _ _ => ⟨rfl, rfl, rfl, rfl⟩)
theorem KR.seth {D : Nat} {x : Int32} {s : KS} : KR D s (kSetH x s) [] := .kp rfl rfl rfl (fun _ _ => ⟨rfl, rfl, rfl, rfl⟩)
theorem KR.setho {D : Nat} {x : Int32} {s : KS} : KR D s (kSetHo D x s) [] := .kp rfl rfl rfl (fun j hj => ⟨rfl, rfl, va_up_ne _ _ (by omega), rfl⟩)
theorem KR.setbe {D : Nat} {x : Int32} {s : KS} : KR D s (kSetBe D x s) [] := .kp rfl rfl rfl (fun j hj => ⟨rfl, rfl, rfl, va_up_ne _ _ (by omega)⟩)
/-- a hole is filled -/
theorem KR.fill {D cap base : Nat} {k x : Int32} {s s1 : KS} {a b : List (Int32 × Int32)} (h : KR D s s1 (a ++ (k, x) :: b)) (hc : ks_us s + a.length < cap) (hcap : cap < 2 ^ 30) (hb : base ≤ ks_us s) : KR D s (kFill cap base (nI (ks_us s + a.length)) s1) (a ++ (k, nI (ks_us s1 - base)) :: b) := by
  obtain ⟨h1, h2, h3, h4⟩ := h
  have e : kFill cap base (nI (ks_us s + a.length)) s1 = (s1.1, va_up (ks_od s1) (nI (ks_us s + a.length)).toNatClampNeg (nI (ks_us s1) - nI base), s1.2.2) := if_neg (nI_ge hc (by omega))
  have hl : (a ++ (k, x) :: b).length = a.length + (b.length + 1) := by simp
  rw [e, nI_clamp (by omega), nI_sub (by omega)]
  refine ⟨?_, ?_, ?_, fun j hj => ?_⟩
  · show ks_us s1 = _
    rw [h1]
    simp
  · show ks_op s1 = _
    rw [h2]
    simp
  · show va_up (ks_od s1) _ _ = _
    rw [h3]
    have := wr_fill (ks_od s) (ks_us s) (a.map (·.2)) (b.map (·.2)) x (nI (ks_us s1 - base))
    rw [List.length_map] at this
    simpa using this
  · exact h4 j hj
