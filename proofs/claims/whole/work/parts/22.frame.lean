/-! WHAT THE PRINTED THEOREMS (x_..) USE: cells by base and offset, posts that follow, switches -/
def c_len (i : Nat) : Nat := (g_cells.getD i (0, 0)).2
def isP (p : Nat) : Prop := p = 96 ∨ p = 112 ∨ p = 128
def isW (w : Nat) : Prop := w = 12 ∨ w = 48 ∨ w = 56 ∨ w = 68 ∨ w = 84
def isR (r : Nat) : Prop := r = 20 ∨ r = 82
def isV (v : Nat) : Prop := v = 90 ∨ v = 91
theorem isP.lt {p : Nat} (h : isP p) : p ≤ 128 := by rcases h with rfl | rfl | rfl <;> decide
theorem isP.ge {p : Nat} (h : isP p) : 96 ≤ p := by rcases h with rfl | rfl | rfl <;> decide
theorem isW.lt {w : Nat} (h : isW w) : w ≤ 84 := by rcases h with rfl | rfl | rfl | rfl | rfl <;> decide
theorem isP.k {p : Nat} (h : isP p) : ∀ j, j < 16 → (g_cells.getD (p + j) (0, 0)).1 = if j = 0 then 6 else if j = 1 then 16 else 15 := by rcases h with rfl | rfl | rfl <;> decide
theorem isP.l {p : Nat} (h : isP p) : ∀ j, j < 12 → 0 < j → (g_cells.getD (p + j) (0, 0)).2 = 24 := by rcases h with rfl | rfl | rfl <;> decide
theorem isP.r {p : Nat} (h : isP p) : ∀ j, j < 15 → (p, j, p + [12, 13, 1, 2, 3, 4, 5, 6, 14, 15, 7, 8, 9, 10, 11].getD j 0) ∈ g_refs := by rcases h with rfl | rfl | rfl <;> decide
theorem isW.k {w : Nat} (h : isW w) : ∀ j, j < 6 → (g_cells.getD (w + j) (0, 0)).1 = if j = 0 then 9 else 15 := by rcases h with rfl | rfl | rfl | rfl | rfl <;> decide
theorem isW.l {w : Nat} (h : isW w) : ∀ j, j < 6 → 0 < j → (g_cells.getD (w + j) (0, 0)).2 = 500 := by rcases h with rfl | rfl | rfl | rfl | rfl <;> decide
theorem isW.r {w : Nat} (h : isW w) : ∀ j, j < 5 → (w, j, w + (j + 1)) ∈ g_refs := by rcases h with rfl | rfl | rfl | rfl | rfl <;> decide
set_option maxRecDepth 20000 in
theorem g_refs_lt : ∀ q ∈ g_refs, q.1 < 199 ∧ q.2.2 < 199 := by decide
section LY
variable {t : gSt} {ad : Nat → Nat} {x : Int32}
theorem Lay.v (h : Lay t ad) (i : Nat) (hi : i < 199) (hx : vp_in x (c_len i)) : vp_in x (t.1.2.2 (ad i)) := by rw [h.l i hi]; exact hx
theorem Lay.la (h : Lay t ad) (i : Nat) (hi : i < 199) {n : Nat} (hx : n ≤ c_len i) : n ≤ t.1.2.2 (ad i) := by rw [h.l i hi]; exact hx
theorem Lay.pk (h : Lay t ad) {p : Nat} (hp : isP p) (j : Nat) (hj : j < 16) : g_k t (ad (p + j)) (if j = 0 then 6 else if j = 1 then 16 else 15) := by
  have := h.k (p + j) (by have := hp.lt; omega)
  rw [hp.k j hj] at this
  exact this
theorem Lay.pl (h : Lay t ad) {p : Nat} (hp : isP p) (j : Nat) (hj : j < 12) (h0 : 0 < j) : t.1.2.2 (ad (p + j)) = 24 := by rw [h.l (p + j) (by have := hp.lt; omega)]; exact hp.l j hj h0
theorem Lay.pl2 (h : Lay t ad) {p : Nat} (hp : isP p) (j : Nat) (hj : j < 16) : t.1.2.2 (ad (p + j)) = c_len (p + j) := h.l (p + j) (by have := hp.lt; omega)
theorem Lay.pv (h : Lay t ad) {p : Nat} (hp : isP p) (j : Nat) (hj : j < 12) (h0 : 0 < j) (hx : vp_in x 24) : vp_in x (t.1.2.2 (ad (p + j))) := by rw [h.pl hp j hj h0]; exact hx
theorem Lay.pv2 (h : Lay t ad) {p : Nat} (hp : isP p) (j : Nat) (hj : j < 16) (hx : vp_in x (c_len (p + j))) : vp_in x (t.1.2.2 (ad (p + j))) := by rw [h.pl2 hp j hj]; exact hx
theorem Lay.pla2 (h : Lay t ad) {p : Nat} (hp : isP p) (j : Nat) (hj : j < 16) {n : Nat} (hx : n ≤ c_len (p + j)) : n ≤ t.1.2.2 (ad (p + j)) := by rw [h.pl2 hp j hj]; exact hx
theorem Lay.pla (h : Lay t ad) {p : Nat} (hp : isP p) (j : Nat) (hj : j < 12) (h0 : 0 < j) {n : Nat} (hx : n ≤ 24) : n ≤ t.1.2.2 (ad (p + j)) := by rw [h.pl hp j hj h0]; exact hx
theorem Lay.pr (h : Lay t ad) {p : Nat} (hp : isP p) (j : Nat) (hj : j < 15) : t.2.2.2 (ad p) j = some (ad (p + [12, 13, 1, 2, 3, 4, 5, 6, 14, 15, 7, 8, 9, 10, 11].getD j 0)) := h.2.2 _ (hp.r j hj)
theorem Lay.wk (h : Lay t ad) {w : Nat} (hw : isW w) (j : Nat) (hj : j < 6) : g_k t (ad (w + j)) (if j = 0 then 9 else 15) := by
  have := h.k (w + j) (by have := hw.lt; omega)
  rw [hw.k j hj] at this
  exact this
theorem Lay.wl (h : Lay t ad) {w : Nat} (hw : isW w) (j : Nat) (hj : j < 6) (h0 : 0 < j) : t.1.2.2 (ad (w + j)) = 500 := by rw [h.l (w + j) (by have := hw.lt; omega)]; exact hw.l j hj h0
theorem Lay.wv (h : Lay t ad) {w : Nat} (hw : isW w) (j : Nat) (hj : j < 6) (h0 : 0 < j) (hx : vp_in x 500) : vp_in x (t.1.2.2 (ad (w + j))) := by rw [h.wl hw j hj h0]; exact hx
theorem Lay.wr (h : Lay t ad) {w : Nat} (hw : isW w) (j : Nat) (hj : j < 5) : t.2.2.2 (ad w) j = some (ad (w + (j + 1))) := h.2.2 _ (hw.r j hj)
theorem Lay.rk (h : Lay t ad) {r : Nat} (hr : isR r) : g_k t (ad r) 15 := by
  rcases hr with rfl | rfl
  · exact h.k 20 (by decide)
  · exact h.k 82 (by decide)
theorem Lay.rv (h : Lay t ad) {r : Nat} (hr : isR r) (hx : vp_in x 24) : vp_in x (t.1.2.2 (ad r)) := by
  rcases hr with rfl | rfl
  · exact h.v 20 (by decide) hx
  · exact h.v 82 (by decide) hx
theorem Lay.vk (h : Lay t ad) {v : Nat} (hv : isV v) : g_k t (ad v) 13 := by
  rcases hv with rfl | rfl
  · exact h.k 90 (by decide)
  · exact h.k 91 (by decide)
theorem Lay.vv (h : Lay t ad) {v : Nat} (hv : isV v) (hx : vp_in x 6000) : vp_in x (t.1.2.2 (ad v)) := by
  rcases hv with rfl | rfl
  · exact h.v 90 (by decide) hx
  · exact h.v 91 (by decide) hx
/-- a reference written where none stays -/
theorem Lay.sr (h : Lay t ad) (i f : Nat) (v : Option Nat) (hn : i < 199 ∧ ∀ q ∈ g_refs, ¬ (q.1 = i ∧ q.2.1 = f)) : Lay (g_sr t (ad i) f v) ad := by
  refine ⟨h.1, fun j hj => h.2.1 j hj, fun q hq => ?_⟩
  have hq1 : q.1 < 199 := (g_refs_lt q hq).1
  show g_up t.2.2.2 (ad i) f v (ad q.1) q.2.1 = some (ad q.2.2)
  by_cases e : q.1 = i
  · have e2 : q.2.1 ≠ f := fun z => hn.2 q hq ⟨e, z⟩
    rw [e, g_up_j e2, ← e]
    exact h.2.2 q hq
  · rw [g_up_ne (h.ne _ _ hq1 hn.1 e)]
    exact h.2.2 q hq
theorem Lay.si (h : Lay t ad) {a k : Nat} {v : Int32} : Lay (g_si t a k v) ad := ⟨h.1, h.2.1, h.2.2⟩
theorem Lay.sj (h : Lay t ad) {a k : Nat} {v : Int64} : Lay (g_sj t a k v) ad := ⟨h.1, h.2.1, h.2.2⟩
theorem Lay.row (h : Lay t ad) {a : Nat} {f : Nat → Int32} : Lay (g_row t a f) ad := ⟨h.1, h.2.1, h.2.2⟩
theorem Lay.eq (h : Lay t ad) {i j : Nat} (hi : i < 199) (hj : j < 199) : (ad i = ad j) = (i = j) := propext ⟨h.1 i j hi hj, fun e => by rw [e]⟩
end LY
set_option maxRecDepth 20000 in
theorem g_srow {w f : Nat} (hw : isW w) (hf : f = 8) : w < 199 ∧ ∀ q ∈ g_refs, ¬ (q.1 = w ∧ q.2.1 = f) := by
  subst hf
  rcases hw with rfl | rfl | rfl | rfl | rfl <;> decide
theorem g_rr_at {u : gSt} {a k : Nat} {v : Option Nat} : (g_sr u a k v).2.2.2 a k = v := g_up_v
theorem g_rr_o {u : gSt} {a k b j : Nat} {v : Option Nat} (h : b ≠ a ∨ j ≠ k) : (g_sr u a k v).2.2.2 b j = u.2.2.2 b j := by
  by_cases e : b = a
  · subst e
    exact g_up_j (h.elim (fun z => absurd rfl z) id)
  · exact congrFun (g_up_ne e) j
theorem g_karr {t : gSt} {a k : Nat} (h : g_k t a k) (h1 : 13 ≤ k) (h2 : k < 18) : 13 ≤ t.1.2.1 a ∧ t.1.2.1 a < 18 := by rw [h.2]; exact ⟨h1, h2⟩
/-- posts that follow -/
theorem g_Dm {cx : gCx} {E : gE} {P : gY → Prop} {mt : gMt} {p1 p2 : Option Value → gSt → Prop} (hp : ∀ r u, p1 r u → p2 r u) {i : Instr} {pc : Nat} {lc : List (Option Value)} {st : List Value} {t : gSt} {nc ns : Nat} (h : g_do cx E P mt p1 i pc lc st t nc ns) : g_do cx E P mt p2 i pc lc st t nc ns := by
  unfold g_do at h ⊢
  split at h <;> first
    | exact h
    | (obtain ⟨x, r, e, h1, h2⟩ := g_i1_inv h
       obtain ⟨ty, e2, h3, h4⟩ := g_op_inv h2
       subst e
       simp only [g_i1, e2, g_op]
       exact ⟨h1, h3, hp _ _ h4⟩)
    | (obtain ⟨x, r, e, h1, h2, h3⟩ := g_l1_inv h
       subst e
       exact ⟨h1, h2, hp _ _ h3⟩)
    | exact ⟨h.1, h.2.1, hp _ _ h.2.2⟩
    | (rcases g_n1_inv h with ⟨a, r, e, h1, h2⟩ | ⟨r, e, h1, h2⟩
       · subst e
         obtain ⟨ty, e2, h3, h4⟩ := g_op_inv h2
         simp only [g_n1, e2, g_op]
         exact ⟨h1, h3, hp _ _ h4⟩
       · subst e
         obtain ⟨ty, e2, h3, h4⟩ := g_op_inv h2
         simp only [g_n1, e2, g_op]
         exact ⟨h1, h3, hp _ _ h4⟩)
theorem g_Wm {cx : gCx} {E : gE} {mt : gMt} {p1 p2 : Option Value → gSt → Prop} (hp : ∀ r u, p1 r u → p2 r u) {y : gY} (h : g_W cx E mt p1 y) : g_W cx E mt p2 y := by
  intro P hP
  refine h P (fun z P0 h0 hs => hP z P0 h0 ?_)
  unfold g_step at hs ⊢
  obtain ⟨pc, lc, st, t, nc, ns⟩ := z
  dsimp only at hs ⊢
  split at hs
  · exact g_Dm hp hs
  · exact hs.elim
theorem g_Em {cx : gCx} {d id : Nat} {vs : List Value} {t : gSt} {p1 p2 : Option Value → gSt → Prop} (h : g_E cx d id vs t p1) (hp : ∀ r u, p1 r u → p2 r u) : g_E cx d id vs t p2 := by
  cases d with
  | zero => exact h.elim
  | succ d => exact ⟨h.1, g_Wm hp h.2⟩
/-- the ways of a switch -/
theorem g_swc (x : Int32) (lo hi : Int) (h1 : lo ≤ hi) (h2 : -2147483648 ≤ lo) (h3 : hi < 2147483648) : x < Int32.ofInt lo ∨ Int32.ofInt hi < x ∨ ∃ j : Nat, (j : Int) ≤ hi - lo ∧ x = Int32.ofInt (lo + j) := by
  have e1 : (Int32.ofInt lo).toInt = lo := Int32.toInt_ofInt_of_le h2 (by omega)
  have e2 : (Int32.ofInt hi).toInt = hi := Int32.toInt_ofInt_of_le (by omega) h3
  by_cases c1 : x.toInt < lo
  · exact Or.inl (Int32.lt_iff_toInt_lt.mpr (by rw [e1]; exact c1))
  · by_cases c2 : hi < x.toInt
    · exact Or.inr (Or.inl (Int32.lt_iff_toInt_lt.mpr (by rw [e2]; exact c2)))
    · refine Or.inr (Or.inr ⟨(x.toInt - lo).toNat, by omega, ?_⟩)
      rw [show lo + ((x.toInt - lo).toNat : Int) = x.toInt by omega, Int32.ofInt_toInt]
theorem g_swlo {pc : Nat} {d lo hi : Int} {os : Array Int} {x : Int32} (h : x < Int32.ofInt lo) (h2 : -2147483648 ≤ lo := by decide) (h3 : lo < 2147483648 := by decide) : g_tg pc (g_tsw d lo hi os x) = g_tg pc d := by
  rw [Int32.lt_iff_toInt_lt, Int32.toInt_ofInt_of_le h2 h3] at h
  rw [g_tsw, if_pos (Or.inl h)]
theorem g_swhi {pc : Nat} {d lo hi : Int} {os : Array Int} {x : Int32} (h : Int32.ofInt hi < x) (h2 : -2147483648 ≤ hi := by decide) (h3 : hi < 2147483648 := by decide) : g_tg pc (g_tsw d lo hi os x) = g_tg pc d := by
  rw [Int32.lt_iff_toInt_lt, Int32.toInt_ofInt_of_le h2 h3] at h
  rw [g_tsw, if_pos (Or.inr h)]
theorem Lay.zk {t : gSt} {ad : Nat → Nat} {x : Int32} (h : Lay t ad) (hx : vp_in x 24) : g_k t (ad (22 + x.toNatClampNeg)) 15 := by
  have hx : x.toNatClampNeg < 24 := Nat.lt_of_not_le (fun q => hx (Or.inr q))
  have hk : ∀ j, j < 24 → (g_cells.getD (22 + j) (0, 0)).1 = 15 := by decide
  have := h.k (22 + x.toNatClampNeg) (by omega)
  rw [hk _ hx] at this
  exact this
theorem Lay.zv {t : gSt} {ad : Nat → Nat} {x y : Int32} (h : Lay t ad) (hx : vp_in x 24) (hy : vp_in y 24) : vp_in y (t.1.2.2 (ad (22 + x.toNatClampNeg))) := by
  have hx : x.toNatClampNeg < 24 := Nat.lt_of_not_le (fun q => hx (Or.inr q))
  have hk : ∀ j, j < 24 → (g_cells.getD (22 + j) (0, 0)).2 = 24 := by decide
  rw [h.l (22 + x.toNatClampNeg) (by omega), hk _ hx]
  exact hy
theorem Lay.zr {t : gSt} {ad : Nat → Nat} {x : Int32} (h : Lay t ad) (hx : vp_in x 24) : t.2.2.2 (ad 21) x.toNatClampNeg = some (ad (22 + x.toNatClampNeg)) := by
  have hx : x.toNatClampNeg < 24 := Nat.lt_of_not_le (fun q => hx (Or.inr q))
  have hk : ∀ j, j < 24 → (21, j, 22 + j) ∈ g_refs := by decide
  exact h.2.2 _ (hk _ hx)
theorem g_swl {cx : gCx} {E : gE} {mt : gMt} {post : Option Value → gSt → Prop} {pc tgt : Nat} {lc : List (Option Value)} {st : List Value} {t : gSt} {nc ns : Nat} {d : Int} {ps : Array (Int × Int)} {x : Int32} (hl : mt.2.2.2.2.2.2.lookup pc = some (.lookupswitch d ps)) (ht : g_tg pc (Op.lookupswitch.offset ps.toList d x.toInt) = tgt) (h : g_W cx E mt post (tgt, lc, st, t, nc, ns)) : g_W cx E mt post (pc, lc, .int x :: st, t, nc, ns) := by
  refine g_Ws ?_
  unfold g_step
  dsimp only
  rw [hl]
  show g_W cx E mt post (g_tg pc (Op.lookupswitch.offset ps.toList d x.toInt), lc, st, t, nc, ns)
  rw [ht]
  exact h
theorem g_swl0 {x : Int32} {d : Int} : ∀ (l : List (Int × Int)), (∀ q ∈ l, ¬ x = Int32.ofInt q.1) → Op.lookupswitch.offset l d x.toInt = d
  | [], _ => rfl
  | (a, o) :: r, h => by
    rw [Op.lookupswitch.offset_cons, if_neg (fun e => h (a, o) List.mem_cons_self (by rw [e, Int32.ofInt_toInt])), g_swl0 r (fun q hq => h q (List.mem_cons_of_mem _ hq))]
theorem g_swld {pc : Nat} {d : Int} {ps : Array (Int × Int)} {x : Int32} (h : ∀ q ∈ ps.toList, ¬ x = Int32.ofInt q.1) : g_tg pc (Op.lookupswitch.offset ps.toList d x.toInt) = g_tg pc d := by rw [g_swl0 _ h]
