/-! ONE STEP, by the instruction: what must hold now so that P holds of what comes next. A state: place, locals, stack, world, cells and slots made so far -/
abbrev gY : Type := Nat × List (Option Value) × List Value × gSt × Nat × Nat
def g_i1 (st : List Value) (k : Int32 → List Value → Prop) : Prop := match st with
  | .int x :: r => k x r
  | _ => False
def g_i2 (st : List Value) (k : Int32 → Int32 → List Value → Prop) : Prop := match st with
  | .int y :: .int x :: r => k x y r
  | _ => False
def g_l1 (st : List Value) (k : Int64 → List Value → Prop) : Prop := match st with
  | .long x :: r => k x r
  | _ => False
def g_l2 (st : List Value) (k : Int64 → Int64 → List Value → Prop) : Prop := match st with
  | .long y :: .long x :: r => k x y r
  | _ => False
def g_li (st : List Value) (k : Int64 → Int32 → List Value → Prop) : Prop := match st with
  | .int y :: .long x :: r => k x y r
  | _ => False
def g_r1 (st : List Value) (k : Nat → List Value → Prop) : Prop := match st with
  | .ref a :: r => k a r
  | _ => False
def g_n1 (st : List Value) (kn : List Value → Prop) (k : Nat → List Value → Prop) : Prop := match st with
  | .ref a :: r => k a r
  | .null :: r => kn r
  | _ => False
def g_vr (st : List Value) (k : Value → Nat → List Value → Prop) : Prop := match st with
  | v :: .ref a :: r => k v a r
  | _ => False
def g_ri (st : List Value) (k : Nat → Int32 → List Value → Prop) : Prop := match st with
  | .int i :: .ref a :: r => k a i r
  | _ => False
def g_rii (st : List Value) (k : Nat → Int32 → Int32 → List Value → Prop) : Prop := match st with
  | .int x :: .int i :: .ref a :: r => k a i x r
  | _ => False
def g_ril (st : List Value) (k : Nat → Int32 → Int64 → List Value → Prop) : Prop := match st with
  | .long x :: .int i :: .ref a :: r => k a i x r
  | _ => False
def g_v1 (st : List Value) (k : Value → List Value → Prop) : Prop := match st with
  | v :: r => k v r
  | _ => False
def g_v2 (st : List Value) (k : Value → Value → List Value → Prop) : Prop := match st with
  | v :: w :: r => k v w r
  | _ => False
def g_ldi (lc : List (Option Value)) (i : Nat) (k : Int32 → Prop) : Prop := match lc[i]? with
  | some (some (.int x)) => k x
  | _ => False
def g_ldj (lc : List (Option Value)) (i : Nat) (k : Int64 → Prop) : Prop := match lc[i]? with
  | some (some (.long x)) => k x
  | _ => False
def g_lda (lc : List (Option Value)) (i : Nat) (k : Value → Prop) : Prop := match lc[i]? with
  | some (some (.ref x)) => k (.ref x)
  | some (some .null) => k .null
  | _ => False
theorem g_i1_inv {st : List Value} {k : Int32 → List Value → Prop} (h : g_i1 st k) : ∃ x r, st = .int x :: r ∧ k x r := by
  unfold g_i1 at h
  split at h
  · exact ⟨_, _, rfl, h⟩
  · exact h.elim
theorem g_i2_inv {st : List Value} {k : Int32 → Int32 → List Value → Prop} (h : g_i2 st k) : ∃ x y r, st = .int y :: .int x :: r ∧ k x y r := by
  unfold g_i2 at h
  split at h
  · exact ⟨_, _, _, rfl, h⟩
  · exact h.elim
theorem g_l1_inv {st : List Value} {k : Int64 → List Value → Prop} (h : g_l1 st k) : ∃ x r, st = .long x :: r ∧ k x r := by
  unfold g_l1 at h
  split at h
  · exact ⟨_, _, rfl, h⟩
  · exact h.elim
theorem g_l2_inv {st : List Value} {k : Int64 → Int64 → List Value → Prop} (h : g_l2 st k) : ∃ x y r, st = .long y :: .long x :: r ∧ k x y r := by
  unfold g_l2 at h
  split at h
  · exact ⟨_, _, _, rfl, h⟩
  · exact h.elim
theorem g_li_inv {st : List Value} {k : Int64 → Int32 → List Value → Prop} (h : g_li st k) : ∃ x y r, st = .int y :: .long x :: r ∧ k x y r := by
  unfold g_li at h
  split at h
  · exact ⟨_, _, _, rfl, h⟩
  · exact h.elim
theorem g_r1_inv {st : List Value} {k : Nat → List Value → Prop} (h : g_r1 st k) : ∃ a r, st = .ref a :: r ∧ k a r := by
  unfold g_r1 at h
  split at h
  · exact ⟨_, _, rfl, h⟩
  · exact h.elim
theorem g_n1_inv {st : List Value} {kn : List Value → Prop} {k : Nat → List Value → Prop} (h : g_n1 st kn k) : (∃ a r, st = .ref a :: r ∧ k a r) ∨ ∃ r, st = .null :: r ∧ kn r := by
  unfold g_n1 at h
  split at h
  · exact Or.inl ⟨_, _, rfl, h⟩
  · exact Or.inr ⟨_, rfl, h⟩
  · exact h.elim
theorem g_vr_inv {st : List Value} {k : Value → Nat → List Value → Prop} (h : g_vr st k) : ∃ v a r, st = v :: .ref a :: r ∧ k v a r := by
  unfold g_vr at h
  split at h
  · exact ⟨_, _, _, rfl, h⟩
  · exact h.elim
theorem g_ri_inv {st : List Value} {k : Nat → Int32 → List Value → Prop} (h : g_ri st k) : ∃ a i r, st = .int i :: .ref a :: r ∧ k a i r := by
  unfold g_ri at h
  split at h
  · exact ⟨_, _, _, rfl, h⟩
  · exact h.elim
theorem g_rii_inv {st : List Value} {k : Nat → Int32 → Int32 → List Value → Prop} (h : g_rii st k) : ∃ a i x r, st = .int x :: .int i :: .ref a :: r ∧ k a i x r := by
  unfold g_rii at h
  split at h
  · exact ⟨_, _, _, _, rfl, h⟩
  · exact h.elim
theorem g_ril_inv {st : List Value} {k : Nat → Int32 → Int64 → List Value → Prop} (h : g_ril st k) : ∃ a i x r, st = .long x :: .int i :: .ref a :: r ∧ k a i x r := by
  unfold g_ril at h
  split at h
  · exact ⟨_, _, _, _, rfl, h⟩
  · exact h.elim
theorem g_v1_inv {st : List Value} {k : Value → List Value → Prop} (h : g_v1 st k) : ∃ v r, st = v :: r ∧ k v r := by
  unfold g_v1 at h
  split at h
  · exact ⟨_, _, rfl, h⟩
  · exact h.elim
theorem g_v2_inv {st : List Value} {k : Value → Value → List Value → Prop} (h : g_v2 st k) : ∃ v w r, st = v :: w :: r ∧ k v w r := by
  unfold g_v2 at h
  split at h
  · exact ⟨_, _, _, rfl, h⟩
  · exact h.elim
theorem g_ldi_inv {lc : List (Option Value)} {i : Nat} {k : Int32 → Prop} (h : g_ldi lc i k) : ∃ x, lc[i]? = some (some (.int x)) ∧ k x := by
  unfold g_ldi at h
  split at h
  · next e => exact ⟨_, e, h⟩
  · exact h.elim
theorem g_ldj_inv {lc : List (Option Value)} {i : Nat} {k : Int64 → Prop} (h : g_ldj lc i k) : ∃ x, lc[i]? = some (some (.long x)) ∧ k x := by
  unfold g_ldj at h
  split at h
  · next e => exact ⟨_, e, h⟩
  · exact h.elim
theorem g_lda_inv {lc : List (Option Value)} {i : Nat} {k : Value → Prop} (h : g_lda lc i k) : (∃ x, lc[i]? = some (some (.ref x)) ∧ k (.ref x)) ∨ (lc[i]? = some (some .null) ∧ k .null) := by
  unfold g_lda at h
  split at h
  · next e => exact Or.inl ⟨_, e, h⟩
  · next e => exact Or.inr ⟨e, h⟩
  · exact h.elim
/-- locals: a long below a stored value's place goes -/
def g_kl (lc : List (Option Value)) (i : Nat) : List (Option Value) := match i with
  | 0 => lc
  | k + 1 => match lc[k]? with
    | some (some (.long _)) => lc.set k none
    | some (some (.double _)) => lc.set k none
    | _ => lc
def g_st1 (lc : List (Option Value)) (i : Nat) (v : Value) : List (Option Value) := (g_kl lc i).set i (some v)
def g_st2 (lc : List (Option Value)) (i : Nat) (v : Value) : List (Option Value) := ((g_kl lc i).set (i + 1) none).set i (some v)
def g_en : List Value → List (Option Value)
  | [] => []
  | v :: vs => if v.category = 2 then some v :: none :: g_en vs else some v :: g_en vs
def g_as (lc : List (Option Value)) : List (Nat × Value) := (List.range lc.length).filterMap (fun i => (lc[i]?.getD none).map (fun v => (i, v)))
theorem g_as_mem {lc : List (Option Value)} {i : Nat} {v : Value} : (i, v) ∈ g_as lc ↔ lc[i]? = some (some v) := by
  unfold g_as
  rw [List.mem_filterMap]
  constructor
  · rintro ⟨j, hj, h⟩
    cases e : lc[j]? with
    | none => rw [e] at h; cases h
    | some o =>
      rw [e] at h
      cases o with
      | none => cases h
      | some w =>
        have h1 : (j, w) = (i, v) := Option.some.inj h
        cases h1
        exact e
  · intro h
    refine ⟨i, List.mem_range.mpr (List.getElem?_eq_some_iff.mp h).1, ?_⟩
    rw [h]
    rfl
theorem g_kl_get {lc : List (Option Value)} {i j : Nat} {w : Value} (h : (g_kl lc i)[j]? = some (some w)) : lc[j]? = some (some w) ∧ ¬ (j + 1 = i ∧ w.category = 2) := by
  unfold g_kl at h
  split at h
  · exact ⟨h, fun q => by omega⟩
  · next k =>
    have key : ∀ u : Value, lc[k]? = some (some u) → (lc.set k none)[j]? = some (some w) → lc[j]? = some (some w) ∧ ¬ (j + 1 = k + 1 ∧ w.category = 2) := by
      intro u hu hs
      by_cases e : k = j
      · subst e
        rw [List.getElem?_set_self (List.getElem?_eq_some_iff.mp hu).1] at hs
        cases hs
      · rw [List.getElem?_set_ne e] at hs
        exact ⟨hs, fun q => by omega⟩
    split at h
    · next u e => exact key _ e h
    · next u e => exact key _ e h
    · next h1 h2 =>
      refine ⟨h, fun q => ?_⟩
      have e : j = k := by omega
      subst e
      cases w with
      | long x => exact h1 x h
      | double x => exact h2 x h
      | _ => simp [Value.category] at q
theorem g_st1_has {ls : Array Slot} {nL i : Nat} {lc : List (Option Value)} {v : Value} (h : lv_has ls nL ((i, v) :: (g_as lc).filter (fun q => !(q.1 == i) && !(q.1 + 1 == i && q.2.category == 2)))) : lv_has ls nL (g_as (g_st1 lc i v)) := by
  refine ⟨h.1, h.2.1, fun q hq => h.2.2 q ?_⟩
  obtain ⟨j, w⟩ := q
  have hq := g_as_mem.mp hq
  unfold g_st1 at hq
  by_cases e : i = j
  · subst e
    by_cases hl : i < (g_kl lc i).length
    · rw [List.getElem?_set_self hl] at hq
      cases hq
      exact List.mem_cons_self
    · rw [List.getElem?_eq_none (by rw [List.length_set]; omega)] at hq
      cases hq
  · rw [List.getElem?_set_ne e] at hq
    obtain ⟨h1, h2⟩ := g_kl_get hq
    refine List.mem_cons_of_mem _ (List.mem_filter.mpr ⟨g_as_mem.mpr h1, ?_⟩)
    have e2 : ¬ j = i := fun q => e q.symm
    simp only [Bool.and_eq_true, Bool.not_eq_true', beq_eq_false_iff_ne, ne_eq, e2, not_false_eq_true, true_and, Bool.and_eq_false_iff]
    by_cases hj : j + 1 = i
    · right
      exact fun q => h2 ⟨hj, q⟩
    · left
      exact hj
theorem g_st2_has {ls : Array Slot} {nL i : Nat} {lc : List (Option Value)} {v : Value} (h : lv_has ls nL ((i, v) :: (g_as lc).filter (fun q => !(q.1 == i) && (!(q.1 == i + 1) && !(q.1 + 1 == i && q.2.category == 2))))) : lv_has ls nL (g_as (g_st2 lc i v)) := by
  refine ⟨h.1, h.2.1, fun q hq => h.2.2 q ?_⟩
  obtain ⟨j, w⟩ := q
  have hq := g_as_mem.mp hq
  unfold g_st2 at hq
  by_cases e : i = j
  · subst e
    by_cases hl : i < ((g_kl lc i).set (i + 1) none).length
    · rw [List.getElem?_set_self hl] at hq
      cases hq
      exact List.mem_cons_self
    · rw [List.getElem?_eq_none (by rw [List.length_set]; omega)] at hq
      cases hq
  · rw [List.getElem?_set_ne e] at hq
    by_cases e1 : i + 1 = j
    · subst e1
      by_cases hl : i + 1 < (g_kl lc i).length
      · rw [List.getElem?_set_self hl] at hq
        cases hq
      · rw [List.getElem?_eq_none (by rw [List.length_set]; omega)] at hq
        cases hq
    · rw [List.getElem?_set_ne e1] at hq
      obtain ⟨h1, h2⟩ := g_kl_get hq
      refine List.mem_cons_of_mem _ (List.mem_filter.mpr ⟨g_as_mem.mpr h1, ?_⟩)
      have e2 : ¬ j = i := fun q => e q.symm
      have e3 : ¬ j = i + 1 := fun q => e1 q.symm
      simp only [Bool.and_eq_true, Bool.not_eq_true', beq_eq_false_iff_ne, ne_eq, e2, e3, not_false_eq_true, true_and, Bool.and_eq_false_iff]
      by_cases hj : j + 1 = i
      · right
        exact fun q => h2 ⟨hj, q⟩
      · left
        exact hj
theorem g_en_args : ∀ (vs : List Value) (o i : Nat) (v : Value), (g_en vs)[i]? = some (some v) → (o + i, v) ∈ lv_args o vs
  | [], o, i, v, h => by simp [g_en] at h
  | w :: vs, o, i, v, h => by
    unfold g_en at h
    unfold lv_args
    by_cases hc : w.category = 2
    · rw [if_pos hc] at h ⊢
      match i, h with
      | 0, h =>
        cases h
        exact List.mem_cons_self
      | 1, h => cases h
      | i + 2, h =>
        have := g_en_args vs (o + 2) i v h
        rw [show o + (i + 2) = o + 2 + i by omega]
        exact List.mem_cons_of_mem _ this
    · rw [if_neg hc] at h ⊢
      match i, h with
      | 0, h =>
        cases h
        exact List.mem_cons_self
      | i + 1, h =>
        have := g_en_args vs (o + 1) i v h
        rw [show o + (i + 1) = o + 1 + i by omega]
        exact List.mem_cons_of_mem _ this
/-- locals at a method's start, n places more -/
def g_l0 (vs : List Value) (n : Nat) : List (Option Value) := g_en vs ++ List.replicate (n - (g_en vs).length) none
theorem g_l0_has {ls : Array Slot} {n : Nat} {vs : List Value} (h : lv_has ls n (lv_args 0 vs)) : lv_has ls n (g_as (g_l0 vs n)) := by
  refine ⟨h.1, h.2.1, fun q hq => h.2.2 q ?_⟩
  obtain ⟨j, w⟩ := q
  have hq := g_as_mem.mp hq
  unfold g_l0 at hq
  by_cases hl : j < (g_en vs).length
  · rw [List.getElem?_append_left hl] at hq
    have := g_en_args vs 0 j w hq
    rwa [Nat.zero_add] at this
  · rw [List.getElem?_append_right (by omega)] at hq
    rw [List.getElem?_replicate] at hq
    split at hq <;> cases hq
def g_cz (c : ClassFile.Cond) (x : Int32) : Prop := match c with
  | .eq => x = 0
  | .ne => ¬ x = 0
  | .lt => x < 0
  | .ge => 0 ≤ x
  | .gt => 0 < x
  | .le => x ≤ 0
def g_cc (c : ClassFile.Cond) (x y : Int32) : Prop := match c with
  | .eq => x = y
  | .ne => ¬ x = y
  | .lt => x < y
  | .ge => y ≤ x
  | .gt => y < x
  | .le => x ≤ y
def g_tg (pc : Nat) (o : Int) : Nat := ((pc : Int) + o).toNat
theorem g_tg_ok {pc : Nat} {o : Int} (h : 0 ≤ (pc : Int) + o) : (pc : Int) + o = (g_tg pc o : Int) := (Int.toNat_of_nonneg h).symm
def g_cat (st : List Value) : Nat := (st.map fun v => v.category).sum
def g_tsw (d lo hi : Int) (os : Array Int) (x : Int32) : Int := if x.toInt < lo ∨ hi < x.toInt then d else os.toList.getD (x.toInt - lo).toNat d
/-- may field j of class ci be written in this method? -/
def g_fo (mt : gMt) (ci j : Nat) : Bool := !((g_cl ci).2.1 j).2.2.2 || (mt.2.2.2.1 && decide (((g_cl ci).2.1 j).1 = g_on mt.1))
/-- a value of one word -/
def g_c1 (v : Value) (k : Prop) : Prop := match v with
  | .long _ => False
  | .double _ => False
  | _ => k
theorem g_c1_inv {v : Value} {k : Prop} (h : g_c1 v k) : v.category = 1 ∧ k := by
  cases v <;> first | exact h.elim | exact ⟨rfl, h⟩
/-- a condition on numbers alone -/
def g_ck (b : Bool) (k : Prop) : Prop := match b with
  | true => k
  | false => False
theorem g_ck_inv {b : Bool} {k : Prop} (h : g_ck b k) : b = true ∧ k := by
  cases b with
  | true => exact ⟨rfl, h⟩
  | false => exact h.elim
/-- reading field j of cell a -/
def g_gv (t : gSt) (a j : Nat) (ty : FieldType) (k : Value → Prop) : Prop := match ty with
  | .long => k (.long (t.2.2.1 a j))
  | .object _ => (∃ b, t.2.2.2 a j = some b ∧ k (.ref b)) ∨ (t.2.2.2 a j = none ∧ k .null)
  | .array _ => (∃ b, t.2.2.2 a j = some b ∧ k (.ref b)) ∨ (t.2.2.2 a j = none ∧ k .null)
  | .float => k (.float 0)
  | .double => k (.double 0)
  | _ => k (.int (t.2.1 a j))
theorem g_gv_inv {t : gSt} {a j : Nat} {ty : FieldType} {k : Value → Prop} (h : g_gv t a j ty k) : k (g_fv t a j ty) := by
  cases ty with
  | object C =>
    rcases h with ⟨b, e, h⟩ | ⟨e, h⟩
    · unfold g_fv; dsimp only; rw [e]; exact h
    · unfold g_fv; dsimp only; rw [e]; exact h
  | array z =>
    rcases h with ⟨b, e, h⟩ | ⟨e, h⟩
    · unfold g_fv; dsimp only; rw [e]; exact h
    · unfold g_fv; dsimp only; rw [e]; exact h
  | _ => exact h
/-- the int row of cell a becomes f -/
def g_row (t : gSt) (a : Nat) (f : Nat → Int32) : gSt := (t.1, va_up t.2.1 a f, t.2.2.1, t.2.2.2)
def g_op {α : Type} (o : Option α) (k : α → Prop) : Prop := match o with
  | some q => k q
  | none => False
theorem g_op_inv {α : Type} {o : Option α} {k : α → Prop} (h : g_op o k) : ∃ q, o = some q ∧ k q := by
  cases o with
  | none => exact h.elim
  | some q => exact ⟨q, rfl, h⟩
/-- what is only read: the address of Tokens.WORDS; arrays by their address: kind (13, 15, 16), length, contents, and Strings: 20, the address of their bytes; the addresses of the String constants; what SIOOBE_FORMATTER holds -/
abbrev gCx : Type := Nat × (Nat → Nat × Nat × (Nat → Int32) × (Nat → Int64) → Prop) × (Nat → Nat) × Value
/-- a new cell q of kind k and length n -/
def g_nw (t : gSt) (q k n : Nat) : gSt := ((t.1.1 ++ [q], va_up t.1.2.1 q k, va_up t.1.2.2 q n), va_up t.2.1 q (fun _ => 0), va_up t.2.2.1 q (fun _ => 0), va_up t.2.2.2 q (fun _ => none))
/-- f, but v at every address of l -/
def g_ru {α : Type} (f : Nat → α) (l : List Nat) (v : α) : Nat → α := fun a => if a ∈ l then v else f a
/-- new int[24][24]: the outer array q, the rows r 0 .. r 23 -/
def g_mn (t : gSt) (q : Nat) (r : Nat → Nat) : gSt := (((t.1.1 ++ [q]) ++ (List.range 24).map r, va_up (g_ru t.1.2.1 ((List.range 24).map r) 15) q 18, va_up (g_ru t.1.2.2 ((List.range 24).map r) 24) q 24), va_up (g_ru t.2.1 ((List.range 24).map r) (fun _ => 0)) q (fun _ => 0), va_up (g_ru t.2.2.1 ((List.range 24).map r) (fun _ => 0)) q (fun _ => 0), va_up (g_ru t.2.2.2 ((List.range 24).map r) (fun _ => none)) q (fun i => if i < 24 then some (r i) else none))
def g_atk (y : ArrayType) : Nat := match y with
  | .byte => 13
  | .char => 14
  | .int => 15
  | .long => 16
  | .boolean => 17
  | _ => 0
/-- what a static holds -/
def g_stv (cx : gCx) (k : Nat) : Value := match k with
  | 0 => .ref cx.1
  | 1 => .int 1
  | _ => cx.2.2.2
/-- the fields of a String: its bytes, its coder -/
def g_sv (j v : Nat) : Value := match j with
  | 0 => .ref v
  | _ => .int 0
def g_gs (o x : Nat) : Option (Nat × Nat × Nat × Nat) := g_gsT.find? (fun q => q.1 == o && q.2.1 == x)
abbrev gE : Type := Nat → List Value → gSt → (Option Value → gSt → Prop) → Prop
def g_inv (cx : gCx) (E : gE) (P : gY → Prop) (q : Nat × Nat × Nat × Nat) (mt : gMt) (pc : Nat) (lc : List (Option Value)) (st : List Value) (t : gSt) (nc ns : Nat) : Prop :=
  g_ck (decide (nc + (g_mt q.2.1).2.2.2.2.1 ≤ mt.2.2.2.2.1) && decide (ns + (g_mt q.2.1).2.2.2.2.2.1 ≤ mt.2.2.2.2.2.1))
  (match q.1 with
  | 0 => g_ck (decide (q.2.2.1 ≤ st.length) && decide (g_cat (st.drop q.2.2.1) ≤ 8)) (E q.2.1 (st.take q.2.2.1).reverse t (fun v u => P (pc + 3, lc, v.toList ++ st.drop q.2.2.1, u, nc + (g_mt q.2.1).2.2.2.2.1, ns + (g_mt q.2.1).2.2.2.2.2.1)))
  | _ => g_r1 (st.drop q.2.2.1) (fun b r => g_ck (decide (g_cat r ≤ 8)) ((match (g_mt q.2.1).1 == 14 with
    | true => ∃ z, cx.2.1 b z ∧ z.1 = 20
    | false => g_k t b (g_mt q.2.1).1) ∧ E q.2.1 (.ref b :: (st.take q.2.2.1).reverse) t (fun v u => P (pc + 3, lc, v.toList ++ r, u, nc + (g_mt q.2.1).2.2.2.2.1, ns + (g_mt q.2.1).2.2.2.2.2.1)))))
def g_do (cx : gCx) (E : gE) (P : gY → Prop) (mt : gMt) (post : Option Value → gSt → Prop) (i : Instr) (pc : Nat) (lc : List (Option Value)) (st : List Value) (t : gSt) (nc ns : Nat) : Prop := match i with
  | .iconst n => P (pc + 1, lc, .int (Int32.ofInt n) :: st, t, nc, ns)
  | .bipush n => P (pc + 2, lc, .int (Int8.ofInt n).toInt32 :: st, t, nc, ns)
  | .sipush n => P (pc + 3, lc, .int (Int16.ofInt n).toInt32 :: st, t, nc, ns)
  | .lconst n => P (pc + 1, lc, .long (Int64.ofNat n.val) :: st, t, nc, ns)
  | .aconst_null => P (pc + 1, lc, .null :: st, t, nc, ns)
  | .ldc x => (match g_il mt.1 x with
    | some q => P (pc + 2, lc, .int q.1 :: st, t, nc, ns)
    | none => g_op (g_sl mt.1 x) (fun q => P (pc + 2, lc, .ref (cx.2.2.1 q) :: st, t, nc, ns)))
  | .ldc2_w x => g_op (g_jl mt.1 x) (fun q => P (pc + 3, lc, .long q.1 :: st, t, nc, ns))
  | .iload k => g_ldi lc k (fun x => P (pc + 2, lc, .int x :: st, t, nc, ns))
  | .iload_n k => g_ldi lc k.val (fun x => P (pc + 1, lc, .int x :: st, t, nc, ns))
  | .lload k => g_ldj lc k (fun x => P (pc + 2, lc, .long x :: st, t, nc, ns))
  | .lload_n k => g_ldj lc k.val (fun x => P (pc + 1, lc, .long x :: st, t, nc, ns))
  | .aload k => g_lda lc k (fun v => P (pc + 2, lc, v :: st, t, nc, ns))
  | .aload_n k => g_lda lc k.val (fun v => P (pc + 1, lc, v :: st, t, nc, ns))
  | .istore k => g_i1 st (fun x r => g_ck (decide (k < mt.2.1)) (P (pc + 2, g_st1 lc k (.int x), r, t, nc, ns)))
  | .istore_n k => g_i1 st (fun x r => g_ck (decide (k.val < mt.2.1)) (P (pc + 1, g_st1 lc k.val (.int x), r, t, nc, ns)))
  | .lstore k => g_l1 st (fun x r => g_ck (decide (k + 1 < mt.2.1)) (P (pc + 2, g_st2 lc k (.long x), r, t, nc, ns)))
  | .lstore_n k => g_l1 st (fun x r => g_ck (decide (k.val + 1 < mt.2.1)) (P (pc + 1, g_st2 lc k.val (.long x), r, t, nc, ns)))
  | .astore k => g_n1 st (fun r => g_ck (decide (k < mt.2.1)) (P (pc + 2, g_st1 lc k .null, r, t, nc, ns))) (fun a r => g_ck (decide (k < mt.2.1)) (P (pc + 2, g_st1 lc k (.ref a), r, t, nc, ns)))
  | .astore_n k => g_n1 st (fun r => g_ck (decide (k.val < mt.2.1)) (P (pc + 1, g_st1 lc k.val .null, r, t, nc, ns))) (fun a r => g_ck (decide (k.val < mt.2.1)) (P (pc + 1, g_st1 lc k.val (.ref a), r, t, nc, ns)))
  | .iinc k n => g_ldi lc k (fun x => g_ck (decide (k < mt.2.1)) (P (pc + 3, g_st1 lc k (.int (x + Int32.ofInt n)), st, t, nc, ns)))
  | .iadd => g_i2 st (fun x y r => P (pc + 1, lc, .int (x + y) :: r, t, nc, ns))
  | .isub => g_i2 st (fun x y r => P (pc + 1, lc, .int (x - y) :: r, t, nc, ns))
  | .imul => g_i2 st (fun x y r => P (pc + 1, lc, .int (x * y) :: r, t, nc, ns))
  | .idiv => g_i2 st (fun x y r => ¬ y = 0 ∧ P (pc + 1, lc, .int (x / y) :: r, t, nc, ns))
  | .irem => g_i2 st (fun x y r => ¬ y = 0 ∧ P (pc + 1, lc, .int (x - x / y * y) :: r, t, nc, ns))
  | .ineg => g_i1 st (fun x r => P (pc + 1, lc, .int (-x) :: r, t, nc, ns))
  | .iand => g_i2 st (fun x y r => P (pc + 1, lc, .int (x &&& y) :: r, t, nc, ns))
  | .ior => g_i2 st (fun x y r => P (pc + 1, lc, .int (x ||| y) :: r, t, nc, ns))
  | .ishl => g_i2 st (fun x y r => P (pc + 1, lc, .int (x <<< (y &&& 31)) :: r, t, nc, ns))
  | .ishr => g_i2 st (fun x y r => P (pc + 1, lc, .int (x >>> (y &&& 31)) :: r, t, nc, ns))
  | .ladd => g_l2 st (fun x y r => P (pc + 1, lc, .long (x + y) :: r, t, nc, ns))
  | .lsub => g_l2 st (fun x y r => P (pc + 1, lc, .long (x - y) :: r, t, nc, ns))
  | .lmul => g_l2 st (fun x y r => P (pc + 1, lc, .long (x * y) :: r, t, nc, ns))
  | .ldiv => g_l2 st (fun x y r => ¬ y = 0 ∧ P (pc + 1, lc, .long (x / y) :: r, t, nc, ns))
  | .lrem => g_l2 st (fun x y r => ¬ y = 0 ∧ P (pc + 1, lc, .long (x - x / y * y) :: r, t, nc, ns))
  | .lneg => g_l1 st (fun x r => P (pc + 1, lc, .long (-x) :: r, t, nc, ns))
  | .land => g_l2 st (fun x y r => P (pc + 1, lc, .long (x &&& y) :: r, t, nc, ns))
  | .lor => g_l2 st (fun x y r => P (pc + 1, lc, .long (x ||| y) :: r, t, nc, ns))
  | .lshl => g_li st (fun x y r => P (pc + 1, lc, .long (x <<< (y.toInt64 &&& 63)) :: r, t, nc, ns))
  | .lshr => g_li st (fun x y r => P (pc + 1, lc, .long (x >>> (y.toInt64 &&& 63)) :: r, t, nc, ns))
  | .i2l => g_i1 st (fun x r => P (pc + 1, lc, .long x.toInt64 :: r, t, nc, ns))
  | .l2i => g_l1 st (fun x r => P (pc + 1, lc, .int x.toInt32 :: r, t, nc, ns))
  | .i2b => g_i1 st (fun x r => P (pc + 1, lc, .int x.toInt8.toInt32 :: r, t, nc, ns))
  | .i2c => g_i1 st (fun x r => P (pc + 1, lc, .int (x.toUInt32 % 65536).toInt32 :: r, t, nc, ns))
  | .lcmp => g_l2 st (fun x y r => P (pc + 1, lc, .int (lg_cmp x y) :: r, t, nc, ns))
  | .dup => g_v1 st (fun v r => g_c1 v (P (pc + 1, lc, v :: v :: r, t, nc, ns)))
  | .dup2 => g_v2 st (fun v w r => g_c1 v (g_c1 w (P (pc + 1, lc, v :: w :: v :: w :: r, t, nc, ns))))
  | .dup_x1 => g_v2 st (fun v w r => g_c1 v (g_c1 w (P (pc + 1, lc, v :: w :: v :: r, t, nc, ns))))
  | .pop => g_v1 st (fun v r => g_c1 v (P (pc + 1, lc, r, t, nc, ns)))
  | .ifCond c o => g_i1 st (fun x r => (g_cz c x → P (g_tg pc o, lc, r, t, nc, ns)) ∧ (¬ g_cz c x → P (pc + 3, lc, r, t, nc, ns)))
  | .if_icmp c o => g_i2 st (fun x y r => (g_cc c x y → P (g_tg pc o, lc, r, t, nc, ns)) ∧ (¬ g_cc c x y → P (pc + 3, lc, r, t, nc, ns)))
  | .ifnull o => g_n1 st (fun r => P (g_tg pc o, lc, r, t, nc, ns)) (fun _ r => P (pc + 3, lc, r, t, nc, ns))
  | .ifnonnull o => g_n1 st (fun r => P (pc + 3, lc, r, t, nc, ns)) (fun _ r => P (g_tg pc o, lc, r, t, nc, ns))
  | .goto o => P (g_tg pc o, lc, st, t, nc, ns)
  | .tableswitch d lo hi os => g_i1 st (fun x r => P (g_tg pc (g_tsw d lo hi os x), lc, r, t, nc, ns))
  | .lookupswitch d ps => g_i1 st (fun x r => P (g_tg pc (Op.lookupswitch.offset ps.toList d x.toInt), lc, r, t, nc, ns))
  | .getfield x => g_op (g_fl mt.1 x) (fun q => match q.1 == 20 with
    | true => g_r1 st (fun a r => ∃ z, cx.2.1 a z ∧ z.1 = 20 ∧ P (pc + 3, lc, g_sv q.2.1 z.2.1 :: r, t, nc, ns))
    | false => g_r1 st (fun a r => g_k t a q.1 ∧ g_gv t a q.2.1 (g_tyF q.1 q.2.1) (fun v => P (pc + 3, lc, v :: r, t, nc, ns))))
  | .putfield x => g_op (g_fl mt.1 x) (fun q => g_vr st (fun v a r => g_ck (q.1 != 20) (g_k t a q.1 ∧ g_ck (g_fo mt q.1 q.2.1) (g_put t a q.2.1 (g_tyF q.1 q.2.1) v (fun u => P (pc + 3, lc, r, u, nc, ns))))))
  | .arraylength => g_r1 st (fun a r => (a ∈ t.1.1 ∧ (13 ≤ t.1.2.1 a ∧ t.1.2.1 a < 18) ∧ P (pc + 1, lc, .int (Int32.ofNat (t.1.2.2 a)) :: r, t, nc, ns)) ∨ (∃ q, cx.2.1 a q ∧ (q.1 = 13 ∨ q.1 = 15 ∨ q.1 = 16) ∧ P (pc + 1, lc, .int (Int32.ofNat q.2.1) :: r, t, nc, ns)))
  | .getstatic x => g_op (g_gs mt.1 x) (fun q => P (pc + 3, lc, g_stv cx q.2.2.2 :: st, t, nc, ns))
  | .new x => g_op (g_clk mt.1 x) (fun q => nc + 1 ≤ mt.2.2.2.2.1 ∧ ns + (g_cl q.1).2.2 ≤ mt.2.2.2.2.2.1 ∧ ∀ a, a ∉ t.1.1 → P (pc + 3, lc, .ref a :: st, g_nw t a q.1 0, nc + 1, ns + (g_cl q.1).2.2))
  | .newarray y => g_i1 st (fun n r => ¬ n < 0 ∧ ¬ g_atk y = 0 ∧ n.toNatClampNeg * 8 ≤ 536870912 ∧ nc + 1 ≤ mt.2.2.2.2.1 ∧ ns + n.toNatClampNeg ≤ mt.2.2.2.2.2.1 ∧ ∀ a, a ∉ t.1.1 → P (pc + 2, lc, .ref a :: r, g_nw t a (g_atk y) n.toNatClampNeg, nc + 1, ns + n.toNatClampNeg))
  | .multianewarray x k => g_i2 st (fun n w r => (mt.1 = 3 ∧ x = 28 ∧ k = 2 ∧ n = 24 ∧ w = 24) ∧ nc + 25 ≤ mt.2.2.2.2.1 ∧ ns + 600 ≤ mt.2.2.2.2.2.1 ∧ ∀ (a : Nat) (r2 : Nat → Nat), a ∉ t.1.1 → (∀ i, i < 24 → r2 i ∉ t.1.1 ∧ r2 i ≠ a) → (∀ i j, i < 24 → j < 24 → r2 i = r2 j → i = j) → P (pc + 4, lc, .ref a :: r, g_mn t a r2, nc + 25, ns + 600))
  | .iaload => g_ri st (fun a i r => (g_k t a 15 ∧ vp_in i (t.1.2.2 a) ∧ P (pc + 1, lc, .int (t.2.1 a i.toNatClampNeg) :: r, t, nc, ns)) ∨ (∃ q, cx.2.1 a q ∧ q.1 = 15 ∧ vp_in i q.2.1 ∧ P (pc + 1, lc, .int (q.2.2.1 i.toNatClampNeg) :: r, t, nc, ns)))
  | .baload => g_ri st (fun a i r => ((g_k t a 13 ∨ g_k t a 17) ∧ vp_in i (t.1.2.2 a) ∧ P (pc + 1, lc, .int (t.2.1 a i.toNatClampNeg) :: r, t, nc, ns)) ∨ (∃ q, cx.2.1 a q ∧ q.1 = 13 ∧ vp_in i q.2.1 ∧ P (pc + 1, lc, .int (q.2.2.1 i.toNatClampNeg) :: r, t, nc, ns)))
  | .caload => g_ri st (fun a i r => g_k t a 14 ∧ vp_in i (t.1.2.2 a) ∧ P (pc + 1, lc, .int (t.2.1 a i.toNatClampNeg) :: r, t, nc, ns))
  | .laload => g_ri st (fun a i r => (g_k t a 16 ∧ vp_in i (t.1.2.2 a) ∧ P (pc + 1, lc, .long (t.2.2.1 a i.toNatClampNeg) :: r, t, nc, ns)) ∨ (∃ q, cx.2.1 a q ∧ q.1 = 16 ∧ vp_in i q.2.1 ∧ P (pc + 1, lc, .long (q.2.2.2 i.toNatClampNeg) :: r, t, nc, ns)))
  | .aaload => g_ri st (fun a i r => g_k t a 18 ∧ vp_in i (t.1.2.2 a) ∧ g_gv t a i.toNatClampNeg (.array .int) (fun v => P (pc + 1, lc, v :: r, t, nc, ns)))
  | .iastore => g_rii st (fun a i x r => g_k t a 15 ∧ vp_in i (t.1.2.2 a) ∧ P (pc + 1, lc, r, g_si t a i.toNatClampNeg x, nc, ns))
  | .bastore => g_rii st (fun a i x r => vp_in i (t.1.2.2 a) ∧ (g_k t a 13 ∧ P (pc + 1, lc, r, g_si t a i.toNatClampNeg (vp_nar .byte x), nc, ns) ∨ g_k t a 17 ∧ P (pc + 1, lc, r, g_si t a i.toNatClampNeg (vp_nar .boolean x), nc, ns)))
  | .castore => g_rii st (fun a i x r => g_k t a 14 ∧ vp_in i (t.1.2.2 a) ∧ P (pc + 1, lc, r, g_si t a i.toNatClampNeg (vp_nar .char x), nc, ns))
  | .lastore => g_ril st (fun a i x r => g_k t a 16 ∧ vp_in i (t.1.2.2 a) ∧ P (pc + 1, lc, r, g_sj t a i.toNatClampNeg x, nc, ns))
  | .invokestatic x => g_op (g_ml mt.1 x) (fun q => if q.1 = 4 then g_i2 st (fun x y r => g_ck (decide (g_cat r ≤ 8)) (P (pc + 3, lc, .int (if x < y then y else x) :: r, t, nc, ns)))
      else if q.1 = 5 then g_i2 st (fun x y r => g_ck (decide (g_cat r ≤ 8)) (P (pc + 3, lc, .int (if y < x then y else x) :: r, t, nc, ns)))
      else if q.1 = 6 then g_i2 st (fun dp n r => g_ri r.tail (fun a0 sp r2 => g_r1 r (fun a _ => g_k t a 15 ∧ g_k t a0 15 ∧ (¬ sp < 0 ∧ ¬ dp < 0 ∧ ¬ n < 0 ∧ sp.toNatClampNeg + n.toNatClampNeg ≤ t.1.2.2 a0 ∧ dp.toNatClampNeg + n.toNatClampNeg ≤ t.1.2.2 a) ∧ g_ck (decide (g_cat r2 ≤ 8)) (P (pc + 3, lc, r2, g_row t a (va_cpy (t.2.1 a0) (t.2.1 a) sp.toNatClampNeg dp.toNatClampNeg n.toNatClampNeg), nc, ns)))))
      else if q.1 = 0 ∨ q.1 = 10 then g_inv cx E P (0, q.2) mt pc lc st t nc ns else False)
  | .invokevirtual x => g_op (g_ml mt.1 x) (fun q => if q.1 = 1 ∨ q.1 = 11 then g_inv cx E P (1, q.2) mt pc lc st t nc ns else False)
  | .invokespecial x => g_op (g_ml mt.1 x) (fun q => if q.1 = 3 then g_r1 st (fun _ r => g_ck (decide (g_cat r ≤ 8)) (P (pc + 3, lc, r, t, nc, ns)))
      else if q.1 = 2 ∨ q.1 = 12 then g_inv cx E P (1, q.2) mt pc lc st t nc ns else False)
  | .ireturn => g_i1 st (fun x r => r = [] ∧ g_op mt.2.2.1 (fun ty => narrow ty (.int x) = .int x ∧ post (some (.int x)) t))
  | .lreturn => g_l1 st (fun x r => r = [] ∧ mt.2.2.1 = some .long ∧ post (some (.long x)) t)
  | .areturn => g_n1 st (fun r => r = [] ∧ g_op mt.2.2.1 (fun ty => ((∃ n, ty = .object n) ∨ ∃ z, ty = .array z) ∧ post (some .null) t)) (fun a r => r = [] ∧ g_op mt.2.2.1 (fun ty => ((∃ n, ty = .object n) ∨ ∃ z, ty = .array z) ∧ post (some (.ref a)) t))
  | .return_ => st = [] ∧ mt.2.2.1 = none ∧ post none t
  | _ => False
def g_step (cx : gCx) (E : gE) (P : gY → Prop) (mt : gMt) (post : Option Value → gSt → Prop) (y : gY) : Prop := match y with
  | (pc, lc, st, t, nc, ns) => match mt.2.2.2.2.2.2.lookup pc with
    | some i => g_do cx E P mt post i pc lc st t nc ns
    | none => False
/-- from y the method comes to its end, with post: the least that its steps are closed under -/
def g_W (cx : gCx) (E : gE) (mt : gMt) (post : Option Value → gSt → Prop) (y : gY) : Prop := ∀ P : gY → Prop, (∀ (z : gY) (P0 : gY → Prop), (∀ w, P0 w → P w) → g_step cx E P0 mt post z → P z) → P y
theorem g_Ws {cx : gCx} {E : gE} {mt : gMt} {post : Option Value → gSt → Prop} {y : gY} (h : g_step cx E (g_W cx E mt post) mt post y) : g_W cx E mt post y := fun P hP => hP y _ (fun w hw => hw P hP) h
/-- n steps -/
def g_rn (cx : gCx) (E : gE) (mt : gMt) (post : Option Value → gSt → Prop) : Nat → gY → Prop
  | 0 => g_W cx E mt post
  | n + 1 => g_step cx E (g_rn cx E mt post n) mt post
theorem g_rn_ok {cx : gCx} {E : gE} {mt : gMt} {post : Option Value → gSt → Prop} : ∀ (n : Nat) {y : gY}, g_rn cx E mt post n y → g_W cx E mt post y
  | 0, _, h => h
  | n + 1, _, h => fun P hP => hP _ _ (fun _ hw => g_rn_ok n hw P hP) h
/-- method id, called with vs in the world t, comes to its end with post; d: how deep calls may go -/
def g_E (cx : gCx) : Nat → gE
  | 0 => fun _ _ _ _ => False
  | d + 1 => fun id vs t post => (id < 233 ∧ (g_en vs).length ≤ (g_mt id).2.1) ∧ g_W cx (g_E cx d) (g_mt id) post (0, g_l0 vs (g_mt id).2.1, [], t, 0, 0)
