/-! THE STEPS ARE THE MACHINE'S: what g_E says of a method is a contract of it -/
theorem g_lk_mem {α : Type} {k : Nat} {v : α} : ∀ {l : List (Nat × α)}, l.lookup k = some v → (k, v) ∈ l
  | [], h => by cases h
  | (a, b) :: l, h => by
    unfold List.lookup at h
    split at h
    · next e =>
      cases h
      have e1 : k = a := eq_of_beq e
      subst e1
      exact List.mem_cons_self
    · exact List.mem_cons_of_mem _ (g_lk_mem h)
theorem g_fl_ok (ck : g_CK) {o x : Nat} {q : Nat × Nat × Nat} (ho : o < 17) (h : g_fl o x = some q) (hq : (q.1 == 20) = false) : q.1 < 13 ∧ q.2.1 < (g_cl q.1).2.2 ∧ Cond.fieldLink (g_on o) x ((g_cl q.1).2.1 q.2.1).1 ((g_cl q.1).2.1 q.2.1).2.1 ((g_cl q.1).2.1 q.2.1).2.2.1 ∈ g_tb := by
  have h1 := List.all_eq_true.mp (List.all_eq_true.mp ck.2.2.1 o (List.mem_range.mpr ho)) (x, q) (g_lk_mem h)
  have hq : ¬ q.1 = 20 := by simpa using hq
  unfold g_flk at h1
  dsimp only at h1
  rw [if_neg hq] at h1
  simp only [Bool.and_eq_true, decide_eq_true_eq] at h1
  exact ⟨h1.1.1, h1.1.2, g_tb_in h1.2 rfl⟩
theorem g_fl_str (ck : g_CK) {o x : Nat} {q : Nat × Nat × Nat} (ho : o < 17) (h : g_fl o x = some q) (hq : (q.1 == 20) = true) : Cond.fieldLink (g_on o) x "java/lang/String" (if q.2.1 = 0 then "value" else "coder") (if q.2.1 = 0 then "[B" else "B") ∈ g_tb := by
  have h1 := List.all_eq_true.mp (List.all_eq_true.mp ck.2.2.1 o (List.mem_range.mpr ho)) (x, q) (g_lk_mem h)
  have hq : q.1 = 20 := by simpa using hq
  unfold g_flk at h1
  dsimp only at h1
  rw [if_pos hq, decide_eq_true_eq] at h1
  exact g_tb_in h1 rfl
theorem g_il_ok (ck : g_CK) {o x : Nat} {q : Int32 × Nat} (ho : o < 17) (h : g_il o x = some q) : Cond.constant (g_on o) x q.1 ∈ g_tb := by
  have h1 := List.all_eq_true.mp (List.all_eq_true.mp ck.2.2.2.1 o (List.mem_range.mpr ho)) (x, q) (g_lk_mem h)
  simp only [g_ilk, decide_eq_true_eq] at h1
  exact g_tb_in h1 rfl
theorem g_jl_ok (ck : g_CK) {o x : Nat} {q : Int64 × Nat} (ho : o < 17) (h : g_jl o x = some q) : Cond.constantLong (g_on o) x q.1 ∈ g_tb := by
  have h1 := List.all_eq_true.mp (List.all_eq_true.mp ck.2.2.2.2.1 o (List.mem_range.mpr ho)) (x, q) (g_lk_mem h)
  simp only [g_jlk, decide_eq_true_eq] at h1
  exact g_tb_in h1 rfl
theorem g_clk_ok (ck : g_CK) {o x : Nat} {q : Nat × Nat} (ho : o < 17) (h : g_clk o x = some q) : q.1 < 13 ∧ Cond.classLink (g_on o) x (g_cl q.1).1 ∈ g_tb ∧ True := by
  have h1 := List.all_eq_true.mp (List.all_eq_true.mp ck.2.2.2.2.2.1 o (List.mem_range.mpr ho)) (x, q) (g_lk_mem h)
  simp only [g_clkk, Bool.and_eq_true, decide_eq_true_eq] at h1
  exact ⟨h1.1, g_tb_in h1.2 rfl, trivial⟩
theorem g_ins_all : (List.range 13).all (fun c => decide (Cond.instantiable (g_cl c).1 (g_cl c).2.2 ∈ tables_1) && decide (Cond.initialized (g_cl c).1 ∈ tables_1)) = true := by decide +kernel
theorem g_ins_ok {c : Nat} (h : c < 13) : Cond.instantiable (g_cl c).1 (g_cl c).2.2 ∈ g_tb := by
  have h1 := List.all_eq_true.mp g_ins_all c (List.mem_range.mpr h)
  simp only [Bool.and_eq_true, decide_eq_true_eq] at h1
  exact g_tb_of (List.mem_append_right _ h1.1) rfl
theorem g_ini2_ok {c : Nat} (h : c < 13) : Cond.initialized (g_cl c).1 ∈ g_tb := by
  have h1 := List.all_eq_true.mp g_ins_all c (List.mem_range.mpr h)
  simp only [Bool.and_eq_true, decide_eq_true_eq] at h1
  exact g_tb_of (List.mem_append_right _ h1.2) rfl
theorem g_ac_all : ∀ w ∈ ([.arrayClass .byte, .arrayClass .char, .arrayClass .int, .arrayClass .long, .arrayClass .boolean] : List Cond), w ∈ tables_1 := by decide +kernel
theorem g_ln {n k : Nat} {i : Instr} (hn : n = g_len i ∨ g_len i = 0) (hk : g_len i = k + 1) : n = k + 1 := by
  rcases hn with h | h
  · rw [h, hk]
  · omega
def g_isN : Cond → Bool
  | .methodLinkNest .. => true
  | _ => false
def g_Nw (U : State) : Prop := (∀ w ∈ tables_1, g_isN w = true → va_Nw w U) ∧ (Cond.arrayOver (.array .int)).before #[] U = true
theorem g_Nw.warm {s U : State} (hW : s.WarmedH U.vm) (h : g_Nw s) : g_Nw U := by
  refine ⟨?_, Jvm.Stand.arrayOver_alikeB hW.alike h.2⟩
  intro w hw hn
  have h1 := h.1 w hw hn
  cases w <;> first | exact va_Nw.warmM hW h1 | cases hn
theorem g_Nw.same {s U : State} (hv : s.vm = U.vm) (h : g_Nw s) : g_Nw U := by
  refine ⟨?_, Jvm.Stand.arrayOver_alikeB (by rw [hv]; exact Vm.Alike.refl _) h.2⟩
  intro w hw hn
  have h1 := h.1 w hw hn
  cases w <;> first | (cases hn; done) | exact va_Nw.same rfl hv h1
/-- what is only read, is there -/
def g_RO (cx : gCx) (A : Nat → Prop) (U : State) (H : Heap) : Prop := (∀ k, k < 3 → va_Z (g_gsn k).1 (g_gsn k).2.1 (g_gsn k).2.2 (g_stv cx k) A U H) ∧ ∀ (a : Nat) (q : Nat × Nat × (Nat → Int32) × (Nat → Int64)), cx.2.1 a q → (q.1 = 13 → va_T .byte a q.2.1 (fun j => .int (q.2.2.1 j)) A U H) ∧ (q.1 = 15 → va_T .int a q.2.1 (fun j => .int (q.2.2.1 j)) A U H) ∧ (q.1 = 16 → va_T .long a q.2.1 (fun j => .long (q.2.2.2 j)) A U H) ∧ (q.1 = 20 → va_O "java/lang/String" a A U H ∧ va_OF "java/lang/String" "value" "[B" (.ref q.2.1) a A U H ∧ va_OF "java/lang/String" "coder" "B" (.int 0) a A U H)
theorem g_RO.moved {cx : gCx} {A : Nat → Prop} {u U : State} {H : Heap} (hvm : u.vm.Alike U.vm) (h : g_RO cx A u H) : g_RO cx A U H :=
  ⟨fun k hk => va_Z.moved hvm (h.1 k hk), fun a q e => ⟨fun z => va_T.moved hvm ((h.2 a q e).1 z), fun z => va_T.moved hvm ((h.2 a q e).2.1 z), fun z => va_T.moved hvm ((h.2 a q e).2.2.1 z), fun z => ⟨va_O.moved hvm ((h.2 a q e).2.2.2 z).1, va_OF.moved hvm ((h.2 a q e).2.2.2 z).2.1, va_OF.moved hvm ((h.2 a q e).2.2.2 z).2.2⟩⟩⟩
theorem g_RO.kept {cx : gCx} {A : Nat → Prop} {U : State} {H H1 : Heap} (hq : ∀ a : Nat, a < H.size → ¬ A a → H1[a]? = H[a]?) (h : g_RO cx A U H) : g_RO cx A U H1 :=
  ⟨fun k hk => (h.1 k hk).kept hq, fun a q e => ⟨fun z => ((h.2 a q e).1 z).kept hq, fun z => ((h.2 a q e).2.1 z).kept hq, fun z => ((h.2 a q e).2.2.1 z).kept hq, fun z => ⟨((h.2 a q e).2.2.2 z).1.kept hq, ((h.2 a q e).2.2.2 z).2.1.kept hq, ((h.2 a q e).2.2.2 z).2.2.kept hq⟩⟩⟩
theorem g_RO.narrow {cx : gCx} {A B : Nat → Prop} {U : State} {H : Heap} (hAB : ∀ q, B q → A q) (h : g_RO cx A U H) : g_RO cx B U H :=
  ⟨fun k hk => (h.1 k hk).narrow hAB, fun a q e => ⟨fun z => ((h.2 a q e).1 z).narrow hAB, fun z => ((h.2 a q e).2.1 z).narrow hAB, fun z => ((h.2 a q e).2.2.1 z).narrow hAB, fun z => ⟨((h.2 a q e).2.2.2 z).1.narrow hAB, ((h.2 a q e).2.2.2 z).2.1.narrow hAB, ((h.2 a q e).2.2.2 z).2.2.narrow hAB⟩⟩⟩
/-- the String constants are at their addresses -/
def g_ST (cx : gCx) (U : State) : Prop := ∀ o x q, g_sl o x = some q → vk_R (g_on o) x (g_stx.getD q "") (cx.2.2.1 q) U
theorem g_ST.warm {cx : gCx} {s U : State} (hW : s.WarmedH U.vm) (h : g_ST cx s) : g_ST cx U := fun o x q e => vk_R.warm hW (h o x q e)
theorem g_ST.same {cx : gCx} {s U : State} (hv : U.vm = s.vm) (h : g_ST cx s) : g_ST cx U := fun o x q e => vk_R.same hv (h o x q e)
def g_wd (id : Nat) : List Cond := .code (g_yn id).1 (g_yn id).2 (g_mt id).2.1 (g_mt id).2.2.1 :: g_tb
def g_rm (d id : Nat) : Room := { frames := d, cells := (g_mt id).2.2.2.2.1, slots := (g_mt id).2.2.2.2.2.1, locals := 60 * d + 40 }
def g_Pre (cx : gCx) (D : va_G) (cy : Nat → ClassId) (t : gSt) (sz : Nat) (vs : List Value) : Array Value → State → Prop := va_Pc vs (fun U => U.heap.size = sz ∧ va_P D vwCl (g_w cy t) U.heap ∧ va_K D vwCl (g_tys cy) U ∧ va_D (fun _ => True) (g_w cy t) ∧ g_Nw U ∧ g_RO cx (va_A (g_w cy t) sz) U U.heap ∧ g_ST cx U)
def g_Q (D : va_G) (cy : Nat → ClassId) (post : Option Value → gSt → Prop) (A : Nat → Prop) : Array Value → State → Outcome → State → Prop := fun _ st oc T => (∃ (v : Option Value) (u : gSt), oc = .returned v ∧ post v u ∧ va_P D vwCl (g_w cy u) T.heap ∧ va_K D vwCl (g_tys cy) T ∧ va_D A (g_w cy u)) ∧ va_F A st T
def g_Met (cx : gCx) (l : Launch) (d id : Nat) (vs : List Value) (t : gSt) (post : Option Value → gSt → Prop) : Prop := ∀ (D : va_G) (cy : Nat → ClassId) (sz : Nat), Met l (g_yn id).1 (g_wd id) (g_rm d id) (g_Pre cx D cy t sz vs) (g_Q D cy post (va_A (g_w cy t) sz)) (g_mt id).2.2.2.2.1 (g_mt id).2.2.2.2.2.1 (va_A (g_w cy t) sz)
def g_idk (id : Nat) : Bool := decide ((g_mt id).1 < 17 ∧ (g_mt id).1 ≠ 13) && decide ((g_mt id).1 < 13 → (g_cl (g_mt id).1).1 = (g_yn id).1.cls) && decide (g_on (g_mt id).1 = (g_yn id).1.cls) && decide ((g_mt id).2.1 ≤ 41) && plainName (g_yn id).1.cls && ((g_yn id).1.cls != "java/lang/invoke/MethodHandle") && ((g_yn id).1.cls != "java/lang/invoke/VarHandle") && ((g_mt id).2.2.2.1 == ((g_yn id).1.name == "<init>"))
set_option maxRecDepth 20000 in
theorem g_id_all : (List.range 233).all g_idk = true := by decide +kernel
theorem g_id_ok {id : Nat} (h : id < 233) : ((g_mt id).1 < 17 ∧ (g_mt id).1 ≠ 13) ∧ ((g_mt id).1 < 13 → (g_cl (g_mt id).1).1 = (g_yn id).1.cls) ∧ g_on (g_mt id).1 = (g_yn id).1.cls ∧ (g_mt id).2.1 ≤ 41 ∧ plainName (g_yn id).1.cls = true ∧ ((g_yn id).1.cls ≠ "java/lang/invoke/MethodHandle" ∧ (g_yn id).1.cls ≠ "java/lang/invoke/VarHandle") ∧ ((g_mt id).2.2.2.1 = true → (g_yn id).1.name = "<init>") := by
  have h1 := List.all_eq_true.mp g_id_all id (List.mem_range.mpr h)
  simp only [g_idk, Bool.and_eq_true, decide_eq_true_eq, bne_iff_ne, beq_iff_eq] at h1
  obtain ⟨⟨⟨⟨⟨⟨⟨a, b⟩, c⟩, d⟩, e⟩, f⟩, g⟩, i⟩ := h1
  exact ⟨a, b, c, d, e, ⟨f, g⟩, fun q => by rw [q] at i; exact eq_of_beq i.symm⟩
theorem g_mw_ok (ck : g_CK) {id : Nat} (h : id < 233) : Cond.code (g_yn id).1 (g_yn id).2 (g_mt id).2.1 (g_mt id).2.2.1 ∈ g_tb ∧ Cond.initialized (g_yn id).1.cls ∈ g_tb ∧ (if (g_mw.getD id (0, false, 0, 0, 0)).2.1 = true then Cond.static (g_yn id).1 ∈ g_tb else Cond.instanceMethod (g_yn id).1 ∈ g_tb) ∧ ((g_mw.getD id (0, false, 0, 0, 0)).2.2.2.2 = 9999 ∨ Cond.selects (g_yn id).1.cls (g_yn id).1 (g_yn id).1 ∈ g_tb) := by
  have h1 := List.all_eq_true.mp ck.2.1 id (List.mem_range.mpr h)
  unfold g_mwk at h1
  rw [List.getD_eq_getElem?_getD]
  cases e : g_mw[id]? with
  | none => rw [e] at h1; cases h1
  | some q =>
    obtain ⟨pc, st, pk, pi, ps⟩ := q
    rw [e] at h1
    simp only [Bool.and_eq_true, decide_eq_true_eq, Bool.or_eq_true, beq_iff_eq] at h1
    obtain ⟨⟨⟨a, b⟩, c⟩, d⟩ := h1
    refine ⟨g_tb_of (List.mem_append_right _ (ck.2.2.2.2.2.2.2.2 id h)) rfl, g_tb_in c rfl, ?_, ?_⟩
    · simp only [Option.getD_some]
      cases st with
      | true =>
        rw [if_pos rfl] at b ⊢
        exact g_tb_in (of_decide_eq_true b) rfl
      | false =>
        rw [if_neg (by decide)] at b ⊢
        exact g_tb_in (of_decide_eq_true b) rfl
    · simp only [Option.getD_some]
      rcases d with d | d
      · exact Or.inl d
      · right
        split at d
        · exact g_tb_in (of_decide_eq_true d) rfl
        · exact g_tb_of (List.mem_append_left _ (List.mem_of_getElem? (of_decide_eq_true d))) rfl
theorem g_en_len : ∀ vs : List Value, (lg_sl vs).length = (g_en vs).length
  | [] => rfl
  | v :: vs => by
    have ih := g_en_len vs
    have e1 : lg_sl (v :: vs) = (if v.category = 2 then [.val v, .second] else [.val v]) ++ lg_sl vs := rfl
    have e2 : g_en (v :: vs) = if v.category = 2 then some v :: none :: g_en vs else some v :: g_en vs := rfl
    rw [e1, e2, List.length_append, ih]
    by_cases h : v.category = 2
    · rw [if_pos h, if_pos h]
      simp only [List.length_cons, List.length_nil]
      omega
    · rw [if_neg h, if_neg h]
      simp only [List.length_cons, List.length_nil]
      omega
/-- what holds all along a method's body -/
def g_C (cx : gCx) (p : Program) (R : Room) (s : State) (m : MethodId) (args : Array Value) (meth : Method) (c : Code) (cc : ByteArray) (D : va_G) (cy : Nat → ClassId) (A : Nat → Prop) (mt : gMt) : Prop :=
  p.tables.exec = Jvm.exec ∧ c.code = cc ∧ c.maxLocals = mt.2.1 ∧ meth.sig.returnType = mt.2.2.1 ∧ (∀ w ∈ g_tb, w.before args s = true) ∧ s.vm.findClass (g_on mt.1) = some m.cls ∧ mt.1 < 17 ∧ va_K D vwCl (g_tys cy) s ∧ (∀ q, s.heap.size ≤ q → A q) ∧ meth.locks = false ∧ (mt.2.2.2.1 = true → meth.name = "<init>") ∧ g_Nw s ∧ R.cells = mt.2.2.2.2.1 ∧ R.slots = mt.2.2.2.2.2.1 ∧ g_RO cx A s s.heap ∧ g_ST cx s
def g_P (p : Program) (l : Launch) (e : Env) (R : Room) (s : State) (m : MethodId) (args : Array Value) (below : List Frame) (meth : Method) (c : Code) (D : va_G) (cy : Nat → ClassId) (A : Nat → Prop) (mt : gMt) (Z : State → Prop) : gY → Prop := fun y =>
  ∀ (H : Heap) (locs : List Loc) (ls : Array Slot), va_P D vwCl (g_w cy y.2.2.2.1) H → va_D A (g_w cy y.2.2.2.1) → va_S A s.heap H locs → lv_has ls mt.2.1 (g_as y.2.1) → y.2.2.2.2.1 ≤ mt.2.2.2.2.1 → y.2.2.2.2.2 ≤ mt.2.2.2.2.2.1 → W p l e R s m args below meth c H locs y.2.2.2.2.1 y.2.2.2.2.2 Z (F0 m y.1 ls y.2.2.1)
theorem g_rd {ls : Array Slot} {n i : Nat} {lc : List (Option Value)} {v : Value} (hl : lv_has ls n (g_as lc)) (h : lc[i]? = some (some v)) : ls[i]? = some (.val v) := hl.2.2 (i, v) (g_as_mem.mpr h)
section GA
variable {p : Program} {l : Launch} {e : Env} {R : Room} {s : State} {m : MethodId} {args : Array Value} {below : List Frame} {meth : Method} {c : Code} {H : Heap} {locs : List Loc} {cells slots : Nat} {Q : State → Prop}
variable {cc : ByteArray} {pc : Nat} {ls : Array Slot} {rest : List Value} {D : va_G} {cy : Nat → ClassId} {A : Nat → Prop} {t : gSt} {H0 : Heap}
theorem g_c13 {a : Nat} (h : t.1.2.1 a = 13) : g_cell cy t a = .inl (cy 0, t.1.2.2 a, .inl (t.2.1 a)) := by unfold g_cell; rw [if_pos h]
theorem g_c14 {a : Nat} (h : t.1.2.1 a = 14) : g_cell cy t a = .inl (cy 1, t.1.2.2 a, .inl (t.2.1 a)) := by unfold g_cell; rw [if_neg (by omega), if_pos h]
theorem g_c15 {a : Nat} (h : t.1.2.1 a = 15) : g_cell cy t a = .inl (cy 2, t.1.2.2 a, .inl (t.2.1 a)) := by unfold g_cell; rw [if_neg (by omega), if_neg (by omega), if_pos h]
theorem g_c16 {a : Nat} (h : t.1.2.1 a = 16) : g_cell cy t a = .inl (cy 3, t.1.2.2 a, .inr (.inl (t.2.2.1 a))) := by unfold g_cell; rw [if_neg (by omega), if_neg (by omega), if_neg (by omega), if_pos h]
theorem g_c17 {a : Nat} (h : t.1.2.1 a = 17) : g_cell cy t a = .inl (cy 4, t.1.2.2 a, .inl (t.2.1 a)) := by unfold g_cell; rw [if_neg (by omega), if_neg (by omega), if_neg (by omega), if_neg (by omega), if_pos h]
theorem g_c18 {a : Nat} (h : t.1.2.1 a = 18) : g_cell cy t a = .inl (cy 5, t.1.2.2 a, .inr (.inr (.inr (.inr (t.2.2.2 a))))) := by unfold g_cell; rw [if_neg (by omega), if_neg (by omega), if_neg (by omega), if_neg (by omega), if_neg (by omega), if_pos h]
theorem g_updE (f : Nat → Int32) (k : Nat) (x : Int32) : upd f k x = va_up f k x := rfl
theorem g_updL (f : Nat → Int64) (k : Nat) (x : Int64) : vp_updL f k x = va_up f k x := rfl
/-- the world behind a store into an int row -/
theorem g_setI {q a k : Nat} {x : Int32} {e' : va_E} (hD : va_D A (g_w cy t)) (ha : a ∈ t.1.1) (hq : (g_w cy t)[q]? = some (a, g_cell cy t a)) (he : g_cell cy (g_si t a k x) a = e') : (g_w cy t).set q (a, e') = g_w cy (g_si t a k x) := by
  rw [← he]
  exact g_set rfl hD ha hq (fun b hb => g_cell_eq rfl (g_up_ne hb) rfl rfl)
theorem g_setJ {q a k : Nat} {x : Int64} {e' : va_E} (hD : va_D A (g_w cy t)) (ha : a ∈ t.1.1) (hq : (g_w cy t)[q]? = some (a, g_cell cy t a)) (he : g_cell cy (g_sj t a k x) a = e') : (g_w cy t).set q (a, e') = g_w cy (g_sj t a k x) := by
  rw [← he]
  exact g_set rfl hD ha hq (fun b hb => g_cell_eq rfl rfl (g_up_ne hb) rfl)
theorem g_setR {q a : Nat} {f : Nat → Int32} {e' : va_E} (hD : va_D A (g_w cy t)) (ha : a ∈ t.1.1) (hq : (g_w cy t)[q]? = some (a, g_cell cy t a)) (he : g_cell cy (g_row t a f) a = e') : (g_w cy t).set q (a, e') = g_w cy (g_row t a f) := by
  rw [← he]
  exact g_set rfl hD ha hq (fun b hb => g_cell_eq rfl (va_up_ne _ _ hb) rfl rfl)
/-- the world with a new cell -/
theorem g_push {q k n : Nat} {e' : va_E} (hq : q ∉ t.1.1) (he : g_cell cy (g_nw t q k n) q = e') : g_w cy t ++ [(q, e')] = g_w cy (g_nw t q k n) := by
  have h := va_pl_push (f := g_cell cy t) (e := e') hq
  refine (show g_w cy t ++ [(q, e')] = va_pl (t.1.1 ++ [q]) (va_up (g_cell cy t) q e') from h).trans ?_
  refine va_pl_congr (fun b => ?_)
  by_cases hb : b = q
  · subst hb
    rw [va_up_self, he]
  · rw [va_up_ne _ _ hb]
    have k1 : (g_nw t q k n).1.2.1 b = t.1.2.1 b := va_up_ne _ _ hb
    have k2 : (g_nw t q k n).1.2.2 b = t.1.2.2 b := va_up_ne _ _ hb
    have k3 : (g_nw t q k n).2.1 b = t.2.1 b := va_up_ne _ _ hb
    have k4 : (g_nw t q k n).2.2.1 b = t.2.2.1 b := va_up_ne _ _ hb
    have k5 : (g_nw t q k n).2.2.2 b = t.2.2.2 b := va_up_ne _ _ hb
    have hf : ∀ c, g_fs (g_nw t q k n) c b = g_fs t c b := by
      intro c
      unfold g_fs
      refine List.map_congr_left (fun j _ => ?_)
      unfold g_fv
      rw [k3, k4, k5]
    unfold g_cell
    rw [k1, k2, k3, k4, k5, hf]
theorem g_fv0 {q k n j : Nat} (ty : FieldType) : defaultValue ty = g_fv (g_nw t q k n) q j ty := by
  unfold g_fv
  rw [show (g_nw t q k n).2.1 q = fun _ => 0 from va_up_self _ _ _, show (g_nw t q k n).2.2.1 q = fun _ => 0 from va_up_self _ _ _, show (g_nw t q k n).2.2.2 q = fun _ => none from va_up_self _ _ _]
  cases ty <;> rfl
theorem g_new13 {q n : Nat} : g_cell cy (g_nw t q 13 n) q = .inl (cy 0, n, .inl (fun _ => 0)) := by
  rw [g_c13 (va_up_self _ _ _), show (g_nw t q 13 n).1.2.2 q = n from va_up_self _ _ _, show (g_nw t q 13 n).2.1 q = fun _ => 0 from va_up_self _ _ _]
theorem g_new14 {q n : Nat} : g_cell cy (g_nw t q 14 n) q = .inl (cy 1, n, .inl (fun _ => 0)) := by
  rw [g_c14 (va_up_self _ _ _), show (g_nw t q 14 n).1.2.2 q = n from va_up_self _ _ _, show (g_nw t q 14 n).2.1 q = fun _ => 0 from va_up_self _ _ _]
theorem g_new15 {q n : Nat} : g_cell cy (g_nw t q 15 n) q = .inl (cy 2, n, .inl (fun _ => 0)) := by
  rw [g_c15 (va_up_self _ _ _), show (g_nw t q 15 n).1.2.2 q = n from va_up_self _ _ _, show (g_nw t q 15 n).2.1 q = fun _ => 0 from va_up_self _ _ _]
theorem g_new16 {q n : Nat} : g_cell cy (g_nw t q 16 n) q = .inl (cy 3, n, .inr (.inl (fun _ => 0))) := by
  rw [g_c16 (va_up_self _ _ _), show (g_nw t q 16 n).1.2.2 q = n from va_up_self _ _ _, show (g_nw t q 16 n).2.2.1 q = fun _ => 0 from va_up_self _ _ _]
theorem g_new17 {q n : Nat} : g_cell cy (g_nw t q 17 n) q = .inl (cy 4, n, .inl (fun _ => 0)) := by
  rw [g_c17 (va_up_self _ _ _), show (g_nw t q 17 n).1.2.2 q = n from va_up_self _ _ _, show (g_nw t q 17 n).2.1 q = fun _ => 0 from va_up_self _ _ _]
/-- behind a call of a method that the whole world was given to -/
theorem g_go {post : Option Value → gSt → Prop} {a : Array Value} {A0 A1 : Nat → Prop} {mc ms : Nat} {free : Addr → Prop} {st0 : List Value} (hr : va_Run p l e R s m args below meth c H locs cells slots mc ms (F0 m pc ls st0) rest (g_Q D cy post A1 a) free) (hS : va_S A0 H0 H locs) (hA : ∀ q, q < H.size → A1 q → A0 q) (hf : ∀ q, free q → A0 q)
    (kk : ∀ (v : Option Value) (u : gSt) (H1 : Heap) (locs1 : List Loc), post v u → va_P D vwCl (g_w cy u) H1 → va_D A1 (g_w cy u) → va_S A0 H0 H1 locs1 → W p l e R s m args below meth c H1 locs1 (cells + mc) (slots + ms) Q (F0 m (pc + 3) ls (v.toList ++ rest))) : W p l e R s m args below meth c H locs cells slots Q (F0 m pc ls st0) := by
  intro T hT X
  obtain ⟨v, st₀, t, T', L, h0, X', hL, e1, e2, ⟨⟨v', u, hv, hp, hb1, hb2, hb3⟩, hz, hk⟩, st⟩ := hr T hT X
  cases hv
  rw [h0] at hz hk
  obtain ⟨t2, a1, b1⟩ := kk v u T'.heap (locs ++ L) hp (by rw [e1]; exact hb1) hb3
    ⟨Nat.le_trans hS.1 (by rw [e1]; exact hz), fun q h1 h2 => by rw [e1, hk q (Nat.lt_of_lt_of_le h1 hS.1) (fun z => h2 (hA q (Nat.lt_of_lt_of_le h1 hS.1) z))]; exact hS.2.1 q h1 h2, fun q hq => by
      rcases List.mem_append.mp hq with h | h
      · exact hS.2.2 q h
      · exact hf _ (hL q h)⟩ T' rfl X'
  exact ⟨t2, st t2 a1, b1⟩
end GA
def g_vtk (q : Nat × Nat × Nat × Nat × Nat) : Bool := (q.2.1 != 1 && q.2.1 != 11) || ((g_mw.getD q.2.2.1 (0, false, 0, 0, 0)).2.2.2.2 != 9999 && decide ((g_mt q.2.2.1).1 < 15))
theorem g_vt_all : (List.range 17).all (fun o => (g_mlT.getD o []).all g_vtk) = true := by decide +kernel
/-- a call of an own method, by kind: 0 static, 1 virtual, 2 special; its link in the table, or a nest mate's -/
theorem g_ml_own (ck : g_CK) {o x : Nat} {q : Nat × Nat × Nat × Nat} (ho : o < 17) (h : g_ml o x = some q) (kd : Nat) (hk : q.1 = kd ∨ q.1 = kd + 10) (hk3 : kd < 3) : q.2.1 < 233 ∧ (Cond.methodLink (g_on o) x (g_yn q.2.1).1 ∈ g_tb ∨ Cond.methodLinkNest (g_on o) x (g_yn q.2.1).1 "TailTrimmer" ∈ tables_1) ∧ (parseMethodDescriptor (g_yn q.2.1).1.desc).map (fun d => d.parameters.length) = some q.2.2.1 ∧ (kd = 0 → Cond.static (g_yn q.2.1).1 ∈ g_tb) ∧ (kd ≠ 0 → Cond.instanceMethod (g_yn q.2.1).1 ∈ g_tb) ∧ (kd = 1 → Cond.selects (g_yn q.2.1).1.cls (g_yn q.2.1).1 (g_yn q.2.1).1 ∈ g_tb) ∧ (kd = 2 → (g_yn q.2.1).1.name = "<init>") ∧ (kd = 1 → (g_mt q.2.1).1 < 15) := by
  have hm := g_lk_mem h
  have h1 := List.all_eq_true.mp (List.all_eq_true.mp ck.2.2.2.2.2.2.1 o (List.mem_range.mpr ho)) (x, q) hm
  have h2 := List.all_eq_true.mp (List.all_eq_true.mp g_vt_all o (List.mem_range.mpr ho)) (x, q) hm
  simp only [g_vtk, Bool.or_eq_true, Bool.and_eq_true, bne_iff_ne, decide_eq_true_eq] at h2
  have key : q.2.1 < 233 → (parseMethodDescriptor (g_yn q.2.1).1.desc).map (fun d => d.parameters.length) = some q.2.2.1 → ((kd == 0) == (g_mw.getD q.2.1 (0, false, 0, 0, 0)).2.1) = true → ((kd == 2) == ((g_yn q.2.1).1.name == "<init>")) = true → (Cond.methodLink (g_on o) x (g_yn q.2.1).1 ∈ g_tb ∨ Cond.methodLinkNest (g_on o) x (g_yn q.2.1).1 "TailTrimmer" ∈ tables_1) → q.2.1 < 233 ∧ (Cond.methodLink (g_on o) x (g_yn q.2.1).1 ∈ g_tb ∨ Cond.methodLinkNest (g_on o) x (g_yn q.2.1).1 "TailTrimmer" ∈ tables_1) ∧ (parseMethodDescriptor (g_yn q.2.1).1.desc).map (fun d => d.parameters.length) = some q.2.2.1 ∧ (kd = 0 → Cond.static (g_yn q.2.1).1 ∈ g_tb) ∧ (kd ≠ 0 → Cond.instanceMethod (g_yn q.2.1).1 ∈ g_tb) ∧ (kd = 1 → Cond.selects (g_yn q.2.1).1.cls (g_yn q.2.1).1 (g_yn q.2.1).1 ∈ g_tb) ∧ (kd = 2 → (g_yn q.2.1).1.name = "<init>") ∧ (kd = 1 → (g_mt q.2.1).1 < 15) := by
    intro a1 a2 a3 a4 a5
    obtain ⟨-, -, b3, b4⟩ := g_mw_ok ck a1
    have a3 := eq_of_beq a3
    have a4 := eq_of_beq a4
    refine ⟨a1, a5, a2, fun e => ?_, fun e => ?_, fun e => ?_, fun e => ?_, fun e => ?_⟩
    · subst e
      rw [← a3] at b3
      exact b3
    · rw [← a3, if_neg (by simpa using e)] at b3
      exact b3
    · subst e
      rcases b4 with b4 | b4
      · rcases h2 with h2 | h2
        · rcases hk with hk | hk
          · exact absurd hk h2.1
          · exact absurd hk h2.2
        · exact absurd b4 h2.1
      · exact b4
    · subst e
      exact eq_of_beq a4.symm
    · subst e
      rcases h2 with h2 | h2
      · rcases hk with hk | hk
        · exact absurd hk h2.1
        · exact absurd hk h2.2
      · exact h2.2
  unfold g_mlk at h1
  rcases hk with hk | hk
  · have e3 : ¬ q.1 = 3 := by omega
    have e4 : ¬ q.1 = 4 := by omega
    have e5 : ¬ q.1 = 5 := by omega
    have e6 : ¬ q.1 = 6 := by omega
    have e7 : q.1 < 3 := by omega
    simp only [e3, e4, e5, e6, e7, if_false, if_true, Bool.and_eq_true, decide_eq_true_eq] at h1
    rw [hk] at h1
    obtain ⟨⟨⟨⟨a1, a2⟩, a3⟩, a4⟩, a5⟩ := h1
    exact key a1 a3 a4 a5 (Or.inl (g_tb_in a2 rfl))
  · have e3 : ¬ q.1 = 3 := by omega
    have e4 : ¬ q.1 = 4 := by omega
    have e5 : ¬ q.1 = 5 := by omega
    have e6 : ¬ q.1 = 6 := by omega
    have e7 : ¬ q.1 < 3 := by omega
    have e8 : 10 ≤ q.1 ∧ q.1 < 13 := by omega
    simp only [e3, e4, e5, e6, e7, e8, if_false, if_true, and_self, Bool.and_eq_true, decide_eq_true_eq] at h1
    rw [hk] at h1
    obtain ⟨⟨⟨⟨a1, a2⟩, a3⟩, a4⟩, a5⟩ := h1
    exact key a1 a3 (by rw [← a4]; congr 1; simp) (by rw [← a5]; congr 1; simp) (Or.inr (List.mem_of_getElem? a2))
theorem g_ml_jdk (ck : g_CK) {o x : Nat} {q : Nat × Nat × Nat × Nat} (ho : o < 17) (h : g_ml o x = some q) : (q.1 = 3 → Cond.methodLink (g_on o) x Lib.objectInit ∈ g_tb) ∧ (q.1 = 4 → Cond.methodLink (g_on o) x Lib.Math.max.name ∈ g_tb) ∧ (q.1 = 5 → Cond.methodLink (g_on o) x Lib.Math.min.name ∈ g_tb) ∧ (q.1 = 6 → Cond.methodLink (g_on o) x arraycopyName ∈ g_tb) := by
  have h1 := List.all_eq_true.mp (List.all_eq_true.mp ck.2.2.2.2.2.2.1 o (List.mem_range.mpr ho)) (x, q) (g_lk_mem h)
  unfold g_mlk at h1
  refine ⟨fun e => ?_, fun e => ?_, fun e => ?_, fun e => ?_⟩
  · simp only [e, if_true, decide_eq_true_eq] at h1
    exact g_tb_in h1 rfl
  · simp only [e, if_true, decide_eq_true_eq, show ¬ (4 = 3) by decide, if_false] at h1
    exact g_tb_in h1 rfl
  · simp only [e, if_true, decide_eq_true_eq, show ¬ (5 = 3) by decide, show ¬ (5 = 4) by decide, if_false] at h1
    exact g_tb_in h1 rfl
  · simp only [e, if_true, decide_eq_true_eq, show ¬ (6 = 3) by decide, show ¬ (6 = 4) by decide, show ¬ (6 = 5) by decide, if_false] at h1
    exact g_tb_in h1 rfl
def g_jw : List Cond := [.instanceMethod Lib.objectInit, .code Lib.objectInit ⟨#[0xb1]⟩ 1 none, .static Lib.Math.max.name, .initialized "java/lang/Math", .code Lib.Math.max.name Lib.Math.max.code 2 (some .int), .static Lib.Math.min.name, .code Lib.Math.min.name Lib.Math.min.code 2 (some .int), .native arraycopyName, .static arraycopyName, .initialized "java/lang/System"]
theorem g_jw_in : ∀ w ∈ g_jw, w ∈ tables_1 := by decide +kernel
theorem g_jw_at {w : Cond} (h : w ∈ g_jw) (hg : goodWord w = true) : w ∈ g_tb := g_tb_of (List.mem_append_right _ (g_jw_in w h)) hg
theorem g_wd_in (ck : g_CK) {id : Nat} (h : id < 233) : GoodIn g_tb (g_wd id) := by
  intro w hw
  have hw : w ∈ g_tb := by
    rcases List.mem_cons.mp hw with e | e
    · rw [e]
      exact (g_mw_ok ck h).1
    · exact e
  exact ⟨hw, good_of_word (g_tb_good hw)⟩
