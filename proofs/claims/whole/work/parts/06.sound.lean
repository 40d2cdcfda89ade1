/-! THE STEPS ARE THE MACHINE'S: what g_E says of a method is a contract of it -/
theorem g_lk_mem {α : Type} {k : Nat} {v : α} : ∀ {l : List (Nat × α)}, l.lookup k = some v → (k, v) ∈ l
  | [], h => by cases h
  | (a, b) :: l, h => by
    unfold List.lookup at h
    split at h
    · next e =>
      cases h
      have e1 : k = a := eq_of_beq e
      subst e1
      exact List.mem_cons_self
    · exact List.mem_cons_of_mem _ (g_lk_mem h)
theorem g_fl_ok {o x : Nat} {q : Nat × Nat × Nat} (ho : o < 14) (h : g_fl o x = some q) : q.1 < 13 ∧ q.2.1 < (g_cl q.1).2.2 ∧ Cond.fieldLink (g_on o) x ((g_cl q.1).2.1 q.2.1).1 ((g_cl q.1).2.1 q.2.1).2.1 ((g_cl q.1).2.1 q.2.1).2.2.1 ∈ g_tb := by
  have h1 := List.all_eq_true.mp (List.all_eq_true.mp g_fl_all o (List.mem_range.mpr ho)) (x, q) (g_lk_mem h)
  simp only [g_flk, Bool.and_eq_true, decide_eq_true_eq] at h1
  exact ⟨h1.1.1, h1.1.2, g_tb_in h1.2 rfl⟩
theorem g_il_ok {o x : Nat} {q : Int32 × Nat} (ho : o < 14) (h : g_il o x = some q) : Cond.constant (g_on o) x q.1 ∈ g_tb := by
  have h1 := List.all_eq_true.mp (List.all_eq_true.mp g_il_all o (List.mem_range.mpr ho)) (x, q) (g_lk_mem h)
  simp only [g_ilk, decide_eq_true_eq] at h1
  exact g_tb_in h1 rfl
theorem g_jl_ok {o x : Nat} {q : Int64 × Nat} (ho : o < 14) (h : g_jl o x = some q) : Cond.constantLong (g_on o) x q.1 ∈ g_tb := by
  have h1 := List.all_eq_true.mp (List.all_eq_true.mp g_jl_all o (List.mem_range.mpr ho)) (x, q) (g_lk_mem h)
  simp only [g_jlk, decide_eq_true_eq] at h1
  exact g_tb_in h1 rfl
theorem g_ln {n k : Nat} {i : Instr} (hn : n = g_len i ∨ g_len i = 0) (hk : g_len i = k + 1) : n = k + 1 := by
  rcases hn with h | h
  · rw [h, hk]
  · omega
def g_isN : Cond → Bool
  | .methodLinkNest .. => true
  | _ => false
def g_Nw (U : State) : Prop := ∀ w ∈ tables_1, g_isN w = true → va_Nw w U
theorem g_Nw.warm {s U : State} (hW : s.WarmedH U.vm) (h : g_Nw s) : g_Nw U := by
  intro w hw hn
  have h1 := h w hw hn
  cases w <;> first | exact va_Nw.warmM hW h1 | cases hn
theorem g_Nw.same {s U : State} (hv : s.vm = U.vm) (h : g_Nw s) : g_Nw U := by
  intro w hw hn
  have h1 := h w hw hn
  cases w <;> first | (cases hn; done) | exact va_Nw.same rfl hv h1
def g_wd (id : Nat) : List Cond := .code (g_yn id).1 (g_yn id).2 (g_mt id).2.1 (g_mt id).2.2.1 :: g_tb
def g_rm (d id : Nat) : Room := { frames := d, cells := (g_mt id).2.2.2.2.1, slots := (g_mt id).2.2.2.2.2.1, locals := 60 * d + 40 }
def g_Pre (D : va_G) (cy : Nat → ClassId) (t : gSt) (sz : Nat) (vs : List Value) : Array Value → State → Prop := va_Pc vs (fun U => U.heap.size = sz ∧ va_P D vwCl (g_w cy t) U.heap ∧ va_K D vwCl (g_tys cy) U ∧ va_D (fun _ => True) (g_w cy t) ∧ g_Nw U)
def g_Q (D : va_G) (cy : Nat → ClassId) (post : Option Value → gSt → Prop) (A : Nat → Prop) : Array Value → State → Outcome → State → Prop := fun _ st oc T => (∃ (v : Option Value) (u : gSt), oc = .returned v ∧ post v u ∧ va_P D vwCl (g_w cy u) T.heap ∧ va_K D vwCl (g_tys cy) T ∧ va_D A (g_w cy u)) ∧ va_F A st T
def g_Met (l : Launch) (d id : Nat) (vs : List Value) (t : gSt) (post : Option Value → gSt → Prop) : Prop := ∀ (D : va_G) (cy : Nat → ClassId) (sz : Nat), Met l (g_yn id).1 (g_wd id) (g_rm d id) (g_Pre D cy t sz vs) (g_Q D cy post (va_A (g_w cy t) sz)) (g_mt id).2.2.2.2.1 (g_mt id).2.2.2.2.2.1 (va_A (g_w cy t) sz)
def g_idk (id : Nat) : Bool := decide ((g_mt id).1 < 13) && decide ((g_cl (g_mt id).1).1 = (g_yn id).1.cls) && decide (g_on (g_mt id).1 = (g_yn id).1.cls) && decide ((g_mt id).2.1 ≤ 41) && plainName (g_yn id).1.cls && ((g_yn id).1.cls != "java/lang/invoke/MethodHandle") && ((g_yn id).1.cls != "java/lang/invoke/VarHandle") && ((g_mt id).2.2.2.1 == ((g_yn id).1.name == "<init>"))
set_option maxRecDepth 20000 in
theorem g_id_all : (List.range 221).all g_idk = true := by decide +kernel
theorem g_id_ok {id : Nat} (h : id < 221) : (g_mt id).1 < 13 ∧ (g_cl (g_mt id).1).1 = (g_yn id).1.cls ∧ g_on (g_mt id).1 = (g_yn id).1.cls ∧ (g_mt id).2.1 ≤ 41 ∧ plainName (g_yn id).1.cls = true ∧ ((g_yn id).1.cls ≠ "java/lang/invoke/MethodHandle" ∧ (g_yn id).1.cls ≠ "java/lang/invoke/VarHandle") ∧ ((g_mt id).2.2.2.1 = true → (g_yn id).1.name = "<init>") := by
  have h1 := List.all_eq_true.mp g_id_all id (List.mem_range.mpr h)
  simp only [g_idk, Bool.and_eq_true, decide_eq_true_eq, bne_iff_ne, beq_iff_eq] at h1
  obtain ⟨⟨⟨⟨⟨⟨⟨a, b⟩, c⟩, d⟩, e⟩, f⟩, g⟩, i⟩ := h1
  exact ⟨a, b, c, d, e, ⟨f, g⟩, fun q => by rw [q] at i; exact eq_of_beq i.symm⟩
theorem g_mw_ok {id : Nat} (h : id < 221) : Cond.code (g_yn id).1 (g_yn id).2 (g_mt id).2.1 (g_mt id).2.2.1 ∈ g_tb ∧ Cond.initialized (g_yn id).1.cls ∈ g_tb ∧ (if (g_mw.getD id (0, false, 0, 0, 0)).2.1 = true then Cond.static (g_yn id).1 ∈ g_tb else Cond.instanceMethod (g_yn id).1 ∈ g_tb) ∧ ((g_mw.getD id (0, false, 0, 0, 0)).2.2.2.2 = 9999 ∨ Cond.selects (g_yn id).1.cls (g_yn id).1 (g_yn id).1 ∈ g_tb) := by
  have h1 := List.all_eq_true.mp g_mw_all id (List.mem_range.mpr h)
  unfold g_mwk at h1
  rw [List.getD_eq_getElem?_getD]
  cases e : g_mw[id]? with
  | none => rw [e] at h1; cases h1
  | some q =>
    obtain ⟨pc, st, pk, pi, ps⟩ := q
    rw [e] at h1
    simp only [Bool.and_eq_true, decide_eq_true_eq, Bool.or_eq_true, beq_iff_eq] at h1
    obtain ⟨⟨⟨a, b⟩, c⟩, d⟩ := h1
    refine ⟨g_tb_in a rfl, g_tb_in c rfl, ?_, ?_⟩
    · simp only [Option.getD_some]
      cases st with
      | true =>
        rw [if_pos rfl] at b ⊢
        exact g_tb_in (of_decide_eq_true b) rfl
      | false =>
        rw [if_neg (by decide)] at b ⊢
        exact g_tb_in (of_decide_eq_true b) rfl
    · simp only [Option.getD_some]
      rcases d with d | d
      · exact Or.inl d
      · right
        split at d
        · exact g_tb_in (of_decide_eq_true d) rfl
        · exact g_tb_of (List.mem_append_left _ (List.mem_of_getElem? (of_decide_eq_true d))) rfl
theorem g_en_len : ∀ vs : List Value, (lg_sl vs).length = (g_en vs).length
  | [] => rfl
  | v :: vs => by
    have ih := g_en_len vs
    have e1 : lg_sl (v :: vs) = (if v.category = 2 then [.val v, .second] else [.val v]) ++ lg_sl vs := rfl
    have e2 : g_en (v :: vs) = if v.category = 2 then some v :: none :: g_en vs else some v :: g_en vs := rfl
    rw [e1, e2, List.length_append, ih]
    by_cases h : v.category = 2
    · rw [if_pos h, if_pos h]
      simp only [List.length_cons, List.length_nil]
      omega
    · rw [if_neg h, if_neg h]
      simp only [List.length_cons, List.length_nil]
      omega
/-- what holds all along a method's body -/
def g_C (p : Program) (R : Room) (s : State) (m : MethodId) (args : Array Value) (meth : Method) (c : Code) (cc : ByteArray) (D : va_G) (cy : Nat → ClassId) (A : Nat → Prop) (mt : gMt) : Prop :=
  p.tables.exec = Jvm.exec ∧ c.code = cc ∧ c.maxLocals = mt.2.1 ∧ meth.sig.returnType = mt.2.2.1 ∧ (∀ w ∈ g_tb, w.before args s = true) ∧ s.vm.findClass (g_on mt.1) = some m.cls ∧ mt.1 < 14 ∧ va_K D vwCl (g_tys cy) s ∧ (∀ q, s.heap.size ≤ q → A q) ∧ meth.locks = false ∧ (mt.2.2.2.1 = true → meth.name = "<init>") ∧ g_Nw s ∧ R.cells = mt.2.2.2.2.1 ∧ R.slots = mt.2.2.2.2.2.1
def g_P (p : Program) (l : Launch) (e : Env) (R : Room) (s : State) (m : MethodId) (args : Array Value) (below : List Frame) (meth : Method) (c : Code) (D : va_G) (cy : Nat → ClassId) (A : Nat → Prop) (mt : gMt) (Z : State → Prop) : gY → Prop := fun y =>
  ∀ (H : Heap) (locs : List Loc) (ls : Array Slot), va_P D vwCl (g_w cy y.2.2.2.1) H → va_D A (g_w cy y.2.2.2.1) → va_S A s.heap H locs → lv_has ls mt.2.1 (g_as y.2.1) → y.2.2.2.2.1 ≤ mt.2.2.2.2.1 → y.2.2.2.2.2 ≤ mt.2.2.2.2.2.1 → W p l e R s m args below meth c H locs y.2.2.2.2.1 y.2.2.2.2.2 Z (F0 m y.1 ls y.2.2.1)
theorem g_rd {ls : Array Slot} {n i : Nat} {lc : List (Option Value)} {v : Value} (hl : lv_has ls n (g_as lc)) (h : lc[i]? = some (some v)) : ls[i]? = some (.val v) := hl.2.2 (i, v) (g_as_mem.mpr h)
section GA
variable {p : Program} {l : Launch} {e : Env} {R : Room} {s : State} {m : MethodId} {args : Array Value} {below : List Frame} {meth : Method} {c : Code} {H : Heap} {locs : List Loc} {cells slots : Nat} {Q : State → Prop}
variable {cc : ByteArray} {pc : Nat} {ls : Array Slot} {rest : List Value} {D : va_G} {cy : Nat → ClassId} {A : Nat → Prop} {t : gSt} {H0 : Heap}
theorem g_c13 {a : Nat} (h : t.1.2.1 a = 13) : g_cell cy t a = .inl (cy 0, t.1.2.2 a, .inl (t.2.1 a)) := by unfold g_cell; rw [if_pos h]
theorem g_c14 {a : Nat} (h : t.1.2.1 a = 14) : g_cell cy t a = .inl (cy 1, t.1.2.2 a, .inl (t.2.1 a)) := by unfold g_cell; rw [if_neg (by omega), if_pos h]
theorem g_c15 {a : Nat} (h : t.1.2.1 a = 15) : g_cell cy t a = .inl (cy 2, t.1.2.2 a, .inl (t.2.1 a)) := by unfold g_cell; rw [if_neg (by omega), if_neg (by omega), if_pos h]
theorem g_c16 {a : Nat} (h : t.1.2.1 a = 16) : g_cell cy t a = .inl (cy 3, t.1.2.2 a, .inr (.inl (t.2.2.1 a))) := by unfold g_cell; rw [if_neg (by omega), if_neg (by omega), if_neg (by omega), if_pos h]
theorem g_c17 {a : Nat} (h : t.1.2.1 a = 17) : g_cell cy t a = .inl (cy 4, t.1.2.2 a, .inl (t.2.1 a)) := by unfold g_cell; rw [if_neg (by omega), if_neg (by omega), if_neg (by omega), if_neg (by omega), if_pos h]
theorem g_updE (f : Nat → Int32) (k : Nat) (x : Int32) : upd f k x = va_up f k x := rfl
theorem g_updL (f : Nat → Int64) (k : Nat) (x : Int64) : vp_updL f k x = va_up f k x := rfl
/-- the world behind a store into an int row -/
theorem g_setI {q a k : Nat} {x : Int32} {e' : va_E} (hD : va_D A (g_w cy t)) (ha : a ∈ t.1.1) (hq : (g_w cy t)[q]? = some (a, g_cell cy t a)) (he : g_cell cy (g_si t a k x) a = e') : (g_w cy t).set q (a, e') = g_w cy (g_si t a k x) := by
  rw [← he]
  exact g_set rfl hD ha hq (fun b hb => g_cell_eq rfl (g_up_ne hb) rfl rfl)
theorem g_setJ {q a k : Nat} {x : Int64} {e' : va_E} (hD : va_D A (g_w cy t)) (ha : a ∈ t.1.1) (hq : (g_w cy t)[q]? = some (a, g_cell cy t a)) (he : g_cell cy (g_sj t a k x) a = e') : (g_w cy t).set q (a, e') = g_w cy (g_sj t a k x) := by
  rw [← he]
  exact g_set rfl hD ha hq (fun b hb => g_cell_eq rfl rfl (g_up_ne hb) rfl)
theorem g_setR {q a : Nat} {f : Nat → Int32} {e' : va_E} (hD : va_D A (g_w cy t)) (ha : a ∈ t.1.1) (hq : (g_w cy t)[q]? = some (a, g_cell cy t a)) (he : g_cell cy (g_row t a f) a = e') : (g_w cy t).set q (a, e') = g_w cy (g_row t a f) := by
  rw [← he]
  exact g_set rfl hD ha hq (fun b hb => g_cell_eq rfl (va_up_ne _ _ hb) rfl rfl)
/-- behind a call of a method that the whole world was given to -/
theorem g_go {post : Option Value → gSt → Prop} {a : Array Value} {A0 A1 : Nat → Prop} {mc ms : Nat} {free : Addr → Prop} {st0 : List Value} (hr : va_Run p l e R s m args below meth c H locs cells slots mc ms (F0 m pc ls st0) rest (g_Q D cy post A1 a) free) (hS : va_S A0 H0 H locs) (hA : ∀ q, q < H.size → A1 q → A0 q) (hf : ∀ q, free q → A0 q)
    (kk : ∀ (v : Option Value) (u : gSt) (H1 : Heap) (locs1 : List Loc), post v u → va_P D vwCl (g_w cy u) H1 → va_D A1 (g_w cy u) → va_S A0 H0 H1 locs1 → W p l e R s m args below meth c H1 locs1 (cells + mc) (slots + ms) Q (F0 m (pc + 3) ls (v.toList ++ rest))) : W p l e R s m args below meth c H locs cells slots Q (F0 m pc ls st0) := by
  intro T hT X
  obtain ⟨v, st₀, t, T', L, h0, X', hL, e1, e2, ⟨⟨v', u, hv, hp, hb1, hb2, hb3⟩, hz, hk⟩, st⟩ := hr T hT X
  cases hv
  rw [h0] at hz hk
  obtain ⟨t2, a1, b1⟩ := kk v u T'.heap (locs ++ L) hp (by rw [e1]; exact hb1) hb3
    ⟨Nat.le_trans hS.1 (by rw [e1]; exact hz), fun q h1 h2 => by rw [e1, hk q (Nat.lt_of_lt_of_le h1 hS.1) (fun z => h2 (hA q (Nat.lt_of_lt_of_le h1 hS.1) z))]; exact hS.2.1 q h1 h2, fun q hq => by
      rcases List.mem_append.mp hq with h | h
      · exact hS.2.2 q h
      · exact hf _ (hL q h)⟩ T' rfl X'
  exact ⟨t2, st t2 a1, b1⟩
end GA
def g_vtk (q : Nat × Nat × Nat × Nat × Nat) : Bool := (q.2.1 != 1 && q.2.1 != 11) || (g_mw.getD q.2.2.1 (0, false, 0, 0, 0)).2.2.2.2 != 9999
theorem g_vt_all : (List.range 14).all (fun o => (g_mlT.getD o []).all g_vtk) = true := by decide +kernel
/-- a call of an own method, by kind: 0 static, 1 virtual, 2 special; its link in the table, or a nest mate's -/
theorem g_ml_own {o x : Nat} {q : Nat × Nat × Nat × Nat} (ho : o < 14) (h : g_ml o x = some q) (kd : Nat) (hk : q.1 = kd ∨ q.1 = kd + 10) (hk3 : kd < 3) : q.2.1 < 221 ∧ (Cond.methodLink (g_on o) x (g_yn q.2.1).1 ∈ g_tb ∨ Cond.methodLinkNest (g_on o) x (g_yn q.2.1).1 "TailTrimmer" ∈ tables_1) ∧ (parseMethodDescriptor (g_yn q.2.1).1.desc).map (fun d => d.parameters.length) = some q.2.2.1 ∧ (kd = 0 → Cond.static (g_yn q.2.1).1 ∈ g_tb) ∧ (kd ≠ 0 → Cond.instanceMethod (g_yn q.2.1).1 ∈ g_tb) ∧ (kd = 1 → Cond.selects (g_yn q.2.1).1.cls (g_yn q.2.1).1 (g_yn q.2.1).1 ∈ g_tb) ∧ (kd = 2 → (g_yn q.2.1).1.name = "<init>") := by
  have hm := g_lk_mem h
  have h1 := List.all_eq_true.mp (List.all_eq_true.mp g_ml_all o (List.mem_range.mpr ho)) (x, q) hm
  have h2 := List.all_eq_true.mp (List.all_eq_true.mp g_vt_all o (List.mem_range.mpr ho)) (x, q) hm
  simp only [g_vtk, Bool.or_eq_true, Bool.and_eq_true, bne_iff_ne] at h2
  have key : q.2.1 < 221 → (parseMethodDescriptor (g_yn q.2.1).1.desc).map (fun d => d.parameters.length) = some q.2.2.1 → ((kd == 0) == (g_mw.getD q.2.1 (0, false, 0, 0, 0)).2.1) = true → ((kd == 2) == ((g_yn q.2.1).1.name == "<init>")) = true → (Cond.methodLink (g_on o) x (g_yn q.2.1).1 ∈ g_tb ∨ Cond.methodLinkNest (g_on o) x (g_yn q.2.1).1 "TailTrimmer" ∈ tables_1) → q.2.1 < 221 ∧ (Cond.methodLink (g_on o) x (g_yn q.2.1).1 ∈ g_tb ∨ Cond.methodLinkNest (g_on o) x (g_yn q.2.1).1 "TailTrimmer" ∈ tables_1) ∧ (parseMethodDescriptor (g_yn q.2.1).1.desc).map (fun d => d.parameters.length) = some q.2.2.1 ∧ (kd = 0 → Cond.static (g_yn q.2.1).1 ∈ g_tb) ∧ (kd ≠ 0 → Cond.instanceMethod (g_yn q.2.1).1 ∈ g_tb) ∧ (kd = 1 → Cond.selects (g_yn q.2.1).1.cls (g_yn q.2.1).1 (g_yn q.2.1).1 ∈ g_tb) ∧ (kd = 2 → (g_yn q.2.1).1.name = "<init>") := by
    intro a1 a2 a3 a4 a5
    obtain ⟨-, -, b3, b4⟩ := g_mw_ok a1
    have a3 := eq_of_beq a3
    have a4 := eq_of_beq a4
    refine ⟨a1, a5, a2, fun e => ?_, fun e => ?_, fun e => ?_, fun e => ?_⟩
    · subst e
      rw [← a3] at b3
      exact b3
    · rw [← a3, if_neg (by simpa using e)] at b3
      exact b3
    · subst e
      rcases b4 with b4 | b4
      · rcases h2 with h2 | h2
        · rcases hk with hk | hk
          · exact absurd hk h2.1
          · exact absurd hk h2.2
        · exact absurd b4 h2
      · exact b4
    · subst e
      exact eq_of_beq a4.symm
  unfold g_mlk at h1
  rcases hk with hk | hk
  · have e3 : ¬ q.1 = 3 := by omega
    have e4 : ¬ q.1 = 4 := by omega
    have e5 : ¬ q.1 = 5 := by omega
    have e6 : ¬ q.1 = 6 := by omega
    have e7 : q.1 < 3 := by omega
    simp only [e3, e4, e5, e6, e7, if_false, if_true, Bool.and_eq_true, decide_eq_true_eq] at h1
    rw [hk] at h1
    obtain ⟨⟨⟨⟨a1, a2⟩, a3⟩, a4⟩, a5⟩ := h1
    exact key a1 a3 a4 a5 (Or.inl (g_tb_in a2 rfl))
  · have e3 : ¬ q.1 = 3 := by omega
    have e4 : ¬ q.1 = 4 := by omega
    have e5 : ¬ q.1 = 5 := by omega
    have e6 : ¬ q.1 = 6 := by omega
    have e7 : ¬ q.1 < 3 := by omega
    have e8 : 10 ≤ q.1 ∧ q.1 < 13 := by omega
    simp only [e3, e4, e5, e6, e7, e8, if_false, if_true, and_self, Bool.and_eq_true, decide_eq_true_eq] at h1
    rw [hk] at h1
    obtain ⟨⟨⟨⟨a1, a2⟩, a3⟩, a4⟩, a5⟩ := h1
    exact key a1 a3 (by rw [← a4]; congr 1; simp) (by rw [← a5]; congr 1; simp) (Or.inr (List.mem_of_getElem? a2))
theorem g_ml_jdk {o x : Nat} {q : Nat × Nat × Nat × Nat} (ho : o < 14) (h : g_ml o x = some q) : (q.1 = 3 → Cond.methodLink (g_on o) x Lib.objectInit ∈ g_tb) ∧ (q.1 = 4 → Cond.methodLink (g_on o) x Lib.Math.max.name ∈ g_tb) ∧ (q.1 = 5 → Cond.methodLink (g_on o) x Lib.Math.min.name ∈ g_tb) ∧ (q.1 = 6 → Cond.methodLink (g_on o) x arraycopyName ∈ g_tb) := by
  have h1 := List.all_eq_true.mp (List.all_eq_true.mp g_ml_all o (List.mem_range.mpr ho)) (x, q) (g_lk_mem h)
  unfold g_mlk at h1
  refine ⟨fun e => ?_, fun e => ?_, fun e => ?_, fun e => ?_⟩
  · simp only [e, if_true, decide_eq_true_eq] at h1
    exact g_tb_in h1 rfl
  · simp only [e, if_true, decide_eq_true_eq, show ¬ (4 = 3) by decide, if_false] at h1
    exact g_tb_in h1 rfl
  · simp only [e, if_true, decide_eq_true_eq, show ¬ (5 = 3) by decide, show ¬ (5 = 4) by decide, if_false] at h1
    exact g_tb_in h1 rfl
  · simp only [e, if_true, decide_eq_true_eq, show ¬ (6 = 3) by decide, show ¬ (6 = 4) by decide, show ¬ (6 = 5) by decide, if_false] at h1
    exact g_tb_in h1 rfl
def g_jw : List Cond := [.instanceMethod Lib.objectInit, .code Lib.objectInit ⟨#[0xb1]⟩ 1 none, .static Lib.Math.max.name, .initialized "java/lang/Math", .code Lib.Math.max.name Lib.Math.max.code 2 (some .int), .static Lib.Math.min.name, .code Lib.Math.min.name Lib.Math.min.code 2 (some .int), .native arraycopyName, .static arraycopyName, .initialized "java/lang/System"]
theorem g_jw_in : ∀ w ∈ g_jw, w ∈ tables_1 := by decide +kernel
theorem g_jw_at {w : Cond} (h : w ∈ g_jw) (hg : goodWord w = true) : w ∈ g_tb := g_tb_of (List.mem_append_right _ (g_jw_in w h)) hg
theorem g_wd_in {id : Nat} (h : id < 221) : GoodIn g_tb (g_wd id) := by
  intro w hw
  have hw : w ∈ g_tb := by
    rcases List.mem_cons.mp hw with e | e
    · rw [e]
      exact (g_mw_ok h).1
    · exact e
  exact ⟨hw, good_of_word (g_tb_good hw)⟩
