/-! THE CLAIM OUT OF ONE WALK OF THE LAW'S BODY. Your part is whole_start (and what it stands on); all else here is the same for every law, but numbers. -/
def R_law : String := "TailTrimmerLaw"
def lw_P (b : Addr) (xs : List Int32) (args : Array Value) (s : State) : Prop := args = #[.ref b] ∧ s.IntsAt b xs ∧ xs.length ≤ 2560 ∧ (Jvm.Cond.and given_1 narrow_1).before args s = true
def lw_Q (_ : Array Value) (s : State) (o : Outcome) (t : State) : Prop := o = .returned (some (.int 1)) ∧ Framed s o t [] 600000 7302250
def lw_Z (below : List Frame) (a : Array Value) (s : State) : State → Prop := fun t => ∃ o, t.status = .running ∧ Ended t below o ∧ lw_Q a s o t
/-- the law's own end, with 1 on the stack, nothing written that was there before, its room as the claim has it -/
theorem lw_ret {p : Program} {l : Launch} {e : Env} {s : State} {m : MethodId} {below : List Frame} {meth : Method} {c : Code} {b : Nat} (hx : p.tables.exec = Jvm.exec) (hb : c.code = code) (hr : meth.sig.returnType = ret) (hlocks : meth.locks = false) {pc : Nat} {H : Heap} {ls : Array Slot} (hdg : decode code pc = .ok (.ireturn, 1)) : W p l e room_1 s m #[Value.ref b] below meth c H [] 600000 7302250 (lw_Z below #[Value.ref b] s) (F0 m pc ls [.int 1]) := by
  intro T hT X
  obtain ⟨fs, hret, hrun, hended, hW, hframe⟩ := X.leave (v := some (.int 1)) (hlocks := hlocks) (fun h => by rw [hr] at h; cases h)
  have hmeth' : T.vm.method? m = some meth := X.method'
  refine ⟨T.setFrames fs, ?_, .returned (some (.int 1)), hrun, hended, rfl, ⟨_, rfl⟩, hW, hframe⟩
  jvm_step X.here [X.here.top, hx, hb, hdg, hmeth', hr, ret, narrow_b1]
  (try refine ⟨rfl, ?_⟩); (try refine ⟨rfl, ?_⟩)
  first | (intro acts; rw [hret _ acts rfl rfl rfl]) | rw [hret _ _ rfl rfl rfl]
  exact Steps.refl _
/-- what holds at the law's entry: the machine, the code, the tables' words (any of lw_tbl by 'hts w (by decide +kernel)'), the script of L ints xs at the cell b, what the Statement gives of the start (any of its parts by flat_of_before) -/
def lw_At (p : Program) (s : State) (m : MethodId) (meth : Method) (c : Code) (b L : Nat) (xs : Nat → Int32) : Prop :=
  p.tables.exec = Jvm.exec ∧ c.code = code ∧ meth.sig.returnType = ret ∧ c.maxLocals = 4 ∧ s.vm.findClass R_law = some m.cls ∧ (∀ w ∈ lw_tbl, w.before #[Value.ref b] s = true) ∧ va_X b L xs s s.heap ∧ b < s.heap.size ∧ meth.locks = false ∧ (Jvm.Cond.and given_1 narrow_1).before #[Value.ref b] s = true
/-- the law as data, with the claim's own room -/
def mt_law : gMt := (13, 4, some .boolean, false, 600000, 7302250, mt_L_law.2.2.2.2.2.2)
theorem g_ao_in : Cond.arrayOver (.array .int) ∈ tables_1 := by decide +kernel
theorem g_prim {s : State} {args : Array Value} (hts : ∀ w ∈ lw_tbl, w.before args s = true) {ty : FieldType} (h : Cond.arrayClass ty ∈ tables_1) (hty : ∀ C, ty ≠ .object C) : ∃ cA : ClassId, ArrOfT s cA ty ∧ va_RA s cA ty := by
  obtain ⟨cA, kA, comp, h1, h2, h3⟩ := Cond.arrayClass_spec (hts _ (List.mem_append_right _ h))
  refine ⟨cA, fun n z => ⟨fun k h => (by cases h), kA, h2, comp, h3⟩, ?_⟩
  cases ty <;> first | exact h1 | exact absurd rfl (hty _)
theorem g_known {s : State} {args : Array Value} (hts : ∀ w ∈ lw_tbl, w.before args s = true) : ∃ (D : va_G) (cy : Nat → ClassId), va_K D vwCl (g_tys cy) s := by
  have hc : ∀ c : Nat, ∃ q : ClassId × (Nat → Nat), c < 13 → u_Kn s (g_cl c).1 (g_cl c).2.1 (g_cl c).2.2 q.1 q.2 := by
    intro c
    by_cases h : c < 13
    · obtain ⟨cC, iS, hk⟩ := u_known (C := (g_cl c).1) (T := (g_cl c).2.1) (N := (g_cl c).2.2) hts (g_cl_in0 c h) (hts _ (List.mem_filter.mp (g_ins_ok h)).1)
      exact ⟨(cC, iS), fun _ => hk⟩
    · exact ⟨(0, fun _ => 0), fun z => absurd z h⟩
  obtain ⟨f, hf⟩ := Classical.axiomOfChoice hc
  obtain ⟨c0, a0, b0⟩ := g_prim (ty := .byte) hts (g_ac_all _ (by decide)) (fun C h => by cases h)
  obtain ⟨c1, a1, b1⟩ := g_prim (ty := .char) hts (g_ac_all _ (by decide)) (fun C h => by cases h)
  obtain ⟨c2, a2, b2⟩ := g_prim (ty := .int) hts (g_ac_all _ (by decide)) (fun C h => by cases h)
  obtain ⟨c3, a3, b3⟩ := g_prim (ty := .long) hts (g_ac_all _ (by decide)) (fun C h => by cases h)
  obtain ⟨c4, a4, b4⟩ := g_prim (ty := .boolean) hts (g_ac_all _ (by decide)) (fun C h => by cases h)
  obtain ⟨comp, c5, k5, -, -, h2, h3, h1⟩ := arrayOverA_spec (hts _ (List.mem_append_right _ g_ao_in))
  refine ⟨(fun c => (f c).1, fun c => (f c).2), fun k => [c0, c1, c2, c3, c4].getD k c5, fun c q hq => ?_, fun k q hq => ?_⟩
  · have hl : c < 13 := (List.getElem?_eq_some_iff.mp hq).1
    have e1 := (g_cl_ok c hl).symm.trans hq
    cases e1
    exact hf c hl
  · match k, hq with
    | 0, hq => cases hq; exact ⟨a0, b0⟩
    | 1, hq => cases hq; exact ⟨a1, b1⟩
    | 2, hq => cases hq; exact ⟨a2, b2⟩
    | 3, hq => cases hq; exact ⟨a3, b3⟩
    | 4, hq => cases hq; exact ⟨a4, b4⟩
    | 5, hq => cases hq; exact ⟨fun n z => ⟨fun k h => (by cases h), k5, h2, comp, h3⟩, h1⟩
    | k + 6, hq => simp [g_tys] at hq
set_option maxHeartbeats 4000000 in
/-- THE LAW'S WALK OUT OF ITS STEPS: what is left of the claim is g_W of the law, a matter of numbers alone -/
theorem g_law_ok (ck : g_CK) (ckl : mt_L_law.2.2.2.2.2.2.all (g_ok1 code) = true) (cx : gCx) {p : Program} {e : Env} {s : State} {m : MethodId} {below : List Frame} {meth : Method} {c : Code} (l : Launch) {b L : Nat} {xs : Nat → Int32} (C0 : lw_At p s m meth c b L xs) (hRO : g_RO cx (fun q => s.heap.size ≤ q) s s.heap) (hST : g_ST cx s) {d : Nat} (hd : d ≤ 1398) {t : gSt} (ht : t.1.1 = []) (h : g_W cx (g_E cx d) mt_law (fun v _ => v = some (.int 1)) (0, g_l0 [.ref b] 4, [], t, 0, 0)) : W p l e room_1 s m #[Value.ref b] below meth c s.heap [] 0 0 (lw_Z below #[Value.ref b] s) (entryFrame m ([Value.ref b] : List Value).toArray 4) := by
  obtain ⟨hx, hb, hr, hml, hown, hts0, hX, hbl, hlocks, hgv⟩ := C0
  have hts : ∀ w ∈ g_tb, w.before #[Value.ref b] s = true := fun w hw => hts0 w (List.mem_filter.mp hw).1
  obtain ⟨D, cy, hK⟩ := g_known hts0
  have hN : g_Nw s := by
    refine ⟨?_, hts0 _ (List.mem_append_right _ g_ao_in)⟩
    intro w hw hn
    have h1 := hts0 w (List.mem_append_right _ hw)
    cases w <;> first | exact va_Nw.of rfl h1 | cases hn
  have hC : g_C cx p room_1 s m #[Value.ref b] meth c code D cy (fun q => s.heap.size ≤ q) mt_law :=
    ⟨hx, hb, hml, hr, hts, hown, by decide, hK, fun q h => h, hlocks, (fun z => by cases z), hN, rfl, rfl, hRO, hST⟩
  have key : g_P p l e room_1 s m #[Value.ref b] below meth c D cy (fun q => s.heap.size ≤ q) mt_law (lw_Z below #[Value.ref b] s) (0, g_l0 [.ref b] 4, [], t, 0, 0) := by
    refine h _ (fun z P0 hP0 hz => ?_)
    obtain ⟨pc, lc, st, u, nc, ns⟩ := z
    unfold g_step at hz
    dsimp only at hz
    cases hlk : List.lookup pc mt_law.2.2.2.2.2.2 with
    | none =>
      rw [hlk] at hz
      exact hz.elim
    | some i =>
      rw [hlk] at hz
      have hck := List.all_eq_true.mp ckl (pc, i) (g_lk_mem hlk)
      unfold g_ok1 at hck
      dsimp only at hck
      cases hdc : decode code pc with
      | error x =>
        rw [hdc] at hck
        cases hck
      | ok q =>
        obtain ⟨i', n⟩ := q
        rw [hdc] at hck
        simp only [Bool.and_eq_true, decide_eq_true_eq, Bool.or_eq_true, beq_iff_eq] at hck
        obtain ⟨⟨rfl, hn⟩, hj⟩ := hck
        cases hir : g_isR i' with
        | false => exact g_do_ok ck hC (show 1 ≤ 2048 by decide) (show 40 ≤ 84000 by decide) hP0 (fun id2 vs2 t2 post2 h2 => ⟨d, by show d + 1 ≤ 2048; omega, by show 60 * d + 100 ≤ 84000; omega, g_sound ck cx l d id2 vs2 t2 post2 h2⟩) hdc hn hj hir hz
        | true =>
          cases i' with
          | ireturn =>
            obtain rfl : n = 1 := g_ln hn rfl
            obtain ⟨x, r, rfl, rfl, h2⟩ := g_i1_inv hz
            obtain ⟨ty, hty, h3, h4⟩ := g_op_inv h2
            cases h4
            intro H locs ls hP hD hS hl hc hs
            refine va_forget (fun q hq => hS.2.2 q hq) ?_
            refine W.widen (k := 600000) (n := 7302250) hc hs ?_
            exact lw_ret hx hb hr hlocks hdc
          | lreturn =>
            obtain ⟨x, r, rfl, rfl, h2, h4⟩ := g_l1_inv hz
            cases h4
          | areturn =>
            rcases g_n1_inv hz with ⟨x, r, rfl, rfl, h2⟩ | ⟨r, rfl, rfl, h2⟩
            · obtain ⟨ty, hty, h3, h4⟩ := g_op_inv h2
              cases h4
            · obtain ⟨ty, hty, h3, h4⟩ := g_op_inv h2
              cases h4
          | return_ =>
            obtain ⟨rfl, h2, h4⟩ := hz
            cases h4
          | _ => cases hir
  have hw : g_w cy t = [] := by
    unfold g_w
    rw [ht]
    rfl
  rw [lg_entry_eq]
  exact key s.heap [] _ (by rw [hw]; exact fun k q h => by simp at h) (by rw [hw]; exact ⟨fun i j p q h => by simp at h, fun k q h => by simp at h⟩) va_S.rf (g_l0_has (lv_entry [.ref b] (Nat.le_of_ble_eq_true rfl))) (Nat.zero_le _) (Nat.zero_le _)
