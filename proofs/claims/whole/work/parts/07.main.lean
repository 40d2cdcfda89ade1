theorem g_lsw {d k : Int} {pc : Nat} (hd : 0 ≤ (pc : Int) + d) : ∀ {l : List (Int × Int)}, l.all (fun q => decide (0 ≤ (pc : Int) + q.2)) = true → 0 ≤ (pc : Int) + Op.lookupswitch.offset l d k
  | [], _ => hd
  | (a, o) :: l, h => by
    rw [List.all_cons, Bool.and_eq_true, decide_eq_true_eq] at h
    show 0 ≤ (pc : Int) + (if a = k then o else Op.lookupswitch.offset l d k)
    by_cases e : a = k
    · rw [if_pos e]
      exact h.1
    · rw [if_neg e]
      exact g_lsw hd h.2
/-- instructions that end a method -/
def g_isR (i : Instr) : Bool := match i with
  | .ireturn => true
  | .lreturn => true
  | .areturn => true
  | .return_ => true
  | _ => false
theorem g_ini_all : (List.range 233).all (fun id => (g_yn id).1.name != "<init>" || (g_mt id).2.2.1.isNone) = true := by decide +kernel
theorem g_ini_ok {id : Nat} (h : id < 233) (hn : (g_yn id).1.name = "<init>") : (g_mt id).2.2.1 = none := by
  have h1 := List.all_eq_true.mp g_ini_all id (List.mem_range.mpr h)
  simp only [hn, bne_self_eq_false, Bool.false_or] at h1
  exact Option.isNone_iff_eq_none.mp h1
section GS
variable {p : Program} {l : Launch} {e : Env} {R : Room} {s : State} {m : MethodId} {args : Array Value} {below : List Frame} {meth : Method} {c : Code}
variable {cc : ByteArray} {D : va_G} {cy : Nat → ClassId} {A : Nat → Prop} {mt : gMt} {Z : State → Prop} {E : gE} {P0 : gY → Prop} {cx : gCx}
set_option maxHeartbeats 4000000 in
/-- calls -/
theorem g_inv_ok (ck : g_CK) (X : g_C cx p R s m args meth c cc D cy A mt) (hP0 : ∀ w, P0 w → g_P p l e R s m args below meth c D cy A mt Z w) (hE : ∀ id vs t post, E id vs t post → ∃ d : Nat, d + 1 ≤ R.frames ∧ 60 * d + 100 ≤ R.locals ∧ g_Met cx l d id vs t post)
    {x pc kd : Nat} {q : Nat × Nat × Nat × Nat} {lc : List (Option Value)} {st : List Value} {t : gSt} {nc ns : Nat} (hq : g_ml mt.1 x = some q) (hk : q.1 = kd ∨ q.1 = kd + 10) (hk3 : kd < 3) (hdg : decode cc pc = .ok ((if kd = 0 then .invokestatic x else if kd = 1 then .invokevirtual x else .invokespecial x), 3))
    (h : g_inv cx E P0 (if kd = 0 then 0 else 1, q.2) mt pc lc st t nc ns) : g_P p l e R s m args below meth c D cy A mt Z (pc, lc, st, t, nc, ns) := by
  obtain ⟨hx, hb, hml, hr, hts, hown, ho, hK, hA, hlocks, hin, hN, hRc, hRs, hRO, hST⟩ := X
  obtain ⟨hid, hlink, hpar, hstat, hinst, hsel, hname, hown15⟩ := g_ml_own ck ho hq kd hk hk3
  obtain ⟨i1, i2, i3, i4, i5, i6, i7⟩ := g_id_ok hid
  obtain ⟨w1, w2, -, -⟩ := g_mw_ok ck hid
  obtain ⟨hcs, h⟩ := g_ck_inv h
  rw [Bool.and_eq_true, decide_eq_true_eq, decide_eq_true_eq] at hcs
  obtain ⟨hc1, hs1⟩ := hcs
  intro H locs ls hP hD hS hl hc hs
  dsimp only at hP hD hl hc hs hc1 hs1
  have hsz : ls.size = mt.2.1 := hl.1
  have hfix : CallFix p m c cc mt.2.1 s args g_tb (g_on mt.1) := ⟨hx, hb, hml, hown, hts⟩
  have hFc : ∀ z, va_A (g_w cy t) H.size z → A z := by
    intro z hz
    rcases hz with ⟨k, e', hk⟩ | hz
    · exact hD.2 k (z, e') hk
    · exact hA z (Nat.le_trans hS.1 hz)
  have hroom : nc + (g_mt q.2.1).2.2.2.2.1 ≤ R.cells ∧ ns + (g_mt q.2.1).2.2.2.2.2.1 ≤ R.slots := ⟨by rw [hRc]; exact hc1, by rw [hRs]; exact hs1⟩
  have hblind : ∀ vs : List Value, FrameBlind (g_Pre cx D cy t H.size vs) := by
    intro vs a U g mk z
    obtain ⟨z0, z1, zP, zK, zD, zN, zO, zT⟩ := z
    exact ⟨z0, z1, zP, va_K.moved (u := U) (U := U.calling g mk a) (Vm.Alike.refl U.vm) zK, zD, g_Nw.same (s := U) (U := U.calling g mk a) rfl zN, g_RO.moved (u := U) (U := U.calling g mk a) (Vm.Alike.refl U.vm) zO, g_ST.same (s := U) (U := U.calling g mk a) rfl zT⟩
  have hpre : ∀ (vs : List Value) (U : State), U.heap = H → s.WarmedH U.vm → g_Pre cx D cy t H.size vs vs.toArray U := by
    intro vs U hU hW
    exact ⟨rfl, by rw [hU], by rw [hU]; exact hP, va_K.moved hW.alike hK, hD.weaken (fun _ _ _ _ => trivial), g_Nw.warm hW hN, by rw [hU]; exact ((hRO.kept (fun a ha z => hS.2.1 a ha z)).moved hW.alike).narrow hFc, g_ST.warm hW hST⟩
  have hd3 : (g_yn q.2.1).1.cls ≠ "java/lang/invoke/MethodHandle" ∧ (g_yn q.2.1).1.cls ≠ "java/lang/invoke/VarHandle" ∧ (parseMethodDescriptor (g_yn q.2.1).1.desc).map (fun d => d.parameters.length) = some q.2.2.1 := ⟨i6.1, i6.2, hpar⟩
  have hgo : ∀ (vs rest : List Value), E q.2.1 vs t (fun v u => P0 (pc + 3, lc, v.toList ++ rest, u, nc + (g_mt q.2.1).2.2.2.2.1, ns + (g_mt q.2.1).2.2.2.2.2.1)) → (∀ (rm : Room) (Pc : Array Value → State → Prop) (Qc : Array Value → State → Outcome → State → Prop), True) → ∃ d : Nat, (d + 1 ≤ R.frames ∧ 60 * d + 100 ≤ R.locals) ∧ g_Met cx l d q.2.1 vs t (fun v u => P0 (pc + 3, lc, v.toList ++ rest, u, nc + (g_mt q.2.1).2.2.2.2.1, ns + (g_mt q.2.1).2.2.2.2.2.1)) := by
    intro vs rest hv _
    obtain ⟨d, d1, d2, d3⟩ := hE _ _ _ _ hv
    exact ⟨d, ⟨d1, d2⟩, d3⟩
  have hend : ∀ (rest : List Value) (free : Addr → Prop) (a : Array Value), (∀ z, free z → A z) → va_Run p l e R s m args below meth c H locs nc ns (g_mt q.2.1).2.2.2.2.1 (g_mt q.2.1).2.2.2.2.2.1 (F0 m pc ls st) rest (g_Q D cy (fun v u => P0 (pc + 3, lc, v.toList ++ rest, u, nc + (g_mt q.2.1).2.2.2.2.1, ns + (g_mt q.2.1).2.2.2.2.2.1)) (va_A (g_w cy t) H.size) a) free → W p l e R s m args below meth c H locs nc ns Z (F0 m pc ls st) := by
    intro rest free a hfree hrun
    refine g_go hrun hS (fun z _ hz => hFc z hz) hfree (fun v u H1 locs1 hp hP1 hD1 hS1 => ?_)
    exact hP0 _ hp H1 locs1 ls hP1 (hD1.weaken (fun k z _ hz => hFc z.1 hz)) hS1 hl hc1 hs1
  match kd, hk3 with
  | 0, _ =>
    obtain ⟨h12, h3⟩ := g_ck_inv h
    rw [Bool.and_eq_true, decide_eq_true_eq, decide_eq_true_eq] at h12
    obtain ⟨h1, h2⟩ := h12
    have h1 : q.2.2.1 ≤ st.length := h1
    obtain ⟨d, ⟨d1, d2⟩, hM⟩ := hgo _ (st.drop q.2.2.1) h3 (fun _ _ _ => trivial)
    have hR : (g_rm d q.2.1).frames + 1 ≤ R.frames ∧ 8 + ((g_mt q.2.1).2.1 + 11) + (g_rm d q.2.1).locals ≤ R.locals := ⟨d1, by show 8 + ((g_mt q.2.1).2.1 + 11) + (60 * d + 40) ≤ R.locals; omega⟩
    have hst : (st.take q.2.2.1).reverse.reverse ++ st.drop q.2.2.1 = st := by rw [List.reverse_reverse, List.take_append_drop]
    have hlen : (st.take q.2.2.1).reverse.length = q.2.2.1 := by rw [List.length_reverse, List.length_take]; omega
    rcases hlink with hlk | hlk
    · exact hend _ _ _ hFc (va_runS hfix (hM D cy H.size) ⟨callB_of q.2.2.1 hts (g_wd_in ck hid) rfl rfl rfl (hts _ w2) (hts _ hlk) hd3 hR, hts _ (hstat rfl)⟩ ⟨hblind _, hpre _⟩ rfl hlen hsz hst.symm (lv_room h2) hdg hroom)
    · exact hend _ _ _ hFc (va_runSN hfix (hM D cy H.size) ⟨va_cnB q.2.2.1 hts (g_wd_in ck hid) rfl rfl rfl (hN.1 _ hlk rfl) (hts _ w2) hd3 hR, hts _ (hstat rfl), trivial⟩ ⟨hblind _, hpre _⟩ rfl hlen hsz hst.symm (lv_room h2) hdg hroom)
  | 1, _ =>
    obtain ⟨b, r, hb2, h⟩ := g_r1_inv h
    obtain ⟨h2, hkb, h3⟩ := g_ck_inv h
    have h2 := of_decide_eq_true h2
    obtain ⟨d, ⟨d1, d2⟩, hM⟩ := hgo _ r h3 (fun _ _ _ => trivial)
    have hR : (g_rm d q.2.1).frames + 1 ≤ R.frames ∧ 8 + ((g_mt q.2.1).2.1 + 11) + (g_rm d q.2.1).locals ≤ R.locals := ⟨d1, by show 8 + ((g_mt q.2.1).2.1 + 11) + (60 * d + 40) ≤ R.locals; omega⟩
    have hst : (st.take q.2.2.1).reverse.reverse ++ .ref b :: r = st := by rw [List.reverse_reverse, ← hb2, List.take_append_drop]
    have hlen : (st.take q.2.2.1).reverse.length = q.2.2.1 := by
      rw [List.length_reverse, List.length_take]
      have : (st.drop q.2.2.1).length ≠ 0 := by rw [hb2]; simp
      rw [List.length_drop] at this
      omega
    have hrecv : ∃ cell : Cell, H[b]? = some cell ∧ cell.vm.isStatics = false ∧ s.vm.findClass (g_yn q.2.1).1.cls = some cell.cls := by
      cases e14 : (g_mt q.2.1).1 == 14 with
      | true =>
        dsimp only at hkb
        rw [e14] at hkb
        obtain ⟨z, hz, hz2⟩ := hkb
        obtain ⟨cell, z1, z2, z3, -⟩ := ((hRO.2 b z hz).2.2.2 hz2).1.kept hS.2.1
        refine ⟨cell, z1, z2, ?_⟩
        rw [← i3, eq_of_beq e14]
        exact z3
      | false =>
        dsimp only at hkb
        rw [e14] at hkb
        have i14 : (g_mt q.2.1).1 ≠ 14 := by simpa using e14
        have i13 : (g_mt q.2.1).1 < 13 := by have := hown15 rfl; omega
        obtain ⟨q0, hq0⟩ := g_at (cy := cy) hkb.1
        rw [g_cell_obj hkb.2 i13] at hq0
        have := va_recv hK hP (g_cl_ok _ i13) hq0
        rwa [i2 i13] at this
    rcases hlink with hlk | hlk
    · exact hend _ _ _ hFc (va_runV (C := (g_yn q.2.1).1.cls) hfix (hM D cy H.size) ⟨callB_of q.2.2.1 hts (g_wd_in ck hid) rfl rfl rfl (hts _ w2) (hts _ hlk) hd3 hR, hts _ (hinst (by decide)), hts _ (hsel rfl)⟩ ⟨hblind _, hrecv, hpre _⟩ rfl hlen hsz hst.symm (lv_room h2) hdg hroom)
    · exact hend _ _ _ hFc (va_runVN (C := (g_yn q.2.1).1.cls) hfix (hM D cy H.size) ⟨va_cnB q.2.2.1 hts (g_wd_in ck hid) rfl rfl rfl (hN.1 _ hlk rfl) (hts _ w2) hd3 hR, hts _ (hinst (by decide)), hts _ (hsel rfl)⟩ ⟨hblind _, hrecv, hpre _⟩ rfl hlen hsz hst.symm (lv_room h2) hdg hroom)
  | 2, _ =>
    obtain ⟨b, r, hb2, h⟩ := g_r1_inv h
    obtain ⟨h2, hkb, h3⟩ := g_ck_inv h
    have h2 := of_decide_eq_true h2
    obtain ⟨d, ⟨d1, d2⟩, hM⟩ := hgo _ r h3 (fun _ _ _ => trivial)
    have hR : (g_rm d q.2.1).frames + 1 ≤ R.frames ∧ 8 + ((g_mt q.2.1).2.1 + 11) + (g_rm d q.2.1).locals ≤ R.locals := ⟨d1, by show 8 + ((g_mt q.2.1).2.1 + 11) + (60 * d + 40) ≤ R.locals; omega⟩
    have hst : (st.take q.2.2.1).reverse.reverse ++ .ref b :: r = st := by rw [List.reverse_reverse, ← hb2, List.take_append_drop]
    have hlen : (st.take q.2.2.1).reverse.length = q.2.2.1 := by
      rw [List.length_reverse, List.length_take]
      have : (st.drop q.2.2.1).length ≠ 0 := by rw [hb2]; simp
      rw [List.length_drop] at this
      omega
    have hrn := g_ini_ok hid (hname rfl)
    rcases hlink with hlk | hlk
    · have cb := callB_of (R := R) (rm := g_rm d q.2.1) (ret := (g_mt q.2.1).2.2.1) q.2.2.1 hts (g_wd_in ck hid) rfl rfl rfl (hts _ w2) (hts _ hlk) hd3 hR
      rw [hrn] at cb
      exact hend _ _ _ hFc (va_runI hfix (hM D cy H.size) ⟨cb, hname rfl, hts _ (hinst (by decide))⟩ ⟨hblind _, hpre _⟩ rfl hlen hsz hst.symm (lv_room h2) hdg hroom)
    · have cb := va_cnB (R := R) (rm := g_rm d q.2.1) (ret := (g_mt q.2.1).2.2.1) q.2.2.1 hts (g_wd_in ck hid) rfl rfl rfl (hN.1 _ hlk rfl) (hts _ w2) hd3 hR
      rw [hrn] at cb
      exact hend _ _ _ hFc (va_runIN hfix (hM D cy H.size) ⟨cb, hname rfl, hts _ (hinst (by decide))⟩ ⟨hblind _, hpre _⟩ rfl hlen hsz hst.symm (lv_room h2) hdg hroom)
set_option maxHeartbeats 8000000 in
/-- every instruction but those that end a method -/
theorem g_do_ok (ck : g_CK) (X : g_C cx p R s m args meth c cc D cy A mt) (hR1 : 1 ≤ R.frames) (hR2 : 40 ≤ R.locals) (hP0 : ∀ w, P0 w → g_P p l e R s m args below meth c D cy A mt Z w) (hE : ∀ id vs t post, E id vs t post → ∃ d : Nat, d + 1 ≤ R.frames ∧ 60 * d + 100 ≤ R.locals ∧ g_Met cx l d id vs t post)
    {i : Instr} {pc n : Nat} (hd : decode cc pc = .ok (i, n)) (hn : n = g_len i ∨ g_len i = 0) (hj : g_jok pc i = true) (hir : g_isR i = false) {post : Option Value → gSt → Prop} {lc : List (Option Value)} {st : List Value} {t : gSt} {nc ns : Nat} (h : g_do cx E P0 mt post i pc lc st t nc ns) : g_P p l e R s m args below meth c D cy A mt Z (pc, lc, st, t, nc, ns) := by
  have X0 := X
  obtain ⟨hx, hb, hml, hr, hts, hown, ho, hK, hA, hlocks, hin, hN, hRc, hRs, hRO, hST⟩ := X
  cases i with
  | iconst v =>
    obtain rfl : n = 1 := g_ln hn rfl
    intro H locs ls hP hD hS hl hc hs
    exact lv_iconst hx hb hd rfl (hP0 _ h H locs ls hP hD hS hl hc hs)
  | bipush v =>
    obtain rfl : n = 2 := g_ln hn rfl
    intro H locs ls hP hD hS hl hc hs
    exact lv_bipush hx hb hd rfl (hP0 _ h H locs ls hP hD hS hl hc hs)
  | sipush v =>
    obtain rfl : n = 3 := g_ln hn rfl
    intro H locs ls hP hD hS hl hc hs
    exact lv_sipush hx hb hd rfl (hP0 _ h H locs ls hP hD hS hl hc hs)
  | lconst v =>
    obtain rfl : n = 1 := g_ln hn rfl
    intro H locs ls hP hD hS hl hc hs
    exact lv_lconst hx hb hd rfl (hP0 _ h H locs ls hP hD hS hl hc hs)
  | aconst_null =>
    obtain rfl : n = 1 := g_ln hn rfl
    intro H locs ls hP hD hS hl hc hs
    exact lv_null hx hb hd (hP0 _ h H locs ls hP hD hS hl hc hs)
  | ldc x =>
    obtain rfl : n = 2 := g_ln hn rfl
    cases e1 : g_il mt.1 x with
    | some q =>
      have h : P0 (pc + 2, lc, .int q.1 :: st, t, nc, ns) := by
        unfold g_do at h
        dsimp only at h
        rw [e1] at h
        exact h
      intro H locs ls hP hD hS hl hc hs
      exact lv_ldc hx hb hown (hts _ (g_il_ok ck ho e1)) hd (hP0 _ h H locs ls hP hD hS hl hc hs)
    | none =>
      have h : g_op (g_sl mt.1 x) (fun q => P0 (pc + 2, lc, .ref (cx.2.2.1 q) :: st, t, nc, ns)) := by
        unfold g_do at h
        dsimp only at h
        rw [e1] at h
        exact h
      obtain ⟨q, hq, h⟩ := g_op_inv h
      intro H locs ls hP hD hS hl hc hs
      exact va_ldcS hx hb hown (hST _ _ _ hq) hd (hP0 _ h H locs ls hP hD hS hl hc hs)
  | ldc2_w x =>
    obtain rfl : n = 3 := g_ln hn rfl
    obtain ⟨q, hq, h⟩ := g_op_inv h
    intro H locs ls hP hD hS hl hc hs
    exact lv_ldc2 hx hb hown (hts _ (g_jl_ok ck ho hq)) hd (hP0 _ h H locs ls hP hD hS hl hc hs)
  | iload k =>
    obtain rfl : n = 2 := g_ln hn rfl
    obtain ⟨x, hg, h⟩ := g_ldi_inv h
    intro H locs ls hP hD hS hl hc hs
    exact lv_iload hx hb hd (g_rd hl hg) (hP0 _ h H locs ls hP hD hS hl hc hs)
  | iload_n k =>
    obtain rfl : n = 1 := g_ln hn rfl
    obtain ⟨x, hg, h⟩ := g_ldi_inv h
    intro H locs ls hP hD hS hl hc hs
    exact lv_iload_n hx hb hd rfl (g_rd hl hg) (hP0 _ h H locs ls hP hD hS hl hc hs)
  | lload k =>
    obtain rfl : n = 2 := g_ln hn rfl
    obtain ⟨x, hg, h⟩ := g_ldj_inv h
    intro H locs ls hP hD hS hl hc hs
    exact lv_lload hx hb hd (g_rd hl hg) (hP0 _ h H locs ls hP hD hS hl hc hs)
  | lload_n k =>
    obtain rfl : n = 1 := g_ln hn rfl
    obtain ⟨x, hg, h⟩ := g_ldj_inv h
    intro H locs ls hP hD hS hl hc hs
    exact lv_lload_n hx hb hd rfl (g_rd hl hg) (hP0 _ h H locs ls hP hD hS hl hc hs)
  | aload k =>
    obtain rfl : n = 2 := g_ln hn rfl
    rcases g_lda_inv (show g_lda lc k (fun v => P0 (pc + 2, lc, v :: st, t, nc, ns)) from h) with ⟨x, hg, h⟩ | ⟨hg, h⟩
    · intro H locs ls hP hD hS hl hc hs
      exact lv_aload hx hb hd (g_rd hl hg) (hP0 _ h H locs ls hP hD hS hl hc hs)
    · intro H locs ls hP hD hS hl hc hs
      exact lv_aloadN hx hb hd (g_rd hl hg) (hP0 _ h H locs ls hP hD hS hl hc hs)
  | aload_n k =>
    obtain rfl : n = 1 := g_ln hn rfl
    rcases g_lda_inv (show g_lda lc k.val (fun v => P0 (pc + 1, lc, v :: st, t, nc, ns)) from h) with ⟨x, hg, h⟩ | ⟨hg, h⟩
    · intro H locs ls hP hD hS hl hc hs
      exact lv_aload_n hx hb hd rfl (g_rd hl hg) (hP0 _ h H locs ls hP hD hS hl hc hs)
    · intro H locs ls hP hD hS hl hc hs
      exact lv_aload_nN hx hb hd rfl (g_rd hl hg) (hP0 _ h H locs ls hP hD hS hl hc hs)
  | istore k =>
    obtain rfl : n = 2 := g_ln hn rfl
    obtain ⟨x, r, rfl, h2⟩ := g_i1_inv h
    obtain ⟨hk, h⟩ := g_ck_inv h2
    have hk := of_decide_eq_true hk
    intro H locs ls hP hD hS hl hc hs
    exact lv_istore hx hb hd hl hk rfl (fun ls' hl' => hP0 _ h H locs ls' hP hD hS (g_st1_has hl') hc hs)
  | istore_n k =>
    obtain rfl : n = 1 := g_ln hn rfl
    obtain ⟨x, r, rfl, h2⟩ := g_i1_inv h
    obtain ⟨hk, h⟩ := g_ck_inv h2
    have hk := of_decide_eq_true hk
    intro H locs ls hP hD hS hl hc hs
    exact lv_istore_n hx hb hd rfl hl hk rfl (fun ls' hl' => hP0 _ h H locs ls' hP hD hS (g_st1_has hl') hc hs)
  | lstore k =>
    obtain rfl : n = 2 := g_ln hn rfl
    obtain ⟨x, r, rfl, h2⟩ := g_l1_inv h
    obtain ⟨hk, h⟩ := g_ck_inv h2
    have hk := of_decide_eq_true hk
    intro H locs ls hP hD hS hl hc hs
    exact lv_lstore hx hb hd hl hk rfl (fun ls' hl' => hP0 _ h H locs ls' hP hD hS (g_st2_has hl') hc hs)
  | lstore_n k =>
    obtain rfl : n = 1 := g_ln hn rfl
    obtain ⟨x, r, rfl, h2⟩ := g_l1_inv h
    obtain ⟨hk, h⟩ := g_ck_inv h2
    have hk := of_decide_eq_true hk
    intro H locs ls hP hD hS hl hc hs
    exact lv_lstore_n hx hb hd rfl hl hk rfl (fun ls' hl' => hP0 _ h H locs ls' hP hD hS (g_st2_has hl') hc hs)
  | astore k =>
    obtain rfl : n = 2 := g_ln hn rfl
    rcases g_n1_inv h with ⟨x, r, rfl, h2⟩ | ⟨r, rfl, h2⟩
    · obtain ⟨hk, h⟩ := g_ck_inv h2
      have hk := of_decide_eq_true hk
      intro H locs ls hP hD hS hl hc hs
      exact lv_astore hx hb hd hl hk rfl (fun ls' hl' => hP0 _ h H locs ls' hP hD hS (g_st1_has hl') hc hs)
    · obtain ⟨hk, h⟩ := g_ck_inv h2
      have hk := of_decide_eq_true hk
      intro H locs ls hP hD hS hl hc hs
      exact lv_astoreN hx hb hd hl hk rfl (fun ls' hl' => hP0 _ h H locs ls' hP hD hS (g_st1_has hl') hc hs)
  | astore_n k =>
    obtain rfl : n = 1 := g_ln hn rfl
    rcases g_n1_inv h with ⟨x, r, rfl, h2⟩ | ⟨r, rfl, h2⟩
    · obtain ⟨hk, h⟩ := g_ck_inv h2
      have hk := of_decide_eq_true hk
      intro H locs ls hP hD hS hl hc hs
      exact lv_astore_n hx hb hd rfl hl hk rfl (fun ls' hl' => hP0 _ h H locs ls' hP hD hS (g_st1_has hl') hc hs)
    · obtain ⟨hk, h⟩ := g_ck_inv h2
      have hk := of_decide_eq_true hk
      intro H locs ls hP hD hS hl hc hs
      exact lv_astore_nN hx hb hd rfl hl hk rfl (fun ls' hl' => hP0 _ h H locs ls' hP hD hS (g_st1_has hl') hc hs)
  | iinc k v =>
    obtain rfl : n = 3 := g_ln hn rfl
    obtain ⟨x, hg, h2⟩ := g_ldi_inv h
    obtain ⟨hk, h⟩ := g_ck_inv h2
    have hk := of_decide_eq_true hk
    intro H locs ls hP hD hS hl hc hs
    obtain ⟨z, hz⟩ := List.getElem?_of_mem (g_as_mem.mpr hg)
    exact lv_iinc hx hb hd hl hz rfl hk rfl (fun ls' hl' => hP0 _ h H locs ls' hP hD hS (g_st1_has hl') hc hs)
  | iadd =>
    obtain rfl : n = 1 := g_ln hn rfl
    obtain ⟨x, y, r, rfl, h⟩ := g_i2_inv h
    intro H locs ls hP hD hS hl hc hs
    exact lv_iadd hx hb hd (hP0 _ h H locs ls hP hD hS hl hc hs)
  | isub =>
    obtain rfl : n = 1 := g_ln hn rfl
    obtain ⟨x, y, r, rfl, h⟩ := g_i2_inv h
    intro H locs ls hP hD hS hl hc hs
    exact lv_isub hx hb hd (hP0 _ h H locs ls hP hD hS hl hc hs)
  | imul =>
    obtain rfl : n = 1 := g_ln hn rfl
    obtain ⟨x, y, r, rfl, h⟩ := g_i2_inv h
    intro H locs ls hP hD hS hl hc hs
    exact lv_imul hx hb hd (hP0 _ h H locs ls hP hD hS hl hc hs)
  | iand =>
    obtain rfl : n = 1 := g_ln hn rfl
    obtain ⟨x, y, r, rfl, h⟩ := g_i2_inv h
    intro H locs ls hP hD hS hl hc hs
    exact lv_iand hx hb hd (hP0 _ h H locs ls hP hD hS hl hc hs)
  | ior =>
    obtain rfl : n = 1 := g_ln hn rfl
    obtain ⟨x, y, r, rfl, h⟩ := g_i2_inv h
    intro H locs ls hP hD hS hl hc hs
    exact lv_ior hx hb hd (hP0 _ h H locs ls hP hD hS hl hc hs)
  | ishl =>
    obtain rfl : n = 1 := g_ln hn rfl
    obtain ⟨x, y, r, rfl, h⟩ := g_i2_inv h
    intro H locs ls hP hD hS hl hc hs
    exact lv_ishl hx hb hd (hP0 _ h H locs ls hP hD hS hl hc hs)
  | ishr =>
    obtain rfl : n = 1 := g_ln hn rfl
    obtain ⟨x, y, r, rfl, h⟩ := g_i2_inv h
    intro H locs ls hP hD hS hl hc hs
    exact lv_ishr hx hb hd (hP0 _ h H locs ls hP hD hS hl hc hs)
  | idiv =>
    obtain rfl : n = 1 := g_ln hn rfl
    obtain ⟨x, y, r, rfl, hz, h⟩ := g_i2_inv h
    intro H locs ls hP hD hS hl hc hs
    exact lv_idiv hx hb hd hz (hP0 _ h H locs ls hP hD hS hl hc hs)
  | irem =>
    obtain rfl : n = 1 := g_ln hn rfl
    obtain ⟨x, y, r, rfl, hz, h⟩ := g_i2_inv h
    intro H locs ls hP hD hS hl hc hs
    exact lv_irem hx hb hd hz (hP0 _ h H locs ls hP hD hS hl hc hs)
  | ineg =>
    obtain rfl : n = 1 := g_ln hn rfl
    obtain ⟨x, r, rfl, h⟩ := g_i1_inv h
    intro H locs ls hP hD hS hl hc hs
    exact lv_ineg hx hb hd (hP0 _ h H locs ls hP hD hS hl hc hs)
  | ladd =>
    obtain rfl : n = 1 := g_ln hn rfl
    obtain ⟨x, y, r, rfl, h⟩ := g_l2_inv h
    intro H locs ls hP hD hS hl hc hs
    exact lv_ladd hx hb hd (hP0 _ h H locs ls hP hD hS hl hc hs)
  | lsub =>
    obtain rfl : n = 1 := g_ln hn rfl
    obtain ⟨x, y, r, rfl, h⟩ := g_l2_inv h
    intro H locs ls hP hD hS hl hc hs
    exact lv_lsub hx hb hd (hP0 _ h H locs ls hP hD hS hl hc hs)
  | lmul =>
    obtain rfl : n = 1 := g_ln hn rfl
    obtain ⟨x, y, r, rfl, h⟩ := g_l2_inv h
    intro H locs ls hP hD hS hl hc hs
    exact lv_lmul hx hb hd (hP0 _ h H locs ls hP hD hS hl hc hs)
  | land =>
    obtain rfl : n = 1 := g_ln hn rfl
    obtain ⟨x, y, r, rfl, h⟩ := g_l2_inv h
    intro H locs ls hP hD hS hl hc hs
    exact lv_land hx hb hd (hP0 _ h H locs ls hP hD hS hl hc hs)
  | lor =>
    obtain rfl : n = 1 := g_ln hn rfl
    obtain ⟨x, y, r, rfl, h⟩ := g_l2_inv h
    intro H locs ls hP hD hS hl hc hs
    exact lv_lor hx hb hd (hP0 _ h H locs ls hP hD hS hl hc hs)
  | ldiv =>
    obtain rfl : n = 1 := g_ln hn rfl
    obtain ⟨x, y, r, rfl, hz, h⟩ := g_l2_inv h
    intro H locs ls hP hD hS hl hc hs
    exact lv_ldiv hx hb hd hz (hP0 _ h H locs ls hP hD hS hl hc hs)
  | lrem =>
    obtain rfl : n = 1 := g_ln hn rfl
    obtain ⟨x, y, r, rfl, hz, h⟩ := g_l2_inv h
    intro H locs ls hP hD hS hl hc hs
    exact lv_lrem hx hb hd hz (hP0 _ h H locs ls hP hD hS hl hc hs)
  | lneg =>
    obtain rfl : n = 1 := g_ln hn rfl
    obtain ⟨x, r, rfl, h⟩ := g_l1_inv h
    intro H locs ls hP hD hS hl hc hs
    exact lv_lneg hx hb hd (hP0 _ h H locs ls hP hD hS hl hc hs)
  | lshl =>
    obtain rfl : n = 1 := g_ln hn rfl
    obtain ⟨x, y, r, rfl, h⟩ := g_li_inv h
    intro H locs ls hP hD hS hl hc hs
    exact lv_lshl hx hb hd rfl (hP0 _ h H locs ls hP hD hS hl hc hs)
  | lshr =>
    obtain rfl : n = 1 := g_ln hn rfl
    obtain ⟨x, y, r, rfl, h⟩ := g_li_inv h
    intro H locs ls hP hD hS hl hc hs
    exact lv_lshr hx hb hd rfl (hP0 _ h H locs ls hP hD hS hl hc hs)
  | lcmp =>
    obtain rfl : n = 1 := g_ln hn rfl
    obtain ⟨x, y, r, rfl, h⟩ := g_l2_inv h
    intro H locs ls hP hD hS hl hc hs
    exact W.lcmp hx hb hd (hP0 _ h H locs ls hP hD hS hl hc hs)
  | i2l =>
    obtain rfl : n = 1 := g_ln hn rfl
    obtain ⟨x, r, rfl, h⟩ := g_i1_inv h
    intro H locs ls hP hD hS hl hc hs
    exact lv_i2l hx hb hd rfl (hP0 _ h H locs ls hP hD hS hl hc hs)
  | i2b =>
    obtain rfl : n = 1 := g_ln hn rfl
    obtain ⟨x, r, rfl, h⟩ := g_i1_inv h
    intro H locs ls hP hD hS hl hc hs
    exact lv_i2b hx hb hd rfl (hP0 _ h H locs ls hP hD hS hl hc hs)
  | i2c =>
    obtain rfl : n = 1 := g_ln hn rfl
    obtain ⟨x, r, rfl, h⟩ := g_i1_inv h
    intro H locs ls hP hD hS hl hc hs
    exact lv_i2c hx hb hd rfl (hP0 _ h H locs ls hP hD hS hl hc hs)
  | l2i =>
    obtain rfl : n = 1 := g_ln hn rfl
    obtain ⟨x, r, rfl, h⟩ := g_l1_inv h
    intro H locs ls hP hD hS hl hc hs
    exact lv_l2i hx hb hd rfl (hP0 _ h H locs ls hP hD hS hl hc hs)
  | dup =>
    obtain rfl : n = 1 := g_ln hn rfl
    obtain ⟨v, r, rfl, h2⟩ := g_v1_inv h
    obtain ⟨hv, h⟩ := g_c1_inv h2
    intro H locs ls hP hD hS hl hc hs
    exact lv_dup hx hb hd hv (hP0 _ h H locs ls hP hD hS hl hc hs)
  | pop =>
    obtain rfl : n = 1 := g_ln hn rfl
    obtain ⟨v, r, rfl, h2⟩ := g_v1_inv h
    obtain ⟨hv, h⟩ := g_c1_inv h2
    intro H locs ls hP hD hS hl hc hs
    exact lv_pop hx hb hd hv (hP0 _ h H locs ls hP hD hS hl hc hs)
  | dup2 =>
    obtain rfl : n = 1 := g_ln hn rfl
    obtain ⟨v, w, r, rfl, h2⟩ := g_v2_inv h
    obtain ⟨hv, h2⟩ := g_c1_inv h2
    obtain ⟨hw, h⟩ := g_c1_inv h2
    intro H locs ls hP hD hS hl hc hs
    exact lv_dup2_11 hx hb hd hv hw (hP0 _ h H locs ls hP hD hS hl hc hs)
  | dup_x1 =>
    obtain rfl : n = 1 := g_ln hn rfl
    obtain ⟨v, w, r, rfl, h2⟩ := g_v2_inv h
    obtain ⟨hv, h2⟩ := g_c1_inv h2
    obtain ⟨hw, h⟩ := g_c1_inv h2
    intro H locs ls hP hD hS hl hc hs
    exact lv_dup_x1 hx hb hd hv hw (hP0 _ h H locs ls hP hD hS hl hc hs)
  | ifCond cd o =>
    obtain rfl : n = 3 := g_ln hn rfl
    have hj2 := g_tg_ok (of_decide_eq_true hj)
    obtain ⟨x, r, rfl, h2⟩ := g_i1_inv h
    intro H locs ls hP hD hS hl hc hs
    cases cd with
    | eq => exact lv_if_eq hx hb hd hj2 (fun z => hP0 _ (h2.1 z) H locs ls hP hD hS hl hc hs) (fun z => hP0 _ (h2.2 z) H locs ls hP hD hS hl hc hs)
    | ne => exact lv_if_ne hx hb hd hj2 (fun z => hP0 _ (h2.1 z) H locs ls hP hD hS hl hc hs) (fun z => hP0 _ (h2.2 (fun q => q z)) H locs ls hP hD hS hl hc hs)
    | lt => exact lv_if_lt hx hb hd hj2 (fun z => hP0 _ (h2.1 z) H locs ls hP hD hS hl hc hs) (fun z => hP0 _ (h2.2 z) H locs ls hP hD hS hl hc hs)
    | ge => exact lv_if_ge hx hb hd hj2 (fun z => hP0 _ (h2.1 z) H locs ls hP hD hS hl hc hs) (fun z => hP0 _ (h2.2 z) H locs ls hP hD hS hl hc hs)
    | gt => exact lv_if_gt hx hb hd hj2 (fun z => hP0 _ (h2.1 z) H locs ls hP hD hS hl hc hs) (fun z => hP0 _ (h2.2 z) H locs ls hP hD hS hl hc hs)
    | le => exact lv_if_le hx hb hd hj2 (fun z => hP0 _ (h2.1 z) H locs ls hP hD hS hl hc hs) (fun z => hP0 _ (h2.2 z) H locs ls hP hD hS hl hc hs)
  | if_icmp cd o =>
    obtain rfl : n = 3 := g_ln hn rfl
    have hj2 := g_tg_ok (of_decide_eq_true hj)
    obtain ⟨x, y, r, rfl, h2⟩ := g_i2_inv h
    intro H locs ls hP hD hS hl hc hs
    cases cd with
    | eq => exact lv_icmp_eq hx hb hd hj2 (fun z => hP0 _ (h2.1 z) H locs ls hP hD hS hl hc hs) (fun z => hP0 _ (h2.2 z) H locs ls hP hD hS hl hc hs)
    | ne => exact lv_icmp_ne hx hb hd hj2 (fun z => hP0 _ (h2.1 z) H locs ls hP hD hS hl hc hs) (fun z => hP0 _ (h2.2 (fun q => q z)) H locs ls hP hD hS hl hc hs)
    | lt => exact lv_icmp_lt hx hb hd hj2 (fun z => hP0 _ (h2.1 z) H locs ls hP hD hS hl hc hs) (fun z => hP0 _ (h2.2 z) H locs ls hP hD hS hl hc hs)
    | ge => exact lv_icmp_ge hx hb hd hj2 (fun z => hP0 _ (h2.1 z) H locs ls hP hD hS hl hc hs) (fun z => hP0 _ (h2.2 z) H locs ls hP hD hS hl hc hs)
    | gt => exact lv_icmp_gt hx hb hd hj2 (fun z => hP0 _ (h2.1 z) H locs ls hP hD hS hl hc hs) (fun z => hP0 _ (h2.2 z) H locs ls hP hD hS hl hc hs)
    | le => exact lv_icmp_le hx hb hd hj2 (fun z => hP0 _ (h2.1 z) H locs ls hP hD hS hl hc hs) (fun z => hP0 _ (h2.2 z) H locs ls hP hD hS hl hc hs)
  | ifnull o =>
    obtain rfl : n = 3 := g_ln hn rfl
    have hj := g_tg_ok (of_decide_eq_true hj)
    rcases g_n1_inv h with ⟨x, r, rfl, h⟩ | ⟨r, rfl, h⟩
    · intro H locs ls hP hD hS hl hc hs
      exact lv_ifnull hx hb hd (hP0 _ h H locs ls hP hD hS hl hc hs)
    · intro H locs ls hP hD hS hl hc hs
      exact lv_ifnullN hx hb hd hj (hP0 _ h H locs ls hP hD hS hl hc hs)
  | ifnonnull o =>
    obtain rfl : n = 3 := g_ln hn rfl
    have hj := g_tg_ok (of_decide_eq_true hj)
    rcases g_n1_inv h with ⟨x, r, rfl, h⟩ | ⟨r, rfl, h⟩
    · intro H locs ls hP hD hS hl hc hs
      exact lv_ifnonnull hx hb hd hj (hP0 _ h H locs ls hP hD hS hl hc hs)
    · intro H locs ls hP hD hS hl hc hs
      exact lv_ifnonnullN hx hb hd (hP0 _ h H locs ls hP hD hS hl hc hs)
  | goto o =>
    obtain rfl : n = 3 := g_ln hn rfl
    have hj := g_tg_ok (of_decide_eq_true hj)
    intro H locs ls hP hD hS hl hc hs
    exact lv_goto hx hb hd hj (hP0 _ h H locs ls hP hD hS hl hc hs)
  | tableswitch d lo hi os =>
    obtain ⟨x, r, rfl, h2⟩ := g_i1_inv h
    simp only [g_jok, Bool.and_eq_true, decide_eq_true_eq] at hj
    obtain ⟨⟨j1, j2⟩, j3⟩ := hj
    intro H locs ls hP hD hS hl hc hs
    by_cases hz : x.toInt < lo ∨ hi < x.toInt
    · have e1 : g_tsw d lo hi os x = d := if_pos hz
      rw [e1] at h2
      exact lv_tableOut hx hb hd hz (g_tg_ok j1) (hP0 _ h2 H locs ls hP hD hS hl hc hs)
    · have e1 : g_tsw d lo hi os x = os.toList.getD (x.toInt - lo).toNat d := if_neg hz
      have hlt : (x.toInt - lo).toNat < os.toList.length := by omega
      have e2 : os.toList.getD (x.toInt - lo).toNat d = os.toList[(x.toInt - lo).toNat] := by rw [List.getD_eq_getElem?_getD, List.getElem?_eq_getElem hlt, Option.getD_some]
      have e3 : 0 ≤ (pc : Int) + g_tsw d lo hi os x := by rw [e1, e2]; exact of_decide_eq_true (List.all_eq_true.mp j2 _ (List.getElem_mem hlt))
      exact lv_tableIn hx hb hd (fun q => hz (Or.inl q)) (fun q => hz (Or.inr q)) (by rw [← Array.getElem?_toList, List.getElem?_eq_getElem hlt, e1, e2]) (g_tg_ok e3) (hP0 _ h2 H locs ls hP hD hS hl hc hs)
  | lookupswitch d ps =>
    obtain ⟨x, r, rfl, h⟩ := g_i1_inv h
    simp only [g_jok, Bool.and_eq_true] at hj
    obtain ⟨⟨j1, j2⟩, j3⟩ := hj
    intro H locs ls hP hD hS hl hc hs
    exact lv_lookup hx hb hd j3 rfl (g_tg_ok (g_lsw (of_decide_eq_true j1) j2)) (hP0 _ h H locs ls hP hD hS hl hc hs)
  | getfield x =>
    obtain rfl : n = 3 := g_ln hn rfl
    obtain ⟨q, hq, h⟩ := g_op_inv h
    cases e20 : q.1 == 20 with
    | true =>
      rw [e20] at h
      obtain ⟨a, r, rfl, z, hz, hz2, h2⟩ := g_r1_inv h
      have f3 := g_fl_str ck ho hq e20
      obtain ⟨r1, r2, r3⟩ := (hRO.2 a z hz).2.2.2 hz2
      intro H locs ls hP hD hS hl hc hs
      by_cases e0 : q.2.1 = 0
      · rw [if_pos e0, if_pos e0] at f3
        rw [e0] at h2
        exact vk_getf hx hb r2 hS hown (hts _ f3) (fun _ z => z) hd (hP0 _ h2 H locs ls hP hD hS hl hc hs)
      · rw [if_neg e0, if_neg e0] at f3
        obtain ⟨j, ej⟩ : ∃ j, q.2.1 = j + 1 := ⟨q.2.1 - 1, by omega⟩
        rw [ej] at h2
        exact vk_getf hx hb r3 hS hown (hts _ f3) (fun _ z => z) hd (hP0 _ h2 H locs ls hP hD hS hl hc hs)
    | false =>
      rw [e20] at h
      obtain ⟨f1, f2, f3⟩ := g_fl_ok ck ho hq e20
      obtain ⟨a, r, rfl, hk, h2⟩ := g_r1_inv h
      intro H locs ls hP hD hS hl hc hs
      exact g_getf hx hb hts hown hK hP hk f1 f2 f3 hd (hP0 _ (g_gv_inv h2) H locs ls hP hD hS hl hc hs)
  | putfield x =>
    obtain rfl : n = 3 := g_ln hn rfl
    obtain ⟨q, hq, h⟩ := g_op_inv h
    obtain ⟨v, a, r, rfl, h2⟩ := g_vr_inv h
    obtain ⟨h20, hk, h2⟩ := g_ck_inv h2
    obtain ⟨f1, f2, f3⟩ := g_fl_ok ck ho hq (by simpa using h20)
    obtain ⟨hf, h⟩ := g_ck_inv h2
    intro H locs ls hP hD hS hl hc hs
    refine g_putf hx hb hts hown hK hP hD hS hk f1 f2 f3 (fun z => ?_) h hd (fun u H1 locs1 hu hP1 hD1 hS1 => hP0 _ hu H1 locs1 ls hP1 hD1 hS1 hl hc hs)
    unfold g_fo at hf
    rw [z] at hf
    simp only [Bool.not_true, Bool.false_or, Bool.and_eq_true, decide_eq_true_eq] at hf
    exact ⟨hin hf.1, hf.2⟩
  | arraylength =>
    obtain rfl : n = 1 := g_ln hn rfl
    obtain ⟨a, r, rfl, h2⟩ := g_r1_inv h
    rcases h2 with ⟨ha, hk, h2⟩ | h2
    · intro H locs ls hP hD hS hl hc hs
      obtain ⟨q0, hq0⟩ := g_at (cy := cy) ha
      have hcs : t.1.2.1 a = 13 ∨ t.1.2.1 a = 14 ∨ t.1.2.1 a = 15 ∨ t.1.2.1 a = 16 ∨ t.1.2.1 a = 17 := by omega
      rcases hcs with z | z | z | z | z
      · rw [g_c13 z] at hq0
        exact va_alen hx hb hK hP q0 0 hq0 rfl rfl hd (hP0 _ h2 H locs ls hP hD hS hl hc hs)
      · rw [g_c14 z] at hq0
        exact va_alen hx hb hK hP q0 1 hq0 rfl rfl hd (hP0 _ h2 H locs ls hP hD hS hl hc hs)
      · rw [g_c15 z] at hq0
        exact va_alen hx hb hK hP q0 2 hq0 rfl rfl hd (hP0 _ h2 H locs ls hP hD hS hl hc hs)
      · rw [g_c16 z] at hq0
        exact va_alen hx hb hK hP q0 3 hq0 rfl rfl hd (hP0 _ h2 H locs ls hP hD hS hl hc hs)
      · rw [g_c17 z] at hq0
        exact va_alen hx hb hK hP q0 4 hq0 rfl rfl hd (hP0 _ h2 H locs ls hP hD hS hl hc hs)
    · obtain ⟨q, hq, hk, h3⟩ := h2
      intro H locs ls hP hD hS hl hc hs
      obtain ⟨r1, r2, r3, -⟩ := hRO.2 a q hq
      rcases hk with z | z | z
      · exact va_tlen hx hb (r1 z) hS rfl hd (hP0 _ h3 H locs ls hP hD hS hl hc hs)
      · exact va_tlen hx hb (r2 z) hS rfl hd (hP0 _ h3 H locs ls hP hD hS hl hc hs)
      · exact va_tlen hx hb (r3 z) hS rfl hd (hP0 _ h3 H locs ls hP hD hS hl hc hs)
  | getstatic x =>
    obtain rfl : n = 3 := g_ln hn rfl
    obtain ⟨q, hq, h2⟩ := g_op_inv h
    have hm := List.mem_of_find?_eq_some hq
    have hp := List.find?_some hq
    simp only [Bool.and_eq_true, beq_iff_eq] at hp
    have hw := List.all_eq_true.mp ck.2.2.2.2.2.2.2.1 q hm
    simp only [g_gsk, Bool.and_eq_true, decide_eq_true_eq] at hw
    rw [hp.1, hp.2] at hw
    intro H locs ls hP hD hS hl hc hs
    exact va_gets hx hb (hRO.1 _ hw.1.2) hS hown (hts _ (g_tb_in hw.2 rfl)) (fun _ z => z) hd (hP0 _ h2 H locs ls hP hD hS hl hc hs)
  | new x =>
    obtain rfl : n = 3 := g_ln hn rfl
    obtain ⟨q, hq, hc1, hs1, h2⟩ := g_op_inv h
    obtain ⟨f1, f2, f3⟩ := g_clk_ok ck ho hq
    intro H locs ls hP hD hS hl hc hs
    refine va_new (C := (g_cl q.1).1) (T := (g_cl q.1).2.1) (N := (g_cl q.1).2.2) (fs := g_fs (g_nw t 0 q.1 0) q.1 0) hx hb hts (g_cl_in q.1 f1) (g_tyF q.1) (g_ty_ok q.1 f1) hown (hts _ f2) (hts _ (g_ins_ok f1)) (hts _ (g_ini2_ok f1)) hK hP hD hS hA (g_cl_ok q.1 f1) (fun j hj => ?_) (by rw [hRc]; exact hc1) (by rw [hRs]; exact hs1) hd (fun a H1 h3 h4 h5 => ?_)
    · rw [vp_V, List.getD_eq_getElem?_getD, g_fs_get hj]
      exact g_fv0 _
    · have ha : a ∉ t.1.1 := va_pl_fresh2 (X := []) h4
      have e1 : g_fs (g_nw t 0 q.1 0) q.1 0 = g_fs (g_nw t a q.1 0) q.1 a := by
        unfold g_fs
        refine List.map_congr_left (fun j _ => ?_)
        rw [← g_fv0, ← g_fv0]
      have e2 := g_push (cy := cy) (t := t) (q := a) (k := q.1) (n := 0) ha (g_cell_obj (va_up_self _ _ _) f1)
      rw [e1] at h3 h4
      dsimp only at h3 h4
      rw [e2] at h3 h4
      exact hP0 _ (h2 a ha) H1 locs ls h3 h4 h5 hl hc1 hs1
  | newarray y =>
    obtain rfl : n = 2 := g_ln hn rfl
    obtain ⟨z, r, rfl, hz, hy, hby, hc1, hs1, h2⟩ := g_i1_inv h
    intro H locs ls hP hD hS hl hc hs
    cases y with
    | byte =>
      refine va_newa (atype := .byte) (a0 := (z.toNatClampNeg, .inl (fun _ => 0))) hx hb (hts _ (g_tb_of (List.mem_append_right _ (g_ac_all (.arrayClass .byte) (by decide))) rfl)) rfl hK hP hD hS hA (fun _ => rfl) hz rfl (Nat.le_trans (Nat.mul_le_mul_left _ (by decide)) hby) (by rw [hRc]; exact hc1) (by rw [hRs]; exact hs1) hd (fun a cA H1 hK2 h3 h4 h5 => ?_)
      have hcA : cA = cy 0 := Option.some.inj ((hK2.2 6 (cA, .byte) rfl).2.symm.trans (hK.2 0 (cy 0, .byte) rfl).2)
      subst hcA
      have ha : a ∉ t.1.1 := va_pl_fresh2 (X := []) h4
      have e2 := g_push (cy := cy) (t := t) (q := a) (k := 13) (n := z.toNatClampNeg) ha g_new13
      dsimp only at h3 h4
      rw [e2] at h3 h4
      exact hP0 _ (h2 a ha) H1 locs ls h3 h4 h5 hl hc1 hs1
    | char =>
      refine va_newa (atype := .char) (a0 := (z.toNatClampNeg, .inl (fun _ => 0))) hx hb (hts _ (g_tb_of (List.mem_append_right _ (g_ac_all (.arrayClass .char) (by decide))) rfl)) rfl hK hP hD hS hA (fun _ => rfl) hz rfl (Nat.le_trans (Nat.mul_le_mul_left _ (by decide)) hby) (by rw [hRc]; exact hc1) (by rw [hRs]; exact hs1) hd (fun a cA H1 hK2 h3 h4 h5 => ?_)
      have hcA : cA = cy 1 := Option.some.inj ((hK2.2 6 (cA, .char) rfl).2.symm.trans (hK.2 1 (cy 1, .char) rfl).2)
      subst hcA
      have ha : a ∉ t.1.1 := va_pl_fresh2 (X := []) h4
      have e2 := g_push (cy := cy) (t := t) (q := a) (k := 14) (n := z.toNatClampNeg) ha g_new14
      dsimp only at h3 h4
      rw [e2] at h3 h4
      exact hP0 _ (h2 a ha) H1 locs ls h3 h4 h5 hl hc1 hs1
    | int =>
      refine va_newa (atype := .int) (a0 := (z.toNatClampNeg, .inl (fun _ => 0))) hx hb (hts _ (g_tb_of (List.mem_append_right _ (g_ac_all (.arrayClass .int) (by decide))) rfl)) rfl hK hP hD hS hA (fun _ => rfl) hz rfl (Nat.le_trans (Nat.mul_le_mul_left _ (by decide)) hby) (by rw [hRc]; exact hc1) (by rw [hRs]; exact hs1) hd (fun a cA H1 hK2 h3 h4 h5 => ?_)
      have hcA : cA = cy 2 := Option.some.inj ((hK2.2 6 (cA, .int) rfl).2.symm.trans (hK.2 2 (cy 2, .int) rfl).2)
      subst hcA
      have ha : a ∉ t.1.1 := va_pl_fresh2 (X := []) h4
      have e2 := g_push (cy := cy) (t := t) (q := a) (k := 15) (n := z.toNatClampNeg) ha g_new15
      dsimp only at h3 h4
      rw [e2] at h3 h4
      exact hP0 _ (h2 a ha) H1 locs ls h3 h4 h5 hl hc1 hs1
    | long =>
      refine va_newa (atype := .long) (a0 := (z.toNatClampNeg, .inr (.inl (fun _ => 0)))) hx hb (hts _ (g_tb_of (List.mem_append_right _ (g_ac_all (.arrayClass .long) (by decide))) rfl)) rfl hK hP hD hS hA (fun _ => rfl) hz rfl (Nat.le_trans (Nat.mul_le_mul_left _ (by decide)) hby) (by rw [hRc]; exact hc1) (by rw [hRs]; exact hs1) hd (fun a cA H1 hK2 h3 h4 h5 => ?_)
      have hcA : cA = cy 3 := Option.some.inj ((hK2.2 6 (cA, .long) rfl).2.symm.trans (hK.2 3 (cy 3, .long) rfl).2)
      subst hcA
      have ha : a ∉ t.1.1 := va_pl_fresh2 (X := []) h4
      have e2 := g_push (cy := cy) (t := t) (q := a) (k := 16) (n := z.toNatClampNeg) ha g_new16
      dsimp only at h3 h4
      rw [e2] at h3 h4
      exact hP0 _ (h2 a ha) H1 locs ls h3 h4 h5 hl hc1 hs1
    | boolean =>
      refine va_newa (atype := .boolean) (a0 := (z.toNatClampNeg, .inl (fun _ => 0))) hx hb (hts _ (g_tb_of (List.mem_append_right _ (g_ac_all (.arrayClass .boolean) (by decide))) rfl)) rfl hK hP hD hS hA (fun _ => rfl) hz rfl (Nat.le_trans (Nat.mul_le_mul_left _ (by decide)) hby) (by rw [hRc]; exact hc1) (by rw [hRs]; exact hs1) hd (fun a cA H1 hK2 h3 h4 h5 => ?_)
      have hcA : cA = cy 4 := Option.some.inj ((hK2.2 6 (cA, .boolean) rfl).2.symm.trans (hK.2 4 (cy 4, .boolean) rfl).2)
      subst hcA
      have ha : a ∉ t.1.1 := va_pl_fresh2 (X := []) h4
      have e2 := g_push (cy := cy) (t := t) (q := a) (k := 17) (n := z.toNatClampNeg) ha g_new17
      dsimp only at h3 h4
      rw [e2] at h3 h4
      exact hP0 _ (h2 a ha) H1 locs ls h3 h4 h5 hl hc1 hs1
    | _ => exact (hy rfl).elim
  | multianewarray x k =>
    obtain rfl : n = 4 := g_ln hn rfl
    obtain ⟨n1, n2, r, rfl, ⟨e1, e2, e3, e4, e5⟩, hc1, hs1, h2⟩ := g_i2_inv h
    subst e2 e3 e4 e5
    have hown2 : s.vm.findClass "TailTrimmer$Graph" = some m.cls := by rw [e1] at hown; exact hown
    intro H locs ls hP hD hS hl hc hs
    refine va_mna (args := args) (X := []) (L := t.1.1) (f := g_cell cy t) (ty := .int) (cy := cy 2) (n := 24) (k := 24) (N' := 24) (K' := 24) (z := (24, .inl (fun _ => 0))) hx hb hown2 (by rw [g_mst]; exact hts _ (g_tb_of (List.mem_append_right _ g_mcl) rfl)) (show (Cond.arrayOver (.array .int)).before args s = true from hN.2) (hts _ (g_tb_of (List.mem_append_right _ (g_ac_all (.arrayClass .int) (by decide))) rfl)) ((hK.2 2 (cy 2, .int) rfl).2) hK hP hD hS hA (by decide) (by decide) rfl rfl (by decide) (by decide) (by decide) rfl rfl (by rw [hRc]; exact hc1) (by rw [hRs]; exact hs1) (fun _ => arrV_new _ _ _) hd (fun q r2 cA H1 i1 i2 hK2 h3 h4 h5 => ?_)
    have hcA : cA = cy 5 := Option.some.inj ((hK2.2 6 (cA, .array .int) rfl).2.symm.trans (hK.2 5 (cy 5, .array .int) rfl).2)
    subst hcA
    have h3s := va_P.swap h3
    have h4s := va_D.swap h4
    have hq := va_pl_fresh2 (X := []) h4s
    have hq1 : q ∉ t.1.1 := fun z => hq (List.mem_append_left _ z)
    have hr : ∀ i, i < 24 → r2 i ∉ t.1.1 ∧ r2 i ≠ q := fun i hi => ⟨i2 i hi, fun e => hq (List.mem_append_right _ (List.mem_map.mpr ⟨i, List.mem_range.mpr hi, e⟩))⟩
    have ew := g_mn_w (cy := cy) hq1 hr
    have ea : va_pl (t.1.1 ++ (List.range 24).map r2) (vr_up (g_cell cy t) ((List.range 24).map r2) (.inl (cy 2, 24, .inl (fun _ => 0)))) = va_pl t.1.1 (vr_up (g_cell cy t) ((List.range 24).map r2) (.inl (cy 2, 24, .inl (fun _ => 0)))) ++ va_pl ((List.range 24).map r2) (vr_up (g_cell cy t) ((List.range 24).map r2) (.inl (cy 2, 24, .inl (fun _ => 0)))) := List.map_append
    rw [ea, List.nil_append] at h3s h4s
    have h3t := va_P.swap h3s
    have h4t := va_D.swap h4s
    rw [ew] at h3t h4t
    exact hP0 _ (h2 q r2 hq1 hr i1) H1 locs ls h3t h4t h5 hl hc1 hs1
  | iaload =>
    obtain rfl : n = 1 := g_ln hn rfl
    obtain ⟨a, i, r, rfl, h2⟩ := g_ri_inv h
    rcases h2 with ⟨hk, hi, h2⟩ | h2
    · intro H locs ls hP hD hS hl hc hs
      obtain ⟨q0, hq0⟩ := g_at (cy := cy) hk.1
      rw [g_c15 hk.2] at hq0
      exact va_iald hx hb hK hP q0 2 hq0 rfl hi hd (hP0 _ h2 H locs ls hP hD hS hl hc hs)
    · obtain ⟨q, hq, hk, hi, h3⟩ := h2
      intro H locs ls hP hD hS hl hc hs
      exact va_ti hx hb ((hRO.2 a q hq).2.1 hk) hS hi rfl hd (hP0 _ h3 H locs ls hP hD hS hl hc hs)
  | caload =>
    obtain rfl : n = 1 := g_ln hn rfl
    obtain ⟨a, i, r, rfl, hk, hi, h⟩ := g_ri_inv h
    intro H locs ls hP hD hS hl hc hs
    obtain ⟨q0, hq0⟩ := g_at (cy := cy) hk.1
    rw [g_c14 hk.2] at hq0
    exact va_cald hx hb hK hP q0 1 hq0 rfl hi hd (hP0 _ h H locs ls hP hD hS hl hc hs)
  | laload =>
    obtain rfl : n = 1 := g_ln hn rfl
    obtain ⟨a, i, r, rfl, h2⟩ := g_ri_inv h
    rcases h2 with ⟨hk, hi, h2⟩ | h2
    · intro H locs ls hP hD hS hl hc hs
      obtain ⟨q0, hq0⟩ := g_at (cy := cy) hk.1
      rw [g_c16 hk.2] at hq0
      exact va_lald hx hb hK hP q0 3 hq0 rfl hi hd (hP0 _ h2 H locs ls hP hD hS hl hc hs)
    · obtain ⟨q, hq, hk, hi, h3⟩ := h2
      intro H locs ls hP hD hS hl hc hs
      exact va_tl hx hb ((hRO.2 a q hq).2.2.1 hk) hS hi rfl hd (hP0 _ h3 H locs ls hP hD hS hl hc hs)
  | aaload =>
    obtain rfl : n = 1 := g_ln hn rfl
    obtain ⟨a, i, r, rfl, hk, hi, h2⟩ := g_ri_inv h
    intro H locs ls hP hD hS hl hc hs
    obtain ⟨q0, hq0⟩ := g_at (cy := cy) hk.1
    rw [g_c18 hk.2] at hq0
    have hlt : i.toNatClampNeg < t.1.2.2 a := Nat.not_le.mp fun q => hi (Or.inr q)
    exact W.aald (v := va_rf (t.2.2.2 a i.toNatClampNeg)) (ty := .array .int) hx hb (hP q0 _ hq0) ((hK.2 5 _ rfl).1 (t.1.2.2 a) (fun j => va_rf (t.2.2.2 a j))) rfl (fun q => by cases q) (by show ¬ (i < 0 ∨ (arrV _ _ _).slots.size ≤ _); rw [arrV_size]; exact hi) (by show (arrV _ _ _).slots[_]? = _; rw [arrV_read _ _ hlt]) rfl rfl hd (hP0 _ (g_gv_inv h2) H locs ls hP hD hS hl hc hs)
  | baload =>
    obtain rfl : n = 1 := g_ln hn rfl
    obtain ⟨a, i, r, rfl, h2⟩ := g_ri_inv h
    rcases h2 with ⟨hk, hi, h2⟩ | h2
    · intro H locs ls hP hD hS hl hc hs
      rcases hk with hk | hk
      · obtain ⟨q0, hq0⟩ := g_at (cy := cy) hk.1
        rw [g_c13 hk.2] at hq0
        exact va_bald hx hb hK hP q0 0 hq0 rfl hi hd (hP0 _ h2 H locs ls hP hD hS hl hc hs)
      · obtain ⟨q0, hq0⟩ := g_at (cy := cy) hk.1
        rw [g_c17 hk.2] at hq0
        exact va_zald hx hb hK hP q0 4 hq0 rfl hi hd (hP0 _ h2 H locs ls hP hD hS hl hc hs)
    · obtain ⟨q, hq, hk, hi, h3⟩ := h2
      intro H locs ls hP hD hS hl hc hs
      exact va_tb hx hb ((hRO.2 a q hq).1 hk) hS hi rfl hd (hP0 _ h3 H locs ls hP hD hS hl hc hs)
  | iastore =>
    obtain rfl : n = 1 := g_ln hn rfl
    obtain ⟨a, i, x, r, rfl, hk, hi, h⟩ := g_rii_inv h
    intro H locs ls hP hD hS hl hc hs
    obtain ⟨q0, hq0⟩ := g_at (cy := cy) hk.1
    have hset := g_setI (k := i.toNatClampNeg) (x := x) hD hk.1 hq0 (g_c15 (t := g_si t a i.toNatClampNeg x) hk.2)
    rw [show (g_si t a i.toNatClampNeg x).2.1 a = va_up (t.2.1 a) i.toNatClampNeg x from g_up_at] at hset
    rw [g_c15 hk.2] at hq0
    refine va_iast hx hb hK hP hD hS q0 2 hq0 rfl hi hd (fun H1 locs1 h1 h2 h3 => ?_)
    exact hP0 _ h H1 locs1 ls (hset ▸ h1) (hset ▸ h2) h3 hl hc hs
  | castore =>
    obtain rfl : n = 1 := g_ln hn rfl
    obtain ⟨a, i, x, r, rfl, hk, hi, h⟩ := g_rii_inv h
    intro H locs ls hP hD hS hl hc hs
    obtain ⟨q0, hq0⟩ := g_at (cy := cy) hk.1
    have hset := g_setI (k := i.toNatClampNeg) (x := (vp_nar .char x)) hD hk.1 hq0 (g_c14 (t := g_si t a i.toNatClampNeg (vp_nar .char x)) hk.2)
    rw [show (g_si t a i.toNatClampNeg (vp_nar .char x)).2.1 a = va_up (t.2.1 a) i.toNatClampNeg (vp_nar .char x) from g_up_at] at hset
    rw [g_c14 hk.2] at hq0
    refine va_cast hx hb hK hP hD hS q0 1 hq0 rfl hi hd (fun H1 locs1 h1 h2 h3 => ?_)
    exact hP0 _ h H1 locs1 ls (hset ▸ h1) (hset ▸ h2) h3 hl hc hs
  | lastore =>
    obtain rfl : n = 1 := g_ln hn rfl
    obtain ⟨a, i, x, r, rfl, hk, hi, h⟩ := g_ril_inv h
    intro H locs ls hP hD hS hl hc hs
    obtain ⟨q0, hq0⟩ := g_at (cy := cy) hk.1
    have hset := g_setJ (k := i.toNatClampNeg) (x := x) hD hk.1 hq0 (g_c16 (t := g_sj t a i.toNatClampNeg x) hk.2)
    rw [show (g_sj t a i.toNatClampNeg x).2.2.1 a = va_up (t.2.2.1 a) i.toNatClampNeg x from g_up_at] at hset
    rw [g_c16 hk.2] at hq0
    refine va_last hx hb hK hP hD hS q0 3 hq0 rfl hi hd (fun H1 locs1 h1 h2 h3 => ?_)
    exact hP0 _ h H1 locs1 ls (hset ▸ h1) (hset ▸ h2) h3 hl hc hs
  | bastore =>
    obtain rfl : n = 1 := g_ln hn rfl
    obtain ⟨a, i, x, r, rfl, hi, h⟩ := g_rii_inv h
    intro H locs ls hP hD hS hl hc hs
    rcases h with ⟨hk, h⟩ | ⟨hk, h⟩
    · obtain ⟨q0, hq0⟩ := g_at (cy := cy) hk.1
      have hset := g_setI (k := i.toNatClampNeg) (x := (vp_nar .byte x)) hD hk.1 hq0 (g_c13 (t := g_si t a i.toNatClampNeg (vp_nar .byte x)) hk.2)
      rw [show (g_si t a i.toNatClampNeg (vp_nar .byte x)).2.1 a = va_up (t.2.1 a) i.toNatClampNeg (vp_nar .byte x) from g_up_at] at hset
      rw [g_c13 hk.2] at hq0
      refine va_bast hx hb hK hP hD hS q0 0 hq0 rfl hi hd (fun H1 locs1 h1 h2 h3 => ?_)
      exact hP0 _ h H1 locs1 ls (hset ▸ h1) (hset ▸ h2) h3 hl hc hs
    · obtain ⟨q0, hq0⟩ := g_at (cy := cy) hk.1
      have hset := g_setI (k := i.toNatClampNeg) (x := (vp_nar .boolean x)) hD hk.1 hq0 (g_c17 (t := g_si t a i.toNatClampNeg (vp_nar .boolean x)) hk.2)
      rw [show (g_si t a i.toNatClampNeg (vp_nar .boolean x)).2.1 a = va_up (t.2.1 a) i.toNatClampNeg (vp_nar .boolean x) from g_up_at] at hset
      rw [g_c17 hk.2] at hq0
      refine va_zast hx hb hK hP hD hS q0 4 hq0 rfl hi hd (fun H1 locs1 h1 h2 h3 => ?_)
      exact hP0 _ h H1 locs1 ls (hset ▸ h1) (hset ▸ h2) h3 hl hc hs
  | invokestatic x =>
    obtain rfl : n = 3 := g_ln hn rfl
    obtain ⟨q, hq, h⟩ := g_op_inv h
    obtain ⟨-, m4, m5, m6⟩ := g_ml_jdk ck ho hq
    by_cases e4 : q.1 = 4
    · rw [if_pos e4] at h
      obtain ⟨x, y, r, rfl, h2⟩ := g_i2_inv h
      obtain ⟨hcat, h⟩ := g_ck_inv h2
      have hcat := of_decide_eq_true hcat
      intro H locs ls hP hD hS hl hc hs
      exact va_mmax hx hb (hml.trans hl.1.symm) hown (hts _ (m4 e4)) (hts _ (g_jw_at (by decide +kernel) rfl)) (hts _ (g_jw_at (by decide +kernel) rfl)) (hts _ (g_jw_at (List.mem_of_getElem? (i := 4) rfl) rfl)) hR1 (by have := hcat; unfold g_cat at this; omega) (by rw [hRc]; exact hc) (by rw [hRs]; exact hs) hd (hP0 _ h H locs ls hP hD hS hl hc hs)
    · rw [if_neg e4] at h
      by_cases e5 : q.1 = 5
      · rw [if_pos e5] at h
        obtain ⟨x, y, r, rfl, h2⟩ := g_i2_inv h
        obtain ⟨hcat, h⟩ := g_ck_inv h2
        have hcat := of_decide_eq_true hcat
        intro H locs ls hP hD hS hl hc hs
        exact va_mmin hx hb (hml.trans hl.1.symm) hown (hts _ (m5 e5)) (hts _ (g_jw_at (by decide +kernel) rfl)) (hts _ (g_jw_at (by decide +kernel) rfl)) (hts _ (g_jw_at (List.mem_of_getElem? (i := 6) rfl) rfl)) hR1 (by have := hcat; unfold g_cat at this; omega) (by rw [hRc]; exact hc) (by rw [hRs]; exact hs) hd (hP0 _ h H locs ls hP hD hS hl hc hs)
      · rw [if_neg e5] at h
        by_cases e6 : q.1 = 6
        · rw [if_pos e6] at h
          obtain ⟨dp, n, r, rfl, h3⟩ := g_i2_inv h
          obtain ⟨a0, sp, r2, hr2, h4⟩ := g_ri_inv h3
          obtain ⟨a, r1, rfl, hk, hk0, ⟨c1, c2, c3, c4, c5⟩, h5⟩ := g_r1_inv h4
          obtain ⟨hcat, h5⟩ := g_ck_inv h5
          have hcat := of_decide_eq_true hcat
          have hr2 : r1 = .int sp :: .ref a0 :: r2 := hr2
          subst hr2
          intro H locs ls hP hD hS hl hc hs
          obtain ⟨q0, hq0⟩ := g_at (cy := cy) hk0.1
          obtain ⟨q1, hq1⟩ := g_at (cy := cy) hk.1
          have hset := g_setR (f := va_cpy (t.2.1 a0) (t.2.1 a) sp.toNatClampNeg dp.toNatClampNeg n.toNatClampNeg) hD hk.1 hq1 (g_c15 (t := g_row t a (va_cpy (t.2.1 a0) (t.2.1 a) sp.toNatClampNeg dp.toNatClampNeg n.toNatClampNeg)) hk.2)
          rw [show (g_row t a (va_cpy (t.2.1 a0) (t.2.1 a) sp.toNatClampNeg dp.toNatClampNeg n.toNatClampNeg)).2.1 a = va_cpy (t.2.1 a0) (t.2.1 a) sp.toNatClampNeg dp.toNatClampNeg n.toNatClampNeg from va_up_self _ _ _] at hset
          rw [g_c15 hk0.2] at hq0
          rw [g_c15 hk.2] at hq1
          refine va_copyi hx hb (hml.trans hl.1.symm) hown (hts _ (m6 e6)) (hts _ (g_jw_at (by decide +kernel) rfl)) (hts _ (g_jw_at (by decide +kernel) rfl)) (hts _ (g_jw_at (by decide +kernel) rfl)) hK hP hD hS q0 q1 2 2 hq0 hq1 rfl rfl rfl c1 c2 c3 c4 c5 (fun _ _ => rfl) hR1 ?_ hd (fun H1 locs1 h1 h2 h3 => ?_)
          · have e9 : nativeFrameWords "java/lang/System" "arraycopy" 5 = 7 := by decide +kernel
            rw [e9]
            have := hcat
            unfold g_cat at this
            omega
          · exact hP0 _ h5 H1 locs1 ls (hset ▸ h1) (hset ▸ h2) h3 hl hc hs
        · rw [if_neg e6] at h
          by_cases e0 : q.1 = 0 ∨ q.1 = 10
          · rw [if_pos e0] at h
            exact g_inv_ok ck (kd := 0) X0 hP0 hE hq e0 (by decide) hd h
          · rw [if_neg e0] at h
            exact h.elim
  | invokevirtual x =>
    obtain rfl : n = 3 := g_ln hn rfl
    obtain ⟨q, hq, h⟩ := g_op_inv h
    by_cases e0 : q.1 = 1 ∨ q.1 = 11
    · rw [if_pos e0] at h
      exact g_inv_ok ck (kd := 1) X0 hP0 hE hq e0 (by decide) hd h
    · rw [if_neg e0] at h
      exact h.elim
  | invokespecial x =>
    obtain rfl : n = 3 := g_ln hn rfl
    obtain ⟨q, hq, h⟩ := g_op_inv h
    obtain ⟨m3, -, -, -⟩ := g_ml_jdk ck ho hq
    by_cases e3 : q.1 = 3
    · rw [if_pos e3] at h
      obtain ⟨a, r, rfl, h2⟩ := g_r1_inv h
      obtain ⟨hcat, h⟩ := g_ck_inv h2
      have hcat := of_decide_eq_true hcat
      intro H locs ls hP hD hS hl hc hs
      refine W.objInit hx hb hown (hts _ (m3 e3)) (hts _ (g_jw_at (by decide +kernel) rfl)) (hts _ (g_jw_at (List.mem_of_getElem? (i := 1) rfl) rfl)) rfl (hl.1.trans hml.symm) rfl hd hR1 ?_ (hP0 _ h H locs ls hP hD hS hl hc hs)
      show 2 * 0 + _ + 12 ≤ R.locals
      have := hcat
      unfold g_cat at this
      omega
    · rw [if_neg e3] at h
      by_cases e0 : q.1 = 2 ∨ q.1 = 12
      · rw [if_pos e0] at h
        exact g_inv_ok ck (kd := 2) X0 hP0 hE hq e0 (by decide) hd h
      · rw [if_neg e0] at h
        exact h.elim
  | ireturn => cases hir
  | lreturn => cases hir
  | areturn => cases hir
  | return_ => cases hir
  | _ => exact (show False from h).elim
set_option maxHeartbeats 4000000 in
/-- the instructions that end a method -/
theorem g_ret_ok (X : g_C cx p R s m args meth c cc D cy A mt) {i : Instr} {pc n : Nat} (hd : decode cc pc = .ok (i, n)) (hn : n = g_len i ∨ g_len i = 0) (hir : g_isR i = true) {post : Option Value → gSt → Prop} {lc : List (Option Value)} {st : List Value} {t : gSt} {nc ns : Nat} (h : g_do cx E P0 mt post i pc lc st t nc ns) : g_P p l e R s m args below meth c D cy A mt (MQ below (g_Q D cy post A) args s mt.2.2.2.2.1 mt.2.2.2.2.2.1 A) (pc, lc, st, t, nc, ns) := by
  obtain ⟨hx, hb, hml, hr, hts, hown, ho, hK, hA, hlocks, hin, hN, hRc, hRs, hRO, hST⟩ := X
  have hend : ∀ (v : Option Value) (H : Heap) (locs : List Loc), post v t → va_P D vwCl (g_w cy t) H → va_D A (g_w cy t) → va_S A s.heap H locs → ∀ T : State, T.heap = H → s.WarmedH T.vm → g_Q D cy post A args s (.returned v) T := by
    intro v H locs hp hP hD hS T hT hW
    exact ⟨⟨v, t, rfl, hp, by rw [hT]; exact hP, va_K.moved hW.alike hK, hD⟩, hS.F hT⟩
  cases i with
  | ireturn =>
    obtain rfl : n = 1 := g_ln hn rfl
    obtain ⟨x, r, rfl, rfl, h2⟩ := g_i1_inv h
    obtain ⟨ty, hty, h3, h4⟩ := g_op_inv h2
    intro H locs ls hP hD hS hl hc hs
    refine W.widen (k := mt.2.2.2.2.1) (n := mt.2.2.2.2.2.1) hc hs ?_
    exact W.zret hx hb (hr.trans hty) h3 (hend _ H locs h4 hP hD hS) hS.2.2 hd hlocks
  | lreturn =>
    obtain rfl : n = 1 := g_ln hn rfl
    obtain ⟨x, r, rfl, rfl, h2, h4⟩ := g_l1_inv h
    intro H locs ls hP hD hS hl hc hs
    refine W.widen (k := mt.2.2.2.2.1) (n := mt.2.2.2.2.2.1) hc hs ?_
    exact W.lret hx hb (hr.trans h2) (hend _ H locs h4 hP hD hS) hS.2.2 hd hlocks
  | areturn =>
    obtain rfl : n = 1 := g_ln hn rfl
    rcases g_n1_inv h with ⟨x, r, rfl, rfl, h2⟩ | ⟨r, rfl, rfl, h2⟩
    · obtain ⟨ty, hty, h3, h4⟩ := g_op_inv h2
      intro H locs ls hP hD hS hl hc hs
      refine W.widen (k := mt.2.2.2.2.1) (n := mt.2.2.2.2.2.1) hc hs ?_
      exact W.aret hx hb (hr.trans hty) h3 (Or.inr ⟨x, rfl⟩) (hend _ H locs h4 hP hD hS) hS.2.2 hd hlocks
    · obtain ⟨ty, hty, h3, h4⟩ := g_op_inv h2
      intro H locs ls hP hD hS hl hc hs
      refine W.widen (k := mt.2.2.2.2.1) (n := mt.2.2.2.2.2.1) hc hs ?_
      exact W.aret hx hb (hr.trans hty) h3 (Or.inl rfl) (hend _ H locs h4 hP hD hS) hS.2.2 hd hlocks
  | return_ =>
    obtain rfl : n = 1 := g_ln hn rfl
    obtain ⟨rfl, h2, h4⟩ := h
    intro H locs ls hP hD hS hl hc hs
    refine W.widen (k := mt.2.2.2.2.1) (n := mt.2.2.2.2.2.1) hc hs ?_
    exact W.vret hx hb (hr.trans h2) (hend _ H locs h4 hP hD hS) hS.2.2 hd hlocks
  | _ => cases hir
end GS
set_option maxHeartbeats 4000000 in
/-- WHAT g_E SAYS OF A METHOD IS A CONTRACT OF IT -/
theorem g_sound (ck : g_CK) (cx : gCx) (l : Launch) : ∀ (d id : Nat) (vs : List Value) (t : gSt) (post : Option Value → gSt → Prop), g_E cx d id vs t post → g_Met cx l d id vs t post
  | 0, _, _, _, _, h => h.elim
  | d + 1, id, vs, t, post, h => by
    obtain ⟨⟨hid, hlen⟩, hW⟩ := h
    obtain ⟨i1, i2, i3, i4, i5, i6, i7⟩ := g_id_ok hid
    intro D cy sz
    refine Met.ofW (cc := (g_yn id).2) (maxL := (g_mt id).2.1) (ret := (g_mt id).2.2.1) i5 rfl ?_
    intro p e s m args below meth c s₁ B hml hv
    obtain ⟨rfl, hsz, hP, hK, hD0, hN, hRO, hST⟩ := hv
    subst hsz
    have hD := hD0.self (sz := s.heap.size)
    have hts0 := atoms_spec (ws := g_wd id) B.pre
    have hts : ∀ w ∈ g_tb, w.before vs.toArray s = true := fun w hw => hts0 w (List.mem_cons_of_mem _ hw)
    have hown : s.vm.findClass (g_on (g_mt id).1) = some m.cls := by rw [i3]; exact findClass_of_methodNamed B.named
    have hX : g_C cx p (g_rm (d + 1) id) s m vs.toArray meth c (g_yn id).2 D cy (va_A (g_w cy t) s.heap.size) (g_mt id) :=
      ⟨B.exec, B.bytes, hml, B.returns, hts, hown, i1.1, hK, fun q h => Or.inr h, B.notSynchronized, fun z => (name_of_methodNamed B.named B.method).1.trans (i7 z), hN, rfl, rfl, hRO, hST⟩
    have key : g_P p l e (g_rm (d + 1) id) s m vs.toArray below meth c D cy (va_A (g_w cy t) s.heap.size) (g_mt id) (MQ below (g_Q D cy post (va_A (g_w cy t) s.heap.size)) vs.toArray s (g_mt id).2.2.2.2.1 (g_mt id).2.2.2.2.2.1 (va_A (g_w cy t) s.heap.size)) (0, g_l0 vs (g_mt id).2.1, [], t, 0, 0) := by
      refine hW _ (fun z P0 hP0 hz => ?_)
      obtain ⟨pc, lc, st, u, nc, ns⟩ := z
      unfold g_step at hz
      dsimp only at hz
      cases hlk : List.lookup pc (g_mt id).2.2.2.2.2.2 with
      | none =>
        rw [hlk] at hz
        exact hz.elim
      | some i =>
        rw [hlk] at hz
        have hck := List.all_eq_true.mp (ck.1 id hid) (pc, i) (g_lk_mem hlk)
        unfold g_ok1 at hck
        dsimp only at hck
        cases hdc : decode (g_yn id).2 pc with
        | error x =>
          rw [hdc] at hck
          cases hck
        | ok q =>
          obtain ⟨i', n⟩ := q
          rw [hdc] at hck
          simp only [Bool.and_eq_true, decide_eq_true_eq, Bool.or_eq_true, beq_iff_eq] at hck
          obtain ⟨⟨rfl, hn⟩, hj⟩ := hck
          cases hir : g_isR i' with
          | true => exact g_ret_ok hX hdc hn hir hz
          | false => exact g_do_ok ck hX (show 1 ≤ d + 1 by omega) (show 40 ≤ 60 * (d + 1) + 40 by omega) hP0 (fun id2 vs2 t2 post2 h2 => ⟨d, Nat.le_refl _, by show 60 * d + 100 ≤ 60 * (d + 1) + 40; omega, g_sound ck cx l d id2 vs2 t2 post2 h2⟩) hdc hn hj hir hz
    rw [lg_entry_eq]
    exact key s.heap [] _ hP hD va_S.rf (g_l0_has (lv_entry vs (by rw [g_en_len]; exact hlen))) (Nat.zero_le _) (Nat.zero_le _)
