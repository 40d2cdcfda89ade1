/-! the abstract run itself -/
def a_op {α : Type} (o : Option α) (k : α → Option aM) : Option aM := match o with
  | some q => k q
  | none => none
theorem a_op_inv {α : Type} {o : Option α} {k : α → Option aM} {M : aM} (h : a_op o k = some M) : ∃ q, o = some q ∧ k q = some M := by
  cases o with
  | none => cases h
  | some q => exact ⟨q, rfl, h⟩
def a_ck (b : Bool) (k : Option aM) : Option aM := match b with
  | true => k
  | false => none
theorem a_ck_inv {b : Bool} {k : Option aM} {M : aM} (h : a_ck b k = some M) : b = true ∧ k = some M := by
  cases b with
  | true => exact ⟨rfl, h⟩
  | false => cases h
def a_i1 (st : List Value) (k : Int32 → List Value → Option aM) : Option aM := match st with
  | .int x :: r => k x r
  | _ => none
theorem a_i1_inv {st : List Value} {k : Int32 → List Value → Option aM} {M : aM} (h : a_i1 st k = some M) : ∃ x r, st = .int x :: r ∧ k x r = some M := by
  unfold a_i1 at h
  split at h
  · exact ⟨_, _, rfl, h⟩
  · cases h
def a_i2 (st : List Value) (k : Int32 → Int32 → List Value → Option aM) : Option aM := match st with
  | .int y :: .int x :: r => k x y r
  | _ => none
theorem a_i2_inv {st : List Value} {k : Int32 → Int32 → List Value → Option aM} {M : aM} (h : a_i2 st k = some M) : ∃ x y r, st = .int y :: .int x :: r ∧ k x y r = some M := by
  unfold a_i2 at h
  split at h
  · exact ⟨_, _, _, rfl, h⟩
  · cases h
def a_r1 (st : List Value) (k : Nat → List Value → Option aM) : Option aM := match st with
  | .ref i :: r => k i r
  | _ => none
theorem a_r1_inv {st : List Value} {k : Nat → List Value → Option aM} {M : aM} (h : a_r1 st k = some M) : ∃ i r, st = .ref i :: r ∧ k i r = some M := by
  unfold a_r1 at h
  split at h
  · exact ⟨_, _, rfl, h⟩
  · cases h
def a_vr (st : List Value) (k : Value → Nat → List Value → Option aM) : Option aM := match st with
  | v :: .ref i :: r => k v i r
  | _ => none
theorem a_vr_inv {st : List Value} {k : Value → Nat → List Value → Option aM} {M : aM} (h : a_vr st k = some M) : ∃ v i r, st = v :: .ref i :: r ∧ k v i r = some M := by
  unfold a_vr at h
  split at h
  · exact ⟨_, _, _, rfl, h⟩
  · cases h
def a_n0 (st : List Value) (k : Option aM) : Option aM := match st with
  | [] => k
  | _ => none
theorem a_n0_inv {st : List Value} {k : Option aM} {M : aM} (h : a_n0 st k = some M) : st = [] ∧ k = some M := by
  cases st with
  | nil => exact ⟨rfl, h⟩
  | cons v r => cases h
def a_lr (lc : List (Option Value)) (i : Nat) (k : Nat → Option aM) : Option aM := match lc[i]? with
  | some (some (.ref x)) => k x
  | _ => none
theorem a_lr_inv {lc : List (Option Value)} {i : Nat} {k : Nat → Option aM} {M : aM} (h : a_lr lc i k = some M) : ∃ x, lc[i]? = some (some (.ref x)) ∧ k x = some M := by
  unfold a_lr at h
  split at h
  · exact ⟨_, by assumption, h⟩
  · cases h
def a_li (lc : List (Option Value)) (i : Nat) (k : Int32 → Option aM) : Option aM := match lc[i]? with
  | some (some (.int x)) => k x
  | _ => none
theorem a_li_inv {lc : List (Option Value)} {i : Nat} {k : Int32 → Option aM} {M : aM} (h : a_li lc i k = some M) : ∃ x, lc[i]? = some (some (.int x)) ∧ k x = some M := by
  unfold a_li at h
  split at h
  · exact ⟨_, by assumption, h⟩
  · cases h
/-- a field is written -/
def a_put (M : aM) (i j : Nat) (ty : FieldType) (v : Value) : Option aM := match ty with
  | .long => (match v with
    | .long x => a_ck (decide (x = 0)) (some M)
    | _ => none)
  | .object _ => (match v with
    | .ref b => some (M.1, M.2.1, (i, j, b) :: M.2.2)
    | .null => a_ck (decide (aR M.2.2 i j = none)) (some M)
    | _ => none)
  | .array _ => (match v with
    | .ref b => some (M.1, M.2.1, (i, j, b) :: M.2.2)
    | .null => a_ck (decide (aR M.2.2 i j = none)) (some M)
    | _ => none)
  | .int => (match v with
    | .int x => some (M.1, aPI M.2.1 i j x, M.2.2)
    | _ => none)
  | .boolean => (match v with
    | .int x => a_ck (decide (x = 0)) (some (M.1, aPI M.2.1 i j x, M.2.2))
    | _ => none)
  | _ => none
theorem a_put_ok {ad : Nat → Nat} {M M' : aM} {t : gSt} {i j : Nat} {ty : FieldType} {v : Value} {k : gSt → Prop} (h : a_put M i j ty v = some M') (hR : aRel ad M t) (hi : i < M.1.length) (hv : a_ok M.1.length v) (hk : ∀ u, aRel ad M' u → k u) : M'.1 = M.1 ∧ g_put t (ad i) j ty (a_v ad v) k := by
  cases ty with
  | long =>
    cases v with
    | long x =>
      obtain ⟨h1, h2⟩ := a_ck_inv h
      cases h2
      have h1 := of_decide_eq_true h1
      subst h1
      exact ⟨rfl, hk _ (hR.sj hi)⟩
    | _ => cases h
  | object C =>
    cases v with
    | ref b =>
      have h : some (M.1, M.2.1, (i, j, b) :: M.2.2) = some M' := h
      cases h
      exact ⟨rfl, hk _ (hR.sr hi hv)⟩
    | null =>
      obtain ⟨h1, h2⟩ := a_ck_inv h
      cases h2
      exact ⟨rfl, hk _ (hR.sn hi (of_decide_eq_true h1))⟩
    | _ => cases h
  | array C =>
    cases v with
    | ref b =>
      have h : some (M.1, M.2.1, (i, j, b) :: M.2.2) = some M' := h
      cases h
      exact ⟨rfl, hk _ (hR.sr hi hv)⟩
    | null =>
      obtain ⟨h1, h2⟩ := a_ck_inv h
      cases h2
      exact ⟨rfl, hk _ (hR.sn hi (of_decide_eq_true h1))⟩
    | _ => cases h
  | int =>
    cases v with
    | int x =>
      have h : some (M.1, aPI M.2.1 i j x, M.2.2) = some M' := h
      cases h
      exact ⟨rfl, hk _ (hR.si hi)⟩
    | _ => cases h
  | boolean =>
    cases v with
    | int x =>
      obtain ⟨h1, h2⟩ := a_ck_inv h
      cases h2
      have h1 := of_decide_eq_true h1
      subst h1
      exact ⟨rfl, And.intro (And.intro (by first | rfl | decide) (by first | rfl | decide)) (hk _ (hR.si hi))⟩
    | _ => cases h
  | _ => cases h
abbrev aK : Type := Nat → List (Option Value) → List Value → aM → Nat → Nat → Option aM
def a_do (call : Nat → List Value → aM → Option aM) (mt : gMt) (K : aK) (i : Instr) (pc : Nat) (lc : List (Option Value)) (st : List Value) (M : aM) (nc ns : Nat) : Option aM := match i with
  | .aload_n k => a_lr lc k.val (fun x => K (pc + 1) lc (.ref x :: st) M nc ns)
  | .iload_n k => a_li lc k.val (fun x => K (pc + 1) lc (.int x :: st) M nc ns)
  | .iconst n => K (pc + 1) lc (.int (Int32.ofInt n) :: st) M nc ns
  | .bipush n => K (pc + 2) lc (.int (Int8.ofInt n).toInt32 :: st) M nc ns
  | .sipush n => K (pc + 3) lc (.int (Int16.ofInt n).toInt32 :: st) M nc ns
  | .lconst n => K (pc + 1) lc (.long (Int64.ofNat n.val) :: st) M nc ns
  | .aconst_null => K (pc + 1) lc (.null :: st) M nc ns
  | .ldc x => a_op (g_il mt.1 x) (fun q => K (pc + 2) lc (.int q.1 :: st) M nc ns)
  | .dup => a_r1 st (fun i r => K (pc + 1) lc (.ref i :: .ref i :: r) M nc ns)
  | .new x => a_op (g_clk mt.1 x) (fun q => a_ck (decide (nc + 1 ≤ mt.2.2.2.2.1) && decide (ns + (g_cl q.1).2.2 ≤ mt.2.2.2.2.2.1)) (K (pc + 3) lc (.ref M.1.length :: st) (M.1 ++ [(q.1, 0)], M.2) (nc + 1) (ns + (g_cl q.1).2.2)))
  | .newarray y => a_i1 st (fun n r => a_ck (decide (¬ n < 0) && (decide (¬ g_atk y = 0) && (decide (n.toNatClampNeg * 8 ≤ 536870912) && (decide (nc + 1 ≤ mt.2.2.2.2.1) && decide (ns + n.toNatClampNeg ≤ mt.2.2.2.2.2.1))))) (K (pc + 2) lc (.ref M.1.length :: r) (M.1 ++ [(g_atk y, n.toNatClampNeg)], M.2) (nc + 1) (ns + n.toNatClampNeg)))
  | .multianewarray x k => a_i2 st (fun n w r => a_ck (decide (mt.1 = 3 ∧ x = 28 ∧ k = 2 ∧ n = 24 ∧ w = 24) && (decide (nc + 25 ≤ mt.2.2.2.2.1) && decide (ns + 600 ≤ mt.2.2.2.2.2.1))) (K (pc + 4) lc (.ref M.1.length :: r) (M.1 ++ (18, 24) :: List.replicate 24 (15, 24), M.2.1, (List.range 24).map (fun k => (M.1.length, k, M.1.length + 1 + k)) ++ M.2.2) (nc + 25) (ns + 600)))
  | .putfield x => a_op (g_fl mt.1 x) (fun q => a_vr st (fun v i r => a_ck ((q.1 != 20) && (g_fo mt q.1 q.2.1 && (decide (i < M.1.length) && decide ((M.1.getD i (0, 0)).1 = q.1)))) (a_op (a_put M i q.2.1 (g_tyF q.1 q.2.1) v) (fun M' => K (pc + 3) lc r M' nc ns))))
  | .invokespecial x => a_op (g_ml mt.1 x) (fun q => if q.1 = 3 then a_r1 st (fun _ r => a_ck (decide (g_cat r ≤ 8)) (K (pc + 3) lc r M nc ns))
      else a_ck (decide (q.1 = 2 ∨ q.1 = 12) && (decide (nc + (g_mt q.2.1).2.2.2.2.1 ≤ mt.2.2.2.2.1) && decide (ns + (g_mt q.2.1).2.2.2.2.2.1 ≤ mt.2.2.2.2.2.1))) (a_r1 (st.drop q.2.2.1) (fun b r => a_ck (decide (g_cat r ≤ 8) && ((!((g_mt q.2.1).1 == 14)) && (decide (b < M.1.length) && decide ((M.1.getD b (0, 0)).1 = (g_mt q.2.1).1)))) (a_op (call q.2.1 (.ref b :: (st.take q.2.2.1).reverse) M) (fun M' => K (pc + 3) lc r M' (nc + (g_mt q.2.1).2.2.2.2.1) (ns + (g_mt q.2.1).2.2.2.2.2.1))))))
  | .return_ => a_n0 st (a_ck mt.2.2.1.isNone (some M))
  | _ => none
/-- a call is sound -/
def aCk (call : Nat → List Value → aM → Option aM) (E : gE) : Prop := ∀ id vs M M', call id vs M = some M' → ∀ (ad : Nat → Nat) (t : gSt), aRel ad M t → (∀ v ∈ vs, a_ok M.1.length v) → ∀ post : Option Value → gSt → Prop, (∀ ad' u, aX ad M.1.length ad' M'.1.length → aRel ad' M' u → post none u) → E id (vs.map (a_v ad)) t post
/-- a way on is sound -/
def aSd (P : gY → Prop) (post : Option Value → gSt → Prop) (K : aK) : Prop := ∀ pc lc st M nc ns Mf, K pc lc st M nc ns = some Mf → ∀ (ad : Nat → Nat) (t : gSt), aRel ad M t → (∀ v, some v ∈ lc → a_ok M.1.length v) → (∀ v ∈ st, a_ok M.1.length v) → (∀ ad' u, aX ad M.1.length ad' Mf.1.length → aRel ad' Mf u → post none u) → P (pc, lc.map (Option.map (a_v ad)), st.map (a_v ad), t, nc, ns)
theorem a_lda {lc : List (Option Value)} {i a : Nat} {k : Value → Prop} (h : lc[i]? = some (some (.ref a))) (hk : k (.ref a)) : g_lda lc i k := by
  unfold g_lda
  rw [h]
  exact hk
theorem a_ldi {lc : List (Option Value)} {i : Nat} {x : Int32} {k : Int32 → Prop} (h : lc[i]? = some (some (.int x))) (hk : k x) : g_ldi lc i k := by
  unfold g_ldi
  rw [h]
  exact hk
theorem a_gop {α : Type} {o : Option α} {q : α} {k : α → Prop} (h : o = some q) (hk : k q) : g_op o k := by
  rw [h]
  exact hk
theorem a_gck {b : Bool} {k : Prop} (h : b = true) (hk : k) : g_ck b k := by
  rw [h]
  exact hk
theorem a_cat {ad : Nat → Nat} (st : List Value) : g_cat (st.map (a_v ad)) = g_cat st := by
  unfold g_cat
  rw [List.map_map]
  congr 1
  refine List.map_congr_left (fun v _ => ?_)
  show (a_v ad v).category = v.category
  cases v <;> rfl
section AGO
variable {cx : gCx} {E : gE} {P : gY → Prop} {mt : gMt} {post : Option Value → gSt → Prop} {call : Nat → List Value → aM → Option aM} {K : aK}
theorem a_new {M Mf M' : aM} {ad ad' : Nat → Nat} {u : gSt} {a pc nc ns : Nat} {lc : List (Option Value)} {r : List Value} (hK : aSd P post K) (hlc : ∀ v, some v ∈ lc → a_ok M.1.length v) (hr : ∀ v ∈ r, a_ok M.1.length v) (hp : ∀ ad' u, aX ad M.1.length ad' Mf.1.length → aRel ad' Mf u → post none u)
    (h : K pc lc (.ref M.1.length :: r) M' nc ns = some Mf) (hX : aX ad M.1.length ad' M'.1.length) (hl : M.1.length < M'.1.length) (ha : ad' M.1.length = a) (hR : aRel ad' M' u) : P (pc, lc.map (Option.map (a_v ad)), .ref a :: r.map (a_v ad), u, nc, ns) := by
  have h1 := hK _ _ _ _ _ _ _ h ad' u hR (fun v hv => a_ok_mono hX.1 (hlc v hv)) (fun v hv => by
    rcases List.mem_cons.mp hv with rfl | hv
    · exact hl
    · exact a_ok_mono hX.1 (hr v hv)) (fun ad2 w hx hw => hp ad2 w (hX.tr hx) hw)
  rw [hX.lc hlc, List.map_cons, hX.st hr] at h1
  have e : a_v ad' (.ref M.1.length) = .ref a := congrArg Value.ref ha
  rw [e] at h1
  exact h1
set_option maxHeartbeats 4000000 in
theorem a_do_ok (hC : aCk call E) (hK : aSd P post K) {i : Instr} {pc nc ns : Nat} {lc : List (Option Value)} {st : List Value} {M Mf : aM} {ad : Nat → Nat} {t : gSt} (h : a_do call mt K i pc lc st M nc ns = some Mf) (hR : aRel ad M t) (hlc : ∀ v, some v ∈ lc → a_ok M.1.length v) (hst : ∀ v ∈ st, a_ok M.1.length v) (hp : ∀ ad' u, aX ad M.1.length ad' Mf.1.length → aRel ad' Mf u → post none u) : g_do cx E P mt post i pc (lc.map (Option.map (a_v ad))) (st.map (a_v ad)) t nc ns := by
  cases i with
  | aload_n k =>
    obtain ⟨x, hl, h⟩ := a_lr_inv h
    have e : (lc.map (Option.map (a_v ad)))[k.val]? = some (some (.ref (ad x))) := by
      rw [List.getElem?_map, hl]
      rfl
    show g_lda (lc.map (Option.map (a_v ad))) k.val (fun v => P (pc + 1, lc.map (Option.map (a_v ad)), v :: st.map (a_v ad), t, nc, ns))
    refine a_lda (a := ad x) e ?_
    exact hK _ _ _ _ _ _ _ h ad t hR hlc (List.forall_mem_cons.mpr ⟨hlc _ (List.mem_of_getElem? hl), hst⟩) hp
  | iload_n k =>
    obtain ⟨x, hl, h⟩ := a_li_inv h
    have e : (lc.map (Option.map (a_v ad)))[k.val]? = some (some (.int x)) := by
      rw [List.getElem?_map, hl]
      rfl
    show g_ldi (lc.map (Option.map (a_v ad))) k.val (fun v => P (pc + 1, lc.map (Option.map (a_v ad)), .int v :: st.map (a_v ad), t, nc, ns))
    refine a_ldi (x := x) e ?_
    exact hK _ _ _ _ _ _ _ h ad t hR hlc (List.forall_mem_cons.mpr ⟨trivial, hst⟩) hp
  | iconst n =>
    have h : K (pc + 1) lc (.int (Int32.ofInt n) :: st) M nc ns = some Mf := h
    exact hK _ _ _ _ _ _ _ h ad t hR hlc (List.forall_mem_cons.mpr ⟨trivial, hst⟩) hp
  | bipush n =>
    have h : K (pc + 2) lc (.int (Int8.ofInt n).toInt32 :: st) M nc ns = some Mf := h
    exact hK _ _ _ _ _ _ _ h ad t hR hlc (List.forall_mem_cons.mpr ⟨trivial, hst⟩) hp
  | sipush n =>
    have h : K (pc + 3) lc (.int (Int16.ofInt n).toInt32 :: st) M nc ns = some Mf := h
    exact hK _ _ _ _ _ _ _ h ad t hR hlc (List.forall_mem_cons.mpr ⟨trivial, hst⟩) hp
  | lconst n =>
    have h : K (pc + 1) lc (.long (Int64.ofNat n.val) :: st) M nc ns = some Mf := h
    exact hK _ _ _ _ _ _ _ h ad t hR hlc (List.forall_mem_cons.mpr ⟨trivial, hst⟩) hp
  | aconst_null =>
    have h : K (pc + 1) lc (.null :: st) M nc ns = some Mf := h
    exact hK _ _ _ _ _ _ _ h ad t hR hlc (List.forall_mem_cons.mpr ⟨trivial, hst⟩) hp
  | ldc x =>
    obtain ⟨q, hq, h⟩ := a_op_inv h
    have h1 := hK _ _ _ _ _ _ _ h ad t hR hlc (List.forall_mem_cons.mpr ⟨trivial, hst⟩) hp
    show (match g_il mt.1 x with
      | some q => P (pc + 2, lc.map (Option.map (a_v ad)), .int q.1 :: st.map (a_v ad), t, nc, ns)
      | none => g_op (g_sl mt.1 x) (fun q => P (pc + 2, lc.map (Option.map (a_v ad)), .ref (cx.2.2.1 q) :: st.map (a_v ad), t, nc, ns)))
    rw [hq]
    exact h1
  | dup =>
    obtain ⟨x, r, rfl, h⟩ := a_r1_inv h
    exact hK _ _ _ _ _ _ _ h ad t hR hlc (List.forall_mem_cons.mpr ⟨hst _ List.mem_cons_self, hst⟩) hp
  | new x =>
    obtain ⟨q, hq, h⟩ := a_op_inv h
    obtain ⟨hc, h⟩ := a_ck_inv h
    rw [Bool.and_eq_true, decide_eq_true_eq, decide_eq_true_eq] at hc
    refine a_gop hq ?_
    refine And.intro hc.1 (And.intro hc.2 (fun a ha => ?_))
    have hl : (M.1 ++ [(q.1, 0)]).length = M.1.length + 1 := by simp
    refine a_new hK hlc hst hp h (ad' := va_up ad M.1.length a) ?_ ?_ (va_up_self _ _ _) (hR.nw ha)
    · show aX ad M.1.length _ (M.1 ++ [(q.1, 0)]).length
      rw [hl]
      exact aRel.nwX
    · show M.1.length < (M.1 ++ [(q.1, 0)]).length
      rw [hl]
      exact Nat.lt_succ_self _
  | newarray y =>
    obtain ⟨n, r, rfl, h⟩ := a_i1_inv h
    obtain ⟨hc, h⟩ := a_ck_inv h
    rw [Bool.and_eq_true, Bool.and_eq_true, Bool.and_eq_true, Bool.and_eq_true, decide_eq_true_eq, decide_eq_true_eq, decide_eq_true_eq, decide_eq_true_eq, decide_eq_true_eq] at hc
    refine And.intro hc.1 (And.intro hc.2.1 (And.intro hc.2.2.1 (And.intro hc.2.2.2.1 (And.intro hc.2.2.2.2 (fun a ha => ?_)))))
    have hl : (M.1 ++ [(g_atk y, n.toNatClampNeg)]).length = M.1.length + 1 := by simp
    refine a_new hK hlc (fun v hv => hst v (List.mem_cons_of_mem _ hv)) hp h (ad' := va_up ad M.1.length a) ?_ ?_ (va_up_self _ _ _) (hR.nw ha)
    · show aX ad M.1.length _ (M.1 ++ [(g_atk y, n.toNatClampNeg)]).length
      rw [hl]
      exact aRel.nwX
    · show M.1.length < (M.1 ++ [(g_atk y, n.toNatClampNeg)]).length
      rw [hl]
      exact Nat.lt_succ_self _
  | multianewarray x k =>
    obtain ⟨n, w, r, rfl, h⟩ := a_i2_inv h
    obtain ⟨hc, h⟩ := a_ck_inv h
    rw [Bool.and_eq_true, Bool.and_eq_true, decide_eq_true_eq, decide_eq_true_eq, decide_eq_true_eq] at hc
    refine And.intro hc.1 (And.intro hc.2.1 (And.intro hc.2.2 (fun a r2 ha hr2 hi2 => ?_)))
    have hl : (M.1 ++ (18, 24) :: List.replicate 24 (15, 24)).length = M.1.length + 25 := by
      rw [List.length_append, List.length_cons, List.length_replicate]
    refine a_new hK hlc (fun v hv => hst v (List.mem_cons_of_mem _ (List.mem_cons_of_mem _ hv))) hp h (ad' := a_mn ad M.1.length a r2) ?_ ?_ ?_ (hR.mn ha hr2 hi2)
    · show aX ad M.1.length _ (M.1 ++ (18, 24) :: List.replicate 24 (15, 24)).length
      rw [hl]
      exact aRel.mnX
    · show M.1.length < (M.1 ++ (18, 24) :: List.replicate 24 (15, 24)).length
      rw [hl]
      omega
    · unfold a_mn
      rw [if_neg (Nat.lt_irrefl _), if_pos rfl]
  | putfield x =>
    obtain ⟨q, hq, h⟩ := a_op_inv h
    obtain ⟨v, i, r, rfl, h⟩ := a_vr_inv h
    obtain ⟨hc, h⟩ := a_ck_inv h
    obtain ⟨M', hM, h⟩ := a_op_inv h
    rw [Bool.and_eq_true, Bool.and_eq_true, Bool.and_eq_true, decide_eq_true_eq, decide_eq_true_eq] at hc
    refine a_gop hq ?_
    show g_ck (q.1 != 20) (g_k t (ad i) q.1 ∧ g_ck (g_fo mt q.1 q.2.1) (g_put t (ad i) q.2.1 (g_tyF q.1 q.2.1) (a_v ad v) (fun u => P (pc + 3, lc.map (Option.map (a_v ad)), r.map (a_v ad), u, nc, ns))))
    refine a_gck hc.1 (And.intro ⟨hR.1 i hc.2.2.1, (hR.2.2.1 i hc.2.2.1).1.trans hc.2.2.2⟩ (a_gck hc.2.1 ?_))
    have hr : ∀ w ∈ r, a_ok M.1.length w := fun w hw => hst w (List.mem_cons_of_mem _ (List.mem_cons_of_mem _ hw))
    have hm : M'.1 = M.1 := (a_put_ok (k := fun _ => True) hM hR hc.2.2.1 (hst v List.mem_cons_self) (fun _ _ => trivial)).1
    refine (a_put_ok hM hR hc.2.2.1 (hst v List.mem_cons_self) (fun u hu => ?_)).2
    refine hK _ _ _ _ _ _ _ h ad u hu (by rw [hm]; exact hlc) (by rw [hm]; exact hr) (fun ad2 w hx hw => hp ad2 w ?_ hw)
    rw [hm] at hx
    exact hx
  | invokespecial x =>
    obtain ⟨q, hq, h⟩ := a_op_inv h
    refine a_gop hq ?_
    by_cases h3 : q.1 = 3
    · rw [if_pos h3] at h ⊢
      obtain ⟨b, r, rfl, h⟩ := a_r1_inv h
      obtain ⟨hc, h⟩ := a_ck_inv h
      rw [← a_cat (ad := ad) r] at hc
      show g_ck (decide (g_cat (r.map (a_v ad)) ≤ 8)) (P (pc + 3, lc.map (Option.map (a_v ad)), r.map (a_v ad), t, nc, ns))
      refine a_gck hc ?_
      exact hK _ _ _ _ _ _ _ h ad t hR hlc (fun v hv => hst v (List.mem_cons_of_mem _ hv)) hp
    · rw [if_neg h3] at h ⊢
      obtain ⟨hc, h⟩ := a_ck_inv h
      obtain ⟨b, r, hd, h⟩ := a_r1_inv h
      obtain ⟨hc2, h⟩ := a_ck_inv h
      obtain ⟨M', hM, h⟩ := a_op_inv h
      rw [Bool.and_eq_true, decide_eq_true_eq] at hc
      rw [Bool.and_eq_true, Bool.and_eq_true, Bool.and_eq_true, decide_eq_true_eq, decide_eq_true_eq, decide_eq_true_eq] at hc2
      rw [if_pos hc.1]
      have hdm : (st.map (a_v ad)).drop q.2.2.1 = .ref (ad b) :: r.map (a_v ad) := by
        rw [← List.map_drop, hd]
        rfl
      have htm : ((st.map (a_v ad)).take q.2.2.1).reverse = ((st.take q.2.2.1).reverse).map (a_v ad) := by
        rw [← List.map_take, List.map_reverse]
      have hrs : ∀ v ∈ r, a_ok M.1.length v := fun v hv => hst v (List.mem_of_mem_drop (i := q.2.2.1) (by rw [hd]; exact List.mem_cons_of_mem _ hv))
      have hvs : ∀ v ∈ Value.ref b :: (st.take q.2.2.1).reverse, a_ok M.1.length v := List.forall_mem_cons.mpr ⟨hc2.2.2.1, fun v hv => hst v (List.mem_of_mem_take (List.mem_reverse.mp hv))⟩
      have h14 : ((g_mt q.2.1).1 == 14) = false := by
        cases e : ((g_mt q.2.1).1 == 14) with
        | false => rfl
        | true =>
          rw [e] at hc2
          exact absurd hc2.2.1 (by decide)
      show g_ck (decide (nc + (g_mt q.2.1).2.2.2.2.1 ≤ mt.2.2.2.2.1) && decide (ns + (g_mt q.2.1).2.2.2.2.2.1 ≤ mt.2.2.2.2.2.1)) (g_r1 ((st.map (a_v ad)).drop q.2.2.1) (fun b r => g_ck (decide (g_cat r ≤ 8)) ((match (g_mt q.2.1).1 == 14 with
        | true => ∃ z, cx.2.1 b z ∧ z.1 = 20
        | false => g_k t b (g_mt q.2.1).1) ∧ E q.2.1 (.ref b :: ((st.map (a_v ad)).take q.2.2.1).reverse) t (fun v u => P (pc + 3, lc.map (Option.map (a_v ad)), v.toList ++ r, u, nc + (g_mt q.2.1).2.2.2.2.1, ns + (g_mt q.2.1).2.2.2.2.2.1)))))
      refine a_gck hc.2 ?_
      rw [hdm, htm, h14]
      show g_ck (decide (g_cat (r.map (a_v ad)) ≤ 8)) (g_k t (ad b) (g_mt q.2.1).1 ∧ E q.2.1 ((Value.ref b :: (st.take q.2.2.1).reverse).map (a_v ad)) t (fun v u => P (pc + 3, lc.map (Option.map (a_v ad)), v.toList ++ r.map (a_v ad), u, nc + (g_mt q.2.1).2.2.2.2.1, ns + (g_mt q.2.1).2.2.2.2.2.1)))
      refine a_gck (by rw [a_cat]; exact decide_eq_true hc2.1) (And.intro ⟨hR.1 b hc2.2.2.1, (hR.2.2.1 b hc2.2.2.1).1.trans hc2.2.2.2⟩ ?_)
      refine hC _ _ _ _ hM ad t hR hvs _ (fun ad' u hX hu => ?_)
      have h1 := hK _ _ _ _ _ _ _ h ad' u hu (fun v hv => a_ok_mono hX.1 (hlc v hv)) (fun v hv => a_ok_mono hX.1 (hrs v hv)) (fun ad2 w hx hw => hp ad2 w (hX.tr hx) hw)
      rw [hX.lc hlc, hX.st hrs] at h1
      exact h1
  | return_ =>
    obtain ⟨rfl, h⟩ := a_n0_inv h
    obtain ⟨hc, h⟩ := a_ck_inv h
    cases h
    exact And.intro rfl (And.intro (Option.isNone_iff_eq_none.mp hc) (hp ad t aX.rf hR))
  | _ => cases h
end AGO
def a_go (call : Nat → List Value → aM → Option aM) (mt : gMt) : Nat → aK
  | 0 => fun _ _ _ _ _ _ => none
  | f + 1 => fun pc lc st M nc ns => a_op (mt.2.2.2.2.2.2.lookup pc) (fun i => a_do call mt (a_go call mt f) i pc lc st M nc ns)
theorem a_go_ok {cx : gCx} {E : gE} {mt : gMt} {post : Option Value → gSt → Prop} {call : Nat → List Value → aM → Option aM} (hC : aCk call E) : ∀ f : Nat, aSd (g_W cx E mt post) post (a_go call mt f) := by
  intro f
  induction f with
  | zero =>
    intro pc lc st M nc ns Mf h
    cases h
  | succ f ih =>
    intro pc lc st M nc ns Mf h ad t hR hlc hst hp
    obtain ⟨i, hi, h⟩ := a_op_inv h
    refine g_Ws ?_
    unfold g_step
    dsimp only
    rw [hi]
    exact a_do_ok hC ih h hR hlc hst hp
def a_E : Nat → Nat → List Value → aM → Option aM
  | 0 => fun _ _ _ => none
  | d + 1 => fun id vs M => a_ck (decide (id < 233) && decide ((g_en vs).length ≤ (g_mt id).2.1)) (a_go (a_E d) (g_mt id) 300 0 (g_l0 vs (g_mt id).2.1) [] M 0 0)
theorem a_en {ad : Nat → Nat} : ∀ vs : List Value, g_en (vs.map (a_v ad)) = (g_en vs).map (Option.map (a_v ad)) := by
  intro vs
  induction vs with
  | nil => rfl
  | cons v vs ih =>
    have hc : (a_v ad v).category = v.category := by cases v <;> rfl
    show (if (a_v ad v).category = 2 then some (a_v ad v) :: none :: g_en (vs.map (a_v ad)) else some (a_v ad v) :: g_en (vs.map (a_v ad))) = (if v.category = 2 then some v :: none :: g_en vs else some v :: g_en vs).map (Option.map (a_v ad))
    rw [hc, ih]
    by_cases h : v.category = 2
    · rw [if_pos h, if_pos h]
      rfl
    · rw [if_neg h, if_neg h]
      rfl
theorem a_en_mem {w : Value} : ∀ vs : List Value, some w ∈ g_en vs → w ∈ vs := by
  intro vs
  induction vs with
  | nil =>
    intro h
    have h : some w ∈ ([] : List (Option Value)) := h
    cases h
  | cons v vs ih =>
    intro h
    have h : some w ∈ (if v.category = 2 then some v :: none :: g_en vs else some v :: g_en vs) := h
    by_cases c : v.category = 2
    · rw [if_pos c] at h
      rcases List.mem_cons.mp h with h | h
      · cases h
        exact List.mem_cons_self
      · rcases List.mem_cons.mp h with h | h
        · cases h
        · exact List.mem_cons_of_mem _ (ih h)
    · rw [if_neg c] at h
      rcases List.mem_cons.mp h with h | h
      · cases h
        exact List.mem_cons_self
      · exact List.mem_cons_of_mem _ (ih h)
theorem a_E_ok {cx : gCx} {e : Nat} : ∀ d : Nat, aCk (a_E d) (g_E cx (e + d)) := by
  intro d
  induction d with
  | zero =>
    intro id vs M M' h
    cases h
  | succ d ih =>
    intro id vs M M' h ad t hR hv post hp
    have h : a_ck (decide (id < 233) && decide ((g_en vs).length ≤ (g_mt id).2.1)) (a_go (a_E d) (g_mt id) 300 0 (g_l0 vs (g_mt id).2.1) [] M 0 0) = some M' := h
    obtain ⟨hc, h⟩ := a_ck_inv h
    rw [Bool.and_eq_true, decide_eq_true_eq, decide_eq_true_eq] at hc
    have hm : ∀ v, some v ∈ g_l0 vs (g_mt id).2.1 → a_ok M.1.length v := fun v hm => by
      unfold g_l0 at hm
      rcases List.mem_append.mp hm with hm | hm
      · exact hv v (a_en_mem _ hm)
      · have := List.eq_of_mem_replicate hm
        cases this
    have h0 : ∀ v ∈ ([] : List Value), a_ok M.1.length v := fun v hv => by cases hv
    have h1 := a_go_ok (cx := cx) (post := post) ih 300 _ _ _ _ _ _ _ h ad t hR hm h0 hp
    have e1 : g_l0 (vs.map (a_v ad)) (g_mt id).2.1 = (g_l0 vs (g_mt id).2.1).map (Option.map (a_v ad)) := by
      unfold g_l0
      rw [a_en, List.length_map, List.map_append, List.map_replicate]
      rfl
    show (id < 233 ∧ (g_en (vs.map (a_v ad))).length ≤ (g_mt id).2.1) ∧ g_W cx (g_E cx (e + d)) (g_mt id) post (0, g_l0 (vs.map (a_v ad)) (g_mt id).2.1, [], t, 0, 0)
    refine And.intro (And.intro hc.1 ?_) ?_
    · rw [a_en, List.length_map]
      exact hc.2
    · rw [e1]
      exact h1
