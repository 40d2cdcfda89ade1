/-! THE CLASS'S MACHINE: one step -/
section CS
variable {A L : List Fn} {H : Nat → Nat → Nat × Nat} {al : Nat} {cx : gCx} {d : Nat} {ad : Nat → Nat} {t0 t : gSt} {post : Option Value → gSt → Prop} {p st : Nat}
/-- what told and putAt show -/
def Tld (ad : Nat → Nat) (t0 : gSt) (st : Nat) (o : Int32) (m : MSt) (u : gSt) : Prop := gFr ad mcP t0 u ∧ u.2.1 (ad 93) 1 = o ∧ u.2.1 (ad 93) 2 = nI st ∧ u.2.1 (ad 93) 3 = nI m.2.2 ∧ u.2.1 (ad 93) 4 = nI m.2.1.length ∧ ∀ (j : Nat) (v : Int32), m.2.1[j]? = some v → u.2.1 (ad 94) j = v
theorem mTab.fr {u : gSt} (hp : isP p) (hF : gFr ad mcP t u) (hT : mTab t ad p L) : mTab u ad p L := fun f hf => by
  have hpg := hp.ge
  have hpl := hp.lt
  rw [hF.i _ _ (mcP_r (by omega)) (by omega), hF.i _ _ (mcP_r (by omega)) (by omega), hF.i _ _ (mcP_r (by omega)) (by omega)]
  obtain ⟨a1, a2, a3, s, a4, a5, a6⟩ := hT f hf
  refine ⟨a1, a2, a3, s, ?_, a5, fun i q hq => ?_⟩
  · rw [hF.i _ _ (mcP_r (by omega)) (by omega)]; exact a4
  · rw [hF.i _ _ (mcP_r (by omega)) (by omega), hF.i _ _ (mcP_r (by omega)) (by omega)]; exact a6 i q hq
/-- a step that stays in its frame -/
theorem RC.loc {u : gSt} {f pc pc' : Nat} {sl sk sl' sk' : List Int32} {rest : List Frm} {ps ps' : List Int32} {mo : Nat} (h : RC t0 ad p L al st ((f, pc, sl, sk) :: rest, ps, mo) t) (hfit : ∀ x ∈ rest, fitF L x) (hF : gFr ad mcP t u) (h93 : ∀ k, k ≠ 4 → k ≠ 9 → k ≠ 11 → u.2.1 (ad 93) k = t.2.1 (ad 93) k) (hr6 : u.2.2.2 (ad 93) 6 = t.2.2.2 (ad 93) 6) (h4 : u.2.1 (ad 93) 4 = nI ps'.length) (h94 : ∀ (j : Nat) (v : Int32), ps'[j]? = some v → u.2.1 (ad 94) j = v) (h9 : u.2.1 (ad 93) 9 = nI pc') (h11 : u.2.1 (ad 93) 11 = nI (bsz L rest + 2 + fnS (fAt L f) + sk'.length)) (hlow : ∀ a, a < bsz L rest + 2 → u.2.1 (ad 95) a = t.2.1 (ad 95) a) (hsl : slt (u.2.1 (ad 95)) (bsz L rest + 2) sl') (hsk : stk (u.2.1 (ad 95)) (bsz L rest + 2 + fnS (fAt L f)) sk') : RC t0 ad p L al st ((f, pc', sl', sk') :: rest, ps', mo) u := by
  obtain ⟨r1, r2, r3, r4, r5, r6, r7, r8, r9, f', pc1, sl1, sk1, rest1, e, q1, q2, q3, q4⟩ := h
  simp only [List.cons.injEq, Prod.mk.injEq] at e
  obtain ⟨⟨rfl, rfl, rfl, rfl⟩, rfl⟩ := e
  refine ⟨r1.tr hF, hr6.trans r2, (h93 7 (by decide) (by decide) (by decide)).trans r3, (h93 1 (by decide) (by decide) (by decide)).trans r4, (h93 2 (by decide) (by decide) (by decide)).trans r5, (h93 3 (by decide) (by decide) (by decide)).trans r6, h4, h94, ⟨hsl, hsk, ?_, ?_⟩, f, pc', sl', sk', rest, rfl, (h93 8 (by decide) (by decide) (by decide)).trans q1, h9, (h93 10 (by decide) (by decide) (by decide)).trans q3, h11⟩
  · have hh := r9.2.2.1
    unfold hdF at hh ⊢
    match rest, hh, hlow with
    | [], hh, hlow => rw [hlow 0 (by omega)]; exact hh
    | (f2, pc2, sl2, sk2) :: r2', hh, hlow => exact ⟨by rw [hlow _ (by omega)]; exact hh.1, by rw [hlow _ (by omega)]; exact hh.2⟩
  · exact memF_cg rest hfit (fun a ha => hlow a (by omega)) r9.2.2.2
theorem stk_push {m m' : Nat → Int32} {o : Nat} {v : Int32} {l : List Int32} (h : ∀ x, m' x = if x = o + l.length then v else m x) (hs : stk m o l) : stk m' o (v :: l) := ⟨by rw [h, if_pos rfl], stk_cg l (fun a h1 h2 => by rw [h, if_neg (by omega)]) hs⟩
theorem operate_ok {j : Nat} {a b : Int32} (h3 : 3 ≤ j) (h9 : j ≤ 9) (hz : ¬ ((nI j = 6 ∨ nI j = 7) ∧ b = 0)) (hL : Lay t ad) (h : post (some (.int (op2 (nI j) a b))) t) : g_E cx (d + 1) i_Tr_operate [.int (nI j), .int a, .int b] t post := by
  refine x_Tr_operate hL ⟨fun c => ?_, fun c => ?_, fun c => ?_, fun c => ?_, fun c => ?_, fun c => ?_, fun c => ?_, fun c => ?_⟩
  · rw [c] at h; exact x_Tr_operate_44 hL h
  · rw [c] at h; exact x_Tr_operate_48 hL h
  · rw [c] at h; exact x_Tr_operate_52 hL h
  · have hb : ¬ b = 0 := fun q => hz ⟨Or.inl c, q⟩
    rw [c] at h; exact x_Tr_operate_56 hL ⟨fun q => ⟨q, h⟩, fun q => absurd hb q⟩
  · have hb : ¬ b = 0 := fun q => hz ⟨Or.inr c, q⟩
    rw [c] at h; exact x_Tr_operate_68 hL ⟨fun q => ⟨q, h⟩, fun q => absurd hb q⟩
  · rw [c] at h
    have h : post (some (.int (if a < b then 1 else 0))) t := h
    refine x_Tr_operate_80 hL ⟨fun q => ?_, fun q => ?_⟩
    · rw [if_neg (Int32.not_lt.mpr q)] at h; exact h
    · rw [if_pos (Int32.not_le.mp q)] at h; exact h
  · rw [c] at h
    have h : post (some (.int (if a = b then 1 else 0))) t := h
    refine x_Tr_operate_91 hL ⟨fun q => ?_, fun q => ?_⟩
    · rw [if_neg q] at h; exact h
    · rw [if_pos (Classical.not_not.mp q)] at h; exact h
  · rw [show (3 : Int32) = nI 3 from rfl, show (9 : Int32) = nI 9 from rfl, nI_ltI (by omega) (by omega), nI_ltI (by omega) (by omega)] at c
    omega
theorem divides_ok {k b : Int32} (hL : Lay t ad) (h : post (some (.int (if (k = 6 ∨ k = 7) ∧ b = 0 then 1 else 0))) t) : g_E cx (d + 1) i_Tr_dividesByZero [.int k, .int b] t post := by
  refine x_Tr_dividesByZero hL ⟨fun c => ?_, fun c => ⟨fun c2 => ?_, fun c2 => ⟨fun c3 => ?_, fun c3 => ?_⟩⟩⟩
  · rw [if_neg (fun q => c q.2)] at h; exact h
  · rw [if_pos ⟨Or.inl c2, Classical.not_not.mp c⟩] at h; exact h
  · rw [if_neg (fun q => q.1.elim c2 c3)] at h; exact h
  · rw [if_pos ⟨Or.inr (Classical.not_not.mp c3), Classical.not_not.mp c⟩] at h; exact h
/-- z differs from t4 at the machine's top alone; its words are t's -/
def Zs (ad : Nat → Nat) (t t4 z : gSt) : Prop := gFr ad mcP t4 z ∧ (∀ k, k ≠ 11 → z.2.1 (ad 93) k = t4.2.1 (ad 93) k) ∧ z.2.2.2 (ad 93) 6 = t4.2.2.2 (ad 93) 6 ∧ (∀ j, z.2.1 (ad 94) j = t4.2.1 (ad 94) j) ∧ ∀ x, z.2.1 (ad 95) x = t.2.1 (ad 95) x
theorem Zs.pop {t4 z u : gSt} {a : Nat} (h : Zs ad t t4 z) (e : u = g_si z (ad 93) 11 (nI a)) : Zs ad t t4 u ∧ u.2.1 (ad 93) 11 = nI a := by
  obtain ⟨h1, h2, h3, h4, h5⟩ := h
  refine ⟨⟨by rw [e]; exact h1.si rfl, fun k hk => by rw [e, g_rd_k hk]; exact h2 k hk, by rw [e]; exact h3, fun j => ?_, fun x => ?_⟩, by rw [e, g_rd_at]⟩
  · rw [e, g_rd_ne (h1.L.ne 94 93 (by decide) (by decide) (by decide))]; exact h4 j
  · rw [e, g_rd_ne (h1.L.ne 95 93 (by decide) (by decide) (by decide))]; exact h5 x
theorem Zs.push {t4 z u : gSt} {a : Nat} {v : Int32} (h : Zs ad t t4 z) (e : u = g_si (g_si z (ad 95) a v) (ad 93) 11 (nI (a + 1))) : gFr ad mcP t4 u ∧ (∀ k, k ≠ 9 → k ≠ 11 → u.2.1 (ad 93) k = t4.2.1 (ad 93) k) ∧ u.2.2.2 (ad 93) 6 = t4.2.2.2 (ad 93) 6 ∧ (∀ j, u.2.1 (ad 94) j = t4.2.1 (ad 94) j) ∧ u.2.1 (ad 93) 9 = t4.2.1 (ad 93) 9 ∧ u.2.1 (ad 93) 11 = nI (a + 1) ∧ ∀ x, u.2.1 (ad 95) x = if x = a then v else t.2.1 (ad 95) x := by
  obtain ⟨h1, h2, h3, h4, h5⟩ := h
  have n1 := h1.L.ne 93 95 (by decide) (by decide) (by decide)
  refine ⟨by rw [e]; exact (h1.si rfl).si rfl, fun k _ hk => by rw [e, g_rd_k hk, g_rd_ne n1]; exact h2 k hk, by rw [e]; exact h3, fun j => ?_, by rw [e, g_rd_k (by decide), g_rd_ne n1]; exact h2 9 (by decide), by rw [e, g_rd_at], fun x => ?_⟩
  · rw [e, g_rd_ne (h1.L.ne 94 93 (by decide) (by decide) (by decide)), g_rd_ne (h1.L.ne 94 95 (by decide) (by decide) (by decide))]; exact h4 j
  · rw [e, g_rd_ne n1.symm]
    by_cases hx : x = a
    · subst hx; rw [g_rd_at, if_pos rfl]
    · rw [g_rd_k hx, if_neg hx]; exact h5 x
theorem args_at {m : Nat → Int32} {o : Nat} {sk : List Int32} {P : Nat} (hs : stk m o sk) (hP : P ≤ sk.length) : ∀ (j : Nat) (v : Int32), ((sk.take P).reverse)[j]? = some v → m (o + (sk.length - P) + j) = v := by
  intro j v hj
  have hl : (sk.take P).length = P := by rw [List.length_take]; omega
  have hjP : j < P := by
    have := (List.getElem?_eq_some_iff.mp hj).1
    rw [List.length_reverse, hl] at this
    exact this
  rw [List.getElem?_reverse (by rw [hl]; exact hjP), hl, List.getElem?_take_of_lt (by omega)] at hj
  have := stk_at sk hs _ v hj
  rw [← this]
  congr 1
  omega
theorem nI_div {a b : Nat} (ha : a < 2 ^ 31) (hb : b < 2 ^ 31) : nI a / nI b = nI (a / b) := by
  have hd : a / b < 2 ^ 31 := Nat.lt_of_le_of_lt (Nat.div_le_self a b) ha
  refine Int32.toInt_inj.mp ?_
  rw [Int32.toInt_div, nI_toInt ha, nI_toInt hb, nI_toInt hd]
  show (Int.tdiv (a : Int) (b : Int)).bmod (2 ^ 32) = ((a / b : Nat) : Int)
  have e : Int.tdiv (a : Int) (b : Int) = ((a / b : Nat) : Int) := by rw [Int.tdiv_eq_ediv_of_nonneg (Int.natCast_nonneg a)]; rfl
  rw [e]
  generalize a / b = q at hd
  exact Int.bmod_eq_of_le_mul_two (by omega) (by omega)
theorem c_step (hp : isP p) (hm : mcOk A L H) (hal : al ≤ 20000) (hT : mTab t0 ad p L) {f pc : Nat} {sl sk : List Int32} {rest : List Frm} {ps : List Int32} {mo : Nat} (hR : RC t0 ad p L al st ((f, pc, sl, sk) :: rest, ps, mo) t) (hf : frOk L H 0 (f, pc, sl, sk)) (hw : ∀ y ∈ rest, frOk L H 1 y) (hb : bsz L ((f, pc, sl, sk) :: rest) ≤ al) (hps : ps.length ≤ 200) (hmo : mo ≤ al)
    (h0 : (mstep L al ((f, pc, sl, sk) :: rest, ps, mo)).1 = 0 → ∀ u, RC t0 ad p L al st (mstep L al ((f, pc, sl, sk) :: rest, ps, mo)).2.2 u → post (some (.int 0)) u)
    (h1 : ¬ (mstep L al ((f, pc, sl, sk) :: rest, ps, mo)).1 = 0 → ∀ u, Tld ad t0 st (mstep L al ((f, pc, sl, sk) :: rest, ps, mo)).2.1 ((f, pc, sl, sk) :: rest, ps, mo) u → post (some (.int (mstep L al ((f, pc, sl, sk) :: rest, ps, mo)).1)) u) : g_E cx (d + 5) i_Machine_step [.ref (ad 93)] t post := by
  have hpg := hp.ge
  have hpl := hp.lt
  obtain ⟨k, n, hq, hcs, -⟩ := mcase hm hal hf hw hb hps hmo
  have hR' := hR
  obtain ⟨r1, r2, r3, r4, r5, r6, r7, r8, r9, f', pc1, sl1, sk1, rest1, e, q1, q2, q3, q4⟩ := hR
  simp only [List.cons.injEq, Prod.mk.injEq] at e
  obtain ⟨⟨rfl, rfl, rfl, rfl⟩, rfl⟩ := e
  obtain ⟨o1, o2, o3, o4, o5⟩ := hf
  dsimp only at o1 o2 o3 o4 o5 r6 r7 r8
  have hTt := hT.fr hp r1
  obtain ⟨a1, a2, a3, s, a4, a5, a6⟩ := hTt f o1
  obtain ⟨g1, g2, g3⟩ := hm
  obtain ⟨p1, p2, p3, p4, p5, p6, p7, p8, p9, p10, p11⟩ := g3 f o1
  have hlen : c_len (p + 14) < 2 ^ 30 ∧ c_len (p + 15) = c_len (p + 14) := by rcases hp with rfl | rfl | rfl <;> decide
  have hbs : fsz L f + bsz L rest ≤ al := hb
  have hfs : fsz L f = 2 + fnS (fAt L f) + fnT (fAt L f) := rfl
  have hskT : sk.length ≤ fnT (fAt L f) := by
    have := (p11 pc _ hq).1
    omega
  have hfit : ∀ x ∈ rest, fitF L x := fun x hx => by
    obtain ⟨w1, w2, w3, w4, w5⟩ := hw x hx
    refine ⟨w5, ?_⟩
    obtain ⟨qq, hqq⟩ : ∃ q, (fnC (fAt L x.1))[x.2.1]? = some q := ⟨_, List.getElem?_eq_getElem w2⟩
    have := ((g3 x.1 w1).2.2.2.2.2.2.2.2.2.2 x.2.1 qq hqq).1
    omega
  have ew := a6 pc (k, n) hq
  refine x_Machine_step hp r1.L r2 ?_
  rw [q1, nI_clamp (by omega), a4, q2, nI_add]
  refine ⟨vp_in_nI (by omega) (by omega), fun x1 e1 => ?_⟩
  subst e1
  rw [nI_clamp (by omega), ew.2, ew.1, nI_1]
  refine ⟨vp_in_nI (by omega) (by omega), fun x2 e2 => ⟨vp_in_nI (by omega) (by omega), fun x3 e3 t4 e4 => ?_⟩⟩
  dsimp only at e2 e3
  subst e2 e3
  have L4 : Lay t4 ad := by rw [e4]; exact r1.L.si
  have F4 : gFr ad mcP t t4 := by rw [e4]; exact (gFr.rf r1.L).si rfl
  have m4 : ∀ c k, c < 199 → c ≠ 93 → t4.2.1 (ad c) k = t.2.1 (ad c) k := fun c k hc hn => by rw [e4, g_rd_ne (r1.L.ne c 93 hc (by decide) hn)]
  have f4 : ∀ k, k ≠ 9 → t4.2.1 (ad 93) k = t.2.1 (ad 93) k := fun k hk => by rw [e4, g_rd_k hk]
  have n4 : t4.2.1 (ad 93) 9 = nI (pc + 1) := by rw [e4, g_rd_at]
  have t11 : t4.2.1 (ad 93) 11 = nI (bsz L rest + 2 + fnS (fAt L f) + sk.length) := by rw [f4 11 (by decide), q4]
  have mem4 : ∀ a, t4.2.1 (ad 95) a = t.2.1 (ad 95) a := fun a => m4 95 a (by decide) (by decide)
  -- a step in the frame whose last state u differs from t4 at 93.11 and in one word
  have fin : ∀ (u : gSt) (a : Nat) (v : Int32) (pc' : Nat) (sl' sk' : List Int32), gFr ad mcP t4 u → (∀ k, k ≠ 9 → k ≠ 11 → u.2.1 (ad 93) k = t4.2.1 (ad 93) k) → u.2.2.2 (ad 93) 6 = t4.2.2.2 (ad 93) 6 → (∀ j, u.2.1 (ad 94) j = t4.2.1 (ad 94) j) → u.2.1 (ad 93) 9 = nI pc' → u.2.1 (ad 93) 11 = nI (bsz L rest + 2 + fnS (fAt L f) + sk'.length) → bsz L rest + 2 ≤ a → (∀ x, u.2.1 (ad 95) x = if x = a then v else t.2.1 (ad 95) x) → slt (u.2.1 (ad 95)) (bsz L rest + 2) sl' → stk (u.2.1 (ad 95)) (bsz L rest + 2 + fnS (fAt L f)) sk' → mstep L al ((f, pc, sl, sk) :: rest, ps, mo) = (0, 0, (f, pc', sl', sk') :: rest, ps, mo) → post (some (.int 0)) u := by
    intro u a v pc' sl' sk' hF h93 hr h94 h9 h11 ha hmem hsl hsk e
    refine h0 (by rw [e]) u ?_
    rw [e]
    refine hR'.loc hfit (F4.tr hF) (fun k h4 h9 h11 => by rw [h93 k h9 h11, f4 k h9]) (by rw [hr, e4]; rfl) (by rw [h93 4 (by decide) (by decide), f4 4 (by decide)]; exact r7) (fun j v hj => by rw [h94, m4 94 j (by decide) (by decide)]; exact r8 j v hj) h9 h11 (fun x hx => by rw [hmem, if_neg (by omega)]) hsl hsk
  have Z4 : Zs ad t t4 t4 := ⟨gFr.rf L4, fun _ _ => rfl, rfl, fun _ => rfl, mem4⟩
  have pfin : ∀ (z u : gSt) (a : Nat) (v : Int32) (sk0 : List Int32), Zs ad t t4 z → a = bsz L rest + 2 + fnS (fAt L f) + sk0.length → stk (t.2.1 (ad 95)) (bsz L rest + 2 + fnS (fAt L f)) sk0 → u = g_si (g_si z (ad 95) a v) (ad 93) 11 (nI (a + 1)) → mstep L al ((f, pc, sl, sk) :: rest, ps, mo) = (0, 0, (f, pc + 1, sl, v :: sk0) :: rest, ps, mo) → post (some (.int 0)) u := by
    intro z u a v sk0 hz ha hs eu e
    obtain ⟨w1, w2, w3, w4, w5, w6, w7⟩ := hz.push eu
    refine fin u a v (pc + 1) sl (v :: sk0) w1 w2 w3 w4 (by rw [w5, n4]) (by rw [w6, ha]; rfl) (by omega) w7 (fun j x hj => ?_) (stk_push (by rw [← ha]; exact w7) hs) e
    have := (List.getElem?_eq_some_iff.mp hj).1
    rw [w7, if_neg (by omega)]
    exact r9.1 j x hj
  have zfin : ∀ (u : gSt) (pc' : Nat) (sl' sk' : List Int32), gFr ad mcP t4 u → (∀ k, k ≠ 9 → k ≠ 11 → u.2.1 (ad 93) k = t4.2.1 (ad 93) k) → u.2.2.2 (ad 93) 6 = t4.2.2.2 (ad 93) 6 → (∀ j, u.2.1 (ad 94) j = t4.2.1 (ad 94) j) → u.2.1 (ad 93) 9 = nI pc' → u.2.1 (ad 93) 11 = nI (bsz L rest + 2 + fnS (fAt L f) + sk'.length) → (∀ x, u.2.1 (ad 95) x = t.2.1 (ad 95) x) → stk (t.2.1 (ad 95)) (bsz L rest + 2 + fnS (fAt L f)) sk' → mstep L al ((f, pc, sl, sk) :: rest, ps, mo) = (0, 0, (f, pc', sl, sk') :: rest, ps, mo) → post (some (.int 0)) u := by
    intro u pc' sl' sk' w1 w2 w3 w4 w5 w6 w7 hs e
    refine fin u (bsz L rest + 2) (t.2.1 (ad 95) (bsz L rest + 2)) pc' sl sk' w1 w2 w3 w4 w5 w6 (Nat.le_refl _) (fun x => ?_) (fun j x hj => ?_) (stk_cg _ (fun a _ _ => w7 a) hs) e
    · rw [w7]
      split
      · rename_i hx; rw [hx]
      · rfl
    · rw [w7]; exact r9.1 j x hj
  have told : ∀ (u : gSt) (h o : Int32), ¬ h = 0 → mstep L al ((f, pc, sl, sk) :: rest, ps, mo) = (h, o, ((f, pc, sl, sk) :: rest, ps, mo)) → gFr ad mcP t u → u.2.1 (ad 93) 1 = o → u.2.1 (ad 93) 2 = t.2.1 (ad 93) 2 → u.2.1 (ad 93) 3 = t.2.1 (ad 93) 3 → u.2.1 (ad 93) 4 = t.2.1 (ad 93) 4 → (∀ j, u.2.1 (ad 94) j = t.2.1 (ad 94) j) → post (some (.int h)) u := by
    intro u h o hh e w1 w2 w3 w4 w5 w6
    have h1 := h1 (by rw [e]; exact hh) u
    rw [e] at h1
    exact h1 ⟨r1.tr w1, w2, by rw [w3]; exact r5, by rw [w4]; exact r6, by rw [w5]; exact r7, fun j v hj => by rw [w6]; exact r8 j v hj⟩
  rcases hcs with ⟨rfl, d2, d3⟩ | ⟨rfl, d2, s', v, rfl, d3, d4⟩ | ⟨j, b, a, r, j1, j2, rfl, rfl, d3⟩ | ⟨v, r, rfl, rfl, d3⟩ | ⟨v, r, rfl, rfl, d3⟩ | ⟨v, r, rfl, rfl, d3⟩ | ⟨v, r, s', rfl, rfl, rfl, d1, d2, d3⟩ | ⟨v, r, e, rfl, rfl, d1, rfl, d3⟩ | ⟨e, rfl, rfl, d1, d3⟩ | ⟨g, rfl, rfl, d1, d2, d3⟩ | ⟨v, r, rfl, rfl, d3⟩ | ⟨g, d0, d1, d2, d3⟩
  · -- CONST
    refine ⟨fun c => ?_, fun c => ?_, fun c => ?_, fun c => ?_, fun c => ?_, fun c => ?_, fun c => ?_, fun c => ?_, fun c => ?_, fun c => ?_, fun c => ?_, fun c => ?_, fun c => ?_⟩ <;> first | exact absurd c (by decide) | skip
    refine x_Machine_step_140 L4 (m_mpush L4 t11 (by omega) (fun u eu => ⟨rfl, by rw [eu]; exact L4.si.si, ?_⟩))
    exact pfin t4 u _ _ sk Z4 rfl r9.2.1 eu d3
  · -- LOAD
    refine ⟨fun c => ?_, fun c => ?_, fun c => ?_, fun c => ?_, fun c => ?_, fun c => ?_, fun c => ?_, fun c => ?_, fun c => ?_, fun c => ?_, fun c => ?_, fun c => ?_, fun c => ?_⟩ <;> first | exact absurd c (by decide) | skip
    have hsl : s' < sl.length := (List.getElem?_eq_some_iff.mp d3).1
    refine x_Machine_step_147 L4 ?_
    rw [f4 10 (by decide), q3, show (2 : Int32) = nI 2 from rfl, nI_add, nI_add, nI_clamp (by omega), mem4, r9.1 s' v d3]
    refine ⟨vp_in_nI (by omega) (by omega), m_mpush L4 t11 (by omega) (fun u eu => ⟨rfl, by rw [eu]; exact L4.si.si, ?_⟩)⟩
    exact pfin t4 u _ _ sk Z4 rfl r9.2.1 eu d4
  · -- two operands
    have o3 : r.length + 1 + 1 = (H f pc).1 := o3
    have hT2 : r.length + 1 + 1 ≤ fnT (fAt L f) := hskT
    have key : g_W cx (g_E cx (d + 4)) mt_Machine_step post (262, [some (.ref (ad 93)), some (.int (nI (s + pc))), some (.int x2), some (.int (nI j))], [], t4, 0, 0) := by
      refine x_Machine_step_262 L4 ?_
      refine x_Machine_combine L4 ?_
      refine m_mpop (v := b) (a := bsz L rest + 2 + fnS (fAt L f) + (r.length + 1)) L4 (by rw [t11]; rfl) (by omega) (by rw [mem4]; exact r9.2.1.1) (fun u1 e1 => ⟨_, rfl, by rw [e1]; exact L4.si, ?_⟩)
      obtain ⟨z1, y1⟩ := Z4.pop e1
      refine m_mpop (v := a) (a := bsz L rest + 2 + fnS (fAt L f) + r.length) z1.1.L y1 (by omega) (by rw [z1.2.2.2.2]; exact r9.2.1.2.1) (fun u2 e2 => ⟨_, rfl, by rw [e2]; exact z1.1.L.si, ?_⟩)
      obtain ⟨z2, y2⟩ := z1.pop e2
      refine divides_ok z2.1.L ⟨_, rfl, z2.1.L, ?_⟩
      by_cases hz : (nI j = 6 ∨ nI j = 7) ∧ b = 0
      · rw [if_pos hz] at d3 ⊢
        refine ⟨fun q => absurd q (by decide), fun _ => ⟨_, rfl, z2.1.L, ?_⟩⟩
        refine told u2 3 0 (by decide) d3 (F4.tr z2.1) ?_ ?_ ?_ ?_ (fun j => by rw [z2.2.2.2.1, m4 94 j (by decide) (by decide)])
        · rw [z2.2.1 1 (by decide), f4 1 (by decide)]; exact r4
        · rw [z2.2.1 2 (by decide), f4 2 (by decide)]
        · rw [z2.2.1 3 (by decide), f4 3 (by decide)]
        · rw [z2.2.1 4 (by decide), f4 4 (by decide)]
      · rw [if_neg hz] at d3 ⊢
        refine ⟨fun _ => ?_, fun q => absurd rfl q⟩
        refine operate_ok j1 j2 hz z2.1.L ⟨_, rfl, z2.1.L, ?_⟩
        refine m_mpush z2.1.L y2 (by omega) (fun u eu => ⟨rfl, by rw [eu]; exact z2.1.L.si.si, _, rfl, by rw [eu]; exact z2.1.L.si.si, ?_⟩)
        exact pfin u2 u _ _ r z2 rfl r9.2.1.2.2 eu d3
    have hcj : j = 3 ∨ j = 4 ∨ j = 5 ∨ j = 6 ∨ j = 7 ∨ j = 8 ∨ j = 9 := by omega
    clear d3
    rcases hcj with rfl | rfl | rfl | rfl | rfl | rfl | rfl <;> (refine ⟨fun c => ?_, fun c => ?_, fun c => ?_, fun c => ?_, fun c => ?_, fun c => ?_, fun c => ?_, fun c => ?_, fun c => ?_, fun c => ?_, fun c => ?_, fun c => ?_, fun c => ?_⟩ <;> first | exact absurd c (by decide) | skip) <;> exact key
  · -- NEG
    refine ⟨fun c => ?_, fun c => ?_, fun c => ?_, fun c => ?_, fun c => ?_, fun c => ?_, fun c => ?_, fun c => ?_, fun c => ?_, fun c => ?_, fun c => ?_, fun c => ?_, fun c => ?_⟩ <;> first | exact absurd c (by decide) | skip
    have hT2 : r.length + 1 ≤ fnT (fAt L f) := hskT
    refine x_Machine_step_166 L4 ?_
    refine m_mpop (v := v) (a := bsz L rest + 2 + fnS (fAt L f) + r.length) L4 (by rw [t11]; rfl) (by omega) (by rw [mem4]; exact r9.2.1.1) (fun u1 e1 => ⟨_, rfl, by rw [e1]; exact L4.si, ?_⟩)
    obtain ⟨z1, y1⟩ := Z4.pop e1
    refine m_mpush z1.1.L y1 (by omega) (fun u eu => ⟨rfl, by rw [eu]; exact z1.1.L.si.si, ?_⟩)
    exact pfin u1 u _ _ r z1 rfl r9.2.1.2 eu d3
  · -- PUT
    refine ⟨fun c => ?_, fun c => ?_, fun c => ?_, fun c => ?_, fun c => ?_, fun c => ?_, fun c => ?_, fun c => ?_, fun c => ?_, fun c => ?_, fun c => ?_, fun c => ?_, fun c => ?_⟩ <;> first | exact absurd c (by decide) | skip
    have hT2 : r.length + 1 ≤ fnT (fAt L f) := hskT
    have p4' : t4.2.1 (ad 93) 4 = nI ps.length := by rw [f4 4 (by decide)]; exact r7
    refine x_Machine_step_177 L4 (x_Machine_putTop L4 ?_)
    rw [p4', show (200 : Int32) = nI 200 from rfl, nI_ltI (by omega) (by omega)]
    refine ⟨fun c => ?_, fun c => ?_⟩
    · rw [if_neg (by omega)] at d3
      refine m_mpop (v := v) (a := bsz L rest + 2 + fnS (fAt L f) + r.length) L4 (by rw [t11]; rfl) (by omega) (by rw [mem4]; exact r9.2.1.1) (fun u1 e1 => ⟨_, rfl, by rw [e1]; exact L4.si, ?_⟩)
      obtain ⟨z1, y1⟩ := Z4.pop e1
      have u4 : u1.2.1 (ad 93) 4 = nI ps.length := by rw [z1.2.1 4 (by decide)]; exact p4'
      rw [u4, nI_clamp (by omega)]
      refine ⟨vp_in_nI c (by omega), fun t3 e3 t5 e5 => ?_⟩
      have n94 := z1.1.L.ne 93 94 (by decide) (by decide) (by decide)
      have n9495 := z1.1.L.ne 95 94 (by decide) (by decide) (by decide)
      have n9395 := z1.1.L.ne 93 95 (by decide) (by decide) (by decide)
      rw [e3, g_rd_ne n94, u4, nI_1] at e5
      have L5 : Lay t5 ad := by rw [e5]; exact z1.1.L.si.si
      have t511 : t5.2.1 (ad 93) 11 = nI (bsz L rest + 2 + fnS (fAt L f) + r.length) := by rw [e5, g_rd_k (by decide), g_rd_ne n94]; exact y1
      refine m_mpush L5 t511 (by omega) (fun u eu => ⟨rfl, by rw [eu]; exact L5.si.si, _, rfl, by rw [eu]; exact L5.si.si, ?_⟩)
      refine h0 (by rw [d3]) u ?_
      rw [d3]
      have hmem : ∀ x, u.2.1 (ad 95) x = if x = bsz L rest + 2 + fnS (fAt L f) + r.length then v else t.2.1 (ad 95) x := fun x => by
        rw [eu, g_rd_ne n9395.symm]
        by_cases hx : x = bsz L rest + 2 + fnS (fAt L f) + r.length
        · rw [hx, g_rd_at, if_pos rfl]
        · rw [g_rd_k hx, if_neg hx, e5, g_rd_ne n9395.symm, g_rd_ne n9495]
          exact z1.2.2.2.2 x
      refine hR'.loc hfit ?_ (fun k h4 h9 h11 => ?_) ?_ ?_ (fun j x hj => ?_) ?_ ?_ (fun x hx => by rw [hmem, if_neg (by omega)]) (fun j x hj => ?_) (stk_push hmem r9.2.1.2)
      · rw [eu, e5]
        exact (F4.tr z1.1).tr (((((gFr.rf z1.1.L).si rfl).si rfl).si rfl).si rfl)
      · rw [eu, g_rd_k h11, g_rd_ne n9395, e5, g_rd_k h4, g_rd_ne n94, z1.2.1 k h11, f4 k h9]
      · rw [eu, e5]
        show u1.2.2.2 (ad 93) 6 = _
        rw [z1.2.2.1, e4]; rfl
      · rw [eu, g_rd_k (by decide), g_rd_ne n9395, e5, g_rd_at, List.length_append]; rfl
      · rw [eu, g_rd_ne n94.symm, g_rd_ne n9495.symm, e5, g_rd_ne n94.symm]
        by_cases ej : j = ps.length
        · subst ej
          rw [g_rd_at]
          rw [List.getElem?_append_right (Nat.le_refl _), Nat.sub_self] at hj
          simpa using hj
        · rw [g_rd_k ej, z1.2.2.2.1, m4 94 j (by decide) (by decide)]
          have hjl : j < ps.length := by
            have := (List.getElem?_eq_some_iff.mp hj).1
            simp at this
            omega
          rw [List.getElem?_append_left hjl] at hj
          exact r8 j x hj
      · rw [eu, g_rd_k (by decide), g_rd_ne n9395, e5, g_rd_k (by decide), g_rd_ne n94, z1.2.1 9 (by decide), n4]
      · rw [eu, g_rd_at]; rfl
      · have := (List.getElem?_eq_some_iff.mp hj).1
        rw [hmem, if_neg (by omega)]
        exact r9.1 j x hj
    · rw [if_pos (by omega)] at d3
      exact ⟨_, rfl, L4, told t4 5 0 (by decide) d3 F4 (by rw [f4 1 (by decide)]; exact r4) (f4 2 (by decide)) (f4 3 (by decide)) (f4 4 (by decide)) (fun j => m4 94 j (by decide) (by decide))⟩
  · -- DROP
    refine ⟨fun c => ?_, fun c => ?_, fun c => ?_, fun c => ?_, fun c => ?_, fun c => ?_, fun c => ?_, fun c => ?_, fun c => ?_, fun c => ?_, fun c => ?_, fun c => ?_, fun c => ?_⟩ <;> first | exact absurd c (by decide) | skip
    have hT2 : r.length + 1 ≤ fnT (fAt L f) := hskT
    refine x_Machine_step_182 L4 ?_
    refine m_mpop (v := v) (a := bsz L rest + 2 + fnS (fAt L f) + r.length) L4 (by rw [t11]; rfl) (by omega) (by rw [mem4]; exact r9.2.1.1) (fun u1 e1 => ⟨_, rfl, by rw [e1]; exact L4.si, ?_⟩)
    obtain ⟨z1, y1⟩ := Z4.pop e1
    exact zfin u1 (pc + 1) sl r z1.1 (fun k _ h => z1.2.1 k h) z1.2.2.1 z1.2.2.2.1 (by rw [z1.2.1 9 (by decide), n4]) y1 z1.2.2.2.2 r9.2.1.2 d3
  · -- STORE
    refine ⟨fun c => ?_, fun c => ?_, fun c => ?_, fun c => ?_, fun c => ?_, fun c => ?_, fun c => ?_, fun c => ?_, fun c => ?_, fun c => ?_, fun c => ?_, fun c => ?_, fun c => ?_⟩ <;> first | exact absurd c (by decide) | skip
    have hT2 : r.length + 1 ≤ fnT (fAt L f) := hskT
    refine x_Machine_step_189 L4 ?_
    refine m_mpop (v := v) (a := bsz L rest + 2 + fnS (fAt L f) + r.length) L4 (by rw [t11]; rfl) (by omega) (by rw [mem4]; exact r9.2.1.1) (fun u1 e1 => ⟨_, rfl, by rw [e1]; exact L4.si, ?_⟩)
    obtain ⟨z1, y1⟩ := Z4.pop e1
    rw [f4 10 (by decide), q3, show (2 : Int32) = nI 2 from rfl, nI_add, nI_add, nI_clamp (by omega)]
    refine ⟨vp_in_nI (by omega) (by omega), fun u eu => ?_⟩
    have n9395 := z1.1.L.ne 93 95 (by decide) (by decide) (by decide)
    have hmem : ∀ x, u.2.1 (ad 95) x = if x = bsz L rest + 2 + s' then v else t.2.1 (ad 95) x := fun x => by
      rw [eu]
      by_cases hx : x = bsz L rest + 2 + s'
      · rw [hx, g_rd_at, if_pos rfl]
      · rw [g_rd_k hx, if_neg hx]; exact z1.2.2.2.2 x
    refine fin u _ v (pc + 1) (setx sl s' v) r (by rw [eu]; exact z1.1.si rfl) (fun k h9 h11 => by rw [eu, g_rd_ne n9395]; exact z1.2.1 k h11) (by rw [eu]; exact z1.2.2.1) (fun j => by rw [eu, g_rd_ne (z1.1.L.ne 94 95 (by decide) (by decide) (by decide))]; exact z1.2.2.2.1 j) (by rw [eu, g_rd_ne n9395, z1.2.1 9 (by decide), n4]) (by rw [eu, g_rd_ne n9395]; exact y1) (by omega) hmem (fun j x hj => ?_) (stk_cg r (fun a h1 h2 => by rw [hmem, if_neg (by omega)]) r9.2.1.2) d3
    rw [hmem]
    unfold setx at hj
    by_cases hj2 : j = s'
    · subst hj2
      rw [if_pos rfl]
      split at hj
      · rename_i hlt
        rw [List.getElem?_set_self hlt] at hj
        exact Option.some.inj hj
      · rename_i hlt
        have : j = sl.length := by omega
        subst this
        rw [List.getElem?_append_right (Nat.le_refl _), Nat.sub_self] at hj
        simpa using hj
    · rw [if_neg (by omega)]
      split at hj
      · rw [List.getElem?_set_ne (by omega)] at hj
        exact r9.1 j x hj
      · rename_i hlt
        have hjl : j < sl.length := by
          have := (List.getElem?_eq_some_iff.mp hj).1
          simp at this
          omega
        rw [List.getElem?_append_left hjl] at hj
        exact r9.1 j x hj
  · -- ELSE
    refine ⟨fun c => ?_, fun c => ?_, fun c => ?_, fun c => ?_, fun c => ?_, fun c => ?_, fun c => ?_, fun c => ?_, fun c => ?_, fun c => ?_, fun c => ?_, fun c => ?_, fun c => ?_⟩ <;> first | exact absurd c (by decide) | skip
    have hT2 : r.length + 1 ≤ fnT (fAt L f) := hskT
    refine x_Machine_step_208 L4 ?_
    refine m_mpop (v := v) (a := bsz L rest + 2 + fnS (fAt L f) + r.length) L4 (by rw [t11]; rfl) (by omega) (by rw [mem4]; exact r9.2.1.1) (fun u1 e1 => ⟨_, rfl, by rw [e1]; exact L4.si, ?_⟩)
    obtain ⟨z1, y1⟩ := Z4.pop e1
    have z9 : ∀ (u : gSt) (x : Nat), u = g_si u1 (ad 93) 9 (nI x) → mstep L al ((f, pc, sl, v :: r) :: rest, ps, mo) = (0, 0, (f, x, sl, r) :: rest, ps, mo) → post (some (.int 0)) u := by
      intro u x eu ed
      refine zfin u x sl r (by rw [eu]; exact z1.1.si rfl) (fun k h9 h => by rw [eu, g_rd_k h9]; exact z1.2.1 k h) (by rw [eu]; exact z1.2.2.1) (fun j => by rw [eu, g_rd_ne (z1.1.L.ne 94 93 (by decide) (by decide) (by decide))]; exact z1.2.2.2.1 j) (by rw [eu, g_rd_at]) (by rw [eu, g_rd_k (by decide)]; exact y1) (fun y => by rw [eu, g_rd_ne (z1.1.L.ne 95 93 (by decide) (by decide) (by decide))]; exact z1.2.2.2.2 y) r9.2.1.2 ed
    refine ⟨fun c t3 e3 => ?_, fun c t3 e3 => ?_⟩
    · rw [z1.2.1 9 (by decide), n4] at e3
      exact z9 t3 _ e3 (by rw [d3, if_neg c])
    · exact z9 t3 _ e3 (by rw [d3, if_pos (Classical.not_not.mp c)])
  · -- JUMP
    refine ⟨fun c => ?_, fun c => ?_, fun c => ?_, fun c => ?_, fun c => ?_, fun c => ?_, fun c => ?_, fun c => ?_, fun c => ?_, fun c => ?_, fun c => ?_, fun c => ?_, fun c => ?_⟩ <;> first | exact absurd c (by decide) | skip
    refine x_Machine_step_229 L4 (fun u eu => ?_)
    exact zfin u e sl sk (by rw [eu]; exact (gFr.rf L4).si rfl) (fun k h9 h => by rw [eu, g_rd_k h9]) (by rw [eu]; rfl) (fun j => by rw [eu, g_rd_ne (L4.ne 94 93 (by decide) (by decide) (by decide))]) (by rw [eu, g_rd_at]) (by rw [eu, g_rd_k (by decide)]; exact t11) (fun y => by rw [eu, g_rd_ne (L4.ne 95 93 (by decide) (by decide) (by decide))]; exact mem4 y) r9.2.1 d3
  · -- CALL
    refine ⟨fun c => ?_, fun c => ?_, fun c => ?_, fun c => ?_, fun c => ?_, fun c => ?_, fun c => ?_, fun c => ?_, fun c => ?_, fun c => ?_, fun c => ?_, fun c => ?_, fun c => ?_⟩ <;> first | exact absurd c (by decide) | skip
    have hg24 : g < 24 := by omega
    obtain ⟨w1, w2, w3, w4, w5, w6, w7, w8, w9, w10, w11⟩ := g3 g d1
    have T4 := hTt.fr hp F4
    have r64 : t4.2.2.2 (ad 93) 6 = some (ad p) := by rw [e4]; exact r2
    have hfg : fsz L g = 2 + fnS (fAt L g) + fnT (fAt L g) := rfl
    refine x_Machine_step_236 L4 (x_Machine_enterCalled hp L4 r64 ?_)
    rw [f4 8 (by decide), q1]
    refine m_frame hp L4 T4 g2 o1 ⟨_, rfl, L4, fun x3 e3 => ?_⟩
    rw [f4 10 (by decide), q3, nI_add] at e3
    subst e3
    refine m_fits hp L4 r64 T4 g2 d1 (by rw [f4 7 (by decide)]; exact r3) hal (by omega) ⟨_, rfl, L4, r64, ?_⟩
    by_cases hz : al < bsz L rest + fsz L f + fsz L g
    · rw [if_pos hz] at d3 ⊢
      refine ⟨fun q => absurd rfl q, fun _ => ⟨_, rfl, L4, ?_⟩⟩
      exact told t4 2 0 (by decide) d3 F4 (by rw [f4 1 (by decide)]; exact r4) (f4 2 (by decide)) (f4 3 (by decide)) (f4 4 (by decide)) (fun j => m4 94 j (by decide) (by decide))
    · rw [if_neg hz] at d3 ⊢
      refine ⟨fun _ => ⟨vp_in_nI (by omega) (by omega), fun t6 e6 => ?_⟩, fun q => absurd (by decide) q⟩
      rw [nI_clamp (n := g) (by omega), t11, (T4 g d1).1, nI_sub (by omega)] at e6
      obtain ⟨z6, y6⟩ := Z4.pop e6
      have P6 : t6.2.1 (ad (p + 2)) g = nI (fnP (fAt L g)) := by rw [e6, g_rd_ne (L4.ne _ _ (by omega) (by decide) (by omega))]; exact (T4 g d1).1
      rw [nI_clamp (n := g) (by omega), P6, y6, show (2 : Int32) = nI 2 from rfl, nI_add, nI_clamp (n := fnP (fAt L g)) (by omega), nI_clamp (n := bsz L rest + fsz L f + 2) (by omega), nI_clamp (n := bsz L rest + 2 + fnS (fAt L f) + sk.length - fnP (fAt L g)) (by omega)]
      refine ⟨vp_in_nI (by omega) (by omega), ⟨nI_pos (by omega), nI_pos (by omega), nI_pos (by omega), by omega, by omega⟩, fun t7 e7 => ?_⟩
      have F7 : gFr ad mcP t6 t7 := by rw [e7]; exact (gFr.rf z6.1.L).row (fun k hk => by cases hk)
      have n9395 := z6.1.L.ne 93 95 (by decide) (by decide) (by decide)
      have f7 : ∀ c k, c ≠ 95 → c < 199 → t7.2.1 (ad c) k = t6.2.1 (ad c) k := fun c k hc hl => by rw [e7, g_rdw, if_neg (z6.1.L.ne c 95 hl (by decide) hc)]
      have c7 : t7.2.1 (ad 93) 8 = nI f := by rw [f7 93 8 (by decide) (by decide), z6.2.1 8 (by decide), f4 8 (by decide), q1]
      have a7 : t7.2.1 (ad 93) 9 = nI (pc + 1) := by rw [f7 93 9 (by decide) (by decide), z6.2.1 9 (by decide), n4]
      rw [c7, a7, show (1024 : Int32) = nI 1024 from rfl, nI_mul, nI_add, nI_clamp (n := bsz L rest + fsz L f) (by omega)]
      refine ⟨vp_in_nI (by omega) (by omega), fun t8 e8 => ?_⟩
      have h118 : t8.2.1 (ad 93) 11 = nI (bsz L rest + 2 + fnS (fAt L f) + sk.length - fnP (fAt L g)) := by rw [e8, g_rd_ne (F7.L.ne 93 95 (by decide) (by decide) (by decide)), f7 93 11 (by decide) (by decide), y6]
      rw [h118, nI_1, nI_clamp (n := bsz L rest + fsz L f + 1) (by omega)]
      refine ⟨vp_in_nI (by omega) (by omega), fun t9 e9 => ?_⟩
      have F9 : gFr ad mcP t6 t9 := by rw [e9, e8]; exact (F7.si rfl).si rfl
      have f9 : ∀ c k, c ≠ 95 → c < 199 → t9.2.1 (ad c) k = t6.2.1 (ad c) k := fun c k hc hl => by rw [e9, g_rd_ne (F7.L.ne c 95 hl (by decide) hc), e8, g_rd_ne (F7.L.ne c 95 hl (by decide) hc), f7 c k hc hl]
      have r69 : t9.2.2.2 (ad 93) 6 = some (ad p) := by rw [e9, e8, e7]; show t6.2.2.2 (ad 93) 6 = _; rw [z6.2.2.1]; exact r64
      have hmem : ∀ x, t9.2.1 (ad 95) x = if x = bsz L rest + fsz L f + 1 then nI (bsz L rest + 2 + fnS (fAt L f) + sk.length - fnP (fAt L g)) else if x = bsz L rest + fsz L f then nI (f * 1024 + (pc + 1)) else if bsz L rest + fsz L f + 2 ≤ x ∧ x < bsz L rest + fsz L f + 2 + fnP (fAt L g) then t.2.1 (ad 95) (bsz L rest + 2 + fnS (fAt L f) + sk.length - fnP (fAt L g) + (x - (bsz L rest + fsz L f + 2))) else t.2.1 (ad 95) x := fun x => by
        rw [e9]
        by_cases h1 : x = bsz L rest + fsz L f + 1
        · rw [h1, g_rd_at, if_pos rfl]
        · rw [g_rd_k h1, if_neg h1, e8]
          by_cases h2 : x = bsz L rest + fsz L f
          · rw [h2, g_rd_at, if_pos rfl]
          · rw [g_rd_k h2, if_neg h2, e7, g_rdw, if_pos rfl]
            unfold va_cpy
            split
            · rw [z6.2.2.2.2]
            · rw [z6.2.2.2.2]
      refine m_enterFrame hp F9.L r69 ((T4.fr hp z6.1).fr hp F9) g2 d1 (mo := mo) (by rw [f9 93 3 (by decide) (by decide), z6.2.1 3 (by decide), f4 3 (by decide)]; exact r6) (by omega) (by omega) (fun u Fu u93 u6 u94 u95 v3 v8 v9 v10 v11 => ⟨rfl, Fu.L, _, rfl, Fu.L, ?_⟩)
      refine h0 (by rw [d3]) u ?_
      rw [d3]
      have k93 : ∀ k, k ≠ 3 → k ≠ 8 → k ≠ 9 → k ≠ 10 → k ≠ 11 → u.2.1 (ad 93) k = t.2.1 (ad 93) k := fun k h3 h8 h9 h10 h11 => by rw [u93 k h3 h8 h9 h10 h11, f9 93 k (by decide) (by decide), z6.2.1 k h11, f4 k h9]
      refine ⟨(r1.tr F4).tr ((z6.1.tr F9).tr Fu), u6, (k93 7 (by decide) (by decide) (by decide) (by decide) (by decide)).trans r3, (k93 1 (by decide) (by decide) (by decide) (by decide) (by decide)).trans r4, (k93 2 (by decide) (by decide) (by decide) (by decide) (by decide)).trans r5, v3, (k93 4 (by decide) (by decide) (by decide) (by decide) (by decide)).trans r7, fun j x hj => ?_, ⟨fun j x hj => ?_, trivial, ⟨?_, ?_⟩, ?_⟩, g, 0, _, [], _, rfl, v8, v9, ?_, ?_⟩
      · rw [u94, f9 94 j (by decide) (by decide), z6.2.2.2.1, m4 94 j (by decide) (by decide)]; exact r8 j x hj
      · have hjl := (List.getElem?_eq_some_iff.mp hj).1
        dsimp only at hjl hj
        rw [List.length_reverse, List.length_take] at hjl
        have ea := args_at r9.2.1 d2 j x hj
        dsimp only at ea
        rw [u95, show bsz L ((f, pc + 1, sl, sk.drop (fnP (fAt L g))) :: rest) = bsz L rest + fsz L f from Nat.add_comm _ _, hmem, if_neg (by omega), if_neg (by omega), if_pos (by omega)]
        refine Eq.trans (congrArg (t.2.1 (ad 95)) ?_) ea
        clear ea hmem u95
        omega
      · rw [u95, show bsz L ((f, pc + 1, sl, sk.drop (fnP (fAt L g))) :: rest) = bsz L rest + fsz L f from Nat.add_comm _ _, hmem, if_neg (by omega), if_pos rfl]
      · rw [u95, show bsz L ((f, pc + 1, sl, sk.drop (fnP (fAt L g))) :: rest) = bsz L rest + fsz L f from Nat.add_comm _ _, hmem, if_pos rfl, List.length_drop]
        congr 1
        omega
      · refine memF_cg ((f, pc + 1, sl, sk.drop (fnP (fAt L g))) :: rest) (fun y hy => ?_) (fun a ha => ?_) (m := t.2.1 (ad 95)) ⟨r9.1, stk_drop sk _ r9.2.1, r9.2.2.1, r9.2.2.2⟩
        · rcases List.mem_cons.mp hy with rfl | hy
          · exact ⟨o5, by dsimp only; rw [List.length_drop]; omega⟩
          · exact hfit y hy
        · rw [show bsz L ((f, pc + 1, sl, sk.drop (fnP (fAt L g))) :: rest) = bsz L rest + fsz L f from Nat.add_comm _ _] at ha
          rw [u95, hmem, if_neg (by omega), if_neg (by omega), if_neg (by omega)]
      · rw [v10]; congr 1; exact Nat.add_comm _ _
      · rw [v11]; congr 1; show _ = fsz L f + bsz L rest + 2 + fnS (fAt L g) + 0; omega
  · -- RETURN
    refine ⟨fun c => ?_, fun c => ?_, fun c => ?_, fun c => ?_, fun c => ?_, fun c => ?_, fun c => ?_, fun c => ?_, fun c => ?_, fun c => ?_, fun c => ?_, fun c => ?_, fun c => ?_⟩ <;> first | exact absurd c (by decide) | skip
    have hT2 : r.length + 1 ≤ fnT (fAt L f) := hskT
    refine x_Machine_step_242 L4 (x_Machine_goBack hp L4 ?_)
    refine m_mpop (v := v) (a := bsz L rest + 2 + fnS (fAt L f) + r.length) L4 (by rw [t11]; rfl) (by omega) (by rw [mem4]; exact r9.2.1.1) (fun u1 e1 => ⟨_, rfl, by rw [e1]; exact L4.si, ?_⟩)
    obtain ⟨z1, y1⟩ := Z4.pop e1
    have b1 : u1.2.1 (ad 93) 10 = nI (bsz L rest) := by rw [z1.2.1 10 (by decide), f4 10 (by decide), q3]
    have r61 : u1.2.2.2 (ad 93) 6 = some (ad p) := by rw [z1.2.2.1, e4]; exact r2
    rw [b1, nI_clamp (by omega), z1.2.2.2.2]
    refine ⟨r61, vp_in_nI (by omega) (by omega), fun x3 e3 => ?_⟩
    have hh := r9.2.2.1
    rcases d3 with ⟨rfl, d3⟩ | ⟨f2, pc2, sl2, sk2, rest2, rfl, d3⟩
    · have hh : t.2.1 (ad 95) 0 = -1 := hh
      have e3 : x3 = -1 := e3.trans hh
      refine ⟨fun q => absurd e3 q, fun _ u eu => ⟨_, rfl, by rw [eu]; exact z1.1.L.si, ?_⟩⟩
      refine told u 1 v (by decide) d3 ((F4.tr z1.1).tr (by rw [eu]; exact (gFr.rf z1.1.L).si rfl)) (by rw [eu, g_rd_at]) ?_ ?_ ?_ (fun j => ?_)
      · rw [eu, g_rd_k (by decide), z1.2.1 2 (by decide), f4 2 (by decide)]
      · rw [eu, g_rd_k (by decide), z1.2.1 3 (by decide), f4 3 (by decide)]
      · rw [eu, g_rd_k (by decide), z1.2.1 4 (by decide), f4 4 (by decide)]
      · rw [eu, g_rd_ne (z1.1.L.ne 94 93 (by decide) (by decide) (by decide)), z1.2.2.2.1, m4 94 j (by decide) (by decide)]
    · obtain ⟨hh1, hh2⟩ := hh
      obtain ⟨v1, v2, v3, v4, v5⟩ := hw _ List.mem_cons_self
      dsimp only at v1 v2 v3 v4 v5
      have hb2 : bsz L ((f2, pc2, sl2, sk2) :: rest2) = fsz L f2 + bsz L rest2 := rfl
      have hfs2 : fsz L f2 = 2 + fnS (fAt L f2) + fnT (fAt L f2) := rfl
      have hc2 := (g3 f2 v1).2.2.2.2.2.2.2.1
      have hsk2 : sk2.length + 1 ≤ fnT (fAt L f2) := by
        obtain ⟨qq, hqq⟩ : ∃ q, (fnC (fAt L f2))[pc2]? = some q := ⟨_, List.getElem?_eq_getElem v2⟩
        have := ((g3 f2 v1).2.2.2.2.2.2.2.2.2.2 pc2 qq hqq).1
        omega
      have e3 : x3 = nI (f2 * 1024 + pc2) := e3.trans hh1
      refine ⟨fun _ => ⟨?_, fun t5 e5 t6 e6 t7 e7 => ?_⟩, fun q => ?_⟩
      · rw [nI_1]; exact vp_in_nI (by omega) (by omega)
      · rw [nI_1, nI_clamp (by omega), z1.2.2.2.2, hh2] at e5
        rw [e3, show (1024 : Int32) = nI 1024 from rfl, nI_div (by omega) (by omega), show (f2 * 1024 + pc2) / 1024 = f2 by omega] at e6
        rw [e3, show (1024 : Int32) = nI 1024 from rfl, nI_div (by omega) (by omega), show (f2 * 1024 + pc2) / 1024 = f2 by omega, nI_mul, nI_sub (by omega), show f2 * 1024 + pc2 - f2 * 1024 = pc2 by omega] at e7
        have z : ∀ {q : gSt} {k : Nat} {x : Int32}, gFr ad mcP u1 q → gFr ad mcP u1 (g_si q (ad 93) k x) := fun h => h.si rfl
        have F7 : gFr ad mcP u1 t7 := by rw [e7, e6, e5]; exact z (z (z (gFr.rf z1.1.L)))
        have T7 := ((hTt.fr hp F4).fr hp z1.1).fr hp F7
        have c7 : t7.2.1 (ad 93) 8 = nI f2 := by rw [e7, g_rd_k (by decide), e6, g_rd_at]
        have o7 : ∀ c k, c ≠ 93 → c < 199 → t7.2.1 (ad c) k = u1.2.1 (ad c) k := fun c k hc hl => by
          have n := z1.1.L.ne c 93 hl (by decide) hc
          rw [e7, g_rd_ne n, e6, g_rd_ne n, e5, g_rd_ne n]
        rw [c7]
        refine m_frame hp F7.L T7 g2 v1 ⟨_, rfl, F7.L, fun t9 e9 => ?_⟩
        have b7 : t7.2.1 (ad 93) 10 = nI (bsz L ((f2, pc2, sl2, sk2) :: rest2)) := by rw [e7, g_rd_k (by decide), e6, g_rd_k (by decide), e5, g_rd_k (by decide), b1]
        rw [b7, nI_sub (by omega), show bsz L ((f2, pc2, sl2, sk2) :: rest2) - fsz L f2 = bsz L rest2 by omega] at e9
        have F9 : gFr ad mcP u1 t9 := by rw [e9]; exact z F7
        have k9 : ∀ k, k ≠ 8 → k ≠ 9 → k ≠ 10 → k ≠ 11 → t9.2.1 (ad 93) k = u1.2.1 (ad 93) k := fun k h8 h9 h10 h11 => by rw [e9, g_rd_k h10, e7, g_rd_k h9, e6, g_rd_k h8, e5, g_rd_k h11]
        have t911 : t9.2.1 (ad 93) 11 = nI (bsz L rest2 + 2 + fnS (fAt L f2) + sk2.length) := by rw [e9, g_rd_k (by decide), e7, g_rd_k (by decide), e6, g_rd_k (by decide), e5, g_rd_at]
        have o9 : ∀ c k, c ≠ 93 → c < 199 → t9.2.1 (ad c) k = u1.2.1 (ad c) k := fun c k hc hl => by rw [e9, g_rd_ne (F7.L.ne c 93 hl (by decide) hc), o7 c k hc hl]
        refine m_mpush F9.L t911 (by omega) (fun u eu => ⟨rfl, by rw [eu]; exact F9.L.si.si, _, rfl, by rw [eu]; exact F9.L.si.si, ?_⟩)
        have n9395 := F9.L.ne 93 95 (by decide) (by decide) (by decide)
        have hmem : ∀ x, u.2.1 (ad 95) x = if x = bsz L rest2 + 2 + fnS (fAt L f2) + sk2.length then v else t.2.1 (ad 95) x := fun x => by
          rw [eu, g_rd_ne n9395.symm]
          by_cases hx : x = bsz L rest2 + 2 + fnS (fAt L f2) + sk2.length
          · rw [hx, g_rd_at, if_pos rfl]
          · rw [g_rd_k hx, if_neg hx, o9 95 x (by decide) (by decide), z1.2.2.2.2]
        have ku : ∀ k, k ≠ 11 → u.2.1 (ad 93) k = t9.2.1 (ad 93) k := fun k h => by rw [eu, g_rd_k h, g_rd_ne n9395]
        have kt : ∀ k, k ≠ 8 → k ≠ 9 → k ≠ 10 → k ≠ 11 → u.2.1 (ad 93) k = t.2.1 (ad 93) k := fun k h8 h9 h10 h11 => by rw [ku k h11, k9 k h8 h9 h10 h11, z1.2.1 k h11, f4 k h9]
        refine h0 (by rw [d3]) u ?_
        rw [d3]
        obtain ⟨m1, m2, m3, m4'⟩ := r9.2.2.2
        dsimp only at m1 m2
        refine ⟨(r1.tr F4).tr ((z1.1.tr F9).tr (by rw [eu]; exact ((gFr.rf F9.L).si rfl).si rfl)), ?_, (kt 7 (by decide) (by decide) (by decide) (by decide)).trans r3, (kt 1 (by decide) (by decide) (by decide) (by decide)).trans r4, (kt 2 (by decide) (by decide) (by decide) (by decide)).trans r5, (kt 3 (by decide) (by decide) (by decide) (by decide)).trans r6, (kt 4 (by decide) (by decide) (by decide) (by decide)).trans r7, fun j x hj => ?_, ⟨fun j x hj => ?_, stk_push hmem m2, ?_, ?_⟩, f2, pc2, sl2, v :: sk2, rest2, rfl, ?_, ?_, ?_, ?_⟩
        · rw [eu, e9, e7, e6, e5]; exact r61
        · rw [eu, g_rd_ne (F9.L.ne 94 93 (by decide) (by decide) (by decide)), g_rd_ne (F9.L.ne 94 95 (by decide) (by decide) (by decide)), o9 94 j (by decide) (by decide), z1.2.2.2.1, m4 94 j (by decide) (by decide)]; exact r8 j x hj
        · have := (List.getElem?_eq_some_iff.mp hj).1
          dsimp only at this
          rw [hmem, if_neg (by omega)]
          exact m1 j x hj
        · unfold hdF at m3 ⊢
          match rest2, m3, hmem with
          | [], m3, hmem => rw [hmem, if_neg (by simp only [bsz]; omega)]; exact m3
          | (f3, pc3, sl3, sk3) :: r3', m3, hmem => exact ⟨by rw [hmem, if_neg (by omega)]; exact m3.1, by rw [hmem, if_neg (by omega)]; exact m3.2⟩
        · exact memF_cg rest2 (fun y hy => hfit y (List.mem_cons_of_mem _ hy)) (fun a ha => by rw [hmem, if_neg (by omega)]) m4'
        · rw [ku 8 (by decide), e9, g_rd_k (by decide), c7]
        · rw [ku 9 (by decide), e9, g_rd_k (by decide), e7, g_rd_at]
        · rw [ku 10 (by decide), e9, g_rd_at]
        · rw [eu, g_rd_at]; rfl
      · have q := Classical.not_not.mp q
        rw [e3] at q
        have h1 := congrArg Int32.toInt q
        rw [nI_toInt (by omega)] at h1
        have h2 : (-1 : Int32).toInt = -1 := by decide
        omega
  · -- AGAIN, TAIL
    have key : g_E cx (d + 4) i_Machine_takeOwnPlace [.ref (ad 93), .int (nI g)] t4 (fun r u1 => ∃ y2 : Int32, r = some (.int y2) ∧ Lay u1 ad ∧ (post (some (.int y2)) u1)) := by
      have hg24 : g < 24 := by omega
      obtain ⟨w1, w2, w3, w4, w5, w6, w7, w8, w9, w10, w11⟩ := g3 g d1
      have T4 := hTt.fr hp F4
      have r64 : t4.2.2.2 (ad 93) 6 = some (ad p) := by rw [e4]; exact r2
      have hfg : fsz L g = 2 + fnS (fAt L g) + fnT (fAt L g) := rfl
      have b4 : t4.2.1 (ad 93) 10 = nI (bsz L rest) := by rw [f4 10 (by decide), q3]
      refine x_Machine_takeOwnPlace hp L4 ?_
      rw [b4]
      refine m_fits hp L4 r64 T4 g2 d1 (by rw [f4 7 (by decide)]; exact r3) hal (by omega) ⟨_, rfl, L4, r64, ?_⟩
      by_cases hz : al < bsz L rest + fsz L g
      · rw [if_pos hz] at d3 ⊢
        refine ⟨fun q => absurd rfl q, fun _ => ⟨_, rfl, L4, ?_⟩⟩
        exact told t4 2 0 (by decide) d3 F4 (by rw [f4 1 (by decide)]; exact r4) (f4 2 (by decide)) (f4 3 (by decide)) (f4 4 (by decide)) (fun j => m4 94 j (by decide) (by decide))
      · rw [if_neg hz] at d3 ⊢
        refine ⟨fun _ => ⟨vp_in_nI (by omega) (by omega), fun t6 e6 => ?_⟩, fun q => absurd (by decide) q⟩
        rw [nI_clamp (n := g) (by omega), t11, (T4 g d1).1, nI_sub (by omega)] at e6
        obtain ⟨z6, y6⟩ := Z4.pop e6
        have P6 : t6.2.1 (ad (p + 2)) g = nI (fnP (fAt L g)) := by rw [e6, g_rd_ne (L4.ne _ _ (by omega) (by decide) (by omega))]; exact (T4 g d1).1
        have b6 : t6.2.1 (ad 93) 10 = nI (bsz L rest) := by rw [z6.2.1 10 (by decide), b4]
        rw [nI_clamp (n := g) (by omega), P6, y6, b6, show (2 : Int32) = nI 2 from rfl, nI_add, nI_clamp (n := fnP (fAt L g)) (by omega), nI_clamp (n := bsz L rest + 2) (by omega), nI_clamp (n := bsz L rest + 2 + fnS (fAt L f) + sk.length - fnP (fAt L g)) (by omega)]
        refine ⟨vp_in_nI (by omega) (by omega), ⟨nI_pos (by omega), nI_pos (by omega), nI_pos (by omega), by omega, by omega⟩, fun t9 e9 => ?_⟩
        have F9 : gFr ad mcP t6 t9 := by rw [e9]; exact (gFr.rf z6.1.L).row (fun k hk => by cases hk)
        have f9 : ∀ c k, c ≠ 95 → c < 199 → t9.2.1 (ad c) k = t6.2.1 (ad c) k := fun c k hc hl => by rw [e9, g_rdw, if_neg (z6.1.L.ne c 95 hl (by decide) hc)]
        have r69 : t9.2.2.2 (ad 93) 6 = some (ad p) := by rw [e9]; show t6.2.2.2 (ad 93) 6 = _; rw [z6.2.2.1]; exact r64
        have hmem : ∀ x, t9.2.1 (ad 95) x = if bsz L rest + 2 ≤ x ∧ x < bsz L rest + 2 + fnP (fAt L g) then t.2.1 (ad 95) (bsz L rest + 2 + fnS (fAt L f) + sk.length - fnP (fAt L g) + (x - (bsz L rest + 2))) else t.2.1 (ad 95) x := fun x => by
          rw [e9, g_rdw, if_pos rfl]
          unfold va_cpy
          split
          · rw [z6.2.2.2.2]
          · rw [z6.2.2.2.2]
        rw [f9 93 10 (by decide) (by decide), b6]
        refine m_enterFrame hp F9.L r69 ((T4.fr hp z6.1).fr hp F9) g2 d1 (mo := mo) (by rw [f9 93 3 (by decide) (by decide), z6.2.1 3 (by decide), f4 3 (by decide)]; exact r6) (by omega) (by omega) (fun u Fu u93 u6 u94 u95 v3 v8 v9 v10 v11 => ⟨rfl, Fu.L, _, rfl, Fu.L, ?_⟩)
        refine h0 (by rw [d3]) u ?_
        rw [d3]
        have k93 : ∀ k, k ≠ 3 → k ≠ 8 → k ≠ 9 → k ≠ 10 → k ≠ 11 → u.2.1 (ad 93) k = t.2.1 (ad 93) k := fun k h3 h8 h9 h10 h11 => by rw [u93 k h3 h8 h9 h10 h11, f9 93 k (by decide) (by decide), z6.2.1 k h11, f4 k h9]
        refine ⟨(r1.tr F4).tr ((z6.1.tr F9).tr Fu), u6, (k93 7 (by decide) (by decide) (by decide) (by decide) (by decide)).trans r3, (k93 1 (by decide) (by decide) (by decide) (by decide) (by decide)).trans r4, (k93 2 (by decide) (by decide) (by decide) (by decide) (by decide)).trans r5, v3, (k93 4 (by decide) (by decide) (by decide) (by decide) (by decide)).trans r7, fun j x hj => ?_, ⟨fun j x hj => ?_, trivial, ?_, ?_⟩, g, 0, _, [], _, rfl, v8, v9, v10, ?_⟩
        · rw [u94, f9 94 j (by decide) (by decide), z6.2.2.2.1, m4 94 j (by decide) (by decide)]; exact r8 j x hj
        · have hjl := (List.getElem?_eq_some_iff.mp hj).1
          dsimp only at hjl hj
          rw [List.length_reverse, List.length_take] at hjl
          have ea := args_at r9.2.1 d2 j x hj
          dsimp only at ea
          rw [u95, hmem, if_pos (by omega)]
          refine Eq.trans (congrArg (t.2.1 (ad 95)) ?_) ea
          clear ea hmem u95
          omega
        · have hh := r9.2.2.1
          unfold hdF at hh ⊢
          match rest, hh, hmem with
          | [], hh, hmem => rw [u95, hmem, if_neg (by omega)]; exact hh
          | (f2, pc2, sl2, sk2) :: r2', hh, hmem => exact ⟨by rw [u95, hmem, if_neg (by omega)]; exact hh.1, by rw [u95, hmem, if_neg (by omega)]; exact hh.2⟩
        · exact memF_cg rest hfit (fun a ha => by rw [u95, hmem, if_neg (by omega)]) r9.2.2.2
        · rw [v11]; rfl
    rcases d0 with ⟨rfl, rfl⟩ | ⟨rfl, rfl⟩
    · refine ⟨fun c => ?_, fun c => ?_, fun c => ?_, fun c => ?_, fun c => ?_, fun c => ?_, fun c => ?_, fun c => ?_, fun c => ?_, fun c => ?_, fun c => ?_, fun c => ?_, fun c => ?_⟩ <;> first | exact absurd c (by decide) | skip
      refine x_Machine_step_247 L4 ?_
      rw [f4 8 (by decide), q1]
      exact key
    · refine ⟨fun c => ?_, fun c => ?_, fun c => ?_, fun c => ?_, fun c => ?_, fun c => ?_, fun c => ?_, fun c => ?_, fun c => ?_, fun c => ?_, fun c => ?_, fun c => ?_, fun c => ?_⟩ <;> first | exact absurd c (by decide) | skip
      exact x_Machine_step_256 L4 key
end CS
