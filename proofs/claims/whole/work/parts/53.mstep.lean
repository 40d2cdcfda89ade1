/-! THE MODEL'S MACHINE: one step -/
section MS
variable {A L : List Fn} {H : Nat → Nat → Nat × Nat} {al : Nat} {cx : gCx} {d : Nat} {ad : Nat → Nat} {t0 t : gSt} {post : Option Value → gSt → Prop} {wn st : Nat}
theorem RK.loc {u : gSt} {f pc pc' : Nat} {sl sk sl' sk' : List Int32} {rest : List Frm} {ps ps' : List Int32} {mo : Nat} (h : RK t0 ad wn L st ((f, pc, sl, sk) :: rest, ps, mo) t) (hfit : ∀ x ∈ rest, fitF L x) (hF : gFr ad moP t u) (h144 : ∀ k, k ≠ 85 → u.2.1 (ad 144) k = t.2.1 (ad 144) k) (h85 : u.2.1 (ad 144) 85 = nI ps'.length) (h198 : ∀ (j : Nat) (v : Int32), ps'[j]? = some v → u.2.1 (ad 198) j = v) (h194 : ∀ j, u.2.1 (ad 194) j = t.2.1 (ad 194) j) (h196 : ∀ j, u.2.1 (ad 196) j = t.2.1 (ad 196) j) (h195 : ∀ j, u.2.1 (ad 195) j = if j = rest.length then nI pc' else t.2.1 (ad 195) j) (h197 : ∀ j, u.2.1 (ad 197) j = if j = rest.length then nI (bsz L rest + 2 + fnS (fAt L f) + sk'.length) else t.2.1 (ad 197) j) (hW : ∀ a, a < bsz L rest → u.2.1 (ad 193) a = t.2.1 (ad 193) a) (hsl : slt (u.2.1 (ad 193)) (bsz L rest + 2) sl') (hsk : stk (u.2.1 (ad 193)) (bsz L rest + 2 + fnS (fAt L f)) sk') : RK t0 ad wn L st ((f, pc', sl', sk') :: rest, ps', mo) u := by
  obtain ⟨r1, r2, r3, r4, r5, r6, r7, r8, s1, s2, s3, s4, s5, s6, s7⟩ := h
  refine ⟨r1.tr hF, (h144 80 (by decide)).trans r2, (h144 81 (by decide)).trans r3, (h144 82 (by decide)).trans r4, (h144 83 (by decide)).trans r5, (h144 84 (by decide)).trans r6, h85, h198, (h194 _).trans s1, by rw [h195, if_pos rfl], (h196 _).trans s3, by rw [h197, if_pos rfl], hsl, hsk, ?_⟩
  exact frM_cg rest hfit hW (fun i hi => ⟨h194 i, by rw [h195, if_neg (by omega)], h196 i, by rw [h197, if_neg (by omega)]⟩) s7
theorem reckon_ok {j : Nat} {a b : Int32} (h3 : 3 ≤ j) (h9 : j ≤ 9) (hz : ¬ ((nI j = 6 ∨ nI j = 7) ∧ b = 0)) (hL : Lay t ad) (h : post (some (.int (op2 (nI j) a b))) t) : g_E cx (d + 1) i_Mo_reckon [.int (nI j), .int a, .int b] t post := by
  have hd : ∀ a : Int32, a / -1 = -a := fun a => by
    refine Int32.toInt_inj.mp ?_
    rw [Int32.toInt_div, show (-1 : Int32).toInt = -1 from by decide, Int.tdiv_neg, Int.tdiv_one, Int32.toInt_neg]
  refine x_Mo_reckon hL ⟨fun c => ?_, fun c => ?_, fun c => ?_, fun c => ?_, fun c => ?_, fun c => ?_, fun c => ?_, fun c => ?_⟩
  · rw [c] at h; exact x_Mo_reckon_44 hL h
  · rw [c] at h; exact x_Mo_reckon_48 hL h
  · rw [c] at h; exact x_Mo_reckon_52 hL h
  · have hb : ¬ b = 0 := fun q => hz ⟨Or.inl c, q⟩
    rw [c] at h
    have h : post (some (.int (a / b))) t := h
    refine x_Mo_reckon_56 hL ⟨fun q => ⟨hb, h⟩, fun q => ?_⟩
    rw [Classical.not_not.mp q, hd] at h
    exact h
  · have hb : ¬ b = 0 := fun q => hz ⟨Or.inr c, q⟩
    rw [c] at h
    have h : post (some (.int (a - a / b * b))) t := h
    refine x_Mo_reckon_70 hL ⟨fun q => ⟨hb, h⟩, fun q => ?_⟩
    rw [Classical.not_not.mp q, hd, Int32.neg_mul_neg, Int32.mul_one, Int32.sub_self] at h
    exact h
  · rw [c] at h
    have h : post (some (.int (if a < b then 1 else 0))) t := h
    refine x_Mo_reckon_83 hL ⟨fun q => ?_, fun q => ?_⟩
    · rw [if_neg (Int32.not_lt.mpr q)] at h; exact h
    · rw [if_pos (Int32.not_le.mp q)] at h; exact h
  · rw [c] at h
    have h : post (some (.int (if a = b then 1 else 0))) t := h
    refine x_Mo_reckon_94 hL ⟨fun q => ?_, fun q => ?_⟩
    · rw [if_neg q] at h; exact h
    · rw [if_pos (Classical.not_not.mp q)] at h; exact h
  · rw [show (3 : Int32) = nI 3 from rfl, show (9 : Int32) = nI 9 from rfl, nI_ltI (by omega) (by omega), nI_ltI (by omega) (by omega)] at c
    omega
theorem k_step (hm : mcOk A L H) (hal : al ≤ 20000) (hT : nTab t0 ad wn L) (hwn : wn ≤ 1) {f pc : Nat} {sl sk : List Int32} {rest : List Frm} {ps : List Int32} {mo : Nat} (hR : RK t0 ad wn L st ((f, pc, sl, sk) :: rest, ps, mo) t) (hf : frOk L H 0 (f, pc, sl, sk)) (hw : ∀ y ∈ rest, frOk L H 1 y) (hb : bsz L ((f, pc, sl, sk) :: rest) ≤ al) (hps : ps.length ≤ 200) (hmo : mo ≤ al)
    (h0 : (mstep L al ((f, pc, sl, sk) :: rest, ps, mo)).1 = 0 → ∀ u, RK t0 ad wn L st (mstep L al ((f, pc, sl, sk) :: rest, ps, mo)).2.2 u → post (some (.int 0)) u)
    (h1 : ¬ (mstep L al ((f, pc, sl, sk) :: rest, ps, mo)).1 = 0 → ∀ u, TlM ad t0 st (mstep L al ((f, pc, sl, sk) :: rest, ps, mo)).2.1 ((f, pc, sl, sk) :: rest, ps, mo) u → post (some (.int (mstep L al ((f, pc, sl, sk) :: rest, ps, mo)).1)) u) : g_E cx (d + 5) i_Mo_oneStep [.ref (ad 144), .int (nI al)] t post := by
  obtain ⟨k, n, hq, hcs, -⟩ := mcase hm hal hf hw hb hps hmo
  have hR' := hR
  obtain ⟨r1, r2, r3, r4, r5, r6, r7, r8, s1, s2, s3, s4, s5, s6, s7⟩ := hR
  obtain ⟨o1, o2, o3, o4, o5⟩ := hf
  dsimp only at o1 o2 o3 o4 o5 r2 r3 r4 r7 r8 s1 s2 s3 s4 s5 s6 s7
  have hTt := hT.fr r1
  obtain ⟨a1, a2, a3, a6⟩ := hTt f o1
  have hm' := hm
  obtain ⟨g1, g2, g3⟩ := hm
  obtain ⟨p1, p2, p3, p4, p5, p6, p7, p8, p9, p10, p11⟩ := g3 f o1
  have hbs : fsz L f + bsz L rest ≤ al := hb
  have hfs : fsz L f = 2 + fnS (fAt L f) + fnT (fAt L f) := rfl
  have hskT : sk.length ≤ fnT (fAt L f) := by
    have := (p11 pc _ hq).1
    omega
  have hfit : ∀ x ∈ rest, fitF L x := fun x hx => by
    obtain ⟨w1, w2, w3, w4, w5⟩ := hw x hx
    refine ⟨w5, ?_⟩
    obtain ⟨qq, hqq⟩ : ∃ q, (fnC (fAt L x.1))[x.2.1]? = some q := ⟨_, List.getElem?_eq_getElem w2⟩
    have := ((g3 x.1 w1).2.2.2.2.2.2.2.2.2.2 x.2.1 qq hqq).1
    omega
  have hrl : 3 * rest.length ≤ bsz L rest := bsz_pos hm' hw
  have ew : t.2.1 (ad 182) (1600 * (24 * wn + f) + pc) = k ∧ t.2.1 (ad 183) (1600 * (24 * wn + f) + pc) = n := a6 pc (k, n) hq
  have e80 : t.2.1 (ad 144) 80 - 1 = nI rest.length := by rw [r2]; exact nI_pred _
  have hv7 := vp_in_nI (n := rest.length) (N := 7000) (by omega) (by omega)
  refine x_Mo_oneStep r1.L (fun x1 e1 => ?_)
  rw [e80] at e1
  subst e1
  refine ⟨hv7, fun x2 e2 => ⟨hv7, fun x3 e3 => ?_⟩⟩
  rw [nI_clamp (by omega), s1] at e2
  subst e2
  rw [nI_clamp (by omega), s2, show (1600 : Int32) = nI 1600 from rfl, nI_mul, nI_add] at e3
  subst e3
  refine x_Mo_oneStep_28 r1.L ⟨vp_in_nI (by omega) (by omega), fun x1 e1 => ⟨hv7, fun x2 e2 => ?_⟩⟩
  rw [nI_clamp (by omega), ew.2] at e1
  rw [nI_clamp (by omega), s4] at e2
  subst e1 e2
  refine x_Mo_oneStep_45 r1.L ⟨hv7, hv7, fun t4 e4 => ?_⟩
  rw [nI_clamp (by omega), s2, nI_1] at e4
  have L4 : Lay t4 ad := by rw [e4]; exact r1.L.si
  have F4 : gFr ad moP t t4 := by rw [e4]; exact (gFr.rf r1.L).si rfl
  have m4 : ∀ c k, c ≠ 195 → c < 199 → t4.2.1 (ad c) k = t.2.1 (ad c) k := fun c k hn hc => by rw [e4, g_rd_ne (r1.L.ne c 195 hc (by decide) hn)]
  have p5' : ∀ j, t4.2.1 (ad 195) j = if j = rest.length then nI (pc + 1) else t.2.1 (ad 195) j := fun j => by
    rw [e4]
    by_cases z : j = rest.length
    · rw [z, g_rd_at, if_pos rfl]
    · rw [g_rd_k z, if_neg z]
  refine x_Mo_oneStep_55 L4 ?_
  rw [nI_clamp (by omega), m4 182 _ (by decide) (by decide), ew.1]
  refine ⟨vp_in_nI (by omega) (by omega), ?_⟩
  have nn : ∀ a b, a ≠ b → a < 199 → b < 199 → ad a ≠ ad b := fun a b h ha hb => r1.L.ne _ _ ha hb h
  have t7 : t4.2.1 (ad 197) rest.length = nI (bsz L rest + 2 + fnS (fAt L f) + sk.length) := by rw [m4 197 _ (by decide) (by decide)]; exact s4
  -- a step that stays in the frame: one word and the top written
  have fin : ∀ (u : gSt) (a : Nat) (v : Int32) (pc' tp : Nat) (sl' sk' : List Int32), gFr ad moP t4 u → (∀ c k, c ≠ 193 → c ≠ 195 → c ≠ 197 → c < 199 → u.2.1 (ad c) k = t4.2.1 (ad c) k) → (∀ j, u.2.1 (ad 195) j = if j = rest.length then nI pc' else t4.2.1 (ad 195) j) → tp = bsz L rest + 2 + fnS (fAt L f) + sk'.length → (∀ j, u.2.1 (ad 197) j = if j = rest.length then nI tp else t4.2.1 (ad 197) j) → bsz L rest ≤ a → (∀ x, u.2.1 (ad 193) x = if x = a then v else t.2.1 (ad 193) x) → slt (u.2.1 (ad 193)) (bsz L rest + 2) sl' → stk (u.2.1 (ad 193)) (bsz L rest + 2 + fnS (fAt L f)) sk' → mstep L al ((f, pc, sl, sk) :: rest, ps, mo) = (0, 0, (f, pc', sl', sk') :: rest, ps, mo) → post (some (.int 0)) u := by
    intro u a v pc' tp sl' sk' hF ho h5 htp h7 ha hmem hsl hsk e
    refine h0 (by rw [e]) u ?_
    rw [e]
    have oo : ∀ c k, c ≠ 193 → c ≠ 195 → c ≠ 197 → c < 199 → u.2.1 (ad c) k = t.2.1 (ad c) k := fun c k h3 h5 h7 hc => by rw [ho c k h3 h5 h7 hc, m4 c k h5 hc]
    refine hR'.loc hfit (F4.tr hF) (fun k _ => oo 144 k (by decide) (by decide) (by decide) (by decide)) (by rw [oo 144 85 (by decide) (by decide) (by decide) (by decide)]; exact r7) (fun j v hj => by rw [oo 198 j (by decide) (by decide) (by decide) (by decide)]; exact r8 j v hj) (fun j => oo 194 j (by decide) (by decide) (by decide) (by decide)) (fun j => oo 196 j (by decide) (by decide) (by decide) (by decide)) (fun j => ?_) (fun j => ?_) (fun x hx => by rw [hmem, if_neg (by omega)]) hsl hsk
    · rw [h5]
      split
      · rfl
      · rename_i z; rw [p5', if_neg z]
    · rw [h7, htp]
      split
      · rfl
      · rw [m4 197 _ (by decide) (by decide)]
  have told : ∀ (u : gSt) (h o : Int32), ¬ h = 0 → mstep L al ((f, pc, sl, sk) :: rest, ps, mo) = (h, o, ((f, pc, sl, sk) :: rest, ps, mo)) → gFr ad moP t u → u.2.1 (ad 144) 84 = o → u.2.1 (ad 144) 83 = t.2.1 (ad 144) 83 → u.2.1 (ad 144) 82 = t.2.1 (ad 144) 82 → u.2.1 (ad 144) 85 = t.2.1 (ad 144) 85 → (∀ j, u.2.1 (ad 198) j = t.2.1 (ad 198) j) → post (some (.int h)) u := by
    intro u h o hh e w1 w2 w3 w4 w5 w6
    have h1 := h1 (by rw [e]; exact hh) u
    rw [e] at h1
    exact h1 ⟨r1.tr w1, w2, by rw [w3]; exact r5, by rw [w4]; exact r4, by rw [w5]; exact r7, fun j v hj => by rw [w6]; exact r8 j v hj⟩
  -- a value is laid on the top of sk0
  have push : ∀ (u2 : gSt) (v : Int32) (a : Nat) (sk0 : List Int32), a = bsz L rest + 2 + fnS (fAt L f) + sk0.length → stk (t.2.1 (ad 193)) (bsz L rest + 2 + fnS (fAt L f)) sk0 → u2 = g_si (g_si t4 (ad 193) a v) (ad 197) rest.length (nI (a + 1)) → mstep L al ((f, pc, sl, sk) :: rest, ps, mo) = (0, 0, (f, pc + 1, sl, v :: sk0) :: rest, ps, mo) → post (some (.int 0)) u2 := by
    intro u v a sk0 ha hs eu e
    have hmem : ∀ x, u.2.1 (ad 193) x = if x = a then v else t.2.1 (ad 193) x := fun x => by
      rw [eu, g_rd_ne (nn _ _ (by decide) (by decide) (by decide))]
      by_cases z : x = a
      · rw [z, g_rd_at, if_pos rfl]
      · rw [g_rd_k z, if_neg z, m4 193 _ (by decide) (by decide)]
    refine fin u a v (pc + 1) (a + 1) sl (v :: sk0) (by rw [eu]; exact ((gFr.rf L4).si rfl).si rfl) (fun c k h3 h5 h7 hc => by rw [eu, g_rd_ne (nn _ _ h7 hc (by decide)), g_rd_ne (nn _ _ h3 hc (by decide))]) (fun j => ?_) (by simp; omega) (fun j => ?_) (by omega) hmem (fun j x hj => ?_) (stk_push (by rw [← ha]; exact hmem) hs) e
    · rw [eu, g_rd_ne (nn _ _ (by decide) (by decide) (by decide)), g_rd_ne (nn _ _ (by decide) (by decide) (by decide)), p5']
      split <;> rfl
    · rw [eu]
      by_cases z : j = rest.length
      · rw [z, g_rd_at, if_pos rfl]
      · rw [g_rd_k z, if_neg z, g_rd_ne (nn _ _ (by decide) (by decide) (by decide))]
    · have := (List.getElem?_eq_some_iff.mp hj).1
      rw [hmem, if_neg (by omega)]
      exact s5 j x hj
  have zfin : ∀ (u : gSt) (pc' tp : Nat) (sk' : List Int32), gFr ad moP t4 u → (∀ c k, c ≠ 195 → c ≠ 197 → c < 199 → u.2.1 (ad c) k = t4.2.1 (ad c) k) → (∀ j, u.2.1 (ad 195) j = if j = rest.length then nI pc' else t4.2.1 (ad 195) j) → tp = bsz L rest + 2 + fnS (fAt L f) + sk'.length → (∀ j, u.2.1 (ad 197) j = if j = rest.length then nI tp else t4.2.1 (ad 197) j) → stk (t.2.1 (ad 193)) (bsz L rest + 2 + fnS (fAt L f)) sk' → mstep L al ((f, pc, sl, sk) :: rest, ps, mo) = (0, 0, (f, pc', sl, sk') :: rest, ps, mo) → post (some (.int 0)) u := by
    intro u pc' tp sk' w1 w2 w3 htp w4' hs e
    have w7 : ∀ x, u.2.1 (ad 193) x = t.2.1 (ad 193) x := fun x => by rw [w2 193 x (by decide) (by decide) (by decide), m4 193 x (by decide) (by decide)]
    refine fin u (bsz L rest) (t.2.1 (ad 193) (bsz L rest)) pc' tp sl sk' w1 (fun c k _ h5 h7 hc => w2 c k h5 h7 hc) w3 htp w4' (Nat.le_refl _) (fun x => ?_) (fun j x hj => ?_) (stk_cg _ (fun a _ _ => w7 a) hs) e
    · rw [w7]
      split
      · rename_i hx; rw [hx]
      · rfl
    · rw [w7]; exact s5 j x hj
  have l6 : ∀ (x : Nat), x + 1 = sk.length → nI (bsz L rest + 2 + fnS (fAt L f) + sk.length) - 1 = nI (bsz L rest + 2 + fnS (fAt L f) + x) := fun x hx => by rw [← hx]; exact nI_pred _
  have w4 : ∀ x, t4.2.1 (ad 193) x = t.2.1 (ad 193) x := fun x => m4 193 x (by decide) (by decide)
  have vb : ∀ x, x < 20200 → vp_in (nI x) 20200 := fun x hx => vp_in_nI hx (by omega)
  rcases hcs with ⟨rfl, d2, d3⟩ | ⟨rfl, d2, s', v, rfl, d3, d4⟩ | ⟨j, b, a, r, j1, j2, rfl, rfl, d3⟩ | ⟨v, r, rfl, rfl, d3⟩ | ⟨v, r, rfl, rfl, d3⟩ | ⟨v, r, rfl, rfl, d3⟩ | ⟨v, r, s', rfl, rfl, rfl, d1, d2, d3⟩ | ⟨v, r, e, rfl, rfl, d1, rfl, d3⟩ | ⟨e, rfl, rfl, d1, d3⟩ | ⟨g, rfl, rfl, d1, d2, d3⟩ | ⟨v, r, rfl, rfl, d3⟩ | ⟨g, d0, d1, d2, d3⟩
  · -- CONST
    refine ⟨fun c => ?_, fun c => ?_, fun c => ?_, fun c => ?_, fun c => ?_, fun c => ?_, fun c => ?_, fun c => ?_, fun c => ?_, fun c => ?_, fun c => ?_, fun c => ?_⟩ <;> first | exact absurd c (by decide) | skip
    refine x_Mo_oneStep_152 L4 ⟨vb _ (by omega), fun t5 e5 => ⟨hv7, hv7, fun u eu => ?_⟩⟩
    rw [nI_clamp (by omega)] at e5
    rw [nI_clamp (n := rest.length) (by omega), e5, g_rd_ne (nn _ _ (by decide) (by decide) (by decide)), t7, nI_1] at eu
    exact push u _ _ sk rfl s6 eu d3
  · -- LOAD
    refine ⟨fun c => ?_, fun c => ?_, fun c => ?_, fun c => ?_, fun c => ?_, fun c => ?_, fun c => ?_, fun c => ?_, fun c => ?_, fun c => ?_, fun c => ?_, fun c => ?_⟩ <;> first | exact absurd c (by decide) | skip
    have hsl : s' < sl.length := (List.getElem?_eq_some_iff.mp d3).1
    refine x_Mo_oneStep_173 L4 ?_
    rw [nI_clamp (n := rest.length) (by omega), m4 196 _ (by decide) (by decide), s3, nI_add, nI_clamp (n := bsz L rest + 2 + s') (by omega), w4, s5 s' v d3, nI_clamp (n := bsz L rest + 2 + fnS (fAt L f) + sk.length) (by omega)]
    refine ⟨hv7, vb _ (by omega), vb _ (by omega), fun t5 e5 => ⟨hv7, hv7, fun u eu => ?_⟩⟩
    rw [e5, g_rd_ne (nn _ _ (by decide) (by decide) (by decide)), t7, nI_1] at eu
    exact push u _ _ sk rfl s6 eu d4
  · -- two operands
    have o3 : r.length + 1 + 1 = (H f pc).1 := o3
    have hT2 : r.length + 1 + 1 ≤ fnT (fAt L f) := hskT
    have l61 : nI (bsz L rest + 2 + fnS (fAt L f) + (b :: a :: r).length) - 1 = nI (bsz L rest + 2 + fnS (fAt L f) + (r.length + 1)) := l6 _ rfl
    have l62 : nI (bsz L rest + 2 + fnS (fAt L f) + (b :: a :: r).length) - 2 = nI (bsz L rest + 2 + fnS (fAt L f) + r.length) := by
      rw [show (2 : Int32) = nI 2 from rfl, nI_sub (by simp; omega)]
      congr 1
    have eb : t.2.1 (ad 193) (bsz L rest + 2 + fnS (fAt L f) + (r.length + 1)) = b := s6.1
    have ea : t.2.1 (ad 193) (bsz L rest + 2 + fnS (fAt L f) + r.length) = a := s6.2.1
    have k182 : t4.2.1 (ad 182) (nI (1600 * (24 * wn + f) + pc)).toNatClampNeg = nI j := by rw [nI_clamp (by omega), m4 182 _ (by decide) (by decide)]; exact ew.1
    have hv1 : vp_in (nI (1600 * (24 * wn + f) + pc)) 76800 := vp_in_nI (by omega) (by omega)
    have k579 : ¬ ((nI j = 6 ∨ nI j = 7) ∧ b = 0) → g_W cx (g_E cx (d + 4)) mt_Mo_oneStep post (579, [some (.ref (ad 144)), some (.int (nI al)), some (.int (nI rest.length)), some (.int (nI (24 * wn + f))), some (.int (nI (1600 * (24 * wn + f) + pc))), some (.int x1), some (.int (nI (bsz L rest + 2 + fnS (fAt L f) + (b :: a :: r).length))), none], [], t4, 0, 0) := by
      intro hz
      rw [if_neg hz] at d3
      refine x_Mo_oneStep_579 L4 ?_
      rw [k182, l61, l62, nI_clamp (n := bsz L rest + 2 + fnS (fAt L f) + (r.length + 1)) (by omega), nI_clamp (n := bsz L rest + 2 + fnS (fAt L f) + r.length) (by omega), w4, w4, eb, ea]
      refine ⟨hv1, vb _ (by omega), vb _ (by omega), reckon_ok j1 j2 hz L4 ⟨_, rfl, L4, vb _ (by omega), fun t5 e5 => ⟨hv7, hv7, fun u eu => ?_⟩⟩⟩
      rw [nI_clamp (n := rest.length) (by omega), e5, g_rd_ne (nn _ _ (by decide) (by decide) (by decide)), t7, l61] at eu
      exact push u _ _ r rfl s6.2.2 eu d3
    have key : g_W cx (g_E cx (d + 4)) mt_Mo_oneStep post (541, [some (.ref (ad 144)), some (.int (nI al)), some (.int (nI rest.length)), some (.int (nI (24 * wn + f))), some (.int (nI (1600 * (24 * wn + f) + pc))), some (.int x1), some (.int (nI (bsz L rest + 2 + fnS (fAt L f) + (b :: a :: r).length))), none], [], t4, 0, 0) := by
      have k565 : (nI j = 6 ∨ nI j = 7) → g_W cx (g_E cx (d + 4)) mt_Mo_oneStep post (565, [some (.ref (ad 144)), some (.int (nI al)), some (.int (nI rest.length)), some (.int (nI (24 * wn + f))), some (.int (nI (1600 * (24 * wn + f) + pc))), some (.int x1), some (.int (nI (bsz L rest + 2 + fnS (fAt L f) + (b :: a :: r).length))), none], [], t4, 0, 0) := by
        intro h67
        refine x_Mo_oneStep_565 L4 ?_
        rw [l61, nI_clamp (n := bsz L rest + 2 + fnS (fAt L f) + (r.length + 1)) (by omega), w4, eb]
        refine ⟨vb _ (by omega), fun q => k579 (fun z => q z.2), fun q => ?_⟩
        have hb0 : b = 0 := Classical.not_not.mp q
        rw [if_pos ⟨h67, hb0⟩] at d3
        exact told t4 3 0 (by decide) d3 F4 (by rw [m4 144 84 (by decide) (by decide)]; exact r6) (m4 144 83 (by decide) (by decide)) (m4 144 82 (by decide) (by decide)) (m4 144 85 (by decide) (by decide)) (fun j => m4 198 j (by decide) (by decide))
      refine x_Mo_oneStep_541 L4 ?_
      rw [k182]
      exact ⟨hv1, fun q => k565 (Or.inl q), fun q => ⟨hv1, fun q2 => k579 (fun z => z.1.elim q q2), fun q2 => k565 (Or.inr (Classical.not_not.mp q2))⟩⟩
    have hcj : j = 3 ∨ j = 4 ∨ j = 5 ∨ j = 6 ∨ j = 7 ∨ j = 8 ∨ j = 9 := by omega
    clear d3 k579 k182
    rcases hcj with rfl | rfl | rfl | rfl | rfl | rfl | rfl <;> (refine ⟨fun c => ?_, fun c => ?_, fun c => ?_, fun c => ?_, fun c => ?_, fun c => ?_, fun c => ?_, fun c => ?_, fun c => ?_, fun c => ?_, fun c => ?_, fun c => ?_⟩ <;> first | exact absurd c (by decide) | skip) <;> exact key
  · -- NEG
    refine ⟨fun c => ?_, fun c => ?_, fun c => ?_, fun c => ?_, fun c => ?_, fun c => ?_, fun c => ?_, fun c => ?_, fun c => ?_, fun c => ?_, fun c => ?_, fun c => ?_⟩ <;> first | exact absurd c (by decide) | skip
    have hT2 : r.length + 1 ≤ fnT (fAt L f) := hskT
    have l61 : nI (bsz L rest + 2 + fnS (fAt L f) + (v :: r).length) - 1 = nI (bsz L rest + 2 + fnS (fAt L f) + r.length) := l6 _ rfl
    have eb : t.2.1 (ad 193) (bsz L rest + 2 + fnS (fAt L f) + r.length) = v := s6.1
    refine x_Mo_oneStep_206 L4 ?_
    rw [l61, nI_clamp (n := bsz L rest + 2 + fnS (fAt L f) + r.length) (by omega), w4, eb]
    refine ⟨vb _ (by omega), vb _ (by omega), fun u eu => ?_⟩
    have hmem : ∀ x, u.2.1 (ad 193) x = if x = bsz L rest + 2 + fnS (fAt L f) + r.length then -v else t.2.1 (ad 193) x := fun x => by
      rw [eu]
      by_cases z : x = bsz L rest + 2 + fnS (fAt L f) + r.length
      · rw [z, g_rd_at, if_pos rfl]
      · rw [g_rd_k z, if_neg z, w4]
    refine fin u _ (-v) (pc + 1) _ sl (-v :: r) (by rw [eu]; exact (gFr.rf L4).si rfl) (fun c k h3 h5 h7 hc => by rw [eu, g_rd_ne (nn _ _ h3 hc (by decide))]) (fun j => ?_) rfl (fun j => ?_) (by omega) hmem (fun j x hj => ?_) (stk_push hmem s6.2) d3
    · rw [eu, g_rd_ne (nn _ _ (by decide) (by decide) (by decide)), p5']
      split <;> rfl
    · rw [eu, g_rd_ne (nn _ _ (by decide) (by decide) (by decide))]
      split
      · rename_i z; rw [z, t7]; rfl
      · rfl
    · have := (List.getElem?_eq_some_iff.mp hj).1
      rw [hmem, if_neg (by omega)]
      exact s5 j x hj
  · -- PUT
    refine ⟨fun c => ?_, fun c => ?_, fun c => ?_, fun c => ?_, fun c => ?_, fun c => ?_, fun c => ?_, fun c => ?_, fun c => ?_, fun c => ?_, fun c => ?_, fun c => ?_⟩ <;> first | exact absurd c (by decide) | skip
    have hT2 : r.length + 1 ≤ fnT (fAt L f) := hskT
    have l61 : nI (bsz L rest + 2 + fnS (fAt L f) + (v :: r).length) - 1 = nI (bsz L rest + 2 + fnS (fAt L f) + r.length) := l6 _ rfl
    have eb : t.2.1 (ad 193) (bsz L rest + 2 + fnS (fAt L f) + r.length) = v := s6.1
    have p85 : t4.2.1 (ad 144) 85 = nI ps.length := by rw [m4 144 85 (by decide) (by decide)]; exact r7
    refine x_Mo_oneStep_227 L4 ?_
    rw [p85, l61, nI_clamp (n := bsz L rest + 2 + fnS (fAt L f) + r.length) (by omega), w4, eb, nI_clamp (n := ps.length) (by omega), show (200 : Int32) = nI 200 from rfl, nI_eq (by omega) (by omega)]
    refine ⟨fun c => ⟨vb _ (by omega), vp_in_nI (by omega) (by omega), fun t5 e5 u eu => ?_⟩, fun c => ?_⟩
    · rw [if_neg (by omega)] at d3
      rw [e5, g_rd_ne (nn _ _ (by decide) (by decide) (by decide)), p85, nI_1] at eu
      have ow : ∀ x, u.2.1 (ad 193) x = t.2.1 (ad 193) x := fun x => by rw [eu, g_rd_ne (nn _ _ (by decide) (by decide) (by decide)), g_rd_ne (nn _ _ (by decide) (by decide) (by decide)), w4]
      refine h0 (by rw [d3]) u ?_
      rw [d3]
      refine hR'.loc hfit (F4.tr (by rw [eu]; exact ((gFr.rf L4).si rfl).si rfl)) (fun k hk => by rw [eu, g_rd_k hk, g_rd_ne (nn _ _ (by decide) (by decide) (by decide)), m4 144 k (by decide) (by decide)]) (by rw [eu, g_rd_at, List.length_append]; rfl) (fun j x hj => ?_) (fun j => by rw [eu, g_rd_ne (nn _ _ (by decide) (by decide) (by decide)), g_rd_ne (nn _ _ (by decide) (by decide) (by decide)), m4 194 j (by decide) (by decide)]) (fun j => by rw [eu, g_rd_ne (nn _ _ (by decide) (by decide) (by decide)), g_rd_ne (nn _ _ (by decide) (by decide) (by decide)), m4 196 j (by decide) (by decide)]) (fun j => by rw [eu, g_rd_ne (nn _ _ (by decide) (by decide) (by decide)), g_rd_ne (nn _ _ (by decide) (by decide) (by decide)), p5']) (fun j => ?_) (fun x _ => ow x) (fun j x hj => by rw [ow]; exact s5 j x hj) (stk_cg _ (fun x _ _ => ow x) s6)
      · rw [eu, g_rd_ne (nn _ _ (by decide) (by decide) (by decide))]
        by_cases ej : j = ps.length
        · subst ej
          rw [g_rd_at]
          rw [List.getElem?_append_right (Nat.le_refl _), Nat.sub_self] at hj
          simpa using hj
        · rw [g_rd_k ej, m4 198 j (by decide) (by decide)]
          have hjl : j < ps.length := by
            have := (List.getElem?_eq_some_iff.mp hj).1
            simp at this
            omega
          rw [List.getElem?_append_left hjl] at hj
          exact r8 j x hj
      · rw [eu, g_rd_ne (nn _ _ (by decide) (by decide) (by decide)), g_rd_ne (nn _ _ (by decide) (by decide) (by decide)), m4 197 j (by decide) (by decide)]
        split
        · rename_i z; rw [z]; exact s4
        · rfl
    · rw [if_pos (by omega)] at d3
      exact told t4 5 0 (by decide) d3 F4 (by rw [m4 144 84 (by decide) (by decide)]; exact r6) (m4 144 83 (by decide) (by decide)) (m4 144 82 (by decide) (by decide)) (m4 144 85 (by decide) (by decide)) (fun j => m4 198 j (by decide) (by decide))
  · -- DROP
    refine ⟨fun c => ?_, fun c => ?_, fun c => ?_, fun c => ?_, fun c => ?_, fun c => ?_, fun c => ?_, fun c => ?_, fun c => ?_, fun c => ?_, fun c => ?_, fun c => ?_⟩ <;> first | exact absurd c (by decide) | skip
    have hT2 : r.length + 1 ≤ fnT (fAt L f) := hskT
    have l61 : nI (bsz L rest + 2 + fnS (fAt L f) + (v :: r).length) - 1 = nI (bsz L rest + 2 + fnS (fAt L f) + r.length) := l6 _ rfl
    refine x_Mo_oneStep_269 L4 ⟨hv7, hv7, fun u eu => ?_⟩
    rw [nI_clamp (n := rest.length) (by omega), t7, l61] at eu
    exact zfin u (pc + 1) _ r (by rw [eu]; exact (gFr.rf L4).si rfl) (fun c k h5 h7 hc => by rw [eu, g_rd_ne (nn _ _ h7 hc (by decide))]) (fun j => by rw [eu, g_rd_ne (nn _ _ (by decide) (by decide) (by decide)), p5']; split <;> rfl) rfl (fun j => by
      rw [eu]
      by_cases z : j = rest.length
      · rw [z, g_rd_at, if_pos rfl]
      · rw [g_rd_k z, if_neg z]) s6.2 d3
  · -- STORE
    refine ⟨fun c => ?_, fun c => ?_, fun c => ?_, fun c => ?_, fun c => ?_, fun c => ?_, fun c => ?_, fun c => ?_, fun c => ?_, fun c => ?_, fun c => ?_, fun c => ?_⟩ <;> first | exact absurd c (by decide) | skip
    have hT2 : r.length + 1 ≤ fnT (fAt L f) := hskT
    have l61 : nI (bsz L rest + 2 + fnS (fAt L f) + (v :: r).length) - 1 = nI (bsz L rest + 2 + fnS (fAt L f) + r.length) := l6 _ rfl
    have eb : t.2.1 (ad 193) (bsz L rest + 2 + fnS (fAt L f) + r.length) = v := s6.1
    refine x_Mo_oneStep_281 L4 ?_
    rw [l61, nI_clamp (n := rest.length) (by omega), m4 196 _ (by decide) (by decide), s3, nI_add, nI_clamp (n := bsz L rest + 2 + s') (by omega), nI_clamp (n := bsz L rest + 2 + fnS (fAt L f) + r.length) (by omega), w4, eb]
    refine ⟨hv7, vb _ (by omega), vb _ (by omega), fun t5 e5 => ⟨hv7, hv7, fun u eu => ?_⟩⟩
    rw [e5, g_rd_ne (nn _ _ (by decide) (by decide) (by decide)), t7, l61] at eu
    have hmem : ∀ x, u.2.1 (ad 193) x = if x = bsz L rest + 2 + s' then v else t.2.1 (ad 193) x := fun x => by
      rw [eu, g_rd_ne (nn _ _ (by decide) (by decide) (by decide))]
      by_cases z : x = bsz L rest + 2 + s'
      · rw [z, g_rd_at, if_pos rfl]
      · rw [g_rd_k z, if_neg z, w4]
    refine fin u _ v (pc + 1) _ (setx sl s' v) r (by rw [eu]; exact ((gFr.rf L4).si rfl).si rfl) (fun c k h3 h5 h7 hc => by rw [eu, g_rd_ne (nn _ _ h7 hc (by decide)), g_rd_ne (nn _ _ h3 hc (by decide))]) (fun j => by rw [eu, g_rd_ne (nn _ _ (by decide) (by decide) (by decide)), g_rd_ne (nn _ _ (by decide) (by decide) (by decide)), p5']; split <;> rfl) rfl (fun j => ?_) (by omega) hmem (fun j x hj => ?_) (stk_cg r (fun a h1 h2 => by rw [hmem, if_neg (by omega)]) s6.2) d3
    · rw [eu]
      by_cases z : j = rest.length
      · rw [z, g_rd_at, if_pos rfl]
      · rw [g_rd_k z, if_neg z, g_rd_ne (nn _ _ (by decide) (by decide) (by decide))]
    · rw [hmem]
      unfold setx at hj
      by_cases hj2 : j = s'
      · subst hj2
        rw [if_pos rfl]
        split at hj
        · rename_i hlt
          rw [List.getElem?_set_self hlt] at hj
          exact Option.some.inj hj
        · rename_i hlt
          have : j = sl.length := by omega
          subst this
          rw [List.getElem?_append_right (Nat.le_refl _), Nat.sub_self] at hj
          simpa using hj
      · rw [if_neg (by omega)]
        split at hj
        · rw [List.getElem?_set_ne (by omega)] at hj
          exact s5 j x hj
        · rename_i hlt
          have hjl : j < sl.length := by
            have := (List.getElem?_eq_some_iff.mp hj).1
            simp at this
            omega
          rw [List.getElem?_append_left hjl] at hj
          exact s5 j x hj
  · -- ELSE
    refine ⟨fun c => ?_, fun c => ?_, fun c => ?_, fun c => ?_, fun c => ?_, fun c => ?_, fun c => ?_, fun c => ?_, fun c => ?_, fun c => ?_, fun c => ?_, fun c => ?_⟩ <;> first | exact absurd c (by decide) | skip
    have hT2 : r.length + 1 ≤ fnT (fAt L f) := hskT
    have l61 : nI (bsz L rest + 2 + fnS (fAt L f) + (v :: r).length) - 1 = nI (bsz L rest + 2 + fnS (fAt L f) + r.length) := l6 _ rfl
    have eb : t.2.1 (ad 193) (bsz L rest + 2 + fnS (fAt L f) + r.length) = v := s6.1
    refine x_Mo_oneStep_316 L4 ⟨hv7, hv7, fun t5 e5 => ?_⟩
    rw [nI_clamp (n := rest.length) (by omega), t7, l61] at e5
    have L5 : Lay t5 ad := by rw [e5]; exact L4.si
    have w5 : ∀ x, t5.2.1 (ad 193) x = t.2.1 (ad 193) x := fun x => by rw [e5, g_rd_ne (nn _ _ (by decide) (by decide) (by decide)), w4]
    have q5 : t5.2.1 (ad 195) rest.length = nI (pc + 1) := by rw [e5, g_rd_ne (nn _ _ (by decide) (by decide) (by decide)), p5', if_pos rfl]
    have last : ∀ (u : gSt) (x : Nat), u = g_si t5 (ad 195) rest.length (nI x) → mstep L al ((f, pc, sl, v :: r) :: rest, ps, mo) = (0, 0, (f, x, sl, r) :: rest, ps, mo) → post (some (.int 0)) u := by
      intro u x eu ed
      rw [e5] at eu
      refine zfin u x _ r (by rw [eu]; exact ((gFr.rf L4).si rfl).si rfl) (fun c k h5 h7 hc => by rw [eu, g_rd_ne (nn _ _ h5 hc (by decide)), g_rd_ne (nn _ _ h7 hc (by decide))]) (fun j => ?_) rfl (fun j => ?_) s6.2 ed
      · rw [eu]
        by_cases z : j = rest.length
        · rw [z, g_rd_at, if_pos rfl]
        · rw [g_rd_k z, if_neg z, g_rd_ne (nn _ _ (by decide) (by decide) (by decide))]
      · rw [eu, g_rd_ne (nn _ _ (by decide) (by decide) (by decide))]
        by_cases z : j = rest.length
        · rw [z, g_rd_at, if_pos rfl]
        · rw [g_rd_k z, if_neg z]
    rw [l61, nI_clamp (n := bsz L rest + 2 + fnS (fAt L f) + r.length) (by omega), w5, eb, nI_clamp (n := rest.length) (by omega), q5]
    refine ⟨vb _ (by omega), fun c => ⟨hv7, x_Mo_oneStep_354 L5 ⟨hv7, fun u eu => ?_⟩⟩, fun c => x_Mo_oneStep_354 L5 ⟨hv7, fun u eu => ?_⟩⟩
    · rw [nI_clamp (n := rest.length) (by omega)] at eu
      exact last u _ eu (by rw [d3, if_neg c])
    · rw [nI_clamp (n := rest.length) (by omega)] at eu
      exact last u _ eu (by rw [d3, if_pos (Classical.not_not.mp c)])
  · -- JUMP
    refine ⟨fun c => ?_, fun c => ?_, fun c => ?_, fun c => ?_, fun c => ?_, fun c => ?_, fun c => ?_, fun c => ?_, fun c => ?_, fun c => ?_, fun c => ?_, fun c => ?_⟩ <;> first | exact absurd c (by decide) | skip
    refine x_Mo_oneStep_357 L4 ⟨hv7, fun u eu => ?_⟩
    rw [nI_clamp (n := rest.length) (by omega)] at eu
    refine zfin u e _ sk (by rw [eu]; exact (gFr.rf L4).si rfl) (fun c k h5 h7 hc => by rw [eu, g_rd_ne (nn _ _ h5 hc (by decide))]) (fun j => ?_) rfl (fun j => ?_) s6 d3
    · rw [eu]
      by_cases z : j = rest.length
      · rw [z, g_rd_at, if_pos rfl]
      · rw [g_rd_k z, if_neg z]
    · rw [eu, g_rd_ne (nn _ _ (by decide) (by decide) (by decide))]
      split
      · rename_i z; rw [z, t7]
      · rfl
  · -- CALL
    refine ⟨fun c => ?_, fun c => ?_, fun c => ?_, fun c => ?_, fun c => ?_, fun c => ?_, fun c => ?_, fun c => ?_, fun c => ?_, fun c => ?_, fun c => ?_, fun c => ?_⟩ <;> first | exact absurd c (by decide) | skip
    have hg24 : g < 24 := by omega
    obtain ⟨w1, w2, w3, w4', w5, w6, w7, w8, w9, w10, w11⟩ := g3 g d1
    have T4 := hTt.fr F4
    have hfg : fsz L g = 2 + fnS (fAt L g) + fnT (fAt L g) := rfl
    have htb : bsz L ((f, pc, sl, sk) :: rest) = fsz L f + bsz L rest := rfl
    have ix : (nI (24 * wn + f) / 24 * 24) + nI g = nI (24 * wn + g) := by
      rw [show (24 : Int32) = nI 24 from rfl, nI_div (by omega) (by omega), nI_mul, nI_add]
      congr 1
      omega
    refine x_Mo_oneStep_367 L4 ⟨vp_in_nI (by omega) (by omega), fun x1 e1 => ⟨hv7, hv7, fun t5 e5 => ?_⟩⟩
    rw [nI_clamp (n := g) (by omega), (T4 g d1).1] at e1
    subst e1
    rw [nI_clamp (n := rest.length) (by omega), t7, nI_sub (by omega)] at e5
    have F5 : gFr ad moP t4 t5 := by rw [e5]; exact (gFr.rf L4).si rfl
    have m5 : ∀ c k, c ≠ 195 → c ≠ 197 → c < 199 → t5.2.1 (ad c) k = t.2.1 (ad c) k := fun c k h5 h7 hc => by rw [e5, g_rd_ne (nn _ _ h7 hc (by decide)), m4 c k h5 hc]
    rw [ix, nI_sub (by omega)]
    have nf80 : t5.2.1 (ad 144) 80 = nI (rest.length + 1) := by rw [m5 144 80 (by decide) (by decide) (by decide)]; exact r2
    refine m_lay (mo := mo) (nf := rest.length + 1) (tot := fsz L f + bsz L rest) (fr := bsz L rest + 2 + fnS (fAt L f) + sk.length - fnP (fAt L g)) (n := fnP (fAt L g)) hm' F5.L (T4.fr F5) hwn d1 w2 nf80 (by rw [m5 144 81 (by decide) (by decide) (by decide)]; exact r3) (by rw [m5 144 82 (by decide) (by decide) (by decide)]; exact r4) (by omega) (by omega) hal (by omega) (by omega) (by omega) (fun hz => ?_) (fun hz u Fu u144 u80 u81 u82 u198 u194 u195 u196 u197 u193 => ?_)
    · rw [if_pos (by omega)] at d3
      refine ⟨_, rfl, F5.L, fun _ => x_Mo_oneStep_417 F5.L ?_, fun q => absurd rfl q⟩
      exact told t5 2 0 (by decide) d3 (F4.tr F5) (by rw [m5 144 84 (by decide) (by decide) (by decide)]; exact r6) (m5 144 83 (by decide) (by decide) (by decide)) (m5 144 82 (by decide) (by decide) (by decide)) (m5 144 85 (by decide) (by decide) (by decide)) (fun j => m5 198 j (by decide) (by decide) (by decide))
    · rw [if_neg (by omega)] at d3
      refine ⟨_, rfl, Fu.L, fun q => absurd q (by decide), fun _ => x_Mo_oneStep_417 Fu.L ?_⟩
      refine h0 (by rw [d3]) u ?_
      rw [d3]
      have k144 : ∀ k, k ≠ 80 → k ≠ 81 → k ≠ 82 → u.2.1 (ad 144) k = t.2.1 (ad 144) k := fun k h0 h1 h2 => by rw [u144 k h0 h1 h2, m5 144 k (by decide) (by decide) (by decide)]
      have hbr : bsz L ((f, pc + 1, sl, sk.drop (fnP (fAt L g))) :: rest) = fsz L f + bsz L rest := rfl
      have hlr : ((f, pc + 1, sl, sk.drop (fnP (fAt L g))) :: rest).length = rest.length + 1 := rfl
      refine ⟨((r1.tr F4).tr F5).tr Fu, u80, ?_, ?_, (k144 83 (by decide) (by decide) (by decide)).trans r5, (k144 84 (by decide) (by decide) (by decide)).trans r6, (k144 85 (by decide) (by decide) (by decide)).trans r7, fun j v hj => by rw [u198, m5 198 j (by decide) (by decide) (by decide)]; exact r8 j v hj, ?_, ?_, ?_, ?_, fun j x hj => ?_, trivial, ?_⟩
      · rw [u81]; congr 1; show _ = fsz L g + (fsz L f + bsz L rest); omega
      · rw [u82]; congr 1; dsimp only; omega
      · rw [u194, if_pos hlr]
      · rw [u195, if_pos hlr]
      · rw [u196, if_pos hlr]; rfl
      · rw [u197, if_pos hlr]; rfl
      · have hjl := (List.getElem?_eq_some_iff.mp hj).1
        dsimp only at hjl hj
        rw [List.length_reverse, List.length_take] at hjl
        have ea := args_at s6 d2 j x hj
        rw [u193, if_pos (by rw [hbr]; omega), m5 193 _ (by decide) (by decide) (by decide)]
        refine Eq.trans (congrArg (t.2.1 (ad 193)) ?_) ea
        rw [hbr]
        clear ea u193
        omega
      · have hx : frM L wn (t5.2.1 (ad 193)) (t5.2.1 (ad 194)) (t5.2.1 (ad 195)) (t5.2.1 (ad 196)) (t5.2.1 (ad 197)) ((f, pc + 1, sl, sk.drop (fnP (fAt L g))) :: rest) := by
          have q193 : t5.2.1 (ad 193) = t.2.1 (ad 193) := funext (fun x => m5 193 x (by decide) (by decide) (by decide))
          have q194 : t5.2.1 (ad 194) = t.2.1 (ad 194) := funext (fun x => m5 194 x (by decide) (by decide) (by decide))
          have q196 : t5.2.1 (ad 196) = t.2.1 (ad 196) := funext (fun x => m5 196 x (by decide) (by decide) (by decide))
          rw [q193, q194, q196]
          refine ⟨s1, ?_, s3, ?_, s5, stk_drop sk _ s6, frM_cg rest hfit (fun _ _ => rfl) (fun i hi => ⟨rfl, ?_, rfl, ?_⟩) s7⟩
          · rw [e5, g_rd_ne (nn _ _ (by decide) (by decide) (by decide)), p5', if_pos rfl]
          · rw [e5, g_rd_at]; congr 1; dsimp only; rw [List.length_drop]; omega
          · rw [e5, g_rd_ne (nn _ _ (by decide) (by decide) (by decide)), p5', if_neg (by omega)]
          · rw [e5, g_rd_k (by omega), m4 197 _ (by decide) (by decide)]
        refine frM_cg _ (fun y hy => ?_) (fun a ha => ?_) (fun i hi => ?_) hx
        · rcases List.mem_cons.mp hy with rfl | hy
          · exact ⟨o5, by dsimp only; rw [List.length_drop]; omega⟩
          · exact hfit y hy
        · rw [hbr] at ha
          rw [u193, if_neg (by omega)]
        · rw [hlr] at hi
          exact ⟨by rw [u194, if_neg (by omega)], by rw [u195, if_neg (by omega)], by rw [u196, if_neg (by omega)], by rw [u197, if_neg (by omega)]⟩
  · -- RETURN
    refine ⟨fun c => ?_, fun c => ?_, fun c => ?_, fun c => ?_, fun c => ?_, fun c => ?_, fun c => ?_, fun c => ?_, fun c => ?_, fun c => ?_, fun c => ?_, fun c => ?_⟩ <;> first | exact absurd c (by decide) | skip
    have hT2 : r.length + 1 ≤ fnT (fAt L f) := hskT
    have l61 : nI (bsz L rest + 2 + fnS (fAt L f) + (v :: r).length) - 1 = nI (bsz L rest + 2 + fnS (fAt L f) + r.length) := l6 _ rfl
    have eb : t.2.1 (ad 193) (bsz L rest + 2 + fnS (fAt L f) + r.length) = v := s6.1
    have T4 := hTt.fr F4
    have htb : bsz L ((f, pc, sl, v :: r) :: rest) = fsz L f + bsz L rest := rfl
    refine x_Mo_oneStep_418 L4 ?_
    rw [l61, nI_clamp (n := bsz L rest + 2 + fnS (fAt L f) + r.length) (by omega), w4, eb]
    refine ⟨vb _ (by omega), fun t5 e5 => ?_⟩
    have F5 : gFr ad moP t4 t5 := by rw [e5]; exact (gFr.rf L4).si rfl
    refine m_frameM F5.L (T4.fr F5) g2 hwn o1 ⟨_, rfl, F5.L, fun t6 e6 t7' e7 => ?_⟩
    have e581 : t5.2.1 (ad 144) 81 = nI (fsz L f + bsz L rest) := by rw [e5, g_rd_k (by decide), m4 144 81 (by decide) (by decide)]; exact r3
    rw [e581, nI_sub (by omega), show fsz L f + bsz L rest - fsz L f = bsz L rest by omega] at e6
    have e680 : t6.2.1 (ad 144) 80 = nI (rest.length + 1) := by rw [e6, g_rd_k (by decide), e5, g_rd_k (by decide), m4 144 80 (by decide) (by decide)]; exact r2
    rw [e680, nI_pred] at e7
    have F7 : gFr ad moP t4 t7' := by rw [e7, e6]; exact (F5.si rfl).si rfl
    have o7 : ∀ c k, c ≠ 144 → c < 199 → t7'.2.1 (ad c) k = t4.2.1 (ad c) k := fun c k hc hl => by rw [e7, g_rd_ne (nn _ _ hc hl (by decide)), e6, g_rd_ne (nn _ _ hc hl (by decide)), e5, g_rd_ne (nn _ _ hc hl (by decide))]
    have k7 : ∀ k, k ≠ 80 → k ≠ 81 → k ≠ 84 → t7'.2.1 (ad 144) k = t.2.1 (ad 144) k := fun k h0 h1 h4 => by rw [e7, g_rd_k h0, e6, g_rd_k h1, e5, g_rd_k h4, m4 144 k (by decide) (by decide)]
    have f80 : t7'.2.1 (ad 144) 80 = nI rest.length := by rw [e7, g_rd_at]
    have f81 : t7'.2.1 (ad 144) 81 = nI (bsz L rest) := by rw [e7, g_rd_k (by decide), e6, g_rd_at]
    have f84 : t7'.2.1 (ad 144) 84 = v := by rw [e7, g_rd_k (by decide), e6, g_rd_k (by decide), e5, g_rd_at]
    rw [f80]
    rcases d3 with ⟨rfl, d3⟩ | ⟨f2, pc2, sl2, sk2, rest2, rfl, d3⟩
    · refine ⟨fun q => absurd rfl q, fun _ => ?_⟩
      exact told t7' 1 v (by decide) d3 (F4.tr F7) f84 (k7 83 (by decide) (by decide) (by decide)) (k7 82 (by decide) (by decide) (by decide)) (k7 85 (by decide) (by decide) (by decide)) (fun j => by rw [o7 198 j (by decide) (by decide), m4 198 j (by decide) (by decide)])
    · obtain ⟨v1, v2, v3, v4, v5⟩ := hw _ List.mem_cons_self
      dsimp only at v1 v2 v3 v4 v5
      have hb2 : bsz L ((f2, pc2, sl2, sk2) :: rest2) = fsz L f2 + bsz L rest2 := rfl
      have hfs2 : fsz L f2 = 2 + fnS (fAt L f2) + fnT (fAt L f2) := rfl
      have hsk2 : sk2.length + 1 ≤ fnT (fAt L f2) := by
        obtain ⟨qq, hqq⟩ : ∃ q, (fnC (fAt L f2))[pc2]? = some q := ⟨_, List.getElem?_eq_getElem v2⟩
        have := ((g3 f2 v1).2.2.2.2.2.2.2.2.2.2 pc2 qq hqq).1
        omega
      have hlr : ((f2, pc2, sl2, sk2) :: rest2).length = rest2.length + 1 := rfl
      obtain ⟨c1, c2, c3, c4, c5, c6, c7⟩ := s7
      dsimp only at c1 c2 c3 c4 c5 c6
      rw [hlr] at hrl hv7 ⊢
      have q197 : t7'.2.1 (ad 197) rest2.length = nI (bsz L rest2 + 2 + fnS (fAt L f2) + sk2.length) := by rw [o7 197 _ (by decide) (by decide), m4 197 _ (by decide) (by decide)]; exact c4
      rw [nI_pred, nI_clamp (n := rest2.length) (by omega), q197, nI_clamp (n := bsz L rest2 + 2 + fnS (fAt L f2) + sk2.length) (by omega), f84]
      have hv72 := vp_in_nI (n := rest2.length) (N := 7000) (by omega) (by omega)
      refine ⟨fun _ => ⟨hv72, vb _ (by omega), fun t8 e8 => ?_⟩, fun q => absurd (nI_ne0 (by omega) (by omega)) q⟩
      have e880 : t8.2.1 (ad 144) 80 = nI (rest2.length + 1) := by rw [e8, g_rd_ne (nn _ _ (by decide) (by decide) (by decide)), f80, hlr]
      have e8197 : t8.2.1 (ad 197) rest2.length = nI (bsz L rest2 + 2 + fnS (fAt L f2) + sk2.length) := by rw [e8, g_rd_ne (nn _ _ (by decide) (by decide) (by decide)), q197]
      rw [e880, nI_pred, nI_clamp (n := rest2.length) (by omega), e8197, nI_1]
      refine ⟨hv72, hv72, fun t9 e9 u eu => ?_⟩
      have ou : ∀ c k, c ≠ 144 → c ≠ 193 → c ≠ 197 → c < 199 → u.2.1 (ad c) k = t4.2.1 (ad c) k := fun c k h1 h3 h7 hl => by rw [eu, g_rd_ne (nn _ _ h1 hl (by decide)), e9, g_rd_ne (nn _ _ h7 hl (by decide)), e8, g_rd_ne (nn _ _ h3 hl (by decide)), o7 c k h1 hl]
      have ku : ∀ k, k ≠ 84 → u.2.1 (ad 144) k = t7'.2.1 (ad 144) k := fun k h => by rw [eu, g_rd_k h, e9, g_rd_ne (nn _ _ (by decide) (by decide) (by decide)), e8, g_rd_ne (nn _ _ (by decide) (by decide) (by decide))]
      have hmem : ∀ x, u.2.1 (ad 193) x = if x = bsz L rest2 + 2 + fnS (fAt L f2) + sk2.length then v else t.2.1 (ad 193) x := fun x => by
        rw [eu, g_rd_ne (nn _ _ (by decide) (by decide) (by decide)), e9, g_rd_ne (nn _ _ (by decide) (by decide) (by decide)), e8]
        by_cases z : x = bsz L rest2 + 2 + fnS (fAt L f2) + sk2.length
        · rw [z, g_rd_at, if_pos rfl]
        · rw [g_rd_k z, if_neg z, o7 193 _ (by decide) (by decide), w4]
      have h197 : ∀ j, u.2.1 (ad 197) j = if j = rest2.length then nI (bsz L rest2 + 2 + fnS (fAt L f2) + sk2.length + 1) else t.2.1 (ad 197) j := fun j => by
        rw [eu, g_rd_ne (nn _ _ (by decide) (by decide) (by decide)), e9]
        by_cases z : j = rest2.length
        · rw [z, g_rd_at, if_pos rfl]
        · rw [g_rd_k z, if_neg z, e8, g_rd_ne (nn _ _ (by decide) (by decide) (by decide)), o7 197 _ (by decide) (by decide), m4 197 _ (by decide) (by decide)]
      have h195 : ∀ j, j < rest2.length + 1 → u.2.1 (ad 195) j = t.2.1 (ad 195) j := fun j hj => by rw [ou 195 j (by decide) (by decide) (by decide) (by decide), p5', if_neg (by rw [hlr]; omega)]
      have h194 : ∀ j, u.2.1 (ad 194) j = t.2.1 (ad 194) j := fun j => by rw [ou 194 j (by decide) (by decide) (by decide) (by decide), m4 194 j (by decide) (by decide)]
      have h196 : ∀ j, u.2.1 (ad 196) j = t.2.1 (ad 196) j := fun j => by rw [ou 196 j (by decide) (by decide) (by decide) (by decide), m4 196 j (by decide) (by decide)]
      refine h0 (by rw [d3]) u ?_
      rw [d3]
      refine ⟨(r1.tr F4).tr (F7.tr (by rw [eu, e9, e8]; exact (((gFr.rf F7.L).si rfl).si rfl).si rfl)), ?_, ?_, ?_, ?_, by rw [eu, g_rd_at], ?_, fun j x hj => ?_, ?_, ?_, ?_, ?_, fun j x hj => ?_, stk_push hmem c6, ?_⟩
      · rw [ku 80 (by decide), f80]; rfl
      · rw [ku 81 (by decide), f81]; rfl
      · rw [ku 82 (by decide), k7 82 (by decide) (by decide) (by decide)]; exact r4
      · rw [ku 83 (by decide), k7 83 (by decide) (by decide) (by decide)]; exact r5
      · rw [ku 85 (by decide), k7 85 (by decide) (by decide) (by decide)]; exact r7
      · rw [ou 198 j (by decide) (by decide) (by decide) (by decide), m4 198 j (by decide) (by decide)]; exact r8 j x hj
      · rw [h194]; exact c1
      · rw [h195 _ (by omega)]; exact c2
      · rw [h196]; exact c3
      · rw [h197, if_pos rfl]; rfl
      · have := (List.getElem?_eq_some_iff.mp hj).1
        dsimp only at this
        rw [hmem, if_neg (by omega)]
        exact c5 j x hj
      · exact frM_cg rest2 (fun y hy => hfit y (List.mem_cons_of_mem _ hy)) (fun a ha => by rw [hmem, if_neg (by omega)]) (fun i hi => ⟨h194 i, h195 i (by omega), h196 i, by rw [h197, if_neg (by omega)]⟩) c7
  · -- AGAIN, TAIL
    have hg24 : g < 24 := by omega
    obtain ⟨w1, w2, w3, w4', w5, w6, w7, w8, w9, w10, w11⟩ := g3 g d1
    have T4 := hTt.fr F4
    have hfg : fsz L g = 2 + fnS (fAt L g) + fnT (fAt L g) := rfl
    have htb : bsz L ((f, pc, sl, sk) :: rest) = fsz L f + bsz L rest := rfl
    have hmod : nI (24 * wn + g) - nI (24 * wn + g) / 24 * 24 = nI g := by
      rw [show (24 : Int32) = nI 24 from rfl, nI_div (by omega) (by omega), nI_mul, nI_sub (by omega)]
      congr 1
      omega
    have key : g_E cx (d + 4) i_Mo_replaceFrame [.ref (ad 144), .int (nI (24 * wn + g)), .int (nI (24 * wn + f)), .int (nI (bsz L rest + 2 + fnS (fAt L f) + sk.length)), .int (nI al)] t4 (fun r u1 => ∃ y2 : Int32, r = some (.int y2) ∧ Lay u1 ad ∧ (post (some (.int y2)) u1)) := by
      refine x_Mo_replaceFrame L4 ?_
      rw [hmod, nI_clamp (n := g) (by omega), (T4 g d1).1]
      refine ⟨vp_in_nI (by omega) (by omega), fun x1 e1 => ?_⟩
      subst e1
      have loop : ∀ k i (u : gSt), k + i = fnP (fAt L g) → gFr ad moP t4 u → (∀ c k, c ≠ 193 → c < 199 → u.2.1 (ad c) k = t4.2.1 (ad c) k) → (∀ x, u.2.1 (ad 193) x = if 20110 ≤ x ∧ x < 20110 + i then t.2.1 (ad 193) (bsz L rest + 2 + fnS (fAt L f) + sk.length - fnP (fAt L g) + (x - 20110)) else t.2.1 (ad 193) x) → g_W cx (g_E cx (d + 3)) mt_Mo_replaceFrame (fun r u1 => ∃ y2 : Int32, r = some (.int y2) ∧ Lay u1 ad ∧ (post (some (.int y2)) u1)) (14, [some (.ref (ad 144)), some (.int (nI (24 * wn + g))), some (.int (nI (24 * wn + f))), some (.int (nI (bsz L rest + 2 + fnS (fAt L f) + sk.length))), some (.int (nI al)), some (.int (nI (fnP (fAt L g)))), some (.int (nI i))], [], u, 0, 0) := by
        intro k
        induction k with
        | zero =>
          intro i u hk hF hs hx
          have hi : i = fnP (fAt L g) := by omega
          subst hi
          refine x_Mo_replaceFrame_14 hF.L ⟨fun _ => ?_, fun q => absurd (nI_le (Nat.le_refl _) (by omega)) q⟩
          have TU := T4.fr hF
          refine m_frameM hF.L TU g2 hwn o1 ⟨_, rfl, hF.L, fun t6 e6 t7' e7 => ?_⟩
          have e81 : u.2.1 (ad 144) 81 = nI (fsz L f + bsz L rest) := by rw [hs 144 81 (by decide) (by decide), m4 144 81 (by decide) (by decide)]; exact r3
          rw [e81, nI_sub (by omega), show fsz L f + bsz L rest - fsz L f = bsz L rest by omega] at e6
          have e680 : t6.2.1 (ad 144) 80 = nI (rest.length + 1) := by rw [e6, g_rd_k (by decide), hs 144 80 (by decide) (by decide), m4 144 80 (by decide) (by decide)]; exact r2
          rw [e680, nI_pred] at e7
          have F7 : gFr ad moP u t7' := by rw [e7, e6]; exact ((gFr.rf hF.L).si rfl).si rfl
          have o7 : ∀ c k, c ≠ 144 → c < 199 → t7'.2.1 (ad c) k = u.2.1 (ad c) k := fun c k hc hl => by rw [e7, g_rd_ne (nn _ _ hc hl (by decide)), e6, g_rd_ne (nn _ _ hc hl (by decide))]
          have k7 : ∀ k, k ≠ 80 → k ≠ 81 → t7'.2.1 (ad 144) k = t.2.1 (ad 144) k := fun k h0 h1 => by rw [e7, g_rd_k h0, e6, g_rd_k h1, hs 144 k (by decide) (by decide), m4 144 k (by decide) (by decide)]
          refine m_lay (mo := mo) (nf := rest.length) (tot := bsz L rest) (fr := 20110) (n := fnP (fAt L g)) hm' F7.L (TU.fr F7) hwn d1 w2 (by rw [e7, g_rd_at]) (by rw [e7, g_rd_k (by decide), e6, g_rd_at]) (by rw [k7 82 (by decide) (by decide)]; exact r4) (by omega) (by omega) hal (by omega) (by omega) (by omega) (fun hz => ?_) (fun hz u' Fu u144 u80 u81 u82 u198 u194 u195 u196 u197 u193 => ?_)
          · rw [if_pos (by omega)] at d3
            refine ⟨_, rfl, F7.L, fun _ => ⟨_, rfl, F7.L, ?_⟩, fun q => absurd rfl q⟩
            exact told t7' 2 0 (by decide) d3 ((F4.tr hF).tr F7) (by rw [k7 84 (by decide) (by decide)]; exact r6) (k7 83 (by decide) (by decide)) (k7 82 (by decide) (by decide)) (k7 85 (by decide) (by decide)) (fun j => by rw [o7 198 j (by decide) (by decide), hs 198 j (by decide) (by decide), m4 198 j (by decide) (by decide)])
          · rw [if_neg (by omega)] at d3
            refine ⟨_, rfl, Fu.L, fun q => absurd q (by decide), fun _ => ⟨_, rfl, Fu.L, ?_⟩⟩
            refine h0 (by rw [d3]) u' ?_
            rw [d3]
            have k144 : ∀ k, k ≠ 80 → k ≠ 81 → k ≠ 82 → u'.2.1 (ad 144) k = t.2.1 (ad 144) k := fun k h0 h1 h2 => by rw [u144 k h0 h1 h2, k7 k h0 h1]
            have oc : ∀ c k, c ≠ 144 → c ≠ 193 → c ≠ 195 → c < 199 → t7'.2.1 (ad c) k = t.2.1 (ad c) k := fun c k h1 h3 h5 hl => by rw [o7 c k h1 hl, hs c k h3 hl, m4 c k h5 hl]
            refine ⟨(((r1.tr F4).tr hF).tr F7).tr Fu, u80, ?_, ?_, (k144 83 (by decide) (by decide) (by decide)).trans r5, (k144 84 (by decide) (by decide) (by decide)).trans r6, (k144 85 (by decide) (by decide) (by decide)).trans r7, fun j v hj => by rw [u198, oc 198 j (by decide) (by decide) (by decide) (by decide)]; exact r8 j v hj, ?_, ?_, ?_, ?_, fun j x hj => ?_, trivial, ?_⟩
            · rw [u81]; congr 1; exact Nat.add_comm _ _
            · rw [u82]
            · rw [u194, if_pos rfl]
            · rw [u195, if_pos rfl]
            · rw [u196, if_pos rfl]
            · rw [u197, if_pos rfl]; rfl
            · have hjl := (List.getElem?_eq_some_iff.mp hj).1
              dsimp only at hjl hj
              rw [List.length_reverse, List.length_take] at hjl
              have ea := args_at s6 d2 j x hj
              rw [u193, if_pos (by omega), o7 193 _ (by decide) (by decide), hx, if_pos (by omega)]
              refine Eq.trans (congrArg (t.2.1 (ad 193)) ?_) ea
              clear ea u193 hx
              omega
            · refine frM_cg rest hfit (fun a ha => ?_) (fun i hi => ⟨?_, ?_, ?_, ?_⟩) s7
              · rw [u193, if_neg (by omega), o7 193 _ (by decide) (by decide), hx, if_neg (by omega)]
              · rw [u194, if_neg (by omega), oc 194 _ (by decide) (by decide) (by decide) (by decide)]
              · rw [u195, if_neg (by omega), o7 195 _ (by decide) (by decide), hs 195 _ (by decide) (by decide), p5', if_neg (by omega)]
              · rw [u196, if_neg (by omega), oc 196 _ (by decide) (by decide) (by decide) (by decide)]
              · rw [u197, if_neg (by omega), oc 197 _ (by decide) (by decide) (by decide) (by decide)]
        | succ k ih =>
          intro i u hk hF hs hx
          refine x_Mo_replaceFrame_14 hF.L ⟨fun q => ?_, fun _ => ?_⟩
          · rw [nI_leI (by omega) (by omega)] at q
            omega
          · rw [nI_sub (by omega), nI_add, show (20110 : Int32) = nI 20110 from rfl, nI_add, nI_clamp (n := bsz L rest + 2 + fnS (fAt L f) + sk.length - fnP (fAt L g) + i) (by omega), nI_clamp (n := 20110 + i) (by omega), nI_1]
            refine ⟨vb _ (by omega), vb _ (by omega), fun t12 e12 => ?_⟩
            refine ih (i + 1) t12 (by omega) (by rw [e12]; exact hF.si rfl) (fun c k hc hl => by rw [e12, g_rd_ne (nn _ _ hc hl (by decide)), hs c k hc hl]) (fun x => ?_)
            rw [e12]
            by_cases z : x = 20110 + i
            · subst z
              rw [g_rd_at, if_pos (by omega), hx (bsz L rest + 2 + fnS (fAt L f) + sk.length - fnP (fAt L g) + i), if_neg (by omega), show 20110 + i - 20110 = i by omega]
            · rw [g_rd_k z, hx]
              by_cases z2 : 20110 ≤ x ∧ x < 20110 + i
              · rw [if_pos z2, if_pos (by omega)]
              · rw [if_neg z2, if_neg (by omega)]
      exact loop (fnP (fAt L g)) 0 t4 (by omega) (gFr.rf L4) (fun _ _ _ _ => rfl) (fun x => by rw [if_neg (by omega), w4])
    have k182 : ∀ z : Int32, t.2.1 (ad 182) (1600 * (24 * wn + f) + pc) = z → t4.2.1 (ad 182) (nI (1600 * (24 * wn + f) + pc)).toNatClampNeg = z := fun z hz => by rw [nI_clamp (by omega), m4 182 _ (by decide) (by decide), hz]
    have hv1 : vp_in (nI (1600 * (24 * wn + f) + pc)) 76800 := vp_in_nI (by omega) (by omega)
    rcases d0 with ⟨rfl, rfl⟩ | ⟨rfl, rfl⟩
    · refine ⟨fun c => ?_, fun c => ?_, fun c => ?_, fun c => ?_, fun c => ?_, fun c => ?_, fun c => ?_, fun c => ?_, fun c => ?_, fun c => ?_, fun c => ?_, fun c => ?_⟩ <;> first | exact absurd c (by decide) | skip
      refine x_Mo_oneStep_506 L4 ?_
      rw [k182 18 ew.1]
      exact ⟨hv1, fun q => absurd rfl q, fun _ => x_Mo_oneStep_533 L4 key⟩
    · refine ⟨fun c => ?_, fun c => ?_, fun c => ?_, fun c => ?_, fun c => ?_, fun c => ?_, fun c => ?_, fun c => ?_, fun c => ?_, fun c => ?_, fun c => ?_, fun c => ?_⟩ <;> first | exact absurd c (by decide) | skip
      refine x_Mo_oneStep_506 L4 ?_
      have ix : (nI (24 * wn + f) / 24 * 24) + nI g = nI (24 * wn + g) := by
        rw [show (24 : Int32) = nI 24 from rfl, nI_div (by omega) (by omega), nI_mul, nI_add]
        congr 1
        omega
      rw [k182 19 ew.1, ix]
      exact ⟨hv1, fun _ => x_Mo_oneStep_533 L4 key, fun q => absurd (by decide) q⟩
end MS
