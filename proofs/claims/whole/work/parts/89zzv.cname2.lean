/-! THE CLASS READS AN EXPRESSION: names -/
section CM
variable {cx : gCx} {d dm : Nat} {ad : Nat → Nat} {T : Nat → Nat} {n p Pm st c0 x o : Nat}
abbrev W82 (cx : gCx) (d : Nat) (ad : Nat → Nat) (post : Option Value → gSt → Prop) (l1 : Int64) (l3 l4 l5 l6 l7 : Int32) (pc : Nat) (u : gSt) : Prop := g_W cx (g_E cx (d + 13)) mt_Reader_readName post (pc, [some (.ref (ad 3)), some (.long l1), none, some (.int l3), some (.int l4), some (.int l5), some (.int l6), some (.int l7)], [], u, 0, 0)
/-- a call's end, behind a fault -/
theorem n131_d {post : Option Value → gSt → Prop} {l1 : Int64} {l3 l5 l6 l7 : Int32} {c c' q : Nat} {u : gSt} (hc : c < 1000) (hL : Lay u ad) (hd : ddC ad c' q u) (k1 : ∀ w, gFr ad (crxP p) u w → ddC ad c' q w → post none w) : W82 cx d ad post l1 l3 (nI c) l5 l6 l7 131 u := by
  refine x_Reader_readName_131 hL ?_
  rw [nI_clamp (by omega)]
  refine ⟨vp_in_nI hc (by omega), fun t1 e1 => ?_⟩
  have F1 : gFr ad kcP u t1 := by rw [e1]; exact (gFr.rf hL).si rfl
  have hd1 := hd.fr F1 (fun k => rfl)
  refine m_needD F1.L hd1.ne (by decide) ⟨_, rfl, F1.L, fun t4 e4 => ?_⟩
  have F4 : gFr ad (c3P 10) t1 t4 := by rw [e4]; exact (gFr.rf F1.L).si rfl
  exact k1 t4 ((F1.mo (fun c k z => ce_kc z)).tr (F4.mo (fun c k z => ce_3 (by decide) z))) (hd1.fr F4 (fun k => rfl))
theorem sh_name (hcs : g_CS cx) (hp : isQ p) (hT : txt T n) (hx : x < 72) (hE : o < 30 → Sp cx dm ad T n p Pm st c0 x i_Reader_readExpression (d + 13) 1 0 (o + 1)) : SpN cx dm ad T n p Pm st c0 x i_Reader_readName (d + 14) o 2 := by
  intro a l N sc cl ac t post hL hR hC hk hB kl kd
  have hn := hT.1
  have hpg := hp.ge
  obtain ⟨⟨b1, b2, b3', b4, b5, b6, b7, b8⟩, b9, b10⟩ := hB
  have hk1 : ∀ V K, VK V K a 4 cl.length → K.length < 19000 := fun V K hV => by have := hV.2.2; omega
  have hE1 := tkE_gt hT b1 (by omega)
  have hE2 := tkE_le hT b1
  have hS := tkS_ge (T := T) (n := n) (a := a)
  have hS2 := tkE_gp hT b1 (by omega)
  have hnm := tkN_ok hT b1 hk
  refine x_Reader_readName hL (fun x1 e1 x2 e2 => ?_)
  rw [hC.2.2.2.2.2.2.2 hk] at e1
  rw [hC.2.2.2.2.2.1] at e2
  rw [e1, e2]
  refine m_takeC hL hC (fun u3 F3 c3 _ => ⟨rfl, F3.L, ?_⟩)
  have cr3 := hR.tc F3
  refine m_isAtC (kk := 10) (by decide) rfl hcs F3.L cr3.1 hE2 c3 (fun u5 F5 h5 => ⟨_, rfl, F5.L, fun z => ?_, fun z => ?_⟩) (fun h23 u5 F5 h5 => ⟨_, rfl, F5.L, fun z => absurd rfl z, fun _ => ?_⟩)
  rotate_left
  · -- a variable
    have hk2 : ¬ tkK T n (tkE T n a) = 10 := b32_d.mp (Classical.not_not.mp z)
    have F35 := F3.tr F5
    refine m_addVar hp F5.L (cr3.tc F5) (by omega) hnm b9 (by omega) (by omega) h5.1 (fun v u e F c b r => ⟨rfl, F.L, ?_⟩) (fun e u F hd => ⟨rfl, F.L, kd 4 _ u ((F35.mo (fun c k z => ce_tc z)).tr F) hd (fun V K hV => r_var_f b1 (hk1 V K hV) hT hk hk2 h5.2.2.1 hx (by omega) (fun q hq => (b9 q hq).1) (by have := hV.1; omega) (by have := hV.1; omega) e)⟩)
    refine kl (tkE T n a) l cl ac (.inner 0 2 (nI v) .leaf .leaf) u rfl ⟨(F35.mo (fun c k z => ce_tc z)).tr (F.mo (fun c k z => ce_in z)), PG.lf (Or.inr ⟨rfl, scl_in sc.length (Nat.le_refl _) e⟩) hE1 b2 (b10.mo (by omega)), c, h5.cu.fr F (fun k => bool_r inP_i (by omega)), hE2, ((bt hp F35) _).tr b, r, (bc F35 _).tr (bci hp F _), fun i q hi hq => absurd (List.getElem?_eq_some_iff.mp hq).1 (by omega)⟩ (fun V K hV => r_var b1 (hk1 V K hV) hT hk hk2 h5.2.2.1 hx (by omega) (fun q hq => (b9 q hq).1) (by have := hV.1; omega) (by have := hV.1; omega) e)
  · -- behind a fault
    have F35 := F3.tr F5
    have cr5 := cr3.tc F5
    have dn : ∀ (y : Int32), g_E cx (d + 12) i_Reader_addNode [.ref (ad 3), .int 2, .int y] u5 (fun r u7 => r = none ∧ Lay u7 ad ∧ (r = none → post none u7)) := fun y => m_addN hp F5.L cr5 (by omega) (by omega) (fun u F c b r => ⟨rfl, F.L, fun _ => kd 1 _ u ((F35.mo (fun c k z => ce_tc z)).tr (F.mo (fun c k z => ce_in z))) (h5.fr F (fun k => bool_r inP_i (by omega))) (fun V K hV => r_nm_bad b1 (hk1 V K hV) hT hk h23)⟩)
    refine x_Reader_addVariable F5.L (m_findVar F5.L cr5 (by omega) hnm (fun q hq => (b9 q hq).1) ⟨_, rfl, F5.L, fun _ => ?_, fun _ => m_failD F5.L h5.ne ⟨rfl, F5.L, ?_⟩⟩)
    · refine g_Em (dn _) (fun r u hh => ?_)
      obtain ⟨e, hL, hh⟩ := hh
      exact ⟨e, hL, ⟨rfl, hL, hh e⟩⟩
    · refine g_Em (dn _) (fun r u hh => ?_)
      obtain ⟨e, hL, hh⟩ := hh
      exact ⟨e, hL, ⟨rfl, hL, hh e⟩⟩
  -- a call
  have hk2 : tkK T n (tkE T n a) = 10 := Classical.byContradiction (fun y => z (b32_f y))
  have hE3 := tkE_gt hT hE2 (by omega)
  have hE4 := tkE_le hT hE2
  have cr5 := cr3.tc F5
  have F35 := F3.tr F5
  have hcl : cl.length < 1000 := by omega
  refine x_Reader_beginCall F5.L (fun x8 e8 => ?_)
  rw [cr5.2.2.1] at e8
  rw [e8]
  refine x_Reader_openBracket F5.L (m_isAtC (kk := 10) (by decide) rfl hcs F5.L cr5.1 hE2 h5.cu (fun u6 F6 h6 => ⟨_, rfl, F6.L, fun y => absurd hk2 (b32_d.mp y), fun _ => ?_⟩) (fun y => by omega))
  have cr6 := cr5.tc F6
  have F36 := F35.tr F6
  refine m_opensC F6.L cr6 h6 b3' (fun ho u7 F7 c7 h7 => ⟨_, rfl, F7.L, fun _ => ?_, fun z => absurd (show ¬ (1 : Int32) = 0 by decide) z⟩) (fun ho u7 F7 h7 => ⟨_, rfl, F7.L, fun z => absurd rfl z, fun _ => ⟨_, rfl, F7.L, fun _ => ⟨_, rfl, F7.L, fun z => absurd rfl z, fun _ => kd 5 _ u7 ((F36.tr F7).mo (fun c k z => ce_tc z)) h7 (fun V K hV => r_call_30 b1 (hk1 V K hV) hT hk hk2 ho)⟩, fun z => absurd rfl z⟩⟩)
  refine m_needC (kk := 10) (by decide) rfl hcs F7.L c7.1 hE2 h7.cu (fun _ u8 F8 c8 _ => ⟨_, rfl, F8.L, rfl, _, rfl, F8.L, fun z => absurd z (by decide), fun _ => ⟨fun _ t4 e4 => ?_, fun z => absurd (nI_lt (b := 1000) hcl (by decide)) z⟩⟩) (fun y => absurd hk2 y)
  have cr8 := c7.tc F8
  rw [cr8.2.2.1, nI_1] at e4
  rw [nI_clamp (by omega)]
  have hvp : vp_in (nI cl.length) 1000 := vp_in_nI hcl (by omega)
  refine ⟨hvp, fun t5 e5 => ⟨hvp, fun t6 e6 => ?_⟩⟩
  have Fk : gFr ad kcP u8 t6 := by rw [e6, e5, e4]; exact (((gFr.rf F8.L).si rfl).sj rfl).si rfl
  have k8 : t6.2.1 (ad 3) 8 = nI (cl.length + 1) := by rw [e6, g_rd_ne (F8.L.ne 3 6 (by decide) (by decide) (by decide)), e5, g_sj_i, e4, g_rd_at]
  have cr9 := cr8.cn1 (cn' := cl.length + 1) Fk k8
  refine m_addN hp Fk.L cr9 (by omega) (by omega) (fun uc Fc cc blc rc => ⟨rfl, Fc.L, _, rfl, Fc.L, fun _ => ?_, fun z => ?_⟩)
  rotate_left
  · have z : nI cl.length = -1 := Classical.not_not.mp z
    have : (-1 : Int32) < 0 := by decide
    rw [← z] at this
    exact absurd this (nI_pos (by omega))
  -- the state behind the bracket
  have b88 : ∀ U, bel ad p U t t6 := fun U => (((bt hp F36) U).tr ((b3 hp F7) U)).tr (((bt hp F8) U).tr (bel.fr (by omega) Fk (fun c k z => bool_r kcP_i (by omega))))
  have Gc : gFr ad (crxP p) t uc := ((((F36.mo (fun c k z => ce_tc z)).tr (F7.mo (fun c k z => ce_3 (by decide) z))).tr (F8.mo (fun c k z => ce_tc z))).tr (Fk.mo (fun c k z => ce_kc z))).tr (Fc.mo (fun c k z => ce_in z))
  have belc : bel ad p (st + min N 400) t uc := (b88 _).tr blc
  have cu9 : cuC ad T n (tkE T n (tkE T n a)) uc := (c8.fr Fk (fun k => rfl)).fr Fc (fun k => bool_r inP_i (by omega))
  have bk : belC ad cl.length u8 t6 := fun i hi => by
    rw [e6, g_si_j, g_rd_ne (F8.L.ne 7 6 (by decide) (by decide) (by decide)), e5, e4]
    refine ⟨?_, ?_, ?_⟩
    · rw [g_rdj, if_neg (by omega), g_si_j]
    · rw [g_rd_k (by omega), g_sj_i, g_rd_ne (F8.L.ne 6 3 (by decide) (by decide) (by decide))]
    · rw [g_sj_i, g_rd_ne (F8.L.ne 7 3 (by decide) (by decide) (by decide))]
  have bcc : belC ad cl.length t uc := (((bc F36 _).tr (bc3 F7 _)).tr (bc F8 _)).tr (bk.tr (bci hp Fc _))
  have k5 : uc.2.2.1 (ad 5) cl.length = pk8 (tkN T n a) := by
    rw [Fc.j 5 _ (bool_r inP_i (by omega)), e6, g_si_j, e5, g_rdj, if_pos ⟨rfl, rfl⟩]
  have k6 : uc.2.1 (ad 6) cl.length = nI (tkS T n a) := by
    rw [Fc.i 6 _ (bool_r inP_i (by omega)), e6, g_rd_at]
  obtain ⟨clc, eclc⟩ : ∃ clc : CL, clc = cl ++ [(tkN T n a, tkS T n a, x)] := ⟨_, rfl⟩
  obtain ⟨acc, eacc⟩ : ∃ acc : Nat → Nat, acc = fup ac cl.length 0 := ⟨_, rfl⟩
  have lclc : clc.length = cl.length + 1 := by rw [eclc, List.length_append]; rfl
  have hclk : clOk clc (tkE T n (tkE T n a)) := by rw [eclc]; exact b10.ap hS (by omega) hnm
  -- the end of the call, all arguments being read
  have fin : ∀ (W : Fo) (a3 l3 : Nat) (cl3 : CL) (ac3 : Nat → Nat) (u : gSt) (l6 l7 : Int32), PG Pm x (o + 1) cl.length (tkE T n (tkE T n a)) l sc clc acc a3 l3 cl3 ac3 W → fo_l W = ac3 cl.length → ac3 cl.length < 2 ^ 31 → a3 ≤ n → gFr ad (crxP p) uc u → CR ad T n p Pm st l3 (o + 1) sc cl3.length (N + 1 + fo_n W) u → cuC ad T n a3 u → LC ad p st (N + 1) uc W u → CCc ad clc uc cl3 ac3 u →
      (tkK T n a3 = 11 → ∀ V K, VK V K a 4 cl.length → RcT cx dm ad T n x Pm c0 (a, l, o, sc, cl, ac, V, K ++ [(18, 0, [])]) (tkE T n a3, l3, o, sc, cl3, ac3, fo_ap V (.inner 0 15 (nI cl.length) W .leaf), K)) →
      (tkK T n a3 ≠ 11 → ∀ V K, VK V K a 4 cl.length → RfT cx dm ad T n x Pm c0 (a, l, o, sc, cl, ac, V, K ++ [(18, 0, [])]) (fcd T n a3) (tkS T n a3)) →
      W82 cx d ad post (pk8 (tkN T n a)) (nI (tkS T n a)) (nI cl.length) (nI (ac3 cl.length)) l6 l7 131 u := by
    intro W a3 l3 cl3 ac3 u l6 l7 hg hW hac ha3 Fu cru cuu lcu ccu rg rb
    have gle := hg.le
    have hg1 := hg.1
    refine x_Reader_readName_131 Fu.L ?_
    rw [nI_clamp (by omega)]
    refine ⟨hvp, fun t1 e1 => ?_⟩
    have F1 : gFr ad kcP u t1 := by rw [e1]; exact (gFr.rf Fu.L).si rfl
    have cr1 := cru.cn1 F1 (by rw [e1, g_rd_ne (Fu.L.ne 3 7 (by decide) (by decide) (by decide))]; exact cru.2.2.1)
    refine m_needC (kk := 11) (by decide) rfl hcs F1.L cr1.1 ha3 (cuu.fr F1 (fun k => rfl)) (fun hk11 w Fw cw _ => ⟨_, rfl, Fw.L, fun t7 e7 => ?_⟩) (fun hk11 w Fw hd => ⟨_, rfl, Fw.L, fun t7 e7 => ?_⟩)
    · have crw := cr1.tc Fw
      rw [crw.2.2.2.2.1, nI_pred] at e7
      obtain ⟨c7', F7'⟩ := crw.op Fw.L e7
      have hE9 := tkE_gt hT ha3 (by omega)
      have bw : ∀ U, bel ad p U u t7 := fun U => ((bel.fr (by omega) F1 (fun c k z => bool_r kcP_i (by omega))).tr ((bt hp Fw) U)).tr ((b3 hp F7') U)
      have bcw : ∀ U, belC ad U t1 t7 := fun U => (bc Fw U).tr (bc3 F7' U)
      have en : fo_n (.inner 0 15 (nI cl.length) W .leaf) = fo_n W + 1 := by simp only [fo_n]; try omega
      have lcn := LC.nd belc rc (fun U => bel.rf) (lcu.fr bw)
      have hpg' : PG Pm x o cl.length a l sc cl ac (tkE T n a3) l3 cl3 ac3 (.inner 0 15 (nI cl.length) W .leaf) := by
        rw [eclc, eacc] at hg
        exact PG.ca hg hW (by omega) hE9 (by omega) ho
      refine kl (tkE T n a3) l3 cl3 ac3 (.inner 0 15 (nI cl.length) W .leaf) t7 rfl ⟨(((Gc.tr Fu).tr (F1.mo (fun c k z => ce_kc z))).tr (Fw.mo (fun c k z => ce_tc z))).tr (F7'.mo (fun c k z => ce_3 (by decide) z)), hpg', ?_, cw.fr F7' (fun k => rfl), tkE_le hT ha3, lcn.1, lcn.2, fun i hi => ?_, fun i q hi hq => ?_⟩ (rg hk11)
      · rw [en, show N + (fo_n W + 1) = N + 1 + fo_n W by omega]
        exact c7'
      · have x1 := bcc i hi
        have x2 := ccu.1 i (by omega)
        have x3 := bcw (i + 1) i (by omega)
        have y5 : t1.2.2.1 (ad 5) i = u.2.2.1 (ad 5) i := by rw [e1, g_si_j]
        have y6 : t1.2.1 (ad 6) i = u.2.1 (ad 6) i := by rw [e1, g_rd_ne (Fu.L.ne 6 7 (by decide) (by decide) (by decide))]
        have y7 : t1.2.1 (ad 7) i = u.2.1 (ad 7) i := by rw [e1, g_rd_k (by omega)]
        rw [x3.1, x3.2.1, x3.2.2, y5, y6, y7, x2.1, x2.2.1, x2.2.2]
        exact x1
      · have x3 := bcw (i + 1) i (by omega)
        have y5 : t1.2.2.1 (ad 5) i = u.2.2.1 (ad 5) i := by rw [e1, g_si_j]
        have y6 : t1.2.1 (ad 6) i = u.2.1 (ad 6) i := by rw [e1, g_rd_ne (Fu.L.ne 6 7 (by decide) (by decide) (by decide))]
        by_cases hic : i = cl.length
        · have hq0 : clc[i]? = some q := cl_pre hg (by omega) hq
          rw [eclc, List.getElem?_append_right (by omega), hic, Nat.sub_self] at hq0
          have hq0 : (tkN T n a, tkS T n a, x) = q := by simpa using hq0
          have x2 := ccu.1 i (by omega)
          rw [x3.1, x3.2.1, x3.2.2, y5, y6, x2.1, x2.2.1, hic, k5, k6, e1, g_rd_at, ← hq0]
          exact ⟨rfl, rfl, rfl⟩
        · have y7 : t1.2.1 (ad 7) i = u.2.1 (ad 7) i := by rw [e1, g_rd_k (by omega)]
          rw [x3.1, x3.2.1, x3.2.2, y5, y6, y7]
          exact ccu.2 i q (by omega) hq
    · have F7' : gFr ad (c3P 10) w t7 := by rw [e7]; exact (gFr.rf Fw.L).si rfl
      exact kd _ _ t7 ((((Gc.tr Fu).tr (F1.mo (fun c k z => ce_kc z))).tr (Fw.mo (fun c k z => ce_tc z))).tr (F7'.mo (fun c k z => ce_3 (by decide) z))) (hd.fr F7' (fun k => rfl)) (rb hk11)
  -- the arguments
  have loop : ∀ (m i b b0 l1 : Nat) (cl1 : CL) (ac1 : Nat → Nat) (W : Fo) (u : gSt), n - b = m → i < b → b ≤ n → PG Pm x (o + 1) cl.length (tkE T n (tkE T n a)) l sc clc acc b0 l1 cl1 ac1 W → (b0 < b ∨ (b0 ≤ b ∧ W = .leaf ∧ cl1 = clc)) → fo_l W = ac1 cl.length → tkE T n (tkE T n a) + 2 * fo_l W ≤ b → gFr ad (crxP p) uc u → CR ad T n p Pm st l1 (o + 1) sc cl1.length (N + 1 + fo_n W) u → cuC ad T n b u → LC ad p st (N + 1) uc W u → CCc ad clc uc cl1 ac1 u →
      (∀ V K, VK V K a 4 cl.length → RcT cx dm ad T n x Pm c0 (a, l, o, sc, cl, ac, V, K ++ [(18, 0, [])]) (b, l1, o + 1, sc, cl1, ac1, fo_ap V W, K ++ [(22, cl.length, [])] ++ [(1, 0, [])])) →
      W82 cx d ad post (pk8 (tkN T n a)) (nI (tkS T n a)) (nI cl.length) (nI (ac1 cl.length)) 1 (nI i) 82 u := by
    intro m
    induction m using Nat.strongRecOn with
    | ind m ih =>
    intro i b b0 l1 cl1 ac1 W u hm hi hb hg hbb hW hb2 Fu cru cuu lcu ccu hr
    have gle := hg.le
    have hg1 := hg.1
    have hg4 := hg.2.2.2.1
    have hln := fo_ln W
    have hclb : clOk cl1 b := hg.2.2.2.2.2.2.2.2.mo (by rcases hbb with h | h; omega; omega)
    have hb0 : b0 ≤ b := by rcases hbb with h | h; omega; omega
    have hcnt : 91 * cl1.length ≤ 30 * b + 31 * (o + 1) := by
      rcases hbb with h | ⟨h, hw, hc⟩
      · omega
      · have : cl1.length = clc.length := by rw [hc]
        omega
    have VA : ∀ V K, VK V K a 4 cl.length → VK (fo_ap V W) (K ++ [(22, cl.length, [])]) b 0 cl1.length := fun V K hV => by
      have h0 : VK V K (tkE T n (tkE T n a)) 0 clc.length := hV.mo (by omega) (by omega) (by have := hV.2.2; omega)
      exact h0.aps hg hb0 hb2 (by rw [len1]; have := hV.2.2; omega)
    -- behind a fault
    have dead : ∀ (w : gSt) (c q : Nat) (l7 : Int32), gFr ad (crxP p) t w → ddC ad c q w → (∀ V K, VK V K a 4 cl.length → RfT cx dm ad T n x Pm c0 (a, l, o, sc, cl, ac, V, K ++ [(18, 0, [])]) c q) → W82 cx d ad post (pk8 (tkN T n a)) (nI (tkS T n a)) (nI cl.length) (nI (ac1 cl.length) + 1) 0 l7 125 w := fun w c q l7 Fw hd hr => by
      refine x_Reader_readName_125 Fw.L (x_Reader_readName_82 Fw.L ⟨fun _ => ?_, fun _ => ⟨fun _ => ?_, fun z => absurd rfl z⟩⟩)
      · exact n131_d (p := p) hcl Fw.L hd (fun v Fv hv => kd c q v (Fw.tr Fv) hv hr)
      · exact n131_d (p := p) hcl Fw.L hd (fun v Fv hv => kd c q v (Fw.tr Fv) hv hr)
    refine x_Reader_readName_82 Fu.L ⟨fun z => ?_, fun _ => ⟨fun z => absurd z (by decide), fun _ => ?_⟩⟩
    · rw [show (3000 : Int32) = nI 3000 from rfl, nI_leI (by omega) (by omega)] at z
      omega
    refine hE ho b l1 (N + 1 + fo_n W) sc cl1 ac1 u _ Fu.L cru cuu ⟨⟨hb, hg.2.1.2, by omega, by omega, b5, hcnt, by omega, by omega⟩, b9, hclb⟩ (fun a3 l3 cl3 ac3 F v hF hLV hRc => ⟨rfl, hLV.1.L, ?_⟩) (fun c q v Fv hd hRf => ⟨rfl, Fv.L, m_isAtD Fv.L hd.ne (by decide) ⟨_, rfl, Fv.L, fun _ => ?_, fun z => absurd rfl z⟩⟩)
    rotate_left
    · exact dead v c q _ ((Gc.tr Fu).tr Fv) hd (fun V K hV => (hr V K hV).f (hRf _ _ (VA V K hV)))
    have ha3 := hLV.2.2.2.2.1
    have gF := hLV.2.1
    have gF1 := gF.1
    have lF := gF.le
    have hF1 := fo_pos hF
    have garg := hg.ar gF hbb (by omega)
    have eac : fup ac3 cl.length (ac3 cl.length + 1) cl.length = ac3 cl.length + 1 := by unfold fup; rw [if_pos rfl]
    have eac3 : ac3 cl.length = ac1 cl.length := gF.2.2.2.2.1 cl.length (by omega) (by omega)
    have hWF : fo_l (fo_ap W F) = ac3 cl.length + 1 := by rw [fo_l_ap, hF, hW, eac3]
    have enF : fo_n (fo_ap W F) = fo_n W + fo_n F := fo_n_ap _ _
    have RF : ∀ V K, VK V K a 4 cl.length → RcT cx dm ad T n x Pm c0 (a, l, o, sc, cl, ac, V, K ++ [(18, 0, [])]) (a3, l3, o + 1, sc, cl3, ac3, fo_ap V (fo_ap W F), K ++ [(22, cl.length, [])]) := fun V K hV => by
      have := (hr V K hV).tr (hRc _ _ (VA V K hV))
      rw [fo_ap_as] at this
      exact this
    have lcF : LC ad p st (N + 1) uc (fo_ap W F) v := lcu.ap (fun U => bel.rf) hLV.lc
    have ccF : CCc ad clc uc cl3 (fup ac3 cl.length (ac3 cl.length + 1)) v := by
      have h0 := ccu.ap (fun c => belC.rf) hLV.cc gF (Nat.le_refl _) (by omega)
      refine ⟨h0.1, fun i q hi hq => ?_⟩
      have := h0.2 i q hi hq
      unfold fup
      rw [if_neg (by omega)]
      exact this
    have hcl3 : cl3.length < 1100 := by
      have := gF.2.2.2.1
      omega
    have hcn : ∀ V K, VK V K a 4 cl.length → ∀ q ∈ fo_p (fo_ap V (fo_ap W F)), q.1 = 15 → q.2.toNatClampNeg ≠ cl.length := fun V K hV q hq e => by
      rw [fo_p_ap] at hq
      rcases List.mem_append.mp hq with hq | hq
      · have := hV.2.1 q hq e; omega
      · have := (garg.in (pcl_p _ q hq e)).1
        omega
    have GV : gFr ad (crxP p) uc v := Fu.tr hLV.1
    -- no comma: the end
    have last : ∀ (w : gSt) (l7 : Int32), tkK T n a3 ≠ 12 → gFr ad tcP v w → cuC ad T n a3 w → W82 cx d ad post (pk8 (tkN T n a)) (nI (tkS T n a)) (nI cl.length) (nI (ac1 cl.length) + 1) 0 l7 125 w := fun w l7 h12 Fw cw => by
      have e131 : W82 cx d ad post (pk8 (tkN T n a)) (nI (tkS T n a)) (nI cl.length) (nI (ac1 cl.length) + 1) 0 (l7 + 1) 131 w := by
        rw [nI_1, ← eac3, ← eac]
        refine fin (fo_ap W F) a3 l3 cl3 (fup ac3 cl.length (ac3 cl.length + 1)) w _ _ garg (by rw [eac]; exact hWF) (by rw [eac]; omega) ha3 (GV.tr (Fw.mo (fun c k z => ce_tc z))) ?_ cw (lcF.fr (bt hp Fw)) (ccF.fr (bc Fw)) (fun h11 V K hV => ?_) (fun h11 V K hV => ?_)
        · rw [enF, show N + 1 + (fo_n W + fo_n F) = N + 1 + fo_n W + fo_n F by omega]
          exact hLV.2.2.1.tc Fw
        · exact (RF V K hV).tr (r_more_e ha3 (hk1 V K hV) hx (by omega) hcl3 (by omega) (by omega) hWF (by have := hV.1; omega) (hcn V K hV) h11)
        · exact (RF V K hV).f (r_more_f ha3 (hk1 V K hV) hx (by omega) hcl3 (by omega) (by omega) hWF (by have := hV.1; omega) (hcn V K hV) h12 h11)
      exact x_Reader_readName_125 Fw.L (x_Reader_readName_82 Fw.L ⟨fun _ => e131, fun _ => ⟨fun _ => e131, fun z => absurd rfl z⟩⟩)
    refine m_isAtC (kk := 12) (by decide) rfl hcs hLV.1.L hLV.2.2.1.1 ha3 hLV.2.2.2.1 (fun w Fw hw => ⟨_, rfl, Fw.L, fun z => ?_, fun z => ?_⟩) (fun h23 w Fw hw => ⟨_, rfl, Fw.L, fun _ => ?_, fun z => absurd rfl z⟩)
    · have h12 : ¬ tkK T n a3 = 12 := b32_d.mp z
      rw [b32_f h12]
      exact last w _ h12 Fw hw.cu
    · have h12 : tkK T n a3 = 12 := Classical.byContradiction (fun y => z (b32_f y))
      have hE7 := tkE_gt hT ha3 (by omega)
      have hE8 := tkE_le hT ha3
      rw [b32_t h12]
      refine m_takeC Fw.L hw (fun y Fy cy _ => ⟨rfl, Fy.L, x_Reader_readName_125 Fy.L ?_⟩)
      have Fwy := Fw.tr Fy
      rw [nI_1, nI_1, ← eac3, ← eac]
      refine ih (n - tkE T n a3) (by omega) (i + 1) (tkE T n a3) a3 l3 cl3 (fup ac3 cl.length (ac3 cl.length + 1)) (fo_ap W F) y rfl (by omega) hE8 garg (Or.inl hE7) (by rw [eac]; exact hWF) (by rw [fo_l_ap, hF]; omega) (GV.tr (Fwy.mo (fun c k z => ce_tc z))) ?_ cy (lcF.fr (bt hp Fwy)) (ccF.fr (bc Fwy)) (fun V K hV => (RF V K hV).tr (r_more ha3 (hk1 V K hV) hx (by omega) hcl3 h12))
      rw [enF, show N + 1 + (fo_n W + fo_n F) = N + 1 + fo_n W + fo_n F by omega]
      exact hLV.2.2.1.tc Fwy
    · refine dead w 1 _ _ (((Gc.tr Fu).tr hLV.1).tr (Fw.mo (fun c k z => ce_tc z))) hw (fun V K hV => ?_)
      have := (RF V K hV).f (r_more_f ha3 (hk1 V K hV) hx (by omega) hcl3 (by omega) (by omega) hWF (by have := hV.1; omega) (hcn V K hV) (by omega) (by omega))
      rw [show fcd T n a3 = 1 from if_pos h23] at this
      exact this
  -- the first token in the brackets
  have ccz : CCc ad clc uc clc acc uc := ⟨belC.rf, fun i q hi hq => absurd (List.getElem?_eq_some_iff.mp hq).1 (by omega)⟩
  have hz : PG Pm x (o + 1) cl.length (tkE T n (tkE T n a)) l sc clc acc (tkE T n (tkE T n a)) l clc acc .leaf := PG.z (Nat.le_refl _) b2 hclk
  have eac0 : acc cl.length = 0 := by rw [eacc]; unfold fup; rw [if_pos rfl]
  have crc : CR ad T n p Pm st l (o + 1) sc clc.length (N + 1) uc := by rw [lclc]; exact cc
  have cnV : ∀ V K, VK V K a 4 cl.length → ∀ q ∈ fo_p V, q.1 = 15 → q.2.toNatClampNeg < cl.length := fun V K hV => hV.2.1
  refine m_isAtC (kk := 11) (by decide) rfl hcs Fc.L cc.1 hE4 cu9 (fun u9 F9 h9 => ⟨_, rfl, F9.L, fun z => ?_, fun z => ?_⟩) (fun h23 u9 F9 h9 => ⟨_, rfl, F9.L, fun z => absurd rfl z, fun _ => ?_⟩)
  · have h11 : tkK T n (tkE T n (tkE T n a)) = 11 := Classical.byContradiction (fun y => z (b32_f y))
    have e131 := fin .leaf (tkE T n (tkE T n a)) l clc acc u9 0 0 hz (by rw [eac0]; rfl) (by rw [eac0]; decide) hE4 (F9.mo (fun c k z => ce_tc z)) (crc.tc F9) h9.cu (LC.z (bt hp F9)) (ccz.fr (bc F9)) (fun _ V K hV => by
      rw [eclc, eacc]
      exact r_call0 b1 (hk1 V K hV) hT hk hx hk2 ho (by omega) h11 (by omega) (by have := hV.1; omega) (by have := hV.1; omega) (cnV V K hV)) (fun y => absurd h11 y)
    rw [eac0] at e131
    exact x_Reader_readName_77 F9.L (x_Reader_readName_82 F9.L ⟨fun _ => e131, fun _ => ⟨fun _ => e131, fun z => absurd rfl z⟩⟩)
  · have h11 : ¬ tkK T n (tkE T n (tkE T n a)) = 11 := b32_d.mp (Classical.not_not.mp z)
    have lp := loop (n - tkE T n (tkE T n a)) 0 (tkE T n (tkE T n a)) (tkE T n (tkE T n a)) l clc acc .leaf u9 rfl (by omega) hE4 hz (Or.inr ⟨Nat.le_refl _, rfl, rfl⟩) (by rw [eac0]; rfl) (by simp only [fo_l]; omega) (F9.mo (fun c k z => ce_tc z)) (crc.tc F9) h9.cu (LC.z (bt hp F9)) (ccz.fr (bc F9)) (fun V K hV => by
      rw [fo_ap_leaf, eclc, eacc]
      exact r_call b1 (hk1 V K hV) hT hk hx hk2 ho (by omega) h11 h9.2.2.1)
    rw [eac0] at lp
    exact x_Reader_readName_77 F9.L lp
  · refine x_Reader_readName_77 F9.L (x_Reader_readName_82 F9.L ⟨fun z => absurd z (by decide), fun _ => ⟨fun z => absurd z (by decide), fun _ => ?_⟩⟩)
    refine d_exp F9.L h9.ne ⟨rfl, F9.L, m_isAtD F9.L h9.ne (by decide) ⟨_, rfl, F9.L, fun _ => ?_, fun z => absurd rfl z⟩⟩
    have G9 : gFr ad (crxP p) t u9 := Gc.tr (F9.mo (fun c k z => ce_tc z))
    have kdd : ∀ v, gFr ad (crxP p) u9 v → ddC ad 1 (tkS T n (tkE T n (tkE T n a))) v → post none v := fun v Fv hv => kd 1 _ v (G9.tr Fv) hv (fun V K hV => r_call_bad b1 (hk1 V K hV) hT hk hx hk2 ho (by omega) h23)
    exact x_Reader_readName_125 F9.L (x_Reader_readName_82 F9.L ⟨fun _ => n131_d (p := p) hcl F9.L h9 kdd, fun _ => ⟨fun _ => n131_d (p := p) hcl F9.L h9 kdd, fun z => absurd rfl z⟩⟩)
/-- every reading method -/
theorem sp_all (hcs : g_CS cx) (hp : isQ p) (hT : txt T n) (hx : x < 72) : ∀ r o, o + r = 30 → ∀ d, Sp cx dm ad T n p Pm st c0 x i_Reader_readExpression (d + 7 * r + 30) 1 0 o ∧ Sp cx dm ad T n p Pm st c0 x i_Reader_readUnary (d + 7 * r + 26) 18 4 o := by
  intro r
  induction r with
  | zero =>
    intro o ho d
    have hE0 : ∀ D, o < 30 → Sp cx dm ad T n p Pm st c0 x i_Reader_readExpression D 1 0 (o + 1) := fun D h => by omega
    have hU0 : ∀ D, o < 30 → Sp cx dm ad T n p Pm st c0 x i_Reader_readUnary D 18 4 (o + 1) := fun D h => by omega
    have hN := sh_name (d := d + 10) (dm := dm) (ad := ad) (Pm := Pm) (st := st) (c0 := c0) hcs hp hT hx (hE0 _)
    have hU := sp_unary (d := d + 10) hcs hp hT hx (hU0 _) (fun kk h1 h2 => sp_part hcs hp hT hx (hE0 _) hN kk h1 h2)
    exact ⟨sp_exp (d := d + 18) hcs hp hT hx (sp_comp hcs hp hT hx (sp_sum hcs hp hT hx (sp_prod hcs hp hT hx hU))) (sh_let (d := d + 20) hcs hp hT hx (hE0 _)) (sh_if (d := d + 20) hcs hp hT hx (hE0 _)), hU⟩
  | succ r ih =>
    intro o ho d
    have hE0 : ∀ D e, D = e + 7 * r + 30 → o < 30 → Sp cx dm ad T n p Pm st c0 x i_Reader_readExpression D 1 0 (o + 1) := fun D e h _ => by rw [h]; exact (ih (o + 1) (by omega) e).1
    have hU0 : ∀ D e, D = e + 7 * r + 26 → o < 30 → Sp cx dm ad T n p Pm st c0 x i_Reader_readUnary D 18 4 (o + 1) := fun D e h _ => by rw [h]; exact (ih (o + 1) (by omega) e).2
    have hN := sh_name (d := d + 7 * r + 17) (dm := dm) (ad := ad) (Pm := Pm) (st := st) (c0 := c0) hcs hp hT hx (hE0 _ d (by omega))
    have hU := sp_unary (d := d + 7 * r + 17) hcs hp hT hx (hU0 _ (d + 6) (by omega)) (fun kk h1 h2 => sp_part hcs hp hT hx (hE0 _ d (by omega)) hN kk h1 h2)
    have hX := sp_exp (d := d + 7 * r + 25) hcs hp hT hx (sp_comp hcs hp hT hx (sp_sum hcs hp hT hx (sp_prod hcs hp hT hx hU))) (sh_let (d := d + 7 * r + 27) hcs hp hT hx (hE0 _ (d + 5) (by omega))) (sh_if (d := d + 7 * r + 27) hcs hp hT hx (hE0 _ (d + 5) (by omega)))
    rw [show d + 7 * (r + 1) + 30 = d + 7 * r + 25 + 12 by omega, show d + 7 * (r + 1) + 26 = d + 7 * r + 17 + 16 by omega]
    exact ⟨hX, hU⟩
end CM
