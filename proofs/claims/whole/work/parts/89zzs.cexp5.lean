/-! THE CLASS READS AN EXPRESSION: let; whole expressions -/
section CJ
variable {cx : gCx} {d dm : Nat} {ad : Nat → Nat} {T : Nat → Nat} {n p Pm st c0 x l o cn N : Nat} {sc : SC} {t u : gSt}
theorem CR.lt (h : CR ad T n p Pm st l o sc cn N t) (hL : Lay t ad) {t5 t6 : gSt} (e5 : t5 = g_si t (ad 3) 13 (nI (Pm + l + 1))) (e6 : t6 = g_si t5 (ad 3) 14 (nI (l + 1))) : CR ad T n p Pm st (l + 1) o sc cn N t6 ∧ gFr ad (fun c k => c3P 13 c k || c3P 14 c k) t t6 := by
  have F : gFr ad (fun c k => c3P 13 c k || c3P 14 c k) t t6 := by rw [e6, e5]; exact ((gFr.rf hL).si rfl).si rfl
  obtain ⟨h1, h2, h3, ⟨h4, h5⟩, h6, h7, h8, h9, h10⟩ := h
  refine ⟨⟨h1.fr F rfl rfl (fun k => rfl), ?_, ?_, ⟨?_, fun i q hq => ?_⟩, ?_, ?_, ?_, ?_, ?_⟩, F⟩
  · rw [F.r 3 7 rfl]; exact h2
  · rw [F.i 3 8 rfl]; exact h3
  · rw [F.i 3 9 rfl]; exact h4
  · rw [F.j 9 i rfl, F.i 10 i rfl]; exact h5 i q hq
  · rw [F.i 3 10 rfl]; exact h6
  · rw [F.i 3 11 rfl]; exact h7
  · rw [F.i 3 12 rfl]; exact h8
  · rw [e6, g_rd_k (by decide), e5, g_rd_at]; rfl
  · rw [e6, g_rd_at]
theorem CR.s0 {q : List Nat × Nat} (h : CR ad T n p Pm st l o (sc ++ [q]) cn N t) (hL : Lay t ad) (e : u = g_si t (ad 3) 9 (nI sc.length)) : CR ad T n p Pm st l o sc cn N u ∧ gFr ad (c3P 9) t u := by
  have F : gFr ad (c3P 9) t u := by rw [e]; exact (gFr.rf hL).si rfl
  obtain ⟨h1, h2, h3, ⟨h4, h5⟩, h6, h7, h8, h9, h10⟩ := h
  refine ⟨⟨h1.fr F rfl rfl (fun k => rfl), ?_, ?_, ⟨by rw [e, g_rd_at], fun i q hq => ?_⟩, ?_, ?_, ?_, ?_, ?_⟩, F⟩
  · rw [F.r 3 7 rfl]; exact h2
  · rw [F.i 3 8 rfl]; exact h3
  · rw [F.j 9 i rfl, F.i 10 i rfl]
    exact h5 i q (by rw [List.getElem?_append_left (List.getElem?_eq_some_iff.mp hq).1]; exact hq)
  · rw [F.i 3 10 rfl]; exact h6
  · rw [F.i 3 11 rfl]; exact h7
  · rw [F.i 3 12 rfl]; exact h8
  · rw [F.i 3 13 rfl]; exact h9
  · rw [F.i 3 14 rfl]; exact h10
theorem c34_i {c k : Nat} : (c3P 13 c k || c3P 14 c k) = true ↔ c = 3 ∧ (k = 13 ∨ k = 14) := by
  rw [Bool.or_eq_true, c3P_i, c3P_i]
  omega
theorem sh_let (hcs : g_CS cx) (hp : isQ p) (hT : txt T n) (hx : x < 72) (hE : o < 30 → Sp cx dm ad T n p Pm st c0 x i_Reader_readExpression (d + 8) 1 0 (o + 1)) : Sh cx dm ad T n p Pm st c0 x i_Reader_readLet (d + 9) 1 0 o 4 := by
  intro a l N sc cl ac t post hL hR hC hk hB kl kd
  have hn := hT.1
  have hpg := hp.ge
  obtain ⟨⟨b1, b2, b3', b4, b5, b6, b7, b8⟩, b9, b10⟩ := hB
  have hE1 := tkE_gt hT b1 (by omega)
  have hE2 := tkE_le hT b1
  have hk1 : ∀ V K, VK V K a 0 cl.length → K.length < 19000 := fun V K hV => by have := hV.2.2; omega
  refine x_Reader_readLet hL (m_opensC hL hR hC b3' (fun ho u1 F1 c1 h1 => ⟨_, rfl, F1.L, fun _ => ?_, fun z => absurd (show ¬ (1 : Int32) = 0 by decide) z⟩) (fun ho u1 F1 h1 => ⟨_, rfl, F1.L, fun z => absurd rfl z, fun _ => kd 5 _ u1 (F1.mo (fun c k z => ce_tc z)) h1 (fun V K hV => r_let_f b1 (hk1 V K hV) hk ho)⟩))
  refine m_takeC F1.L h1 (fun u3 F3 c3 _ => ⟨rfl, F3.L, ?_⟩)
  have G3 : gFr ad (crxP p) t u3 := (F1.mo (fun c k z => ce_3 (by decide) z)).tr (F3.mo (fun c k z => ce_tc z))
  have cr3 := c1.tc F3
  have dead43 : ∀ (w : gSt) (c q : Nat), gFr ad (crxP p) t w → ddC ad c q w → (∀ V K, VK V K a 0 cl.length → RfT cx dm ad T n x Pm c0 (a, l, o, sc, cl, ac, V, K ++ [(1, 0, [])]) c q) → g_W cx (g_E cx (d + 8)) mt_Reader_readLet post (43, [some (.ref (ad 3)), none, none, none, none], [], w, 0, 0) := fun w c q Fw hd hr => x_Reader_readLet_43 Fw.L (m_needD Fw.L hd.ne (by decide) ⟨_, rfl, Fw.L, fun z => absurd rfl z, fun _ => kd c q w Fw hd hr⟩)
  refine m_isAtC (kk := 2) (by decide) rfl hcs F3.L cr3.1 hE2 c3 (fun u5 F5 h5 => ⟨_, rfl, F5.L, fun z => ?_, fun z => ?_⟩) (fun h23 u5 F5 h5 => ⟨_, rfl, F5.L, fun _ => ?_, fun z => absurd rfl z⟩)
  · have hk2 : ¬ tkK T n (tkE T n a) = 2 := b32_d.mp z
    refine x_Reader_readLet_43 F5.L (m_needC (kk := 2) (by decide) rfl hcs F5.L (cr3.tc F5).1 hE2 h5.cu (fun y => absurd y hk2) (fun _ w Fw hd => ⟨_, rfl, Fw.L, fun z => absurd rfl z, fun _ => kd _ _ w ((G3.tr (F5.mo (fun c k z => ce_tc z))).tr (Fw.mo (fun c k z => ce_tc z))) hd (fun V K hV => r_let_n b1 (hk1 V K hV) hT hk ho hk2)⟩))
  rotate_left
  · refine dead43 u5 1 _ (G3.tr (F5.mo (fun c k z => ce_tc z))) h5 (fun V K hV => ?_)
    have := r_let_n (cx := cx) (d := dm) (ad := ad) (x := x) (Pm := Pm) (c0 := c0) (l := l) (sc := sc) (cl := cl) (ac := ac) (V := V) b1 (hk1 V K hV) hT hk ho (by omega)
    rw [show fcd T n (tkE T n a) = 1 from if_pos h23] at this
    exact this
  have hk2 : tkK T n (tkE T n a) = 2 := Classical.byContradiction (fun y => z (b32_f y))
  have cr5 := cr3.tc F5
  have G5 := G3.tr (F5.mo (fun c k z => ce_tc (p := p) z))
  rw [cr5.2.2.2.2.2.2.2.2, show (40 : Int32) = nI 40 from rfl, nI_ltI (by omega) (by decide)]
  refine ⟨fun hl40 => ?_, fun hl40 => m_failHere (c := 5) (by decide) F5.L h5 (fun w Fw hd => ⟨rfl, Fw.L, dead43 w 5 _ (G5.tr (Fw.mo (fun c k z => ce_tc z))) hd (fun V K hV => r_let_40 b1 (hk1 V K hV) hT hk ho hk2 (by omega))⟩)⟩
  have hE3 := tkE_gt hT hE2 (by omega)
  have hE4 := tkE_le hT hE2
  refine x_Reader_readLet_43 F5.L (m_needC (kk := 2) (by decide) rfl hcs F5.L cr5.1 hE2 h5.cu (fun _ u6 F6 c6 j6 => ⟨_, rfl, F6.L, fun _ x3 e3 x4 e4 t5 e5 t6 e6 => ?_, fun z => absurd (show ¬ (1 : Int32) = 0 by decide) z⟩) (fun y => absurd hk2 y))
  have cr6 := cr5.tc F6
  rw [j6 hk2] at e3
  rw [cr6.2.2.2.2.2.2.2.1] at e4 e5
  rw [nI_1] at e5
  have e14 : t5.2.1 (ad 3) 14 = nI l := by rw [e5, g_rd_k (by decide)]; exact cr6.2.2.2.2.2.2.2.2
  rw [e14, nI_1] at e6
  obtain ⟨cr7, F7⟩ := cr6.lt F6.L e5 e6
  rw [e3, e4]
  have hnm := tkN_ok hT hE2 hk2
  refine m_addN hp F7.L cr7 (by omega) (by omega) (fun u8 F8 c8 bl8 r8 => ⟨rfl, F8.L, ?_⟩)
  have b67 : ∀ U, bel ad p U u6 t6 := fun U => bel.fr (by omega) F7 (fun c k z => bool_r c34_i (by omega))
  have c67 : ∀ U, belC ad U u6 t6 := fun U => belC.fr F7 (fun c k z => bool_r c34_i (by omega))
  have G8 : gFr ad (crxP p) t u8 := ((G5.tr (F6.mo (fun c k z => ce_tc z))).tr (F7.mo (fun c k z => by rw [c34_i] at z; rw [crxP_i]; omega))).tr (F8.mo (fun c k z => ce_in z))
  have bel08 : bel ad p (st + min N 400) t u8 := ((((((b3 hp F1) _).tr ((bt hp F3) _)).tr ((bt hp F5) _)).tr ((bt hp F6) _)).tr (b67 _)).tr bl8
  have belc08 : ∀ c, belC ad c t u8 := fun c => (((((bc3 F1 c).tr (bc F3 c)).tr (bc F5 c)).tr (bc F6 c)).tr (c67 c)).tr (bci hp F8 c)
  have cu8 := (c6.fr F7 (fun k => rfl)).fr F8 (fun k => bool_r inP_i (by omega))
  -- the sign behind the name
  refine m_needC (kk := 14) (by decide) rfl hcs F8.L c8.1 hE4 cu8 (fun hk14 u9 F9 c9 _ => ⟨_, rfl, F9.L, fun _ => ?_, fun z => absurd (show ¬ (1 : Int32) = 0 by decide) z⟩) (fun hk14 u9 F9 hd => ⟨_, rfl, F9.L, fun z => absurd rfl z, fun _ => kd _ _ u9 (G8.tr (F9.mo (fun c k z => ce_tc z))) hd (fun V K hV => r_let_is b1 (hk1 V K hV) hT b5 hk ho hk2 hl40 hk14)⟩)
  have hE5 := tkE_gt hT hE4 (by omega)
  have hE6 := tkE_le hT hE4
  have G9 := G8.tr (F9.mo (fun c k z => ce_tc (p := p) z))
  have RL : ∀ V K, VK V K a 0 cl.length → RcT cx dm ad T n x Pm c0 (a, l, o, sc, cl, ac, V, K ++ [(1, 0, [])]) (tkE T n (tkE T n (tkE T n a)), l + 1, o + 1, sc, cl, ac, V, K ++ [(2, Pm + l, tkN T n (tkE T n a))] ++ [(1, 0, [])]) := fun V K hV => r_let b1 (hk1 V K hV) hT b5 hk ho hk2 hl40 hk14
  have VL : ∀ V K, VK V K a 0 cl.length → VK V (K ++ [(2, Pm + l, tkN T n (tkE T n a))]) (tkE T n (tkE T n (tkE T n a))) 0 cl.length := fun V K hV => hV.mo (by omega) (Nat.le_refl _) (by rw [len1]; have := hV.2.2; omega)
  refine hE ho (tkE T n (tkE T n (tkE T n a))) (l + 1) (N + 1) sc cl ac u9 _ F9.L (c8.tc F9) c9 ⟨⟨hE6, by omega, by omega, by omega, b5, by omega, by omega, b8⟩, b9, b10.mo (by omega)⟩ (fun a1 l1 cl1 ac1 A v1 hA hLA hrA => ⟨rfl, hLA.1.L, ?_⟩) (fun c q v1 Fv hd hr => ⟨rfl, Fv.L, ?_⟩)
  rotate_left
  · refine m_needD Fv.L hd.ne (by decide) ⟨_, rfl, Fv.L, fun z => absurd rfl z, fun _ => kd c q v1 (G9.tr Fv) hd (fun V K hV => (RL V K hV).f (hr V _ (VL V K hV)))⟩
  have ha1 := hLA.2.2.2.2.1
  have gA := hLA.2.1
  have gA1 := gA.1
  have gA4 := gA.2.2.2.1
  have lA := gA.le
  have RA : ∀ V K, VK V K a 0 cl.length → RcT cx dm ad T n x Pm c0 (a, l, o, sc, cl, ac, V, K ++ [(1, 0, [])]) (a1, l1, o + 1, sc, cl1, ac1, fo_ap V A, K ++ [(2, Pm + l, tkN T n (tkE T n a))]) := fun V K hV => (RL V K hV).tr (hrA V _ (VL V K hV))
  refine m_needC (kk := 5) (by decide) rfl hcs hLA.1.L hLA.2.2.1.1 ha1 hLA.2.2.2.1 (fun hk5 v2 F2 c2 _ => ⟨_, rfl, F2.L, fun _ x15 e15 => ?_, fun z => absurd (show ¬ (1 : Int32) = 0 by decide) z⟩) (fun hk5 v2 F2 h2 => ⟨_, rfl, F2.L, fun z => absurd rfl z, fun _ => kd _ _ v2 ((G9.tr hLA.1).tr (F2.mo (fun c k z => ce_tc z))) h2 (fun V K hV => (RA V K hV).f (r_in_f ha1 (hk1 V K hV) hk5))⟩)
  have hE7 := tkE_gt hT ha1 (by omega)
  have hE8 := tkE_le hT ha1
  have cr2 := hLA.2.2.1.tc F2
  rw [cr2.2.2.2.1.1] at e15
  refine m_seeC F2.L cr2 (by omega) (fun v3 F3' c3' => ⟨rfl, F3'.L, ?_⟩)
  have G3' : gFr ad (crxP p) t v3 := ((G9.tr hLA.1).tr (F2.mo (fun c k z => ce_tc z))).tr (F3'.mo (fun c k z => ce_se z))
  have b23 : ∀ U, bel ad p U v1 v3 := fun U => ((bt hp F2) U).tr (bel.fr (by omega) F3' (fun c k z => bool_r seP_i (by omega)))
  have cc23 : ∀ U, belC ad U v1 v3 := fun U => (bc F2 U).tr (belC.fr F3' (fun c k z => bool_r seP_i (by omega)))
  have RI : ∀ V K, VK V K a 0 cl.length → RcT cx dm ad T n x Pm c0 (a, l, o, sc, cl, ac, V, K ++ [(1, 0, [])]) (tkE T n a1, l1, o + 1, sc ++ [(tkN T n (tkE T n a), Pm + l)], cl1, ac1, fo_ap V A, K ++ [(3, Pm + l, [])] ++ [(1, 0, [])]) := fun V K hV => (RA V K hV).tr (r_in ha1 (hk1 V K hV) (by omega) hk5)
  have VB : ∀ V K, VK V K a 0 cl.length → VK (fo_ap V A) (K ++ [(3, Pm + l, [])]) (tkE T n a1) 0 cl1.length := fun V K hV => VK.ap (K := K) (lev := 0) (hV.mo (a2 := tkE T n (tkE T n (tkE T n a))) (lev' := 0) (K' := K) (by omega) (Nat.le_refl _) (by have := hV.2.2; omega)) gA (by omega) (by rw [len1]; have := hV.2.2; omega)
  refine hE ho (tkE T n a1) l1 (N + 1 + fo_n A) (sc ++ [(tkN T n (tkE T n a), Pm + l)]) cl1 ac1 v3 _ F3'.L c3' (c2.fr F3' (fun k => rfl)) ⟨⟨hE8, gA.2.1.2, by omega, by rw [List.length_append]; simp only [List.length_cons, List.length_nil]; omega, b5, by omega, by omega, by omega⟩, fun q hq => ?_, gA.2.2.2.2.2.2.2.2.mo (by omega)⟩ (fun a5 l5 cl5 ac5 B v5 hB5 hLB hrB => ⟨rfl, hLB.1.L, fun t20 e20 t21 e21 => ?_⟩) (fun c q v5 Fv hd hr => ⟨rfl, Fv.L, fun t20 e20 t21 e21 => ?_⟩)
  · rcases List.mem_append.mp hq with hq | hq
    · exact b9 q hq
    · rw [List.mem_singleton.mp hq]
      exact ⟨hnm, by show Pm + l < 50; omega⟩
  · have gB := hLB.2.1
    have gB1 := gB.1
    have gB4 := gB.2.2.2.1
    have ha5 := hLB.2.2.2.2.1
    have lB := gB.le
    rw [e15] at e20
    obtain ⟨c20, F20⟩ := hLB.2.2.1.s0 hLB.1.L e20
    rw [c20.2.2.2.2.1, nI_pred] at e21
    obtain ⟨c21, F21⟩ := c20.op F20.L e21
    have b21 : ∀ U, bel ad p U v5 t21 := fun U => ((b3 hp F20) U).tr ((b3 hp F21) U)
    have cc21 : ∀ U, belC ad U v5 t21 := fun U => (bc3 F20 U).tr (bc3 F21 U)
    have en : fo_n (.inner 0 14 (nI (Pm + l)) (fo_ap A B) .leaf) = fo_n A + fo_n B + 1 := by simp only [fo_n, fo_n_ap]; try omega
    refine kl a5 l5 cl5 ac5 (.inner 0 14 (nI (Pm + l)) (fo_ap A B) .leaf) t21 rfl ⟨((G3'.tr hLB.1).tr (F20.mo (fun c k z => ce_3 (by decide) z))).tr (F21.mo (fun c k z => ce_3 (by decide) z)), PG.lt hA hB5 gA gB (by omega) hE7, ?_, (hLB.2.2.2.1.fr F20 (fun k => rfl)).fr F21 (fun k => rfl), ha5, ?_⟩ (fun V K hV => ?_)
    · rw [en, show N + (fo_n A + fo_n B + 1) = N + 1 + fo_n A + fo_n B by omega]
      exact c21
    · have lc : LC ad p st (N + 1) u9 (fo_ap A B) t21 := (hLA.lc.ap b23 hLB.lc).fr b21
      have hnd := LC.nd bel08 r8 (bt hp F9) lc
      have cc := ((hLA.cc.ap cc23 hLB.cc gB (Nat.le_refl _) lA).fr cc21).fl (fun c => (belc08 c).tr (bc F9 c))
      exact ⟨hnd.1, hnd.2, cc.1, cc.2⟩
    · have hVn := hV.1
      exact (RI V K hV).tr ((hrB _ _ (VB V K hV)).tr (r_let_e (hk1 V K hV) hx hA hB5 (by omega) (by omega) (by omega)))
  · have F20 : gFr ad (c3P 9) v5 t20 := by rw [e20]; exact (gFr.rf Fv.L).si rfl
    have F21 : gFr ad (c3P 10) t20 t21 := by rw [e21]; exact (gFr.rf F20.L).si rfl
    exact kd c q t21 (((G3'.tr Fv).tr (F20.mo (fun c k z => ce_3 (by decide) z))).tr (F21.mo (fun c k z => ce_3 (by decide) z))) ((hd.fr F20 (fun k => rfl)).fr F21 (fun k => rfl)) (fun V K hV => (RI V K hV).f (hr _ _ (VB V K hV)))
/-- whole expressions -/
theorem sp_exp (hcs : g_CS cx) (hp : isQ p) (hT : txt T n) (hx : x < 72) (hU : Sp cx dm ad T n p Pm st c0 x i_Reader_readComparison (d + 11) 9 1 o) (hLt : Sh cx dm ad T n p Pm st c0 x i_Reader_readLet (d + 11) 1 0 o 4) (hIf : Sh cx dm ad T n p Pm st c0 x i_Reader_readIf (d + 11) 1 0 o 6) : Sp cx dm ad T n p Pm st c0 x i_Reader_readExpression (d + 12) 1 0 o := by
  intro a l N sc cl ac t post hL hR hC hB kl kd
  have hn := hT.1
  have loop : ∀ (m i a l N : Nat) (cl : CL) (ac : Nat → Nat) (t : gSt) (o2 : Option Value), n - a = m → i ≤ a → Lay t ad → CR ad T n p Pm st l o sc cl.length N t → cuC ad T n a t → BD n Pm st c0 a l o sc cl N →
      (∀ a' l' cl' ac' F u, fo_l F = 1 → LV ad T n p Pm x st cl.length a l o sc cl ac N t a' l' cl' ac' F u → (∀ V K, VK V K a 0 cl.length → RcT cx dm ad T n x Pm c0 (a, l, o, sc, cl, ac, V, K ++ [(1, 0, [])]) (a', l', o, sc, cl', ac', fo_ap V F, K)) → post none u) →
      (∀ c q u, gFr ad (crxP p) t u → ddC ad c q u → (∀ V K, VK V K a 0 cl.length → RfT cx dm ad T n x Pm c0 (a, l, o, sc, cl, ac, V, K ++ [(1, 0, [])]) c q) → post none u) →
      g_W cx (g_E cx (d + 11)) mt_Reader_readExpression post (2, [some (.ref (ad 3)), some (.int (nI i)), o2], [], t, 0, 0) := by
    intro m
    induction m using Nat.strongRecOn with
    | ind m ih =>
    intro i a l N cl ac t o2 hm hi hL hR hC hB kl kd
    have hpg := hp.ge
    have han := hB.1.1
    have hk1 : ∀ V K, VK V K a 0 cl.length → K.length < 19000 := fun V K hV => by have := hV.2.2; omega
    refine x_Reader_readExpression_2 hL ⟨fun z => ?_, fun _ => ?_⟩
    · rw [show (3000 : Int32) = nI 3000 from rfl, nI_ltI (by omega) (by omega)] at z
      omega
    -- behind a fault at the first token
    have dead : ∀ (w : gSt), gFr ad (crxP p) t w → tkK T n a = 23 → ddC ad 1 (tkS T n a) w → post none w := fun w Fw h23 hd => kd 1 _ w Fw hd (fun V K hV => r_exp_bad han (hk1 V K hV) h23)
    refine m_isAtC (kk := 4) (by decide) rfl hcs hL hR.1 han hC (fun u1 F1 h1 => ⟨_, rfl, F1.L, fun z => ?_, fun z => ?_⟩) (fun h23 u1 F1 h1 => ⟨_, rfl, F1.L, fun _ => ?_, fun z => absurd rfl z⟩)
    rotate_left
    · have hk : tkK T n a = 4 := Classical.byContradiction (fun y => z (b32_f y))
      refine hLt a l N sc cl ac u1 _ F1.L (hR.tc F1) h1 hk hB (fun a' l' cl' ac' F u hF hLV hRc => ⟨rfl, hLV.1.L, kl a' l' cl' ac' F u hF ?_ hRc⟩) (fun c q u Fu hd hRf => ⟨rfl, Fu.L, kd c q u ((F1.mo (fun c k z => ce_tc z)).tr Fu) hd hRf⟩)
      obtain ⟨p1, p2, p3, p4, p5, p6, p7, p8, p9⟩ := hLV
      exact ⟨(F1.mo (fun c k z => ce_tc z)).tr p1, p2, p3, p4, p5, ((bt hp F1) _).tr p6, p7, (bc F1 _).tr p8, p9⟩
    · have F1' := F1.mo (fun c k z => ce_tc (p := p) z)
      exact m_isAtD F1.L h1.ne (by decide) ⟨_, rfl, F1.L, fun _ _ _ => d_comp F1.L h1.ne ⟨rfl, F1.L, m_isAtD F1.L h1.ne (by decide) ⟨_, rfl, F1.L, fun z => absurd rfl z, fun _ => dead u1 F1' h23 h1⟩⟩, fun z => absurd rfl z⟩
    have hk4 : ¬ tkK T n a = 4 := b32_d.mp z
    have cr1 := hR.tc F1
    refine m_isAtC (kk := 6) (by decide) rfl hcs F1.L cr1.1 han h1.cu (fun u3 F3 h3 => ⟨_, rfl, F3.L, fun y x5 e5 => ?_, fun y => ?_⟩) (fun h23 => absurd h23 h1.2.2.1)
    rotate_left
    · have hk : tkK T n a = 6 := Classical.byContradiction (fun q => y (b32_f q))
      refine hIf a l N sc cl ac u3 _ F3.L (cr1.tc F3) h3 hk hB (fun a' l' cl' ac' F u hF hLV hRc => ⟨rfl, hLV.1.L, kl a' l' cl' ac' F u hF ?_ hRc⟩) (fun c q u Fu hd hRf => ⟨rfl, Fu.L, kd c q u (((F1.tr F3).mo (fun c k z => ce_tc z)).tr Fu) hd hRf⟩)
      obtain ⟨p1, p2, p3, p4, p5, p6, p7, p8, p9⟩ := hLV
      exact ⟨((F1.tr F3).mo (fun c k z => ce_tc z)).tr p1, p2, p3, p4, p5, ((bt hp (F1.tr F3)) _).tr p6, p7, (bc (F1.tr F3) _).tr p8, p9⟩
    have hk6 : ¬ tkK T n a = 6 := b32_d.mp y
    have F13 := F1.tr F3
    have cr3 := cr1.tc F3
    rw [cr3.2.2.2.2.2.1] at e5
    rw [e5]
    have R0 : ∀ V K, VK V K a 0 cl.length → RcT cx dm ad T n x Pm c0 (a, l, o, sc, cl, ac, V, K ++ [(1, 0, [])]) (a, l, o, sc, cl, ac, V, K ++ [(7, 0, [])] ++ [(9, 0, [])]) := fun V K hV => r_exp_o han (hk1 V K hV) hk4 hk6 h1.2.2.1
    have V0 : ∀ V K, VK V K a 0 cl.length → VK V (K ++ [(7, 0, [])]) a 1 cl.length := fun V K hV => hV.mo (Nat.le_refl _) (Nat.le_refl _) (by rw [len1]; have := hV.2.2; omega)
    refine hU a l N sc cl ac u3 _ F3.L cr3 h3.cu hB (fun a1 l1 cl1 ac1 A u hA hLV0 hRc => ⟨rfl, hLV0.1.L, ?_⟩) (fun c q u Fu hd hRf => ⟨rfl, Fu.L, ?_⟩)
    rotate_left
    · refine m_isAtD Fu.L hd.ne (by decide) ⟨_, rfl, Fu.L, fun z => absurd rfl z, fun _ => kd c q u ((F13.mo (fun c k z => ce_tc z)).tr Fu) hd (fun V K hV => (R0 V K hV).f (hRf V _ (V0 V K hV)))⟩
    have hLV : LV ad T n p Pm x st cl.length a l o sc cl ac N t a1 l1 cl1 ac1 A u := by
      obtain ⟨p1, p2, p3, p4, p5, p6, p7, p8, p9⟩ := hLV0
      exact ⟨(F13.mo (fun c k z => ce_tc z)).tr p1, p2, p3, p4, p5, ((bt hp F13) _).tr p6, p7, (bc F13 _).tr p8, p9⟩
    have RA : ∀ V K, VK V K a 0 cl.length → RcT cx dm ad T n x Pm c0 (a, l, o, sc, cl, ac, V, K ++ [(1, 0, [])]) (a1, l1, o, sc, cl1, ac1, fo_ap V A, K ++ [(7, 0, [])]) := fun V K hV => (R0 V K hV).tr (hRc V _ (V0 V K hV))
    have ha1 := hLV.2.2.2.2.1
    have gA := hLV.2.1
    have gA1 := gA.1
    have gA4 := gA.2.2.2.1
    have lA := gA.le
    have hA1 := fo_pos hA
    refine m_isAtC (kk := 13) (by decide) rfl hcs hLV.1.L hLV.2.2.1.1 ha1 hLV.2.2.2.1 (fun u8 F8 h8 => ⟨_, rfl, F8.L, fun q => ?_, fun q => ?_⟩) (fun h23 u8 F8 h8 => ⟨_, rfl, F8.L, fun q => absurd rfl q, fun _ => kd 1 _ u8 (hLV.1.tr (F8.mo (fun c k z => ce_tc z))) h8 (fun V K hV => (RA V K hV).f (r_mexp_bad ha1 (hk1 V K hV) h23))⟩)
    rotate_left
    · have hk : ¬ tkK T n a1 = 13 := b32_d.mp (Classical.not_not.mp q)
      exact kl a1 l1 cl1 ac1 A u8 hA (hLV.tc (P := tcP) hp F8 h8.cu) (fun V K hV => (RA V K hV).tr (r_mexp_o ha1 (hk1 V K hV) hk h8.2.2.1))
    have hk : tkK T n a1 = 13 := Classical.byContradiction (fun y => q (b32_f y))
    have hE1 := tkE_gt hT ha1 (by omega)
    have hE2 := tkE_le hT ha1
    obtain ⟨⟨b1, b2, b3', b4, b5, b6, b7, b8⟩, b9, b10⟩ := hB
    have hLV8 := hLV.tc (P := tcP) hp F8 h8.cu
    refine m_takeC F8.L h8 (fun u10 F10 c10 _ => ⟨rfl, F10.L, ?_⟩)
    refine m_insert hp F10.L (hLV8.2.2.1.tc F10) (by omega) (by omega) (by omega) (fun u12 F12 c12 bl12 r12 => ⟨rfl, F12.L, ?_⟩)
    rw [nI_1]
    have Fv : gFr ad (crxP p) u8 u12 := (F10.mo (fun c k z => ce_tc z)).tr (F12.mo (fun c k z => ce_in z))
    have bv : bel ad p (st + min N 400) u8 u12 := ((bt hp F10) _).tr bl12
    have cv : ∀ c, belC ad c u8 u12 := fun c => (bc F10 c).tr (bci hp F12 c)
    have rv : N + fo_n A + 1 ≤ 400 → rowC ad p (st + N) ((12, 0) :: fo_p A) u12 := fun z => by
      have := r12 z (fo_p A) (by rw [fo_pn]; omega) (by rw [show st + min N 400 = st + N by omega]; exact (hLV8.2.2.2.2.2.2.1 (by omega)).be ((bt hp F10) _) (Nat.le_refl _))
      rw [show st + min N 400 = st + N by omega] at this
      exact this
    have VB : ∀ V K, VK V K a 0 cl.length → VK (fo_ap V A) (K ++ [(8, 0, [])]) (tkE T n a1) 0 cl1.length := fun V K hV => hV.ap gA (by omega) (by rw [len1]; have := hV.2.2; omega)
    have RM : ∀ V K, VK V K a 0 cl.length → RcT cx dm ad T n x Pm c0 (a, l, o, sc, cl, ac, V, K ++ [(1, 0, [])]) (tkE T n a1, l1, o, sc, cl1, ac1, fo_ap V A, K ++ [(8, 0, [])] ++ [(1, 0, [])]) := fun V K hV => (RA V K hV).tr (r_mexp ha1 (hk1 V K hV) hk)
    refine ih (n - tkE T n a1) (by omega) (i + 1) (tkE T n a1) l1 (N + fo_n A + 1) cl1 ac1 u12 _ rfl (by omega) F12.L c12 (c10.fr F12 (fun k => bool_r inP_i (by omega))) ⟨⟨hE2, gA.2.1.2, b3', b4, b5, by omega, by omega, by omega⟩, b9, gA.2.2.2.2.2.2.2.2.mo (by omega)⟩ (fun a' l' cl' ac' B w hB1 hLVw hRw => ?_) (fun c q w Fw hd hRf => ?_)
    · refine kl a' l' cl' ac' _ w rfl (LV.two (j := 12) (Or.inr rfl) rfl hp hA hB1 hLV8 hE1 Fv bv rv cv hLVw) (fun V K hV => ?_)
      have hVn := hV.1
      have := hLVw.2.1.1
      have := hLVw.2.2.2.2.1
      exact (RM V K hV).tr ((hRw _ _ (VB V K hV)).tr (r_seq (hk1 V K hV) hx hA hB1 (by omega)))
    · exact kd c q w ((hLV8.1.tr Fv).tr Fw) hd (fun V K hV => (RM V K hV).f (hRf _ _ (VB V K hV)))
  exact x_Reader_readExpression hL (loop (n - a) 0 a l N cl ac t none rfl (by omega) hL hR hC hB kl kd)
end CJ
