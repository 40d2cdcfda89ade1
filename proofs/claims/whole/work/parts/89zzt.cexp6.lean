/-! THE CLASS READS AN EXPRESSION: parts in brackets, unary -/
section DE2
variable {cx : gCx} {d : Nat} {ad : Nat → Nat} {t : gSt} {post : Option Value → gSt → Prop}
theorem d_exp (hL : Lay t ad) (h0 : ¬ t.2.1 (ad 4) 8 = 0) (k1 : post none t) : g_E cx (d + 10) i_Reader_readExpression [.ref (ad 3)] t post :=
  x_Reader_readExpression hL (x_Reader_readExpression_2 hL ⟨fun z => absurd z (by decide), fun _ => m_isAtD hL h0 (by decide) ⟨_, rfl, hL, fun _ => m_isAtD hL h0 (by decide) ⟨_, rfl, hL, fun _ _ _ => d_comp hL h0 ⟨rfl, hL, m_isAtD hL h0 (by decide) ⟨_, rfl, hL, fun z => absurd rfl z, fun _ => k1⟩⟩, fun z => absurd rfl z⟩, fun z => absurd rfl z⟩⟩)
end DE2
section CK
variable {cx : gCx} {d dm : Nat} {ad : Nat → Nat} {T : Nat → Nat} {n p Pm st c0 x l o N a1 : Nat} {sc : SC} {cl : CL} {ac : Nat → Nat} {t : gSt} {post : Option Value → gSt → Prop}
/-- something in brackets -/
theorem m_brack (hcs : g_CS cx) (hp : isQ p) (hT : txt T n) (hE : o < 30 → Sp cx dm ad T n p Pm st c0 x i_Reader_readExpression (d + 13) 1 0 (o + 1)) (hL : Lay t ad) (hR : CR ad T n p Pm st l o sc cl.length N t) (hC : cuC ad T n a1 t)
    (hB : a1 ≤ n ∧ l ≤ 40 ∧ o ≤ 30 ∧ sc.length ≤ Pm + o ∧ Pm ≤ 6 ∧ 91 * cl.length ≤ 30 * a1 + 31 * o ∧ st + N ≤ a1 + 1 ∧ c0 ≤ cl.length) (b9 : ∀ q ∈ sc, nm_ok q.1 ∧ q.2 < 50) (b10 : clOk cl a1)
    (kN : tkK T n a1 ≠ 10 → ∀ u, gFr ad (crxP p) t u → ddC ad (fcd T n a1) (tkS T n a1) u → post none u)
    (k30 : tkK T n a1 = 10 → o = 30 → ∀ u, gFr ad (crxP p) t u → ddC ad 5 (tkS T n a1) u → post none u)
    (kD : tkK T n a1 = 10 → o < 30 → ∀ c q u, gFr ad (crxP p) t u → ddC ad c q u → (∀ V K, VK V K (tkE T n a1) 0 cl.length → RfT cx dm ad T n x Pm c0 (tkE T n a1, l, o + 1, sc, cl, ac, V, K ++ [(1, 0, [])]) c q) → post none u)
    (kC : tkK T n a1 = 10 → o < 30 → ∀ a3 l3 cl3 ac3 A u, fo_l A = 1 → PG Pm x (o + 1) cl.length (tkE T n a1) l sc cl ac a3 l3 cl3 ac3 A → a3 ≤ n → (∀ V K, VK V K (tkE T n a1) 0 cl.length → RcT cx dm ad T n x Pm c0 (tkE T n a1, l, o + 1, sc, cl, ac, V, K ++ [(1, 0, [])]) (a3, l3, o + 1, sc, cl3, ac3, fo_ap V A, K)) → tkK T n a3 ≠ 11 → gFr ad (crxP p) t u → ddC ad (fcd T n a3) (tkS T n a3) u → post none u)
    (kL : tkK T n a1 = 10 → o < 30 → ∀ a3 l3 cl3 ac3 A u, fo_l A = 1 → PG Pm x (o + 1) cl.length (tkE T n a1) l sc cl ac a3 l3 cl3 ac3 A → a3 ≤ n → (∀ V K, VK V K (tkE T n a1) 0 cl.length → RcT cx dm ad T n x Pm c0 (tkE T n a1, l, o + 1, sc, cl, ac, V, K ++ [(1, 0, [])]) (a3, l3, o + 1, sc, cl3, ac3, fo_ap V A, K)) → tkK T n a3 = 11 → gFr ad (crxP p) t u → CR ad T n p Pm st l3 o sc cl3.length (N + fo_n A) u → cuC ad T n (tkE T n a3) u → LC ad p st N t A u → CCc ad cl t cl3 ac3 u → post none u) :
    g_E cx (d + 14) i_Reader_readBracketed [.ref (ad 3)] t post := by
  have hn := hT.1
  have hpg := hp.ge
  obtain ⟨b1, b2, b3', b4, b5, b6, b7, b8⟩ := hB
  refine x_Reader_readBracketed hL (x_Reader_openBracket hL ?_)
  refine m_isAtC (kk := 10) (by decide) rfl hcs hL hR.1 b1 hC (fun u1 F1 h1 => ⟨_, rfl, F1.L, fun z => ?_, fun z => ?_⟩) (fun h23 u1 F1 h1 => ⟨_, rfl, F1.L, fun _ => ?_, fun z => absurd rfl z⟩)
  · have hk : ¬ tkK T n a1 = 10 := b32_d.mp z
    refine m_needC (kk := 10) (by decide) rfl hcs F1.L (hR.tc F1).1 b1 h1.cu (fun y => absurd y hk) (fun _ w Fw hd => ⟨_, rfl, Fw.L, rfl, _, rfl, Fw.L, fun z => absurd rfl z, fun _ => kN hk w ((F1.tr Fw).mo (fun c k z => ce_tc z)) hd⟩)
  rotate_left
  · refine m_needD F1.L h1.ne (by decide) ⟨_, rfl, F1.L, rfl, _, rfl, F1.L, fun z => absurd rfl z, fun _ => kN (by omega) u1 (F1.mo (fun c k z => ce_tc z)) ?_⟩
    rw [show fcd T n a1 = 1 from if_pos h23]
    exact h1
  have hk : tkK T n a1 = 10 := Classical.byContradiction (fun y => z (b32_f y))
  have hE1 := tkE_gt hT b1 (by omega)
  have hE2 := tkE_le hT b1
  refine m_opensC F1.L (hR.tc F1) h1 b3' (fun ho u2 F2 c2 h2 => ⟨_, rfl, F2.L, fun _ => ?_, fun z => absurd (show ¬ (1 : Int32) = 0 by decide) z⟩) (fun ho u2 F2 h2 => ⟨_, rfl, F2.L, fun z => absurd rfl z, fun _ => ⟨_, rfl, F2.L, fun z => absurd rfl z, fun _ => k30 hk ho u2 ((F1.tr F2).mo (fun c k z => ce_tc z)) h2⟩⟩)
  refine m_needC (kk := 10) (by decide) rfl hcs F2.L c2.1 b1 h2.cu (fun _ u3 F3 c3 _ => ⟨_, rfl, F3.L, rfl, _, rfl, F3.L, fun _ => ?_, fun z => absurd (show ¬ (1 : Int32) = 0 by decide) z⟩) (fun y => absurd hk y)
  have G3 : gFr ad (crxP p) t u3 := ((F1.mo (fun c k z => ce_tc z)).tr (F2.mo (fun c k z => ce_3 (by decide) z))).tr (F3.mo (fun c k z => ce_tc z))
  have be3 : ∀ U, bel ad p U t u3 := fun U => (((bt hp F1) U).tr ((b3 hp F2) U)).tr ((bt hp F3) U)
  have bec3 : ∀ U, belC ad U t u3 := fun U => ((bc F1 U).tr (bc3 F2 U)).tr (bc F3 U)
  refine hE ho (tkE T n a1) l N sc cl ac u3 _ F3.L (c2.tc F3) c3 ⟨⟨hE2, b2, by omega, by omega, b5, by omega, by omega, b8⟩, b9, b10.mo (by omega)⟩ (fun a3 l3 cl3 ac3 A v hA hLA hrA => ⟨rfl, hLA.1.L, ?_⟩) (fun c q v Fv hd hr => ⟨rfl, Fv.L, ?_⟩)
  rotate_left
  · refine m_needD Fv.L hd.ne (by decide) ⟨_, rfl, Fv.L, fun t7 e7 => ?_⟩
    have F7 : gFr ad (c3P 10) v t7 := by rw [e7]; exact (gFr.rf Fv.L).si rfl
    exact kD hk ho c q t7 ((G3.tr Fv).tr (F7.mo (fun c k z => ce_3 (by decide) z))) (hd.fr F7 (fun k => rfl)) hr
  have ha3 := hLA.2.2.2.2.1
  refine m_needC (kk := 11) (by decide) rfl hcs hLA.1.L hLA.2.2.1.1 ha3 hLA.2.2.2.1 (fun hk11 w Fw cw _ => ⟨_, rfl, Fw.L, fun t7 e7 => ?_⟩) (fun hk11 w Fw hd => ⟨_, rfl, Fw.L, fun t7 e7 => ?_⟩)
  · have crw := hLA.2.2.1.tc Fw
    rw [crw.2.2.2.2.1, nI_pred] at e7
    obtain ⟨c7, F7⟩ := crw.op Fw.L e7
    have bw : ∀ U, bel ad p U v t7 := fun U => ((bt hp Fw) U).tr ((b3 hp F7) U)
    have bcw : ∀ U, belC ad U v t7 := fun U => (bc Fw U).tr (bc3 F7 U)
    refine kL hk ho a3 l3 cl3 ac3 A t7 hA hLA.2.1 ha3 hrA hk11 (((G3.tr hLA.1).tr (Fw.mo (fun c k z => ce_tc z))).tr (F7.mo (fun c k z => ce_3 (by decide) z))) c7 (cw.fr F7 (fun k => rfl)) ?_ ((hLA.cc.fr bcw).fl bec3)
    have lc := hLA.lc.fr bw
    exact ⟨(be3 _).tr lc.1, lc.2⟩
  · have F7 : gFr ad (c3P 10) w t7 := by rw [e7]; exact (gFr.rf Fw.L).si rfl
    exact kC hk ho a3 l3 cl3 ac3 A t7 hA hLA.2.1 ha3 hrA hk11 (((G3.tr hLA.1).tr (Fw.mo (fun c k z => ce_tc z))).tr (F7.mo (fun c k z => ce_3 (by decide) z))) (hd.fr F7 (fun k => rfl))
/-- what readUnary does at a token that is no sign -/
def SpN (cx : gCx) (dm : Nat) (ad : Nat → Nat) (T : Nat → Nat) (n p Pm st c0 x m D o kk : Nat) : Prop := Sh cx dm ad T n p Pm st c0 x m D 18 4 o kk
theorem sp_part (hcs : g_CS cx) (hp : isQ p) (hT : txt T n) (hx : x < 72) (hE : o < 30 → Sp cx dm ad T n p Pm st c0 x i_Reader_readExpression (d + 13) 1 0 (o + 1)) (hN : SpN cx dm ad T n p Pm st c0 x i_Reader_readName (d + 14) o 2) (kk : Nat) (hkk : kk ≠ 16) (hk23 : kk ≠ 23) : Sh cx dm ad T n p Pm st c0 x i_Reader_readPart (d + 15) 18 4 o kk := by
  intro a l N sc cl ac t post hL hR hC hk hB kl kd
  have hn := hT.1
  have hpg := hp.ge
  have hB' := hB
  obtain ⟨⟨b1, b2, b3', b4, b5, b6, b7, b8⟩, b9, b10⟩ := hB
  have hk1 : ∀ V K, VK V K a 4 cl.length → K.length < 19000 := fun V K hV => by have := hV.2.2; omega
  have hE2 := tkE_le hT b1
  refine x_Reader_readPart hL (m_peek hcs hL hR.1 b1 hC.cu (fun u1 F1 h1 => ⟨_, rfl, F1.L, fun z => ?_, fun z => ?_, fun z => ?_, fun z1 z2 z9 => ?_⟩) (fun u1 F1 h23 h1 => by omega))
  · -- a name
    have hk2 : tkK T n a = 2 := (cK_iff (j := 2) tkK_le (by decide)).mp z
    refine x_Reader_readPart_60 F1.L (hN a l N sc cl ac u1 _ F1.L (hR.tc F1) h1 hk2 hB' (fun a' l' cl' ac' F u hF hLV hRc => ⟨rfl, hLV.1.L, kl a' l' cl' ac' F u hF ?_ hRc⟩) (fun c q u Fu hd hRf => ⟨rfl, Fu.L, kd c q u ((F1.mo (fun c k z => ce_tc z)).tr Fu) hd hRf⟩))
    obtain ⟨p1, p2, p3, p4, p5, p6, p7, p8, p9⟩ := hLV
    exact ⟨(F1.mo (fun c k z => ce_tc z)).tr p1, p2, p3, p4, p5, ((bt hp F1) _).tr p6, p7, (bc F1 _).tr p8, p9⟩
  · -- a number
    have hkn : tkK T n a = 1 := (cK_iff (j := 1) tkK_le (by decide)).mp z
    have hE1 := tkE_gt hT b1 (by omega)
    refine x_Reader_readPart_40 F1.L ?_
    rw [h1.2.2.2.2.2.2.1 hkn]
    refine m_addN hp F1.L (hR.tc F1) (by omega) (by omega) (fun u5 F5 c5 bl5 r5 => ⟨rfl, F5.L, ?_⟩)
    refine m_takeC F5.L (h1.fr F5 (fun k => bool_r inP_i (by omega))) (fun u7 F7 c7 _ => ⟨rfl, F7.L, ?_⟩)
    refine kl (tkE T n a) l cl ac (.inner 0 1 (nI (tkW T n a)) .leaf .leaf) u7 rfl ⟨((F1.mo (fun c k z => ce_tc z)).tr (F5.mo (fun c k z => ce_in z))).tr (F7.mo (fun c k z => ce_tc z)), PG.lf (Or.inl rfl) hE1 b2 (b10.mo (by omega)), c5.tc F7, c7, hE2, (((bt hp F1) _).tr bl5).tr ((bt hp F7) _), fun y => (r5 y).be ((bt hp F7) _) (Nat.le_refl _), ((bc F1 _).tr (bci hp F5 _)).tr (bc F7 _), fun i q hi hq => absurd (List.getElem?_eq_some_iff.mp hq).1 (by omega)⟩ (fun V K hV => r_num b1 (hk1 V K hV) hx (by have := hV.1; omega) (by have := hV.1; omega) hkn)
  · -- put
    have hk9 : tkK T n a = 9 := (cK_iff (j := 9) tkK_le (by decide)).mp z
    have hE1 := tkE_gt hT b1 (by omega)
    refine x_Reader_readPart_65 F1.L (m_takeC F1.L h1 (fun u3 F3 c3 _ => ⟨rfl, F3.L, ?_⟩))
    refine m_addN hp F3.L ((hR.tc F1).tc F3) (by omega) (by omega) (fun u5 F5 c5 bl5 r5 => ⟨rfl, F5.L, ?_⟩)
    have G5 : gFr ad (crxP p) t u5 := ((F1.tr F3).mo (fun c k z => ce_tc z)).tr (F5.mo (fun c k z => ce_in z))
    have VP : ∀ V K, VK V K a 4 cl.length → VK V (K ++ [(20, 0, [])]) (tkE T n (tkE T n a)) 0 cl.length := fun V K hV => by
      have q := tkE_p hT hE2
      have := tkS_ge (T := T) (n := n) (a := tkE T n a)
      exact hV.mo (by omega) (Nat.le_refl _) (by rw [len1]; have := hV.2.2; omega)
    refine m_brack (a1 := tkE T n a) (N := N + 1) hcs hp hT hE F5.L c5 (c3.fr F5 (fun k => bool_r inP_i (by omega))) ⟨hE2, b2, b3', b4, b5, by omega, by omega, b8⟩ b9 (b10.mo (by omega)) (fun hk2 u Fu hd => ⟨rfl, Fu.L, kd _ _ u (G5.tr Fu) hd (fun V K hV => r_put_n b1 (hk1 V K hV) hT hk9 hk2)⟩) (fun hk2 ho u Fu hd => ⟨rfl, Fu.L, kd _ _ u (G5.tr Fu) hd (fun V K hV => r_put_30 b1 (hk1 V K hV) hT hk9 hk2 ho)⟩) (fun hk2 ho c q u Fu hd hr => ⟨rfl, Fu.L, kd _ _ u (G5.tr Fu) hd (fun V K hV => (r_put b1 (hk1 V K hV) b3' hT hk9 hk2 ho).f (hr _ _ (VP V K hV)))⟩) (fun hk2 ho a3 l3 cl3 ac3 A u hA gA ha3 hr hk11 Fu hd => ⟨rfl, Fu.L, kd _ _ u (G5.tr Fu) hd (fun V K hV => ?_)⟩) (fun hk2 ho a3 l3 cl3 ac3 A u hA gA ha3 hr hk11 Fu cu cuu lc cc => ⟨rfl, Fu.L, ?_⟩)
    · have gA1 := gA.1
      have hE3 := tkE_gt hT hE2 (by omega)
      exact (r_put b1 (hk1 V K hV) b3' hT hk9 hk2 ho).f ((hr _ _ (VP V K hV)).f (r_put_f ha3 (hk1 V K hV) hx hA (by have := hV.1; omega) (by omega) hk11))
    · have gA1 := gA.1
      have hE3 := tkE_gt hT hE2 (by omega)
      have hE4 := tkE_gt hT ha3 (by omega)
      have en : fo_n (.inner 0 11 0 A .leaf) = fo_n A + 1 := by simp only [fo_n]; try omega
      have hnd := (gA.nd (k := 11) (j := 11) (a0 := a) (a2 := tkE T n a3) (by decide) rfl (by rw [hA]; rfl) (Or.inl (by omega)) (by omega) (by omega)).op (a0 := a) (a2 := tkE T n a3) (Nat.le_refl _) (Nat.le_refl _)
      have lcn := LC.nd ((((bt hp F1) _).tr ((bt hp F3) _)).tr bl5) r5 (fun U => bel.rf) lc
      have ccn := cc.fl (fun c => ((bc F1 c).tr (bc F3 c)).tr (bci hp F5 c))
      refine kl (tkE T n a3) l3 cl3 ac3 (.inner 0 11 0 A .leaf) u rfl ⟨G5.tr Fu, hnd, ?_, cuu, tkE_le hT ha3, lcn.1, lcn.2, ccn.1, ccn.2⟩ (fun V K hV => ?_)
      · rw [en, show N + (fo_n A + 1) = N + 1 + fo_n A by omega]
        exact cu
      · exact (r_put b1 (hk1 V K hV) b3' hT hk9 hk2 ho).tr ((hr _ _ (VP V K hV)).tr (r_put_e ha3 (hk1 V K hV) hx hA (by have := hV.1; omega) (by omega) hk11))
  · -- brackets, or what cannot stand there
    have n2 : tkK T n a ≠ 2 := fun y => z1 (by rw [y]; rfl)
    have n1 : tkK T n a ≠ 1 := fun y => z2 (by rw [y]; rfl)
    have n9 : tkK T n a ≠ 9 := fun y => z9 (by rw [y]; rfl)
    have VP : tkK T n a = 10 → ∀ V K, VK V K a 4 cl.length → VK V (K ++ [(21, 0, [])]) (tkE T n a) 0 cl.length := fun hk10 V K hV => by
      have hE1 := tkE_gt hT b1 (by omega)
      exact hV.mo (by omega) (Nat.le_refl _) (by rw [len1]; have := hV.2.2; omega)
    have F1' := F1.mo (fun c k z => ce_tc (p := p) z)
    refine x_Reader_readPart_84 F1.L (m_brack (a1 := a) hcs hp hT hE F1.L (hR.tc F1) h1.cu ⟨b1, b2, b3', b4, b5, by omega, by omega, b8⟩ b9 b10 (fun hk2 u Fu hd => ⟨rfl, Fu.L, kd _ _ u (F1'.tr Fu) hd (fun V K hV => r_other b1 (hk1 V K hV) n1 n2 n9 hk2 (by omega))⟩) (fun hk2 ho u Fu hd => ⟨rfl, Fu.L, kd _ _ u (F1'.tr Fu) hd (fun V K hV => r_par_30 b1 (hk1 V K hV) hk2 ho)⟩) (fun hk2 ho c q u Fu hd hr => ⟨rfl, Fu.L, kd _ _ u (F1'.tr Fu) hd (fun V K hV => (r_par b1 (hk1 V K hV) b3' hk2 ho).f (hr _ _ (VP hk2 V K hV)))⟩) (fun hk2 ho a3 l3 cl3 ac3 A u hA gA ha3 hr hk11 Fu hd => ⟨rfl, Fu.L, kd _ _ u (F1'.tr Fu) hd (fun V K hV => (r_par b1 (hk1 V K hV) b3' hk2 ho).f ((hr _ _ (VP hk2 V K hV)).f (r_par_f ha3 (hk1 V K hV) hk11)))⟩) (fun hk2 ho a3 l3 cl3 ac3 A u hA gA ha3 hr hk11 Fu cu cuu lc cc => ⟨rfl, Fu.L, ?_⟩))
    have hE1 := tkE_gt hT b1 (by omega)
    have hE4 := tkE_gt hT ha3 (by omega)
    have ccn := cc.fl (bc F1)
    exact kl (tkE T n a3) l3 cl3 ac3 A u hA ⟨F1'.tr Fu, gA.op (by omega) (by omega), cu, cuu, tkE_le hT ha3, ((bt hp F1) _).tr lc.1, lc.2, ccn.1, ccn.2⟩ (fun V K hV => (r_par b1 (hk1 V K hV) b3' hk2 ho).tr ((hr _ _ (VP hk2 V K hV)).tr (r_par_e ha3 (hk1 V K hV) (by omega) hk11)))
/-- unary -/
theorem sp_unary (hcs : g_CS cx) (hp : isQ p) (hT : txt T n) (hx : x < 72) (hU : o < 30 → Sp cx dm ad T n p Pm st c0 x i_Reader_readUnary (d + 15) 18 4 (o + 1)) (hP : ∀ kk, kk ≠ 16 → kk ≠ 23 → Sh cx dm ad T n p Pm st c0 x i_Reader_readPart (d + 15) 18 4 o kk) : Sp cx dm ad T n p Pm st c0 x i_Reader_readUnary (d + 16) 18 4 o := by
  intro a l N sc cl ac t post hL hR hC hB kl kd
  have hn := hT.1
  have hpg := hp.ge
  have hB' := hB
  obtain ⟨⟨b1, b2, b3', b4, b5, b6, b7, b8⟩, b9, b10⟩ := hB
  have hk1 : ∀ V K, VK V K a 4 cl.length → K.length < 19000 := fun V K hV => by have := hV.2.2; omega
  have hE2 := tkE_le hT b1
  refine x_Reader_readUnary hL (m_isAtC (kk := 16) (by decide) rfl hcs hL hR.1 b1 hC (fun u1 F1 h1 => ⟨_, rfl, F1.L, fun z => ?_, fun z => ?_⟩) (fun h23 u1 F1 h1 => ⟨_, rfl, F1.L, fun z => absurd rfl z, fun _ => d_part F1.L h1.ne ⟨rfl, F1.L, kd 1 _ u1 (F1.mo (fun c k z => ce_tc z)) h1 (fun V K hV => ?_)⟩⟩))
  · have hk : tkK T n a = 16 := Classical.byContradiction (fun y => z (b32_f y))
    have hE1 := tkE_gt hT b1 (by omega)
    refine m_opensC F1.L (hR.tc F1) h1 b3' (fun ho u2 F2 c2 h2 => ⟨_, rfl, F2.L, fun z => absurd z (by decide), fun _ => ?_⟩) (fun ho u2 F2 h2 => ⟨_, rfl, F2.L, fun _ => kd 5 _ u2 ((F1.tr F2).mo (fun c k z => ce_tc z)) h2 (fun V K hV => r_neg_f b1 (hk1 V K hV) hk ho), fun z => absurd rfl z⟩)
    refine m_takeC F2.L h2 (fun u3 F3 c3 _ => ⟨rfl, F3.L, ?_⟩)
    refine m_addN hp F3.L (c2.tc F3) (by omega) (by omega) (fun u5 F5 c5 bl5 r5 => ⟨rfl, F5.L, ?_⟩)
    have G5 : gFr ad (crxP p) t u5 := (((F1.mo (fun c k z => ce_tc z)).tr (F2.mo (fun c k z => ce_3 (by decide) z))).tr (F3.mo (fun c k z => ce_tc z))).tr (F5.mo (fun c k z => ce_in z))
    have VP : ∀ V K, VK V K a 4 cl.length → VK V (K ++ [(19, 0, [])]) (tkE T n a) 4 cl.length := fun V K hV => hV.mo (by omega) (Nat.le_refl _) (by rw [len1]; have := hV.2.2; omega)
    refine hU ho (tkE T n a) l (N + 1) sc cl ac u5 _ F5.L c5 (c3.fr F5 (fun k => bool_r inP_i (by omega))) ⟨⟨hE2, b2, by omega, by omega, b5, by omega, by omega, b8⟩, b9, b10.mo (by omega)⟩ (fun a3 l3 cl3 ac3 A v hA hLA hrA => ⟨rfl, hLA.1.L, fun t11 e11 => ?_⟩) (fun c q v Fv hd hr => ⟨rfl, Fv.L, fun t11 e11 => ?_⟩)
    · have gA := hLA.2.1
      have gA1 := gA.1
      have ha3 := hLA.2.2.2.2.1
      rw [hLA.2.2.1.2.2.2.2.1, nI_pred] at e11
      obtain ⟨c11, F11⟩ := hLA.2.2.1.op hLA.1.L e11
      have en : fo_n (.inner 0 10 0 A .leaf) = fo_n A + 1 := by simp only [fo_n]; try omega
      have hnd := (gA.nd (k := 10) (j := 10) (a0 := a) (a2 := a3) (by decide) rfl (by rw [hA]; rfl) (Or.inl (by omega)) (by omega) (Nat.le_refl _)).op (a0 := a) (a2 := a3) (Nat.le_refl _) (Nat.le_refl _)
      have lcn := LC.nd (((((bt hp F1) _).tr ((b3 hp F2) _)).tr ((bt hp F3) _)).tr bl5) r5 (fun U => bel.rf) (hLA.lc.fr (b3 hp F11))
      have ccn := (hLA.cc.fr (bc3 F11)).fl (fun c => (((bc F1 c).tr (bc3 F2 c)).tr (bc F3 c)).tr (bci hp F5 c))
      refine kl a3 l3 cl3 ac3 (.inner 0 10 0 A .leaf) t11 rfl ⟨(G5.tr hLA.1).tr (F11.mo (fun c k z => ce_3 (by decide) z)), hnd, ?_, hLA.2.2.2.1.fr F11 (fun k => rfl), ha3, lcn.1, lcn.2, ccn.1, ccn.2⟩ (fun V K hV => ?_)
      · rw [en, show N + (fo_n A + 1) = N + 1 + fo_n A by omega]
        exact c11
      · exact (r_neg b1 (hk1 V K hV) b3' hk ho).tr ((hrA _ _ (VP V K hV)).tr (r_neg_e (hk1 V K hV) hx hA (by have := hV.1; omega) (by omega)))
    · have F11 : gFr ad (c3P 10) v t11 := by rw [e11]; exact (gFr.rf Fv.L).si rfl
      exact kd c q t11 ((G5.tr Fv).tr (F11.mo (fun c k z => ce_3 (by decide) z))) (hd.fr F11 (fun k => rfl)) (fun V K hV => (r_neg b1 (hk1 V K hV) b3' hk ho).f (hr _ _ (VP V K hV)))
  · have hk : ¬ tkK T n a = 16 := b32_d.mp (Classical.not_not.mp z)
    refine hP (tkK T n a) hk h1.2.2.1 a l N sc cl ac u1 _ F1.L (hR.tc F1) h1 rfl hB' (fun a' l' cl' ac' F u hF hLV hRc => ⟨rfl, hLV.1.L, kl a' l' cl' ac' F u hF ?_ hRc⟩) (fun c q u Fu hd hRf => ⟨rfl, Fu.L, kd c q u ((F1.mo (fun c k z => ce_tc z)).tr Fu) hd hRf⟩)
    obtain ⟨p1, p2, p3, p4, p5, p6, p7, p8, p9⟩ := hLV
    exact ⟨(F1.mo (fun c k z => ce_tc z)).tr p1, p2, p3, p4, p5, ((bt hp F1) _).tr p6, p7, (bc F1 _).tr p8, p9⟩
  · have := r_other (T := T) (cx := cx) (d := dm) (ad := ad) (x := x) (Pm := Pm) (c0 := c0) (l := l) (o := o) (sc := sc) (cl := cl) (ac := ac) (V := V) b1 (hk1 V K hV) (by omega) (by omega) (by omega) (by omega) (by omega)
    rw [show fcd T n a = 1 from if_pos h23] at this
    exact this
end CK
