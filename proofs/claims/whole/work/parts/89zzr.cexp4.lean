/-! THE CLASS READS AN EXPRESSION: let and if -/
/-- rows of a forest -/
def LC (ad : Nat → Nat) (p st N : Nat) (t : gSt) (F : Fo) (u : gSt) : Prop := bel ad p (st + min N 400) t u ∧ (N + fo_n F ≤ 400 → rowC ad p (st + N) (fo_p F) u)
/-- calls that came -/
def CCc (ad : Nat → Nat) (cl : CL) (t : gSt) (cl' : CL) (ac' : Nat → Nat) (u : gSt) : Prop := belC ad cl.length t u ∧ callC ad cl.length cl' ac' u
section CI
variable {cx : gCx} {d dm : Nat} {ad : Nat → Nat} {T : Nat → Nat} {n p Pm st c0 x e a l o N a1 l1 a2 a3 l3 : Nat} {sc : SC} {cl cl1 cl3 : CL} {ac ac1 ac3 : Nat → Nat} {A B W F : Fo} {t u v w : gSt} {k : Int32} {y : Int32}
theorem LV.lc (h : LV ad T n p Pm x st e a l o sc cl ac N t a1 l1 cl1 ac1 F u) : LC ad p st N t F u := ⟨h.2.2.2.2.2.1, h.2.2.2.2.2.2.1⟩
theorem LV.cc (h : LV ad T n p Pm x st e a l o sc cl ac N t a1 l1 cl1 ac1 F u) : CCc ad cl t cl1 ac1 u := ⟨h.2.2.2.2.2.2.2.1, h.2.2.2.2.2.2.2.2⟩
theorem LC.ap (h1 : LC ad p st N t A u) (hv : ∀ U, bel ad p U u v) (h2 : LC ad p st (N + fo_n A) v B w) : LC ad p st N t (fo_ap A B) w := by
  refine ⟨(h1.1.tr (hv _)).tr (h2.1.mo (by omega)), fun z => ?_⟩
  rw [fo_n_ap] at z
  rw [fo_p_ap]
  refine rowC.ap (((h1.2 (by omega)).be (hv _) (Nat.le_refl _)).be h2.1 (by rw [fo_pn]; omega)) ?_
  rw [fo_pn, show st + N + fo_n A = st + (N + fo_n A) by omega]
  exact h2.2 (by omega)
theorem LC.nd (hb : bel ad p (st + min N 400) t u) (hr : N + 1 ≤ 400 → rowC ad p (st + N) [(k, y)] u) (hv : ∀ U, bel ad p U u v) (h : LC ad p st (N + 1) v W w) : LC ad p st N t (.inner 0 k y W .leaf) w := by
  refine ⟨(hb.tr (hv _)).tr (h.1.mo (by omega)), fun z => ?_⟩
  have en : fo_n (.inner 0 k y W .leaf) = fo_n W + 1 := by simp only [fo_n]; try omega
  rw [en] at z
  have ep : fo_p (.inner 0 k y W .leaf) = [(k, y)] ++ fo_p W := by simp only [fo_p, List.append_nil, List.singleton_append]
  rw [ep]
  refine rowC.ap (((hr (by omega)).be (hv _) (Nat.le_refl _)).be h.1 (by simp only [List.length_cons, List.length_nil]; omega)) ?_
  rw [show st + N + [(k, y)].length = st + (N + 1) by simp only [List.length_cons, List.length_nil]; omega]
  exact h.2 (by omega)
theorem LC.fr (h : LC ad p st N t F u) (hv : ∀ U, bel ad p U u v) : LC ad p st N t F v := ⟨h.1.tr (hv _), fun z => (h.2 z).be (hv _) (Nat.le_refl _)⟩
theorem LC.z (hv : ∀ U, bel ad p U u v) : LC ad p st N u .leaf v := ⟨hv _, fun _ i q hq => by cases hq⟩
theorem CCc.ap (h1 : CCc ad cl t cl1 ac1 u) (hv : ∀ c, belC ad c u v) (h2 : CCc ad cl1 v cl3 ac3 w) (hg : PG Pm x o e a l sc cl1 ac1 a1 l1 cl3 ac3 F) (he : cl1.length ≤ e) (hc : cl.length ≤ cl1.length) : CCc ad cl t cl3 ac3 w := by
  refine ⟨(h1.1.tr (hv _)).tr (h2.1.mo hc), fun i q hi hq => ?_⟩
  by_cases z : i < cl1.length
  · have hq1 := cl_pre hg z hq
    have h5 := h1.2 i q hi hq1
    have b5 := ((hv (i + 1)) i (by omega))
    have b6 := h2.1 i z
    rw [b6.1, b6.2.1, b6.2.2, b5.1, b5.2.1, b5.2.2, hg.2.2.2.2.1 i z (by omega)]
    exact h5
  · exact h2.2 i q (by omega) hq
theorem CCc.fr (h : CCc ad cl t cl1 ac1 u) (hv : ∀ c, belC ad c u v) : CCc ad cl t cl1 ac1 v := ⟨h.1.tr (hv _), h.2.be (hv _) (Nat.le_refl _)⟩
theorem CCc.fl (h : CCc ad cl v cl1 ac1 w) (hv : ∀ c, belC ad c t v) : CCc ad cl t cl1 ac1 w := ⟨(hv _).tr h.1, h.2⟩
theorem bt (hp : isQ p) (hF : gFr ad tcP u v) : ∀ U, bel ad p U u v := fun U => bel.fr (by have := hp.ge; omega) hF (fun c k z => bool_r tcP_i (by have := hp.ge; omega))
theorem bc (hF : gFr ad tcP u v) : ∀ c, belC ad c u v := fun c => belC.fr hF (fun c k z => bool_r tcP_i (by omega))
theorem b3 {j : Nat} (hp : isQ p) (hF : gFr ad (c3P j) u v) : ∀ U, bel ad p U u v := fun U => bel.fr (by have := hp.ge; omega) hF (fun c k z => bool_r c3P_i (by have := hp.ge; omega))
theorem bc3 {j : Nat} (hF : gFr ad (c3P j) u v) : ∀ c, belC ad c u v := fun c => belC.fr hF (fun c k z => bool_r c3P_i (by omega))
theorem bci (hp : isQ p) (hF : gFr ad (inP p) u v) : ∀ c, belC ad c u v := fun c => belC.fr hF (fun c k z => bool_r inP_i (by have := hp.ge; omega))
theorem ce_3 {c k j : Nat} (hj : 8 ≤ j ∧ j ≤ 14) (h : c3P j c k = true) : crxP p c k = true := by
  rw [c3P_i] at h
  rw [crxP_i]
  omega
theorem ce_se {c k : Nat} (h : seP c k = true) : crxP p c k = true := by
  rw [seP_i] at h
  rw [crxP_i]
  omega
/-- what reading at a held token does -/
def Sh (cx : gCx) (dm : Nat) (ad : Nat → Nat) (T : Nat → Nat) (n p Pm st c0 x m D tkn lev o kk : Nat) : Prop := ∀ (a l N : Nat) (sc : SC) (cl : CL) (ac : Nat → Nat) (t : gSt) (post : Option Value → gSt → Prop), Lay t ad → CR ad T n p Pm st l o sc cl.length N t → hcC ad T n a t → tkK T n a = kk → BD n Pm st c0 a l o sc cl N →
  (∀ a' l' cl' ac' F u, fo_l F = 1 → LV ad T n p Pm x st cl.length a l o sc cl ac N t a' l' cl' ac' F u → (∀ V K, VK V K a lev cl.length → RcT cx dm ad T n x Pm c0 (a, l, o, sc, cl, ac, V, K ++ [(tkn, 0, [])]) (a', l', o, sc, cl', ac', fo_ap V F, K)) → post none u) →
  (∀ c q u, gFr ad (crxP p) t u → ddC ad c q u → (∀ V K, VK V K a lev cl.length → RfT cx dm ad T n x Pm c0 (a, l, o, sc, cl, ac, V, K ++ [(tkn, 0, [])]) c q) → post none u) →
  g_E cx D m [.ref (ad 3)] t post
theorem sh_if (hcs : g_CS cx) (hp : isQ p) (hT : txt T n) (hx : x < 72) (hE : o < 30 → Sp cx dm ad T n p Pm st c0 x i_Reader_readExpression (d + 8) 1 0 (o + 1)) : Sh cx dm ad T n p Pm st c0 x i_Reader_readIf (d + 9) 1 0 o 6 := by
  intro a l N sc cl ac t post hL hR hC hk hB kl kd
  have hn := hT.1
  obtain ⟨⟨b1, b2, b3', b4, b5, b6, b7, b8⟩, b9, b10⟩ := hB
  have hE1 := tkE_gt hT b1 (by omega)
  have hE2 := tkE_le hT b1
  refine x_Reader_readIf hL (m_opensC hL hR hC b3' (fun ho u1 F1 c1 h1 => ⟨_, rfl, F1.L, fun _ => ?_, fun z => absurd (show ¬ (1 : Int32) = 0 by decide) z⟩) (fun ho u1 F1 h1 => ⟨_, rfl, F1.L, fun z => absurd rfl z, fun _ => kd 5 _ u1 (F1.mo (fun c k z => ce_tc z)) h1 (fun V K hV => r_if_f b1 (by have := hV.2.2; omega) hk ho)⟩))
  refine m_takeC F1.L h1 (fun u3 F3 c3 _ => ⟨rfl, F3.L, ?_⟩)
  refine m_addN hp F3.L (c1.tc F3) (by omega) (by omega) (fun u5 F5 c5 bl5 r5 => ⟨rfl, F5.L, ?_⟩)
  have G5 : gFr ad (crxP p) t u5 := ((F1.mo (fun c k z => ce_3 (by decide) z)).tr (F3.mo (fun c k z => ce_tc z))).tr (F5.mo (fun c k z => ce_in z))
  have bel05 : bel ad p (st + min N 400) t u5 := (((b3 hp F1) _).tr ((bt hp F3) _)).tr bl5
  have belc05 : ∀ c, belC ad c t u5 := fun c => ((bc3 F1 c).tr (bc F3 c)).tr (bci hp F5 c)
  have cu5 := c3.fr F5 (fun k => bool_r inP_i (by have := hp.ge; omega))
  have hk1 : ∀ V K, VK V K a 0 cl.length → K.length < 19000 := fun V K hV => by have := hV.2.2; omega
  -- the first
  refine hE ho (tkE T n a) l (N + 1) sc cl ac u5 _ F5.L c5 cu5 ⟨⟨hE2, b2, by omega, by omega, b5, by omega, by omega, b8⟩, b9, b10.mo (by omega)⟩ (fun a1 l1 cl1 ac1 A v1 hA hLA hrA => ⟨rfl, hLA.1.L, ?_⟩) (fun c q v1 Fv hd hr => ⟨rfl, Fv.L, ?_⟩)
  rotate_left
  · refine m_needD Fv.L hd.ne (by decide) ⟨_, rfl, Fv.L, fun z => absurd rfl z, fun _ => kd c q v1 (G5.tr Fv) hd (fun V K hV => ?_)⟩
    exact (r_if b1 (hk1 V K hV) b3' hk ho).f (hr V (K ++ [(4, 0, [])]) (hV.mo (by omega) (Nat.le_refl _) (by rw [len1]; have := hV.2.2; omega)))
  have ha1 := hLA.2.2.2.2.1
  have gA := hLA.2.1
  have gA1 := gA.1
  have gA4 := gA.2.2.2.1
  have lA := gA.le
  have RA : ∀ V K, VK V K a 0 cl.length → RcT cx dm ad T n x Pm c0 (a, l, o, sc, cl, ac, V, K ++ [(1, 0, [])]) (a1, l1, o + 1, sc, cl1, ac1, fo_ap V A, K ++ [(4, 0, [])]) := fun V K hV => (r_if b1 (hk1 V K hV) b3' hk ho).tr (hrA V (K ++ [(4, 0, [])]) (hV.mo (by omega) (Nat.le_refl _) (by rw [len1]; have := hV.2.2; omega)))
  refine m_needC (kk := 7) (by decide) rfl hcs hLA.1.L hLA.2.2.1.1 ha1 hLA.2.2.2.1 (fun hk7 v2 F2 c2 _ => ⟨_, rfl, F2.L, fun _ => ?_, fun z => absurd (show ¬ (1 : Int32) = 0 by decide) z⟩) (fun hk7 v2 F2 h2 => ⟨_, rfl, F2.L, fun z => absurd rfl z, fun _ => kd _ _ v2 ((G5.tr hLA.1).tr (F2.mo (fun c k z => ce_tc z))) h2 (fun V K hV => (RA V K hV).f (r_then_f ha1 (hk1 V K hV) hk7))⟩)
  have hE3 := tkE_gt hT ha1 (by omega)
  have hE4 := tkE_le hT ha1
  have G2 : gFr ad (crxP p) t v2 := (G5.tr hLA.1).tr (F2.mo (fun c k z => ce_tc z))
  refine hE ho (tkE T n a1) l1 (N + 1 + fo_n A) sc cl1 ac1 v2 _ F2.L (hLA.2.2.1.tc F2) c2 ⟨⟨hE4, gA.2.1.2, by omega, by omega, b5, by omega, by omega, by omega⟩, b9, gA.2.2.2.2.2.2.2.2.mo (by omega)⟩ (fun a3 l3 cl3 ac3 B v3 hB hLB hrB => ⟨rfl, hLB.1.L, ?_⟩) (fun c q v3 Fv hd hr => ⟨rfl, Fv.L, ?_⟩)
  rotate_left
  · refine m_needD Fv.L hd.ne (by decide) ⟨_, rfl, Fv.L, fun z => absurd rfl z, fun _ => kd c q v3 (G2.tr Fv) hd (fun V K hV => ?_)⟩
    exact (RA V K hV).f ((r_then ha1 (hk1 V K hV) hk7).f (hr (fo_ap V A) (K ++ [(5, 0, [])]) (VK.ap (lev := 0) (hV.mo (a2 := tkE T n a) (lev' := 0) (K' := K) (by omega) (Nat.le_refl _) (by have := hV.2.2; omega)) gA (by omega) (by rw [len1]; have := hV.2.2; omega))))
  have ha3 := hLB.2.2.2.2.1
  have gB := hLB.2.1
  have gB1 := gB.1
  have gB4 := gB.2.2.2.1
  have lB := gB.le
  have RB : ∀ V K, VK V K a 0 cl.length → RcT cx dm ad T n x Pm c0 (a, l, o, sc, cl, ac, V, K ++ [(1, 0, [])]) (a3, l3, o + 1, sc, cl3, ac3, fo_ap (fo_ap V A) B, K ++ [(5, 0, [])]) := fun V K hV => (RA V K hV).tr ((r_then ha1 (hk1 V K hV) hk7).tr (hrB (fo_ap V A) (K ++ [(5, 0, [])]) (VK.ap (lev := 0) (hV.mo (a2 := tkE T n a) (lev' := 0) (K' := K) (by omega) (Nat.le_refl _) (by have := hV.2.2; omega)) gA (by omega) (by rw [len1]; have := hV.2.2; omega))))
  refine m_needC (kk := 8) (by decide) rfl hcs hLB.1.L hLB.2.2.1.1 ha3 hLB.2.2.2.1 (fun hk8 v4 F4 c4 _ => ⟨_, rfl, F4.L, fun _ => ?_, fun z => absurd (show ¬ (1 : Int32) = 0 by decide) z⟩) (fun hk8 v4 F4 h4 => ⟨_, rfl, F4.L, fun z => absurd rfl z, fun _ => kd _ _ v4 ((G2.tr hLB.1).tr (F4.mo (fun c k z => ce_tc z))) h4 (fun V K hV => (RB V K hV).f (r_else_f ha3 (hk1 V K hV) hk8))⟩)
  have hE5 := tkE_gt hT ha3 (by omega)
  have hE6 := tkE_le hT ha3
  have G4 : gFr ad (crxP p) t v4 := (G2.tr hLB.1).tr (F4.mo (fun c k z => ce_tc z))
  have VB : ∀ V K, VK V K a 0 cl.length → VK (fo_ap (fo_ap V A) B) (K ++ [(6, 0, [])]) (tkE T n a3) 0 cl3.length := fun V K hV => VK.ap (K := K) (lev := 0) (VK.ap (K := K) (lev := 0) (lev' := 0) (a2 := tkE T n a1) (hV.mo (a2 := tkE T n a) (lev' := 0) (K' := K) (by omega) (Nat.le_refl _) (by have := hV.2.2; omega)) gA (by omega) (by have := hV.2.2; omega)) gB (by omega) (by rw [len1]; have := hV.2.2; omega)
  refine hE ho (tkE T n a3) l3 (N + 1 + fo_n A + fo_n B) sc cl3 ac3 v4 _ F4.L (hLB.2.2.1.tc F4) c4 ⟨⟨hE6, gB.2.1.2, by omega, by omega, b5, by omega, by omega, by omega⟩, b9, gB.2.2.2.2.2.2.2.2.mo (by omega)⟩ (fun a5 l5 cl5 ac5 C v5 hC5 hLC hrC => ⟨rfl, hLC.1.L, fun t17 e17 => ?_⟩) (fun c q v5 Fv hd hr => ⟨rfl, Fv.L, fun t17 e17 => ?_⟩)
  rotate_left
  · have F17 : gFr ad (c3P 10) v5 t17 := by rw [e17]; exact (gFr.rf Fv.L).si rfl
    exact kd c q t17 ((G4.tr Fv).tr (F17.mo (fun c k z => ce_3 (by decide) z))) (hd.fr F17 (fun k => rfl)) (fun V K hV => (RB V K hV).f ((r_else ha3 (hk1 V K hV) hk8).f (hr _ _ (VB V K hV))))
  have gC := hLC.2.1
  have gC1 := gC.1
  have gC4 := gC.2.2.2.1
  have ha5 := hLC.2.2.2.2.1
  have lC := gC.le
  rw [hLC.2.2.1.2.2.2.2.1, nI_pred] at e17
  obtain ⟨c17, F17⟩ := hLC.2.2.1.op hLC.1.L e17
  have hW := (gA.ap gB (Or.inl hE3)).ap gC (Or.inl hE5)
  rw [fo_ap_as] at hW
  have hnd := (hW.nd (k := 13) (j := 13) (a0 := a) (a2 := a5) (by decide) rfl (by rw [fo_l_ap, fo_l_ap, hA, hB, hC5]; rfl) (Or.inl hE1) (by omega) (Nat.le_refl _)).op (a0 := a) (a2 := a5) (Nat.le_refl _) (Nat.le_refl _)
  have en : fo_n (.inner 0 13 0 (fo_ap A (fo_ap B C)) .leaf) = fo_n A + fo_n B + fo_n C + 1 := by simp only [fo_n, fo_n_ap]; omega
  refine kl a5 l5 cl5 ac5 (.inner 0 13 0 (fo_ap A (fo_ap B C)) .leaf) t17 rfl ⟨(G4.tr hLC.1).tr (F17.mo (fun c k z => ce_3 (by decide) z)), hnd, ?_, hLC.2.2.2.1.fr F17 (fun k => rfl), ha5, ?_⟩ (fun V K hV => ?_)
  · rw [en, show N + (fo_n A + fo_n B + fo_n C + 1) = N + 1 + fo_n A + fo_n B + fo_n C by omega]
    exact c17
  · have lc : LC ad p st (N + 1) u5 (fo_ap (fo_ap A B) C) t17 := ((hLA.lc.ap (bt hp F2) hLB.lc).ap (bt hp F4) (by rw [fo_n_ap, ← Nat.add_assoc]; exact hLC.lc)).fr (b3 hp F17)
    rw [fo_ap_as] at lc
    have hnd := LC.nd bel05 r5 (fun U => bel.rf) lc
    have cc := (((hLA.cc.ap (bc F2) hLB.cc gB (Nat.le_refl _) lA).ap (bc F4) hLC.cc gC (Nat.le_refl _) (by omega)).fr (bc3 F17)).fl belc05
    exact ⟨hnd.1, hnd.2, cc.1, cc.2⟩
  · have hVn := hV.1
    exact (RB V K hV).tr ((r_else ha3 (hk1 V K hV) hk8).tr ((hrC _ _ (VB V K hV)).tr (r_if_e (hk1 V K hV) hx hA hB hC5 (by omega) (by omega))))
end CI
