/-! THE CLASS READS AN EXPRESSION: behind a fault; products, sums, comparisons -/
section DE
variable {cx : gCx} {d : Nat} {ad : Nat → Nat} {t : gSt} {post : Option Value → gSt → Prop}
theorem d_openB (hL : Lay t ad) (h0 : ¬ t.2.1 (ad 4) 8 = 0) (k1 : post (some (.int 0)) t) : g_E cx (d + 3) i_Reader_openBracket [.ref (ad 3)] t post :=
  x_Reader_openBracket hL (m_isAtD hL h0 (by decide) ⟨_, rfl, hL, fun _ => m_needD hL h0 (by decide) ⟨_, rfl, hL, rfl, k1⟩, fun q => absurd rfl q⟩)
theorem d_brack (hL : Lay t ad) (h0 : ¬ t.2.1 (ad 4) 8 = 0) (k1 : post none t) : g_E cx (d + 4) i_Reader_readBracketed [.ref (ad 3)] t post :=
  x_Reader_readBracketed hL (d_openB hL h0 ⟨_, rfl, hL, fun q => absurd rfl q, fun _ => k1⟩)
theorem d_part (hL : Lay t ad) (h0 : ¬ t.2.1 (ad 4) 8 = 0) (k1 : post none t) : g_E cx (d + 5) i_Reader_readPart [.ref (ad 3)] t post :=
  x_Reader_readPart hL (m_peekD hL h0 ⟨_, rfl, hL, fun q => absurd q (by decide), fun q => absurd q (by decide), fun q => absurd q (by decide), fun _ _ _ => x_Reader_readPart_84 hL (d_brack hL h0 ⟨rfl, hL, k1⟩)⟩)
theorem d_unary (hL : Lay t ad) (h0 : ¬ t.2.1 (ad 4) 8 = 0) (k1 : post none t) : g_E cx (d + 6) i_Reader_readUnary [.ref (ad 3)] t post :=
  x_Reader_readUnary hL (m_isAtD hL h0 (by decide) ⟨_, rfl, hL, fun q => absurd rfl q, fun _ => d_part hL h0 ⟨rfl, hL, k1⟩⟩)
theorem m_ips {y : Int32} {b : Bool} (hL : Lay t ad) (hb : b = true ↔ y = 42 ∨ y = 47 ∨ y = 37) (k1 : post (some (.int (b32 b))) t) : g_E cx (d + 1) i_Reader_isProductSign [.int y] t post := by
  have yes : (y = 42 ∨ y = 47 ∨ y = 37) → post (some (.int 1)) t := fun q => by rw [hb.mpr q] at k1; exact k1
  refine x_Reader_isProductSign hL ⟨fun q => yes (Or.inl q), fun q1 => ⟨fun q => yes (Or.inr (Or.inl q)), fun q2 => ⟨fun q3 => ?_, fun q => yes (Or.inr (Or.inr (Classical.not_not.mp q)))⟩⟩⟩
  have : b = false := Bool.eq_false_iff.mpr (fun z => by
    rcases hb.mp z with z | z | z
    · exact q1 z
    · exact q2 z
    · exact q3 z)
  rw [this] at k1
  exact k1
theorem dl_prod {l1 l2 : Int32} {o3 : Option Value} (hL : Lay t ad) (h0 : ¬ t.2.1 (ad 4) 8 = 0) (k1 : post none t) : g_W cx (g_E cx (d + 1)) mt_Reader_readProduct post (11, [some (.ref (ad 3)), some (.int l1), some (.int l2), o3], [], t, 0, 0) :=
  x_Reader_readProduct_11 hL ⟨fun _ => k1, fun _ => m_peekD hL h0 ⟨_, rfl, hL, m_ips (b := false) hL ⟨fun z => (by cases z), fun z => absurd z (by decide)⟩ ⟨_, rfl, hL, fun _ => k1, fun q => absurd rfl q⟩⟩⟩
theorem d_prod (hL : Lay t ad) (h0 : ¬ t.2.1 (ad 4) 8 = 0) (k1 : post none t) : g_E cx (d + 7) i_Reader_readProduct [.ref (ad 3)] t post :=
  x_Reader_readProduct hL (fun _ _ => d_unary hL h0 ⟨rfl, hL, dl_prod hL h0 k1⟩)
theorem dl_sum {l1 l2 : Int32} (hL : Lay t ad) (h0 : ¬ t.2.1 (ad 4) 8 = 0) (k1 : post none t) : g_W cx (g_E cx (d + 2)) mt_Reader_readSum post (11, [some (.ref (ad 3)), some (.int l1), some (.int l2)], [], t, 0, 0) :=
  x_Reader_readSum_11 hL ⟨fun _ => k1, fun _ => m_isAtD hL h0 (by decide) ⟨_, rfl, hL, fun q => absurd rfl q, fun _ => m_isAtD hL h0 (by decide) ⟨_, rfl, hL, fun _ => k1, fun q => absurd rfl q⟩⟩⟩
theorem d_sum (hL : Lay t ad) (h0 : ¬ t.2.1 (ad 4) 8 = 0) (k1 : post none t) : g_E cx (d + 8) i_Reader_readSum [.ref (ad 3)] t post :=
  x_Reader_readSum hL (fun _ _ => d_prod hL h0 ⟨rfl, hL, dl_sum hL h0 k1⟩)
theorem dl_comp {C1 C2 : gSt → Prop} {D : gSt → Prop} (hL : Lay t ad) (h0 : ¬ t.2.1 (ad 4) 8 = 0) (k1 : D t) : g_E cx (d + 2) i_Tokens_isAt [.ref (ad 4), .int 60] t (fun r u4 => ∃ y5 : Int32, r = some (.int y5) ∧ Lay u4 ad ∧ ((¬ y5 = 0 → C1 u4) ∧ (¬ (¬ y5 = 0) → g_E cx (d + 2) i_Tokens_isAt [.ref (ad 4), .int 10] u4 (fun r u20 => ∃ y21 : Int32, r = some (.int y21) ∧ Lay u20 ad ∧ ((y21 = 0 → D u20) ∧ (¬ (y21 = 0) → C2 u20)))))) :=
  m_isAtD hL h0 (by decide) ⟨_, rfl, hL, fun q => absurd rfl q, fun _ => m_isAtD hL h0 (by decide) ⟨_, rfl, hL, fun _ => k1, fun q => absurd rfl q⟩⟩
theorem d_comp (hL : Lay t ad) (h0 : ¬ t.2.1 (ad 4) 8 = 0) (k1 : post none t) : g_E cx (d + 9) i_Reader_readComparison [.ref (ad 3)] t post :=
  x_Reader_readComparison hL (fun _ _ => d_sum hL h0 ⟨rfl, hL, dl_comp hL h0 k1⟩)
end DE
section CG
variable {cx : gCx} {d dm : Nat} {ad : Nat → Nat} {T : Nat → Nat} {n p Pm st c0 x e a l o N a1 l1 : Nat} {sc : SC} {cl cl1 : CL} {ac ac1 : Nat → Nat} {A F V : Fo} {K K' : AT} {t u w : gSt}
theorem LV.tc {P : Nat → Nat → Bool} (h : LV ad T n p Pm x st e a l o sc cl ac N t a1 l1 cl1 ac1 F u) (hp : isQ p) (hF : gFr ad tcP u w) (hC : cuC ad T n a1 w) : LV ad T n p Pm x st e a l o sc cl ac N t a1 l1 cl1 ac1 F w := by
  have hpg := hp.ge
  obtain ⟨p1, p2, p3, p4, p5, p6, p7, p8, p9⟩ := h
  have b : ∀ U, bel ad p U u w := fun U => bel.fr (by omega) hF (fun c k z => bool_r tcP_i (by omega))
  have c : ∀ U, belC ad U u w := fun U => belC.fr hF (fun c k z => bool_r tcP_i (by omega))
  exact ⟨p1.tr (hF.mo (fun c k z => ce_tc z)), p2, p3.tc hF, hC, p5, p6.tr (b _), fun z => (p7 z).be (b _) (Nat.le_refl _), p8.tr (c _), p9.be (c _) (Nat.le_refl _)⟩
theorem VK.aps {lev lev' a2 : Nat} (h : VK V K a lev cl.length) (hg : PG Pm x o e a l sc cl ac a1 l1 cl1 ac1 A) (h2 : a1 ≤ a2) (hl : a + 2 * fo_l A ≤ a2) (hK : K'.length ≤ 5 * a2 + lev') : VK (fo_ap V A) K' a2 lev' cl1.length := by
  have g1 := hg.le
  refine ⟨?_, fun q hq e => ?_, hK⟩
  · rw [fo_n_ap, fo_l_ap]
    have := hg.1
    have := h.1
    omega
  · rw [fo_p_ap] at hq
    rcases List.mem_append.mp hq with hq | hq
    · have := h.2.1 q hq e
      omega
    · exact (hg.in (pcl_p A q hq e)).2
theorem VK.ap {lev lev' a2 : Nat} (h : VK V K a lev cl.length) (hg : PG Pm x o e a l sc cl ac a1 l1 cl1 ac1 A) (h2 : a1 < a2) (hK : K'.length ≤ 5 * a2 + lev') (hA : fo_l A = 1 := by assumption) : VK (fo_ap V A) K' a2 lev' cl1.length :=
  h.aps hg (by omega) (by have := hg.1; have := fo_ln A; omega) hK
theorem VK.mo {lev lev' a2 : Nat} {cn cn' : Nat} (h : VK V K a lev cn) (h2 : a ≤ a2) (hc : cn ≤ cn') (hK : K'.length ≤ 5 * a2 + lev') : VK V K' a2 lev' cn' := ⟨by have := h.1; omega, fun q hq e => by have := h.2.1 q hq e; omega, hK⟩
theorem fo_pos (h : fo_l F = 1) : 1 ≤ fo_n F := (fo_rr1 h 0).2
/-- products -/
theorem sp_prod (hcs : g_CS cx) (hp : isQ p) (hT : txt T n) (hx : x < 72) (hU : Sp cx dm ad T n p Pm st c0 x i_Reader_readUnary (d + 8) 18 4 o) : Sp cx dm ad T n p Pm st c0 x i_Reader_readProduct (d + 9) 15 3 o := by
  intro a l N sc cl ac t post hL hR hC hB kl kd
  have hn := hT.1
  have han := hB.1.1
  have loop : ∀ (m i a1 l1 : Nat) (cl1 : CL) (ac1 : Nat → Nat) (A : Fo) (u : gSt) (o3 : Option Value), n - a1 = m → i < a1 → fo_l A = 1 → LV ad T n p Pm x st cl.length a l o sc cl ac N t a1 l1 cl1 ac1 A u → (∀ V K, VK V K a 3 cl.length → RcT cx dm ad T n x Pm c0 (a, l, o, sc, cl, ac, V, K ++ [(15, 0, [])]) (a1, l1, o, sc, cl1, ac1, fo_ap V A, K ++ [(16, 0, [])])) → g_W cx (g_E cx (d + 8)) mt_Reader_readProduct post (11, [some (.ref (ad 3)), some (.int (nI (st + min N 400))), some (.int (nI i)), o3], [], u, 0, 0) := by
    intro m
    induction m using Nat.strongRecOn with
    | ind m ih =>
    intro i a1 l1 cl1 ac1 A u o3 hm hi hA hLV hRc
    have ha1 := hLV.2.2.2.2.1
    have hg1 := hLV.2.1.1
    have hA1 := fo_pos hA
    refine x_Reader_readProduct_11 hLV.1.L ⟨fun z => ?_, fun _ => ?_⟩
    · rw [show (3000 : Int32) = nI 3000 from rfl, nI_leI (by omega) (by omega)] at z
      omega
    refine m_peek hcs hLV.1.L hLV.2.2.1.1 ha1 hLV.2.2.2.1 (fun u1 F1 h1 => ⟨_, rfl, F1.L, ?_⟩) (fun u1 F1 hk h1 => ⟨_, rfl, F1.L, ?_⟩)
    · have hLV1 := hLV.tc (P := tcP) hp F1 h1.cu
      have e42 : cK (tkK T n a1) = 42 ↔ tkK T n a1 = 17 := cK_iff (j := 17) tkK_le (by decide)
      have e47 : cK (tkK T n a1) = 47 ↔ tkK T n a1 = 18 := cK_iff (j := 18) tkK_le (by decide)
      have e37 : cK (tkK T n a1) = 37 ↔ tkK T n a1 = 19 := cK_iff (j := 19) tkK_le (by decide)
      refine m_ips (b := decide (tkK T n a1 = 17 ∨ tkK T n a1 = 18 ∨ tkK T n a1 = 19)) F1.L (by rw [decide_eq_true_iff, e42, e47, e37]) ⟨_, rfl, F1.L, fun z => ?_, fun z => ?_⟩
      · rw [b32_0, decide_eq_false_iff_not] at z
        exact kl a1 l1 cl1 ac1 A u1 hA hLV1 (fun V K hV => (hRc V K hV).tr (r_prod_o ha1 (by have := hV.2.2; omega) (fun y => z (Or.inl y)) (fun y => z (Or.inr (Or.inl y))) (fun y => z (Or.inr (Or.inr y))) h1.2.2.1))
      · rw [b32_0, decide_eq_false_iff_not, Classical.not_not] at z
        refine m_peek hcs F1.L hLV1.2.2.1.1 ha1 h1.cu (fun u5 F5 h5 => ⟨_, rfl, F5.L, ?_⟩) (fun u5 F5 hk h5 => by omega)
        have hLV5 := hLV1.tc (P := tcP) hp F5 h5.cu
        rw [e42, e47]
        have hEg := tkE_gt hT ha1 (by omega)
        have hEl := tkE_le hT ha1
        have fin : ∀ (j : Nat), (3 ≤ j ∧ j ≤ 9) → (∀ V K, K.length < 19000 → RcT cx dm ad T n x Pm c0 (a1, l1, o, sc, cl1, ac1, V, K ++ [(16, 0, [])]) (tkE T n a1, l1, o, sc, cl1, ac1, V, K ++ [(17, j, [])] ++ [(18, 0, [])])) → g_E cx (d + 8) i_Reader_insertNode [.ref (ad 3), .int (nI (st + min N 400)), .int (nI j), .int 0] u5 (fun r u7 => r = none ∧ Lay u7 ad ∧ g_E cx (d + 8) i_Tokens_take [.ref (ad 4)] u7 (fun r u9 => r = none ∧ Lay u9 ad ∧ g_E cx (d + 8) i_Reader_readUnary [.ref (ad 3)] u9 (fun r u11 => r = none ∧ Lay u11 ad ∧ g_W cx (g_E cx (d + 8)) mt_Reader_readProduct post (11, [some (.ref (ad 3)), some (.int (nI (st + min N 400))), some (.int (nI i + 1)), some (.int (cK (tkK T n a1)))], [], u11, 0, 0)))) := by
          intro j hj hr1
          refine op_go (D1 := d + 7) (D2 := d + 7) (Or.inl hj) rfl hp hT hA hB hLV5 h5 (by omega) hU (fun a' l' cl' ac' B w hB1 hLVw hEB hr2 => ?_) (fun c q w Fw hd hr2 => ?_)
          · have hB1' := fo_pos hB1
            have ha' := hLVw.2.2.2.2.1
            rw [nI_1]
            refine ih (n - a') (by omega) (i + 1) a' l' cl' ac' _ w _ rfl (by omega) rfl hLVw (fun V K hV => ?_)
            have hkl := hV.2.2
            have hVn := hV.1
            have := (hRc V K hV).tr ((hr1 (fo_ap V A) K (by omega)).tr (hr2 (fo_ap V A) (K ++ [(17, j, [])]) (hV.ap hLV5.2.1 (by omega) (by rw [List.length_append]; simp only [List.length_cons, List.length_nil]; omega))))
            exact this.tr (r_prod_e (by omega) hx hA hB1 (by omega) hj)
          · refine dl_prod Fw.L hd.ne (kd c q w Fw hd (fun V K hV => ?_))
            have hkl := hV.2.2
            exact (hRc V K hV).f ((hr1 (fo_ap V A) K (by omega)).f (hr2 (fo_ap V A) (K ++ [(17, j, [])]) (hV.ap hLV5.2.1 (by omega) (by rw [List.length_append]; simp only [List.length_cons, List.length_nil]; omega))))
        refine ⟨fun y1 => ⟨fun y2 => fin 7 (by decide) (fun V K hK => r_rem ha1 hK (by omega)), fun y2 => fin 6 (by decide) (fun V K hK => r_div ha1 hK (by omega))⟩, fun y1 => fin 5 (by decide) (fun V K hK => r_mul ha1 hK (by omega))⟩
    · refine m_ips (b := false) F1.L ⟨fun z => (by cases z), fun z => absurd z (by decide)⟩ ⟨_, rfl, F1.L, fun _ => ?_, fun z => absurd rfl z⟩
      exact kd 1 _ u1 (hLV.1.tr (F1.mo (fun c k z => ce_tc z))) h1 (fun V K hV => (hRc V K hV).f (r_prod_bad ha1 (by have := hV.2.2; omega) hk))
  refine x_Reader_readProduct hL (fun x1 e1 => ?_)
  rw [hR.2.2.2.2.2.1] at e1
  rw [e1]
  refine hU a l N sc cl ac t _ hL hR hC hB (fun a1 l1 cl1 ac1 A u hA hLV hRc => ⟨rfl, hLV.1.L, ?_⟩) (fun c q u F hd hRf => ⟨rfl, F.L, dl_prod F.L hd.ne (kd c q u F hd (fun V K hV => ?_))⟩)
  · have := hLV.2.1.1
    have := fo_pos hA
    exact loop (n - a1) 0 a1 l1 cl1 ac1 A u none rfl (by omega) hA hLV (fun V K hV => (r_prod han (by have := hV.2.2; omega)).tr (hRc V _ (hV.mo (Nat.le_refl _) (Nat.le_refl _) (by rw [List.length_append]; have := hV.2.2; simp only [List.length_cons, List.length_nil]; omega))))
  · exact (r_prod han (by have := hV.2.2; omega)).f (hRf V _ (hV.mo (Nat.le_refl _) (Nat.le_refl _) (by rw [List.length_append]; have := hV.2.2; simp only [List.length_cons, List.length_nil]; omega)))
end CG
