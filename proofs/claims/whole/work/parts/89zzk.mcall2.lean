/-! THE MODEL READS AN EXPRESSION: the ends of calls -/
section MD
variable {cx : gCx} {d : Nat} {ad : Nat → Nat} {T : Nat → Nat} {n x Pm c0 a l o : Nat} {t0 t u : gSt} {sc : SC} {cl : CL} {ac : Nat → Nat} {V V0 W : Fo} {K : AT} {post : Option Value → gSt → Prop}
def ecP (x c k : Nat) : Bool := mvvP x c k || Nat.beq c 166
theorem ecP_i {c k : Nat} : ecP x c k = true ↔ (c = 144 ∧ k = 33) ∨ c = 162 ∨ ((c = 148 ∨ c = 156) ∧ k = x) ∨ (151 ≤ c ∧ c ≤ 155 ∧ 1300 * x ≤ k ∧ k < 1300 * x + 1300) ∨ c = 166 := by
  unfold ecP
  rw [Bool.or_eq_true, mvvP_i, Nat.beq_eq]
  omega
/-- a call ends -/
theorem m_endCallP {c : Nat} (hx : x < 72) (h : MP ad T n x Pm c0 t0 a l (o + 1) sc cl ac (fo_ap V0 W) K t) (ha : a ≤ n) (ho : o < 31) (hc : c < cl.length) (hcl : cl.length < 1100) (hc0 : c0 ≤ c) (hW : fo_l W = ac c) (hn : fo_n V0 + fo_n W < 3090) (hvl : fo_l V0 < 2000) (hcn : ∀ q ∈ fo_p (fo_ap V0 W), q.1 = 15 → q.2.toNatClampNeg ≠ c) (k1 : tkK T n a = 11 → ∀ u, MP ad T n x Pm c0 t0 (tkE T n a) l o sc cl ac (fo_ap V0 (.inner 0 15 (nI c) W .leaf)) K u → post none u) (k2 : tkK T n a ≠ 11 → ∀ u, DD ad x t0 (fcd T n a) (tkS T n a) u → post none u) : g_E cx (d + 6) i_Mo_endCall [.ref (ad 144), .int (nI c)] t post := by
  refine x_Mo_endCall h.L (m_mustP (kk := 11) (by decide) h ha (fun hk u _ hu => ⟨_, rfl, hu.L, fun _ t3 e3 => ?_, fun z => absurd (show ¬ (1 : Int32) = 0 by decide) z⟩) (fun hk u _ hu => ⟨_, rfl, hu.1.L, fun z => absurd rfl z, fun _ => k2 hk u hu⟩))
  have e24 : u.2.1 (ad 144) 24 = nI (o + 1) := hu.2.2.2.2.1.2.2.2.1
  rw [e24, nI_pred] at e3
  have g := hu.op e3
  have hL := g.L
  obtain ⟨q, hq⟩ : ∃ q, cl[c]? = some q := ⟨_, List.getElem?_eq_getElem hc⟩
  have e165 : t3.2.1 (ad 165) c = nI (ac c) := (g.2.2.2.2.1.2.2.2.2.2.2 c q hq).2.2.1
  have e23 : t3.2.1 (ad 144) 23 = nI x := g.2.2.2.2.1.1
  obtain ⟨hs, e148, e156, hrow⟩ := MV_iff.mp g.2.2.2.2.2.1
  have hLV0 := fo_ln V0
  have hLW := fo_ln W
  have hnn : fo_n (fo_ap V0 W) = fo_n V0 + fo_n W := fo_n_ap _ _
  have hac := fo_ac_le (fo_ap V0 W)
  rw [nI_clamp (by omega), e165, e23, nI_clamp (by omega), e156]
  refine ⟨vp_in_nI (by omega) (by omega), fun x4 e4 => ⟨vp_in_nI hx (by omega), fun x5 e5 => ?_⟩⟩
  rw [e4, e5, ← hW]
  rw [fo_r_ap, Nat.zero_add] at hs
  have hwl : (fo_r W (fo_n V0)).length = fo_l W := fo_rl _ _
  have loop := ec_loop (cx := cx) (d := d + 4) (post := post) (t0 := t3) (rs := fo_r V0 0) (ws := fo_r W (fo_n V0)) (A := fo_ac (fo_ap V0 W)) (c := c) (l1 := nI c) (l3 := nI (fo_ac (fo_ap V0 W))) hx (by omega) (by rw [fo_rl, fo_rl]; omega) (fo_l W) 0 t3 none (by rw [hwl]; omega) (gFr.rf hL) e156 (fun j r hj => by omega) e23 hs (fun v o5 Fv v156 v155 => ?_)
  · rw [hwl] at loop
    exact loop
  rw [hwl] at Fv v156 ⊢
  have v33 : v.2.1 (ad 144) 33 = nI (fo_l V0 + fo_l W) := by
    rw [Fv.i 144 33 (bool_r agP_i (by omega)), hs.1, List.length_append, fo_rl, fo_rl]
  refine x_Mo_endCall_40 Fv.L ⟨fun _ t1 e1 => ?_, fun z => absurd (nI_le (Nat.le_refl _) (by omega)) z⟩
  rw [v33, nI_sub (by omega), show fo_l V0 + fo_l W - fo_l W = fo_l V0 by omega] at e1
  have ne : ∀ c c', c < 199 → c' < 199 → c ≠ c' → ad c ≠ ad c' := fun c c' h1 h2 h3 => hL.ne c c' h1 h2 h3
  have F1 : gFr ad (ecP x) t3 t1 := by
    rw [e1]
    exact (Fv.mo (fun c k z => by rw [agP_i] at z; rw [ecP_i]; omega)).si (ecP_i.mpr (by omega))
  have rd1 : ∀ c k, c < 199 → c ≠ 144 → t1.2.1 (ad c) k = v.2.1 (ad c) k := fun c k h1 h2 => by rw [e1, g_rd_ne (ne c 144 h1 (by decide) h2)]
  have u23 : t1.2.1 (ad 144) 23 = nI x := by rw [F1.i 144 23 (bool_r ecP_i (by omega))]; exact e23
  have u148 : t1.2.1 (ad 148) x = nI (fo_n V0 + fo_n W) := by rw [rd1 148 x (by decide) (by decide), Fv.i 148 x (bool_r agP_i (by omega)), e148, hnn]
  have us : MVs ad (fo_r V0 0) t1 := by
    refine ⟨by rw [e1, g_rd_at, fo_rl], fun i r hr => ?_⟩
    rw [rd1 162 i (by decide) (by decide), Fv.i 162 i (bool_r agP_i (by omega))]
    exact hs.2 i r (by rw [List.getElem?_append_left (List.getElem?_eq_some_iff.mp hr).1]; exact hr)
  rw [u23]
  refine m_no (m := fo_n V0 + fo_n W) F1.L hx (by omega) u148 (fun w Fw w148 hw => ⟨_, rfl, Fw.L, vp_in_nI (by omega) (by omega), fun t4 e4' => ⟨vp_in_nI (by omega) (by omega), ?_⟩⟩)
  rw [nI_clamp (by omega)] at e4' ⊢
  have e166 : t4.2.1 (ad 166) c = nI (fo_n V0 + fo_n W) := by rw [e4', g_rd_at]
  rw [e166]
  have F4 : gFr ad (ecP x) t3 t4 := by
    rw [e4']
    exact (F1.tr (Fw.mo (fun c k z => by rw [noP_i] at z; rw [ecP_i]; omega))).si (ecP_i.mpr (by omega))
  have rd4 : ∀ c k, c < 199 → c ≠ 166 → t4.2.1 (ad c) k = w.2.1 (ad c) k := fun c k h1 h2 => by rw [e4', g_rd_ne (ne c 166 h1 (by decide) h2)]
  have s4 : MVs ad (fo_r V0 0) t4 := by
    refine ⟨by rw [rd4 144 33 (by decide) (by decide), Fw.i 144 33 (bool_r noP_i (by omega))]; exact us.1, fun i r hr => ?_⟩
    rw [rd4 162 i (by decide) (by decide), Fw.i 162 i (bool_r noP_i (by omega))]
    exact us.2 i r hr
  -- the new rows
  have ea : fo_ac (fo_ap V0 (.inner 0 15 (nI c) W .leaf)) = fo_ac (fo_ap V0 W) + fo_l W := by
    rw [fo_ac_ap, fo_ac_ap]
    simp only [fo_ac, if_true]
    omega
  have en : fo_n (fo_ap V0 (.inner 0 15 (nI c) W .leaf)) = fo_n V0 + fo_n W + 1 := by rw [fo_n_ap]; simp only [fo_n]; omega
  have n4 : MVn ad x (fo_ap V0 (.inner 0 15 (nI c) W .leaf)) t4 := by
    refine ⟨?_, ?_, fun h400 => ⟨?_, ?_⟩⟩
    · rw [rd4 148 x (by decide) (by decide), w148, en]
    · rw [rd4 156 x (by decide) (by decide), Fw.i 156 x (bool_r noP_i (by omega)), rd1 156 x (by decide) (by decide), v156, ea]
    · rw [en] at h400
      obtain ⟨w1, w2, w3, w4⟩ := hw (by omega)
      have hm := fo_m_cg (K' := mro t4 ad 151 x) (A' := mro t4 ad 152 x) (B' := mro t4 ad 153 x) (C' := mro t4 ad 154 x) (G' := mro t4 ad 155 x) (N' := fo_ac (fo_ap V0 W) + fo_l W) (fun i hi => by
        show t4.2.1 (ad 155) (1300 * x + i) = t3.2.1 (ad 155) (1300 * x + i)
        rw [rd4 155 _ (by decide) (by decide), Fw.i 155 _ (bool_r noP_i (by omega)), rd1 155 _ (by decide) (by decide), Fv.i 155 _ (bool_r agP_i (by omega))]) (by omega) _ 0 (hrow (by omega)).1 (fun m m1 m2 => by
        rw [fo_n_mv, hnn] at m2
        have e : ∀ c, 151 ≤ c → c ≤ 154 → t4.2.1 (ad c) (1300 * x + m) = t3.2.1 (ad c) (1300 * x + m) := fun c h1 h2 => by
          rw [rd4 c _ (by omega) (by omega), Fw.i c _ (bool_r noP_i (by omega)) (by omega), rd1 c _ (by omega) (by omega), Fv.i c _ (bool_r agP_i (by omega)) (by omega)]
        exact ⟨e 151 (by decide) (by decide), e 152 (by decide) (by decide), e 153 (by decide) (by decide), e 154 (by decide) (by decide)⟩)
      rw [ea, fo_mv_ap, fo_m_ap]
      rw [fo_mv_ap, fo_m_ap] at hm
      refine ⟨hm.1, hm.2, ?_, trivial⟩
      rw [if_pos rfl, fo_r_mv, fo_n_mv, fo_n_mv, Nat.zero_add]
      have r4 : ∀ c, c < 199 → c ≠ 166 → mro t4 ad c x (fo_n V0 + fo_n W) = mro w ad c x (fo_n V0 + fo_n W) := fun c h1 h2 => rd4 c _ h1 h2
      refine ⟨by rw [id, r4 151 (by decide) (by decide)]; exact w1, fun z => absurd z (by decide), fun _ => ⟨by rw [id, r4 154 (by decide) (by decide)]; exact w4, by rw [id, r4 153 (by decide) (by decide), hwl]; exact w3, fo_ac (fo_ap V0 W), by rw [id, r4 152 (by decide) (by decide)]; exact w2, by rw [hwl]; omega, fun i r hr => ?_⟩, fun z => absurd (Or.inr (Or.inr rfl)) z⟩
      have hil : i < fo_l W := by rw [← hwl]; exact (List.getElem?_eq_some_iff.mp hr).1
      show t4.2.1 (ad 155) (1300 * x + (fo_ac (fo_ap V0 W) + i)) = nI r
      rw [rd4 155 _ (by decide) (by decide), Fw.i 155 _ (bool_r noP_i (by omega)), rd1 155 _ (by decide) (by decide), ← Nat.add_assoc]
      exact v155 i r hr (by omega)
    · rw [en] at h400
      have hcno := (hrow (by omega)).2
      have cg := fo_cno_cg (Nd' := fun i => t4.2.1 (ad 166) i) (fo_ap V0 W) 0 hcno (fun q hq e => by
        show t4.2.1 (ad 166) _ = t3.2.1 (ad 166) _
        rw [e4', g_rd_k (hcn q hq e), Fw.i 166 _ (bool_r noP_i (by omega)), rd1 166 _ (by decide) (by decide), Fv.i 166 _ (bool_r agP_i (by omega))])
      rw [fo_cno_ap] at cg ⊢
      refine ⟨cg.1, cg.2, fun _ => ?_, trivial⟩
      show t4.2.1 (ad 166) (nI c).toNatClampNeg = _
      rw [nI_clamp (by omega), e166, Nat.zero_add]
  refine m_give F4.L s4 (by rw [fo_rl]; omega) (fun y Fy hy => ⟨rfl, Fy.L, k1 hk y ?_⟩)
  have F : gFr ad (ecP x) t3 y := F4.tr (Fy.mo (fun c k z => by rw [msP_i] at z; rw [ecP_i]; omega))
  obtain ⟨h1, h2, h3, h4, h5, h6, h7⟩ := g
  refine ⟨h1.tr (F.mo (fun c k z => by rw [ecP_i] at z; rw [mxP_i]; omega)), h2, fun i hi => ?_, h4.vb F (fun k _ _ => bool_r ecP_i (by omega)) ⟨_, hy.1, by rw [List.length_append, fo_rl]; simp only [List.length_cons, List.length_nil]; omega⟩, h5.fr F (fun c k z => bool_r ecP_i (by omega)), MV_iff.mpr ⟨?_, n4.fr Fy (fun c k z => bool_r msP_i (by omega))⟩, h7.fr F (fun c k z => bool_r ecP_i (by omega))⟩
  · rw [Fy.i 166 i (bool_r msP_i (by omega)), e4', g_rd_k (by omega), Fw.i 166 _ (bool_r noP_i (by omega)), rd1 166 _ (by decide) (by decide), Fv.i 166 _ (bool_r agP_i (by omega))]
    exact h3 i hi
  · rw [fo_r_ap]
    simp only [fo_r, Nat.zero_add]
    exact hy
end MD
section TV
variable {cx : gCx} {d : Nat} {ad : Nat → Nat} {T : Nat → Nat} {n x Pm c0 a l o : Nat} {sc : SC} {cl : CL} {ac : Nat → Nat} {V V0 W : Fo} {K : AT}

theorem r_nm_bad (ha : a ≤ n) (hl : K.length < 19000) (hT : txt T n) (hk : tkK T n a = 2) (h23 : tkK T n (tkE T n a) = 23) : RfT cx d ad T n x Pm c0 (a, l, o, sc, cl, ac, V, K ++ [(18, 0, [])]) (1) (tkS T n (tkE T n a)) := by
  intro t0 post t h k
  have h : MP ad T n x Pm c0 t0 (a) (l) (o) (sc) (cl) (ac) (V) (K ++ [(18, 0, [])]) t := h
  refine h_pop h (by omega) (fun t1 h1 hlet => rt_18 h1.L (x_Mo_readTask_642 h1.L ?_))
  refine x_Mo_unary h1.L (m_lookP h1 ha (fun q23 u hu => ⟨_, rfl, hu.1.L, fun _ => ⟨fun _ => ⟨fun _ => ⟨fun _ => ⟨fun z => absurd (kyes hk) z, fun _ => ?_⟩, fun z => absurd (kne (j := 10) (by decide) (by omega)) z⟩, fun z => absurd (kne (j := 9) (by decide) (by omega)) z⟩, fun z => absurd (kne (j := 1) (by decide) (by omega)) z⟩, fun z => absurd (kne (j := 16) (by decide) (by omega)) z⟩) (fun z => by omega))
  refine x_Mo_named hu.1.L (fun x1 e1 t2 e2 => ?_)
  have hE := tkE_le hT ha
  rw [hu.2.2.2.2.2.2.1] at e1
  rw [e1]
  rw [hu.2.2.2.2.2.2.2.2 hk] at e2
  have g := hu.hold e2
  have e41 : t2.2.2.1 (ad 144) 41 = pk6 (tkN T n a) := by rw [e2]; exact g_up_v
  have hnm := tkN_ok hT ha hk
  refine m_takeP g (fun w Fw hw => ⟨rfl, hw.L, ?_⟩)
  exact m_lookF hw hE (fun z => absurd h23 z) (fun _ v F hv => ⟨_, rfl, hv.1.L, fun _ => ⟨fun z => absurd z hv.2.ne.2, fun _ => ⟨rfl, hv.1.L, rfl, hv.1.L, x_Mo_readTask_750 hv.1.L ⟨rfl, hv.1.L, k _ hv⟩⟩⟩, fun z => absurd (show ¬ (-1 : Int32) = 10 by decide) z⟩)

theorem r_var (ha : a ≤ n) (hl : K.length < 19000) (hT : txt T n) (hk : tkK T n a = 2) (hk2 : tkK T n (tkE T n a) ≠ 10) (h23 : tkK T n (tkE T n a) ≠ 23) (hx : x < 72) (hs : sc.length ≤ 49) (hsc : ∀ q ∈ sc, nm_ok q.1) (hn : fo_n V < 3090) (hvl : fo_l V < 2000) {v : Nat} (hv : scl sc (tkN T n a) sc.length = some v) : RcT cx d ad T n x Pm c0 (a, l, o, sc, cl, ac, V, K ++ [(18, 0, [])]) (tkE T n a, l, o, sc, cl, ac, fo_ap V (.inner 0 2 (nI v) .leaf .leaf), K) := by
  intro t0 post t h k
  have h : MP ad T n x Pm c0 t0 (a) (l) (o) (sc) (cl) (ac) (V) (K ++ [(18, 0, [])]) t := h
  refine h_pop h (by omega) (fun t1 h1 hlet => rt_18 h1.L (x_Mo_readTask_642 h1.L ?_))
  refine x_Mo_unary h1.L (m_lookP h1 ha (fun q23 u hu => ⟨_, rfl, hu.1.L, fun _ => ⟨fun _ => ⟨fun _ => ⟨fun _ => ⟨fun z => absurd (kyes hk) z, fun _ => ?_⟩, fun z => absurd (kne (j := 10) (by decide) (by omega)) z⟩, fun z => absurd (kne (j := 9) (by decide) (by omega)) z⟩, fun z => absurd (kne (j := 1) (by decide) (by omega)) z⟩, fun z => absurd (kne (j := 16) (by decide) (by omega)) z⟩) (fun z => by omega))
  refine x_Mo_named hu.1.L (fun x1 e1 t2 e2 => ?_)
  have hE := tkE_le hT ha
  rw [hu.2.2.2.2.2.2.1] at e1
  rw [e1]
  rw [hu.2.2.2.2.2.2.2.2 hk] at e2
  have g := hu.hold e2
  have e41 : t2.2.2.1 (ad 144) 41 = pk6 (tkN T n a) := by rw [e2]; exact g_up_v
  have hnm := tkN_ok hT ha hk
  refine m_takeP g (fun w Fw hw => ⟨rfl, hw.L, ?_⟩)
  refine m_lookF hw hE (fun q23 y Fv gv => ⟨_, rfl, gv.1.L, fun _ => ⟨fun _ x7 e7 => ?_, fun z => absurd (by rw [gv.2.1.1]; decide) z⟩, fun z => absurd (kne (j := 10) (by decide) hk2) z⟩) (fun z => absurd z h23)
  have v41 : y.2.2.1 (ad 144) 41 = pk6 (tkN T n a) := by rw [Fv.j 144 41 (bool_r tmP_i (by omega)), Fw.j 144 41 (bool_r tmP_i (by omega))]; exact e41
  have e28 : y.2.1 (ad 144) 28 = nI sc.length := gv.1.2.2.2.2.1.2.2.2.2.1.1
  rw [e28] at e7
  rw [e7]
  refine nv_loop (p := tkS T n a) hx gv.1 hs hnm hsc v41 hn hvl (fun v' u' ev hu' => ⟨rfl, hu'.L, rfl, hu'.L, x_Mo_readTask_750 hu'.L ⟨rfl, hu'.L, k _ ?_⟩⟩) (fun e => by rw [hv] at e; cases e) sc.length (Nat.le_refl _) rfl
  rw [hv] at ev
  rw [Option.some.inj ev]
  exact hu'

theorem r_var_f (ha : a ≤ n) (hl : K.length < 19000) (hT : txt T n) (hk : tkK T n a = 2) (hk2 : tkK T n (tkE T n a) ≠ 10) (h23 : tkK T n (tkE T n a) ≠ 23) (hx : x < 72) (hs : sc.length ≤ 49) (hsc : ∀ q ∈ sc, nm_ok q.1) (hn : fo_n V < 3090) (hvl : fo_l V < 2000) (hv : scl sc (tkN T n a) sc.length = none) : RfT cx d ad T n x Pm c0 (a, l, o, sc, cl, ac, V, K ++ [(18, 0, [])]) (4) (tkS T n a) := by
  intro t0 post t h k
  have h : MP ad T n x Pm c0 t0 (a) (l) (o) (sc) (cl) (ac) (V) (K ++ [(18, 0, [])]) t := h
  refine h_pop h (by omega) (fun t1 h1 hlet => rt_18 h1.L (x_Mo_readTask_642 h1.L ?_))
  refine x_Mo_unary h1.L (m_lookP h1 ha (fun q23 u hu => ⟨_, rfl, hu.1.L, fun _ => ⟨fun _ => ⟨fun _ => ⟨fun _ => ⟨fun z => absurd (kyes hk) z, fun _ => ?_⟩, fun z => absurd (kne (j := 10) (by decide) (by omega)) z⟩, fun z => absurd (kne (j := 9) (by decide) (by omega)) z⟩, fun z => absurd (kne (j := 1) (by decide) (by omega)) z⟩, fun z => absurd (kne (j := 16) (by decide) (by omega)) z⟩) (fun z => by omega))
  refine x_Mo_named hu.1.L (fun x1 e1 t2 e2 => ?_)
  have hE := tkE_le hT ha
  rw [hu.2.2.2.2.2.2.1] at e1
  rw [e1]
  rw [hu.2.2.2.2.2.2.2.2 hk] at e2
  have g := hu.hold e2
  have e41 : t2.2.2.1 (ad 144) 41 = pk6 (tkN T n a) := by rw [e2]; exact g_up_v
  have hnm := tkN_ok hT ha hk
  refine m_takeP g (fun w Fw hw => ⟨rfl, hw.L, ?_⟩)
  refine m_lookF hw hE (fun q23 y Fv gv => ⟨_, rfl, gv.1.L, fun _ => ⟨fun _ x7 e7 => ?_, fun z => absurd (by rw [gv.2.1.1]; decide) z⟩, fun z => absurd (kne (j := 10) (by decide) hk2) z⟩) (fun z => absurd z h23)
  have v41 : y.2.2.1 (ad 144) 41 = pk6 (tkN T n a) := by rw [Fv.j 144 41 (bool_r tmP_i (by omega)), Fw.j 144 41 (bool_r tmP_i (by omega))]; exact e41
  have e28 : y.2.1 (ad 144) 28 = nI sc.length := gv.1.2.2.2.2.1.2.2.2.2.1.1
  rw [e28] at e7
  rw [e7]
  exact nv_loop (p := tkS T n a) hx gv.1 hs hnm hsc v41 hn hvl (fun v' u' ev hu' => by rw [hv] at ev; cases ev) (fun _ u' hu' => ⟨rfl, hu'.1.L, rfl, hu'.1.L, x_Mo_readTask_750 hu'.1.L ⟨rfl, hu'.1.L, k _ hu'⟩⟩) sc.length (Nat.le_refl _) rfl

theorem r_call_30 (ha : a ≤ n) (hl : K.length < 19000) (hT : txt T n) (hk : tkK T n a = 2) (hk2 : tkK T n (tkE T n a) = 10) (h30 : o = 30) : RfT cx d ad T n x Pm c0 (a, l, o, sc, cl, ac, V, K ++ [(18, 0, [])]) (5) (tkS T n (tkE T n a)) := by
  intro t0 post t h k
  have h : MP ad T n x Pm c0 t0 (a) (l) (o) (sc) (cl) (ac) (V) (K ++ [(18, 0, [])]) t := h
  refine h_pop h (by omega) (fun t1 h1 hlet => rt_18 h1.L (x_Mo_readTask_642 h1.L ?_))
  refine x_Mo_unary h1.L (m_lookP h1 ha (fun q23 u hu => ⟨_, rfl, hu.1.L, fun _ => ⟨fun _ => ⟨fun _ => ⟨fun _ => ⟨fun z => absurd (kyes hk) z, fun _ => ?_⟩, fun z => absurd (kne (j := 10) (by decide) (by omega)) z⟩, fun z => absurd (kne (j := 9) (by decide) (by omega)) z⟩, fun z => absurd (kne (j := 1) (by decide) (by omega)) z⟩, fun z => absurd (kne (j := 16) (by decide) (by omega)) z⟩) (fun z => by omega))
  refine x_Mo_named hu.1.L (fun x1 e1 t2 e2 => ?_)
  have hE := tkE_le hT ha
  rw [hu.2.2.2.2.2.2.1] at e1
  rw [e1]
  rw [hu.2.2.2.2.2.2.2.2 hk] at e2
  have g := hu.hold e2
  have e41 : t2.2.2.1 (ad 144) 41 = pk6 (tkN T n a) := by rw [e2]; exact g_up_v
  have hnm := tkN_ok hT ha hk
  refine m_takeP g (fun w Fw hw => ⟨rfl, hw.L, ?_⟩)
  refine m_lookF hw hE (fun q23 v Fv hv => ⟨_, rfl, hv.1.L, fun z => absurd (kyes hk2) z, fun _ => ?_⟩) (fun z => by omega)
  exact m_opensP hv (by omega) (fun z => by omega) (fun _ w hw => ⟨_, rfl, hw.1.L, fun z => absurd rfl z, fun _ => ⟨rfl, hw.1.L, rfl, hw.1.L, x_Mo_readTask_750 hw.1.L ⟨rfl, hw.1.L, k _ hw⟩⟩⟩)

theorem m_opensF {t0 t : gSt} {post : Option Value → gSt → Prop} (h : MPh ad T n x Pm c0 t0 a l o sc cl ac V K t) (ho : o ≤ 30) (k1 : o < 30 → ∀ u, gFr ad (fun c k => tmP c k || (Nat.beq c 144 && Nat.beq k 24)) t u → MP ad T n x Pm c0 t0 (tkE T n a) l (o + 1) sc cl ac V K u → post (some (.int 1)) u) (k2 : o = 30 → ∀ u, DD ad x t0 5 (tkS T n a) u → post (some (.int 0)) u) : g_E cx (d + 2) i_Mo_opens [.ref (ad 144)] t post := by
  have e24 : t.2.1 (ad 144) 24 = nI o := h.1.2.2.2.2.1.2.2.2.1
  refine x_Mo_opens h.1.L ?_
  rw [e24, show (30 : Int32) = nI 30 from rfl, nI_eq (by omega) (by decide)]
  refine ⟨fun q t1 e1 => ?_, fun q => m_failP (c := 5) (by decide) h (fun u _ H => ⟨rfl, H.1.L, k2 (by omega) u H⟩)⟩
  rw [nI_1] at e1
  have F1 : gFr ad (fun c k => tmP c k || (Nat.beq c 144 && Nat.beq k 24)) t t1 := by rw [e1]; exact (gFr.rf h.1.L).si rfl
  exact m_takeP (h.op e1) (fun u Fu H => ⟨rfl, H.L, k1 (by omega) u (F1.tr (Fu.mo (fun c k z => by rw [z]; rfl))) H⟩)

theorem r_call_bad (ha : a ≤ n) (hl : K.length < 19000) (hT : txt T n) (hk : tkK T n a = 2) (hx : x < 72) (hk2 : tkK T n (tkE T n a) = 10) (h30 : o < 30) (hcl : cl.length < 1099) (h23 : tkK T n (tkE T n (tkE T n a)) = 23) : RfT cx d ad T n x Pm c0 (a, l, o, sc, cl, ac, V, K ++ [(18, 0, [])]) (1) (tkS T n (tkE T n (tkE T n a))) := by
  intro t0 post t h k
  have h : MP ad T n x Pm c0 t0 (a) (l) (o) (sc) (cl) (ac) (V) (K ++ [(18, 0, [])]) t := h
  refine h_pop h (by omega) (fun t1 h1 hlet => rt_18 h1.L (x_Mo_readTask_642 h1.L ?_))
  refine x_Mo_unary h1.L (m_lookP h1 ha (fun q23 u hu => ⟨_, rfl, hu.1.L, fun _ => ⟨fun _ => ⟨fun _ => ⟨fun _ => ⟨fun z => absurd (kyes hk) z, fun _ => ?_⟩, fun z => absurd (kne (j := 10) (by decide) (by omega)) z⟩, fun z => absurd (kne (j := 9) (by decide) (by omega)) z⟩, fun z => absurd (kne (j := 1) (by decide) (by omega)) z⟩, fun z => absurd (kne (j := 16) (by decide) (by omega)) z⟩) (fun z => by omega))
  refine x_Mo_named hu.1.L (fun x1 e1 t2 e2 => ?_)
  have hE := tkE_le hT ha
  rw [hu.2.2.2.2.2.2.1] at e1
  rw [e1]
  rw [hu.2.2.2.2.2.2.2.2 hk] at e2
  have g := hu.hold e2
  have e41 : t2.2.2.1 (ad 144) 41 = pk6 (tkN T n a) := by rw [e2]; exact g_up_v
  have hnm := tkN_ok hT ha hk
  refine m_takeP g (fun w Fw hw => ⟨rfl, hw.L, ?_⟩)
  refine m_lookF hw hE (fun q23 v Fv hv => ⟨_, rfl, hv.1.L, fun z => absurd (kyes hk2) z, fun _ => ?_⟩) (fun z => by omega)
  have v41 : v.2.2.1 (ad 144) 41 = pk6 (tkN T n a) := by rw [Fv.j 144 41 (bool_r tmP_i (by omega)), Fw.j 144 41 (bool_r tmP_i (by omega))]; exact e41
  refine m_opensF hv (by omega) (fun _ y Fy hy => ⟨_, rfl, hy.L, fun _ x10 e10 t11 e11 => ?_, fun z => absurd (show ¬ (1 : Int32) = 0 by decide) z⟩) (fun z => by omega)
  have e35 : y.2.1 (ad 144) 35 = nI cl.length := hy.2.2.2.2.1.2.2.2.2.2.1
  have y41 : y.2.2.1 (ad 144) 41 = pk6 (tkN T n a) := by rw [Fy.j 144 41 rfl]; exact v41
  rw [e35] at e10
  rw [e35, nI_1] at e11
  have t41 : t11.2.2.1 (ad 144) 41 = pk6 (tkN T n a) := by rw [e11, g_si_j]; exact y41
  have hvp : vp_in (nI cl.length) 1100 := vp_in_nI (by omega) (by omega)
  rw [e10, nI_clamp (by omega), t41]
  refine ⟨hvp, fun t12 e12 => ⟨hvp, fun t13 e13 => ⟨hvp, fun t14 e14 => ⟨hvp, fun t15 e15 => ?_⟩⟩⟩⟩
  have ne : ∀ c c', c < 199 → c' < 199 → c ≠ c' → ad c ≠ ad c' := fun c c' h1 h2 h3 => hy.L.ne c c' h1 h2 h3
  have f23 : t14.2.1 (ad 144) 23 = nI x := by
    rw [e14, g_rd_ne (ne 144 165 (by decide) (by decide) (by decide)), e13, g_rd_ne (ne 144 164 (by decide) (by decide) (by decide)), e12, g_sj_i, e11, g_rd_k (by decide)]
    exact hy.2.2.2.2.1.1
  rw [f23] at e15
  have gc := MP.cl1 hy e11 e12 e13 e14 e15
  have hE2 := tkE_le hT hE
  refine m_lookF gc hE2 (fun z => absurd h23 z) (fun _ z F hz => ⟨_, rfl, hz.1.L, fun _ => ?_, fun z => absurd (show ¬ (-1 : Int32) = 11 by decide) z⟩)
  exact m_pushD (q := (22, cl.length, [])) hz (gc.rt F) (by (try simp only [List.length_append, List.length_cons, List.length_nil]); omega) (fun v hv hr => ⟨rfl, hv.1.L, m_pushD (q := (1, 0, [])) hv hr (by (try simp only [List.length_append, List.length_cons, List.length_nil]); omega) (fun w hw _ => ⟨rfl, hw.1.L, rfl, hw.1.L, rfl, hw.1.L, x_Mo_readTask_750 hw.1.L ⟨rfl, hw.1.L, k _ hw⟩⟩)⟩)

theorem r_call (ha : a ≤ n) (hl : K.length < 19000) (hT : txt T n) (hk : tkK T n a = 2) (hx : x < 72) (hk2 : tkK T n (tkE T n a) = 10) (h30 : o < 30) (hcl : cl.length < 1099) (h11 : tkK T n (tkE T n (tkE T n a)) ≠ 11) (h23 : tkK T n (tkE T n (tkE T n a)) ≠ 23) : RcT cx d ad T n x Pm c0 (a, l, o, sc, cl, ac, V, K ++ [(18, 0, [])]) (tkE T n (tkE T n a), l, o + 1, sc, cl ++ [(tkN T n a, tkS T n a, x)], fup ac cl.length 0, V, K ++ [(22, cl.length, [])] ++ [(1, 0, [])]) := by
  intro t0 post t h k
  have h : MP ad T n x Pm c0 t0 (a) (l) (o) (sc) (cl) (ac) (V) (K ++ [(18, 0, [])]) t := h
  refine h_pop h (by omega) (fun t1 h1 hlet => rt_18 h1.L (x_Mo_readTask_642 h1.L ?_))
  refine x_Mo_unary h1.L (m_lookP h1 ha (fun q23 u hu => ⟨_, rfl, hu.1.L, fun _ => ⟨fun _ => ⟨fun _ => ⟨fun _ => ⟨fun z => absurd (kyes hk) z, fun _ => ?_⟩, fun z => absurd (kne (j := 10) (by decide) (by omega)) z⟩, fun z => absurd (kne (j := 9) (by decide) (by omega)) z⟩, fun z => absurd (kne (j := 1) (by decide) (by omega)) z⟩, fun z => absurd (kne (j := 16) (by decide) (by omega)) z⟩) (fun z => by omega))
  refine x_Mo_named hu.1.L (fun x1 e1 t2 e2 => ?_)
  have hE := tkE_le hT ha
  rw [hu.2.2.2.2.2.2.1] at e1
  rw [e1]
  rw [hu.2.2.2.2.2.2.2.2 hk] at e2
  have g := hu.hold e2
  have e41 : t2.2.2.1 (ad 144) 41 = pk6 (tkN T n a) := by rw [e2]; exact g_up_v
  have hnm := tkN_ok hT ha hk
  refine m_takeP g (fun w Fw hw => ⟨rfl, hw.L, ?_⟩)
  refine m_lookF hw hE (fun q23 v Fv hv => ⟨_, rfl, hv.1.L, fun z => absurd (kyes hk2) z, fun _ => ?_⟩) (fun z => by omega)
  have v41 : v.2.2.1 (ad 144) 41 = pk6 (tkN T n a) := by rw [Fv.j 144 41 (bool_r tmP_i (by omega)), Fw.j 144 41 (bool_r tmP_i (by omega))]; exact e41
  refine m_opensF hv (by omega) (fun _ y Fy hy => ⟨_, rfl, hy.L, fun _ x10 e10 t11 e11 => ?_, fun z => absurd (show ¬ (1 : Int32) = 0 by decide) z⟩) (fun z => by omega)
  have e35 : y.2.1 (ad 144) 35 = nI cl.length := hy.2.2.2.2.1.2.2.2.2.2.1
  have y41 : y.2.2.1 (ad 144) 41 = pk6 (tkN T n a) := by rw [Fy.j 144 41 rfl]; exact v41
  rw [e35] at e10
  rw [e35, nI_1] at e11
  have t41 : t11.2.2.1 (ad 144) 41 = pk6 (tkN T n a) := by rw [e11, g_si_j]; exact y41
  have hvp : vp_in (nI cl.length) 1100 := vp_in_nI (by omega) (by omega)
  rw [e10, nI_clamp (by omega), t41]
  refine ⟨hvp, fun t12 e12 => ⟨hvp, fun t13 e13 => ⟨hvp, fun t14 e14 => ⟨hvp, fun t15 e15 => ?_⟩⟩⟩⟩
  have ne : ∀ c c', c < 199 → c' < 199 → c ≠ c' → ad c ≠ ad c' := fun c c' h1 h2 h3 => hy.L.ne c c' h1 h2 h3
  have f23 : t14.2.1 (ad 144) 23 = nI x := by
    rw [e14, g_rd_ne (ne 144 165 (by decide) (by decide) (by decide)), e13, g_rd_ne (ne 144 164 (by decide) (by decide) (by decide)), e12, g_sj_i, e11, g_rd_k (by decide)]
    exact hy.2.2.2.2.1.1
  rw [f23] at e15
  have gc := MP.cl1 hy e11 e12 e13 e14 e15
  have hE2 := tkE_le hT hE
  refine m_lookF gc hE2 (fun _ z _ hz => ⟨_, rfl, hz.1.L, fun _ => ?_, fun y => absurd (kne (j := 11) (by decide) h11) y⟩) (fun z => absurd z h23)
  exact m_pushP (q := (22, cl.length, [])) hz.1 (by (try simp only [List.length_append, List.length_cons, List.length_nil]); omega) (fun z => absurd (show (22 : Nat) = 2 from z) (by decide)) (fun _ _ p1 => ⟨rfl, p1.L, m_pushP (q := (1, 0, [])) p1 (by (try simp only [List.length_append, List.length_cons, List.length_nil]); omega) (fun z => absurd (show (1 : Nat) = 2 from z) (by decide)) (fun _ _ p2 => ⟨rfl, p2.L, rfl, p2.L, rfl, p2.L, x_Mo_readTask_750 p2.L ⟨rfl, p2.L, k _ p2⟩⟩)⟩)

theorem r_call0 (ha : a ≤ n) (hl : K.length < 19000) (hT : txt T n) (hk : tkK T n a = 2) (hx : x < 72) (hk2 : tkK T n (tkE T n a) = 10) (h30 : o < 30) (hcl : cl.length < 1099) (h11 : tkK T n (tkE T n (tkE T n a)) = 11) (hc0 : c0 ≤ cl.length) (hn : fo_n V < 3080) (hvl : fo_l V < 2000) (hcn : ∀ q ∈ fo_p V, q.1 = 15 → q.2.toNatClampNeg < cl.length) : RcT cx d ad T n x Pm c0 (a, l, o, sc, cl, ac, V, K ++ [(18, 0, [])]) (tkE T n (tkE T n (tkE T n a)), l, o, sc, cl ++ [(tkN T n a, tkS T n a, x)], fup ac cl.length 0, fo_ap V (.inner 0 15 (nI cl.length) .leaf .leaf), K) := by
  intro t0 post t h k
  have h : MP ad T n x Pm c0 t0 (a) (l) (o) (sc) (cl) (ac) (V) (K ++ [(18, 0, [])]) t := h
  refine h_pop h (by omega) (fun t1 h1 hlet => rt_18 h1.L (x_Mo_readTask_642 h1.L ?_))
  refine x_Mo_unary h1.L (m_lookP h1 ha (fun q23 u hu => ⟨_, rfl, hu.1.L, fun _ => ⟨fun _ => ⟨fun _ => ⟨fun _ => ⟨fun z => absurd (kyes hk) z, fun _ => ?_⟩, fun z => absurd (kne (j := 10) (by decide) (by omega)) z⟩, fun z => absurd (kne (j := 9) (by decide) (by omega)) z⟩, fun z => absurd (kne (j := 1) (by decide) (by omega)) z⟩, fun z => absurd (kne (j := 16) (by decide) (by omega)) z⟩) (fun z => by omega))
  refine x_Mo_named hu.1.L (fun x1 e1 t2 e2 => ?_)
  have hE := tkE_le hT ha
  rw [hu.2.2.2.2.2.2.1] at e1
  rw [e1]
  rw [hu.2.2.2.2.2.2.2.2 hk] at e2
  have g := hu.hold e2
  have e41 : t2.2.2.1 (ad 144) 41 = pk6 (tkN T n a) := by rw [e2]; exact g_up_v
  have hnm := tkN_ok hT ha hk
  refine m_takeP g (fun w Fw hw => ⟨rfl, hw.L, ?_⟩)
  refine m_lookF hw hE (fun q23 v Fv hv => ⟨_, rfl, hv.1.L, fun z => absurd (kyes hk2) z, fun _ => ?_⟩) (fun z => by omega)
  have v41 : v.2.2.1 (ad 144) 41 = pk6 (tkN T n a) := by rw [Fv.j 144 41 (bool_r tmP_i (by omega)), Fw.j 144 41 (bool_r tmP_i (by omega))]; exact e41
  refine m_opensF hv (by omega) (fun _ y Fy hy => ⟨_, rfl, hy.L, fun _ x10 e10 t11 e11 => ?_, fun z => absurd (show ¬ (1 : Int32) = 0 by decide) z⟩) (fun z => by omega)
  have e35 : y.2.1 (ad 144) 35 = nI cl.length := hy.2.2.2.2.1.2.2.2.2.2.1
  have y41 : y.2.2.1 (ad 144) 41 = pk6 (tkN T n a) := by rw [Fy.j 144 41 rfl]; exact v41
  rw [e35] at e10
  rw [e35, nI_1] at e11
  have t41 : t11.2.2.1 (ad 144) 41 = pk6 (tkN T n a) := by rw [e11, g_si_j]; exact y41
  have hvp : vp_in (nI cl.length) 1100 := vp_in_nI (by omega) (by omega)
  rw [e10, nI_clamp (by omega), t41]
  refine ⟨hvp, fun t12 e12 => ⟨hvp, fun t13 e13 => ⟨hvp, fun t14 e14 => ⟨hvp, fun t15 e15 => ?_⟩⟩⟩⟩
  have ne : ∀ c c', c < 199 → c' < 199 → c ≠ c' → ad c ≠ ad c' := fun c c' h1 h2 h3 => hy.L.ne c c' h1 h2 h3
  have f23 : t14.2.1 (ad 144) 23 = nI x := by
    rw [e14, g_rd_ne (ne 144 165 (by decide) (by decide) (by decide)), e13, g_rd_ne (ne 144 164 (by decide) (by decide) (by decide)), e12, g_sj_i, e11, g_rd_k (by decide)]
    exact hy.2.2.2.2.1.1
  rw [f23] at e15
  have gc := MP.cl1 hy e11 e12 e13 e14 e15
  have hE2 := tkE_le hT hE
  refine m_lookF gc hE2 (fun _ z _ hz => ⟨_, rfl, hz.1.L, fun y => absurd (kyes h11) y, fun _ => ?_⟩) (fun z => by omega)
  have hz1 := hz.1
  rw [← fo_ap_leaf V] at hz1
  exact m_endCallP (V0 := V) (W := .leaf) (c := cl.length) hx hz1 hE2 (by omega) (by rw [List.length_append]; simp) (by rw [List.length_append]; simp; omega) hc0 (by unfold fup; rw [if_pos rfl]; rfl) (by simp only [fo_n]; omega) hvl (fun q hq e => by
    rw [fo_ap_leaf] at hq
    have := hcn q hq e
    omega) (fun _ w hw => ⟨rfl, hw.L, rfl, hw.L, rfl, hw.L, x_Mo_readTask_750 hw.L ⟨rfl, hw.L, k _ hw⟩⟩) (fun y => absurd h11 y)

theorem r_more (ha : a ≤ n) (hl : K.length < 19000) {c : Nat} (hx : x < 72) (hc : c < cl.length) (hcl : cl.length < 1100) (hk : tkK T n a = 12) : RcT cx d ad T n x Pm c0 (a, l, o, sc, cl, ac, V, K ++ [(22, c, [])]) (tkE T n a, l, o, sc, cl, fup ac c (ac c + 1), V, K ++ [(22, c, [])] ++ [(1, 0, [])]) := by
  intro t0 post t h k
  have h : MP ad T n x Pm c0 t0 (a) (l) (o) (sc) (cl) (ac) (V) (K ++ [(22, c, [])]) t := h
  refine h_pop h (by omega) (fun t1 h1 hlet => rt_22 h1.L (x_Mo_readTask_744 h1.L ?_))
  refine x_Mo_endArgument h1.L ?_
  obtain ⟨q, hq⟩ : ∃ q, cl[c]? = some q := ⟨_, List.getElem?_eq_getElem hc⟩
  have e165 : t1.2.1 (ad 165) c = nI (ac c) := (h1.2.2.2.2.1.2.2.2.2.2.2 c q hq).2.2.1
  rw [nI_clamp (show c < 2 ^ 31 by omega), e165, nI_1]
  have hvp : vp_in (nI c) 1100 := vp_in_nI (by omega) (by omega)
  refine ⟨hvp, hvp, fun t2 e2 => ?_⟩
  have g := h1.ac1 hc e2
  refine m_lookP g ha (fun _ u hu => ⟨_, rfl, hu.1.L, fun z => absurd (kyes hk) z, fun _ => m_takeP hu (fun w _ hw => ⟨rfl, hw.L, ?_⟩)⟩) (fun z => by omega)
  exact m_pushP (q := (22, c, [])) hw (by (try simp only [List.length_append, List.length_cons, List.length_nil]); omega) (fun z => absurd (show (22 : Nat) = 2 from z) (by decide)) (fun _ _ p1 => ⟨rfl, p1.L, m_pushP (q := (1, 0, [])) p1 (by (try simp only [List.length_append, List.length_cons, List.length_nil]); omega) (fun z => absurd (show (1 : Nat) = 2 from z) (by decide)) (fun _ _ p2 => ⟨rfl, p2.L, rfl, p2.L, x_Mo_readTask_750 p2.L ⟨rfl, p2.L, k _ p2⟩⟩)⟩)

theorem r_more_f (ha : a ≤ n) (hl : K.length < 19000) {c : Nat} (hx : x < 72) (hc : c < cl.length) (hcl : cl.length < 1100) (ho : o < 31) (hc0 : c0 ≤ c) (hW : fo_l W = ac c + 1) (hn : fo_n V0 + fo_n W < 3090) (hcn : ∀ q ∈ fo_p (fo_ap V0 W), q.1 = 15 → q.2.toNatClampNeg ≠ c) (hk : tkK T n a ≠ 12) (hk2 : tkK T n a ≠ 11) : RfT cx d ad T n x Pm c0 (a, l, o + 1, sc, cl, ac, fo_ap V0 W, K ++ [(22, c, [])]) (fcd T n a) (tkS T n a) := by
  intro t0 post t h k
  have h : MP ad T n x Pm c0 t0 (a) (l) (o + 1) (sc) (cl) (ac) (fo_ap V0 W) (K ++ [(22, c, [])]) t := h
  refine h_pop h (by omega) (fun t1 h1 hlet => rt_22 h1.L (x_Mo_readTask_744 h1.L ?_))
  refine x_Mo_endArgument h1.L ?_
  obtain ⟨q, hq⟩ : ∃ q, cl[c]? = some q := ⟨_, List.getElem?_eq_getElem hc⟩
  have e165 : t1.2.1 (ad 165) c = nI (ac c) := (h1.2.2.2.2.1.2.2.2.2.2.2 c q hq).2.2.1
  rw [nI_clamp (show c < 2 ^ 31 by omega), e165, nI_1]
  have hvp : vp_in (nI c) 1100 := vp_in_nI (by omega) (by omega)
  refine ⟨hvp, hvp, fun t2 e2 => ?_⟩
  have g := h1.ac1 hc e2
  have ef : ∀ u, DD ad x t0 (fcd T n a) (tkS T n a) u → g_E cx (d + 7) i_Mo_endCall [.ref (ad 144), .int (nI c)] u (fun r u4 => r = none ∧ Lay u4 ad ∧ (none : Option Value) = none ∧ Lay u4 ad ∧ g_W cx (g_E cx (d + 8)) mt_Mo_readTask (fun r u => r = none ∧ Lay u ad ∧ HdM cx d ad post u) (750, [some (.ref (ad 144)), some (.int 22), some (.int (nI c)), some (.int 0), none, none], [], u4, 0, 0)) := fun u hu => x_Mo_endCall hu.1.L (x_Mo_must hu.1.L (m_lookD hu.1.L hu.2.ne.2 ⟨_, rfl, hu.1.L, fun z => absurd z (by decide), fun _ => m_failD2 hu.1.L hu.2.ne.1 ⟨rfl, hu.1.L, _, rfl, hu.1.L, fun z => absurd rfl z, fun _ => ⟨rfl, hu.1.L, rfl, hu.1.L, x_Mo_readTask_750 hu.1.L ⟨rfl, hu.1.L, k _ hu⟩⟩⟩⟩))
  refine m_lookP g ha (fun _ u hu => ⟨_, rfl, hu.1.L, fun _ => ?_, fun z => absurd (kne (j := 12) (by decide) hk) z⟩) (fun h23 u _ hu => ⟨_, rfl, hu.1.L, fun _ => ef u (by rw [show fcd T n a = 1 from if_pos h23]; exact hu), fun z => absurd (show ¬ (-1 : Int32) = 12 by decide) z⟩)
  exact m_endCallP (V0 := V0) (W := W) (c := c) (d := d + 1) hx hu.1 ha ho hc hcl hc0 (by unfold fup; rw [if_pos rfl]; exact hW) hn (by have z := hu.1.fl (by rw [fo_n_ap]; omega); rw [fo_l_ap] at z; omega) hcn (fun y => absurd y hk2) (fun _ w hw => ⟨rfl, hw.1.L, rfl, hw.1.L, x_Mo_readTask_750 hw.1.L ⟨rfl, hw.1.L, k _ hw⟩⟩)

theorem r_more_e (ha : a ≤ n) (hl : K.length < 19000) {c : Nat} (hx : x < 72) (hc : c < cl.length) (hcl : cl.length < 1100) (ho : o < 31) (hc0 : c0 ≤ c) (hW : fo_l W = ac c + 1) (hn : fo_n V0 + fo_n W < 3090) (hcn : ∀ q ∈ fo_p (fo_ap V0 W), q.1 = 15 → q.2.toNatClampNeg ≠ c) (hk : tkK T n a = 11) : RcT cx d ad T n x Pm c0 (a, l, o + 1, sc, cl, ac, fo_ap V0 W, K ++ [(22, c, [])]) (tkE T n a, l, o, sc, cl, fup ac c (ac c + 1), fo_ap V0 (.inner 0 15 (nI c) W .leaf), K) := by
  intro t0 post t h k
  have h : MP ad T n x Pm c0 t0 (a) (l) (o + 1) (sc) (cl) (ac) (fo_ap V0 W) (K ++ [(22, c, [])]) t := h
  refine h_pop h (by omega) (fun t1 h1 hlet => rt_22 h1.L (x_Mo_readTask_744 h1.L ?_))
  refine x_Mo_endArgument h1.L ?_
  obtain ⟨q, hq⟩ : ∃ q, cl[c]? = some q := ⟨_, List.getElem?_eq_getElem hc⟩
  have e165 : t1.2.1 (ad 165) c = nI (ac c) := (h1.2.2.2.2.1.2.2.2.2.2.2 c q hq).2.2.1
  rw [nI_clamp (show c < 2 ^ 31 by omega), e165, nI_1]
  have hvp : vp_in (nI c) 1100 := vp_in_nI (by omega) (by omega)
  refine ⟨hvp, hvp, fun t2 e2 => ?_⟩
  have g := h1.ac1 hc e2
  refine m_lookP g ha (fun _ u hu => ⟨_, rfl, hu.1.L, fun _ => ?_, fun z => absurd (kne (j := 12) (by decide) (by omega)) z⟩) (fun z => by omega)
  exact m_endCallP (V0 := V0) (W := W) (c := c) (d := d + 1) hx hu.1 ha ho hc hcl hc0 (by unfold fup; rw [if_pos rfl]; exact hW) hn (by have z := hu.1.fl (by rw [fo_n_ap]; omega); rw [fo_l_ap] at z; omega) hcn (fun _ w hw => ⟨rfl, hw.L, rfl, hw.L, x_Mo_readTask_750 hw.L ⟨rfl, hw.L, k _ hw⟩⟩) (fun y => absurd hk y)
end TV
