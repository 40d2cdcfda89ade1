/-! THE MODEL READS AN EXPRESSION: task by task -/
abbrev PS : Type := Nat × Nat × Nat × SC × CL × (Nat → Nat) × Fo × AT
abbrev MPS (ad : Nat → Nat) (T : Nat → Nat) (n x Pm c0 : Nat) (t0 : gSt) (s : PS) (t : gSt) : Prop := MP ad T n x Pm c0 t0 s.1 s.2.1 s.2.2.1 s.2.2.2.1 s.2.2.2.2.1 s.2.2.2.2.2.1 s.2.2.2.2.2.2.1 s.2.2.2.2.2.2.2 t
/-- from one state the model comes to another one -/
def RcT (cx : gCx) (d : Nat) (ad : Nat → Nat) (T : Nat → Nat) (n x Pm c0 : Nat) (s s' : PS) : Prop := ∀ (t0 : gSt) (post : Option Value → gSt → Prop) (t : gSt), MPS ad T n x Pm c0 t0 s t → (∀ u, MPS ad T n x Pm c0 t0 s' u → HdM cx d ad post u) → HdM cx d ad post t
/-- or to a fault -/
def RfT (cx : gCx) (d : Nat) (ad : Nat → Nat) (T : Nat → Nat) (n x Pm c0 : Nat) (s : PS) (c p : Nat) : Prop := ∀ (t0 : gSt) (post : Option Value → gSt → Prop) (t : gSt), MPS ad T n x Pm c0 t0 s t → (∀ u, DD ad x t0 c p u → HdM cx d ad post u) → HdM cx d ad post t
section TS
variable {cx : gCx} {d : Nat} {ad : Nat → Nat} {T : Nat → Nat} {n x Pm c0 a l o : Nat} {sc : SC} {cl : CL} {ac : Nat → Nat} {V : Fo} {K : AT} {s s1 s2 : PS} {c p : Nat}
theorem RcT.tr (h1 : RcT cx d ad T n x Pm c0 s s1) (h2 : RcT cx d ad T n x Pm c0 s1 s2) : RcT cx d ad T n x Pm c0 s s2 := fun t0 post t h k => h1 t0 post t h (fun u hu => h2 t0 post u hu k)
theorem RcT.f (h1 : RcT cx d ad T n x Pm c0 s s1) (h2 : RfT cx d ad T n x Pm c0 s1 c p) : RfT cx d ad T n x Pm c0 s c p := fun t0 post t h k => h1 t0 post t h (fun u hu => h2 t0 post u hu k)
theorem RcT.rf : RcT cx d ad T n x Pm c0 s s := fun t0 post t h k => k t h
/-- a kind that is another one -/
theorem kne {j : Nat} (hj : j < 100) (h : tkK T n a ≠ j) : ¬ nI (tkK T n a) = nI j := fun z => h ((nI_eq (by have := tkK_le (T := T) (n := n) (a := a); omega) (by omega)).mp z)
theorem kyes {j : Nat} (h : tkK T n a = j) : nI (tkK T n a) = nI j := by rw [h]

theorem r_exp_o (ha : a ≤ n) (hl : K.length < 19000) (h4 : tkK T n a ≠ 4) (h6 : tkK T n a ≠ 6) (h23 : tkK T n a ≠ 23) : RcT cx d ad T n x Pm c0 (a, l, o, sc, cl, ac, V, K ++ [(1, 0, [])]) (a, l, o, sc, cl, ac, V, K ++ [(7, 0, [])] ++ [(9, 0, [])]) := by
  intro t0 post t h k
  have h : MP ad T n x Pm c0 t0 (a) (l) (o) (sc) (cl) (ac) (V) (K ++ [(1, 0, [])]) t := h
  refine h_pop h (by omega) (fun t1 h1 hlet => rt_1 h1.L (x_Mo_readTask_100 h1.L ?_))
  refine x_Mo_beginExp h1.L (m_lookP h1 ha (fun _ u hu => ⟨_, rfl, hu.1.L, fun _ => ⟨fun _ => ?_, fun z => absurd (kne (j := 6) (by decide) h6) z⟩, fun z => absurd (kne (j := 4) (by decide) h4) z⟩) (fun z => absurd z h23))
  exact m_pushP (q := (7, 0, [])) hu.1 (by (try simp only [List.length_append, List.length_cons, List.length_nil]); omega) (fun z => absurd (show (7 : Nat) = 2 from z) (by decide)) (fun _ _ p1 => ⟨rfl, p1.L, m_pushP (q := (9, 0, [])) p1 (by (try simp only [List.length_append, List.length_cons, List.length_nil]); omega) (fun z => absurd (show (9 : Nat) = 2 from z) (by decide)) (fun _ _ p2 => ⟨rfl, p2.L, rfl, p2.L, x_Mo_readTask_750 p2.L ⟨rfl, p2.L, k _ p2⟩⟩)⟩)

theorem r_exp_bad (ha : a ≤ n) (hl : K.length < 19000) (h23 : tkK T n a = 23) : RfT cx d ad T n x Pm c0 (a, l, o, sc, cl, ac, V, K ++ [(1, 0, [])]) (1) (tkS T n a) := by
  intro t0 post t h k
  have h : MP ad T n x Pm c0 t0 (a) (l) (o) (sc) (cl) (ac) (V) (K ++ [(1, 0, [])]) t := h
  refine h_pop h (by omega) (fun t1 h1 hlet => rt_1 h1.L (x_Mo_readTask_100 h1.L ?_))
  refine x_Mo_beginExp h1.L (m_lookP h1 ha (fun z => absurd h23 z) (fun _ u F hu => ⟨_, rfl, hu.1.L, fun _ => ⟨fun _ => ?_, fun z => absurd (show ¬ (-1 : Int32) = 6 by decide) z⟩, fun z => absurd (show ¬ (-1 : Int32) = 4 by decide) z⟩))
  exact m_pushD (q := (7, 0, [])) hu (h1.rt F) (by (try simp only [List.length_append, List.length_cons, List.length_nil]); omega) (fun v hv hr => ⟨rfl, hv.1.L, m_pushD (q := (9, 0, [])) hv hr (by (try simp only [List.length_append, List.length_cons, List.length_nil]); omega) (fun w hw _ => ⟨rfl, hw.1.L, rfl, hw.1.L, x_Mo_readTask_750 hw.1.L ⟨rfl, hw.1.L, k _ hw⟩⟩)⟩)

theorem r_if (ha : a ≤ n) (hl : K.length < 19000) (ho : o ≤ 30) (h6 : tkK T n a = 6) (h30 : o < 30) : RcT cx d ad T n x Pm c0 (a, l, o, sc, cl, ac, V, K ++ [(1, 0, [])]) (tkE T n a, l, o + 1, sc, cl, ac, V, K ++ [(4, 0, [])] ++ [(1, 0, [])]) := by
  intro t0 post t h k
  have h : MP ad T n x Pm c0 t0 (a) (l) (o) (sc) (cl) (ac) (V) (K ++ [(1, 0, [])]) t := h
  refine h_pop h (by omega) (fun t1 h1 hlet => rt_1 h1.L (x_Mo_readTask_100 h1.L ?_))
  refine x_Mo_beginExp h1.L (m_lookP h1 ha (fun _ u hu => ⟨_, rfl, hu.1.L, fun _ => ⟨fun z => absurd (kyes h6) z, fun _ => ?_⟩, fun z => absurd (kne (j := 4) (by decide) (by omega)) z⟩) (fun z => by omega))
  refine m_opensP hu ho (fun _ w hw => ⟨_, rfl, hw.L, fun z => absurd z (by decide), fun _ => ?_⟩) (fun z => by omega)
  exact m_pushP (q := (4, 0, [])) hw (by (try simp only [List.length_append, List.length_cons, List.length_nil]); omega) (fun z => absurd (show (4 : Nat) = 2 from z) (by decide)) (fun _ _ p1 => ⟨rfl, p1.L, m_pushP (q := (1, 0, [])) p1 (by (try simp only [List.length_append, List.length_cons, List.length_nil]); omega) (fun z => absurd (show (1 : Nat) = 2 from z) (by decide)) (fun _ _ p2 => ⟨rfl, p2.L, rfl, p2.L, x_Mo_readTask_750 p2.L ⟨rfl, p2.L, k _ p2⟩⟩)⟩)

theorem r_if_f (ha : a ≤ n) (hl : K.length < 19000) (h6 : tkK T n a = 6) (h30 : o = 30) : RfT cx d ad T n x Pm c0 (a, l, o, sc, cl, ac, V, K ++ [(1, 0, [])]) (5) (tkS T n a) := by
  intro t0 post t h k
  have h : MP ad T n x Pm c0 t0 (a) (l) (o) (sc) (cl) (ac) (V) (K ++ [(1, 0, [])]) t := h
  refine h_pop h (by omega) (fun t1 h1 hlet => rt_1 h1.L (x_Mo_readTask_100 h1.L ?_))
  refine x_Mo_beginExp h1.L (m_lookP h1 ha (fun _ u hu => ⟨_, rfl, hu.1.L, fun _ => ⟨fun z => absurd (kyes h6) z, fun _ => ?_⟩, fun z => absurd (kne (j := 4) (by decide) (by omega)) z⟩) (fun z => by omega))
  exact m_opensP hu (by omega) (fun z => by omega) (fun _ w hw => ⟨_, rfl, hw.1.L, fun _ => ⟨rfl, hw.1.L, x_Mo_readTask_750 hw.1.L ⟨rfl, hw.1.L, k _ hw⟩⟩, fun z => absurd rfl z⟩)

theorem r_let_f (ha : a ≤ n) (hl : K.length < 19000) (h4 : tkK T n a = 4) (h30 : o = 30) : RfT cx d ad T n x Pm c0 (a, l, o, sc, cl, ac, V, K ++ [(1, 0, [])]) (5) (tkS T n a) := by
  intro t0 post t h k
  have h : MP ad T n x Pm c0 t0 (a) (l) (o) (sc) (cl) (ac) (V) (K ++ [(1, 0, [])]) t := h
  refine h_pop h (by omega) (fun t1 h1 hlet => rt_1 h1.L (x_Mo_readTask_100 h1.L ?_))
  refine x_Mo_beginExp h1.L (m_lookP h1 ha (fun _ u hu => ⟨_, rfl, hu.1.L, fun z => absurd (kyes h4) z, fun _ => ?_⟩) (fun z => by omega))
  exact m_opensP hu (by omega) (fun z => by omega) (fun _ w hw => ⟨_, rfl, hw.1.L, fun z => absurd rfl z, fun _ => ⟨rfl, hw.1.L, x_Mo_readTask_750 hw.1.L ⟨rfl, hw.1.L, k _ hw⟩⟩⟩)

theorem r_let_n (ha : a ≤ n) (hl : K.length < 19000) (hT : txt T n) (h4 : tkK T n a = 4) (h30 : o < 30) (h2 : tkK T n (tkE T n a) ≠ 2) : RfT cx d ad T n x Pm c0 (a, l, o, sc, cl, ac, V, K ++ [(1, 0, [])]) (fcd T n (tkE T n a)) (tkS T n (tkE T n a)) := by
  intro t0 post t h k
  have h : MP ad T n x Pm c0 t0 (a) (l) (o) (sc) (cl) (ac) (V) (K ++ [(1, 0, [])]) t := h
  refine h_pop h (by omega) (fun t1 h1 hlet => rt_1 h1.L (x_Mo_readTask_100 h1.L ?_))
  refine x_Mo_beginExp h1.L (m_lookP h1 ha (fun _ u hu => ⟨_, rfl, hu.1.L, fun z => absurd (kyes h4) z, fun _ => ?_⟩) (fun z => by omega))
  refine m_opensP hu (by omega) (fun _ w hw => ⟨_, rfl, hw.L, fun _ => ?_, fun z => absurd (show ¬ (1 : Int32) = 0 by decide) z⟩) (fun z => by omega)
  refine m_lookP hw (tkE_le hT ha) (fun q23 v hv => ⟨_, rfl, hv.1.L, fun z => absurd z (kne (j := 2) (by decide) h2), fun _ => ?_⟩) (fun q23 v F hv => ⟨_, rfl, hv.1.L, fun z => absurd z (by decide), fun _ => ?_⟩)
  · rw [show fcd T n (tkE T n a) = 2 from if_neg q23] at k
    exact m_failP (c := 2) (by decide) hv (fun y _ hy => ⟨rfl, hy.1.L, ⟨rfl, hy.1.L, x_Mo_readTask_750 hy.1.L ⟨rfl, hy.1.L, k _ hy⟩⟩⟩)
  · rw [show fcd T n (tkE T n a) = 1 from if_pos q23] at k
    exact m_failD2 hv.1.L hv.2.ne.1 ⟨rfl, hv.1.L, ⟨rfl, hv.1.L, x_Mo_readTask_750 hv.1.L ⟨rfl, hv.1.L, k _ hv⟩⟩⟩

theorem r_let_40 (ha : a ≤ n) (hl : K.length < 19000) (hT : txt T n) (h4 : tkK T n a = 4) (h30 : o < 30) (h2 : tkK T n (tkE T n a) = 2) (hl40 : l = 40) : RfT cx d ad T n x Pm c0 (a, l, o, sc, cl, ac, V, K ++ [(1, 0, [])]) (5) (tkS T n (tkE T n a)) := by
  intro t0 post t h k
  have h : MP ad T n x Pm c0 t0 (a) (l) (o) (sc) (cl) (ac) (V) (K ++ [(1, 0, [])]) t := h
  refine h_pop h (by omega) (fun t1 h1 hlet => rt_1 h1.L (x_Mo_readTask_100 h1.L ?_))
  refine x_Mo_beginExp h1.L (m_lookP h1 ha (fun _ u hu => ⟨_, rfl, hu.1.L, fun z => absurd (kyes h4) z, fun _ => ?_⟩) (fun z => by omega))
  refine m_opensP hu (by omega) (fun _ w hw => ⟨_, rfl, hw.L, fun _ => ?_, fun z => absurd (show ¬ (1 : Int32) = 0 by decide) z⟩) (fun z => by omega)
  refine m_lookP hw (tkE_le hT ha) (fun q23 v hv => ⟨_, rfl, hv.1.L, fun _ => ⟨fun z => absurd ?_ z, fun _ => ?_⟩, fun z => absurd (kyes h2) z⟩) (fun z => by omega)
  · rw [hv.1.2.2.2.2.1.2.2.1, hl40]; rfl
  · exact m_failP (c := 5) (by decide) hv (fun y _ hy => ⟨rfl, hy.1.L, ⟨rfl, hy.1.L, x_Mo_readTask_750 hy.1.L ⟨rfl, hy.1.L, k _ hy⟩⟩⟩)

/-- a let's name -/
theorem MP.lt {t0 t t1 t2 : gSt} {nm : List Nat} {y : Int64} (h : MPh ad T n x Pm c0 t0 a l o sc cl ac V K t) (hp : Pm + l < 50) (e1 : t1 = g_si t (ad 144) 25 (nI (l + 1))) (hy : y = pk6 nm) (e2 : t2 = g_sj t1 (ad 168) (Pm + l) y) : MPh ad T n x Pm c0 t0 a (l + 1) o sc cl ac V K t2 ∧ t2.2.2.1 (ad 168) (Pm + l) = pk6 nm := by
  have hL := h.1.L
  have F : gFr ad (fun c k => (Nat.beq c 144 && Nat.beq k 25) || Nat.beq c 168) t t2 := by rw [e2, e1]; exact ((gFr.rf hL).si rfl).sj rfl
  have hF : ∀ c k, ¬ ((c = 144 ∧ k = 25) ∨ c = 168) → ((Nat.beq c 144 && Nat.beq k 25) || Nat.beq c 168) = false := fun c k z => Bool.eq_false_iff.mpr (fun q => z (by simpa using q))
  obtain ⟨⟨h1, h2, h3, h4, h5, h6, h7⟩, h8⟩ := h
  obtain ⟨m1, m2, m3, m4, ⟨m5, m6⟩, m7, m8⟩ := h5
  refine ⟨⟨⟨h1.tr (F.mo (fun c k z => ?_)), h2, fun i hi => by rw [F.i 166 i (hF _ _ (by omega))]; exact h3 i hi, h4.fr F (fun k _ _ => hF _ _ (by omega)), ⟨?_, ?_, ?_, ?_, ⟨?_, fun i q hq => ?_⟩, ?_, fun i q hq => ?_⟩, h6.fr F (fun c k z => hF _ _ (by omega)), h7.1.fr F (hF _ _ (by omega)) (fun k => hF _ _ (by omega)) (fun k => hF _ _ (by omega)) (fun k => hF _ _ (by omega)), fun q hq e => ?_⟩, h8.fr F (fun k _ _ => hF _ _ (by omega))⟩, ?_⟩
  · simp only [Bool.or_eq_true, Bool.and_eq_true, Nat.beq_eq] at z
    rw [mxP_i]
    omega
  · rw [F.i 144 23 (hF _ _ (by omega))]; exact m1
  · rw [F.i 144 45 (hF _ _ (by omega))]; exact m2
  · rw [e2, g_sj_i, e1, g_rd_at]
  · rw [F.i 144 24 (hF _ _ (by omega))]; exact m4
  · rw [F.i 144 28 (hF _ _ (by omega))]; exact m5
  · rw [F.j 157 i (hF _ _ (by omega)), F.i 158 i (hF _ _ (by omega))]; exact m6 i q hq
  · rw [F.i 144 35 (hF _ _ (by omega))]; exact m7
  · rw [F.j 163 i (hF _ _ (by omega)), F.i 164 i (hF _ _ (by omega)), F.i 165 i (hF _ _ (by omega)), F.i 167 i (hF _ _ (by omega))]; exact m8 i q hq
  · obtain ⟨a1, a2, a3⟩ := h7.2 q hq e
    refine ⟨by omega, a2, ?_⟩
    rw [e2, g_rdj, if_neg (by omega), e1, g_si_j]
    exact a3
  · rw [e2, ← hy]; exact g_up_v

theorem r_let_is (ha : a ≤ n) (hl : K.length < 19000) (hT : txt T n) (hP6 : Pm ≤ 6) (h4 : tkK T n a = 4) (h30 : o < 30) (h2 : tkK T n (tkE T n a) = 2) (hl40 : l < 40) (h14 : tkK T n (tkE T n (tkE T n a)) ≠ 14) : RfT cx d ad T n x Pm c0 (a, l, o, sc, cl, ac, V, K ++ [(1, 0, [])]) (fcd T n (tkE T n (tkE T n a))) (tkS T n (tkE T n (tkE T n a))) := by
  intro t0 post t h k
  have h : MP ad T n x Pm c0 t0 (a) (l) (o) (sc) (cl) (ac) (V) (K ++ [(1, 0, [])]) t := h
  refine h_pop h (by omega) (fun t1 h1 hlet => rt_1 h1.L (x_Mo_readTask_100 h1.L ?_))
  refine x_Mo_beginExp h1.L (m_lookP h1 ha (fun _ u hu => ⟨_, rfl, hu.1.L, fun z => absurd (kyes h4) z, fun _ => ?_⟩) (fun z => by omega))
  refine m_opensP hu (by omega) (fun _ w hw => ⟨_, rfl, hw.L, fun _ => ?_, fun z => absurd (show ¬ (1 : Int32) = 0 by decide) z⟩) (fun z => by omega)
  refine m_lookP hw (tkE_le hT ha) (fun q23 v hv => ⟨_, rfl, hv.1.L, fun _ => ⟨fun _ x17 e17 t18 e18 => ?_, fun z => absurd (fun y => ?_) z⟩, fun z => absurd (kyes h2) z⟩) (fun z => by omega)
  rotate_left
  · rw [hv.1.2.2.2.2.1.2.2.1, show (40 : Int32) = nI 40 from rfl, nI_eq (by omega) (by decide)] at y
    omega
  rw [hv.1.2.2.2.2.1.2.1, hv.1.2.2.2.2.1.2.2.1, nI_add] at e17
  rw [hv.1.2.2.2.2.1.2.2.1, nI_1] at e18
  rw [e17, nI_clamp (by omega)]
  refine ⟨vp_in_nI (by omega) (by omega), fun t19 e19 => ?_⟩
  have hy : t18.2.2.1 (ad 144) 10 = pk6 (tkN T n (tkE T n a)) := by rw [e18, g_si_j]; exact hv.2.2.2.2.2.2.2.2 h2
  obtain ⟨g1, g2⟩ := MP.lt hv (by omega) e18 hy e19
  have hE1 := tkE_le hT ha
  refine m_takeP g1 (fun u2 F2 hu2 => ⟨rfl, hu2.L, ?_⟩)
  exact m_mustP (kk := 14) (by decide) hu2 (tkE_le hT hE1) (fun z => absurd z h14) (fun _ u3 _ hu3 => ⟨_, rfl, hu3.1.L, fun _ => ⟨rfl, hu3.1.L, x_Mo_readTask_750 hu3.1.L ⟨rfl, hu3.1.L, k _ hu3⟩⟩, fun z => absurd rfl z⟩)

theorem r_let (ha : a ≤ n) (hl : K.length < 19000) (hT : txt T n) (hP6 : Pm ≤ 6) (h4 : tkK T n a = 4) (h30 : o < 30) (h2 : tkK T n (tkE T n a) = 2) (hl40 : l < 40) (h14 : tkK T n (tkE T n (tkE T n a)) = 14) : RcT cx d ad T n x Pm c0 (a, l, o, sc, cl, ac, V, K ++ [(1, 0, [])]) (tkE T n (tkE T n (tkE T n a)), l + 1, o + 1, sc, cl, ac, V, K ++ [(2, Pm + l, tkN T n (tkE T n a))] ++ [(1, 0, [])]) := by
  intro t0 post t h k
  have h : MP ad T n x Pm c0 t0 (a) (l) (o) (sc) (cl) (ac) (V) (K ++ [(1, 0, [])]) t := h
  refine h_pop h (by omega) (fun t1 h1 hlet => rt_1 h1.L (x_Mo_readTask_100 h1.L ?_))
  refine x_Mo_beginExp h1.L (m_lookP h1 ha (fun _ u hu => ⟨_, rfl, hu.1.L, fun z => absurd (kyes h4) z, fun _ => ?_⟩) (fun z => by omega))
  refine m_opensP hu (by omega) (fun _ w hw => ⟨_, rfl, hw.L, fun _ => ?_, fun z => absurd (show ¬ (1 : Int32) = 0 by decide) z⟩) (fun z => by omega)
  refine m_lookP hw (tkE_le hT ha) (fun q23 v hv => ⟨_, rfl, hv.1.L, fun _ => ⟨fun _ x17 e17 t18 e18 => ?_, fun z => absurd (fun y => ?_) z⟩, fun z => absurd (kyes h2) z⟩) (fun z => by omega)
  rotate_left
  · rw [hv.1.2.2.2.2.1.2.2.1, show (40 : Int32) = nI 40 from rfl, nI_eq (by omega) (by decide)] at y
    omega
  rw [hv.1.2.2.2.2.1.2.1, hv.1.2.2.2.2.1.2.2.1, nI_add] at e17
  rw [hv.1.2.2.2.2.1.2.2.1, nI_1] at e18
  rw [e17, nI_clamp (by omega)]
  refine ⟨vp_in_nI (by omega) (by omega), fun t19 e19 => ?_⟩
  have hy : t18.2.2.1 (ad 144) 10 = pk6 (tkN T n (tkE T n a)) := by rw [e18, g_si_j]; exact hv.2.2.2.2.2.2.2.2 h2
  obtain ⟨g1, g2⟩ := MP.lt hv (by omega) e18 hy e19
  have hE1 := tkE_le hT ha
  refine m_takeP g1 (fun u2 F2 hu2 => ⟨rfl, hu2.L, ?_⟩)
  refine m_mustP (kk := 14) (by decide) hu2 (tkE_le hT hE1) (fun _ u3 F3 hu3 => ⟨_, rfl, hu3.L, fun z => absurd z (by decide), fun _ => ?_⟩) (fun z => absurd h14 z)
  exact m_pushP (q := (2, Pm + l, tkN T n (tkE T n a))) hu3 (by (try simp only [List.length_append, List.length_cons, List.length_nil]); omega) (fun _ => ⟨by show Pm + l < Pm + (l + 1); omega, by show Pm + l < 50; omega, by rw [F3.j 168 _ (bool_r tmP_i (by omega)), F2.j 168 _ (bool_r tmP_i (by omega))]; exact g2⟩) (fun _ _ p1 => ⟨rfl, p1.L, m_pushP (q := (1, 0, [])) p1 (by (try simp only [List.length_append, List.length_cons, List.length_nil]); omega) (fun z => absurd (show (1 : Nat) = 2 from z) (by decide)) (fun _ _ p2 => ⟨rfl, p2.L, rfl, p2.L, x_Mo_readTask_750 p2.L ⟨rfl, p2.L, k _ p2⟩⟩)⟩)

theorem r_then (ha : a ≤ n) (hl : K.length < 19000) (hk : tkK T n a = 7) : RcT cx d ad T n x Pm c0 (a, l, o, sc, cl, ac, V, K ++ [(4, 0, [])]) (tkE T n a, l, o, sc, cl, ac, V, K ++ [(5, 0, [])] ++ [(1, 0, [])]) := by
  intro t0 post t h k
  have h : MP ad T n x Pm c0 t0 (a) (l) (o) (sc) (cl) (ac) (V) (K ++ [(4, 0, [])]) t := h
  refine h_pop h (by omega) (fun t1 h1 hlet => rt_4 h1.L (x_Mo_readTask_217 h1.L ?_))
  exact m_mustP (kk := 7) (by decide) h1 ha (fun _ u _ hu => ⟨_, rfl, hu.L, fun z => absurd z (by decide), fun _ => m_pushP (q := (5, 0, [])) hu (by (try simp only [List.length_append, List.length_cons, List.length_nil]); omega) (fun z => absurd (show (5 : Nat) = 2 from z) (by decide)) (fun _ _ p1 => ⟨rfl, p1.L, m_pushP (q := (1, 0, [])) p1 (by (try simp only [List.length_append, List.length_cons, List.length_nil]); omega) (fun z => absurd (show (1 : Nat) = 2 from z) (by decide)) (fun _ _ p2 => ⟨rfl, p2.L, x_Mo_readTask_750 p2.L ⟨rfl, p2.L, k _ p2⟩⟩)⟩)⟩) (fun z => absurd hk z)

theorem r_then_f (ha : a ≤ n) (hl : K.length < 19000) (hk : tkK T n a ≠ 7) : RfT cx d ad T n x Pm c0 (a, l, o, sc, cl, ac, V, K ++ [(4, 0, [])]) (fcd T n a) (tkS T n a) := by
  intro t0 post t h k
  have h : MP ad T n x Pm c0 t0 (a) (l) (o) (sc) (cl) (ac) (V) (K ++ [(4, 0, [])]) t := h
  refine h_pop h (by omega) (fun t1 h1 hlet => rt_4 h1.L (x_Mo_readTask_217 h1.L ?_))
  exact m_mustP (kk := 7) (by decide) h1 ha (fun z => absurd z hk) (fun _ u _ hu => ⟨_, rfl, hu.1.L, fun _ => x_Mo_readTask_750 hu.1.L ⟨rfl, hu.1.L, k _ hu⟩, fun z => absurd rfl z⟩)

theorem r_else (ha : a ≤ n) (hl : K.length < 19000) (hk : tkK T n a = 8) : RcT cx d ad T n x Pm c0 (a, l, o, sc, cl, ac, V, K ++ [(5, 0, [])]) (tkE T n a, l, o, sc, cl, ac, V, K ++ [(6, 0, [])] ++ [(1, 0, [])]) := by
  intro t0 post t h k
  have h : MP ad T n x Pm c0 t0 (a) (l) (o) (sc) (cl) (ac) (V) (K ++ [(5, 0, [])]) t := h
  refine h_pop h (by omega) (fun t1 h1 hlet => rt_5 h1.L (x_Mo_readTask_243 h1.L ?_))
  exact m_mustP (kk := 8) (by decide) h1 ha (fun _ u _ hu => ⟨_, rfl, hu.L, fun z => absurd z (by decide), fun _ => m_pushP (q := (6, 0, [])) hu (by (try simp only [List.length_append, List.length_cons, List.length_nil]); omega) (fun z => absurd (show (6 : Nat) = 2 from z) (by decide)) (fun _ _ p1 => ⟨rfl, p1.L, m_pushP (q := (1, 0, [])) p1 (by (try simp only [List.length_append, List.length_cons, List.length_nil]); omega) (fun z => absurd (show (1 : Nat) = 2 from z) (by decide)) (fun _ _ p2 => ⟨rfl, p2.L, x_Mo_readTask_750 p2.L ⟨rfl, p2.L, k _ p2⟩⟩)⟩)⟩) (fun z => absurd hk z)

theorem r_else_f (ha : a ≤ n) (hl : K.length < 19000) (hk : tkK T n a ≠ 8) : RfT cx d ad T n x Pm c0 (a, l, o, sc, cl, ac, V, K ++ [(5, 0, [])]) (fcd T n a) (tkS T n a) := by
  intro t0 post t h k
  have h : MP ad T n x Pm c0 t0 (a) (l) (o) (sc) (cl) (ac) (V) (K ++ [(5, 0, [])]) t := h
  refine h_pop h (by omega) (fun t1 h1 hlet => rt_5 h1.L (x_Mo_readTask_243 h1.L ?_))
  exact m_mustP (kk := 8) (by decide) h1 ha (fun z => absurd z hk) (fun _ u _ hu => ⟨_, rfl, hu.1.L, fun _ => x_Mo_readTask_750 hu.1.L ⟨rfl, hu.1.L, k _ hu⟩, fun z => absurd rfl z⟩)

/-- a scope more -/
theorem MP.sc1 {t0 t t3 t4 t5 : gSt} {nm : List Nat} {v : Nat} (h : MP ad T n x Pm c0 t0 a l o sc cl ac V K t) (e3 : t3 = g_sj t (ad 157) sc.length (pk6 nm)) (e4 : t4 = g_si t3 (ad 158) sc.length (nI v)) (e5 : t5 = g_si t4 (ad 144) 28 (nI (sc.length + 1))) : MP ad T n x Pm c0 t0 a l o (sc ++ [(nm, v)]) cl ac V K t5 := by
  have hL := h.L
  have F : gFr ad (fun c k => (Nat.beq c 144 && Nat.beq k 28) || (Nat.beq c 157 || Nat.beq c 158)) t t5 := by rw [e5, e4, e3]; exact (((gFr.rf hL).sj rfl).si rfl).si rfl
  have hF : ∀ c k, ¬ ((c = 144 ∧ k = 28) ∨ c = 157 ∨ c = 158) → ((Nat.beq c 144 && Nat.beq k 28) || (Nat.beq c 157 || Nat.beq c 158)) = false := fun c k z => Bool.eq_false_iff.mpr (fun q => z (by simpa using q))
  obtain ⟨h1, h2, h3, h4, h5, h6, h7⟩ := h
  obtain ⟨m1, m2, m3, m4, ⟨m5, m6⟩, m7, m8⟩ := h5
  refine ⟨h1.tr (F.mo (fun c k z => ?_)), h2, fun i hi => by rw [F.i 166 i (hF _ _ (by omega))]; exact h3 i hi, h4.fr F (fun k _ _ => hF _ _ (by omega)), ⟨?_, ?_, ?_, ?_, ⟨?_, fun i q hq => ?_⟩, ?_, fun i q hq => ?_⟩, h6.fr F (fun c k z => hF _ _ (by omega)), h7.fr F (fun c k z => hF _ _ (by omega))⟩
  · simp only [Bool.or_eq_true, Bool.and_eq_true, Nat.beq_eq] at z
    rw [mxP_i]
    omega
  · rw [F.i 144 23 (hF _ _ (by omega))]; exact m1
  · rw [F.i 144 45 (hF _ _ (by omega))]; exact m2
  · rw [F.i 144 25 (hF _ _ (by omega))]; exact m3
  · rw [F.i 144 24 (hF _ _ (by omega))]; exact m4
  · rw [e5, g_rd_at, List.length_append]; rfl
  · rw [e5, g_si_j, g_rd_ne (hL.ne 158 144 (by decide) (by decide) (by decide)), e4, g_si_j, e3, g_rdj]
    by_cases hi : i < sc.length
    · rw [List.getElem?_append_left hi] at hq
      rw [if_neg (by omega), g_rd_k (by omega), g_sj_i]
      exact m6 i q hq
    · rw [List.getElem?_append_right (by omega)] at hq
      have hi0 : i - sc.length = 0 := by
        by_cases z : i - sc.length = 0
        · exact z
        · rw [List.getElem?_eq_none (by simp; omega)] at hq; cases hq
      rw [hi0] at hq
      have hq : (nm, v) = q := by simpa using hq
      have hi1 : i = sc.length := by omega
      rw [hi1, if_pos ⟨rfl, rfl⟩, g_rd_at, ← hq]
      exact ⟨rfl, rfl⟩
  · rw [F.i 144 35 (hF _ _ (by omega))]; exact m7
  · rw [F.j 163 i (hF _ _ (by omega)), F.i 164 i (hF _ _ (by omega)), F.i 165 i (hF _ _ (by omega)), F.i 167 i (hF _ _ (by omega))]; exact m8 i q hq

theorem r_in_f (ha : a ≤ n) (hl : K.length < 19000) {v : Nat} {nm : List Nat} (hk : tkK T n a ≠ 5) : RfT cx d ad T n x Pm c0 (a, l, o, sc, cl, ac, V, K ++ [(2, v, nm)]) (fcd T n a) (tkS T n a) := by
  intro t0 post t h k
  have h : MP ad T n x Pm c0 t0 (a) (l) (o) (sc) (cl) (ac) (V) (K ++ [(2, v, nm)]) t := h
  refine h_pop h (by omega) (fun t1 h1 hlet => rt_2 h1.L (x_Mo_readTask_107 h1.L ?_))
  exact m_mustP (kk := 5) (by decide) h1 ha (fun z => absurd z hk) (fun _ u _ hu => ⟨_, rfl, hu.1.L, fun _ => x_Mo_readTask_750 hu.1.L ⟨rfl, hu.1.L, k _ hu⟩, fun z => absurd rfl z⟩)

theorem r_in (ha : a ≤ n) (hl : K.length < 19000) {v : Nat} {nm : List Nat} (hs : sc.length < 50) (hk : tkK T n a = 5) : RcT cx d ad T n x Pm c0 (a, l, o, sc, cl, ac, V, K ++ [(2, v, nm)]) (tkE T n a, l, o, sc ++ [(nm, v)], cl, ac, V, K ++ [(3, v, [])] ++ [(1, 0, [])]) := by
  intro t0 post t h k
  have h : MP ad T n x Pm c0 t0 (a) (l) (o) (sc) (cl) (ac) (V) (K ++ [(2, v, nm)]) t := h
  refine h_pop h (by omega) (fun t1 h1 hlet => rt_2 h1.L (x_Mo_readTask_107 h1.L ?_))
  obtain ⟨q1, q2, q3⟩ := hlet rfl
  have q2 : v < 50 := q2
  refine m_mustP (kk := 5) (by decide) h1 ha (fun _ u Fu hu => ⟨_, rfl, hu.L, fun z => absurd z (by decide), fun _ => ?_⟩) (fun z => absurd hk z)
  have e28 : u.2.1 (ad 144) 28 = nI sc.length := hu.2.2.2.2.1.2.2.2.2.1.1
  have e168 : u.2.2.1 (ad 168) v = pk6 nm := by rw [Fu.j 168 _ (bool_r tmP_i (by omega))]; exact q3
  rw [e28, nI_clamp (by omega), nI_clamp (by omega), e168]
  refine ⟨vp_in_nI q2 (by omega), vp_in_nI hs (by omega), fun t3 e3 => ?_⟩
  have r3 : t3.2.1 (ad 144) 28 = nI sc.length := by rw [e3, g_sj_i]; exact e28
  rw [r3, nI_clamp (by omega)]
  refine ⟨vp_in_nI hs (by omega), fun t4 e4 t5 e5 => ?_⟩
  have r4 : t4.2.1 (ad 144) 28 = nI sc.length := by rw [e4, g_rd_ne (hu.L.ne 144 158 (by decide) (by decide) (by decide))]; exact r3
  rw [r4, nI_1] at e5
  have g := MP.sc1 hu e3 e4 e5
  exact m_pushP (q := (3, v, [])) g (by (try simp only [List.length_append, List.length_cons, List.length_nil]); omega) (fun z => absurd (show (3 : Nat) = 2 from z) (by decide)) (fun _ _ p1 => ⟨rfl, p1.L, m_pushP (q := (1, 0, [])) p1 (by (try simp only [List.length_append, List.length_cons, List.length_nil]); omega) (fun z => absurd (show (1 : Nat) = 2 from z) (by decide)) (fun _ _ p2 => ⟨rfl, p2.L, x_Mo_readTask_750 p2.L ⟨rfl, p2.L, k _ p2⟩⟩)⟩)

theorem r_mexp (ha : a ≤ n) (hl : K.length < 19000) (hk : tkK T n a = 13) : RcT cx d ad T n x Pm c0 (a, l, o, sc, cl, ac, V, K ++ [(7, 0, [])]) (tkE T n a, l, o, sc, cl, ac, V, K ++ [(8, 0, [])] ++ [(1, 0, [])]) := by
  intro t0 post t h k
  have h : MP ad T n x Pm c0 t0 (a) (l) (o) (sc) (cl) (ac) (V) (K ++ [(7, 0, [])]) t := h
  refine h_pop h (by omega) (fun t1 h1 hlet => rt_7 h1.L (x_Mo_readTask_317 h1.L ?_))
  refine m_lookP h1 ha (fun _ u hu => ⟨_, rfl, hu.1.L, fun z => absurd (kyes hk) z, fun _ => m_takeP hu (fun w _ hw => ⟨rfl, hw.L, ?_⟩)⟩) (fun z => by omega)
  exact m_pushP (q := (8, 0, [])) hw (by (try simp only [List.length_append, List.length_cons, List.length_nil]); omega) (fun z => absurd (show (8 : Nat) = 2 from z) (by decide)) (fun _ _ p1 => ⟨rfl, p1.L, m_pushP (q := (1, 0, [])) p1 (by (try simp only [List.length_append, List.length_cons, List.length_nil]); omega) (fun z => absurd (show (1 : Nat) = 2 from z) (by decide)) (fun _ _ p2 => ⟨rfl, p2.L, x_Mo_readTask_750 p2.L ⟨rfl, p2.L, k _ p2⟩⟩)⟩)

theorem r_mexp_o (ha : a ≤ n) (hl : K.length < 19000) (hk : tkK T n a ≠ 13) (h23 : tkK T n a ≠ 23) : RcT cx d ad T n x Pm c0 (a, l, o, sc, cl, ac, V, K ++ [(7, 0, [])]) (a, l, o, sc, cl, ac, V, K) := by
  intro t0 post t h k
  have h : MP ad T n x Pm c0 t0 (a) (l) (o) (sc) (cl) (ac) (V) (K ++ [(7, 0, [])]) t := h
  refine h_pop h (by omega) (fun t1 h1 hlet => rt_7 h1.L (x_Mo_readTask_317 h1.L ?_))
  exact m_lookP h1 ha (fun _ u hu => ⟨_, rfl, hu.1.L, fun _ => x_Mo_readTask_750 hu.1.L ⟨rfl, hu.1.L, k _ hu.1⟩, fun z => absurd (kne (j := 13) (by decide) hk) z⟩) (fun z => absurd z h23)

theorem r_mexp_bad (ha : a ≤ n) (hl : K.length < 19000) (h23 : tkK T n a = 23) : RfT cx d ad T n x Pm c0 (a, l, o, sc, cl, ac, V, K ++ [(7, 0, [])]) (1) (tkS T n a) := by
  intro t0 post t h k
  have h : MP ad T n x Pm c0 t0 (a) (l) (o) (sc) (cl) (ac) (V) (K ++ [(7, 0, [])]) t := h
  refine h_pop h (by omega) (fun t1 h1 hlet => rt_7 h1.L (x_Mo_readTask_317 h1.L ?_))
  exact m_lookP h1 ha (fun z => absurd h23 z) (fun _ u _ hu => ⟨_, rfl, hu.1.L, fun _ => x_Mo_readTask_750 hu.1.L ⟨rfl, hu.1.L, k _ hu⟩, fun z => absurd (show ¬ (-1 : Int32) = 13 by decide) z⟩)

theorem r_alikes (ha : a ≤ n) (hl : K.length < 19000) : RcT cx d ad T n x Pm c0 (a, l, o, sc, cl, ac, V, K ++ [(9, 0, [])]) (a, l, o, sc, cl, ac, V, K ++ [(10, 0, [])] ++ [(12, 0, [])]) := by
  intro t0 post t h k
  have h : MP ad T n x Pm c0 t0 (a) (l) (o) (sc) (cl) (ac) (V) (K ++ [(9, 0, [])]) t := h
  refine h_pop h (by omega) (fun t1 h1 hlet => rt_9 h1.L (x_Mo_readTask_357 h1.L ?_))
  exact m_pushP (q := (10, 0, [])) h1 (by (try simp only [List.length_append, List.length_cons, List.length_nil]); omega) (fun z => absurd (show (10 : Nat) = 2 from z) (by decide)) (fun _ _ p1 => ⟨rfl, p1.L, m_pushP (q := (12, 0, [])) p1 (by (try simp only [List.length_append, List.length_cons, List.length_nil]); omega) (fun z => absurd (show (12 : Nat) = 2 from z) (by decide)) (fun _ _ p2 => ⟨rfl, p2.L, x_Mo_readTask_750 p2.L ⟨rfl, p2.L, k _ p2⟩⟩)⟩)

theorem r_sum (ha : a ≤ n) (hl : K.length < 19000) : RcT cx d ad T n x Pm c0 (a, l, o, sc, cl, ac, V, K ++ [(12, 0, [])]) (a, l, o, sc, cl, ac, V, K ++ [(13, 0, [])] ++ [(15, 0, [])]) := by
  intro t0 post t h k
  have h : MP ad T n x Pm c0 t0 (a) (l) (o) (sc) (cl) (ac) (V) (K ++ [(12, 0, [])]) t := h
  refine h_pop h (by omega) (fun t1 h1 hlet => rt_12 h1.L (x_Mo_readTask_440 h1.L ?_))
  exact m_pushP (q := (13, 0, [])) h1 (by (try simp only [List.length_append, List.length_cons, List.length_nil]); omega) (fun z => absurd (show (13 : Nat) = 2 from z) (by decide)) (fun _ _ p1 => ⟨rfl, p1.L, m_pushP (q := (15, 0, [])) p1 (by (try simp only [List.length_append, List.length_cons, List.length_nil]); omega) (fun z => absurd (show (15 : Nat) = 2 from z) (by decide)) (fun _ _ p2 => ⟨rfl, p2.L, x_Mo_readTask_750 p2.L ⟨rfl, p2.L, k _ p2⟩⟩)⟩)

theorem r_prod (ha : a ≤ n) (hl : K.length < 19000) : RcT cx d ad T n x Pm c0 (a, l, o, sc, cl, ac, V, K ++ [(15, 0, [])]) (a, l, o, sc, cl, ac, V, K ++ [(16, 0, [])] ++ [(18, 0, [])]) := by
  intro t0 post t h k
  have h : MP ad T n x Pm c0 t0 (a) (l) (o) (sc) (cl) (ac) (V) (K ++ [(15, 0, [])]) t := h
  refine h_pop h (by omega) (fun t1 h1 hlet => rt_15 h1.L (x_Mo_readTask_529 h1.L ?_))
  exact m_pushP (q := (16, 0, [])) h1 (by (try simp only [List.length_append, List.length_cons, List.length_nil]); omega) (fun z => absurd (show (16 : Nat) = 2 from z) (by decide)) (fun _ _ p1 => ⟨rfl, p1.L, m_pushP (q := (18, 0, [])) p1 (by (try simp only [List.length_append, List.length_cons, List.length_nil]); omega) (fun z => absurd (show (18 : Nat) = 2 from z) (by decide)) (fun _ _ p2 => ⟨rfl, p2.L, x_Mo_readTask_750 p2.L ⟨rfl, p2.L, k _ p2⟩⟩)⟩)

theorem r_less (ha : a ≤ n) (hl : K.length < 19000) (hk : tkK T n a = 20) : RcT cx d ad T n x Pm c0 (a, l, o, sc, cl, ac, V, K ++ [(10, 0, [])]) (tkE T n a, l, o, sc, cl, ac, V, K ++ [(11, 8, [])] ++ [(12, 0, [])]) := by
  intro t0 post t h k
  have h : MP ad T n x Pm c0 t0 (a) (l) (o) (sc) (cl) (ac) (V) (K ++ [(10, 0, [])]) t := h
  refine h_pop h (by omega) (fun t1 h1 hlet => rt_10 h1.L (x_Mo_readTask_376 h1.L ?_))
  refine m_lookP h1 ha (fun _ u hu => ⟨_, rfl, hu.1.L, fun _ => x_Mo_readTask_394 hu.1.L ⟨fun z => absurd ?_ z, fun _ => x_Mo_readTask_413 hu.1.L ?_⟩, fun z => absurd (kyes hk) z⟩) (fun z => by omega)
  · rw [hu.2.2.2.2.2.1, hk]; rfl
  · exact m_pushH (q := (11, 8, [])) hu (by (try simp only [List.length_append, List.length_cons, List.length_nil]); omega) (by decide) (fun _ p1 => ⟨rfl, p1.1.L, m_takeP p1 (fun _ _ p2 => ⟨rfl, p2.L, m_pushP (q := (12, 0, [])) p2 (by (try simp only [List.length_append, List.length_cons, List.length_nil]); omega) (fun z => absurd z (by decide)) (fun _ _ p3 => ⟨rfl, p3.L, x_Mo_readTask_750 p3.L ⟨rfl, p3.L, k _ p3⟩⟩)⟩)⟩)

theorem r_same (ha : a ≤ n) (hl : K.length < 19000) (hk : tkK T n a = 21) : RcT cx d ad T n x Pm c0 (a, l, o, sc, cl, ac, V, K ++ [(10, 0, [])]) (tkE T n a, l, o, sc, cl, ac, V, K ++ [(11, 9, [])] ++ [(12, 0, [])]) := by
  intro t0 post t h k
  have h : MP ad T n x Pm c0 t0 (a) (l) (o) (sc) (cl) (ac) (V) (K ++ [(10, 0, [])]) t := h
  refine h_pop h (by omega) (fun t1 h1 hlet => rt_10 h1.L (x_Mo_readTask_376 h1.L ?_))
  refine m_lookP h1 ha (fun _ w hw => ⟨_, rfl, hw.1.L, fun z => absurd z (kne (j := 20) (by decide) (by omega)), fun _ => m_lookP hw.1 ha (fun _ u hu => ⟨_, rfl, hu.1.L, fun z => absurd (kyes hk) z, fun _ => x_Mo_readTask_394 hu.1.L ⟨fun _ => x_Mo_readTask_413 hu.1.L ?_, fun z => absurd (fun y => ?_) z⟩⟩) (fun z => by omega)⟩) (fun z => by omega)
  rotate_left
  · rw [hu.2.2.2.2.2.1, hk] at y; exact absurd y (by decide)
  · exact m_pushH (q := (11, 9, [])) hu (by (try simp only [List.length_append, List.length_cons, List.length_nil]); omega) (by decide) (fun _ p1 => ⟨rfl, p1.1.L, m_takeP p1 (fun _ _ p2 => ⟨rfl, p2.L, m_pushP (q := (12, 0, [])) p2 (by (try simp only [List.length_append, List.length_cons, List.length_nil]); omega) (fun z => absurd z (by decide)) (fun _ _ p3 => ⟨rfl, p3.L, x_Mo_readTask_750 p3.L ⟨rfl, p3.L, k _ p3⟩⟩)⟩)⟩)

theorem r_alike_o (ha : a ≤ n) (hl : K.length < 19000) (hk : tkK T n a ≠ 20) (hk2 : tkK T n a ≠ 21) (h23 : tkK T n a ≠ 23) : RcT cx d ad T n x Pm c0 (a, l, o, sc, cl, ac, V, K ++ [(10, 0, [])]) (a, l, o, sc, cl, ac, V, K) := by
  intro t0 post t h k
  have h : MP ad T n x Pm c0 t0 (a) (l) (o) (sc) (cl) (ac) (V) (K ++ [(10, 0, [])]) t := h
  refine h_pop h (by omega) (fun t1 h1 hlet => rt_10 h1.L (x_Mo_readTask_376 h1.L ?_))
  exact m_lookP h1 ha (fun _ w hw => ⟨_, rfl, hw.1.L, fun z => absurd z (kne (j := 20) (by decide) hk), fun _ => m_lookP hw.1 ha (fun _ u hu => ⟨_, rfl, hu.1.L, fun _ => x_Mo_readTask_750 hu.1.L ⟨rfl, hu.1.L, k _ hu.1⟩, fun z => absurd (kne (j := 21) (by decide) hk2) z⟩) (fun z => absurd z h23)⟩) (fun z => absurd z h23)

theorem r_alike_bad (ha : a ≤ n) (hl : K.length < 19000) (h23 : tkK T n a = 23) : RfT cx d ad T n x Pm c0 (a, l, o, sc, cl, ac, V, K ++ [(10, 0, [])]) (1) (tkS T n a) := by
  intro t0 post t h k
  have h : MP ad T n x Pm c0 t0 (a) (l) (o) (sc) (cl) (ac) (V) (K ++ [(10, 0, [])]) t := h
  refine h_pop h (by omega) (fun t1 h1 hlet => rt_10 h1.L (x_Mo_readTask_376 h1.L ?_))
  exact m_lookP h1 ha (fun z => absurd h23 z) (fun _ u _ hu => ⟨_, rfl, hu.1.L, fun z => absurd z (by decide), fun _ => m_lookD hu.1.L hu.2.ne.2 ⟨_, rfl, hu.1.L, fun _ => x_Mo_readTask_750 hu.1.L ⟨rfl, hu.1.L, k _ hu⟩, fun z => absurd (show ¬ (-1 : Int32) = 21 by decide) z⟩⟩)

theorem r_add (ha : a ≤ n) (hl : K.length < 19000) (hk : tkK T n a = 15) : RcT cx d ad T n x Pm c0 (a, l, o, sc, cl, ac, V, K ++ [(13, 0, [])]) (tkE T n a, l, o, sc, cl, ac, V, K ++ [(14, 3, [])] ++ [(15, 0, [])]) := by
  intro t0 post t h k
  have h : MP ad T n x Pm c0 t0 (a) (l) (o) (sc) (cl) (ac) (V) (K ++ [(13, 0, [])]) t := h
  refine h_pop h (by omega) (fun t1 h1 hlet => rt_13 h1.L (x_Mo_readTask_459 h1.L ?_))
  refine m_lookP h1 ha (fun _ u hu => ⟨_, rfl, hu.1.L, fun _ => x_Mo_readTask_477 hu.1.L ⟨fun z => absurd ?_ z, fun _ => x_Mo_readTask_494 hu.1.L ?_⟩, fun z => absurd (kyes hk) z⟩) (fun z => by omega)
  · rw [hu.2.2.2.2.2.1, hk]; rfl
  · exact m_pushH (q := (14, 3, [])) hu (by (try simp only [List.length_append, List.length_cons, List.length_nil]); omega) (by decide) (fun _ p1 => ⟨rfl, p1.1.L, m_takeP p1 (fun _ _ p2 => ⟨rfl, p2.L, m_pushP (q := (15, 0, [])) p2 (by (try simp only [List.length_append, List.length_cons, List.length_nil]); omega) (fun z => absurd z (by decide)) (fun _ _ p3 => ⟨rfl, p3.L, x_Mo_readTask_750 p3.L ⟨rfl, p3.L, k _ p3⟩⟩)⟩)⟩)

theorem r_sub (ha : a ≤ n) (hl : K.length < 19000) (hk : tkK T n a = 16) : RcT cx d ad T n x Pm c0 (a, l, o, sc, cl, ac, V, K ++ [(13, 0, [])]) (tkE T n a, l, o, sc, cl, ac, V, K ++ [(14, 4, [])] ++ [(15, 0, [])]) := by
  intro t0 post t h k
  have h : MP ad T n x Pm c0 t0 (a) (l) (o) (sc) (cl) (ac) (V) (K ++ [(13, 0, [])]) t := h
  refine h_pop h (by omega) (fun t1 h1 hlet => rt_13 h1.L (x_Mo_readTask_459 h1.L ?_))
  refine m_lookP h1 ha (fun _ w hw => ⟨_, rfl, hw.1.L, fun z => absurd z (kne (j := 15) (by decide) (by omega)), fun _ => m_lookP hw.1 ha (fun _ u hu => ⟨_, rfl, hu.1.L, fun z => absurd (kyes hk) z, fun _ => x_Mo_readTask_477 hu.1.L ⟨fun _ => x_Mo_readTask_494 hu.1.L ?_, fun z => absurd (fun y => ?_) z⟩⟩) (fun z => by omega)⟩) (fun z => by omega)
  rotate_left
  · rw [hu.2.2.2.2.2.1, hk] at y; exact absurd y (by decide)
  · exact m_pushH (q := (14, 4, [])) hu (by (try simp only [List.length_append, List.length_cons, List.length_nil]); omega) (by decide) (fun _ p1 => ⟨rfl, p1.1.L, m_takeP p1 (fun _ _ p2 => ⟨rfl, p2.L, m_pushP (q := (15, 0, [])) p2 (by (try simp only [List.length_append, List.length_cons, List.length_nil]); omega) (fun z => absurd z (by decide)) (fun _ _ p3 => ⟨rfl, p3.L, x_Mo_readTask_750 p3.L ⟨rfl, p3.L, k _ p3⟩⟩)⟩)⟩)

theorem r_sum_o (ha : a ≤ n) (hl : K.length < 19000) (hk : tkK T n a ≠ 15) (hk2 : tkK T n a ≠ 16) (h23 : tkK T n a ≠ 23) : RcT cx d ad T n x Pm c0 (a, l, o, sc, cl, ac, V, K ++ [(13, 0, [])]) (a, l, o, sc, cl, ac, V, K) := by
  intro t0 post t h k
  have h : MP ad T n x Pm c0 t0 (a) (l) (o) (sc) (cl) (ac) (V) (K ++ [(13, 0, [])]) t := h
  refine h_pop h (by omega) (fun t1 h1 hlet => rt_13 h1.L (x_Mo_readTask_459 h1.L ?_))
  exact m_lookP h1 ha (fun _ w hw => ⟨_, rfl, hw.1.L, fun z => absurd z (kne (j := 15) (by decide) hk), fun _ => m_lookP hw.1 ha (fun _ u hu => ⟨_, rfl, hu.1.L, fun _ => x_Mo_readTask_750 hu.1.L ⟨rfl, hu.1.L, k _ hu.1⟩, fun z => absurd (kne (j := 16) (by decide) hk2) z⟩) (fun z => absurd z h23)⟩) (fun z => absurd z h23)

theorem r_sum_bad (ha : a ≤ n) (hl : K.length < 19000) (h23 : tkK T n a = 23) : RfT cx d ad T n x Pm c0 (a, l, o, sc, cl, ac, V, K ++ [(13, 0, [])]) (1) (tkS T n a) := by
  intro t0 post t h k
  have h : MP ad T n x Pm c0 t0 (a) (l) (o) (sc) (cl) (ac) (V) (K ++ [(13, 0, [])]) t := h
  refine h_pop h (by omega) (fun t1 h1 hlet => rt_13 h1.L (x_Mo_readTask_459 h1.L ?_))
  exact m_lookP h1 ha (fun z => absurd h23 z) (fun _ u _ hu => ⟨_, rfl, hu.1.L, fun z => absurd z (by decide), fun _ => m_lookD hu.1.L hu.2.ne.2 ⟨_, rfl, hu.1.L, fun _ => x_Mo_readTask_750 hu.1.L ⟨rfl, hu.1.L, k _ hu⟩, fun z => absurd (show ¬ (-1 : Int32) = 16 by decide) z⟩⟩)

theorem r_mul (ha : a ≤ n) (hl : K.length < 19000) (hk : tkK T n a = 17) : RcT cx d ad T n x Pm c0 (a, l, o, sc, cl, ac, V, K ++ [(16, 0, [])]) (tkE T n a, l, o, sc, cl, ac, V, K ++ [(17, 5, [])] ++ [(18, 0, [])]) := by
  intro t0 post t h k
  have h : MP ad T n x Pm c0 t0 (a) (l) (o) (sc) (cl) (ac) (V) (K ++ [(16, 0, [])]) t := h
  refine h_pop h (by omega) (fun t1 h1 hlet => rt_16 h1.L (x_Mo_readTask_548 h1.L ?_))
  refine m_lookP h1 ha (fun _ u hu => ⟨_, rfl, hu.1.L, fun _ => x_Mo_readTask_575 hu.1.L ⟨fun z => absurd ?_ z, fun _ => x_Mo_readTask_607 hu.1.L ?_⟩, fun z => absurd (kyes hk) z⟩) (fun z => by omega)
  · rw [hu.2.2.2.2.2.1, hk]; rfl
  · exact m_pushH (q := (17, 5, [])) hu (by (try simp only [List.length_append, List.length_cons, List.length_nil]); omega) (by decide) (fun _ p1 => ⟨rfl, p1.1.L, m_takeP p1 (fun _ _ p2 => ⟨rfl, p2.L, m_pushP (q := (18, 0, [])) p2 (by (try simp only [List.length_append, List.length_cons, List.length_nil]); omega) (fun z => absurd z (by decide)) (fun _ _ p3 => ⟨rfl, p3.L, x_Mo_readTask_750 p3.L ⟨rfl, p3.L, k _ p3⟩⟩)⟩)⟩)

theorem r_div (ha : a ≤ n) (hl : K.length < 19000) (hk : tkK T n a = 18) : RcT cx d ad T n x Pm c0 (a, l, o, sc, cl, ac, V, K ++ [(16, 0, [])]) (tkE T n a, l, o, sc, cl, ac, V, K ++ [(17, 6, [])] ++ [(18, 0, [])]) := by
  intro t0 post t h k
  have h : MP ad T n x Pm c0 t0 (a) (l) (o) (sc) (cl) (ac) (V) (K ++ [(16, 0, [])]) t := h
  refine h_pop h (by omega) (fun t1 h1 hlet => rt_16 h1.L (x_Mo_readTask_548 h1.L ?_))
  refine m_lookP h1 ha (fun _ w hw => ⟨_, rfl, hw.1.L, fun z => absurd z (kne (j := 17) (by decide) (by omega)), fun _ => m_lookP hw.1 ha (fun _ u hu => ⟨_, rfl, hu.1.L, fun _ => x_Mo_readTask_575 hu.1.L ⟨fun _ => ⟨fun z => absurd ?_ z, fun _ => x_Mo_readTask_607 hu.1.L ?_⟩, fun z => absurd (fun y => ?_) z⟩, fun z => absurd (kyes hk) z⟩) (fun z => by omega)⟩) (fun z => by omega)
  · rw [hu.2.2.2.2.2.1, hk]; rfl
  · exact m_pushH (q := (17, 6, [])) hu (by (try simp only [List.length_append, List.length_cons, List.length_nil]); omega) (by decide) (fun _ p1 => ⟨rfl, p1.1.L, m_takeP p1 (fun _ _ p2 => ⟨rfl, p2.L, m_pushP (q := (18, 0, [])) p2 (by (try simp only [List.length_append, List.length_cons, List.length_nil]); omega) (fun z => absurd z (by decide)) (fun _ _ p3 => ⟨rfl, p3.L, x_Mo_readTask_750 p3.L ⟨rfl, p3.L, k _ p3⟩⟩)⟩)⟩)
  · rw [hu.2.2.2.2.2.1, hk] at y; exact absurd y (by decide)

theorem r_rem (ha : a ≤ n) (hl : K.length < 19000) (hk : tkK T n a = 19) : RcT cx d ad T n x Pm c0 (a, l, o, sc, cl, ac, V, K ++ [(16, 0, [])]) (tkE T n a, l, o, sc, cl, ac, V, K ++ [(17, 7, [])] ++ [(18, 0, [])]) := by
  intro t0 post t h k
  have h : MP ad T n x Pm c0 t0 (a) (l) (o) (sc) (cl) (ac) (V) (K ++ [(16, 0, [])]) t := h
  refine h_pop h (by omega) (fun t1 h1 hlet => rt_16 h1.L (x_Mo_readTask_548 h1.L ?_))
  refine m_lookP h1 ha (fun _ w hw => ⟨_, rfl, hw.1.L, fun z => absurd z (kne (j := 17) (by decide) (by omega)), fun _ => m_lookP hw.1 ha (fun _ v hv => ⟨_, rfl, hv.1.L, fun z => absurd z (kne (j := 18) (by decide) (by omega)), fun _ => m_lookP hv.1 ha (fun _ u hu => ⟨_, rfl, hu.1.L, fun z => absurd (kyes hk) z, fun _ => x_Mo_readTask_575 hu.1.L ⟨fun _ => ⟨fun _ => x_Mo_readTask_607 hu.1.L ?_, fun z => absurd (fun y => ?_) z⟩, fun z => absurd (fun y => ?_) z⟩⟩) (fun z => by omega)⟩) (fun z => by omega)⟩) (fun z => by omega)
  · exact m_pushH (q := (17, 7, [])) hu (by (try simp only [List.length_append, List.length_cons, List.length_nil]); omega) (by decide) (fun _ p1 => ⟨rfl, p1.1.L, m_takeP p1 (fun _ _ p2 => ⟨rfl, p2.L, m_pushP (q := (18, 0, [])) p2 (by (try simp only [List.length_append, List.length_cons, List.length_nil]); omega) (fun z => absurd z (by decide)) (fun _ _ p3 => ⟨rfl, p3.L, x_Mo_readTask_750 p3.L ⟨rfl, p3.L, k _ p3⟩⟩)⟩)⟩)
  · rw [hu.2.2.2.2.2.1, hk] at y; exact absurd y (by decide)
  · rw [hu.2.2.2.2.2.1, hk] at y; exact absurd y (by decide)

theorem r_prod_o (ha : a ≤ n) (hl : K.length < 19000) (hk : tkK T n a ≠ 17) (hk2 : tkK T n a ≠ 18) (hk3 : tkK T n a ≠ 19) (h23 : tkK T n a ≠ 23) : RcT cx d ad T n x Pm c0 (a, l, o, sc, cl, ac, V, K ++ [(16, 0, [])]) (a, l, o, sc, cl, ac, V, K) := by
  intro t0 post t h k
  have h : MP ad T n x Pm c0 t0 (a) (l) (o) (sc) (cl) (ac) (V) (K ++ [(16, 0, [])]) t := h
  refine h_pop h (by omega) (fun t1 h1 hlet => rt_16 h1.L (x_Mo_readTask_548 h1.L ?_))
  exact m_lookP h1 ha (fun _ w hw => ⟨_, rfl, hw.1.L, fun z => absurd z (kne (j := 17) (by decide) hk), fun _ => m_lookP hw.1 ha (fun _ v hv => ⟨_, rfl, hv.1.L, fun z => absurd z (kne (j := 18) (by decide) hk2), fun _ => m_lookP hv.1 ha (fun _ u hu => ⟨_, rfl, hu.1.L, fun _ => x_Mo_readTask_750 hu.1.L ⟨rfl, hu.1.L, k _ hu.1⟩, fun z => absurd (kne (j := 19) (by decide) hk3) z⟩) (fun z => absurd z h23)⟩) (fun z => absurd z h23)⟩) (fun z => absurd z h23)

theorem r_prod_bad (ha : a ≤ n) (hl : K.length < 19000) (h23 : tkK T n a = 23) : RfT cx d ad T n x Pm c0 (a, l, o, sc, cl, ac, V, K ++ [(16, 0, [])]) (1) (tkS T n a) := by
  intro t0 post t h k
  have h : MP ad T n x Pm c0 t0 (a) (l) (o) (sc) (cl) (ac) (V) (K ++ [(16, 0, [])]) t := h
  refine h_pop h (by omega) (fun t1 h1 hlet => rt_16 h1.L (x_Mo_readTask_548 h1.L ?_))
  exact m_lookP h1 ha (fun z => absurd h23 z) (fun _ u _ hu => ⟨_, rfl, hu.1.L, fun z => absurd z (by decide), fun _ => m_lookD hu.1.L hu.2.ne.2 ⟨_, rfl, hu.1.L, fun z => absurd z (by decide), fun _ => m_lookD hu.1.L hu.2.ne.2 ⟨_, rfl, hu.1.L, fun _ => x_Mo_readTask_750 hu.1.L ⟨rfl, hu.1.L, k _ hu⟩, fun z => absurd (show ¬ (-1 : Int32) = 19 by decide) z⟩⟩⟩)
end TS
