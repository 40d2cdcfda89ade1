/-! THE MODEL READS AN EXPRESSION: task by task, values -/
section TU
variable {cx : gCx} {d : Nat} {ad : Nat → Nat} {T : Nat → Nat} {n x Pm c0 a l o : Nat} {sc : SC} {cl : CL} {ac : Nat → Nat} {V V0 A B C W : Fo} {K : AT}

theorem r_seq (hl : K.length < 19000) (hx : x < 72) (hA : fo_l A = 1) (hB : fo_l B = 1) (hn : fo_n V0 + fo_n A + fo_n B < 3090) : RcT cx d ad T n x Pm c0 (a, l, o, sc, cl, ac, fo_ap (fo_ap V0 A) B, K ++ [(8, 0, [])]) (a, l, o, sc, cl, ac, fo_ap V0 (.inner 0 12 0 (fo_ap A B) .leaf), K) := by
  intro t0 post t h k
  have h : MP ad T n x Pm c0 t0 (a) (l) (o) (sc) (cl) (ac) (fo_ap (fo_ap V0 A) B) (K ++ [(8, 0, [])]) t := h
  refine h_pop h (by omega) (fun t1 h1 hlet => rt_8 h1.L (x_Mo_readTask_348 h1.L ?_))
  exact m_twoP hx h1 hA hB hn (by decide) (fun u hu => ⟨rfl, hu.L, x_Mo_readTask_750 hu.L ⟨rfl, hu.L, k _ hu⟩⟩)

theorem kk_ne {kk : Nat} (hk : 3 ≤ kk ∧ kk ≤ 9) : nI kk ≠ 1 ∧ nI kk ≠ 2 ∧ nI kk ≠ 15 ∧ nI kk ≠ 14 := by
  have e : ∀ j, j < 100 → kk ≠ j → nI kk ≠ nI j := fun j hj h z => h ((nI_eq (by omega) (by omega)).mp z)
  exact ⟨e 1 (by decide) (by omega), e 2 (by decide) (by omega), e 15 (by decide) (by omega), e 14 (by decide) (by omega)⟩

theorem r_alike_e (hl : K.length < 19000) (hx : x < 72) (hA : fo_l A = 1) (hB : fo_l B = 1) (hn : fo_n V0 + fo_n A + fo_n B < 3090) {kk : Nat} (hk : 3 ≤ kk ∧ kk ≤ 9) : RcT cx d ad T n x Pm c0 (a, l, o, sc, cl, ac, fo_ap (fo_ap V0 A) B, K ++ [(11, kk, [])]) (a, l, o, sc, cl, ac, fo_ap V0 (.inner 0 (nI kk) 0 (fo_ap A B) .leaf), K) := by
  intro t0 post t h k
  have h : MP ad T n x Pm c0 t0 (a) (l) (o) (sc) (cl) (ac) (fo_ap (fo_ap V0 A) B) (K ++ [(11, kk, [])]) t := h
  refine h_pop h (by omega) (fun t1 h1 hlet => rt_11 h1.L (x_Mo_readTask_432 h1.L ?_))
  exact m_twoP hx h1 hA hB hn (kk_ne hk) (fun u hu => ⟨rfl, hu.L, x_Mo_readTask_750 hu.L ⟨rfl, hu.L, k _ hu⟩⟩)

theorem r_sum_e (hl : K.length < 19000) (hx : x < 72) (hA : fo_l A = 1) (hB : fo_l B = 1) (hn : fo_n V0 + fo_n A + fo_n B < 3090) {kk : Nat} (hk : 3 ≤ kk ∧ kk ≤ 9) : RcT cx d ad T n x Pm c0 (a, l, o, sc, cl, ac, fo_ap (fo_ap V0 A) B, K ++ [(14, kk, [])]) (a, l, o, sc, cl, ac, fo_ap V0 (.inner 0 (nI kk) 0 (fo_ap A B) .leaf), K ++ [(13, 0, [])]) := by
  intro t0 post t h k
  have h : MP ad T n x Pm c0 t0 (a) (l) (o) (sc) (cl) (ac) (fo_ap (fo_ap V0 A) B) (K ++ [(14, kk, [])]) t := h
  refine h_pop h (by omega) (fun t1 h1 hlet => rt_14 h1.L (x_Mo_readTask_513 h1.L ?_))
  exact m_twoP hx h1 hA hB hn (kk_ne hk) (fun u hu => ⟨rfl, hu.L, m_pushP (q := (13, 0, [])) hu (by (try simp only [List.length_append, List.length_cons, List.length_nil]); omega) (fun z => absurd (show (13 : Nat) = 2 from z) (by decide)) (fun _ _ p1 => ⟨rfl, p1.L, x_Mo_readTask_750 p1.L ⟨rfl, p1.L, k _ p1⟩⟩)⟩)

theorem r_prod_e (hl : K.length < 19000) (hx : x < 72) (hA : fo_l A = 1) (hB : fo_l B = 1) (hn : fo_n V0 + fo_n A + fo_n B < 3090) {kk : Nat} (hk : 3 ≤ kk ∧ kk ≤ 9) : RcT cx d ad T n x Pm c0 (a, l, o, sc, cl, ac, fo_ap (fo_ap V0 A) B, K ++ [(17, kk, [])]) (a, l, o, sc, cl, ac, fo_ap V0 (.inner 0 (nI kk) 0 (fo_ap A B) .leaf), K ++ [(16, 0, [])]) := by
  intro t0 post t h k
  have h : MP ad T n x Pm c0 t0 (a) (l) (o) (sc) (cl) (ac) (fo_ap (fo_ap V0 A) B) (K ++ [(17, kk, [])]) t := h
  refine h_pop h (by omega) (fun t1 h1 hlet => rt_17 h1.L (x_Mo_readTask_626 h1.L ?_))
  exact m_twoP hx h1 hA hB hn (kk_ne hk) (fun u hu => ⟨rfl, hu.L, m_pushP (q := (16, 0, [])) hu (by (try simp only [List.length_append, List.length_cons, List.length_nil]); omega) (fun z => absurd (show (16 : Nat) = 2 from z) (by decide)) (fun _ _ p1 => ⟨rfl, p1.L, x_Mo_readTask_750 p1.L ⟨rfl, p1.L, k _ p1⟩⟩)⟩)

theorem r_let_e (hl : K.length < 19000) (hx : x < 72) (hA : fo_l A = 1) (hB : fo_l B = 1) (hn : fo_n V0 + fo_n A + fo_n B < 3090) {v : Nat} {q : List Nat × Nat} (ho : o < 31) (hs : sc.length < 50) : RcT cx d ad T n x Pm c0 (a, l, o + 1, sc ++ [q], cl, ac, fo_ap (fo_ap V0 A) B, K ++ [(3, v, [])]) (a, l, o, sc, cl, ac, fo_ap V0 (.inner 0 14 (nI v) (fo_ap A B) .leaf), K) := by
  intro t0 post t h k
  have h : MP ad T n x Pm c0 t0 (a) (l) (o + 1) (sc ++ [q]) (cl) (ac) (fo_ap (fo_ap V0 A) B) (K ++ [(3, v, [])]) t := h
  refine h_pop h (by omega) (fun t1 h1 hlet => rt_3 h1.L (x_Mo_readTask_167 h1.L ?_))
  intro t1' e1 t2 e2
  have e28 : t1.2.1 (ad 144) 28 = nI (sc.length + 1) := by rw [h1.2.2.2.2.1.2.2.2.2.1.1, List.length_append]; rfl
  rw [e28, nI_pred] at e1
  have g1 := h1.sc0 e1
  have e24 : t1'.2.1 (ad 144) 24 = nI (o + 1) := g1.2.2.2.2.1.2.2.2.1
  rw [e24, nI_pred] at e2
  have g2 := g1.op e2
  refine g_Em (m_twoG (D := d + 7) (D1 := d + 7) (D2 := d + 7) (D3 := d + 7) (k := 14) (v := nI v) (c := nI v) (cont := fun u y => g_W cx (g_E cx (d + 8)) mt_Mo_readTask (fun r u => r = none ∧ Lay u ad ∧ HdM cx d ad post u) (750, [some (.ref (ad 144)), some (.int 3), some (.int (nI v)), some (.int 0), some (.int y), none], [], u, 0, 0)) hx g2 hA hB hn (by decide) (fun _ => rfl) (fun u y hu => x_Mo_readTask_750 hu.L ⟨rfl, hu.L, k _ hu⟩)) (fun r u hh => ?_)
  obtain ⟨y, e, hL, hx1, hh⟩ := hh
  rw [← hx1] at hh
  refine ⟨y, e, hL, g_Em hh (fun r u2 hh2 => ?_)⟩
  obtain ⟨y1, e1, hL1, _, hh2⟩ := hh2
  exact ⟨y1, e1, hL1, hh2⟩

theorem r_if_e (hl : K.length < 19000) (hx : x < 72) (hA : fo_l A = 1) (hB : fo_l B = 1) (hC : fo_l C = 1) (hn : fo_n V0 + fo_n A + fo_n B + fo_n C < 3090) (ho : o < 31) : RcT cx d ad T n x Pm c0 (a, l, o + 1, sc, cl, ac, fo_ap (fo_ap (fo_ap V0 A) B) C, K ++ [(6, 0, [])]) (a, l, o, sc, cl, ac, fo_ap V0 (.inner 0 13 0 (fo_ap A (fo_ap B C)) .leaf), K) := by
  intro t0 post t h k
  have h : MP ad T n x Pm c0 t0 (a) (l) (o + 1) (sc) (cl) (ac) (fo_ap (fo_ap (fo_ap V0 A) B) C) (K ++ [(6, 0, [])]) t := h
  refine h_pop h (by omega) (fun t1 h1 hlet => rt_6 h1.L (x_Mo_readTask_270 h1.L ?_))
  intro t2 e2
  have e24 : t1.2.1 (ad 144) 24 = nI (o + 1) := h1.2.2.2.2.1.2.2.2.1
  rw [e24, nI_pred] at e2
  have g2 := h1.op e2
  refine g_Em (m_threeG (D := d + 7) (D1 := d + 7) (D2 := d + 7) (D3 := d + 7) (D4 := d + 7) (cont := fun u y y1 => g_W cx (g_E cx (d + 8)) mt_Mo_readTask (fun r u => r = none ∧ Lay u ad ∧ HdM cx d ad post u) (750, [some (.ref (ad 144)), some (.int 6), some (.int 0), some (.int 0), some (.int y), some (.int y1)], [], u, 0, 0)) hx g2 hA hB hC hn (fun u y y1 hu => x_Mo_readTask_750 hu.L ⟨rfl, hu.L, k _ hu⟩)) (fun r u hh => ?_)
  obtain ⟨y, e, hL, hh⟩ := hh
  refine ⟨y, e, hL, g_Em hh (fun r u2 hh2 => ?_)⟩
  obtain ⟨y1, e1, hL1, hx1, hh2⟩ := hh2
  rw [← hx1] at hh2
  exact ⟨y1, e1, hL1, hh2⟩

theorem r_neg_e (hl : K.length < 19000) (hx : x < 72) (hA : fo_l A = 1) (hn : fo_n V0 + fo_n A < 3090) (ho : o < 31) : RcT cx d ad T n x Pm c0 (a, l, o + 1, sc, cl, ac, fo_ap V0 A, K ++ [(19, 0, [])]) (a, l, o, sc, cl, ac, fo_ap V0 (.inner 0 10 0 A .leaf), K) := by
  intro t0 post t h k
  have h : MP ad T n x Pm c0 t0 (a) (l) (o + 1) (sc) (cl) (ac) (fo_ap V0 A) (K ++ [(19, 0, [])]) t := h
  refine h_pop h (by omega) (fun t1 h1 hlet => rt_19 h1.L (x_Mo_readTask_649 h1.L ?_))
  intro t2 e2
  have e24 : t1.2.1 (ad 144) 24 = nI (o + 1) := h1.2.2.2.2.1.2.2.2.1
  rw [e24, nI_pred] at e2
  have g2 := h1.op e2
  exact m_oneP (D := d + 7) (D2 := d + 7) (D3 := d + 7) hx g2 hA hn (by decide) g2.2.2.2.2.1.1 (fun u hu => x_Mo_readTask_750 hu.L ⟨rfl, hu.L, k _ hu⟩)

theorem r_put_e (ha : a ≤ n) (hl : K.length < 19000) (hx : x < 72) (hA : fo_l A = 1) (hn : fo_n V0 + fo_n A < 3090) (ho : o < 31) (hk : tkK T n a = 11) : RcT cx d ad T n x Pm c0 (a, l, o + 1, sc, cl, ac, fo_ap V0 A, K ++ [(20, 0, [])]) (tkE T n a, l, o, sc, cl, ac, fo_ap V0 (.inner 0 11 0 A .leaf), K) := by
  intro t0 post t h k
  have h : MP ad T n x Pm c0 t0 (a) (l) (o + 1) (sc) (cl) (ac) (fo_ap V0 A) (K ++ [(20, 0, [])]) t := h
  refine h_pop h (by omega) (fun t1 h1 hlet => rt_20 h1.L (x_Mo_readTask_682 h1.L ?_))
  refine m_mustP (kk := 11) (by decide) h1 ha (fun _ u _ hu => ⟨_, rfl, hu.L, fun t2 e2 => ?_⟩) (fun z => absurd hk z)
  have e24 : u.2.1 (ad 144) 24 = nI (o + 1) := hu.2.2.2.2.1.2.2.2.1
  rw [e24, nI_pred] at e2
  have g2 := hu.op e2
  exact m_oneP (D := d + 7) (D2 := d + 7) (D3 := d + 7) hx g2 hA hn (by decide) g2.2.2.2.2.1.1 (fun u hu => x_Mo_readTask_750 hu.L ⟨rfl, hu.L, k _ hu⟩)

/-- a fault, and a node behind it -/
theorem m_oneD {cx : gCx} {x Pm c0 : Nat} {t0 t u : gSt} {c p : Nat} {k b cc : Int32} {D D2 D3 : Nat} {cont : gSt → Prop} (hx : x < 72) (h : MP ad T n x Pm c0 t0 a l o sc cl ac (fo_ap V0 A) K t) (hF : gFr ad (fun c k => tmP c k || (Nat.beq c 144 && Nat.beq k 24)) t u) (hD : DD ad x t0 c p u) (hA : fo_l A = 1) (hn : fo_n V0 + fo_n A < 3090) (hk : k ≠ 1 ∧ k ≠ 2 ∧ k ≠ 15 ∧ k ≠ 14) {f : Int32} (hf : f = nI x) (k1 : ∀ u, DD ad x t0 c p u → cont u) :
    g_E cx (D + 1) i_Mo_got [.ref (ad 144)] u (fun r u => ∃ y : Int32, r = some (.int y) ∧ Lay u ad ∧ g_E cx (D2 + 1) i_Mo_node [.ref (ad 144), .int f, .int k, .int y, .int b, .int cc] u (fun r w => ∃ y2 : Int32, r = some (.int y2) ∧ Lay w ad ∧ g_E cx (D3 + 1) i_Mo_give [.ref (ad 144), .int y2] w (fun r v => r = none ∧ Lay v ad ∧ cont v))) := by
  have hF0 : ∀ c k, ¬ (c = 144 ∧ ((3 ≤ k ∧ k ≤ 10) ∨ k = 24)) → (tmP c k || (Nat.beq c 144 && Nat.beq k 24)) = false := fun c k z => Bool.eq_false_iff.mpr (fun q => z (by
    rw [Bool.or_eq_true, tmP_i, Bool.and_eq_true, Nat.beq_eq, Nat.beq_eq] at q
    omega))
  obtain ⟨eA, nA⟩ := fo_rr1 hA (0 + fo_n V0)
  have hL0 := fo_ln V0
  have hV := MV_iff.mp (h.2.2.2.2.2.1.fr hF (fun c k z => hF0 _ _ (by omega)))
  have hs := hV.1
  rw [fo_r_ap, eA] at hs
  have dd : ∀ {v w}, DD ad x t0 c p v → gFr ad (mvvP x) v w → vB ad w → DD ad x t0 c p w := fun {v w} hd F hv => ⟨hd.1.tr (F.mo (fun c k z => mr_mn z)), ⟨hd.2.1.1, hv⟩, by rw [F.i 144 3 (bool_r mvvP_i (by omega))]; exact hd.2.2.1, by rw [F.i 144 4 (bool_r mvvP_i (by omega))]; exact hd.2.2.2⟩
  refine m_got hF.L hs (by rw [fo_rl]; omega) (fun u1 F1 s1 => ⟨_, rfl, F1.L, ?_⟩)
  have n1 := hV.2.fr F1 (fun c k z => bool_r msP_i (by omega))
  subst hf
  refine m_ng (V0 := V0) (W := A) (v := 0) F1.L hx (by omega) (by rw [fo_n_ap]; omega) n1 s1 hk.2.2.1 (fun z => by rcases z with z | z; exact absurd z hk.1; exact absurd z hk.2.1) (fun _ => ⟨fun r hr => ?_, fun r hr => ?_, fun r hr => ?_, fun z => absurd z hk.2.2.2⟩) (fun w Fw hw => k1 w (dd hD ((F1.mo (fun c k z => mz_ms z)).tr Fw) ⟨_, hw.1, by have z := h.fl (by rw [fo_n_ap]; omega); rw [fo_l_ap] at z; rw [fl_ap1]; omega⟩))
  · rw [(fo_rr1 hA (fo_n V0)).1] at hr
    have : fo_n V0 + fo_n A - 1 = r := by simpa using hr
    rw [← this, Nat.zero_add]
  · rw [(fo_rr1 hA (fo_n V0)).1] at hr; simp at hr
  · rw [(fo_rr1 hA (fo_n V0)).1] at hr; simp at hr
theorem DD.op {t0 t u : gSt} {c p : Nat} {y : Int32} (h : DD ad x t0 c p t) (e : u = g_si t (ad 144) 24 y) : DD ad x t0 c p u := by
  refine ⟨?_, ⟨h.2.1.1, ?_⟩, ?_, ?_⟩
  · rw [e]; exact h.1.si (mxP_i.mpr (by omega))
  · obtain ⟨q, q1, q2⟩ := h.2.1.2
    exact ⟨q, by rw [e, g_rd_k (by decide)]; exact q1, q2⟩
  · rw [e, g_rd_k (by decide)]; exact h.2.2.1
  · rw [e, g_rd_k (by decide)]; exact h.2.2.2

theorem r_put_f (ha : a ≤ n) (hl : K.length < 19000) (hx : x < 72) (hA : fo_l A = 1) (hn : fo_n V0 + fo_n A < 3090) (ho : o < 31) (hk : tkK T n a ≠ 11) : RfT cx d ad T n x Pm c0 (a, l, o + 1, sc, cl, ac, fo_ap V0 A, K ++ [(20, 0, [])]) (fcd T n a) (tkS T n a) := by
  intro t0 post t h k
  have h : MP ad T n x Pm c0 t0 (a) (l) (o + 1) (sc) (cl) (ac) (fo_ap V0 A) (K ++ [(20, 0, [])]) t := h
  refine h_pop h (by omega) (fun t1 h1 hlet => rt_20 h1.L (x_Mo_readTask_682 h1.L ?_))
  refine m_mustP (kk := 11) (by decide) h1 ha (fun z => absurd z hk) (fun _ u Fu hu => ⟨_, rfl, hu.1.L, fun t2 e2 => ?_⟩)
  have F2 : gFr ad (fun c k => tmP c k || (Nat.beq c 144 && Nat.beq k 24)) t1 t2 := by
    rw [e2]
    exact (Fu.mo (fun c k z => by rw [z]; rfl)).si rfl
  have e23 : t2.2.1 (ad 144) 23 = nI x := by rw [F2.i 144 23 rfl]; exact h1.2.2.2.2.1.1
  exact m_oneD (D := d + 7) (D2 := d + 7) (D3 := d + 7) hx h1 F2 (hu.op e2) hA hn (by decide) e23 (fun u hu => x_Mo_readTask_750 hu.1.L ⟨rfl, hu.1.L, k _ hu⟩)

theorem r_par_e (ha : a ≤ n) (hl : K.length < 19000) (ho : o < 31) (hk : tkK T n a = 11) : RcT cx d ad T n x Pm c0 (a, l, o + 1, sc, cl, ac, V, K ++ [(21, 0, [])]) (tkE T n a, l, o, sc, cl, ac, V, K) := by
  intro t0 post t h k
  have h : MP ad T n x Pm c0 t0 (a) (l) (o + 1) (sc) (cl) (ac) (V) (K ++ [(21, 0, [])]) t := h
  refine h_pop h (by omega) (fun t1 h1 hlet => rt_21 h1.L (x_Mo_readTask_723 h1.L ?_))
  refine m_mustP (kk := 11) (by decide) h1 ha (fun _ u _ hu => ⟨_, rfl, hu.L, fun t2 e2 => ?_⟩) (fun z => absurd hk z)
  have e24 : u.2.1 (ad 144) 24 = nI (o + 1) := hu.2.2.2.2.1.2.2.2.1
  rw [e24, nI_pred] at e2
  have g2 := hu.op e2
  exact x_Mo_readTask_750 g2.L ⟨rfl, g2.L, k _ g2⟩

theorem r_par_f (ha : a ≤ n) (hl : K.length < 19000) (hk : tkK T n a ≠ 11) : RfT cx d ad T n x Pm c0 (a, l, o, sc, cl, ac, V, K ++ [(21, 0, [])]) (fcd T n a) (tkS T n a) := by
  intro t0 post t h k
  have h : MP ad T n x Pm c0 t0 (a) (l) (o) (sc) (cl) (ac) (V) (K ++ [(21, 0, [])]) t := h
  refine h_pop h (by omega) (fun t1 h1 hlet => rt_21 h1.L (x_Mo_readTask_723 h1.L ?_))
  refine m_mustP (kk := 11) (by decide) h1 ha (fun z => absurd z hk) (fun _ u Fu hu => ⟨_, rfl, hu.1.L, fun t2 e2 => ?_⟩)
  have g2 := hu.op e2
  exact x_Mo_readTask_750 g2.1.L ⟨rfl, g2.1.L, k _ g2⟩

theorem r_neg (ha : a ≤ n) (hl : K.length < 19000) (ho : o ≤ 30) (hk : tkK T n a = 16) (h30 : o < 30) : RcT cx d ad T n x Pm c0 (a, l, o, sc, cl, ac, V, K ++ [(18, 0, [])]) (tkE T n a, l, o + 1, sc, cl, ac, V, K ++ [(19, 0, [])] ++ [(18, 0, [])]) := by
  intro t0 post t h k
  have h : MP ad T n x Pm c0 t0 (a) (l) (o) (sc) (cl) (ac) (V) (K ++ [(18, 0, [])]) t := h
  refine h_pop h (by omega) (fun t1 h1 hlet => rt_18 h1.L (x_Mo_readTask_642 h1.L ?_))
  refine x_Mo_unary h1.L (m_lookP h1 ha (fun q23 u hu => ⟨_, rfl, hu.1.L, fun z => absurd (kyes hk) z, fun _ => ?_⟩) (fun z => by omega))
  refine m_opensP hu ho (fun _ w hw => ⟨_, rfl, hw.L, fun z => absurd z (by decide), fun _ => ?_⟩) (fun z => by omega)
  exact m_pushP (q := (19, 0, [])) hw (by (try simp only [List.length_append, List.length_cons, List.length_nil]); omega) (fun z => absurd (show (19 : Nat) = 2 from z) (by decide)) (fun _ _ p1 => ⟨rfl, p1.L, m_pushP (q := (18, 0, [])) p1 (by (try simp only [List.length_append, List.length_cons, List.length_nil]); omega) (fun z => absurd (show (18 : Nat) = 2 from z) (by decide)) (fun _ _ p2 => ⟨rfl, p2.L, rfl, p2.L, x_Mo_readTask_750 p2.L ⟨rfl, p2.L, k _ p2⟩⟩)⟩)

theorem r_neg_f (ha : a ≤ n) (hl : K.length < 19000) (hk : tkK T n a = 16) (h30 : o = 30) : RfT cx d ad T n x Pm c0 (a, l, o, sc, cl, ac, V, K ++ [(18, 0, [])]) (5) (tkS T n a) := by
  intro t0 post t h k
  have h : MP ad T n x Pm c0 t0 (a) (l) (o) (sc) (cl) (ac) (V) (K ++ [(18, 0, [])]) t := h
  refine h_pop h (by omega) (fun t1 h1 hlet => rt_18 h1.L (x_Mo_readTask_642 h1.L ?_))
  refine x_Mo_unary h1.L (m_lookP h1 ha (fun q23 u hu => ⟨_, rfl, hu.1.L, fun z => absurd (kyes hk) z, fun _ => ?_⟩) (fun z => by omega))
  exact m_opensP hu (by omega) (fun z => by omega) (fun _ w hw => ⟨_, rfl, hw.1.L, fun _ => ⟨rfl, hw.1.L, x_Mo_readTask_750 hw.1.L ⟨rfl, hw.1.L, k _ hw⟩⟩, fun z => absurd rfl z⟩)

theorem r_num (ha : a ≤ n) (hl : K.length < 19000) (hx : x < 72) (hn : fo_n V < 3090) (hvl : fo_l V < 2000) (hk : tkK T n a = 1) : RcT cx d ad T n x Pm c0 (a, l, o, sc, cl, ac, V, K ++ [(18, 0, [])]) (tkE T n a, l, o, sc, cl, ac, fo_ap V (.inner 0 1 (nI (tkW T n a)) .leaf .leaf), K) := by
  intro t0 post t h k
  have h : MP ad T n x Pm c0 t0 (a) (l) (o) (sc) (cl) (ac) (V) (K ++ [(18, 0, [])]) t := h
  refine h_pop h (by omega) (fun t1 h1 hlet => rt_18 h1.L (x_Mo_readTask_642 h1.L ?_))
  refine x_Mo_unary h1.L (m_lookP h1 ha (fun q23 u hu => ⟨_, rfl, hu.1.L, fun _ => ⟨fun z => absurd (kyes hk) z, fun _ => ?_⟩, fun z => absurd (kne (j := 16) (by decide) (by omega)) z⟩) (fun z => by omega))
  have hL0 := fo_ln V
  have hV := MV_iff.mp hu.1.2.2.2.2.2.1
  rw [hu.1.2.2.2.2.1.1, hu.2.2.2.2.2.2.2.1 hk, lN_i]
  refine m_ng (V0 := V) (W := .leaf) (v := nI (tkW T n a)) hu.1.L hx (by omega) (by rw [fo_ap_leaf]; omega) (by rw [fo_ap_leaf]; exact hV.2) hV.1 (by decide) (fun _ => rfl) (fun z => absurd (Or.inl rfl) z) (fun w Fw hw => ?_)
  exact m_takeP (hu.mn Fw hw (by rw [fl_ap1]; omega)) (fun y _ hy => ⟨rfl, hy.L, rfl, hy.L, x_Mo_readTask_750 hy.L ⟨rfl, hy.L, k _ hy⟩⟩)

theorem r_other (ha : a ≤ n) (hl : K.length < 19000) (h1 : tkK T n a ≠ 1) (h2 : tkK T n a ≠ 2) (h9 : tkK T n a ≠ 9) (h10 : tkK T n a ≠ 10) (h16 : tkK T n a ≠ 16) : RfT cx d ad T n x Pm c0 (a, l, o, sc, cl, ac, V, K ++ [(18, 0, [])]) (fcd T n a) (tkS T n a) := by
  intro t0 post t h k
  have h : MP ad T n x Pm c0 t0 (a) (l) (o) (sc) (cl) (ac) (V) (K ++ [(18, 0, [])]) t := h
  refine h_pop h (by omega) (fun t1 g1 hlet => rt_18 g1.L (x_Mo_readTask_642 g1.L ?_))
  refine x_Mo_unary g1.L (m_lookP g1 ha (fun q23 u hu => ⟨_, rfl, hu.1.L, fun _ => ⟨fun _ => ⟨fun _ => ⟨fun _ => ⟨fun _ => ?_, fun z => absurd (kne (j := 2) (by decide) h2) z⟩, fun z => absurd (kne (j := 10) (by decide) h10) z⟩, fun z => absurd (kne (j := 9) (by decide) h9) z⟩, fun z => absurd (kne (j := 1) (by decide) h1) z⟩, fun z => absurd (kne (j := 16) (by decide) h16) z⟩) (fun q23 u F hu => ⟨_, rfl, hu.1.L, fun _ => ⟨fun _ => ⟨fun _ => ⟨fun _ => ⟨fun _ => ?_, fun z => absurd (show ¬ (-1 : Int32) = 2 by decide) z⟩, fun z => absurd (show ¬ (-1 : Int32) = 10 by decide) z⟩, fun z => absurd (show ¬ (-1 : Int32) = 9 by decide) z⟩, fun z => absurd (show ¬ (-1 : Int32) = 1 by decide) z⟩, fun z => absurd (show ¬ (-1 : Int32) = 16 by decide) z⟩))
  · rw [show fcd T n a = 2 from if_neg q23] at k
    exact m_failP (c := 2) (by decide) hu (fun y _ hy => ⟨rfl, hy.1.L, rfl, hy.1.L, x_Mo_readTask_750 hy.1.L ⟨rfl, hy.1.L, k _ hy⟩⟩)
  · rw [show fcd T n a = 1 from if_pos q23] at k
    exact m_failD2 hu.1.L hu.2.ne.1 ⟨rfl, hu.1.L, rfl, hu.1.L, x_Mo_readTask_750 hu.1.L ⟨rfl, hu.1.L, k _ hu⟩⟩

theorem r_put_n (ha : a ≤ n) (hl : K.length < 19000) (hT : txt T n) (hk : tkK T n a = 9) (hk2 : tkK T n (tkE T n a) ≠ 10) : RfT cx d ad T n x Pm c0 (a, l, o, sc, cl, ac, V, K ++ [(18, 0, [])]) (fcd T n (tkE T n a)) (tkS T n (tkE T n a)) := by
  intro t0 post t h k
  have h : MP ad T n x Pm c0 t0 (a) (l) (o) (sc) (cl) (ac) (V) (K ++ [(18, 0, [])]) t := h
  refine h_pop h (by omega) (fun t1 h1 hlet => rt_18 h1.L (x_Mo_readTask_642 h1.L ?_))
  refine x_Mo_unary h1.L (m_lookP h1 ha (fun q23 u hu => ⟨_, rfl, hu.1.L, fun _ => ⟨fun _ => ⟨fun z => absurd (kyes hk) z, fun _ => ?_⟩, fun z => absurd (kne (j := 1) (by decide) (by omega)) z⟩, fun z => absurd (kne (j := 16) (by decide) (by omega)) z⟩) (fun z => by omega))
  refine m_takeP hu (fun w _ hw => ⟨rfl, hw.L, ?_⟩)
  have hE := tkE_le hT ha
  refine m_lookP hw hE (fun q23 v hv => ⟨_, rfl, hv.1.L, fun z => absurd z (kne (j := 10) (by decide) hk2), fun _ => ?_⟩) (fun q23 v F hv => ⟨_, rfl, hv.1.L, fun z => absurd z (by decide), fun _ => ?_⟩)
  · rw [show fcd T n (tkE T n a) = 2 from if_neg q23] at k
    exact m_failP (c := 2) (by decide) hv (fun y _ hy => ⟨rfl, hy.1.L, rfl, hy.1.L, x_Mo_readTask_750 hy.1.L ⟨rfl, hy.1.L, k _ hy⟩⟩)
  · rw [show fcd T n (tkE T n a) = 1 from if_pos q23] at k
    exact m_failD2 hv.1.L hv.2.ne.1 ⟨rfl, hv.1.L, rfl, hv.1.L, x_Mo_readTask_750 hv.1.L ⟨rfl, hv.1.L, k _ hv⟩⟩

theorem r_put_30 (ha : a ≤ n) (hl : K.length < 19000) (hT : txt T n) (hk : tkK T n a = 9) (hk2 : tkK T n (tkE T n a) = 10) (h30 : o = 30) : RfT cx d ad T n x Pm c0 (a, l, o, sc, cl, ac, V, K ++ [(18, 0, [])]) (5) (tkS T n (tkE T n a)) := by
  intro t0 post t h k
  have h : MP ad T n x Pm c0 t0 (a) (l) (o) (sc) (cl) (ac) (V) (K ++ [(18, 0, [])]) t := h
  refine h_pop h (by omega) (fun t1 h1 hlet => rt_18 h1.L (x_Mo_readTask_642 h1.L ?_))
  refine x_Mo_unary h1.L (m_lookP h1 ha (fun q23 u hu => ⟨_, rfl, hu.1.L, fun _ => ⟨fun _ => ⟨fun z => absurd (kyes hk) z, fun _ => ?_⟩, fun z => absurd (kne (j := 1) (by decide) (by omega)) z⟩, fun z => absurd (kne (j := 16) (by decide) (by omega)) z⟩) (fun z => by omega))
  refine m_takeP hu (fun w _ hw => ⟨rfl, hw.L, ?_⟩)
  have hE := tkE_le hT ha
  refine m_lookP hw hE (fun q23 v hv => ⟨_, rfl, hv.1.L, fun _ => ?_, fun z => absurd (kyes hk2) z⟩) (fun z => by omega)
  exact m_opensP hv (by omega) (fun z => by omega) (fun _ w hw => ⟨_, rfl, hw.1.L, fun _ => ⟨rfl, hw.1.L, x_Mo_readTask_750 hw.1.L ⟨rfl, hw.1.L, k _ hw⟩⟩, fun z => absurd rfl z⟩)

theorem r_put (ha : a ≤ n) (hl : K.length < 19000) (ho : o ≤ 30) (hT : txt T n) (hk : tkK T n a = 9) (hk2 : tkK T n (tkE T n a) = 10) (h30 : o < 30) : RcT cx d ad T n x Pm c0 (a, l, o, sc, cl, ac, V, K ++ [(18, 0, [])]) (tkE T n (tkE T n a), l, o + 1, sc, cl, ac, V, K ++ [(20, 0, [])] ++ [(1, 0, [])]) := by
  intro t0 post t h k
  have h : MP ad T n x Pm c0 t0 (a) (l) (o) (sc) (cl) (ac) (V) (K ++ [(18, 0, [])]) t := h
  refine h_pop h (by omega) (fun t1 h1 hlet => rt_18 h1.L (x_Mo_readTask_642 h1.L ?_))
  refine x_Mo_unary h1.L (m_lookP h1 ha (fun q23 u hu => ⟨_, rfl, hu.1.L, fun _ => ⟨fun _ => ⟨fun z => absurd (kyes hk) z, fun _ => ?_⟩, fun z => absurd (kne (j := 1) (by decide) (by omega)) z⟩, fun z => absurd (kne (j := 16) (by decide) (by omega)) z⟩) (fun z => by omega))
  refine m_takeP hu (fun w _ hw => ⟨rfl, hw.L, ?_⟩)
  have hE := tkE_le hT ha
  refine m_lookP hw hE (fun q23 v hv => ⟨_, rfl, hv.1.L, fun _ => ?_, fun z => absurd (kyes hk2) z⟩) (fun z => by omega)
  refine m_opensP hv ho (fun _ w hw => ⟨_, rfl, hw.L, fun z => absurd z (by decide), fun _ => ?_⟩) (fun z => by omega)
  exact m_pushP (q := (20, 0, [])) hw (by (try simp only [List.length_append, List.length_cons, List.length_nil]); omega) (fun z => absurd (show (20 : Nat) = 2 from z) (by decide)) (fun _ _ p1 => ⟨rfl, p1.L, m_pushP (q := (1, 0, [])) p1 (by (try simp only [List.length_append, List.length_cons, List.length_nil]); omega) (fun z => absurd (show (1 : Nat) = 2 from z) (by decide)) (fun _ _ p2 => ⟨rfl, p2.L, rfl, p2.L, x_Mo_readTask_750 p2.L ⟨rfl, p2.L, k _ p2⟩⟩)⟩)

theorem r_par_30 (ha : a ≤ n) (hl : K.length < 19000) (hk : tkK T n a = 10) (h30 : o = 30) : RfT cx d ad T n x Pm c0 (a, l, o, sc, cl, ac, V, K ++ [(18, 0, [])]) (5) (tkS T n a) := by
  intro t0 post t h k
  have h : MP ad T n x Pm c0 t0 (a) (l) (o) (sc) (cl) (ac) (V) (K ++ [(18, 0, [])]) t := h
  refine h_pop h (by omega) (fun t1 h1 hlet => rt_18 h1.L (x_Mo_readTask_642 h1.L ?_))
  refine x_Mo_unary h1.L (m_lookP h1 ha (fun q23 u hu => ⟨_, rfl, hu.1.L, fun _ => ⟨fun _ => ⟨fun _ => ⟨fun z => absurd (kyes hk) z, fun _ => ?_⟩, fun z => absurd (kne (j := 9) (by decide) (by omega)) z⟩, fun z => absurd (kne (j := 1) (by decide) (by omega)) z⟩, fun z => absurd (kne (j := 16) (by decide) (by omega)) z⟩) (fun z => by omega))
  exact m_opensP hu (by omega) (fun z => by omega) (fun _ w hw => ⟨_, rfl, hw.1.L, fun _ => ⟨rfl, hw.1.L, x_Mo_readTask_750 hw.1.L ⟨rfl, hw.1.L, k _ hw⟩⟩, fun z => absurd rfl z⟩)

theorem r_par (ha : a ≤ n) (hl : K.length < 19000) (ho : o ≤ 30) (hk : tkK T n a = 10) (h30 : o < 30) : RcT cx d ad T n x Pm c0 (a, l, o, sc, cl, ac, V, K ++ [(18, 0, [])]) (tkE T n a, l, o + 1, sc, cl, ac, V, K ++ [(21, 0, [])] ++ [(1, 0, [])]) := by
  intro t0 post t h k
  have h : MP ad T n x Pm c0 t0 (a) (l) (o) (sc) (cl) (ac) (V) (K ++ [(18, 0, [])]) t := h
  refine h_pop h (by omega) (fun t1 h1 hlet => rt_18 h1.L (x_Mo_readTask_642 h1.L ?_))
  refine x_Mo_unary h1.L (m_lookP h1 ha (fun q23 u hu => ⟨_, rfl, hu.1.L, fun _ => ⟨fun _ => ⟨fun _ => ⟨fun z => absurd (kyes hk) z, fun _ => ?_⟩, fun z => absurd (kne (j := 9) (by decide) (by omega)) z⟩, fun z => absurd (kne (j := 1) (by decide) (by omega)) z⟩, fun z => absurd (kne (j := 16) (by decide) (by omega)) z⟩) (fun z => by omega))
  refine m_opensP hu ho (fun _ w hw => ⟨_, rfl, hw.L, fun z => absurd z (by decide), fun _ => ?_⟩) (fun z => by omega)
  exact m_pushP (q := (21, 0, [])) hw (by (try simp only [List.length_append, List.length_cons, List.length_nil]); omega) (fun z => absurd (show (21 : Nat) = 2 from z) (by decide)) (fun _ _ p1 => ⟨rfl, p1.L, m_pushP (q := (1, 0, [])) p1 (by (try simp only [List.length_append, List.length_cons, List.length_nil]); omega) (fun z => absurd (show (1 : Nat) = 2 from z) (by decide)) (fun _ _ p2 => ⟨rfl, p2.L, rfl, p2.L, x_Mo_readTask_750 p2.L ⟨rfl, p2.L, k _ p2⟩⟩)⟩)
end TU
