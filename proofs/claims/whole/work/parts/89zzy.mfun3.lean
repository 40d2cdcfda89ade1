/-! THE MODEL READS FUNCTIONS: the expression and the end -/
section MI
variable {cx : gCx} {d : Nat} {ad : Nat → Nat} {T : Nat → Nat} {n a : Nat} {t0 t u : gSt} {FS : List FD} {cl : CL} {ac : Nat → Nat} {nm : List Nat} {ps : SC} {post : Option Value → gSt → Prop}
theorem mf_mx {x c k : Nat} (hx : 48 ≤ x) (h : mxP x c k = true) : mfuP c k = true := by
  rw [mxP_i] at h
  rw [mfuP_i]
  have : 62400 ≤ 1300 * x := by omega
  omega
theorem e_go {o3 : Option Value} (hT : txt T n) (h : MHR ad T n t0 a FS cl ac nm ps t) (ha : a ≤ n) (hs : ∀ q ∈ FS, fdS q) (hl : FS.length < 24) (hP : ps.length ≤ 6) (hpc : ∀ q ∈ FS, ∀ c ∈ pcl q.2.2.2, c < cl.length)
    (kC : tkK T n a ≠ 11 → ∀ u, DF ad t0 (fcd T n a) (tkS T n a) u → HdR cx d ad post u)
    (kI : tkK T n a = 11 → tkK T n (tkE T n a) ≠ 14 → ∀ u, DF ad t0 (fcd T n (tkE T n a)) (tkS T n (tkE T n a)) u → HdR cx d ad post u)
    (kX : tkK T n a = 11 → tkK T n (tkE T n a) = 14 →
      (∃ c q, RfT cx d ad T n (48 + FS.length) ps.length cl.length (tkE T n (tkE T n a), 0, 0, ps, cl, ac, .leaf, [(1, 0, [])]) c q ∧ ∀ u, DF ad t0 c q u → HdR cx d ad post u) ∨
      (∃ a' l' cl' ac' F, RcT cx d ad T n (48 + FS.length) ps.length cl.length (tkE T n (tkE T n a), 0, 0, ps, cl, ac, .leaf, [(1, 0, [])]) (a', l', 0, ps, cl', ac', F, []) ∧ a' ≤ n ∧ l' ≤ 40 ∧ fo_n F < 2 ^ 20 ∧ (tkK T n a' ≠ 22 → ∀ u, DF ad t0 (fcd T n a') (tkS T n a') u → HdR cx d ad post u) ∧ (tkK T n a' = 22 → 400 < fo_n F → ∀ u, DF ad t0 5 (tkS T n a') u → HdR cx d ad post u) ∧ (tkK T n a' = 22 → fo_n F ≤ 400 → ∀ u, MFR ad T n t0 (tkE T n a') (FS ++ [(nm, ps.length, ps.length + l', F)]) cl' ac' u → HdR cx d ad post u))) : WF cx d ad post 252 [some (.int (nI ps.length)), some (.int 0), o3] [] t := by
  have hE1 := tkE_le hT ha
  have hE2 := tkE_le hT hE1
  refine x_Mo_readFunction_252 h.1.L (m_must0 (kk := 11) (by decide) h.1.L h.1.X ha h.1.2.2.1 (fun k11 u1 F1 c1 => ⟨_, rfl, F1.L, fun z => absurd z (by decide), fun _ => ?_⟩) (fun k11 u1 F1 H1 => ⟨_, rfl, F1.L, fun _ => x_Mo_readFunction_270 F1.L ⟨rfl, F1.L, kC k11 u1 (DF.of h.1.1 F1 H1)⟩, fun z => absurd rfl z⟩))
  have h1 := h.tm hs F1 c1
  refine m_must0 (kk := 14) (by decide) F1.L h1.1.X hE1 c1 (fun k14 u3 F3 c3 => ⟨_, rfl, F3.L, fun _ t5 e5 => ?_, fun z => absurd (show ¬ (1 : Int32) = 0 by decide) z⟩) (fun k14 u3 F3 H3 => ⟨_, rfl, F3.L, fun z => absurd rfl z, fun _ => x_Mo_readFunction_270 F3.L ⟨rfl, F3.L, kI k11 k14 u3 (DF.of h1.1.1 F3 H3)⟩⟩)
  have h3 := h1.tm hs F3 c3
  have hL := F3.L
  have ne : ∀ c c', c < 199 → c' < 199 → c ≠ c' → ad c ≠ ad c' := fun c c' h1 h2 h3 => hL.ne c c' h1 h2 h3
  have e23 : u3.2.1 (ad 144) 23 = nI FS.length := h3.1.2.2.2.1
  have r5 : t5.2.1 (ad 144) 23 = nI FS.length := by rw [e5, g_rd_k (by decide)]; exact e23
  rw [r5, nI_clamp (by omega)]
  refine ⟨vp_in_nI (by omega) (by omega), fun t6 e6 t7 e7 t8 e8 t9 e9 => ?_⟩
  have r9 : t9.2.1 (ad 144) 23 = nI FS.length := by rw [e9, g_rd_k (by decide), e8, g_rd_k (by decide), e7, g_rd_k (by decide), e6, g_rd_ne (ne 144 170 (by decide) (by decide) (by decide))]; exact r5
  rw [r9, show (48 : Int32) = nI 48 from rfl, nI_add, nI_clamp (by omega)]
  refine ⟨vp_in_nI (by omega) (by omega), fun t10 e10 => ?_⟩
  have r10 : t10.2.1 (ad 144) 23 = nI FS.length := by rw [e10, g_rd_ne (ne 144 148 (by decide) (by decide) (by decide))]; exact r9
  rw [r10, nI_add, nI_clamp (by omega)]
  refine ⟨vp_in_nI (by omega) (by omega), fun t11 e11 x12 e12 t13 e13 => ?_⟩
  have r11 : t11.2.1 (ad 144) 23 = nI FS.length := by rw [e11, g_rd_ne (ne 144 156 (by decide) (by decide) (by decide))]; exact r10
  rw [r11] at e12
  rw [e12, nI_add] at e13
  -- what stands in t13
  have F13 : gFr ad (fun c k => (Nat.beq c 144 && (Nat.beq k 23 || Nat.beq k 24 || Nat.beq k 25 || Nat.beq k 28 || Nat.beq k 45)) || (Nat.beq c 170 && Nat.beq k FS.length) || ((Nat.beq c 148 || Nat.beq c 156) && Nat.beq k (48 + FS.length))) u3 t13 := by
    rw [e13, e11, e10, e9, e8, e7, e6, e5]
    exact ((((((((gFr.rf hL).si rfl).si (by simp)).si rfl).si rfl).si rfl).si (by simp)).si (by simp)).si rfl
  have hF13 : ∀ c k, ¬ ((c = 144 ∧ (k = 23 ∨ k = 24 ∨ k = 25 ∨ k = 28 ∨ k = 45)) ∨ (c = 170 ∧ k = FS.length) ∨ ((c = 148 ∨ c = 156) ∧ k = 48 + FS.length)) → ((Nat.beq c 144 && (Nat.beq k 23 || Nat.beq k 24 || Nat.beq k 25 || Nat.beq k 28 || Nat.beq k 45)) || (Nat.beq c 170 && Nat.beq k FS.length) || ((Nat.beq c 148 || Nat.beq c 156) && Nat.beq k (48 + FS.length))) = false := fun c k z => Bool.eq_false_iff.mpr (fun q => z (by
    simp only [Bool.or_eq_true, Bool.and_eq_true, Nat.beq_eq] at q
    omega))
  have i13 : ∀ c k, c < 199 → ¬ (c = 144 ∧ k = 23) → t13.2.1 (ad c) k = t11.2.1 (ad c) k := fun c k hc hn => by
    rw [e13, g_rdi, if_neg]
    rintro ⟨z1, z2⟩
    exact hn ⟨hL.1 _ _ hc (by decide) z1, z2⟩
  have f148 : t13.2.1 (ad 148) (48 + FS.length) = 0 := by rw [i13 148 _ (by decide) (by omega), e11, g_rd_ne (ne 148 156 (by decide) (by decide) (by decide)), e10, g_rd_at]
  have f156 : t13.2.1 (ad 156) (48 + FS.length) = 0 := by rw [i13 156 _ (by decide) (by omega), e11, g_rd_at]
  have f9 : ∀ k, k ≠ 23 → t13.2.1 (ad 144) k = t9.2.1 (ad 144) k := fun k hk => by rw [i13 144 k (by decide) (by omega), e11, g_rd_ne (ne 144 156 (by decide) (by decide) (by decide)), e10, g_rd_ne (ne 144 148 (by decide) (by decide) (by decide))]
  have f45 : t13.2.1 (ad 144) 45 = nI ps.length := by rw [f9 45 (by decide), e9, g_rd_at]
  have f24 : t13.2.1 (ad 144) 24 = nI 0 := by rw [f9 24 (by decide), e9, g_rd_k (by decide), e8, g_rd_at]; rfl
  have f25 : t13.2.1 (ad 144) 25 = nI 0 := by rw [f9 25 (by decide), e9, g_rd_k (by decide), e8, g_rd_k (by decide), e7, g_rd_at]; rfl
  have f28 : t13.2.1 (ad 144) 28 = nI ps.length := by rw [f9 28 (by decide), e9, g_rd_k (by decide), e8, g_rd_k (by decide), e7, g_rd_k (by decide), e6, g_rd_ne (ne 144 170 (by decide) (by decide) (by decide)), e5, g_rd_at]
  have f23 : t13.2.1 (ad 144) 23 = nI (48 + FS.length) := by rw [e13, g_rd_at]
  have f170 : t13.2.1 (ad 170) FS.length = nI ps.length := by rw [i13 170 _ (by decide) (by omega), e11, g_rd_ne (ne 170 156 (by decide) (by decide) (by decide)), e10, g_rd_ne (ne 170 148 (by decide) (by decide) (by decide)), e9, g_rd_ne (ne 170 144 (by decide) (by decide) (by decide)), e8, g_rd_ne (ne 170 144 (by decide) (by decide) (by decide)), e7, g_rd_ne (ne 170 144 (by decide) (by decide) (by decide)), e6, g_rd_at]
  have G13 : gFr ad mfuP t0 t13 := h3.1.1.tr (F13.mo (fun c k z => by
    simp only [Bool.or_eq_true, Bool.and_eq_true, Nat.beq_eq] at z
    rw [mfuP_i]
    omega))
  have hX13 : txM ad T n t13 := h3.1.X.fr F13 (hF13 _ _ (by omega)) (fun k => hF13 _ _ (by omega))
  have cu13 : cuM ad T n (tkE T n (tkE T n a)) t13 := c3.fr F13 (fun k _ _ => hF13 _ _ (by omega))
  have cl13 : mCl ad cl ac t13 := h3.1.2.2.2.2.1.fr F13 (fun c k z => hF13 _ _ (by omega))
  have fn13 : ∀ f q, FS[f]? = some q → mFn ad (fun _ => 0) f q t13 := fun f q hq => by
    have := (List.getElem?_eq_some_iff.mp hq).1
    exact (h3.1.2.2.2.2.2 f q hq).fr (hs q (List.mem_of_getElem? hq)).1 F13 (fun c k z => hF13 _ _ (by omega)) (fun c _ => F13.i 166 c (hF13 _ _ (by omega)))
  have nm13 : t13.2.2.1 (ad 169) FS.length = pk6 nm := by rw [F13.j 169 _ (hF13 _ _ (by omega))]; exact h3.2.1
  have ps13 : ∀ i q, ps[i]? = some q → t13.2.2.1 (ad 157) i = pk6 q.1 ∧ t13.2.1 (ad 158) i = nI q.2 := fun i q hq => by
    rw [F13.j 157 i (hF13 _ _ (by omega)), F13.i 158 i (hF13 _ _ (by omega))]
    exact h3.2.2 i q hq
  -- the loop
  refine x_Mo_readExp F13.L (fun t1 e1 t2 e2 => ?_)
  have F2 : gFr ad (fun c k => Nat.beq c 144 && (Nat.beq k 29 || Nat.beq k 33)) t13 t2 := by rw [e2, e1]; exact ((gFr.rf F13.L).si rfl).si rfl
  have hF2 : ∀ c k, ¬ (c = 144 ∧ (k = 29 ∨ k = 33)) → (Nat.beq c 144 && (Nat.beq k 29 || Nat.beq k 33)) = false := fun c k z => Bool.eq_false_iff.mpr (fun q => z (by
    simp only [Bool.or_eq_true, Bool.and_eq_true, Nat.beq_eq] at q
    omega))
  have mp2 : MP ad T n (48 + FS.length) ps.length cl.length t13 (tkE T n (tkE T n a)) 0 0 ps cl ac .leaf [] t2 := by
    refine ⟨F2.mo (fun c k z => ?_), hX13, fun i hi => F2.i 166 i (hF2 _ _ (by omega)), cu13.vb F2 (fun k _ _ => hF2 _ _ (by omega)) ⟨0, by rw [e2, g_rd_at]; rfl, by decide⟩, ⟨?_, ?_, ?_, ?_, ⟨?_, fun i q hq => ?_⟩, (cl13.fr F2 (fun c k z => hF2 _ _ (by omega))).1, (cl13.fr F2 (fun c k z => hF2 _ _ (by omega))).2⟩, ⟨?_, fun i r hr => (by cases hr), ?_, ?_, fun _ => ⟨trivial, trivial⟩⟩, ⟨?_, fun i q hq => (by cases hq)⟩, fun q hq => (by cases hq)⟩
    · simp only [Bool.or_eq_true, Bool.and_eq_true, Nat.beq_eq] at z
      rw [mxP_i]
      omega
    · rw [F2.i 144 23 (hF2 _ _ (by omega))]; exact f23
    · rw [F2.i 144 45 (hF2 _ _ (by omega))]; exact f45
    · rw [F2.i 144 25 (hF2 _ _ (by omega))]; exact f25
    · rw [F2.i 144 24 (hF2 _ _ (by omega))]; exact f24
    · rw [F2.i 144 28 (hF2 _ _ (by omega))]; exact f28
    · rw [F2.j 157 i (hF2 _ _ (by omega)), F2.i 158 i (hF2 _ _ (by omega))]; exact ps13 i q hq
    · rw [e2, g_rd_at]; rfl
    · rw [F2.i 148 _ (hF2 _ _ (by omega)), f148]; rfl
    · rw [F2.i 156 _ (hF2 _ _ (by omega)), f156]; rfl
    · rw [e2, g_rd_k (by decide), e1, g_rd_at]; rfl
  refine m_pushP (q := (1, 0, [])) mp2 (by decide) (fun z => absurd z (by decide)) (fun u4 _ mp4 => ⟨rfl, mp4.L, ?_⟩)
  have mp4 : MP ad T n (48 + FS.length) ps.length cl.length t13 (tkE T n (tkE T n a)) 0 0 ps cl ac .leaf [(1, 0, [])] u4 := mp4
  -- behind a fault
  have hx48 : 48 ≤ 48 + FS.length := by omega
  have dead374 : ∀ (w : gSt) (c q : Nat), DF ad t0 c q w → w.2.1 (ad 144) 23 = nI FS.length → (∀ u, DF ad t0 c q u → HdR cx d ad post u) → WF cx d ad post 374 [some (.int (nI ps.length)), some (.int 0), some (.int (nI FS.length))] [] w := fun w c q hd h23 hk => by
    refine x_Mo_readFunction_374 hd.1.L ⟨fun _ => x_Mo_readFunction_408 hd.1.L ?_, fun z => absurd hd.2.ne.1 z⟩
    rw [h23, show (48 : Int32) = nI 48 from rfl, nI_add, nI_clamp (by omega)]
    refine ⟨vp_in_nI (by omega) (by omega), fun s1 es1 => ?_⟩
    have Fs1 : gFr ad mfuP t0 s1 := by rw [es1]; exact hd.1.si (mfuP_i.mpr (by omega))
    refine m_Mo_take (Fs1.L.k 144 (by decide)) ⟨rfl, Fs1.L.si, fun s4 es4 => ⟨rfl, by rw [es4]; exact Fs1.L.si.si, hk s4 ⟨?_, ⟨hd.2.1.1, ?_⟩, ?_, ?_⟩⟩⟩
    · rw [es4]; exact (Fs1.si (mfuP_i.mpr (by decide))).si (mfuP_i.mpr (by decide))
    · obtain ⟨q0, q1, q2⟩ := hd.2.1.2
      exact ⟨q0, by rw [es4, g_rd_k (by decide), g_rd_k (by decide), es1, g_rd_ne (hd.1.L.ne 144 149 (by decide) (by decide) (by decide))]; exact q1, q2⟩
    · rw [es4, g_rd_k (by decide), g_rd_k (by decide), es1, g_rd_ne (hd.1.L.ne 144 149 (by decide) (by decide) (by decide))]; exact hd.2.2.1
    · rw [es4, g_rd_k (by decide), g_rd_k (by decide), es1, g_rd_ne (hd.1.L.ne 144 149 (by decide) (by decide) (by decide))]; exact hd.2.2.2
  rcases kX k11 k14 with ⟨c, q, hr, hk⟩ | ⟨a', l', cl', ac', F, hr, ha', hl', hnF, kdot, k400, kgood⟩
  · refine hr t13 _ u4 mp4 (fun w hw => ?_)
    refine x_Mo_readExp_17 hw.1.L ⟨fun _ => ⟨rfl, hw.1.L, fun t16 e16 => ?_⟩, fun _ => ⟨fun _ => ⟨rfl, hw.1.L, fun t16 e16 => ?_⟩, fun z => absurd hw.2.ne.1 z⟩⟩
    all_goals
      have G16 : DF ad t0 c q t16 := by
        refine ⟨?_, ⟨hw.2.1.1, ?_⟩, ?_, ?_⟩
        · rw [e16]; exact (G13.tr (hw.1.mo (fun c k z => mf_mx hx48 z))).si (mfuP_i.mpr (by decide))
        · obtain ⟨q0, q1, q2⟩ := hw.2.1.2
          exact ⟨q0, by rw [e16, g_rd_k (by decide)]; exact q1, q2⟩
        · rw [e16, g_rd_k (by decide)]; exact hw.2.2.1
        · rw [e16, g_rd_k (by decide)]; exact hw.2.2.2
      rw [e12] at e16 ⊢
      exact ⟨fun _ => dead374 t16 c q G16 (by rw [e16, g_rd_at]) hk, fun z => absurd G16.2.ne.1 z⟩
  · refine hr t13 _ u4 mp4 (fun w hw => ?_)
    have hw : MP ad T n (48 + FS.length) ps.length cl.length t13 a' l' 0 ps cl' ac' F [] w := hw
    obtain ⟨w1, w2, w3, w4, w5, w6, w7⟩ := hw
    have w29 : w.2.1 (ad 144) 29 = nI 0 := w7.1.1
    refine x_Mo_readExp_17 w1.L ⟨fun _ => ⟨rfl, w1.L, fun t16 e16 => ?_⟩, fun z => absurd (by rw [w29]; decide) z⟩
    rw [e12] at e16 ⊢
    have F16 : gFr ad (fun c k => Nat.beq c 144 && Nat.beq k 23) w t16 := by rw [e16]; exact (gFr.rf w1.L).si rfl
    have hF16 : ∀ c k, ¬ (c = 144 ∧ k = 23) → (Nat.beq c 144 && Nat.beq k 23) = false := fun c k z => Bool.eq_false_iff.mpr (fun q => z (by simpa using q))
    have h16 : t16.2.1 (ad 144) 23 = nI FS.length := by rw [e16, g_rd_at]
    have G16 : gFr ad mfuP t0 t16 := by rw [e16]; exact (G13.tr (w1.mo (fun c k z => mf_mx hx48 z))).si (mfuP_i.mpr (by decide))
    have cu16 := w4.fr F16 (fun k _ _ => hF16 _ _ (by omega))
    have X16 : txM ad T n t16 := (w2.fr w1 (bool_r mxP_i (by omega)) (fun k => bool_r mxP_i (by omega))).fr F16 (hF16 _ _ (by omega)) (fun k => hF16 _ _ (by omega))
    refine ⟨fun z => absurd cu16.1.1 z, fun _ => ?_⟩
    refine m_tok F16.L X16 ha' cu16 (fun u17 F17 H17 => ⟨_, rfl, F17.L, fun k22 => ?_, fun k22 => ?_⟩) (fun u17 F17 h23 H17 => ⟨_, rfl, F17.L, fun z => absurd z (by decide), fun _ => ?_⟩)
    rotate_left
    · rw [H17.2.2.2.2.2.1]
      have k22' : tkK T n a' ≠ 22 := fun z => k22 (by rw [z]; rfl)
      refine m_fail (c := 2) F17.L (by decide) H17.1.1 H17.1.2.2 (fun v Fv hv _ => ⟨rfl, Fv.L, dead374 v (fcd T n a') (tkS T n a') ?_ ?_ (kdot k22')⟩)
      · rw [show fcd T n a' = 2 from if_neg H17.2.2.1]
        exact DF.of G16 (F17.tr Fv) hv
      · rw [(F17.tr Fv).i 144 23 (bool_r tmP_i (by omega))]; exact h16
    · refine m_failD2 F17.L H17.ne.1 ⟨rfl, F17.L, dead374 u17 (fcd T n a') (tkS T n a') ?_ ?_ (kdot (by omega))⟩
      · rw [show fcd T n a' = 1 from if_pos h23]
        exact DF.of G16 F17 H17
      · rw [F17.i 144 23 (bool_r tmP_i (by omega))]; exact h16
    have k22' : tkK T n a' = 22 := (nI_eq (b := 22) (by have := tkK_le (T := T) (n := n) (a := a'); omega) (by decide)).mp k22
    have s23 : u17.2.1 (ad 144) 23 = nI FS.length := by rw [F17.i 144 23 (bool_r tmP_i (by omega))]; exact h16
    obtain ⟨v1, v2, v3, v4, v5⟩ := w6
    have b17 : ∀ c k, c < 199 → ¬ (c = 144 ∧ (k = 23 ∨ (3 ≤ k ∧ k ≤ 10))) → u17.2.1 (ad c) k = w.2.1 (ad c) k := fun c k hc hn => by rw [F17.i c k (bool_r tmP_i (by omega)) hc, F16.i c k (hF16 _ _ (by omega)) hc]
    have s148 : u17.2.1 (ad 148) (48 + FS.length) = nI (fo_n F) := by rw [b17 148 _ (by decide) (by omega)]; exact v3
    refine x_Mo_readFunction_374 F17.L ⟨fun z => absurd H17.1.1 z, fun _ => ?_⟩
    rw [s23, show (48 : Int32) = nI 48 from rfl, nI_add, nI_clamp (by omega), s148, show (400 : Int32) = nI 400 from rfl, nI_leI (by omega) (by decide)]
    refine ⟨vp_in_nI (by omega) (by omega), fun h400 => ?_, fun h400 => ?_⟩
    rotate_left
    · rw [H17.2.2.2.2.2.1]
      have := dead374
      refine m_fail (c := 5) F17.L (by decide) H17.1.1 H17.1.2.2 (fun v Fv hv _ => ⟨rfl, Fv.L, ?_⟩)
      have dv : DF ad t0 5 (tkS T n a') v := DF.of G16 (F17.tr Fv) hv
      refine x_Mo_readFunction_408 Fv.L ?_
      have v23 : v.2.1 (ad 144) 23 = nI FS.length := by rw [Fv.i 144 23 (bool_r tmP_i (by omega))]; exact s23
      rw [v23, show (48 : Int32) = nI 48 from rfl, nI_add, nI_clamp (by omega)]
      refine ⟨vp_in_nI (by omega) (by omega), fun s1 es1 => ?_⟩
      have Fs1 : gFr ad mfuP t0 s1 := by rw [es1]; exact dv.1.si (mfuP_i.mpr (by omega))
      refine m_Mo_take (Fs1.L.k 144 (by decide)) ⟨rfl, Fs1.L.si, fun s4 es4 => ⟨rfl, by rw [es4]; exact Fs1.L.si.si, k400 k22' (by omega) s4 ⟨?_, ⟨dv.2.1.1, ?_⟩, ?_, ?_⟩⟩⟩
      · rw [es4]; exact (Fs1.si (mfuP_i.mpr (by decide))).si (mfuP_i.mpr (by decide))
      · obtain ⟨q0, q1, q2⟩ := dv.2.1.2
        exact ⟨q0, by rw [es4, g_rd_k (by decide), g_rd_k (by decide), es1, g_rd_ne (dv.1.L.ne 144 149 (by decide) (by decide) (by decide))]; exact q1, q2⟩
      · rw [es4, g_rd_k (by decide), g_rd_k (by decide), es1, g_rd_ne (dv.1.L.ne 144 149 (by decide) (by decide) (by decide))]; exact dv.2.2.1
      · rw [es4, g_rd_k (by decide), g_rd_k (by decide), es1, g_rd_ne (dv.1.L.ne 144 149 (by decide) (by decide) (by decide))]; exact dv.2.2.2
    -- the function stands
    have s25 : u17.2.1 (ad 144) 25 = nI l' := by rw [b17 144 25 (by decide) (by omega)]; exact w5.2.2.1
    refine x_Mo_readFunction_408 F17.L ?_
    rw [s23, show (48 : Int32) = nI 48 from rfl, nI_add, nI_clamp (by omega), s25, nI_add]
    refine ⟨vp_in_nI (by omega) (by omega), fun s1 es1 => ?_⟩
    have Fs1 : gFr ad (fun c k => Nat.beq c 149 && Nat.beq k (48 + FS.length)) u17 s1 := by rw [es1]; exact (gFr.rf F17.L).si (by simp)
    have hFs1 : ∀ c k, ¬ (c = 149 ∧ k = 48 + FS.length) → (Nat.beq c 149 && Nat.beq k (48 + FS.length)) = false := fun c k z => Bool.eq_false_iff.mpr (fun q => z (by simpa using q))
    have Hs1 := H17.fr Fs1 (fun k _ _ => hFs1 _ _ (by omega))
    obtain ⟨Fs2, cs2⟩ := cuM_take Fs1.L Hs1
    refine m_Mo_take (Fs1.L.k 144 (by decide)) ⟨rfl, Fs2.L, fun s4 es4 => ?_⟩
    have q23 : (g_si s1 (ad 144) f_Mo_seen 0).2.1 (ad 144) 23 = nI FS.length := by rw [Fs2.i 144 23 (bool_r tmP_i (by omega)), Fs1.i 144 23 (hFs1 _ _ (by omega))]; exact s23
    rw [q23, nI_1] at es4
    have Fs4 : gFr ad (fun c k => Nat.beq c 144 && Nat.beq k 23) (g_si s1 (ad 144) f_Mo_seen 0) s4 := by rw [es4]; exact (gFr.rf Fs2.L).si rfl
    -- from w to s4 only these places
    have i4 : ∀ c k, c < 199 → ¬ ((c = 144 ∧ (k = 23 ∨ (3 ≤ k ∧ k ≤ 10))) ∨ (c = 149 ∧ k = 48 + FS.length)) → s4.2.1 (ad c) k = w.2.1 (ad c) k := fun c k hc hn => by
      rw [Fs4.i c k (hF16 _ _ (by omega)) hc, Fs2.i c k (bool_r tmP_i (by omega)) hc, Fs1.i c k (hFs1 _ _ (by omega)) hc, b17 c k hc (by omega)]
    have F4 : gFr ad (fun c k => (Nat.beq c 144 && (Nat.beq k 23 || (Nat.ble 3 k && Nat.ble k 10))) || (Nat.beq c 149 && Nat.beq k (48 + FS.length))) w s4 := by
      refine (((F16.mo (fun c k z => ?_)).tr (F17.mo (fun c k z => ?_))).tr (Fs1.mo (fun c k z => ?_))).tr ((Fs2.mo (fun c k z => ?_)).tr (Fs4.mo (fun c k z => ?_)))
      · simp only [Bool.or_eq_true, Bool.and_eq_true, Nat.beq_eq, Nat.ble_eq] at z ⊢; omega
      · rw [tmP_i] at z; simp only [Bool.or_eq_true, Bool.and_eq_true, Nat.beq_eq, Nat.ble_eq]; omega
      · simp only [Bool.or_eq_true, Bool.and_eq_true, Nat.beq_eq, Nat.ble_eq] at z ⊢; omega
      · rw [tmP_i] at z; simp only [Bool.or_eq_true, Bool.and_eq_true, Nat.beq_eq, Nat.ble_eq]; omega
      · simp only [Bool.or_eq_true, Bool.and_eq_true, Nat.beq_eq, Nat.ble_eq] at z ⊢; omega
    have hF4 : ∀ c k, ¬ ((c = 144 ∧ (k = 23 ∨ (3 ≤ k ∧ k ≤ 10))) ∨ (c = 149 ∧ k = 48 + FS.length)) → ((Nat.beq c 144 && (Nat.beq k 23 || (Nat.ble 3 k && Nat.ble k 10))) || (Nat.beq c 149 && Nat.beq k (48 + FS.length))) = false := fun c k z => Bool.eq_false_iff.mpr (fun q => z (by
      simp only [Bool.or_eq_true, Bool.and_eq_true, Nat.beq_eq, Nat.ble_eq] at q
      omega))
    refine ⟨rfl, Fs4.L, kgood k22' h400 s4 ⟨?_, h.1.2.1, cs2.fr Fs4 (fun k _ _ => hF16 _ _ (by omega)), ?_, ?_, fun f q hq => ?_⟩⟩
    · exact (G13.tr (w1.mo (fun c k z => mf_mx hx48 z))).tr (F4.mo (fun c k z => by
        simp only [Bool.or_eq_true, Bool.and_eq_true, Nat.beq_eq, Nat.ble_eq] at z
        rw [mfuP_i]
        omega))
    · rw [es4, g_rd_at, List.length_append]; rfl
    · exact mCl.fr (ac := ac') ⟨w5.2.2.2.2.2.1, w5.2.2.2.2.2.2⟩ F4 (fun c k z => hF4 _ _ (by omega))
    · by_cases hf : f < FS.length
      · rw [List.getElem?_append_left hf] at hq
        have hqm := List.mem_of_getElem? hq
        have g1 := (fn13 f q hq).fr (hs q hqm).1 w1 (fun c k z => bool_r mxP_i (by omega)) (fun c hc => w3 c (hpc q hqm c hc))
        exact g1.fr (hs q hqm).1 F4 (fun c k z => hF4 _ _ (by omega)) (fun c _ => F4.i 166 c (hF4 _ _ (by omega)))
      · rw [List.getElem?_append_right (by omega)] at hq
        have hi0 : f - FS.length = 0 := by
          by_cases z : f - FS.length = 0
          · exact z
          · rw [List.getElem?_eq_none (by simp; omega)] at hq; cases hq
        rw [hi0] at hq
        have hq : (nm, ps.length, ps.length + l', F) = q := by simpa using hq
        have hf1 : f = FS.length := by omega
        rw [← hq, hf1]
        have g0 : mFn ad (fun _ => 0) FS.length (nm, ps.length, ps.length + l', F) s4 := by
          have hac := fo_ac_le F
          obtain ⟨v6, v7⟩ := v5 h400
          refine ⟨?_, ?_, ?_, ?_, ?_, ?_, ?_⟩
          · rw [F4.j 169 _ (hF4 _ _ (by omega)), w1.j 169 _ (bool_r mxP_i (by omega))]; exact nm13
          · rw [F4.i 170 _ (hF4 _ _ (by omega)), w1.i 170 _ (bool_r mxP_i (by omega))]; exact f170
          · rw [Fs4.i 149 _ (hF16 _ _ (by omega)), Fs2.i 149 _ (bool_r tmP_i (by omega)), es1, g_rd_at]
          · rw [F4.i 148 _ (hF4 _ _ (by omega))]; exact v3
          · rw [F4.i 156 _ (hF4 _ _ (by omega))]; exact v4
          · refine fo_m_cg (fun i hi => F4.i 155 _ (hF4 _ _ (by omega))) (Nat.le_refl _) _ 0 v6 (fun m m1 m2 => ?_)
            exact ⟨F4.i 151 _ (hF4 _ _ (by omega)), F4.i 152 _ (hF4 _ _ (by omega)), F4.i 153 _ (hF4 _ _ (by omega)), F4.i 154 _ (hF4 _ _ (by omega))⟩
          · exact fo_cno_cg F 0 v7 (fun z _ _ => F4.i 166 _ (hF4 _ _ (by omega)))
        exact g0
end MI
