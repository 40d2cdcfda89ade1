/-! TOKENS OF THE MODEL: look -/
section TN
variable {cx : gCx} {d : Nat} {ad : Nat → Nat} {T : Nat → Nat} {n a : Nat} {post : Option Value → gSt → Prop}
theorem lk_skip {t0 : gSt} : ∀ (m b : Nat) (t : gSt), n - b = m → b ≤ n → gFr ad tm5 t0 t → txM ad T n t → t.2.1 (ad 144) 5 = nI b →
    (∀ u, gFr ad tm5 t0 u → u.2.1 (ad 144) 5 = nI (rn isB T n b) → isB (T (rn isB T n b)) = false → g_W cx (g_E cx (d + 3)) mt_Mo_look post (21, [some (.ref (ad 144)), none, none], [], u, 0, 0)) →
    g_W cx (g_E cx (d + 3)) mt_Mo_look post (21, [some (.ref (ad 144)), none, none], [], t, 0, 0) := by
  intro m
  induction m with
  | zero =>
    intro b t hm hb hF hX h5 hK
    have hT : T b = 256 := hX.1.2.2 b (by omega)
    have e : rn isB T n b = b := rn_no (by rw [hT]; rfl)
    rw [e] at hK
    exact hK t hF h5 (by rw [hT]; rfl)
  | succ m ih =>
    intro b t hm hb hF hX h5 hK
    have hn := hX.1.1
    cases q : isB (T b) with
    | false =>
      have e : rn isB T n b = b := rn_no q
      rw [e] at hK
      exact hK t hF h5 q
    | true =>
      rw [rn_yes q (by omega)] at hK
      have e9 : sgI (T b) = 9 ↔ T b = 9 := sgI_eq (m := 9) hX.1.le (by decide)
      have e10 : sgI (T b) = 10 ↔ T b = 10 := sgI_eq (m := 10) hX.1.le (by decide)
      have e13 : sgI (T b) = 13 ↔ T b = 13 := sgI_eq (m := 13) hX.1.le (by decide)
      have e32 : sgI (T b) = 32 ↔ T b = 32 := sgI_eq (m := 32) hX.1.le (by decide)
      have hq := isB_i.mp q
      have go : g_W cx (g_E cx (d + 3)) mt_Mo_look post (73, [some (.ref (ad 144)), none, none], [], t, 0, 0) := by
        refine x_Mo_look_73 hF.L (fun t1 e1 => ?_)
        rw [h5, nI_1] at e1
        have F : gFr ad tm5 t t1 := by rw [e1]; exact (gFr.rf hF.L).si rfl
        exact ih (b + 1) t1 (by omega) (by omega) (hF.tr F) (hX.fr F rfl (fun _ => rfl)) (by rw [e1, g_rd_at]) hK
      have S : ∀ {P : Option Value → gSt → Prop}, P (some (.int (sgI (T b)))) t → g_E cx (d + 3) i_Mo_sign [.ref (ad 144), .int (t.2.1 (ad 144) 5)] t P := fun h => by
        rw [h5]
        exact m_sign hF.L hX (by omega) h
      refine x_Mo_look_21 hF.L (S ⟨_, rfl, hF.L, fun _ => go, fun z9 => S ⟨_, rfl, hF.L, fun _ => go, fun z10 => S ⟨_, rfl, hF.L, fun _ => go, fun z13 => S ⟨_, rfl, hF.L, fun z => ?_, fun _ => go⟩⟩⟩⟩)
      rw [e9] at z9
      rw [e10] at z10
      rw [e13] at z13
      rw [e32] at z
      omega
/-- the next token is looked at -/
theorem m_tok0 {t : gSt} (hL : Lay t ad) (hX : txM ad T n t) (ha : a ≤ n) (hC : cuM0 ad T n a t) (k1 : ∀ u, gFr ad tmP t u → hcM0 ad T n a u → post (some (.int (nI (tkK T n a)))) u) (k2 : ∀ u, gFr ad tmP t u → tkK T n a = 23 → ddM0 ad 1 (tkS T n a) u → post (some (.int (-1))) u) : g_E cx (d + 4) i_Mo_look [.ref (ad 144)] t post := by
  obtain ⟨h34, hC⟩ := hC
  have h3 := h34.1
  rcases hC with ⟨h6, h5⟩ | ⟨h6, hd⟩
  · refine x_Mo_look hL ⟨fun _ => ⟨fun _ => ?_, fun q => absurd h6 q⟩, fun q => by rw [h3] at q; exact absurd (show (0 : Int32) ≤ 0 by decide) q⟩
    have hn := hX.1.1
    refine lk_skip (t0 := t) (n - a) a t rfl ha (gFr.rf hL) hX h5 (fun u F hu5 hnb => ?_)
    have F' := F.mo (fun c k z => tm5_t z)
    have hXu := hX.fr F rfl (fun _ => rfl)
    have hu5 : u.2.1 (ad 144) 5 = nI (tkS T n a) := hu5
    have hnb : isB (T (tkS T n a)) = false := hnb
    have hple := tkS_le (T := T) ha
    have hle := hX.1.le (j := tkS T n a)
    have hB : ¬ (T (tkS T n a) = 9 ∨ T (tkS T n a) = 10 ∨ T (tkS T n a) = 13 ∨ T (tkS T n a) = 32) := fun z => by
      rw [isB_i.mpr z] at hnb
      cases hnb
    have e9 : sgI (T (tkS T n a)) = 9 ↔ T (tkS T n a) = 9 := sgI_eq (m := 9) hle (by decide)
    have e10 : sgI (T (tkS T n a)) = 10 ↔ T (tkS T n a) = 10 := sgI_eq (m := 10) hle (by decide)
    have e13 : sgI (T (tkS T n a)) = 13 ↔ T (tkS T n a) = 13 := sgI_eq (m := 13) hle (by decide)
    have e32 : sgI (T (tkS T n a)) = 32 ↔ T (tkS T n a) = 32 := sgI_eq (m := 32) hle (by decide)
    have S : ∀ {P : Option Value → gSt → Prop}, P (some (.int (sgI (T (tkS T n a))))) u → g_E cx (d + 3) i_Mo_sign [.ref (ad 144), .int (u.2.1 (ad 144) 5)] u P := fun h => by
      rw [hu5]
      exact m_sign F.L hXu (by omega) h
    refine x_Mo_look_21 F.L (S ⟨_, rfl, F.L, fun z => by rw [e9] at z; omega, fun _ => S ⟨_, rfl, F.L, fun z => by rw [e10] at z; omega, fun _ => S ⟨_, rfl, F.L, fun z => by rw [e13] at z; omega, fun _ => S ⟨_, rfl, F.L, fun _ t9 e9' t10 e10' => ?_, fun z => by rw [e32] at z; omega⟩⟩⟩⟩)
    have r9 : t9.2.1 (ad 144) 5 = nI (tkS T n a) := by rw [e9', g_rd_k (by decide)]; exact hu5
    rw [r9] at e10'
    have F10 : gFr ad tmP u t10 := by rw [e10', e9']; exact ((gFr.rf F.L).si rfl).si rfl
    have rd : ∀ k, k ≠ 6 → k ≠ 8 → t10.2.1 (ad 144) k = u.2.1 (ad 144) k := fun k z1 z2 => by rw [e10', e9', g_rd_k z2, g_rd_k z1]
    have hX0 := hXu.fr F10 rfl (fun _ => rfl)
    have G := F'.tr F10
    have g3 : t10.2.1 (ad 144) 3 = 0 := by rw [rd 3 (by decide) (by decide), F.i 144 3 rfl]; exact h3
    have g4 : t10.2.1 (ad 144) 4 = -1 := by rw [rd 4 (by decide) (by decide), F.i 144 4 rfl]; exact h34.2
    have g5 : t10.2.1 (ad 144) 5 = nI (tkS T n a) := by rw [rd 5 (by decide) (by decide)]; exact hu5
    have g6 : t10.2.1 (ad 144) 6 = 1 := by rw [e10', g_rd_k (by decide), e9', g_rd_at]
    have g8 : t10.2.1 (ad 144) 8 = nI (tkS T n a) := by rw [e10', g_rd_at]
    -- the ends
    have live : ∀ (w : gSt) (l1 l2 : Int32), gFr ad tmP t10 w → hcM0 ad T n a w → g_W cx (g_E cx (d + 3)) mt_Mo_look post (665, [some (.ref (ad 144)), some (.int l1), some (.int l2)], [], w, 0, 0) := fun w l1 l2 Fw H => lk_end Fw.L (fun _ => by rw [H.2.2.2.2.1]; exact k1 w (G.tr Fw) H) (fun z => by rw [H.1.1] at z; exact absurd (show (0 : Int32) ≤ 0 by decide) z) (Or.inl H.1.1)
    have dead : ∀ (w : gSt) (l1 l2 : Int32), gFr ad tmP t10 w → tkK T n a = 23 → ddM0 ad 1 (tkS T n a) w → g_W cx (g_E cx (d + 3)) mt_Mo_look post (665, [some (.ref (ad 144)), some (.int l1), some (.int l2)], [], w, 0, 0) := fun w l1 l2 Fw hk H => lk_end Fw.L (fun z => absurd z H.ne.1) (fun _ => k2 w (G.tr Fw) hk H) (Or.inr H.ne.2)
    rw [g5]
    refine m_sign F10.L hX0 (by omega) ⟨_, rfl, F10.L, fun hq => ?_, fun hq t21 e21 => ?_⟩
    · have hne : ¬ T (tkS T n a) = 256 := (sgI_ge hle).mp hq
      have hp := tkS_lt hX.1 ha hne
      refine m_inS (lo := 97) (hi := 122) hle (by decide) (by decide) ⟨_, rfl, F10.L, fun zl => ?_, fun zl t20 e20 => ?_⟩
      · have nl : isL (T (tkS T n a)) = false := Bool.eq_false_iff.mpr (fun z => by rw [if_pos (isL_i.mp z)] at zl; exact absurd zl (by decide))
        refine m_inS (lo := 48) (hi := 57) hle (by decide) (by decide) ⟨_, rfl, F10.L, fun zd => ?_, fun zd t19 e19 => ?_⟩
        · -- a sign
          have nd : isD (T (tkS T n a)) = false := Bool.eq_false_iff.mpr (fun z => by rw [if_pos (isD_i.mp z)] at zd; exact absurd zd (by decide))
          obtain ⟨eE, eK⟩ := tkE_S hne nl nd
          have hsg := sgk_ge (T (tkS T n a)) (T (tkS T n a + 1))
          have K : ∀ s0 : Int32, s0 = (if sgk (T (tkS T n a)) (T (tkS T n a + 1)) = 23 then -1 else nI (sgk (T (tkS T n a)) (T (tkS T n a + 1)))) → g_W cx (g_E cx (d + 3)) mt_Mo_look post (623, [some (.ref (ad 144)), some (.int (sgI (T (tkS T n a)))), some (.int 0)], [.int s0, .ref (ad 144)], t10, 0, 0) := by
            intro s0 hs0
            have end642 : ∀ w, gFr ad tmP t10 w → w.2.1 (ad 144) 5 = nI (tkS T n a) → (∀ v x, v = g_si w (ad 144) 5 x → (w.2.1 (ad 144) 7 = 21 → x = nI (tkS T n a + 2)) → (¬ w.2.1 (ad 144) 7 = 21 → x = nI (tkS T n a + 1)) → g_W cx (g_E cx (d + 3)) mt_Mo_look post (665, [some (.ref (ad 144)), some (.int (sgI (T (tkS T n a)))), some (.int 0)], [], v, 0, 0)) → g_W cx (g_E cx (d + 3)) mt_Mo_look post (642, [some (.ref (ad 144)), some (.int (sgI (T (tkS T n a)))), some (.int 0)], [], w, 0, 0) := by
              intro w Fw hw5 hv
              refine x_Mo_look_642 Fw.L ⟨fun z => x_Mo_look_661 Fw.L (fun v ev => hv v _ ev (fun y => absurd y z) (fun _ => ?_)), fun z => x_Mo_look_661 Fw.L (fun v ev => hv v _ ev (fun _ => ?_) (fun y => absurd y z))⟩
              · rw [hw5, nI_1]
              · rw [hw5, show (2 : Int32) = nI 2 from rfl, nI_add]
            refine x_Mo_look_623 F10.L (fun t1 e1 => ?_)
            have F1 : gFr ad tmP t10 t1 := by rw [e1]; exact (gFr.rf F10.L).si rfl
            have r1 : ∀ k, k ≠ 7 → t1.2.1 (ad 144) k = t10.2.1 (ad 144) k := fun k z => by rw [e1, g_rd_k z]
            have r7 : t1.2.1 (ad 144) 7 = s0 := by rw [e1, g_rd_at]
            rw [r7, r1 8 (by decide), g8]
            refine ⟨fun z => ?_, fun z => ?_⟩
            · have hk : sgk (T (tkS T n a)) (T (tkS T n a + 1)) ≠ 23 := fun y => by
                rw [if_pos y] at hs0
                rw [hs0] at z
                exact absurd z (by decide)
              rw [if_neg hk] at hs0
              refine end642 t1 F1 (by rw [r1 5 (by decide)]; exact g5) (fun v x ev x1 x2 => ?_)
              have Fv : gFr ad tmP t1 v := by rw [ev]; exact (gFr.rf F1.L).si rfl
              have rv : ∀ k, k ≠ 5 → v.2.1 (ad 144) k = t1.2.1 (ad 144) k := fun k z => by rw [ev, g_rd_k z]
              refine live v _ _ (F1.tr Fv) ⟨⟨?_, ?_⟩, ?_, by rw [eK]; exact hk, ?_, ?_, ?_, fun w => by omega, fun w => by omega⟩
              · rw [rv 3 (by decide), r1 3 (by decide)]; exact g3
              · rw [rv 4 (by decide), r1 4 (by decide)]; exact g4
              · rw [rv 6 (by decide), r1 6 (by decide)]; exact g6
              · rw [ev, g_rd_at, eE]
                rw [r7, hs0] at x1 x2
                by_cases y : sgk (T (tkS T n a)) (T (tkS T n a + 1)) = 21
                · rw [if_pos y]
                  exact x1 (by rw [y]; rfl)
                · rw [if_neg y]
                  exact x2 (fun w => y ((nI_eq (b := 21) (by omega) (by decide)).mp w))
              · rw [rv 7 (by decide), r7, hs0, eK]
              · rw [rv 8 (by decide), r1 8 (by decide)]; exact g8
            · have hk : sgk (T (tkS T n a)) (T (tkS T n a + 1)) = 23 := Classical.byContradiction (fun y => by
                rw [if_neg y] at hs0
                rw [hs0] at z
                exact z (nI_pos' (by omega)))
              refine m_fail0 (c := 1) F1.L (by decide) (by rw [r1 3 (by decide)]; exact g3) (fun w Fw hw rw' => ⟨rfl, Fw.L, ?_⟩)
              refine end642 w (F1.tr Fw) (by rw [rw' 5 (by decide) (by decide), r1 5 (by decide)]; exact g5) (fun v x ev x1 x2 => ?_)
              have Fv : gFr ad tmP w v := by rw [ev]; exact (gFr.rf Fw.L).si rfl
              refine dead v _ _ ((F1.tr Fw).tr Fv) (by rw [eK]; exact hk) ⟨hw.1, ?_, ?_⟩
              · rw [ev, g_rd_k (by decide)]; exact hw.2.1
              · rw [ev, g_rd_k (by decide)]; exact hw.2.2
          have q : ∀ m, m < 256 → (sgI (T (tkS T n a)) = nI m ↔ T (tkS T n a) = m) := fun m hm => sgI_eq hle hm
          have q40 : sgI (T (tkS T n a)) = 40 ↔ T (tkS T n a) = 40 := q 40 (by decide)
          have q41 : sgI (T (tkS T n a)) = 41 ↔ T (tkS T n a) = 41 := q 41 (by decide)
          have q44 : sgI (T (tkS T n a)) = 44 ↔ T (tkS T n a) = 44 := q 44 (by decide)
          have q59 : sgI (T (tkS T n a)) = 59 ↔ T (tkS T n a) = 59 := q 59 (by decide)
          have q61 : sgI (T (tkS T n a)) = 61 ↔ T (tkS T n a) = 61 := q 61 (by decide)
          have q43 : sgI (T (tkS T n a)) = 43 ↔ T (tkS T n a) = 43 := q 43 (by decide)
          have q45 : sgI (T (tkS T n a)) = 45 ↔ T (tkS T n a) = 45 := q 45 (by decide)
          have q42 : sgI (T (tkS T n a)) = 42 ↔ T (tkS T n a) = 42 := q 42 (by decide)
          have q47 : sgI (T (tkS T n a)) = 47 ↔ T (tkS T n a) = 47 := q 47 (by decide)
          have q37 : sgI (T (tkS T n a)) = 37 ↔ T (tkS T n a) = 37 := q 37 (by decide)
          have q60 : sgI (T (tkS T n a)) = 60 ↔ T (tkS T n a) = 60 := q 60 (by decide)
          have q46 : sgI (T (tkS T n a)) = 46 ↔ T (tkS T n a) = 46 := q 46 (by decide)
          have q2 : sgI (T (tkS T n a + 1)) = 61 ↔ T (tkS T n a + 1) = 61 := sgI_eq (m := 61) hX.1.le (by decide)
          rw [g5, nI_1]
          refine ⟨fun c0 => ⟨fun c1 => ⟨fun c2 => ⟨fun c3 => ⟨fun c4 => ⟨fun c5 => ⟨fun c6 => ⟨fun c7 => ⟨fun c8 => ⟨fun c9 => ⟨fun c10 => ⟨fun c11 => K _ ?_, fun c11 => K _ ?_⟩, fun c10 => K _ ?_⟩, fun c9 => K _ ?_⟩, fun c8 => K _ ?_⟩, fun c7 => K _ ?_⟩, fun c6 => K _ ?_⟩, fun c5 => K _ ?_⟩, fun c4 => m_sign F10.L hX0 (by omega) ⟨_, rfl, F10.L, fun c5 => K _ ?_, fun c5 => K _ ?_⟩⟩, fun c3 => K _ ?_⟩, fun c2 => K _ ?_⟩, fun c1 => K _ ?_⟩, fun c0 => K _ ?_⟩
          all_goals (simp only [q40, q41, q44, q59, q61, q43, q45, q42, q47, q37, q60, q46, q2, Classical.not_not] at *; simp only [sgk, *]; first | rfl | decide)
        · -- a number
          have yd : isD (T (tkS T n a)) = true := isD_i.mpr (Classical.byContradiction (fun z => zd (by rw [if_neg z])))
          obtain ⟨eE, eK⟩ := tkE_D hne nl yd
          have hge := rn_ge (q := isD) (T := T) (n := n) (a := tkS T n a)
          have hle2 := rn_le (q := isD) (T := T) (n := n) (a := tkS T n a) (by omega)
          have hvl : tkW T n a < 10000000000 := dvl_lt10 (Nat.min_le_right _ _) (fun j hj => by
            have hj2 : j < tkL T n a := by omega
            unfold tkL at hj2
            exact (isD_i.mp (rn_in (q := isD) (T := T) (n := n) (a := tkS T n a) (j := tkS T n a + j) (by omega) (by omega))).2)
          have F19 : gFr ad tmD t10 t19 := by rw [e19]; exact (gFr.rf F10.L).sj rfl
          have := ld_loop (cx := cx) (d := d) (post := post) (p := tkS T n a) (t0 := t10) (l1 := sgI (T (tkS T n a))) (n - tkS T n a) (tkS T n a) t19 rfl (Nat.le_refl _) (by omega) F19 (hX0.fr F19 rfl (fun _ => rfl)) (by rw [e19, g_sj_i]; exact g5) (by rw [e19, Nat.sub_self]; exact g_up_v)
          rw [Nat.sub_self] at this
          refine this (fun w Fw hw5 hw9 t5 e5 => ?_)
          have eV : dvl T (tkS T n a) (min (rn isD T n (tkS T n a) - tkS T n a) 10) = tkW T n a := rfl
          have eL : rn isD T n (tkS T n a) - tkS T n a = tkL T n a := rfl
          rw [eV] at hw9
          have F5 : gFr ad tmP w t5 := by rw [e5]; exact (gFr.rf Fw.L).si rfl
          have Fw' := Fw.mo (fun c k z => tmD_t z)
          have r5 : ∀ k, k ≠ 7 → t5.2.1 (ad 144) k = w.2.1 (ad 144) k := fun k z => by rw [e5, g_rd_k z]
          have j5 : t5.2.2.1 (ad 144) 9 = lN (tkW T n a) := by rw [e5, g_si_j]; exact hw9
          have w3 : t5.2.1 (ad 144) 3 = 0 := by rw [r5 3 (by decide), Fw.i 144 3 rfl]; exact g3
          have w8 : t5.2.1 (ad 144) 8 = nI (tkS T n a) := by rw [r5 8 (by decide), Fw.i 144 8 rfl]; exact g8
          have bad : ∀ l2, tkK T n a = 23 → g_W cx (g_E cx (d + 3)) mt_Mo_look post (457, [some (.ref (ad 144)), some (.int (sgI (T (tkS T n a)))), some (.int l2)], [], t5, 0, 0) := fun l2 hk => by
            refine x_Mo_look_457 F5.L ?_
            rw [w8]
            exact m_fail0 (c := 1) F5.L (by decide) w3 (fun v Fv hv _ => ⟨rfl, Fv.L, dead v _ _ ((Fw'.tr F5).tr Fv) hk hv⟩)
          rw [eL, j5, show (10 : Int32) = nI 10 from rfl, nI_ltI (by decide) (by omega), show (2147483647 : Int64) = lN 2147483647 from rfl, lB_cmp_le (by omega) (by omega)]
          refine ⟨fun z => bad _ (by rw [eK, if_neg (by omega)]), fun z => ⟨fun y => ?_, fun y => bad _ (by rw [eK, if_neg (by omega)])⟩⟩
          have eK1 : tkK T n a = 1 := by rw [eK, if_pos (by omega)]
          refine live t5 _ _ (Fw'.tr F5) ⟨⟨w3, ?_⟩, ?_, by omega, ?_, ?_, w8, fun _ => j5, fun z => by omega⟩
          · rw [r5 4 (by decide), Fw.i 144 4 rfl]; exact g4
          · rw [r5 6 (by decide), Fw.i 144 6 rfl]; exact g6
          · rw [r5 5 (by decide), eE]; exact hw5
          · rw [e5, g_rd_at, eK1]; rfl
      · -- a name
        have yl : isL (T (tkS T n a)) = true := isL_i.mpr (Classical.byContradiction (fun z => zl (by rw [if_neg z])))
        obtain ⟨eE, eK⟩ := tkE_L hne yl
        have hge := rn_ge (q := isA) (T := T) (n := n) (a := tkS T n a)
        have hle2 := rn_le (q := isA) (T := T) (n := n) (a := tkS T n a) (by omega)
        have hlen : (tkN T n a).length = rn isA T n (tkS T n a) - tkS T n a := tby_len _ _ _
        have F20 : gFr ad tmN t10 t20 := by rw [e20]; exact (gFr.rf F10.L).sj rfl
        have := ln_loop (cx := cx) (d := d) (post := post) (p := tkS T n a) (t0 := t10) (l1 := sgI (T (tkS T n a))) (n - tkS T n a) (tkS T n a) t20 rfl (Nat.le_refl _) (by omega) F20 (hX0.fr F20 rfl (fun _ => rfl)) (by rw [e20, g_sj_i]; exact g5) (fun _ => by rw [e20, Nat.sub_self]; exact g_up_v)
        rw [Nat.sub_self] at this
        refine this (fun w s0 Fw hw5 hw => ?_)
        have Fw' := Fw.mo (fun c k z => tmN_t z)
        refine x_Mo_look_319 Fw.L (fun t5 e5 => ?_)
        have F5 : gFr ad tmP w t5 := by rw [e5]; exact (gFr.rf Fw.L).si rfl
        have r5 : ∀ k, k ≠ 7 → t5.2.1 (ad 144) k = w.2.1 (ad 144) k := fun k z => by rw [e5, g_rd_k z]
        have w3 : t5.2.1 (ad 144) 3 = 0 := by rw [r5 3 (by decide), Fw.i 144 3 rfl]; exact g3
        have w8 : t5.2.1 (ad 144) 8 = nI (tkS T n a) := by rw [r5 8 (by decide), Fw.i 144 8 rfl]; exact g8
        rw [show (8 : Int32) = nI 8 from rfl, nI_leI (by omega) (by omega), w8]
        refine ⟨fun z => ?_, fun z => m_fail0 (c := 1) F5.L (by decide) w3 (fun v Fv hv _ => ⟨rfl, Fv.L, dead v _ _ ((Fw'.tr F5).tr Fv) (by rw [eK, if_neg (by omega)]) hv⟩)⟩
        have eK2 : tkK T n a = nkd (tkN T n a) := by rw [eK, if_pos (by omega)]
        have hnk := nkd_ge (tkN T n a)
        have hnm : nm_ok (tkN T n a) := by
          by_cases y : tkK T n a = 2
          · exact tkN_ok hX.1 ha y
          · have : ∃ l ∈ wdl, tkN T n a = l := by
              rw [eK2] at y
              unfold nkd at y
              repeat' split at y
              all_goals first | exact absurd rfl y | (rename_i q; exact ⟨_, by rw [q]; decide, rfl⟩)
            obtain ⟨l, hl, e⟩ := this
            rw [e]
            exact wdl_ok l hl
        obtain ⟨hw10, hs0⟩ := hw z
        have hw10 : w.2.2.1 (ad 144) 10 = pk6 (tkN T n a) := hw10
        refine live t5 _ _ (Fw'.tr F5) ⟨⟨w3, ?_⟩, ?_, by omega, ?_, ?_, w8, fun y => by omega, fun _ => ?_⟩
        · rw [r5 4 (by decide), Fw.i 144 4 rfl]; exact g4
        · rw [r5 6 (by decide), Fw.i 144 6 rfl]; exact g6
        · rw [r5 5 (by decide), eE]; exact hw5
        · rw [e5, g_rd_at, hs0, hw10, wfm_nkd hnm, eK2]
        · rw [e5, g_si_j]; exact hw10
    · -- the end
      have h256 : T (tkS T n a) = 256 := Classical.byContradiction (fun z => hq ((sgI_ge hle).mpr z))
      have eK : tkK T n a = 0 := by unfold tkK; rw [if_pos h256]
      have eE : tkE T n a = tkS T n a := by unfold tkE; rw [if_pos h256]
      have F21 : gFr ad tmP t10 t21 := by rw [e21]; exact (gFr.rf F10.L).si rfl
      have r : ∀ k, k ≠ 7 → t21.2.1 (ad 144) k = t10.2.1 (ad 144) k := fun k z => by rw [e21, g_rd_k z]
      refine live t21 _ _ F21 ⟨⟨by rw [r 3 (by decide)]; exact g3, by rw [r 4 (by decide)]; exact g4⟩, by rw [r 6 (by decide)]; exact g6, by omega, ?_, ?_, ?_, fun y => by omega, fun y => by omega⟩
      · rw [r 5 (by decide), eE]; exact g5
      · rw [e21, g_rd_at, eK]; rfl
      · rw [r 8 (by decide)]; exact g8
  · refine x_Mo_look hL ⟨fun _ => ⟨fun q => by rw [h6] at q; exact absurd q (by decide), fun _ => ?_⟩, fun q => by rw [h3] at q; exact absurd (show (0 : Int32) ≤ 0 by decide) q⟩
    rw [hd.2.2.1]
    exact k1 t (gFr.rf hL) ⟨h34, h6, hd⟩
end TN
/-! the same, with how many values there are -/
def vB (ad : Nat → Nat) (t : gSt) : Prop := ∃ q, t.2.1 (ad 144) 33 = nI q ∧ q ≤ 2000
def lvM (ad : Nat → Nat) (t : gSt) : Prop := t.2.1 (ad 144) 3 = 0 ∧ t.2.1 (ad 144) 4 = -1 ∧ vB ad t
def hcM (ad : Nat → Nat) (T : Nat → Nat) (n a : Nat) (t : gSt) : Prop := lvM ad t ∧ t.2.1 (ad 144) 6 = 1 ∧ hdM ad T n a t
def cuM (ad : Nat → Nat) (T : Nat → Nat) (n a : Nat) (t : gSt) : Prop := lvM ad t ∧ ((t.2.1 (ad 144) 6 = 0 ∧ t.2.1 (ad 144) 5 = nI a) ∨ (t.2.1 (ad 144) 6 = 1 ∧ hdM ad T n a t))
def ddM (ad : Nat → Nat) (c p : Nat) (t : gSt) : Prop := ((1 ≤ c ∧ c ≤ 7) ∧ vB ad t) ∧ t.2.1 (ad 144) 3 = nI c ∧ t.2.1 (ad 144) 4 = nI p
section VBS
variable {cx : gCx} {d : Nat} {ad : Nat → Nat} {T : Nat → Nat} {n a c p : Nat} {t u : gSt} {post : Option Value → gSt → Prop} {P : Nat → Nat → Bool}
theorem vB.fr (h : vB ad t) (hF : gFr ad P t u) (hP : P 144 33 = false) : vB ad u := by
  obtain ⟨q, h1, h2⟩ := h
  exact ⟨q, by rw [hF.i 144 33 hP]; exact h1, h2⟩
theorem hcM.cu (h : hcM ad T n a t) : cuM ad T n a t := ⟨h.1, Or.inr h.2⟩
theorem ddM.ne (h : ddM ad c p t) : ¬ t.2.1 (ad 144) 3 = 0 ∧ ¬ t.2.1 (ad 144) 3 ≤ 0 := by
  rw [h.2.1]
  exact ⟨nI_ne0 (by have := h.1.1; omega) (by have := h.1.1; omega), nI_nle (by have := h.1.1; omega) (by have := h.1.1; omega)⟩
theorem m_fail (hL : Lay t ad) (hc : 1 ≤ c ∧ c ≤ 7) (h0 : t.2.1 (ad 144) 3 = 0) (hv : vB ad t) (h : ∀ u, gFr ad tmP t u → ddM ad c p u → (∀ k, k ≠ 3 → k ≠ 4 → u.2.1 (ad 144) k = t.2.1 (ad 144) k) → post none u) : g_E cx (d + 1) i_Mo_fail [.ref (ad 144), .int (nI c), .int (nI p)] t post :=
  m_fail0 hL hc h0 (fun u F H k => h u F ⟨⟨H.1, hv.fr F rfl⟩, H.2⟩ k)
theorem m_tok (hL : Lay t ad) (hX : txM ad T n t) (ha : a ≤ n) (hC : cuM ad T n a t) (k1 : ∀ u, gFr ad tmP t u → hcM ad T n a u → post (some (.int (nI (tkK T n a)))) u) (k2 : ∀ u, gFr ad tmP t u → tkK T n a = 23 → ddM ad 1 (tkS T n a) u → post (some (.int (-1))) u) : g_E cx (d + 4) i_Mo_look [.ref (ad 144)] t post :=
  m_tok0 hL hX ha ⟨⟨hC.1.1, hC.1.2.1⟩, hC.2⟩ (fun u F H => k1 u F ⟨⟨H.1.1, H.1.2, hC.1.2.2.fr F rfl⟩, H.2⟩) (fun u F hk H => k2 u F hk ⟨⟨H.1, hC.1.2.2.fr F rfl⟩, H.2⟩)
end VBS
