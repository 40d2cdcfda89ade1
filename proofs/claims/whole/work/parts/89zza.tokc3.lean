/-! TOKENS OF THE CLASS: numbers, signs, peek -/
theorem dvl_lt {T : Nat → Nat} {p : Nat} : ∀ i, (∀ j, j < i → T (p + j) ≤ 57) → dvl T p i < 10 ^ i
  | 0, _ => Nat.zero_lt_one
  | i + 1, h => by
    have h1 := dvl_lt i (fun j hj => h j (by omega))
    have h2 := h i (by omega)
    simp only [dvl, Nat.pow_succ]
    omega
theorem dvl_lt10 {T : Nat → Nat} {p i : Nat} (hi : i ≤ 10) (h : ∀ j, j < i → T (p + j) ≤ 57) : dvl T p i < 10000000000 := by
  have h1 := dvl_lt i h
  have h2 := Nat.pow_le_pow_right (n := 10) (by decide) hi
  have : (10 : Nat) ^ 10 = 10000000000 := by decide
  omega
section TE
variable {cx : gCx} {d : Nat} {ad : Nat → Nat} {T : Nat → Nat} {n a : Nat} {post : Option Value → gSt → Prop}
theorem td_loop {p : Nat} {t0 : gSt} : ∀ (m b : Nat) (t : gSt), n - b = m → p ≤ b → b ≤ n → gFr ad tc2 t0 t → txC ad T n t → (∀ j, j < b - p → T (p + j) ≤ 57) → t.2.1 (ad 4) 2 = nI b → t.2.1 (ad 4) 5 = nI p →
    (∀ u, gFr ad tc2 t0 u → u.2.1 (ad 4) 2 = nI (rn isD T n b) → (10 < ((u.2.1 (ad 4) 2) - (u.2.1 (ad 4) 5)) → g_E cx (d + 1) i_Tokens_failAt [.ref (ad 4), .int 1, .int (u.2.1 (ad 4) 5)] u (fun r u1 => r = none ∧ Lay u1 ad ∧ (∀ t3, t3 = g_si u1 (ad 4) 4 2 → ∀ t4, t4 = g_si t3 (ad 4) 6 (lN (dvl T p (min (rn isD T n b - p) 10))).toInt32 → post none t4))) ∧ (¬ (10 < ((u.2.1 (ad 4) 2) - (u.2.1 (ad 4) 5))) → ((lg_cmp (lN (dvl T p (min (rn isD T n b - p) 10))) 2147483647) ≤ 0 → ∀ t5, t5 = g_si u (ad 4) 4 2 → ∀ t6, t6 = g_si t5 (ad 4) 6 (lN (dvl T p (min (rn isD T n b - p) 10))).toInt32 → post none t6) ∧ (¬ ((lg_cmp (lN (dvl T p (min (rn isD T n b - p) 10))) 2147483647) ≤ 0) → g_E cx (d + 1) i_Tokens_failAt [.ref (ad 4), .int 1, .int (u.2.1 (ad 4) 5)] u (fun r u7 => r = none ∧ Lay u7 ad ∧ (∀ t9, t9 = g_si u7 (ad 4) 4 2 → ∀ t10, t10 = g_si t9 (ad 4) 6 (lN (dvl T p (min (rn isD T n b - p) 10))).toInt32 → post none t10))))) →
    g_W cx (g_E cx (d + 1)) mt_Tokens_scanNumber post (2, [some (.ref (ad 4)), some (.long (lN (dvl T p (min (b - p) 10)))), none], [], t, 0, 0) := by
  intro m
  induction m with
  | zero =>
    intro b t hm hpb hb hF hX hd h2 h5 hK
    have hn := hX.1.1
    have e : rn isD T n b = b := rn_no (by rw [hX.1.2.2 b (by omega)]; rfl)
    rw [e] at hK
    refine x_Tokens_scanNumber_2 hF.L hX.2.1 ⟨fun _ => hK t hF h2, fun q => ?_⟩
    rw [hX.2.2.1, h2, nI_leI (by omega) (by omega)] at q
    omega
  | succ m ih =>
    intro b t hm hpb hb hF hX hd h2 h5 hK
    have hn := hX.1.1
    have hL := hF.L
    have hbx := hX.2.2.2 b (by omega)
    refine x_Tokens_scanNumber_2 hL hX.2.1 ⟨fun q => ?_, fun _ => ?_⟩
    · rw [hX.2.2.1, h2, nI_leI (by omega) (by omega)] at q
      omega
    · rw [h2, nI_clamp (by omega)]
      have hv := vp_in_nI (n := b) (N := 3000) (by omega) (by omega)
      refine ⟨hv, m_isDigit hL hbx ⟨_, rfl, hL, hX.2.1, fun q => ?_, fun q => ?_⟩⟩
      · rw [b32_0] at q
        have e : rn isD T n b = b := rn_no q
        rw [e] at hK
        exact hK t hF h2
      · rw [b32_0, Bool.not_eq_false] at q
        have hD := isD_i.mp q
        rw [rn_yes q (by omega)] at hK
        rw [h2, h5, nI_sub hpb, show (10 : Int32) = nI 10 from rfl, nI_leI (by omega) (by omega), nI_clamp (by omega), nI_1]
        have hd' : ∀ j, j < b + 1 - p → T (p + j) ≤ 57 := fun j hj => by
          by_cases z : j < b - p
          · exact hd j z
          · rw [show p + j = b by omega]; omega
        refine ⟨fun z t3 e3 => ?_, fun z => ⟨hv, fun x ex t3 e3 => ?_⟩⟩
        · have F : gFr ad tc2 t t3 := by rw [e3]; exact (gFr.rf hL).si rfl
          have := ih (b + 1) t3 (by omega) (by omega) (by omega) (hF.tr F) (hX.fr F rfl rfl (fun _ => rfl)) hd' (by rw [e3, g_rd_at]) (by rw [F.i 4 5 rfl]; exact h5) hK
          rw [show min (b + 1 - p) 10 = min (b - p) 10 by omega] at this
          exact this
        · have F : gFr ad tc2 t t3 := by rw [e3]; exact (gFr.rf hL).si rfl
          have := ih (b + 1) t3 (by omega) (by omega) (by omega) (hF.tr F) (hX.fr F rfl rfl (fun _ => rfl)) hd' (by rw [e3, g_rd_at]) (by rw [F.i 4 5 rfl]; exact h5) hK
          rw [show min (b + 1 - p) 10 = (b - p) + 1 by omega] at this
          have ex2 : x = lN (dvl T p ((b - p) + 1)) := by
            rw [ex, hbx.2.1 (by omega), show (48 : Int32) = nI 48 from rfl, nI_sub (by omega), nI_l (by omega), show min (b - p) 10 = b - p by omega, show (10 : Int64) = lN 10 from rfl, lN_mul, lN_add]
            simp only [dvl]
            rw [show p + (b - p) = b by omega]
          rw [ex2]
          exact this
theorem tkE_D (h1 : ¬ T (tkS T n a) = 256) (h2 : isL (T (tkS T n a)) = false) (h3 : isD (T (tkS T n a)) = true) : tkE T n a = rn isD T n (tkS T n a) ∧ tkK T n a = if tkL T n a ≤ 10 ∧ tkW T n a ≤ 2147483647 then 1 else 23 := by
  unfold tkE tkK
  rw [if_neg h1, if_neg h1, h2, h3]
  exact ⟨rfl, rfl⟩
theorem m_scanNumber {t : gSt} (hL : Lay t ad) (hX : txC ad T n t) (ha : a ≤ n) (h0 : t.2.1 (ad 4) 8 = 0) (h3 : t.2.1 (ad 4) 3 = 1) (h2 : t.2.1 (ad 4) 2 = nI (tkS T n a)) (h5 : t.2.1 (ad 4) 5 = nI (tkS T n a)) (hl : isL (T (tkS T n a)) = false) (hc : isD (T (tkS T n a)) = true) (k1 : ∀ u, gFr ad tcP t u → hcC ad T n a u → post none u) (k2 : ∀ u, gFr ad tcP t u → tkK T n a = 23 → ddC ad 1 (tkS T n a) u → post none u) : g_E cx (d + 2) i_Tokens_scanNumber [.ref (ad 4)] t post := by
  have hn := hX.1.1
  have hi := isD_i.mp hc
  have hne : ¬ T (tkS T n a) = 256 := by omega
  have hp := tkS_lt hX.1 ha hne
  obtain ⟨eE, eK⟩ := tkE_D hne hl hc
  have hge := rn_ge (q := isD) (T := T) (n := n) (a := tkS T n a)
  have hle := rn_le (q := isD) (T := T) (n := n) (a := tkS T n a) (by omega)
  have hvl : tkW T n a < 10000000000 := dvl_lt10 (Nat.min_le_right _ _) (fun j hj => by
    have hj2 : j < tkL T n a := by omega
    unfold tkL at hj2
    exact (isD_i.mp (rn_in (q := isD) (T := T) (n := n) (a := tkS T n a) (j := tkS T n a + j) (by omega) (by omega))).2)
  refine x_Tokens_scanNumber hL ?_
  have := td_loop (cx := cx) (d := d) (post := post) (p := tkS T n a) (t0 := t) (n - tkS T n a) (tkS T n a) t rfl (Nat.le_refl _) (by omega) (gFr.rf hL) hX (fun j hj => by omega) h2 h5
  rw [show dvl T (tkS T n a) (min (tkS T n a - tkS T n a) 10) = 0 by rw [Nat.sub_self]; rfl] at this
  refine this (fun u F hu2 => ?_)
  have hu5 : u.2.1 (ad 4) 5 = nI (tkS T n a) := by rw [F.i 4 5 rfl]; exact h5
  have hu0 : u.2.1 (ad 4) 8 = 0 := by rw [F.i 4 8 rfl]; exact h0
  have hu3 : u.2.1 (ad 4) 3 = 1 := by rw [F.i 4 3 rfl]; exact h3
  have eV : dvl T (tkS T n a) (min (rn isD T n (tkS T n a) - tkS T n a) 10) = tkW T n a := rfl
  have eL : rn isD T n (tkS T n a) - tkS T n a = tkL T n a := rfl
  rw [eV, hu2, hu5, nI_sub hge, eL, show (10 : Int32) = nI 10 from rfl, nI_ltI (by omega) (by omega), show (2147483647 : Int64) = lN 2147483647 from rfl, lB_cmp_le (by omega) (by omega)]
  have F' := F.mo (fun c k z => tc2_t z)
  have bad : tkK T n a = 23 → g_E cx (d + 1) i_Tokens_failAt [.ref (ad 4), .int 1, .int (nI (tkS T n a))] u (fun r u1 => r = none ∧ Lay u1 ad ∧ (∀ t3, t3 = g_si u1 (ad 4) 4 2 → ∀ t4, t4 = g_si t3 (ad 4) 6 (lN (tkW T n a)).toInt32 → post none t4)) := fun hk => by
    refine m_failAt (c := 1) F.L (by decide) hu0 (fun w Fw hd hk2 => ⟨rfl, Fw.L, fun t4 e4 t5 e5 => ?_⟩)
    have F4 : gFr ad tcP w t5 := by rw [e5, e4]; exact ((gFr.rf Fw.L).si rfl).si rfl
    refine k2 t5 ((F'.tr Fw).tr F4) hk ⟨hd.1, ?_, ?_⟩
    · rw [e5, e4, g_rd_k (by decide), g_rd_k (by decide)]; exact hd.2.1
    · rw [e5, e4, g_rd_k (by decide), g_rd_k (by decide)]; exact hd.2.2
  refine ⟨fun q => bad (by rw [eK, if_neg (by omega)]), fun q => ⟨fun q2 t5 e5 t6 e6 => ?_, fun q2 => bad (by rw [eK, if_neg (by omega)])⟩⟩
  have F4 : gFr ad tcP u t6 := by rw [e6, e5]; exact ((gFr.rf F.L).si rfl).si rfl
  have eK1 : tkK T n a = 1 := by rw [eK, if_pos (by omega)]
  have rd : ∀ k, k ≠ 6 → k ≠ 4 → t6.2.1 (ad 4) k = u.2.1 (ad 4) k := fun k z1 z2 => by rw [e6, e5, g_rd_k z1, g_rd_k z2]
  refine k1 t6 (F'.tr F4) ⟨by rw [rd 8 (by decide) (by decide)]; exact hu0, by rw [rd 3 (by decide) (by decide)]; exact hu3, by omega, ?_, ?_, ?_, fun _ => ?_, fun z => by omega⟩
  · rw [rd 2 (by decide) (by decide), eE]; exact hu2
  · rw [e6, g_rd_k (by decide), e5, g_rd_at, eK1]; rfl
  · rw [rd 5 (by decide) (by decide)]; exact hu5
  · rw [e6, g_rd_at, lN_i]
theorem tkE_S (h1 : ¬ T (tkS T n a) = 256) (h2 : isL (T (tkS T n a)) = false) (h3 : isD (T (tkS T n a)) = false) : tkE T n a = (if sgk (T (tkS T n a)) (T (tkS T n a + 1)) = 21 then tkS T n a + 2 else tkS T n a + 1) ∧ tkK T n a = sgk (T (tkS T n a)) (T (tkS T n a + 1)) := by
  unfold tkE tkK
  rw [if_neg h1, if_neg h1, h2, h3]
  exact ⟨rfl, rfl⟩
theorem sg_in : ∀ i, i < 12 → ∃ c, c < 128 ∧ (g_stb.getD 0 []).getD i 0 = nI c ∧ ∀ c2, sgk c c2 ≠ 23 := by
  intro i hi
  have hs : ∀ c c2, c = 40 ∨ c = 41 ∨ c = 44 ∨ c = 59 ∨ c = 61 ∨ c = 43 ∨ c = 45 ∨ c = 42 ∨ c = 47 ∨ c = 37 ∨ c = 60 ∨ c = 46 → sgk c c2 ≠ 23 := by
    intro c c2 h
    unfold sgk
    repeat' split
    all_goals first | decide | omega
  match i, hi with
  | 0, _ => exact ⟨40, by decide, rfl, fun c2 => hs _ _ (by decide)⟩
  | 1, _ => exact ⟨41, by decide, rfl, fun c2 => hs _ _ (by decide)⟩
  | 2, _ => exact ⟨44, by decide, rfl, fun c2 => hs _ _ (by decide)⟩
  | 3, _ => exact ⟨59, by decide, rfl, fun c2 => hs _ _ (by decide)⟩
  | 4, _ => exact ⟨61, by decide, rfl, fun c2 => hs _ _ (by decide)⟩
  | 5, _ => exact ⟨43, by decide, rfl, fun c2 => hs _ _ (by decide)⟩
  | 6, _ => exact ⟨45, by decide, rfl, fun c2 => hs _ _ (by decide)⟩
  | 7, _ => exact ⟨42, by decide, rfl, fun c2 => hs _ _ (by decide)⟩
  | 8, _ => exact ⟨47, by decide, rfl, fun c2 => hs _ _ (by decide)⟩
  | 9, _ => exact ⟨37, by decide, rfl, fun c2 => hs _ _ (by decide)⟩
  | 10, _ => exact ⟨60, by decide, rfl, fun c2 => hs _ _ (by decide)⟩
  | 11, _ => exact ⟨46, by decide, rfl, fun c2 => hs _ _ (by decide)⟩
  | i + 12, h => exact absurd h (by omega)
theorem sg_no {c c2 : Nat} (h : ∀ i, i < 12 → (g_stb.getD 0 []).getD i 0 ≠ nI c) : sgk c c2 = 23 := by
  have ne : ∀ i x, i < 12 → (g_stb.getD 0 []).getD i 0 = nI x → c ≠ x := fun i x hi e z => h i hi (by rw [z]; exact e)
  unfold sgk
  rw [if_neg (ne 0 40 (by decide) rfl), if_neg (ne 1 41 (by decide) rfl), if_neg (ne 2 44 (by decide) rfl), if_neg (ne 3 59 (by decide) rfl), if_neg (ne 4 61 (by decide) rfl), if_neg (ne 5 43 (by decide) rfl), if_neg (ne 6 45 (by decide) rfl), if_neg (ne 7 42 (by decide) rfl), if_neg (ne 8 47 (by decide) rfl), if_neg (ne 9 37 (by decide) rfl), if_neg (ne 10 60 (by decide) rfl), if_neg (ne 11 46 (by decide) rfl)]
theorem sg_ck {c c2 : Nat} (h : sgk c c2 ≠ 23) (h61 : ¬ (c = 61 ∧ c2 = 61)) : cK (sgk c c2) = nI c ∧ sgk c c2 ≠ 21 := by
  have hc : c = 40 ∨ c = 41 ∨ c = 44 ∨ c = 59 ∨ c = 61 ∨ c = 43 ∨ c = 45 ∨ c = 42 ∨ c = 47 ∨ c = 37 ∨ c = 60 ∨ c = 46 := by
    unfold sgk at h
    repeat' split at h
    all_goals first | omega | exact absurd rfl h
  rcases hc with rfl | rfl | rfl | rfl | rfl | rfl | rfl | rfl | rfl | rfl | rfl | rfl
  all_goals first
    | exact ⟨rfl, by simp [sgk]⟩
    | (have e : sgk 61 c2 = 14 := by
         have : ¬ c2 = 61 := fun z => h61 ⟨rfl, z⟩
         simp [sgk, this]
       rw [e]
       exact ⟨rfl, by decide⟩)
theorem m_scanSign {t : gSt} (hcs : g_CS cx) (hL : Lay t ad) (hX : txC ad T n t) (ha : a ≤ n) (h0 : t.2.1 (ad 4) 8 = 0) (h3 : t.2.1 (ad 4) 3 = 1) (h2 : t.2.1 (ad 4) 2 = nI (tkS T n a)) (h5 : t.2.1 (ad 4) 5 = nI (tkS T n a)) (hne : ¬ T (tkS T n a) = 256) (hl : isL (T (tkS T n a)) = false) (hc : isD (T (tkS T n a)) = false) (k1 : ∀ u, gFr ad tcP t u → hcC ad T n a u → post none u) (k2 : ∀ u, gFr ad tcP t u → tkK T n a = 23 → ddC ad 1 (tkS T n a) u → post none u) : g_E cx (d + 5) i_Tokens_scanSign [.ref (ad 4)] t post := by
  have hn := hX.1.1
  have hp := tkS_lt hX.1 ha hne
  obtain ⟨eE, eK⟩ := tkE_S hne hl hc
  obtain ⟨v, hv1, hv2⟩ := hcs.2.2 0 (by decide)
  have hbx := hX.2.2.2 (tkS T n a) hp
  have hsg := sgk_ge (T (tkS T n a)) (T (tkS T n a + 1))
  have bad : ∀ D, tkK T n a = 23 → g_E cx (D + 1) i_Tokens_failAt [.ref (ad 4), .int 1, .int (nI (tkS T n a))] t (fun r u2 => r = none ∧ Lay u2 ad ∧ (post none u2)) := fun D hk => m_failAt (c := 1) hL (by decide) h0 (fun w Fw hd _ => ⟨rfl, Fw.L, k2 w Fw hk hd⟩)
  refine x_Tokens_scanSign hL hX.2.1 ⟨_, hv1, rfl⟩ ?_
  rw [h2, nI_clamp (by omega)]
  refine ⟨vp_in_nI (by omega) (by omega), fun x1 e1 => ?_⟩
  rw [← e1] at hbx
  rw [h5]
  refine ⟨fun q => bad _ ?_, fun q => ?_⟩
  · rw [hbx.neg] at q
    rw [eK]
    refine sg_no (fun i hi z => ?_)
    obtain ⟨c, hc1, hc2, _⟩ := sg_in i hi
    rw [hc2, nI_eq (by omega) (by have := hbx.1; omega)] at z
    omega
  · rw [hbx.neg] at q
    have ex : x1 = nI (T (tkS T n a)) := hbx.2.1 (by omega)
    have e2 : ∀ c, c < 128 → ((nI c).toUInt32 % 65536).toInt32 = nI c ∧ (nI c).toInt8.toInt32 = nI c := by decide +kernel
    obtain ⟨e3, e4⟩ := e2 (T (tkS T n a)) (by omega)
    rw [ex, e3]
    have mid : sgk (T (tkS T n a)) (T (tkS T n a + 1)) ≠ 23 → ∀ t6, t6 = g_si t (ad 4) 4 (nI (T (tkS T n a))) → ∀ t7, t7 = g_si t6 (ad 4) 2 ((t6.2.1 (ad 4) 2) + 1) → (¬ nI (T (tkS T n a)) = 61 → post none t7) ∧ (¬ (¬ nI (T (tkS T n a)) = 61) → ((t7.2.1 (ad 4) 1) ≤ (t7.2.1 (ad 4) 2) → post none t7) ∧ (¬ ((t7.2.1 (ad 4) 1) ≤ (t7.2.1 (ad 4) 2)) → vp_in (t7.2.1 (ad 4) 2) 3000 ∧ ((¬ (t7.2.1 (ad 1) ((t7.2.1 (ad 4) 2) : Int32).toNatClampNeg) = 61 → post none t7) ∧ (¬ (¬ (t7.2.1 (ad 1) ((t7.2.1 (ad 4) 2) : Int32).toNatClampNeg) = 61) → ∀ t8, t8 = g_si t7 (ad 4) 4 10 → ∀ t9, t9 = g_si t8 (ad 4) 2 ((t8.2.1 (ad 4) 2) + 1) → post none t9)))) := by
      intro hs t6 e6 t7 e7
      have h67 : t6.2.1 (ad 4) 2 = nI (tkS T n a) := by rw [e6, g_rd_k (by decide)]; exact h2
      rw [h67, nI_1] at e7
      have F7 : gFr ad tcP t t7 := by rw [e7, e6]; exact ((gFr.rf hL).si rfl).si rfl
      have r2 : t7.2.1 (ad 4) 2 = nI (tkS T n a + 1) := by rw [e7, g_rd_at]
      have rd : ∀ k, k ≠ 2 → k ≠ 4 → t7.2.1 (ad 4) k = t.2.1 (ad 4) k := fun k z1 z2 => by rw [e7, e6, g_rd_k z1, g_rd_k z2]
      have fin : ¬ (T (tkS T n a) = 61 ∧ T (tkS T n a + 1) = 61) → post none t7 := fun z => by
        obtain ⟨s1, s2⟩ := sg_ck hs z
        refine k1 t7 F7 ⟨by rw [rd 8 (by decide) (by decide)]; exact h0, by rw [rd 3 (by decide) (by decide)]; exact h3, by rw [eK]; exact hs, ?_, ?_, ?_, fun w => by omega, fun w => by omega⟩
        · rw [r2, eE, if_neg s2]
        · rw [e7, g_rd_k (by decide), e6, g_rd_at, eK, s1]
        · rw [rd 5 (by decide) (by decide)]; exact h5
      have e61 : nI (T (tkS T n a)) = 61 ↔ T (tkS T n a) = 61 := nI_eq (b := 61) (by omega) (by decide)
      rw [e61, r2, rd 1 (by decide) (by decide), hX.2.2.1, nI_leI (by omega) (by omega), nI_clamp (by omega)]
      refine ⟨fun z => fin (fun y => z y.1), fun z => ⟨fun y => fin (fun w => ?_), fun y => ⟨vp_in_nI (by omega) (by omega), ?_⟩⟩⟩
      · rw [hX.1.2.2 _ y] at w
        omega
      · have hb2 := hX.2.2.2 (tkS T n a + 1) (by omega)
        have e62 : t7.2.1 (ad 1) (tkS T n a + 1) = 61 ↔ T (tkS T n a + 1) = 61 := by
          rw [F7.i 1 _ rfl]
          exact hb2.eq (m := 61) (by decide)
        rw [e62]
        refine ⟨fun w => fin (fun y => w y.2), fun w t8 e8 t9 e9 => ?_⟩
        have h61 : T (tkS T n a) = 61 := by omega
        have h62 : T (tkS T n a + 1) = 61 := by omega
        have h89 : t8.2.1 (ad 4) 2 = nI (tkS T n a + 1) := by rw [e8, g_rd_k (by decide)]; exact r2
        rw [h89, nI_1] at e9
        have F9 : gFr ad tcP t7 t9 := by rw [e9, e8]; exact ((gFr.rf F7.L).si rfl).si rfl
        have rd9 : ∀ k, k ≠ 2 → k ≠ 4 → t9.2.1 (ad 4) k = t.2.1 (ad 4) k := fun k z1 z2 => by rw [e9, e8, g_rd_k z1, g_rd_k z2, rd k z1 z2]
        have es : sgk (T (tkS T n a)) (T (tkS T n a + 1)) = 21 := by rw [h61, h62]; rfl
        refine k1 t9 (F7.tr F9) ⟨by rw [rd9 8 (by decide) (by decide)]; exact h0, by rw [rd9 3 (by decide) (by decide)]; exact h3, by rw [eK]; exact hs, ?_, ?_, ?_, fun w => by omega, fun w => by omega⟩
        · rw [e9, g_rd_at, eE, if_pos es]
        · rw [e9, g_rd_k (by decide), e8, g_rd_at, eK, es]; rfl
        · rw [rd9 5 (by decide) (by decide)]; exact h5
    refine m_Str_indexOf (n := 12) e4 (nI_pos (by omega)) (by rw [show (255 : Int32) = nI 255 from rfl, nI_ltI (by omega) (by omega)]; omega) (by decide) (by decide) hv1 hv2 (fun i hi z => ⟨_, rfl, hL, hX.2.1, fun _ => mid ?_, fun y => absurd (nI_pos' (by omega)) y⟩) (fun z => ⟨_, rfl, hL, hX.2.1, fun y => absurd y (by decide), fun _ => ?_⟩)
    · obtain ⟨c, hc1, hc2, hc3⟩ := sg_in i hi
      rw [hc2, nI_eq (by omega) (by omega)] at z
      rw [← z]
      exact hc3 _
    · rw [h5]
      refine bad _ ?_
      rw [eK]
      exact sg_no z
theorem tk0 (hT : txt T n) (h : n ≤ tkS T n a) : tkK T n a = 0 ∧ tkE T n a = tkS T n a := by
  have : T (tkS T n a) = 256 := hT.2.2 _ h
  unfold tkK tkE
  rw [if_pos this, if_pos this]
  exact ⟨rfl, rfl⟩
/-- the next token is looked at -/
theorem m_peek {t : gSt} (hcs : g_CS cx) (hL : Lay t ad) (hX : txC ad T n t) (ha : a ≤ n) (hC : cuC ad T n a t) (k1 : ∀ u, gFr ad tcP t u → hcC ad T n a u → post (some (.int (cK (tkK T n a)))) u) (k2 : ∀ u, gFr ad tcP t u → tkK T n a = 23 → ddC ad 1 (tkS T n a) u → post (some (.int 11)) u) : g_E cx (d + 6) i_Tokens_peek [.ref (ad 4)] t post := by
  obtain ⟨h0, hC⟩ := hC
  have live : ∀ u, gFr ad tcP t u → hcC ad T n a u → g_W cx (g_E cx (d + 5)) mt_Tokens_peek post (133, [some (.ref (ad 4))], [], u, 0, 0) := fun u F H => x_Tokens_peek_133 F.L ⟨fun q => absurd H.1 q, fun _ => x_Tokens_peek_149 F.L (by rw [H.2.2.2.2.1]; exact k1 u F H)⟩
  have dead : ∀ u, gFr ad tcP t u → tkK T n a = 23 → ddC ad 1 (tkS T n a) u → g_W cx (g_E cx (d + 5)) mt_Tokens_peek post (133, [some (.ref (ad 4))], [], u, 0, 0) := fun u F hk H => x_Tokens_peek_133 F.L ⟨fun _ => x_Tokens_peek_149 F.L (k2 u F hk H), fun q => absurd H.ne q⟩
  rcases hC with ⟨h3, h2⟩ | ⟨h3, hd⟩
  · refine x_Tokens_peek hL ⟨fun q => absurd h0 q, fun _ => ⟨fun q => absurd h3 q, fun _ t1 e1 => ?_⟩⟩
    have hn := hX.1.1
    have F1 : gFr ad tcP t t1 := by rw [e1]; exact (gFr.rf hL).si rfl
    have r1 : ∀ k, k ≠ 3 → t1.2.1 (ad 4) k = t.2.1 (ad 4) k := fun k z => by rw [e1, g_rd_k z]
    refine tp_skip (n - a) a t1 rfl ha F1.L (hX.fr F1 rfl rfl (fun _ => rfl)) (by rw [r1 2 (by decide)]; exact h2) (fun u Fu hu => ?_)
    have Fu' := F1.tr (Fu.mo (fun c k z => tc2_t z))
    have hXu := hX.fr Fu' rfl rfl (fun _ => rfl)
    have hu0 : u.2.1 (ad 4) 8 = 0 := by rw [Fu.i 4 8 rfl, r1 8 (by decide)]; exact h0
    have hu3 : u.2.1 (ad 4) 3 = 1 := by rw [Fu.i 4 3 rfl, e1, g_rd_at]
    have hu : u.2.1 (ad 4) 2 = nI (tkS T n a) := hu
    refine x_Tokens_peek_58 Fu'.L hXu.2.1 (fun t2 e2 => ?_)
    have F2 : gFr ad tcP u t2 := by rw [e2]; exact (gFr.rf Fu'.L).si rfl
    have r2 : ∀ k, k ≠ 5 → t2.2.1 (ad 4) k = u.2.1 (ad 4) k := fun k z => by rw [e2, g_rd_k z]
    have G := Fu'.tr F2
    have hX2 := hXu.fr F2 rfl rfl (fun _ => rfl)
    have g0 : t2.2.1 (ad 4) 8 = 0 := by rw [r2 8 (by decide)]; exact hu0
    have g3 : t2.2.1 (ad 4) 3 = 1 := by rw [r2 3 (by decide)]; exact hu3
    have g2 : t2.2.1 (ad 4) 2 = nI (tkS T n a) := by rw [r2 2 (by decide)]; exact hu
    have g5 : t2.2.1 (ad 4) 5 = nI (tkS T n a) := by rw [e2, g_rd_at]; exact hu
    have hple := tkS_le (T := T) ha
    rw [g2, hX2.2.2.1, nI_ltI (by omega) (by omega)]
    refine ⟨fun q => ⟨vp_in_nI (by omega) (by omega), ?_⟩, fun q t3 e3 => ?_⟩
    · rw [nI_clamp (by omega)]
      have hbx := hX2.2.2.2 _ q
      have hne : ¬ T (tkS T n a) = 256 := by have := hX.1.2.1 _ q; omega
      refine m_isLetter F2.L hbx ⟨_, rfl, F2.L, hX2.2.1, fun z => ?_, fun z => ?_⟩
      · rw [b32_0] at z
        rw [g2, nI_clamp (by omega)]
        refine ⟨vp_in_nI (by omega) (by omega), m_isDigit F2.L hbx ⟨_, rfl, F2.L, fun y => ?_, fun y => ?_⟩⟩
        · rw [b32_0] at y
          exact m_scanSign (a := a) hcs F2.L hX2 ha g0 g3 g2 g5 hne z y (fun w Fw H => ⟨rfl, Fw.L, live w (G.tr Fw) H⟩) (fun w Fw hk H => ⟨rfl, Fw.L, dead w (G.tr Fw) hk H⟩)
        · rw [b32_0, Bool.not_eq_false] at y
          exact m_scanNumber (a := a) F2.L hX2 ha g0 g3 g2 g5 z y (fun w Fw H => ⟨rfl, Fw.L, live w (G.tr Fw) H⟩) (fun w Fw hk H => ⟨rfl, Fw.L, dead w (G.tr Fw) hk H⟩)
      · rw [b32_0, Bool.not_eq_false] at z
        exact m_scanName (a := a) hcs F2.L hX2 ha g0 g3 g2 g5 z (fun w Fw H => ⟨rfl, Fw.L, live w (G.tr Fw) H⟩) (fun w Fw hk H => ⟨rfl, Fw.L, dead w (G.tr Fw) hk H⟩)
    · have F3 : gFr ad tcP t2 t3 := by rw [e3]; exact (gFr.rf F2.L).si rfl
      have r3 : ∀ k, k ≠ 4 → t3.2.1 (ad 4) k = t2.2.1 (ad 4) k := fun k z => by rw [e3, g_rd_k z]
      obtain ⟨eK, eE⟩ := tk0 (a := a) hX.1 (by omega)
      refine live t3 (G.tr F3) ⟨by rw [r3 8 (by decide)]; exact g0, by rw [r3 3 (by decide)]; exact g3, by omega, ?_, ?_, ?_, fun w => by omega, fun w => by omega⟩
      · rw [r3 2 (by decide), eE]; exact g2
      · rw [e3, g_rd_at, eK]; rfl
      · rw [r3 5 (by decide)]; exact g5
  · refine x_Tokens_peek hL ⟨fun q => absurd h0 q, fun _ => ⟨fun _ => live t (gFr.rf hL) ⟨h0, h3, hd⟩, fun q => ?_⟩⟩
    rw [h3] at q
    exact absurd (show ¬ (1 : Int32) = 0 by decide) q
end TE
