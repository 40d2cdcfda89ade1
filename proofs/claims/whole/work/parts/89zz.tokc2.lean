/-! TOKENS OF THE CLASS: names, numbers, signs -/
theorem pk8_app (l : List Nat) (c : Nat) : pk8 (l ++ [c]) = pk8 l <<< 8 ||| Int64.ofNat c := by
  unfold pk8
  rw [List.foldl_append]
  rfl
def tcN (c k : Nat) : Bool := Nat.beq c 4 && (Nat.beq k 2 || Nat.beq k 7)
def tc4 (c k : Nat) : Bool := Nat.beq c 4 && Nat.beq k 4
theorem tc2_t {c k : Nat} (h : tc2 c k = true) : tcP c k = true := by
  unfold tc2 at h
  unfold tcP
  simp only [Bool.and_eq_true, Nat.beq_eq, Nat.ble_eq] at h ⊢
  omega
theorem tcN_t {c k : Nat} (h : tcN c k = true) : tcP c k = true := by
  unfold tcN at h
  unfold tcP
  simp only [Bool.and_eq_true, Bool.or_eq_true, Nat.beq_eq, Nat.ble_eq] at h ⊢
  omega
theorem tc4_t {c k : Nat} (h : tc4 c k = true) : tcP c k = true := by
  unfold tc4 at h
  unfold tcP
  simp only [Bool.and_eq_true, Nat.beq_eq, Nat.ble_eq] at h ⊢
  omega
/-- the kind of a name, as the class finds it -/
def wfo (x : Int64) : Nat → Int32 → Int32
  | 0, k => k
  | m + 1, k => wfo x m (if x = g_wds.getD (7 - (m + 1)) 0 then 3 + nI (7 - (m + 1)) else k)
theorem wdl_ok : ∀ l ∈ wdl, nm_ok l := by
  have h : ∀ l ∈ wdl, l ≠ [] ∧ l.length ≤ 8 ∧ (∀ c ∈ l, 0 < lt6 c) ∧ 97 ≤ l.head?.getD 97 := by decide
  intro l hl
  obtain ⟨h1, h2, h3, h4⟩ := h l hl
  exact ⟨h1, h2, h3, fun c hc => by rw [hc] at h4; exact h4⟩
theorem wds_pk : ∀ i, i < 7 → g_wds.getD i 0 = pk8 (wdl.getD i []) := by decide
theorem wdl_nkd : ∀ i, i < 7 → nkd (wdl.getD i []) = 3 + i := by decide
theorem wfo_nkd {nm : List Nat} (h : nm_ok nm) : wfo (pk8 nm) 7 1 = cK (nkd nm) := by
  have key : ∀ i, i < 7 → (pk8 nm = g_wds.getD i 0 ↔ nm = wdl.getD i []) := fun i hi => by
    rw [wds_pk i hi]
    refine pk8_inj h (wdl_ok _ ?_)
    have : i < wdl.length := hi
    rw [List.getD_eq_getElem?_getD, List.getElem?_eq_getElem this]
    exact List.getElem_mem this
  by_cases q : ∃ i, i < 7 ∧ nm = wdl.getD i []
  · obtain ⟨i, hi, e⟩ := q
    rw [e]
    have : ∀ i, i < 7 → wfo (pk8 (wdl.getD i [])) 7 1 = cK (nkd (wdl.getD i [])) := by decide
    exact this i hi
  · have ne : ∀ i, i < 7 → ¬ nm = wdl.getD i [] := fun i hi e => q ⟨i, hi, e⟩
    have nk : ∀ i, i < 7 → ¬ pk8 nm = g_wds.getD i 0 := fun i hi e => ne i hi ((key i hi).mp e)
    have e1 : nkd nm = 2 := by
      have n0 : ¬ nm = [100, 101, 102] := ne 0 (by decide)
      have n1 : ¬ nm = [108, 101, 116] := ne 1 (by decide)
      have n2 : ¬ nm = [105, 110] := ne 2 (by decide)
      have n3 : ¬ nm = [105, 102] := ne 3 (by decide)
      have n4 : ¬ nm = [116, 104, 101, 110] := ne 4 (by decide)
      have n5 : ¬ nm = [101, 108, 115, 101] := ne 5 (by decide)
      have n6 : ¬ nm = [112, 117, 116] := ne 6 (by decide)
      unfold nkd
      rw [if_neg n0, if_neg n1, if_neg n2, if_neg n3, if_neg n4, if_neg n5, if_neg n6]
    rw [e1]
    simp only [wfo]
    rw [if_neg (nk (7 - (6 + 1)) (by decide)), if_neg (nk (7 - (5 + 1)) (by decide)), if_neg (nk (7 - (4 + 1)) (by decide)), if_neg (nk (7 - (3 + 1)) (by decide)), if_neg (nk (7 - (2 + 1)) (by decide)), if_neg (nk (7 - (1 + 1)) (by decide)), if_neg (nk (7 - (0 + 1)) (by decide))]
    rfl
section TD
variable {cx : gCx} {d : Nat} {ad : Nat → Nat} {T : Nat → Nat} {n a : Nat} {post : Option Value → gSt → Prop}
theorem tn_words (hcs : g_CS cx) : ∀ (m : Nat) (t : gSt), m ≤ 7 → Lay t ad → (∀ u, gFr ad tc4 t u → u.2.1 (ad 4) 4 = wfo (t.2.2.1 (ad 4) 7) m (t.2.1 (ad 4) 4) → post none u) → g_W cx (g_E cx d) mt_Tokens_scanName post (111, [some (.ref (ad 4)), some (.int (nI (7 - m)))], [], t, 0, 0) := by
  intro m
  induction m with
  | zero =>
    intro t hm hL hK
    exact x_Tokens_scanName_111 hL hcs.2.1 ⟨fun _ => hK t (gFr.rf hL) rfl, fun q => absurd (show (7 : Int32) ≤ nI (7 - 0) by decide) q⟩
  | succ m ih =>
    intro t hm hL hK
    have e7 : nI (7 - (m + 1)) + 1 = nI (7 - m) := by rw [nI_1, show 7 - (m + 1) + 1 = 7 - m by omega]
    refine x_Tokens_scanName_111 hL hcs.2.1 ⟨fun q => ?_, fun _ => ⟨vp_in_nI (by omega) (by omega), fun q => ?_, fun q t1 e1 => ?_⟩⟩
    · rw [show (7 : Int32) = nI 7 from rfl, nI_leI (by omega) (by omega)] at q
      omega
    · rw [nI_clamp (by omega), lg_cmp_eq] at q
      rw [e7]
      refine ih t (by omega) hL (fun u F hu => hK u F ?_)
      rw [hu]
      simp only [wfo]
      rw [if_neg q]
    · rw [nI_clamp (by omega), lg_cmp_eq, Classical.not_not] at q
      rw [e7]
      have F : gFr ad tc4 t t1 := by rw [e1]; exact (gFr.rf hL).si rfl
      refine ih t1 (by omega) F.L (fun u Fu hu => hK u (F.tr Fu) ?_)
      rw [hu, F.j 4 7 rfl, e1, g_rd_at]
      simp only [wfo]
      rw [if_pos q]
theorem tn_loop {p : Nat} {t0 : gSt} : ∀ (m b : Nat) (t : gSt), n - b = m → p ≤ b → b ≤ n → gFr ad tcN t0 t → txC ad T n t → t.2.1 (ad 4) 2 = nI b → t.2.1 (ad 4) 5 = nI p → t.2.2.1 (ad 4) 7 = pk8 (tby T p (b - p)) →
    (∀ u, gFr ad tcN t0 u → u.2.1 (ad 4) 2 = nI (rn isA T n b) → u.2.2.1 (ad 4) 7 = pk8 (tby T p (rn isA T n b - p)) → (((u.2.1 (ad 4) 2) - (u.2.1 (ad 4) 5)) ≤ 8 → ∀ t1, t1 = g_si u (ad 4) 4 1 → g_W cx (g_E cx (d + 1)) mt_Tokens_scanName post (111, [some (.ref (ad 4)), some (.int 0)], [], t1, 0, 0)) ∧ (¬ (((u.2.1 (ad 4) 2) - (u.2.1 (ad 4) 5)) ≤ 8) → g_E cx (d + 1) i_Tokens_failAt [.ref (ad 4), .int 1, .int (u.2.1 (ad 4) 5)] u (fun r u2 => r = none ∧ Lay u2 ad ∧ (∀ t4, t4 = g_si u2 (ad 4) 4 1 → g_W cx (g_E cx (d + 1)) mt_Tokens_scanName post (111, [some (.ref (ad 4)), some (.int 0)], [], t4, 0, 0))))) →
    g_W cx (g_E cx (d + 1)) mt_Tokens_scanName post (5, [some (.ref (ad 4)), none], [], t, 0, 0) := by
  intro m
  induction m with
  | zero =>
    intro b t hm hpb hb hF hX h2 h5 h7 hK
    have hn := hX.1.1
    have e : rn isA T n b = b := rn_no (by rw [hX.1.2.2 b (by omega)]; rfl)
    refine x_Tokens_scanName_5 hF.L hX.2.1 ⟨fun _ => hK t hF (by rw [e]; exact h2) (by rw [e]; exact h7), fun q => ?_⟩
    rw [hX.2.2.1, h2, nI_leI (by omega) (by omega)] at q
    omega
  | succ m ih =>
    intro b t hm hpb hb hF hX h2 h5 h7 hK
    have hn := hX.1.1
    have hL := hF.L
    have hbx := hX.2.2.2 b (by omega)
    -- one sign more
    have more : isA (T b) = true → ∀ x : Int64, x = (t.2.2.1 (ad 4) 7 <<< ((8 : Int32).toInt64 &&& 63)) ||| (t.2.1 (ad 1) b).toInt64 → ∀ t7, t7 = g_sj t (ad 4) 7 x → ∀ t8, t8 = g_si t7 (ad 4) 2 (t7.2.1 (ad 4) 2 + 1) → g_W cx (g_E cx (d + 1)) mt_Tokens_scanName post (5, [some (.ref (ad 4)), none], [], t8, 0, 0) := by
      intro hq x ex t7 e7 t8 e8
      have hA := isA_i.mp hq
      have h8 : t8.2.1 (ad 4) 2 = nI (b + 1) := by rw [e8, g_rd_at, e7, g_sj_i, h2, nI_1]
      have F : gFr ad tcN t t8 := by rw [e8, e7]; exact ((gFr.rf hL).sj rfl).si rfl
      refine ih (b + 1) t8 (by omega) (by omega) (by omega) (hF.tr F) (hX.fr F rfl rfl (fun _ => rfl)) h8 ?_ ?_ (fun u Fu hu hu7 => hK u Fu ?_ ?_)
      · rw [F.i 4 5 rfl]; exact h5
      · rw [e8, g_si_j, e7]
        rw [show (g_sj t (ad 4) 7 x).2.2.1 (ad 4) 7 = x from g_up_v, ex, h7, show b + 1 - p = (b - p) + 1 by omega, tby_s, pk8_app, show p + (b - p) = b by omega, hbx.2.1 (by omega), nI_l (by omega)]
        rfl
      · rw [rn_yes hq (by omega)]; exact hu
      · rw [rn_yes hq (by omega)]; exact hu7
    refine x_Tokens_scanName_5 hL hX.2.1 ⟨fun q => ?_, fun _ => ?_⟩
    · rw [hX.2.2.1, h2, nI_leI (by omega) (by omega)] at q
      omega
    · rw [h2, nI_clamp (by omega)]
      have hv := vp_in_nI (n := b) (N := 3000) (by omega) (by omega)
      refine ⟨hv, m_isLetter hL hbx ⟨_, rfl, hL, hX.2.1, fun q => ?_, fun q => ?_⟩⟩
      · rw [b32_0, Bool.not_eq_false] at q
        rw [h2, nI_clamp (by omega)]
        exact ⟨hv, fun t7 e7 => more (by unfold isA; rw [q]; rfl) _ rfl t7 e7⟩
      · rw [Classical.not_not, b32_0] at q
        rw [h2, nI_clamp (by omega)]
        refine ⟨hv, m_isDigit hL hbx ⟨_, rfl, hL, hX.2.1, fun q2 => ?_, fun q2 => ?_⟩⟩
        · rw [b32_0] at q2
          have e : rn isA T n b = b := rn_no (by unfold isA; rw [q, q2]; rfl)
          exact hK t hF (by rw [e]; exact h2) (by rw [e]; exact h7)
        · rw [b32_0, Bool.not_eq_false] at q2
          rw [h2, nI_clamp (by omega)]
          exact ⟨hv, fun t7 e7 => more (by unfold isA; rw [q2, Bool.or_true]) _ rfl t7 e7⟩
theorem tkE_L (h1 : ¬ T (tkS T n a) = 256) (h2 : isL (T (tkS T n a)) = true) : tkE T n a = rn isA T n (tkS T n a) ∧ tkK T n a = if (tkN T n a).length ≤ 8 then nkd (tkN T n a) else 23 := by
  unfold tkE tkK
  rw [if_neg h1, if_neg h1, if_pos h2, if_pos h2]
  exact ⟨rfl, rfl⟩
theorem m_scanName {t : gSt} (hcs : g_CS cx) (hL : Lay t ad) (hX : txC ad T n t) (ha : a ≤ n) (h0 : t.2.1 (ad 4) 8 = 0) (h3 : t.2.1 (ad 4) 3 = 1) (h2 : t.2.1 (ad 4) 2 = nI (tkS T n a)) (h5 : t.2.1 (ad 4) 5 = nI (tkS T n a)) (hc : isL (T (tkS T n a)) = true) (k1 : ∀ u, gFr ad tcP t u → hcC ad T n a u → post none u) (k2 : ∀ u, gFr ad tcP t u → tkK T n a = 23 → ddC ad 1 (tkS T n a) u → post none u) : g_E cx (d + 2) i_Tokens_scanName [.ref (ad 4)] t post := by
  have hn := hX.1.1
  have hi := isL_i.mp hc
  have hne : ¬ T (tkS T n a) = 256 := by omega
  have hp := tkS_lt hX.1 ha hne
  obtain ⟨eE, eK⟩ := tkE_L hne hc
  have hlen : (tkN T n a).length = rn isA T n (tkS T n a) - tkS T n a := tby_len _ _ _
  have hge := rn_ge (q := isA) (T := T) (n := n) (a := tkS T n a)
  have hle := rn_le (q := isA) (T := T) (n := n) (a := tkS T n a) (by omega)
  refine x_Tokens_scanName hL (fun t1 e1 => ?_)
  have F1 : gFr ad tcN t t1 := by rw [e1]; exact (gFr.rf hL).sj rfl
  refine tn_loop (p := tkS T n a) (t0 := t) (n - tkS T n a) (tkS T n a) t1 rfl (Nat.le_refl _) (by omega) F1 (hX.fr F1 rfl rfl (fun _ => rfl)) (by rw [e1, g_sj_i]; exact h2) (by rw [e1, g_sj_i]; exact h5) (by
    rw [e1, show (g_sj t (ad 4) 7 0).2.2.1 (ad 4) 7 = 0 from g_up_v, Nat.sub_self]
    rfl) (fun u F hu2 hu7 => ?_)
  have hu5 : u.2.1 (ad 4) 5 = nI (tkS T n a) := by rw [F.i 4 5 rfl]; exact h5
  have hu0 : u.2.1 (ad 4) 8 = 0 := by rw [F.i 4 8 rfl]; exact h0
  have hu3 : u.2.1 (ad 4) 3 = 1 := by rw [F.i 4 3 rfl]; exact h3
  rw [hu2, hu5, nI_sub hge, show (8 : Int32) = nI 8 from rfl, nI_leI (by omega) (by omega)]
  refine ⟨fun q t2 e2 => ?_, fun q => ?_⟩
  · have F2 : gFr ad tc4 u t2 := by rw [e2]; exact (gFr.rf F.L).si rfl
    refine tn_words hcs 7 t2 (Nat.le_refl _) F2.L (fun w Fw hw => k1 w ((F.mo (fun c k z => tcN_t z)).tr ((F2.tr Fw).mo (fun c k z => tc4_t z))) ?_)
    have G := F2.tr Fw
    have hnm : nm_ok (tkN T n a) := by
      have eK2 : tkK T n a = nkd (tkN T n a) := by rw [eK, if_pos (by omega)]
      by_cases z : tkK T n a = 2
      · exact tkN_ok hX.1 ha z
      · have : ∃ l ∈ wdl, tkN T n a = l := by
          rw [eK2] at z
          unfold nkd at z
          repeat' split at z
          all_goals first | exact absurd rfl z | (rename_i q; exact ⟨_, by rw [q]; decide, rfl⟩)
        obtain ⟨l, hl, e⟩ := this
        rw [e]
        exact wdl_ok l hl
    have eJ : u.2.2.1 (ad 4) 7 = pk8 (tkN T n a) := hu7
    have hnk := nkd_ge (tkN T n a)
    have eK2 : tkK T n a = nkd (tkN T n a) := by rw [eK, if_pos (by omega)]
    refine ⟨by rw [G.i 4 8 rfl]; exact hu0, by rw [G.i 4 3 rfl]; exact hu3, by omega, ?_, ?_, ?_, fun z => by omega, fun _ => ?_⟩
    · rw [G.i 4 2 rfl, eE]; exact hu2
    · rw [hw, F2.j 4 7 rfl, eJ, e2, g_rd_at, wfo_nkd hnm, eK2]
    · rw [G.i 4 5 rfl]; exact hu5
    · rw [G.j 4 7 rfl]; exact eJ
  · refine m_failAt (c := 1) F.L (by decide) hu0 (fun w Fw hd hk => ⟨rfl, Fw.L, fun t4 e4 => ?_⟩)
    have F4 : gFr ad tc4 w t4 := by rw [e4]; exact (gFr.rf Fw.L).si rfl
    refine tn_words hcs 7 t4 (Nat.le_refl _) F4.L (fun v Fv hv => k2 v (((F.mo (fun c k z => tcN_t z)).tr Fw).tr ((F4.tr Fv).mo (fun c k z => tc4_t z))) (by rw [eK, if_neg (by omega)]) ?_)
    have G := F4.tr Fv
    exact ⟨hd.1, by rw [G.i 4 8 rfl]; exact hd.2.1, by rw [G.i 4 9 rfl]; exact hd.2.2⟩
end TD
