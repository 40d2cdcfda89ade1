/-! THE MODEL READS AN EXPRESSION: names and calls -/
/-- the variable of a name: the last one -/
def scl (sc : SC) (nm : List Nat) : Nat → Option Nat
  | 0 => none
  | i + 1 => if (sc.getD i ([], 0)).1 = nm then some (sc.getD i ([], 0)).2 else scl sc nm i
def fup (f : Nat → Nat) (c v : Nat) : Nat → Nat := fun i => if i = c then v else f i
section MC
variable {cx : gCx} {d : Nat} {ad : Nat → Nat} {T : Nat → Nat} {n x Pm c0 a l o : Nat} {t0 t u : gSt} {sc : SC} {cl : CL} {ac : Nat → Nat} {V V0 W : Fo} {K : AT} {post : Option Value → gSt → Prop}
theorem m_lookF (h : MP ad T n x Pm c0 t0 a l o sc cl ac V K t) (ha : a ≤ n) (k1 : tkK T n a ≠ 23 → ∀ u, gFr ad tmP t u → MPh ad T n x Pm c0 t0 a l o sc cl ac V K u → post (some (.int (nI (tkK T n a)))) u) (k2 : tkK T n a = 23 → ∀ u, gFr ad tmP t u → DD ad x t0 1 (tkS T n a) u → post (some (.int (-1))) u) : g_E cx (d + 4) i_Mo_look [.ref (ad 144)] t post :=
  m_tok h.L h.X ha h.2.2.2.1 (fun u F H => k1 H.2.2.1 u F ⟨h.tm F H.cu, H⟩) (fun u F hk H => k2 hk u F ⟨h.1.tr (F.mo (fun c k z => mr_tm z)), H⟩)
theorem MPh.hold {y : Int64} (h : MPh ad T n x Pm c0 t0 a l o sc cl ac V K t) (e : u = g_sj t (ad 144) 41 y) : MPh ad T n x Pm c0 t0 a l o sc cl ac V K u := by
  have hL := h.1.L
  have F : gFr ad (fun c k => Nat.beq c 144 && Nat.beq k 41) t u := by rw [e]; exact (gFr.rf hL).sj rfl
  have hF : ∀ c k, ¬ (c = 144 ∧ k = 41) → (Nat.beq c 144 && Nat.beq k 41) = false := fun c k z => Bool.eq_false_iff.mpr (fun q => z (by simpa using q))
  obtain ⟨⟨h1, h2, h3, h4, h5, h6, h7⟩, h8⟩ := h
  refine ⟨⟨h1.tr (F.mo (fun c k z => ?_)), h2, fun i hi => by rw [F.i 166 i (hF _ _ (by omega))]; exact h3 i hi, h4.fr F (fun k _ _ => hF _ _ (by omega)), h5.fr F (fun c k z => hF _ _ (by omega)), h6.fr F (fun c k z => hF _ _ (by omega)), h7.fr F (fun c k z => hF _ _ (by omega))⟩, h8.fr F (fun k _ _ => hF _ _ (by omega))⟩
  rw [Bool.and_eq_true, Nat.beq_eq, Nat.beq_eq] at z
  rw [mxP_i]
  omega
theorem sc_get {i : Nat} (hi : i < sc.length) : sc[i]? = some (sc.getD i ([], 0)) := by
  rw [List.getD_eq_getElem?_getD, List.getElem?_eq_getElem hi]
  rfl
/-- the search of a name -/
theorem nv_loop {p : Nat} {nm : List Nat} (hx : x < 72) (h : MP ad T n x Pm c0 t0 a l o sc cl ac V K t) (hs : sc.length ≤ 49) (hnm : nm_ok nm) (hsc : ∀ q ∈ sc, nm_ok q.1) (h41 : t.2.2.1 (ad 144) 41 = pk6 nm) (hn : fo_n V < 3090) (hvl : fo_l V < 2000) (k1 : ∀ v u, scl sc nm sc.length = some v → MP ad T n x Pm c0 t0 a l o sc cl ac (fo_ap V (.inner 0 2 (nI v) .leaf .leaf)) K u → post none u) (k2 : scl sc nm sc.length = none → ∀ u, DD ad x t0 4 p u → post none u) :
    ∀ i, i ≤ sc.length → scl sc nm sc.length = scl sc nm i → g_W cx (g_E cx (d + 1)) mt_Mo_named post (131, [some (.ref (ad 144)), some (.int (nI p)), some (.int (nI i - 1))], [], t, 0, 0) := by
  have hL0 := fo_ln V
  have hV := MV_iff.mp h.2.2.2.2.2.1
  have hx23 : t.2.1 (ad 144) 23 = nI x := h.2.2.2.2.1.1
  intro i
  induction i with
  | zero =>
    intro _ e
    refine x_Mo_named_131 h.L ⟨fun _ => ⟨fun z => absurd z (by decide), fun _ => ?_⟩, fun z => absurd (show nI 0 - 1 < (0 : Int32) by decide) z⟩
    exact m_fail (c := 4) h.L (by decide) h.lv h.2.2.2.1.1.2.2 (fun u F H _ => ⟨rfl, F.L, k2 e u ⟨h.1.tr (F.mo (fun c k z => mr_tm z)), H⟩⟩)
  | succ i ih =>
    intro hi e
    have hq := h.2.2.2.2.1.2.2.2.2.1.2 i _ (sc_get (by omega))
    rw [nI_pred]
    refine x_Mo_named_131 h.L ⟨fun z => absurd z (nI_pos (by omega)), fun _ => ?_⟩
    rw [nI_clamp (by omega), hq.1, h41, hq.2, lg_cmp_eq, pk6_inj (hsc _ (List.mem_of_getElem? (sc_get (by omega)))) hnm, hx23]
    refine ⟨vp_in_nI (by omega) (by omega), fun z => ⟨fun _ => ⟨vp_in_nI (by omega) (by omega), ?_⟩, fun y => absurd (nI_pos' (by omega)) y⟩, fun z => ?_⟩
    · have e2 : scl sc nm sc.length = some (sc.getD i ([], 0)).2 := by rw [e]; simp only [scl]; rw [if_pos z]
      exact m_ng (V0 := V) (W := .leaf) (v := nI (sc.getD i ([], 0)).2) h.L hx (by omega) (by rw [fo_ap_leaf]; omega) (by rw [fo_ap_leaf]; exact hV.2) hV.1 (by decide) (fun _ => rfl) (fun y => absurd (Or.inr (Or.inl rfl)) y) (fun w Fw hw => k1 _ w e2 (h.mn Fw hw (by rw [fl_ap1]; omega)))
    · have e2 : scl sc nm sc.length = scl sc nm i := by rw [e]; simp only [scl]; rw [if_neg z]
      have := ih (by omega) e2
      rw [← Int32.sub_eq_add_neg]
      exact this
/-- a call more -/
theorem MP.cl1 {t11 t12 t13 t14 t15 : gSt} {nm : List Nat} {p : Nat} (h : MP ad T n x Pm c0 t0 a l o sc cl ac V K t) (e11 : t11 = g_si t (ad 144) 35 (nI (cl.length + 1))) (e12 : t12 = g_sj t11 (ad 163) cl.length (pk6 nm)) (e13 : t13 = g_si t12 (ad 164) cl.length (nI p)) (e14 : t14 = g_si t13 (ad 165) cl.length 0) (e15 : t15 = g_si t14 (ad 167) cl.length (nI x)) : MP ad T n x Pm c0 t0 a l o sc (cl ++ [(nm, p, x)]) (fup ac cl.length 0) V K t15 := by
  have hL := h.L
  have F : gFr ad (fun c k => (Nat.beq c 144 && Nat.beq k 35) || (Nat.ble 163 c && Nat.ble c 165) || Nat.beq c 167) t t15 := by rw [e15, e14, e13, e12, e11]; exact (((((gFr.rf hL).si rfl).sj rfl).si rfl).si rfl).si rfl
  have hF : ∀ c k, ¬ ((c = 144 ∧ k = 35) ∨ (163 ≤ c ∧ c ≤ 165) ∨ c = 167) → ((Nat.beq c 144 && Nat.beq k 35) || (Nat.ble 163 c && Nat.ble c 165) || Nat.beq c 167) = false := fun c k z => Bool.eq_false_iff.mpr (fun q => z (by
    simp only [Bool.or_eq_true, Bool.and_eq_true, Nat.beq_eq, Nat.ble_eq] at q
    omega))
  obtain ⟨h1, h2, h3, h4, h5, h6, h7⟩ := h
  obtain ⟨m1, m2, m3, m4, ⟨m5, m6⟩, m7, m8⟩ := h5
  have ne : ∀ c c', c < 199 → c' < 199 → c ≠ c' → ad c ≠ ad c' := fun c c' h1 h2 h3 => hL.ne c c' h1 h2 h3
  refine ⟨h1.tr (F.mo (fun c k z => ?_)), h2, fun i hi => by rw [F.i 166 i (hF _ _ (by omega))]; exact h3 i hi, h4.fr F (fun k _ _ => hF _ _ (by omega)), ⟨?_, ?_, ?_, ?_, ⟨?_, fun i q hq => ?_⟩, ?_, fun i q hq => ?_⟩, h6.fr F (fun c k z => hF _ _ (by omega)), h7.fr F (fun c k z => hF _ _ (by omega))⟩
  · simp only [Bool.or_eq_true, Bool.and_eq_true, Nat.beq_eq, Nat.ble_eq] at z
    rw [mxP_i]
    omega
  · rw [F.i 144 23 (hF _ _ (by omega))]; exact m1
  · rw [F.i 144 45 (hF _ _ (by omega))]; exact m2
  · rw [F.i 144 25 (hF _ _ (by omega))]; exact m3
  · rw [F.i 144 24 (hF _ _ (by omega))]; exact m4
  · rw [F.i 144 28 (hF _ _ (by omega))]; exact m5
  · rw [F.j 157 i (hF _ _ (by omega)), F.i 158 i (hF _ _ (by omega))]; exact m6 i q hq
  · rw [e15, g_rd_ne (ne 144 167 (by decide) (by decide) (by decide)), e14, g_rd_ne (ne 144 165 (by decide) (by decide) (by decide)), e13, g_rd_ne (ne 144 164 (by decide) (by decide) (by decide)), e12, g_sj_i, e11, g_rd_at, List.length_append]
    rfl
  · have r163 : t15.2.2.1 (ad 163) i = if i = cl.length then pk6 nm else t.2.2.1 (ad 163) i := by
      rw [e15, g_si_j, e14, g_si_j, e13, g_si_j, e12, g_rdj, e11, g_si_j]
      by_cases z : i = cl.length
      · rw [if_pos ⟨rfl, z⟩, if_pos z]
      · rw [if_neg (fun y => z y.2), if_neg z]
    have r164 : t15.2.1 (ad 164) i = if i = cl.length then nI p else t.2.1 (ad 164) i := by
      rw [e15, g_rd_ne (ne 164 167 (by decide) (by decide) (by decide)), e14, g_rd_ne (ne 164 165 (by decide) (by decide) (by decide)), e13, g_rdi, e12, g_sj_i, e11, g_rd_ne (ne 164 144 (by decide) (by decide) (by decide))]
      by_cases z : i = cl.length
      · rw [if_pos ⟨rfl, z⟩, if_pos z]
      · rw [if_neg (fun y => z y.2), if_neg z]
    have r165 : t15.2.1 (ad 165) i = if i = cl.length then nI 0 else t.2.1 (ad 165) i := by
      rw [e15, g_rd_ne (ne 165 167 (by decide) (by decide) (by decide)), e14, g_rdi, e13, g_rd_ne (ne 165 164 (by decide) (by decide) (by decide)), e12, g_sj_i, e11, g_rd_ne (ne 165 144 (by decide) (by decide) (by decide))]
      by_cases z : i = cl.length
      · rw [if_pos ⟨rfl, z⟩, if_pos z]; rfl
      · rw [if_neg (fun y => z y.2), if_neg z]
    have r167 : t15.2.1 (ad 167) i = if i = cl.length then nI x else t.2.1 (ad 167) i := by
      rw [e15, g_rdi, e14, g_rd_ne (ne 167 165 (by decide) (by decide) (by decide)), e13, g_rd_ne (ne 167 164 (by decide) (by decide) (by decide)), e12, g_sj_i, e11, g_rd_ne (ne 167 144 (by decide) (by decide) (by decide))]
      by_cases z : i = cl.length
      · rw [if_pos ⟨rfl, z⟩, if_pos z]
      · rw [if_neg (fun y => z y.2), if_neg z]
    rw [r163, r164, r165, r167]
    unfold fup
    by_cases hi : i < cl.length
    · rw [List.getElem?_append_left hi] at hq
      rw [if_neg (by omega), if_neg (by omega), if_neg (by omega), if_neg (by omega), if_neg (by omega)]
      exact m8 i q hq
    · rw [List.getElem?_append_right (by omega)] at hq
      have hi0 : i - cl.length = 0 := by
        by_cases z : i - cl.length = 0
        · exact z
        · rw [List.getElem?_eq_none (by simp; omega)] at hq; cases hq
      rw [hi0] at hq
      have hq : (nm, p, x) = q := by simpa using hq
      have hi1 : i = cl.length := by omega
      rw [if_pos hi1, if_pos hi1, if_pos hi1, if_pos hi1, if_pos hi1, ← hq]
      exact ⟨rfl, rfl, rfl, rfl⟩
/-- a call's arguments, one more -/
theorem MP.ac1 {c : Nat} (h : MP ad T n x Pm c0 t0 a l o sc cl ac V K t) (hc : c < cl.length) (e : u = g_si t (ad 165) c (nI (ac c + 1))) : MP ad T n x Pm c0 t0 a l o sc cl (fup ac c (ac c + 1)) V K u := by
  have hL := h.L
  have F : gFr ad (fun c k => Nat.beq c 165) t u := by rw [e]; exact (gFr.rf hL).si rfl
  have hF : ∀ c : Nat, ¬ (c = 165) → Nat.beq c 165 = false := fun c z => Bool.eq_false_iff.mpr (fun q => z (by simpa using q))
  obtain ⟨h1, h2, h3, h4, h5, h6, h7⟩ := h
  obtain ⟨m1, m2, m3, m4, ⟨m5, m6⟩, m7, m8⟩ := h5
  refine ⟨h1.tr (F.mo (fun c k z => ?_)), h2, fun i hi => by rw [F.i 166 i (hF _ (by omega))]; exact h3 i hi, h4.fr F (fun k _ _ => hF _ (by omega)), ⟨?_, ?_, ?_, ?_, ⟨?_, fun i q hq => ?_⟩, ?_, fun i q hq => ?_⟩, h6.fr F (fun c k z => hF _ (by omega)), h7.fr F (fun c k z => hF _ (by omega))⟩
  · rw [Nat.beq_eq] at z
    rw [mxP_i]
    omega
  · rw [F.i 144 23 (hF _ (by omega))]; exact m1
  · rw [F.i 144 45 (hF _ (by omega))]; exact m2
  · rw [F.i 144 25 (hF _ (by omega))]; exact m3
  · rw [F.i 144 24 (hF _ (by omega))]; exact m4
  · rw [F.i 144 28 (hF _ (by omega))]; exact m5
  · rw [F.j 157 i (hF _ (by omega)), F.i 158 i (hF _ (by omega))]; exact m6 i q hq
  · rw [F.i 144 35 (hF _ (by omega))]; exact m7
  · obtain ⟨a1, a2, a3, a4⟩ := m8 i q hq
    rw [F.j 163 i (hF _ (by omega)), F.i 164 i (hF _ (by omega)), F.i 167 i (hF _ (by omega))]
    refine ⟨a1, a2, ?_, a4⟩
    unfold fup
    by_cases z : i = c
    · subst z
      rw [e, g_rd_at, if_pos rfl]
    · rw [e, g_rd_k z, if_neg z]
      exact a3
def agP (x A m c k : Nat) : Bool := (Nat.beq c 156 && Nat.beq k x) || (Nat.beq c 155 && Nat.ble (1300 * x + A) k && Nat.blt k (1300 * x + A + m) && Nat.blt k (1300 * x + 1300))
theorem agP_i {A m c k : Nat} : agP x A m c k = true ↔ (c = 156 ∧ k = x) ∨ (c = 155 ∧ 1300 * x + A ≤ k ∧ k < 1300 * x + A + m ∧ k < 1300 * x + 1300) := by
  unfold agP
  simp only [Bool.or_eq_true, Bool.and_eq_true, Nat.beq_eq, Nat.ble_eq, Nat.blt_eq]
  omega
/-- the arguments of a call go into their row -/
theorem ec_loop {rs ws : List Nat} {A c : Nat} {l1 l3 : Int32} (hx : x < 72) (hA : A < 2 ^ 20) (hlen : rs.length + ws.length < 3100) : ∀ (m k : Nat) (t : gSt) (o5 : Option Value), m + k = ws.length → gFr ad (agP x A k) t0 t → t.2.1 (ad 156) x = nI (A + k) → (∀ j r, j < k → ws[j]? = some r → A + j < 1300 → t.2.1 (ad 155) (1300 * x + A + j) = nI r) → t0.2.1 (ad 144) 23 = nI x → MVs ad (rs ++ ws) t0 →
    (∀ u o5, gFr ad (agP x A ws.length) t0 u → u.2.1 (ad 156) x = nI (A + ws.length) → (∀ j r, ws[j]? = some r → A + j < 1300 → u.2.1 (ad 155) (1300 * x + A + j) = nI r) → g_W cx (g_E cx (d + 1)) mt_Mo_endCall post (40, [some (.ref (ad 144)), some (.int l1), some (.int (nI ws.length)), some (.int l3), some (.int (nI ws.length)), o5], [], u, 0, 0)) →
    g_W cx (g_E cx (d + 1)) mt_Mo_endCall post (40, [some (.ref (ad 144)), some (.int l1), some (.int (nI ws.length)), some (.int l3), some (.int (nI k)), o5], [], t, 0, 0) := by
  intro m
  induction m with
  | zero =>
    intro k t o5 hk hF h156 h155 h23 hs hK
    have e : k = ws.length := by omega
    subst e
    exact hK t o5 hF h156 (fun j r hj hr => h155 j r (List.getElem?_eq_some_iff.mp hj).1 hj hr)
  | succ m ih =>
    intro k t o5 hk hF h156 h155 h23 hs hK
    have hkl : k < ws.length := by omega
    have hv : vp_in (nI x) 72 := vp_in_nI hx (by decide)
    have e33 : t.2.1 (ad 144) 33 = nI (rs.length + ws.length) := by
      rw [hF.i 144 33 (bool_r agP_i (by omega)), hs.1, List.length_append]
    have e23 : t.2.1 (ad 144) 23 = nI x := by rw [hF.i 144 23 (bool_r agP_i (by omega))]; exact h23
    have eix : (nI (rs.length + ws.length) - nI ws.length) + nI k = nI (rs.length + k) := by rw [nI_sub (by omega), nI_add, show rs.length + ws.length - ws.length + k = rs.length + k by omega]
    obtain ⟨r, hr⟩ : ∃ r, ws[k]? = some r := ⟨_, List.getElem?_eq_getElem hkl⟩
    have e162 : t.2.1 (ad 162) (rs.length + k) = nI r := by
      rw [hF.i 162 _ (bool_r agP_i (by omega))]
      exact hs.2 _ _ (by rw [List.getElem?_append_right (by omega), show rs.length + k - rs.length = k by omega]; exact hr)
    refine x_Mo_endCall_40 hF.L ⟨fun z => ?_, fun _ => ?_⟩
    · rw [nI_leI (by omega) (by omega)] at z
      omega
    · rw [e33, eix, e23, nI_clamp (by omega), e162, nI_1]
      refine ⟨vp_in_nI (by omega) (by omega), ?_⟩
      have go : ∀ u : gSt, gFr ad (agP x A (k + 1)) t0 u → u.2.1 (ad 156) x = nI (A + (k + 1)) → (∀ j r, j < k + 1 → ws[j]? = some r → A + j < 1300 → u.2.1 (ad 155) (1300 * x + A + j) = nI r) → ∃ y8 : Int32, some (Value.int (u.2.1 (ad 156) x - 1)) = some (.int y8) ∧ Lay u ad ∧ g_W cx (g_E cx (d + 1)) mt_Mo_endCall post (40, [some (.ref (ad 144)), some (.int l1), some (.int (nI ws.length)), some (.int l3), some (.int (nI (k + 1))), some (.int y8)], [], u, 0, 0) := fun u Fu q1 q2 => ⟨_, rfl, Fu.L, ih (k + 1) u _ (by omega) Fu q1 q2 h23 hs hK⟩
      refine x_Mo_addArgument hF.L ⟨hv, ?_⟩
      rw [nI_clamp (by omega), h156, show (1300 : Int32) = nI 1300 from rfl, nI_leI (by omega) (by omega), nI_1]
      have hFm : gFr ad (agP x A (k + 1)) t0 t := hF.mo (fun c k z => by rw [agP_i] at z ⊢; omega)
      refine ⟨fun z => ⟨hv, hv, fun t1 e1 => ⟨hv, ?_⟩⟩, fun z => ?_⟩
      · have F1 : gFr ad (agP x A (k + 1)) t0 t1 := by rw [e1]; exact hFm.si (agP_i.mpr (by omega))
        refine go t1 F1 (by rw [e1, g_rd_at]; rfl) (fun j r' hj hr' hA' => ?_)
        rw [e1, g_rd_ne (hF.L.ne 155 156 (by decide) (by decide) (by decide))]
        exact h155 j r' (by omega) hr' hA'
      · rw [← show (1300 : Int32) = nI 1300 from rfl, ix13, nI_clamp (by omega)]
        refine ⟨hv, vp_in_nI (by omega) (by omega), fun t1 e1 => ⟨hv, hv, fun t2 e2 => ⟨hv, ?_⟩⟩⟩
        have e156 : t1.2.1 (ad 156) x = nI (A + k) := by rw [e1, g_rd_ne (hF.L.ne 156 155 (by decide) (by decide) (by decide))]; exact h156
        rw [e156, nI_1] at e2
        have F2 : gFr ad (agP x A (k + 1)) t0 t2 := by rw [e2, e1]; exact (hFm.si (agP_i.mpr (by omega))).si (agP_i.mpr (by omega))
        refine go t2 F2 (by rw [e2, g_rd_at]; rfl) (fun j r' hj hr' hA' => ?_)
        rw [e2, g_rd_ne (hF.L.ne 155 156 (by decide) (by decide) (by decide)), e1]
        by_cases y : j = k
        · subst y
          rw [show 1300 * x + A + j = 1300 * x + (A + j) by omega, g_rd_at]
          rw [hr] at hr'
          rw [Option.some.inj hr']
        · rw [g_rd_k (by omega)]
          exact h155 j r' (by omega) hr' hA'
end MC
