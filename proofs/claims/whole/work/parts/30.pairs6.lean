/-! PAIR: code -/
section P6
variable {cx : gCx} {d : Nat} {ad : Nat → Nat} {t : gSt} {post : Option Value → gSt → Prop}
/-- the program that is told by 0 or 1 -/
theorem RX.which {I : Nat → Nat → Int32} {J : Nat → Nat → Int64} {R : Nat → Nat → Option Nat} {p p2 : Nat} {A B : List Fn} {dir com : Nat → Nat → Bool} {ord : Nat → Nat} (h : RX I J R ad p p2 A B dir com ord) (w : Nat) (hw : w ≤ 1) : ∃ q L, isP q ∧ (q = if w = 0 then p else 96) ∧ RP I J q L ∧ L.length = A.length ∧ ∀ f F, L[f]? = some F → RMf I (24 * w + f) F ∧ I 147 f = nI (fnP F) ∧ J 146 f = pk6 (fnN F) ∧ cd_ok A f F ∧ fn_ok A 500 120 F ∧ (if w = 0 then fnR F = 0 else I 150 f = nI (fnR F)) := by
  have hP := h.hP
  obtain ⟨h1, h2, h3, h4, h5, h6, h7, h8, h9, h10, h11, h12, h13⟩ := h
  match w, hw with
  | 0, _ =>
    refine ⟨p, A, hP, rfl, h6, rfl, fun f F hF => ⟨?_, (h8.2.1 f F hF).2.1, (h8.2.1 f F hF).1, (h12 f F hF).2.1, ?_, (h12 f F hF).2.2.1⟩⟩
    · rw [Nat.mul_zero, Nat.zero_add]; exact (h8.2.1 f F hF).2.2
    · obtain ⟨a1, a2, a3, a4, a5, a6, a7⟩ := (h12 f F hF).1
      exact ⟨a1, a2, a3, by omega, a5, by omega, a7⟩
  | 1, _ =>
    refine ⟨96, B, Or.inl rfl, rfl, h7, h5, fun f F hF => ?_⟩
    obtain ⟨b1, b2, G, b3, b4, b5⟩ := h13 f F hF
    refine ⟨(h8.2.2 f F hF).2, ?_, ?_, b2, b1, (h8.2.2 f F hF).1⟩
    · rw [b5]; exact (h8.2.1 f G b3).2.1
    · rw [b4]; exact (h8.2.1 f G b3).1
theorem w_of {w : Int32} (h : ¬ (w < 0 ∨ nI 1 < w)) : ∃ j, j ≤ 1 ∧ w = nI j := by
  obtain ⟨j, hj, e⟩ := nI_of (fun q => h (Or.inl q))
  exact ⟨j, Nat.le_of_not_lt (fun q => h (Or.inr (by rw [e]; exact nI_lt q hj))), e⟩
theorem m_noFunction {w g : Int32} {n : Nat} (hn : n < 2 ^ 31) (hL : Lay t ad) (hf : t.2.1 (ad 144) 11 = nI n) (h : post (some (.int (if (w < 0 ∨ nI 1 < w) ∨ (g < 0 ∨ nI n ≤ g) then 1 else 0))) t) : g_E cx (d + 2) i_Mo_noFunction [.ref (ad 144), .int w, .int g] t post := by
  refine x_Mo_noFunction hL ?_
  refine m_Mo_in ?_
  by_cases c : w < 0 ∨ nI 1 < w
  · rw [if_neg (fun q => in01.mp q c)]
    rw [if_pos (Or.inl c)] at h
    exact ⟨_, rfl, hL, fun _ => h, fun q => absurd rfl q⟩
  · rw [if_pos (in01.mpr c)]
    refine ⟨_, rfl, hL, fun q => absurd q (by decide), fun _ => ?_⟩
    rw [hf]
    refine m_Mo_in ?_
    by_cases c2 : g < 0 ∨ nI n ≤ g
    · rw [if_neg (fun q => (in_has hn).mp q c2)]
      rw [if_pos (Or.inr c2)] at h
      exact ⟨_, rfl, hL, fun q => absurd rfl q, fun _ => h⟩
    · rw [if_pos ((in_has hn).mpr c2)]
      rw [if_neg (fun q => q.elim c c2)] at h
      exact ⟨_, rfl, hL, fun _ => h, fun q => absurd (by decide) q⟩
theorem m_programOf {p : Nat} {w : Int32} (hp : isP p) (hL : Lay t ad) (hr : t.2.2.2 (ad 0) 11 = some (ad p)) (h : ∀ j, j ≤ 1 → w = nI j → post (some (.ref (ad (if j = 0 then p else 96)))) t) (h2 : (w < 0 ∨ nI 1 < w) → post (some .null) t) : g_E cx (d + 1) i_Tr_programOf [.ref (ad 0), .int w] t post := by
  refine x_Tr_programOf hp hL hr ⟨fun c0 => ⟨fun c1 => ?_, fun c1 => ?_⟩, fun c0 => ?_⟩
  · refine h2 (Classical.byContradiction (fun q => ?_))
    obtain ⟨j, hj, e⟩ := w_of q
    match j, hj with
    | 0, _ => exact c0 e
    | 1, _ => exact c1 e
  · exact h 1 (by decide) (Classical.not_not.mp c1)
  · exact h 0 (by decide) (Classical.not_not.mp c0)
theorem p_code {Rest : gSt → Prop} (hr : ∀ t u, g_ag ad t u → Rest t → Rest u) (hx : ∀ t, Rest t → gRest ad t) (w a i b : Int32) : g_pair cx (d + 4) (g_Inv ad Rest) (ad c_Tr) (ad c_Mo) i_Tr_code i_Mo_code [.int w, .int a, .int i, .int b] := by
  intro t hI post hp
  have hL := hI.1
  obtain ⟨p, p2, A, B, dir, com, ord, hX⟩ := gRest_iff.mp (hx _ hI.2.2)
  have hP := hX.hP
  have hW := hX.which
  obtain ⟨h1, h2, h3, h4, h5, h6, h7, h8, h9, h10, h11, h12, h13⟩ := hX
  have hn : A.length < 2 ^ 31 := by omega
  have hc2 : t.2.1 (ad c_Mo) 11 = nI A.length := h8.1
  have hL1 : Lay (g_si t (ad c_Mo) 0 0) ad := hL.si
  have hc3 : (g_si t (ad c_Mo) 0 0).2.1 (ad 144) 11 = nI A.length := by rw [g_rd_k (by decide)]; exact hc2
  have hN := hI.code (v := 0) hr
  have nok : ∀ r : Int32, r = -1 → ((w < 0 ∨ nI 1 < w) ∨ (a < 0 ∨ nI A.length ≤ a)) → post (some (.int r)) t := by
    intro r er c
    refine hp r t (hL.k c_Mo (by decide)) (fun post2 h2 => ?_)
    refine x_Mo_code hL (fun t1 e1 => ?_)
    subst e1
    refine m_noFunction hn hL1 hc3 ?_
    rw [if_pos c]
    refine ⟨_, rfl, hL1, fun _ => ?_, fun q => absurd (by decide) q⟩
    rw [← er]
    exact h2 _ hN
  refine x_Tr_code hP hL ?_
  refine m_programOf hP hL h2 (fun j hj ew => ?_) (fun c => ⟨hL, Or.inr ⟨rfl, nok (-1) rfl (Or.inl c)⟩⟩)
  obtain ⟨q, L, hq, eq, hR, hl, hF⟩ := hW j hj
  rw [← eq]
  have hww : ¬ (w < 0 ∨ nI 1 < w) := by
    rw [ew]
    match j, hj with
    | 0, _ => decide
    | 1, _ => decide
  refine ⟨hL, Or.inl ⟨q, hq, rfl, ?_⟩⟩
  refine m_Program_has (hL.pk hq 0 (by decide)) ?_
  have hcq : t.2.1 (ad q) 15 = nI A.length := by rw [← hl]; exact hR.1
  rw [hcq]
  by_cases ca : a < 0 ∨ nI A.length ≤ a
  · rw [if_pos ca]
    exact ⟨_, rfl, hL, fun _ => nok (-1) rfl (Or.inr ca), fun q => absurd rfl q⟩
  · rw [if_neg ca]
    obtain ⟨f, hf, ef⟩ := has_of hn ca
    obtain ⟨F, eF⟩ : ∃ F, L[f]? = some F := ⟨_, List.getElem?_eq_getElem (by omega)⟩
    obtain ⟨m1, m2, m3, m4, m5, m6⟩ := hF f F eF
    obtain ⟨r1, r2, r3, r4, r5, r6, r7, r8, s, s1, s2, s3, s4⟩ := hR.2 f F eF
    have hcl := m4.2.2.2.2.2.1
    subst ef
    have ex : (24 : Int32) * w + nI f = nI (24 * j + f) := by rw [show (24 : Int32) = nI 24 from rfl, ew, nI_mul, nI_add]
    have im : (g_si t (ad c_Mo) 0 0).2.1 (ad 184) (24 * j + f) = nI (fnC F).length := by
      rw [g_rd_ne (hL.ne 184 144 (by decide) (by decide) (by decide))]
      exact m1.2.2.1
    have mo : ∀ r : Int32, ((i < 0 ∨ nI (fnC F).length ≤ i) → r = -1) → (∀ k y, i = nI k → (fnC F)[k]? = some y → r = if b = 0 then y.1 else if b = 1 then y.2 else -2) → post (some (.int r)) t := by
      intro r ra rb
      refine hp r t (hL.k c_Mo (by decide)) (fun post2 h2 => ?_)
      refine x_Mo_code hL (fun t1 e1 => ?_)
      subst e1
      refine m_noFunction hn hL1 hc3 ?_
      rw [if_neg (fun q => q.elim hww ca)]
      refine ⟨_, rfl, hL1, fun q => absurd rfl q, fun _ => ?_⟩
      rw [ex, nI_clamp (by omega), im]
      refine ⟨vp_in_nI (by omega) (by omega), m_Mo_in ?_⟩
      by_cases ci : i < 0 ∨ nI (fnC F).length ≤ i
      · rw [if_neg (fun q => (in_has (by omega)).mp q ci)]
        refine ⟨_, rfl, hL1, fun q => absurd rfl q, fun _ => ?_⟩
        rw [← ra ci]
        exact h2 _ hN
      · rw [if_pos ((in_has (by omega)).mpr ci)]
        obtain ⟨k, hk, ek⟩ := has_of (by omega) ci
        obtain ⟨y, ey⟩ : ∃ y, (fnC F)[k]? = some y := ⟨_, List.getElem?_eq_getElem hk⟩
        have er := rb k y ek ey
        subst ek
        have ix : (1600 : Int32) * nI (24 * j + f) + nI k = nI (1600 * (24 * j + f) + k) := by rw [show (1600 : Int32) = nI 1600 from rfl, nI_mul, nI_add]
        have hr1 := m1.2.2.2.1 k y ey
        refine ⟨_, rfl, hL1, fun _ x6 e6 => ?_, fun q => absurd (by decide) q⟩
        rw [ix] at e6
        subst e6
        rw [nI_clamp (by omega), g_rd_ne (hL.ne 183 144 (by decide) (by decide) (by decide)), g_rd_ne (hL.ne 182 144 (by decide) (by decide) (by decide))]
        have k1 : t.2.1 (ad 182) (1600 * (24 * j + f) + k) = y.1 := hr1.1
        have k2 : t.2.1 (ad 183) (1600 * (24 * j + f) + k) = y.2 := hr1.2
        rw [k1, k2]
        have hv : vp_in (nI (1600 * (24 * j + f) + k)) 76800 := vp_in_nI (by omega) (by omega)
        have h2 := h2 _ hN
        refine ⟨fun c0 => ⟨fun c1 => ?_, fun c1 => ⟨hv, ?_⟩⟩, fun c0 => ⟨hv, ?_⟩⟩
        · rw [er, if_neg c0, if_neg c1] at h2
          exact h2
        · rw [er, if_neg c0, if_pos (Classical.not_not.mp c1)] at h2
          exact h2
        · rw [er, if_pos (Classical.not_not.mp c0)] at h2
          exact h2
    have e8 : t.2.1 (ad (q + 8)) f = nI (fnC F).length := s3
    have e7 : t.2.1 (ad (q + 7)) f = nI s := s1
    refine ⟨_, rfl, hL, fun q => absurd q (by decide), fun _ => ⟨fun c => ?_, fun c => ⟨vp_in_nI (by omega) (by omega), ?_⟩⟩⟩
    · exact mo (-1) (fun _ => rfl) (fun k y e1 e2 => absurd c (by rw [e1]; exact nI_pos (by have := (List.getElem?_eq_some_iff.mp e2).1; omega)))
    · rw [nI_clamp (by omega), e8, e7]
      refine ⟨fun c2 => ?_, fun c2 => ?_⟩
      · have ci : ¬ (i < 0 ∨ nI (fnC F).length ≤ i) := fun q => q.elim c (fun q => Int32.lt_irrefl (Int32.lt_of_lt_of_le c2 q))
        obtain ⟨k, hk, ek⟩ := has_of (by omega) ci
        obtain ⟨y, ey⟩ : ∃ y, (fnC F)[k]? = some y := ⟨_, List.getElem?_eq_getElem hk⟩
        subst ek
        have hlen : c_len (q + 14) = c_len (q + 15) ∧ c_len (q + 14) < 2 ^ 31 := by rcases hq with rfl | rfl | rfl <;> decide
        have k1 : t.2.1 (ad (q + 14)) (s + k) = y.1 := (s4 k y ey).1
        have k2 : t.2.1 (ad (q + 15)) (s + k) = y.2 := (s4 k y ey).2
        rw [nI_add, nI_clamp (by omega), k1, k2]
        have mo' : ∀ r : Int32, (r = if b = 0 then y.1 else if b = 1 then y.2 else -2) → post (some (.int r)) t := fun r er => mo r (fun q => absurd q ci) (fun k' y' e1 e2 => by
          have := (nI_eq (by omega) (by have := (List.getElem?_eq_some_iff.mp e2).1; omega)).mp e1
          subst this
          rw [ey] at e2
          cases e2
          exact er)
        refine ⟨fun c0 => ⟨fun c1 => mo' _ (by rw [if_neg c0, if_neg c1]), fun c1 => ⟨vp_in_nI (by omega) (by omega), vp_in_nI (by omega) (by omega), mo' _ (by rw [if_neg c0, if_pos (Classical.not_not.mp c1)])⟩⟩, fun c0 => ⟨vp_in_nI (by omega) (by omega), vp_in_nI (by omega) (by omega), mo' _ (by rw [if_pos (Classical.not_not.mp c0)])⟩⟩
      · have ci : (i < 0 ∨ nI (fnC F).length ≤ i) := Or.inr (Int32.not_lt.mp c2)
        exact mo (-1) (fun _ => rfl) (fun k y e1 e2 => absurd c2 (by rw [e1]; exact fun q => q (nI_lt (List.getElem?_eq_some_iff.mp e2).1 (by omega))))
end P6
