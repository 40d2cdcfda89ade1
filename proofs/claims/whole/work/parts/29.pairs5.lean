/-! PAIRS: calls, code -/
theorem in01 {w : Int32} : ((0 : Int64) ≤ w.toInt64 ∧ w.toInt64 ≤ 1) ↔ ¬ (w < 0 ∨ nI 1 < w) := in_lit (m := 1) (by decide)
section P5
variable {cx : gCx} {d : Nat} {ad : Nat → Nat} {t : gSt} {post : Option Value → gSt → Prop}
theorem m_hasBit (hL : Lay t ad) {x : Int32} {g : Nat} (hg : g < 32) (h : post (some (.int (b32 (hb x g)))) t) : g_E cx (d + 1) i_Tr_hasBit [.int x, .int (nI g)] t post := by
  refine x_Tr_hasBit hL ⟨fun c => ?_, fun c => ?_⟩
  · rw [(hb_iff hg).mp c] at h
    exact h
  · have e : hb x g = true := by
      cases e : hb x g with
      | false => exact absurd ((hb_iff hg).mpr e) c
      | true => rfl
    rw [e] at h
    exact h
theorem m_doesCall (hL : Lay t ad) {f g : Nat} (hf : f < 24) (hg : g < 24) (h : post (some (.int (b32 (hb (t.2.1 (ad 19) f) g)))) t) : g_E cx (d + 2) i_Graph_doesCall [.ref (ad 11), .int (nI f), .int (nI g)] t post := by
  refine x_Graph_doesCall hL ⟨vp_in_nI hf (by omega), ?_⟩
  rw [nI_clamp (by omega)]
  refine m_hasBit hL (by omega) ⟨_, rfl, hL, ?_, h⟩
  cases hb (t.2.1 (ad 19) f) g <;> rfl
theorem m_inOneCircle (hL : Lay t ad) {f g : Nat} (hf : f < 24) (hg : g < 24) (h : post (some (.int (b32 (hb (t.2.1 (ad 20) f) g && hb (t.2.1 (ad 20) g) f)))) t) : g_E cx (d + 2) i_Graph_inOneCircle [.ref (ad 11), .int (nI f), .int (nI g)] t post := by
  refine x_Graph_inOneCircle hL ⟨vp_in_nI hf (by omega), ?_⟩
  rw [nI_clamp (by omega)]
  refine m_hasBit hL (by omega) ⟨_, rfl, hL, ?_⟩
  cases e1 : hb (t.2.1 (ad 20) f) g with
  | false =>
    rw [e1] at h
    exact ⟨fun _ => h, fun c => absurd rfl c⟩
  | true =>
    refine ⟨fun c => absurd c (by decide), fun _ => ⟨vp_in_nI hg (by omega), ?_⟩⟩
    rw [nI_clamp (by omega)]
    refine m_hasBit hL (by omega) ⟨_, rfl, hL, ?_⟩
    rw [e1, Bool.true_and] at h
    cases e2 : hb (t.2.1 (ad 20) g) f with
    | false =>
      rw [e2] at h
      exact ⟨fun _ => h, fun c => absurd rfl c⟩
    | true =>
      rw [e2] at h
      exact ⟨fun c => absurd c (by decide), fun _ => h⟩
theorem b32_0 {b : Bool} : (b32 b = 0) ↔ b = false := by cases b <;> decide
theorem p_calls {Rest : gSt → Prop} (hr : ∀ t u, g_ag ad t u → Rest t → Rest u) (hx : ∀ t, Rest t → gRest ad t) (a b w : Int32) : g_pair cx (d + 4) (g_Inv ad Rest) (ad c_Tr) (ad c_Mo) i_Tr_calls i_Mo_calls [.int a, .int b, .int w] := by
  intro t hI post hp
  have hL := hI.1
  obtain ⟨p, p2, A, B, dir, com, ord, hX⟩ := gRest_iff.mp (hx _ hI.2.2)
  have hP := hX.hP
  obtain ⟨h1, h2, h3, h4, h5, h6, h7, h8, h9, h10, h11, h12, h13⟩ := hX
  have hn : A.length < 2 ^ 31 := by omega
  have hc : t.2.1 (ad p) 15 = nI A.length := h6.1
  have hc2 : t.2.1 (ad c_Mo) 11 = nI A.length := h8.1
  have hL1 : Lay (g_si t (ad c_Mo) 0 0) ad := hL.si
  have hc3 : (g_si t (ad c_Mo) 0 0).2.1 (ad 144) 11 = nI A.length := by rw [g_rd_k (by decide)]; exact hc2
  have hN := hI.code (v := 0) hr
  have mo : ∀ (r : Int32), (((a < 0 ∨ nI A.length ≤ a) ∨ (b < 0 ∨ nI A.length ≤ b)) → r = -1) → (∀ f g, f < A.length → g < A.length → a = nI f → b = nI g → r = if w = 0 then b32 (dir f g) else if w = 1 then b32 (com f g && com g f) else -2) → post (some (.int r)) t := by
    intro r ra rb
    refine hp r t (hL.k c_Mo (by decide)) (fun post2 h2 => ?_)
    refine x_Mo_calls hL (fun t1 e1 => ?_)
    subst e1
    rw [hc3]
    refine m_Mo_in ?_
    by_cases ca : a < 0 ∨ nI A.length ≤ a
    · rw [if_neg (fun q => (in_has hn).mp q ca)]
      refine ⟨_, rfl, hL1, fun _ => ?_, fun q => absurd rfl q⟩
      refine x_Mo_calls_37 hL1 ?_
      rw [← ra (Or.inl ca)]
      exact h2 _ hN
    · rw [if_pos ((in_has hn).mpr ca)]
      refine ⟨_, rfl, hL1, fun q => absurd q (by decide), fun _ => ?_⟩
      refine x_Mo_calls_21 hL1 ?_
      rw [hc3]
      refine m_Mo_in ?_
      by_cases cb : b < 0 ∨ nI A.length ≤ b
      · rw [if_neg (fun q => (in_has hn).mp q cb)]
        refine ⟨_, rfl, hL1, fun q => absurd rfl q, fun _ => ?_⟩
        refine x_Mo_calls_37 hL1 ?_
        rw [← ra (Or.inr cb)]
        exact h2 _ hN
      · rw [if_pos ((in_has hn).mpr cb)]
        obtain ⟨f, hf, ef⟩ := has_of hn ca
        obtain ⟨g, hg, eg⟩ := has_of hn cb
        have er := rb f g hf hg ef eg
        subst ef; subst eg
        refine ⟨_, rfl, hL1, fun q => ?_, fun q => absurd (by decide) q⟩
        refine x_Mo_calls_39 hL1 ?_
        refine m_Mo_in ?_
        have ix : ∀ f g, (24 : Int32) * nI f + nI g = nI (24 * f + g) := fun f g => by rw [show (24 : Int32) = nI 24 from rfl, nI_mul, nI_add]
        have r1 : ∀ f g, f < A.length → g < A.length → (g_si t (ad c_Mo) 0 0).2.1 (ad 171) (nI (24 * f + g)).toNatClampNeg = b32 (com f g) := fun f g hf hg => by
          rw [nI_clamp (by omega), g_rd_ne (hL.ne 171 144 (by decide) (by decide) (by decide))]
          exact (h9.1 f g hf hg).2.2.2
        have r2 : (g_si t (ad c_Mo) 0 0).2.1 (ad 172) (nI (24 * f + g)).toNatClampNeg = b32 (dir f g) := by
          rw [nI_clamp (by omega), g_rd_ne (hL.ne 172 144 (by decide) (by decide) (by decide))]
          exact (h9.1 f g hf hg).2.2.1
        by_cases cw : w < 0 ∨ nI 1 < w
        · rw [if_neg (fun q => in01.mp q cw)]
          refine ⟨_, rfl, hL1, fun q => absurd rfl q, fun _ => ?_⟩
          have e0 : ¬ w = 0 := by rintro rfl; exact absurd cw (by decide)
          have e1 : ¬ w = 1 := by rintro rfl; exact absurd cw (by decide)
          rw [if_neg e0, if_neg e1] at er
          rw [← er]
          exact h2 _ hN
        · rw [if_pos (in01.mpr cw)]
          refine ⟨_, rfl, hL1, fun _ => ⟨fun e0 => ?_, fun e0 => ?_⟩, fun q => absurd (by decide) q⟩
          · have e1 : w = 1 := by
              obtain ⟨j, hj, e⟩ := nI_of (fun q => cw (Or.inl q))
              subst e
              have : j ≤ 1 := Nat.le_of_not_lt (fun q => cw (Or.inr (nI_lt q hj)))
              have h0 : j ≠ 0 := fun q => e0 (by rw [q]; rfl)
              have : j = 1 := by omega
              rw [this]; rfl
            rw [if_neg e0, if_pos e1] at er
            rw [ix, ix, r1 f g hf hg, r1 g f hg hf]
            refine ⟨vp_in_nI (by omega) (by omega), fun c => ?_, fun c => ⟨vp_in_nI (by omega) (by omega), fun c2 => ?_, fun c2 => ?_⟩⟩
            · refine x_Mo_calls_102 hL1 (x_Mo_calls_103 hL1 ⟨fun _ => x_Mo_calls_115 hL1 ?_, fun q => absurd rfl q⟩)
              rw [b32_0.mp c, Bool.false_and] at er
              have h2 := h2 _ hN
              rw [show r = 0 from er] at h2
              exact h2
            · refine x_Mo_calls_102 hL1 (x_Mo_calls_103 hL1 ⟨fun _ => x_Mo_calls_115 hL1 ?_, fun q => absurd rfl q⟩)
              rw [b32_0.mp c2, Bool.and_false] at er
              have h2 := h2 _ hN
              rw [show r = 0 from er] at h2
              exact h2
            · refine x_Mo_calls_103 hL1 ⟨fun q => absurd q (by decide), fun _ => x_Mo_calls_115 hL1 ?_⟩
              have k1 : com f g = true := by cases e : com f g; exact absurd (b32_0.mpr e) c; rfl
              have k2 : com g f = true := by cases e : com g f; exact absurd (b32_0.mpr e) c2; rfl
              rw [k1, k2] at er
              have h2 := h2 _ hN
              rw [show r = 1 from er] at h2
              exact h2
          · have e0 : w = 0 := Classical.not_not.mp e0
            rw [if_pos e0] at er
            rw [ix, r2]
            refine ⟨vp_in_nI (by omega) (by omega), ?_⟩
            refine x_Mo_calls_103 hL1 ⟨fun c => x_Mo_calls_115 hL1 ?_, fun c => x_Mo_calls_115 hL1 ?_⟩
            · rw [b32_0.mp c] at er
              have h2 := h2 _ hN
              rw [show r = 0 from er] at h2
              exact h2
            · have k1 : dir f g = true := by cases e : dir f g; exact absurd (b32_0.mpr e) c; rfl
              rw [k1] at er
              have h2 := h2 _ hN
              rw [show r = 1 from er] at h2
              exact h2
  refine x_Tr_calls hP hL h2 ?_
  refine m_Program_has (hL.pk hP 0 (by decide)) ?_
  rw [hc]
  by_cases ca : a < 0 ∨ nI A.length ≤ a
  · rw [if_pos ca]
    exact ⟨_, rfl, hL, h2, fun _ => mo (-1) (fun _ => rfl) (fun f g hf hg ef eg => by
      subst ef
      rcases ca with c | c
      · exact absurd c (nI_pos (by omega))
      · exact absurd c (nI_ge hf hn)), fun q => absurd rfl q⟩
  · rw [if_neg ca]
    refine ⟨_, rfl, hL, h2, fun q => absurd q (by decide), fun _ => ?_⟩
    refine m_Program_has (hL.pk hP 0 (by decide)) ?_
    rw [hc]
    by_cases cb : b < 0 ∨ nI A.length ≤ b
    · rw [if_pos cb]
      exact ⟨_, rfl, hL, fun q => absurd rfl q, fun _ => mo (-1) (fun _ => rfl) (fun f g hf hg ef eg => by
        subst eg
        rcases cb with c | c
        · exact absurd c (nI_pos (by omega))
        · exact absurd c (nI_ge hg hn))⟩
    · rw [if_neg cb]
      obtain ⟨f, hf, ef⟩ := has_of hn ca
      obtain ⟨g, hg, eg⟩ := has_of hn cb
      refine ⟨_, rfl, hL, fun _ => ⟨fun c0 => ⟨fun c1 => ?_, fun c1 => ?_⟩, fun c0 => ?_⟩, fun q => absurd (by decide) q⟩
      · refine mo _ (fun q => ?_) (fun f' g' hf' hg' ef' eg' => ?_)
        · rcases q with q | q
          · exact absurd q ca
          · exact absurd q cb
        · rw [if_neg c0, if_neg c1]
      · have c1 : w = 1 := Classical.not_not.mp c1
        subst ef; subst eg
        refine m_inOneCircle hL (by omega) (by omega) ⟨_, rfl, hL, ?_⟩
        have e : hb (t.2.1 (ad 20) f) g = com f g := (h9.1 f g hf hg).2.1
        have e' : hb (t.2.1 (ad 20) g) f = com g f := (h9.1 g f hg hf).2.1
        rw [e, e']
        have k : post (some (.int (b32 (com f g && com g f)))) t := mo _ (fun q => by
          rcases q with q | q
          · exact absurd q ca
          · exact absurd q cb) (fun f' g' hf' hg' ef' eg' => by
          have e1 := (nI_eq (by omega) (by omega)).mp ef'
          have e2 := (nI_eq (by omega) (by omega)).mp eg'
          subst e1; subst e2
          rw [if_neg c0, if_pos c1])
        revert k
        cases com f g && com g f
        · exact fun k => ⟨fun _ => k, fun q => absurd rfl q⟩
        · exact fun k => ⟨fun q => absurd q (by decide), fun _ => k⟩
      · have c0 : w = 0 := Classical.not_not.mp c0
        subst ef; subst eg
        refine m_doesCall hL (by omega) (by omega) ⟨_, rfl, hL, ?_⟩
        have e : hb (t.2.1 (ad 19) f) g = dir f g := (h9.1 f g hf hg).1
        rw [e]
        have k : post (some (.int (b32 (dir f g)))) t := mo _ (fun q => by
          rcases q with q | q
          · exact absurd q ca
          · exact absurd q cb) (fun f' g' hf' hg' ef' eg' => by
          have e1 := (nI_eq (by omega) (by omega)).mp ef'
          have e2 := (nI_eq (by omega) (by omega)).mp eg'
          subst e1; subst e2
          rw [if_pos c0])
        revert k
        cases dir f g
        · exact fun k => ⟨fun _ => k, fun q => absurd rfl q⟩
        · exact fun k => ⟨fun q => absurd q (by decide), fun _ => k⟩
end P5
