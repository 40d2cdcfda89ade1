/-! THE CLASS'S WRITER: a node is met, one of its operands is behind, it is left -/
/-- variables are told by numbers that are not below 0 -/
def vC (k v : Int32) : Prop := k = 2 ∨ k = 14 → ¬ v < 0
/-- names of functions, in the class's program -/
def RNm (t : gSt) (ad : Nat → Nat) (p n : Nat) (nm : Int32 → List Nat) : Prop := ∀ g, g < n → t.2.2.1 (ad (p + 1)) g = pk8 (nm (nI g)) ∧ nm_ok (nm (nI g))
section WN
variable {cx : gCx} {d : Nat} {ad : Nat → Nat} {t : gSt} {post : Option Value → gSt → Prop} {v2 p n : Nat} {l : List Nat} {nm : Int32 → List Nat} {par : Int32 → Nat} {k v : Int32}
theorem m_Wenter {i : Nat} (hp : isP p) (hc : g_CS cx) (hv : isV v2) (hL : Lay t ad) (hr : t.2.2.2 (ad 83) 2 = some (ad v2)) (hr4 : t.2.2.2 (ad 83) 4 = some (ad p)) (hi : i < 500) (ek : t.2.1 (ad 86) i = k) (ev : t.2.1 (ad 87) i = v) (hk : ∃ j, 1 ≤ j ∧ j ≤ 15 ∧ k = nI j) (hC : vC k v) (hg : k = 15 → ∃ g, v = nI g ∧ g < n) (hn : n ≤ 24) (hnm : RNm t ad p n nm) (hQ : Qc ad v2 l t) (h : ∀ u, gFr ad (abP v2) t u → Qc ad v2 (l ++ op_t nm k v) u → post none u) : g_E cx (d + 8) i_Writer_enter [.ref (ad 83), .int (nI i)] t post := by
  have hvp := vp_in_nI (N := 500) hi (by omega)
  refine x_Writer_enter hL ⟨hvp, fun x1 e1 => ⟨hvp, ?_⟩⟩
  rw [nI_clamp (by omega), ev] at e1
  rw [nI_clamp (by omega), ek, e1]
  refine ⟨fun c => ?_, fun c => ?_, fun c => ?_, fun c => ?_, fun c => ?_, fun c => ?_, fun c => ?_, fun c => ?_⟩
  · refine x_Writer_enter_92 hL ?_
    refine m_addNumber hc hv hL hr hQ (fun u F q => ⟨rfl, F.L, h u F ?_⟩)
    rw [show op_t nm k v = num_t v from by unfold op_t; rw [if_pos c]]
    exact q
  · refine x_Writer_enter_100 hL ?_
    refine m_addVariable hc hv hL hr (hC (Or.inl c)) hQ (fun u F q => ⟨rfl, F.L, h u F ?_⟩)
    rw [show op_t nm k v = var_t v from by subst c; rfl]
    exact q
  · refine x_Writer_enter_108 hL ?_
    refine m_addText hc (i := 1) (by decide) hv hL hr hQ (fun u F q => ⟨rfl, F.L, h u F.ab ?_⟩)
    subst c; exact q
  · refine x_Writer_enter_117 hL ?_
    refine m_addText hc (i := 4) (by decide) hv hL hr hQ (fun u F q => ⟨rfl, F.L, h u F.ab ?_⟩)
    subst c; exact q
  · refine x_Writer_enter_126 hL ?_
    refine m_addText hc (i := 5) (by decide) hv hL hr hQ (fun u F q => ⟨rfl, F.L, h u F.ab ?_⟩)
    subst c; exact q
  · refine x_Writer_enter_135 hL ?_
    refine m_addText hc (i := 6) (by decide) hv hL hr hQ (fun u F q => ⟨rfl, F.L, ?_⟩)
    refine m_addVariable hc hv F.L (Qc.frA hv F.ab hr) (hC (Or.inr c)) q (fun u2 F2 q2 => ⟨rfl, F2.L, ?_⟩)
    refine m_addText hc (i := 7) (by decide) hv F2.L (Qc.frA hv (F.ab.tr F2) hr) q2 (fun u3 F3 q3 => ⟨rfl, F3.L, h u3 ((F.ab.tr F2).tr F3.ab) ?_⟩)
    subst c
    rw [List.append_assoc, List.append_assoc] at q3
    rw [show op_t nm 14 v = [40, 108, 101, 116, 32] ++ var_t v ++ [61] from rfl, List.append_assoc]
    exact q3
  · obtain ⟨g, eg, hgn⟩ := hg c
    subst eg
    refine x_Writer_enter_155 hp hL hr4 ⟨vp_in_nI (by omega) (by omega), ?_⟩
    rw [nI_clamp (by omega), (hnm g hgn).1]
    refine m_addName (hnm g hgn).2 hv hL hr hQ (fun u F q => ⟨rfl, F.L, ?_⟩)
    refine m_addText hc (i := 8) (by decide) hv F.L (Qc.frA hv F hr) q (fun u2 F2 q2 => ⟨rfl, F2.L, h u2 (F.tr F2.ab) ?_⟩)
    subst c
    rw [List.append_assoc] at q2
    exact q2
  · refine x_Writer_enter_177 hL ?_
    refine m_addText hc (i := 8) (by decide) hv hL hr hQ (fun u F q => ⟨rfl, F.L, h u F.ab ?_⟩)
    have e : op_t nm k v = [40] := by
      obtain ⟨j, h1, h2, e⟩ := hk
      rcases c with c | c | c | c | c | c | c | c | c | c
      · rw [e, show (1 : Int32) = nI 1 from rfl, nI_ltI (by omega) (by omega)] at c; omega
      · rw [e, show (15 : Int32) = nI 15 from rfl, nI_ltI (by omega) (by omega)] at c; omega
      all_goals (rw [c]; rfl)
    rw [e]
    exact q
theorem m_addOperator (hc : g_CS cx) (hv : isV v2) (hL : Lay t ad) (hr : t.2.2.2 (ad 83) 2 = some (ad v2)) (hk : ∃ j, 1 ≤ j ∧ j ≤ 15 ∧ k = nI j) (hQ : Qc ad v2 l t) (h : ∀ u, gFr ad (abP v2) t u → Qc ad v2 (l ++ ch_t k) u → post none u) : g_E cx (d + 5) i_Writer_addOperator [.ref (ad 83), .int k] t post := by
  obtain ⟨j, h1, h2, e⟩ := hk
  subst e
  refine x_Writer_addOperator hL (c_isStr hc (by decide)) ⟨fun c => ?_, fun c => ⟨fun c2 => ?_, fun c2 => ?_⟩⟩
  · rw [show (3 : Int32) = nI 3 from rfl, nI_ltI (by omega) (by omega)] at c
    have : ch_t (nI j) = [] := by
      have : ∀ j, j < 3 → ch_t (nI j) = [] := by decide
      exact this j c
    rw [this, List.append_nil] at h
    exact h t (gFr.rf hL) hQ
  · rw [show (8 : Int32) = nI 8 from rfl, nI_ltI (by omega) (by omega)] at c2
    have : ch_t (nI j) = [] := by
      have : ∀ j, j ≤ 15 → 8 < j → ch_t (nI j) = [] := by decide
      exact this j h2 c2
    rw [this, List.append_nil] at h
    exact h t (gFr.rf hL) hQ
  · rw [show (3 : Int32) = nI 3 from rfl, nI_ltI (by omega) (by omega)] at c
    rw [show (8 : Int32) = nI 8 from rfl, nI_ltI (by omega) (by omega)] at c2
    rw [show (3 : Int32) = nI 3 from rfl, nI_sub (by omega)]
    have hb : ∀ j, 3 ≤ j → j ≤ 8 → j - 3 < g_stl.getD 15 0 ∧ ∃ x, x < 128 ∧ (g_stb.getD 15 []).getD (j - 3) 0 = nI x ∧ ch_t (nI j) = [x] := by
      intro j h3 h8
      match j, h3, h8 with
      | 3, _, _ => exact ⟨by decide, 43, by decide, by decide, by decide⟩
      | 4, _, _ => exact ⟨by decide, 45, by decide, by decide, by decide⟩
      | 5, _, _ => exact ⟨by decide, 42, by decide, by decide, by decide⟩
      | 6, _, _ => exact ⟨by decide, 47, by decide, by decide, by decide⟩
      | 7, _, _ => exact ⟨by decide, 37, by decide, by decide, by decide⟩
      | 8, _, _ => exact ⟨by decide, 60, by decide, by decide, by decide⟩
    obtain ⟨b1, x, b2, b3, b4⟩ := hb j (by omega) (by omega)
    refine c_charAt hc (by decide) b1 ⟨_, rfl, hL, ?_⟩
    rw [b3]
    rw [b4] at h
    exact m_addByte hv hL hr b2 hQ (fun u F q => ⟨rfl, F.L, h u F.ab q⟩)
theorem m_Wbehind {i dn : Nat} (hp : isP p) (hc : g_CS cx) (hv : isV v2) (hL : Lay t ad) (hr : t.2.2.2 (ad 83) 2 = some (ad v2)) (hr4 : t.2.2.2 (ad 83) 4 = some (ad p)) (hR : RPar t ad p n par) (hi : i < 500) (ek : t.2.1 (ad 86) i = k) (ev : t.2.1 (ad 87) i = v) (hk : ∃ j, 1 ≤ j ∧ j ≤ 15 ∧ k = nI j) (hg : k = 15 → ∃ g, v = nI g ∧ g < n) (har : k_ar par k v < 1000) (hdn : dn < k_ar par k v) (hQ : Qc ad v2 l t) (h : ∀ u, gFr ad (abP v2) t u → Qc ad v2 (l ++ se_t k dn (k_ar par k v)) u → post none u) : g_E cx (d + 8) i_Writer_behindKid [.ref (ad 83), .int (nI i), .int (nI dn)] t post := by
  have hvp := vp_in_nI (N := 500) hi (by omega)
  refine x_Writer_behindKid hp hL hr4 ⟨hvp, fun x1 e1 => ⟨hvp, ?_⟩⟩
  rw [nI_clamp (by omega), ek] at e1
  rw [nI_clamp (by omega), ev, e1]
  refine m_kids hp hL hR hk hg ⟨_, rfl, hL, ?_⟩
  rw [nI_1, nI_ltI (by omega) (by omega)]
  refine ⟨fun c0 => ⟨fun c => ?_, fun c => ?_, fun c => ?_, fun c => ?_, fun c => ?_, fun c => ?_⟩, fun c0 => ?_⟩
  · refine x_Writer_behindKid_76 hL ?_
    refine m_addText hc (i := 9) (by decide) hv hL hr hQ (fun u F q => ⟨rfl, F.L, h u F.ab ?_⟩)
    unfold se_t
    rw [if_pos c0, if_pos c]
    exact q
  · refine x_Writer_behindKid_85 hL ?_
    refine m_addText hc (i := 10) (by decide) hv hL hr hQ (fun u F q => ⟨rfl, F.L, h u F.ab ?_⟩)
    unfold se_t
    rw [if_pos c0, c]
    exact q
  · refine x_Writer_behindKid_94 hL ⟨fun c2 => ?_, fun c2 => ?_⟩
    · refine m_addText hc (i := 12) (by decide) hv hL hr hQ (fun u F q => ⟨rfl, F.L, h u F.ab ?_⟩)
      have : ¬ dn = 0 := fun z => c2 (by rw [z]; rfl)
      unfold se_t
      rw [if_pos c0, c, if_neg this]
      exact q
    · refine m_addText hc (i := 11) (by decide) hv hL hr hQ (fun u F q => ⟨rfl, F.L, h u F.ab ?_⟩)
      have : dn = 0 := by
        have := Classical.not_not.mp c2
        rwa [show (0 : Int32) = nI 0 from rfl, nI_eq (by omega) (by omega)] at this
      unfold se_t
      rw [if_pos c0, c, if_pos this]
      exact q
  · refine x_Writer_behindKid_112 hL ?_
    refine m_addText hc (i := 13) (by decide) hv hL hr hQ (fun u F q => ⟨rfl, F.L, h u F.ab ?_⟩)
    unfold se_t
    rw [if_pos c0, c]
    exact q
  · refine x_Writer_behindKid_121 hL ?_
    refine m_addText hc (i := 14) (by decide) hv hL hr hQ (fun u F q => ⟨rfl, F.L, h u F.ab ?_⟩)
    unfold se_t
    rw [if_pos c0, c]
    exact q
  · refine x_Writer_behindKid_130 hL ?_
    refine m_addOperator hc hv hL hr hk hQ (fun u F q => ⟨rfl, F.L, h u F ?_⟩)
    have n9 : ∀ z : Int32, (z = 9 ∨ z = 12 ∨ z = 13 ∨ z = 14 ∨ z = 15) → ¬ k = z := by
      rintro z hz rfl
      rcases hz with rfl | rfl | rfl | rfl | rfl <;> exact absurd c (by decide)
    unfold se_t
    rw [if_pos c0, if_neg (n9 9 (by simp)), if_neg (n9 12 (by simp)), if_neg (n9 13 (by simp)), if_neg (n9 14 (by simp)), if_neg (n9 15 (by simp))]
    exact q
  · have e : se_t k dn (k_ar par k v) = [] := by unfold se_t; rw [if_neg c0]
    rw [e, List.append_nil] at h
    exact h t (gFr.rf hL) hQ
theorem m_Wleave {i : Nat} (hc : g_CS cx) (hv : isV v2) (hL : Lay t ad) (hr : t.2.2.2 (ad 83) 2 = some (ad v2)) (hi : i < 500) (ek : t.2.1 (ad 86) i = k) (hQ : Qc ad v2 l t) (h : ∀ u, gFr ad (abP v2) t u → Qc ad v2 (l ++ cl_t k) u → post none u) : g_E cx (d + 6) i_Writer_leave [.ref (ad 83), .int (nI i)] t post := by
  have hvp := vp_in_nI (N := 500) hi (by omega)
  refine x_Writer_leave hL ⟨hvp, ?_⟩
  rw [nI_clamp (by omega), ek]
  refine ⟨fun c => ?_, fun c => ⟨hvp, fun c2 => ?_, fun c2 => ?_⟩⟩
  · rw [show cl_t k = [] from if_pos (Or.inl c), List.append_nil] at h
    exact h t (gFr.rf hL) hQ
  · rw [show cl_t k = [] from if_pos (Or.inr c2), List.append_nil] at h
    exact h t (gFr.rf hL) hQ
  · rw [show cl_t k = [41] from if_neg (fun q => q.elim c c2)] at h
    exact m_addText hc (i := 2) (by decide) hv hL hr hQ (fun u F q => ⟨rfl, F.L, h u F.ab q⟩)
end WN
