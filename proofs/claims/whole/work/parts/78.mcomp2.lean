/-! THE MODEL'S COMPILER: a node is visited -/
abbrev rowK (t0 : gSt) (ad : Nat → Nat) (x N : Nat) (r : Nat) (k v : Int32) (rs : List Nat) : Prop := fo_k (fun i => t0.2.1 (ad 151) (1300 * x + i)) (fun i => t0.2.1 (ad 152) (1300 * x + i)) (fun i => t0.2.1 (ad 153) (1300 * x + i)) (fun i => t0.2.1 (ad 154) (1300 * x + i)) (fun i => t0.2.1 (ad 155) (1300 * x + i)) N id r k v rs
/-- visits of kids, the last one lowest -/
abbrev tkV (rs : List Nat) (n : Nat) : TK := (rs.map (fun r => ((41 : Int32), nI r, nI n))).reverse
theorem tkV_cons (r : Nat) (rs : List Nat) (n : Nat) : tkV (r :: rs) n = tkV rs n ++ [(41, nI r, nI n)] := by simp [tkV]
theorem tkV_nil (n : Nat) : tkV [] n = [] := rfl
section MV
variable {cx : gCx} {d : Nat} {ad : Nat → Nat} {t0 t : gSt} {post : Option Value → gSt → Prop} {x vn N : Nat} {T : TK} {s : KS} {k v : Int32} {rs : List Nat} {r n : Nat}
theorem c_fI {u : gSt} (hF : gFr ad (cmP x) t0 u) (c i : Nat) (h1 : 147 ≤ c) (h2 : c ≤ 155) : u.2.1 (ad c) i = t0.2.1 (ad c) i := hF.i c i (cmP_r (by omega)) (by omega)
theorem ix13 {x r : Nat} : (1300 : Int32) * nI x + nI r = nI (1300 * x + r) := by rw [show (1300 : Int32) = nI 1300 from rfl, nI_mul, nI_add]
theorem m_visit_gen (hx : x < 48) (hr : r < 1300) (hN : N ≤ 1300) (h65 : t0.2.1 (ad 144) 65 = nI x) (hk : ∃ j, 1 ≤ j ∧ j ≤ 15 ∧ k = nI j) (hg : gK k) (h12 : ¬ (k = 1 ∨ k = 2)) {par : Int32 → Nat} (har : rs.length = k_ar par k v) (hm : rowK t0 ad x N r k v rs) (hQ : QC t0 ad x vn T s t) (hl : T.length + rs.length + 2 < 20000) (h : ∀ u, QC t0 ad x vn (T ++ (40, k, if k = 15 then v else 0) :: tkV rs n) s u → post none u) : g_E cx (d + 2) i_Mo_visit [.ref (ad 144), .int (nI r), .int (nI n)] t post := by
  obtain ⟨m1, m2, m3, m4⟩ := hm
  have hv : vp_in (nI (1300 * x + r)) 93600 := vp_in_nI (by omega) (by omega)
  have k1 : t0.2.1 (ad 151) (1300 * x + r) = k := m1
  refine x_Mo_visit hQ.1.L (fun x1 e1 => ?_)
  rw [hQ.e65 h65, ix13] at e1
  subst e1
  rw [nI_clamp (by omega), c_fI hQ.1 151 _ (by decide) (by decide), k1]
  refine ⟨hv, fun c => absurd (Or.inl c) h12, fun c => absurd (Or.inr c) h12, fun c => ?_, fun c => absurd (Or.inl c) hg, fun c => absurd (Or.inr (Or.inr c)) hg, fun c => absurd (Or.inr (Or.inl c)) hg, fun c => ?_, fun c => ?_⟩
  · -- one operand
    have hl1 : rs.length = 1 := by rw [har]; rcases c with rfl | rfl <;> rfl
    have hn15 : ¬ k = 15 := by rcases c with rfl | rfl <;> decide
    have hn2 : ¬ (k = 1 ∨ k = 2 ∨ k = 15) := fun q => q.elim (fun q => h12 (Or.inl q)) (fun q => q.elim (fun q => h12 (Or.inr q)) hn15)
    obtain ⟨r0, er⟩ : ∃ r0, rs = [r0] := by
      match rs, hl1 with
      | [a], _ => exact ⟨a, rfl⟩
    subst er
    rw [if_neg hn15] at h
    have a0 : t0.2.1 (ad 152) (1300 * x + r) = nI r0 := (m4 hn2).1 r0 rfl
    refine x_Mo_visit_150 hQ.1.L ⟨hv, ?_⟩
    rw [nI_clamp (by omega), c_fI hQ.1 151 _ (by decide) (by decide), k1]
    refine m_cpush hQ (by omega) (fun u Q => ⟨rfl, Q.1.L, hv, ?_⟩)
    rw [c_fI Q.1 152 _ (by decide) (by decide), a0]
    refine m_cpush Q (by simp at hl ⊢; omega) (fun u2 Q2 => ⟨rfl, Q2.1.L, h u2 ?_⟩)
    rw [List.append_assoc] at Q2
    exact Q2
  · -- a call
    obtain ⟨b1, b2, q, b3, b4, b5⟩ := m3 c
    have a2 : t0.2.1 (ad 154) (1300 * x + r) = v := b1
    have a1 : t0.2.1 (ad 153) (1300 * x + r) = nI rs.length := b2
    have a0 : t0.2.1 (ad 152) (1300 * x + r) = nI q := b3
    rw [if_pos c, c] at h
    refine x_Mo_visit_330 hQ.1.L ⟨hv, ?_⟩
    rw [nI_clamp (by omega), c_fI hQ.1 154 _ (by decide) (by decide), a2]
    refine m_cpush hQ (by omega) (fun u Q => ⟨rfl, Q.1.L, hv, fun x3 e3 => ?_⟩)
    rw [c_fI Q.1 153 _ (by decide) (by decide), a1] at e3
    subst e3
    have loop : ∀ i (w : gSt), i ≤ rs.length → QC t0 ad x vn (T ++ [(40, 15, v)] ++ tkV (rs.drop i) n) s w → g_W cx (g_E cx (d + 1)) mt_Mo_visit post (354, [some (.ref (ad 144)), some (.int (nI r)), some (.int (nI n)), some (.int (nI (1300 * x + r))), some (.int (nI i - 1))], [], w, 0, 0) := by
      intro i
      induction i with
      | zero =>
        intro w hi hq
        refine x_Mo_visit_354 hq.1.L ⟨fun _ => h w ?_, fun z => absurd (by decide) z⟩
        rw [List.drop_zero, List.append_assoc] at hq
        exact hq
      | succ i ih =>
        intro w hi hq
        rw [nI_pred]
        have ixq : (1300 : Int32) * nI x + nI q + nI i = nI (1300 * x + (q + i)) := by rw [show (1300 : Int32) = nI 1300 from rfl, nI_mul, nI_add, nI_add, Nat.add_assoc]
        have hil : i < rs.length := by omega
        have eG : t0.2.1 (ad 155) (1300 * x + (q + i)) = nI rs[i] := b5 i rs[i] (List.getElem?_eq_getElem hil)
        refine x_Mo_visit_354 hq.1.L ⟨fun z => absurd z (nI_pos (by omega)), fun _ => ⟨hv, ?_⟩⟩
        rw [hq.e65 h65, nI_clamp (by omega), c_fI hq.1 152 _ (by decide) (by decide), a0, ixq, nI_clamp (by omega), c_fI hq.1 155 _ (by decide) (by decide), eG]
        refine ⟨vp_in_nI (by omega) (by omega), ?_⟩
        refine m_cpush hq (by simp; omega) (fun w2 Q2 => ⟨rfl, Q2.1.L, ?_⟩)
        rw [show nI i + (-1) = nI i - 1 from by rw [Int32.sub_eq_add_neg]]
        refine ih w2 (by omega) ?_
        rw [List.drop_eq_getElem_cons hil, tkV_cons, ← List.append_assoc]
        exact Q2
    refine loop rs.length u (Nat.le_refl _) ?_
    rw [List.drop_length, tkV_nil, List.append_nil]
    exact Q
  · -- two operands
    have hn15 : ¬ k = 15 := by
      obtain ⟨j, h1, h2, e⟩ := hk
      rcases c with c | c | c | c | c | c | c | c | c
      · rw [e, show (1 : Int32) = nI 1 from rfl, nI_ltI (by omega) (by omega)] at c; omega
      · rw [e, show (15 : Int32) = nI 15 from rfl, nI_ltI (by omega) (by omega)] at c; omega
      all_goals (rw [c]; decide)
    have hn10 : ¬ (k = 10 ∨ k = 11) := by
      obtain ⟨j, h1, h2, e⟩ := hk
      rcases c with c | c | c | c | c | c | c | c | c
      · rw [e, show (1 : Int32) = nI 1 from rfl, nI_ltI (by omega) (by omega)] at c; omega
      · rw [e, show (15 : Int32) = nI 15 from rfl, nI_ltI (by omega) (by omega)] at c; omega
      all_goals (rw [c]; decide)
    have hl1 : rs.length = 2 := by
      rw [har]
      unfold k_ar
      rw [if_neg h12, if_neg hn10, if_neg (fun q => hg (Or.inr (Or.inr q))), if_neg hn15]
    have hn2 : ¬ (k = 1 ∨ k = 2 ∨ k = 15) := fun q => q.elim (fun q => h12 (Or.inl q)) (fun q => q.elim (fun q => h12 (Or.inr q)) hn15)
    obtain ⟨r0, r1, er⟩ : ∃ r0 r1, rs = [r0, r1] := by
      match rs, hl1 with
      | [a, b], _ => exact ⟨a, b, rfl⟩
    subst er
    rw [if_neg hn15] at h
    have a0 : t0.2.1 (ad 152) (1300 * x + r) = nI r0 := (m4 hn2).1 r0 rfl
    have a1 : t0.2.1 (ad 153) (1300 * x + r) = nI r1 := (m4 hn2).2.1 r1 rfl
    simp only [List.length_cons, List.length_nil] at hl
    refine x_Mo_visit_398 hQ.1.L ⟨hv, ?_⟩
    rw [nI_clamp (by omega), c_fI hQ.1 151 _ (by decide) (by decide), k1]
    refine m_cpush hQ (by omega) (fun u Q => ⟨rfl, Q.1.L, hv, ?_⟩)
    rw [c_fI Q.1 153 _ (by decide) (by decide), a1]
    refine m_cpush Q (by simp; omega) (fun u2 Q2 => ⟨rfl, Q2.1.L, hv, ?_⟩)
    rw [c_fI Q2.1 152 _ (by decide) (by decide), a0]
    refine m_cpush Q2 (by simp; omega) (fun u3 Q3 => ⟨rfl, Q3.1.L, h u3 ?_⟩)
    simp only [List.append_assoc] at Q3
    exact Q3
theorem m_visit_1 (hx : x < 48) (hr : r < 1300) (h65 : t0.2.1 (ad 144) 65 = nI x) (hm : rowK t0 ad x N r 1 v rs) (hQ : QC t0 ad x vn T s t) (hu : ks_us s < 1600 * x + 1600) (h : ∀ u, QC t0 ad x vn T (kRise 1 (kEmit (1600 * x + 1600) 1 v s)) u → post none u) : g_E cx (d + 2) i_Mo_visit [.ref (ad 144), .int (nI r), .int (nI n)] t post := by
  obtain ⟨m1, m2, m3, m4⟩ := hm
  have hv : vp_in (nI (1300 * x + r)) 93600 := vp_in_nI (by omega) (by omega)
  have k1 : t0.2.1 (ad 151) (1300 * x + r) = 1 := m1
  have a0 : t0.2.1 (ad 152) (1300 * x + r) = v := m2 (Or.inl rfl)
  refine x_Mo_visit hQ.1.L (fun x1 e1 => ?_)
  rw [hQ.e65 h65, ix13] at e1
  subst e1
  rw [nI_clamp (by omega), c_fI hQ.1 151 _ (by decide) (by decide), k1]
  refine ⟨hv, fun _ => ?_, fun c => absurd c (by decide), fun c => absurd c (by decide), fun c => absurd c (by decide), fun c => absurd c (by decide), fun c => absurd c (by decide), fun c => absurd c (by decide), fun c => absurd c (by decide)⟩
  refine x_Mo_visit_92 hQ.1.L ⟨hv, ?_⟩
  rw [nI_clamp (by omega), c_fI hQ.1 152 _ (by decide) (by decide), a0]
  exact m_cinst hx h65 hQ hu (fun u Q => ⟨rfl, Q.1.L, m_clays hx h65 Q (fun u2 Q2 => ⟨rfl, Q2.1.L, h u2 Q2⟩)⟩)
theorem m_visit_2 {j : Nat} (hx : x < 48) (hr : r < 1300) (h65 : t0.2.1 (ad 144) 65 = nI x) (hj : j < 120) (hm : rowK t0 ad x N r 2 (nI j) rs) (hQ : QC t0 ad x vn T s t) (hu : ks_us s < 1600 * x + 1600) (h : ∀ u, QC t0 ad x vn T (kRise 1 (kUseN (ks_so s j) (kEmit (1600 * x + 1600) 2 (ks_so s j) s))) u → post none u) : g_E cx (d + 2) i_Mo_visit [.ref (ad 144), .int (nI r), .int (nI n)] t post := by
  obtain ⟨m1, m2, m3, m4⟩ := hm
  have hv : vp_in (nI (1300 * x + r)) 93600 := vp_in_nI (by omega) (by omega)
  have hvj : vp_in (nI j) 130 := vp_in_nI (by omega) (by omega)
  have k1 : t0.2.1 (ad 151) (1300 * x + r) = 2 := m1
  have a0 : t0.2.1 (ad 152) (1300 * x + r) = nI j := m2 (Or.inr rfl)
  refine x_Mo_visit hQ.1.L (fun x1 e1 => ?_)
  rw [hQ.e65 h65, ix13] at e1
  subst e1
  rw [nI_clamp (by omega), c_fI hQ.1 151 _ (by decide) (by decide), k1]
  refine ⟨hv, fun c => absurd c (by decide), fun _ => ?_, fun c => absurd c (by decide), fun c => absurd c (by decide), fun c => absurd c (by decide), fun c => absurd c (by decide), fun c => absurd c (by decide), fun c => absurd c (by decide)⟩
  refine x_Mo_visit_111 hQ.1.L ⟨hv, ?_⟩
  rw [nI_clamp (n := 1300 * x + r) (by omega), c_fI hQ.1 152 _ (by decide) (by decide), a0, nI_clamp (n := j) (by omega), hQ.2.2.2.2.2.2.2.2.1]
  refine ⟨hvj, m_cinst hx h65 hQ hu (fun u Q => ⟨rfl, Q.1.L, hv, ?_⟩)⟩
  rw [c_fI Q.1 152 _ (by decide) (by decide), a0, nI_clamp (n := j) (by omega), Q.2.2.2.2.2.2.2.2.1, kE_so]
  exact ⟨hvj, m_cslot hx h65 Q (fun u2 Q2 => ⟨rfl, Q2.1.L, m_clays hx h65 Q2 (fun u3 Q3 => ⟨rfl, Q3.1.L, h u3 Q3⟩)⟩)⟩
theorem m_visit_12 {r0 r1 : Nat} (hx : x < 48) (hr : r < 1300) (h65 : t0.2.1 (ad 144) 65 = nI x) (hm : rowK t0 ad x N r 12 v [r0, r1]) (hQ : QC t0 ad x vn T s t) (hl : T.length + 10 < 20000) (h : ∀ u, QC t0 ad x vn (T ++ [(41, nI r1, nI n), (40, 12, 0), (41, nI r0, nI n)]) s u → post none u) : g_E cx (d + 2) i_Mo_visit [.ref (ad 144), .int (nI r), .int (nI n)] t post := by
  obtain ⟨m1, m2, m3, m4⟩ := hm
  have hv : vp_in (nI (1300 * x + r)) 93600 := vp_in_nI (by omega) (by omega)
  have k1 : t0.2.1 (ad 151) (1300 * x + r) = 12 := m1
  have a0 : t0.2.1 (ad 152) (1300 * x + r) = nI r0 := (m4 (by decide)).1 r0 rfl
  have a1 : t0.2.1 (ad 153) (1300 * x + r) = nI r1 := (m4 (by decide)).2.1 r1 rfl
  refine x_Mo_visit hQ.1.L (fun x1 e1 => ?_)
  rw [hQ.e65 h65, ix13] at e1
  subst e1
  rw [nI_clamp (by omega), c_fI hQ.1 151 _ (by decide) (by decide), k1]
  refine ⟨hv, fun c => absurd c (by decide), fun c => absurd c (by decide), fun c => absurd c (by decide), fun _ => ?_, fun c => absurd c (by decide), fun c => absurd c (by decide), fun c => absurd c (by decide), fun c => absurd c (by decide)⟩
  refine x_Mo_visit_179 hQ.1.L ⟨hv, ?_⟩
  rw [nI_clamp (by omega), c_fI hQ.1 153 _ (by decide) (by decide), a1]
  refine m_cpush hQ (by omega) (fun u Q => ⟨rfl, Q.1.L, m_cpush Q (by simp; omega) (fun u2 Q2 => ⟨rfl, Q2.1.L, hv, ?_⟩)⟩)
  rw [c_fI Q2.1 152 _ (by decide) (by decide), a0]
  refine m_cpush Q2 (by simp; omega) (fun u3 Q3 => ⟨rfl, Q3.1.L, h u3 ?_⟩)
  simp only [List.append_assoc] at Q3
  exact Q3
theorem m_visit_13 {r0 r1 r2 : Nat} (hx : x < 48) (hr : r < 1300) (h65 : t0.2.1 (ad 144) 65 = nI x) (hm : rowK t0 ad x N r 13 v [r0, r1, r2]) (hQ : QC t0 ad x vn T s t) (hl : T.length + 10 < 20000) (h : ∀ u, QC t0 ad x vn (T ++ [(44, 0, 0), (41, nI r2, nI n), (47, -1, 0), (43, 1, 0), (41, nI r1, nI n), (46, 0, 0), (41, nI r0, nI n)]) s u → post none u) : g_E cx (d + 2) i_Mo_visit [.ref (ad 144), .int (nI r), .int (nI n)] t post := by
  obtain ⟨m1, m2, m3, m4⟩ := hm
  have hv : vp_in (nI (1300 * x + r)) 93600 := vp_in_nI (by omega) (by omega)
  have k1 : t0.2.1 (ad 151) (1300 * x + r) = 13 := m1
  have a0 : t0.2.1 (ad 152) (1300 * x + r) = nI r0 := (m4 (by decide)).1 r0 rfl
  have a1 : t0.2.1 (ad 153) (1300 * x + r) = nI r1 := (m4 (by decide)).2.1 r1 rfl
  have a2 : t0.2.1 (ad 154) (1300 * x + r) = nI r2 := (m4 (by decide)).2.2.1 r2 rfl
  refine x_Mo_visit hQ.1.L (fun x1 e1 => ?_)
  rw [hQ.e65 h65, ix13] at e1
  subst e1
  rw [nI_clamp (by omega), c_fI hQ.1 151 _ (by decide) (by decide), k1]
  refine ⟨hv, fun c => absurd c (by decide), fun c => absurd c (by decide), fun c => absurd c (by decide), fun c => absurd c (by decide), fun _ => ?_, fun c => absurd c (by decide), fun c => absurd c (by decide), fun c => absurd c (by decide)⟩
  refine x_Mo_visit_217 hQ.1.L ?_
  refine m_cpush hQ (by omega) (fun u Q => ⟨rfl, Q.1.L, hv, ?_⟩)
  rw [nI_clamp (by omega), c_fI Q.1 154 _ (by decide) (by decide), a2]
  refine m_cpush Q (by simp; omega) (fun u2 Q2 => ⟨rfl, Q2.1.L, m_cpush Q2 (by simp; omega) (fun u3 Q3 => ⟨rfl, Q3.1.L, m_cpush Q3 (by simp; omega) (fun u4 Q4 => ⟨rfl, Q4.1.L, hv, ?_⟩)⟩)⟩)
  rw [c_fI Q4.1 153 _ (by decide) (by decide), a1]
  refine m_cpush Q4 (by simp; omega) (fun u5 Q5 => ⟨rfl, Q5.1.L, m_cpush Q5 (by simp; omega) (fun u6 Q6 => ⟨rfl, Q6.1.L, hv, ?_⟩)⟩)
  rw [c_fI Q6.1 152 _ (by decide) (by decide), a0]
  refine m_cpush Q6 (by simp; omega) (fun u7 Q7 => ⟨rfl, Q7.1.L, h u7 ?_⟩)
  simp only [List.append_assoc] at Q7
  exact Q7
theorem m_visit_14 {r0 r1 : Nat} (hx : x < 48) (hr : r < 1300) (h65 : t0.2.1 (ad 144) 65 = nI x) (hm : rowK t0 ad x N r 14 v [r0, r1]) (hQ : QC t0 ad x vn T s t) (hl : T.length + 10 < 20000) (h : ∀ u, QC t0 ad x vn (T ++ [(41, nI r1, nI (n + 1)), (45, nI r, nI n), (41, nI r0, nI n)]) s u → post none u) : g_E cx (d + 2) i_Mo_visit [.ref (ad 144), .int (nI r), .int (nI n)] t post := by
  obtain ⟨m1, m2, m3, m4⟩ := hm
  have hv : vp_in (nI (1300 * x + r)) 93600 := vp_in_nI (by omega) (by omega)
  have k1 : t0.2.1 (ad 151) (1300 * x + r) = 14 := m1
  have a0 : t0.2.1 (ad 152) (1300 * x + r) = nI r0 := (m4 (by decide)).1 r0 rfl
  have a1 : t0.2.1 (ad 153) (1300 * x + r) = nI r1 := (m4 (by decide)).2.1 r1 rfl
  refine x_Mo_visit hQ.1.L (fun x1 e1 => ?_)
  rw [hQ.e65 h65, ix13] at e1
  subst e1
  rw [nI_clamp (by omega), c_fI hQ.1 151 _ (by decide) (by decide), k1]
  refine ⟨hv, fun c => absurd c (by decide), fun c => absurd c (by decide), fun c => absurd c (by decide), fun c => absurd c (by decide), fun c => absurd c (by decide), fun _ => ?_, fun c => absurd c (by decide), fun c => absurd c (by decide)⟩
  refine x_Mo_visit_291 hQ.1.L ⟨hv, ?_⟩
  rw [nI_clamp (by omega), c_fI hQ.1 153 _ (by decide) (by decide), a1, nI_1 n]
  refine m_cpush hQ (by omega) (fun u Q => ⟨rfl, Q.1.L, m_cpush Q (by simp; omega) (fun u2 Q2 => ⟨rfl, Q2.1.L, hv, ?_⟩)⟩)
  rw [c_fI Q2.1 152 _ (by decide) (by decide), a0]
  refine m_cpush Q2 (by simp; omega) (fun u3 Q3 => ⟨rfl, Q3.1.L, h u3 ?_⟩)
  simp only [List.append_assoc] at Q3
  exact Q3
end MV
