/-! THE MODEL'S COMPILER: a node at an end is visited; an instruction is emitted -/
section MV3
variable {cx : gCx} {d : Nat} {ad : Nat → Nat} {t0 t : gSt} {post : Option Value → gSt → Prop} {x vn N : Nat} {T : TK} {s : KS} {k v : Int32} {rs : List Nat} {r n : Nat} {tl : Bool}
theorem m_vt_other (hx : x < 48) (hr : r < 1300) (h65 : t0.2.1 (ad 144) 65 = nI x) (hk : ∃ j, 1 ≤ j ∧ j ≤ 15 ∧ k = nI j) (hg : gK k) (h15 : ¬ (k = 15 ∧ tl = true)) (hm : rowK t0 ad x N r k v rs) (hQ : QC t0 ad x vn T s t) (hl : T.length + 10 < 20000) (h : ∀ u, QC t0 ad x vn (T ++ [(40, 49, 0), (41, nI r, nI n)]) s u → post none u) : g_E cx (d + 2) i_Mo_visitTail [.ref (ad 144), .int (nI r), .int (nI n), .int (b32 tl)] t post := by
  obtain ⟨m1, m2, m3, m4⟩ := hm
  have hv : vp_in (nI (1300 * x + r)) 93600 := vp_in_nI (by omega) (by omega)
  have k1 : t0.2.1 (ad 151) (1300 * x + r) = k := m1
  have fin : ∀ u : gSt, QC t0 ad x vn T s u → g_E cx (d + 1) i_Mo_push [.ref (ad 144), .int 40, .int 49, .int 0] u (fun rr u1 => rr = none ∧ Lay u1 ad ∧ (g_E cx (d + 1) i_Mo_push [.ref (ad 144), .int 41, .int (nI r), .int (nI n)] u1 (fun rr u3 => rr = none ∧ Lay u3 ad ∧ (post none u3)))) := fun u Q => by
    refine m_cpush Q (by omega) (fun u2 Q2 => ⟨rfl, Q2.1.L, m_cpush Q2 (by simp; omega) (fun u3 Q3 => ⟨rfl, Q3.1.L, h u3 ?_⟩)⟩)
    simp only [List.append_assoc] at Q3
    exact Q3
  refine x_Mo_visitTail hQ.1.L (fun x1 e1 => ?_)
  rw [hQ.e65 h65, ix13] at e1
  subst e1
  rw [nI_clamp (by omega), c_fI hQ.1 151 _ (by decide) (by decide), k1]
  refine ⟨hv, fun c => absurd (Or.inl c) hg, fun c => absurd (Or.inr (Or.inr c)) hg, fun c => absurd (Or.inr (Or.inl c)) hg, fun c => ?_, fun c => x_Mo_visitTail_285 hQ.1.L (fin t hQ)⟩
  have ct : tl = false := by
    cases tl with
    | false => rfl
    | true => exact absurd ⟨c, rfl⟩ h15
  subst ct
  exact x_Mo_visitTail_190 hQ.1.L ⟨fun _ => fin t hQ, fun z => absurd rfl z⟩
theorem m_vt_call (hx : x < 48) (hr : r < 1300) (hN : N ≤ 1300) (h65 : t0.2.1 (ad 144) 65 = nI x) (hm : rowK t0 ad x N r 15 v rs) (hQ : QC t0 ad x vn T s t) (hl : T.length + rs.length + 2 < 20000) (h : ∀ u, QC t0 ad x vn (T ++ (40, 48, v) :: tkV rs n) s u → post none u) : g_E cx (d + 2) i_Mo_visitTail [.ref (ad 144), .int (nI r), .int (nI n), .int (b32 true)] t post := by
  obtain ⟨m1, m2, m3, m4⟩ := hm
  have hv : vp_in (nI (1300 * x + r)) 93600 := vp_in_nI (by omega) (by omega)
  have k1 : t0.2.1 (ad 151) (1300 * x + r) = 15 := m1
  obtain ⟨b1, b2, q, b3, b4, b5⟩ := m3 rfl
  have a2 : t0.2.1 (ad 154) (1300 * x + r) = v := b1
  have a1 : t0.2.1 (ad 153) (1300 * x + r) = nI rs.length := b2
  have a0 : t0.2.1 (ad 152) (1300 * x + r) = nI q := b3
  refine x_Mo_visitTail hQ.1.L (fun x1 e1 => ?_)
  rw [hQ.e65 h65, ix13] at e1
  subst e1
  rw [nI_clamp (by omega), c_fI hQ.1 151 _ (by decide) (by decide), k1]
  refine ⟨hv, fun c => absurd c (by decide), fun c => absurd c (by decide), fun c => absurd c (by decide), fun _ => ?_, fun c => absurd c (by decide)⟩
  refine x_Mo_visitTail_190 hQ.1.L ⟨fun z => absurd z (by decide), fun _ => ⟨hv, ?_⟩⟩
  rw [nI_clamp (by omega), c_fI hQ.1 154 _ (by decide) (by decide), a2]
  refine m_cpush hQ (by omega) (fun u Q => ⟨rfl, Q.1.L, hv, fun x3 e3 => ?_⟩)
  rw [c_fI Q.1 153 _ (by decide) (by decide), a1] at e3
  subst e3
  have loop : ∀ i (w : gSt), i ≤ rs.length → QC t0 ad x vn (T ++ [(40, 48, v)] ++ tkV (rs.drop i) n) s w → g_W cx (g_E cx (d + 1)) mt_Mo_visitTail post (220, [some (.ref (ad 144)), some (.int (nI r)), some (.int (nI n)), some (.int (b32 true)), some (.int (nI (1300 * x + r))), some (.int (nI i - 1))], [], w, 0, 0) := by
    intro i
    induction i with
    | zero =>
      intro w hi hq
      refine x_Mo_visitTail_220 hq.1.L ⟨fun _ => h w ?_, fun z => absurd (by decide) z⟩
      rw [List.drop_zero, List.append_assoc] at hq
      exact hq
    | succ i ih =>
      intro w hi hq
      rw [nI_pred]
      have ixq : (1300 : Int32) * nI x + nI q + nI i = nI (1300 * x + (q + i)) := by rw [show (1300 : Int32) = nI 1300 from rfl, nI_mul, nI_add, nI_add, Nat.add_assoc]
      have hil : i < rs.length := by omega
      have eG : t0.2.1 (ad 155) (1300 * x + (q + i)) = nI rs[i] := b5 i rs[i] (List.getElem?_eq_getElem hil)
      refine x_Mo_visitTail_220 hq.1.L ⟨fun z => absurd z (nI_pos (by omega)), fun _ => ⟨hv, ?_⟩⟩
      rw [hq.e65 h65, nI_clamp (by omega), c_fI hq.1 152 _ (by decide) (by decide), a0, ixq, nI_clamp (by omega), c_fI hq.1 155 _ (by decide) (by decide), eG]
      refine ⟨vp_in_nI (by omega) (by omega), ?_⟩
      refine m_cpush hq (by simp; omega) (fun w2 Q2 => ⟨rfl, Q2.1.L, ?_⟩)
      rw [show nI i + (-1) = nI i - 1 from by rw [Int32.sub_eq_add_neg]]
      refine ih w2 (by omega) ?_
      rw [List.drop_eq_getElem_cons hil, tkV_cons, ← List.append_assoc]
      exact Q2
  refine loop rs.length u (Nat.le_refl _) ?_
  rw [List.drop_length, tkV_nil, List.append_nil]
  exact Q
theorem m_vt_12 {r0 r1 : Nat} (hx : x < 48) (hr : r < 1300) (h65 : t0.2.1 (ad 144) 65 = nI x) (hm : rowK t0 ad x N r 12 v [r0, r1]) (hQ : QC t0 ad x vn T s t) (hl : T.length + 10 < 20000) (h : ∀ u, QC t0 ad x vn (T ++ [(42, nI r1, nI n), (40, 12, 0), (41, nI r0, nI n)]) s u → post none u) : g_E cx (d + 2) i_Mo_visitTail [.ref (ad 144), .int (nI r), .int (nI n), .int (b32 tl)] t post := by
  obtain ⟨m1, m2, m3, m4⟩ := hm
  have hv : vp_in (nI (1300 * x + r)) 93600 := vp_in_nI (by omega) (by omega)
  have k1 : t0.2.1 (ad 151) (1300 * x + r) = 12 := m1
  have a0 : t0.2.1 (ad 152) (1300 * x + r) = nI r0 := (m4 (by decide)).1 r0 rfl
  have a1 : t0.2.1 (ad 153) (1300 * x + r) = nI r1 := (m4 (by decide)).2.1 r1 rfl
  refine x_Mo_visitTail hQ.1.L (fun x1 e1 => ?_)
  rw [hQ.e65 h65, ix13] at e1
  subst e1
  rw [nI_clamp (by omega), c_fI hQ.1 151 _ (by decide) (by decide), k1]
  refine ⟨hv, fun _ => ?_, fun c => absurd c (by decide), fun c => absurd c (by decide), fun c => absurd c (by decide), fun c => absurd c (by decide)⟩
  refine x_Mo_visitTail_48 hQ.1.L ⟨hv, ?_⟩
  rw [nI_clamp (by omega), c_fI hQ.1 153 _ (by decide) (by decide), a1]
  refine m_cpush hQ (by omega) (fun u Q => ⟨rfl, Q.1.L, m_cpush Q (by simp; omega) (fun u2 Q2 => ⟨rfl, Q2.1.L, hv, ?_⟩)⟩)
  rw [c_fI Q2.1 152 _ (by decide) (by decide), a0]
  refine m_cpush Q2 (by simp; omega) (fun u3 Q3 => ⟨rfl, Q3.1.L, h u3 ?_⟩)
  simp only [List.append_assoc] at Q3
  exact Q3
theorem m_vt_13 {r0 r1 r2 : Nat} (hx : x < 48) (hr : r < 1300) (h65 : t0.2.1 (ad 144) 65 = nI x) (hm : rowK t0 ad x N r 13 v [r0, r1, r2]) (hQ : QC t0 ad x vn T s t) (hl : T.length + 10 < 20000) (h : ∀ u, QC t0 ad x vn (T ++ [(42, nI r2, nI n), (43, 0, 0), (42, nI r1, nI n), (46, 0, 0), (41, nI r0, nI n)]) s u → post none u) : g_E cx (d + 2) i_Mo_visitTail [.ref (ad 144), .int (nI r), .int (nI n), .int (b32 tl)] t post := by
  obtain ⟨m1, m2, m3, m4⟩ := hm
  have hv : vp_in (nI (1300 * x + r)) 93600 := vp_in_nI (by omega) (by omega)
  have k1 : t0.2.1 (ad 151) (1300 * x + r) = 13 := m1
  have a0 : t0.2.1 (ad 152) (1300 * x + r) = nI r0 := (m4 (by decide)).1 r0 rfl
  have a1 : t0.2.1 (ad 153) (1300 * x + r) = nI r1 := (m4 (by decide)).2.1 r1 rfl
  have a2 : t0.2.1 (ad 154) (1300 * x + r) = nI r2 := (m4 (by decide)).2.2.1 r2 rfl
  refine x_Mo_visitTail hQ.1.L (fun x1 e1 => ?_)
  rw [hQ.e65 h65, ix13] at e1
  subst e1
  rw [nI_clamp (by omega), c_fI hQ.1 151 _ (by decide) (by decide), k1]
  refine ⟨hv, fun c => absurd c (by decide), fun _ => ?_, fun c => absurd c (by decide), fun c => absurd c (by decide), fun c => absurd c (by decide)⟩
  refine x_Mo_visitTail_88 hQ.1.L ⟨hv, ?_⟩
  rw [nI_clamp (by omega), c_fI hQ.1 154 _ (by decide) (by decide), a2]
  refine m_cpush hQ (by omega) (fun u2 Q2 => ⟨rfl, Q2.1.L, m_cpush Q2 (by simp; omega) (fun u4 Q4 => ⟨rfl, Q4.1.L, hv, ?_⟩)⟩)
  rw [c_fI Q4.1 153 _ (by decide) (by decide), a1]
  refine m_cpush Q4 (by simp; omega) (fun u5 Q5 => ⟨rfl, Q5.1.L, m_cpush Q5 (by simp; omega) (fun u6 Q6 => ⟨rfl, Q6.1.L, hv, ?_⟩)⟩)
  rw [c_fI Q6.1 152 _ (by decide) (by decide), a0]
  refine m_cpush Q6 (by simp; omega) (fun u7 Q7 => ⟨rfl, Q7.1.L, h u7 ?_⟩)
  simp only [List.append_assoc] at Q7
  exact Q7
theorem m_vt_14 {r0 r1 : Nat} (hx : x < 48) (hr : r < 1300) (h65 : t0.2.1 (ad 144) 65 = nI x) (hm : rowK t0 ad x N r 14 v [r0, r1]) (hQ : QC t0 ad x vn T s t) (hl : T.length + 10 < 20000) (h : ∀ u, QC t0 ad x vn (T ++ [(42, nI r1, nI (n + 1)), (45, nI r, nI n), (41, nI r0, nI n)]) s u → post none u) : g_E cx (d + 2) i_Mo_visitTail [.ref (ad 144), .int (nI r), .int (nI n), .int (b32 tl)] t post := by
  obtain ⟨m1, m2, m3, m4⟩ := hm
  have hv : vp_in (nI (1300 * x + r)) 93600 := vp_in_nI (by omega) (by omega)
  have k1 : t0.2.1 (ad 151) (1300 * x + r) = 14 := m1
  have a0 : t0.2.1 (ad 152) (1300 * x + r) = nI r0 := (m4 (by decide)).1 r0 rfl
  have a1 : t0.2.1 (ad 153) (1300 * x + r) = nI r1 := (m4 (by decide)).2.1 r1 rfl
  refine x_Mo_visitTail hQ.1.L (fun x1 e1 => ?_)
  rw [hQ.e65 h65, ix13] at e1
  subst e1
  rw [nI_clamp (by omega), c_fI hQ.1 151 _ (by decide) (by decide), k1]
  refine ⟨hv, fun c => absurd c (by decide), fun c => absurd c (by decide), fun _ => ?_, fun c => absurd c (by decide), fun c => absurd c (by decide)⟩
  refine x_Mo_visitTail_149 hQ.1.L ⟨hv, ?_⟩
  rw [nI_clamp (by omega), c_fI hQ.1 153 _ (by decide) (by decide), a1, nI_1 n]
  refine m_cpush hQ (by omega) (fun u Q => ⟨rfl, Q.1.L, m_cpush Q (by simp; omega) (fun u2 Q2 => ⟨rfl, Q2.1.L, hv, ?_⟩)⟩)
  rw [c_fI Q2.1 152 _ (by decide) (by decide), a0]
  refine m_cpush Q2 (by simp; omega) (fun u3 Q3 => ⟨rfl, Q3.1.L, h u3 ?_⟩)
  simp only [List.append_assoc] at Q3
  exact Q3
/-! emit -/
theorem m_emit_ret (hx : x < 48) (h65 : t0.2.1 (ad 144) 65 = nI x) (hQ : QC t0 ad x vn T s t) (hu : ks_us s < 1600 * x + 1600) (h : ∀ u, QC t0 ad x vn T (kEmit (1600 * x + 1600) 17 0 s) u → post none u) : g_E cx (d + 2) i_Mo_emit [.ref (ad 144), .int 49, .int 0] t post := by
  refine x_Mo_emit hQ.1.L ⟨fun _ => ⟨fun c => absurd rfl c, fun _ => ?_⟩, fun c => absurd (by decide) c⟩
  exact m_cinst hx h65 hQ hu (fun u Q => ⟨rfl, Q.1.L, h u Q⟩)
theorem m_emit_op (hx : x < 48) (h65 : t0.2.1 (ad 144) 65 = nI x) {j : Nat} (hj : 3 ≤ j ∧ j ≤ 12) (hQ : QC t0 ad x vn T s t) (hu : ks_us s < 1600 * x + 1600) (h : ∀ u, QC t0 ad x vn T (kRise (if j ≤ 9 ∨ j = 12 then -1 else 0) (kEmit (1600 * x + 1600) (nI j) 0 s)) u → post none u) : g_E cx (d + 2) i_Mo_emit [.ref (ad 144), .int (nI j), .int 0] t post := by
  have ne : ∀ c, c < 60 → (¬ j = c) → ¬ nI j = nI c := fun c hc hn q => hn ((nI_eq (by omega) (by omega)).mp q)
  refine x_Mo_emit hQ.1.L ⟨fun _ => ⟨fun _ => ⟨fun _ => ?_, fun c => absurd (ne 48 (by decide) (by omega)) c⟩, fun c => absurd (ne 49 (by decide) (by omega)) c⟩, fun c => absurd (ne 15 (by decide) (by omega)) c⟩
  refine m_cinst hx h65 hQ hu (fun u Q => ⟨rfl, Q.1.L, ?_⟩)
  rw [show (9 : Int32) = nI 9 from rfl, nI_leI (by omega) (by omega)]
  have fin : ∀ b : Int32, b = (if j ≤ 9 ∨ j = 12 then -1 else 0) → g_W cx (g_E cx (d + 1)) mt_Mo_emit post (134, [some (.ref (ad 144)), some (.int (nI j)), some (.int 0), none], [.int b, .ref (ad 144)], u, 0, 0) := fun b eb => by
    refine x_Mo_emit_134 Q.1.L (m_clays hx h65 Q (fun u2 Q2 => ⟨rfl, Q2.1.L, h u2 ?_⟩))
    rw [← eb]
    exact Q2
  refine ⟨fun c => x_Mo_emit_129 Q.1.L (fin _ (by rw [if_pos (Or.inl c)])), fun c => ⟨fun c2 => fin _ ?_, fun c2 => x_Mo_emit_129 Q.1.L (fin _ ?_)⟩⟩
  · rw [if_neg (fun z => z.elim c (fun z => c2 (by rw [z]; rfl)))]
  · have : j = 12 := by
      have := Classical.not_not.mp c2
      rwa [show (12 : Int32) = nI 12 from rfl, nI_eq (by omega) (by omega)] at this
    rw [if_pos (Or.inr this)]
theorem m_emit_call {g P : Nat} (hx : x < 48) (h65 : t0.2.1 (ad 144) 65 = nI x) (hg : g < 24) (hP : t0.2.1 (ad 147) g = nI P) (hQ : QC t0 ad x vn T s t) (hu : ks_us s < 1600 * x + 1600) (h : ∀ u, QC t0 ad x vn T (kRise 1 (kSetH (ks_h s - nI P) (kEmit (1600 * x + 1600) 16 (nI g) s))) u → post none u) : g_E cx (d + 2) i_Mo_emit [.ref (ad 144), .int 15, .int (nI g)] t post := by
  refine x_Mo_emit hQ.1.L ⟨fun c => absurd rfl c, fun _ => ⟨vp_in_nI hg (by omega), fun x5 e5 => ?_⟩⟩
  rw [nI_clamp (by omega), c_fI hQ.1 147 _ (by decide) (by decide), hP] at e5
  subst e5
  refine m_cinst hx h65 hQ hu (fun u Q => ⟨rfl, Q.1.L, fun t8 e8 => ?_⟩)
  have Q8 : QC t0 ad x vn T (kSetH (ks_h s - nI P) (kEmit (1600 * x + 1600) 16 (nI g) s)) t8 := by
    rw [e8]
    refine Q.f144 (Or.inr rfl) rfl ?_ (by rw [if_neg (by decide)])
    rw [if_pos rfl, Q.2.2.2.2.2.2.2.1, kE_h]
    rfl
  exact m_clays hx h65 Q8 (fun u2 Q2 => ⟨rfl, Q2.1.L, h u2 Q2⟩)
theorem m_emit_ends {g P own : Nat} (hx : x < 48) (h65 : t0.2.1 (ad 144) 65 = nI x) (hg : g < 24) (ho : own < 24) (hxo : x = own ∨ x = 24 + own) (hP : t0.2.1 (ad 147) g = nI P) (hQ : QC t0 ad x vn T s t) (hu : ks_us s < 1600 * x + 1600) (h : ∀ u, QC t0 ad x vn T (kSetH (ks_h s - nI P) (if g = own then kEmit (1600 * x + 1600) 18 0 s else kEmit (1600 * x + 1600) 19 (nI g) s)) u → post none u) : g_E cx (d + 2) i_Mo_emit [.ref (ad 144), .int 48, .int (nI g)] t post := by
  have hmod : nI x - nI x / 24 * 24 = nI own := by
    rw [show (24 : Int32) = nI 24 from rfl, pk_rem (by omega) (by decide) (by decide)]
    rcases hxo with e | e
    · rw [e, Nat.mod_eq_of_lt ho]
    · rw [e, show (24 + own) % 24 = own by omega]
  have eqg : (nI g = nI own) ↔ g = own := nI_eq (by omega) (by omega)
  have fin : ∀ (a b : Int32), (if g = own then kEmit (1600 * x + 1600) 18 0 s else kEmit (1600 * x + 1600) 19 (nI g) s) = kEmit (1600 * x + 1600) a b s → g_W cx (g_E cx (d + 1)) mt_Mo_emit post (91, [some (.ref (ad 144)), some (.int 48), some (.int (nI g)), none], [.int b, .int a, .ref (ad 144)], t, 0, 0) := fun a b eb => by
    refine x_Mo_emit_91 hQ.1.L (m_cinst hx h65 hQ hu (fun u Q => ⟨rfl, Q.1.L, vp_in_nI hg (by omega), fun t3 e3 => h t3 ?_⟩))
    rw [nI_clamp (by omega), c_fI Q.1 147 _ (by decide) (by decide), hP, Q.2.2.2.2.2.2.2.1, kE_h] at e3
    rw [eb, e3]
    exact Q.f144 (Or.inr rfl) rfl (by rw [if_pos rfl]; rfl) (by rw [if_neg (by decide)])
  refine x_Mo_emit hQ.1.L ⟨fun _ => ⟨fun _ => ⟨fun c => absurd rfl c, fun _ => ?_⟩, fun c => absurd (by decide) c⟩, fun c => absurd (by decide) c⟩
  rw [hQ.e65 h65, hmod, eqg]
  refine ⟨fun c => x_Mo_emit_75 hQ.1.L ?_, fun c => x_Mo_emit_75 hQ.1.L ?_⟩
  · rw [hQ.e65 h65, hmod, eqg]
    exact ⟨fun _ => fin _ _ (if_neg c), fun z => absurd c z⟩
  · rw [hQ.e65 h65, hmod, eqg]
    exact ⟨fun z => absurd z c, fun _ => fin _ _ (if_pos (Classical.not_not.mp c))⟩
end MV3
