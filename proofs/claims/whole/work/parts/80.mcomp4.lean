/-! THE MODEL'S COMPILER: its tasks, one by one -/
abbrev HdC (cx : gCx) (d : Nat) (ad : Nat → Nat) (post : Option Value → gSt → Prop) (l1 : Int32) (tl : Bool) (l3 : Int32) (t : gSt) : Prop := ∀ (l4 : Int32) (o5 o6 o7 : Option Value), g_W cx (g_E cx (d + 2)) mt_Mo_compile post (97, [some (.ref (ad 144)), some (.int l1), some (.int (b32 tl)), some (.int l3), some (.int l4), o5, o6, o7], [], t, 0, 0)
section MK
variable {cx : gCx} {d : Nat} {ad : Nat → Nat} {t0 t : gSt} {post : Option Value → gSt → Prop} {x vn N : Nat} {T : TK} {s : KS} {k v : Int32} {rs : List Nat} {r n : Nat} {tl : Bool} {l1 l3 : Int32}
theorem hd_nx {u : gSt} {l4 l5 l6 : Int32} {o7 : Option Value} (hL : Lay u ad) (h : HdC cx d ad post l1 tl l3 u) : g_W cx (g_E cx (d + 2)) mt_Mo_compile post (427, [some (.ref (ad 144)), some (.int l1), some (.int (b32 tl)), some (.int l3), some (.int l4), some (.int l5), some (.int l6), o7], [], u, 0, 0) := x_Mo_compile_427 hL (h _ _ _ _)
theorem QC.pop {q : Int32 × Int32 × Int32} {t1 : gSt} (h : QC t0 ad x vn (T ++ [q]) s t) (hl : T.length < 20000) (e : t1 = g_si t (ad 144) 29 ((t.2.1 (ad 144) 29) - 1)) : QC t0 ad x vn T s t1 ∧ t1.2.1 (ad 144) 29 = nI T.length ∧ t1.2.1 (ad 159) T.length = q.1 ∧ t1.2.1 (ad 160) T.length = q.2.1 ∧ t1.2.1 (ad 161) T.length = q.2.2 := by
  obtain ⟨p1, p2, p3⟩ := h.2.1.pop h.1.L hl e
  exact ⟨h.push p2 p1, p3⟩
theorem c_emit {a b : Int32} (hQ : QC t0 ad x vn (T ++ [(40, a, b)]) s t) (hl : T.length < 20000) (h : ∀ (t1 : gSt) (post' : Option Value → gSt → Prop), QC t0 ad x vn T s t1 → (∀ u, Lay u ad → HdC cx d ad post l1 tl l3 u → post' none u) → g_E cx (d + 2) i_Mo_emit [.ref (ad 144), .int a, .int b] t1 post') : HdC cx d ad post l1 tl l3 t := by
  intro l4 o5 o6 o7
  have h1 : t.2.1 (ad 144) 29 = nI (T.length + 1) := by rw [hQ.2.1.1, List.length_append]; rfl
  refine x_Mo_compile_97 hQ.1.L ⟨fun q => ?_, fun _ t1 e1 => ?_⟩
  · rw [h1] at q
    exact absurd q (nI_nle (by omega) (by omega))
  · obtain ⟨Q1, p3, p4, p5, p6⟩ := hQ.pop hl e1
    dsimp only at p4 p5 p6
    rw [p3, nI_clamp (by omega), p4, p5, p6]
    have hv := vp_in_nI (N := 20000) hl (by omega)
    refine ⟨hv, fun x2 e2 => ⟨hv, fun x3 e3 => ⟨hv, fun x4 e4 => ?_⟩⟩⟩
    subst e2 e3 e4
    exact ⟨fun _ => ⟨fun _ => ⟨fun c => absurd rfl c, fun _ => h t1 _ Q1 (fun u hL hu => ⟨rfl, hL, hd_nx hL hu⟩)⟩, fun c => absurd (by decide) c⟩, fun c => absurd (by decide) c⟩
theorem c_visit {a b : Int32} (hQ : QC t0 ad x vn (T ++ [(41, a, b)]) s t) (hl : T.length < 20000) (h : ∀ (t1 : gSt) (post' : Option Value → gSt → Prop), QC t0 ad x vn T s t1 → (∀ u, Lay u ad → HdC cx d ad post l1 tl l3 u → post' none u) → g_E cx (d + 2) i_Mo_visit [.ref (ad 144), .int a, .int b] t1 post') : HdC cx d ad post l1 tl l3 t := by
  intro l4 o5 o6 o7
  have h1 : t.2.1 (ad 144) 29 = nI (T.length + 1) := by rw [hQ.2.1.1, List.length_append]; rfl
  refine x_Mo_compile_97 hQ.1.L ⟨fun q => ?_, fun _ t1 e1 => ?_⟩
  · rw [h1] at q
    exact absurd q (nI_nle (by omega) (by omega))
  · obtain ⟨Q1, p3, p4, p5, p6⟩ := hQ.pop hl e1
    dsimp only at p4 p5 p6
    rw [p3, nI_clamp (by omega), p4, p5, p6]
    have hv := vp_in_nI (N := 20000) hl (by omega)
    refine ⟨hv, fun x2 e2 => ⟨hv, fun x3 e3 => ⟨hv, fun x4 e4 => ?_⟩⟩⟩
    subst e2 e3 e4
    exact ⟨fun c => absurd rfl c, fun _ => h t1 _ Q1 (fun u hL hu => ⟨rfl, hL, hd_nx hL hu⟩)⟩
theorem c_vtail {a b : Int32} (hQ : QC t0 ad x vn (T ++ [(42, a, b)]) s t) (hl : T.length < 20000) (h : ∀ (t1 : gSt) (post' : Option Value → gSt → Prop), QC t0 ad x vn T s t1 → (∀ u, Lay u ad → HdC cx d ad post l1 tl l3 u → post' none u) → g_E cx (d + 2) i_Mo_visitTail [.ref (ad 144), .int a, .int b, .int (b32 tl)] t1 post') : HdC cx d ad post l1 tl l3 t := by
  intro l4 o5 o6 o7
  have h1 : t.2.1 (ad 144) 29 = nI (T.length + 1) := by rw [hQ.2.1.1, List.length_append]; rfl
  refine x_Mo_compile_97 hQ.1.L ⟨fun q => ?_, fun _ t1 e1 => ?_⟩
  · rw [h1] at q
    exact absurd q (nI_nle (by omega) (by omega))
  · obtain ⟨Q1, p3, p4, p5, p6⟩ := hQ.pop hl e1
    dsimp only at p4 p5 p6
    rw [p3, nI_clamp (by omega), p4, p5, p6]
    have hv := vp_in_nI (N := 20000) hl (by omega)
    refine ⟨hv, fun x2 e2 => ⟨hv, fun x3 e3 => ⟨hv, fun x4 e4 => ?_⟩⟩⟩
    subst e2 e3 e4
    exact ⟨fun _ => ⟨fun c => absurd rfl c, fun _ => h t1 _ Q1 (fun u hL hu => ⟨rfl, hL, hd_nx hL hu⟩)⟩, fun c => absurd (by decide) c⟩
theorem c_store {jv : Nat} (hx : x < 48) (hr : r < 1300) (h65 : t0.2.1 (ad 144) 65 = nI x) (hC : t0.2.1 (ad 154) (1300 * x + r) = nI jv) (hj : jv < 120) (hQ : QC t0 ad x vn (T ++ [(45, nI r, nI n)]) s t) (hl : T.length < 20000) (hu : ks_us s < 1600 * x + 1600) (h : ∀ u, QC t0 ad x vn T (kSetSo jv (nI n) (kRise (-1) (kUseN (nI n) (kEmit (1600 * x + 1600) 13 (nI n) s)))) u → HdC cx d ad post l1 tl l3 u) : HdC cx d ad post l1 tl l3 t := by
  intro l4 o5 o6 o7
  have h1 : t.2.1 (ad 144) 29 = nI (T.length + 1) := by rw [hQ.2.1.1, List.length_append]; rfl
  refine x_Mo_compile_97 hQ.1.L ⟨fun q => ?_, fun _ t1 e1 => ?_⟩
  · rw [h1] at q
    exact absurd q (nI_nle (by omega) (by omega))
  · obtain ⟨Q1, p3, p4, p5, p6⟩ := hQ.pop hl e1
    dsimp only at p4 p5 p6
    rw [p3, nI_clamp (by omega), p4, p5, p6]
    have hv := vp_in_nI (N := 20000) hl (by omega)
    refine ⟨hv, fun x2 e2 => ⟨hv, fun x3 e3 => ⟨hv, fun x4 e4 => ?_⟩⟩⟩
    subst e2 e3 e4
    refine ⟨fun _ => ⟨fun _ => ⟨fun _ => ⟨fun c => absurd rfl c, fun _ => ?_⟩, fun c => absurd (by decide) c⟩, fun c => absurd (by decide) c⟩, fun c => absurd (by decide) c⟩
    refine m_cinst hx h65 Q1 hu (fun u Q => ⟨rfl, Q.1.L, m_cslot hx h65 Q (fun u2 Q2 => ⟨rfl, Q2.1.L, m_clays hx h65 Q2 (fun u3 Q3 => ⟨rfl, Q3.1.L, ?_⟩)⟩)⟩)
    rw [Q3.e65 h65, ix13, nI_clamp (n := 1300 * x + r) (by omega), c_fI Q3.1 154 _ (by decide) (by decide), hC]
    refine ⟨vp_in_nI (by omega) (by omega), vp_in_nI (by omega) (by omega), fun t28 e28 => ?_⟩
    rw [nI_clamp (by omega)] at e28
    obtain ⟨s3, es3⟩ : ∃ s3, kRise (-1) (kUseN (nI n) (kEmit (1600 * x + 1600) 13 (nI n) s)) = s3 := ⟨_, rfl⟩
    rw [es3] at Q3 h
    have Q4 : QC t0 ad x vn T (kSetSo jv (nI n) s3) t28 := by
      rw [e28]
      exact Q3.frow (Or.inr (Or.inr (Or.inr (Or.inr (Or.inr (Or.inl rfl)))))) rfl rfl rfl Q3.2.2.2.2.1.2 rfl rfl rfl rfl rfl
    exact hd_nx Q4.1.L (h t28 Q4)
theorem c_atelse (hx : x < 48) (h65 : t0.2.1 (ad 144) 65 = nI x) (hvn : vn < 3100) (hQ : QC t0 ad x vn (T ++ [(46, 0, 0)]) s t) (hl : T.length < 20000) (hu : ks_us s < 1600 * x + 1600) (h : ∀ u, QC t0 ad x (vn + 1) T (kRise (-1) (kEmit (1600 * x + 1600) 14 0 (kSetHo vn (nI (ks_us s - 1600 * x)) s))) u → HdC cx d ad post l1 tl l3 u) : HdC cx d ad post l1 tl l3 t := by
  intro l4 o5 o6 o7
  have h1 : t.2.1 (ad 144) 29 = nI (T.length + 1) := by rw [hQ.2.1.1, List.length_append]; rfl
  refine x_Mo_compile_97 hQ.1.L ⟨fun q => ?_, fun _ t1 e1 => ?_⟩
  · rw [h1] at q
    exact absurd q (nI_nle (by omega) (by omega))
  · obtain ⟨Q1, p3, p4, p5, p6⟩ := hQ.pop hl e1
    dsimp only at p4 p5 p6
    rw [p3, nI_clamp (by omega), p4, p5, p6]
    have hv := vp_in_nI (N := 20000) hl (by omega)
    have hvx := vp_in_nI (N := 48) hx (by omega)
    refine ⟨hv, fun x2 e2 => ⟨hv, fun x3 e3 => ⟨hv, fun x4 e4 => ?_⟩⟩⟩
    subst e2 e3 e4
    have e33 : t1.2.1 (ad 144) 33 = nI vn := Q1.2.2.2.2.2.2.2.2.2.2
    rw [Q1.e65 h65, nI_clamp (n := x) (by omega), e33, Q1.2.2.2.2.1.1, nI_clamp (n := vn) (by omega)]
    refine ⟨fun _ => ⟨fun _ => ⟨fun _ => ⟨fun _ => ⟨fun c => absurd rfl c, fun _ => ⟨hvx, vp_in_nI hvn (by omega), fun t16 e16 t17 e17 => ?_⟩⟩, fun c => absurd (by decide) c⟩, fun c => absurd (by decide) c⟩, fun c => absurd (by decide) c⟩, fun c => absurd (by decide) c⟩
    have Q2 : QC t0 ad x vn T (kSetHo vn (nI (ks_us s - 1600 * x)) s) t16 := by
      rw [e16]
      exact Q1.frow (Or.inr (Or.inr (Or.inr (Or.inr (Or.inr (Or.inr rfl)))))) rfl rfl rfl Q1.2.2.2.2.1.2 rfl rfl rfl rfl rfl
    have e33' : t16.2.1 (ad 144) 33 = nI vn := Q2.2.2.2.2.2.2.2.2.2.2
    rw [e33', nI_1] at e17
    have Q3 : QC t0 ad x (vn + 1) T (kSetHo vn (nI (ks_us s - 1600 * x)) s) t17 := by
      rw [e17]
      exact Q2.f144 (Or.inl rfl) rfl (by rw [if_neg (by decide)]) (by rw [if_pos rfl])
    exact m_cinst hx h65 Q3 hu (fun u Q => ⟨rfl, Q.1.L, m_clays hx h65 Q (fun u2 Q4 => ⟨rfl, Q4.1.L, hd_nx Q4.1.L (h u2 Q4)⟩)⟩)
/-- a place that is known now is written -/
theorem QC.fill {p0 : Nat} {t1 : gSt} (hx : x < 48) (hQ : QC t0 ad x vn T s t) (hp : 1600 * x + p0 < 1600 * x + 1600) (hb : 1600 * x ≤ ks_us s) (e : t1 = g_si t (ad 183) (1600 * x + p0) (nI (ks_us s - 1600 * x))) : QC t0 ad x vn T (kFill (1600 * x + 1600) (1600 * x) (nI (1600 * x + p0)) s) t1 := by
  have ek : kFill (1600 * x + 1600) (1600 * x) (nI (1600 * x + p0)) s = (s.1, va_up (ks_od s) (nI (1600 * x + p0)).toNatClampNeg (nI (ks_us s) - nI (1600 * x)), s.2.2) := if_neg (nI_ge hp (by omega))
  rw [ek, nI_clamp (by omega), nI_sub hb, e]
  exact hQ.frow (Or.inr (Or.inl rfl)) rfl rfl rfl hb rfl rfl rfl rfl rfl
theorem c_pelse0 {p0 : Nat} (hx : x < 48) (h65 : t0.2.1 (ad 144) 65 = nI x) (hvn : vn < 3100) (hQ : QC t0 ad x (vn + 1) (T ++ [(43, 0, 0)]) s t) (hl : T.length < 20000) (hp : p0 < 1600) (hho : ks_ho s vn = nI p0) (h : ∀ u, QC t0 ad x vn T (kFill (1600 * x + 1600) (1600 * x) (nI (1600 * x + p0)) (kSetH 0 s)) u → HdC cx d ad post l1 tl l3 u) : HdC cx d ad post l1 tl l3 t := by
  intro l4 o5 o6 o7
  have h1 : t.2.1 (ad 144) 29 = nI (T.length + 1) := by rw [hQ.2.1.1, List.length_append]; rfl
  refine x_Mo_compile_97 hQ.1.L ⟨fun q => ?_, fun _ t1 e1 => ?_⟩
  · rw [h1] at q
    exact absurd q (nI_nle (by omega) (by omega))
  · obtain ⟨Q1, p3, p4, p5, p6⟩ := hQ.pop hl e1
    dsimp only at p4 p5 p6
    rw [p3, nI_clamp (by omega), p4, p5, p6]
    have hv := vp_in_nI (N := 20000) hl (by omega)
    have hvx := vp_in_nI (N := 48) hx (by omega)
    refine ⟨hv, fun x2 e2 => ⟨hv, fun x3 e3 => ⟨hv, fun x4 e4 => ?_⟩⟩⟩
    subst e2 e3 e4
    refine ⟨fun _ => ⟨fun _ => ⟨fun _ => ⟨fun _ => ⟨fun _ => ⟨fun c => absurd rfl c, fun _ => ?_⟩, fun c => absurd (by decide) c⟩, fun c => absurd (by decide) c⟩, fun c => absurd (by decide) c⟩, fun c => absurd (by decide) c⟩, fun c => absurd (by decide) c⟩
    refine m_cgot hvn Q1 (fun u Q => ⟨_, rfl, Q.1.L, fun _ t11 e11 => ?_, fun c => absurd (by decide) c⟩)
    have Q2 : QC t0 ad x vn T (kSetH 0 s) t11 := by
      rw [e11]
      exact Q.f144 (Or.inr rfl) rfl (by rw [if_pos rfl]; rfl) (by rw [if_neg (by decide)])
    refine x_Mo_compile_351 Q2.1.L ?_
    have ix : (1600 : Int32) * nI x + nI p0 = nI (1600 * x + p0) := by rw [show (1600 : Int32) = nI 1600 from rfl, nI_mul, nI_add]
    rw [Q2.e65 h65, nI_clamp (n := x) (by omega), hho, ix, Q2.2.2.2.2.1.1, nI_clamp (by omega)]
    refine ⟨hvx, vp_in_nI (by omega) (by omega), fun t2 e2 => ?_⟩
    have Q3 := Q2.fill (p0 := p0) hx (by omega) Q2.2.2.2.2.1.2 e2
    exact hd_nx Q3.1.L (h t2 Q3)
theorem c_pelse1 {p0 : Nat} (hx : x < 48) (h65 : t0.2.1 (ad 144) 65 = nI x) (hvn : vn < 3100) (hQ : QC t0 ad x (vn + 1) (T ++ [(43, 1, 0)]) s t) (hl : T.length < 20000) (hp : p0 < 1600) (hho : ks_ho s vn = nI p0) (hu : ks_us s < 1600 * x + 1600) (h : ∀ u, QC t0 ad x (vn + 1) T (kFill (1600 * x + 1600) (1600 * x) (nI (1600 * x + p0)) (kEmit (1600 * x + 1600) 15 0 (kSetHo vn (nI (ks_us s - 1600 * x)) s))) u → HdC cx d ad post l1 tl l3 u) : HdC cx d ad post l1 tl l3 t := by
  intro l4 o5 o6 o7
  have h1 : t.2.1 (ad 144) 29 = nI (T.length + 1) := by rw [hQ.2.1.1, List.length_append]; rfl
  refine x_Mo_compile_97 hQ.1.L ⟨fun q => ?_, fun _ t1 e1 => ?_⟩
  · rw [h1] at q
    exact absurd q (nI_nle (by omega) (by omega))
  · obtain ⟨Q1, p3, p4, p5, p6⟩ := hQ.pop hl e1
    dsimp only at p4 p5 p6
    rw [p3, nI_clamp (by omega), p4, p5, p6]
    have hv := vp_in_nI (N := 20000) hl (by omega)
    have hvx := vp_in_nI (N := 48) hx (by omega)
    refine ⟨hv, fun x2 e2 => ⟨hv, fun x3 e3 => ⟨hv, fun x4 e4 => ?_⟩⟩⟩
    subst e2 e3 e4
    refine ⟨fun _ => ⟨fun _ => ⟨fun _ => ⟨fun _ => ⟨fun _ => ⟨fun c => absurd rfl c, fun _ => ?_⟩, fun c => absurd (by decide) c⟩, fun c => absurd (by decide) c⟩, fun c => absurd (by decide) c⟩, fun c => absurd (by decide) c⟩, fun c => absurd (by decide) c⟩
    refine m_cgot hvn Q1 (fun u Q => ⟨_, rfl, Q.1.L, fun c => absurd rfl c, fun _ => ?_⟩)
    rw [Q.e65 h65, nI_clamp (n := x) (by omega), Q.2.2.2.2.1.1]
    refine ⟨hvx, m_cgive hvn Q (fun u2 Q2 => ⟨rfl, Q2.1.L, m_cinst hx h65 Q2 hu (fun u3 Q3 => ⟨rfl, Q3.1.L, x_Mo_compile_351 Q3.1.L ?_⟩)⟩)⟩
    have ix : (1600 : Int32) * nI x + nI p0 = nI (1600 * x + p0) := by rw [show (1600 : Int32) = nI 1600 from rfl, nI_mul, nI_add]
    rw [Q3.e65 h65, nI_clamp (n := x) (by omega), hho, ix, Q3.2.2.2.2.1.1, nI_clamp (by omega)]
    refine ⟨hvx, vp_in_nI (by omega) (by omega), fun t2 e2 => ?_⟩
    have Q4 := Q3.fill (p0 := p0) hx (by omega) Q3.2.2.2.2.1.2 e2
    exact hd_nx Q4.1.L (h t2 Q4)
theorem c_pjump {p0 : Nat} (hx : x < 48) (h65 : t0.2.1 (ad 144) 65 = nI x) (hvn : vn < 3100) (hQ : QC t0 ad x (vn + 1) (T ++ [(44, 0, 0)]) s t) (hl : T.length < 20000) (hp : p0 < 1600) (hho : ks_ho s vn = nI p0) (h : ∀ u, QC t0 ad x vn T (kFill (1600 * x + 1600) (1600 * x) (nI (1600 * x + p0)) s) u → HdC cx d ad post l1 tl l3 u) : HdC cx d ad post l1 tl l3 t := by
  intro l4 o5 o6 o7
  have h1 : t.2.1 (ad 144) 29 = nI (T.length + 1) := by rw [hQ.2.1.1, List.length_append]; rfl
  refine x_Mo_compile_97 hQ.1.L ⟨fun q => ?_, fun _ t1 e1 => ?_⟩
  · rw [h1] at q
    exact absurd q (nI_nle (by omega) (by omega))
  · obtain ⟨Q1, p3, p4, p5, p6⟩ := hQ.pop hl e1
    dsimp only at p4 p5 p6
    rw [p3, nI_clamp (by omega), p4, p5, p6]
    have hv := vp_in_nI (N := 20000) hl (by omega)
    have hvx := vp_in_nI (N := 48) hx (by omega)
    refine ⟨hv, fun x2 e2 => ⟨hv, fun x3 e3 => ⟨hv, fun x4 e4 => ?_⟩⟩⟩
    subst e2 e3 e4
    refine ⟨fun _ => ⟨fun _ => ⟨fun _ => ⟨fun _ => ⟨fun _ => ⟨fun _ => ⟨fun c => absurd rfl c, fun _ => ?_⟩, fun c => absurd (by decide) c⟩, fun c => absurd (by decide) c⟩, fun c => absurd (by decide) c⟩, fun c => absurd (by decide) c⟩, fun c => absurd (by decide) c⟩, fun c => absurd (by decide) c⟩
    refine m_cgot hvn Q1 (fun u Q => ⟨_, rfl, Q.1.L, ?_⟩)
    have ix : (1600 : Int32) * nI x + nI p0 = nI (1600 * x + p0) := by rw [show (1600 : Int32) = nI 1600 from rfl, nI_mul, nI_add]
    rw [Q1.e65 h65, Q.e65 h65, nI_clamp (n := x) (by omega), hho, ix, Q.2.2.2.2.1.1, nI_clamp (by omega)]
    refine ⟨hvx, vp_in_nI (by omega) (by omega), fun t2 e2 => ?_⟩
    have Q3 := Q.fill (p0 := p0) hx (by omega) Q.2.2.2.2.1.2 e2
    exact hd_nx Q3.1.L (h t2 Q3)
theorem c_laid (hQ : QC t0 ad x vn (T ++ [(47, -1, 0)]) s t) (hl : T.length < 20000) (h : ∀ u, QC t0 ad x vn T (kSetH (ks_h s + -1) s) u → HdC cx d ad post l1 tl l3 u) : HdC cx d ad post l1 tl l3 t := by
  intro l4 o5 o6 o7
  have h1 : t.2.1 (ad 144) 29 = nI (T.length + 1) := by rw [hQ.2.1.1, List.length_append]; rfl
  refine x_Mo_compile_97 hQ.1.L ⟨fun q => ?_, fun _ t1 e1 => ?_⟩
  · rw [h1] at q
    exact absurd q (nI_nle (by omega) (by omega))
  · obtain ⟨Q1, p3, p4, p5, p6⟩ := hQ.pop hl e1
    dsimp only at p4 p5 p6
    rw [p3, nI_clamp (by omega), p4, p5, p6]
    have hv := vp_in_nI (N := 20000) hl (by omega)
    refine ⟨hv, fun x2 e2 => ⟨hv, fun x3 e3 => ⟨hv, fun x4 e4 => ?_⟩⟩⟩
    subst e2 e3 e4
    refine ⟨fun _ => ⟨fun _ => ⟨fun _ => ⟨fun _ => ⟨fun _ => ⟨fun _ => ⟨fun _ t5 e5 => ?_, fun c => absurd (by decide) c⟩, fun c => absurd (by decide) c⟩, fun c => absurd (by decide) c⟩, fun c => absurd (by decide) c⟩, fun c => absurd (by decide) c⟩, fun c => absurd (by decide) c⟩, fun c => absurd (by decide) c⟩
    rw [Q1.2.2.2.2.2.2.2.1] at e5
    obtain ⟨hh, eh⟩ : ∃ hh, ks_h s + -1 = hh := ⟨_, rfl⟩
    rw [eh] at e5 h
    have Q2 : QC t0 ad x vn T (kSetH hh s) t5 := by
      rw [e5]
      exact Q1.f144 (Or.inr rfl) rfl (by rw [if_pos rfl]; rfl) (by rw [if_neg (by decide)])
    exact hd_nx Q2.1.L (h t5 Q2)
theorem c_done (hQ : QC t0 ad x vn [] s t) (h : post none t) : HdC cx d ad post l1 tl l3 t := by
  intro l4 o5 o6 o7
  have h1 : t.2.1 (ad 144) 29 = 0 := hQ.2.1.1
  refine x_Mo_compile_97 hQ.1.L ⟨fun q => h, fun c => absurd (by rw [h1]; decide) c⟩
end MK
