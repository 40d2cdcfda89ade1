/-! FOLDING, the model: a forest -/
def gvn (t0 : gSt) (ad : Nat → Nat) : Fo → Nat → Prop
  | .inner _ k v a b, o => (k = 14 → ∀ r, (fo_r a o)[0]? = some r → t0.2.1 (ad 181) v.toNatClampNeg = nI r) ∧ gvn t0 ad a o ∧ gvn t0 ad b (o + fo_n a + 1)
  | .leaf, _ => True
theorem fo_r_in : ∀ (F : Fo) (o : Nat), ∀ y ∈ fo_r F o, o ≤ y ∧ y < o + fo_n F
  | .leaf, o, y, hy => by cases hy
  | .inner z k v a b, o, y, hy => by
    have e1 : fo_r (.inner z k v a b) o = (o + fo_n a) :: fo_r b (o + fo_n a + 1) := rfl
    have e2 : fo_n (.inner z k v a b) = fo_n a + 1 + fo_n b := rfl
    rw [e1] at hy
    rcases List.mem_cons.mp hy with h | h
    · omega
    · have := fo_r_in b _ y h
      omega
section MF
variable {cx : gCx} {d : Nat} {ad : Nat → Nat} {t0 : gSt} {post : Option Value → gSt → Prop} {n x N M0 : Nat} {par : Int32 → Nat}
abbrev HdF (cx : gCx) (d : Nat) (ad : Nat → Nat) (post : Option Value → gSt → Prop) (x M0 o : Nat) (t : gSt) : Prop := g_W cx (g_E cx (d + 3)) mt_Mo_fold post (116, [some (.ref (ad 144)), some (.int (nI x)), some (.int (nI 48)), some (.int (nI M0)), some (.int (nI o)), none, none], [], t, 0, 0)
theorem EVO.mo {L X : List ND} {M M' : Nat → Int32} {o o' : Nat} {ρ ρ' : RHO} {w : Int32} (h : EVO t0 ad L M o ρ w) (hM : ∀ j, j < o → M' j = M j) (ho : o ≤ o') (hρ : ρ' w = ρ w) : EVO t0 ad (L ++ X) M' o' ρ' w := by
  obtain ⟨i, hi, ei, hc⟩ := h
  refine ⟨i, hi, ei, ?_⟩
  rcases hc with ⟨c1, c2⟩ | ⟨y, z, c1, c2, c3, c4, c5, c6⟩
  · exact Or.inl ⟨c1, by rw [hρ]; exact c2⟩
  · refine Or.inr ⟨y, z, c1, by omega, c3, by rw [hM y c2]; exact c4, by rw [List.length_append]; omega, ?_⟩
    rw [hρ, c6]
    unfold nK nA
    rw [List.getElem?_append_left c5]
theorem m_ff (hx : x < 48) (hN : N ≤ 1300) (hM0 : M0 ≤ 1300) : ∀ (F : Fo) (s0 : List Int32) (pk pv : Int32) (i o : Nat) (L : List ND) (G : List Int32) (M : Nat → Int32) (cm : Nat → Bool) (ρ : RHO) (t : gSt), fo_m (fun i => t0.2.1 (ad 151) (1300 * x + i)) (fun i => t0.2.1 (ad 152) (1300 * x + i)) (fun i => t0.2.1 (ad 153) (1300 * x + i)) (fun i => t0.2.1 (ad 154) (1300 * x + i)) (fun i => t0.2.1 (ad 155) (1300 * x + i)) N id F o → FG n par F (fun j => k_sc pk pv s0 (i + j)) → gvn t0 ad F o → (pk = 14 → i = 0 → (∃ q, q < 120 ∧ pv = nI q) ∧ pv ∉ s0 ∧ ∀ r, (fo_r F o)[0]? = some r → t0.2.1 (ad 181) pv.toNatClampNeg = nI r) → (∀ w ∈ k_sc pk pv s0 i, EVO t0 ad L M o ρ w) → o + fo_n F ≤ M0 → L.length + fo_n F ≤ 1300 → G.length + fo_n F ≤ 1300 → QD t0 ad L G M cm t →
    (∀ u X Y M' cm' F', QD t0 ad (L ++ X) (G ++ Y) M' cm' u → fz F' = fz (fdK F ρ pk pv i) → rpd (L ++ X) (G ++ Y) F' → cmo cm' F' → (zq F').Pairwise (· < ·) → (∀ q ∈ zq F', L.length ≤ q ∧ q < (L ++ X).length) → (∀ (j y z : Nat), (fo_r F o)[j]? = some y → (zr F')[j]? = some z → M' y = nI z) → (∀ j, (j < o ∨ o + fo_n F ≤ j) → M' j = M j) → (∀ q, q < L.length → cm' q = cm q) → X.length ≤ fo_n F → Y.length + fo_l F ≤ fo_n F → HdF cx d ad post x M0 (o + fo_n F) u) → HdF cx d ad post x M0 o t
  | .leaf, s0, pk, pv, i, o, L, G, M, cm, ρ, t, _, _, _, _, _, _, _, _, hQ, hK => by
    exact hK t [] [] M cm .leaf (by rw [List.append_nil, List.append_nil]; exact hQ) rfl trivial trivial List.Pairwise.nil (fun q hq => by cases hq) (fun j y z hy => by cases hy) (fun _ _ => rfl) (fun _ _ => rfl) (Nat.le_refl _) (Nat.le_refl _)
  | .inner z k v a b, s0, pk, pv, i, o, L, G, M, cm, ρ, t, hm, hG, hg, hp, hE, ho, hL, hGl, hQ, hK => by
    have en : fo_n (.inner z k v a b) = fo_n a + 1 + fo_n b := rfl
    have el : fo_l (.inner z k v a b) = fo_l b + 1 := rfl
    have er : fo_r (.inner z k v a b) o = (o + fo_n a) :: fo_r b (o + fo_n a + 1) := rfl
    rw [en] at ho hL hGl
    have hw := hG.w
    have hvb : k = 14 → v ∈ fo_b (.inner z k v a b) := fun c => by
      rw [fo_b_eq, if_pos c]
      exact List.mem_append.mpr (Or.inl (List.mem_append.mpr (Or.inl (List.mem_singleton.mpr rfl))))
    have hGa := hG.kid
    have hGa : FG n par a (k_sc k v (k_sc pk pv s0 i)) := hGa
    have eka : (fun j => k_sc k v (k_sc pk pv s0 i) (0 + j)) = k_sc k v (k_sc pk pv s0 i) := funext (fun j => by rw [Nat.zero_add])
    have eka0 : k_sc k v (k_sc pk pv s0 i) 0 = k_sc pk pv s0 i := if_neg (fun c => c.2 rfl)
    refine m_ff hx hN hM0 a (k_sc pk pv s0 i) k v 0 o L G M cm ρ t hm.1 (by rw [eka]; exact hGa) hg.2.1 (fun c _ => ⟨hG.b v (hvb c), fun c2 => hG.s 0 v c2 (hvb c), hg.1 c⟩) (by rw [eka0]; exact hE) (by omega) (by omega) (by omega) hQ (fun u1 X1 Y1 M1 cm1 K Q1 fz1 r1 c1 p1 b1 mp1 n1 k1 x1 y1 => ?_)
    have hla : fo_l K = fo_l a := by rw [← fz_l K, fz1, fz_l, fdK_l a _ hGa.w]
    have hrl := fo_rl a o
    have lX1 : (L ++ X1).length = L.length + X1.length := List.length_append ..
    have lY1 : (G ++ Y1).length = G.length + Y1.length := List.length_append ..
    have H : FOH t0 ad n par x N (o + fo_n a) k v (fo_r a o) K (L ++ X1) (G ++ Y1) M1 cm1 L.length u1 := ⟨hx, by omega, hN, hm.2.1, by rw [hrl]; exact hw.2.1, hw.1, fun q hq => by have := fo_r_in a o q hq; omega, by rw [hla, hrl], mp1, Q1, by omega, by rw [hrl, lY1]; omega, r1, fo_v_eq fz1.symm (fo_wv _ _ (fdK_w a _ ρ k v 0 hGa.w hGa.d hGa.s)), p1, b1, c1, by omega⟩
    refine x_Mo_fold_116 Q1.1.L ⟨fun c => absurd c (nI_ge (by omega) (by omega)), fun _ => ?_⟩
    refine m_foldOne (o := o) (ρ := ρ) H (fun c => (hE v (hw.2.2.1 c)).mo (fun j hj => n1 j (Or.inl hj)) (Nat.le_refl _) rfl) (fun u2 y X2 Y2 T cm2 R => ?_)
    refine ⟨_, rfl, R.q.1.L, vp_in_nI (by omega) (by omega), fun t4 e4 => ?_⟩
    rw [nI_clamp (by omega)] at e4
    rw [nI_1]
    have lX2 : (L ++ X1 ++ X2).length = L.length + X1.length + X2.length := by rw [List.length_append, lX1]
    have lY2 : (G ++ Y1 ++ Y2).length = G.length + Y1.length + Y2.length := by rw [List.length_append, lY1]
    have hx2 := R.x
    have hy2 : Y2.length ≤ fo_l a := by
      have := R.y'
      rw [hla] at this
      split at this <;> omega
    have Q4 : QD t0 ad (L ++ X1 ++ X2) (G ++ Y1 ++ Y2) (va_up M1 (o + fo_n a) (nI y)) cm2 t4 := by
      obtain ⟨F, E, m, c⟩ := R.q
      have n4 : ∀ c k, c ≠ 177 → c < 199 → t4.2.1 (ad c) k = u2.2.1 (ad c) k := fun c k hc hl => by rw [e4, g_rd_ne (F.L.ne c 177 hl (by decide) hc)]
      refine ⟨by rw [e4]; exact F.si (mfP_t (by omega)), ?_, ?_, fun q hq => by rw [n4 178 q (by decide) (by decide)]; exact c q hq⟩
      · obtain ⟨a1, a2, a3, a4⟩ := E
        refine ⟨by rw [n4 148 48 (by decide) (by decide)]; exact a1, by rw [n4 156 48 (by decide) (by decide)]; exact a2, fun i q hq => ?_, fun i a ha => by rw [n4 155 _ (by decide) (by decide)]; exact a4 i a ha⟩
        rw [n4 151 _ (by decide) (by decide), n4 152 _ (by decide) (by decide), n4 153 _ (by decide) (by decide), n4 154 _ (by decide) (by decide)]
        exact a3 i q hq
      · rw [e4, g_si_at, m]
    -- the tree
    have fzT : fz T = fz (cmb ρ z k v (fdK a ρ k v 0)) := by rw [R.z, cmb_fz, fz1, cmb_fz]
    obtain ⟨y', kT, vT, aT, eT⟩ : ∃ y' kT vT aT, T = .inner y' kT vT aT .leaf := by
      refine fo_l1e ?_
      rw [← zr_l, R.zr']
      rfl
    have ey : y' = y := by
      have := R.zr'
      rw [eT] at this
      exact List.cons.inj this |>.1
    have hyl : y < (L ++ X1 ++ X2).length := (R.b y (zr_sub T y (by rw [R.zr']; exact List.mem_singleton.mpr rfl))).2
    have rT := R.r
    rw [eT, ey] at rT
    have kY : nK (L ++ X1 ++ X2) y = kT := rT.2.1.1
    have vY : kT = 1 → nA (L ++ X1 ++ X2) y = vT := fun c => rT.2.1.2.1 (Or.inl c)
    have hfT : fnum T = if nK (L ++ X1 ++ X2) y = 1 then some (nA (L ++ X1 ++ X2) y) else none := by
      rw [kY, eT]
      show (if kT = 1 then some vT else none) = _
      by_cases c : kT = 1
      · rw [if_pos c, if_pos c, vY c]
      · rw [if_neg c, if_neg c]
    have Mlo : ∀ j, j < o → va_up M1 (o + fo_n a) (nI y) j = M j := fun j hj => by rw [va_up_ne _ _ (by omega), n1 j (Or.inl hj)]
    have emo : ∀ {w : Int32} {ρ' : RHO}, EVO t0 ad L M o ρ w → ρ' w = ρ w → EVO t0 ad (L ++ X1 ++ X2) (va_up M1 (o + fo_n a) (nI y)) (o + fo_n a + 1) ρ' w := fun h hr => by
      rw [List.append_assoc]
      exact h.mo Mlo (by omega) hr
    have hEb : ∀ w ∈ k_sc pk pv s0 (i + 1), EVO t0 ad (L ++ X1 ++ X2) (va_up M1 (o + fo_n a) (nI y)) (o + fo_n a + 1) (rnx ρ pk pv i T) w := by
      intro w hw'
      by_cases c : pk = 14 ∧ i = 0
      · have hr : rnx ρ pk pv i T = rup ρ pv (fnum T) := if_pos c
        rw [hr]
        have hs : k_sc pk pv s0 (i + 1) = pv :: s0 := if_pos ⟨c.1, by omega⟩
        have hs0 : k_sc pk pv s0 i = s0 := if_neg (fun q => q.2 c.2)
        obtain ⟨⟨q, q1, q2⟩, hpv, hgr⟩ := hp c.1 c.2
        rw [hs] at hw'
        rcases List.mem_cons.mp hw' with e | e
        · refine ⟨q, q1, by rw [e, q2], Or.inr ⟨o + fo_n a, y, ?_, by omega, by omega, va_up_self _ _ _, hyl, ?_⟩⟩
          · have := hgr (o + fo_n a) (by rw [er]; rfl)
            rw [q2, nI_clamp (by omega)] at this
            exact this
          · unfold rup
            rw [if_pos e, hfT]
        · refine emo (hE w (by rw [hs0]; exact e)) ?_
          unfold rup
          rw [if_neg (fun q => hpv (by rw [← q]; exact e))]
      · have hr : rnx ρ pk pv i T = ρ := if_neg c
        rw [hr]
        have hs : k_sc pk pv s0 (i + 1) = k_sc pk pv s0 i := by
          unfold k_sc
          by_cases c14 : pk = 14
          · rw [if_pos ⟨c14, by omega⟩, if_pos ⟨c14, fun q => c ⟨c14, q⟩⟩]
          · rw [if_neg (fun q => c14 q.1), if_neg (fun q => c14 q.1)]
        rw [hs] at hw'
        exact emo (hE w hw') rfl
    have hGb := hG.rest
    have ekb : (fun j => k_sc pk pv s0 (i + (j + 1))) = (fun j => k_sc pk pv s0 (i + 1 + j)) := funext (fun j => by rw [show i + (j + 1) = i + 1 + j by omega])
    have hGb : FG n par b (fun j => k_sc pk pv s0 (i + (j + 1))) := hGb
    rw [ekb] at hGb
    refine m_ff hx hN hM0 b s0 pk pv (i + 1) (o + fo_n a + 1) (L ++ X1 ++ X2) (G ++ Y1 ++ Y2) _ cm2 (rnx ρ pk pv i T) t4 hm.2.2 hGb hg.2.2 (fun _ c => by omega) hEb (by omega) (by rw [lX2]; omega) (by rw [lY2]; omega) Q4 (fun u5 X3 Y3 M3 cm3 B Q5 fz5 r5 c5 p5 b5 mp5 n5 k5 x5 y5 => ?_)
    have eX : L ++ X1 ++ X2 ++ X3 = L ++ (X1 ++ X2 ++ X3) := by simp
    have eY : G ++ Y1 ++ Y2 ++ Y3 = G ++ (Y1 ++ Y2 ++ Y3) := by simp
    have lX3 : (L ++ X1 ++ X2 ++ X3).length = L.length + X1.length + X2.length + X3.length := by rw [List.length_append, lX2]
    have hTb : ∀ q ∈ zq T, L.length ≤ q ∧ q < L.length + X1.length + X2.length := fun q hq => by
      have := R.b q hq
      rw [lX2] at this
      exact this
    rw [lX2, lX3] at b5
    rw [show o + fo_n (.inner z k v a b) = o + fo_n a + 1 + fo_n b by rw [en]; omega] at hK
    refine hK u5 (X1 ++ X2 ++ X3) (Y1 ++ Y2 ++ Y3) M3 cm3 (fo_ap T B) (by rw [← eX, ← eY]; exact Q5) ?_ ?_ (cmo_ap T B (cmo_cg T R.c (fun q hq => k5 q (by rw [lX2]; exact (hTb q (zr_sub T q hq)).2))) c5) ?_ (fun q hq => ?_) (fun j y0 z0 hy0 hz0 => ?_) (fun j hj => ?_) (fun q hq => ?_) ?_ ?_
    · rw [fz_ap, fzT, fz5, fdK_in, fz_ap, rnx_fz fzT]
    · rw [← eX, ← eY]
      exact rpd_ap T B (rpd_mo T R.r (fun q hq => (R.b q hq).2)) r5
    · rw [zq_ap]
      refine List.pairwise_append.mpr ⟨R.p, p5, fun q1 h1 q2 h2 => ?_⟩
      have := hTb q1 h1
      have := b5 q2 h2
      omega
    · rw [zq_ap] at hq
      rw [← eX, lX3]
      rcases List.mem_append.mp hq with hq | hq
      · have := hTb q hq; omega
      · have := b5 q hq; omega
    · rw [er] at hy0
      rw [zr_ap, R.zr'] at hz0
      match j, hy0, hz0 with
      | 0, hy0, hz0 =>
        have e1 : o + fo_n a = y0 := by simpa using hy0
        have e2 : y = z0 := by simpa using hz0
        rw [n5 y0 (Or.inl (by omega)), ← e1, va_up_self, e2]
      | j + 1, hy0, hz0 =>
        rw [List.getElem?_cons_succ] at hy0
        have hz0 : (zr B)[j]? = some z0 := by simpa using hz0
        exact mp5 j y0 z0 hy0 hz0
    · rw [n5 j (by omega), va_up_ne _ _ (by omega), n1 j (by omega)]
    · rw [k5 q (by rw [lX2]; omega), R.c0 q (by rw [lX1]; omega), k1 q hq]
    · rw [List.length_append, List.length_append, en]
      omega
    · rw [List.length_append, List.length_append, en, el]
      omega
end MF
