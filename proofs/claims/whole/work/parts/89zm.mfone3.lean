/-! FOLDING, the model: nodes with operands -/
section MQ
variable {cx : gCx} {d : Nat} {ad : Nat → Nat} {t0 t : gSt} {post : Option Value → gSt → Prop} {L : List ND} {G : List Int32} {M : Nat → Int32} {cm : Nat → Bool} {lo : Nat} {ρ : RHO} {k v : Int32} {K : Fo} {n : Nat} {par : Int32 → Nat} {x N r : Nat} {rs : List Nat}
abbrev ls9 (ad : Nat → Nat) (x r : Nat) (k : Int32) (a b c : Option Value) : List (Option Value) := [some (.ref (ad 144)), some (.int (nI x)), some (.int (nI r)), some (.int (nI 48)), some (.int (nI (1300 * x + r))), some (.int k), a, b, c]
/-- the operand number i: its root in the source, in row 48 -/
theorem FOH.op (H : FOH t0 ad n par x N r k v rs K L G M cm lo t) {i z : Nat} (hz : (zr K)[i]? = some z) : ∃ y, rs[i]? = some y ∧ y < 1300 ∧ t.2.1 (ad 177) y = nI z ∧ z < L.length := by
  have hi := (List.getElem?_eq_some_iff.mp hz).1
  rw [zr_l, H.hl] at hi
  have e1 : rs[i]? = some rs[i] := List.getElem?_eq_getElem hi
  exact ⟨_, e1, H.hrs _ (List.mem_of_getElem? e1), by rw [H.Q.2.2.1]; exact H.map i _ _ e1 hz, (H.bK z (zr_sub K z (List.mem_of_getElem? hz))).2⟩
theorem fo_144 {z1 : Nat} (H : FOH t0 ad n par x N r k v rs K L G M cm lo t) (hk : ¬ (k = 1 ∨ k = 2 ∨ k = 15)) (hz : (zr K)[0]? = some z1) (h13 : k = 13 → nK L z1 = 1 → nA L z1 ≠ 0 → ∀ z2, (zr K)[1]? = some z2 → post (some (.int (nI z2))) t) (h13' : k = 13 → nK L z1 = 1 → nA L z1 = 0 → ∀ z3, (zr K)[2]? = some z3 → post (some (.int (nI z3))) t) (h3 : k = 13 → 3 ≤ fo_l K) (h : (k = 13 → nK L z1 ≠ 1) → g_W cx (g_E cx (d + 1)) mt_Mo_foldOne post (213, ls9 ad x r k (some (.int (nI z1))) none none, [], t, 0, 0)) : g_W cx (g_E cx (d + 1)) mt_Mo_foldOne post (144, ls9 ad x r k none none none, [], t, 0, 0) := by
  have hx := H.hx
  have hr := H.hr
  have hL13 := H.hL
  have hL := H.Q.1.L
  obtain ⟨y1, ey1, y1l, m1, z1l⟩ := H.op hz
  obtain ⟨o1, o2, o3, o4⟩ := H.rowt.2.2.2 hk
  have A : t.2.1 (ad 152) (1300 * x + r) = nI y1 := o1 y1 ey1
  have hv : vp_in (nI (1300 * x + r)) 93600 := vp_in_nI (by omega) (by omega)
  refine x_Mo_foldOne_144 hL ?_
  rw [nI_clamp (n := 1300 * x + r) (by omega), A, nI_clamp (n := y1) (by omega), m1]
  refine ⟨hv, vp_in_nI y1l (by omega), fun x1 e1 => ?_⟩
  subst e1
  refine ⟨fun c => h (fun q => absurd q c), fun c => ?_⟩
  have c := Classical.not_not.mp c
  refine m_isNum48 (by omega) hL H.Q.2.1 z1l ⟨_, rfl, hL, fun z0 => h (fun _ q => ?_), fun z0 => ?_⟩
  · rw [decide_eq_true q] at z0
    exact absurd z0 (by decide)
  · have hn1 : nK L z1 = 1 := by
      by_cases q : nK L z1 = 1
      · exact q
      · rw [decide_eq_false q] at z0
        exact absurd rfl z0
    have h3' := h3 c
    obtain ⟨z2, ez2⟩ : ∃ z2, (zr K)[1]? = some z2 := ⟨_, List.getElem?_eq_getElem (by rw [zr_l]; omega)⟩
    obtain ⟨z3, ez3⟩ : ∃ z3, (zr K)[2]? = some z3 := ⟨_, List.getElem?_eq_getElem (by rw [zr_l]; omega)⟩
    obtain ⟨y2, ey2, y2l, m2, z2l⟩ := H.op ez2
    obtain ⟨y3, ey3, y3l, m3, z3l⟩ := H.op ez3
    have B : t.2.1 (ad 153) (1300 * x + r) = nI y2 := o2 y2 ey2
    have Cc : t.2.1 (ad 154) (1300 * x + r) = nI y3 := o3 y3 ey3
    refine m_numOf48 (by omega) hL H.Q.2.1 z1l ⟨_, rfl, hL, fun w => ⟨hv, ?_⟩, fun w => ⟨hv, ?_⟩⟩
    · rw [B, nI_clamp (by omega), m2]
      exact ⟨vp_in_nI y2l (by omega), x_Mo_foldOne_212 hL (h13 c hn1 w z2 ez2)⟩
    · rw [Cc, nI_clamp (by omega), m3]
      exact ⟨vp_in_nI y3l (by omega), x_Mo_foldOne_212 hL (h13' c hn1 (Classical.not_not.mp w) z3 ez3)⟩
/-- one operand -/
theorem fo_10_11 (H : FOH t0 ad n par x N r k v rs K L G M cm lo t) (hk : k = 10 ∨ k = 11) (h : FPost t0 ad L G M cm lo ρ k v K post) : g_E cx (d + 3) i_Mo_foldOne [.ref (ad 144), .int (nI x), .int (nI r), .int (nI 48)] t post := by
  have hL13 := H.hL
  have hL := H.Q.1.L
  have n1 : k ≠ 1 ∧ k ≠ 2 ∧ k ≠ 15 ∧ k ≠ 13 := by rcases hk with c | c <;> rw [c] <;> decide
  have hl1 : fo_l K = 1 := by
    rw [H.hl, H.ar]
    unfold k_ar
    rw [if_neg (fun z => z.elim n1.1 n1.2.1), if_pos hk]
  obtain ⟨z1, k1, v1, a1, eK⟩ := fo_l1e hl1
  have hz1 : (zr K)[0]? = some z1 := by rw [eK]; rfl
  have hrK := H.rK
  have hcK := H.cK
  rw [eK] at hrK hcK
  have hk1 : nK L z1 = k1 := hrK.2.1.1
  have hv1 : k1 = 1 → nA L z1 = v1 := fun c => hrK.2.1.2.1 (Or.inl c)
  have hc1 : cm z1 = fcalm K := by rw [eK]; exact hcK.1
  obtain ⟨y1, ey1, y1l, m1, z1l⟩ := H.op hz1
  refine fo_start H (fun c => absurd c (fun z => z.elim n1.1 n1.2.2.1)) (fun c => absurd c n1.2.1) (fun _ _ _ => fo_144 H (fun z => z.elim n1.1 (fun z => z.elim n1.2.1 n1.2.2.1)) hz1 (fun c => absurd c n1.2.2.2) (fun c => absurd c n1.2.2.2) (fun c => absurd c n1.2.2.2) (fun _ => ?_))
  have ag : (k = 10 → k1 ≠ 1) → g_W cx (g_E cx (d + 2)) mt_Mo_foldOne post (259, ls9 ad x r k (some (.int (nI z1))) none none, [], t, 0, 0) := fun hne => by
    have hcm : cmb ρ L.length k v K = .inner L.length k v K .leaf := by
      rcases hk with c | c
      · subst c
        unfold cmb
        rw [if_neg (by decide), if_neg (by decide), if_neg (by decide), if_pos rfl, eK]
        show (match (if k1 = 1 then some v1 else none) with | some x => _ | none => _) = _
        rw [if_neg (hne rfl)]
      · subst c
        exact if_pos (Or.inr (Or.inl rfl))
    have b73 : g_W cx (g_E cx (d + 2)) mt_Mo_foldOne post (273, ls9 ad x r k (some (.int (nI z1))) none none, [], t, 0, 0) := by
      refine x_Mo_foldOne_273 hL (f_again H (fun u q G' F E hk' hg => ⟨_, rfl, F.L, ?_⟩))
      have fin : ∀ b, b = fcalm (.inner L.length k v K .leaf) → g_W cx (g_E cx (d + 2)) mt_Mo_foldOne post (310, ls9 ad x r k (some (.int (nI z1))) (some (.int (nI L.length))) none, [.int (b32 b), .int (nI L.length), .ref (ad 178)], u, 0, 0) := fun b hb2 => by
        refine x_Mo_foldOne_310 F.L ⟨vp_in_nI (by omega) (by omega), fun t1 e1 => ?_⟩
        rw [nI_clamp (by omega)] at e1
        refine h t1 _ _ _ _ _ (fr_new (b := b) H.Q F E hk' hg ?_ H.rK H.pK H.bK H.lo' hcm hb2)
        rw [e1]
        cases b <;> rfl
      have h178 : u.2.1 (ad 178) z1 = b32 (cm z1) := by rw [F.i 178 z1 (meY_r (by omega))]; exact H.Q.2.2.2 z1 z1l
      refine ⟨fun c => ?_, fun c => ⟨vp_in_nI (by omega) (by omega), ?_⟩⟩
      · have c11 := hk.resolve_left c
        exact x_Mo_foldOne_309 F.L (fin false (by rw [fcalm_in, c11]; rfl))
      · have c10 := Classical.not_not.mp c
        have hfc : fcalm (.inner L.length k v K .leaf) = cm z1 := by
          rw [fcalm_in, c10, hc1]
          show (true && (fcalm K && true)) = _
          rw [Bool.and_true, Bool.true_and]
        rw [nI_clamp (by omega), h178]
        refine ⟨fun z => x_Mo_foldOne_309 F.L (fin false ?_), fun z => fin true ?_⟩
        · rw [hfc]; exact (b32_0.mp z).symm
        · rw [hfc]
          cases e : cm z1 with
          | true => rfl
          | false => rw [e] at z; exact absurd rfl z
    exact x_Mo_foldOne_259 hL ⟨fun _ => b73, fun c => ⟨fun c2 => absurd hk (fun z => z.elim c c2), fun _ => b73⟩⟩
  refine x_Mo_foldOne_213 hL ⟨fun c => ag (fun q => absurd q c), fun c => ?_⟩
  have c10 := Classical.not_not.mp c
  refine m_isNum48 (d := d + 1) (by omega) hL H.Q.2.1 z1l ⟨_, rfl, hL, fun z0 => ag (fun _ q => ?_), fun z0 => ?_⟩
  · rw [hk1, decide_eq_true q] at z0
    exact absurd z0 (by decide)
  · have hn1 : k1 = 1 := by
      by_cases q : k1 = 1
      · exact q
      · rw [hk1, decide_eq_false q] at z0
        exact absurd rfl z0
    refine m_numOf48 (d := d + 1) (by omega) hL H.Q.2.1 z1l ⟨_, rfl, hL, ?_⟩
    rw [hv1 hn1]
    refine m_enodeY (d := d + 1) (by decide) hL H.Q.2.1 (by omega) (fun u F E => ⟨_, rfl, F.L, vp_in_nI (by omega) (by omega), fun t1 e1 => ?_⟩)
    rw [nI_clamp (by omega)] at e1
    refine h t1 _ _ _ _ _ (fr_num H.Q F E e1 H.lo' ?_)
    subst c10
    unfold cmb
    rw [if_neg (by decide), if_neg (by decide), if_neg (by decide), if_pos rfl, eK]
    show (match (if k1 = 1 then some v1 else none) with | some x => _ | none => _) = _
    rw [if_pos hn1]
/-- a node that stays, with two operands or three -/
theorem fo_486 {z1 z2 : Nat} (H : FOH t0 ad n par x N r k v rs K L G M cm lo t) (hk : ∃ j, (3 ≤ j ∧ j ≤ 9 ∨ 12 ≤ j ∧ j ≤ 14) ∧ k = nI j) (hz1 : (zr K)[0]? = some z1) (hz2 : (zr K)[1]? = some z2) (hcm : cmb ρ L.length k v K = .inner L.length k v K .leaf) (hfc : k ≠ 13 → fcalm K = (cm z1 && cm z2)) (hfc3 : k = 13 → ∃ z3, (zr K)[2]? = some z3 ∧ fcalm K = (cm z1 && (cm z2 && cm z3))) (h : FPost t0 ad L G M cm lo ρ k v K post) : g_W cx (g_E cx (d + 2)) mt_Mo_foldOne post (486, ls9 ad x r k (some (.int (nI z1))) (some (.int (nI z2))) none, [], t, 0, 0) := by
  have hx := H.hx
  have hr := H.hr
  have hL13 := H.hL
  have hL := H.Q.1.L
  obtain ⟨j, hj, ej⟩ := hk
  have kk : ∀ i, i < 100 → (k = nI i ↔ j = i) := fun i hi => by rw [ej, nI_eq (by omega) (by omega)]
  have hk3 : ¬ (k = 1 ∨ k = 2 ∨ k = 15) := fun z => by
    rcases z with z | z | z
    · have := (kk 1 (by omega)).mp z; omega
    · have := (kk 2 (by omega)).mp z; omega
    · have := (kk 15 (by omega)).mp z; omega
  obtain ⟨y1, ey1, y1l, m1, z1l⟩ := H.op hz1
  obtain ⟨y2, ey2, y2l, m2, z2l⟩ := H.op hz2
  have hv : vp_in (nI (1300 * x + r)) 93600 := vp_in_nI (by omega) (by omega)
  refine x_Mo_foldOne_486 hL (f_again H (fun u q G' F E hk' hg => ⟨_, rfl, F.L, ?_⟩))
  have fin : ∀ b, b = fcalm (.inner L.length k v K .leaf) → g_W cx (g_E cx (d + 2)) mt_Mo_foldOne post (567, ls9 ad x r k (some (.int (nI z1))) (some (.int (nI z2))) (some (.int (nI L.length))), [.int (b32 b), .int (nI L.length), .ref (ad 178)], u, 0, 0) := fun b hb2 => by
    refine x_Mo_foldOne_567 F.L ⟨vp_in_nI (by omega) (by omega), fun t1 e1 => ?_⟩
    rw [nI_clamp (by omega)] at e1
    refine h t1 _ _ _ _ _ (fr_new (b := b) H.Q F E hk' hg ?_ H.rK H.pK H.bK H.lo' hcm hb2)
    rw [e1]
    cases b <;> rfl
  have h178 : ∀ z, z < L.length → u.2.1 (ad 178) z = b32 (cm z) := fun z hz => by rw [F.i 178 z (meY_r (by omega))]; exact H.Q.2.2.2 z hz
  have no : fcalm (.inner L.length k v K .leaf) = false → g_W cx (g_E cx (d + 2)) mt_Mo_foldOne post (566, ls9 ad x r k (some (.int (nI z1))) (some (.int (nI z2))) (some (.int (nI L.length))), [.int (nI L.length), .ref (ad 178)], u, 0, 0) := fun e => x_Mo_foldOne_566 F.L (fin false e.symm)
  have yes : fcalm (.inner L.length k v K .leaf) = true → g_W cx (g_E cx (d + 2)) mt_Mo_foldOne post (562, ls9 ad x r k (some (.int (nI z1))) (some (.int (nI z2))) (some (.int (nI L.length))), [.int (nI L.length), .ref (ad 178)], u, 0, 0) := fun e => x_Mo_foldOne_562 F.L (fin true e.symm)
  have fT : ∀ z, z < L.length → ¬ b32 (cm z) = 0 → cm z = true := fun z _ c => by
    cases e : cm z with
    | true => rfl
    | false => rw [e] at c; exact absurd rfl c
  have e0 : fcalm (.inner L.length k v K .leaf) = (fclm k && fcalm K) := by
    rw [fcalm_in]
    show (fclm k && (fcalm K && true)) = _
    rw [Bool.and_true]
  rw [e0] at no yes
  refine ⟨fun c => no (by rw [c]; rfl), fun c6 => ⟨fun c => no (by rw [c]; rfl), fun c7 => ⟨vp_in_nI (by omega) (by omega), ?_⟩⟩⟩
  have hclm : fclm k = true := by
    unfold fclm
    rw [decide_eq_false (fun z => hk3 (Or.inr (Or.inr z))), decide_eq_false (fun z => by have := (kk 11 (by omega)).mp z; omega), decide_eq_false c6, decide_eq_false c7]
    rfl
  rw [hclm, Bool.true_and] at no yes
  rw [nI_clamp (n := z1) (by omega), nI_clamp (n := z2) (by omega), h178 z1 z1l, h178 z2 z2l]
  have f1 : cm z1 = false → fcalm K = false := fun e => by
    by_cases c : k = 13
    · obtain ⟨z3, _, e3⟩ := hfc3 c
      rw [e3, e, Bool.false_and]
    · rw [hfc c, e, Bool.false_and]
  have f2 : cm z2 = false → fcalm K = false := fun e => by
    by_cases c : k = 13
    · obtain ⟨z3, _, e3⟩ := hfc3 c
      rw [e3, e, Bool.false_and, Bool.and_false]
    · rw [hfc c, e, Bool.and_false]
  refine ⟨fun c => no (f1 (b32_0.mp c)), fun c1 => ⟨vp_in_nI (by omega) (by omega), fun c => no (f2 (b32_0.mp c)), fun c2 => ⟨fun c13 => yes (by rw [hfc c13, fT _ z1l c1, fT _ z2l c2]; rfl), fun c13 => ⟨hv, ?_⟩⟩⟩⟩
  have c13 := Classical.not_not.mp c13
  obtain ⟨z3, hz3, e3⟩ := hfc3 c13
  obtain ⟨y3, ey3, y3l, m3, z3l⟩ := H.op hz3
  obtain ⟨o1, o2, o3, o4⟩ := H.rowt.2.2.2 hk3
  have Cc : t.2.1 (ad 154) (1300 * x + r) = nI y3 := o3 y3 ey3
  rw [nI_clamp (n := 1300 * x + r) (by omega), F.i 154 _ (meY_r (by omega)), Cc, nI_clamp (n := y3) (by omega), F.i 177 _ (meY_r (by omega)), m3, nI_clamp (n := z3) (by omega), h178 z3 z3l]
  rw [fT _ z1l c1, fT _ z2l c2, Bool.true_and, Bool.true_and] at e3
  exact ⟨vp_in_nI y3l (by omega), vp_in_nI (by omega) (by omega), fun c => no (by rw [e3]; exact b32_0.mp c), fun c => yes (by rw [e3]; exact fT _ z3l c)⟩
end MQ
