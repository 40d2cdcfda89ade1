/-! FOLDING, the model: nodes with two operands and three -/
section MR
variable {cx : gCx} {d : Nat} {ad : Nat → Nat} {t0 t : gSt} {post : Option Value → gSt → Prop} {L : List ND} {G : List Int32} {M : Nat → Int32} {cm : Nat → Bool} {lo : Nat} {ρ : RHO} {k v : Int32} {K : Fo} {n : Nat} {par : Int32 → Nat} {x N r : Nat} {rs : List Nat}
theorem fo_two {z1 z2 : Nat} {k1 v1 k2 v2 : Int32} {a1 a2 : Fo} (H : FOH t0 ad n par x N r k v rs K L G M cm lo t) (hk : ∃ j, (3 ≤ j ∧ j ≤ 9 ∨ j = 12 ∨ j = 14) ∧ k = nI j) (eK : K = .inner z1 k1 v1 a1 (.inner z2 k2 v2 a2 .leaf)) (h : FPost t0 ad L G M cm lo ρ k v K post) : g_E cx (d + 3) i_Mo_foldOne [.ref (ad 144), .int (nI x), .int (nI r), .int (nI 48)] t post := by
  have hx := H.hx
  have hr := H.hr
  have hL13 := H.hL
  have hG13 := H.hG
  have hL := H.Q.1.L
  obtain ⟨j, hj, ej⟩ := hk
  have kk : ∀ i, i < 100 → (k = nI i ↔ j = i) := fun i hi => by rw [ej, nI_eq (by omega) (by omega)]
  have n1 : k ≠ 1 := fun z => by have := (kk 1 (by omega)).mp z; omega
  have n2 : k ≠ 2 := fun z => by have := (kk 2 (by omega)).mp z; omega
  have n15 : k ≠ 15 := fun z => by have := (kk 15 (by omega)).mp z; omega
  have n13 : k ≠ 13 := fun z => by have := (kk 13 (by omega)).mp z; omega
  have n10 : k ≠ 10 := fun z => by have := (kk 10 (by omega)).mp z; omega
  have n11 : k ≠ 11 := fun z => by have := (kk 11 (by omega)).mp z; omega
  have hz1 : (zr K)[0]? = some z1 := by rw [eK]; rfl
  have hz2 : (zr K)[1]? = some z2 := by rw [eK]; rfl
  obtain ⟨y1, ey1, y1l, m1, z1l⟩ := H.op hz1
  obtain ⟨y2, ey2, y2l, m2, z2l⟩ := H.op hz2
  have hrK := H.rK
  have hcK := H.cK
  have hvK := H.vK
  have hpK := H.pK
  have hbK := H.bK
  rw [eK] at hrK hcK hvK hpK hbK
  have hk1 : nK L z1 = k1 := hrK.2.1.1
  have hv1 : k1 = 1 → nA L z1 = v1 := fun c => hrK.2.1.2.1 (Or.inl c)
  have hk2 : nK L z2 = k2 := hrK.2.2.2.1.1
  have hv2 : k2 = 1 → nA L z2 = v2 := fun c => hrK.2.2.2.1.2.1 (Or.inl c)
  have hc1 : cm z1 = fcalm (.inner z1 k1 v1 a1 .leaf) := hcK.1
  have hc2 : cm z2 = fcalm (.inner z2 k2 v2 a2 .leaf) := hcK.2.1
  have hfc : fcalm K = (cm z1 && cm z2) := by
    rw [hc1, hc2, eK, fcalm_in, fcalm_in, fcalm_in]
    show _ = ((fclm k1 && (fcalm a1 && true)) && _)
    rw [Bool.and_true, Bool.and_assoc]
  have eq : zq (.inner z1 k1 v1 a1 (.inner z2 k2 v2 a2 .leaf)) = (zq a1 ++ [z1]) ++ zq (.inner z2 k2 v2 a2 .leaf) := by simp [zq]
  rw [eq] at hpK hbK
  have hp2 := (List.pairwise_append.mp hpK).2.1
  have hb2 : ∀ q ∈ zq (.inner z2 k2 v2 a2 .leaf), lo ≤ q ∧ q < L.length := fun q hq => hbK q (List.mem_append.mpr (Or.inr hq))
  have hf1 : fnum (fo_h K) = if k1 = 1 then some v1 else none := by rw [eK]; rfl
  have hf2 : fnum (fo_h (fo_u K)) = if k2 = 1 then some v2 else none := by rw [eK]; rfl
  have ef1 : fo_h K = .inner z1 k1 v1 a1 .leaf := by rw [eK]; rfl
  have ef2 : fo_h (fo_u K) = .inner z2 k2 v2 a2 .leaf := by rw [eK]; rfl
  have num : ∀ z kk' : Nat, True := fun _ _ => trivial
  have hk3 : ¬ (k = 1 ∨ k = 2 ∨ k = 15) := fun z => z.elim n1 (fun z => z.elim n2 n15)
  obtain ⟨o1, o2, o3, o4⟩ := H.rowt.2.2.2 hk3
  have B : t.2.1 (ad 153) (1300 * x + r) = nI y2 := o2 y2 ey2
  have hv : vp_in (nI (1300 * x + r)) 93600 := vp_in_nI (by omega) (by omega)
  have hQ := H.Q
  -- it stays
  have stay : ∀ u, QD t0 ad L G M cm u → cmb ρ L.length k v K = .inner L.length k v K .leaf → g_W cx (g_E cx (d + 2)) mt_Mo_foldOne post (486, ls9 ad x r k (some (.int (nI z1))) (some (.int (nI z2))) none, [], u, 0, 0) := fun u hQu hcm => by
    have Hu : FOH t0 ad n par x N r k v rs K L G M cm lo u := ⟨H.hx, H.hr, H.hN, H.row, H.ar, H.hk, H.hrs, H.hl, H.map, hQu, H.hL, H.hG, H.rK, H.vK, H.pK, H.bK, H.cK, H.lo'⟩
    exact fo_486 Hu ⟨j, by omega, ej⟩ hz1 hz2 hcm (fun _ => hfc) (fun c => absurd c n13) h
  -- the second operand in its place
  have kid : ∀ u, QD t0 ad L G M cm u → cmb ρ L.length k v K = fo_h (fo_u K) → post (some (.int (nI z2))) u := fun u hQu hcm => h u _ _ _ _ _ (fr_kid (T := .inner z2 k2 v2 a2 .leaf) hQu ⟨hrK.2.2.1, hrK.2.2.2.1, trivial⟩ rfl hp2 hb2 ⟨hc2, trivial⟩ (by rw [hcm, ef2]))
  have i419 : (j ≤ 9 → cmb ρ L.length k v K = .inner L.length k v K .leaf) → g_W cx (g_E cx (d + 2)) mt_Mo_foldOne post (419, ls9 ad x r k (some (.int (nI z1))) (some (.int (nI z2))) none, [], t, 0, 0) := fun h9 => by
    refine x_Mo_foldOne_419 hL ⟨fun c12 => ?_, fun c12 => ⟨vp_in_nI (by omega) (by omega), ?_⟩⟩
    · refine x_Mo_foldOne_439 hL ⟨fun c14 => ?_, fun c14 => ?_⟩
      · refine stay t hQ (h9 ?_)
        have h12 : j ≠ 12 := fun q => c12 ((kk 12 (by omega)).mpr q)
        have h14 : j ≠ 14 := fun q => c14 ((kk 14 (by omega)).mpr q)
        omega
      · have c14 := Classical.not_not.mp c14
        have ecm : cmb ρ L.length k v K = if ((fnum (fo_h K)).isSome || (fcalm (fo_h K) && !fstd v (fo_h (fo_u K)))) = true then fo_h (fo_u K) else .inner L.length k v K .leaf := by
          rw [c14]
          unfold cmb
          rw [if_neg (by decide), if_neg (by decide), if_neg (by decide), if_neg (by decide), if_neg (by decide), if_pos rfl]
        rw [hf1, ef1, ← hc1, ef2] at ecm
        refine m_isNum48 (d := d + 1) (by omega) hL hQ.2.1 z1l ⟨_, rfl, hL, fun z0 => ?_, fun z0 => ⟨vp_in_nI (by omega) (by omega), ?_⟩⟩
        · have hn1 : k1 = 1 := by
            by_cases q : k1 = 1
            · exact q
            · rw [hk1, decide_eq_false q] at z0
              exact absurd rfl z0
          rw [if_pos hn1] at ecm
          exact x_Mo_foldOne_483 hL (kid t hQ (by rw [ef2]; exact ecm))
        · have hn1 : k1 ≠ 1 := fun q => by
            rw [hk1, decide_eq_true q] at z0
            exact absurd (Classical.not_not.mp z0) (by decide)
          rw [if_neg hn1] at ecm
          rw [nI_clamp (by omega), hQ.2.2.2 z1 z1l]
          refine ⟨fun c => ?_, fun c => ⟨hv, ?_⟩⟩
          · rw [b32_0.mp c] at ecm
            exact stay t hQ ecm
          · have hcz : cm z1 = true := by
              cases e : cm z1 with
              | true => rfl
              | false => rw [e] at c; exact absurd rfl c
            have A3 : t.2.1 (ad 154) (1300 * x + r) = v := o4 c14
            rw [nI_clamp (by omega), A3]
            refine m_stands48 (d := d) (F := .inner z2 k2 v2 a2 .leaf) (n := n) (par := par) (C := fun _ _ => True) (by omega) (by omega) hL hQ.2.1 rfl ⟨hrK.2.2.1, hrK.2.2.2.1, trivial⟩ ⟨hvK.2.2.1, hvK.2.2.2.1, trivial⟩ hp2 (fun q hq => ?_) z2l (fun w Fw => ⟨_, rfl, Fw.L, fun y => ?_, fun y => ?_⟩)
            · have hq : q ∈ zq a2 ++ [z2] := hq
              have hp2' : (zq a2 ++ [z2]).Pairwise (· < ·) := hp2
              rcases List.mem_append.mp hq with hq | hq
              · exact Nat.le_of_lt ((List.pairwise_append.mp hp2').2.2 q hq z2 (List.mem_singleton.mpr rfl))
              · exact Nat.le_of_eq (List.mem_singleton.mp hq)
            · refine stay w (hQ.mk Fw) ?_
              have : fstd v (.inner z2 k2 v2 a2 .leaf) = true := by
                unfold fstd
                cases e : decide ((2, v) ∈ fo_p (.inner z2 k2 v2 a2 .leaf)) with
                | true => rfl
                | false => rw [e] at y; exact absurd rfl y
              rw [this, hcz] at ecm
              exact ecm
            · refine x_Mo_foldOne_483 Fw.L (kid w (hQ.mk Fw) ?_)
              have : fstd v (.inner z2 k2 v2 a2 .leaf) = false := b32_0.mp (Classical.not_not.mp y)
              rw [this, hcz] at ecm
              rw [ef2]
              exact ecm
    · have c12 := Classical.not_not.mp c12
      have ecm : cmb ρ L.length k v K = if fcalm (fo_h K) = true then fo_h (fo_u K) else .inner L.length k v K .leaf := by
        rw [c12]
        unfold cmb
        rw [if_neg (by decide), if_neg (by decide), if_neg (by decide), if_neg (by decide), if_pos rfl]
      rw [ef1, ← hc1] at ecm
      rw [nI_clamp (by omega), hQ.2.2.2 z1 z1l]
      refine ⟨fun c => x_Mo_foldOne_439 hL ⟨fun _ => stay t hQ (by rw [b32_0.mp c] at ecm; exact ecm), fun c14 => ?_⟩, fun c => kid t hQ ?_⟩
      · rw [c12] at c14
        exact absurd (by decide) c14
      · have hcz : cm z1 = true := by
          cases e : cm z1 with
          | true => rfl
          | false => rw [e] at c; exact absurd rfl c
        rw [hcz] at ecm
        exact ecm
  -- what two numbers come to
  have e9 : j ≤ 9 → cmb ρ L.length k v K = match fnum (fo_h K) with
    | some x => (match fnum (fo_h (fo_u K)) with | some y => if (k = 6 ∨ k = 7) ∧ y = 0 then .inner L.length k v K .leaf else fnd (op2 k x y) | none => .inner L.length k v K .leaf)
    | none => .inner L.length k v K .leaf := fun h9 => by
    unfold cmb
    rw [if_neg (fun z => z.elim n1 (fun z => z.elim n11 n15)), if_neg n2, if_neg n13, if_neg n10, if_neg (fun z => by have := (kk 12 (by omega)).mp z; omega), if_neg (fun z => by have := (kk 14 (by omega)).mp z; omega)]
    rfl
  rw [hf1, hf2] at e9
  refine fo_start H (fun c => absurd c (fun z => z.elim n1 n15)) (fun c => absurd c n2) (fun _ _ _ => fo_144 H hk3 hz1 (fun c => absurd c n13) (fun c => absurd c n13) (fun c => absurd c n13) (fun _ => ?_))
  refine x_Mo_foldOne_213 hL ⟨fun _ => ?_, fun c => absurd (Classical.not_not.mp c) n10⟩
  refine x_Mo_foldOne_259 hL ⟨fun c => absurd c n10, fun _ => ⟨fun _ => ⟨hv, ?_⟩, fun c => absurd (Classical.not_not.mp c) n11⟩⟩
  rw [nI_clamp (n := 1300 * x + r) (by omega), B, nI_clamp (n := y2) (by omega), m2]
  refine ⟨vp_in_nI y2l (by omega), fun x1 e1 => ?_⟩
  subst e1
  refine ⟨fun c => i419 (fun h9 => ?_), fun c => ?_⟩
  · rw [ej, show (9 : Int32) = nI 9 from rfl, nI_ltI (by omega) (by omega)] at c
    omega
  · have h9 : j ≤ 9 := by
      rw [ej, show (9 : Int32) = nI 9 from rfl, nI_ltI (by omega) (by omega)] at c
      omega
    have e9 := e9 h9
    refine m_isNum48 (d := d + 1) (by omega) hL hQ.2.1 z1l ⟨_, rfl, hL, fun z0 => i419 (fun _ => ?_), fun z0 => ?_⟩
    · have hn1 : k1 ≠ 1 := fun q => by
        rw [hk1, decide_eq_true q] at z0
        exact absurd z0 (by decide)
      rw [if_neg hn1] at e9
      exact e9
    have hn1 : k1 = 1 := by
      by_cases q : k1 = 1
      · exact q
      · rw [hk1, decide_eq_false q] at z0
        exact absurd rfl z0
    rw [if_pos hn1] at e9
    refine m_isNum48 (d := d + 1) (by omega) hL hQ.2.1 z2l ⟨_, rfl, hL, fun z0 => i419 (fun _ => ?_), fun z0 => ?_⟩
    · have hn2 : k2 ≠ 1 := fun q => by
        rw [hk2, decide_eq_true q] at z0
        exact absurd z0 (by decide)
      rw [if_neg hn2] at e9
      exact e9
    have hn2 : k2 = 1 := by
      by_cases q : k2 = 1
      · exact q
      · rw [hk2, decide_eq_false q] at z0
        exact absurd rfl z0
    rw [if_pos hn2] at e9
    dsimp only at e9
    have calc' : ¬ ((k = 6 ∨ k = 7) ∧ v2 = 0) → g_W cx (g_E cx (d + 2)) mt_Mo_foldOne post (379, ls9 ad x r k (some (.int (nI z1))) (some (.int (nI z2))) none, [], t, 0, 0) := fun hz => by
      rw [if_neg hz] at e9
      refine x_Mo_foldOne_379 hL (m_numOf48 (d := d + 1) (by omega) hL hQ.2.1 z1l ⟨_, rfl, hL, m_numOf48 (d := d + 1) (by omega) hL hQ.2.1 z2l ⟨_, rfl, hL, ?_⟩⟩)
      rw [hv1 hn1, hv2 hn2]
      rw [ej] at hz e9 ⊢
      refine reckon_ok (d := d + 1) (by omega) h9 hz hL ⟨_, rfl, hL, ?_⟩
      refine m_enodeY (d := d + 1) (by decide) hL hQ.2.1 (by omega) (fun u F E => ⟨_, rfl, F.L, vp_in_nI (by omega) (by omega), fun t1 e1 => ?_⟩)
      rw [nI_clamp (by omega)] at e1
      rw [ej] at h
      exact h t1 _ _ _ _ _ (fr_num hQ F E e1 H.lo' e9)
    have i369 : (k = 6 ∨ k = 7) → g_W cx (g_E cx (d + 2)) mt_Mo_foldOne post (369, ls9 ad x r k (some (.int (nI z1))) (some (.int (nI z2))) none, [], t, 0, 0) := fun h67 => by
      refine x_Mo_foldOne_369 hL (m_numOf48 (d := d + 1) (by omega) hL hQ.2.1 z2l ⟨_, rfl, hL, fun z => i419 (fun _ => ?_), fun z => calc' (fun q => ?_)⟩)
      · rw [hv2 hn2] at z
        rw [if_pos ⟨h67, z⟩] at e9
        exact e9
      · rw [hv2 hn2] at z
        exact z q.2
    exact ⟨fun c => i369 (Or.inl c), fun c6 => ⟨fun c7 => calc' (fun q => q.1.elim c6 c7), fun c => i369 (Or.inr (Classical.not_not.mp c))⟩⟩
theorem fo_13 {z1 z2 z3 : Nat} {k1 v1 k2 v2 k3 v3 : Int32} {a1 a2 a3 : Fo} (H : FOH t0 ad n par x N r 13 v rs K L G M cm lo t) (eK : K = .inner z1 k1 v1 a1 (.inner z2 k2 v2 a2 (.inner z3 k3 v3 a3 .leaf))) (h : FPost t0 ad L G M cm lo ρ 13 v K post) : g_E cx (d + 3) i_Mo_foldOne [.ref (ad 144), .int (nI x), .int (nI r), .int (nI 48)] t post := by
  have hx := H.hx
  have hr := H.hr
  have hL13 := H.hL
  have hL := H.Q.1.L
  have hz1 : (zr K)[0]? = some z1 := by rw [eK]; rfl
  have hz2 : (zr K)[1]? = some z2 := by rw [eK]; rfl
  have hz3 : (zr K)[2]? = some z3 := by rw [eK]; rfl
  obtain ⟨y1, ey1, y1l, m1, z1l⟩ := H.op hz1
  obtain ⟨y2, ey2, y2l, m2, z2l⟩ := H.op hz2
  have hrK := H.rK
  have hcK := H.cK
  have hpK := H.pK
  have hbK := H.bK
  rw [eK] at hrK hcK hpK hbK
  have hk1 : nK L z1 = k1 := hrK.2.1.1
  have hv1 : k1 = 1 → nA L z1 = v1 := fun c => hrK.2.1.2.1 (Or.inl c)
  have hc1 : cm z1 = fcalm (.inner z1 k1 v1 a1 .leaf) := hcK.1
  have hc2 : cm z2 = fcalm (.inner z2 k2 v2 a2 .leaf) := hcK.2.1
  have hc3 : cm z3 = fcalm (.inner z3 k3 v3 a3 .leaf) := hcK.2.2.1
  have hfc : fcalm K = (cm z1 && (cm z2 && cm z3)) := by
    rw [hc1, hc2, hc3, eK, fcalm_in, fcalm_in, fcalm_in, fcalm_in, fcalm_in]
    show _ = ((fclm k1 && (fcalm a1 && true)) && ((fclm k2 && (fcalm a2 && true)) && _))
    rw [Bool.and_true, Bool.and_true]
    simp only [Bool.and_assoc]
  have eq : zq (.inner z1 k1 v1 a1 (.inner z2 k2 v2 a2 (.inner z3 k3 v3 a3 .leaf))) = (zq a1 ++ [z1]) ++ (zq (.inner z2 k2 v2 a2 .leaf) ++ zq (.inner z3 k3 v3 a3 .leaf)) := by simp [zq]
  rw [eq] at hpK hbK
  have hp23 := (List.pairwise_append.mp hpK).2.1
  have hp2 := (List.pairwise_append.mp hp23).1
  have hp3 := (List.pairwise_append.mp hp23).2.1
  have hb2 : ∀ q ∈ zq (.inner z2 k2 v2 a2 .leaf), lo ≤ q ∧ q < L.length := fun q hq => hbK q (List.mem_append.mpr (Or.inr (List.mem_append.mpr (Or.inl hq))))
  have hb3 : ∀ q ∈ zq (.inner z3 k3 v3 a3 .leaf), lo ≤ q ∧ q < L.length := fun q hq => hbK q (List.mem_append.mpr (Or.inr (List.mem_append.mpr (Or.inr hq))))
  have ecm : cmb ρ L.length 13 v K = match (if k1 = 1 then some v1 else none) with | some x => (if x = 0 then .inner z3 k3 v3 a3 .leaf else .inner z2 k2 v2 a2 .leaf) | none => .inner L.length 13 v K .leaf := by
    unfold cmb
    rw [if_neg (by decide), if_neg (by decide), if_pos rfl, eK]
    rfl
  have hQ := H.Q
  refine fo_start H (fun c => ?_) (fun c => absurd c (by decide)) (fun _ _ _ => fo_144 H (fun z => ?_) hz1 (fun _ c1 c2 z ez => ?_) (fun _ c1 c2 z ez => ?_) (fun _ => by rw [H.hl, H.ar]; exact Nat.le_refl 3) (fun hn => ?_))
  · rcases c with c | c <;> exact absurd c (by decide)
  · rcases z with c | c | c <;> exact absurd c (by decide)
  · have hn1 : k1 = 1 := by rw [← hk1]; exact c1
    rw [hv1 hn1] at c2
    rw [if_pos hn1] at ecm
    dsimp only at ecm
    rw [if_neg c2] at ecm
    have : z2 = z := by rw [hz2] at ez; exact Option.some.inj ez
    subst this
    exact h t _ _ _ _ _ (fr_kid (T := .inner z2 k2 v2 a2 .leaf) hQ ⟨hrK.2.2.1, hrK.2.2.2.1, trivial⟩ rfl hp2 hb2 ⟨hc2, trivial⟩ ecm)
  · have hn1 : k1 = 1 := by rw [← hk1]; exact c1
    rw [hv1 hn1] at c2
    rw [if_pos hn1] at ecm
    dsimp only at ecm
    rw [if_pos c2] at ecm
    have : z3 = z := by rw [hz3] at ez; exact Option.some.inj ez
    subst this
    exact h t _ _ _ _ _ (fr_kid (T := .inner z3 k3 v3 a3 .leaf) hQ ⟨hrK.2.2.2.2.1, hrK.2.2.2.2.2.1, trivial⟩ rfl hp3 hb3 ⟨hc3, trivial⟩ ecm)
  · have hn1 : k1 ≠ 1 := by rw [← hk1]; exact hn rfl
    rw [if_neg hn1] at ecm
    have hk3 : ¬ ((13 : Int32) = 1 ∨ (13 : Int32) = 2 ∨ (13 : Int32) = 15) := by decide
    obtain ⟨o1, o2, o3, o4⟩ := H.rowt.2.2.2 hk3
    have B : t.2.1 (ad 153) (1300 * x + r) = nI y2 := o2 y2 ey2
    refine x_Mo_foldOne_213 hL ⟨fun _ => ?_, fun c => absurd (by decide) c⟩
    refine x_Mo_foldOne_259 hL ⟨fun c => absurd c (by decide), fun _ => ⟨fun _ => ⟨vp_in_nI (by omega) (by omega), ?_⟩, fun c => absurd (by decide) c⟩⟩
    rw [nI_clamp (n := 1300 * x + r) (by omega), B, nI_clamp (n := y2) (by omega), m2]
    refine ⟨vp_in_nI y2l (by omega), fun x1 e1 => ?_⟩
    subst e1
    refine ⟨fun _ => ?_, fun c => absurd (by decide) c⟩
    refine x_Mo_foldOne_419 hL ⟨fun _ => ?_, fun c => absurd (by decide) c⟩
    refine x_Mo_foldOne_439 hL ⟨fun _ => ?_, fun c => absurd (by decide) c⟩
    exact fo_486 H ⟨13, by omega, rfl⟩ hz1 hz2 ecm (fun c => absurd rfl c) (fun _ => ⟨z3, hz3, hfc⟩) h
/-- one node, of any kind -/
theorem m_foldOne {o : Nat} (H : FOH t0 ad n par x N r k v rs K L G M cm lo t) (hv : k = 2 → EVO t0 ad L M o ρ v) (h : FPost t0 ad L G M cm lo ρ k v K post) : g_E cx (d + 3) i_Mo_foldOne [.ref (ad 144), .int (nI x), .int (nI r), .int (nI 48)] t post := by
  obtain ⟨j, j1, j15, ej⟩ := H.hk
  have hl : fo_l K = k_ar par k v := by rw [H.hl, H.ar]
  by_cases c1 : j = 1 ∨ j = 15
  · exact fo_1_15 H (by rcases c1 with c | c; exact Or.inl (by rw [ej, c]; rfl); exact Or.inr (by rw [ej, c]; rfl)) h
  by_cases c2 : j = 2
  · have : k = 2 := by rw [ej, c2]; rfl
    subst this
    exact fo_2 H (hv rfl) h
  by_cases c10 : j = 10 ∨ j = 11
  · exact fo_10_11 H (by rcases c10 with c | c; exact Or.inl (by rw [ej, c]; rfl); exact Or.inr (by rw [ej, c]; rfl)) h
  by_cases c13 : j = 13
  · have : k = 13 := by rw [ej, c13]; rfl
    subst this
    obtain ⟨z1, k1, v1, a1, z2, k2, v2, a2, z3, k3, v3, a3, eK⟩ := fo_l3 (show fo_l K = 3 from hl)
    exact fo_13 H eK h
  · have kk : ∀ i, i < 100 → (k = nI i ↔ j = i) := fun i hi => by rw [ej, nI_eq (by omega) (by omega)]
    have hl2 : fo_l K = 2 := by
      rw [hl]
      unfold k_ar
      rw [if_neg (fun z => by
        rcases z with z | z
        · have := (kk 1 (by omega)).mp z; omega
        · have := (kk 2 (by omega)).mp z; omega), if_neg (fun z => by
        rcases z with z | z
        · have := (kk 10 (by omega)).mp z; omega
        · have := (kk 11 (by omega)).mp z; omega), if_neg (fun z => by have := (kk 13 (by omega)).mp z; omega), if_neg (fun z => by have := (kk 15 (by omega)).mp z; omega)]
    obtain ⟨z1, k1, v1, a1, z2, k2, v2, a2, eK⟩ := fo_l2 hl2
    exact fo_two H ⟨j, by omega, ej⟩ eK h
end MR
