/-! THE MODEL READS AN EXPRESSION: trees over values -/
theorem fo_rr1 {A : Fo} (h : fo_l A = 1) (o : Nat) : fo_r A o = [o + fo_n A - 1] ∧ 1 ≤ fo_n A := by
  match A, h with
  | .inner z k v a b, h =>
    have hb : fo_l b = 0 := by
      have : fo_l b + 1 = 1 := h
      omega
    match b, hb with
    | .leaf, _ =>
      simp only [fo_r, fo_n]
      exact ⟨by rw [show o + (fo_n a + 1 + 0) - 1 = o + fo_n a by omega], by omega⟩
section MW2
variable {cx : gCx} {d : Nat} {ad : Nat → Nat} {T : Nat → Nat} {n x Pm c0 a l o : Nat} {t0 t u : gSt} {sc : SC} {cl : CL} {ac : Nat → Nat} {V V0 A B C W : Fo} {K : AT} {post : Option Value → gSt → Prop} {rs : List Nat} {r : Nat}
theorem mz_ms {c k : Nat} (h : msP c k = true) : mvvP x c k = true := by
  rw [msP_i] at h
  rw [mvvP_i]
  omega
theorem fl_ap1 {V0 A : Fo} {z : Nat} {k v : Int32} : fo_l (fo_ap V0 (.inner z k v A .leaf)) = fo_l V0 + 1 := by rw [fo_l_ap]; rfl
theorem MP.fx (h : MP ad T n x Pm c0 t0 a l o sc cl ac V K t) (hF : gFr ad (mvvP x) t u) : u.2.1 (ad 144) 23 = nI x := by
  rw [hF.i 144 23 (bool_r mvvP_i (by omega))]
  exact h.2.2.2.2.1.1
theorem MPh.mn {V' : Fo} (h : MPh ad T n x Pm c0 t0 a l o sc cl ac V K t) (hF : gFr ad (mvvP x) t u) (hV : MV ad x V' u) (hb : fo_l V' ≤ 2000) : MPh ad T n x Pm c0 t0 a l o sc cl ac V' K u := ⟨h.1.mn hF hV hb, h.2.vb hF (fun k _ _ => bool_r mvvP_i (by omega)) ⟨_, hV.1, hb⟩⟩
/-- one operand -/
theorem m_oneP {k b c : Int32} {D D2 D3 : Nat} {cont : gSt → Prop} (hx : x < 72) (h : MP ad T n x Pm c0 t0 a l o sc cl ac (fo_ap V0 A) K t) (hA : fo_l A = 1) (hn : fo_n V0 + fo_n A < 3090) (hk : k ≠ 1 ∧ k ≠ 2 ∧ k ≠ 15 ∧ k ≠ 14) {f : Int32} (hf : f = nI x) (k1 : ∀ u, MP ad T n x Pm c0 t0 a l o sc cl ac (fo_ap V0 (.inner 0 k 0 A .leaf)) K u → cont u) :
    g_E cx (D + 1) i_Mo_got [.ref (ad 144)] t (fun r u => ∃ y : Int32, r = some (.int y) ∧ Lay u ad ∧ g_E cx (D2 + 1) i_Mo_node [.ref (ad 144), .int f, .int k, .int y, .int b, .int c] u (fun r w => ∃ y2 : Int32, r = some (.int y2) ∧ Lay w ad ∧ g_E cx (D3 + 1) i_Mo_give [.ref (ad 144), .int y2] w (fun r v => r = none ∧ Lay v ad ∧ cont v))) := by
  obtain ⟨eA, nA⟩ := fo_rr1 hA (0 + fo_n V0)
  have hL0 := fo_ln V0
  have hV := MV_iff.mp h.2.2.2.2.2.1
  have hs := hV.1
  rw [fo_r_ap, eA] at hs
  refine m_got h.L hs (by rw [fo_rl]; omega) (fun u1 F1 s1 => ⟨_, rfl, F1.L, ?_⟩)
  have n1 := hV.2.fr F1 (fun c k z => bool_r msP_i (by omega))
  subst hf
  refine m_ng (V0 := V0) (W := A) (v := 0) F1.L hx (by omega) (by rw [fo_n_ap]; omega) n1 s1 hk.2.2.1 (fun z => by rcases z with z | z; exact absurd z hk.1; exact absurd z hk.2.1) (fun _ => ⟨fun r hr => ?_, fun r hr => ?_, fun r hr => ?_, fun z => absurd z hk.2.2.2⟩) (fun w Fw hw => k1 w (h.mn ((F1.mo (fun c k z => mz_ms z)).tr Fw) hw (by have z := h.fl (by rw [fo_n_ap]; omega); rw [fo_l_ap] at z; rw [fl_ap1]; omega)))
  · rw [(fo_rr1 hA (fo_n V0)).1] at hr
    have : fo_n V0 + fo_n A - 1 = r := by simpa using hr
    rw [← this, Nat.zero_add]
  · rw [(fo_rr1 hA (fo_n V0)).1] at hr; simp at hr
  · rw [(fo_rr1 hA (fo_n V0)).1] at hr; simp at hr
/-- two operands -/
theorem m_twoG {k v c : Int32} {D D1 D2 D3 : Nat} {cont : gSt → Int32 → Prop} (hx : x < 72) (h : MP ad T n x Pm c0 t0 a l o sc cl ac (fo_ap (fo_ap V0 A) B) K t) (hA : fo_l A = 1) (hB : fo_l B = 1) (hn : fo_n V0 + fo_n A + fo_n B < 3090) (hk : k ≠ 1 ∧ k ≠ 2 ∧ k ≠ 15) (hk14 : k = 14 → c = v) (k1 : ∀ u y, MP ad T n x Pm c0 t0 a l o sc cl ac (fo_ap V0 (.inner 0 k v (fo_ap A B) .leaf)) K u → cont u y) :
    g_E cx (D + 1) i_Mo_got [.ref (ad 144)] t (fun r u => ∃ y : Int32, r = some (.int y) ∧ Lay u ad ∧ u.2.1 (ad 144) 23 = nI x ∧ g_E cx (D1 + 1) i_Mo_got [.ref (ad 144)] u (fun r u2 => ∃ y1 : Int32, r = some (.int y1) ∧ Lay u2 ad ∧ u2.2.1 (ad 144) 23 = nI x ∧ g_E cx (D2 + 1) i_Mo_node [.ref (ad 144), .int (nI x), .int k, .int y1, .int y, .int c] u2 (fun r w => ∃ y2 : Int32, r = some (.int y2) ∧ Lay w ad ∧ g_E cx (D3 + 1) i_Mo_give [.ref (ad 144), .int y2] w (fun r w2 => r = none ∧ Lay w2 ad ∧ cont w2 y)))) := by
  obtain ⟨eA, nA⟩ := fo_rr1 hA (0 + fo_n V0)
  obtain ⟨eB, nB⟩ := fo_rr1 hB (0 + fo_n (fo_ap V0 A))
  have hL0 := fo_ln V0
  have hV := MV_iff.mp h.2.2.2.2.2.1
  have hs := hV.1
  have hnA : fo_n (fo_ap V0 A) = fo_n V0 + fo_n A := fo_n_ap _ _
  rw [fo_r_ap, eB, fo_r_ap, eA] at hs
  refine m_got h.L hs (by rw [List.length_append, fo_rl]; simp; omega) (fun u1 F1 s1 => ⟨_, rfl, F1.L, h.fx (F1.mo (fun c k z => mz_ms z)), ?_⟩)
  refine m_got F1.L s1 (by rw [fo_rl]; omega) (fun u2 F2 s2 => ⟨_, rfl, F2.L, h.fx ((F1.tr F2).mo (fun c k z => mz_ms z)), ?_⟩)
  have F := F1.tr F2
  have n1 := hV.2.fr F (fun c k z => bool_r msP_i (by omega))
  rw [fo_ap_as] at n1
  have er : fo_r (fo_ap A B) (fo_n V0) = [fo_n V0 + fo_n A - 1, fo_n V0 + fo_n A + fo_n B - 1] := by
    rw [fo_r_ap, (fo_rr1 hA _).1, (fo_rr1 hB _).1]
    rfl
  refine m_ng (V0 := V0) (W := fo_ap A B) (v := v) F.L hx (by omega) (by rw [fo_n_ap, fo_n_ap]; omega) n1 s2 hk.2.2 (fun z => by rcases z with z | z; exact absurd z hk.1; exact absurd z hk.2.1) (fun _ => ⟨fun r hr => ?_, fun r hr => ?_, fun r hr => ?_, hk14⟩) (fun w Fw hw => k1 w _ (h.mn ((F.mo (fun c k z => mz_ms z)).tr Fw) hw (by have z := h.fl (by rw [fo_n_ap, fo_n_ap]; omega); rw [fo_l_ap, fo_l_ap] at z; rw [fl_ap1]; omega)))
  · rw [er] at hr
    have : fo_n V0 + fo_n A - 1 = r := by simpa using hr
    rw [← this, Nat.zero_add]
  · rw [er] at hr
    have : fo_n V0 + fo_n A + fo_n B - 1 = r := by simpa using hr
    rw [← this, Nat.zero_add, hnA]
  · rw [er] at hr; simp at hr
theorem m_twoP {k : Int32} (hx : x < 72) (h : MP ad T n x Pm c0 t0 a l o sc cl ac (fo_ap (fo_ap V0 A) B) K t) (hA : fo_l A = 1) (hB : fo_l B = 1) (hn : fo_n V0 + fo_n A + fo_n B < 3090) (hk : k ≠ 1 ∧ k ≠ 2 ∧ k ≠ 15 ∧ k ≠ 14) (k1 : ∀ u, MP ad T n x Pm c0 t0 a l o sc cl ac (fo_ap V0 (.inner 0 k 0 (fo_ap A B) .leaf)) K u → post none u) : g_E cx (d + 2) i_Mo_two [.ref (ad 144), .int k] t post := by
  refine x_Mo_two h.L ?_
  refine g_Em (m_twoG (D := d) (D1 := d) (D2 := d) (D3 := d) (v := 0) (c := 0) (cont := fun u _ => post none u) hx h hA hB hn ⟨hk.1, hk.2.1, hk.2.2.1⟩ (fun z => absurd z hk.2.2.2) (fun u _ hu => k1 u hu)) (fun r u hh => ?_)
  obtain ⟨y, e, hL, _, hh⟩ := hh
  refine ⟨y, e, hL, g_Em hh (fun r u2 hh2 => ?_)⟩
  obtain ⟨y1, e1, hL1, hx1, hh2⟩ := hh2
  rw [← hx1] at hh2
  exact ⟨y1, e1, hL1, hh2⟩
/-- three operands -/
theorem m_threeG {D D1 D2 D3 D4 : Nat} {cont : gSt → Int32 → Int32 → Prop} (hx : x < 72) (h : MP ad T n x Pm c0 t0 a l o sc cl ac (fo_ap (fo_ap (fo_ap V0 A) B) C) K t) (hA : fo_l A = 1) (hB : fo_l B = 1) (hC : fo_l C = 1) (hn : fo_n V0 + fo_n A + fo_n B + fo_n C < 3090) (k1 : ∀ u y y1, MP ad T n x Pm c0 t0 a l o sc cl ac (fo_ap V0 (.inner 0 13 0 (fo_ap A (fo_ap B C)) .leaf)) K u → cont u y y1) :
    g_E cx (D + 1) i_Mo_got [.ref (ad 144)] t (fun r u => ∃ y : Int32, r = some (.int y) ∧ Lay u ad ∧ g_E cx (D1 + 1) i_Mo_got [.ref (ad 144)] u (fun r u2 => ∃ y1 : Int32, r = some (.int y1) ∧ Lay u2 ad ∧ u2.2.1 (ad 144) 23 = nI x ∧ g_E cx (D4 + 1) i_Mo_got [.ref (ad 144)] u2 (fun r u3 => ∃ y3 : Int32, r = some (.int y3) ∧ Lay u3 ad ∧ g_E cx (D2 + 1) i_Mo_node [.ref (ad 144), .int (nI x), .int 13, .int y3, .int y1, .int y] u3 (fun r w => ∃ y2 : Int32, r = some (.int y2) ∧ Lay w ad ∧ g_E cx (D3 + 1) i_Mo_give [.ref (ad 144), .int y2] w (fun r w2 => r = none ∧ Lay w2 ad ∧ cont w2 y y1))))) := by
  obtain ⟨eA, nA⟩ := fo_rr1 hA (0 + fo_n V0)
  obtain ⟨eB, nB⟩ := fo_rr1 hB (0 + fo_n (fo_ap V0 A))
  obtain ⟨eC, nC⟩ := fo_rr1 hC (0 + fo_n (fo_ap (fo_ap V0 A) B))
  have hL0 := fo_ln V0
  have hV := MV_iff.mp h.2.2.2.2.2.1
  have hs := hV.1
  have hnA : fo_n (fo_ap V0 A) = fo_n V0 + fo_n A := fo_n_ap _ _
  have hnB : fo_n (fo_ap (fo_ap V0 A) B) = fo_n V0 + fo_n A + fo_n B := by rw [fo_n_ap, hnA]
  rw [fo_r_ap, eC, fo_r_ap, eB, fo_r_ap, eA] at hs
  refine m_got h.L hs (by rw [List.length_append, List.length_append, fo_rl]; simp; omega) (fun u1 F1 s1 => ⟨_, rfl, F1.L, ?_⟩)
  refine m_got F1.L s1 (by rw [List.length_append, fo_rl]; simp; omega) (fun u2 F2 s2 => ⟨_, rfl, F2.L, h.fx ((F1.tr F2).mo (fun c k z => mz_ms z)), ?_⟩)
  refine m_got F2.L s2 (by rw [fo_rl]; omega) (fun u3 F3 s3 => ⟨_, rfl, F3.L, ?_⟩)
  have F := (F1.tr F2).tr F3
  have n1 := hV.2.fr F (fun c k z => bool_r msP_i (by omega))
  rw [fo_ap_as, fo_ap_as] at n1
  have er : fo_r (fo_ap A (fo_ap B C)) (fo_n V0) = [fo_n V0 + fo_n A - 1, fo_n V0 + fo_n A + fo_n B - 1, fo_n V0 + fo_n A + fo_n B + fo_n C - 1] := by
    rw [fo_r_ap, (fo_rr1 hA _).1, fo_r_ap, (fo_rr1 hB _).1, (fo_rr1 hC _).1]
    rfl
  refine m_ng (V0 := V0) (W := fo_ap A (fo_ap B C)) (v := 0) F.L hx (by omega) (by rw [fo_n_ap, fo_n_ap, fo_n_ap]; omega) n1 s3 (by decide) (fun z => absurd z (by decide)) (fun _ => ⟨fun r hr => ?_, fun r hr => ?_, fun r hr => ?_, fun z => absurd z (by decide)⟩) (fun w Fw hw => k1 w _ _ (h.mn ((F.mo (fun c k z => mz_ms z)).tr Fw) hw (by have z := h.fl (by rw [fo_n_ap, fo_n_ap, fo_n_ap]; omega); rw [fo_l_ap, fo_l_ap, fo_l_ap] at z; rw [fl_ap1]; omega)))
  · rw [er] at hr
    have : fo_n V0 + fo_n A - 1 = r := by simpa using hr
    rw [← this, Nat.zero_add]
  · rw [er] at hr
    have : fo_n V0 + fo_n A + fo_n B - 1 = r := by simpa using hr
    rw [← this, Nat.zero_add, hnA]
  · rw [er] at hr
    have : fo_n V0 + fo_n A + fo_n B + fo_n C - 1 = r := by simpa using hr
    rw [← this, Nat.zero_add, hnB]
/-- a scope less -/
theorem MP.sc0 {q : List Nat × Nat} (h : MP ad T n x Pm c0 t0 a l o (sc ++ [q]) cl ac V K t) (e : u = g_si t (ad 144) 28 (nI sc.length)) : MP ad T n x Pm c0 t0 a l o sc cl ac V K u := by
  have hL := h.L
  have F : gFr ad (fun c k => Nat.beq c 144 && Nat.beq k 28) t u := by rw [e]; exact (gFr.rf hL).si rfl
  have hF : ∀ c k, ¬ (c = 144 ∧ k = 28) → (Nat.beq c 144 && Nat.beq k 28) = false := fun c k z => Bool.eq_false_iff.mpr (fun q => z (by simpa using q))
  obtain ⟨h1, h2, h3, h4, h5, h6, h7⟩ := h
  obtain ⟨m1, m2, m3, m4, ⟨m5, m6⟩, m7, m8⟩ := h5
  refine ⟨h1.tr (F.mo (fun c k z => ?_)), h2, fun i hi => by rw [F.i 166 i (hF _ _ (by omega))]; exact h3 i hi, h4.fr F (fun k _ _ => hF _ _ (by omega)), ⟨?_, ?_, ?_, ?_, ⟨by rw [e, g_rd_at], fun i q hq => ?_⟩, ?_, fun i q hq => ?_⟩, h6.fr F (fun c k z => hF _ _ (by omega)), h7.fr F (fun c k z => hF _ _ (by omega))⟩
  · rw [Bool.and_eq_true, Nat.beq_eq, Nat.beq_eq] at z
    rw [mxP_i]
    omega
  · rw [F.i 144 23 (hF _ _ (by omega))]; exact m1
  · rw [F.i 144 45 (hF _ _ (by omega))]; exact m2
  · rw [F.i 144 25 (hF _ _ (by omega))]; exact m3
  · rw [F.i 144 24 (hF _ _ (by omega))]; exact m4
  · rw [F.j 157 i (hF _ _ (by omega)), F.i 158 i (hF _ _ (by omega))]
    exact m6 i q (by rw [List.getElem?_append_left (List.getElem?_eq_some_iff.mp hq).1]; exact hq)
  · rw [F.i 144 35 (hF _ _ (by omega))]; exact m7
  · rw [F.j 163 i (hF _ _ (by omega)), F.i 164 i (hF _ _ (by omega)), F.i 165 i (hF _ _ (by omega)), F.i 167 i (hF _ _ (by omega))]; exact m8 i q hq
end MW2
