/-! THE MODEL READS FUNCTIONS: heads, ends -/
abbrev HdR (cx : gCx) (d : Nat) (ad : Nat → Nat) (post : Option Value → gSt → Prop) (t : gSt) : Prop := g_W cx (g_E cx (d + 11)) mt_Mo_read post (35, [some (.ref (ad 144)), none, none, none], [], t, 0, 0)
abbrev WF (cx : gCx) (d : Nat) (ad : Nat → Nat) (post : Option Value → gSt → Prop) (pc : Nat) (lc : List (Option Value)) (st : List Value) (t : gSt) : Prop := g_W cx (g_E cx (d + 10)) mt_Mo_readFunction (fun r u => r = none ∧ Lay u ad ∧ HdR cx d ad post u) (pc, some (.ref (ad 144)) :: lc, st, t, 0, 0)
section MG
variable {cx : gCx} {d : Nat} {ad : Nat → Nat} {T : Nat → Nat} {n a : Nat} {t0 t u : gSt} {FS : List FD} {cl : CL} {ac : Nat → Nat} {nm : List Nat} {ps : SC} {post : Option Value → gSt → Prop}
theorem MFR.nw {y : Int64} (h : MFR ad T n t0 a FS cl ac t) (hs : ∀ q ∈ FS, fdS q) (hl : FS.length < 24) (e : u = g_sj t (ad 169) FS.length y) : MFR ad T n t0 a FS cl ac u ∧ gFr ad (fun c k => Nat.beq c 169 && Nat.beq k FS.length) t u := by
  have hL := h.L
  have F : gFr ad (fun c k => Nat.beq c 169 && Nat.beq k FS.length) t u := by rw [e]; exact (gFr.rf hL).sj (by rw [Nat.beq_refl, Nat.beq_refl]; rfl)
  have hF : ∀ c k, ¬ (c = 169 ∧ k = FS.length) → (Nat.beq c 169 && Nat.beq k FS.length) = false := fun c k z => Bool.eq_false_iff.mpr (fun q => z (by simpa using q))
  obtain ⟨h1, h2, h3, h4, h5, h6⟩ := h
  refine ⟨⟨h1.tr (F.mo (fun c k z => ?_)), h2, h3.fr F (fun k _ _ => hF _ _ (by omega)), by rw [F.i 144 23 (hF _ _ (by omega))]; exact h4, h5.fr F (fun c k z => hF _ _ (by omega)), fun f q hq => ?_⟩, F⟩
  · rw [Bool.and_eq_true, Nat.beq_eq, Nat.beq_eq] at z
    rw [mfuP_i]
    omega
  · have := (List.getElem?_eq_some_iff.mp hq).1
    exact (h6 f q hq).fr (hs q (List.mem_of_getElem? hq)).1 F (fun c k z => hF _ _ (by omega)) (fun c _ => F.i 166 c (hF _ _ (by omega)))
theorem MFR.si28 {k : Nat} {y : Int32} (h : MFR ad T n t0 a FS cl ac t) (hs : ∀ q ∈ FS, fdS q) (hk : k = 24 ∨ k = 25 ∨ k = 28 ∨ k = 45) (e : u = g_si t (ad 144) k y) : MFR ad T n t0 a FS cl ac u ∧ gFr ad (fun c j => Nat.beq c 144 && Nat.beq j k) t u := by
  have hL := h.L
  have F : gFr ad (fun c j => Nat.beq c 144 && Nat.beq j k) t u := by rw [e]; exact (gFr.rf hL).si (by rw [Nat.beq_refl, Nat.beq_refl]; rfl)
  have hF : ∀ c j, ¬ (c = 144 ∧ j = k) → (Nat.beq c 144 && Nat.beq j k) = false := fun c j z => Bool.eq_false_iff.mpr (fun q => z (by simpa using q))
  obtain ⟨h1, h2, h3, h4, h5, h6⟩ := h
  refine ⟨⟨h1.tr (F.mo (fun c k z => ?_)), h2, h3.fr F (fun k _ _ => hF _ _ (by omega)) (hF _ _ (by omega)), by rw [F.i 144 23 (hF _ _ (by omega))]; exact h4, h5.fr F (fun c k z => hF _ _ (by omega)), fun f q hq => (h6 f q hq).fr (hs q (List.mem_of_getElem? hq)).1 F (fun c k z => hF _ _ (by omega)) (fun c _ => F.i 166 c (hF _ _ (by omega)))⟩, F⟩
  rw [Bool.and_eq_true, Nat.beq_eq, Nat.beq_eq] at z
  rw [mfuP_i]
  omega
/-- a function's head, up to its first bracket -/
theorem f_go (hT : txt T n) (h : MFR ad T n t0 a FS cl ac t) (ha : a ≤ n) (hs : ∀ q ∈ FS, fdS q) (hok : ∀ q ∈ FS, nm_ok q.1) (hl : FS.length ≤ 24) (k0 : tkK T n a ≠ 0)
    (kA : tkK T n a ≠ 3 → ∀ u, DF ad t0 (fcd T n a) (tkS T n a) u → HdR cx d ad post u)
    (kB : tkK T n a = 3 → tkK T n (tkE T n a) ≠ 2 → ∀ u, DF ad t0 (fcd T n (tkE T n a)) (tkS T n (tkE T n a)) u → HdR cx d ad post u)
    (kC : tkK T n a = 3 → tkK T n (tkE T n a) = 2 → (∃ q ∈ FS, q.1 = tkN T n (tkE T n a)) → ∀ u, DF ad t0 3 (tkS T n (tkE T n a)) u → HdR cx d ad post u)
    (kD : tkK T n a = 3 → tkK T n (tkE T n a) = 2 → (∀ q ∈ FS, q.1 ≠ tkN T n (tkE T n a)) → FS.length = 24 → ∀ u, DF ad t0 5 (tkS T n (tkE T n a)) u → HdR cx d ad post u)
    (kE : tkK T n a = 3 → tkK T n (tkE T n a) = 2 → (∀ q ∈ FS, q.1 ≠ tkN T n (tkE T n a)) → FS.length < 24 → tkK T n (tkE T n (tkE T n a)) ≠ 10 → ∀ u, DF ad t0 (fcd T n (tkE T n (tkE T n a))) (tkS T n (tkE T n (tkE T n a))) u → HdR cx d ad post u)
    (kP : tkK T n a = 3 → tkK T n (tkE T n a) = 2 → (∀ q ∈ FS, q.1 ≠ tkN T n (tkE T n a)) → FS.length < 24 → tkK T n (tkE T n (tkE T n a)) = 10 → tkK T n (tkE T n (tkE T n (tkE T n a))) = 23 → ∀ u, DF ad t0 1 (tkS T n (tkE T n (tkE T n (tkE T n a)))) u → HdR cx d ad post u)
    (kG : tkK T n a = 3 → tkK T n (tkE T n a) = 2 → (∀ q ∈ FS, q.1 ≠ tkN T n (tkE T n a)) → FS.length < 24 → tkK T n (tkE T n (tkE T n a)) = 10 → tkK T n (tkE T n (tkE T n (tkE T n a))) ≠ 23 → ∀ u, MHR ad T n t0 (tkE T n (tkE T n (tkE T n a))) FS cl ac (tkN T n (tkE T n a)) [] u → WF cx d ad post 120 [some (.int 0), some (.int (if tkK T n (tkE T n (tkE T n (tkE T n a))) = 11 then 0 else 1)), none] [] u) : HdR cx d ad post t := by
  have hE1 := tkE_le hT ha
  have hE2 := tkE_le hT hE1
  have hE3 := tkE_le hT hE2
  refine x_Mo_read_35 h.L ⟨fun z => absurd h.2.2.1.1.1 z, fun _ => ?_⟩
  refine m_tok h.L h.X ha h.2.2.1 (fun u1 F1 H1 => ⟨_, rfl, F1.L, fun z => absurd z (kne (j := 0) (by decide) k0), fun _ => ?_⟩) (fun u1 F1 h23 H1 => ⟨_, rfl, F1.L, fun z => absurd z (by decide), fun _ => ?_⟩)
  rotate_left
  · refine x_Mo_readFunction F1.L (m_mustD (kk := 3) (by decide) F1.L H1.ne ⟨_, rfl, F1.L, fun z => absurd rfl z, fun _ => ⟨rfl, F1.L, kA (by omega) u1 ?_⟩⟩)
    rw [show fcd T n a = 1 from if_pos h23]
    exact DF.of h.1 F1 H1
  have h1 := h.tm hs F1 H1.cu
  refine x_Mo_readFunction F1.L (m_must0 (kk := 3) (by decide) F1.L h1.X ha h1.2.2.1 (fun k3 u2 F2 c2 => ⟨_, rfl, F2.L, fun _ => ?_, fun z => absurd (show ¬ (1 : Int32) = 0 by decide) z⟩) (fun k3 u2 F2 H2 => ⟨_, rfl, F2.L, fun z => absurd rfl z, fun _ => ⟨rfl, F2.L, kA k3 u2 (DF.of h1.1 F2 H2)⟩⟩))
  have h2 := h1.tm hs F2 c2
  refine m_tok F2.L h2.X hE1 c2 (fun u3 F3 H3 => ⟨_, rfl, F3.L, fun k2 => ?_, fun k2 => ?_⟩) (fun u3 F3 h23 H3 => ⟨_, rfl, F3.L, fun z => absurd z (by decide), fun _ => ?_⟩)
  rotate_left
  · have k2' : tkK T n (tkE T n a) ≠ 2 := fun z => k2 (by rw [z]; rfl)
    rw [H3.2.2.2.2.2.1]
    refine m_fail (c := 2) F3.L (by decide) H3.1.1 H3.1.2.2 (fun w Fw hw _ => ⟨rfl, Fw.L, rfl, Fw.L, kB k3 k2' w ?_⟩)
    rw [show fcd T n (tkE T n a) = 2 from if_neg H3.2.2.1]
    exact DF.of h2.1 (F3.tr Fw) hw
  · refine m_failD2 F3.L H3.ne.1 ⟨rfl, F3.L, rfl, F3.L, kB k3 (by omega) u3 ?_⟩
    rw [show fcd T n (tkE T n a) = 1 from if_pos h23]
    exact DF.of h2.1 F3 H3
  have k2' : tkK T n (tkE T n a) = 2 := (nI_eq (b := 2) (by have := tkK_le (T := T) (n := n) (a := tkE T n a); omega) (by decide)).mp k2
  have hnm := tkN_ok hT hE1 k2'
  have h3 := h2.tm hs F3 H3.cu
  rw [h3.2.2.2.1]
  refine m_funOf (FS := FS) (nm := tkN T n (tkE T n a)) F3.L hl (fun f q hq => (h3.2.2.2.2.2 f q hq).1) hok hnm (H3.2.2.2.2.2.2.2 k2') (fun f q hq e _ => ⟨_, rfl, F3.L, fun z => absurd z (nI_pos (by have := (List.getElem?_eq_some_iff.mp hq).1; omega)), fun _ => ?_⟩) (fun hno => ⟨_, rfl, F3.L, fun _ => ?_, fun z => absurd (by decide) z⟩)
  · rw [H3.2.2.2.2.2.1]
    exact m_fail (c := 3) F3.L (by decide) H3.1.1 H3.1.2.2 (fun w Fw hw _ => ⟨rfl, Fw.L, rfl, Fw.L, kC k3 k2' ⟨q, List.mem_of_getElem? hq, e⟩ w (DF.of h3.1 Fw hw)⟩)
  rw [h3.2.2.2.1, show (24 : Int32) = nI 24 from rfl, nI_eq (by omega) (by decide), nI_clamp (by omega)]
  refine ⟨fun h24 => ⟨vp_in_nI (by omega) (by omega), fun t7 e7 => ?_⟩, fun h24 => ?_⟩
  rotate_left
  · rw [H3.2.2.2.2.2.1]
    exact m_fail (c := 5) F3.L (by decide) H3.1.1 H3.1.2.2 (fun w Fw hw _ => ⟨rfl, Fw.L, rfl, Fw.L, kD k3 k2' hno (by omega) w (DF.of h3.1 Fw hw)⟩)
  obtain ⟨h7, F7⟩ := h3.nw hs (by omega) e7
  have H7 := H3.fr F7 (fun k _ _ => rfl)
  obtain ⟨F8, c8⟩ := cuM_take F7.L H7
  refine m_Mo_take (F7.L.k 144 (by decide)) ⟨rfl, F8.L, fun t10 e10 => ?_⟩
  have h8 := h7.tm hs F8 c8
  obtain ⟨h10, F10⟩ := h8.si28 hs (Or.inr (Or.inr (Or.inl rfl))) e10
  have e169 : t10.2.2.1 (ad 169) FS.length = pk6 (tkN T n (tkE T n a)) := by
    rw [e10, g_si_j, F8.j 169 _ (bool_r tmP_i (by omega)), e7]
    rw [show (g_sj u3 (ad 169) FS.length (u3.2.2.1 (ad 144) 10)).2.2.1 (ad 169) FS.length = u3.2.2.1 (ad 144) 10 from g_up_v]
    exact H3.2.2.2.2.2.2.2 k2'
  refine m_must0 (kk := 10) (by decide) F10.L h10.X hE2 h10.2.2.1 (fun k10 u11 F11 c11 => ⟨_, rfl, F11.L, fun _ => ?_, fun z => absurd (show ¬ (1 : Int32) = 0 by decide) z⟩) (fun k10 u11 F11 H11 => ⟨_, rfl, F11.L, fun z => absurd rfl z, fun _ => ⟨rfl, F11.L, kE k3 k2' hno (by omega) k10 u11 (DF.of h10.1 F11 H11)⟩⟩)
  have h11 := h10.tm hs F11 c11
  refine m_tok F11.L h11.X hE3 c11 (fun u13 F13 H13 => ⟨_, rfl, F13.L, fun k11 => x_Mo_readFunction_119 F13.L ?_, fun k11 => x_Mo_readFunction_119 F13.L ?_⟩) (fun u13 F13 h23 H13 => ⟨_, rfl, F13.L, fun z => absurd z (by decide), fun _ => x_Mo_readFunction_119 F13.L ?_⟩)
  · have k11' : tkK T n (tkE T n (tkE T n (tkE T n a))) = 11 := (nI_eq (b := 11) (by have := tkK_le (T := T) (n := n) (a := tkE T n (tkE T n (tkE T n a))); omega) (by decide)).mp k11
    have := kG k3 k2' hno (by omega) k10 (by omega) u13 ⟨h11.tm hs F13 H13.cu, by rw [F13.j 169 _ (bool_r tmP_i (by omega)), F11.j 169 _ (bool_r tmP_i (by omega))]; exact e169, fun i q hq => by cases hq⟩
    rw [if_pos k11'] at this
    exact this
  · have k11' : tkK T n (tkE T n (tkE T n (tkE T n a))) ≠ 11 := fun z => k11 (by rw [z]; rfl)
    have := kG k3 k2' hno (by omega) k10 H13.2.2.1 u13 ⟨h11.tm hs F13 H13.cu, by rw [F13.j 169 _ (bool_r tmP_i (by omega)), F11.j 169 _ (bool_r tmP_i (by omega))]; exact e169, fun i q hq => by cases hq⟩
    rw [if_neg k11'] at this
    exact this
  · refine x_Mo_readFunction_120 F13.L ⟨fun z => absurd z (by decide), fun _ => ⟨fun _ => ?_, fun z => absurd H13.ne.1 z⟩⟩
    exact x_Mo_readFunction_252 F13.L (m_mustD (kk := 11) (by decide) F13.L H13.ne ⟨_, rfl, F13.L, fun _ => x_Mo_readFunction_270 F13.L ⟨rfl, F13.L, kP k3 k2' hno (by omega) k10 h23 u13 (DF.of h11.1 F13 H13)⟩, fun z => absurd rfl z⟩)
/-- a parameter more -/
theorem MHR.ps1 {t1 t2 : gSt} {nm' : List Nat} (h : MHR ad T n t0 a FS cl ac nm ps t) (hs : ∀ q ∈ FS, fdS q) (e1 : t1 = g_sj t (ad 157) ps.length (pk6 nm')) (e2 : t2 = g_si t1 (ad 158) ps.length (nI ps.length)) : MHR ad T n t0 a FS cl ac nm (ps ++ [(nm', ps.length)]) t2 ∧ gFr ad (fun c _ => Nat.beq c 157 || Nat.beq c 158) t t2 := by
  have hL := h.1.L
  have F : gFr ad (fun c _ => Nat.beq c 157 || Nat.beq c 158) t t2 := by rw [e2, e1]; exact ((gFr.rf hL).sj rfl).si rfl
  have hF : ∀ c, ¬ (c = 157 ∨ c = 158) → (Nat.beq c 157 || Nat.beq c 158) = false := fun c z => Bool.eq_false_iff.mpr (fun q => z (by simpa using q))
  obtain ⟨⟨h1, h2, h3, h4, h5, h6⟩, h7, h8⟩ := h
  refine ⟨⟨⟨h1.tr (F.mo (fun c k z => ?_)), h2, h3.fr F (fun k _ _ => hF _ (by omega)), by rw [F.i 144 23 (hF _ (by omega))]; exact h4, h5.fr F (fun c k z => hF _ (by omega)), fun f q hq => (h6 f q hq).fr (hs q (List.mem_of_getElem? hq)).1 F (fun c k z => hF _ (by omega)) (fun c _ => F.i 166 c (hF _ (by omega)))⟩, by rw [F.j 169 _ (hF _ (by omega))]; exact h7, fun i q hq => ?_⟩, F⟩
  · simp only [Bool.or_eq_true, Nat.beq_eq] at z
    rw [mfuP_i]
    omega
  · rw [e2, g_si_j, e1, g_rdj]
    by_cases hi : i < ps.length
    · rw [List.getElem?_append_left hi] at hq
      rw [if_neg (by omega), g_rd_k (by omega), g_sj_i]
      exact h8 i q hq
    · rw [List.getElem?_append_right (by omega)] at hq
      have hi0 : i - ps.length = 0 := by
        by_cases z : i - ps.length = 0
        · exact z
        · rw [List.getElem?_eq_none (by simp; omega)] at hq; cases hq
      rw [hi0] at hq
      have hq : (nm', ps.length) = q := by simpa using hq
      have hi1 : i = ps.length := by omega
      rw [hi1, if_pos ⟨rfl, rfl⟩, g_rd_at, ← hq]
      exact ⟨rfl, rfl⟩
/-- one parameter -/
theorem p_go {o3 : Option Value} (hT : txt T n) (h : MHR ad T n t0 a FS cl ac nm ps t) (ha : a ≤ n) (hs : ∀ q ∈ FS, fdS q) (hpk : ∀ q ∈ ps, nm_ok q.1) (hl : ps.length ≤ 6)
    (kN : tkK T n a ≠ 2 → ∀ u, DF ad t0 (fcd T n a) (tkS T n a) u → HdR cx d ad post u)
    (kU : tkK T n a = 2 → (∃ q ∈ ps, q.1 = tkN T n a) → ∀ u, DF ad t0 3 (tkS T n a) u → HdR cx d ad post u)
    (kS : tkK T n a = 2 → (∀ q ∈ ps, q.1 ≠ tkN T n a) → ps.length = 6 → ∀ u, DF ad t0 5 (tkS T n a) u → HdR cx d ad post u)
    (kX : tkK T n a = 2 → (∀ q ∈ ps, q.1 ≠ tkN T n a) → ps.length < 6 → tkK T n (tkE T n a) = 23 → ∀ u, DF ad t0 1 (tkS T n (tkE T n a)) u → HdR cx d ad post u)
    (kM : tkK T n a = 2 → (∀ q ∈ ps, q.1 ≠ tkN T n a) → ps.length < 6 → tkK T n (tkE T n a) = 12 → ∀ u o3, MHR ad T n t0 (tkE T n (tkE T n a)) FS cl ac nm (ps ++ [(tkN T n a, ps.length)]) u → WF cx d ad post 120 [some (.int (nI (ps.length + 1))), some (.int 1), o3] [] u)
    (kZ : tkK T n a = 2 → (∀ q ∈ ps, q.1 ≠ tkN T n a) → ps.length < 6 → tkK T n (tkE T n a) ≠ 12 → tkK T n (tkE T n a) ≠ 23 → ∀ u o3, MHR ad T n t0 (tkE T n a) FS cl ac nm (ps ++ [(tkN T n a, ps.length)]) u → WF cx d ad post 120 [some (.int (nI (ps.length + 1))), some (.int 0), o3] [] u) : WF cx d ad post 120 [some (.int (nI ps.length)), some (.int 1), o3] [] t := by
  have hE1 := tkE_le hT ha
  refine x_Mo_readFunction_120 h.1.L ⟨fun z => absurd z (by decide), fun _ => ⟨fun z => absurd h.1.2.2.1.1.1 z, fun _ => ?_⟩⟩
  refine m_tok h.1.L h.1.X ha h.1.2.2.1 (fun u1 F1 H1 => ⟨_, rfl, F1.L, fun k2 => ?_, fun k2 => ?_⟩) (fun u1 F1 h23 H1 => ⟨_, rfl, F1.L, fun z => absurd z (by decide), fun _ => ?_⟩)
  rotate_left
  · rw [H1.2.2.2.2.2.1]
    refine m_fail (c := 2) F1.L (by decide) H1.1.1 H1.1.2.2 (fun w Fw hw _ => ⟨rfl, Fw.L, rfl, Fw.L, kN (fun z => k2 (by rw [z]; rfl)) w ?_⟩)
    rw [show fcd T n a = 2 from if_neg H1.2.2.1]
    exact DF.of h.1.1 (F1.tr Fw) hw
  · refine m_failD2 F1.L H1.ne.1 ⟨rfl, F1.L, rfl, F1.L, kN (by omega) u1 ?_⟩
    rw [show fcd T n a = 1 from if_pos h23]
    exact DF.of h.1.1 F1 H1
  have k2' : tkK T n a = 2 := (nI_eq (b := 2) (by have := tkK_le (T := T) (n := n) (a := a); omega) (by decide)).mp k2
  have hnm := tkN_ok hT ha k2'
  have h1 := h.tm hs F1 H1.cu
  have e10 : u1.2.2.1 (ad 144) 10 = pk6 (tkN T n a) := H1.2.2.2.2.2.2.2 k2'
  have loop : ∀ m i, m + i = ps.length → (∀ j q', j < i → ps[j]? = some q' → q'.1 ≠ tkN T n a) → WF cx d ad post 151 [some (.int (nI ps.length)), some (.int 1), some (.int (nI i))] [] u1 := by
    intro m
    induction m with
    | zero =>
      intro i hi hj
      have hno : ∀ q ∈ ps, q.1 ≠ tkN T n a := fun q hq => by
        obtain ⟨j, hj'⟩ := List.getElem?_of_mem hq
        have := (List.getElem?_eq_some_iff.mp hj').1
        exact hj j q (by omega) hj'
      refine x_Mo_readFunction_151 F1.L ⟨fun _ => ?_, fun z => absurd (nI_le (by omega) (by omega)) z⟩
      rw [show (6 : Int32) = nI 6 from rfl, nI_eq (by omega) (by decide), nI_clamp (by omega), e10]
      refine ⟨fun h6 => ⟨vp_in_nI (by omega) (by omega), fun t1 e1 => ⟨vp_in_nI (by omega) (by omega), fun t2 e2 => ?_⟩⟩, fun h6 => ?_⟩
      · obtain ⟨h2, F2⟩ := h1.ps1 hs e1 e2
        obtain ⟨F3, c3⟩ := cuM_take F2.L (H1.fr F2 (fun k _ _ => rfl))
        refine m_Mo_take (F2.L.k 144 (by decide)) ⟨rfl, F3.L, ?_⟩
        have h3 := h2.tm hs F3 c3
        rw [nI_1]
        refine m_tok F3.L h3.1.X hE1 c3 (fun u5 F5 H5 => ⟨_, rfl, F5.L, fun k12 => ?_, fun k12 => ?_⟩) (fun u5 F5 h23 H5 => ⟨_, rfl, F5.L, fun _ => ?_, fun z => absurd (show ¬ (-1 : Int32) = 12 by decide) z⟩)
        · exact x_Mo_readFunction_240 F5.L ⟨fun _ => kZ k2' hno (by omega) (fun z => k12 (by rw [z]; rfl)) H5.2.2.1 u5 _ (h3.tm hs F5 H5.cu), fun z => absurd rfl z⟩
        · have k12' : tkK T n (tkE T n a) = 12 := (nI_eq (b := 12) (by have := tkK_le (T := T) (n := n) (a := tkE T n a); omega) (by decide)).mp (Classical.not_not.mp k12)
          obtain ⟨F6, c6⟩ := cuM_take F5.L H5
          refine x_Mo_readFunction_240 F5.L ⟨fun z => absurd z (by decide), fun _ => m_Mo_take (F5.L.k 144 (by decide)) ⟨rfl, F6.L, kM k2' hno (by omega) k12' _ _ ((h3.tm hs F5 H5.cu).tm hs F6 c6)⟩⟩
        · refine x_Mo_readFunction_240 F5.L ⟨fun _ => x_Mo_readFunction_120 F5.L ⟨fun _ => ?_, fun z => absurd rfl z⟩, fun z => absurd rfl z⟩
          exact x_Mo_readFunction_252 F5.L (m_mustD (kk := 11) (by decide) F5.L H5.ne ⟨_, rfl, F5.L, fun _ => x_Mo_readFunction_270 F5.L ⟨rfl, F5.L, kX k2' hno (by omega) h23 u5 (DF.of h3.1.1 F5 H5)⟩, fun z => absurd rfl z⟩)
      · rw [H1.2.2.2.2.2.1]
        exact m_fail (c := 5) F1.L (by decide) H1.1.1 H1.1.2.2 (fun w Fw hw _ => ⟨rfl, Fw.L, rfl, Fw.L, kS k2' hno (by omega) w (DF.of h1.1.1 Fw hw)⟩)
    | succ m ih =>
      intro i hi hj
      have hil : i < ps.length := by omega
      obtain ⟨q, hq⟩ : ∃ q, ps[i]? = some q := ⟨_, List.getElem?_eq_getElem hil⟩
      refine x_Mo_readFunction_151 F1.L ⟨fun z => absurd z (nI_ge hil (by omega)), fun _ => ?_⟩
      rw [nI_clamp (by omega), (h1.2.2 i q hq).1, e10, lg_cmp_eq, pk6_inj (hpk q (List.mem_of_getElem? hq)) hnm]
      refine ⟨vp_in_nI (by omega) (by omega), fun z => ?_, fun z => ?_⟩
      · rw [nI_1]
        refine ih (i + 1) (by omega) (fun j q' hj' hq' => ?_)
        by_cases e : j = i
        · subst e
          rw [hq] at hq'
          rw [← Option.some.inj hq']
          exact z
        · exact hj j q' (by omega) hq'
      · rw [H1.2.2.2.2.2.1]
        exact m_fail (c := 3) F1.L (by decide) H1.1.1 H1.1.2.2 (fun w Fw hw _ => ⟨rfl, Fw.L, rfl, Fw.L, kU k2' ⟨q, List.mem_of_getElem? hq, Classical.not_not.mp z⟩ w (DF.of h1.1.1 Fw hw)⟩)
  exact loop ps.length 0 (by omega) (fun j q' hj => by omega)
end MG
