/-! THE MODEL READS FUNCTIONS -/
/-- a function as it was read: name, parameters, variables, expression -/
abbrev FD : Type := List Nat × Nat × Nat × Fo
def mfuP (c k : Nat) : Bool := (Nat.beq c 144 && ((Nat.ble 3 k && Nat.ble k 10) || (Nat.ble 23 k && Nat.ble k 35) || Nat.beq k 41 || Nat.beq k 45)) || (Nat.ble 157 c && Nat.ble c 170) || ((Nat.beq c 148 || Nat.beq c 149 || Nat.beq c 156) && Nat.ble 48 k) || (Nat.ble 151 c && Nat.ble c 155 && Nat.ble 62400 k)
theorem mfuP_i {c k : Nat} : mfuP c k = true ↔ (c = 144 ∧ ((3 ≤ k ∧ k ≤ 10) ∨ (23 ≤ k ∧ k ≤ 35) ∨ k = 41 ∨ k = 45)) ∨ (157 ≤ c ∧ c ≤ 170) ∨ ((c = 148 ∨ c = 149 ∨ c = 156) ∧ 48 ≤ k) ∨ (151 ≤ c ∧ c ≤ 155 ∧ 62400 ≤ k) := by
  unfold mfuP
  simp only [Bool.or_eq_true, Bool.and_eq_true, Nat.beq_eq, Nat.ble_eq]
  omega
/-- the calls -/
def mCl (ad : Nat → Nat) (cl : CL) (ac : Nat → Nat) (t : gSt) : Prop := t.2.1 (ad 144) 35 = nI cl.length ∧ ∀ i q, cl[i]? = some q → t.2.2.1 (ad 163) i = pk6 q.1 ∧ t.2.1 (ad 164) i = nI q.2.1 ∧ t.2.1 (ad 165) i = nI (ac i) ∧ t.2.1 (ad 167) i = nI q.2.2
/-- a function in its row -/
def mFn (ad : Nat → Nat) (g : Int32 → Int32) (f : Nat) (q : FD) (t : gSt) : Prop :=
  t.2.2.1 (ad 169) f = pk6 q.1 ∧ t.2.1 (ad 170) f = nI q.2.1 ∧ t.2.1 (ad 149) (48 + f) = nI q.2.2.1 ∧ t.2.1 (ad 148) (48 + f) = nI (fo_n q.2.2.2) ∧ t.2.1 (ad 156) (48 + f) = nI (fo_ac q.2.2.2) ∧
  fo_m (mro t ad 151 (48 + f)) (mro t ad 152 (48 + f)) (mro t ad 153 (48 + f)) (mro t ad 154 (48 + f)) (mro t ad 155 (48 + f)) (fo_ac q.2.2.2) id (fo_mv g q.2.2.2) 0 ∧ fo_cno (fun i => t.2.1 (ad 166) i) q.2.2.2 0
/-- small -/
def fdS (q : FD) : Prop := fo_n q.2.2.2 ≤ 400 ∧ q.2.1 ≤ 6 ∧ q.2.2.1 ≤ 46
def MFR (ad : Nat → Nat) (T : Nat → Nat) (n : Nat) (t0 : gSt) (a : Nat) (FS : List FD) (cl : CL) (ac : Nat → Nat) (t : gSt) : Prop :=
  gFr ad mfuP t0 t ∧ txM ad T n t0 ∧ cuM ad T n a t ∧ t.2.1 (ad 144) 23 = nI FS.length ∧ mCl ad cl ac t ∧ ∀ f q, FS[f]? = some q → mFn ad (fun _ => 0) f q t
/-- within a function's head -/
def MHR (ad : Nat → Nat) (T : Nat → Nat) (n : Nat) (t0 : gSt) (a : Nat) (FS : List FD) (cl : CL) (ac : Nat → Nat) (nm : List Nat) (ps : SC) (t : gSt) : Prop :=
  MFR ad T n t0 a FS cl ac t ∧ t.2.2.1 (ad 169) FS.length = pk6 nm ∧ ∀ i q, ps[i]? = some q → t.2.2.1 (ad 157) i = pk6 q.1 ∧ t.2.1 (ad 158) i = nI q.2
def DF (ad : Nat → Nat) (t0 : gSt) (c p : Nat) (u : gSt) : Prop := gFr ad mfuP t0 u ∧ ddM ad c p u
section MFS
variable {cx : gCx} {d : Nat} {ad : Nat → Nat} {T : Nat → Nat} {n a : Nat} {t0 t u : gSt} {FS : List FD} {cl : CL} {ac : Nat → Nat} {nm : List Nat} {ps : SC} {post : Option Value → gSt → Prop} {P : Nat → Nat → Bool} {f : Nat} {q : FD} {g : Int32 → Int32}
theorem mf_tm {c k : Nat} (h : tmP c k = true) : mfuP c k = true := by
  rw [tmP_i] at h
  rw [mfuP_i]
  omega
theorem mCl.fr (h : mCl ad cl ac t) (hF : gFr ad P t u) (hP : ∀ c k, (c = 144 ∧ k = 35) ∨ (163 ≤ c ∧ c ≤ 165) ∨ c = 167 → P c k = false) : mCl ad cl ac u :=
  ⟨by rw [hF.i 144 35 (hP _ _ (by omega))]; exact h.1, fun i q hq => by
    rw [hF.j 163 i (hP _ _ (by omega)), hF.i 164 i (hP _ _ (by omega)), hF.i 165 i (hP _ _ (by omega)), hF.i 167 i (hP _ _ (by omega))]
    exact h.2 i q hq⟩
theorem mFn.fr (h : mFn ad g f q t) (hs : fo_n q.2.2.2 ≤ 400) (hF : gFr ad P t u) (hP : ∀ c k, ((c = 169 ∨ c = 170) ∧ k = f) ∨ ((c = 148 ∨ c = 149 ∨ c = 156) ∧ k = 48 + f) ∨ (151 ≤ c ∧ c ≤ 155 ∧ 1300 * (48 + f) ≤ k ∧ k < 1300 * (48 + f) + 1300) → P c k = false) (h166 : ∀ c ∈ pcl q.2.2.2, u.2.1 (ad 166) c = t.2.1 (ad 166) c) : mFn ad g f q u := by
  obtain ⟨h1, h2, h3, h4, h5, h6, h7⟩ := h
  have hac := fo_ac_le q.2.2.2
  refine ⟨?_, ?_, ?_, ?_, ?_, ?_, ?_⟩
  · rw [hF.j 169 f (hP _ _ (by omega))]; exact h1
  · rw [hF.i 170 f (hP _ _ (by omega))]; exact h2
  · rw [hF.i 149 _ (hP _ _ (by omega))]; exact h3
  · rw [hF.i 148 _ (hP _ _ (by omega))]; exact h4
  · rw [hF.i 156 _ (hP _ _ (by omega))]; exact h5
  · refine fo_m_cg (fun i hi => hF.i 155 _ (hP _ _ (by omega))) (Nat.le_refl _) _ 0 h6 (fun m m1 m2 => ?_)
    rw [fo_n_mv] at m2
    exact ⟨hF.i 151 _ (hP _ _ (by omega)), hF.i 152 _ (hP _ _ (by omega)), hF.i 153 _ (hP _ _ (by omega)), hF.i 154 _ (hP _ _ (by omega))⟩
  · exact fo_cno_cg _ 0 h7 (fun z hz e => h166 _ (pcl_p _ z hz e))
theorem MFR.L (h : MFR ad T n t0 a FS cl ac t) : Lay t ad := h.1.L
theorem MFR.X (h : MFR ad T n t0 a FS cl ac t) : txM ad T n t := h.2.1.fr h.1 (bool_r mfuP_i (by omega)) (fun k => bool_r mfuP_i (by omega))
theorem MFR.tm {a' : Nat} (h : MFR ad T n t0 a FS cl ac t) (hs : ∀ q ∈ FS, fdS q) (hF : gFr ad tmP t u) (hC : cuM ad T n a' u) : MFR ad T n t0 a' FS cl ac u := by
  obtain ⟨h1, h2, h3, h4, h5, h6⟩ := h
  exact ⟨h1.tr (hF.mo (fun c k z => mf_tm z)), h2, hC, by rw [hF.i 144 23 (bool_r tmP_i (by omega))]; exact h4, h5.fr hF (fun c k z => bool_r tmP_i (by omega)), fun f q hq => (h6 f q hq).fr (hs q (List.mem_of_getElem? hq)).1 hF (fun c k z => bool_r tmP_i (by omega)) (fun c _ => hF.i 166 c (bool_r tmP_i (by omega)))⟩
theorem MHR.tm {a' : Nat} (h : MHR ad T n t0 a FS cl ac nm ps t) (hs : ∀ q ∈ FS, fdS q) (hF : gFr ad tmP t u) (hC : cuM ad T n a' u) : MHR ad T n t0 a' FS cl ac nm ps u :=
  ⟨h.1.tm hs hF hC, by rw [hF.j 169 _ (bool_r tmP_i (by omega))]; exact h.2.1, fun i q hq => by rw [hF.j 157 i (bool_r tmP_i (by omega)), hF.i 158 i (bool_r tmP_i (by omega))]; exact h.2.2 i q hq⟩
theorem DF.of {c p : Nat} (h : gFr ad mfuP t0 t) (hF : gFr ad tmP t u) (hd : ddM ad c p u) : DF ad t0 c p u := ⟨h.tr (hF.mo (fun c k z => mf_tm z)), hd⟩
theorem cuM_take (hL : Lay t ad) (h : hcM ad T n a t) : gFr ad tmP t (g_si t (ad 144) f_Mo_seen 0) ∧ cuM ad T n (tkE T n a) (g_si t (ad 144) f_Mo_seen 0) := by
  refine ⟨(gFr.rf hL).si rfl, ⟨?_, ?_, h.1.2.2.fr ((gFr.rf hL).si (P := tmP) rfl) rfl⟩, Or.inl ⟨g_rd_at, ?_⟩⟩
  · rw [g_rd_k (by decide)]; exact h.1.1
  · rw [g_rd_k (by decide)]; exact h.1.2.1
  · rw [g_rd_k (by decide)]; exact h.2.2.2.1
/-- must, without more -/
theorem m_must0 {kk : Nat} (hkk : kk < 23) (hL : Lay t ad) (hX : txM ad T n t) (ha : a ≤ n) (hC : cuM ad T n a t) (k1 : tkK T n a = kk → ∀ u, gFr ad tmP t u → cuM ad T n (tkE T n a) u → post (some (.int 1)) u) (k2 : tkK T n a ≠ kk → ∀ u, gFr ad tmP t u → ddM ad (fcd T n a) (tkS T n a) u → post (some (.int 0)) u) : g_E cx (d + 5) i_Mo_must [.ref (ad 144), .int (nI kk)] t post := by
  refine x_Mo_must hL (m_tok hL hX ha hC (fun u F H => ⟨_, rfl, F.L, fun q => ?_, fun q => ?_⟩) (fun u F hk H => ⟨_, rfl, F.L, fun q => ?_, fun _ => ?_⟩))
  · have e := (nI_eq (by have := tkK_le (T := T) (n := n) (a := a); omega) (by omega)).mp q
    obtain ⟨F2, c2⟩ := cuM_take F.L H
    exact m_Mo_take (F.L.k 144 (by decide)) ⟨rfl, F2.L, k1 e _ (F.tr F2) c2⟩
  · have e : tkK T n a ≠ kk := fun z => q (by rw [z])
    rw [H.2.2.2.2.2.1]
    exact m_fail (c := 2) F.L (by decide) H.1.1 H.1.2.2 (fun w Fw hw _ => ⟨rfl, Fw.L, k2 e w (F.tr Fw) (by rw [show fcd T n a = 2 from if_neg H.2.2.1]; exact hw)⟩)
  · have : (-1 : Int32) < 0 := by decide
    rw [q] at this
    exact absurd this (nI_pos (by omega))
  · exact m_failD2 F.L H.ne.1 ⟨rfl, F.L, k2 (by omega) u F (by rw [show fcd T n a = 1 from if_pos hk]; exact H)⟩
theorem m_mustD {kk : Nat} (hkk : kk < 23) (hL : Lay t ad) (h0 : ¬ t.2.1 (ad 144) 3 = 0 ∧ ¬ t.2.1 (ad 144) 3 ≤ 0) (k1 : post (some (.int 0)) t) : g_E cx (d + 2) i_Mo_must [.ref (ad 144), .int (nI kk)] t post := by
  refine x_Mo_must hL (m_lookD hL h0.2 ⟨_, rfl, hL, fun q => ?_, fun _ => m_failD2 hL h0.1 ⟨rfl, hL, k1⟩⟩)
  have : (-1 : Int32) < 0 := by decide
  rw [q] at this
  exact absurd this (nI_pos (by omega))
/-- functionOf -/
theorem m_funOf {w : Int64} (hL : Lay t ad) (hl : FS.length ≤ 24) (hn : ∀ f q, FS[f]? = some q → t.2.2.1 (ad 169) f = pk6 q.1) (hok : ∀ q ∈ FS, nm_ok q.1) (hnm : nm_ok nm) (hw : w = pk6 nm) (k1 : ∀ f q, FS[f]? = some q → q.1 = nm → (∀ j q', j < f → FS[j]? = some q' → q'.1 ≠ nm) → post (some (.int (nI f))) t) (k2 : (∀ q ∈ FS, q.1 ≠ nm) → post (some (.int (-1))) t) : g_E cx (d + 1) i_Mo_functionOf [.ref (ad 144), .long w, .int (nI FS.length)] t post := by
  have loop : ∀ m i, m + i = FS.length → (∀ j q', j < i → FS[j]? = some q' → q'.1 ≠ nm) → g_W cx (g_E cx d) mt_Mo_functionOf post (3, [some (.ref (ad 144)), some (.long w), none, some (.int (nI FS.length)), some (.int (nI i))], [], t, 0, 0) := by
    intro m
    induction m with
    | zero =>
      intro i hi hj
      refine x_Mo_functionOf_3 hL ⟨fun _ => k2 (fun q hq => ?_), fun z => absurd (nI_le (by omega) (by omega)) z⟩
      obtain ⟨j, hj'⟩ := List.getElem?_of_mem hq
      have := (List.getElem?_eq_some_iff.mp hj').1
      exact hj j q (by omega) hj'
    | succ m ih =>
      intro i hi hj
      have hil : i < FS.length := by omega
      obtain ⟨q, hq⟩ : ∃ q, FS[i]? = some q := ⟨_, List.getElem?_eq_getElem hil⟩
      refine x_Mo_functionOf_3 hL ⟨fun z => absurd z (nI_ge hil (by omega)), fun _ => ?_⟩
      rw [nI_clamp (by omega), hn i q hq, lg_cmp_eq, hw, pk6_inj (hok q (List.mem_of_getElem? hq)) hnm]
      refine ⟨vp_in_nI (by omega) (by omega), fun z => ?_, fun z => k1 i q hq (Classical.not_not.mp z) hj⟩
      rw [nI_1, ← hw]
      refine ih (i + 1) (by omega) (fun j q' hj' hq' => ?_)
      by_cases e : j = i
      · subst e
        rw [hq] at hq'
        rw [← Option.some.inj hq']
        exact z
      · exact hj j q' (by omega) hq'
  exact x_Mo_functionOf hL (loop FS.length 0 (by omega) (fun j q' hj => by omega))
end MFS
