/-! CALLS FIND THEIR FUNCTIONS: the class -/
def tgF (FS : List FD) (nm : List Nat) : Nat := FS.findIdx (fun q => decide (q.1 = nm))
def clN (cl : CL) (c : Nat) : List Nat := (cl.getD c ([], 0, 0)).1
def clP (cl : CL) (c : Nat) : Nat := (cl.getD c ([], 0, 0)).2.1
/-- a call is right -/
def clG (FS : List FD) (cl : CL) (ac : Nat → Nat) (c : Nat) : Prop := ∃ f q, FS[f]? = some q ∧ q.1 = clN cl c ∧ q.2.1 = ac c ∧ f = tgF FS (clN cl c)
/-- the fault of a call -/
def clB (FS : List FD) (cl : CL) (ac : Nat → Nat) (c k : Nat) : Prop := (k = 6 ∧ ∀ q ∈ FS, q.1 ≠ clN cl c) ∨ (k = 7 ∧ ∃ f q, FS[f]? = some q ∧ q.1 = clN cl c ∧ q.2.1 ≠ ac c ∧ f = tgF FS (clN cl c))
abbrev tgI (FS : List FD) (cl : CL) : Int32 → Int32 := fun v => nI (tgF FS (clN cl v.toNatClampNeg))
theorem tg_eq {FS : List FD} {nm : List Nat} {f : Nat} {q : FD} (h : FS[f]? = some q) (e : q.1 = nm) (hj : ∀ j q', j < f → FS[j]? = some q' → q'.1 ≠ nm) : tgF FS nm = f := by
  unfold tgF
  obtain ⟨hl, hg⟩ := List.getElem?_eq_some_iff.mp h
  rw [List.findIdx_eq hl]
  refine ⟨by rw [hg]; exact decide_eq_true e, fun j hjf => decide_eq_false (hj j _ hjf (List.getElem?_eq_getElem (by omega)))⟩
theorem cl_get {cl : CL} {c : Nat} (h : c < cl.length) : cl[c]? = some (cl.getD c ([], 0, 0)) := by
  rw [List.getD_eq_getElem?_getD, List.getElem?_eq_getElem h]
  rfl
theorem fnd_some : ∀ (k i : Nat) (J : Nat → Int64) (w : Int64), g_fnd J w i k = -1 ∧ (∀ j, i ≤ j → j < i + k → J j ≠ w) ∨ ∃ f, i ≤ f ∧ f < i + k ∧ g_fnd J w i k = nI f ∧ J f = w ∧ ∀ j, i ≤ j → j < f → J j ≠ w
  | 0, i, J, w => Or.inl ⟨rfl, fun j h1 h2 => by omega⟩
  | k + 1, i, J, w => by
    unfold g_fnd
    split
    · rename_i e
      exact Or.inr ⟨i, Nat.le_refl _, by omega, rfl, e, fun j h1 h2 => by omega⟩
    · rename_i e
      rcases fnd_some k (i + 1) J w with ⟨h1, h2⟩ | ⟨f, h1, h2, h3, h4, h5⟩
      · refine Or.inl ⟨h1, fun j j1 j2 => ?_⟩
        by_cases y : j = i
        · rw [y]; exact e
        · exact h2 j (by omega) (by omega)
      · refine Or.inr ⟨f, by omega, by omega, h3, h4, fun j j1 j2 => ?_⟩
        by_cases y : j = i
        · rw [y]; exact e
        · exact h5 j (by omega) j2
section CT
variable {cx : gCx} {d dm : Nat} {ad : Nat → Nat} {T : Nat → Nat} {n p a : Nat} {FS : List FD} {cl : CL} {ac : Nat → Nat} {t u : gSt} {post : Option Value → gSt → Prop}
def ftP (c k : Nat) : Bool := (Nat.beq c 8) || (Nat.beq c 4 && (Nat.beq k 8 || Nat.beq k 9))
theorem ftP_i {c k : Nat} : ftP c k = true ↔ c = 8 ∨ (c = 4 ∧ (k = 8 ∨ k = 9)) := by
  unfold ftP
  simp only [Bool.or_eq_true, Bool.and_eq_true, Nat.beq_eq]
/-- what is read while calls find their functions -/
def TCr (ad : Nat → Nat) (p : Nat) (FS : List FD) (cl : CL) (ac : Nat → Nat) (t : gSt) : Prop := t.2.2.2 (ad 3) 7 = some (ad p) ∧ t.2.1 (ad p) 15 = nI FS.length ∧ t.2.1 (ad 3) 8 = nI cl.length ∧ callC ad 0 cl ac t ∧ (∀ f q, FS[f]? = some q → t.2.2.1 (ad (p + 1)) f = pk8 q.1 ∧ t.2.1 (ad (p + 2)) f = nI q.2.1)
theorem TCr.fr {P : Nat → Nat → Bool} (h : TCr ad p FS cl ac t) (hp : isQ p) (hF : gFr ad P t u) (hP : ∀ c k, (c = 3 ∧ (k = 7 ∨ k = 8)) ∨ (5 ≤ c ∧ c ≤ 7) ∨ (p ≤ c ∧ c ≤ p + 2) → P c k = false) : TCr ad p FS cl ac u := by
  have hpg := hp.ge
  obtain ⟨h1, h2, h3, h4, h5⟩ := h
  refine ⟨by rw [hF.r 3 7 (hP _ _ (by omega))]; exact h1, by rw [hF.i p 15 (hP _ _ (by omega)) (by omega)]; exact h2, by rw [hF.i 3 8 (hP _ _ (by omega))]; exact h3, fun i q hi hq => ?_, fun f q hq => ?_⟩
  · rw [hF.j 5 i (hP _ _ (by omega)), hF.i 6 i (hP _ _ (by omega)), hF.i 7 i (hP _ _ (by omega))]
    exact h4 i q hi hq
  · rw [hF.j (p + 1) f (hP _ _ (by omega)) (by omega), hF.i (p + 2) f (hP _ _ (by omega)) (by omega)]
    exact h5 f q hq
theorem m_findT (hp : isQ p) (hL : Lay t ad) (h : TCr ad p FS cl ac t) (hl : FS.length ≤ 24) (hcl : cl.length ≤ 1000) (hok : ∀ q ∈ FS, nm_ok q.1) (hck : ∀ q ∈ cl, nm_ok q.1) (hs : ∀ q ∈ FS, q.2.1 ≤ 6) (hac : ∀ c, c < cl.length → ac c < 2 ^ 20) (h0 : t.2.1 (ad 4) 8 = 0)
    (kl : (∀ c, c < cl.length → clG FS cl ac c) → ∀ u, gFr ad ftP t u → u.2.1 (ad 4) 8 = 0 → (∀ c, c < cl.length → u.2.1 (ad 8) c = nI (tgF FS (clN cl c))) → post none u)
    (kd : ∀ c k, c < cl.length → (∀ j, j < c → clG FS cl ac j) → clB FS cl ac c k → ∀ u, gFr ad ftP t u → ddC ad k (clP cl c) u → post none u) : g_E cx (d + 2) i_Reader_findTargets [.ref (ad 3)] t post := by
  have hpg := hp.ge
  -- a call's function
  have one : ∀ (i : Nat) (u : gSt), i < cl.length → TCr ad p FS cl ac u → Lay u ad → ∀ (R : Option Value → gSt → Prop), (clG FS cl ac i → R (some (.int (nI (tgF FS (clN cl i))))) u) → (∀ k, clB FS cl ac i k → ∀ y : Int32, (k = 6 ∧ y = -1) ∨ (k = 7 ∧ y = nI (tgF FS (clN cl i)) ∧ tgF FS (clN cl i) < 24 ∧ u.2.1 (ad (p + 2)) (tgF FS (clN cl i)) ≠ nI (ac i)) → R (some (.int y)) u) → g_E cx (d + 1) i_Program_find [.ref (ad p), .long (u.2.2.1 (ad 5) i)] u R := by
    intro i u hi hu hLu R r1 r2
    obtain ⟨u1, u2, u3, u4, u5⟩ := hu
    have hci := u4 i _ (Nat.zero_le _) (cl_get hi)
    have hnm : nm_ok (clN cl i) := hck _ (List.mem_of_getElem? (cl_get hi))
    rw [hci.1]
    refine m_findP hp hLu u2 hl ?_
    rcases fnd_some FS.length 0 (u.2.2.1 (ad (p + 1))) (pk8 (cl.getD i ([], 0, 0)).1) with ⟨e, hno⟩ | ⟨f, _, hf, e, hJ, hfirst⟩
    · rw [e]
      refine r2 6 (Or.inl ⟨rfl, fun q hq e2 => ?_⟩) _ (Or.inl ⟨rfl, rfl⟩)
      obtain ⟨j, hj⟩ := List.getElem?_of_mem hq
      have hjl := (List.getElem?_eq_some_iff.mp hj).1
      refine hno j (Nat.zero_le _) (by omega) ?_
      rw [(u5 j q hj).1, e2]
      rfl
    · rw [Nat.zero_add] at hf
      obtain ⟨q, hq⟩ : ∃ q, FS[f]? = some q := ⟨_, List.getElem?_eq_getElem hf⟩
      have eq : q.1 = clN cl i := (pk8_inj (hok q (List.mem_of_getElem? hq)) hnm).mp (by rw [← (u5 f q hq).1]; exact hJ)
      have et : tgF FS (clN cl i) = f := tg_eq hq eq (fun j q' hj hq' e2 => hfirst j (Nat.zero_le _) hj (by rw [(u5 j q' hq').1, e2]; rfl))
      rw [e, ← et]
      by_cases hpa : q.2.1 = ac i
      · exact r1 ⟨f, q, hq, eq, hpa, et.symm⟩
      · refine r2 7 (Or.inr ⟨rfl, f, q, hq, eq, hpa, et.symm⟩) _ (Or.inr ⟨rfl, rfl, by omega, ?_⟩)
        rw [et, (u5 f q hq).2]
        intro z
        rw [nI_eq (by have := hs q (List.mem_of_getElem? hq); omega) (by have := hac i hi; omega)] at z
        exact hpa z
  -- behind a fault
  have dead : ∀ (m i : Nat) (u : gSt) (o2 : Option Value) (c k : Nat), m + i = cl.length → c < cl.length → (∀ j, j < c → clG FS cl ac j) → clB FS cl ac c k → gFr ad ftP t u → ddC ad k (clP cl c) u → g_W cx (g_E cx (d + 1)) mt_Reader_findTargets post (2, [some (.ref (ad 3)), some (.int (nI i)), o2], [], u, 0, 0) := by
    intro m
    induction m with
    | zero =>
      intro i u o2 c k hm hc hg hb Fu hd
      have hu := h.fr hp Fu (fun c k z => bool_r ftP_i (by omega))
      refine x_Reader_findTargets_2 hp.P Fu.L hu.1 ⟨fun _ => kd c k hc hg hb u Fu hd, fun z => ?_⟩
      rw [hu.2.2.1] at z
      exact absurd (nI_le (by omega) (by omega)) z
    | succ m ih =>
      intro i u o2 c k hm hc hg hb Fu hd
      have hu := h.fr hp Fu (fun c k z => bool_r ftP_i (by omega))
      have hvi : vp_in (nI i) 1000 := vp_in_nI (by omega) (by omega)
      refine x_Reader_findTargets_2 hp.P Fu.L hu.1 ⟨fun z => ?_, fun _ => ⟨hvi, ?_⟩⟩
      · rw [hu.2.2.1] at z
        exact absurd z (nI_ge (by omega) (by omega))
      rw [nI_clamp (by omega)]
      have nxt : ∀ (y : Int32) (t3 : gSt), t3 = g_si u (ad 8) i y → gFr ad ftP t t3 ∧ ddC ad k (clP cl c) t3 ∧ t3.2.1 (ad (p + 2)) = u.2.1 (ad (p + 2)) := fun y t3 e3 => by
        refine ⟨by rw [e3]; exact Fu.si rfl, ⟨hd.1, ?_, ?_⟩, ?_⟩
        · rw [e3, g_rd_ne (Fu.L.ne 4 8 (by decide) (by decide) (by decide))]; exact hd.2.1
        · rw [e3, g_rd_ne (Fu.L.ne 4 8 (by decide) (by decide) (by decide))]; exact hd.2.2
        · funext j; rw [e3, g_rd_ne (Fu.L.ne (p + 2) 8 (by omega) (by decide) (by omega))]
      have ci := (hu.2.2.2.1 i _ (Nat.zero_le _) (cl_get (by omega))).2.2
      refine one i u (by omega) hu Fu.L _ (fun hgi => ⟨_, rfl, Fu.L, hu.1, hvi, fun t3 e3 => ⟨fun _ => ?_, fun z => ?_⟩⟩) (fun k' hb' y hy => ⟨_, rfl, Fu.L, hu.1, hvi, fun t3 e3 => ⟨fun z => ?_, fun z => ?_⟩⟩)
      · obtain ⟨f, q, hq, e1, e2, e3'⟩ := hgi
        have hf := (List.getElem?_eq_some_iff.mp hq).1
        obtain ⟨G3, d3, r3⟩ := nxt _ t3 e3
        rw [← e3', nI_clamp (by omega), nI_1]
        refine ⟨vp_in_nI (by omega) (by omega), hvi, fun _ => ih (i + 1) t3 _ c k (by omega) hc hg hb G3 d3, fun z => absurd ?_ z⟩
        rw [r3, (hu.2.2.2.2 f q hq).2, e2, e3, g_rd_ne (Fu.L.ne 7 8 (by decide) (by decide) (by decide)), ci]
      · obtain ⟨f, q, hq, e1, e2, e3'⟩ := hgi
        have hf := (List.getElem?_eq_some_iff.mp hq).1
        have z : nI (tgF FS (clN cl i)) = -1 := Classical.not_not.mp z
        have : (-1 : Int32) < 0 := by decide
        rw [← z] at this
        exact absurd this (nI_pos (by omega))
      · obtain ⟨G3, d3, r3⟩ := nxt y t3 e3
        rcases hy with ⟨_, hy⟩ | ⟨hk7, hy, ht, hne⟩
        · exact absurd hy z
        · rw [hy, nI_clamp (by omega), nI_1]
          refine ⟨vp_in_nI ht (by omega), hvi, fun z => absurd z ?_, fun _ => ⟨hvi, m_failD G3.L d3.ne ⟨rfl, G3.L, ih (i + 1) t3 _ c k (by omega) hc hg hb G3 d3⟩⟩⟩
          rw [r3, e3, g_rd_ne (Fu.L.ne 7 8 (by decide) (by decide) (by decide)), ci]
          exact hne
      · obtain ⟨G3, d3, r3⟩ := nxt y t3 e3
        rw [nI_1]
        exact ⟨hvi, m_failD G3.L d3.ne ⟨rfl, G3.L, ih (i + 1) t3 _ c k (by omega) hc hg hb G3 d3⟩⟩
  have loop : ∀ (m i : Nat) (u : gSt) (o2 : Option Value), m + i = cl.length → (∀ j, j < i → clG FS cl ac j) → gFr ad ftP t u → u.2.1 (ad 4) 8 = 0 → (∀ c, c < i → u.2.1 (ad 8) c = nI (tgF FS (clN cl c))) → g_W cx (g_E cx (d + 1)) mt_Reader_findTargets post (2, [some (.ref (ad 3)), some (.int (nI i)), o2], [], u, 0, 0) := by
    intro m
    induction m with
    | zero =>
      intro i u o2 hm hg Fu hu0 h8
      have hu := h.fr hp Fu (fun c k z => bool_r ftP_i (by omega))
      refine x_Reader_findTargets_2 hp.P Fu.L hu.1 ⟨fun _ => kl (fun c hc => hg c (by omega)) u Fu hu0 (fun c hc => h8 c (by omega)), fun z => ?_⟩
      rw [hu.2.2.1] at z
      exact absurd (nI_le (by omega) (by omega)) z
    | succ m ih =>
      intro i u o2 hm hg Fu hu0 h8
      have hu := h.fr hp Fu (fun c k z => bool_r ftP_i (by omega))
      have hvi : vp_in (nI i) 1000 := vp_in_nI (by omega) (by omega)
      refine x_Reader_findTargets_2 hp.P Fu.L hu.1 ⟨fun z => ?_, fun _ => ⟨hvi, ?_⟩⟩
      · rw [hu.2.2.1] at z
        exact absurd z (nI_ge (by omega) (by omega))
      rw [nI_clamp (by omega)]
      have ci := (hu.2.2.2.1 i _ (Nat.zero_le _) (cl_get (by omega))).2.2
      have cp := (hu.2.2.2.1 i _ (Nat.zero_le _) (cl_get (by omega))).2.1
      have nxt : ∀ (y : Int32) (t3 : gSt), t3 = g_si u (ad 8) i y → gFr ad ftP t t3 ∧ t3.2.1 (ad 4) 8 = 0 ∧ t3.2.1 (ad (p + 2)) = u.2.1 (ad (p + 2)) ∧ t3.2.1 (ad 6) i = nI (clP cl i) := fun y t3 e3 => by
        refine ⟨by rw [e3]; exact Fu.si rfl, ?_, ?_, ?_⟩
        · rw [e3, g_rd_ne (Fu.L.ne 4 8 (by decide) (by decide) (by decide))]; exact hu0
        · funext j; rw [e3, g_rd_ne (Fu.L.ne (p + 2) 8 (by omega) (by decide) (by omega))]
        · rw [e3, g_rd_ne (Fu.L.ne 6 8 (by decide) (by decide) (by decide))]; exact cp
      have fail : ∀ (k : Nat) (t3 : gSt) (o2 : Option Value), (1 ≤ k ∧ k ≤ 7) → clB FS cl ac i k → gFr ad ftP t t3 → t3.2.1 (ad 4) 8 = 0 → g_E cx (d + 1) i_Tokens_failAt [.ref (ad 4), .int (nI k), .int (nI (clP cl i))] t3 (fun r u4 => r = none ∧ Lay u4 ad ∧ (g_W cx (g_E cx (d + 1)) mt_Reader_findTargets post (2, [some (.ref (ad 3)), some (.int (nI (i + 1))), o2], [], u4, 0, 0))) := fun k t3 o2 hk hb G3 z3 => by
        refine x_Tokens_failAt G3.L ⟨fun q => absurd z3 q, fun _ s1 es1 s2 es2 => ⟨rfl, ?_, ?_⟩⟩
        · rw [es2, es1]; exact G3.L.si.si
        · have Gs : gFr ad ftP t s2 := by rw [es2, es1]; exact (G3.si rfl).si rfl
          exact dead m (i + 1) s2 _ i k (by omega) (by omega) hg hb Gs ⟨hk, by rw [es2, g_rd_k (by decide), es1, g_rd_at], by rw [es2, g_rd_at]⟩
      refine one i u (by omega) hu Fu.L _ (fun hgi => ⟨_, rfl, Fu.L, hu.1, hvi, fun t3 e3 => ⟨fun _ => ?_, fun z => ?_⟩⟩) (fun k' hb' y hy => ⟨_, rfl, Fu.L, hu.1, hvi, fun t3 e3 => ⟨fun z => ?_, fun z => ?_⟩⟩)
      · obtain ⟨f, q, hq, e1, e2, e3'⟩ := hgi
        have hf := (List.getElem?_eq_some_iff.mp hq).1
        obtain ⟨G3, z3, r3, r6⟩ := nxt _ t3 e3
        rw [← e3', nI_clamp (by omega), nI_1]
        refine ⟨vp_in_nI (by omega) (by omega), hvi, fun _ => ih (i + 1) t3 _ (by omega) (fun j hj => ?_) G3 z3 (fun c hc => ?_), fun z => absurd ?_ z⟩
        · by_cases y : j = i
          · rw [y]; exact ⟨f, q, hq, e1, e2, e3'⟩
          · exact hg j (by omega)
        · by_cases y : c = i
          · rw [y, e3, g_rd_at]
          · rw [e3, g_rd_k y]; exact h8 c (by omega)
        · rw [r3, (hu.2.2.2.2 f q hq).2, e2, e3, g_rd_ne (Fu.L.ne 7 8 (by decide) (by decide) (by decide)), ci]
      · obtain ⟨f, q, hq, e1, e2, e3'⟩ := hgi
        have hf := (List.getElem?_eq_some_iff.mp hq).1
        have z : nI (tgF FS (clN cl i)) = -1 := Classical.not_not.mp z
        have : (-1 : Int32) < 0 := by decide
        rw [← z] at this
        exact absurd this (nI_pos (by omega))
      · obtain ⟨G3, z3, r3, r6⟩ := nxt y t3 e3
        rcases hy with ⟨_, hy⟩ | ⟨hk7, hy, ht, hne⟩
        · exact absurd hy z
        · rw [hy, nI_clamp (by omega), nI_1, r6]
          subst hk7
          refine ⟨vp_in_nI ht (by omega), hvi, fun z => absurd z ?_, fun _ => ⟨hvi, fail 7 t3 _ (by decide) hb' G3 z3⟩⟩
          rw [r3, e3, g_rd_ne (Fu.L.ne 7 8 (by decide) (by decide) (by decide)), ci]
          exact hne
      · obtain ⟨G3, z3, r3, r6⟩ := nxt y t3 e3
        rw [nI_1, r6]
        rcases hy with ⟨hk6, hy⟩ | ⟨hk7, hy, ht, hne⟩
        · subst hk6
          exact ⟨hvi, fail 6 t3 _ (by decide) hb' G3 z3⟩
        · have z : y = -1 := Classical.not_not.mp z
          have : (-1 : Int32) < 0 := by decide
          rw [← z, hy] at this
          exact absurd this (nI_pos (by omega))
  exact x_Reader_findTargets hL (loop cl.length 0 t none (by omega) (fun j hj => by omega) (gFr.rf hL) h0 (fun c hc => by omega))
/-- the calls' values become functions -/
theorem m_setT {U : Nat} {L : List (Int32 × Int32)} (hp : isQ p) (hL : Lay t ad) (h7 : t.2.2.2 (ad 3) 7 = some (ad p)) (h8 : t.2.1 (ad 3) 8 = nI cl.length) (h11 : t.2.1 (ad 3) 11 = nI L.length) (hU : L.length ≤ 3000) (hcl : cl.length ≤ 1000) (h8t : ∀ c, c < cl.length → t.2.1 (ad 8) c = nI (tgF FS (clN cl c))) (hr : rowC ad p 0 L t) (hv : ∀ q ∈ L, q.1 = 15 → ∃ c, q.2 = nI c ∧ c < cl.length)
    (kl : ∀ u, gFr ad (onP (p + 13)) t u → rowC ad p 0 (L.map (fun q => (q.1, if q.1 = 15 then tgI FS cl q.2 else q.2))) u → post none u) : g_E cx (d + 1) i_Reader_setTargets [.ref (ad 3)] t post := by
  have hpg := hp.ge
  obtain ⟨hl12, hl13, _, _⟩ := hp.l
  have loop : ∀ (m i : Nat) (u : gSt), m + i = L.length → gFr ad (onP (p + 13)) t u → (∀ j q, L[j]? = some q → u.2.1 (ad (p + 13)) j = if j < i then (if q.1 = 15 then tgI FS cl q.2 else q.2) else q.2) → g_W cx (g_E cx d) mt_Reader_setTargets post (2, [some (.ref (ad 3)), some (.int (nI i))], [], u, 0, 0) := by
    intro m
    induction m with
    | zero =>
      intro i u hm Fu hu
      have u11 : u.2.1 (ad 3) 11 = nI L.length := by rw [Fu.i 3 11 (onP_r (by omega))]; exact h11
      refine x_Reader_setTargets_2 hp.P Fu.L (by rw [Fu.r 3 7 (onP_r (by omega))]; exact h7) ⟨fun _ => kl u Fu (fun j q hq => ?_), fun z => ?_⟩
      · rw [List.getElem?_map] at hq
        obtain ⟨q0, hq0, e⟩ := Option.map_eq_some_iff.mp hq
        have hj := (List.getElem?_eq_some_iff.mp hq0).1
        have x1 : u.2.1 (ad (p + 12)) (0 + j) = q0.1 := by rw [Fu.i (p + 12) _ (onP_r (by omega)) (by omega)]; exact (hr j q0 hq0).1
        have x2 := hu j q0 hq0
        rw [if_pos (by omega)] at x2
        rw [← e]
        exact ⟨x1, by rw [Nat.zero_add]; exact x2⟩
      · rw [u11] at z
        exact absurd (nI_le (by omega) (by omega)) z
    | succ m ih =>
      intro i u hm Fu hu
      have u11 : u.2.1 (ad 3) 11 = nI L.length := by rw [Fu.i 3 11 (onP_r (by omega))]; exact h11
      have u8 : u.2.1 (ad 3) 8 = nI cl.length := by rw [Fu.i 3 8 (onP_r (by omega))]; exact h8
      obtain ⟨q, hq⟩ : ∃ q, L[i]? = some q := ⟨_, List.getElem?_eq_getElem (by omega)⟩
      have x1 : u.2.1 (ad (p + 12)) i = q.1 := by
        rw [Fu.i (p + 12) _ (onP_r (by omega)) (by omega)]
        have := (hr i q hq).1
        rw [Nat.zero_add] at this
        exact this
      have x2 := hu i q hq
      rw [if_neg (by omega)] at x2
      have hv1 : vp_in (nI i) (c_len (p + 12)) := by rw [hl12]; exact vp_in_nI (by omega) (by omega)
      have hv2 : vp_in (nI i) (c_len (p + 13)) := by rw [hl13]; exact vp_in_nI (by omega) (by omega)
      refine x_Reader_setTargets_2 hp.P Fu.L (by rw [Fu.r 3 7 (onP_r (by omega))]; exact h7) ⟨fun z => ?_, fun _ => ?_⟩
      · rw [u11] at z
        exact absurd z (nI_ge (by omega) (by omega))
      rw [nI_clamp (by omega), x1, x2, u8, nI_1]
      refine ⟨hv1, fun h15 => ih (i + 1) u (by omega) Fu (fun j q' hq' => ?_), fun h15 => ?_⟩
      · have := hu j q' hq'
        by_cases e : j = i
        · subst e
          rw [hq] at hq'
          have e' := Option.some.inj hq'
          subst e'
          rw [this, if_neg (by omega), if_pos (by omega), if_neg h15]
        · rw [this]
          by_cases y : j < i
          · rw [if_pos y, if_pos (show j < i + 1 by omega)]
          · rw [if_neg y, if_neg (show ¬ j < i + 1 by omega)]
      · have h15 : q.1 = 15 := Classical.not_not.mp h15
        obtain ⟨c, ec, hc⟩ := hv q (List.mem_of_getElem? hq) h15
        rw [ec, nI_leI (by omega) (by omega), nI_clamp (by omega), Fu.i 8 c (onP_r (by omega)), h8t c hc]
        refine ⟨hv2, fun z => by omega, fun _ => ⟨hv2, vp_in_nI (by omega) (by omega), hv2, fun t1 e1 => ?_⟩⟩
        have F1 : gFr ad (onP (p + 13)) t t1 := by rw [e1]; exact Fu.si (by unfold onP; exact Nat.beq_refl _) (by omega)
        refine ih (i + 1) t1 (by omega) F1 (fun j q' hq' => ?_)
        by_cases e : j = i
        · subst e
          rw [hq] at hq'
          have e' := Option.some.inj hq'
          subst e'
          rw [e1, g_rd_at, if_pos (by omega), if_pos h15, ec]
          show nI _ = nI _
          rw [nI_clamp (by omega)]
        · rw [e1, g_rd_k e, hu j q' hq']
          by_cases y : j < i
          · rw [if_pos y, if_pos (show j < i + 1 by omega)]
          · rw [if_neg y, if_neg (show ¬ j < i + 1 by omega)]
  exact x_Reader_setTargets hL (loop L.length 0 t (by omega) (gFr.rf hL) (fun j q hq => by
    rw [if_neg (by omega)]
    have := (hr j q hq).2
    rw [Nat.zero_add] at this
    exact this))
end CT
