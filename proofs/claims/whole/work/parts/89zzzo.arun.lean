/-! THE CONSTRUCTORS BY AN ABSTRACT RUN: cells by their numbers, in the order in which they are made; what is kept: kinds and lengths, ints that are not 0, references that are not none -/
abbrev aM : Type := List (Nat × Nat) × List (Nat × Nat × Int32) × List (Nat × Nat × Nat)
def aI : List (Nat × Nat × Int32) → Nat → Nat → Int32
  | [], _, _ => 0
  | q :: r, i, j => if q.1 = i ∧ q.2.1 = j then q.2.2 else aI r i j
def aR : List (Nat × Nat × Nat) → Nat → Nat → Option Nat
  | [], _, _ => none
  | q :: r, i, j => if q.1 = i ∧ q.2.1 = j then some q.2.2 else aR r i j
def aPI (l : List (Nat × Nat × Int32)) (i j : Nat) (x : Int32) : List (Nat × Nat × Int32) := if x = 0 ∧ aI l i j = 0 then l else (i, j, x) :: l
theorem aPI_at {l : List (Nat × Nat × Int32)} {i j a b : Nat} {x : Int32} : aI (aPI l i j x) a b = if i = a ∧ j = b then x else aI l a b := by
  unfold aPI
  by_cases h : x = 0 ∧ aI l i j = 0
  · rw [if_pos h]
    by_cases h2 : i = a ∧ j = b
    · rw [if_pos h2, ← h2.1, ← h2.2, h.1, h.2]
    · rw [if_neg h2]
  · rw [if_neg h]
    rfl
theorem aI_none {l : List (Nat × Nat × Int32)} {c j : Nat} (h : l.all (fun q => q.1 != c) = true) : aI l c j = 0 := by
  induction l with
  | nil => rfl
  | cons q r ih =>
    rw [List.all_cons, Bool.and_eq_true] at h
    have h1 : ¬ (q.1 = c ∧ q.2.1 = j) := fun z => by
      have h0 : (q.1 != c) = true := h.1
      rw [z.1] at h0
      simp at h0
    show (if q.1 = c ∧ q.2.1 = j then q.2.2 else aI r c j) = 0
    rw [if_neg h1]
    exact ih h.2
theorem aR_app {L l : List (Nat × Nat × Nat)} {i j : Nat} : aR (L ++ l) i j = (match aR L i j with
    | some k => some k
    | none => aR l i j) := by
  induction L with
  | nil => rfl
  | cons q r ih =>
    show (if q.1 = i ∧ q.2.1 = j then some q.2.2 else aR (r ++ l) i j) = (match (if q.1 = i ∧ q.2.1 = j then some q.2.2 else aR r i j) with
      | some k => some k
      | none => aR l i j)
    by_cases h : q.1 = i ∧ q.2.1 = j
    · rw [if_pos h, if_pos h]
      all_goals rfl
    · rw [if_neg h, if_neg h]
      exact ih
theorem aR_rng {N i j : Nat} : ∀ m : Nat, aR ((List.range m).map (fun k => (N, k, N + 1 + k))) i j = if i = N ∧ j < m then some (N + 1 + j) else none := by
  intro m
  induction m with
  | zero =>
    rw [if_neg (fun h => absurd h.2 (Nat.not_lt_zero _))]
    rfl
  | succ m ih =>
    rw [List.range_succ, List.map_append, aR_app, ih]
    by_cases h : i = N ∧ j < m
    · rw [if_pos h, if_pos ⟨h.1, Nat.lt_succ_of_lt h.2⟩]
      all_goals rfl
    · rw [if_neg h]
      show (if N = i ∧ m = j then some (N + 1 + m) else none) = _
      by_cases h2 : N = i ∧ m = j
      · rw [if_pos h2, if_pos ⟨h2.1.symm, by omega⟩, h2.2]
      · rw [if_neg h2, if_neg (fun z => h2 ⟨z.1.symm, by
          have := z.2
          have h3 : ¬ j < m := fun q => h ⟨z.1, q⟩
          omega⟩)]
/-- a value, its cell's number put for the address -/
def a_v (ad : Nat → Nat) (v : Value) : Value := match v with
  | .ref i => .ref (ad i)
  | w => w
def a_ok (n : Nat) (v : Value) : Prop := match v with
  | .ref i => i < n
  | _ => True
/-- the world t is what was kept, the cells at ad -/
def aRel (ad : Nat → Nat) (M : aM) (t : gSt) : Prop :=
  (∀ i, i < M.1.length → ad i ∈ t.1.1) ∧
  (∀ i j, i < M.1.length → j < M.1.length → ad i = ad j → i = j) ∧
  (∀ i, i < M.1.length → t.1.2.1 (ad i) = (M.1.getD i (0, 0)).1 ∧ t.1.2.2 (ad i) = (M.1.getD i (0, 0)).2) ∧
  (∀ i j, i < M.1.length → t.2.1 (ad i) j = aI M.2.1 i j ∧ t.2.2.1 (ad i) j = 0 ∧ t.2.2.2 (ad i) j = (aR M.2.2 i j).map ad) ∧
  (∀ i j k, aR M.2.2 i j = some k → k < M.1.length) ∧
  (∀ i j, M.1.length ≤ i → aI M.2.1 i j = 0 ∧ aR M.2.2 i j = none)
def aX (ad : Nat → Nat) (n : Nat) (ad' : Nat → Nat) (n' : Nat) : Prop := n ≤ n' ∧ ∀ i, i < n → ad' i = ad i
theorem aX.rf {ad : Nat → Nat} {n : Nat} : aX ad n ad n := ⟨Nat.le_refl _, fun _ _ => rfl⟩
theorem aX.tr {ad ad' ad2 : Nat → Nat} {n n' n2 : Nat} (h : aX ad n ad' n') (h2 : aX ad' n' ad2 n2) : aX ad n ad2 n2 := ⟨Nat.le_trans h.1 h2.1, fun i hi => (h2.2 i (Nat.lt_of_lt_of_le hi h.1)).trans (h.2 i hi)⟩
theorem a_ok_mono {n n' : Nat} {v : Value} (hn : n ≤ n') (h : a_ok n v) : a_ok n' v := by
  cases v <;> first | exact trivial | exact Nat.lt_of_lt_of_le h hn
theorem aX.v {ad ad' : Nat → Nat} {n n' : Nat} (h : aX ad n ad' n') {v : Value} (hv : a_ok n v) : a_v ad' v = a_v ad v := by
  cases v <;> first | rfl | exact congrArg Value.ref (h.2 _ hv)
theorem aX.st {ad ad' : Nat → Nat} {n n' : Nat} (h : aX ad n ad' n') {st : List Value} (hv : ∀ v ∈ st, a_ok n v) : st.map (a_v ad') = st.map (a_v ad) := List.map_congr_left (fun v hm => h.v (hv v hm))
theorem aX.lc {ad ad' : Nat → Nat} {n n' : Nat} (h : aX ad n ad' n') {lc : List (Option Value)} (hv : ∀ v, some v ∈ lc → a_ok n v) : lc.map (Option.map (a_v ad')) = lc.map (Option.map (a_v ad)) := by
  refine List.map_congr_left (fun o hm => ?_)
  cases o with
  | none => rfl
  | some v => exact congrArg some (h.v (hv v hm))
theorem aRel.nil {ad : Nat → Nat} {t : gSt} : aRel ad ([], [], []) t := by
  refine ⟨fun i hi => ?_, fun i j hi => ?_, fun i hi => ?_, fun i j hi => ?_, fun i j k h => ?_, fun i j _ => ⟨rfl, rfl⟩⟩
  · exact absurd hi (Nat.not_lt_zero _)
  · exact absurd hi (Nat.not_lt_zero _)
  · exact absurd hi (Nat.not_lt_zero _)
  · exact absurd hi (Nat.not_lt_zero _)
  · cases h
theorem a_getD_l {l r : List (Nat × Nat)} {i : Nat} (h : i < l.length) : (l ++ r).getD i (0, 0) = l.getD i (0, 0) := by
  rw [List.getD_eq_getElem?_getD, List.getD_eq_getElem?_getD, List.getElem?_append_left h]
theorem a_getD_n {l r : List (Nat × Nat)} {q : Nat × Nat} : (l ++ q :: r).getD l.length (0, 0) = q := by
  rw [List.getD_eq_getElem?_getD, List.getElem?_append_right (Nat.le_refl _), Nat.sub_self]
  rfl
theorem a_map_lt {ad ad' : Nat → Nat} {o : Option Nat} {n : Nat} (h : ∀ k, o = some k → k < n) (he : ∀ i, i < n → ad' i = ad i) : o.map ad' = o.map ad := by
  cases o with
  | none => rfl
  | some k => exact congrArg some (he k (h k rfl))
/-- a new cell -/
theorem aRel.nw {ad : Nat → Nat} {M : aM} {t : gSt} {a k n : Nat} (h : aRel ad M t) (ha : a ∉ t.1.1) : aRel (va_up ad M.1.length a) (M.1 ++ [(k, n)], M.2) (g_nw t a k n) := by
  obtain ⟨h1, h2, h3, h4, h5, h6⟩ := h
  have hne : ∀ i, i < M.1.length → ad i ≠ a := fun i hi e => ha (e ▸ h1 i hi)
  have hlt : ∀ i, i < M.1.length → va_up ad M.1.length a i = ad i := fun i hi => va_up_ne _ _ (Nat.ne_of_lt hi)
  have hN : va_up ad M.1.length a M.1.length = a := va_up_self _ _ _
  have hl : (M.1 ++ [(k, n)]).length = M.1.length + 1 := by simp
  have hc : ∀ i, i < (M.1 ++ [(k, n)]).length → i < M.1.length ∨ i = M.1.length := fun i hi => by rw [hl] at hi; omega
  refine ⟨fun i hi => ?_, fun i j hi hj e => ?_, fun i hi => ?_, fun i j hi => ?_, fun i j q hq => ?_, fun i j hi => ?_⟩
  · rcases hc i hi with hi | rfl
    · rw [hlt i hi]
      exact List.mem_append_left _ (h1 i hi)
    · rw [hN]
      exact List.mem_append_right _ List.mem_cons_self
  · rcases hc i hi with hi | rfl
    · rcases hc j hj with hj | rfl
      · rw [hlt i hi, hlt j hj] at e
        exact h2 i j hi hj e
      · rw [hlt i hi, hN] at e
        exact absurd e (hne i hi)
    · rcases hc j hj with hj | rfl
      · rw [hlt j hj, hN] at e
        exact absurd e.symm (hne j hj)
      · rfl
  · show va_up t.1.2.1 a k (va_up ad M.1.length a i) = ((M.1 ++ [(k, n)]).getD i (0, 0)).1 ∧ va_up t.1.2.2 a n (va_up ad M.1.length a i) = ((M.1 ++ [(k, n)]).getD i (0, 0)).2
    rcases hc i hi with hi | rfl
    · rw [hlt i hi, va_up_ne _ _ (hne i hi), va_up_ne _ _ (hne i hi), a_getD_l hi]
      exact h3 i hi
    · rw [hN, va_up_self, va_up_self, a_getD_n]
      exact ⟨rfl, rfl⟩
  · show va_up t.2.1 a (fun _ => 0) (va_up ad M.1.length a i) j = aI M.2.1 i j ∧ va_up t.2.2.1 a (fun _ => 0) (va_up ad M.1.length a i) j = 0 ∧ va_up t.2.2.2 a (fun _ => none) (va_up ad M.1.length a i) j = (aR M.2.2 i j).map (va_up ad M.1.length a)
    rw [a_map_lt (fun q hq => h5 i j q hq) hlt]
    rcases hc i hi with hi | rfl
    · rw [hlt i hi, va_up_ne _ _ (hne i hi), va_up_ne _ _ (hne i hi), va_up_ne _ _ (hne i hi)]
      exact h4 i j hi
    · rw [hN, va_up_self, va_up_self, va_up_self, (h6 _ j (Nat.le_refl _)).1, (h6 _ j (Nat.le_refl _)).2]
      exact ⟨rfl, rfl, rfl⟩
  · show q < (M.1 ++ [(k, n)]).length
    rw [hl]
    exact Nat.lt_succ_of_lt (h5 i j q hq)
  · have hi : (M.1 ++ [(k, n)]).length ≤ i := hi
    rw [hl] at hi
    exact h6 i j (by omega)
theorem aRel.nwX {ad : Nat → Nat} {n a : Nat} : aX ad n (va_up ad n a) (n + 1) := ⟨Nat.le_succ _, fun _ hi => va_up_ne _ _ (Nat.ne_of_lt hi)⟩
/-- where the cells of new int[24][24] are -/
def a_mn (ad : Nat → Nat) (n q : Nat) (r : Nat → Nat) : Nat → Nat := fun i => if i < n then ad i else if i = n then q else r (i - n - 1)
theorem aRel.mn {ad : Nat → Nat} {M : aM} {t : gSt} {a : Nat} {r : Nat → Nat} (h : aRel ad M t) (ha : a ∉ t.1.1) (hr : ∀ i, i < 24 → r i ∉ t.1.1 ∧ r i ≠ a) (hri : ∀ i j, i < 24 → j < 24 → r i = r j → i = j) : aRel (a_mn ad M.1.length a r) (M.1 ++ (18, 24) :: List.replicate 24 (15, 24), M.2.1, (List.range 24).map (fun k => (M.1.length, k, M.1.length + 1 + k)) ++ M.2.2) (g_mn t a r) := by
  obtain ⟨h1, h2, h3, h4, h5, h6⟩ := h
  have hne : ∀ i, i < M.1.length → ad i ≠ a := fun i hi e => ha (e ▸ h1 i hi)
  have hnr : ∀ i, i < M.1.length → ∀ j, j < 24 → ad i ≠ r j := fun i hi j hj e => (hr j hj).1 (e ▸ h1 i hi)
  have hlt : ∀ i, i < M.1.length → a_mn ad M.1.length a r i = ad i := fun i hi => if_pos hi
  have hN : a_mn ad M.1.length a r M.1.length = a := by
    unfold a_mn
    rw [if_neg (Nat.lt_irrefl _), if_pos rfl]
  have hS : ∀ k, a_mn ad M.1.length a r (M.1.length + 1 + k) = r k := fun k => by
    unfold a_mn
    rw [if_neg (by omega), if_neg (by omega)]
    congr 1
    omega
  have hl : (M.1 ++ (18, 24) :: List.replicate 24 (15, 24)).length = M.1.length + 25 := by
    simp
  have hc : ∀ i, i < (M.1 ++ (18, 24) :: List.replicate 24 (15, 24)).length → i < M.1.length ∨ i = M.1.length ∨ ∃ k, k < 24 ∧ i = M.1.length + 1 + k := fun i hi => by
    rw [hl] at hi
    by_cases c1 : i < M.1.length
    · exact Or.inl c1
    · by_cases c2 : i = M.1.length
      · exact Or.inr (Or.inl c2)
      · exact Or.inr (Or.inr ⟨i - M.1.length - 1, by omega, by omega⟩)
  have hin : ∀ k, k < 24 → r k ∈ (List.range 24).map r := fun k hk => List.mem_map.mpr ⟨k, List.mem_range.mpr hk, rfl⟩
  have hno : ∀ i, i < M.1.length → ad i ∉ (List.range 24).map r := fun i hi hm => by
    obtain ⟨j, hj, e⟩ := List.mem_map.mp hm
    exact hnr i hi j (List.mem_range.mp hj) e.symm
  have hru0 : ∀ {α : Type} (f : Nat → α) (v : α) (x y : α) (i : Nat), i < M.1.length → va_up (g_ru f ((List.range 24).map r) v) a x (ad i) = f (ad i) := fun f v x _ i hi => by
    rw [va_up_ne _ _ (hne i hi)]
    exact if_neg (hno i hi)
  have hru1 : ∀ {α : Type} (f : Nat → α) (v : α) (x : α) (k : Nat), k < 24 → va_up (g_ru f ((List.range 24).map r) v) a x (r k) = v := fun f v x k hk => by
    rw [va_up_ne _ _ (hr k hk).2]
    exact if_pos (hin k hk)
  have hgs : ∀ k, k < 24 → (M.1 ++ (18, 24) :: List.replicate 24 (15, 24)).getD (M.1.length + 1 + k) (0, 0) = ((15, 24) : Nat × Nat) := fun k hk => by
    rw [List.getD_eq_getElem?_getD, List.getElem?_append_right (by omega), show M.1.length + 1 + k - M.1.length = k + 1 by omega, List.getElem?_cons_succ, List.getElem?_replicate, if_pos hk]
    rfl
  have hR : ∀ i j, aR ((List.range 24).map (fun k => (M.1.length, k, M.1.length + 1 + k)) ++ M.2.2) i j = if i = M.1.length ∧ j < 24 then some (M.1.length + 1 + j) else aR M.2.2 i j := fun i j => by
    rw [aR_app, aR_rng]
    by_cases c : i = M.1.length ∧ j < 24
    · rw [if_pos c, if_pos c]
      all_goals rfl
    · rw [if_neg c, if_neg c]
      all_goals rfl
  refine ⟨fun i hi => ?_, fun i j hi hj e => ?_, fun i hi => ?_, fun i j hi => ?_, fun i j q hq => ?_, fun i j hi => ?_⟩
  · show a_mn ad M.1.length a r i ∈ (t.1.1 ++ [a]) ++ (List.range 24).map r
    rcases hc i hi with hi | rfl | ⟨k, hk, rfl⟩
    · rw [hlt i hi]
      exact List.mem_append_left _ (List.mem_append_left _ (h1 i hi))
    · rw [hN]
      exact List.mem_append_left _ (List.mem_append_right _ List.mem_cons_self)
    · rw [hS]
      exact List.mem_append_right _ (hin k hk)
  · rcases hc i hi with hi | rfl | ⟨k, hk, rfl⟩
    · rcases hc j hj with hj | rfl | ⟨k2, hk2, rfl⟩
      · rw [hlt i hi, hlt j hj] at e
        exact h2 i j hi hj e
      · rw [hlt i hi, hN] at e
        exact absurd e (hne i hi)
      · rw [hlt i hi, hS] at e
        exact absurd e (hnr i hi k2 hk2)
    · rcases hc j hj with hj | rfl | ⟨k2, hk2, rfl⟩
      · rw [hlt j hj, hN] at e
        exact absurd e.symm (hne j hj)
      · rfl
      · rw [hN, hS] at e
        exact absurd e.symm (hr k2 hk2).2
    · rcases hc j hj with hj | rfl | ⟨k2, hk2, rfl⟩
      · rw [hlt j hj, hS] at e
        exact absurd e.symm (hnr j hj k hk)
      · rw [hN, hS] at e
        exact absurd e (hr k hk).2
      · rw [hS, hS] at e
        rw [hri k k2 hk hk2 e]
  · show va_up (g_ru t.1.2.1 ((List.range 24).map r) 15) a 18 (a_mn ad M.1.length a r i) = ((M.1 ++ (18, 24) :: List.replicate 24 (15, 24)).getD i (0, 0)).1 ∧ va_up (g_ru t.1.2.2 ((List.range 24).map r) 24) a 24 (a_mn ad M.1.length a r i) = ((M.1 ++ (18, 24) :: List.replicate 24 (15, 24)).getD i (0, 0)).2
    rcases hc i hi with hi | rfl | ⟨k, hk, rfl⟩
    · rw [hlt i hi, hru0 t.1.2.1 15 18 18 i hi, hru0 t.1.2.2 24 24 24 i hi, a_getD_l hi]
      exact h3 i hi
    · rw [hN, va_up_self, va_up_self, a_getD_n]
      exact ⟨rfl, rfl⟩
    · rw [hS, hru1 t.1.2.1 15 18 k hk, hru1 t.1.2.2 24 24 k hk, hgs k hk]
      exact ⟨rfl, rfl⟩
  · show va_up (g_ru t.2.1 ((List.range 24).map r) (fun _ => 0)) a (fun _ => 0) (a_mn ad M.1.length a r i) j = aI M.2.1 i j ∧ va_up (g_ru t.2.2.1 ((List.range 24).map r) (fun _ => 0)) a (fun _ => 0) (a_mn ad M.1.length a r i) j = 0 ∧ va_up (g_ru t.2.2.2 ((List.range 24).map r) (fun _ => none)) a (fun i => if i < 24 then some (r i) else none) (a_mn ad M.1.length a r i) j = (aR ((List.range 24).map (fun k => (M.1.length, k, M.1.length + 1 + k)) ++ M.2.2) i j).map (a_mn ad M.1.length a r)
    rw [hR]
    rcases hc i hi with hi | rfl | ⟨k, hk, rfl⟩
    · rw [hlt i hi, hru0 t.2.1 (fun _ => 0) (fun _ => 0) (fun _ => 0) i hi, hru0 t.2.2.1 (fun _ => 0) (fun _ => 0) (fun _ => 0) i hi, hru0 t.2.2.2 (fun _ => none) (fun i => if i < 24 then some (r i) else none) (fun _ => none) i hi, if_neg (fun z => absurd z.1 (Nat.ne_of_lt hi)), a_map_lt (fun q hq => h5 i j q hq) hlt]
      exact h4 i j hi
    · rw [hN, va_up_self, va_up_self, va_up_self, (h6 _ j (Nat.le_refl _)).1, (h6 _ j (Nat.le_refl _)).2]
      refine ⟨rfl, rfl, ?_⟩
      by_cases c : j < 24
      · rw [if_pos c, if_pos ⟨rfl, c⟩]
        exact congrArg some (hS j).symm
      · rw [if_neg c, if_neg (fun z => c z.2)]
        rfl
    · rw [hS, hru1 t.2.1 (fun _ => 0) (fun _ => 0) k hk, hru1 t.2.2.1 (fun _ => 0) (fun _ => 0) k hk, hru1 t.2.2.2 (fun _ => none) (fun i => if i < 24 then some (r i) else none) k hk, if_neg (fun z => absurd z.1 (by omega)), (h6 _ j (show M.1.length ≤ M.1.length + 1 + k by omega)).1, (h6 _ j (show M.1.length ≤ M.1.length + 1 + k by omega)).2]
      exact ⟨rfl, rfl, rfl⟩
  · have hq : aR ((List.range 24).map (fun k => (M.1.length, k, M.1.length + 1 + k)) ++ M.2.2) i j = some q := hq
    show q < (M.1 ++ (18, 24) :: List.replicate 24 (15, 24)).length
    rw [hl]
    rw [hR] at hq
    by_cases c : i = M.1.length ∧ j < 24
    · rw [if_pos c] at hq
      cases hq
      have := c.2
      omega
    · rw [if_neg c] at hq
      have := h5 i j q hq
      omega
  · have hi : (M.1 ++ (18, 24) :: List.replicate 24 (15, 24)).length ≤ i := hi
    rw [hl] at hi
    show aI M.2.1 i j = 0 ∧ aR ((List.range 24).map (fun k => (M.1.length, k, M.1.length + 1 + k)) ++ M.2.2) i j = none
    rw [hR, if_neg (fun z => absurd z.1 (by omega))]
    exact h6 i j (by omega)
theorem aRel.mnX {ad : Nat → Nat} {n a : Nat} {r : Nat → Nat} : aX ad n (a_mn ad n a r) (n + 25) := ⟨Nat.le_add_right _ _, fun _ hi => if_pos hi⟩
/-- a field is written -/
theorem aRel.si {ad : Nat → Nat} {M : aM} {t : gSt} {i j : Nat} {x : Int32} (h : aRel ad M t) (hi : i < M.1.length) : aRel ad (M.1, aPI M.2.1 i j x, M.2.2) (g_si t (ad i) j x) := by
  obtain ⟨h1, h2, h3, h4, h5, h6⟩ := h
  refine ⟨h1, h2, h3, fun a b ha => ⟨?_, (h4 a b ha).2⟩, h5, fun a b ha => ⟨?_, (h6 a b ha).2⟩⟩
  · show g_up t.2.1 (ad i) j x (ad a) b = aI (aPI M.2.1 i j x) a b
    rw [aPI_at]
    by_cases c : i = a
    · subst c
      by_cases c2 : j = b
      · subst c2
        rw [g_up_v, if_pos ⟨rfl, rfl⟩]
      · rw [g_up_j (fun z => c2 z.symm), if_neg (fun z => c2 z.2)]
        exact (h4 i b ha).1
    · rw [g_up_ne (fun z => c (h2 _ _ ha hi z).symm), if_neg (fun z => c z.1)]
      exact (h4 a b ha).1
  · show aI (aPI M.2.1 i j x) a b = 0
    have ha : M.1.length ≤ a := ha
    rw [aPI_at, if_neg (fun z => absurd z.1 (by omega))]
    exact (h6 a b ha).1
theorem aRel.sj {ad : Nat → Nat} {M : aM} {t : gSt} {i j : Nat} (h : aRel ad M t) (hi : i < M.1.length) : aRel ad M (g_sj t (ad i) j 0) := by
  obtain ⟨h1, h2, h3, h4, h5, h6⟩ := h
  refine ⟨h1, h2, h3, fun a b ha => ⟨(h4 a b ha).1, ?_, (h4 a b ha).2.2⟩, h5, h6⟩
  show g_up t.2.2.1 (ad i) j 0 (ad a) b = 0
  by_cases c : i = a
  · subst c
    by_cases c2 : j = b
    · subst c2
      rw [g_up_v]
    · rw [g_up_j (fun z => c2 z.symm)]
      exact (h4 i b ha).2.1
  · rw [g_up_ne (fun z => c (h2 _ _ ha hi z).symm)]
    exact (h4 a b ha).2.1
theorem aRel.sr {ad : Nat → Nat} {M : aM} {t : gSt} {i j k : Nat} (h : aRel ad M t) (hi : i < M.1.length) (hk : k < M.1.length) : aRel ad (M.1, M.2.1, (i, j, k) :: M.2.2) (g_sr t (ad i) j (some (ad k))) := by
  obtain ⟨h1, h2, h3, h4, h5, h6⟩ := h
  refine ⟨h1, h2, h3, fun a b ha => ⟨(h4 a b ha).1, (h4 a b ha).2.1, ?_⟩, fun a b q hq => ?_, fun a b ha => ⟨(h6 a b ha).1, ?_⟩⟩
  · show g_up t.2.2.2 (ad i) j (some (ad k)) (ad a) b = Option.map ad (if i = a ∧ j = b then some k else aR M.2.2 a b)
    by_cases c : i = a
    · subst c
      by_cases c2 : j = b
      · subst c2
        rw [g_up_v, if_pos ⟨rfl, rfl⟩]
        rfl
      · rw [g_up_j (fun z => c2 z.symm), if_neg (fun z => c2 z.2)]
        exact (h4 i b ha).2.2
    · rw [g_up_ne (fun z => c (h2 _ _ ha hi z).symm), if_neg (fun z => c z.1)]
      exact (h4 a b ha).2.2
  · have hq : (if i = a ∧ j = b then some k else aR M.2.2 a b) = some q := hq
    by_cases c : i = a ∧ j = b
    · rw [if_pos c] at hq
      cases hq
      exact hk
    · rw [if_neg c] at hq
      exact h5 a b q hq
  · have ha : M.1.length ≤ a := ha
    show (if i = a ∧ j = b then some k else aR M.2.2 a b) = none
    rw [if_neg (fun z => absurd z.1 (by omega))]
    exact (h6 a b ha).2
theorem aRel.sn {ad : Nat → Nat} {M : aM} {t : gSt} {i j : Nat} (h : aRel ad M t) (hi : i < M.1.length) (hn : aR M.2.2 i j = none) : aRel ad M (g_sr t (ad i) j none) := by
  obtain ⟨h1, h2, h3, h4, h5, h6⟩ := h
  refine ⟨h1, h2, h3, fun a b ha => ⟨(h4 a b ha).1, (h4 a b ha).2.1, ?_⟩, h5, h6⟩
  show g_up t.2.2.2 (ad i) j none (ad a) b = (aR M.2.2 a b).map ad
  by_cases c : i = a
  · subst c
    by_cases c2 : j = b
    · subst c2
      rw [g_up_v, hn]
      rfl
    · rw [g_up_j (fun z => c2 z.symm)]
      exact (h4 i b ha).2.2
  · rw [g_up_ne (fun z => c (h2 _ _ ha hi z).symm)]
    exact (h4 a b ha).2.2
