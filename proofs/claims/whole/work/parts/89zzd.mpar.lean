/-! THE MODEL READS AN EXPRESSION: what its rows hold meanwhile -/
/-- the values of calls are others -/
def fo_mv (g : Int32 → Int32) : Fo → Fo
  | .inner z k v a b => .inner z k (if k = 15 then g v else v) (fo_mv g a) (fo_mv g b)
  | .leaf => .leaf
/-- call nodes have their numbers in a row -/
def fo_cno (Nd : Nat → Int32) : Fo → Nat → Prop
  | .inner _ k v a b, o => fo_cno Nd a o ∧ (k = 15 → Nd v.toNatClampNeg = nI (o + fo_n a)) ∧ fo_cno Nd b (o + fo_n a + 1)
  | .leaf, _ => True
section FM
variable {g : Int32 → Int32}
theorem fo_n_mv : ∀ F : Fo, fo_n (fo_mv g F) = fo_n F
  | .inner _ _ _ a b => by simp only [fo_mv, fo_n, fo_n_mv a, fo_n_mv b]
  | .leaf => rfl
theorem fo_l_mv : ∀ F : Fo, fo_l (fo_mv g F) = fo_l F
  | .inner _ _ _ a b => by simp only [fo_mv, fo_l, fo_l_mv b]
  | .leaf => rfl
theorem fo_r_mv : ∀ (F : Fo) (o : Nat), fo_r (fo_mv g F) o = fo_r F o
  | .inner _ _ _ a b, o => by simp only [fo_mv, fo_r, fo_n_mv a, fo_r_mv b]
  | .leaf, _ => rfl
theorem fo_mv_ap : ∀ A B : Fo, fo_mv g (fo_ap A B) = fo_ap (fo_mv g A) (fo_mv g B)
  | .inner _ _ _ a r, B => by simp only [fo_mv, fo_ap, fo_mv_ap r B]
  | .leaf, B => rfl
end FM
theorem fo_ac_ap : ∀ A B : Fo, fo_ac (fo_ap A B) = fo_ac A + fo_ac B
  | .inner _ k _ a r, B => by
    have := fo_ac_ap r B
    simp only [fo_ap, fo_ac]
    omega
  | .leaf, B => by simp [fo_ap, fo_ac]
theorem fo_ap_leaf : ∀ A : Fo, fo_ap A .leaf = A
  | .inner z k v a r => by simp only [fo_ap, fo_ap_leaf r]
  | .leaf => rfl
theorem fo_ap_as : ∀ A B C : Fo, fo_ap (fo_ap A B) C = fo_ap A (fo_ap B C)
  | .inner z k v a r, B, C => by simp only [fo_ap, fo_ap_as r B C]
  | .leaf, B, C => rfl
theorem fo_m_ap {K A B C G : Nat → Int32} {N : Nat} {ix : Nat → Nat} : ∀ (X Y : Fo) (o : Nat), fo_m K A B C G N ix (fo_ap X Y) o ↔ fo_m K A B C G N ix X o ∧ fo_m K A B C G N ix Y (o + fo_n X)
  | .inner z k v a r, Y, o => by
    simp only [fo_ap, fo_m, fo_n]
    rw [fo_m_ap r Y, show o + fo_n a + 1 + fo_n r = o + (fo_n a + 1 + fo_n r) by omega]
    exact ⟨fun h => ⟨⟨h.1, h.2.1, h.2.2.1⟩, h.2.2.2⟩, fun h => ⟨h.1.1, h.1.2.1, h.1.2.2, h.2⟩⟩
  | .leaf, Y, o => by simp [fo_ap, fo_m, fo_n]
theorem fo_cno_ap {Nd : Nat → Int32} : ∀ (X Y : Fo) (o : Nat), fo_cno Nd (fo_ap X Y) o ↔ fo_cno Nd X o ∧ fo_cno Nd Y (o + fo_n X)
  | .inner z k v a r, Y, o => by
    simp only [fo_ap, fo_cno, fo_n]
    rw [fo_cno_ap r Y, show o + fo_n a + 1 + fo_n r = o + (fo_n a + 1 + fo_n r) by omega]
    exact ⟨fun h => ⟨⟨h.1, h.2.1, h.2.2.1⟩, h.2.2.2⟩, fun h => ⟨h.1.1, h.1.2.1, h.1.2.2, h.2⟩⟩
  | .leaf, Y, o => by simp [fo_ap, fo_cno, fo_n]
/-- where the rows of numbers agree on the forest's calls -/
theorem fo_cno_cg {Nd Nd' : Nat → Int32} : ∀ (F : Fo) (o : Nat), fo_cno Nd F o → (∀ q ∈ fo_p F, q.1 = 15 → Nd' q.2.toNatClampNeg = Nd q.2.toNatClampNeg) → fo_cno Nd' F o
  | .inner z k v a b, o, h, hq => ⟨fo_cno_cg a o h.1 (fun q m => hq q (by unfold fo_p; exact List.mem_cons_of_mem _ (List.mem_append_left _ m))), fun e => by
      rw [hq (k, v) (by unfold fo_p; exact List.mem_cons_self) e]
      exact h.2.1 e, fo_cno_cg b _ h.2.2 (fun q m => hq q (by unfold fo_p; exact List.mem_cons_of_mem _ (List.mem_append_right _ m)))⟩
  | .leaf, _, _, _ => trivial
abbrev AT : Type := List (Nat × Nat × List Nat)
abbrev SC : Type := List (List Nat × Nat)
abbrev CL : Type := List (List Nat × Nat × Nat)
def tkm (q : Nat × Nat × List Nat) : Int32 × Int32 × Int32 := (nI q.1, nI q.2.1, 0)
/-- fields, scopes, calls -/
def MS (ad : Nat → Nat) (x Pm l o : Nat) (sc : SC) (cl : CL) (ac : Nat → Nat) (t : gSt) : Prop :=
  t.2.1 (ad 144) 23 = nI x ∧ t.2.1 (ad 144) 45 = nI Pm ∧ t.2.1 (ad 144) 25 = nI l ∧ t.2.1 (ad 144) 24 = nI o ∧
  (t.2.1 (ad 144) 28 = nI sc.length ∧ ∀ i q, sc[i]? = some q → t.2.2.1 (ad 157) i = pk6 q.1 ∧ t.2.1 (ad 158) i = nI q.2) ∧
  (t.2.1 (ad 144) 35 = nI cl.length ∧ ∀ i q, cl[i]? = some q → t.2.2.1 (ad 163) i = pk6 q.1 ∧ t.2.1 (ad 164) i = nI q.2.1 ∧ t.2.1 (ad 165) i = nI (ac i) ∧ t.2.1 (ad 167) i = nI q.2.2)
/-- tasks; names of lets that wait -/
def MT (ad : Nat → Nat) (Pm l : Nat) (K : AT) (t : gSt) : Prop := RT ad (K.map tkm) t ∧ ∀ q ∈ K, q.1 = 2 → q.2.1 < Pm + l ∧ q.2.1 < 50 ∧ t.2.2.1 (ad 168) q.2.1 = pk6 q.2.2
abbrev mro (t : gSt) (ad : Nat → Nat) (c x : Nat) : Nat → Int32 := fun i => t.2.1 (ad c) (1300 * x + i)
/-- values and nodes -/
def MV (ad : Nat → Nat) (x : Nat) (V : Fo) (t : gSt) : Prop :=
  t.2.1 (ad 144) 33 = nI (fo_l V) ∧ (∀ i r, (fo_r V 0)[i]? = some r → t.2.1 (ad 162) i = nI r) ∧ t.2.1 (ad 148) x = nI (fo_n V) ∧ t.2.1 (ad 156) x = nI (fo_ac V) ∧
  (fo_n V ≤ 400 → fo_m (mro t ad 151 x) (mro t ad 152 x) (mro t ad 153 x) (mro t ad 154 x) (mro t ad 155 x) (fo_ac V) id (fo_mv (fun _ => 0) V) 0 ∧ fo_cno (fun i => t.2.1 (ad 166) i) V 0)
/-- all that reading an expression may change -/
def mxP (x c k : Nat) : Bool := (Nat.beq c 144 && ((Nat.ble 3 k && Nat.ble k 10) || (Nat.ble 24 k && Nat.ble k 35) || Nat.beq k 41)) || (Nat.ble 157 c && Nat.ble c 168) || ((Nat.beq c 148 || Nat.beq c 156) && Nat.beq k x) || (Nat.ble 151 c && Nat.ble c 155 && Nat.ble (1300 * x) k && Nat.blt k (1300 * x + 1300))
theorem mxP_i {x c k : Nat} : mxP x c k = true ↔ (c = 144 ∧ ((3 ≤ k ∧ k ≤ 10) ∨ (24 ≤ k ∧ k ≤ 35) ∨ k = 41)) ∨ (157 ≤ c ∧ c ≤ 168) ∨ ((c = 148 ∨ c = 156) ∧ k = x) ∨ (151 ≤ c ∧ c ≤ 155 ∧ 1300 * x ≤ k ∧ k < 1300 * x + 1300) := by
  unfold mxP
  simp only [Bool.or_eq_true, Bool.and_eq_true, Nat.beq_eq, Nat.ble_eq, Nat.blt_eq]
  omega
theorem bool_r {b : Bool} {p : Prop} (h : b = true ↔ p) (n : ¬ p) : b = false := Bool.eq_false_iff.mpr (fun q => n (h.mp q))
theorem tmP_i {c k : Nat} : tmP c k = true ↔ c = 144 ∧ 3 ≤ k ∧ k ≤ 10 := by
  unfold tmP
  simp only [Bool.and_eq_true, Nat.beq_eq, Nat.ble_eq]
theorem tkP_i {c k : Nat} : tkP c k = true ↔ (159 ≤ c ∧ c ≤ 161) ∨ (c = 144 ∧ k = 29) := by
  unfold tkP
  simp only [Bool.or_eq_true, Bool.and_eq_true, Nat.beq_eq, Nat.ble_eq]
/-- what a node and a value change -/
def mvvP (x c k : Nat) : Bool := (Nat.beq c 144 && Nat.beq k 33) || Nat.beq c 162 || ((Nat.beq c 148 || Nat.beq c 156) && Nat.beq k x) || (Nat.ble 151 c && Nat.ble c 155 && Nat.ble (1300 * x) k && Nat.blt k (1300 * x + 1300))
theorem mvvP_i {x c k : Nat} : mvvP x c k = true ↔ (c = 144 ∧ k = 33) ∨ c = 162 ∨ ((c = 148 ∨ c = 156) ∧ k = x) ∨ (151 ≤ c ∧ c ≤ 155 ∧ 1300 * x ≤ k ∧ k < 1300 * x + 1300) := by
  unfold mvvP
  simp only [Bool.or_eq_true, Bool.and_eq_true, Nat.beq_eq, Nat.ble_eq, Nat.blt_eq]
  omega
section MX
variable {ad : Nat → Nat} {T : Nat → Nat} {n a x Pm l o : Nat} {sc : SC} {cl : CL} {ac : Nat → Nat} {V : Fo} {K : AT} {t u : gSt} {P : Nat → Nat → Bool}
theorem MS.fr (h : MS ad x Pm l o sc cl ac t) (hF : gFr ad P t u) (hP : ∀ c k, (c = 144 ∧ (k = 23 ∨ k = 45 ∨ k = 25 ∨ k = 24 ∨ k = 28 ∨ k = 35)) ∨ c = 157 ∨ c = 158 ∨ (163 ≤ c ∧ c ≤ 165) ∨ c = 167 → P c k = false) : MS ad x Pm l o sc cl ac u := by
  obtain ⟨h1, h2, h3, h4, ⟨h5, h6⟩, h7, h8⟩ := h
  refine ⟨?_, ?_, ?_, ?_, ⟨?_, fun i q hq => ?_⟩, ?_, fun i q hq => ?_⟩
  · rw [hF.i 144 23 (hP _ _ (by omega))]; exact h1
  · rw [hF.i 144 45 (hP _ _ (by omega))]; exact h2
  · rw [hF.i 144 25 (hP _ _ (by omega))]; exact h3
  · rw [hF.i 144 24 (hP _ _ (by omega))]; exact h4
  · rw [hF.i 144 28 (hP _ _ (by omega))]; exact h5
  · rw [hF.j 157 i (hP _ _ (by omega)), hF.i 158 i (hP _ _ (by omega))]; exact h6 i q hq
  · rw [hF.i 144 35 (hP _ _ (by omega))]; exact h7
  · rw [hF.j 163 i (hP _ _ (by omega)), hF.i 164 i (hP _ _ (by omega)), hF.i 165 i (hP _ _ (by omega)), hF.i 167 i (hP _ _ (by omega))]; exact h8 i q hq
theorem MT.fr (h : MT ad Pm l K t) (hF : gFr ad P t u) (hP : ∀ c k, (c = 144 ∧ k = 29) ∨ (159 ≤ c ∧ c ≤ 161) ∨ c = 168 → P c k = false) : MT ad Pm l K u :=
  ⟨h.1.fr hF (hP _ _ (by omega)) (fun k => hP _ _ (by omega)) (fun k => hP _ _ (by omega)) (fun k => hP _ _ (by omega)), fun q hq e => by
    rw [hF.j 168 _ (hP _ _ (by omega))]
    exact h.2 q hq e⟩
theorem MV.fr (h : MV ad x V t) (hF : gFr ad P t u) (hP : ∀ c k, (c = 144 ∧ k = 33) ∨ c = 162 ∨ c = 166 ∨ ((c = 148 ∨ c = 156) ∧ k = x) ∨ (151 ≤ c ∧ c ≤ 155 ∧ 1300 * x ≤ k ∧ k < 1300 * x + 1300) → P c k = false) : MV ad x V u := by
  obtain ⟨h1, h2, h3, h4, h5⟩ := h
  refine ⟨?_, fun i r hr => ?_, ?_, ?_, fun hn => ⟨?_, ?_⟩⟩
  · rw [hF.i 144 33 (hP _ _ (by omega))]; exact h1
  · rw [hF.i 162 i (hP _ _ (by omega))]; exact h2 i r hr
  · rw [hF.i 148 x (hP _ _ (by omega))]; exact h3
  · rw [hF.i 156 x (hP _ _ (by omega))]; exact h4
  · have hac := fo_ac_le V
    refine fo_m_cg (fun i hi => ?_) (Nat.le_refl _) _ 0 (h5 hn).1 (fun m m1 m2 => ?_)
    · exact hF.i 155 _ (hP _ _ (by omega))
    · rw [fo_n_mv] at m2
      exact ⟨hF.i 151 _ (hP _ _ (by omega)), hF.i 152 _ (hP _ _ (by omega)), hF.i 153 _ (hP _ _ (by omega)), hF.i 154 _ (hP _ _ (by omega))⟩
  · refine fo_cno_cg V 0 (h5 hn).2 (fun q _ _ => hF.i 166 _ (hP _ _ (by omega)))
theorem cuM.fr (h : cuM ad T n a t) (hF : gFr ad P t u) (hP : ∀ k, 3 ≤ k → k ≤ 10 → P 144 k = false) (h33 : P 144 33 = false := by rfl) : cuM ad T n a u := by
  have hv := h.1.2.2.fr hF h33
  have e : ∀ k, 3 ≤ k → k ≤ 10 → u.2.1 (ad 144) k = t.2.1 (ad 144) k := fun k h1 h2 => hF.i 144 k (hP k h1 h2)
  have ej : ∀ k, 3 ≤ k → k ≤ 10 → u.2.2.1 (ad 144) k = t.2.2.1 (ad 144) k := fun k h1 h2 => hF.j 144 k (hP k h1 h2)
  unfold cuM lvM hdM at h ⊢
  rw [e 3 (by decide) (by decide), e 4 (by decide) (by decide), e 5 (by decide) (by decide), e 6 (by decide) (by decide), e 7 (by decide) (by decide), e 8 (by decide) (by decide), ej 9 (by decide) (by decide), ej 10 (by decide) (by decide)]
  exact ⟨⟨h.1.1, h.1.2.1, hv⟩, h.2⟩
theorem hcM.fr (h : hcM ad T n a t) (hF : gFr ad P t u) (hP : ∀ k, 3 ≤ k → k ≤ 10 → P 144 k = false) (h33 : P 144 33 = false := by rfl) : hcM ad T n a u := by
  have hv := h.1.2.2.fr hF h33
  have e : ∀ k, 3 ≤ k → k ≤ 10 → u.2.1 (ad 144) k = t.2.1 (ad 144) k := fun k h1 h2 => hF.i 144 k (hP k h1 h2)
  have ej : ∀ k, 3 ≤ k → k ≤ 10 → u.2.2.1 (ad 144) k = t.2.2.1 (ad 144) k := fun k h1 h2 => hF.j 144 k (hP k h1 h2)
  unfold hcM lvM hdM at h ⊢
  rw [e 3 (by decide) (by decide), e 4 (by decide) (by decide), e 5 (by decide) (by decide), e 6 (by decide) (by decide), e 7 (by decide) (by decide), e 8 (by decide) (by decide), ej 9 (by decide) (by decide), ej 10 (by decide) (by decide)]
  exact ⟨⟨h.1.1, h.1.2.1, hv⟩, h.2⟩
/-- the whole state -/
def MP (ad : Nat → Nat) (T : Nat → Nat) (n x Pm c0 : Nat) (t0 : gSt) (a l o : Nat) (sc : SC) (cl : CL) (ac : Nat → Nat) (V : Fo) (K : AT) (t : gSt) : Prop :=
  gFr ad (mxP x) t0 t ∧ txM ad T n t0 ∧ (∀ i, i < c0 → t.2.1 (ad 166) i = t0.2.1 (ad 166) i) ∧ cuM ad T n a t ∧ MS ad x Pm l o sc cl ac t ∧ MV ad x V t ∧ MT ad Pm l K t
end MX
