/-! THE MODEL'S NEW EXPRESSION, in row 48: nodes and arguments as lists -/
abbrev ND : Type := Int32 × Int32 × Int32 × Int32
def nK (L : List ND) (i : Nat) : Int32 := ((L[i]?).getD (0, 0, 0, 0)).1
def nA (L : List ND) (i : Nat) : Int32 := ((L[i]?).getD (0, 0, 0, 0)).2.1
def nBb (L : List ND) (i : Nat) : Int32 := ((L[i]?).getD (0, 0, 0, 0)).2.2.1
def nC (L : List ND) (i : Nat) : Int32 := ((L[i]?).getD (0, 0, 0, 0)).2.2.2
def aG (G : List Int32) (i : Nat) : Int32 := (G[i]?).getD 0
abbrev fmL (L : List ND) (G : List Int32) (F : Fo) (o : Nat) : Prop := fo_m (nK L) (nA L) (nBb L) (nC L) (aG G) G.length id F o
/-- where rows agree the expression is the same -/
theorem fo_k_cg {K A B C G K' A' B' C' G' : Nat → Int32} {N N' m : Nat} {k v : Int32} {rs : List Nat} (h : fo_k K A B C G N id m k v rs) (h1 : K' m = K m ∧ A' m = A m ∧ B' m = B m ∧ C' m = C m) (h2 : ∀ i, i < N → G' i = G i) (hN : N ≤ N') : fo_k K' A' B' C' G' N' id m k v rs := by
  obtain ⟨a1, a2, a3, a4⟩ := h
  obtain ⟨c1, c2, c3, c4⟩ := h1
  unfold fo_k
  simp only [id] at a1 a2 a3 a4 ⊢
  rw [c1, c2, c3, c4]
  refine ⟨a1, a2, fun c => ?_, a4⟩
  obtain ⟨b1, b2, q, b3, b4, b5⟩ := a3 c
  exact ⟨b1, b2, q, b3, by omega, fun i r hr => by
    have := (List.getElem?_eq_some_iff.mp hr).1
    rw [h2 (q + i) (by omega)]
    exact b5 i r hr⟩
theorem fo_m_cg {K A B C G K' A' B' C' G' : Nat → Int32} {N N' : Nat} (h2 : ∀ i, i < N → G' i = G i) (hN : N ≤ N') : ∀ (F : Fo) (o : Nat), fo_m K A B C G N id F o → (∀ m, o ≤ m → m < o + fo_n F → K' m = K m ∧ A' m = A m ∧ B' m = B m ∧ C' m = C m) → fo_m K' A' B' C' G' N' id F o
  | .leaf, _, _, _ => trivial
  | .inner z k v a b, o, h, h1 => by
    have en : fo_n (.inner z k v a b) = fo_n a + 1 + fo_n b := rfl
    exact ⟨fo_m_cg h2 hN a o h.1 (fun m m1 m2 => h1 m m1 (by omega)), fo_k_cg h.2.1 (h1 _ (by omega) (by omega)) h2 hN, fo_m_cg h2 hN b _ h.2.2 (fun m m1 m2 => h1 m (by omega) (by omega))⟩
theorem fmL_mo {L X : List ND} {G Y : List Int32} {F : Fo} {o : Nat} (h : fmL L G F o) (ho : o + fo_n F ≤ L.length) : fmL (L ++ X) (G ++ Y) F o := by
  refine fo_m_cg (fun i hi => ?_) (by rw [List.length_append]; omega) F o h (fun m m1 m2 => ?_)
  · unfold aG
    rw [List.getElem?_append_left hi]
  · unfold nK nA nBb nC
    rw [List.getElem?_append_left (by omega)]
    exact ⟨rfl, rfl, rfl, rfl⟩
/-- arguments that an expression's calls take -/
def fo_ac : Fo → Nat
  | .inner _ k _ a b => fo_ac a + (if k = 15 then fo_l a else 0) + fo_ac b
  | .leaf => 0
theorem fo_ac_le : ∀ F : Fo, fo_ac F + fo_l F ≤ fo_n F
  | .leaf => Nat.le_refl _
  | .inner _ k _ a b => by
    have h1 := fo_ac_le a
    have h2 := fo_ac_le b
    simp only [fo_ac, fo_l, fo_n]
    split <;> omega
def meP (c k : Nat) : Bool := (Nat.ble 151 c && Nat.ble c 155 && Nat.ble 62400 k) || ((Nat.beq c 148 || Nat.beq c 156) && Nat.beq k 48)
theorem meP_in {c k : Nat} (h : meP c k = true) : (151 ≤ c ∧ c ≤ 155 ∧ 62400 ≤ k) ∨ ((c = 148 ∨ c = 156) ∧ k = 48) := by
  unfold meP at h
  simp only [Bool.or_eq_true, Bool.and_eq_true, Nat.ble_eq, Nat.beq_eq] at h
  omega
theorem meP_r {c k : Nat} (h : ¬ ((151 ≤ c ∧ c ≤ 155 ∧ 62400 ≤ k) ∨ ((c = 148 ∨ c = 156) ∧ k = 48))) : meP c k = false := by
  cases e : meP c k with
  | false => rfl
  | true => exact absurd (meP_in e) h
theorem meP_t {c k : Nat} (h : (151 ≤ c ∧ c ≤ 155 ∧ 62400 ≤ k) ∨ ((c = 148 ∨ c = 156) ∧ k = 48)) : meP c k = true := by
  unfold meP
  simp only [Bool.or_eq_true, Bool.and_eq_true, Nat.ble_eq, Nat.beq_eq]
  omega
/-- row 48 holds the lists -/
def RE (ad : Nat → Nat) (L : List ND) (G : List Int32) (t : gSt) : Prop := t.2.1 (ad 148) 48 = nI L.length ∧ t.2.1 (ad 156) 48 = nI G.length ∧ (∀ i q, L[i]? = some q → t.2.1 (ad 151) (62400 + i) = q.1 ∧ t.2.1 (ad 152) (62400 + i) = q.2.1 ∧ t.2.1 (ad 153) (62400 + i) = q.2.2.1 ∧ t.2.1 (ad 154) (62400 + i) = q.2.2.2) ∧ ∀ i a, G[i]? = some a → t.2.1 (ad 155) (62400 + i) = a
section ME
variable {cx : gCx} {d : Nat} {ad : Nat → Nat} {t u : gSt} {post : Option Value → gSt → Prop} {L : List ND} {G : List Int32}
theorem RE.fr {P : Nat → Nat → Bool} (h : RE ad L G t) (hF : gFr ad P t u) (h1 : ∀ c k, 148 ≤ c → c ≤ 156 → P c k = false) : RE ad L G u := by
  obtain ⟨a1, a2, a3, a4⟩ := h
  refine ⟨by rw [hF.i 148 48 (h1 _ _ (by decide) (by decide))]; exact a1, by rw [hF.i 156 48 (h1 _ _ (by decide) (by decide))]; exact a2, fun i q hq => ?_, fun i a ha => by rw [hF.i 155 _ (h1 _ _ (by decide) (by decide))]; exact a4 i a ha⟩
  rw [hF.i 151 _ (h1 _ _ (by decide) (by decide)), hF.i 152 _ (h1 _ _ (by decide) (by decide)), hF.i 153 _ (h1 _ _ (by decide) (by decide)), hF.i 154 _ (h1 _ _ (by decide) (by decide))]
  exact a3 i q hq
theorem m_enode {k a b c : Int32} (hL : Lay t ad) (hE : RE ad L G t) (hl : L.length < 1300) (h : ∀ u, gFr ad meP t u → RE ad (L ++ [(k, a, b, c)]) G u → post (some (.int (nI L.length))) u) : g_E cx (d + 1) i_Mo_node [.ref (ad 144), .int 48, .int k, .int a, .int b, .int c] t post := by
  obtain ⟨a1, a2, a3, a4⟩ := hE
  have hv : vp_in 48 72 := vp_in_nI (n := 48) (by decide) (by decide)
  have e48 : ((48 : Int32)).toNatClampNeg = 48 := by decide
  have ix : (1300 : Int32) * 48 + nI L.length = nI (62400 + L.length) := by rw [show (1300 : Int32) * 48 = nI 62400 by decide, nI_add]
  refine x_Mo_node hL ?_
  rw [e48, a1]
  refine ⟨hv, fun x1 e1 => ⟨hv, hv, fun t2 e2 => ?_⟩⟩
  subst e1
  rw [nI_1] at e2
  rw [show (1300 : Int32) = nI 1300 from rfl, nI_leI (by omega) (by omega), ← show (1300 : Int32) = nI 1300 from rfl, ix]
  have hvi : vp_in (nI (62400 + L.length)) 93600 := vp_in_nI (by omega) (by omega)
  refine ⟨fun z => absurd z (by omega), fun _ => ⟨hvi, fun t3 e3 => ⟨hvi, fun t4 e4 => ⟨hvi, fun t5 e5 => ⟨hvi, fun t6 e6 => ?_⟩⟩⟩⟩⟩
  rw [nI_clamp (by omega)] at e3 e4 e5 e6
  have F6 : gFr ad meP t t6 := by
    rw [e6, e5, e4, e3, e2]
    exact (((((gFr.rf hL).si (meP_t (by omega))).si (meP_t (by omega))).si (meP_t (by omega))).si (meP_t (by omega))).si (meP_t (by omega))
  have rd : ∀ c' j, c' < 199 → t6.2.1 (ad c') j = if c' = 154 ∧ j = 62400 + L.length then c else if c' = 153 ∧ j = 62400 + L.length then b else if c' = 152 ∧ j = 62400 + L.length then a else if c' = 151 ∧ j = 62400 + L.length then k else if c' = 148 ∧ j = 48 then nI (L.length + 1) else t.2.1 (ad c') j := by
    intro c' j hc'
    have g : ∀ (w : gSt) (c2 k2 : Nat) (x : Int32), c2 < 199 → (g_si w (ad c2) k2 x).2.1 (ad c') j = if c' = c2 ∧ j = k2 then x else w.2.1 (ad c') j := fun w c2 k2 x hc2 => by
      by_cases z1 : c' = c2
      · subst z1
        by_cases z2 : j = k2
        · subst z2; rw [if_pos ⟨rfl, rfl⟩, g_rd_at]
        · rw [if_neg (fun q => z2 q.2), g_rd_k z2]
      · rw [if_neg (fun q => z1 q.1), g_rd_ne (hL.ne c' c2 hc' hc2 z1)]
    rw [e6, g _ _ _ _ (by decide), e5, g _ _ _ _ (by decide), e4, g _ _ _ _ (by decide), e3, g _ _ _ _ (by decide), e2, g _ _ _ _ (by decide)]
  refine h t6 F6 ⟨?_, ?_, fun i q hq => ?_, fun i x hx => ?_⟩
  · rw [rd 148 48 (by decide), if_neg (fun z => absurd z.1 (by decide)), if_neg (fun z => absurd z.1 (by decide)), if_neg (fun z => absurd z.1 (by decide)), if_neg (fun z => absurd z.1 (by decide)), if_pos ⟨rfl, rfl⟩, List.length_append]
    rfl
  · rw [rd 156 48 (by decide), if_neg (fun z => absurd z.1 (by decide)), if_neg (fun z => absurd z.1 (by decide)), if_neg (fun z => absurd z.1 (by decide)), if_neg (fun z => absurd z.1 (by decide)), if_neg (fun z => absurd z.1 (by decide))]
    exact a2
  · rw [rd 151 _ (by decide), rd 152 _ (by decide), rd 153 _ (by decide), rd 154 _ (by decide)]
    by_cases hi : i < L.length
    · rw [List.getElem?_append_left hi] at hq
      have ne : ¬ 62400 + i = 62400 + L.length := by omega
      simp only [ne, and_false, if_false, show ¬ (151 : Nat) = 148 by decide, show ¬ (152 : Nat) = 148 by decide, show ¬ (153 : Nat) = 148 by decide, show ¬ (154 : Nat) = 148 by decide, false_and]
      exact a3 i q hq
    · rw [List.getElem?_append_right (by omega)] at hq
      have hi0 : i - L.length = 0 := by
        by_cases z : i - L.length = 0
        · exact z
        · rw [List.getElem?_eq_none (by simp; omega)] at hq; cases hq
      rw [hi0] at hq
      have hq : q = (k, a, b, c) := by simpa using hq.symm
      have hi1 : i = L.length := by omega
      subst hq hi1
      simp
  · rw [rd 155 _ (by decide), if_neg (fun z => absurd z.1 (by decide)), if_neg (fun z => absurd z.1 (by decide)), if_neg (fun z => absurd z.1 (by decide)), if_neg (fun z => absurd z.1 (by decide)), if_neg (fun z => absurd z.1 (by decide))]
    exact a4 i x hx
theorem m_earg {a : Int32} (hL : Lay t ad) (hE : RE ad L G t) (hl : G.length < 1300) (h : ∀ u, gFr ad meP t u → RE ad L (G ++ [a]) u → post (some (.int (nI G.length))) u) : g_E cx (d + 1) i_Mo_addArgument [.ref (ad 144), .int 48, .int a] t post := by
  obtain ⟨a1, a2, a3, a4⟩ := hE
  have hv : vp_in 48 72 := vp_in_nI (n := 48) (by decide) (by decide)
  have e48 : ((48 : Int32)).toNatClampNeg = 48 := by decide
  have ix : (1300 : Int32) * 48 + nI G.length = nI (62400 + G.length) := by rw [show (1300 : Int32) * 48 = nI 62400 by decide, nI_add]
  refine x_Mo_addArgument hL ?_
  rw [e48, a2, show (1300 : Int32) = nI 1300 from rfl, nI_leI (by omega) (by omega), ← show (1300 : Int32) = nI 1300 from rfl, ix]
  refine ⟨hv, fun z => absurd z (by omega), fun _ => ⟨hv, vp_in_nI (by omega) (by omega), fun t2 e2 => ?_⟩⟩
  rw [nI_clamp (by omega)] at e2
  have n2 : ∀ c k, c ≠ 155 → c < 199 → t2.2.1 (ad c) k = t.2.1 (ad c) k := fun c k hc hl => by rw [e2, g_rd_ne (hL.ne c 155 hl (by decide) hc)]
  rw [n2 156 48 (by decide) (by decide), a2, nI_1]
  refine ⟨hv, hv, fun t3 e3 => ⟨hv, ?_⟩⟩
  have n3 : ∀ c k, c ≠ 155 → c ≠ 156 → c < 199 → t3.2.1 (ad c) k = t.2.1 (ad c) k := fun c k h1 h2 hl => by rw [e3, g_rd_ne (hL.ne c 156 hl (by decide) h2), n2 c k h1 hl]
  have k156 : t3.2.1 (ad 156) 48 = nI (G.length + 1) := by rw [e3, g_rd_at]
  rw [k156, nI_pred]
  refine h t3 (by rw [e3, e2]; exact ((gFr.rf hL).si (meP_t (by omega))).si (meP_t (by omega))) ⟨by rw [n3 148 48 (by decide) (by decide) (by decide)]; exact a1, by rw [k156, List.length_append]; rfl, fun i q hq => ?_, fun i x hx => ?_⟩
  · rw [n3 151 _ (by decide) (by decide) (by decide), n3 152 _ (by decide) (by decide) (by decide), n3 153 _ (by decide) (by decide) (by decide), n3 154 _ (by decide) (by decide) (by decide)]
    exact a3 i q hq
  · rw [e3, g_rd_ne (hL.ne 155 156 (by decide) (by decide) (by decide)), e2]
    by_cases hi : i < G.length
    · rw [List.getElem?_append_left hi] at hx
      rw [g_rd_k (by omega)]
      exact a4 i x hx
    · rw [List.getElem?_append_right (by omega)] at hx
      have hi0 : i - G.length = 0 := by
        by_cases z : i - G.length = 0
        · exact z
        · rw [List.getElem?_eq_none (by simp; omega)] at hx; cases hx
      rw [hi0] at hx
      have hx : x = a := by simpa using hx.symm
      have hi1 : i = G.length := by omega
      subst hx hi1
      exact g_rd_at
end ME
