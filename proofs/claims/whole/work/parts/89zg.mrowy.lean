/-! THE MODEL: nodes and arguments in any row y -/
def meY (y c k : Nat) : Bool := (Nat.ble 151 c && Nat.ble c 155 && (Nat.ble (1300 * y) k && Nat.ble k (1300 * y + 1299))) || ((Nat.beq c 148 || Nat.beq c 156) && Nat.beq k y)
theorem meY_in {y c k : Nat} (h : meY y c k = true) : (151 ≤ c ∧ c ≤ 155 ∧ 1300 * y ≤ k ∧ k ≤ 1300 * y + 1299) ∨ ((c = 148 ∨ c = 156) ∧ k = y) := by
  unfold meY at h
  simp only [Bool.or_eq_true, Bool.and_eq_true, Nat.ble_eq, Nat.beq_eq] at h
  omega
theorem meY_r {y c k : Nat} (h : ¬ ((151 ≤ c ∧ c ≤ 155 ∧ 1300 * y ≤ k ∧ k ≤ 1300 * y + 1299) ∨ ((c = 148 ∨ c = 156) ∧ k = y))) : meY y c k = false := by
  cases e : meY y c k with
  | false => rfl
  | true => exact absurd (meY_in e) h
theorem meY_t {y c k : Nat} (h : (151 ≤ c ∧ c ≤ 155 ∧ 1300 * y ≤ k ∧ k ≤ 1300 * y + 1299) ∨ ((c = 148 ∨ c = 156) ∧ k = y)) : meY y c k = true := by
  unfold meY
  simp only [Bool.or_eq_true, Bool.and_eq_true, Nat.ble_eq, Nat.beq_eq]
  omega
def REy (ad : Nat → Nat) (y : Nat) (L : List ND) (G : List Int32) (t : gSt) : Prop := t.2.1 (ad 148) y = nI L.length ∧ t.2.1 (ad 156) y = nI G.length ∧ (∀ i q, L[i]? = some q → t.2.1 (ad 151) (1300 * y + i) = q.1 ∧ t.2.1 (ad 152) (1300 * y + i) = q.2.1 ∧ t.2.1 (ad 153) (1300 * y + i) = q.2.2.1 ∧ t.2.1 (ad 154) (1300 * y + i) = q.2.2.2) ∧ ∀ i a, G[i]? = some a → t.2.1 (ad 155) (1300 * y + i) = a
section MEY
variable {cx : gCx} {d : Nat} {ad : Nat → Nat} {t u : gSt} {post : Option Value → gSt → Prop} {L : List ND} {G : List Int32} {y : Nat}
theorem m_enodeY {k a b c : Int32} (hy : y < 72) (hL : Lay t ad) (hE : REy ad y L G t) (hl : L.length < 1300) (h : ∀ u, gFr ad (meY y) t u → REy ad y (L ++ [(k, a, b, c)]) G u → post (some (.int (nI L.length))) u) : g_E cx (d + 1) i_Mo_node [.ref (ad 144), .int (nI y), .int k, .int a, .int b, .int c] t post := by
  obtain ⟨a1, a2, a3, a4⟩ := hE
  have hv : vp_in (nI y) 72 := vp_in_nI hy (by omega)
  have e48 : (nI y).toNatClampNeg = y := nI_clamp (by omega)
  have ix : (1300 : Int32) * nI y + nI L.length = nI (1300 * y + L.length) := ix13 ..
  refine x_Mo_node hL ?_
  rw [e48, a1]
  refine ⟨hv, fun x1 e1 => ⟨hv, hv, fun t2 e2 => ?_⟩⟩
  subst e1
  rw [nI_1] at e2
  rw [show (1300 : Int32) = nI 1300 from rfl, nI_leI (by omega) (by omega), ← show (1300 : Int32) = nI 1300 from rfl, ix]
  have hvi : vp_in (nI (1300 * y + L.length)) 93600 := vp_in_nI (by omega) (by omega)
  refine ⟨fun z => absurd z (by omega), fun _ => ⟨hvi, fun t3 e3 => ⟨hvi, fun t4 e4 => ⟨hvi, fun t5 e5 => ⟨hvi, fun t6 e6 => ?_⟩⟩⟩⟩⟩
  rw [nI_clamp (by omega)] at e3 e4 e5 e6
  have F6 : gFr ad (meY y) t t6 := by
    rw [e6, e5, e4, e3, e2]
    exact (((((gFr.rf hL).si (meY_t (by omega))).si (meY_t (by omega))).si (meY_t (by omega))).si (meY_t (by omega))).si (meY_t (by omega))
  have rd : ∀ c' j, c' < 199 → t6.2.1 (ad c') j = if c' = 154 ∧ j = 1300 * y + L.length then c else if c' = 153 ∧ j = 1300 * y + L.length then b else if c' = 152 ∧ j = 1300 * y + L.length then a else if c' = 151 ∧ j = 1300 * y + L.length then k else if c' = 148 ∧ j = y then nI (L.length + 1) else t.2.1 (ad c') j := by
    intro c' j hc'
    have g : ∀ (w : gSt) (c2 k2 : Nat) (x : Int32), c2 < 199 → (g_si w (ad c2) k2 x).2.1 (ad c') j = if c' = c2 ∧ j = k2 then x else w.2.1 (ad c') j := fun w c2 k2 x hc2 => by
      by_cases z1 : c' = c2
      · subst z1
        by_cases z2 : j = k2
        · subst z2; rw [if_pos ⟨rfl, rfl⟩, g_rd_at]
        · rw [if_neg (fun q => z2 q.2), g_rd_k z2]
      · rw [if_neg (fun q => z1 q.1), g_rd_ne (hL.ne c' c2 hc' hc2 z1)]
    rw [e6, g _ _ _ _ (by decide), e5, g _ _ _ _ (by decide), e4, g _ _ _ _ (by decide), e3, g _ _ _ _ (by decide), e2, g _ _ _ _ (by decide)]
  refine h t6 F6 ⟨?_, ?_, fun i q hq => ?_, fun i x hx => ?_⟩
  · rw [rd 148 y (by decide), if_neg (fun z => absurd z.1 (by decide)), if_neg (fun z => absurd z.1 (by decide)), if_neg (fun z => absurd z.1 (by decide)), if_neg (fun z => absurd z.1 (by decide)), if_pos ⟨rfl, rfl⟩, List.length_append]
    rfl
  · rw [rd 156 y (by decide), if_neg (fun z => absurd z.1 (by decide)), if_neg (fun z => absurd z.1 (by decide)), if_neg (fun z => absurd z.1 (by decide)), if_neg (fun z => absurd z.1 (by decide)), if_neg (fun z => absurd z.1 (by decide))]
    exact a2
  · rw [rd 151 _ (by decide), rd 152 _ (by decide), rd 153 _ (by decide), rd 154 _ (by decide)]
    by_cases hi : i < L.length
    · rw [List.getElem?_append_left hi] at hq
      have ne : ¬ 1300 * y + i = 1300 * y + L.length := by omega
      simp only [ne, and_false, if_false, show ¬ (151 : Nat) = 148 by decide, show ¬ (152 : Nat) = 148 by decide, show ¬ (153 : Nat) = 148 by decide, show ¬ (154 : Nat) = 148 by decide, false_and]
      exact a3 i q hq
    · rw [List.getElem?_append_right (by omega)] at hq
      have hi0 : i - L.length = 0 := by
        by_cases z : i - L.length = 0
        · exact z
        · rw [List.getElem?_eq_none (by simp; omega)] at hq; cases hq
      rw [hi0] at hq
      have hq : q = (k, a, b, c) := by simpa using hq.symm
      have hi1 : i = L.length := by omega
      subst hq hi1
      simp
  · rw [rd 155 _ (by decide), if_neg (fun z => absurd z.1 (by decide)), if_neg (fun z => absurd z.1 (by decide)), if_neg (fun z => absurd z.1 (by decide)), if_neg (fun z => absurd z.1 (by decide)), if_neg (fun z => absurd z.1 (by decide))]
    exact a4 i x hx
theorem m_eargY {a : Int32} (hy : y < 72) (hL : Lay t ad) (hE : REy ad y L G t) (hl : G.length < 1300) (h : ∀ u, gFr ad (meY y) t u → REy ad y L (G ++ [a]) u → post (some (.int (nI G.length))) u) : g_E cx (d + 1) i_Mo_addArgument [.ref (ad 144), .int (nI y), .int a] t post := by
  obtain ⟨a1, a2, a3, a4⟩ := hE
  have hv : vp_in (nI y) 72 := vp_in_nI hy (by omega)
  have e48 : (nI y).toNatClampNeg = y := nI_clamp (by omega)
  have ix : (1300 : Int32) * nI y + nI G.length = nI (1300 * y + G.length) := ix13 ..
  refine x_Mo_addArgument hL ?_
  rw [e48, a2, show (1300 : Int32) = nI 1300 from rfl, nI_leI (by omega) (by omega), ← show (1300 : Int32) = nI 1300 from rfl, ix]
  refine ⟨hv, fun z => absurd z (by omega), fun _ => ⟨hv, vp_in_nI (by omega) (by omega), fun t2 e2 => ?_⟩⟩
  rw [nI_clamp (by omega)] at e2
  have n2 : ∀ c k, c ≠ 155 → c < 199 → t2.2.1 (ad c) k = t.2.1 (ad c) k := fun c k hc hl => by rw [e2, g_rd_ne (hL.ne c 155 hl (by decide) hc)]
  rw [n2 156 y (by decide) (by decide), a2, nI_1]
  refine ⟨hv, hv, fun t3 e3 => ⟨hv, ?_⟩⟩
  have n3 : ∀ c k, c ≠ 155 → c ≠ 156 → c < 199 → t3.2.1 (ad c) k = t.2.1 (ad c) k := fun c k h1 h2 hl => by rw [e3, g_rd_ne (hL.ne c 156 hl (by decide) h2), n2 c k h1 hl]
  have k156 : t3.2.1 (ad 156) y = nI (G.length + 1) := by rw [e3, g_rd_at]
  rw [k156, nI_pred]
  refine h t3 (by rw [e3, e2]; exact ((gFr.rf hL).si (meY_t (by omega))).si (meY_t (by omega))) ⟨by rw [n3 148 y (by decide) (by decide) (by decide)]; exact a1, by rw [k156, List.length_append]; rfl, fun i q hq => ?_, fun i x hx => ?_⟩
  · rw [n3 151 _ (by decide) (by decide) (by decide), n3 152 _ (by decide) (by decide) (by decide), n3 153 _ (by decide) (by decide) (by decide), n3 154 _ (by decide) (by decide) (by decide)]
    exact a3 i q hq
  · rw [e3, g_rd_ne (hL.ne 155 156 (by decide) (by decide) (by decide)), e2]
    by_cases hi : i < G.length
    · rw [List.getElem?_append_left hi] at hx
      rw [g_rd_k (by omega)]
      exact a4 i x hx
    · rw [List.getElem?_append_right (by omega)] at hx
      have hi0 : i - G.length = 0 := by
        by_cases z : i - G.length = 0
        · exact z
        · rw [List.getElem?_eq_none (by simp; omega)] at hx; cases hx
      rw [hi0] at hx
      have hx : x = a := by simpa using hx.symm
      have hi1 : i = G.length := by omega
      subst hx hi1
      exact g_rd_at
theorem m_againY {x N r : Nat} {k v : Int32} {rs : List Nat} {par : Int32 → Nat} {mp : Nat → Nat} (hx : x < 72) (hy : y < 72) (hxy : x ≠ y) (hr : r < 1300) (hN : N ≤ 1300) (hL : Lay t ad) (hE : REy ad y L G t) (hl : L.length < 1300) (hg : G.length + rs.length ≤ 1300) (hk : ∃ j, 1 ≤ j ∧ j ≤ 15 ∧ k = nI j) (har : rs.length = k_ar par k v) (hm : rowK t ad x N r k v rs) (hrs : ∀ q ∈ rs, q < 1300) (hmp : ∀ q ∈ rs, t.2.1 (ad 177) q = nI (mp q)) (h : ∀ u q G', gFr ad (meY y) t u → REy ad y (L ++ [q]) (G ++ G') u → fo_k (nK (L ++ [q])) (nA (L ++ [q])) (nBb (L ++ [q])) (nC (L ++ [q])) (aG (G ++ G')) (G ++ G').length id L.length k v (rs.map mp) → G'.length = (if k = 15 then rs.length else 0) → post (some (.int (nI L.length))) u) : g_E cx (d + 2) i_Mo_again [.ref (ad 144), .int (nI x), .int (nI r), .int (nI y)] t post := by
  obtain ⟨m1, m2, m3, m4⟩ := hm
  have hv : vp_in (nI (1300 * x + r)) 93600 := vp_in_nI (by omega) (by omega)
  have k1 : t.2.1 (ad 151) (1300 * x + r) = k := m1
  have hv48 : vp_in (nI y) 72 := vp_in_nI hy (by omega)
  have rt : ∀ i q, rs[i]? = some q → q ∈ rs := fun i q h => List.mem_of_getElem? h
  -- any node without arguments
  have fin : ∀ a b c : Int32, (¬ k = 15) → (k = 1 ∨ k = 2 → a = v) → (¬ (k = 1 ∨ k = 2 ∨ k = 15) → (∀ q, (rs.map mp)[0]? = some q → a = nI q) ∧ (∀ q, (rs.map mp)[1]? = some q → b = nI q) ∧ (∀ q, (rs.map mp)[2]? = some q → c = nI q) ∧ (k = 14 → c = v)) → g_E cx (d + 1) i_Mo_node [.ref (ad 144), .int (nI y), .int k, .int a, .int b, .int c] t (fun r u1 => ∃ y2 : Int32, r = some (.int y2) ∧ Lay u1 ad ∧ (post (some (.int y2)) u1)) := by
    intro a b c h15 h12 h4
    refine m_enodeY hy hL hE hl (fun u F E => ⟨_, rfl, F.L, h u (k, a, b, c) [] F (by rw [List.append_nil]; exact E) ?_ (by rw [if_neg h15]; rfl)⟩)
    rw [List.append_nil]
    exact fo_kL rfl h12 (fun z => absurd z h15) h4
  refine x_Mo_again hL (fun x1 e1 => ?_)
  rw [ix13] at e1
  subst e1
  refine ⟨hv, fun x2 e2 => ?_⟩
  rw [nI_clamp (by omega), k1] at e2
  subst e2
  refine ⟨fun c15 => ⟨fun c1 => ?_, fun c1 => ⟨fun c2 => ?_, fun c2 => ?_⟩⟩, fun c15 => ?_⟩
  · have a0 : t.2.1 (ad 152) (1300 * x + r) = v := m2 (Or.inl c1)
    refine x_Mo_again_123 hL ⟨hv, ?_⟩
    rw [nI_clamp (by omega), a0]
    exact fin v 0 0 c15 (fun _ => rfl) (fun z => absurd (Or.inl c1) z)
  · -- with operands
    have hn2 : ¬ (x2 = 1 ∨ x2 = 2 ∨ x2 = 15) := fun z => z.elim c1 (fun z => z.elim c2 c15)
    obtain ⟨o1, o2, o3, o4⟩ := m4 hn2
    have ops : ∀ (two : Bool) (c : Int32), (two = false → rs.length = 1) → (two = true → 2 ≤ rs.length) → (∀ q, (rs.map mp)[2]? = some q → c = nI q) → (x2 = 14 → c = v) → g_W cx (g_E cx (d + 1)) mt_Mo_again post (201, [some (.ref (ad 144)), some (.int (nI x)), some (.int (nI r)), some (.int (nI y)), some (.int (nI (1300 * x + r))), some (.int x2), some (.int (b32 two)), none, none], [.int c], t, 0, 0) := by
      intro two c ht1 ht2 hc2 hc14
      have hl0 : 0 < rs.length := by cases two; have := ht1 rfl; omega; have := ht2 rfl; omega
      obtain ⟨r0, e0⟩ : ∃ r0, rs[0]? = some r0 := ⟨_, List.getElem?_eq_getElem hl0⟩
      have A0 : t.2.1 (ad 152) (1300 * x + r) = nI r0 := o1 r0 e0
      have p0 : t.2.1 (ad 177) r0 = nI (mp r0) := hmp r0 (rt 0 r0 e0)
      have b0 := hrs r0 (rt 0 r0 e0)
      refine x_Mo_again_201 hL ?_
      rw [nI_clamp (n := 1300 * x + r) (by omega), A0, nI_clamp (n := r0) (by omega), p0]
      refine ⟨hv, vp_in_nI b0 (by omega), fun z => ?_, fun z => ⟨hv, ?_⟩⟩
      · have hf : two = false := b32_0.mp z
        have := ht1 hf
        refine x_Mo_again_240 hL (fin _ _ _ c15 (fun z => absurd z (fun z => z.elim c1 c2)) (fun _ => ⟨fun q hq => ?_, fun q hq => ?_, hc2, hc14⟩))
        · rw [List.getElem?_map, e0] at hq
          have : mp r0 = q := by simpa using hq
          rw [this]
        · rw [List.getElem?_map, List.getElem?_eq_none (by omega)] at hq
          cases hq
      · have hf : two = true := by cases two; exact absurd rfl z; rfl
        have hl2 := ht2 hf
        obtain ⟨r1, e1⟩ : ∃ r1, rs[1]? = some r1 := ⟨_, List.getElem?_eq_getElem (by omega)⟩
        have A1 : t.2.1 (ad 153) (1300 * x + r) = nI r1 := o2 r1 e1
        have p1 : t.2.1 (ad 177) r1 = nI (mp r1) := hmp r1 (rt 1 r1 e1)
        have b1 := hrs r1 (rt 1 r1 e1)
        rw [A1, nI_clamp (n := r1) (by omega), p1]
        refine ⟨vp_in_nI b1 (by omega), x_Mo_again_240 hL (fin _ _ _ c15 (fun z => absurd z (fun z => z.elim c1 c2)) (fun _ => ⟨fun q hq => ?_, fun q hq => ?_, hc2, hc14⟩))⟩
        · rw [List.getElem?_map, e0] at hq
          have : mp r0 = q := by simpa using hq
          rw [this]
        · rw [List.getElem?_map, e1] at hq
          have : mp r1 = q := by simpa using hq
          rw [this]
    have kind : ∀ two : Bool, (two = false → x2 = 10 ∨ x2 = 11) → (two = true → ¬ (x2 = 10 ∨ x2 = 11)) → g_W cx (g_E cx (d + 1)) mt_Mo_again post (159, [some (.ref (ad 144)), some (.int (nI x)), some (.int (nI r)), some (.int (nI y)), some (.int (nI (1300 * x + r))), some (.int x2), none, none, none], [.int (b32 two)], t, 0, 0) := by
      intro two ht1 ht2
      have l1 : two = false → rs.length = 1 := fun z => by
        rw [har]
        unfold k_ar
        rw [if_neg (fun z => z.elim c1 c2), if_pos (ht1 z)]
      have l2 : two = true → rs.length = if x2 = 13 then 3 else 2 := fun z => by
        rw [har]
        unfold k_ar
        rw [if_neg (fun z => z.elim c1 c2), if_neg (ht2 z), if_neg c15]
      have l2' : two = true → 2 ≤ rs.length := fun z => by rw [l2 z]; split <;> omega
      refine x_Mo_again_159 hL ⟨fun c13 => ⟨fun c14 => ops two 0 l1 l2' (fun q hq => ?_) (fun z => absurd z c14), fun c14 => ⟨hv, ?_⟩⟩, fun c13 => ⟨hv, ?_⟩⟩
      · have : rs.length ≤ 2 := by
          cases two with
          | false => rw [l1 rfl]; decide
          | true => rw [l2 rfl, if_neg c13]; decide
        rw [List.getElem?_map, List.getElem?_eq_none (by omega)] at hq
        cases hq
      · have c14 := Classical.not_not.mp c14
        have A2 : t.2.1 (ad 154) (1300 * x + r) = v := o4 c14
        rw [nI_clamp (by omega), A2]
        have htw : two = true := by
          cases two with
          | true => rfl
          | false => rcases ht1 rfl with z | z <;> rw [c14] at z <;> exact absurd z (by decide)
        refine ops two v l1 l2' (fun q hq => ?_) (fun _ => rfl)
        rw [List.getElem?_map, List.getElem?_eq_none (by rw [l2 htw, if_neg c13]; omega)] at hq
        cases hq
      · have c13 := Classical.not_not.mp c13
        have htw : two = true := by
          cases two with
          | true => rfl
          | false => rcases ht1 rfl with z | z <;> rw [c13] at z <;> exact absurd z (by decide)
        have l3 : rs.length = 3 := by rw [l2 htw, if_pos c13]
        obtain ⟨r2, e2⟩ : ∃ r2, rs[2]? = some r2 := ⟨_, List.getElem?_eq_getElem (by omega)⟩
        have A2 : t.2.1 (ad 154) (1300 * x + r) = nI r2 := o3 r2 e2
        have b2 := hrs r2 (rt 2 r2 e2)
        rw [nI_clamp (n := 1300 * x + r) (by omega), A2, nI_clamp (n := r2) (by omega), hmp r2 (rt 2 r2 e2)]
        refine ⟨vp_in_nI b2 (by omega), ops two _ l1 l2' (fun q hq => ?_) (fun z => absurd z (by rw [c13]; decide))⟩
        rw [List.getElem?_map, e2] at hq
        have : mp r2 = q := by simpa using hq
        rw [this]
    refine ⟨fun c10 => x_Mo_again_158 hL (kind false (fun _ => Or.inl c10) (fun z => by cases z)), fun c10 => ⟨fun c11 => x_Mo_again_158 hL (kind false (fun _ => Or.inr c11) (fun z => by cases z)), fun c11 => kind true (fun z => by cases z) (fun _ z => z.elim c10 c11)⟩⟩
  · have c2 := Classical.not_not.mp c2
    have a0 : t.2.1 (ad 152) (1300 * x + r) = v := m2 (Or.inr c2)
    refine x_Mo_again_123 hL ⟨hv, ?_⟩
    rw [nI_clamp (by omega), a0]
    exact fin v 0 0 c15 (fun _ => rfl) (fun z => absurd (Or.inr (Or.inl c2)) z)
  · -- a call
    have c15 := Classical.not_not.mp c15
    obtain ⟨b1, b2, q0, b3, b4, b5⟩ := m3 c15
    have A2 : t.2.1 (ad 154) (1300 * x + r) = v := b1
    have A1 : t.2.1 (ad 153) (1300 * x + r) = nI rs.length := b2
    have A0 : t.2.1 (ad 152) (1300 * x + r) = nI q0 := b3
    have e48 : (nI y).toNatClampNeg = y := nI_clamp (by omega)
    rw [e48, hE.2.1]
    refine ⟨hv48, fun x3 e3 => ?_⟩
    subst e3
    subst c15
    have loop : ∀ m i (u : gSt) (o : Option Value), m + i = rs.length → gFr ad (meY y) t u → REy ad y L (G ++ ((rs.take i).map (fun q => nI (mp q)))) u → g_W cx (g_E cx (d + 1)) mt_Mo_again post (36, [some (.ref (ad 144)), some (.int (nI x)), some (.int (nI r)), some (.int (nI y)), some (.int (nI (1300 * x + r))), some (.int 15), some (.int (nI G.length)), some (.int (nI i)), o], [], u, 0, 0) := by
      intro m
      induction m with
      | zero =>
        intro i u o hi hF hR
        have rowU : ∀ c, 151 ≤ c → c ≤ 154 → u.2.1 (ad c) (1300 * x + r) = t.2.1 (ad c) (1300 * x + r) := fun c h1 h2 => hF.i c _ (meY_r (by omega)) (by omega)
        rw [List.take_of_length_le (by omega)] at hR
        refine x_Mo_again_36 hF.L ?_
        rw [nI_clamp (by omega), rowU 153 (by decide) (by decide), rowU 154 (by decide) (by decide), A1, A2]
        refine ⟨hv, fun _ => ⟨hv, hv, m_enodeY hy hF.L hR hl (fun u2 F2 E2 => ⟨_, rfl, F2.L, h u2 (15, nI G.length, nI rs.length, v) (rs.map (fun q => nI (mp q))) (hF.tr F2) E2 ?_ (by rw [if_pos rfl, List.length_map])⟩)⟩, fun z => absurd (nI_le (by omega) (by omega)) z⟩
        refine fo_kL rfl (fun z => absurd z (by decide)) (fun _ => ⟨rfl, by rw [List.length_map], G.length, rfl, by rw [List.length_append, List.length_map, List.length_map]; omega, fun i q hq => ?_⟩) (fun z => absurd (Or.inr (Or.inr rfl)) z)
        unfold aG
        rw [List.getElem?_append_right (by omega), Nat.add_sub_cancel_left]
        rw [List.getElem?_map] at hq ⊢
        cases hri : rs[i]? with
        | none => rw [hri] at hq; cases hq
        | some ri =>
          rw [hri] at hq
          have : mp ri = q := by simpa using hq
          rw [← this]
          rfl
      | succ m ih =>
        intro i u o hi hF hR
        have rowU : ∀ c, 151 ≤ c → c ≤ 154 → u.2.1 (ad c) (1300 * x + r) = t.2.1 (ad c) (1300 * x + r) := fun c h1 h2 => hF.i c _ (meY_r (by omega)) (by omega)
        have hil : i < rs.length := by omega
        have hri : rs[i]? = some rs[i] := List.getElem?_eq_getElem hil
        have eG : t.2.1 (ad 155) (1300 * x + (q0 + i)) = nI rs[i] := b5 i rs[i] hri
        have bi := hrs rs[i] (rt i _ hri)
        have ixq : (1300 : Int32) * nI x + nI q0 + nI i = nI (1300 * x + (q0 + i)) := by rw [show (1300 : Int32) = nI 1300 from rfl, nI_mul, nI_add, nI_add, Nat.add_assoc]
        refine x_Mo_again_36 hF.L ?_
        rw [nI_clamp (n := 1300 * x + r) (by omega), rowU 153 (by decide) (by decide), rowU 152 (by decide) (by decide), A1, A0, ixq, nI_clamp (n := 1300 * x + (q0 + i)) (by omega), hF.i 155 _ (meY_r (by omega)), eG, nI_clamp (n := rs[i]) (by omega), hF.i 177 _ (meY_r (by omega)), hmp _ (rt i _ hri), nI_1]
        refine ⟨hv, fun z => absurd z (nI_ge (by omega) (by omega)), fun _ => ⟨hv, vp_in_nI (by omega) (by omega), vp_in_nI bi (by omega), ?_⟩⟩
        refine m_eargY hy hF.L hR (by rw [List.length_append, List.length_map, List.length_take]; omega) (fun u2 F2 E2 => ⟨_, rfl, F2.L, ih (i + 1) u2 _ (by omega) (hF.tr F2) ?_⟩)
        rw [List.take_add_one, hri, List.map_append, ← List.append_assoc]
        exact E2
    refine loop rs.length 0 t _ (by omega) (gFr.rf hL) ?_
    simpa using hE
end MEY
