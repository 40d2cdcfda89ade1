/-! THE MODEL: an expression is copied; a function is inlined in -/
def mBn (t : gSt) (ad : Nat → Nat) (x : Nat) (B : Fo) : Prop := t.2.1 (ad 148) x = nI (fo_n B) ∧ ∃ N, t.2.1 (ad 156) x = nI N ∧ N < fo_n B ∧ fo_m (fun i => t.2.1 (ad 151) (1300 * x + i)) (fun i => t.2.1 (ad 152) (1300 * x + i)) (fun i => t.2.1 (ad 153) (1300 * x + i)) (fun i => t.2.1 (ad 154) (1300 * x + i)) (fun i => t.2.1 (ad 155) (1300 * x + i)) N id B 0
def myP (y c k : Nat) : Bool := ((Nat.beq c 148 || Nat.beq c 149 || Nat.beq c 156) && Nat.beq k y) || (Nat.ble 151 c && Nat.ble c 155 && (Nat.ble (1300 * y) k && Nat.ble k (1300 * y + 1299)))
theorem myP_in {y c k : Nat} (h : myP y c k = true) : ((c = 148 ∨ c = 149 ∨ c = 156) ∧ k = y) ∨ (151 ≤ c ∧ c ≤ 155 ∧ 1300 * y ≤ k ∧ k ≤ 1300 * y + 1299) := by
  unfold myP at h
  simp only [Bool.or_eq_true, Bool.and_eq_true, Nat.ble_eq, Nat.beq_eq] at h
  omega
theorem myP_r {y c k : Nat} (h : ¬ (((c = 148 ∨ c = 149 ∨ c = 156) ∧ k = y) ∨ (151 ≤ c ∧ c ≤ 155 ∧ 1300 * y ≤ k ∧ k ≤ 1300 * y + 1299))) : myP y c k = false := by
  cases e : myP y c k with
  | false => rfl
  | true => exact absurd (myP_in e) h
theorem myP_t {y c k : Nat} (h : ((c = 148 ∨ c = 149 ∨ c = 156) ∧ k = y) ∨ (151 ≤ c ∧ c ≤ 155 ∧ 1300 * y ≤ k ∧ k ≤ 1300 * y + 1299)) : myP y c k = true := by
  unfold myP
  simp only [Bool.or_eq_true, Bool.and_eq_true, Nat.ble_eq, Nat.beq_eq]
  omega
section MS
variable {cx : gCx} {d : Nat} {ad : Nat → Nat} {t : gSt} {post : Option Value → gSt → Prop}
theorem m_copyAll {x y : Nat} {B : Fo} (hx : x < 72) (hy : y < 72) (hxy : x ≠ y) (hL : Lay t ad) (hB5 : fo_n B ≤ 1300) (hB : mBn t ad x B) (h : ∀ u, gFr ad (myP y) t u → mBn u ad y B → u.2.1 (ad 149) y = t.2.1 (ad 149) x → post none u) : g_E cx (d + 1) i_Mo_copyAll [.ref (ad 144), .int (nI x), .int (nI y)] t post := by
  obtain ⟨h148, N, h156, hN, hm⟩ := hB
  have hvx := vp_in_nI (n := x) (N := 72) hx (by omega)
  have hvy := vp_in_nI (n := y) (N := 72) hy (by omega)
  refine x_Mo_copyAll hL ?_
  rw [nI_clamp (n := x) (by omega), nI_clamp (n := y) (by omega)]
  refine ⟨hvx, hvy, fun t1 e1 => ⟨hvx, hvy, fun t2 e2 => ⟨hvx, hvy, fun t3 e3 => ?_⟩⟩⟩
  have n1 : ∀ c k, (c ≠ 148 ∨ k ≠ y) → c < 199 → t1.2.1 (ad c) k = t.2.1 (ad c) k := fun c k hc hl => by
    rw [e1]
    by_cases c0 : c = 148
    · subst c0; rw [g_rd_k (by omega)]
    · rw [g_rd_ne (hL.ne c 148 hl (by decide) c0)]
  have n2 : ∀ c k, (c ≠ 148 ∨ k ≠ y) → (c ≠ 149 ∨ k ≠ y) → c < 199 → t2.2.1 (ad c) k = t.2.1 (ad c) k := fun c k hc hc2 hl => by
    rw [e2]
    by_cases c0 : c = 149
    · subst c0; rw [g_rd_k (by omega)]; exact n1 149 k hc hl
    · rw [g_rd_ne (hL.ne c 149 hl (by decide) c0)]; exact n1 c k hc hl
  have n3 : ∀ c k, (c ≠ 148 ∨ k ≠ y) → (c ≠ 149 ∨ k ≠ y) → (c ≠ 156 ∨ k ≠ y) → c < 199 → t3.2.1 (ad c) k = t.2.1 (ad c) k := fun c k hc hc2 hc3 hl => by
    rw [e3]
    by_cases c0 : c = 156
    · subst c0; rw [g_rd_k (by omega)]; exact n2 156 k hc hc2 hl
    · rw [g_rd_ne (hL.ne c 156 hl (by decide) c0)]; exact n2 c k hc hc2 hl
  have v148 : t3.2.1 (ad 148) y = nI (fo_n B) := by rw [e3, g_rd_ne (hL.ne 148 156 (by decide) (by decide) (by decide)), e2, g_rd_ne (hL.ne 148 149 (by decide) (by decide) (by decide)), e1, g_rd_at]; exact h148
  have v149 : t3.2.1 (ad 149) y = t.2.1 (ad 149) x := by rw [e3, g_rd_ne (hL.ne 149 156 (by decide) (by decide) (by decide)), e2, g_rd_at, n1 149 x (by omega) (by decide)]
  have v156 : t3.2.1 (ad 156) y = nI N := by rw [e3, g_rd_at, n2 156 x (by omega) (by omega) (by decide)]; exact h156
  have F3 : gFr ad (myP y) t t3 := by rw [e3, e2, e1]; exact (((gFr.rf hL).si (myP_t (by omega))).si (myP_t (by omega))).si (myP_t (by omega))
  have rx : ∀ {u : gSt}, gFr ad (myP y) t u → ∀ c i, 151 ≤ c → c ≤ 155 → i < 1300 → u.2.1 (ad c) (1300 * x + i) = t.2.1 (ad c) (1300 * x + i) := fun hF c i h1 h2 hi => hF.i c _ (myP_r (by
    have : x < y ∨ y < x := by omega
    rcases this with z | z
    · have : 1300 * x + 1300 ≤ 1300 * y := by omega
      omega
    · have : 1300 * y + 1300 ≤ 1300 * x := by omega
      omega)) (by omega)
  have second : ∀ m i (u : gSt), m + i = N → gFr ad (myP y) t u → u.2.1 (ad 148) y = nI (fo_n B) → u.2.1 (ad 149) y = t.2.1 (ad 149) x → u.2.1 (ad 156) y = nI N → (∀ c j, 151 ≤ c → c ≤ 154 → j < fo_n B → u.2.1 (ad c) (1300 * y + j) = t.2.1 (ad c) (1300 * x + j)) → (∀ j, j < i → u.2.1 (ad 155) (1300 * y + j) = t.2.1 (ad 155) (1300 * x + j)) → g_W cx (g_E cx d) mt_Mo_copyAll post (152, [some (.ref (ad 144)), some (.int (nI x)), some (.int (nI y)), some (.int (nI i))], [], u, 0, 0) := by
    intro m
    induction m with
    | zero =>
      intro i u hi hF w1 w2 w3 w4 w5
      have hi : i = N := by omega
      subst hi
      refine x_Mo_copyAll_152 hF.L ?_
      rw [nI_clamp (by omega), hF.i 156 x (myP_r (by omega)), h156]
      refine ⟨hvx, fun _ => h u hF ⟨w1, i, w3, hN, ?_⟩ w2, fun z => absurd (nI_le (Nat.le_refl _) (by omega)) z⟩
      exact fo_m_cg (fun j hj => w5 j hj) (Nat.le_refl _) B 0 hm (fun j _ hj => ⟨w4 151 j (by decide) (by decide) (by omega), w4 152 j (by decide) (by decide) (by omega), w4 153 j (by decide) (by decide) (by omega), w4 154 j (by decide) (by decide) (by omega)⟩)
    | succ m ih =>
      intro i u hi hF w1 w2 w3 w4 w5
      refine x_Mo_copyAll_152 hF.L ?_
      rw [nI_clamp (by omega), hF.i 156 x (myP_r (by omega)), h156, ix13, ix13, nI_clamp (n := 1300 * x + i) (by omega), nI_clamp (n := 1300 * y + i) (by omega), rx hF 155 i (by decide) (by decide) (by omega), nI_1]
      refine ⟨hvx, fun z => absurd z (nI_ge (by omega) (by omega)), fun _ => ⟨vp_in_nI (by omega) (by omega), vp_in_nI (by omega) (by omega), fun t1 e1 => ?_⟩⟩
      have o : ∀ c k, c ≠ 155 → c < 199 → t1.2.1 (ad c) k = u.2.1 (ad c) k := fun c k hc hl => by rw [e1, g_rd_ne (hL.ne c 155 hl (by decide) hc)]
      refine ih (i + 1) t1 (by omega) (by rw [e1]; exact hF.si (myP_t (by omega))) (by rw [o 148 y (by decide) (by decide)]; exact w1) (by rw [o 149 y (by decide) (by decide)]; exact w2) (by rw [o 156 y (by decide) (by decide)]; exact w3) (fun c j h1 h2 hj => by rw [o c _ (by omega) (by omega)]; exact w4 c j h1 h2 hj) (fun j hj => ?_)
      rw [e1]
      by_cases c : j = i
      · subst c; rw [g_rd_at]
      · rw [g_rd_k (by omega)]; exact w5 j (by omega)
  have first : ∀ m i (u : gSt), m + i = fo_n B → gFr ad (myP y) t u → u.2.1 (ad 148) y = nI (fo_n B) → u.2.1 (ad 149) y = t.2.1 (ad 149) x → u.2.1 (ad 156) y = nI N → (∀ c j, 151 ≤ c → c ≤ 154 → j < i → u.2.1 (ad c) (1300 * y + j) = t.2.1 (ad c) (1300 * x + j)) → g_W cx (g_E cx d) mt_Mo_copyAll post (38, [some (.ref (ad 144)), some (.int (nI x)), some (.int (nI y)), some (.int (nI i))], [], u, 0, 0) := by
    intro m
    induction m with
    | zero =>
      intro i u hi hF w1 w2 w3 w4
      have hi : i = fo_n B := by omega
      subst hi
      refine x_Mo_copyAll_38 hF.L ?_
      rw [nI_clamp (by omega), hF.i 148 x (myP_r (by omega)), h148]
      exact ⟨hvx, fun _ => second N 0 u (by omega) hF w1 w2 w3 w4 (fun j hj => by omega), fun z => absurd (nI_le (Nat.le_refl _) (by omega)) z⟩
    | succ m ih =>
      intro i u hi hF w1 w2 w3 w4
      have hvi : vp_in (nI (1300 * x + i)) 93600 := vp_in_nI (by omega) (by omega)
      have hvj : vp_in (nI (1300 * y + i)) 93600 := vp_in_nI (by omega) (by omega)
      refine x_Mo_copyAll_38 hF.L ?_
      rw [nI_clamp (n := x) (by omega), hF.i 148 x (myP_r (by omega)), h148, ix13, ix13, nI_clamp (n := 1300 * x + i) (by omega), nI_clamp (n := 1300 * y + i) (by omega), nI_1]
      refine ⟨hvx, fun z => absurd z (nI_ge (by omega) (by omega)), fun _ => ⟨hvi, hvj, fun t1 e1 => ⟨hvi, hvj, fun t2 e2 => ⟨hvi, hvj, fun t3 e3 => ⟨hvi, hvj, fun t4 e4 => ?_⟩⟩⟩⟩⟩
      have o1 : ∀ c k, c ≠ 151 → c < 199 → t1.2.1 (ad c) k = u.2.1 (ad c) k := fun c k hc hl => by rw [e1, g_rd_ne (hL.ne c 151 hl (by decide) hc)]
      have o2 : ∀ c k, c ≠ 151 → c ≠ 152 → c < 199 → t2.2.1 (ad c) k = u.2.1 (ad c) k := fun c k h1 h2 hl => by rw [e2, g_rd_ne (hL.ne c 152 hl (by decide) h2), o1 c k h1 hl]
      have o3 : ∀ c k, c ≠ 151 → c ≠ 152 → c ≠ 153 → c < 199 → t3.2.1 (ad c) k = u.2.1 (ad c) k := fun c k h1 h2 h3 hl => by rw [e3, g_rd_ne (hL.ne c 153 hl (by decide) h3), o2 c k h1 h2 hl]
      have o4 : ∀ c k, c ≠ 151 → c ≠ 152 → c ≠ 153 → c ≠ 154 → c < 199 → t4.2.1 (ad c) k = u.2.1 (ad c) k := fun c k h1 h2 h3 h4 hl => by rw [e4, g_rd_ne (hL.ne c 154 hl (by decide) h4), o3 c k h1 h2 h3 hl]
      rw [rx hF 151 i (by decide) (by decide) (by omega)] at e1
      rw [o1 152 _ (by decide) (by decide), rx hF 152 i (by decide) (by decide) (by omega)] at e2
      rw [o2 153 _ (by decide) (by decide) (by decide), rx hF 153 i (by decide) (by decide) (by omega)] at e3
      rw [o3 154 _ (by decide) (by decide) (by decide) (by decide), rx hF 154 i (by decide) (by decide) (by omega)] at e4
      refine ih (i + 1) t4 (by omega) (by rw [e4, e3, e2, e1]; exact (((hF.si (myP_t (by omega))).si (myP_t (by omega))).si (myP_t (by omega))).si (myP_t (by omega))) (by rw [o4 148 y (by decide) (by decide) (by decide) (by decide) (by decide)]; exact w1) (by rw [o4 149 y (by decide) (by decide) (by decide) (by decide) (by decide)]; exact w2) (by rw [o4 156 y (by decide) (by decide) (by decide) (by decide) (by decide)]; exact w3) (fun c j h1 h2 hj => ?_)
      by_cases cj : j = i
      · subst cj
        have hc : c = 151 ∨ c = 152 ∨ c = 153 ∨ c = 154 := by omega
        rcases hc with rfl | rfl | rfl | rfl
        · rw [e4, g_rd_ne (hL.ne 151 154 (by decide) (by decide) (by decide)), e3, g_rd_ne (hL.ne 151 153 (by decide) (by decide) (by decide)), e2, g_rd_ne (hL.ne 151 152 (by decide) (by decide) (by decide)), e1, g_rd_at]
        · rw [e4, g_rd_ne (hL.ne 152 154 (by decide) (by decide) (by decide)), e3, g_rd_ne (hL.ne 152 153 (by decide) (by decide) (by decide)), e2, g_rd_at]
        · rw [e4, g_rd_ne (hL.ne 153 154 (by decide) (by decide) (by decide)), e3, g_rd_at]
        · rw [e4, g_rd_at]
      · have g : ∀ (w : gSt) (c2 : Nat) (x0 : Int32), c2 < 199 → (g_si w (ad c2) (1300 * y + i) x0).2.1 (ad c) (1300 * y + j) = w.2.1 (ad c) (1300 * y + j) := fun w c2 x0 hc2 => by
          by_cases c0 : c = c2
          · subst c0; rw [g_rd_k (by omega)]
          · rw [g_rd_ne (hL.ne c c2 (by omega) hc2 c0)]
        rw [e4, g _ _ _ (by decide), e3, g _ _ _ (by decide), e2, g _ _ _ (by decide), e1, g _ _ _ (by decide)]
        exact w4 c j h1 h2 (by omega)
  exact first (fo_n B) 0 t3 (by omega) F3 v148 v149 v156 (fun c j _ _ hj => by omega)
/-- row 48's lists are an expression's rows -/
theorem RE.mBn {L : List ND} {G : List Int32} {F : Fo} (h : RE ad L G t) (hf : fmL L G F 0) (hl : L.length = fo_n F) (hg : G.length < fo_n F) : mBn t ad 48 F := by
  obtain ⟨a1, a2, a3, a4⟩ := h
  refine ⟨by rw [a1, hl], G.length, a2, hg, ?_⟩
  refine fo_m_cg (fun i hi => ?_) (Nat.le_refl _) F 0 hf (fun m _ hm => ?_)
  · unfold aG
    obtain ⟨a, ha⟩ : ∃ a, G[i]? = some a := ⟨_, List.getElem?_eq_getElem hi⟩
    rw [ha]
    exact a4 i a ha
  · obtain ⟨q, hq⟩ : ∃ q, L[m]? = some q := ⟨_, List.getElem?_eq_getElem (by omega)⟩
    have := a3 m q hq
    unfold nK nA nBb nC
    rw [hq]
    exact this
def mzP (g c k : Nat) : Bool := mnP g c k || myP (24 + g) c k
theorem mzP_in {g c k : Nat} (h : mzP g c k = true) : (151 ≤ c ∧ c ≤ 155 ∧ 62400 ≤ k) ∨ ((c = 148 ∨ c = 156) ∧ k = 48) ∨ c = 180 ∨ c = 177 ∨ (c = 150 ∧ k = g) ∨ ((c = 148 ∨ c = 149 ∨ c = 156) ∧ k = 24 + g) ∨ (151 ≤ c ∧ c ≤ 155 ∧ 1300 * (24 + g) ≤ k ∧ k ≤ 1300 * (24 + g) + 1299) := by
  unfold mzP at h
  rw [Bool.or_eq_true] at h
  rcases h with h | h
  · have := mnP_in h
    omega
  · have := myP_in h
    omega
theorem mzP_r {g c k : Nat} (h : ¬ ((151 ≤ c ∧ c ≤ 155 ∧ 62400 ≤ k) ∨ ((c = 148 ∨ c = 156) ∧ k = 48) ∨ c = 180 ∨ c = 177 ∨ (c = 150 ∧ k = g) ∨ ((c = 148 ∨ c = 149 ∨ c = 156) ∧ k = 24 + g) ∨ (151 ≤ c ∧ c ≤ 155 ∧ 1300 * (24 + g) ≤ k ∧ k ≤ 1300 * (24 + g) + 1299))) : mzP g c k = false := by
  cases e : mzP g c k with
  | false => rfl
  | true => exact absurd (mzP_in e) h
theorem mzP_t {g c k : Nat} (h : mnP g c k = true ∨ myP (24 + g) c k = true) : mzP g c k = true := by
  unfold mzP
  exact Bool.or_eq_true_iff.mpr h
variable {n g : Nat} {par : Int32 → Nat} {lim : Int32} {cyc : Nat → Bool} {tab : Nat → Prop} {bo : Nat → Fo} {sv : Nat → Nat} {rs : Nat → IR}
theorem m_minline (hg : g < n) (hn : n ≤ 24) (hL : Lay t ad) (h46 : t.2.1 (ad 144) 46 = lim) (hcy : ∀ h, h < n → t.2.1 (ad 171) (24 * h + h) = b32 (cyc h)) (hS : mBd t ad (24 + g) (bo g) (sv g)) (hbs : bodyS n par (sv g) (par (nI g)) (bo g)) (hpar6 : ∀ v, par v ≤ 6) (hT : ∀ h, h < n → tab h → mBd t ad (24 + h) (rs h).1 (rs h).2.1) (hTb : ∀ h, okI cyc lim rs h = true → bodyS n par (rs h).2.1 (par (nI h)) (rs h).1) (hTl : ∀ h, tab h → fo_l (rs h).1 = 1) (hV : fo_v n par (iC n cyc tab) (bo g)) (h150 : t.2.1 (ad 150) g = 0) (h : ∀ u, gFr ad (mzP g) t u → mBd u ad (24 + g) (inl cyc lim par bo sv rs g).1 (inl cyc lim par bo sv rs g).2.1 → u.2.1 (ad 150) g = nI (inl cyc lim par bo sv rs g).2.2 → post none u) : g_E cx (d + 3) i_Mo_inline [.ref (ad 144), .int (nI g)] t post := by
  obtain ⟨s1, s2, N, s3, s4, s5⟩ := hS
  obtain ⟨b1, b2, b3, b4, b5, b6, b7, b8⟩ := hbs
  have hv48 : vp_in 48 72 := vp_in_nI (n := 48) (by decide) (by decide)
  have e48 : ((48 : Int32)).toNatClampNeg = 48 := by decide
  have hvx : vp_in (nI (24 + g)) 72 := vp_in_nI (by omega) (by omega)
  refine x_Mo_inline hL (fun x1 e1 => ⟨hv48, fun t2 e2 => ⟨hv48, fun t3 e3 => ?_⟩⟩)
  rw [show (24 : Int32) = nI 24 from rfl, nI_add] at e1
  subst e1
  rw [e48] at e2 e3
  have n3 : ∀ c k, ¬ ((c = 148 ∨ c = 156) ∧ k = 48) → c < 199 → t3.2.1 (ad c) k = t.2.1 (ad c) k := fun c k hc hl => by
    have g0 : ∀ (w : gSt) (c2 : Nat) (x0 : Int32), (c2 = 148 ∨ c2 = 156) → (g_si w (ad c2) 48 x0).2.1 (ad c) k = w.2.1 (ad c) k := fun w c2 x0 hc2 => by
      by_cases c0 : c = c2
      · subst c0; rw [g_rd_k (by omega)]
      · rw [g_rd_ne (hL.ne c c2 hl (by omega) c0)]
    rw [e3, g0 _ _ _ (Or.inr rfl), e2, g0 _ _ _ (Or.inl rfl)]
  have F3 : gFr ad (mnP g) t t3 := by rw [e3, e2]; exact ((gFr.rf hL).si (mnP_t (Or.inl (mrP_t (Or.inl (meP_t (by omega))))))).si (mnP_t (Or.inl (mrP_t (Or.inl (meP_t (by omega))))))
  rw [nI_clamp (by omega), n3 148 _ (by omega) (by decide), n3 149 _ (by omega) (by decide), s1, s2]
  refine ⟨hvx, fun x4 e4 => ⟨hvx, fun x5 e5 => ?_⟩⟩
  subst e4 e5
  have hRE : RE ad [] [] t3 := ⟨by rw [e3, g_rd_ne (hL.ne 148 156 (by decide) (by decide) (by decide)), e2, g_rd_at]; rfl, by rw [e3, g_rd_at]; rfl, (fun i q hq => by cases hq), (fun i a ha => by cases ha)⟩
  have hl1 : ∀ h, okI cyc lim rs h = true → fo_l (rs h).1 = 1 := fun h hh => (hTb h hh).1
  have hokE : ∀ h, h < n → (cyc h = true ∨ tab h) → okI cyc lim rs h = (!cyc h && decide (nI (fo_n (rs h).1) ≤ lim)) := fun h hh hc => by
    unfold okI
    cases hcg : cyc h with
    | true => rfl
    | false =>
      have ht : tab h := hc.resolve_left (by rw [hcg]; decide)
      rw [decide_eq_true (hTl h ht), Bool.and_true]
  have hT' : miTab t3 ad n g lim cyc tab (fun h => (rs h).1) (fun h => (rs h).2.1) (fo_n (bo g)) := ⟨by rw [n3 144 46 (by omega) (by decide)]; exact h46, fun h hh => by rw [n3 171 _ (by omega) (by decide)]; exact hcy h hh, by rw [n3 148 _ (by omega) (by decide)]; exact s1, fun h hh ht => by
    obtain ⟨a1, a2, N', a3, a4, a5⟩ := hT h hh ht
    refine ⟨by rw [n3 148 _ (by omega) (by decide)]; exact a1, by rw [n3 149 _ (by omega) (by decide)]; exact a2, N', by rw [n3 156 _ (by omega) (by decide)]; exact a3, a4, ?_⟩
    refine fo_m_cg (fun i hi => n3 155 _ (by omega) (by decide)) (Nat.le_refl _) _ 0 a5 (fun m _ _ => ⟨n3 151 _ (by omega) (by decide), n3 152 _ (by omega) (by decide), n3 153 _ (by omega) (by decide), n3 154 _ (by omega) (by decide)⟩)⟩
  have hinl : (inl cyc lim par bo sv rs g) = ((inF (okI cyc lim rs) par (fun h => (rs h).1) (fun h => (rs h).2.1) (bo g) (fo_n (bo g), sv g, 0)).1, (inF (okI cyc lim rs) par (fun h => (rs h).1) (fun h => (rs h).2.1) (bo g) (fo_n (bo g), sv g, 0)).2.2.1, (inF (okI cyc lim rs) par (fun h => (rs h).1) (fun h => (rs h).2.1) (bo g) (fo_n (bo g), sv g, 0)).2.2.2) := rfl
  have hsz := inF_s (bV := fun h => (rs h).2.1) (bd := fun h => (rs h).1) hn hl1 (bo g) _ (fo_n (bo g), sv g, 0) b6 (Nat.le_refl _) b2 b5
  have hll := inF_l (par := par) (bV := fun h => (rs h).2.1) (bd := fun h => (rs h).1) hl1 (bo g) (fo_n (bo g), sv g, 0)
  refine (m_inl (cx := cx) (d := d) (post := post) (t0 := t3) (N := N) (M0 := fo_n (bo g)) (bd := fun h => (rs h).1) (bV := fun h => (rs h).2.1) (by omega) hn (by omega) b2 hokE (fun h hh => ?_) hT' hpar6 (bo g) _ 0 (fo_n (bo g), sv g, 0) [] [] (t3.2.1 (ad 177)) (fo_n (bo g)) t3 ?_ b6 hV (by omega) (by simp) (Nat.le_refl _) b2 b5 (Nat.le_refl _) ⟨gFr.rf F3.L, hRE, rfl, ?_⟩ (fun u X Y M' Q1 f1 x1 y1 _ _ => ?_)) none none none
  · obtain ⟨c1, c2, c3, c4, c5, c6, c7, c8⟩ := hTb h hh
    exact ⟨⟨c1, c6, (List.nodup_append.mp c7).2.1, c4, c5, c8⟩, c2⟩
  · exact fo_m_cg (fun i hi => n3 155 _ (by omega) (by decide)) (Nat.le_refl _) _ 0 s5 (fun m _ _ => ⟨n3 151 _ (by omega) (by decide), n3 152 _ (by omega) (by decide), n3 153 _ (by omega) (by decide), n3 154 _ (by omega) (by decide)⟩)
  · rw [n3 150 g (by omega) (by decide)]
    exact h150
  · rw [List.nil_append, List.nil_append] at Q1 f1
    obtain ⟨r, er⟩ : ∃ r, inF (okI cyc lim rs) par (fun h => (rs h).1) (fun h => (rs h).2.1) (bo g) (fo_n (bo g), sv g, 0) = r := ⟨_, rfl⟩
    rw [er] at hinl hsz hll Q1 f1 x1 ⊢
    dsimp only at hsz
    obtain ⟨FQ, E1, M1e, R1⟩ := Q1
    intro o7 o8 o9
    have hF1 : gFr ad (mnP g) t u := F3.tr FQ
    have h148 : u.2.1 (ad 148) (24 + g) = nI (fo_n (bo g)) := by rw [hF1.i 148 _ (mnP_r (by omega))]; exact s1
    refine x_Mo_inline_41 FQ.L ?_
    rw [nI_clamp (n := 24 + g) (by omega), h148, Nat.zero_add]
    refine ⟨hvx, fun _ => ?_, fun z => absurd (nI_le (Nat.le_refl _) (by omega)) z⟩
    have hb1 : fo_l (bo g) = 1 := b1
    refine m_copyAll (x := 48) (y := 24 + g) (B := r.1) (by decide) (by omega) (by omega) FQ.L (by omega) (E1.mBn f1 x1 (by omega)) (fun u2 F2 B2 v2 => ⟨rfl, F2.L, hvx, fun t3' e3' => ?_⟩)
    have o3 : ∀ c k, (c ≠ 149 ∨ k ≠ 24 + g) → c < 199 → t3'.2.1 (ad c) k = u2.2.1 (ad c) k := fun c k hc hl => by
      rw [e3']
      by_cases c0 : c = 149
      · subst c0; rw [g_rd_k (by omega)]
      · rw [g_rd_ne (hL.ne c 149 hl (by decide) c0)]
    refine h t3' ?_ ?_ ?_
    · rw [e3']
      exact ((hF1.mo (fun c k q => mzP_t (Or.inl q))).tr (F2.mo (fun c k q => mzP_t (Or.inr q)))).si (mzP_t (Or.inr (myP_t (by omega))))
    · rw [hinl]
      obtain ⟨a1, N', a3, a4, a5⟩ := B2
      refine ⟨by rw [o3 148 _ (by omega) (by decide)]; exact a1, by rw [e3', g_rd_at], N', by rw [o3 156 _ (by omega) (by decide)]; exact a3, a4, ?_⟩
      exact fo_m_cg (fun i hi => o3 155 _ (by omega) (by decide)) (Nat.le_refl _) _ 0 a5 (fun m _ _ => ⟨o3 151 _ (by omega) (by decide), o3 152 _ (by omega) (by decide), o3 153 _ (by omega) (by decide), o3 154 _ (by omega) (by decide)⟩)
    · rw [o3 150 g (by omega) (by decide), F2.i 150 g (myP_r (by omega)), hinl]
      exact R1
end MS
