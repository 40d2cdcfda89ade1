/-! PUTTING FUNCTIONS WHERE THEY ARE CALLED: the class, all functions in their order -/
section IM
variable {cyc : Nat → Bool} {lim : Int32} {par : Int32 → Nat} {bo : Nat → Fo} {sv : Nat → Nat} {ord : Nat → Nat} {n : Nat}
def itot (cyc : Nat → Bool) (lim : Int32) (par : Int32 → Nat) (bo : Nat → Fo) (sv : Nat → Nat) (ord : Nat → Nat) : Nat → Nat
  | 0 => 0
  | k + 1 => itot cyc lim par bo sv ord k + (inl cyc lim par bo sv (inlS cyc lim par bo sv ord k) (ord k)).2.2
/-- an order in which inlining can go -/
def ordI (n : Nat) (cyc : Nat → Bool) (bo : Nat → Fo) (ord : Nat → Nat) : Prop := (∀ k, k < n → ord k < n) ∧ (∀ i j, i < n → j < n → ord i = ord j → i = j) ∧ (∀ f, f < n → ∃ k, k < n ∧ ord k = f) ∧ ∀ k g, k < n → g < n → nI g ∈ fo_g (bo (ord k)) → cyc g = true ∨ ∃ j, j < k ∧ ord j = g
theorem inlS_s {k g : Nat} : inlS cyc lim par bo sv ord (k + 1) g = if g = ord k then inl cyc lim par bo sv (inlS cyc lim par bo sv ord k) (ord k) else inlS cyc lim par bo sv ord k g := rfl
theorem inlS_no : ∀ (k g : Nat), (∀ j, j < k → ord j ≠ g) → inlS cyc lim par bo sv ord k g = (.leaf, 0, 0)
  | 0, _, _ => rfl
  | k + 1, g, h => by
    rw [inlS_s, if_neg (fun c => h k (by omega) c.symm)]
    exact inlS_no k g (fun j hj => h j (by omega))
theorem inlS_ok (hn : n ≤ 24) (hb : ∀ f, f < n → bodyS n par (sv f) (par (nI f)) (bo f)) (ho : ordI n cyc bo ord) : ∀ k, k ≤ n → ∀ g, (∃ j, j < k ∧ ord j = g) → bodyS n par (inlS cyc lim par bo sv ord k g).2.1 (par (nI g)) (inlS cyc lim par bo sv ord k g).1
  | 0, _, g, h => by obtain ⟨j, hj, _⟩ := h; omega
  | k + 1, hk, g, h => by
    have ih := inlS_ok hn hb ho k (by omega)
    rw [inlS_s]
    by_cases c : g = ord k
    · subst c
      rw [if_pos rfl]
      refine inl_ok hn (fun g hg => ?_) (hb _ (ho.1 k (by omega)))
      by_cases c2 : ∃ j, j < k ∧ ord j = g
      · exact ih g c2
      · unfold okI at hg
        rw [inlS_no k g (fun j hj e => c2 ⟨j, hj, e⟩)] at hg
        simp [fo_l] at hg
    · rw [if_neg c]
      obtain ⟨j, hj, ej⟩ := h
      exact ih g ⟨j, by
        have : j ≠ k := fun z => c (by rw [← ej, z])
        omega, ej⟩
theorem inlS_st (ho : ordI n cyc bo ord) {k : Nat} (hk : k < n) {g : Nat} (hg : ∃ j, j < k ∧ ord j = g) : inlS cyc lim par bo sv ord (k + 1) g = inlS cyc lim par bo sv ord k g := by
  obtain ⟨j, hj, ej⟩ := hg
  rw [inlS_s, if_neg (fun c => by
    have := ho.2.1 j k (by omega) hk (by rw [ej, c])
    omega)]
end IM
section IN3
variable {cx : gCx} {d : Nat} {ad : Nat → Nat} {t : gSt} {post : Option Value → gSt → Prop} {p n : Nat} {par : Int32 → Nat} {lim : Int32} {cyc : Nat → Bool} {bo : Nat → Fo} {sv : Nat → Nat} {nm : Nat → Int64} {ord : Nat → Nat}
def ivP (c k : Nat) : Bool := (Nat.ble 48 c && Nat.ble c 54) || (Nat.beq c 47 && (Nat.ble 2 k && Nat.ble k 9)) || (Nat.ble 97 c && Nat.ble c 102) || Nat.beq c 108 || Nat.beq c 109 || (Nat.beq c 96 && Nat.beq k 15)
theorem ivP_in {c k : Nat} (h : ivP c k = true) : (48 ≤ c ∧ c ≤ 54) ∨ (c = 47 ∧ 2 ≤ k ∧ k ≤ 9) ∨ (97 ≤ c ∧ c ≤ 102) ∨ c = 108 ∨ c = 109 ∨ (c = 96 ∧ k = 15) := by
  unfold ivP at h
  simp only [Bool.or_eq_true, Bool.and_eq_true, Nat.ble_eq, Nat.beq_eq] at h
  omega
theorem ivP_r {c k : Nat} (h : ¬ ((48 ≤ c ∧ c ≤ 54) ∨ (c = 47 ∧ 2 ≤ k ∧ k ≤ 9) ∨ (97 ≤ c ∧ c ≤ 102) ∨ c = 108 ∨ c = 109 ∨ (c = 96 ∧ k = 15))) : ivP c k = false := by
  cases e : ivP c k with
  | false => rfl
  | true => exact absurd (ivP_in e) h
theorem ivP_t {c k : Nat} (h : (48 ≤ c ∧ c ≤ 54) ∨ (c = 47 ∧ 2 ≤ k ∧ k ≤ 9) ∨ (97 ≤ c ∧ c ≤ 102) ∨ c = 108 ∨ c = 109 ∨ (c = 96 ∧ k = 15)) : ivP c k = true := by
  unfold ivP
  simp only [Bool.or_eq_true, Bool.and_eq_true, Nat.ble_eq, Nat.beq_eq]
  omega
theorem m_inlineAll (hp : isP p) (hp96 : p ≠ 96) (hn : n ≤ 24) (hL : Lay t ad) (hcy : ∀ g, g < n → hb (t.2.1 (ad 20) g) g = cyc g) (hRp : RPar t ad p n par) (hpar6 : ∀ v, par v ≤ 6) (hS : ∀ f, f < n → sFn t ad p f (nm f) (sv f) (bo f)) (hbs : ∀ f, f < n → bodyS n par (sv f) (par (nI f)) (bo f)) (ho : ordI n cyc bo ord) (h18 : ∀ k, k < n → t.2.1 (ad 18) k = nI (ord k)) (h : ∀ u, gFr ad ivP t u → u.2.1 (ad 96) 15 = nI n → (∀ f, f < n → oFn u ad f (nm f) (par (nI f)) (inlS cyc lim par bo sv ord n f) ∧ bodyS n par (inlS cyc lim par bo sv ord n f).2.1 (par (nI f)) (inlS cyc lim par bo sv ord n f).1) → post (some (.int (nI (itot cyc lim par bo sv ord n)))) u) : g_E cx (d + 6) i_Inliner_inlineAll [.ref (ad 47), .ref (ad p), .ref (ad 96), .ref (ad 11), .int lim] t post := by
  have hpg := hp.ge
  have hpl := hp.lt
  have hp112 : 112 ≤ p := by rcases hp with rfl | rfl | rfl <;> first | exact absurd rfl hp96 | decide
  refine x_Inliner_inlineAll hp hL (fun t1 e1 t3 e3 t5 e5 t7 e7 t8 e8 => ?_)
  have F7 : gFr ad ivP t t7 := by
    rw [e7, e5, e3, e1]
    exact ((((gFr.rf hL).sr (c := 47) (k := 2) (ivP_t (by omega)) (by decide +kernel)).sr (c := 47) (k := 3) (ivP_t (by omega)) (by decide +kernel)).sr (c := 47) (k := 4) (ivP_t (by omega)) (by decide +kernel)).si (ivP_t (by omega))
  have r2 : t8.2.2.2 (ad 47) 2 = some (ad p) := by rw [e8, e7, e5, e3, e1]; exact (g_rr_o (Or.inr (by decide))).trans ((g_rr_o (Or.inr (by decide))).trans g_rr_at)
  have r3 : t8.2.2.2 (ad 47) 3 = some (ad 96) := by rw [e8, e7, e5, e3]; exact (g_rr_o (Or.inr (by decide))).trans g_rr_at
  have r4 : t8.2.2.2 (ad 47) 4 = some (ad 11) := by rw [e8, e7, e5]; exact g_rr_at
  rw [F7.i p 15 (ivP_r (by omega)) (by omega), hRp.2.1] at e8
  have F8 : gFr ad ivP t t8 := by rw [e8]; exact F7.si (ivP_t (by omega))
  have k5 : t8.2.1 (ad 47) 5 = lim := by rw [e8, g_rd_ne (hL.ne 47 96 (by decide) (by decide) (by decide)), e7, g_rd_at]
  have k15 : t8.2.1 (ad 96) 15 = nI n := by rw [e8, g_rd_at]
  have loop : ∀ m k (u : gSt), m + k = n → gFr ad ivP t u → u.2.2.2 (ad 47) 2 = some (ad p) → u.2.2.2 (ad 47) 3 = some (ad 96) → u.2.2.2 (ad 47) 4 = some (ad 11) → u.2.1 (ad 47) 5 = lim → u.2.1 (ad 96) 15 = nI n → (∀ g, (∃ j, j < k ∧ ord j = g) → oFn u ad g (nm g) (par (nI g)) (inlS cyc lim par bo sv ord k g)) → g_W cx (g_E cx (d + 5)) mt_Inliner_inlineAll post (35, [some (.ref (ad 47)), some (.ref (ad p)), some (.ref (ad 96)), some (.ref (ad 11)), some (.int lim), some (.int (nI (itot cyc lim par bo sv ord k))), some (.int (nI k))], [], u, 0, 0) := by
    intro m
    induction m with
    | zero =>
      intro k u hk hF a2 a3 a4 a5 a6 hO
      have hk : k = n := by omega
      subst hk
      refine x_Inliner_inlineAll_35 hp hF.L ?_
      rw [hF.i p 15 (ivP_r (by omega)) (by omega), hRp.2.1]
      exact ⟨fun _ => h u hF a6 (fun f hf => ⟨hO f (ho.2.2.1 f hf), inlS_ok hn hbs ho k (Nat.le_refl _) f (ho.2.2.1 f hf)⟩), fun z => absurd (nI_le (Nat.le_refl _) (by omega)) z⟩
    | succ m ih =>
      intro k u hk hF a2 a3 a4 a5 a6 hO
      have hok := ho.1 k (by omega)
      refine x_Inliner_inlineAll_35 hp hF.L ?_
      rw [hF.i p 15 (ivP_r (by omega)) (by omega), hRp.2.1, nI_clamp (n := k) (by omega), hF.i 18 k (ivP_r (by omega)), h18 k (by omega), nI_1 k]
      refine ⟨fun z => absurd z (nI_ge (by omega) (by omega)), fun _ => ⟨vp_in_nI (by omega) (by omega), ?_⟩⟩
      obtain ⟨s1, s2, s3, s0, s4, s5, s6⟩ := hS (ord k) hok
      have o : ∀ c j, 110 ≤ c → c < 199 → u.2.1 (ad c) j = t.2.1 (ad c) j := fun c j h1 hl => hF.i c j (ivP_r (by omega)) hl
      refine m_inlineIn (nm := nm) (rs := inlS cyc lim par bo sv ord k) (cyc := cyc) (lim := lim) (par := par) (bo := bo) (sv := sv) (tab := fun g => ∃ j, j < k ∧ ord j = g) hp hp96 hn hF.L hok a2 a3 a4 a5 (fun g hg => by rw [hF.i 20 g (ivP_r (by omega))]; exact hcy g hg) ⟨hn, by rw [o _ _ (by omega) (by omega)]; exact hRp.2.1, fun g hg => by rw [o _ _ (by omega) (by omega)]; exact hRp.2.2 g hg⟩ hpar6 ⟨by rw [hF.j _ _ (ivP_r (by omega)) (by omega)]; exact s1, by rw [o _ _ (by omega) (by omega)]; exact s2, by rw [o _ _ (by omega) (by omega)]; exact s3, s0, by rw [o _ _ (by omega) (by omega)]; exact s4, s5, fun i q hq => by rw [o _ _ (by omega) (by omega), o _ _ (by omega) (by omega)]; exact s6 i q hq⟩ (hbs _ hok) (fun g hg hgt => ⟨?_, hO g hgt, inlS_ok hn hbs ho k (by omega) g hgt⟩) (fun g hg hgn => ho.2.2.2 k g (by omega) hgn hg) (fun w FW oW kW w8 => ⟨rfl, FW.L, fun x3 e3 => ?_⟩)
      · obtain ⟨j, hj, ej⟩ := hgt
        intro c
        have := ho.2.1 j k (by omega) (by omega) (by rw [ej, c])
        omega
      · rw [w8, nI_add] at e3
        subst e3
        refine ih (k + 1) w (by omega) (hF.tr (FW.mo (fun c j q => ivP_t (by have := ilP_in q; omega)))) ?_ ?_ ?_ ?_ ?_ (fun g hg => ?_)
        · rw [FW.r 47 2 (ilP_r (by omega))]; exact a2
        · rw [FW.r 47 3 (ilP_r (by omega))]; exact a3
        · rw [FW.r 47 4 (ilP_r (by omega))]; exact a4
        · rw [FW.i 47 5 (ilP_r (by omega))]; exact a5
        · rw [FW.i 96 15 (ilP_r (by omega))]; exact a6
        · obtain ⟨j, hj, ej⟩ := hg
          by_cases c : j = k
          · subst c
            rw [← ej, inlS_s, if_pos rfl]
            exact oW
          · have hgt : ∃ j, j < k ∧ ord j = g := ⟨j, by omega, ej⟩
            have hgn : g < n := by rw [← ej]; exact ho.1 j (by omega)
            have hne : g ≠ ord k := fun z => by
              have := ho.2.1 j k (by omega) (by omega) (by rw [ej, z])
              omega
            rw [inlS_st ho (by omega) hgt]
            exact kW g _ (by omega) hne (inlS_ok hn hbs ho k (by omega) g hgt).2.1 (hO g hgt)
  exact loop n 0 t8 (by omega) F8 r2 r3 r4 k5 k15 (fun g hg => by obtain ⟨j, hj, _⟩ := hg; omega)
end IN3
