/-! PUTTING FUNCTIONS WHERE THEY ARE CALLED: the class, all functions -/
/-- a function that came out: body, variables, replaced -/
abbrev IR : Type := Fo × Nat × Nat
def okI (cyc : Nat → Bool) (lim : Int32) (rs : Nat → IR) (g : Nat) : Bool := !cyc g && (decide (nI (fo_n (rs g).1) ≤ lim) && decide (fo_l (rs g).1 = 1))
def inl (cyc : Nat → Bool) (lim : Int32) (par : Int32 → Nat) (bo : Nat → Fo) (sv : Nat → Nat) (rs : Nat → IR) (f : Nat) : IR :=
  ((inF (okI cyc lim rs) par (fun g => (rs g).1) (fun g => (rs g).2.1) (bo f) (fo_n (bo f), sv f, 0)).1, (inF (okI cyc lim rs) par (fun g => (rs g).1) (fun g => (rs g).2.1) (bo f) (fo_n (bo f), sv f, 0)).2.2.1, (inF (okI cyc lim rs) par (fun g => (rs g).1) (fun g => (rs g).2.1) (bo f) (fo_n (bo f), sv f, 0)).2.2.2)
def inlS (cyc : Nat → Bool) (lim : Int32) (par : Int32 → Nat) (bo : Nat → Fo) (sv : Nat → Nat) (ord : Nat → Nat) : Nat → (Nat → IR)
  | 0 => fun _ => (.leaf, 0, 0)
  | k + 1 => fun g => if g = ord k then inl cyc lim par bo sv (inlS cyc lim par bo sv ord k) (ord k) else inlS cyc lim par bo sv ord k g
/-- a source's body, ready -/
def bodyS (n : Nat) (par : Int32 → Nat) (V : Nat) (P : Nat) (F : Fo) : Prop := fo_l F = 1 ∧ fo_n F ≤ 500 ∧ P ≤ 6 ∧ P ≤ V ∧ V ≤ 120 ∧ fo_w n par F (fun _ => (List.range P).map nI) ∧ ((List.range P).map nI ++ fo_b F).Nodup ∧ ∀ w ∈ fo_b F, ∃ j, w = nI j ∧ P ≤ j ∧ j < V
theorem inl_ok {n : Nat} {par : Int32 → Nat} {cyc : Nat → Bool} {lim : Int32} {bo : Nat → Fo} {sv : Nat → Nat} {rs : Nat → IR} {f : Nat} (hn : n ≤ 24) (hr : ∀ g, okI cyc lim rs g = true → bodyS n par (rs g).2.1 (par (nI g)) (rs g).1) (hb : bodyS n par (sv f) (par (nI f)) (bo f)) : bodyS n par (inl cyc lim par bo sv rs f).2.1 (par (nI f)) (inl cyc lim par bo sv rs f).1 := by
  obtain ⟨b1, b2, b3, b4, b5, b6, b7, b8⟩ := hb
  have hI : ∀ g, okI cyc lim rs g = true → bodyI n par g (rs g).1 (rs g).2.1 := fun g hg => by
    obtain ⟨a1, a2, a3, a4, a5, a6, a7, a8⟩ := hr g hg
    exact ⟨a1, a6, (List.nodup_append.mp a7).2.1, a4, a5, a8⟩
  have hl : ∀ g, okI cyc lim rs g = true → fo_l (rs g).1 = 1 := fun g hg => (hI g hg).1
  have hd := List.nodup_append.mp b7
  obtain ⟨s1, s2, s3, s4, s5⟩ := inF_s (bV := fun g => (rs g).2.1) (bd := fun g => (rs g).1) hn hl (bo f) _ (fo_n (bo f), sv f, 0) b6 (Nat.le_refl _) b2 b5
  obtain ⟨w1, w2, w3, w4, w5⟩ := inF_w (bV := fun g => (rs g).2.1) (bd := fun g => (rs g).1) (Vc := sv f) hn hI (bo f) _ (fo_n (bo f), sv f, 0) b6 hd.2.1 (fun w hw => by obtain ⟨j, j1, _, j3⟩ := b8 w hw; exact ⟨j, j1, j3⟩) (Nat.le_refl _) b5
  dsimp only at s1 s3 w3 w4
  have hnew : ∀ w ∈ fo_b (inl cyc lim par bo sv rs f).1, ∃ j, w = nI j ∧ par (nI f) ≤ j ∧ j < (inl cyc lim par bo sv rs f).2.1 := by
    intro w hw
    rcases w3 w hw with c | ⟨j, j1, j2, j3⟩
    · obtain ⟨j, j1, j2, j3⟩ := b8 w c
      exact ⟨j, j1, j2, Nat.lt_of_lt_of_le j3 w4⟩
    · exact ⟨j, j1, by omega, j3⟩
  refine ⟨by unfold inl; rw [inF_l hl]; exact b1, by unfold inl; dsimp only; omega, b3, by unfold inl; dsimp only; omega, w5, w1, List.nodup_append.mpr ⟨hd.1, w2, fun x hx y hy e => ?_⟩, hnew⟩
  subst e
  obtain ⟨j, j1, j2, j3⟩ := hnew x hy
  obtain ⟨i, i1, i2⟩ := List.mem_map.mp hx
  have i1 := List.mem_range.mp i1
  rw [j1] at i2
  have hlt : (inl cyc lim par bo sv rs f).2.1 ≤ 120 := w5
  have := (nI_eq (by omega) (by omega)).mp i2
  omega
def ilP (f c k : Nat) : Bool := (Nat.ble 48 c && Nat.ble c 54) || (Nat.beq c 47 && (Nat.ble 6 k && Nat.ble k 9)) || (Nat.beq k f && (Nat.ble 97 c && Nat.ble c 102)) || Nat.beq c 108 || Nat.beq c 109
theorem ilP_in {f c k : Nat} (h : ilP f c k = true) : (48 ≤ c ∧ c ≤ 54) ∨ (c = 47 ∧ 6 ≤ k ∧ k ≤ 9) ∨ (k = f ∧ 97 ≤ c ∧ c ≤ 102) ∨ c = 108 ∨ c = 109 := by
  unfold ilP at h
  simp only [Bool.or_eq_true, Bool.and_eq_true, Nat.ble_eq, Nat.beq_eq] at h
  omega
theorem ilP_r {f c k : Nat} (h : ¬ ((48 ≤ c ∧ c ≤ 54) ∨ (c = 47 ∧ 6 ≤ k ∧ k ≤ 9) ∨ (k = f ∧ 97 ≤ c ∧ c ≤ 102) ∨ c = 108 ∨ c = 109)) : ilP f c k = false := by
  cases e : ilP f c k with
  | false => rfl
  | true => exact absurd (ilP_in e) h
theorem ilP_t {f c k : Nat} (h : (48 ≤ c ∧ c ≤ 54) ∨ (c = 47 ∧ 6 ≤ k ∧ k ≤ 9) ∨ (k = f ∧ 97 ≤ c ∧ c ≤ 102) ∨ c = 108 ∨ c = 109) : ilP f c k = true := by
  unfold ilP
  simp only [Bool.or_eq_true, Bool.and_eq_true, Nat.ble_eq, Nat.beq_eq]
  omega
/-- function f of the output (its code apart) -/
def oFn (t : gSt) (ad : Nat → Nat) (f : Nat) (nm : Int64) (P : Nat) (r : IR) : Prop := t.2.2.1 (ad 97) f = nm ∧ t.2.1 (ad 98) f = nI P ∧ t.2.1 (ad 99) f = nI r.2.1 ∧ t.2.1 (ad 100) f = nI (500 * f) ∧ t.2.1 (ad 101) f = nI (fo_n r.1) ∧ t.2.1 (ad 102) f = nI r.2.2 ∧ rows (t.2.1 (ad 108)) (t.2.1 (ad 109)) (500 * f) (fo_p r.1)
section IL
variable {cx : gCx} {d : Nat} {ad : Nat → Nat} {t : gSt} {post : Option Value → gSt → Prop} {p n : Nat} {par : Int32 → Nat} {lim : Int32} {cyc : Nat → Bool} {bo : Nat → Fo} {sv : Nat → Nat} {rs : Nat → IR} {nm : Nat → Int64}
/-- what the source says of function f -/
def sFn (t : gSt) (ad : Nat → Nat) (p f : Nat) (nm : Int64) (V : Nat) (F : Fo) : Prop := t.2.2.1 (ad (p + 1)) f = nm ∧ t.2.1 (ad (p + 3)) f = nI V ∧ t.2.1 (ad (p + 5)) f = nI (fo_n F) ∧ RB t ad p f F
theorem m_inlineIn {f : Nat} (hp : isP p) (hp96 : p ≠ 96) (hn : n ≤ 24) (hL : Lay t ad) (hf : f < n) (h2 : t.2.2.2 (ad 47) 2 = some (ad p)) (h3 : t.2.2.2 (ad 47) 3 = some (ad 96)) (h4 : t.2.2.2 (ad 47) 4 = some (ad 11)) (h5 : t.2.1 (ad 47) 5 = lim) (hcy : ∀ g, g < n → hb (t.2.1 (ad 20) g) g = cyc g) (hRp : RPar t ad p n par) (hpar6 : ∀ v, par v ≤ 6) (hS : sFn t ad p f (nm f) (sv f) (bo f)) (hbs : bodyS n par (sv f) (par (nI f)) (bo f)) {tab : Nat → Prop} (hT : ∀ g, g < n → tab g → g ≠ f ∧ oFn t ad g (nm g) (par (nI g)) (rs g) ∧ bodyS n par (rs g).2.1 (par (nI g)) (rs g).1) (hC : ∀ g, nI g ∈ fo_g (bo f) → g < n → cyc g = true ∨ tab g) (h : ∀ u, gFr ad (ilP f) t u → oFn u ad f (nm f) (par (nI f)) (inl cyc lim par bo sv rs f) → (∀ g r, g < 24 → g ≠ f → fo_n r.1 ≤ 500 → oFn t ad g (nm g) (par (nI g)) r → oFn u ad g (nm g) (par (nI g)) r) → u.2.1 (ad 47) 8 = nI (inl cyc lim par bo sv rs f).2.2 → post none u) : g_E cx (d + 5) i_Inliner_inlineIn [.ref (ad 47), .int (nI f)] t post := by
  have hpg := hp.ge
  have hpl := hp.lt
  have hp112 : 112 ≤ p := by rcases hp with rfl | rfl | rfl <;> first | exact absurd rfl hp96 | decide
  have hf24 : f < 24 := by omega
  have hvf := vp_in_nI (N := 24) hf24 (by omega)
  obtain ⟨s1, s2, s3, s0, s4, s5, s6⟩ := hS
  obtain ⟨b1, b2, b3, b4, b5, b6, b7, b8⟩ := hbs
  have hokT : ∀ g, okI cyc lim rs g = true → g < n → (cyc g = true ∨ tab g) → tab g := fun g hg _ hc => hc.resolve_left (fun c => by
    unfold okI at hg
    rw [c] at hg
    cases hg)
  have hl1 : ∀ g, okI cyc lim rs g = true → fo_l (rs g).1 = 1 := fun g hg => by
    unfold okI at hg
    rw [Bool.and_eq_true, Bool.and_eq_true, decide_eq_true_eq, decide_eq_true_eq] at hg
    exact hg.2.2
  have hokE : ∀ g, g < n → (cyc g = true ∨ tab g) → okI cyc lim rs g = (!cyc g && decide (nI (fo_n (rs g).1) ≤ lim)) := fun g hg hc => by
    unfold okI
    cases hcg : cyc g with
    | true => rfl
    | false =>
      have ht : tab g := hc.resolve_left (by rw [hcg]; decide)
      rw [decide_eq_true (hT g hg ht).2.2.1, Bool.and_true]
  have hfn1 : 1 ≤ fo_n (bo f) := by
    have := fo_ln (bo f)
    omega
  have hT' : iTab t ad p n lim cyc tab (fun g => (rs g).1) (fun g => (rs g).2.1) := ⟨h2, h3, h4, h5, hcy, fun g hg ht => by
    obtain ⟨_, ⟨_, _, o3, _, o5, _, _⟩, c1, c2, _, _, c5, _⟩ := hT g hg ht
    have := fo_ln (rs g).1
    exact ⟨o5, o3, (by show 1 ≤ fo_n (rs g).1; omega), c2, c5⟩⟩
  refine x_Inliner_inlineIn hp hL h2 ⟨hvf, fun t1 e1 => ⟨hvf, fun t2 e2 t3 e3 => ?_⟩⟩
  rw [nI_clamp (by omega), s3] at e1
  have n1 : ∀ c k, c ≠ 47 → c < 199 → t1.2.1 (ad c) k = t.2.1 (ad c) k := fun c k hc hl => by rw [e1, g_rd_ne (hL.ne c 47 hl (by decide) hc)]
  rw [nI_clamp (by omega), n1 _ _ (by omega) (by omega), s2] at e2
  have F3 : gFr ad iaP t t3 := by rw [e3, e2, e1]; exact (((gFr.rf hL).si (iaP_t (by omega))).si (iaP_t (by omega))).si (iaP_t (by omega))
  have o3 : ∀ c k, c ≠ 47 → c < 199 → t3.2.1 (ad c) k = t.2.1 (ad c) k := fun c k hc hl => by
    have hne := hL.ne c 47 hl (by decide) hc
    rw [e3, g_rd_ne hne, e2, g_rd_ne hne, e1, g_rd_ne hne]
  have k6 : t3.2.1 (ad 47) 6 = nI (fo_n (bo f)) := by rw [e3, g_rd_k (by decide), e2, g_rd_k (by decide), e1, g_rd_at]
  have k7 : t3.2.1 (ad 47) 7 = nI (sv f) := by rw [e3, g_rd_k (by decide), e2, g_rd_at]
  have k8 : t3.2.1 (ad 47) 8 = nI 0 := by rw [e3, g_rd_at]; rfl
  have hVi : fo_v n par (iC n cyc tab) (bo f) := by
    have aux : ∀ (F : Fo) (S : Nat → List Int32), fo_w n par F S → (∀ w ∈ fo_g F, ∀ g, w = nI g → g < n → cyc g = true ∨ tab g) → fo_v n par (iC n cyc tab) F := by
      intro F
      induction F with
      | leaf => intro _ _ _; trivial
      | inner z k v a b iha ihb =>
        intro S hw hg
        obtain ⟨w1, w2, w3, w4, w5, w6⟩ := hw
        have eg : fo_g (.inner z k v a b) = fo_g a ++ (if k = 15 then [v] else []) ++ fo_g b := rfl
        rw [eg] at hg
        refine ⟨⟨w1, w2, w4, fun c => ?_⟩, iha _ w5 (fun w hw => hg w (List.mem_append.mpr (Or.inl (List.mem_append.mpr (Or.inl hw))))), ihb _ w6 (fun w hw => hg w (List.mem_append.mpr (Or.inr hw)))⟩
        obtain ⟨g, e, hgn⟩ := w4 c
        exact ⟨g, e, hgn, hg v (List.mem_append.mpr (Or.inl (List.mem_append.mpr (Or.inr (by rw [if_pos c]; exact List.mem_singleton.mpr rfl))))) g e hgn⟩
    exact aux _ _ b6 (fun w hw g e hgn => hC g (by rw [← e]; exact hw) hgn)
  refine m_chooseCalls (d := d) (s := (fo_n (bo f), sv f, 0)) (ok := okI cyc lim rs) (bd := fun g => (rs g).1) (bV := fun g => (rs g).2.1) (F := bo f) (s0 := s0) hp hf24 hn hokE F3.L (hT'.ia F3) ⟨hn, by rw [o3 _ _ (by omega) (by omega)]; exact hRp.2.1, fun g hg => by rw [o3 _ _ (by omega) (by omega)]; exact hRp.2.2 g hg⟩ hpar6 (by rw [o3 _ _ (by omega) (by omega)]; exact s4) s5 (fun i q hq => by rw [o3 _ _ (by omega) (by omega), o3 _ _ (by omega) (by omega)]; exact s6 i q hq) b1 hVi b2 rfl k6 k7 k8 hfn1 b2 b5 (fun u4 Q4 => ?_)
  obtain ⟨F4, q1, ⟨q2, q3, q4⟩, _⟩ := Q4
  have F04 : gFr ad iaP t u4 := F3.tr F4
  rw [chF_s] at q2 q3 q4
  have hr3 : u4.2.2.2 (ad 47) 3 = some (ad 96) := by rw [F04.r 47 3 (iaP_r (by omega))]; exact h3
  refine ⟨rfl, F4.L, hr3, hvf, fun t6 e6 => ⟨hvf, fun t7 e7 => ?_⟩⟩
  rw [nI_clamp (by omega), show nI f * 500 = nI (500 * f) by rw [show (500 : Int32) = nI 500 from rfl, nI_mul, Nat.mul_comm]] at e6
  have t6100 : t6.2.1 (ad 100) f = nI (500 * f) := by rw [e6, g_rd_at]
  rw [nI_clamp (by omega), t6100] at e7
  have o7 : ∀ c k, c ≠ 47 → c ≠ 100 → c < 199 → t7.2.1 (ad c) k = u4.2.1 (ad c) k := fun c k h1 h2 hl => by rw [e7, g_rd_ne (hL.ne c 47 hl (by decide) h1), e6, g_rd_ne (hL.ne c 100 hl (by decide) h2)]
  have F7 : gFr ad (ilP f) t t7 := by
    rw [e7, e6]
    exact ((F04.mo (fun c k q => ilP_t (by have := iaP_in q; omega))).si (ilP_t (by omega))).si (ilP_t (by omega))
  have o70 : ∀ c k, 55 ≤ c → c ≠ 100 → c < 199 → t7.2.1 (ad c) k = t.2.1 (ad c) k := fun c k h1 h2 hl => by rw [o7 c k (by omega) h2 hl, F04.i c k (iaP_r (by omega)) hl]
  have o7100 : ∀ k, k ≠ f → t7.2.1 (ad 100) k = t.2.1 (ad 100) k := fun k hk => by rw [e7, g_rd_ne (hL.ne 100 47 (by decide) (by decide) (by decide)), e6, g_rd_k hk, F04.i 100 k (iaP_r (by omega))]
  have r7 : ∀ c k, (t7.2.2.2 (ad c) k) = u4.2.2.2 (ad c) k := fun c k => by rw [e7, e6]; rfl
  have b54 : t7.2.1 (ad 54) = (chF (okI cyc lim rs) par (fun g => (rs g).1) (fun g => (rs g).2.1) (bo f) 0 (t3.2.1 (ad 54), fo_n (bo f), sv f, 0)).1 := by
    rw [show t7.2.1 (ad 54) = u4.2.1 (ad 54) from funext (fun k => o7 54 k (by decide) (by decide) (by decide))]
    exact q1
  refine m_copyW (d := d) (F := bo f) (s0 := s0) (bd := fun g => (rs g).1) (n := n) (par := par) (B := (chF (okI cyc lim rs) par (fun g => (rs g).1) (fun g => (rs g).2.1) (bo f) 0 (t3.2.1 (ad 54), fo_n (bo f), sv f, 0)).1) hp hp96 hf24 hn F7.L (by rw [r7, F04.r 47 2 (iaP_r (by omega))]; exact h2) (by rw [r7]; exact hr3) ⟨hn, by rw [o70 _ _ (by omega) (by omega) (by omega)]; exact hRp.2.1, fun g hg => by rw [o70 _ _ (by omega) (by omega) (by omega)]; exact hRp.2.2 g hg⟩ hpar6 (by rw [o70 _ _ (by omega) (by omega) (by omega)]; exact s4) s5 (fun i q hq => by rw [o70 _ _ (by omega) (by omega) (by omega), o70 _ _ (by omega) (by omega) (by omega)]; exact s6 i q hq) b1 (fo_wv _ _ b6) b2 b54 (by rw [e7, g_rd_at]) (fun i k v hi => ?_) (fun u8 Q8 => ?_)
  · have hat := chF_at (ok := okI cyc lim rs) (par := par) (bd := fun g => (rs g).1) (bV := fun g => (rs g).2.1) (bo f) 0 (t3.2.1 (ad 54)) (fo_n (bo f), sv f, 0) i k v b5 hi
    rw [Nat.zero_add] at hat
    rcases hat with c | ⟨c15, cok, f0, hf0, ef0⟩
    · exact Or.inl c
    · refine Or.inr ⟨c15, ?_, f0, hf0, ef0⟩
      have hmem : v ∈ fo_g (bo f) := by
        have aux : ∀ (F : Fo), (k, v) ∈ fo_p F → v ∈ fo_g F := by
          intro F
          induction F with
          | leaf => intro h; cases h
          | inner z k0 v0 a b iha ihb =>
            intro h
            have ep : fo_p (.inner z k0 v0 a b) = (k0, v0) :: (fo_p a ++ fo_p b) := rfl
            have eg : fo_g (.inner z k0 v0 a b) = fo_g a ++ (if k0 = 15 then [v0] else []) ++ fo_g b := rfl
            rw [ep] at h
            rw [eg]
            rcases List.mem_cons.mp h with h | h
            · have h1 : k = k0 ∧ v = v0 := by simpa using h
              refine List.mem_append.mpr (Or.inl (List.mem_append.mpr (Or.inr ?_)))
              rw [if_pos (by rw [← h1.1]; exact c15), h1.2]
              exact List.mem_singleton.mpr rfl
            · rcases List.mem_append.mp h with h | h
              · exact List.mem_append.mpr (Or.inl (List.mem_append.mpr (Or.inl (iha h))))
              · exact List.mem_append.mpr (Or.inr (ihb h))
        exact aux _ (List.mem_of_getElem? hi)
      obtain ⟨g, eg, hgn⟩ : ∃ g, v = nI g ∧ g < n := by
        have aux : ∀ (F : Fo) (S : Nat → List Int32), fo_w n par F S → v ∈ fo_g F → ∃ g, v = nI g ∧ g < n := by
          intro F
          induction F with
          | leaf => intro _ _ h; cases h
          | inner z k0 v0 a b iha ihb =>
            intro S hw h
            obtain ⟨w1, w2, w3, w4, w5, w6⟩ := hw
            have eg : fo_g (.inner z k0 v0 a b) = fo_g a ++ (if k0 = 15 then [v0] else []) ++ fo_g b := rfl
            rw [eg] at h
            rcases List.mem_append.mp h with h | h
            · rcases List.mem_append.mp h with h | h
              · exact iha _ w5 h
              · by_cases c : k0 = 15
                · rw [if_pos c] at h
                  rw [List.mem_singleton.mp h]
                  exact w4 c
                · rw [if_neg c] at h
                  cases h
            · exact ihb _ w6 h
        exact aux _ _ b6 hmem
      have ev : v.toNatClampNeg = g := by rw [eg, nI_clamp (by omega)]
      rw [ev] at cok
      have ht : tab g := hokT g cok hgn (hC g (by rw [← eg]; exact hmem) hgn)
      obtain ⟨hgf, ⟨_, _, _, o4, o5, _, o7'⟩, _, c2, _⟩ := hT g hgn ht
      refine ⟨g, eg, hgn, by omega, hgf, by rw [o7100 g hgf]; exact o4, by rw [o70 101 g (by decide) (by decide) (by decide)]; exact o5, c2, fun i q hq => by rw [o70 108 _ (by decide) (by decide) (by decide), o70 109 _ (by decide) (by decide) (by decide)]; exact o7' i q hq⟩
  · rw [visT_cp (n := n) (S := fun _ => (List.range (par (nI f))).map nI) (ok := okI cyc lim rs) (bV := fun g => (rs g).2.1) (s := (fo_n (bo f), sv f, 0)) (Br := t3.2.1 (ad 54)) hn hl1 b1 b6 b5 (fun j hj => rfl)] at Q8
    obtain ⟨G8, g1, g2⟩ := Q8
    have hF8 : gFr ad (ilP f) t u8 := F7.tr (G8.mo (fun c k q => ilP_t (by have := ipP_in q; omega)))
    have hinl : (inl cyc lim par bo sv rs f) = ((inF (okI cyc lim rs) par (fun g => (rs g).1) (fun g => (rs g).2.1) (bo f) (fo_n (bo f), sv f, 0)).1, (inF (okI cyc lim rs) par (fun g => (rs g).1) (fun g => (rs g).2.1) (bo f) (fo_n (bo f), sv f, 0)).2.2.1, (inF (okI cyc lim rs) par (fun g => (rs g).1) (fun g => (rs g).2.1) (bo f) (fo_n (bo f), sv f, 0)).2.2.2) := rfl
    obtain ⟨r, er⟩ : ∃ r, inF (okI cyc lim rs) par (fun g => (rs g).1) (fun g => (rs g).2.1) (bo f) (fo_n (bo f), sv f, 0) = r := ⟨_, rfl⟩
    rw [er] at hinl g1 g2 q3 q4
    have hsz := inF_s (bV := fun g => (rs g).2.1) (bd := fun g => (rs g).1) hn hl1 (bo f) _ (fo_n (bo f), sv f, 0) b6 (Nat.le_refl _) b2 b5
    rw [er] at hsz
    dsimp only at hsz
    have hlen : (fo_p r.1).length = fo_n r.1 := fo_pn _
    have hr5 : fo_n r.1 ≤ 500 := by omega
    obtain ⟨g3, g4⟩ := g2 (by omega)
    rw [hlen, show min (500 * f + fo_n r.1) 12000 = 500 * f + fo_n r.1 by omega] at g1
    have u7 : u8.2.1 (ad 47) 7 = nI r.2.2.1 := by rw [G8.i 47 7 (ipP_r (by omega)), e7, g_rd_k (by decide), e6, g_rd_ne (hL.ne 47 100 (by decide) (by decide) (by decide))]; exact q3
    have u8' : u8.2.1 (ad 47) 8 = nI r.2.2.2 := by rw [G8.i 47 8 (ipP_r (by omega)), e7, g_rd_k (by decide), e6, g_rd_ne (hL.ne 47 100 (by decide) (by decide) (by decide))]; exact q4
    have u100 : u8.2.1 (ad 100) f = nI (500 * f) := by rw [G8.i 100 f (ipP_r (by omega)), e7, g_rd_ne (hL.ne 100 47 (by decide) (by decide) (by decide)), e6, g_rd_at]
    have p2 : u8.2.1 (ad (p + 2)) f = nI (par (nI f)) := by rw [hF8.i _ _ (ilP_r (by omega)) (by omega)]; exact hRp.2.2 f hf
    have p1 : u8.2.2.1 (ad (p + 1)) f = nm f := by rw [hF8.j _ _ (ilP_r (by omega)) (by omega)]; exact s1
    refine ⟨rfl, G8.L, by rw [hF8.r 47 2 (ilP_r (by omega))]; exact h2, by rw [hF8.r 47 3 (ilP_r (by omega))]; exact h3, hvf, hvf, fun t10 e10 => ⟨hvf, hvf, fun t11 e11 => ⟨hvf, fun t12 e12 => ⟨hvf, hvf, fun t13 e13 => ⟨hvf, fun t14 e14 => ?_⟩⟩⟩⟩⟩
    rw [nI_clamp (by omega), p1] at e10
    have i10 : ∀ c k, t10.2.1 (ad c) k = u8.2.1 (ad c) k := fun c k => by rw [e10]; rfl
    rw [nI_clamp (by omega), i10, p2] at e11
    have n11 : ∀ c k, c ≠ 98 → c < 199 → t11.2.1 (ad c) k = u8.2.1 (ad c) k := fun c k h1 hl => by rw [e11, g_rd_ne (hL.ne c 98 hl (by decide) h1), i10]
    rw [nI_clamp (by omega), n11 47 7 (by decide) (by decide), u7] at e12
    have n12 : ∀ c k, c ≠ 98 → c ≠ 99 → c < 199 → t12.2.1 (ad c) k = u8.2.1 (ad c) k := fun c k h1 h2 hl => by rw [e12, g_rd_ne (hL.ne c 99 hl (by decide) h2), n11 c k h1 hl]
    rw [nI_clamp (by omega), n12 47 9 (by decide) (by decide) (by decide), g1, n12 100 f (by decide) (by decide) (by decide), u100, nI_sub (by omega), Nat.add_sub_cancel_left] at e13
    have n13 : ∀ c k, c ≠ 98 → c ≠ 99 → c ≠ 101 → c < 199 → t13.2.1 (ad c) k = u8.2.1 (ad c) k := fun c k h1 h2 h3 hl => by rw [e13, g_rd_ne (hL.ne c 101 hl (by decide) h3), n12 c k h1 h2 hl]
    rw [nI_clamp (by omega), n13 47 8 (by decide) (by decide) (by decide) (by decide), u8'] at e14
    have n14 : ∀ c k, c ≠ 98 → c ≠ 99 → c ≠ 101 → c ≠ 102 → c < 199 → t14.2.1 (ad c) k = u8.2.1 (ad c) k := fun c k h1 h2 h3 h4 hl => by rw [e14, g_rd_ne (hL.ne c 102 hl (by decide) h4), n13 c k h1 h2 h3 hl]
    have k14 : ∀ c k, k ≠ f → c < 199 → t14.2.1 (ad c) k = u8.2.1 (ad c) k := fun c k hk hl => by
      have g : ∀ (w : gSt) (c2 : Nat) (x : Int32), c2 < 199 → (g_si w (ad c2) f x).2.1 (ad c) k = w.2.1 (ad c) k := fun w c2 x hc2 => by
        by_cases c0 : c = c2
        · subst c0; rw [g_rd_k hk]
        · rw [g_rd_ne (hL.ne c c2 hl hc2 c0)]
      rw [e14, g _ _ _ (by decide), e13, g _ _ _ (by decide), e12, g _ _ _ (by decide), e11, g _ _ _ (by decide), i10]
    have j14 : ∀ c k, t14.2.2.1 (ad c) k = t10.2.2.1 (ad c) k := fun c k => by rw [e14, e13, e12, e11]; rfl
    have F14 : gFr ad (ilP f) t t14 := by
      rw [e14, e13, e12, e11, e10]
      exact ((((hF8.sj (ilP_t (by omega))).si (ilP_t (by omega))).si (ilP_t (by omega))).si (ilP_t (by omega))).si (ilP_t (by omega))
    have w108 : t14.2.1 (ad 108) = wr (t.2.1 (ad 108)) (500 * f) ((fo_p r.1).map (·.1)) := by
      rw [show t14.2.1 (ad 108) = u8.2.1 (ad 108) from funext (fun k => n14 108 k (by decide) (by decide) (by decide) (by decide) (by decide)), g3, show t7.2.1 (ad 108) = t.2.1 (ad 108) from funext (fun k => o70 108 k (by decide) (by decide) (by decide))]
    have w109 : t14.2.1 (ad 109) = wr (t.2.1 (ad 109)) (500 * f) ((fo_p r.1).map (·.2)) := by
      rw [show t14.2.1 (ad 109) = u8.2.1 (ad 109) from funext (fun k => n14 109 k (by decide) (by decide) (by decide) (by decide) (by decide)), g4, show t7.2.1 (ad 109) = t.2.1 (ad 109) from funext (fun k => o70 109 k (by decide) (by decide) (by decide))]
    refine h t14 F14 ?_ (fun g q hg24 hgf hq5 ho => ?_) ?_
    · rw [hinl]
      refine ⟨?_, ?_, ?_, ?_, ?_, ?_, fun i q hq => ?_⟩
      · rw [j14, e10]
        exact g_up_v
      · rw [e14, g_rd_ne (hL.ne 98 102 (by decide) (by decide) (by decide)), e13, g_rd_ne (hL.ne 98 101 (by decide) (by decide) (by decide)), e12, g_rd_ne (hL.ne 98 99 (by decide) (by decide) (by decide)), e11, g_rd_at]
      · rw [e14, g_rd_ne (hL.ne 99 102 (by decide) (by decide) (by decide)), e13, g_rd_ne (hL.ne 99 101 (by decide) (by decide) (by decide)), e12, g_rd_at]
      · rw [n14 100 f (by decide) (by decide) (by decide) (by decide) (by decide)]; exact u100
      · rw [e14, g_rd_ne (hL.ne 101 102 (by decide) (by decide) (by decide)), e13, g_rd_at]
      · rw [e14, g_rd_at]
      · rw [w108, w109]
        exact ⟨wr_at (by rw [List.getElem?_map, hq]; rfl), wr_at (by rw [List.getElem?_map, hq]; rfl)⟩
    · obtain ⟨x1, x2, x3, x4, x5, x6, x7⟩ := ho
      have kk : ∀ c, 97 ≤ c → c ≤ 102 → t14.2.1 (ad c) g = t.2.1 (ad c) g := fun c h1 h2 => F14.i c g (ilP_r (by omega)) (by omega)
      refine ⟨by rw [F14.j 97 g (ilP_r (by omega))]; exact x1, by rw [kk 98 (by decide) (by decide)]; exact x2, by rw [kk 99 (by decide) (by decide)]; exact x3, by rw [kk 100 (by decide) (by decide)]; exact x4, by rw [kk 101 (by decide) (by decide)]; exact x5, by rw [kk 102 (by decide) (by decide)]; exact x6, fun i y hy => ?_⟩
      have hi := (List.getElem?_eq_some_iff.mp hy).1
      rw [fo_pn] at hi
      have side : ∀ (Z : Nat → Int32) (l : List Int32), l.length = fo_n r.1 → wr Z (500 * f) l (500 * g + i) = Z (500 * g + i) := fun Z l hl => by
        unfold wr
        split
        · rw [List.getElem?_eq_none (by
            rw [hl]
            have : g < f ∨ f < g := by omega
            rcases this with z | z
            · have : 500 * g + 500 ≤ 500 * f := by omega
              omega
            · have : 500 * f + 500 ≤ 500 * g := by omega
              omega)]
          rfl
        · rfl
      rw [w108, w109, side _ _ (by rw [List.length_map]; exact hlen), side _ _ (by rw [List.length_map]; exact hlen)]
      exact x7 i y hy
    · rw [n14 47 8 (by decide) (by decide) (by decide) (by decide) (by decide), u8', hinl]
end IL
