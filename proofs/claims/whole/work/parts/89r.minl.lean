/-! PUTTING FUNCTIONS WHERE THEY ARE CALLED: the model, one function -/
def mnP (g c k : Nat) : Bool := mrP c k || Nat.beq c 177 || (Nat.beq c 150 && Nat.beq k g)
theorem mnP_in {g c k : Nat} (h : mnP g c k = true) : (151 ≤ c ∧ c ≤ 155 ∧ 62400 ≤ k) ∨ ((c = 148 ∨ c = 156) ∧ k = 48) ∨ c = 180 ∨ c = 177 ∨ (c = 150 ∧ k = g) := by
  unfold mnP at h
  simp only [Bool.or_eq_true, Bool.and_eq_true, Nat.beq_eq] at h
  rcases h with (h | h) | h
  · have := mrP_in h
    omega
  · omega
  · omega
theorem mnP_r {g c k : Nat} (h : ¬ ((151 ≤ c ∧ c ≤ 155 ∧ 62400 ≤ k) ∨ ((c = 148 ∨ c = 156) ∧ k = 48) ∨ c = 180 ∨ c = 177 ∨ (c = 150 ∧ k = g))) : mnP g c k = false := by
  cases e : mnP g c k with
  | false => rfl
  | true => exact absurd (mnP_in e) h
theorem mnP_t {g c k : Nat} (h : mrP c k = true ∨ c = 177 ∨ (c = 150 ∧ k = g)) : mnP g c k = true := by
  unfold mnP
  simp only [Bool.or_eq_true, Bool.and_eq_true, Nat.beq_eq]
  rcases h with h | h | h
  · exact Or.inl (Or.inl h)
  · exact Or.inl (Or.inr h)
  · exact Or.inr h
/-- a body in row x of the model -/
def mBd (t : gSt) (ad : Nat → Nat) (x : Nat) (B : Fo) (V : Nat) : Prop := t.2.1 (ad 148) x = nI (fo_n B) ∧ t.2.1 (ad 149) x = nI V ∧ ∃ N, t.2.1 (ad 156) x = nI N ∧ N < fo_n B ∧ fo_m (fun i => t.2.1 (ad 151) (1300 * x + i)) (fun i => t.2.1 (ad 152) (1300 * x + i)) (fun i => t.2.1 (ad 153) (1300 * x + i)) (fun i => t.2.1 (ad 154) (1300 * x + i)) (fun i => t.2.1 (ad 155) (1300 * x + i)) N id B 0
def QN (t0 : gSt) (ad : Nat → Nat) (g : Nat) (L : List ND) (G : List Int32) (M : Nat → Int32) (rp : Nat) (t : gSt) : Prop := gFr ad (mnP g) t0 t ∧ RE ad L G t ∧ t.2.1 (ad 177) = M ∧ t.2.1 (ad 150) g = nI rp
theorem RE.fr2 {ad : Nat → Nat} {L : List ND} {G : List Int32} {t u : gSt} {g : Nat} (h : RE ad L G t) (hF : gFr ad (fun c k => Nat.beq c 150 && Nat.beq k g) t u) : RE ad L G u := by
  have n : ∀ c k, c ≠ 150 → (fun c k => Nat.beq c 150 && Nat.beq k g) c k = false := fun c k hc => Bool.eq_false_iff.mpr (fun z => by
    simp only [Bool.and_eq_true, Nat.beq_eq] at z
    exact hc z.1)
  obtain ⟨a1, a2, a3, a4⟩ := h
  refine ⟨by rw [hF.i 148 48 (n _ _ (by decide))]; exact a1, by rw [hF.i 156 48 (n _ _ (by decide))]; exact a2, fun i q hq => ?_, fun i a ha => by rw [hF.i 155 _ (n _ _ (by decide))]; exact a4 i a ha⟩
  rw [hF.i 151 _ (n _ _ (by decide)), hF.i 152 _ (n _ _ (by decide)), hF.i 153 _ (n _ _ (by decide)), hF.i 154 _ (n _ _ (by decide))]
  exact a3 i q hq
section MN
variable {cx : gCx} {d : Nat} {ad : Nat → Nat} {t0 : gSt} {post : Option Value → gSt → Prop} {n g N : Nat} {par : Int32 → Nat} {lim : Int32} {cyc : Nat → Bool} {tab : Nat → Prop} {bd : Nat → Fo} {bV : Nat → Nat} {ok : Nat → Bool}
abbrev HdI (cx : gCx) (d : Nat) (ad : Nat → Nat) (post : Option Value → gSt → Prop) (g : Nat) (s : IS) (k : Nat) (t : gSt) : Prop := ∀ o7 o8 o9, g_W cx (g_E cx (d + 2)) mt_Mo_inline post (41, [some (.ref (ad 144)), some (.int (nI g)), some (.int (nI (24 + g))), some (.int 48), some (.int (nI s.1)), some (.int (nI s.2.1)), some (.int (nI k)), o7, o8, o9], [], t, 0, 0)
/-- what the model's inlining reads -/
def miTab (t0 : gSt) (ad : Nat → Nat) (n g : Nat) (lim : Int32) (cyc : Nat → Bool) (tab : Nat → Prop) (bd : Nat → Fo) (bV : Nat → Nat) (M : Nat) : Prop := t0.2.1 (ad 144) 46 = lim ∧ (∀ h, h < n → t0.2.1 (ad 171) (24 * h + h) = b32 (cyc h)) ∧ t0.2.1 (ad 148) (24 + g) = nI M ∧ ∀ h, h < n → tab h → mBd t0 ad (24 + h) (bd h) (bV h)
theorem m_inl (hg : g < 24) (hn : n ≤ 24) (hN : N ≤ 1300) {M0 : Nat} (hM : M0 ≤ 500) (hok : ∀ h, h < n → (cyc h = true ∨ tab h) → ok h = (!cyc h && decide (nI (fo_n (bd h)) ≤ lim))) (hbl : ∀ h, ok h = true → bodyI n par h (bd h) (bV h) ∧ fo_n (bd h) ≤ 500) (hT : miTab t0 ad n g lim cyc tab bd bV M0) (hpar6 : ∀ v, par v ≤ 6) :
    ∀ (F : Fo) (S : Nat → List Int32) (o : Nat) (s : IS) (L : List ND) (G : List Int32) (M : Nat → Int32) (rem : Nat) (t : gSt), fo_m (fun i => t0.2.1 (ad 151) (1300 * (24 + g) + i)) (fun i => t0.2.1 (ad 152) (1300 * (24 + g) + i)) (fun i => t0.2.1 (ad 153) (1300 * (24 + g) + i)) (fun i => t0.2.1 (ad 154) (1300 * (24 + g) + i)) (fun i => t0.2.1 (ad 155) (1300 * (24 + g) + i)) N id F o → fo_w n par F S → fo_v n par (iC n cyc tab) F → o + fo_n F ≤ M0 → s.1 = L.length + rem → fo_n F ≤ rem → s.1 ≤ 500 → s.2.1 ≤ 120 → G.length ≤ L.length → QN t0 ad g L G M s.2.2 t →
      (∀ u X Y M', QN t0 ad g (L ++ X) (G ++ Y) M' (inF ok par bd bV F s).2.2.2 u → fmL (L ++ X) (G ++ Y) (inF ok par bd bV F s).1 L.length → X.length = fo_n (inF ok par bd bV F s).1 → Y.length + fo_l F ≤ X.length → (∀ (i y z : Nat), (fo_r F o)[i]? = some y → (fo_r (inF ok par bd bV F s).1 L.length)[i]? = some z → M' y = nI z) → (∀ j, (j < o ∨ o + fo_n F ≤ j) → M' j = M j) → HdI cx d ad post g (inF ok par bd bV F s).2 (o + fo_n F) u) → HdI cx d ad post g s o t
  | .leaf, S, o, s, L, G, M, rem, t, _, _, _, _, _, _, _, _, _, hQ, hK => by
    have := hK t [] [] M (by rw [List.append_nil, List.append_nil]; exact hQ) trivial rfl (Nat.le_refl _) (fun i y z hy => by cases hy) (fun _ _ => rfl)
    exact this
  | .inner z k v a b, S, o, s, L, G, M, rem, t, hm, hw, hv, ho, hs, hrem, hs5, hsv, hGL, hQ, hK => by
    have en : fo_n (.inner z k v a b) = fo_n a + 1 + fo_n b := rfl
    have el : fo_l (.inner z k v a b) = fo_l b + 1 := rfl
    have er : fo_r (.inner z k v a b) o = (o + fo_n a) :: fo_r b (o + fo_n a + 1) := rfl
    obtain ⟨w1, w2, w3, w4, w5, w6⟩ := hw
    obtain ⟨⟨v1, v2, v3, v4⟩, va, vb⟩ := hv
    have hbl1 : ∀ h, ok h = true → fo_l (bd h) = 1 := fun h hh => (hbl h hh).1.1
    have hia := inF_s (bV := bV) hn hbl1 a _ s w5 (by omega) hs5 hsv
    have hla := inF_l (par := par) (bV := bV) hbl1 a s
    refine m_inl hg hn hN hM hok hbl hT hpar6 a _ o s L G M rem t hm.1 w5 va (by omega) hs (by omega) hs5 hsv hGL hQ (fun u X Y M1 Q1 f1 x1 y1 m1 n1 => ?_)
    obtain ⟨sa, esa⟩ : ∃ sa, (inF ok par bd bV a s).2 = sa := ⟨_, rfl⟩
    obtain ⟨a', ea'⟩ : ∃ a', (inF ok par bd bV a s).1 = a' := ⟨_, rfl⟩
    rw [esa, ea'] at hia
    rw [ea'] at hla f1 x1 m1
    rw [esa] at Q1 ⊢
    obtain ⟨hia1, hia2, hia3, hia4, hia5⟩ := hia
    have lLX : (L ++ X).length = L.length + fo_n a' := by rw [List.length_append, x1]
    obtain ⟨FQ, E1, M1e, R1⟩ := Q1
    have rowU : ∀ {u : gSt}, gFr ad (mnP g) t0 u → ∀ c i, 151 ≤ c → c ≤ 155 → i < 62400 → u.2.1 (ad c) i = t0.2.1 (ad c) i := fun hF c i h1 h2 h3 => hF.i c i (mnP_r (by omega)) (by omega)
    have hx : 24 + g < 48 := by omega
    have hvx : vp_in (nI (1300 * (24 + g) + (o + fo_n a))) 93600 := vp_in_nI (by omega) (by omega)
    have hk0 : t0.2.1 (ad 151) (1300 * (24 + g) + (o + fo_n a)) = k := hm.2.1.1
    have rowKu : rowK u ad (24 + g) N (o + fo_n a) k v (fo_r a o) := by
      have := hm.2.1
      have conv : ∀ c, 151 ≤ c → c ≤ 155 → ∀ i, i < 1300 → u.2.1 (ad c) (1300 * (24 + g) + i) = t0.2.1 (ad c) (1300 * (24 + g) + i) := fun c h1 h2 i hi => rowU FQ c _ h1 h2 (by omega)
      exact fo_k_cg this ⟨conv 151 (by decide) (by decide) _ (by omega), conv 152 (by decide) (by decide) _ (by omega), conv 153 (by decide) (by decide) _ (by omega), conv 154 (by decide) (by decide) _ (by omega)⟩ (fun i hi => conv 155 (by decide) (by decide) i (by omega)) (Nat.le_refl _)
    have hrl := fo_rl a o
    have hrlt : ∀ y ∈ fo_r a o, y < 1300 ∧ o ≤ y ∧ y < o + fo_n a := by
      have aux : ∀ (F : Fo) (o : Nat), ∀ y ∈ fo_r F o, o ≤ y ∧ y < o + fo_n F := by
        intro F
        induction F with
        | leaf => intro o y hy; cases hy
        | inner z k v a b iha ihb =>
          intro o y hy
          have e1 : fo_r (.inner z k v a b) o = (o + fo_n a) :: fo_r b (o + fo_n a + 1) := rfl
          have e2 : fo_n (.inner z k v a b) = fo_n a + 1 + fo_n b := rfl
          rw [e1] at hy
          rcases List.mem_cons.mp hy with h | h
          · omega
          · have := ihb _ y h
            omega
      intro y hy
      have := aux a o y hy
      exact ⟨by omega, this.1, this.2⟩
    -- the rest, once this tree is done: its nodes X2, its state s2, its outcome T
    have rest : ∀ (T : Fo) (s2 : IS) (X2 : List ND) (Y2 : List Int32) (u3 : gSt) (y : Int32), (inF ok par bd bV (.inner z k v a b) s) = (fo_ap T (inF ok par bd bV b s2).1, (inF ok par bd bV b s2).2) → fo_l T = 1 → fmL (L ++ X2) (G ++ Y2) T L.length → X2.length = fo_n T → Y2.length + 1 ≤ X2.length → s2.1 = L.length + X2.length + (rem - (fo_n a + 1)) → s2.1 ≤ 500 → s2.2.1 ≤ 120 → y = nI (L.length + fo_n T - 1) → QN t0 ad g (L ++ X2) (G ++ Y2) (va_up M1 (o + fo_n a) y) s2.2.2 u3 → HdI cx d ad post g s2 (o + fo_n a + 1) u3 := by
      intro T s2 X2 Y2 u3 y einf hT1 fT xT yT es2 hs25 hs2v ey Q3
      have lL2 : (L ++ X2).length = L.length + fo_n T := by rw [List.length_append, xT]
      refine m_inl hg hn hN hM hok hbl hT hpar6 b _ (o + fo_n a + 1) s2 (L ++ X2) (G ++ Y2) _ (rem - (fo_n a + 1)) u3 hm.2.2 w6 vb (by omega) (by rw [lL2, es2, xT]) (by omega) hs25 hs2v (by rw [List.length_append, List.length_append]; omega) Q3 (fun u4 X3 Y3 M3 Q4 f3 x3 y3 m3 n3 => ?_)
      rw [List.append_assoc, List.append_assoc] at Q4
      rw [List.append_assoc, List.append_assoc] at f3
      have := hK u4 (X2 ++ X3) (Y2 ++ Y3) M3 (by rw [einf]; exact Q4) ?_ ?_ ?_ ?_ ?_
      · rw [einf, show o + fo_n (.inner z k v a b) = o + fo_n a + 1 + fo_n b by rw [en]; omega] at this
        exact this
      · rw [einf]
        have hap : ∀ (P Q : Fo) (o1 : Nat), fmL (L ++ (X2 ++ X3)) (G ++ (Y2 ++ Y3)) P o1 → fmL (L ++ (X2 ++ X3)) (G ++ (Y2 ++ Y3)) Q (o1 + fo_n P) → fmL (L ++ (X2 ++ X3)) (G ++ (Y2 ++ Y3)) (fo_ap P Q) o1 := by
          intro P
          induction P with
          | leaf => intro Q o1 _ hQ; exact hQ
          | inner z1 k1 v1 a1 b1 _ ihb =>
            intro Q o1 hP hQ
            refine ⟨hP.1, hP.2.1, ihb Q _ hP.2.2 ?_⟩
            have e2 : fo_n (.inner z1 k1 v1 a1 b1) = fo_n a1 + 1 + fo_n b1 := rfl
            rw [e2] at hQ
            rw [show o1 + fo_n a1 + 1 + fo_n b1 = o1 + (fo_n a1 + 1 + fo_n b1) by omega]
            exact hQ
        refine hap _ _ _ ?_ ?_
        · rw [← List.append_assoc, ← List.append_assoc]
          exact fmL_mo fT (by rw [lL2]; exact Nat.le_refl _)
        · rw [← lL2]
          exact f3
      · rw [einf]
        dsimp only
        rw [fo_n_ap, List.length_append, xT, x3]
      · rw [List.length_append, List.length_append, el]
        omega
      · intro i y0 z0 hy0 hz0
        rw [einf] at hz0
        dsimp only at hz0
        rw [fo_r_ap, fo_r1 hT1] at hz0
        rw [er] at hy0
        match i, hy0, hz0 with
        | 0, hy0, hz0 =>
          have e1 : o + fo_n a = y0 := by simpa using hy0
          have e2 : L.length + fo_n T - 1 = z0 := by simpa using hz0
          rw [n3 y0 (Or.inl (by omega)), ← e1, va_up_self, ey, e2]
        | i + 1, hy0, hz0 =>
          rw [List.getElem?_cons_succ] at hy0
          have hz0 : (fo_r (inF ok par bd bV b s2).1 (L.length + fo_n T))[i]? = some z0 := by simpa using hz0
          rw [← lL2] at hz0
          exact m3 i y0 z0 hy0 hz0
      · intro j hj
        rw [en] at hj
        rw [n3 j (by omega), va_up_ne _ _ (by omega), n1 j (by omega)]
    -- roots go to roots
    have hzlt : ∀ (i z0 : Nat), (fo_r a' L.length)[i]? = some z0 → z0 < 2 ^ 31 := by
      have aux : ∀ (F : Fo) (o : Nat), ∀ y ∈ fo_r F o, y < o + fo_n F := by
        intro F
        induction F with
        | leaf => intro o y hy; cases hy
        | inner z k v a b iha ihb =>
          intro o y hy
          have e1 : fo_r (.inner z k v a b) o = (o + fo_n a) :: fo_r b (o + fo_n a + 1) := rfl
          have e2 : fo_n (.inner z k v a b) = fo_n a + 1 + fo_n b := rfl
          rw [e1] at hy
          rcases List.mem_cons.mp hy with h | h
          · omega
          · have := ihb _ y h
            omega
      intro i z0 hz0
      have := aux a' L.length z0 (List.mem_of_getElem? hz0)
      omega
    have hmap : (fo_r a o).map (fun y => (M1 y).toNatClampNeg) = fo_r a' L.length := by
      refine List.ext_getElem? (fun i => ?_)
      rw [List.getElem?_map]
      by_cases c : i < fo_l a
      · obtain ⟨y0, hy0⟩ : ∃ y0, (fo_r a o)[i]? = some y0 := ⟨_, List.getElem?_eq_getElem (by rw [fo_rl]; exact c)⟩
        obtain ⟨z0, hz0⟩ : ∃ z0, (fo_r a' L.length)[i]? = some z0 := ⟨_, List.getElem?_eq_getElem (by rw [fo_rl]; omega)⟩
        rw [hy0, hz0]
        simp only [Option.map_some]
        rw [m1 i y0 z0 hy0 hz0, nI_clamp (hzlt i z0 hz0)]
      · rw [List.getElem?_eq_none (by rw [fo_rl]; omega), List.getElem?_eq_none (by rw [fo_rl]; omega)]
        rfl
    have hmp : ∀ y ∈ fo_r a o, u.2.1 (ad 177) y = nI (M1 y).toNatClampNeg := by
      intro y hy
      obtain ⟨i, hi⟩ := List.mem_iff_getElem?.mp hy
      have hil := (List.getElem?_eq_some_iff.mp hi).1
      rw [fo_rl] at hil
      obtain ⟨z0, hz0⟩ : ∃ z0, (fo_r a' L.length)[i]? = some z0 := ⟨_, List.getElem?_eq_getElem (by rw [fo_rl]; omega)⟩
      rw [M1e, m1 i y z0 hi hz0, nI_clamp (hzlt i z0 hz0)]
    -- the node again
    have again : (¬ (k = 15 ∧ iMay ok par bd bV v.toNatClampNeg sa = true)) → ∀ (x4 x5 : Int32) (o9 : Option Value), g_W cx (g_E cx (d + 2)) mt_Mo_inline post (167, [some (.ref (ad 144)), some (.int (nI g)), some (.int (nI (24 + g))), some (.int 48), some (.int (nI sa.1)), some (.int (nI sa.2.1)), some (.int (nI (o + fo_n a))), some (.int x4), some (.int x5), o9], [], u, 0, 0) := by
      intro hno x4 x5 o9
      refine x_Mo_inline_167 FQ.L (x_Mo_inline_168 FQ.L ⟨fun z => absurd rfl z, fun _ => ?_⟩)
      refine m_again (par := par) (mp := fun y => (M1 y).toNatClampNeg) hx (by omega) hN FQ.L E1 (by omega) (by rw [List.length_append, hrl]; omega) w1 (by rw [hrl]; exact w2) rowKu (fun y hy => (hrlt y hy).1) hmp (fun u2 q G' F2 E2 fk lg => ⟨_, rfl, F2.L, vp_in_nI (by omega) (by omega), fun t9 e9 => ?_⟩)
      rw [nI_clamp (by omega)] at e9
      rw [hmap] at fk
      have F9 : gFr ad (fun c _ => Nat.beq c 177) u2 t9 := by rw [e9]; exact (gFr.rf F2.L).si (by rfl)
      refine x_Mo_inline_262 F9.L ?_
      rw [nI_1]
      refine rest (.inner z k v a' .leaf) sa (X ++ [q]) (Y ++ G') t9 (nI (L ++ X).length) ?_ rfl ?_ ?_ ?_ ?_ hia2 hia4 ?_ ?_ _ _ _
      · rw [inF_n (by rw [esa]; exact hno), esa, ea']
        rfl
      · refine ⟨?_, ?_, trivial⟩
        · rw [← List.append_assoc, ← List.append_assoc]
          exact fmL_mo f1 (by rw [lLX]; exact Nat.le_refl _)
        · rw [← List.append_assoc, ← List.append_assoc, ← lLX]
          exact fk
      · rw [List.length_append, x1]
        rfl
      · rw [List.length_append, List.length_append, lg]
        simp only [List.length_cons, List.length_nil]
        rw [hrl]
        split <;> omega
      · rw [List.length_append]
        simp only [List.length_cons, List.length_nil]
        omega
      · rw [lLX]
        congr 1
      · refine ⟨(FQ.tr (F2.mo (fun c k q => mnP_t (Or.inl (mrP_t (Or.inl q)))))).tr (F9.mo (fun c k q => mnP_t (Or.inr (Or.inl (Nat.eq_of_beq_eq_true q))))), ?_, ?_, ?_⟩
        · rw [← List.append_assoc, ← List.append_assoc]
          exact E2.fr F9 (fun c k h1 h2 => Bool.eq_false_iff.mpr (fun z => by have := Nat.eq_of_beq_eq_true z; omega))
        · rw [e9, g_si_at, show u2.2.1 (ad 177) = u.2.1 (ad 177) from funext (fun j => F2.i 177 j (meP_r (by omega))), M1e]
        · rw [F9.i 150 g rfl, F2.i 150 g (meP_r (by omega))]
          exact R1
    intro o7 o8 o9
    refine x_Mo_inline_41 FQ.L ?_
    have h148 : u.2.1 (ad 148) (24 + g) = nI M0 := by rw [FQ.i 148 _ (mnP_r (by omega))]; exact hT.2.2.1
    rw [nI_clamp (n := 24 + g) (by omega), h148]
    refine ⟨vp_in_nI (by omega) (by omega), fun z => absurd z (nI_ge (by omega) (by omega)), fun _ x4 e4 => ?_⟩
    rw [ix13] at e4
    subst e4
    rw [nI_clamp (n := 1300 * (24 + g) + (o + fo_n a)) (by omega), rowU FQ 151 _ (by decide) (by decide) (by omega), rowU FQ 153 _ (by decide) (by decide) (by omega), rowU FQ 154 _ (by decide) (by decide) (by omega), hk0]
    refine ⟨hvx, fun x5 e5 => ⟨hvx, fun c15 => again (fun z => c15 z.1) _ _ _, fun c15 => ?_⟩⟩
    have c15 := Classical.not_not.mp c15
    obtain ⟨h, eh, hhn, hch⟩ := v4 c15
    obtain ⟨b1, b2, q0, b3, b4, b5⟩ := hm.2.1.2.2.1 c15
    have C0 : t0.2.1 (ad 154) (1300 * (24 + g) + (o + fo_n a)) = v := b1
    have B0 : t0.2.1 (ad 153) (1300 * (24 + g) + (o + fo_n a)) = nI (fo_l a) := by rw [← hrl]; exact b2
    have A0 : t0.2.1 (ad 152) (1300 * (24 + g) + (o + fo_n a)) = nI q0 := b3
    have hP : fo_l a = par (nI h) := by rw [w2, c15, eh]; rfl
    have hp6 := hpar6 (nI h)
    rw [C0, eh] at e5
    subst e5
    have ev : v.toNatClampNeg = h := by rw [eh, nI_clamp (by omega)]
    have no : iMay ok par bd bV h sa = false → ¬ (k = 15 ∧ iMay ok par bd bV v.toNatClampNeg sa = true) := fun hf z => by rw [ev, hf] at z; cases z.2
    have r171 : u.2.1 (ad 171) (24 * h + h) = b32 (cyc h) := by rw [FQ.i 171 _ (mnP_r (by omega))]; exact hT.2.1 h hhn
    rw [ix24, nI_clamp (n := 24 * h + h) (by omega), r171]
    refine ⟨vp_in_nI (by omega) (by omega), fun z => again (no ?_) _ _ _, fun z => ?_⟩
    · have hcy : cyc h = true := by
        cases e : cyc h with
        | true => rfl
        | false => rw [e] at z; exact absurd rfl z
      unfold iMay
      rw [hok h hhn hch, hcy]
      rfl
    have hcy : cyc h = false := b32_0.mp (Classical.not_not.mp z)
    have ht : tab h := hch.resolve_left (by rw [hcy]; decide)
    obtain ⟨t1, t2, NB, t3, t4, t5⟩ := hT.2.2.2 h hhn ht
    have e24 : (24 : Int32) + nI h = nI (24 + h) := by rw [show (24 : Int32) = nI 24 from rfl, nI_add]
    have u148 : u.2.1 (ad 148) (24 + h) = nI (fo_n (bd h)) := by rw [FQ.i 148 _ (mnP_r (by omega))]; exact t1
    have u149 : u.2.1 (ad 149) (24 + h) = nI (bV h) := by rw [FQ.i 149 _ (mnP_r (by omega))]; exact t2
    have u156 : u.2.1 (ad 156) (24 + h) = nI NB := by rw [FQ.i 156 _ (mnP_r (by omega))]; exact t3
    have u46 : u.2.1 (ad 144) 46 = lim := by rw [FQ.i 144 46 (mnP_r (by omega))]; exact hT.1
    have hv72 : vp_in (nI (24 + h)) 72 := vp_in_nI (by omega) (by omega)
    rw [e24, nI_clamp (n := 24 + h) (by omega), u148, u149, u46, B0]
    refine ⟨hv72, fun z1 => again (no ?_) _ _ _, fun z1 => ⟨hvx, hv72, ?_⟩⟩
    · unfold iMay
      rw [hok h hhn hch, decide_eq_false (Int32.not_le.mpr z1), Bool.and_false, Bool.false_and]
    have hokh : ok h = true := by rw [hok h hhn hch, hcy, decide_eq_true (Int32.not_lt.mp z1)]; rfl
    obtain ⟨⟨Bl, Bw, Bd, BP, BV, Bv⟩, B5⟩ := hbl h hokh
    have e1 : nI sa.1 - 1 = nI (sa.1 - 1) := by rw [show (1 : Int32) = nI 1 from rfl, nI_sub (by omega)]
    rw [e1, nI_add, nI_add, nI_add, show (500 : Int32) = nI 500 from rfl, show (120 : Int32) = nI 120 from rfl, nI_ltI (by omega) (by omega), nI_ltI (by omega) (by omega)]
    refine ⟨fun z2 => again (no ?_) _ _ _, fun z2 => ⟨hv72, fun z3 => again (no ?_) _ _ _, fun z3 => ?_⟩⟩
    · unfold iMay
      rw [decide_eq_false (by omega : ¬ sa.1 - 1 + par (nI h) + fo_n (bd h) ≤ 500), Bool.false_and, Bool.and_false]
    · unfold iMay
      rw [decide_eq_false (by omega : ¬ sa.2.1 + bV h ≤ 120), Bool.and_false, Bool.and_false]
    -- the body in its place
    have hmay : iMay ok par bd bV h sa = true := by
      unfold iMay
      rw [hokh, decide_eq_true (by omega), decide_eq_true (by omega)]
      rfl
    have yes : k = 15 ∧ iMay ok par bd bV v.toNatClampNeg (inF ok par bd bV a s).2 = true := ⟨c15, by rw [esa, ev]; exact hmay⟩
    have rowUh : ∀ c, 151 ≤ c → c ≤ 155 → (fun i => u.2.1 (ad c) (1300 * (24 + h) + i)) = (fun i => u.2.1 (ad c) (1300 * (24 + h) + i)) := fun _ _ _ => rfl
    have mB : fo_m (fun i => u.2.1 (ad 151) (1300 * (24 + h) + i)) (fun i => u.2.1 (ad 152) (1300 * (24 + h) + i)) (fun i => u.2.1 (ad 153) (1300 * (24 + h) + i)) (fun i => u.2.1 (ad 154) (1300 * (24 + h) + i)) (fun i => u.2.1 (ad 155) (1300 * (24 + h) + i)) NB id (bd h) 0 := by
      have conv : ∀ c, 151 ≤ c → c ≤ 155 → ∀ i, i < 1300 → u.2.1 (ad c) (1300 * (24 + h) + i) = t0.2.1 (ad c) (1300 * (24 + h) + i) := fun c h1 h2 i hi => rowU FQ c _ h1 h2 (by omega)
      exact fo_m_cg (fun i hi => conv 155 (by decide) (by decide) i (by omega)) (Nat.le_refl _) (bd h) 0 t5 (fun m _ m2 => ⟨conv 151 (by decide) (by decide) m (by omega), conv 152 (by decide) (by decide) m (by omega), conv 153 (by decide) (by decide) m (by omega), conv 154 (by decide) (by decide) m (by omega)⟩)
    refine x_Mo_inline_168 FQ.L ⟨fun _ => ?_, fun z => absurd (by decide) z⟩
    rw [e24, nI_clamp (n := 24 + h) (by omega), u148, nI_clamp (n := 1300 * (24 + g) + (o + fo_n a)) (by omega), rowU FQ 153 _ (by decide) (by decide) (by omega), B0]
    refine ⟨hvx, hv72, fun x1 ex1 => ?_⟩
    have ex1 : x1 = nI (sa.1 - 1 + par (nI h) + fo_n (bd h)) := by
      rw [ex1, ← hP]
      have hb1 : 1 ≤ fo_n (bd h) := by omega
      rw [Int32.sub_eq_add_neg, Int32.add_assoc (nI (fo_l a)), Int32.add_comm (-1), ← Int32.add_assoc (nI (fo_l a)), nI_add, ← Int32.sub_eq_add_neg, show (1 : Int32) = nI 1 from rfl, nI_sub (by omega), nI_add]
      congr 1
      omega
    refine m_replace (q := sa.2.1) (o' := L.length) (NB := NB) (n := n) (P := fo_l a) (q0 := q0) (rs := fo_r a o) (par := par) (a' := a') (B := bd h) (S := fun _ => (List.range (par (nI h))).map nI) hx (by omega) (by omega) FQ.L E1 hrl (by rw [rowU FQ 153 _ (by decide) (by decide) (by omega)]; exact B0) (by rw [rowU FQ 152 _ (by decide) (by decide) (by omega)]; exact A0) (by rw [← hrl]; omega) (fun i y hy => ?_) (fun y hy => (hrlt y hy).1) (fun i y z0 hy hz0 => by rw [M1e]; exact m1 i y z0 hy hz0) hla Bl Bw u148 u156 mB lLX f1 (by omega) (by rw [List.length_append]; omega) (fun u2 X2 Y2 F2 E2 fn x2 y2 => ⟨_, rfl, F2.L, vp_in_nI (by omega) (by omega), fun t4 e4 => ?_⟩)
    · rw [rowU FQ 155 _ (by decide) (by decide) (by have := (List.getElem?_eq_some_iff.mp hy).1; omega)]
      exact b5 i y hy
    · rw [nI_clamp (by omega)] at e4
      have F4 : gFr ad (fun c _ => Nat.beq c 177) u2 t4 := by rw [e4]; exact (gFr.rf F2.L).si (by rfl)
      have t4149 : t4.2.1 (ad 149) (24 + h) = nI (bV h) := by rw [F4.i 149 _ rfl, F2.i 149 _ (mrP_r (by omega))]; exact u149
      have t4150 : t4.2.1 (ad 150) g = nI sa.2.2 := by rw [F4.i 150 _ rfl, F2.i 150 _ (mrP_r (by omega))]; exact R1
      rw [t4149, nI_clamp (n := g) (by omega), t4150, nI_1]
      refine ⟨hv72, fun x5 ex5 => ⟨vp_in_nI hg (by omega), vp_in_nI hg (by omega), fun t6 e6 => ?_⟩⟩
      rw [nI_add] at ex5
      subst ex1 ex5
      have F6 : gFr ad (fun c k => Nat.beq c 150 && Nat.beq k g) t4 t6 := by rw [e6]; exact (gFr.rf F4.L).si (by simp)
      refine x_Mo_inline_262 F6.L ?_
      rw [nI_1]
      have hNn := fo_n_nest sa.2.1 a' (fo_sh sa.2.1 (bd h))
      rw [fo_n_sh, hla] at hNn
      have hbn := fo_ln (bd h)
      refine rest (nest sa.2.1 a' (fo_sh sa.2.1 (bd h))) (iNew par bd bV h sa) (X ++ X2) (Y ++ Y2) t6 (nI ((L ++ X ++ X2).length - 1)) ?_ (fo_l_nest _ _ _ (by rw [fo_l_sh]; exact Bl)) ?_ ?_ ?_ ?_ (by unfold iNew; dsimp only; omega) (by unfold iNew; dsimp only; omega) ?_ ?_ _ _ _
      · rw [inF_y yes, esa, ea', ev]
      · rw [← List.append_assoc, ← List.append_assoc]
        exact fn
      · rw [List.length_append, x1, x2, hNn]
        omega
      · rw [List.length_append, List.length_append, x2, y2]
        omega
      · rw [List.length_append, x2]
        unfold iNew
        dsimp only
        omega
      · rw [List.length_append, lLX, x2, hNn]
        congr 1
        omega
      · refine ⟨((FQ.tr (F2.mo (fun c k q => mnP_t (Or.inl q)))).tr (F4.mo (fun c k q => mnP_t (Or.inr (Or.inl (Nat.eq_of_beq_eq_true q)))))).tr (F6.mo (fun c k q => mnP_t (Or.inr (Or.inr (by
            simp only [Bool.and_eq_true, Nat.beq_eq] at q
            exact q))))), ?_, ?_, ?_⟩
        · rw [← List.append_assoc, ← List.append_assoc]
          exact (E2.fr F4 (fun c k h1 h2 => Bool.eq_false_iff.mpr (fun z => by have := Nat.eq_of_beq_eq_true z; omega))).fr2 F6
        · rw [show t6.2.1 (ad 177) = t4.2.1 (ad 177) from funext (fun j => F6.i 177 j rfl), e4, g_si_at, show u2.2.1 (ad 177) = u.2.1 (ad 177) from funext (fun j => F2.i 177 j (mrP_r (by omega))), M1e]
        · rw [e6, g_rd_at]
          rfl
end MN
