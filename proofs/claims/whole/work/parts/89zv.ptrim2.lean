/-! THE PAIR TRIM, proved -/
section PU
variable {cx : gCx} {d : Nat} {ad : Nat → Nat}
theorem ord_ok.I {A : List Fn} {dir com : Nat → Nat → Bool} {ord : Nat → Nat} (h : ord_ok A dir com ord) : ordI A.length (fun g => com g g) (fun f => fnB (fAt A f)) ord := by
  obtain ⟨h1, h2, h3, h4, h5⟩ := h
  refine ⟨h1, h2, h3, fun k g hk hg hm => ?_⟩
  have hd := h5 (ord k) _ g (A_at (h1 k hk)) hm hg
  cases hc : com g g with
  | true => exact Or.inl hc
  | false => exact Or.inr (h4 k g hk hd hc)
theorem RX.mkh {t : gSt} {p p2 : Nat} {A B : List Fn} {dir com : Nat → Nat → Bool} {ord : Nat → Nat} {bud : Int32} (hX : RX (rI t ad) (rJ t ad) (rR t ad) ad p p2 A B dir com ord) (hL : Lay t ad) (h46 : t.2.1 (ad 144) 46 = bud) : MKH t ad A.length (parOf A) (fun g => com g g) (fun f => fnB (fAt A f)) (fun f => fnV (fAt A f)) ord bud := by
  have hfa := hX.facts
  obtain ⟨h1, h2, h3, h4, h5, h6, h7, h8, h9, h10, h11, h12, h13⟩ := hX
  refine ⟨h4, hL, h8.1, h46, fun h hh => (h9.1 h h hh hh).2.2.2, fun k hk => (h9.2 k hk).2, fun g hg => ?_, h11, fun f hf => ?_, fun f hf => (h12 f _ (A_at hf)).1.S (A_at hf) h4, hfa.1, h10.I⟩
  · rw [(at_A (A_at hg) h4).2.1]
    exact (h8.2.1 g _ (A_at hg)).2.1
  · obtain ⟨-, -, m1, m2, -⟩ := h8.2.1 f _ (A_at hf)
    exact ⟨m1.1, m2, m1.2⟩
theorem MKH.lo {t u : gSt} {n : Nat} {par : Int32 → Nat} {cyc : Nat → Bool} {bo : Nat → Fo} {sv ord : Nat → Nat} {bud : Int32} {P : Nat → Nat → Bool} (H : MKH t ad n par cyc bo sv ord bud) (hF : gFr ad P t u) (hP : ∀ c k, 144 ≤ c → ¬ (c = 144 ∧ k = 0) → P c k = false) : MKH u ad n par cyc bo sv ord bud := by
  obtain ⟨q, q1, q2⟩ := H.c33
  exact ⟨H.hn, hF.L, by rw [hF.i 144 11 (hP _ _ (by omega) (by omega))]; exact H.c11, by rw [hF.i 144 46 (hP _ _ (by omega) (by omega))]; exact H.c46, fun h hh => by rw [hF.i 171 _ (hP _ _ (by omega) (by omega))]; exact H.c171 h hh, fun k hk => by rw [hF.i 173 _ (hP _ _ (by omega) (by omega))]; exact H.c173 k hk, fun g hg => by rw [hF.i 147 _ (hP _ _ (by omega) (by omega))]; exact H.c147 g hg, ⟨q, by rw [hF.i 144 33 (hP _ _ (by omega) (by omega))]; exact q1, q2⟩, fun f hf => (H.src f hf).fr (by have := (H.bs f hf).2.1; omega) hF (fun c hc => hP _ _ (by omega) (by omega)) (fun c k h1 h2 h3 h4 => hP _ _ (by omega) (by omega)), H.bs, H.p6, H.or⟩
theorem bits7 : ∀ m, m < 8 → (((nI m &&& 1) = 1 ↔ ¬ (nI m &&& 1) = 0) ∧ ((nI m &&& 2) = 2 ↔ ¬ (nI m &&& 2) = 0) ∧ ((nI m &&& 4) = 4 ↔ ¬ (nI m &&& 4) = 0)) := by decide
theorem nd_f {c : Prop} [Decidable c] : c ↔ (!decide c) = false := by
  by_cases h : c
  · rw [decide_eq_true h]; exact ⟨fun _ => rfl, fun _ => h⟩
  · rw [decide_eq_false h]; exact ⟨fun q => absurd q h, fun q => by cases q⟩
theorem nd_t {c : Prop} [Decidable c] : ¬ c ↔ (!decide c) = true := by
  by_cases h : c
  · rw [decide_eq_true h]; exact ⟨fun q => absurd h q, fun q => by cases q⟩
  · rw [decide_eq_false h]; exact ⟨fun _ => rfl, fun _ => h⟩
/-- source and new output have bounds -/
theorem bdOk.ex {A : List Fn} (hn : A.length ≤ 24) (hA : ∀ f F, A[f]? = some F → fn_ok A 400 46 F ∧ cd_ok A f F ∧ fnR F = 0 ∧ srcOk false f F ∧ bdOk A) : ∃ bd0, isBd A.length (fun f g => cCal (eTC false f (parOf A (nI f)) (fnB (fAt A f))) g) (fun f g => cTal (eTC false f (parOf A (nI f)) (fnB (fAt A f))) g) (bFr A) bd0 ∧ ∀ f, f < A.length → fnU (fAt A f) = if bNon A.length (fun f g => cCal (eTC false f (parOf A (nI f)) (fnB (fAt A f))) g) (fun f g => cTal (eTC false f (parOf A (nI f)) (fnB (fAt A f))) g) f = true then -1 else nI (bd0 f) := by
  have ec : ∀ f, fnC (fAt A f) = eTC false f (parOf A (nI f)) (fnB (fAt A f)) := fun f => by
    by_cases hf : f < A.length
    · rw [(hA f _ (A_at hf)).2.2.2.1.1, (at_A (A_at hf) hn).2.1]
    · have : fAt A f = fnD := by
        unfold fAt
        rw [List.getElem?_eq_none (by omega)]
        rfl
      rw [this]
      rfl
  have e1 : (fun f g => cCal (eTC false f (parOf A (nI f)) (fnB (fAt A f))) g) = bCl A := funext (fun f => funext (fun g => by rw [← ec f]))
  have e2 : (fun f g => cTal (eTC false f (parOf A (nI f)) (fnB (fAt A f))) g) = bTl A := funext (fun f => funext (fun g => by rw [← ec f]))
  rw [e1, e2]
  by_cases h0 : A.length = 0
  · obtain ⟨b, hb'⟩ := isBd_ex (n := A.length) (cl := bCl A) (tb := bTl A) (fr := bFr A)
    exact ⟨b, hb', fun f hf => by omega⟩
  · obtain ⟨b, hb', hU⟩ := (hA 0 _ (A_at (by omega))).2.2.2.2
    exact ⟨b, hb', fun f hf => hU f _ (A_at hf)⟩
def trP (c k : Nat) : Bool := omP c k || mmP c k || (Nat.beq c 144 && Nat.beq k 0)
theorem trP_in {c k : Nat} (h : trP c k = true) : (47 ≤ c ∧ c ≤ 82) ∨ (96 ≤ c ∧ c ≤ 111) ∨ ((c = 148 ∨ c = 149 ∨ c = 156) ∧ 24 ≤ k) ∨ (151 ≤ c ∧ c ≤ 155 ∧ 31200 ≤ k) ∨ c = 150 ∨ (159 ≤ c ∧ c ≤ 162) ∨ (177 ≤ c ∧ c ≤ 189) ∨ (c = 144 ∧ (k = 0 ∨ k = 29 ∨ k = 33 ∨ k = 54 ∨ k = 65 ∨ k = 66)) := by
  unfold trP at h
  simp only [Bool.or_eq_true, Bool.and_eq_true, Nat.beq_eq] at h
  rcases h with (h | h) | h
  · have := omP_in h; omega
  · have := mmP_in h; omega
  · omega
theorem trP_r {c k : Nat} (h : ¬ ((47 ≤ c ∧ c ≤ 82) ∨ (96 ≤ c ∧ c ≤ 111) ∨ ((c = 148 ∨ c = 149 ∨ c = 156) ∧ 24 ≤ k) ∨ (151 ≤ c ∧ c ≤ 155 ∧ 31200 ≤ k) ∨ c = 150 ∨ (159 ≤ c ∧ c ≤ 162) ∨ (177 ≤ c ∧ c ≤ 189) ∨ (c = 144 ∧ (k = 0 ∨ k = 29 ∨ k = 33 ∨ k = 54 ∨ k = 65 ∨ k = 66)))) : trP c k = false := by
  cases e : trP c k with
  | false => rfl
  | true => exact absurd (trP_in e) h
theorem trP_o {c k : Nat} (h : omP c k = true) : trP c k = true := by unfold trP; rw [h]; rfl
theorem trP_m {c k : Nat} (h : mmP c k = true) : trP c k = true := by unfold trP; rw [h, Bool.or_true]; rfl
theorem RP.fr {t u : gSt} {P : Nat → Nat → Bool} {p : Nat} {A : List Fn} (h : RP (rI t ad) (rJ t ad) p A) (hp : p + 16 ≤ 199) (hF : gFr ad P t u) (hP : ∀ j k, j < 16 → P (p + j) k = false) : RP (rI u ad) (rJ u ad) p A :=
  h.cg (fun j hj => funext (fun k => hF.i (p + j) k (hP j k hj) (by omega))) (funext (fun k => hF.j (p + 1) k (hP 1 k (by decide)) (by omega)))
theorem RG.fr {t u : gSt} {P : Nat → Nat → Bool} {n : Nat} {dir com : Nat → Nat → Bool} {ord : Nat → Nat} (h : RG (rI t ad) n dir com ord) (hF : gFr ad P t u) (hP : ∀ c k, (18 ≤ c ∧ c ≤ 20) ∨ (171 ≤ c ∧ c ≤ 173) → P c k = false) : RG (rI u ad) n dir com ord :=
  h.cg (fun c hc => funext (fun k => hF.i c k (hP c k hc) (by omega)))
theorem oOut.fr {t u : gSt} {P : Nat → Nat → Bool} {n : Nat} {par : Int32 → Nat} {nm : Nat → Int64} {r : Nat → IR} {b : Nat → Fo} {tl : Bool} {U : Nat → Int32} (h : oOut t ad n par nm r b tl U) (hF : gFr ad P t u) (hP : ∀ c k, 96 ≤ c → c ≤ 111 → P c k = false) : oOut u ad n par nm r b tl U := by
  refine ⟨by rw [hF.i 96 15 (hP _ _ (by decide) (by decide))]; exact h.1, fun f hf => ?_⟩
  obtain ⟨o1, ⟨s, s1, s2, s3, s4, s5, s6⟩, o8⟩ := h.2 f hf
  refine ⟨o1.mo hF (fun c k hc => hP _ _ (by omega) (by omega)), ⟨s, ?_, s2, ?_, fun i q hq => ?_, ?_, ?_⟩, ?_⟩
  · rw [hF.i (96 + 7) f (hP _ _ (by decide) (by decide))]; exact s1
  · rw [hF.i (96 + 8) f (hP _ _ (by decide) (by decide))]; exact s3
  · rw [hF.i (96 + 14) _ (hP _ _ (by decide) (by decide)), hF.i (96 + 15) _ (hP _ _ (by decide) (by decide))]; exact s4 i q hq
  · rw [hF.i (96 + 9) f (hP _ _ (by decide) (by decide))]; exact s5
  · rw [hF.i (96 + 10) f (hP _ _ (by decide) (by decide))]; exact s6
  · rw [hF.i 107 f (hP _ _ (by decide) (by decide))]; exact o8
theorem p_trim (hi : ∀ i j, i < 199 → j < 199 → ad i = ad j → i = j) (v : Int32) : g_pair cx (d + 9) (g_Inv ad (gRst ad)) (ad c_Tr) (ad c_Mo) i_Tr_trim i_Mo_trim [.int v] := by
  intro t hI post hp
  have hL := hI.1
  have hr := gRst.ag hi
  obtain ⟨p, p2, A, B, dir, com, ord, hX⟩ := gRest_iff.mp hI.2.2.1
  have hP := hX.hP
  have hfa := hX.facts
  have hX' := hX
  obtain ⟨h1, h2, h3, h4, h5, h6, h7, h8, h9, h10, h11, h12, h13⟩ := hX
  have hL1 : Lay (g_si t (ad c_Mo) 0 0) ad := hL.si
  have hN := hI.code (v := 0) hr
  have bad : (v < 0 ∨ nI 7 < v) → post (some (.int (-2))) t := fun c => by
    refine hp (-2) t (hL.k c_Mo (by decide)) (fun post2 h2 => ?_)
    refine x_Mo_trim hL (fun t1 e1 => ?_)
    subst e1
    refine m_Mo_in ?_
    have : ¬ ((0 : Int64) ≤ v.toInt64 ∧ v.toInt64 ≤ 7) := fun z => (in_lit (m := 7) (by decide)).mp z c
    rw [if_neg this]
    exact ⟨_, rfl, hL1, fun _ => h2 _ hN, fun q => absurd rfl q⟩
  refine x_Tr_trim hL ⟨fun c => bad (Or.inl c), fun c0 => ⟨fun c7 => ?_, fun c7 => bad (Or.inr (Int32.not_le.mp c7))⟩⟩
  obtain ⟨m, hm, em⟩ : ∃ m, m < 8 ∧ v = nI m := by
    obtain ⟨x, hx, e⟩ := nI_of c0
    refine ⟨x, ?_, e⟩
    rw [e, show (7 : Int32) = nI 7 from rfl, nI_leI hx (by decide)] at c7
    omega
  obtain ⟨bt1, bt2, bt4⟩ := bits7 m hm
  rw [← em] at bt1 bt2 bt4
  obtain ⟨m1, em1⟩ : ∃ m1, (!decide ((v &&& 1) = 0)) = m1 := ⟨_, rfl⟩
  obtain ⟨m2, em2⟩ : ∃ m2, (!decide ((v &&& 2) = 0)) = m2 := ⟨_, rfl⟩
  obtain ⟨tl, em4⟩ : ∃ tl, (!decide ((v &&& 4) = 0)) = tl := ⟨_, rfl⟩
  have hp112 : 112 ≤ p ∧ p ≤ 128 := by rcases h1 with ⟨rfl, -⟩ | ⟨rfl, -⟩ <;> decide
  have hbud : t.2.1 (ad 144) 46 = t.2.1 (ad 0) 15 := hI.2.1.2.2.1.symm
  have H0 := hX'.mkh hL hbud
  have par_e : ∀ f, f < A.length → parOf A (nI f) = fnP (fAt A f) := fun f hf => (at_A (A_at hf) h4).2.1
  -- the new bodies
  have hBb : ∀ f, f < A.length → bodyS A.length (parOf A) (mkRe (fun g => com g g) (parOf A) (fun f => fnB (fAt A f)) (fun f => fnV (fAt A f)) ord A.length m1 (t.2.1 (ad 0) 15) f).2.1 (parOf A (nI f)) (mkBo (fun g => com g g) (parOf A) (fun f => fnB (fAt A f)) (fun f => fnV (fAt A f)) ord A.length m1 m2 (t.2.1 (ad 0) 15) f) := fun f hf => by
    have hR : bodyS A.length (parOf A) (mkRe (fun g => com g g) (parOf A) (fun f => fnB (fAt A f)) (fun f => fnV (fAt A f)) ord A.length m1 (t.2.1 (ad 0) 15) f).2.1 (parOf A (nI f)) (mkRe (fun g => com g g) (parOf A) (fun f => fnB (fAt A f)) (fun f => fnV (fAt A f)) ord A.length m1 (t.2.1 (ad 0) 15) f).1 := inlS_ok h4 H0.bs H0.or A.length (Nat.le_refl _) f (H0.or.2.2.1 f hf)
    unfold mkBo
    cases m2 with
    | true => exact hR.fold.1
    | false => exact hR
  obtain ⟨r, er⟩ : ∃ r, mkRe (fun g => com g g) (parOf A) (fun f => fnB (fAt A f)) (fun f => fnV (fAt A f)) ord A.length m1 (t.2.1 (ad 0) 15) = r := ⟨_, rfl⟩
  obtain ⟨b, eb⟩ : ∃ b, mkBo (fun g => com g g) (parOf A) (fun f => fnB (fAt A f)) (fun f => fnV (fAt A f)) ord A.length m1 m2 (t.2.1 (ad 0) 15) = b := ⟨_, rfl⟩
  rw [er, eb] at hBb
  have hcdB : ∀ f, f < A.length → cdG A.length (eTC tl f (parOf A (nI f)) (b f)) ∧ 2 + eTZ (parOf A (nI f)) (b f) + eTM tl (b f) ≤ 2000 := fun f hf => by
    obtain ⟨b1, b2, b3, b4, b5, b6, b7, b8⟩ := hBb f hf
    have := (eT_ok (A := A) (f := f) (M := 0) (tl := tl) (G := (([], parOf A (nI f), 0, b f, 0, eTC tl f (parOf A (nI f)) (b f), eTZ (parOf A (nI f)) (b f), eTM tl (b f), 0) : Fn)) b3 b4 b5 b1 b2 b6 b7 b8 rfl rfl rfl rfl).G
    refine ⟨this.1, ?_⟩
    have h1 : eTZ (parOf A (nI f)) (b f) ≤ 200 := this.2.1
    have h2 : eTM tl (b f) ≤ 600 := this.2.2
    omega
  have hcdA : ∀ f, f < A.length → cdG A.length (eTC false f (parOf A (nI f)) (fnB (fAt A f))) ∧ bFr A f = 2 + eTZ (parOf A (nI f)) (fnB (fAt A f)) + eTM false (fnB (fAt A f)) ∧ bFr A f ≤ 2000 := fun f hf => by
    obtain ⟨a1, a2, a3, ⟨a4, a5, a6⟩, a7⟩ := h12 f _ (A_at hf)
    have := a2.G
    rw [a4] at this
    refine ⟨by rw [par_e f hf]; exact this.1, by rw [par_e f hf, ← a5, ← a6], ?_⟩
    have h1 := this.2.1
    have h2 := this.2.2
    show 2 + fnS (fAt A f) + fnT (fAt A f) ≤ 2000
    omega
  obtain ⟨bd0, hbd0, hU0⟩ := bdOk.ex h4 h12
  obtain ⟨bd1, hbd1⟩ := isBd_ex (n := A.length) (cl := fun f g => cCal (eTC tl f (parOf A (nI f)) (b f)) g) (tb := fun f g => cTal (eTC tl f (parOf A (nI f)) (b f)) g) (fr := fun f => 2 + eTZ (parOf A (nI f)) (b f) + eTM tl (b f))
  refine m_makeOut (d := d) (p := p) (n := A.length) (par := parOf A) (nm := fun f => pk8 (fnN (fAt A f))) (cyc := fun g => com g g) (bo := fun f => fnB (fAt A f)) (sv := fun f => fnV (fAt A f)) (ord := ord) (m1 := m1) (m2 := m2) (tl := tl) (bud := t.2.1 (ad 0) 15) (cl := fun f g => cCal (eTC tl f (parOf A (nI f)) (b f)) g) (tb := fun f g => cTal (eTC tl f (parOf A (nI f)) (b f)) g) (fr := fun f => 2 + eTZ (parOf A (nI f)) (b f) + eTM tl (b f)) (bd := bd1) hP (by omega) h4 hL h2 rfl (fun g hg => (h9.1 g g hg hg).2.1) ⟨h4, h6.1, fun g hg => by rw [par_e g hg]; exact (h6.2 g _ (A_at hg)).2.1⟩ hfa.1 (fun f hf => ?_) H0.bs H0.or (fun k hk => (h9.2 k hk).1) hI.2.2.2.2 (by rw [← em1]; exact nd_f) (by rw [← em2]; exact nd_f) (by rw [← em4]; exact nd_f) (fun f g => by rw [eb]) (fun f g => by rw [eb]) (fun f hf => by rw [eb]) (fun f hf => (hcdB f hf).2) (fun f hf => by rw [eb]; exact (hcdB f hf).1) hbd1 (fun u Fu Ou _ z76 => ⟨_, rfl, Fu.L, ?_⟩)
  · obtain ⟨q1, q2, q3, q4, q5, q6, q7, ⟨s, w1, w2, w3, w4⟩, q9⟩ := h6.2 f _ (A_at hf)
    exact ⟨q1, q3, w3, s, w1, w2, w4⟩
  rw [er, eb] at Ou
  refine hp _ u (Fu.L.k c_Mo (by decide)) (fun post2 hpost => ?_)
  refine x_Mo_trim Fu.L (fun t1 e1 => ?_)
  have F1 : gFr ad (fun c k => omP c k || (Nat.beq c 144 && Nat.beq k 0)) t t1 := by
    rw [e1]
    exact (Fu.mo (fun c k q => by rw [q]; rfl)).si rfl
  have P1 : ∀ c k, (omP c k || (Nat.beq c 144 && Nat.beq k 0)) = true → (47 ≤ c ∧ c ≤ 82) ∨ (96 ≤ c ∧ c ≤ 111) ∨ (c = 144 ∧ k = 0) := fun c k q => by
    rw [Bool.or_eq_true, Bool.and_eq_true, Nat.beq_eq, Nat.beq_eq] at q
    rcases q with q | q
    · have := omP_in q; omega
    · omega
  have P1r : ∀ c k, ¬ ((47 ≤ c ∧ c ≤ 82) ∨ (96 ≤ c ∧ c ≤ 111) ∨ (c = 144 ∧ k = 0)) → (omP c k || (Nat.beq c 144 && Nat.beq k 0)) = false := fun c k q => by
    cases e : (omP c k || (Nat.beq c 144 && Nat.beq k 0)) with
    | false => rfl
    | true => exact absurd (P1 c k e) q
  have H1 := H0.lo F1 (fun c k h144 h0 => P1r c k (by omega))
  refine m_Mo_in ?_
  have hin : ((0 : Int64) ≤ v.toInt64 ∧ v.toInt64 ≤ 7) := (in_lit (m := 7) (by decide)).mpr (fun z => z.elim c0 (fun q => Int32.not_lt.mpr c7 q))
  rw [if_pos hin]
  refine ⟨_, rfl, F1.L, fun q => absurd q (by decide), fun _ => ?_⟩
  refine m_make (d := d + 3) (m1 := m1) (m2 := m2) (tl := tl) (cl0 := fun f g => cCal (eTC false f (parOf A (nI f)) (fnB (fAt A f))) g) (tb0 := fun f g => cTal (eTC false f (parOf A (nI f)) (fnB (fAt A f))) g) (fr0 := bFr A) (bd0 := bd0) (cl1 := fun f g => cCal (eTC tl f (parOf A (nI f)) (b f)) g) (tb1 := fun f g => cTal (eTC tl f (parOf A (nI f)) (b f)) g) (fr1 := fun f => 2 + eTZ (parOf A (nI f)) (b f) + eTM tl (b f)) (bd1 := bd1) H1 (by rw [← em1]; exact bt1.trans nd_t) (by rw [← em2]; exact bt2.trans nd_t) (by rw [← em4]; exact bt4.trans nd_t) (fun f g => rfl) (fun f g => rfl) (fun f hf => (hcdA f hf).2.1) (fun f hf => (hcdA f hf).2.2) (fun f hf => (hcdA f hf).1) hbd0 (fun f g => by rw [eb]) (fun f g => by rw [eb]) (fun f hf => by rw [eb]) (fun f hf => (hcdB f hf).2) (fun f hf => by rw [eb]; exact (hcdB f hf).1) hbd1 (fun w Fw Hw Bw Cw Uw => ⟨_, rfl, Fw.L, hpost w ?_⟩)
  rw [er, eb] at Bw
  rw [eb] at Cw
  have Ft : gFr ad trP t w := (F1.mo (fun c k q => by
    rw [Bool.or_eq_true] at q
    rcases q with q | q
    · exact trP_o q
    · unfold trP; rw [q, Bool.or_true])).tr (Fw.mo (fun c k q => trP_m q))
  have F0w : gFr ad (fun c k => mmP c k || (Nat.beq c 144 && Nat.beq k 0)) u w := by
    have a : gFr ad (fun c k => mmP c k || (Nat.beq c 144 && Nat.beq k 0)) u t1 := by
      rw [e1]
      exact (gFr.rf Fu.L).si rfl
    exact a.tr (Fw.mo (fun c k q => by rw [q]; rfl))
  have P0r : ∀ c k, 0 ≤ k → (c < 144) → (mmP c k || (Nat.beq c 144 && Nat.beq k 0)) = false := fun c k _ hc => by
    rw [mmP_r (by omega), show Nat.beq c 144 = false from Bool.eq_false_iff.mpr (fun q => by have := Nat.beq_eq.mp q; omega)]
    rfl
  refine ⟨Fw.L, hI.2.1.frP Ft (fun c k h => trP_r (by omega)) (fun k h => trP_r (by omega)), gRest_iff.mpr ⟨p, p2, A, newB A r b tl _, dir, com, ord, RX_make (bud := t.2.1 (ad 0) 15) h1 ?_ ?_ h4 (h6.fr (by omega) Ft (fun j k hj => trP_r (by omega))) (Ou.fr F0w (fun c k h1 h2 => P0r c k (Nat.zero_le _) (by omega))) (fun f F hF => ?_) Hw Bw Cw (fun f hf => ⟨?_, (Uw f hf).2⟩) (h9.fr Ft (fun c k h => trP_r (by omega))) h10 h12 hBb⟩, ?_, fun j => ?_⟩
  · rw [Ft.r 0 11 (trP_r (by omega))]; exact h2
  · rw [Ft.r 0 12 (trP_r (by omega))]; exact h3
  · rw [Ft.j 146 f (trP_r (by omega))]; exact (h8.2.1 f F hF).1
  · rw [(Uw f hf).1, hU0 f hf]
  · obtain ⟨v1, v2, a1, a2, a3, e1', e2'⟩ := hI.2.2.2.1
    exact ⟨v1, v2, a1, a2, a3, by rw [Ft.r 83 1 (trP_r (by omega))]; exact e1', by rw [Ft.r 83 2 (trP_r (by omega))]; exact e2'⟩
  · rw [F0w.i 76 j (P0r _ _ (Nat.zero_le _) (by decide))]
    exact z76 j
end PU
