/-! THE PAIR READ, proved -/
def rzP (p c k : Nat) : Bool := (Nat.beq c 0 && (Nat.beq k 11 || Nat.beq k 12 || Nat.beq k 14)) || (Nat.ble 3 c && Nat.ble c 82) || (Nat.ble 96 c && Nat.ble c 111) || (Nat.ble p c && Nat.ble c (p + 15))
theorem rzP_i {p c k : Nat} : rzP p c k = true ↔ (c = 0 ∧ (k = 11 ∨ k = 12 ∨ k = 14)) ∨ (3 ≤ c ∧ c ≤ 82) ∨ (96 ≤ c ∧ c ≤ 111) ∨ (p ≤ c ∧ c ≤ p + 15) := by
  unfold rzP
  simp only [Bool.or_eq_true, Bool.and_eq_true, Nat.beq_eq, Nat.ble_eq, or_assoc]
def myzP (c k : Nat) : Bool := (Nat.beq c 144 && (Nat.beq k 0 || (Nat.ble 3 k && Nat.ble k 11) || (Nat.ble 23 k && Nat.ble k 35) || Nat.beq k 41 || Nat.beq k 45 || Nat.beq k 50 || Nat.beq k 54 || Nat.beq k 65 || Nat.beq k 66)) || (Nat.ble 146 c && Nat.ble c 189)
theorem myzP_i {c k : Nat} : myzP c k = true ↔ (c = 144 ∧ (k = 0 ∨ (3 ≤ k ∧ k ≤ 11) ∨ (23 ≤ k ∧ k ≤ 35) ∨ k = 41 ∨ k = 45 ∨ k = 50 ∨ k = 54 ∨ k = 65 ∨ k = 66)) ∨ (146 ≤ c ∧ c ≤ 189) := by
  unfold myzP
  simp only [Bool.or_eq_true, Bool.and_eq_true, Nat.beq_eq, Nat.ble_eq, or_assoc]
def rallP (p c k : Nat) : Bool := rzP p c k || myzP c k
theorem rallP_r {p c k : Nat} (h1 : ¬ ((c = 0 ∧ (k = 11 ∨ k = 12 ∨ k = 14)) ∨ (3 ≤ c ∧ c ≤ 82) ∨ (96 ≤ c ∧ c ≤ 111) ∨ (p ≤ c ∧ c ≤ p + 15))) (h2 : ¬ ((c = 144 ∧ (k = 0 ∨ (3 ≤ k ∧ k ≤ 11) ∨ (23 ≤ k ∧ k ≤ 35) ∨ k = 41 ∨ k = 45 ∨ k = 50 ∨ k = 54 ∨ k = 65 ∨ k = 66)) ∨ (146 ≤ c ∧ c ≤ 189))) : rallP p c k = false := by
  unfold rallP
  rw [bool_r rzP_i h1, bool_r myzP_i h2]
  rfl
section PQ
variable {cx : gCx} {d : Nat} {ad : Nat → Nat}
theorem p_read (hcs : g_CS cx) (hi : ∀ i j, i < 199 → j < 199 → ad i = ad j → i = j) : g_pair cx (d + 7 * 30 + 33) (g_Inv ad (gRst ad)) (ad c_Tr) (ad c_Mo) i_Tr_read i_Mo_read [] := by
  intro t hI post hp
  have hL := hI.1
  obtain ⟨p, p2, A0, B0, dir, com, ord, hX⟩ := gRest_iff.mp hI.2.2.1
  have hX' := hX
  obtain ⟨h1, h2, h3, h4, h5, h6, h7, h8, h9, h10, h11, h12, h13⟩ := hX
  have hv : vB ad t := h11
  have hQ : isQ p ∧ isQ p2 ∧ (p + 16 ≤ p2 ∨ p2 + 16 ≤ p) := by rcases h1 with ⟨rfl, rfl⟩ | ⟨rfl, rfl⟩ <;> exact ⟨by first | exact Or.inl rfl | exact Or.inr rfl, by first | exact Or.inl rfl | exact Or.inr rfl, by decide⟩
  obtain ⟨hq, hq2, hpp⟩ := hQ
  have g1 := hq.ge
  have g2 := hq2.ge
  obtain ⟨T, n, hT, t13, t2, htx, htm⟩ := txt_of hI.2.1
  have hbud : t.2.1 (ad 144) 46 = t.2.1 (ad 0) 15 := hI.2.1.2.2.1.symm
  refine x_Tr_rd (p := p) (p2 := p2) hq.P hq2.P hL h3 ?_
  rw [t13]
  refine m_readInto (d := d) (dm := d + 7 * 30 + 21) hcs hq2 hT hL htx (fun FS cl ac a u hO ha hG Fu u15 hfn hsem => ⟨_, rfl, Fu.L, by rw [Fu.r 0 11 (bool_r rdP_i (by omega))]; exact h2, by rw [Fu.r 0 12 (bool_r rdP_i (by omega))]; exact h3, fun _ t3 e3 t4 e4 t6 e6 => ?_, fun z => absurd rfl z⟩) (fun c q u hc Fu u49 hsem => ⟨_, rfl, Fu.L, by rw [Fu.r 0 11 (bool_r rdP_i (by omega))]; exact h2, by rw [Fu.r 0 12 (bool_r rdP_i (by omega))]; exact h3, fun z => absurd z (nI_ne0 (by omega) (by omega)), fun _ => f_read (d := d + 7 * 30 + 21) (d' := d + 7 * 30 + 31) hI hX' g1 g2 hpp hT t2 htm hp Fu u49 hsem⟩)
  -- a program
  have hn3 := hT.1
  obtain ⟨U, hA⟩ := src_all hO hG
  obtain ⟨A, eA⟩ : ∃ A, srcA FS (tgI FS cl) U = A := ⟨_, rfl⟩
  have hlen : A.length = FS.length := by rw [← eA]; exact srcA_len
  have hn : A.length ≤ 24 := by rw [hlen]; exact hO.1.1
  have hRS : RS u ad p2 A := by rw [← eA]; exact RS_of hq2 hO (by omega) u15 hfn
  have hcap : (catC (fun f => eTC false f (parOf A (nI f)) (fnB (fAt A f))) A.length).length ≤ 6000 := by
    rw [← eA]
    exact cap_of hO (by omega) (fun f F hF => (hA f F hF).1)
  rw [eA] at hA
  obtain ⟨hord, hok⟩ := ord_A hn hA
  -- the swap
  have F3 : gFr ad (rzP p2) t t3 := by
    rw [e3]
    exact (Fu.mo (fun c k z => rzP_i.mpr (by rw [rdP_i] at z; omega))).si rfl
  have F4 : gFr ad (rzP p2) t t4 := by rw [e4]; exact F3.sr rfl (by decide +kernel)
  have F6 : gFr ad (rzP p2) t t6 := by rw [e6]; exact F4.sr rfl (by decide +kernel)
  have r11 : t6.2.2.2 (ad 0) 11 = some (ad p2) := by rw [e6, g_rr_o (Or.inr (by decide)), e4, g_rr_at]
  have r12 : t6.2.2.2 (ad 0) 12 = some (ad p) := by rw [e6, g_rr_at]
  have i6 : ∀ c k, c < 199 → ¬ (c = 0 ∧ k = 14) → t6.2.1 (ad c) k = u.2.1 (ad c) k := fun c k hc hk => by
    rw [e6, g_sr_i, e4, g_sr_i, e3]
    by_cases z : c = 0
    · rw [z, g_rd_k (by omega)]
    · rw [g_rd_ne (hL.ne c 0 hc (by decide) z)]
  have i14 : t6.2.1 (ad 0) 14 = -1 := by rw [e6, g_sr_i, e4, g_sr_i, e3, g_rd_at]
  have j6 : ∀ c k, t6.2.2.1 (ad c) k = u.2.2.1 (ad c) k := fun c k => by rw [e6, g_sr_j, e4, g_sr_j, e3, g_si_j]
  have hRS6 : RS t6 ad p2 A := by
    refine ⟨by rw [i6 p2 15 (by omega) (by omega)]; exact hRS.1, fun f F hF => ?_⟩
    obtain ⟨q1, q2, q3, q4, q5, s, s1, s2, s3⟩ := hRS.2 f F hF
    refine ⟨by rw [j6]; exact q1, by rw [i6 (p2 + 2) f (by omega) (by omega)]; exact q2, by rw [i6 (p2 + 3) f (by omega) (by omega)]; exact q3, by rw [i6 (p2 + 6) f (by omega) (by omega)]; exact q4, by rw [i6 (p2 + 5) f (by omega) (by omega)]; exact q5, s, by rw [i6 (p2 + 4) f (by omega) (by omega)]; exact s1, s2, fun i q hq' => ?_⟩
    rw [i6 (p2 + 12) _ (by omega) (by omega), i6 (p2 + 13) _ (by omega) (by omega)]
    exact s3 i q hq'
  have h76 : ∀ j, ¬ t6.2.1 (ad 76) j < 0 := fun j => by
    rw [i6 76 j (by decide) (by omega), Fu.i 76 j (bool_r rdP_i (by omega))]
    exact hI.2.2.2.2 j
  refine c_after (d := d + 7 * 30 + 4) hq2 F6.L hn hA hRS6 hcap r11 h76 (fun w Fw hRP hCG z76 => ?_)
  have Ftw : gFr ad (rzP p2) t w := F6.tr (Fw.mo (fun c k z => rzP_i.mpr (by have := afP_in z; omega)))
  obtain ⟨bud, ebud⟩ : ∃ bud, t.2.1 (ad 0) 15 = bud := ⟨_, rfl⟩
  -- the bodies
  have hBS : ∀ f, f < A.length → bodyS A.length (parOf A) (fvA A f) (parOf A (nI f)) (fbA A f) := fun f hf => (hA f _ (A_at hf)).1.S (A_at hf) hn
  have hBb : ∀ f, f < A.length → bodyS A.length (parOf A) (reA A bud f).2.1 (parOf A (nI f)) (boA A bud f) := fun f hf => inlS_ok hn hBS hord.I A.length (Nat.le_refl _) f (hord.I.2.2.1 f hf)
  have hcdB : ∀ f, f < A.length → cdG A.length (eTC false f (parOf A (nI f)) (boA A bud f)) ∧ 2 + eTZ (parOf A (nI f)) (boA A bud f) + eTM false (boA A bud f) ≤ 2000 := fun f hf => by
    obtain ⟨b1, b2, b3, b4, b5, b6, b7, b8⟩ := hBb f hf
    have := (eT_ok (A := A) (f := f) (M := 0) (tl := false) (G := (([], parOf A (nI f), 0, boA A bud f, 0, eTC false f (parOf A (nI f)) (boA A bud f), eTZ (parOf A (nI f)) (boA A bud f), eTM false (boA A bud f), 0) : Fn)) b3 b4 b5 b1 b2 b6 b7 b8 rfl rfl rfl rfl).G
    refine ⟨this.1, ?_⟩
    have h1 : eTZ (parOf A (nI f)) (boA A bud f) ≤ 200 := this.2.1
    have h2 : eTM false (boA A bud f) ≤ 600 := this.2.2
    omega
  obtain ⟨bd1, hbd1⟩ := isBd_ex (n := A.length) (cl := fun f g => cCal (eTC false f (parOf A (nI f)) (boA A bud f)) g) (tb := fun f g => cTal (eTC false f (parOf A (nI f)) (boA A bud f)) g) (fr := fun f => 2 + eTZ (parOf A (nI f)) (boA A bud f) + eTM false (boA A bud f))
  have w11 : w.2.2.2 (ad 0) 11 = some (ad p2) := by rw [Fw.r 0 11 (afP_r (by omega))]; exact r11
  have par_e : ∀ f, f < A.length → parOf A (nI f) = fnP (fAt A f) := fun f hf => (at_A (A_at hf) hn).2.1
  refine m_makeOut (d := d + 7 * 30 + 24) (p := p2) (n := A.length) (par := parOf A) (nm := fun f => pk8 (fnN (fAt A f))) (cyc := cyA A) (bo := fbA A) (sv := fvA A) (ord := ordA A) (m1 := false) (m2 := false) (tl := false) (bud := bud) (cl := fun f g => cCal (eTC false f (parOf A (nI f)) (boA A bud f)) g) (tb := fun f g => cTal (eTC false f (parOf A (nI f)) (boA A bud f)) g) (fr := fun f => 2 + eTZ (parOf A (nI f)) (boA A bud f) + eTM false (boA A bud f)) (bd := bd1) hq2.P (by omega) hn Fw.L w11 (by rw [Ftw.i 0 15 (bool_r rzP_i (by omega))]; exact ebud) (fun g hg => hCG.2.1 g g hg (by omega)) ⟨hn, hRP.1, fun g hg => by rw [par_e g hg]; exact (hRP.2 g _ (A_at hg)).2.1⟩ (A_par6 hn hA) (fun f hf => ?_) hBS hord.I (fun k hk => hCG.2.2 k _ (hok k hk)) z76 (by decide) (by decide) (by decide) (fun f g => rfl) (fun f g => rfl) (fun f hf => rfl) (fun f hf => (hcdB f hf).2) (fun f hf => (hcdB f hf).1) hbd1 (fun v Fv Ov _ y76 => ⟨_, rfl, Fv.L, by rw [Fv.r 0 11 rfl]; exact w11, ?_⟩)
  · obtain ⟨q1, q2, q3, q4, q5, q6, q7, ⟨s, w1, w2, w3, w4⟩, q9⟩ := hRP.2 f _ (A_at hf)
    exact ⟨q1, q3, w3, s, w1, w2, w4⟩
  have omr : ∀ c k, ¬ ((47 ≤ c ∧ c ≤ 82) ∨ (96 ≤ c ∧ c ≤ 111)) → omP c k = false := fun c k z => Bool.eq_false_iff.mpr (fun y => z (by have := omP_in y; omega))
  have Ftv : gFr ad (rzP p2) t v := Ftw.tr (Fv.mo (fun c k z => rzP_i.mpr (by have := omP_in z; omega)))
  have v15 : v.2.1 (ad p2) 15 = nI A.length := by rw [Fv.i p2 15 (omr _ _ (by omega)) (by omega)]; exact hRP.1
  rw [v15]
  refine hp _ v (Fv.L.k c_Mo (by decide)) (fun post2 hpost => ?_)
  have b144 : ∀ k, v.2.1 (ad 144) k = t.2.1 (ad 144) k := fun k => Ftv.i 144 k (bool_r rzP_i (by omega))
  refine m_read0 (d := d + 7 * 30 + 21) (T := T) (n := n) Fv.L ⟨hT, by rw [b144]; exact t2, fun j hj => by rw [Ftv.i 145 j (bool_r rzP_i (by omega))]; exact htm j hj⟩ (by
    obtain ⟨q0, q1, q2⟩ := hv
    exact ⟨q0, by rw [b144]; exact q1, q2⟩) (fun x Fx hm => hsem x post2 x hm (fun y o2 o3 Fy ly y23 y11 hmf => ?_))
  have Fvy : gFr ad myzP v y := (Fx.mo (fun c k z => by
    simp only [Bool.and_eq_true, Bool.or_eq_true, Nat.beq_eq] at z
    rw [myzP_i]
    omega)).tr (Fy.mo (fun c k z => by
    rw [Bool.or_eq_true, mfuP_i, Bool.and_eq_true, Nat.beq_eq, Nat.beq_eq] at z
    rw [myzP_i]
    omega))
  have y46 : y.2.1 (ad 144) 46 = bud := by rw [Fvy.i 144 46 rfl, b144, hbud]; exact ebud
  refine m_after (d := d + 7 * 30 + 21) (A := A) (bud := bud) (bd1 := bd1) hn hA Fvy.L (by rw [hlen]; exact y23) (by rw [hlen]; exact y11) y46 ly.2.2 (fun f F hF => ?_) hcdB hbd1 (fun z Fz Hz Bz Cz Uz Jz Gz Oz => hpost z ?_)
  · rw [← eA] at hF
    obtain ⟨q, hq', rfl⟩ := srcA_at hF
    have m := hmf f q hq'
    exact ⟨m.1, m.2.1, mFn.bd (FS := FS) m (hO.2.2.2.1 q (List.mem_of_getElem? hq')).2.2.1⟩
  have Fvz : gFr ad myzP v z := Fvy.tr (Fz.mo (fun c k z => by
    have := mreP_in z
    rw [myzP_i]
    omega))
  have Ftz : gFr ad (rallP p2) t z := (Ftv.mo (fun c k z => by unfold rallP; rw [z]; rfl)).tr (Fvz.mo (fun c k z => by unfold rallP; rw [z, Bool.or_true]))
  have lowz : ∀ c k, c < 144 → myzP c k = false := fun c k hc => bool_r myzP_i (by omega)
  have iw : ∀ c k, c < 144 → ¬ ((47 ≤ c ∧ c ≤ 82) ∨ (96 ≤ c ∧ c ≤ 111)) → z.2.1 (ad c) k = w.2.1 (ad c) k := fun c k hc hk => by rw [Fvz.i c k (lowz c k hc) (by omega), Fv.i c k (omr c k hk) (by omega)]
  have z14 : z.2.1 (ad 0) 14 = -1 := by rw [iw 0 14 (by decide) (by omega), Fw.i 0 14 (afP_r (by omega))]; exact i14
  have z4 : z.2.1 (ad 144) 4 = -1 := by rw [Fz.i 144 4 (mreP_r (by omega))]; exact ly.2.1
  refine ⟨Fz.L, hI.2.1.frQ Ftz (fun c k hc => by rcases hc with hc | hc | hc | hc | hc | hc | hc | hc | hc | hc | hc <;> exact rallP_r (by omega) (by omega)) (fun k hk => rallP_r (by omega) (by omega)) (by rw [z14, z4]), gRest_iff.mpr ⟨p2, p, A, newB A (reA A bud) (boA A bud) false _, dirA A, comA A, ordA A, RX_make (bud := bud) (by rcases h1 with ⟨a, b⟩ | ⟨a, b⟩; exact Or.inr ⟨b, a⟩; exact Or.inl ⟨b, a⟩) ?_ ?_ hn ((hRP.fr (by omega) Fv (fun j k hj => omr _ _ (by omega))).fr (by omega) Fvz (fun j k hj => lowz _ _ (by omega))) (Ov.fr Fvz (fun c k h1 h2 => lowz _ _ (by omega))) Jz Hz Bz Cz Uz ⟨fun f g hf hg => ⟨?_, ?_, (Gz f g hf hg).1, (Gz f g hf hg).2⟩, fun k hk => ⟨?_, Oz k hk⟩⟩ hord hA hBb⟩, ?_, fun j => ?_⟩
  · rw [Fvz.r 0 11 rfl, Fv.r 0 11 rfl]; exact w11
  · rw [Fvz.r 0 12 rfl, Fv.r 0 12 rfl, Fw.r 0 12 (afP_r (by omega))]; exact r12
  · show hb (z.2.1 (ad 19) f) g = _
    rw [iw 19 f (by decide) (by omega)]; exact hCG.1 f g hf (by omega)
  · show hb (z.2.1 (ad 20) f) g = _
    rw [iw 20 f (by decide) (by omega)]; exact hCG.2.1 f g hf (by omega)
  · show z.2.1 (ad 18) k = _
    rw [iw 18 k (by decide) (by omega)]; exact hCG.2.2 k _ (hok k hk)
  · obtain ⟨v1, v2, a1, a2, a3, e1', e2'⟩ := hI.2.2.2.1
    exact ⟨v1, v2, a1, a2, a3, by rw [Ftz.r 83 1 (rallP_r (by omega) (by omega))]; exact e1', by rw [Ftz.r 83 2 (rallP_r (by omega) (by omega))]; exact e2'⟩
  · rw [Fvz.i 76 j (lowz _ _ (by decide))]
    exact y76 j
end PQ
