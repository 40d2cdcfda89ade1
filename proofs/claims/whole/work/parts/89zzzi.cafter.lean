/-! READ: the class behind its reading -/
def RS (t : gSt) (ad : Nat → Nat) (p : Nat) (A : List Fn) : Prop := t.2.1 (ad p) 15 = nI A.length ∧ ∀ f F, A[f]? = some F → t.2.2.1 (ad (p + 1)) f = pk8 (fnN F) ∧ t.2.1 (ad (p + 2)) f = nI (fnP F) ∧ t.2.1 (ad (p + 3)) f = nI (fnV F) ∧ t.2.1 (ad (p + 6)) f = 0 ∧ t.2.1 (ad (p + 5)) f = nI (fo_n (fnB F)) ∧ RB t ad p f (fnB F)
def CGr (t : gSt) (ad : Nat → Nat) (A : List Fn) : Prop := (∀ f g, f < A.length → g < 24 → hb (t.2.1 (ad 19) f) g = dirA A f g) ∧ (∀ f g, f < A.length → g < 24 → hb (t.2.1 (ad 20) f) g = comA A f g) ∧ ∀ (j c : Nat), (ordS (csA A) A.length).2[j]? = some c → t.2.1 (ad 18) j = nI c
def afP (p c k : Nat) : Bool := grP c k || cEP p c k || bdP p c k
theorem afP_in {p c k : Nat} (h : afP p c k = true) : (12 ≤ c ∧ c ≤ 20) ∨ (22 ≤ c ∧ c ≤ 46) ∨ (c = 11 ∧ (k = 6 ∨ k = 7)) ∨ (68 ≤ c ∧ c ≤ 78) ∨ (p + 7 ≤ c ∧ c ≤ p + 11) ∨ c = p + 14 ∨ c = p + 15 ∨ (c = 67 ∧ 6 ≤ k ∧ k ≤ 12) ∨ (80 ≤ c ∧ c ≤ 82) := by
  unfold afP at h
  rw [Bool.or_eq_true, Bool.or_eq_true] at h
  rcases h with (h | h) | h
  · have := grP_in h; omega
  · have := cEP_in h; omega
  · have := bdP_in h; omega
theorem afP_r {p c k : Nat} (h : ¬ ((12 ≤ c ∧ c ≤ 20) ∨ (22 ≤ c ∧ c ≤ 46) ∨ (c = 11 ∧ (k = 6 ∨ k = 7)) ∨ (68 ≤ c ∧ c ≤ 78) ∨ (p + 7 ≤ c ∧ c ≤ p + 11) ∨ c = p + 14 ∨ c = p + 15 ∨ (c = 67 ∧ 6 ≤ k ∧ k ≤ 12) ∨ (80 ≤ c ∧ c ≤ 82))) : afP p c k = false := by
  cases e : afP p c k with
  | false => rfl
  | true => exact absurd (afP_in e) h
theorem RS_of {ad : Nat → Nat} {p : Nat} {FS : List FD} {cl : CL} {ac : Nat → Nat} {a : Nat} {U : Nat → Int32} {u : gSt} (hp : isQ p) (hO : FOK FS cl ac a) (ha : a ≤ 3000) (h15 : u.2.1 (ad p) 15 = nI FS.length) (h : ∀ f q, FS[f]? = some q → cFn ad p f (FDm (tgI FS cl) q) (fdsz (FS.take f)) u) : RS u ad p (srcA FS (tgI FS cl) U) := by
  refine ⟨by rw [srcA_len]; exact h15, fun f F hF => ?_⟩
  obtain ⟨q, hq, rfl⟩ := srcA_at hF
  obtain ⟨r1, r2, r3, r4, r5, r6, r7⟩ := h f q hq
  have := fdsz_le (f := f) FS f q hq
  have := hO.1.2.1
  exact ⟨r1, r2, r3, r4, r6, fdsz (FS.take f), r5, by rw [hp.l.1]; show _ + fo_n (fo_mv _ _) ≤ 3000; rw [fo_n_mv]; omega, r7⟩
theorem cap_of {FS : List FD} {cl : CL} {ac : Nat → Nat} {a : Nat} {U : Nat → Int32} (hO : FOK FS cl ac a) (ha : a ≤ 3000) (hA : ∀ (f : Nat) (F : Fn), (srcA FS (tgI FS cl) U)[f]? = some F → fn_ok (srcA FS (tgI FS cl) U) 400 46 F) : (catC (fun f => eTC false f (parOf (srcA FS (tgI FS cl) U) (nI f)) (fnB (fAt (srcA FS (tgI FS cl) U) f))) (srcA FS (tgI FS cl) U).length).length ≤ 6000 := by
  have hn := hO.1.1
  have key : ∀ m, m ≤ FS.length → 3 * (catC (fun f => eTC false f (parOf (srcA FS (tgI FS cl) U) (nI f)) (fnB (fAt (srcA FS (tgI FS cl) U) f))) m).length ≤ 4 * fdsz (FS.take m) + 2 * m := by
    intro m
    induction m with
    | zero => exact fun _ => Nat.zero_le _
    | succ m ih =>
      intro hm
      have h1 := ih (by omega)
      obtain ⟨q, hq⟩ : ∃ q, FS[m]? = some q := ⟨_, List.getElem?_eq_getElem (by omega)⟩
      have hF := srcA_of (g := tgI FS cl) (U := U) hq
      have hk := hA m _ hF
      have e1 : fAt (srcA FS (tgI FS cl) U) m = fnA (tgI FS cl) U m q := (at_A hF (by rw [srcA_len]; exact hn)).1
      have hl := eTC_len (tl := false) (own := m) (P := parOf (srcA FS (tgI FS cl) U) (nI m)) hk.2.2.2.2.2.2.1 hk.2.2.2.2.1
      have e2 : fo_n (fnB (fnA (tgI FS cl) U m q)) = fo_n q.2.2.2 := fo_n_mv _
      have e3 : fdsz (FS.take (m + 1)) = fdsz (FS.take m) + fo_n q.2.2.2 := by
        rw [List.take_add_one, hq, ← fdsz_ap]
        rfl
      unfold catC at h1 ⊢
      rw [List.range_succ, List.map_append, List.flatten_append, List.length_append]
      simp only [List.map_cons, List.map_nil, List.flatten_cons, List.flatten_nil, List.append_nil]
      rw [e1, e3]
      rw [e2] at hl
      omega
  have h2 := key FS.length (Nat.le_refl _)
  rw [List.take_length] at h2
  have := hO.1.2.1
  rw [srcA_len]
  omega
section CA
variable {cx : gCx} {d : Nat} {ad : Nat → Nat} {t : gSt} {p : Nat} {A : List Fn}
theorem A_par6 (hn : A.length ≤ 24) (hA : ∀ f F, A[f]? = some F → fn_ok A 400 46 F ∧ cd_ok A f F ∧ fnR F = 0 ∧ srcOk false f F ∧ bdOk A) (v : Int32) : parOf A v ≤ 6 := by
  unfold parOf
  cases e : A[v.toNatClampNeg]? with
  | none => exact Nat.zero_le _
  | some F => exact (hA _ F e).1.2.1
theorem A_cd (hn : A.length ≤ 24) (hA : ∀ f F, A[f]? = some F → fn_ok A 400 46 F ∧ cd_ok A f F ∧ fnR F = 0 ∧ srcOk false f F ∧ bdOk A) {f : Nat} (hf : f < A.length) : cdG A.length (eTC false f (parOf A (nI f)) (fnB (fAt A f))) ∧ bFr A f = 2 + eTZ (parOf A (nI f)) (fnB (fAt A f)) + eTM false (fnB (fAt A f)) ∧ bFr A f ≤ 2000 := by
  have par_e : parOf A (nI f) = fnP (fAt A f) := (at_A (A_at hf) hn).2.1
  obtain ⟨a1, a2, a3, ⟨a4, a5, a6⟩, a7⟩ := hA f _ (A_at hf)
  have := a2.G
  rw [a4] at this
  refine ⟨by rw [par_e]; exact this.1, by rw [par_e, ← a5, ← a6], ?_⟩
  have h1 := this.2.1
  have h2 := this.2.2
  show 2 + fnS (fAt A f) + fnT (fAt A f) ≤ 2000
  omega
theorem c_after {K : gSt → Prop} (hp : isQ p) (hL : Lay t ad) (hn : A.length ≤ 24) (hA : ∀ f F, A[f]? = some F → fn_ok A 400 46 F ∧ cd_ok A f F ∧ fnR F = 0 ∧ srcOk false f F ∧ bdOk A) (hR : RS t ad p A) (hcap : (catC (fun f => eTC false f (parOf A (nI f)) (fnB (fAt A f))) A.length).length ≤ 6000) (h11 : t.2.2.2 (ad 0) 11 = some (ad p)) (h76 : ∀ j, ¬ t.2.1 (ad 76) j < 0)
    (h : ∀ u, gFr ad (afP p) t u → RP (rI u ad) (rJ u ad) p A → CGr u ad A → (∀ j, ¬ u.2.1 (ad 76) j < 0) → K u) :
    g_E cx (d + 28) i_Graph_draw [.ref (ad 11), .ref (ad p)] t (fun r u8 => r = none ∧ Lay u8 ad ∧ u8.2.2.2 (ad 0) 11 = some (ad p) ∧ (g_E cx (d + 28) i_Coder_encode [.ref (ad 67), .ref (ad p), .int 0] u8 (fun r u10 => r = none ∧ Lay u10 ad ∧ u10.2.2.2 (ad 0) 11 = some (ad p) ∧ (g_E cx (d + 28) i_Bounds_find [.ref (ad 79), .ref (ad p)] u10 (fun r u12 => r = none ∧ Lay u12 ad ∧ K u12))))) := by
  have hpg := hp.ge
  have par_e : ∀ f, f < A.length → parOf A (nI f) = fnP (fAt A f) := fun f hf => (at_A (A_at hf) hn).2.1
  have hRp : RPar t ad p A.length (parOf A) := ⟨hn, hR.1, fun g hg => by rw [par_e g hg]; exact (hR.2 g _ (A_at hg)).2.1⟩
  have hBS : ∀ f, f < A.length → bodyS A.length (parOf A) (fnV (fAt A f)) (parOf A (nI f)) (fnB (fAt A f)) := fun f hf => (hA f _ (A_at hf)).1.S (A_at hf) hn
  refine m_draw (d := d) hp.P hL hn hRp (fun v => Nat.le_trans (A_par6 hn hA v) (by decide)) (bo := fun f => fnB (fAt A f)) (fun f hf => ⟨(hR.2 f _ (A_at hf)).2.2.2.2.2, (hBS f hf).1, fo_wv _ _ (hBS f hf).2.2.2.2.2.1, (hBS f hf).2.1⟩) (fun u1 F1 g1 g2 g3 => ⟨rfl, F1.L, by rw [F1.r 0 11 (grP_r (by omega))]; exact h11, ?_⟩)
  have rb1 : ∀ f, f < A.length → RB u1 ad p f (fnB (fAt A f)) := fun f hf => by
    obtain ⟨s, s1, s2, s3⟩ := (hR.2 f _ (A_at hf)).2.2.2.2.2
    refine ⟨s, by rw [F1.i (p + 4) f (grP_r (by omega)) (by omega)]; exact s1, s2, fun i q hq => ?_⟩
    rw [F1.i (p + 12) _ (grP_r (by omega)) (by omega), F1.i (p + 13) _ (grP_r (by omega)) (by omega)]
    exact s3 i q hq
  have hRp1 : RPar u1 ad p A.length (parOf A) := ⟨hn, by rw [F1.i p 15 (grP_r (by omega)) (by omega)]; exact hRp.2.1, fun g hg => by rw [F1.i (p + 2) g (grP_r (by omega)) (by omega)]; exact hRp.2.2 g hg⟩
  refine m_encode (d := d + 23) (p := p) (tl := false) (par := parOf A) (bo := fun f => fnB (fAt A f)) hp.P F1.L hn hRp1 (A_par6 hn hA) (fun f hf => ⟨rb1 f hf, (hBS f hf).C⟩) (by rw [hp.l.2.2.1]; exact hcap) (fun j => by rw [F1.i 76 j (grP_r (by omega))]; exact h76 j) (fun u2 F2 c2 z2 => ⟨rfl, F2.L, by rw [F2.r 0 11 (cEP_r (by omega)), F1.r 0 11 (grP_r (by omega))]; exact h11, ?_⟩)
  obtain ⟨bd0, hbd0, hU0⟩ := bdOk.ex hn hA
  refine m_bfind (d := d + 25) (p := p) (n := A.length) (cl := fun f g => cCal (eTC false f (parOf A (nI f)) (fnB (fAt A f))) g) (tb := fun f g => cTal (eTC false f (parOf A (nI f)) (fnB (fAt A f))) g) (fc := fun f => eTC false f (parOf A (nI f)) (fnB (fAt A f))) (fr := bFr A) (b := bd0) (fun f g => rfl) (fun f g => rfl) hp.P F2.L hn (by rw [F2.i p 15 (cEP_r (by omega)) (by omega)]; exact hRp1.2.1) (fun f hf => ?_) (fun f hf => (A_cd hn hA hf).1) (fun f hf => ?_) (fun f hf => (A_cd hn hA hf).2.2) hbd0 (fun u3 F3 v3 => ⟨rfl, F3.L, ?_⟩)
  · obtain ⟨s, s1, s2, s3, s4, _, _⟩ := c2 f hf
    exact ⟨s, s1, s2, s3, s4⟩
  · obtain ⟨s, _, _, _, _, s5, s6⟩ := c2 f hf
    exact ⟨_, _, s5, s6, (A_cd hn hA hf).2.1⟩
  · have FF : gFr ad (afP p) t u3 := ((F1.mo (fun c k q => by unfold afP; rw [q]; rfl)).tr (F2.mo (fun c k q => by unfold afP; rw [q, Bool.or_true]; rfl))).tr (F3.mo (fun c k q => by unfold afP; rw [q, Bool.or_true]))
    refine h u3 FF ⟨?_, fun f F hF => ?_⟩ ⟨fun f g hf hg => ?_, fun f g hf hg => ?_, fun j c hj => ?_⟩ (fun j => by rw [F3.i 76 j (bdP_r (by omega))]; exact z2 j)
    · show u3.2.1 (ad p) 15 = _
      rw [FF.i p 15 (afP_r (by omega)) (by omega)]
      exact hR.1
    · have hf := (at_A hF hn).2.2
      obtain ⟨r1, r2, r3, r4, r5, s, s1, s2, s3⟩ := hR.2 f F hF
      obtain ⟨a1, a2, a3, ⟨a4, a5, a6⟩, a7⟩ := hA f F hF
      have eF := (at_A hF hn).1
      have eP := (at_A hF hn).2.1
      obtain ⟨w, w1, w2, w3, w4, w5, w6⟩ := c2 f hf
      rw [eP] at w2 w3 w4 w5
      have e6 : (fun f => fnB (fAt A f)) f = fnB F := congrArg fnB eF
      rw [e6] at w2 w3 w4 w5 w6
      rw [← a4] at w2 w3 w4
      rw [← a5] at w5
      rw [← a6] at w6
      refine ⟨?_, ?_, ?_, ?_, ?_, ?_, ?_, ⟨s, ?_, s2, ?_, fun i q hq => ?_⟩, ⟨w, ?_, w2, ?_, fun i q hq => ?_⟩⟩
      · show u3.2.2.1 (ad (p + 1)) f = _
        rw [FF.j (p + 1) f (afP_r (by omega)) (by omega)]; exact r1
      · show u3.2.1 (ad (p + 2)) f = _
        rw [FF.i (p + 2) f (afP_r (by omega)) (by omega)]; exact r2
      · show u3.2.1 (ad (p + 3)) f = _
        rw [FF.i (p + 3) f (afP_r (by omega)) (by omega)]; exact r3
      · show u3.2.1 (ad (p + 6)) f = _
        rw [FF.i (p + 6) f (afP_r (by omega)) (by omega), a3]; exact r4
      · show u3.2.1 (ad (p + 9)) f = _
        rw [F3.i (p + 9) f (bdP_r (by omega)) (by omega)]; exact w5
      · show u3.2.1 (ad (p + 10)) f = _
        rw [F3.i (p + 10) f (bdP_r (by omega)) (by omega)]; exact w6
      · show u3.2.1 (ad (p + 11)) f = _
        rw [v3 f hf, ← hU0 f hf, eF]
      · show u3.2.1 (ad (p + 4)) f = _
        rw [FF.i (p + 4) f (afP_r (by omega)) (by omega)]; exact s1
      · show u3.2.1 (ad (p + 5)) f = _
        rw [FF.i (p + 5) f (afP_r (by omega)) (by omega)]; exact r5
      · show u3.2.1 (ad (p + 12)) _ = _ ∧ u3.2.1 (ad (p + 13)) _ = _
        rw [FF.i (p + 12) _ (afP_r (by omega)) (by omega), FF.i (p + 13) _ (afP_r (by omega)) (by omega)]; exact s3 i q hq
      · show u3.2.1 (ad (p + 7)) f = _
        rw [F3.i (p + 7) f (bdP_r (by omega)) (by omega)]; exact w1
      · show u3.2.1 (ad (p + 8)) f = _
        rw [F3.i (p + 8) f (bdP_r (by omega)) (by omega)]; exact w3
      · show u3.2.1 (ad (p + 14)) _ = _ ∧ u3.2.1 (ad (p + 15)) _ = _
        rw [F3.i (p + 14) _ (bdP_r (by omega)) (by omega), F3.i (p + 15) _ (bdP_r (by omega)) (by omega)]; exact w4 i q hq
    · rw [F3.i 19 f (bdP_r (by omega)), F2.i 19 f (cEP_r (by omega))]; exact g1 f g hf hg
    · rw [F3.i 20 f (bdP_r (by omega)), F2.i 20 f (cEP_r (by omega))]; exact g2 f g hf hg
    · rw [F3.i 18 j (bdP_r (by omega)), F2.i 18 j (cEP_r (by omega))]; exact g3 j c hj
end CA
