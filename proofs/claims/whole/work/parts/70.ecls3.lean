/-! THE CLASS'S CODER, PURE: a node with all its kids worked out -/
section KG
variable {cap base : Nat} {tl : Bool} {own : Nat} {par : Int32 → Nat} {N : Nat}
def gK (pk : Int32) : Prop := ¬ (pk = 12 ∨ pk = 14 ∨ pk = 13)
theorem gK.la {pk : Int32} (h : gK pk) (i : Nat) : kLast pk i = false := by
  unfold kLast
  rw [if_neg (fun c => h (Or.inr (Or.inr c))), decide_eq_false (fun c => h (Or.inr (Or.inl c))), decide_eq_false (fun c => h (Or.inl c))]
  rfl
theorem gK.D {pk : Int32} (h : gK pk) (i n : Nat) : eD pk i n = n := if_neg (fun c => h (Or.inr (Or.inl c.1)))
theorem gK.V {pk pv : Int32} (h : gK pk) (i n : Nat) (σ : Int32 → Nat) : eV pk pv i n σ = σ := if_neg (fun c => h (Or.inr (Or.inl c.1)))
theorem gK.S {pk : Int32} (h : gK pk) (i : Nat) (e : Bool) (n x : Nat) : eS pk i e n x = [] := by
  unfold eS
  rw [if_neg (fun c => h (Or.inl c.1)), if_neg (fun c => h (Or.inr (Or.inl c.1))), if_neg (fun c => h (Or.inr (Or.inr c.1))), if_neg (fun c => h (Or.inr (Or.inr c.1)))]
theorem gK.B {pk pv : Int32} (h : gK pk) (D i : Nat) (s : KS) : kBk cap base D pk pv i s = s := by
  unfold kBk
  rw [if_neg (fun c => h (Or.inl c.1)), if_neg (fun c => h (Or.inr (Or.inl c.1))), if_neg (fun c => h (Or.inr (Or.inr c.1))), if_neg (fun c => h (Or.inr (Or.inr c.1)))]
theorem sC.mo {S B : List Int32} {σ : Int32 → Nat} {s s' : KS} (h : sC S σ s) (hs : ∀ j, j < 120 → nI j ∉ B → ks_so s' j = ks_so s j) (hB : ∀ w ∈ S, w ∉ B) : sC S σ s' := fun w hw => by
  obtain ⟨j, q1, q2, q3, q4⟩ := h w hw
  exact ⟨j, q1, q2, by rw [hs j q2 (by rw [← q1]; exact hB w hw)]; exact q3, q4⟩
theorem k_sc_g {k v : Int32} {S : List Int32} (h : ¬ k = 14) : k_sc k v S = fun _ => S := by
  funext i
  exact if_neg (fun c => h c.1)
theorem fo_w_in {y : Nat} {k v : Int32} {a b : Fo} {S : Nat → List Int32} (h : fo_w N par (.inner y k v a b) S) (hd : (tB k v a).Nodup) (hv : ∀ w ∈ tB k v a, w ∉ S 0 ∧ ∃ j, w = nI j ∧ j < 120) : tW N par k v a (S 0) ∧ fo_w N par b (fun i => S (i + 1)) := ⟨⟨h.1, h.2.1, h.2.2.1, h.2.2.2.2.1, hd, hv⟩, h.2.2.2.2.2⟩
theorem kids_gen : ∀ (F : Fo), KTs cap base tl own par N F → ∀ (D : Nat) (e : Bool) (n : Nat) (σ : Int32 → Nat) (S : List Int32) (h i m z : Nat) (s : KS) (pk pv : Int32), gK pk → ks_ae s D = b32 e → ks_ar s D = nI n → KQ s (h + i) m z → sC S σ s → fo_w N par F (fun _ => S) → (fo_b F).Nodup → (∀ w ∈ fo_b F, w ∉ S ∧ ∃ j, w = nI j ∧ j < 120) → base ≤ ks_us s → ks_us s + eN tl own F e pk i ≤ cap → h + i + fo_n F ≤ 10000 → n + fo_n F ≤ 10000 →
    KR (D + 1) s (kv cap base tl own par F D pk pv i s) (eF tl own F e n σ pk pv i (ks_us s - base)) ∧ KQ (kv cap base tl own par F D pk pv i s) (h + i + fo_l F) (eM tl F e pk i h m) (eZ F n σ pk pv i z) ∧ m ≤ eM tl F e pk i h m ∧ ∀ j, j < 120 → nI j ∉ fo_b F → ks_so (kv cap base tl own par F D pk pv i s) j = ks_so s j
  | .leaf, _, D, e, n, σ, S, h, i, m, z, s, pk, pv, _, _, _, hq, _, _, _, _, _, _, _, _ => ⟨.rf _ _, hq, Nat.le_refl _, fun _ _ _ => rfl⟩
  | .inner y k v a b, T, D, e, n, σ, S, h, i, m, z, s, pk, pv, hg, hae, har, hq, hS, hw, hd, hv, hb, hc, h1, h2 => by
    have en : fo_n (.inner y k v a b) = fo_n a + 1 + fo_n b := rfl
    rw [fo_b_in] at hd hv
    have hd' := List.nodup_append.mp hd
    obtain ⟨w1, w2⟩ := fo_w_in hw hd'.1 (fun w hw => hv w (List.mem_append.mpr (Or.inl hw)))
    have hla : (e && kLast pk i) = false := by rw [hg.la, Bool.and_false]
    rw [eN_in, hla, hg.S] at hc
    simp only [List.length_nil, Nat.add_zero] at hc
    have K := kid_ok T.1 (pk := pk) (i := i) (e' := false) (n' := n) hae har hq hS w1 hb hla.symm (hg.D i n).symm (by omega) (by omega) (by omega)
    obtain ⟨s1, es1⟩ : ∃ s1, kLv cap base (D + 1) tl own par k v (kv cap base tl own par a (D + 1) k v 0 (kEn1 (D + 1) pk i k v s)) = s1 := ⟨_, rfl⟩
    rw [es1] at K
    obtain ⟨g1, g2, g3, g4, g5⟩ := K
    have hus : ks_us s1 = ks_us s + eXn tl own k v a false := by rw [g1.1, eX_len]
    have lv := g1.2.2.2 D (by omega)
    obtain ⟨g6, g7⟩ := g4 rfl
    have R := kids_gen b T.2 D e n σ S h (i + 1) _ _ s1 pk pv hg (lv.1.trans hae) (lv.2.1.trans har) ⟨g6, g7, g2⟩ (hS.mo g5 (fun w hw c => (hv w (List.mem_append.mpr (Or.inl c))).1 hw)) w2 hd'.2.1 (fun w hw => hv w (List.mem_append.mpr (Or.inr hw))) (by omega) (by rw [hus]; omega) (by omega) (by omega)
    obtain ⟨r1, r2, r3, r4⟩ := R
    have ekv : kv cap base tl own par (.inner y k v a b) D pk pv i s = kv cap base tl own par b D pk pv (i + 1) s1 := by
      rw [← es1]
      show kv cap base tl own par b D pk pv (i + 1) (kBk cap base D pk pv i _) = _
      rw [hg.B]
    have el : fo_l (.inner y k v a b) = fo_l b + 1 := rfl
    rw [ekv, eM_in, eZ_in, eF_in, eH_in, hla, hg.S, hg.S, hg.D, hg.V, if_neg (show ¬ (pk = 12 ∨ pk = 14 ∨ pk = 13) from hg), if_neg (show ¬ (pk = 14 ∧ i = 0) from fun c => hg (Or.inr (Or.inl c.1)))]
    refine ⟨?_, ?_, Nat.le_trans g3 r3, fun j hj hB => ?_⟩
    · rw [hus] at r1
      have := g1.tr r1
      rw [List.append_nil, List.length_nil, show ks_us s - base + (eXn tl own k v a false + 0) = ks_us s + eXn tl own k v a false - base by omega]
      exact this
    · rw [el, show h + i + (fo_l b + 1) = h + (i + 1) + fo_l b by omega]
      exact r2
    · rw [fo_b_in, List.mem_append] at hB
      rw [r4 j hj (fun c => hB (Or.inr c)), g5 j hj (fun c => hB (Or.inl c))]
theorem kRet_ok {D : Nat} {e : Bool} {s : KS} (hae : ks_ae s D = b32 e) (hc : ks_us s + (eR e).length ≤ cap) : KR D s (kRet cap D s) (eR e) ∧ (kRet cap D s).2.2.2 = s.2.2.2 := by
  unfold kRet eR
  cases e with
  | false => rw [if_pos (show ks_ae s D = 0 from hae)]; exact ⟨.rf _ _, rfl⟩
  | true =>
    rw [if_neg (by rw [hae]; decide)]
    exact ⟨.emit (by simp [eR] at hc; omega), kE_ae⟩
theorem KM.of {s s' : KS} {m z : Nat} (h : KM s m z) (e : s'.2.2.2 = s.2.2.2) : KM s' m z := by
  have e1 : ks_mh s' = ks_mh s := congrArg (·.2.1) e
  have e2 : ks_sl s' = ks_sl s := congrArg (·.2.2.1) e
  unfold KM
  rw [e1, e2]
  exact h
theorem so_of {s s' : KS} (e : s'.2.2.2 = s.2.2.2) : ks_so s' = ks_so s := congrArg (·.2.2.2.2.2.2.2) e
theorem h_of {s s' : KS} (e : s'.2.2.2 = s.2.2.2) : ks_h s' = ks_h s := congrArg (·.1) e
theorem ae_of {s s' : KS} (e : s'.2.2.2 = s.2.2.2) : ks_ae s' = ks_ae s := congrArg (·.2.2.2.1) e
/-- an operation that leaves a word: emitted, risen, returned -/
theorem fin_ok {D : Nat} {e : Bool} {h m z : Nat} {s s1 : KS} {L : List (Int32 × Int32)} {x y r : Int32} {m0 : Nat} {B : List Int32} (g1 : KR (D + 1) s s1 L) (hq : KQ (kRise r (kEmit cap x y s1)) (h + 1) m z) (hm : m0 ≤ m) (hso : ∀ j, j < 120 → nI j ∉ B → ks_so s1 j = ks_so s j) (hae : ks_ae s D = b32 e) (hc : ks_us s + L.length + 1 + (eR e).length ≤ cap) : KD D e h m0 m z B (L ++ (x, y) :: eR e) s (kRet cap D (kRise r (kEmit cap x y s1))) := by
  have u1 : ks_us s1 = ks_us s + L.length := g1.1
  have u2 : ks_us (kRise r (kEmit cap x y s1)) = ks_us s + L.length + 1 := by rw [kR_us, kE_us (by omega), u1]
  have ae1 : ks_ae (kRise r (kEmit cap x y s1)) D = b32 e := by rw [kR_ae, kE_at, (g1.2.2.2 D (by omega)).1]; exact hae
  have R := kRet_ok (cap := cap) (D := D) ae1 (by omega)
  have E : KR D s1 (kRise r (kEmit cap x y s1)) [(x, y)] := (KR.emit (by omega)).tr .rise
  have := ((g1.mo (Nat.le_succ D)).tr E).tr R.1
  refine ⟨by rwa [List.append_assoc] at this, hq.2.2.of R.2, hm, fun _ => ⟨by rw [h_of R.2]; exact hq.1, hq.2.1⟩, fun j hj hB => ?_⟩
  rw [so_of R.2, kR_so, kE_so]
  exact hso j hj hB
theorem nb_gen {k v : Int32} {a : Fo} (hg : gK k) (T : KTs cap base tl own par N a) : KT cap base tl own par N k v a := by
  intro D e n σ S h m z s hae har _ hq hS hW hb hc h1 h2
  obtain ⟨w1, w2, w3, w4, w5, w6⟩ := hW
  have h14 : ¬ k = 14 := fun c => hg (Or.inr (Or.inl c))
  have etb : tB k v a = fo_b a := by unfold tB; rw [if_neg h14]; rfl
  rw [etb] at w5 w6
  rw [k_sc_g h14] at w4
  unfold eXn at hc
  obtain ⟨r1, r2, r3, r4⟩ := kids_gen a T D e n σ S h 0 m z s k v hg hae har hq hS w4 w5 w6 hb (by omega) (by omega) (by omega)
  obtain ⟨s1, es1⟩ : ∃ s1, kv cap base tl own par a D k v 0 s = s1 := ⟨_, rfl⟩
  rw [es1] at r1 r2 r4 ⊢
  rw [w2, Nat.add_zero] at r2
  have hl : (eF tl own a e n σ k v 0 (ks_us s - base)).length = eN tl own a e k 0 := eF_len a e n σ k v 0 _
  have hus : ks_us s1 = ks_us s + eN tl own a e k 0 := by rw [r1.1, hl]
  have a0 := (r1.2.2.2 D (by omega)).1
  have hm0 := r2.2.2.2.2.1
  have hz0 := r2.2.2.2.2.2
  have n12 : ¬ (k = 12 ∨ k = 14 ∨ k = 13) := hg
  unfold eX tM tZ kLv
  unfold eL at hc ⊢
  rw [if_neg n12] at hc ⊢
  rw [if_neg (show ¬ (k = 12 ∨ k = 14) from fun c => hg (c.elim Or.inl (fun c => Or.inr (Or.inl c)))), if_neg (show ¬ k = 13 from fun c => hg (Or.inr (Or.inr c)))]
  by_cases c15 : k = 15
  · rw [if_pos c15] at hc ⊢
    rw [if_pos c15, if_neg (show ¬ k = 2 by rw [c15]; decide)]
    have ear : k_ar par k v = par v := by rw [c15]; rfl
    rw [ear] at r2
    have Q := r2.dn
    unfold kCall
    have aer : ks_ae s1 D = b32 e := a0.trans hae
    rw [aer]
    by_cases ce : e = false ∨ tl = false
    · rw [if_pos ce] at hc ⊢
      rw [List.length_cons] at hc
      have ce' : b32 e = 0 ∨ tl = false := ce.elim (fun q => Or.inl (b32_0.mpr q)) Or.inr
      rw [if_pos ce', if_neg (show ¬ (k = 12 ∨ k = 14 ∨ k = 13 ∨ (k = 15 ∧ e = true ∧ tl = true)) from fun q => by
        rcases q with q | q | q | ⟨_, q1, q2⟩
        · exact n12 (Or.inl q)
        · exact n12 (Or.inr (Or.inl q))
        · exact n12 (Or.inr (Or.inr q))
        · rcases ce with c | c
          · rw [c] at q1; cases q1
          · rw [c] at q2; cases q2)]
      refine fin_ok (L := eF tl own a e n σ k v 0 (ks_us s - base)) (s1 := kRise (-(nI (par v))) s1) ?_ ((Q.emit).up (by omega)) (by omega) r4 hae (by omega)
      have := r1.tr (KR.rise (x := -(nI (par v))))
      rwa [List.append_nil] at this
    · have ce1 : e = true := by cases e with | true => rfl | false => exact absurd (Or.inl rfl) ce
      have ce2 : tl = true := by cases tl with | true => rfl | false => exact absurd (Or.inr rfl) ce
      rw [if_neg ce] at hc ⊢
      have ce' : ¬ (b32 e = 0 ∨ tl = false) := fun q => q.elim (fun q => ce (Or.inl (b32_0.mp q))) (fun q => ce (Or.inr q))
      rw [if_neg ce', if_pos (Or.inr (Or.inr (Or.inr ⟨c15, ce1, ce2⟩)))]
      have last : ∀ x y, eN tl own a e k 0 + ks_us s + 1 ≤ cap → KD D e h m (eM tl a e k 0 h m) (eZ a n σ k v 0 z) (fo_b a) (eF tl own a e n σ k v 0 (ks_us s - base) ++ [(x, y)]) s (kEmit cap x y (kRise (-(nI (par v))) s1)) := by
        intro x y hcc
        refine ⟨(r1.mo (Nat.le_succ D)).tr (KR.rise.tr (KR.emit (by rw [kR_us]; omega))), (Q.emit).2.2, r3, (fun q => by rw [ce1] at q; cases q), fun j hj hB => ?_⟩
        rw [kE_so, kR_so]
        exact r4 j hj hB
      by_cases co : v = nI own
      · rw [if_pos co] at hc ⊢
        rw [if_pos co]
        exact last 18 0 (by simp at hc; omega)
      · rw [if_neg co] at hc ⊢
        rw [if_neg co]
        exact last 19 v (by simp at hc; omega)
  · rw [if_neg c15] at hc ⊢
    rw [if_neg c15, if_neg (show ¬ (k = 12 ∨ k = 14 ∨ k = 13 ∨ (k = 15 ∧ e = true ∧ tl = true)) from fun q => by
        rcases q with q | q | q | ⟨q, _⟩
        · exact n12 (Or.inl q)
        · exact n12 (Or.inr (Or.inl q))
        · exact n12 (Or.inr (Or.inr q))
        · exact c15 q)]
    by_cases c1 : k = 1
    · rw [if_pos c1] at hc ⊢
      rw [List.length_cons] at hc
      rw [if_pos c1, if_neg (show ¬ k = 2 by rw [c1]; decide)]
      have ear : k_ar par k v = 0 := by rw [c1]; rfl
      rw [ear] at r2
      exact fin_ok r1 ((r2.emit).up (by omega)) (by omega) r4 hae (by omega)
    · rw [if_neg c1] at hc ⊢
      rw [if_neg c1]
      by_cases c2 : k = 2
      · rw [if_pos c2] at hc ⊢
        rw [List.length_cons] at hc
        rw [if_pos c2, if_pos c2]
        have ear : k_ar par k v = 0 := by rw [c2]; rfl
        rw [ear] at r2
        obtain ⟨j, j1, j2, j3, j4⟩ := hS v (w3 c2)
        have ea : fo_b a = [] := by
          have : fo_l a = 0 := w2.trans ear
          cases a with
          | leaf => rfl
          | inner _ _ _ _ _ => exact absurd this (by simp [fo_l])
        have eso : ks_so s1 v.toNatClampNeg = nI (σ v) := by
          rw [j1, nI_clamp (by omega), r4 j j2 (by rw [ea]; simp), j3, j1]
        rw [eso]
        refine fin_ok (L := eF tl own a e n σ k v 0 (ks_us s - base)) (s1 := kUse v.toNatClampNeg s1) ?_ (((r2.use eso (by omega)).emit).up (by omega)) (by omega) r4 hae (by omega)
        have := r1.tr (KR.use (v := v.toNatClampNeg))
        rwa [List.append_nil] at this
      · rw [if_neg c2] at hc ⊢
        rw [List.length_cons] at hc
        rw [if_neg c2, if_neg c2]
        have ear : k_ar par k v = k_ar par k 0 := by
          unfold k_ar
          rw [if_neg (show ¬ (k = 1 ∨ k = 2) from fun q => q.elim c1 c2), if_neg (show ¬ (k = 1 ∨ k = 2) from fun q => q.elim c1 c2), if_neg c15, if_neg c15]
        rw [ear] at r2
        exact fin_ok r1 ((r2.emit).ch (by omega)) (by omega) r4 hae (by omega)
end KG
