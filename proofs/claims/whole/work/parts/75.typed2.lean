/-! THE CODE IS TYPED: trees, forests -/
section TY
variable {A : List Fn} {own S T n0 : Nat} {H : Nat → Nat × Nat} {tl : Bool}
def CT (A : List Fn) (own S T n0 : Nat) (H : Nat → Nat × Nat) (o : Nat) (L : List (Int32 × Int32)) : Prop := ∀ i q, L[i]? = some q → cd_at A own S T n0 H (o + i) q
def HY (H : Nat → Nat × Nat) (o : Nat) (L : List (Nat × Nat)) : Prop := ∀ i x, L[i]? = some x → H (o + i) = x
theorem CT.app {o : Nat} {L M : List (Int32 × Int32)} (h : CT A own S T n0 H o L) (g : CT A own S T n0 H (o + L.length) M) : CT A own S T n0 H o (L ++ M) := by
  intro i q hq
  by_cases hi : i < L.length
  · rw [List.getElem?_append_left hi] at hq
    exact h i q hq
  · rw [List.getElem?_append_right (by omega)] at hq
    have := g _ q hq
    rwa [show o + L.length + (i - L.length) = o + i by omega] at this
theorem CT.nil {o : Nat} : CT A own S T n0 H o [] := fun i q hq => by cases hq
theorem CT.one {o : Nat} {q : Int32 × Int32} (h : cd_at A own S T n0 H o q) : CT A own S T n0 H o [q] := by
  intro i q' hq
  match i, hq with
  | 0, hq =>
    have : q' = q := by simpa using hq.symm
    subst this
    exact h
theorem HY.app {o : Nat} {L M : List (Nat × Nat)} (h : HY H o (L ++ M)) : HY H o L ∧ HY H (o + L.length) M := by
  refine ⟨fun i x hx => h i x ?_, fun i x hx => ?_⟩
  · rw [List.getElem?_append_left (List.getElem?_eq_some_iff.mp hx).1]
    exact hx
  · have := h (L.length + i) x (by rw [List.getElem?_append_right (by omega), show L.length + i - L.length = i by omega]; exact hx)
    rwa [show o + (L.length + i) = o + L.length + i by omega] at this
/-- where control goes on: height, slots, inside -/
def EX (H : Nat → Nat × Nat) (n0 o h n : Nat) : Prop := (H o).1 = h ∧ (H o).2 ≤ n ∧ o < n0
def CY (A : List Fn) (own S T n0 : Nat) (H : Nat → Nat × Nat) (tl : Bool) (k v : Int32) (a : Fo) : Prop :=
  ∀ (e : Bool) (n : Nat) (σ : Int32 → Nat) (Sc : List Int32) (h m z o : Nat), HY H o (hX tl k a e n h) → (e = false → EX H n0 (o + eXn tl own k v a e) (h + 1) n) → o + eXn tl own k v a e ≤ n0 → tW A.length (parOf A) k v a Sc → (k = 15 → ∃ g, v = nI g ∧ g < A.length) → (∀ w ∈ Sc, σ w < n) → h ≤ m → tM tl k a e h m ≤ T → n ≤ z → tZ k v a n σ z ≤ S → CT A own S T n0 H o (eX tl own k v a e n σ o)
def CYs (A : List Fn) (own S T n0 : Nat) (H : Nat → Nat × Nat) (tl : Bool) : Fo → Prop
  | .inner _ k v a b => CY A own S T n0 H tl k v a ∧ CYs A own S T n0 H tl b
  | .leaf => True
theorem cy_gen : ∀ (F : Fo), CYs A own S T n0 H tl F → THs tl F → ∀ (e : Bool) (n : Nat) (σ : Int32 → Nat) (Sc : List Int32) (h i m z o : Nat) (pk pv : Int32), gK pk → HY H o (hF tl F e n pk i h) → EX H n0 (o + eN tl own F e pk i) (h + i + fo_l F) n → fo_w A.length (parOf A) F (fun _ => Sc) → (fo_b F).Nodup → (∀ w ∈ fo_b F, w ∉ Sc ∧ ∃ j, w = nI j ∧ j < 120) → (∀ w ∈ Sc, σ w < n) → h + i ≤ m → eM tl F e pk i h m ≤ T → n ≤ z → eZ F n σ pk pv i z ≤ S → CT A own S T n0 H o (eF tl own F e n σ pk pv i o)
  | .leaf, _, _, _, _, _, _, _, _, _, _, _, _, _, _, _, _, _, _, _, _, _, _, _, _ => .nil
  | .inner y k v a b, C, TT, e, n, σ, Sc, h, i, m, z, o, pk, pv, hg, hH, hE, hw, hd, hv, hs, hm, hM, hz, hZ => by
    rw [fo_b_in] at hd hv
    have hd' := List.nodup_append.mp hd
    have hw15 := hw.2.2.2.1
    obtain ⟨w1, w2⟩ := fo_w_in hw hd'.1 (fun w hw => hv w (List.mem_append.mpr (Or.inl hw)))
    have w1 : tW A.length (parOf A) k v a Sc := w1
    have hla : (e && kLast pk i) = false := by rw [hg.la, Bool.and_false]
    have hhk : hk pk i h = h + i := if_neg (show ¬ (pk = 12 ∨ pk = 14 ∨ pk = 13) from hg)
    have hhS : hS pk i e h n = [] := by
      unfold hS
      rw [if_neg (fun c => hg (Or.inl c.1)), if_neg (fun c => hg (Or.inr (Or.inl c.1))), if_neg (fun c => hg (Or.inr (Or.inr c.1))), if_neg (fun c => hg (Or.inr (Or.inr c.1)))]
    rw [hF_in, hla, hhk, hhS, hg.D, List.append_nil] at hH
    obtain ⟨H1, H2⟩ := hH.app
    rw [hX_len (own := own) (v := v)] at H2
    rw [eN_in, hla, hg.S, List.length_nil, Nat.add_zero] at hE
    rw [eM_in, hla, if_neg (show ¬ (pk = 12 ∨ pk = 14 ∨ pk = 13) from hg)] at hM
    rw [eZ_in, hg.D, hg.V, if_neg (fun c => hg (Or.inr (Or.inl c.1)))] at hZ
    rw [eF_in, eH_in, hla, hg.D, hg.V, hg.S, hg.S, List.append_nil, List.length_nil, Nat.add_zero]
    have t1 := TT.1 (h + i) m hm
    have hX1 : EX H n0 (o + eXn tl own k v a false) (h + i + 1) n := by
      by_cases hb : b = .leaf
      · subst hb
        exact hE
      · match b, hb, w2, H2, hE with
        | .inner y2 k2 v2 a2 b2, _, w2, H2, hE =>
          rw [fo_b_in] at hd' hv
          have hd2 := List.nodup_append.mp hd'.2.1
          obtain ⟨w3, _⟩ := fo_w_in w2 hd2.1 (fun w hw => hv w (List.mem_append.mpr (Or.inr (List.mem_append.mpr (Or.inl hw)))))
          have hhk2 : hk pk (i + 1) h = h + (i + 1) := if_neg (show ¬ (pk = 12 ∨ pk = 14 ∨ pk = 13) from hg)
          rw [hF_in, hhk2, hg.D, List.append_assoc] at H2
          obtain ⟨H3, _⟩ := H2.app
          have := H3 0 _ (hX_0 w3 _ n (h + (i + 1)))
          rw [Nat.add_zero] at this
          refine ⟨by rw [this]; show h + (i + 1) = _; omega, by rw [this]; exact Nat.le_refl _, ?_⟩
          have := hE.2.2
          omega
    refine (C.1 false n σ Sc (h + i) m z o H1 (fun _ => hX1) (by have := hX1.2.2; omega) w1 hw15 hs hm (Nat.le_trans (eM_ge b e pk (i + 1) h _) hM) hz (Nat.le_trans (eZ_ge b n σ pk pv (i + 1) _) hZ)).app ?_
    rw [eX_len]
    refine cy_gen b C.2 TT.2 e n σ Sc h (i + 1) _ _ _ pk pv hg H2 ?_ w2 hd'.2.1 (fun w hw => hv w (List.mem_append.mpr (Or.inr hw))) hs (by omega) hM (Nat.le_trans hz tZ_ge') hZ
    have el : fo_l (.inner y k v a b) = fo_l b + 1 := rfl
    rw [el] at hE
    rw [show h + (i + 1) + fo_l b = h + i + (fo_l b + 1) by omega, show o + eXn tl own k v a false + eN tl own b e pk (i + 1) = o + (eXn tl own k v a false + eN tl own b e pk (i + 1)) by omega]
    exact hE
/-- an operation that leaves a word, and what follows -/
theorem cy_fin {o h n : Nat} {e : Bool} {q : Int32 × Int32} {r : Nat} (hH : HY H o ((h + r, n) :: hR e h n)) (hE : e = false → EX H n0 (o + 1) (h + 1) n) (hn : o + 1 + (eR e).length ≤ n0) (hT : h + 1 ≤ T) (hS : n ≤ S) (hq : (H o) = (h + r, n) → EX H n0 (o + 1) (h + 1) n → cd_at A own S T n0 H o q) : CT A own S T n0 H o (q :: eR e) := by
  have h0 : H o = (h + r, n) := by
    have := hH 0 _ rfl
    rwa [Nat.add_zero] at this
  cases e with
  | false => exact CT.one (hq h0 (hE rfl))
  | true =>
    have h1 : H (o + 1) = (h + 1, n) := hH 1 _ rfl
    have hl : o + 1 + 1 ≤ n0 := hn
    refine (CT.one (hq h0 ⟨by rw [h1], by rw [h1]; exact Nat.le_refl _, by omega⟩)).app (M := [(17, 0)]) (CT.one ?_)
    show cd_at A own S T n0 H (o + 1) (17, 0)
    refine ⟨by rw [h1]; exact hT, by rw [h1]; exact hS, ?_⟩
    rw [h1]
    exact Or.inr (Or.inr (Or.inr (Or.inr (Or.inr (Or.inr (Or.inr (Or.inr (Or.inr (Or.inl ⟨rfl, by omega⟩)))))))))
theorem ct_gen {k v : Int32} {a : Fo} (hg : gK k) (C : CYs A own S T n0 H tl a) (TT : THs tl a) : CY A own S T n0 H tl k v a := by
  intro e n σ Sc h m z o hH hE hn hW h15 hs hm hM hz hZ
  obtain ⟨w1, w2, w3, w4, w5, w6⟩ := hW
  have h14 : ¬ k = 14 := fun c => hg (Or.inr (Or.inl c))
  have etb : tB k v a = fo_b a := by unfold tB; rw [if_neg h14]; rfl
  rw [etb] at w5 w6
  rw [k_sc_g h14] at w4
  unfold hX at hH
  obtain ⟨H1, H2⟩ := hH.app
  rw [hF_len (own := own)] at H2
  have hth := th_gen a TT e k 0 h m hg (by omega)
  have hMa : eM tl a e k 0 h m ≤ T := by
    unfold tM at hM
    split at hM <;> omega
  have hZa : eZ a n σ k v 0 z ≤ S := by
    unfold tZ at hZ
    split at hZ <;> omega
  have hzz := eZ_ge a n σ k v 0 z
  unfold eX
  have hll : (eF tl own a e n σ k v 0 o).length = eN tl own a e k 0 := eF_len a e n σ k v 0 o
  have kids : EX H n0 (o + eN tl own a e k 0) (h + 0 + fo_l a) n → CT A own S T n0 H o (eF tl own a e n σ k v 0 o) := fun q => cy_gen a C TT e n σ Sc h 0 m z o k v hg H1 q w4 w5 w6 hs (by omega) hMa hz hZa
  have n12 : ¬ (k = 12 ∨ k = 14 ∨ k = 13) := hg
  unfold eXn at hn hE
  unfold hL at H2
  unfold eL at hn hE ⊢
  rw [if_neg n12] at H2 hn ⊢
  simp only [if_neg n12] at hE
  by_cases c15 : k = 15
  · obtain ⟨g, eg, hg24⟩ := h15 c15
    rw [if_pos c15] at H2 hn ⊢
    simp only [if_pos c15] at hE
    have ear : fo_l a = parOf A v := by rw [w2, c15]; rfl
    by_cases ce : e = false ∨ tl = false
    · rw [if_pos ce] at H2 hn ⊢
      simp only [if_pos ce, List.length_cons] at hE
      rw [List.length_cons] at hn
      have h0 : H (o + eN tl own a e k 0) = (h + fo_l a, n) := by
        have := H2 0 _ rfl
        rwa [Nat.add_zero] at this
      have hM1 : h + 1 ≤ T := by
        unfold tM at hM
        rw [if_neg (fun q => by
          rcases q with q | q | q | ⟨_, q1, q2⟩
          · exact n12 (Or.inl q)
          · exact n12 (Or.inr (Or.inl q))
          · exact n12 (Or.inr (Or.inr q))
          · rcases ce with c | c
            · rw [c] at q1; cases q1
            · rw [c] at q2; cases q2)] at hM
        omega
      refine (kids ⟨by rw [h0]; show h + fo_l a = h + 0 + fo_l a; omega, by rw [h0]; exact Nat.le_refl _, by omega⟩).app ?_
      rw [hll]
      refine cy_fin (r := fo_l a) H2 (fun c => ?_) (by omega) hM1 (by omega) (fun hh hx => ⟨by rw [hh]; show h + fo_l a ≤ T; omega, by rw [hh]; show n ≤ S; omega, Or.inr (Or.inr (Or.inr (Or.inr (Or.inr (Or.inr (Or.inr (Or.inr (Or.inl ⟨rfl, ⟨g, eg, hg24, ?_⟩, hx.2.2, ?_, ?_⟩))))))))⟩)
      · have hx := hE c
        rw [c] at hx ⊢
        exact hx
      · show parOf A v ≤ (H _).1
        rw [hh]; show parOf A v ≤ h + fo_l a; omega
      · show (H _).1 + parOf A v = (H _).1 + 1
        rw [hx.1, hh]; show h + 1 + parOf A v = h + fo_l a + 1; omega
      · rw [hh]; exact hx.2.1
    · rw [if_neg ce] at H2 hn ⊢
      have h0 : H (o + eN tl own a e k 0) = (h + fo_l a, n) := by
        have := H2 0 _ rfl
        rwa [Nat.add_zero] at this
      have hn1 : o + eN tl own a e k 0 + 1 ≤ n0 := by
        by_cases co : v = nI own
        · rw [if_pos co] at hn
          simp only [List.length_cons, List.length_nil] at hn
          omega
        · rw [if_neg co] at hn
          simp only [List.length_cons, List.length_nil] at hn
          omega
      refine (kids ⟨by rw [h0]; show h + fo_l a = h + 0 + fo_l a; omega, by rw [h0]; exact Nat.le_refl _, by omega⟩).app ?_
      rw [hll]
      by_cases co : v = nI own
      · rw [if_pos co]
        refine CT.one ⟨by rw [h0]; show h + fo_l a ≤ T; omega, by rw [h0]; show n ≤ S; omega, Or.inr (Or.inr (Or.inr (Or.inr (Or.inr (Or.inr (Or.inr (Or.inr (Or.inr (Or.inr (Or.inl ⟨rfl, ?_⟩))))))))))⟩
        rw [h0, ← co]
        show parOf A v ≤ h + fo_l a
        omega
      · rw [if_neg co]
        refine CT.one ⟨by rw [h0]; show h + fo_l a ≤ T; omega, by rw [h0]; show n ≤ S; omega, Or.inr (Or.inr (Or.inr (Or.inr (Or.inr (Or.inr (Or.inr (Or.inr (Or.inr (Or.inr (Or.inr ⟨rfl, g, eg, hg24, ?_⟩))))))))))⟩
        rw [h0]
        show parOf A v ≤ h + fo_l a
        omega
  · rw [if_neg c15] at H2 hn ⊢
    simp only [if_neg c15] at hE
    have hM1 : h + 1 ≤ T := by
      unfold tM at hM
      rw [if_neg (fun q => by
        rcases q with q | q | q | ⟨q, _⟩
        · exact n12 (Or.inl q)
        · exact n12 (Or.inr (Or.inl q))
        · exact n12 (Or.inr (Or.inr q))
        · exact c15 q)] at hM
      omega
    have h0 : H (o + eN tl own a e k 0) = (h + fo_l a, n) := by
      have := H2 0 _ rfl
      rwa [Nat.add_zero] at this
    -- one operation, whatever it is
    have one : ∀ q : Int32 × Int32, o + (eN tl own a e k 0 + (q :: eR e).length) ≤ n0 → (e = false → EX H n0 (o + (eN tl own a e k 0 + (q :: eR e).length)) (h + 1) n) → ((H (o + eN tl own a e k 0)) = (h + fo_l a, n) → EX H n0 (o + eN tl own a e k 0 + 1) (h + 1) n → cd_at A own S T n0 H (o + eN tl own a e k 0) q) → CT A own S T n0 H o (eF tl own a e n σ k v 0 o ++ q :: eR e) := by
      intro q hn hE hq
      rw [List.length_cons] at hn hE
      refine (kids ⟨by rw [h0]; show h + fo_l a = h + 0 + fo_l a; omega, by rw [h0]; exact Nat.le_refl _, by omega⟩).app ?_
      rw [hll]
      refine cy_fin (r := fo_l a) H2 (fun c => ?_) (by omega) hM1 (by omega) hq
      have hx := hE c
      rw [c] at hx ⊢
      exact hx
    have bT : (H (o + eN tl own a e k 0)) = (h + fo_l a, n) → (H (o + eN tl own a e k 0)).1 ≤ T ∧ (H (o + eN tl own a e k 0)).2 ≤ S := fun hh => by
      rw [hh]
      exact ⟨show h + fo_l a ≤ T by omega, show n ≤ S by omega⟩
    by_cases c1 : k = 1
    · rw [if_pos c1] at hn ⊢
      simp only [if_pos c1] at hE
      have ear : fo_l a = 0 := by rw [w2, c1]; rfl
      refine one _ hn hE (fun hh hx => ⟨(bT hh).1, (bT hh).2, Or.inl ⟨rfl, hx.2.2, ?_, ?_⟩⟩)
      · rw [hx.1, hh, ear]; rfl
      · rw [hh]; exact hx.2.1
    · rw [if_neg c1] at hn ⊢
      simp only [if_neg c1] at hE
      by_cases c2 : k = 2
      · rw [if_pos c2] at hn ⊢
        simp only [if_pos c2] at hE
        have ear : fo_l a = 0 := by rw [w2, c2]; rfl
        refine one _ ?_ ?_ (fun hh hx => ⟨(bT hh).1, (bT hh).2, Or.inr (Or.inl ⟨rfl, ⟨σ v, rfl, ?_⟩, hx.2.2, ?_, ?_⟩)⟩)
        · simpa using hn
        · simpa using hE
        · rw [hh]; exact hs v (w3 c2)
        · rw [hx.1, hh, ear]; rfl
        · rw [hh]; exact hx.2.1
      · rw [if_neg c2] at hn ⊢
        simp only [if_neg c2] at hE
        refine one _ hn hE (fun hh hx => ⟨(bT hh).1, (bT hh).2, ?_⟩)
        obtain ⟨j, j1, j2, ej⟩ := w1
        by_cases c10 : k = 10 ∨ k = 11
        · have ear : fo_l a = 1 := by rw [w2]; rcases c10 with c | c <;> rw [c] <;> rfl
          exact Or.inr (Or.inr (Or.inr (Or.inl ⟨c10, hx.2.2, by rw [hx.1, hh, ear], by rw [hh, ear]; show 1 ≤ h + 1; omega, by rw [hh]; exact hx.2.1⟩)))
        · have jn : ∀ c, c < 16 → k ≠ nI c → j ≠ c := fun c hc hk2 q => hk2 (by rw [ej, q])
          have j39 : 3 ≤ j ∧ j ≤ 9 := by
            have q1 := jn 1 (by decide) c1
            have q2 := jn 2 (by decide) c2
            have q10 := jn 10 (by decide) (fun c => c10 (Or.inl c))
            have q11 := jn 11 (by decide) (fun c => c10 (Or.inr c))
            have q12 := jn 12 (by decide) (fun c => n12 (Or.inl c))
            have q14 := jn 14 (by decide) (fun c => n12 (Or.inr (Or.inl c)))
            have q13 := jn 13 (by decide) (fun c => n12 (Or.inr (Or.inr c)))
            have q15 := jn 15 (by decide) c15
            omega
          have ear : fo_l a = 2 := by
            rw [w2]
            unfold k_ar
            rw [if_neg (fun q => q.elim c1 c2), if_neg c10, if_neg (fun q => n12 (Or.inr (Or.inr q))), if_neg c15]
          exact Or.inr (Or.inr (Or.inl ⟨⟨j, j39.1, j39.2, ej⟩, hx.2.2, by rw [hx.1, hh, ear], by rw [hx.1]; omega, by rw [hh]; exact hx.2.1⟩))
end TY
