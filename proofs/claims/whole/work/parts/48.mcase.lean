/-! THE MACHINE: its instructions, one by one -/
section MK
variable {A L : List Fn} {H : Nat → Nat → Nat × Nat} {al : Nat}
theorem m_step_e {f pc : Nat} {sl sk : List Int32} {rest : List Frm} {ps : List Int32} {mo : Nat} {k n : Int32} (hq : (fnC (fAt L f))[pc]? = some (k, n)) {x : Nat × List Int32 × List Int32} (h : mloc k n pc sl sk = some x) : mstep L al ((f, pc, sl, sk) :: rest, ps, mo) = (0, 0, (f, x) :: rest, ps, mo) := by
  unfold mstep
  simp only [hq, h]
/-- the cases of an instruction; in each, what the step gives -/
def mcs (A L : List Fn) (al f pc : Nat) (sl sk : List Int32) (rest : List Frm) (ps : List Int32) (mo : Nat) (k n : Int32) : Prop :=
  (k = 1 ∧ sk.length + 1 ≤ fnT (fAt L f) ∧ mstep L al ((f, pc, sl, sk) :: rest, ps, mo) = (0, 0, (f, pc + 1, sl, n :: sk) :: rest, ps, mo)) ∨
  (k = 2 ∧ sk.length + 1 ≤ fnT (fAt L f) ∧ ∃ s v, n = nI s ∧ sl[s]? = some v ∧ mstep L al ((f, pc, sl, sk) :: rest, ps, mo) = (0, 0, (f, pc + 1, sl, v :: sk) :: rest, ps, mo)) ∨
  (∃ j b a r, 3 ≤ j ∧ j ≤ 9 ∧ k = nI j ∧ sk = b :: a :: r ∧ mstep L al ((f, pc, sl, sk) :: rest, ps, mo) = if (k = 6 ∨ k = 7) ∧ b = 0 then (3, 0, ((f, pc, sl, sk) :: rest, ps, mo)) else (0, 0, (f, pc + 1, sl, op2 k a b :: r) :: rest, ps, mo)) ∨
  (∃ v r, k = 10 ∧ sk = v :: r ∧ mstep L al ((f, pc, sl, sk) :: rest, ps, mo) = (0, 0, (f, pc + 1, sl, -v :: r) :: rest, ps, mo)) ∨
  (∃ v r, k = 11 ∧ sk = v :: r ∧ mstep L al ((f, pc, sl, sk) :: rest, ps, mo) = if 200 ≤ ps.length then (5, 0, ((f, pc, sl, sk) :: rest, ps, mo)) else (0, 0, (f, pc + 1, sl, sk) :: rest, ps ++ [v], mo)) ∨
  (∃ v r, k = 12 ∧ sk = v :: r ∧ mstep L al ((f, pc, sl, sk) :: rest, ps, mo) = (0, 0, (f, pc + 1, sl, r) :: rest, ps, mo)) ∨
  (∃ v r s, k = 13 ∧ n = nI s ∧ sk = v :: r ∧ s < fnS (fAt L f) ∧ s ≤ sl.length ∧ mstep L al ((f, pc, sl, sk) :: rest, ps, mo) = (0, 0, (f, pc + 1, setx sl s v, r) :: rest, ps, mo)) ∨
  (∃ v r e, k = 14 ∧ n = nI e ∧ e < 2000 ∧ sk = v :: r ∧ mstep L al ((f, pc, sl, sk) :: rest, ps, mo) = (0, 0, (f, (if v = 0 then e else pc + 1), sl, r) :: rest, ps, mo)) ∨
  (∃ e, k = 15 ∧ n = nI e ∧ e < 2000 ∧ mstep L al ((f, pc, sl, sk) :: rest, ps, mo) = (0, 0, (f, e, sl, sk) :: rest, ps, mo)) ∨
  (∃ g, k = 16 ∧ n = nI g ∧ g < L.length ∧ fnP (fAt L g) ≤ sk.length ∧ mstep L al ((f, pc, sl, sk) :: rest, ps, mo) = if al < bsz L rest + fsz L f + fsz L g then (2, 0, ((f, pc, sl, sk) :: rest, ps, mo)) else (0, 0, (g, 0, (sk.take (fnP (fAt L g))).reverse, []) :: (f, pc + 1, sl, sk.drop (fnP (fAt L g))) :: rest, ps, max mo (bsz L rest + fsz L f + fsz L g))) ∨
  (∃ v r, k = 17 ∧ sk = v :: r ∧ ((rest = [] ∧ mstep L al ((f, pc, sl, sk) :: rest, ps, mo) = (1, v, ((f, pc, sl, sk) :: rest, ps, mo))) ∨ ∃ f2 pc2 sl2 sk2 rest2, rest = (f2, pc2, sl2, sk2) :: rest2 ∧ mstep L al ((f, pc, sl, sk) :: rest, ps, mo) = (0, 0, (f2, pc2, sl2, v :: sk2) :: rest2, ps, mo))) ∨
  (∃ g, ((k = 18 ∧ g = f) ∨ (k = 19 ∧ n = nI g)) ∧ g < L.length ∧ fnP (fAt L g) ≤ sk.length ∧ mstep L al ((f, pc, sl, sk) :: rest, ps, mo) = if al < bsz L rest + fsz L g then (2, 0, ((f, pc, sl, sk) :: rest, ps, mo)) else (0, 0, (g, 0, (sk.take (fnP (fAt L g))).reverse, []) :: rest, ps, max mo (bsz L rest + fsz L g)))
theorem mcase (hm : mcOk A L H) (hal : al ≤ 20000) {f pc : Nat} {sl sk : List Int32} {rest : List Frm} {ps : List Int32} {mo : Nat} (hf : frOk L H 0 (f, pc, sl, sk)) (hw : ∀ y ∈ rest, frOk L H 1 y) (hb : bsz L ((f, pc, sl, sk) :: rest) ≤ al) (hps : ps.length ≤ 200) (hmo : mo ≤ al) : ∃ k n, (fnC (fAt L f))[pc]? = some (k, n) ∧ mcs A L al f pc sl sk rest ps mo k n ∧ ((mstep L al ((f, pc, sl, sk) :: rest, ps, mo)).1 = 0 → tyM L H al (mstep L al ((f, pc, sl, sk) :: rest, ps, mo)).2.2) := by
  obtain ⟨o1, o2, o3, o4, o5⟩ := hf
  dsimp only at o1 o2 o3 o4 o5
  obtain ⟨g1, g2, g3⟩ := hm
  obtain ⟨p1, p2, p3, p4, p5, p6, p7, p8, p9, p10, p11⟩ := g3 f o1
  obtain ⟨⟨k, n⟩, hq⟩ : ∃ q, (fnC (fAt L f))[pc]? = some q := ⟨_, List.getElem?_eq_getElem o2⟩
  refine ⟨k, n, hq, ?_⟩
  obtain ⟨c1, c2, hc⟩ := p11 pc (k, n) hq
  dsimp only at hc
  have hT : ∀ e, e < (fnC (fAt L f)).length → (H f e).1 ≤ fnT (fAt L f) := fun e he => (p11 e _ (List.getElem?_eq_getElem he)).1
  have hpar : ∀ g, g < A.length → parOf A (nI g) = fnP (fAt L g) := fun g hg => (g3 g (by omega)).1.symm
  have hbs : bsz L ((f, pc, sl, sk) :: rest) = fsz L f + bsz L rest := rfl
  -- a step that stays in the frame
  have loc : ∀ pc' sl' sk', pc' < (fnC (fAt L f)).length → sk'.length = (H f pc').1 → (H f pc').2 ≤ sl'.length → sl'.length ≤ fnS (fAt L f) → mstep L al ((f, pc, sl, sk) :: rest, ps, mo) = (0, 0, (f, pc', sl', sk') :: rest, ps, mo) → ((mstep L al ((f, pc, sl, sk) :: rest, ps, mo)).1 = 0 → tyM L H al (mstep L al ((f, pc, sl, sk) :: rest, ps, mo)).2.2) := by
    intro pc' sl' sk' a1 a2 a3 a4 e _
    rw [e]
    exact ⟨(f, pc', sl', sk'), rest, rfl, ⟨o1, a1, a2, a3, a4⟩, hw, hb, hps, hmo⟩
  have ht : ∀ (h : Int32) (x : Int32 × Int32 × MSt), ¬ h = 0 → x = (h, 0, ((f, pc, sl, sk) :: rest, ps, mo)) → (x.1 = 0 → tyM L H al x.2.2) := fun h x h0 e q => by rw [e] at q; exact absurd q h0
  rcases hc with ⟨rfl, d2, d3, d4⟩ | ⟨rfl, ⟨s, rfl, hs⟩, d2, d3, d4⟩ | ⟨⟨j, j1, j2, rfl⟩, d2, d3, d4, d5⟩ | ⟨hk, d2, d3, d4, d5⟩ | ⟨rfl, d2, d3, d4⟩ | ⟨rfl, ⟨s, rfl, s1, s2, s3⟩, d2, d3⟩ | ⟨rfl, ⟨e, rfl, e1, e2, e3⟩, d2, d3, d4⟩ | ⟨rfl, e, rfl, e1, e2, e3⟩ | ⟨rfl, ⟨g, rfl, e1, e2⟩, d2, d3, d4⟩ | ⟨rfl, d2⟩ | ⟨rfl, d2⟩ | ⟨rfl, g, rfl, e1, e2⟩
  · have e : mstep L al ((f, pc, sl, sk) :: rest, ps, mo) = (0, 0, (f, pc + 1, sl, n :: sk) :: rest, ps, mo) := m_step_e hq rfl
    have := hT _ d2
    exact ⟨Or.inl ⟨rfl, by omega, e⟩, loc _ _ _ d2 (by simp; omega) (by omega) o5 e⟩
  · have hsl : s < sl.length := by omega
    have e : mstep L al ((f, pc, sl, sk) :: rest, ps, mo) = (0, 0, (f, pc + 1, sl, sl[s] :: sk) :: rest, ps, mo) := by
      refine m_step_e hq ?_
      show some (pc + 1, sl, (sl[(nI s).toNatClampNeg]?).getD 0 :: sk) = _
      rw [nI_clamp (by omega), List.getElem?_eq_getElem hsl]
      rfl
    have := hT _ d2
    exact ⟨Or.inr (Or.inl ⟨rfl, by omega, s, sl[s], rfl, List.getElem?_eq_getElem hsl, e⟩), loc _ _ _ d2 (by simp; omega) (by omega) o5 e⟩
  · match sk, o3 with
    | [], o3 => simp at o3; omega
    | [b], o3 => simp at o3; omega
    | b :: a :: r, o3 =>
      have e : mstep L al ((f, pc, sl, b :: a :: r) :: rest, ps, mo) = if (nI j = 6 ∨ nI j = 7) ∧ b = 0 then (3, 0, ((f, pc, sl, b :: a :: r) :: rest, ps, mo)) else (0, 0, (f, pc + 1, sl, op2 (nI j) a b :: r) :: rest, ps, mo) := by
        have hcs : j = 3 ∨ j = 4 ∨ j = 5 ∨ j = 6 ∨ j = 7 ∨ j = 8 ∨ j = 9 := by omega
        unfold mstep
        simp only [hq]
        rcases hcs with rfl | rfl | rfl | rfl | rfl | rfl | rfl <;> rfl
      refine ⟨Or.inr (Or.inr (Or.inl ⟨j, b, a, r, j1, j2, rfl, rfl, e⟩)), ?_⟩
      by_cases hz : (nI j = 6 ∨ nI j = 7) ∧ b = 0
      · rw [if_pos hz] at e
        exact ht 3 _ (by decide) e
      · rw [if_neg hz] at e
        exact loc _ _ _ d2 (by simp at o3 ⊢; omega) (by omega) o5 e
  · match sk, o3 with
    | [], o3 => simp at o3; omega
    | v :: r, o3 =>
      rcases hk with rfl | rfl
      · have e : mstep L al ((f, pc, sl, v :: r) :: rest, ps, mo) = (0, 0, (f, pc + 1, sl, -v :: r) :: rest, ps, mo) := m_step_e hq rfl
        exact ⟨Or.inr (Or.inr (Or.inr (Or.inl ⟨v, r, rfl, rfl, e⟩))), loc _ _ _ d2 (by simp at o3 ⊢; omega) (by omega) o5 e⟩
      · have e : mstep L al ((f, pc, sl, v :: r) :: rest, ps, mo) = if 200 ≤ ps.length then (5, 0, ((f, pc, sl, v :: r) :: rest, ps, mo)) else (0, 0, (f, pc + 1, sl, v :: r) :: rest, ps ++ [v], mo) := by
          unfold mstep
          simp only [hq]
          rfl
        refine ⟨Or.inr (Or.inr (Or.inr (Or.inr (Or.inl ⟨v, r, rfl, rfl, e⟩)))), ?_⟩
        by_cases hz : 200 ≤ ps.length
        · rw [if_pos hz] at e
          exact ht 5 _ (by decide) e
        · rw [if_neg hz] at e
          intro _
          rw [e]
          exact ⟨(f, pc + 1, sl, v :: r), rest, rfl, ⟨o1, d2, by simp at o3 ⊢; omega, by dsimp only; omega, o5⟩, hw, hb, by simp; omega, hmo⟩
  · match sk, o3 with
    | [], o3 => simp at o3; omega
    | v :: r, o3 =>
      have e : mstep L al ((f, pc, sl, v :: r) :: rest, ps, mo) = (0, 0, (f, pc + 1, sl, r) :: rest, ps, mo) := m_step_e hq rfl
      exact ⟨Or.inr (Or.inr (Or.inr (Or.inr (Or.inr (Or.inl ⟨v, r, rfl, rfl, e⟩))))), loc _ _ _ d2 (by simp at o3 ⊢; omega) (by omega) o5 e⟩
  · match sk, o3 with
    | [], o3 => simp at o3; omega
    | v :: r, o3 =>
      have e : mstep L al ((f, pc, sl, v :: r) :: rest, ps, mo) = (0, 0, (f, pc + 1, setx sl s v, r) :: rest, ps, mo) := by
        refine m_step_e hq ?_
        show some (pc + 1, setx sl (nI s).toNatClampNeg v, r) = _
        rw [nI_clamp (by omega)]
      have hl := setx_len (l := sl) (s := s) (v := v) (by omega)
      exact ⟨Or.inr (Or.inr (Or.inr (Or.inr (Or.inr (Or.inr (Or.inl ⟨v, r, s, rfl, rfl, rfl, s1, by omega, e⟩)))))), loc _ _ _ d2 (by simp at o3 ⊢; omega) (by omega) (by omega) e⟩
  · match sk, o3 with
    | [], o3 => simp at o3; omega
    | v :: r, o3 =>
      have he : mstep L al ((f, pc, sl, v :: r) :: rest, ps, mo) = (0, 0, (f, (if v = 0 then e else pc + 1), sl, r) :: rest, ps, mo) := by
        refine m_step_e hq ?_
        show some ((if v = 0 then (nI e).toNatClampNeg else pc + 1), sl, r) = _
        rw [nI_clamp (by omega)]
      refine ⟨Or.inr (Or.inr (Or.inr (Or.inr (Or.inr (Or.inr (Or.inr (Or.inl ⟨v, r, e, rfl, rfl, by omega, rfl, he⟩))))))), ?_⟩
      by_cases hv : v = 0
      · rw [if_pos hv] at he
        exact loc _ _ _ e1 (by simp at o3 ⊢; omega) (by omega) o5 he
      · rw [if_neg hv] at he
        exact loc _ _ _ d2 (by simp at o3 ⊢; omega) (by omega) o5 he
  · have he : mstep L al ((f, pc, sl, sk) :: rest, ps, mo) = (0, 0, (f, e, sl, sk) :: rest, ps, mo) := by
      refine m_step_e hq ?_
      show some ((nI e).toNatClampNeg, sl, sk) = _
      rw [nI_clamp (by omega)]
    exact ⟨Or.inr (Or.inr (Or.inr (Or.inr (Or.inr (Or.inr (Or.inr (Or.inr (Or.inl ⟨e, rfl, rfl, by omega, he⟩)))))))), loc _ _ _ e1 (by omega) (by omega) o5 he⟩
  · have hg : g < L.length := by omega
    rw [hpar g e1] at e2 d3
    obtain ⟨q1, q2, q3, q4, q5, q6, q7, q8, q9, q10, q11⟩ := g3 g hg
    have he : mstep L al ((f, pc, sl, sk) :: rest, ps, mo) = if al < bsz L rest + fsz L f + fsz L g then (2, 0, ((f, pc, sl, sk) :: rest, ps, mo)) else (0, 0, (g, 0, (sk.take (fnP (fAt L g))).reverse, []) :: (f, pc + 1, sl, sk.drop (fnP (fAt L g))) :: rest, ps, max mo (bsz L rest + fsz L f + fsz L g)) := by
      have hl : mloc 16 (nI g) pc sl sk = none := by
        cases sk <;> rfl
      unfold mstep
      simp only [hq, hl]
      rw [if_pos trivial, nI_clamp (by omega)]
    refine ⟨Or.inr (Or.inr (Or.inr (Or.inr (Or.inr (Or.inr (Or.inr (Or.inr (Or.inr (Or.inl ⟨g, rfl, rfl, hg, by omega, he⟩))))))))), ?_⟩
    by_cases hz : al < bsz L rest + fsz L f + fsz L g
    · rw [if_pos hz] at he
      exact ht 2 _ (by decide) he
    · rw [if_neg hz] at he
      intro _
      rw [he]
      refine ⟨_, _, rfl, ⟨hg, q7, ?_, ?_, ?_⟩, fun y hy => ?_, ?_, hps, by dsimp only; omega⟩
      · simp; omega
      · dsimp only
        rw [List.length_reverse, List.length_take]; omega
      · dsimp only
        rw [List.length_reverse, List.length_take]; omega
      · rcases List.mem_cons.mp hy with rfl | hy
        · refine ⟨o1, d2, ?_, by dsimp only; omega, o5⟩
          dsimp only
          rw [List.length_drop]; omega
        · exact hw y hy
      · simp only [bsz]
        omega
  · match sk, o3 with
    | [], o3 => simp at o3; omega
    | v :: r, o3 =>
      match rest, hw, hb, hbs with
      | [], hw, hb, hbs =>
        have he : mstep L al ((f, pc, sl, v :: r) :: [], ps, mo) = (1, v, ((f, pc, sl, v :: r) :: [], ps, mo)) := by
          unfold mstep
          simp only [hq]
          rfl
        exact ⟨Or.inr (Or.inr (Or.inr (Or.inr (Or.inr (Or.inr (Or.inr (Or.inr (Or.inr (Or.inr (Or.inl ⟨v, r, rfl, rfl, Or.inl ⟨rfl, he⟩⟩)))))))))), fun q => by rw [he] at q; exact absurd (show (1 : Int32) = 0 from q) (by decide)⟩
      | (f2, pc2, sl2, sk2) :: rest2, hw, hb, hbs =>
        have he : mstep L al ((f, pc, sl, v :: r) :: (f2, pc2, sl2, sk2) :: rest2, ps, mo) = (0, 0, (f2, pc2, sl2, v :: sk2) :: rest2, ps, mo) := by
          unfold mstep
          simp only [hq]
          rfl
        refine ⟨Or.inr (Or.inr (Or.inr (Or.inr (Or.inr (Or.inr (Or.inr (Or.inr (Or.inr (Or.inr (Or.inl ⟨v, r, rfl, rfl, Or.inr ⟨f2, pc2, sl2, sk2, rest2, rfl, he⟩⟩)))))))))), fun _ => ?_⟩
        obtain ⟨w1, w2, w3, w4, w5⟩ := hw _ List.mem_cons_self
        rw [he]
        refine ⟨_, _, rfl, ⟨w1, w2, ?_, w4, w5⟩, fun y hy => hw y (List.mem_cons_of_mem _ hy), ?_, hps, hmo⟩
        · dsimp only at w3 ⊢
          simp only [List.length_cons]
          omega
        · simp only [bsz] at hb ⊢
          omega
  · rw [← g1] at hpar
    rw [hpar f o1] at d2
    have he : mstep L al ((f, pc, sl, sk) :: rest, ps, mo) = if al < bsz L rest + fsz L f then (2, 0, ((f, pc, sl, sk) :: rest, ps, mo)) else (0, 0, (f, 0, (sk.take (fnP (fAt L f))).reverse, []) :: rest, ps, max mo (bsz L rest + fsz L f)) := by
      have hl : mloc 18 n pc sl sk = none := by cases sk <;> rfl
      unfold mstep
      simp only [hq, hl]
      rfl
    refine ⟨Or.inr (Or.inr (Or.inr (Or.inr (Or.inr (Or.inr (Or.inr (Or.inr (Or.inr (Or.inr (Or.inr ⟨f, Or.inl ⟨rfl, rfl⟩, o1, by omega, he⟩)))))))))), ?_⟩
    by_cases hz : al < bsz L rest + fsz L f
    · rw [if_pos hz] at he
      exact ht 2 _ (by decide) he
    · rw [if_neg hz] at he
      intro _
      rw [he]
      refine ⟨_, _, rfl, ⟨o1, p7, ?_, ?_, ?_⟩, hw, ?_, hps, by dsimp only; omega⟩
      · simp; omega
      · dsimp only
        rw [List.length_reverse, List.length_take]; omega
      · dsimp only
        rw [List.length_reverse, List.length_take]; omega
      · simp only [bsz]
        omega
  · have hg : g < L.length := by omega
    rw [hpar g e1] at e2
    obtain ⟨q1, q2, q3, q4, q5, q6, q7, q8, q9, q10, q11⟩ := g3 g hg
    have he : mstep L al ((f, pc, sl, sk) :: rest, ps, mo) = if al < bsz L rest + fsz L g then (2, 0, ((f, pc, sl, sk) :: rest, ps, mo)) else (0, 0, (g, 0, (sk.take (fnP (fAt L g))).reverse, []) :: rest, ps, max mo (bsz L rest + fsz L g)) := by
      have hl : mloc 19 (nI g) pc sl sk = none := by cases sk <;> rfl
      unfold mstep
      simp only [hq, hl]
      have : (nI g).toNatClampNeg = g := nI_clamp (by omega)
      simp [this]
    refine ⟨Or.inr (Or.inr (Or.inr (Or.inr (Or.inr (Or.inr (Or.inr (Or.inr (Or.inr (Or.inr (Or.inr ⟨g, Or.inr ⟨rfl, rfl⟩, hg, by omega, he⟩)))))))))), ?_⟩
    by_cases hz : al < bsz L rest + fsz L g
    · rw [if_pos hz] at he
      exact ht 2 _ (by decide) he
    · rw [if_neg hz] at he
      intro _
      rw [he]
      refine ⟨_, _, rfl, ⟨hg, q7, ?_, ?_, ?_⟩, hw, ?_, hps, by dsimp only; omega⟩
      · simp; omega
      · dsimp only
        rw [List.length_reverse, List.length_take]; omega
      · dsimp only
        rw [List.length_reverse, List.length_take]; omega
      · simp only [bsz]
        omega
end MK
