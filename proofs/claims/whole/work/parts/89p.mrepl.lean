/-! THE MODEL: a body in a call's place, as lists -/
theorem fo_r_add (s : Nat) : ∀ (F : Fo) (o : Nat), fo_r F (s + o) = (fo_r F o).map (s + ·)
  | .leaf, _ => rfl
  | .inner z k v a b, o => by
    simp only [fo_r, List.map_cons]
    rw [show s + o + fo_n a = s + (o + fo_n a) by omega, show s + (o + fo_n a) + 1 = s + (o + fo_n a + 1) by omega, fo_r_add s b]
theorem fo_r1 {F : Fo} {o : Nat} (h : fo_l F = 1) : fo_r F o = [o + fo_n F - 1] := by
  obtain ⟨z, k, v, a, rfl⟩ := fo_l1 h
  show [o + fo_n a] = [o + (fo_n a + 1 + 0) - 1]
  congr 1
/-- a body's node, shifted -/
def shN (q bs as : Nat) (x : ND) : ND :=
  if x.1 = 1 then (1, x.2.1, 0, 0)
  else if x.1 = 2 then (2, nI q + x.2.1, 0, 0)
  else if x.1 = 10 ∨ x.1 = 11 then (x.1, nI bs + x.2.1, 0, 0)
  else if x.1 = 13 then (13, nI bs + x.2.1, nI bs + x.2.2.1, nI bs + x.2.2.2)
  else if x.1 = 14 then (14, nI bs + x.2.1, nI bs + x.2.2.1, nI q + x.2.2.2)
  else if x.1 = 15 then (15, nI as + x.2.1, x.2.2.1, x.2.2.2)
  else (x.1, nI bs + x.2.1, nI bs + x.2.2.1, 0)
section SH
variable {K A B C H : Nat → Int32} {N q bs as n : Nat} {par : Int32 → Nat} {L : List ND} {G : List Int32}
theorem fo_k_sh {m : Nat} {k v : Int32} {rs : List Nat} (hk : ∃ j, 1 ≤ j ∧ j ≤ 15 ∧ k = nI j) (har : rs.length = k_ar par k v) (h : fo_k K A B C H N id m k v rs) (hn : L[bs + m]? = some (shN q bs as (K m, A m, B m, C m))) (hg : ∀ j, j < N → aG G (as + j) = nI bs + H j) (hN : as + N ≤ G.length) : fo_k (nK L) (nA L) (nBb L) (nC L) (aG G) G.length id (bs + m) k (if k = 2 ∨ k = 14 then v + nI q else v) (rs.map (bs + ·)) := by
  obtain ⟨a1, a2, a3, a4⟩ := h
  simp only [id] at a1 a2 a3 a4
  have e1 : nK L (bs + m) = (shN q bs as (K m, A m, B m, C m)).1 := by unfold nK; rw [hn]; rfl
  have e2 : nA L (bs + m) = (shN q bs as (K m, A m, B m, C m)).2.1 := by unfold nA; rw [hn]; rfl
  have e3 : nBb L (bs + m) = (shN q bs as (K m, A m, B m, C m)).2.2.1 := by unfold nBb; rw [hn]; rfl
  have e4 : nC L (bs + m) = (shN q bs as (K m, A m, B m, C m)).2.2.2 := by unfold nC; rw [hn]; rfl
  have mp : ∀ i r, (rs.map (bs + ·))[i]? = some r → ∃ r0, rs[i]? = some r0 ∧ r = bs + r0 := fun i r hr => by
    rw [List.getElem?_map] at hr
    cases h0 : rs[i]? with
    | none => rw [h0] at hr; cases hr
    | some r0 => rw [h0] at hr; exact ⟨r0, h0, by simpa using hr.symm⟩
  unfold fo_k
  simp only [id]
  rw [e1, e2, e3, e4, a1]
  obtain ⟨j, hj1, hj2, ej⟩ := hk
  by_cases c1 : k = 1
  · subst c1
    refine ⟨rfl, fun _ => a2 (Or.inl rfl), fun z => absurd z (by decide), fun z => absurd (Or.inl rfl) z⟩
  by_cases c2 : k = 2
  · subst c2
    refine ⟨rfl, fun _ => ?_, fun z => absurd z (by decide), fun z => absurd (Or.inr (Or.inl rfl)) z⟩
    show nI q + A m = v + nI q
    rw [a2 (Or.inr rfl), Int32.add_comm]
  by_cases c15 : k = 15
  · subst c15
    obtain ⟨b1, b2, q0, b3, b4, b5⟩ := a3 rfl
    refine ⟨rfl, fun z => absurd z (by decide), fun _ => ⟨b1, by rw [List.length_map]; exact b2, as + q0, ?_, by rw [List.length_map]; omega, fun i r hr => ?_⟩, fun z => absurd (Or.inr (Or.inr rfl)) z⟩
    · show nI as + A m = nI (as + q0)
      rw [b3, nI_add]
    · obtain ⟨r0, h0, er⟩ := mp i r hr
      have := (List.getElem?_eq_some_iff.mp h0).1
      rw [show as + q0 + i = as + (q0 + i) by omega, hg _ (by omega), b5 i r0 h0, nI_add, er]
  have hn2 : ¬ (k = 1 ∨ k = 2 ∨ k = 15) := fun z => z.elim c1 (fun z => z.elim c2 c15)
  obtain ⟨o1, o2, o3, o4⟩ := a4 hn2
  have hsh : shN q bs as (k, A m, B m, C m) = if k = 10 ∨ k = 11 then (k, nI bs + A m, 0, 0) else if k = 13 then (13, nI bs + A m, nI bs + B m, nI bs + C m) else if k = 14 then (14, nI bs + A m, nI bs + B m, nI q + C m) else (k, nI bs + A m, nI bs + B m, 0) := by
    unfold shN
    dsimp only
    rw [if_neg c1, if_neg c2]
    by_cases c10 : k = 10 ∨ k = 11
    · rw [if_pos c10, if_pos c10]
    · rw [if_neg c10, if_neg c10]
      by_cases c13 : k = 13
      · rw [if_pos c13, if_pos c13]
      · rw [if_neg c13, if_neg c13]
        by_cases c14 : k = 14
        · rw [if_pos c14, if_pos c14]
        · rw [if_neg c14, if_neg c14, if_neg c15]
  rw [hsh]
  have harr : rs.length = if k = 10 ∨ k = 11 then 1 else if k = 13 then 3 else 2 := by
    rw [har]
    unfold k_ar
    rw [if_neg (fun z => z.elim c1 c2), if_neg c15]
  by_cases c10 : k = 10 ∨ k = 11
  · rw [if_pos c10] at harr ⊢
    refine ⟨rfl, fun z => absurd z (fun z => z.elim c1 c2), fun z => absurd z c15, fun _ => ⟨fun r hr => ?_, fun r hr => ?_, fun r hr => ?_, fun z => by rcases c10 with w | w <;> rw [w] at z <;> exact absurd z (by decide)⟩⟩
    · obtain ⟨r0, h0, er⟩ := mp 0 r hr
      rw [o1 r0 h0, nI_add, er]
    · obtain ⟨r0, h0, er⟩ := mp 1 r hr
      have := (List.getElem?_eq_some_iff.mp h0).1
      omega
    · obtain ⟨r0, h0, er⟩ := mp 2 r hr
      have := (List.getElem?_eq_some_iff.mp h0).1
      omega
  · rw [if_neg c10] at harr ⊢
    have A0 : ∀ r, (rs.map (bs + ·))[0]? = some r → nI bs + A m = nI r := fun r hr => by
      obtain ⟨r0, h0, er⟩ := mp 0 r hr
      rw [o1 r0 h0, nI_add, er]
    have B0 : ∀ r, (rs.map (bs + ·))[1]? = some r → nI bs + B m = nI r := fun r hr => by
      obtain ⟨r0, h0, er⟩ := mp 1 r hr
      rw [o2 r0 h0, nI_add, er]
    by_cases c13 : k = 13
    · rw [if_pos c13] at harr ⊢
      refine ⟨c13.symm, fun z => absurd z (fun z => z.elim c1 c2), fun z => absurd z c15, fun _ => ⟨A0, B0, fun r hr => ?_, fun z => by rw [c13] at z; exact absurd z (by decide)⟩⟩
      obtain ⟨r0, h0, er⟩ := mp 2 r hr
      show nI bs + C m = nI r
      rw [o3 r0 h0, nI_add, er]
    · rw [if_neg c13] at harr ⊢
      have n2 : ∀ r, (rs.map (bs + ·))[2]? = some r → False := fun r hr => by
        obtain ⟨r0, h0, er⟩ := mp 2 r hr
        have := (List.getElem?_eq_some_iff.mp h0).1
        omega
      by_cases c14 : k = 14
      · rw [if_pos c14, if_pos (Or.inr c14)]
        refine ⟨c14.symm, fun z => absurd z (fun z => z.elim c1 c2), fun z => absurd z c15, fun _ => ⟨A0, B0, fun r hr => (n2 r hr).elim, fun _ => ?_⟩⟩
        show nI q + C m = v + nI q
        rw [o4 c14, Int32.add_comm]
      · rw [if_neg c14]
        exact ⟨rfl, fun z => absurd z (fun z => z.elim c1 c2), fun z => absurd z c15, fun _ => ⟨A0, B0, fun r hr => (n2 r hr).elim, fun z => absurd z c14⟩⟩
theorem fo_m_sh (hg : ∀ j, j < N → aG G (as + j) = nI bs + H j) (hN : as + N ≤ G.length) : ∀ (F : Fo) (S : Nat → List Int32) (o : Nat), fo_w n par F S → fo_m K A B C H N id F o → (∀ m, o ≤ m → m < o + fo_n F → L[bs + m]? = some (shN q bs as (K m, A m, B m, C m))) → fmL L G (fo_sh q F) (bs + o)
  | .leaf, _, _, _, _, _ => trivial
  | .inner z k v a b, S, o, hw, h, hn => by
    have en : fo_n (.inner z k v a b) = fo_n a + 1 + fo_n b := rfl
    obtain ⟨w1, w2, w3, w4, w5, w6⟩ := hw
    refine ⟨fo_m_sh hg hN a _ o w5 h.1 (fun m m1 m2 => hn m m1 (by omega)), ?_, ?_⟩
    · have := fo_k_sh w1 (by rw [fo_rl]; exact w2) h.2.1 (hn (o + fo_n a) (by omega) (by omega)) hg hN
      rw [fo_n_sh, fo_r_sh, show bs + o + fo_n a = bs + (o + fo_n a) by omega, fo_r_add]
      exact this
    · have := fo_m_sh hg hN b _ (o + fo_n a + 1) w6 h.2.2 (fun m m1 m2 => hn m (by omega) (by omega))
      rw [fo_n_sh, show bs + o + fo_n a + 1 = bs + (o + fo_n a + 1) by omega]
      exact this
end SH
/-- lets around a body, in the order of the model's nodes -/
theorem nest_m {L : List ND} {G : List Int32} {B : Fo} (hB1 : fo_l B = 1) : ∀ (a : Fo) (o q : Nat), fmL L G a o → fmL L G B (o + fo_n a) → (∀ j r, (fo_r a o)[j]? = some r → L[o + fo_n a + fo_n B + (fo_l a - 1 - j)]? = some (14, nI r, nI (o + fo_n a + fo_n B + (fo_l a - 1 - j) - 1), nI (q + j))) → fmL L G (nest q a B) o
  | .leaf, o, q, _, hB, _ => by
    have : o + fo_n .leaf = o := rfl
    rw [this] at hB
    exact hB
  | .inner z k v a r, o, q, ha, hB, hl => by
    have en : fo_n (.inner z k v a r) = fo_n a + 1 + fo_n r := rfl
    have el : fo_l (.inner z k v a r) = fo_l r + 1 := rfl
    have er : fo_r (.inner z k v a r) o = (o + fo_n a) :: fo_r r (o + fo_n a + 1) := rfl
    rw [er] at hl
    rw [en] at hB hl
    rw [el] at hl
    have ih := nest_m hB1 r (o + fo_n a + 1) (q + 1) ha.2.2 (by rw [show o + fo_n a + 1 + fo_n r = o + (fo_n a + 1 + fo_n r) by omega]; exact hB) (fun j r' hj => by
      have := hl (j + 1) r' (by rw [List.getElem?_cons_succ]; exact hj)
      have hjl := (List.getElem?_eq_some_iff.mp hj).1
      rw [fo_rl] at hjl
      rw [show o + fo_n a + 1 + fo_n r + fo_n B + (fo_l r - 1 - j) = o + (fo_n a + 1 + fo_n r) + fo_n B + (fo_l r + 1 - 1 - (j + 1)) by omega, show q + 1 + j = q + (j + 1) by omega]
      exact this)
    refine ⟨⟨ha.1, ha.2.1, ih⟩, ?_, trivial⟩
    have h0 := hl 0 (o + fo_n a) rfl
    have hnn := fo_n_nest (q + 1) r B
    have hBn := fo_ln B
    have ei : o + fo_n (.inner z k v a (nest (q + 1) r B)) = o + (fo_n a + 1 + fo_n r) + fo_n B + (fo_l r + 1 - 1 - 0) := by
      show o + (fo_n a + 1 + fo_n (nest (q + 1) r B)) = _
      rw [hnn]
      omega
    have ert : fo_r (.inner z k v a (nest (q + 1) r B)) o = [o + fo_n a, o + (fo_n a + 1 + fo_n r) + fo_n B + (fo_l r + 1 - 1 - 0) - 1] := by
      show (o + fo_n a) :: fo_r (nest (q + 1) r B) (o + fo_n a + 1) = _
      rw [fo_r1 (fo_l_nest _ _ _ hB1), hnn]
      congr 2
      omega
    rw [ei, ert]
    unfold fo_k
    simp only [id]
    have e1 : nK L (o + (fo_n a + 1 + fo_n r) + fo_n B + (fo_l r + 1 - 1 - 0)) = 14 := by unfold nK; rw [h0]; rfl
    have e2 : nA L (o + (fo_n a + 1 + fo_n r) + fo_n B + (fo_l r + 1 - 1 - 0)) = nI (o + fo_n a) := by unfold nA; rw [h0]; rfl
    have e3 : nBb L (o + (fo_n a + 1 + fo_n r) + fo_n B + (fo_l r + 1 - 1 - 0)) = nI (o + (fo_n a + 1 + fo_n r) + fo_n B + (fo_l r + 1 - 1 - 0) - 1) := by unfold nBb; rw [h0]; rfl
    have e4 : nC L (o + (fo_n a + 1 + fo_n r) + fo_n B + (fo_l r + 1 - 1 - 0)) = nI (q + 0) := by unfold nC; rw [h0]; rfl
    rw [e1, e2, e3, e4]
    refine ⟨rfl, fun z => absurd z (by decide), fun z => absurd z (by decide), fun _ => ⟨fun r' hr' => ?_, fun r' hr' => ?_, (fun r' hr' => by cases hr'), fun _ => rfl⟩⟩
    · have : o + fo_n a = r' := by simpa using hr'
      rw [this]
    · have : o + (fo_n a + 1 + fo_n r) + fo_n B + (fo_l r + 1 - 1 - 0) - 1 = r' := by simpa using hr'
      rw [this]
