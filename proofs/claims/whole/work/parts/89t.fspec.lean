/-! FOLDING: what comes out -/
def fo_h : Fo → Fo
  | .inner z k v a _ => .inner z k v a .leaf
  | .leaf => .leaf
def fo_u : Fo → Fo
  | .inner _ _ _ _ b => b
  | .leaf => .leaf
/-- one number -/
def fnum : Fo → Option Int32
  | .inner _ k v _ .leaf => if k = 1 then some v else none
  | _ => none
def fclm (k : Int32) : Bool := !(decide (k = 15) || decide (k = 11) || decide (k = 6) || decide (k = 7))
def fcalm (F : Fo) : Bool := (fo_p F).all (fun q => fclm q.1)
def fstd (v : Int32) (F : Fo) : Bool := decide ((2, v) ∈ fo_p F)
def fnd (x : Int32) : Fo := .inner 0 1 x .leaf .leaf
abbrev RHO : Type := Int32 → Option Int32
/-- a node over its folded operands -/
def cmb (ρ : RHO) (z : Nat) (k v : Int32) (K : Fo) : Fo :=
  if k = 1 ∨ k = 11 ∨ k = 15 then .inner z k v K .leaf
  else if k = 2 then (match ρ v with | some x => fnd x | none => .inner z k v K .leaf)
  else if k = 13 then (match fnum (fo_h K) with | some x => if x = 0 then fo_h (fo_u (fo_u K)) else fo_h (fo_u K) | none => .inner z k v K .leaf)
  else if k = 10 then (match fnum (fo_h K) with | some x => fnd (-x) | none => .inner z k v K .leaf)
  else if k = 12 then (if fcalm (fo_h K) then fo_h (fo_u K) else .inner z k v K .leaf)
  else if k = 14 then (if (fnum (fo_h K)).isSome || (fcalm (fo_h K) && !fstd v (fo_h (fo_u K))) then fo_h (fo_u K) else .inner z k v K .leaf)
  else (match fnum (fo_h K) with
    | some x => (match fnum (fo_h (fo_u K)) with | some y => if (k = 6 ∨ k = 7) ∧ y = 0 then .inner z k v K .leaf else fnd (op2 k x y) | none => .inner z k v K .leaf)
    | none => .inner z k v K .leaf)
def rup (ρ : RHO) (v : Int32) (x : Option Int32) : RHO := fun w => if w = v then x else ρ w
def rnx (ρ : RHO) (pk pv : Int32) (i : Nat) (T : Fo) : RHO := if pk = 14 ∧ i = 0 then rup ρ pv (fnum T) else ρ
def fdK : Fo → RHO → Int32 → Int32 → Nat → Fo
  | .inner z k v a b, ρ, pk, pv, i => fo_ap (cmb ρ z k v (fdK a ρ k v 0)) (fdK b (rnx ρ pk pv i (cmb ρ z k v (fdK a ρ k v 0))) pk pv (i + 1))
  | .leaf, _, _, _, _ => .leaf
theorem fdK_in {z : Nat} {k v : Int32} {a b : Fo} {ρ : RHO} {pk pv : Int32} {i : Nat} : fdK (.inner z k v a b) ρ pk pv i = fo_ap (cmb ρ z k v (fdK a ρ k v 0)) (fdK b (rnx ρ pk pv i (cmb ρ z k v (fdK a ρ k v 0))) pk pv (i + 1)) := rfl
theorem fo_lh {K : Fo} (h : 0 < fo_l K) : fo_l (fo_h K) = 1 ∧ fo_l (fo_u K) + 1 = fo_l K := by
  match K, h with
  | .inner z k v a b, _ => exact ⟨rfl, rfl⟩
theorem fo_nh (K : Fo) : fo_n (fo_h K) + fo_n (fo_u K) = fo_n K := by
  match K with
  | .inner z k v a b => simp [fo_h, fo_u, fo_n]
  | .leaf => rfl
theorem fo_h1 {K : Fo} (h : fo_l K = 1) : fo_h K = K := by
  match K, h with
  | .inner z k v a .leaf, _ => rfl
  | .inner _ _ _ _ (.inner _ _ _ _ _), h => simp [fo_l] at h
theorem fo_hap {T R : Fo} (h : fo_l T = 1) : fo_h (fo_ap T R) = T ∧ fo_u (fo_ap T R) = R := by
  match T, h with
  | .inner z k v a .leaf, _ => exact ⟨rfl, rfl⟩
  | .inner _ _ _ _ (.inner _ _ _ _ _), h => simp [fo_l] at h
section FD
variable {n : Nat} {par : Int32 → Nat}
/-- what a node gives way to is one of three things -/
theorem cmb_cases (ρ : RHO) (z : Nat) (k v : Int32) (K : Fo) : cmb ρ z k v K = .inner z k v K .leaf ∨ (∃ x, cmb ρ z k v K = fnd x) ∨ ((k = 12 ∨ k = 14 ∨ k = 13) ∧ cmb ρ z k v K = fo_h (fo_u K)) ∨ (k = 13 ∧ cmb ρ z k v K = fo_h (fo_u (fo_u K))) := by
  unfold cmb
  split
  · exact Or.inl rfl
  split
  · split
    · exact Or.inr (Or.inl ⟨_, rfl⟩)
    · exact Or.inl rfl
  split
  · rename_i h
    split
    · split
      · exact Or.inr (Or.inr (Or.inr ⟨h, rfl⟩))
      · exact Or.inr (Or.inr (Or.inl ⟨Or.inr (Or.inr h), rfl⟩))
    · exact Or.inl rfl
  split
  · split
    · exact Or.inr (Or.inl ⟨_, rfl⟩)
    · exact Or.inl rfl
  split
  · rename_i h
    split
    · exact Or.inr (Or.inr (Or.inl ⟨Or.inl h, rfl⟩))
    · exact Or.inl rfl
  split
  · rename_i h
    split
    · exact Or.inr (Or.inr (Or.inl ⟨Or.inr (Or.inl h), rfl⟩))
    · exact Or.inl rfl
  split
  · split
    · split
      · exact Or.inl rfl
      · exact Or.inr (Or.inl ⟨_, rfl⟩)
    · exact Or.inl rfl
  · exact Or.inl rfl
theorem cmb_l {ρ : RHO} {z : Nat} {k v : Int32} {K : Fo} (hl : fo_l K = k_ar par k v) : fo_l (cmb ρ z k v K) = 1 := by
  rcases cmb_cases ρ z k v K with h | ⟨x, h⟩ | ⟨hk, h⟩ | ⟨hk, h⟩
  · rw [h]; rfl
  · rw [h]; rfl
  · rw [h]
    have h2 : 2 ≤ fo_l K := by
      rw [hl]
      rcases hk with rfl | rfl | rfl
      · exact Nat.le_refl 2
      · exact Nat.le_refl 2
      · exact Nat.le_succ 2
    have q := fo_lh (K := K) (by omega)
    exact (fo_lh (by omega)).1
  · rw [h]
    have h3 : fo_l K = 3 := by rw [hl, hk]; rfl
    have q := fo_lh (K := K) (by omega)
    have q2 := fo_lh (K := fo_u K) (by omega)
    exact (fo_lh (by omega)).1
theorem cmb_n {ρ : RHO} {z : Nat} {k v : Int32} {K : Fo} : fo_n (cmb ρ z k v K) ≤ fo_n K + 1 := by
  have q1 := fo_nh K
  have q2 := fo_nh (fo_u K)
  have q3 := fo_nh (fo_u (fo_u K))
  rcases cmb_cases ρ z k v K with h | ⟨x, h⟩ | ⟨hk, h⟩ | ⟨hk, h⟩
  · rw [h]; simp [fo_n]
  · rw [h]; simp [fnd, fo_n]
  · rw [h]; omega
  · rw [h]; omega
theorem fdK_l : ∀ (F : Fo) (S : Nat → List Int32), fo_w n par F S → ∀ (ρ : RHO) (pk pv : Int32) (i : Nat), fo_l (fdK F ρ pk pv i) = fo_l F
  | .leaf, _, _, _, _, _, _ => rfl
  | .inner z k v a b, S, hw, ρ, pk, pv, i => by
    rw [fdK_in, fo_l_ap, cmb_l (par := par) (by rw [fdK_l a _ hw.2.2.2.2.1]; exact hw.2.1), fdK_l b _ hw.2.2.2.2.2]
    simp only [fo_l]
    omega
theorem fdK_n : ∀ (F : Fo) (ρ : RHO) (pk pv : Int32) (i : Nat), fo_n (fdK F ρ pk pv i) ≤ fo_n F
  | .leaf, _, _, _, _ => Nat.le_refl _
  | .inner z k v a b, ρ, pk, pv, i => by
    have h1 := fdK_n a ρ k v 0
    have h2 := fdK_n b (rnx ρ pk pv i (cmb ρ z k v (fdK a ρ k v 0))) pk pv (i + 1)
    have h3 := cmb_n (ρ := ρ) (z := z) (k := k) (v := v) (K := fdK a ρ k v 0)
    rw [fdK_in, fo_n_ap]
    simp only [fo_n]
    omega
theorem fo_b_h (K : Fo) : fo_b (fo_h K) ++ fo_b (fo_u K) = fo_b K := by
  match K with
  | .inner z k v a b => simp [fo_h, fo_u, fo_b]
  | .leaf => rfl
theorem cmb_b {ρ : RHO} {z : Nat} {k v : Int32} {K : Fo} : (fo_b (cmb ρ z k v K)).Sublist ((if k = 14 then [v] else []) ++ fo_b K) := by
  have q1 := fo_b_h K
  have q2 := fo_b_h (fo_u K)
  have q3 := fo_b_h (fo_u (fo_u K))
  rcases cmb_cases ρ z k v K with h | ⟨x, h⟩ | ⟨hk, h⟩ | ⟨hk, h⟩
  · rw [h]
    show ((if k = 14 then [v] else []) ++ fo_b K ++ []).Sublist _
    rw [List.append_nil]
    exact List.Sublist.refl _
  · rw [h]
    exact List.nil_sublist _
  · rw [h, ← q1, ← q2]
    exact ((List.sublist_append_left _ _).trans (List.sublist_append_right _ _)).trans (List.sublist_append_right _ _)
  · rw [h, ← q1, ← q2, ← q3]
    exact (((List.sublist_append_left _ _).trans (List.sublist_append_right _ _)).trans (List.sublist_append_right _ _)).trans (List.sublist_append_right _ _)
theorem fdK_b : ∀ (F : Fo) (ρ : RHO) (pk pv : Int32) (i : Nat), (fo_b (fdK F ρ pk pv i)).Sublist (fo_b F)
  | .leaf, _, _, _, _ => List.Sublist.refl _
  | .inner z k v a b, ρ, pk, pv, i => by
    rw [fdK_in, fo_b_ap]
    show List.Sublist _ (((if k = 14 then [v] else []) ++ fo_b a) ++ fo_b b)
    exact (cmb_b.trans ((List.Sublist.refl _).append (fdK_b a ρ k v 0))).append (fdK_b b _ pk pv (i + 1))
/-- a scope may lose what does not stand in it -/
theorem fo_w_st : ∀ (F : Fo) (S S' : Nat → List Int32), fo_w n par F S → (∀ i, ∀ w ∈ S i, w ∈ S' i ∨ (2, w) ∉ fo_p F) → fo_w n par F S'
  | .leaf, _, _, _, _ => trivial
  | .inner z k v a b, S, S', h, hs => by
    obtain ⟨h1, h2, h3, h4, h5, h6⟩ := h
    have ep : fo_p (.inner z k v a b) = (k, v) :: (fo_p a ++ fo_p b) := rfl
    rw [ep] at hs
    refine ⟨h1, h2, fun c => ?_, h4, fo_w_st a _ _ h5 (fun i w hw => ?_), fo_w_st b _ _ h6 (fun i w hw => ?_)⟩
    · rcases hs 0 v (h3 c) with q | q
      · exact q
      · exact absurd (by rw [c]; exact List.mem_cons_self ..) q
    · unfold k_sc at hw ⊢
      by_cases c : k = 14 ∧ ¬ i = 0
      · rw [if_pos c] at hw ⊢
        rcases List.mem_cons.mp hw with q | q
        · exact Or.inl (by rw [q]; exact List.mem_cons_self ..)
        · rcases hs 0 w q with q | q
          · exact Or.inl (List.mem_cons_of_mem _ q)
          · exact Or.inr (fun z => q (List.mem_cons_of_mem _ (List.mem_append.mpr (Or.inl z))))
      · rw [if_neg c] at hw ⊢
        rcases hs 0 w hw with q | q
        · exact Or.inl q
        · exact Or.inr (fun z => q (List.mem_cons_of_mem _ (List.mem_append.mpr (Or.inl z))))
    · rcases hs (i + 1) w hw with q | q
      · exact Or.inl q
      · exact Or.inr (fun z => q (List.mem_cons_of_mem _ (List.mem_append.mpr (Or.inr z))))
theorem fo_p_ht (K : Fo) : fo_p (fo_h K) ++ fo_p (fo_u K) = fo_p K := by
  match K with
  | .inner z k v a b => simp [fo_h, fo_u, fo_p]
  | .leaf => rfl
/-- known variables do not stand in what comes out -/
theorem cmb_p {ρ : RHO} {z : Nat} {k v w : Int32} {K : Fo} (h : (2, w) ∈ fo_p (cmb ρ z k v K)) : (2, w) ∈ fo_p K ∨ (k = 2 ∧ v = w ∧ ρ v = none) := by
  have q1 := fo_p_ht K
  have q2 := fo_p_ht (fo_u K)
  have q3 := fo_p_ht (fo_u (fo_u K))
  rcases cmb_cases ρ z k v K with e | ⟨x, e⟩ | ⟨hk, e⟩ | ⟨hk, e⟩
  · have h' := h
    rw [e] at h'
    have ep : fo_p (.inner z k v K .leaf) = (k, v) :: (fo_p K ++ []) := rfl
    rw [ep, List.append_nil] at h'
    rcases List.mem_cons.mp h' with c | c
    · have c1 : k = 2 := (congrArg (·.1) c).symm
      have c2 : v = w := (congrArg (·.2) c).symm
      refine Or.inr ⟨c1, c2, ?_⟩
      cases hr : ρ v with
      | none => rfl
      | some x =>
        rw [c1] at e
        unfold cmb at e
        rw [if_neg (by decide), if_pos rfl, hr] at e
        cases e
    · exact Or.inl c
  · rw [e] at h
    have : (2, w) ∈ [((1 : Int32), x)] := h
    have := congrArg (·.1) (List.mem_singleton.mp this)
    exact absurd (show (2 : Int32) = 1 from this) (by decide)
  · rw [e] at h
    exact Or.inl (by rw [← q1, ← q2]; exact List.mem_append.mpr (Or.inr (List.mem_append.mpr (Or.inl h))))
  · rw [e] at h
    exact Or.inl (by rw [← q1, ← q2, ← q3]; exact List.mem_append.mpr (Or.inr (List.mem_append.mpr (Or.inr (List.mem_append.mpr (Or.inl h))))))
theorem fdK_p : ∀ (F : Fo) (ρ : RHO) (pk pv : Int32) (i : Nat) (w x : Int32), ρ w = some x → w ∉ fo_b F → ¬ (pk = 14 ∧ pv = w) → (2, w) ∉ fo_p (fdK F ρ pk pv i)
  | .leaf, _, _, _, _, _, _, _, _, _ => by intro h; cases h
  | .inner z k v a b, ρ, pk, pv, i, w, x, hr, hb, hp => by
    have eb : fo_b (.inner z k v a b) = ((if k = 14 then [v] else []) ++ fo_b a) ++ fo_b b := rfl
    rw [eb] at hb
    have hka : ¬ (k = 14 ∧ v = w) := fun c => hb (List.mem_append.mpr (Or.inl (List.mem_append.mpr (Or.inl (by rw [if_pos c.1, c.2]; exact List.mem_singleton.mpr rfl)))))
    intro h
    rw [fdK_in, fo_p_ap] at h
    rcases List.mem_append.mp h with h | h
    · rcases cmb_p h with c | ⟨c1, c2, c3⟩
      · exact fdK_p a ρ k v 0 w x hr (fun c => hb (List.mem_append.mpr (Or.inl (List.mem_append.mpr (Or.inr c))))) hka c
      · rw [c2, hr] at c3
        cases c3
    · refine fdK_p b _ pk pv (i + 1) w x ?_ (fun c => hb (List.mem_append.mpr (Or.inr c))) hp h
      unfold rnx
      split
      · rename_i c
        unfold rup
        rw [if_neg (fun e => hp ⟨c.1, e.symm⟩)]
        exact hr
      · exact hr
theorem fo_w_hd {K : Fo} {S : Nat → List Int32} (h : fo_w n par K S) : fo_w n par (fo_h K) (fun _ => S 0) ∧ fo_w n par (fo_u K) (fun i => S (i + 1)) := by
  match K, h with
  | .inner z k v a b, h => exact ⟨⟨h.1, h.2.1, h.2.2.1, h.2.2.2.1, h.2.2.2.2.1, trivial⟩, h.2.2.2.2.2⟩
  | .leaf, _ => exact ⟨trivial, trivial⟩
theorem fo_w_c {F : Fo} {S S' : Nat → List Int32} (h : fo_w n par F S) (e : ∀ i, S i = S' i) : fo_w n par F S' := by
  have : S = S' := funext e
  rw [← this]
  exact h
theorem fdK_w : ∀ (F : Fo) (S : Nat → List Int32) (ρ : RHO) (pk pv : Int32) (i : Nat), fo_w n par F S → (fo_b F).Nodup → (∀ i, ∀ w ∈ S i, w ∉ fo_b F) → fo_w n par (fdK F ρ pk pv i) S
  | .leaf, _, _, _, _, _, _, _, _ => trivial
  | .inner z k v a b, S, ρ, pk, pv, i, hw, hd, hs => by
    obtain ⟨h1, h2, h3, h4, h5, h6⟩ := hw
    have eb : fo_b (.inner z k v a b) = ((if k = 14 then [v] else []) ++ fo_b a) ++ fo_b b := rfl
    rw [eb] at hd hs
    have hd' := List.nodup_append.mp hd
    have hda := List.nodup_append.mp hd'.1
    have hsa : ∀ i, ∀ w ∈ k_sc k v (S 0) i, w ∉ fo_b a := by
      intro i w hw hwa
      unfold k_sc at hw
      split at hw
      · rename_i c
        rcases List.mem_cons.mp hw with q | q
        · rw [q] at hwa
          exact hda.2.2 v (by rw [if_pos c.1]; exact List.mem_singleton.mpr rfl) v hwa rfl
        · exact hs 0 w q (List.mem_append.mpr (Or.inl (List.mem_append.mpr (Or.inr hwa))))
      · exact hs 0 w hw (List.mem_append.mpr (Or.inl (List.mem_append.mpr (Or.inr hwa))))
    have wa := fdK_w a _ ρ k v 0 h5 hda.2.1 hsa
    have la := fdK_l a _ h5 ρ k v 0
    obtain ⟨K, eK⟩ : ∃ K, fdK a ρ k v 0 = K := ⟨_, rfl⟩
    rw [eK] at wa la
    have hl1 : fo_l (cmb ρ z k v K) = 1 := cmb_l (par := par) (by rw [la]; exact h2)
    rw [fdK_in, eK]
    refine fo_w_ap _ _ _ ?_ ?_
    · have w0 := fo_w_hd wa
      have w1 := fo_w_hd w0.2
      have w2 := fo_w_hd w1.2
      rcases cmb_cases ρ z k v K with e | ⟨x, e⟩ | ⟨hk, e⟩ | ⟨hk, e⟩
      · rw [e]
        exact ⟨h1, by rw [la]; exact h2, h3, h4, wa, trivial⟩
      · rw [e]
        exact ⟨⟨1, by decide, by decide, rfl⟩, rfl, (fun c => absurd c (by decide)), (fun c => absurd c (by decide)), trivial, trivial⟩
      · rw [e]
        rw [e] at hl1
        refine fo_w_at0 _ hl1 ?_
        by_cases c14 : k = 14
        · -- the let's variable does not stand there
          have hno : (2, v) ∉ fo_p (fo_h (fo_u K)) := by
            subst c14
            have hc := e
            unfold cmb at hc
            rw [if_neg (by decide), if_neg (by decide), if_neg (by decide), if_neg (by decide), if_neg (by decide), if_pos rfl] at hc
            have hla : fo_l a = 2 := h2
            obtain ⟨y1, k1, v1, a1, y2, k2, v2, a2, ea⟩ := fo_l2 hla
            have hT1 : fo_l (cmb ρ y1 k1 v1 (fdK a1 ρ k1 v1 0)) = 1 := by
              rw [ea] at h5
              exact cmb_l (par := par) (by rw [fdK_l a1 _ h5.2.2.2.2.1]; exact h5.2.1)
            have eK2 : K = fo_ap (cmb ρ y1 k1 v1 (fdK a1 ρ k1 v1 0)) (fdK (.inner y2 k2 v2 a2 .leaf) (rnx ρ 14 v 0 (cmb ρ y1 k1 v1 (fdK a1 ρ k1 v1 0))) 14 v 1) := by
              rw [← eK, ea]
              rfl
            have hT2 : fo_l (fdK (.inner y2 k2 v2 a2 .leaf) (rnx ρ 14 v 0 (cmb ρ y1 k1 v1 (fdK a1 ρ k1 v1 0))) 14 v 1) = 1 := by
              rw [ea] at h5
              rw [fdK_l _ _ h5.2.2.2.2.2]
              rfl
            have eH : fo_h K = cmb ρ y1 k1 v1 (fdK a1 ρ k1 v1 0) := by rw [eK2]; exact (fo_hap hT1).1
            have eT : fo_h (fo_u K) = fdK (.inner y2 k2 v2 a2 .leaf) (rnx ρ 14 v 0 (cmb ρ y1 k1 v1 (fdK a1 ρ k1 v1 0))) 14 v 1 := by rw [eK2, (fo_hap hT1).2]; exact fo_h1 hT2
            cases hnm : fnum (fo_h K) with
            | some x =>
              -- it is known
              rw [eT]
              have hv2 : v ∉ fo_b (.inner y2 k2 v2 a2 .leaf) := by
                intro c
                refine hda.2.2 v (by rw [if_pos rfl]; exact List.mem_singleton.mpr rfl) v ?_ rfl
                rw [ea]
                show v ∈ ((if k1 = 14 then [v1] else []) ++ fo_b a1) ++ fo_b (.inner y2 k2 v2 a2 .leaf)
                exact List.mem_append.mpr (Or.inr c)
              have hr : rnx ρ 14 v 0 (cmb ρ y1 k1 v1 (fdK a1 ρ k1 v1 0)) v = some x := by
                unfold rnx rup
                rw [if_pos ⟨rfl, rfl⟩, if_pos rfl, ← eH, hnm]
              -- one step by hand: the parent is the let itself
              intro h
              rw [fdK_in] at h
              have ez : fdK .leaf (rnx (rnx ρ 14 v 0 (cmb ρ y1 k1 v1 (fdK a1 ρ k1 v1 0))) 14 v 1 (cmb (rnx ρ 14 v 0 (cmb ρ y1 k1 v1 (fdK a1 ρ k1 v1 0))) y2 k2 v2 (fdK a2 (rnx ρ 14 v 0 (cmb ρ y1 k1 v1 (fdK a1 ρ k1 v1 0))) k2 v2 0))) 14 v (1 + 1) = .leaf := rfl
              rw [ez, fo_p_ap] at h
              have h : (2, v) ∈ fo_p (cmb (rnx ρ 14 v 0 (cmb ρ y1 k1 v1 (fdK a1 ρ k1 v1 0))) y2 k2 v2 (fdK a2 (rnx ρ 14 v 0 (cmb ρ y1 k1 v1 (fdK a1 ρ k1 v1 0))) k2 v2 0)) := by
                rcases List.mem_append.mp h with h | h
                · exact h
                · cases h
              have eb2 : fo_b (.inner y2 k2 v2 a2 .leaf) = ((if k2 = 14 then [v2] else []) ++ fo_b a2) ++ [] := rfl
              rw [eb2, List.append_nil] at hv2
              rcases cmb_p h with c | ⟨c1, c2, c3⟩
              · exact fdK_p a2 _ k2 v2 0 v x hr (fun c => hv2 (List.mem_append.mpr (Or.inr c))) (fun c => hv2 (List.mem_append.mpr (Or.inl (by rw [if_pos c.1, c.2]; exact List.mem_singleton.mpr rfl)))) c
              · rw [c2, hr] at c3
                cases c3
            | none =>
              rw [hnm] at hc
              by_cases hcm : (fcalm (fo_h K) && !fstd v (fo_h (fo_u K))) = true
              · rw [Bool.and_eq_true] at hcm
                have := hcm.2
                unfold fstd at this
                intro c
                rw [decide_eq_true c] at this
                cases this
              · rw [if_neg (by simpa using hcm)] at hc
                -- then the node itself would be its second operand
                have hn := congrArg fo_n hc
                have q1 := fo_nh K
                have q2 := fo_nh (fo_u K)
                have : fo_n (.inner z 14 v K .leaf) = fo_n K + 1 + 0 := rfl
                omega
          have := w1.1
          refine fo_w_st _ _ _ this (fun j w hw => ?_)
          have hw : w ∈ k_sc k v (S 0) (0 + 1) := hw
          unfold k_sc at hw
          rw [if_pos ⟨c14, by omega⟩] at hw
          rcases List.mem_cons.mp hw with q | q
          · exact Or.inr (by rw [q]; exact hno)
          · exact Or.inl q
        · refine fo_w_c w1.1 (fun _ => ?_)
          show k_sc k v (S 0) (0 + 1) = S 0
          unfold k_sc
          rw [if_neg (fun c => c14 c.1)]
      · rw [e]
        rw [e] at hl1
        refine fo_w_at0 _ hl1 (fo_w_c w2.1 (fun _ => ?_))
        show k_sc k v (S 0) (0 + 1 + 1) = S 0
        unfold k_sc
        rw [if_neg (fun c => by rw [hk] at c; exact absurd c.1 (by decide))]
    · rw [hl1]
      exact fdK_w b _ _ pk pv (i + 1) h6 hd'.2.1 (fun j w hw c => hs (j + 1) w hw (List.mem_append.mpr (Or.inr c)))
end FD
