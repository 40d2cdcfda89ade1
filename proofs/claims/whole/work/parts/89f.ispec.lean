/-! PUTTING FUNCTIONS WHERE THEY ARE CALLED: what comes out -/
def fo_ap : Fo → Fo → Fo
  | .inner z k v a b, c => .inner z k v a (fo_ap b c)
  | .leaf, c => c
/-- variables get numbers from s on -/
def fo_sh (s : Nat) : Fo → Fo
  | .inner z k v a b => .inner z k (if k = 2 ∨ k = 14 then v + nI s else v) (fo_sh s a) (fo_sh s b)
  | .leaf => .leaf
/-- lets of the arguments from variable i on, the body innermost -/
def nest : Nat → Fo → Fo → Fo
  | i, .inner z k v a r, B => .inner 0 14 (nI i) (.inner z k v a (nest (i + 1) r B)) .leaf
  | _, .leaf, B => B
/-- nodes, variables, replaced -/
abbrev IS : Type := Nat × Nat × Nat
section IN
variable (ok : Nat → Bool) (par : Int32 → Nat) (bd : Nat → Fo) (bV : Nat → Nat)
def iMay (g : Nat) (s : IS) : Bool := ok g && (decide (s.1 - 1 + par (nI g) + fo_n (bd g) ≤ 500) && decide (s.2.1 + bV g ≤ 120))
def iNew (g : Nat) (s : IS) : IS := (s.1 - 1 + par (nI g) + fo_n (bd g), s.2.1 + bV g, s.2.2 + 1)
def inF : Fo → IS → Fo × IS
  | .inner z k v a b, s =>
    if k = 15 ∧ iMay ok par bd bV v.toNatClampNeg (inF a s).2 = true then
      (fo_ap (nest (inF a s).2.2.1 (inF a s).1 (fo_sh (inF a s).2.2.1 (bd v.toNatClampNeg))) (inF b (iNew par bd bV v.toNatClampNeg (inF a s).2)).1, (inF b (iNew par bd bV v.toNatClampNeg (inF a s).2)).2)
    else (.inner z k v (inF a s).1 (inF b (inF a s).2).1, (inF b (inF a s).2).2)
  | .leaf, s => (.leaf, s)
end IN
theorem nodup_mapOn {f : Int32 → Int32} {l : List Int32} (h : ∀ x ∈ l, ∀ y ∈ l, f x = f y → x = y) (hd : l.Nodup) : (l.map f).Nodup := by
  unfold List.Nodup at hd ⊢
  rw [List.pairwise_map]
  exact hd.imp_of_mem (fun {a b} ha hb hab e => hab (h a ha b hb e))
theorem fo_n_ap : ∀ a b : Fo, fo_n (fo_ap a b) = fo_n a + fo_n b
  | .inner _ _ _ a r, b => by
    have := fo_n_ap r b
    simp only [fo_ap, fo_n]
    omega
  | .leaf, b => by simp [fo_ap, fo_n]
theorem fo_l_ap : ∀ a b : Fo, fo_l (fo_ap a b) = fo_l a + fo_l b
  | .inner _ _ _ a r, b => by
    have := fo_l_ap r b
    simp only [fo_ap, fo_l]
    omega
  | .leaf, b => by simp [fo_ap, fo_l]
theorem fo_p_ap : ∀ a b : Fo, fo_p (fo_ap a b) = fo_p a ++ fo_p b
  | .inner _ _ _ a r, b => by
    simp only [fo_ap, fo_p, fo_p_ap r b, List.cons_append, List.append_assoc]
  | .leaf, b => by simp [fo_ap, fo_p]
theorem fo_b_ap : ∀ a b : Fo, fo_b (fo_ap a b) = fo_b a ++ fo_b b
  | .inner _ _ _ a r, b => by
    simp only [fo_ap, fo_b, fo_b_ap r b, List.append_assoc]
  | .leaf, b => by simp [fo_ap, fo_b]
theorem fo_r_ap : ∀ (a b : Fo) (o : Nat), fo_r (fo_ap a b) o = fo_r a o ++ fo_r b (o + fo_n a)
  | .inner _ _ _ a r, b, o => by
    simp only [fo_ap, fo_r, fo_r_ap r b, List.cons_append, fo_n]
    rw [show o + fo_n a + 1 + fo_n r = o + (fo_n a + 1 + fo_n r) by omega]
  | .leaf, b, o => by simp [fo_ap, fo_r, fo_n]
theorem fo_n_sh (s : Nat) : ∀ F : Fo, fo_n (fo_sh s F) = fo_n F
  | .inner _ _ _ a b => by simp only [fo_sh, fo_n, fo_n_sh s a, fo_n_sh s b]
  | .leaf => rfl
theorem fo_l_sh (s : Nat) : ∀ F : Fo, fo_l (fo_sh s F) = fo_l F
  | .inner _ _ _ a b => by simp only [fo_sh, fo_l, fo_l_sh s b]
  | .leaf => rfl
theorem fo_r_sh (s : Nat) : ∀ (F : Fo) (o : Nat), fo_r (fo_sh s F) o = fo_r F o
  | .inner _ _ _ a b, o => by simp only [fo_sh, fo_r, fo_n_sh s a, fo_r_sh s b]
  | .leaf, _ => rfl
theorem fo_n_nest : ∀ (i : Nat) (a B : Fo), fo_n (nest i a B) = fo_n a + fo_l a + fo_n B
  | i, .inner z k v a r, B => by
    have := fo_n_nest (i + 1) r B
    simp only [nest, fo_n, fo_l]
    omega
  | i, .leaf, B => by simp [nest, fo_n, fo_l]
theorem fo_l_nest : ∀ (i : Nat) (a B : Fo), fo_l B = 1 → fo_l (nest i a B) = 1
  | i, .inner z k v a r, B, h => by simp [nest, fo_l]
  | i, .leaf, B, h => by simp [nest, h]
section IN2
variable {ok : Nat → Bool} {par : Int32 → Nat} {bd : Nat → Fo} {bV : Nat → Nat}
theorem inF_y {z : Nat} {k v : Int32} {a b : Fo} {s : IS} (h : k = 15 ∧ iMay ok par bd bV v.toNatClampNeg (inF ok par bd bV a s).2 = true) : inF ok par bd bV (.inner z k v a b) s = (fo_ap (nest (inF ok par bd bV a s).2.2.1 (inF ok par bd bV a s).1 (fo_sh (inF ok par bd bV a s).2.2.1 (bd v.toNatClampNeg))) (inF ok par bd bV b (iNew par bd bV v.toNatClampNeg (inF ok par bd bV a s).2)).1, (inF ok par bd bV b (iNew par bd bV v.toNatClampNeg (inF ok par bd bV a s).2)).2) := by
  rw [inF, if_pos h]
theorem inF_n {z : Nat} {k v : Int32} {a b : Fo} {s : IS} (h : ¬ (k = 15 ∧ iMay ok par bd bV v.toNatClampNeg (inF ok par bd bV a s).2 = true)) : inF ok par bd bV (.inner z k v a b) s = (.inner z k v (inF ok par bd bV a s).1 (inF ok par bd bV b (inF ok par bd bV a s).2).1, (inF ok par bd bV b (inF ok par bd bV a s).2).2) := by
  rw [inF, if_neg h]
theorem inF_l (hbd : ∀ g, ok g = true → fo_l (bd g) = 1) : ∀ (F : Fo) (s : IS), fo_l (inF ok par bd bV F s).1 = fo_l F
  | .leaf, _ => rfl
  | .inner z k v a b, s => by
    by_cases h : k = 15 ∧ iMay ok par bd bV v.toNatClampNeg (inF ok par bd bV a s).2 = true
    · have hok : ok v.toNatClampNeg = true := by
        have := h.2
        unfold iMay at this
        rw [Bool.and_eq_true] at this
        exact this.1
      rw [inF_y h]
      simp only [fo_l_ap]
      rw [fo_l_nest _ _ _ (by rw [fo_l_sh]; exact hbd _ hok), inF_l hbd b]
      simp only [fo_l]
      omega
    · rw [inF_n h]
      simp only [fo_l, inF_l hbd b]
/-- the count of nodes is kept: what is to come stands in it -/
theorem inF_s {n : Nat} (hn : n ≤ 24) (hbd : ∀ g, ok g = true → fo_l (bd g) = 1) : ∀ (F : Fo) (S : Nat → List Int32) (s : IS), fo_w n par F S → fo_n F ≤ s.1 → s.1 ≤ 500 → s.2.1 ≤ 120 → (inF ok par bd bV F s).2.1 + fo_n F = s.1 + fo_n (inF ok par bd bV F s).1 ∧ (inF ok par bd bV F s).2.1 ≤ 500 ∧ s.2.1 ≤ (inF ok par bd bV F s).2.2.1 ∧ (inF ok par bd bV F s).2.2.1 ≤ 120 ∧ s.2.2 ≤ (inF ok par bd bV F s).2.2.2
  | .leaf, _, s, _, h1, h2, h3 => ⟨rfl, h2, Nat.le_refl _, h3, Nat.le_refl _⟩
  | .inner z k v a b, S, s, hw, h1, h2, h3 => by
    obtain ⟨w1, w2, w3, w4, w5, w6⟩ := hw
    have en : fo_n (.inner z k v a b) = fo_n a + 1 + fo_n b := rfl
    obtain ⟨a1, a2, a3, a4, a5⟩ := inF_s hn hbd a _ s w5 (by omega) h2 h3
    by_cases h : k = 15 ∧ iMay ok par bd bV v.toNatClampNeg (inF ok par bd bV a s).2 = true
    · have hm := h.2
      unfold iMay at hm
      rw [Bool.and_eq_true, Bool.and_eq_true, decide_eq_true_eq, decide_eq_true_eq] at hm
      obtain ⟨m1, m2, m3⟩ := hm
      obtain ⟨g, eg, hgn⟩ := w4 h.1
      have hla := inF_l (par := par) (bV := bV) hbd a s
      have hpar : fo_l a = par (nI v.toNatClampNeg) := by
        rw [w2, h.1]
        unfold k_ar
        rw [if_neg (by decide), if_neg (by decide), if_neg (by decide), if_pos rfl]
        congr 1
        rw [eg]
        rw [nI_clamp (by omega)]
      obtain ⟨b1, b2, b3, b4, b5⟩ := inF_s hn hbd b _ (iNew par bd bV v.toNatClampNeg (inF ok par bd bV a s).2) w6 (by unfold iNew; dsimp only; omega) (by unfold iNew; exact m2) (by unfold iNew; exact m3)
      rw [inF_y h]
      dsimp only
      rw [fo_n_ap, fo_n_nest, fo_n_sh, hla]
      unfold iNew at b1 b2 b3 b4 b5 ⊢
      dsimp only at b1 b2 b3 b4 b5 ⊢
      refine ⟨by omega, b2, by omega, b4, by omega⟩
    · obtain ⟨b1, b2, b3, b4, b5⟩ := inF_s hn hbd b _ (inF ok par bd bV a s).2 w6 (by omega) a2 a4
      rw [inF_n h]
      dsimp only
      simp only [fo_n]
      exact ⟨by omega, b2, by omega, b4, by omega⟩
/-- a scope may grow -/
theorem fo_w_mo {n : Nat} : ∀ (F : Fo) (S S' : Nat → List Int32), fo_w n par F S → (∀ i, ∀ w ∈ S i, w ∈ S' i) → fo_w n par F S'
  | .leaf, _, _, _, _ => trivial
  | .inner z k v a b, S, S', h, hs => by
    obtain ⟨h1, h2, h3, h4, h5, h6⟩ := h
    refine ⟨h1, h2, fun c => hs 0 v (h3 c), h4, fo_w_mo a _ _ h5 (fun i w hw => ?_), fo_w_mo b _ _ h6 (fun i w hw => hs (i + 1) w hw)⟩
    unfold k_sc at hw ⊢
    by_cases c : k = 14 ∧ ¬ i = 0
    · rw [if_pos c] at hw ⊢
      rcases List.mem_cons.mp hw with q | q
      · rw [q]; exact List.mem_cons_self ..
      · exact List.mem_cons_of_mem _ (hs 0 w q)
    · rw [if_neg c] at hw ⊢
      exact hs 0 w hw
theorem fo_w_sh {n : Nat} (s : Nat) : ∀ (F : Fo) (S : Nat → List Int32), fo_w n par F S → fo_w n par (fo_sh s F) (fun i => (S i).map (· + nI s))
  | .leaf, _, _ => trivial
  | .inner z k v a b, S, h => by
    obtain ⟨h1, h2, h3, h4, h5, h6⟩ := h
    have ha := fo_w_sh s a _ h5
    have hb := fo_w_sh s b _ h6
    have har : k_ar par k (if k = 2 ∨ k = 14 then v + nI s else v) = k_ar par k v := by
      by_cases c : k = 2 ∨ k = 14
      · rw [if_pos c]
        rcases c with rfl | rfl <;> rfl
      · rw [if_neg c]
    refine ⟨h1, by rw [fo_l_sh, har]; exact h2, fun c => ?_, fun c => ?_, ?_, hb⟩
    · rw [if_pos (Or.inl c)]
      exact List.mem_map.mpr ⟨v, h3 c, rfl⟩
    · rw [if_neg (by rw [c]; decide)]
      exact h4 c
    · have e : (fun i => (k_sc k v (S 0) i).map (· + nI s)) = k_sc k (if k = 2 ∨ k = 14 then v + nI s else v) ((S 0).map (· + nI s)) := by
        funext i
        unfold k_sc
        by_cases c : k = 14 ∧ ¬ i = 0
        · rw [if_pos c, if_pos c, if_pos (Or.inr c.1)]
          rfl
        · rw [if_neg c, if_neg c]
      rw [← e]
      exact ha
theorem fo_w_ap {n : Nat} : ∀ (F G : Fo) (S : Nat → List Int32), fo_w n par F S → fo_w n par G (fun i => S (i + fo_l F)) → fo_w n par (fo_ap F G) S
  | .leaf, _, _, _, hg => hg
  | .inner z k v a b, G, S, h, hg => by
    obtain ⟨h1, h2, h3, h4, h5, h6⟩ := h
    refine ⟨h1, h2, h3, h4, h5, fo_w_ap b G _ h6 ?_⟩
    have e : (fun i => S (i + fo_l b + 1)) = (fun i => S (i + fo_l (.inner z k v a b))) := by
      funext i
      simp only [fo_l]
      rw [Nat.add_assoc]
    rw [e]
    exact hg
theorem fo_w_nest {n : Nat} {B : Fo} (hB1 : fo_l B = 1) : ∀ (a : Fo) (i : Nat) (S0 T : List Int32), fo_w n par a (fun _ => S0) → fo_w n par B (fun _ => T) → (∀ w ∈ T, w ∈ S0 ∨ ∃ j, i ≤ j ∧ j < i + fo_l a ∧ w = nI j) → fo_w n par (nest i a B) (fun _ => S0)
  | .leaf, i, S0, T, _, hB, hT => by
    refine fo_w_mo B _ _ hB (fun _ w hw => ?_)
    rcases hT w hw with q | ⟨j, j1, j2, j3⟩
    · exact q
    · simp only [fo_l] at j2
      omega
  | .inner z k v a r, i, S0, T, ha, hB, hT => by
    obtain ⟨h1, h2, h3, h4, h5, h6⟩ := ha
    have hr : fo_w n par r (fun _ => nI i :: S0) := fo_w_mo r _ _ h6 (fun _ w hw => List.mem_cons_of_mem _ hw)
    have hn := fo_w_nest hB1 r (i + 1) (nI i :: S0) T hr hB (fun w hw => by
      rcases hT w hw with q | ⟨j, j1, j2, j3⟩
      · exact Or.inl (List.mem_cons_of_mem _ q)
      · by_cases c : j = i
        · rw [j3, c]
          exact Or.inl (List.mem_cons_self ..)
        · simp only [fo_l] at j2
          exact Or.inr ⟨j, by omega, by omega, j3⟩)
    refine ⟨⟨14, by decide, by decide, rfl⟩, ?_, (fun c => absurd c (by decide)), (fun c => absurd c (by decide)), ⟨h1, h2, h3, h4, h5, ?_⟩, trivial⟩
    · show fo_l (nest (i + 1) r B) + 1 = 2
      rw [fo_l_nest _ _ _ hB1]
    · exact hn
/-- one tree looks at its first scope only -/
theorem fo_w_at0 {n : Nat} {S : Nat → List Int32} : ∀ (F : Fo), fo_l F = 1 → fo_w n par F (fun _ => S 0) → fo_w n par F S
  | .leaf, h, _ => by cases h
  | .inner z k v a .leaf, _, h => ⟨h.1, h.2.1, h.2.2.1, h.2.2.2.1, h.2.2.2.2.1, trivial⟩
  | .inner _ _ _ _ (.inner _ _ _ _ b), h, _ => by simp [fo_l] at h
theorem mem_b_nest {B : Fo} {w : Int32} : ∀ (a : Fo) (i : Nat), w ∈ fo_b (nest i a B) → w ∈ fo_b a ∨ w ∈ fo_b B ∨ ∃ j, i ≤ j ∧ j < i + fo_l a ∧ w = nI j
  | .leaf, i, h => Or.inr (Or.inl h)
  | .inner z k v a r, i, h => by
    have e : fo_b (nest i (.inner z k v a r) B) = [nI i] ++ ((if k = 14 then [v] else []) ++ fo_b a ++ fo_b (nest (i + 1) r B)) ++ [] := rfl
    rw [e, List.append_nil, List.mem_append, List.mem_append] at h
    simp only [fo_b, List.mem_append, fo_l]
    rcases h with h | h | h
    · exact Or.inr (Or.inr ⟨i, Nat.le_refl _, by omega, List.mem_singleton.mp h⟩)
    · exact Or.inl (Or.inl (List.mem_append.mp h))
    · rcases mem_b_nest r (i + 1) h with q | q | ⟨j, j1, j2, j3⟩
      · exact Or.inl (Or.inr q)
      · exact Or.inr (Or.inl q)
      · exact Or.inr (Or.inr ⟨j, by omega, by omega, j3⟩)
theorem nodup_nest {B : Fo} (hB : (fo_b B).Nodup) : ∀ (a : Fo) (i : Nat), i + fo_l a < 2 ^ 31 → (fo_b a).Nodup → (∀ w ∈ fo_b a, w ∉ fo_b B) → (∀ j, i ≤ j → j < i + fo_l a → nI j ∉ fo_b a ∧ nI j ∉ fo_b B) → (fo_b (nest i a B)).Nodup
  | .leaf, i, _, _, _, _ => hB
  | .inner z k v a r, i, hi, ha, hab, hj => by
    have e : fo_b (nest i (.inner z k v a r) B) = [nI i] ++ (((if k = 14 then [v] else []) ++ fo_b a) ++ fo_b (nest (i + 1) r B)) ++ [] := rfl
    have eb : fo_b (.inner z k v a r) = ((if k = 14 then [v] else []) ++ fo_b a) ++ fo_b r := rfl
    have el : fo_l (.inner z k v a r) = fo_l r + 1 := rfl
    rw [eb] at ha hab hj
    rw [el] at hi hj
    have ha' := List.nodup_append.mp ha
    rw [e, List.append_nil]
    have hr := nodup_nest hB r (i + 1) (by omega) ha'.2.1 (fun w hw => hab w (List.mem_append.mpr (Or.inr hw))) (fun j j1 j2 => by
      have := hj j (by omega) (by omega)
      exact ⟨fun q => this.1 (List.mem_append.mpr (Or.inr q)), this.2⟩)
    have hii := hj i (Nat.le_refl _) (by omega)
    refine List.nodup_append.mpr ⟨by simp, List.nodup_append.mpr ⟨ha'.1, hr, fun x hx y hy e => ?_⟩, fun x hx y hy e => ?_⟩
    · subst e
      rcases mem_b_nest r (i + 1) hy with q | q | ⟨j, j1, j2, j3⟩
      · exact ha'.2.2 x hx x q rfl
      · exact hab x (List.mem_append.mpr (Or.inl hx)) q
      · rw [j3] at hx
        exact (hj j (by omega) (by omega)).1 (List.mem_append.mpr (Or.inl hx))
    · have hx : x = nI i := List.mem_singleton.mp hx
      subst e
      rw [hx] at hy
      rcases List.mem_append.mp hy with q | q
      · exact hii.1 (List.mem_append.mpr (Or.inl q))
      · rcases mem_b_nest r (i + 1) q with q | q | ⟨j, j1, j2, j3⟩
        · exact hii.1 (List.mem_append.mpr (Or.inr q))
        · exact hii.2 q
        · have := (nI_eq (by omega) (by omega)).mp j3
          omega
theorem fo_b_sh (s : Nat) : ∀ F : Fo, fo_b (fo_sh s F) = (fo_b F).map (· + nI s)
  | .leaf => rfl
  | .inner z k v a b => by
    simp only [fo_sh, fo_b, fo_b_sh s a, fo_b_sh s b, List.map_append]
    by_cases c : k = 14
    · rw [if_pos c, if_pos c, if_pos (Or.inr c)]
      rfl
    · rw [if_neg c, if_neg c]
      rfl
/-- a body that may be put in a call's place -/
def bodyI (n : Nat) (par : Int32 → Nat) (g : Nat) (B : Fo) (V : Nat) : Prop := fo_l B = 1 ∧ fo_w n par B (fun _ => (List.range (par (nI g))).map nI) ∧ (fo_b B).Nodup ∧ par (nI g) ≤ V ∧ V ≤ 120 ∧ ∀ w ∈ fo_b B, ∃ j, w = nI j ∧ par (nI g) ≤ j ∧ j < V
theorem inF_w {n Vc : Nat} (hn : n ≤ 24) (hbd : ∀ g, ok g = true → bodyI n par g (bd g) (bV g)) : ∀ (F : Fo) (S : Nat → List Int32) (s : IS), fo_w n par F S → (fo_b F).Nodup → (∀ w ∈ fo_b F, ∃ j, w = nI j ∧ j < Vc) → Vc ≤ s.2.1 → s.2.1 ≤ 120 → fo_w n par (inF ok par bd bV F s).1 S ∧ (fo_b (inF ok par bd bV F s).1).Nodup ∧ (∀ w ∈ fo_b (inF ok par bd bV F s).1, w ∈ fo_b F ∨ ∃ j, w = nI j ∧ s.2.1 ≤ j ∧ j < (inF ok par bd bV F s).2.2.1) ∧ s.2.1 ≤ (inF ok par bd bV F s).2.2.1 ∧ (inF ok par bd bV F s).2.2.1 ≤ 120
  | .leaf, _, s, _, _, _, _, h => ⟨trivial, List.nodup_nil, (fun w hw => by cases hw), Nat.le_refl _, h⟩
  | .inner z k v a b, S, s, hw, hd, hv, hV, hs => by
    obtain ⟨w1, w2, w3, w4, w5, w6⟩ := hw
    have eb : fo_b (.inner z k v a b) = ((if k = 14 then [v] else []) ++ fo_b a) ++ fo_b b := rfl
    rw [eb] at hd hv
    have hd' := List.nodup_append.mp hd
    have hda := List.nodup_append.mp hd'.1
    have hbl : ∀ g, ok g = true → fo_l (bd g) = 1 := fun g hg => (hbd g hg).1
    have ma : ∀ w ∈ fo_b a, w ∈ ((if k = 14 then [v] else []) ++ fo_b a) ++ fo_b b := fun w hw => List.mem_append.mpr (Or.inl (List.mem_append.mpr (Or.inr hw)))
    have mb : ∀ w ∈ fo_b b, w ∈ ((if k = 14 then [v] else []) ++ fo_b a) ++ fo_b b := fun w hw => List.mem_append.mpr (Or.inr hw)
    obtain ⟨a1, a2, a3, a4, a5⟩ := inF_w hn hbd a _ s w5 hda.2.1 (fun w hw => hv w (ma w hw)) hV hs
    have hla := inF_l (par := par) (bV := bV) hbl a s
    by_cases h : k = 15 ∧ iMay ok par bd bV v.toNatClampNeg (inF ok par bd bV a s).2 = true
    · have hm := h.2
      unfold iMay at hm
      rw [Bool.and_eq_true, Bool.and_eq_true, decide_eq_true_eq, decide_eq_true_eq] at hm
      obtain ⟨m1, m2, m3⟩ := hm
      obtain ⟨g, eg, hgn⟩ := w4 h.1
      have ev : v.toNatClampNeg = g := by rw [eg, nI_clamp (by omega)]
      have h14 : ¬ k = 14 := by rw [h.1]; decide
      rw [ev] at m1 m2 m3
      obtain ⟨B1, B2, B3, B4, B5, B6⟩ := hbd g m1
      have hpar : fo_l (inF ok par bd bV a s).1 = par (nI g) := by
        rw [hla, w2, h.1, eg]
        rfl
      have ksc : k_sc k v (S 0) = fun _ => S 0 := by
        funext i
        unfold k_sc
        rw [if_neg (fun c => h14 c.1)]
      rw [ksc] at a1
      obtain ⟨q, eq⟩ : ∃ q, (inF ok par bd bV a s).2.2.1 = q := ⟨_, rfl⟩
      rw [eq] at m3 a3 a4 a5
      have sv : (iNew par bd bV g (inF ok par bd bV a s).2).2.1 = q + bV g := by unfold iNew; rw [← eq]
      obtain ⟨b1, b2, b3, b4, b5⟩ := inF_w hn hbd b _ (iNew par bd bV g (inF ok par bd bV a s).2) w6 hd'.2.1 (fun w hw => hv w (mb w hw)) (by rw [sv]; omega) (by rw [sv]; omega)
      rw [sv] at b3 b4
      rw [inF_y h, ev, eq]
      dsimp only
      have hBs : ∀ w ∈ fo_b (fo_sh q (bd g)), ∃ j, w = nI j ∧ q + par (nI g) ≤ j ∧ j < q + bV g := by
        intro w hw
        rw [fo_b_sh] at hw
        obtain ⟨w0, h0, e0⟩ := List.mem_map.mp hw
        obtain ⟨j, j1, j2, j3⟩ := B6 w0 h0
        exact ⟨j + q, by rw [← e0, j1, nI_add], by omega, by omega⟩
      have hN : (fo_b (nest q (inF ok par bd bV a s).1 (fo_sh q (bd g)))).Nodup := by
        refine nodup_nest ?_ _ q (by omega) a2 (fun w hw hw2 => ?_) (fun j j1 j2 => ⟨fun c => ?_, fun c => ?_⟩)
        · rw [fo_b_sh]
          refine nodup_mapOn ?_ B3
          intro x hx y hy e
          obtain ⟨j, j1, _, j3⟩ := B6 x hx
          obtain ⟨j', j1', _, j3'⟩ := B6 y hy
          rw [j1, j1', nI_add, nI_add] at e
          have := (nI_eq (by omega) (by omega)).mp e
          rw [j1, j1', show j = j' by omega]
        · obtain ⟨j, j1, j2, j3⟩ := hBs w hw2
          rcases a3 w hw with c | ⟨j', j1', j2', j3'⟩
          · obtain ⟨j', j1', j2'⟩ := hv w (ma w c)
            rw [j1] at j1'
            have := (nI_eq (by omega) (by omega)).mp j1'
            omega
          · rw [j1] at j1'
            have := (nI_eq (by omega) (by omega)).mp j1'
            omega
        · rcases a3 _ c with c | ⟨j', j1', j2', j3'⟩
          · obtain ⟨j', j1', j2'⟩ := hv _ (ma _ c)
            have := (nI_eq (by omega) (by omega)).mp j1'
            omega
          · have := (nI_eq (by omega) (by omega)).mp j1'
            omega
        · obtain ⟨j', j1', j2', j3'⟩ := hBs _ c
          have := (nI_eq (by omega) (by omega)).mp j1'
          omega
      have hmem : ∀ w ∈ fo_b (nest q (inF ok par bd bV a s).1 (fo_sh q (bd g))), w ∈ fo_b a ∨ ∃ j, w = nI j ∧ s.2.1 ≤ j ∧ j < q + bV g := by
        intro w hw
        rcases mem_b_nest _ q hw with c | c | ⟨j, j1, j2, j3⟩
        · rcases a3 w c with c | ⟨j, j1, j2, j3⟩
          · exact Or.inl c
          · exact Or.inr ⟨j, j1, j2, by omega⟩
        · obtain ⟨j, j1, j2, j3⟩ := hBs w c
          exact Or.inr ⟨j, j1, by omega, j3⟩
        · exact Or.inr ⟨j, j3, by omega, by omega⟩
      refine ⟨fo_w_ap _ _ _ ?_ ?_, ?_, fun w hw => ?_, by omega, b5⟩
      · have hwB := fo_w_sh q (bd g) _ B2
        have := fo_w_nest (by rw [fo_l_sh]; exact B1) (inF ok par bd bV a s).1 q (S 0) _ a1 hwB (fun w hw => by
          obtain ⟨w0, h0, e0⟩ := List.mem_map.mp hw
          obtain ⟨j, h1, e1⟩ := List.mem_map.mp h0
          have h1 := List.mem_range.mp h1
          exact Or.inr ⟨q + j, by omega, by omega, by rw [← e0, ← e1, nI_add, Nat.add_comm]⟩)
        refine fo_w_at0 _ (fo_l_nest _ _ _ (by rw [fo_l_sh]; exact B1)) this
      · rw [fo_l_nest _ _ _ (by rw [fo_l_sh]; exact B1)]
        exact b1
      · rw [fo_b_ap]
        refine List.nodup_append.mpr ⟨hN, b2, fun x hx y hy e => ?_⟩
        subst e
        rcases hmem x hx with c | ⟨j, j1, j2, j3⟩
        · rcases b3 x hy with c2 | ⟨j', j1', j2', j3'⟩
          · exact hd'.2.2 x (List.mem_append.mpr (Or.inr c)) x c2 rfl
          · obtain ⟨j'', e1, e2⟩ := hv x (ma x c)
            rw [e1] at j1'
            have := (nI_eq (by omega) (by omega)).mp j1'
            omega
        · rcases b3 x hy with c2 | ⟨j', j1', j2', j3'⟩
          · obtain ⟨j'', e1, e2⟩ := hv x (mb x c2)
            rw [e1] at j1
            have := (nI_eq (by omega) (by omega)).mp j1
            omega
          · rw [j1] at j1'
            have := (nI_eq (by omega) (by omega)).mp j1'
            omega
      · rw [fo_b_ap, List.mem_append] at hw
        rw [eb]
        rcases hw with hw | hw
        · rcases hmem w hw with c | ⟨j, j1, j2, j3⟩
          · exact Or.inl (ma w c)
          · exact Or.inr ⟨j, j1, j2, by omega⟩
        · rcases b3 w hw with c | ⟨j, j1, j2, j3⟩
          · exact Or.inl (mb w c)
          · exact Or.inr ⟨j, j1, by omega, j3⟩
    · obtain ⟨b1, b2, b3, b4, b5⟩ := inF_w hn hbd b _ (inF ok par bd bV a s).2 w6 hd'.2.1 (fun w hw => hv w (mb w hw)) (by omega) a5
      rw [inF_n h]
      dsimp only
      have eb' : fo_b (.inner z k v (inF ok par bd bV a s).1 (inF ok par bd bV b (inF ok par bd bV a s).2).1) = ((if k = 14 then [v] else []) ++ fo_b (inF ok par bd bV a s).1) ++ fo_b (inF ok par bd bV b (inF ok par bd bV a s).2).1 := rfl
      have m14 : ∀ w ∈ (if k = 14 then [v] else []), w ∈ ((if k = 14 then [v] else []) ++ fo_b a) ++ fo_b b := fun w hw => List.mem_append.mpr (Or.inl (List.mem_append.mpr (Or.inl hw)))
      refine ⟨⟨w1, by rw [hla]; exact w2, w3, w4, a1, b1⟩, ?_, fun w hw => ?_, by omega, b5⟩
      · rw [eb']
        refine List.nodup_append.mpr ⟨List.nodup_append.mpr ⟨hda.1, a2, fun x hx y hy e => ?_⟩, b2, fun x hx y hy e => ?_⟩
        · subst e
          rcases a3 x hy with c | ⟨j, j1, j2, j3⟩
          · exact hda.2.2 x hx x c rfl
          · obtain ⟨j'', e1, e2⟩ := hv x (m14 x hx)
            rw [e1] at j1
            have := (nI_eq (by omega) (by omega)).mp j1
            omega
        · subst e
          have hx' : x ∈ (if k = 14 then [v] else []) ++ fo_b a ∨ ∃ j, x = nI j ∧ s.2.1 ≤ j ∧ j < (inF ok par bd bV a s).2.2.1 := by
            rcases List.mem_append.mp hx with c | c
            · exact Or.inl (List.mem_append.mpr (Or.inl c))
            · rcases a3 x c with c | c
              · exact Or.inl (List.mem_append.mpr (Or.inr c))
              · exact Or.inr c
          rcases hx' with c | ⟨j, j1, j2, j3⟩
          · rcases b3 x hy with c2 | ⟨j', j1', j2', j3'⟩
            · exact hd'.2.2 x c x c2 rfl
            · obtain ⟨j'', e1, e2⟩ := hv x (List.mem_append.mpr (Or.inl c))
              rw [e1] at j1'
              have := (nI_eq (by omega) (by omega)).mp j1'
              omega
          · rcases b3 x hy with c2 | ⟨j', j1', j2', j3'⟩
            · obtain ⟨j'', e1, e2⟩ := hv x (mb x c2)
              rw [e1] at j1
              have := (nI_eq (by omega) (by omega)).mp j1
              omega
            · rw [j1] at j1'
              have := (nI_eq (by omega) (by omega)).mp j1'
              omega
      · rw [eb', List.mem_append, List.mem_append] at hw
        rw [eb]
        rcases hw with (hw | hw) | hw
        · exact Or.inl (m14 w hw)
        · rcases a3 w hw with c | ⟨j, j1, j2, j3⟩
          · exact Or.inl (ma w c)
          · exact Or.inr ⟨j, j1, j2, by omega⟩
        · rcases b3 w hw with c | ⟨j, j1, j2, j3⟩
          · exact Or.inl (mb w c)
          · exact Or.inr ⟨j, j1, by omega, j3⟩
end IN2
