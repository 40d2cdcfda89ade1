/-! THE ORDER: what looking depth first gives -/
def cq (F : Fo) : List Nat := (fo_g F).map Int32.toNatClampNeg
theorem fo_cs_q : ∀ (F : Fo) (cs : List Nat), fo_cs F cs = (cq F).foldl (fun cs g => gaA g cs) cs
  | .inner z k v a b, cs => by
    unfold fo_cs cq fo_g
    rw [fo_cs_q a, fo_cs_q b]
    unfold cq
    by_cases e : k = 15
    · rw [if_pos e, if_pos e, List.map_append, List.map_append, List.foldl_append, List.foldl_append]
      rfl
    · rw [if_neg e, if_neg e, List.append_nil, List.map_append, List.foldl_append]
  | .leaf, cs => rfl
theorem gaA_ok {cs : List Nat} {g : Nat} (hd : cs.Nodup) (h : ∀ x ∈ cs, x < 24) (hg : g < 24) : (gaA g cs).Nodup ∧ (∀ x ∈ gaA g cs, x < 24) ∧ (∀ x, x ∈ gaA g cs ↔ x ∈ cs ∨ x = g) ∧ (g ∉ cs → gaA g cs = cs ++ [g]) ∧ (g ∈ cs → gaA g cs = cs) := by
  by_cases e : g ∈ cs
  · have : gaA g cs = cs := by unfold gaA; rw [if_pos (Or.inl e)]
    rw [this]
    exact ⟨hd, h, fun x => ⟨Or.inl, fun z => z.elim id (fun z => by rw [z]; exact e)⟩, fun z => absurd e z, fun _ => rfl⟩
  · have hn : (cs ++ [g]).Nodup := by
      rw [List.nodup_append]
      refine ⟨hd, by simp, fun a ha b hb' e2 => ?_⟩
      rw [List.mem_singleton.mp hb'] at e2
      rw [e2] at ha
      exact e ha
    have hl : ∀ x ∈ cs ++ [g], x < 24 := fun x hx => by
      rcases List.mem_append.mp hx with hx | hx
      · exact h x hx
      · rw [List.mem_singleton.mp hx]; exact hg
    have := pig 24 _ hn hl
    rw [List.length_append] at this
    simp only [List.length_cons, List.length_nil] at this
    have e2 : gaA g cs = cs ++ [g] := by
      unfold gaA
      rw [if_neg (fun z => z.elim e (fun z => by omega))]
    rw [e2]
    exact ⟨hn, hl, fun x => by simp, fun _ => rfl, fun z => absurd z e⟩
theorem gaF_ok : ∀ (L cs : List Nat), (∀ x ∈ L, x < 24) → cs.Nodup → (∀ x ∈ cs, x < 24) → (L.foldl (fun cs g => gaA g cs) cs).Nodup ∧ (∀ x ∈ L.foldl (fun cs g => gaA g cs) cs, x < 24) ∧ ∀ x, x ∈ L.foldl (fun cs g => gaA g cs) cs ↔ x ∈ cs ∨ x ∈ L
  | [], cs, _, hd, h => ⟨hd, h, fun x => by simp⟩
  | g :: L, cs, hL, hd, h => by
    obtain ⟨a1, a2, a3, _, _⟩ := gaA_ok (g := g) hd h (hL g List.mem_cons_self)
    obtain ⟨b1, b2, b3⟩ := gaF_ok L (gaA g cs) (fun x hx => hL x (List.mem_cons_of_mem _ hx)) a1 a2
    refine ⟨b1, b2, fun x => ?_⟩
    rw [List.foldl_cons, b3, a3, List.mem_cons]
    constructor
    · rintro ((z | z) | z)
      · exact Or.inl z
      · exact Or.inr (Or.inl z)
      · exact Or.inr (Or.inr z)
    · rintro (z | z | z)
      · exact Or.inl (Or.inl z)
      · exact Or.inl (Or.inr z)
      · exact Or.inr z
theorem dfs_in {cs : Nat → List Nat} {k g : Nat} {s : List Nat × List Nat} (h : g ∈ s.1) : dfs cs k g s = s := by
  cases k with
  | zero => rfl
  | succ k => unfold dfs; rw [if_pos h]
def SIv (n : Nat) (s : List Nat × List Nat) : Prop := s.1.Nodup ∧ (∀ x ∈ s.1, x < n) ∧ s.2.Nodup ∧ ∀ x ∈ s.2, x ∈ s.1
def OPr (cs : Nat → List Nat) (com : Nat → Nat → Bool) (l : List Nat) : Prop := ∀ (i h : Nat), l[i]? = some h → ∀ g ∈ cs h, com g g = true ∨ ∃ j : Nat, j < i ∧ l[j]? = some g
/-- what a look gives -/
def DRes (n : Nat) (cs : Nat → List Nat) (com : Nat → Nat → Bool) (s s' : List Nat × List Nat) : Prop := SIv n s' ∧ (∃ w, s'.1 = w ++ s.1) ∧ (∃ w, s'.2 = s.2 ++ w) ∧ (∀ x ∈ s.1, x ∈ s'.2 → x ∈ s.2) ∧ (∀ x ∈ s'.1, x ∈ s.1 ∨ x ∈ s'.2) ∧ OPr cs com s'.2
theorem full {n : Nat} {l : List Nat} (hd : l.Nodup) (h : ∀ x ∈ l, x < n) (hl : n ≤ l.length) {f : Nat} (hf : f < n) : f ∈ l := by
  by_cases e : f ∈ l
  · exact e
  · have hn : (f :: l).Nodup := List.nodup_cons.mpr ⟨e, hd⟩
    have := pig n (f :: l) hn (fun x hx => by
      rcases List.mem_cons.mp hx with hx | hx
      · rw [hx]; exact hf
      · exact h x hx)
    rw [List.length_cons] at this
    omega
section DFA
variable {n : Nat} {cs : Nat → List Nat} {com : Nat → Nat → Bool}
theorem dfs_all (hcs : ∀ f, f < n → ∀ g ∈ cs f, g < n) (hdir : ∀ f g, f < n → g ∈ cs f → com f g = true) (htr : ∀ a b c, b < n → com a b = true → com b c = true → com a c = true) : ∀ (k f : Nat) (s : List Nat × List Nat), f < n → SIv n s → n ≤ k + s.1.length → (∀ x ∈ s.1, x ∉ s.2 → com x f = true) → OPr cs com s.2 → DRes n cs com s (dfs cs k f s) ∧ f ∈ (dfs cs k f s).1
  | 0, f, s, hf, hS, hk, _, hO => by
    have := full hS.1 hS.2.1 (by omega) hf
    exact ⟨⟨hS, ⟨[], rfl⟩, ⟨[], (List.append_nil _).symm⟩, fun x _ h => h, fun x h => Or.inl h, hO⟩, this⟩
  | k + 1, f, s, hf, hS, hk, hA, hO => by
    by_cases e : f ∈ s.1
    · rw [dfs_in e]
      exact ⟨⟨hS, ⟨[], rfl⟩, ⟨[], (List.append_nil _).symm⟩, fun x _ h => h, fun x h => Or.inl h, hO⟩, e⟩
    · have hS0 : SIv n (f :: s.1, s.2) := ⟨List.nodup_cons.mpr ⟨e, hS.1⟩, fun x hx => by
        rcases List.mem_cons.mp hx with hx | hx
        · rw [hx]; exact hf
        · exact hS.2.1 x hx, hS.2.2.1, fun x hx => List.mem_cons_of_mem _ (hS.2.2.2 x hx)⟩
      have hfs : f ∉ s.2 := fun z => e (hS.2.2.2 f z)
      have hA0 : ∀ g ∈ cs f, ∀ x, x ∈ f :: s.1 → x ∉ s.2 → com x g = true := fun g hg x hx hxs => by
        rcases List.mem_cons.mp hx with hx | hx
        · rw [hx]; exact hdir f g hf hg
        · exact htr x f g hf (hA x hx hxs) (hdir f g hf hg)
      have fold : ∀ (l : List Nat) (r : List Nat × List Nat), (∀ g ∈ l, g ∈ cs f) → SIv n r → n ≤ k + r.1.length → (∀ x ∈ r.1, x ∉ r.2 → x ∈ f :: s.1 ∧ x ∉ s.2) → OPr cs com r.2 → DRes n cs com r (l.foldl (fun s g => dfs cs k g s) r) ∧ (∀ x ∈ (l.foldl (fun s g => dfs cs k g s) r).1, x ∉ (l.foldl (fun s g => dfs cs k g s) r).2 → x ∈ f :: s.1 ∧ x ∉ s.2) ∧ ∀ g ∈ l, g ∈ (l.foldl (fun s g => dfs cs k g s) r).1 := by
        intro l
        induction l with
        | nil => exact fun r _ hr _ hp ho => ⟨⟨hr, ⟨[], rfl⟩, ⟨[], (List.append_nil _).symm⟩, fun x _ h => h, fun x h => Or.inl h, ho⟩, hp, fun g hg => by cases hg⟩
        | cons g l ih =>
          intro r hl hr hkr hp ho
          have hg := hl g List.mem_cons_self
          obtain ⟨⟨d1, ⟨w1, d2⟩, ⟨w2, d3⟩, d4, d5, d6⟩, d7⟩ := dfs_all hcs hdir htr k g r (hcs f hf g hg) hr hkr (fun x hx hxr => hA0 g hg x (hp x hx hxr).1 (hp x hx hxr).2) ho
          have hp1 : ∀ x ∈ (dfs cs k g r).1, x ∉ (dfs cs k g r).2 → x ∈ f :: s.1 ∧ x ∉ s.2 := fun x hx hxr => by
            rcases d5 x hx with z | z
            · exact hp x z (fun y => hxr (by rw [d3]; exact List.mem_append_left _ y))
            · exact absurd z hxr
          obtain ⟨⟨e1, ⟨v1, e2⟩, ⟨v2, e3⟩, e4, e5, e6⟩, e7, e8⟩ := ih (dfs cs k g r) (fun x hx => hl x (List.mem_cons_of_mem _ hx)) d1 (by rw [d2, List.length_append]; omega) hp1 d6
          refine ⟨⟨e1, ⟨v1 ++ w1, by rw [List.foldl_cons, e2, d2, List.append_assoc]⟩, ⟨w2 ++ v2, by rw [List.foldl_cons, e3, d3, List.append_assoc]⟩, fun x hx hx2 => ?_, fun x hx => ?_, e6⟩, e7, fun x hx => ?_⟩
          · exact d4 x hx (e4 x (by rw [d2]; exact List.mem_append_right _ hx) hx2)
          · rcases e5 x hx with z | z
            · rcases d5 x z with y | y
              · exact Or.inl y
              · exact Or.inr (by rw [List.foldl_cons, e3]; exact List.mem_append_left _ y)
            · exact Or.inr z
          · rcases List.mem_cons.mp hx with hx | hx
            · rw [hx, List.foldl_cons, e2]
              exact List.mem_append_right _ d7
            · exact e8 x hx
      obtain ⟨⟨r1, ⟨w1, r2⟩, ⟨w2, r3⟩, r4, r5, r6⟩, r7, r8⟩ := fold (cs f) (f :: s.1, s.2) (fun g hg => hg) hS0 (by rw [List.length_cons]; omega) (fun x hx hxs => ⟨hx, hxs⟩) hO
      unfold dfs
      rw [if_neg e]
      generalize (cs f).foldl (fun s g => dfs cs k g s) (f :: s.1, s.2) = r at r1 r2 r3 r4 r5 r6 r7 r8 ⊢
      have hfr : f ∉ r.2 := fun z => hfs (r4 f List.mem_cons_self z)
      have hfr1 : f ∈ r.1 := by rw [r2]; exact List.mem_append_right _ List.mem_cons_self
      have hnd : (r.2 ++ [f]).Nodup := by
        rw [List.nodup_append]
        refine ⟨r1.2.2.1, by simp, fun a ha b hb' e2 => ?_⟩
        rw [List.mem_singleton.mp hb'] at e2
        rw [e2] at ha
        exact hfr ha
      refine ⟨⟨⟨r1.1, r1.2.1, hnd, fun x hx => ?_⟩, ⟨w1 ++ [f], by show r.1 = _; rw [r2, List.append_assoc]; rfl⟩, ⟨w2 ++ [f], by show r.2 ++ [f] = _; rw [r3, List.append_assoc]⟩, fun x hx hx2 => ?_, fun x hx => ?_, fun i h hi g hg => ?_⟩, hfr1⟩
      · rcases List.mem_append.mp hx with hx | hx
        · exact r1.2.2.2 x hx
        · rw [List.mem_singleton.mp hx]; exact hfr1
      · rcases List.mem_append.mp hx2 with hx2 | hx2
        · exact r4 x (List.mem_cons_of_mem _ hx) hx2
        · rw [List.mem_singleton.mp hx2] at hx
          exact absurd hx e
      · rcases r5 x hx with z | z
        · rcases List.mem_cons.mp z with z | z
          · exact Or.inr (by rw [z]; exact List.mem_append_right _ (List.mem_singleton.mpr rfl))
          · exact Or.inl z
        · exact Or.inr (List.mem_append_left _ z)
      · have hi : (r.2 ++ [f])[i]? = some h := hi
        by_cases hil : i < r.2.length
        · rw [List.getElem?_append_left hil] at hi
          rcases r6 i h hi g hg with z | ⟨j, j1, j2⟩
          · exact Or.inl z
          · exact Or.inr ⟨j, j1, by show (r.2 ++ [f])[j]? = _; rw [List.getElem?_append_left (by omega)]; exact j2⟩
        · rw [List.getElem?_append_right (by omega)] at hi
          have hi0 : i - r.2.length = 0 := by
            by_cases z : i - r.2.length = 0
            · exact z
            · rw [List.getElem?_eq_none (by simp; omega)] at hi; cases hi
          rw [hi0] at hi
          have hi : f = h := by simpa using hi
          subst hi
          have hgr := r8 g hg
          by_cases z : g ∈ r.2
          · obtain ⟨j, hj⟩ := List.getElem?_of_mem z
            have := (List.getElem?_eq_some_iff.mp hj).1
            exact Or.inr ⟨j, by omega, by show (r.2 ++ [f])[j]? = _; rw [List.getElem?_append_left this]; exact hj⟩
          · obtain ⟨y1, y2⟩ := r7 g hgr z
            rcases List.mem_cons.mp y1 with y1 | y1
            · have := hdir f g hf hg
              rw [y1] at this ⊢
              exact Or.inl this
            · exact Or.inl (htr g f g hf (hA g y1 y2) (hdir f g hf hg))
/-- the whole order -/
theorem ordS_ok (hn : n ≤ 24) (hcs : ∀ f, f < n → ∀ g ∈ cs f, g < n) (hdir : ∀ f g, f < n → g ∈ cs f → com f g = true) (htr : ∀ a b c, b < n → com a b = true → com b c = true → com a c = true) : (ordS cs n).2.Nodup ∧ (∀ x ∈ (ordS cs n).2, x < n) ∧ (∀ f, f < n → f ∈ (ordS cs n).2) ∧ OPr cs com (ordS cs n).2 ∧ (ordS cs n).2.length = n := by
  have fold : ∀ (l : List Nat) (r : List Nat × List Nat), (∀ f ∈ l, f < n) → SIv n r → (∀ x ∈ r.1, x ∈ r.2) → OPr cs com r.2 → SIv n (l.foldl (fun s f => dfs cs 24 f s) r) ∧ (∀ x ∈ (l.foldl (fun s f => dfs cs 24 f s) r).1, x ∈ (l.foldl (fun s f => dfs cs 24 f s) r).2) ∧ OPr cs com (l.foldl (fun s f => dfs cs 24 f s) r).2 ∧ (∀ f, f ∈ l ∨ f ∈ r.1 → f ∈ (l.foldl (fun s f => dfs cs 24 f s) r).1) := by
    intro l
    induction l with
    | nil => exact fun r _ hr hp ho => ⟨hr, hp, ho, fun f hf => hf.elim (fun z => by cases z) id⟩
    | cons g l ih =>
      intro r hl hr hp ho
      obtain ⟨⟨d1, ⟨w1, d2⟩, ⟨w2, d3⟩, d4, d5, d6⟩, d7⟩ := dfs_all hcs hdir htr 24 g r (hl g List.mem_cons_self) hr (by omega) (fun x hx hxr => absurd (hp x hx) hxr) ho
      obtain ⟨e1, e2, e3, e4⟩ := ih (dfs cs 24 g r) (fun x hx => hl x (List.mem_cons_of_mem _ hx)) d1 (fun x hx => (d5 x hx).elim (fun z => by rw [d3]; exact List.mem_append_left _ (hp x z)) id) d6
      refine ⟨e1, e2, e3, fun f hf => e4 f ?_⟩
      rcases hf with hf | hf
      · rcases List.mem_cons.mp hf with hf | hf
        · rw [hf]; exact Or.inr d7
        · exact Or.inl hf
      · exact Or.inr (by rw [d2]; exact List.mem_append_right _ hf)
  obtain ⟨e1, e2, e3, e4⟩ := fold (List.range n) ([], []) (fun f hf => List.mem_range.mp hf) ⟨List.nodup_nil, fun x hx => (by cases hx), List.nodup_nil, fun x hx => (by cases hx)⟩ (fun x hx => (by cases hx)) (fun i h hi => (by cases hi))
  have hall : ∀ f, f < n → f ∈ (ordS cs n).2 := fun f hf => e2 f (e4 f (Or.inl (List.mem_range.mpr hf)))
  have hlt : ∀ x ∈ (ordS cs n).2, x < n := fun x hx => e1.2.1 x (e1.2.2.2 x hx)
  refine ⟨e1.2.2.1, hlt, hall, e3, ?_⟩
  have h1 := pig n _ e1.2.2.1 hlt
  have h2 : n ≤ (ordS cs n).2.length := by
    have hlr : (List.range n).length ≤ (ordS cs n).2.length := by
      have aux : ∀ (a b : List Nat), a.Nodup → (∀ x ∈ a, x ∈ b) → a.length ≤ b.length := by
        intro a
        induction a with
        | nil => exact fun b _ _ => Nat.zero_le _
        | cons x a ih =>
          intro b hd hs
          obtain ⟨h1, h2⟩ := List.nodup_cons.mp hd
          have hx := hs x List.mem_cons_self
          have := ih (b.erase x) h2 (fun y hy => by
            have hne : y ≠ x := fun z => h1 (by rw [← z]; exact hy)
            exact (List.mem_erase_of_ne hne).mpr (hs y (List.mem_cons_of_mem _ hy)))
          rw [List.length_erase_of_mem hx] at this
          have : 0 < b.length := List.length_pos_of_mem hx
          rw [List.length_cons]
          omega
      exact aux _ _ List.nodup_range (fun x hx => hall x (List.mem_range.mp hx))
    rw [List.length_range] at hlr
    exact hlr
  exact Nat.le_antisymm h1 h2
end DFA
