/-! CLOSURE, AND BOUNDS AS LEAST SOLUTIONS -/
def clS (R : Nat → Nat → Bool) (m : Nat) : Nat → Nat → Bool := fun a b => R a b || (R a m && R m b)
def clF (R : Nat → Nat → Bool) : Nat → (Nat → Nat → Bool)
  | 0 => R
  | m + 1 => clS (clF R m) m
theorem clS_m {R : Nat → Nat → Bool} {m b : Nat} : clS R m m b = R m b := by
  unfold clS
  cases R m b <;> cases R m m <;> rfl
theorem clS_r {R : Nat → Nat → Bool} {m a : Nat} : clS R m a m = R a m := by
  unfold clS
  cases R a m <;> cases R m m <;> rfl
theorem clF_in {R : Nat → Nat → Bool} {a b : Nat} (h : R a b = true) : ∀ n, clF R n a b = true
  | 0 => h
  | n + 1 => by
    show clS (clF R n) n a b = true
    unfold clS
    rw [clF_in h n]; rfl
theorem clF_tr {R : Nat → Nat → Bool} : ∀ (n k a b : Nat), k < n → clF R n a k = true → clF R n k b = true → clF R n a b = true
  | n + 1, k, a, b, hk, h1, h2 => by
    have ih := fun a b k hk => clF_tr (R := R) n k a b hk
    have h1 : clS (clF R n) n a k = true := h1
    have h2 : clS (clF R n) n k b = true := h2
    show clS (clF R n) n a b = true
    generalize hX : clF R n = X at h1 h2 ih
    by_cases c : k = n
    · subst c
      rw [clS_r] at h1
      rw [clS_m] at h2
      unfold clS
      rw [h1, h2]; simp
    · have hk : k < n := by omega
      unfold clS at h1 h2 ⊢
      simp only [Bool.or_eq_true, Bool.and_eq_true] at h1 h2 ⊢
      rcases h1 with h1 | ⟨h1, h3⟩ <;> rcases h2 with h2 | ⟨h2, h4⟩
      · exact Or.inl (ih a b k hk h1 h2)
      · exact Or.inr ⟨ih a n k hk h1 h2, h4⟩
      · exact Or.inr ⟨h1, ih n b k hk h3 h2⟩
      · exact Or.inr ⟨h1, h4⟩
/-- steps to oneself change nothing between two -/
theorem clF_off {R R2 : Nat → Nat → Bool} (h : ∀ a b, a ≠ b → R2 a b = R a b) : ∀ (n a b : Nat), a ≠ b → clF R2 n a b = clF R n a b
  | 0, a, b, hab => h a b hab
  | n + 1, a, b, hab => by
    have ih := fun a b => clF_off h n a b
    show clS (clF R2 n) n a b = clS (clF R n) n a b
    by_cases c : a = n
    · subst c; rw [clS_m, clS_m, ih _ _ hab]
    · by_cases c2 : b = n
      · subst c2; rw [clS_r, clS_r, ih _ _ hab]
      · unfold clS
        rw [ih a b hab, ih a n c, ih n b (Ne.symm c2)]
theorem clF_cg {R R2 : Nat → Nat → Bool} {n : Nat} (h : ∀ a b, a < n → b < n → R2 a b = R a b) : ∀ (m a b : Nat), m ≤ n → a < n → b < n → clF R2 m a b = clF R m a b
  | 0, a, b, _, ha, hb => h a b ha hb
  | m + 1, a, b, hm, ha, hb => by
    have ih := fun a b => clF_cg h m a b (by omega)
    show clS (clF R2 m) m a b = clS (clF R m) m a b
    unfold clS
    rw [ih a b ha hb, ih a m ha (by omega), ih m b (by omega) hb]
def bEnd (n : Nat) (cl R : Nat → Nat → Bool) (f : Nat) : Bool := (List.range n).any (fun g => cl f g && (decide (g = f) || R g f))
def bNo (n : Nat) (cl R : Nat → Nat → Bool) (f : Nat) : Bool := bEnd n cl R f || (List.range n).any (fun e => bEnd n cl R e && R f e)
abbrev bRe (n : Nat) (cl tb : Nat → Nat → Bool) : Nat → Nat → Bool := clF (fun f g => cl f g || tb f g) n
/-- no bound -/
abbrev bNon (n : Nat) (cl tb : Nat → Nat → Bool) : Nat → Bool := bNo n cl (bRe n cl tb)
/-- enough for each function that has a bound -/
def bPre (n : Nat) (cl tb : Nat → Nat → Bool) (fr b : Nat → Nat) : Prop := ∀ f, f < n → bNon n cl tb f = false → fr f ≤ b f ∧ ∀ g, g < n → (cl f g = true → fr f + b g ≤ b f) ∧ (tb f g = true → b g ≤ b f)
/-- and no more than enough -/
def bLe (n : Nat) (cl tb : Nat → Nat → Bool) (fr b : Nat → Nat) : Prop := ∀ b', bPre n cl tb fr b' → ∀ f, f < n → bNon n cl tb f = false → b f ≤ b' f
def isBd (n : Nat) (cl tb : Nat → Nat → Bool) (fr b : Nat → Nat) : Prop := bPre n cl tb fr b ∧ bLe n cl tb fr b
section BD
variable {n : Nat} {cl tb : Nat → Nat → Bool} {fr b b' : Nat → Nat}
theorem isBd.uq (h : isBd n cl tb fr b) (h' : isBd n cl tb fr b') {f : Nat} (hf : f < n) (hn : bNon n cl tb f = false) : b f = b' f := Nat.le_antisymm (h.2 b' h'.1 f hf hn) (h'.2 b h.1 f hf hn)
theorem bEnd_t {R : Nat → Nat → Bool} {f g : Nat} (hg : g < n) (h : cl f g = true) (h2 : g = f ∨ R g f = true) : bEnd n cl R f = true := by
  unfold bEnd
  rw [List.any_eq_true]
  refine ⟨g, List.mem_range.mpr hg, ?_⟩
  rw [h]
  rcases h2 with h2 | h2
  · rw [decide_eq_true h2]; rfl
  · rw [h2]; simp
theorem bNo_f {R : Nat → Nat → Bool} {f : Nat} (h : bNo n cl R f = false) : bEnd n cl R f = false ∧ ∀ e, e < n → R f e = true → bEnd n cl R e = false := by
  unfold bNo at h
  rw [Bool.or_eq_false_iff] at h
  refine ⟨h.1, fun e he hr => ?_⟩
  have := List.any_eq_false.mp h.2 e (List.mem_range.mpr he)
  rw [hr, Bool.and_true] at this
  exact Bool.eq_false_iff.mpr this
theorem bNo_i {R : Nat → Nat → Bool} {f : Nat} (h : bEnd n cl R f = false) (h2 : ∀ e, e < n → R f e = true → bEnd n cl R e = false) : bNo n cl R f = false := by
  unfold bNo
  rw [Bool.or_eq_false_iff]
  refine ⟨h, List.any_eq_false.mpr (fun e he => ?_)⟩
  intro q
  rw [Bool.and_eq_true] at q
  rw [h2 e (List.mem_range.mp he) q.2] at q
  exact absurd q.1 (by decide)
/-- whom one with a bound calls has a bound -/
theorem bNon_st {f g : Nat} (hf : f < n) (hg : g < n) (h : bNon n cl tb f = false) (hc : (cl f g || tb f g) = true) : bNon n cl tb g = false := by
  obtain ⟨h1, h2⟩ := bNo_f h
  have hr : bRe n cl tb f g = true := clF_in hc n
  exact bNo_i (h2 g hg hr) (fun e he hre => h2 e he (clF_tr n g f e hg hr hre))
/-- those that one comes to, or itself -/
def bSt (n : Nat) (cl tb : Nat → Nat → Bool) (f x : Nat) : Bool := decide (x = f) || bRe n cl tb f x
def bSum (fr : Nat → Nat) (p : Nat → Bool) : Nat → Nat
  | 0 => 0
  | n + 1 => bSum fr p n + (if p n then fr n else 0)
theorem bSum_le {p q : Nat → Bool} (h : ∀ x, p x = true → q x = true) : ∀ n, bSum fr p n ≤ bSum fr q n
  | 0 => Nat.le_refl _
  | n + 1 => by
    have := bSum_le h n
    simp only [bSum]
    by_cases c : p n = true
    · rw [if_pos c, if_pos (h n c)]; omega
    · rw [if_neg c]
      split <;> omega
theorem bSum_lt {p q : Nat → Bool} {f : Nat} (h : ∀ x, p x = true → q x = true) (hp : p f = false) (hq : q f = true) : ∀ n, f < n → fr f + bSum fr p n ≤ bSum fr q n
  | n + 1, hf => by
    simp only [bSum]
    by_cases c : f = n
    · subst c
      have := bSum_le (fr := fr) h f
      rw [hp, hq]
      simp
      omega
    · have := bSum_lt h hp hq n (by omega)
      by_cases c : p n = true
      · rw [if_pos c, if_pos (h n c)]; omega
      · rw [if_neg c]
        split <;> omega
theorem bSum_in {q : Nat → Bool} {f : Nat} (hq : q f = true) : ∀ n, f < n → fr f ≤ bSum fr q n
  | n + 1, hf => by
    simp only [bSum]
    by_cases c : f = n
    · subst c; rw [if_pos hq]; omega
    · have := bSum_in hq n (by omega)
      omega
theorem bPre_ex : bPre n cl tb fr (fun f => bSum fr (bSt n cl tb f) n) := by
  intro f hf hn
  obtain ⟨h1, h2⟩ := bNo_f hn
  have self : ∀ f, bSt n cl tb f f = true := fun f => by unfold bSt; rw [decide_eq_true rfl]; rfl
  have sub : ∀ g, g < n → (cl f g || tb f g) = true → ∀ x, bSt n cl tb g x = true → bSt n cl tb f x = true := by
    intro g hg hc x hx
    have hr : bRe n cl tb f g = true := clF_in hc n
    unfold bSt at hx ⊢
    rw [Bool.or_eq_true] at hx ⊢
    rcases hx with hx | hx
    · rw [of_decide_eq_true hx]; exact Or.inr hr
    · exact Or.inr (clF_tr n g f x hg hr hx)
  refine ⟨bSum_in (self f) n hf, fun g hg => ⟨fun hc => ?_, fun hc => ?_⟩⟩
  · refine bSum_lt (sub g hg (by rw [hc]; rfl)) ?_ (self f) n hf
    cases e : bSt n cl tb g f with
    | false => rfl
    | true =>
      unfold bSt at e
      rw [Bool.or_eq_true] at e
      have := bEnd_t (R := bRe n cl tb) hg hc (e.imp (fun z => (of_decide_eq_true z).symm) id)
      rw [h1] at this
      cases this
  · exact bSum_le (sub g hg (by rw [hc, Bool.or_true])) n
theorem isBd_ex : ∃ b, isBd n cl tb fr b := by
  have h : ∀ f : Nat, ∃ m : Nat, (∃ b, bPre n cl tb fr b ∧ b f = m) ∧ ∀ b, bPre n cl tb fr b → m ≤ b f := by
    intro f
    have : ∀ k : Nat, (∃ b, bPre n cl tb fr b ∧ b f ≤ k) → ∃ m : Nat, (∃ b, bPre n cl tb fr b ∧ b f = m) ∧ ∀ b, bPre n cl tb fr b → m ≤ b f := by
      intro k
      induction k with
      | zero =>
        rintro ⟨b, hb, h0⟩
        exact ⟨0, ⟨b, hb, by omega⟩, fun _ _ => Nat.zero_le _⟩
      | succ k ih =>
        rintro ⟨b, hb, h0⟩
        by_cases c : ∃ b, bPre n cl tb fr b ∧ b f ≤ k
        · exact ih c
        · exact ⟨k + 1, ⟨b, hb, by
            have : ¬ b f ≤ k := fun z => c ⟨b, hb, z⟩
            omega⟩, fun b' hb' => Nat.lt_of_not_le (fun z => c ⟨b', hb', z⟩)⟩
    exact this _ ⟨_, bPre_ex, Nat.le_refl _⟩
  obtain ⟨b, hb⟩ := Classical.axiomOfChoice h
  refine ⟨b, fun f hf hn => ?_, fun b' hb' f hf hn => (hb f).2 b' hb'⟩
  obtain ⟨b1, p1, e1⟩ := (hb f).1
  have q := p1 f hf hn
  rw [← e1]
  exact ⟨q.1, fun g hg => ⟨fun hc => Nat.le_trans (Nat.add_le_add_left ((hb g).2 b1 p1) _) ((q.2 g hg).1 hc), fun hc => Nat.le_trans ((hb g).2 b1 p1) ((q.2 g hg).2 hc)⟩⟩
theorem cnt_lt {p q : Nat → Bool} {f : Nat} (h : ∀ x, p x = true → q x = true) (hp : p f = false) (hq : q f = true) (n : Nat) (hf : f < n) : bSum (fun _ => 1) p n + 1 ≤ bSum (fun _ => 1) q n := by
  have := bSum_lt (fr := fun _ => 1) h hp hq n hf
  omega
theorem cnt_le (p : Nat → Bool) : ∀ n, bSum (fun _ => 1) p n ≤ n
  | 0 => Nat.le_refl _
  | n + 1 => by
    have := cnt_le p n
    simp only [bSum]
    split <;> omega
/-- a round of raising: from x to y, below the least solution -/
def bRnd (n : Nat) (cl tb : Nat → Nat → Bool) (fr x y : Nat → Nat) : Prop := ∀ f, f < n → bNon n cl tb f = false → x f ≤ y f ∧ ∀ g, g < n → (cl f g = true → fr f + x g ≤ y f) ∧ (tb f g = true → x g ≤ y f)
/-- as many rounds as there are functions suffice -/
theorem bRnd_all {x : Nat → Nat → Nat} (hb : isBd n cl tb fr b) (h0 : ∀ f, f < n → bNon n cl tb f = false → fr f ≤ x 0 f) (hr : ∀ r, r < n → bRnd n cl tb fr (x r) (x (r + 1))) (hle : ∀ r, r ≤ n → ∀ f, f < n → bNon n cl tb f = false → x r f ≤ b f) : ∀ f, f < n → bNon n cl tb f = false → x n f = b f := by
  have hfr : ∀ r, r ≤ n → ∀ f, f < n → bNon n cl tb f = false → fr f ≤ x r f := by
    intro r
    induction r with
    | zero => exact fun _ => h0
    | succ r ih => exact fun hrn f hf hn => Nat.le_trans (ih (by omega) f hf hn) (hr r (by omega) f hf hn).1
  have key : ∀ r, r ≤ n → r ≤ bSum (fun _ => 1) (fun f => bNon n cl tb f || decide (x r f = b f)) n ∨ ∀ f, f < n → bNon n cl tb f = false → x r f = b f := by
    intro r
    induction r with
    | zero => exact fun _ => Or.inl (Nat.zero_le _)
    | succ r ih =>
      intro hrn
      have up : ∀ f, f < n → bNon n cl tb f = false → x r f = b f → x (r + 1) f = b f := fun f hf hn e => Nat.le_antisymm (hle _ hrn f hf hn) (by rw [← e]; exact (hr r (by omega) f hf hn).1)
      rcases ih (by omega) with ih | ih
      · by_cases c : ∀ f, f < n → bNon n cl tb f = false → x r f = b f
        · exact Or.inr (fun f hf hn => up f hf hn (c f hf hn))
        · refine Or.inl ?_
          -- one that is raised to its bound now
          have ex : ∃ f, f < n ∧ bNon n cl tb f = false ∧ x r f < b f ∧ x (r + 1) f = b f := by
            refine Classical.byContradiction (fun hno => ?_)
            have hno : ∀ f, f < n → bNon n cl tb f = false → x r f < b f → x (r + 1) f < b f := fun f hf hn hl => Nat.lt_of_le_of_ne (hle _ hrn f hf hn) (fun z => hno ⟨f, hf, hn, hl, z⟩)
            have pre : bPre n cl tb fr (fun f => if f < n ∧ bNon n cl tb f = false ∧ x r f < b f then b f - 1 else b f) := by
              intro f hf hn
              have q := hb.1 f hf hn
              have q2 := hr r (by omega) f hf hn
              have q3 := hfr r (by omega) f hf hn
              by_cases cf : x r f < b f
              · have nf := hno f hf hn cf
                simp only [if_pos (show f < n ∧ bNon n cl tb f = false ∧ x r f < b f from ⟨hf, hn, cf⟩)]
                refine ⟨by omega, fun g hg => ⟨fun hc => ?_, fun hc => ?_⟩⟩
                · have hng := bNon_st hf hg hn (show (cl f g || tb f g) = true by rw [hc]; rfl)
                  have a1 := (q.2 g hg).1 hc
                  have a2 := (q2.2 g hg).1 hc
                  have a3 := hle r (by omega) g hg hng
                  split
                  · omega
                  · rename_i cg
                    have : x r g = b g := Nat.le_antisymm a3 (Nat.le_of_not_lt (fun z => cg ⟨hg, hng, z⟩))
                    omega
                · have hng := bNon_st hf hg hn (show (cl f g || tb f g) = true by rw [hc, Bool.or_true])
                  have a1 := (q.2 g hg).2 hc
                  have a2 := (q2.2 g hg).2 hc
                  have a3 := hle r (by omega) g hg hng
                  split
                  · omega
                  · rename_i cg
                    have : x r g = b g := Nat.le_antisymm a3 (Nat.le_of_not_lt (fun z => cg ⟨hg, hng, z⟩))
                    omega
              · simp only [if_neg (show ¬ (f < n ∧ bNon n cl tb f = false ∧ x r f < b f) from fun z => cf z.2.2)]
                refine ⟨q.1, fun g hg => ⟨fun hc => ?_, fun hc => ?_⟩⟩
                · have a1 := (q.2 g hg).1 hc
                  split <;> omega
                · have a1 := (q.2 g hg).2 hc
                  split <;> omega
            refine c (fun f hf hn => Nat.le_antisymm (hle r (by omega) f hf hn) (Nat.le_of_not_lt (fun z => ?_)))
            have := hb.2 _ pre f hf hn
            rw [if_pos ⟨hf, hn, z⟩] at this
            omega
          obtain ⟨f, hf, hn, hl, e⟩ := ex
          have := cnt_lt (p := fun f => decide (n ≤ f) || (bNon n cl tb f || decide (x r f = b f))) (q := fun f => decide (n ≤ f) || (bNon n cl tb f || decide (x (r + 1) f = b f))) (f := f) (fun y hy => ?_) ?_ ?_ n hf
          · have eq : ∀ (x : Nat → Nat), bSum (fun _ => 1) (fun f => decide (n ≤ f) || (bNon n cl tb f || decide (x f = b f))) n = bSum (fun _ => 1) (fun f => (bNon n cl tb f || decide (x f = b f))) n := by
              intro x
              have : ∀ m, m ≤ n → bSum (fun _ => 1) (fun f => decide (n ≤ f) || (bNon n cl tb f || decide (x f = b f))) m = bSum (fun _ => 1) (fun f => (bNon n cl tb f || decide (x f = b f))) m := by
                intro m
                induction m with
                | zero => exact fun _ => rfl
                | succ m ihm =>
                  intro hm
                  simp only [bSum]
                  rw [ihm (by omega), decide_eq_false (show ¬ n ≤ m by omega), Bool.false_or]
              exact this n (Nat.le_refl _)
            rw [eq, eq] at this
            omega
          · simp only [Bool.or_eq_true, decide_eq_true_eq] at hy ⊢
            rcases hy with hy | hy | hy
            · exact Or.inl hy
            · exact Or.inr (Or.inl hy)
            · by_cases c1 : n ≤ y
              · exact Or.inl c1
              · by_cases c2 : bNon n cl tb y = true
                · exact Or.inr (Or.inl c2)
                · exact Or.inr (Or.inr (up y (by omega) (Bool.eq_false_iff.mpr c2) hy))
          · rw [decide_eq_false (by omega), hn, decide_eq_false (by omega)]; rfl
          · rw [e, hn, decide_eq_true rfl]; simp
      · exact Or.inr (fun f hf hn => up f hf hn (ih f hf hn))
  rcases key n (Nat.le_refl _) with k | k
  · intro f hf hn
    refine Classical.byContradiction (fun z => ?_)
    have := cnt_lt (p := fun f => bNon n cl tb f || decide (x n f = b f)) (q := fun _ => true) (f := f) (fun _ _ => rfl) (by rw [hn, decide_eq_false z]; rfl) rfl n hf
    have := cnt_le (fun _ => true) n
    omega
  · exact k
end BD
/-- what code calls, and in whose place it puts itself -/
def cCal (c : List (Int32 × Int32)) (g : Nat) : Bool := decide ((16, nI g) ∈ c)
def cTal (c : List (Int32 × Int32)) (g : Nat) : Bool := decide ((19, nI g) ∈ c)
