/-! PILOT: a loop that reads (Program.find), short methods of class and model -/
/-- the first of k places from i on that holds w; -1 if there is none -/
def g_fnd (J : Nat → Int64) (w : Int64) : Nat → Nat → Int32
  | _, 0 => -1
  | i, k + 1 => if J i = w then nI i else g_fnd J w (i + 1) k
theorem m_find {cx : gCx} {d a nm n : Nat} {w : Int64} {t : gSt} {post : Option Value → gSt → Prop} (hk : g_k t a 6) (hn : t.2.1 a 15 = nI n) (hn2 : n ≤ 24) (hR : t.2.2.2 a 2 = some nm) (hk2 : g_k t nm 16) (hl : t.1.2.2 nm = 24) (h : post (some (.int (g_fnd (t.2.2.1 nm) w 0 n))) t) : g_E cx (d + 1) i_Program_find [.ref a, .long w] t post := by
  refine g_call mt_Program_find rfl (by decide) (Nat.le_of_ble_eq_true rfl) ?_
  have loop : ∀ (k i : Nat) (x : Int32), i + k = n → x = nI i → post (some (.int (g_fnd (t.2.2.1 nm) w i k))) t → g_W cx (g_E cx d) mt_Program_find post (2, [some (.ref a), some (.long w), none, some (.int x)], [], t, 0, 0) := by
    intro k
    induction k with
    | zero =>
      intro i x hi hx hp
      refine g_run [2] 30 (fun P hP => ?_)
      refine And.intro hk (And.intro (fun c1 => ?_) (fun c1 => ?_))
      · exact And.intro rfl (And.intro rfl hp)
      · exact absurd (show t.2.1 a 15 ≤ x by rw [hn, hx, ← hi]; exact nI_le (by omega) (by omega)) c1
    | succ k ih =>
      intro i x hi hx hp
      have hlt : i < n := by omega
      have hin : vp_in x (t.1.2.2 nm) := by rw [hl, hx]; exact vp_in_nI (by omega) (by omega)
      have hcl : x.toNatClampNeg = i := by rw [hx]; exact nI_clamp (by omega)
      refine g_run [2] 30 (fun P hP => ?_)
      refine And.intro hk (And.intro (fun c1 => ?_) (fun c1 => ?_))
      · exact absurd (show t.2.1 a 15 ≤ x from c1) (by rw [hn, hx]; exact nI_ge hlt (by omega))
      · refine And.intro hk (Or.inl ⟨nm, hR, ?_⟩)
        refine Or.inl (And.intro hk2 (And.intro hin ?_))
        refine And.intro (fun c2 => ?_) (fun c2 => ?_)
        · have c2 : ¬ lg_cmp (t.2.2.1 nm x.toNatClampNeg) w = 0 := c2
          rw [hcl, lg_cmp_eq] at c2
          rw [g_fnd, if_neg c2] at hp
          exact hP _ (ih (i + 1) (x + Int32.ofInt 1) (by omega) (by rw [hx]; exact nI_1 i) hp)
        · have c2 : ¬ ¬ lg_cmp (t.2.2.1 nm x.toNatClampNeg) w = 0 := c2
          rw [hcl, lg_cmp_eq, Decidable.not_not] at c2
          rw [g_fnd, if_pos c2, ← hx] at hp
          exact And.intro rfl (And.intro rfl hp)
  exact g_run [2] 5 (fun P hP => hP _ (loop n 0 0 (by omega) nI_0.symm h))
theorem m_Tr_place {cx : gCx} {d a : Nat} {t : gSt} {post : Option Value → gSt → Prop} (hk : g_k t a k_Tr) (h : post (some (.int (t.2.1 a f_Tr_faultPlace))) t) : g_E cx (d + 1) i_Tr_place [.ref a] t post := by
  refine g_call mt_Tr_place rfl (by decide) (Nat.le_of_ble_eq_true rfl) ?_
  exact g_run [] 5 (fun P hP => And.intro hk (And.intro rfl (And.intro rfl h)))
theorem g_si_at {u : gSt} {a k : Nat} {v : Int32} : (g_si u a k v).2.1 a = va_up (u.2.1 a) k v := g_up_at
theorem g_si_ne {u : gSt} {a k b : Nat} {v : Int32} (h : b ≠ a) : (g_si u a k v).2.1 b = u.2.1 b := g_up_ne h
/-- only ints have changed, and those in the cells S alone -/
def g_fr (t u : gSt) (S : List Nat) : Prop := u.1 = t.1 ∧ u.2.2 = t.2.2 ∧ ∀ a, a ∉ S → u.2.1 a = t.2.1 a
theorem g_fr.rf {t : gSt} {S : List Nat} : g_fr t t S := ⟨rfl, rfl, fun _ _ => rfl⟩
theorem g_fr.si {t u : gSt} {S : List Nat} {a k : Nat} {v : Int32} (h : g_fr t u S) (ha : a ∈ S) : g_fr t (g_si u a k v) S :=
  ⟨h.1, h.2.1, fun b hb => (g_si_ne (fun e => hb (by rw [e]; exact ha))).trans (h.2.2 b hb)⟩
theorem g_fr.tr {t u w : gSt} {S : List Nat} (h : g_fr t u S) (h2 : g_fr u w S) : g_fr t w S := ⟨h2.1.trans h.1, h2.2.1.trans h.2.1, fun b hb => (h2.2.2 b hb).trans (h.2.2 b hb)⟩
/-- the byte that feed lays for place i of v -/
def g_fb (v : Int64) (i : Int32) : Int32 := vp_nar .byte (v >>> ((8 * i).toInt64 &&& 63)).toInt32.toInt8.toInt32
/-- the text behind n bytes more, the last of them for place 0: from place m on of the row f, k done -/
def g_frow (f : Nat → Int32) (v : Int64) (len n : Nat) : Nat → Int32 := fun j => if len ≤ j ∧ j < len + n then g_fb v (nI (n - 1 - (j - len))) else f j
/-- what feed answers -/
def g_feed (len : Nat) (n : Int32) : Int32 := if n < 0 ∨ 8 < n then -2 else if n = 0 then 0 else if 3000 < nI len + n then -4 else nI len + n
/-- the text behind feed: its length, its bytes, in the cell a with the length at k, the bytes in the cell b -/
def g_fed (t u : gSt) (a k b len : Nat) (v : Int64) (n : Int32) : Prop :=
  g_fr t u [a, b] ∧ (∀ j, j ≠ k → u.2.1 a j = t.2.1 a j) ∧
  (if n < 0 ∨ 8 < n then u = t else if n = 0 then u.2.1 a k = 0 ∧ u.2.1 b = t.2.1 b else if 3000 < nI len + n then u = t else u.2.1 a k = nI (len + n.toNatClampNeg) ∧ u.2.1 b = g_frow (t.2.1 b) v len n.toNatClampNeg)
theorem m_Tr_feed {cx : gCx} {d x xt len : Nat} {v : Int64} {n : Int32} {t : gSt} {post : Option Value → gSt → Prop} (hk : g_k t x k_Tr) (hR : t.2.2.2 x f_Tr_text = some xt) (hk2 : g_k t xt 13) (hl : t.1.2.2 xt = 3000) (hlen : t.2.1 x f_Tr_textLength = nI len) (hle : len ≤ 3000) (hne : x ≠ xt)
    (h : ∀ u, g_fed t u x f_Tr_textLength xt len v n → post (some (.int (g_feed len n))) u) : g_E cx (d + 1) i_Tr_feed [.ref x, .long v, .int n] t post := by
  refine g_call mt_Tr_feed rfl (by decide) (Nat.le_of_ble_eq_true rfl) ?_
  have loop : ∀ (k m : Nat) (u : gSt) (i : Int32), n.toNatClampNeg = k + m → k + m ≤ 8 → len + (k + m) ≤ 3000 → i = nI k - 1 → g_fr t u [x, xt] → (∀ j, j ≠ f_Tr_textLength → u.2.1 x j = t.2.1 x j) → u.2.1 x f_Tr_textLength = nI (len + m) → (u.2.1 xt = fun j => if len ≤ j ∧ j < len + m then g_fb v (nI (k + m - 1 - (j - len))) else t.2.1 xt j) →
      (∀ w, g_fr t w [x, xt] → (∀ j, j ≠ f_Tr_textLength → w.2.1 x j = t.2.1 x j) → w.2.1 x f_Tr_textLength = nI (len + (k + m)) → w.2.1 xt = g_frow (t.2.1 xt) v len (k + m) → post (some (.int (nI (len + (k + m))))) w) →
      g_W cx (g_E cx d) mt_Tr_feed post (44, [some (.ref x), some (.long v), none, some (.int n), some (.int i)], [], u, 0, 0) := by
    intro k
    induction k with
    | zero =>
      intro m u i hn hm h3 hi hf ho hul hut hp
      have hi2 : i < 0 := by rw [hi]; decide
      refine g_run [44] 40 (fun P hP => ?_)
      refine And.intro (fun c1 => ?_) (fun c1 => absurd hi2 c1)
      have hku : g_k u x k_Tr := by unfold g_k; rw [hf.1]; exact hk
      refine And.intro hku (And.intro rfl (And.intro rfl ?_))
      have := hp u hf ho (by rw [hul, Nat.zero_add]) (by rw [hut, Nat.zero_add]; rfl)
      rw [show u.2.1 x f_Tr_textLength = nI (len + (0 + m)) by rw [hul, Nat.zero_add]]
      exact this
    | succ k ih =>
      intro m u i hn hm h3 hi hf ho hul hut hp
      have hi1 : i = nI k := by rw [hi]; exact nI_pred k
      have hi2 : ¬ i < 0 := by rw [hi1]; exact nI_pos (by omega)
      have hku : g_k u x k_Tr := by unfold g_k; rw [hf.1]; exact hk
      have hku2 : g_k u xt 13 := by unfold g_k; rw [hf.1]; exact hk2
      have hRu : u.2.2.2 x f_Tr_text = some xt := by rw [hf.2.1]; exact hR
      have hin : vp_in (u.2.1 x f_Tr_textLength) (u.1.2.2 xt) := by rw [hul, hf.1, hl]; exact vp_in_nI (by omega) (by omega)
      have hcl : (u.2.1 x f_Tr_textLength).toNatClampNeg = len + m := by rw [hul]; exact nI_clamp (by omega)
      refine g_run [44] 40 (fun P hP => ?_)
      refine And.intro (fun c1 => absurd c1 hi2) (fun c1 => ?_)
      refine And.intro hku (Or.inl ⟨xt, hRu, ?_⟩)
      refine And.intro hku ?_
      refine And.intro hin (Or.inl (And.intro hku2 ?_))
      refine And.intro hku (And.intro hku ?_)
      refine hP _ ?_
      have eK : (u.2.1 x f_Tr_textLength).toNatClampNeg = len + m := hcl
      refine ih (m + 1) _ _ (by omega) (by omega) (by omega) (by rw [hi1, Int32.sub_eq_add_neg]; rfl) ((hf.si (by simp)).si (by simp)) (fun j hj => ?_) ?_ ?_ ?_
      · rw [g_si_at, va_up_ne _ _ hj, g_si_ne hne]
        exact ho j hj
      · rw [g_si_at, va_up_self, g_si_ne hne, hul]
        exact nI_1 _
      · rw [g_si_ne (fun e => hne e.symm), g_si_at, eK, hut]
        funext j
        by_cases hj : j = len + m
        · subst hj
          rw [va_up_self, if_pos (by omega), show k + (m + 1) - 1 - (len + m - len) = k by omega, ← hi1]
          rfl
        · rw [va_up_ne _ _ hj]
          by_cases hr : len ≤ j ∧ j < len + m
          · rw [if_pos hr, if_pos (by omega), show k + 1 + m - 1 - (j - len) = k + (m + 1) - 1 - (j - len) by omega]
          · rw [if_neg hr, if_neg (by omega)]
      · rw [show k + (m + 1) = k + 1 + m by omega]
        exact hp
  refine g_run [44] 60 (fun P hP => ?_)
  have bad : n < 0 ∨ 8 < n → post (some (.int (-2))) t := fun c => by
    have := h t ⟨g_fr.rf, fun _ _ => rfl, by rw [if_pos c]⟩
    rw [g_feed, if_pos c] at this
    exact this
  refine And.intro (fun c1 => ?_) (fun c1 => ?_)
  · exact And.intro rfl (And.intro rfl (bad (Or.inl c1)))
  · have c1 : ¬ n < 0 := c1
    refine And.intro (fun c2 => ?_) (fun c2 => ?_)
    · have c2 : n ≤ 8 := c2
      have c12 : ¬ (n < 0 ∨ 8 < n) := fun q => q.elim c1 (fun z => absurd (Int32.lt_of_lt_of_le z c2) Int32.lt_irrefl)
      refine And.intro (fun c3 => ?_) (fun c3 => ?_)
      · have c3 : ¬ n = 0 := c3
        refine And.intro hk (And.intro (fun c4 => ?_) (fun c4 => ?_))
        · have c4 : t.2.1 x f_Tr_textLength + n ≤ 3000 := c4
          obtain ⟨k, hk8, e⟩ := nI_of2 (M := 8) (n := 8) rfl c1 c2
          have hcl : n.toNatClampNeg = k := by rw [e]; exact nI_clamp (by omega)
          rw [hlen] at c4
          have hs : nI len + n = nI (len + k) := by rw [e]; exact nI_add len k
          have h3 : len + k ≤ 3000 := (nI_leI (by omega) (by omega)).mp (show nI (len + k) ≤ nI 3000 by rw [← hs]; exact c4)
          refine hP _ (loop k 0 t _ (by omega) (by omega) (by omega) (by rw [e]; rfl) g_fr.rf (fun _ _ => rfl) (by rw [hlen]; rfl) (by funext j; rw [if_neg (by omega)]) (fun w h1 h2 h3w h4 => ?_))
          have c5 : ¬ 3000 < nI len + n := Int32.not_lt.mpr c4
          have := h w ⟨h1, h2, by rw [if_neg c12, if_neg c3, if_neg c5, hcl]; exact ⟨h3w, h4⟩⟩
          rw [g_feed, if_neg c12, if_neg c3, if_neg c5, hs] at this
          exact this
        · have c4 : ¬ t.2.1 x f_Tr_textLength + n ≤ 3000 := c4
          rw [hlen] at c4
          have c5 : 3000 < nI len + n := Int32.not_le.mp c4
          have := h t ⟨g_fr.rf, fun _ _ => rfl, by rw [if_neg c12, if_neg c3, if_pos c5]⟩
          rw [g_feed, if_neg c12, if_neg c3, if_pos c5] at this
          exact And.intro rfl (And.intro rfl this)
      · have c3 : n = 0 := Decidable.not_not.mp c3
        refine And.intro hk ?_
        refine And.intro rfl (And.intro rfl ?_)
        have := h (g_si t x f_Tr_textLength 0) ⟨g_fr.rf.si (by simp), fun j hj => by rw [g_si_at, va_up_ne _ _ hj], by rw [if_neg c12, if_pos c3]; exact ⟨by rw [g_si_at, va_up_self], g_si_ne (fun e => hne e.symm)⟩⟩
        rw [g_feed, if_neg c12, if_pos c3] at this
        exact this
    · have c2 : ¬ n ≤ 8 := c2
      exact And.intro rfl (And.intro rfl (bad (Or.inr (Int32.not_le.mp c2))))
/-- in(v, lo, hi) of the model -/
theorem m_Mo_in {cx : gCx} {d : Nat} {v lo hi : Int64} {t : gSt} {post : Option Value → gSt → Prop} (h : post (some (.int (if lo ≤ v ∧ v ≤ hi then 1 else 0))) t) : g_E cx (d + 1) i_Mo_in [.long v, .long lo, .long hi] t post := by
  refine g_call mt_Mo_in rfl (by decide) (Nat.le_of_ble_eq_true rfl) ?_
  refine g_run [] 20 (fun P hP => ?_)
  refine And.intro (fun c1 => ?_) (fun c1 => ?_)
  · have c1 : lg_cmp v lo < 0 := c1
    rw [lg_cmp_lt] at c1
    rw [if_neg (fun q => absurd (Int64.lt_of_lt_of_le c1 q.1) Int64.lt_irrefl)] at h
    exact And.intro rfl (And.intro rfl h)
  · have c1 : ¬ lg_cmp v lo < 0 := c1
    rw [lg_cmp_lt] at c1
    refine And.intro (fun c2 => ?_) (fun c2 => ?_)
    · have c2 : 0 < lg_cmp v hi := c2
      rw [lg_cmp_gt] at c2
      rw [if_neg (fun q => absurd (Int64.lt_of_lt_of_le c2 q.2) Int64.lt_irrefl)] at h
      exact And.intro rfl (And.intro rfl h)
    · have c2 : ¬ 0 < lg_cmp v hi := c2
      rw [lg_cmp_gt] at c2
      rw [if_pos ⟨Int64.not_lt.mp c1, Int64.not_lt.mp c2⟩] at h
      exact And.intro rfl (And.intro rfl h)
