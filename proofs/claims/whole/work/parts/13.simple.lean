theorem g_le64 {a b : Int32} : a.toInt64 ≤ b.toInt64 ↔ a ≤ b := by
  rw [Int64.le_iff_toInt_le, Int32.le_iff_toInt_le, Int32.toInt_toInt64, Int32.toInt_toInt64]
theorem m_Mo_feed {cx : gCx} {d x xt len : Nat} {v : Int64} {n : Int32} {t : gSt} {post : Option Value → gSt → Prop} (hk : g_k t x k_Mo) (hR : t.2.2.2 x f_Mo_text = some xt) (hk2 : g_k t xt 13) (hl : t.1.2.2 xt = 3000) (hlen : t.2.1 x f_Mo_textSize = nI len) (hle : len ≤ 3000) (hne : x ≠ xt)
    (h : ∀ u, g_fed (g_si t x f_Mo_code 0) u x f_Mo_textSize xt len v n → post (some (.int (g_feed len n))) u) : g_E cx (d + 2) i_Mo_feed [.ref x, .long v, .int n] t post := by
  refine g_call mt_Mo_feed rfl (by decide) (Nat.le_of_ble_eq_true rfl) ?_
  have hlen0 : (g_si t x f_Mo_code 0).2.1 x f_Mo_textSize = nI len := by rw [g_si_at, va_up_ne _ _ (by decide)]; exact hlen
  refine g_run [5] 5 (fun P hP => And.intro hk (hP _ ?_))
  have hk : g_k (g_si t x f_Mo_code 0) x k_Mo := hk
  have hk2 : g_k (g_si t x f_Mo_code 0) xt 13 := hk2
  have hR : (g_si t x f_Mo_code 0).2.2.2 x f_Mo_text = some xt := hR
  have hl : (g_si t x f_Mo_code 0).1.2.2 xt = 3000 := hl
  clear hlen
  have hlen := hlen0
  clear hlen0
  show g_W cx (g_E cx (d + 1)) mt_Mo_feed post (5, [some (.ref x), some (.long v), none, some (.int n), none], [], g_si t x f_Mo_code 0, 0, 0)
  revert hk hk2 hR hl hlen h
  generalize g_si t x f_Mo_code 0 = t
  intro h hk hk2 hR hl hlen
  have loop : ∀ (k m : Nat) (u : gSt) (i : Int32), n.toNatClampNeg = k + m → k + m ≤ 8 → len + (k + m) ≤ 3000 → i = nI k - 1 → g_fr t u [x, xt] → (∀ j, j ≠ f_Mo_textSize → u.2.1 x j = t.2.1 x j) → u.2.1 x f_Mo_textSize = nI (len + m) → (u.2.1 xt = fun j => if len ≤ j ∧ j < len + m then g_fb v (nI (k + m - 1 - (j - len))) else t.2.1 xt j) →
      (∀ w, g_fr t w [x, xt] → (∀ j, j ≠ f_Mo_textSize → w.2.1 x j = t.2.1 x j) → w.2.1 x f_Mo_textSize = nI (len + (k + m)) → w.2.1 xt = g_frow (t.2.1 xt) v len (k + m) → post (some (.int (nI (len + (k + m))))) w) →
      g_W cx (g_E cx (d + 1)) mt_Mo_feed post (51, [some (.ref x), some (.long v), none, some (.int n), some (.int i)], [], u, 0, 0) := by
    intro k
    induction k with
    | zero =>
      intro m u i hn hm h3 hi hf ho hul hut hp
      have hi2 : i < 0 := by rw [hi]; decide
      refine g_run [51] 40 (fun P hP => ?_)
      refine And.intro (fun c1 => ?_) (fun c1 => absurd hi2 c1)
      have hku : g_k u x k_Mo := by unfold g_k; rw [hf.1]; exact hk
      refine And.intro hku (And.intro rfl (And.intro rfl ?_))
      have := hp u hf ho (by rw [hul, Nat.zero_add]) (by rw [hut, Nat.zero_add]; rfl)
      rw [show u.2.1 x f_Mo_textSize = nI (len + (0 + m)) by rw [hul, Nat.zero_add]]
      exact this
    | succ k ih =>
      intro m u i hn hm h3 hi hf ho hul hut hp
      have hi1 : i = nI k := by rw [hi]; exact nI_pred k
      have hi2 : ¬ i < 0 := by rw [hi1]; exact nI_pos (by omega)
      have hku : g_k u x k_Mo := by unfold g_k; rw [hf.1]; exact hk
      have hku2 : g_k u xt 13 := by unfold g_k; rw [hf.1]; exact hk2
      have hRu : u.2.2.2 x f_Mo_text = some xt := by rw [hf.2.1]; exact hR
      have hin : vp_in (u.2.1 x f_Mo_textSize) (u.1.2.2 xt) := by rw [hul, hf.1, hl]; exact vp_in_nI (by omega) (by omega)
      have hcl : (u.2.1 x f_Mo_textSize).toNatClampNeg = len + m := by rw [hul]; exact nI_clamp (by omega)
      refine g_run [51] 40 (fun P hP => ?_)
      refine And.intro (fun c1 => absurd c1 hi2) (fun c1 => ?_)
      refine And.intro hku (Or.inl ⟨xt, hRu, ?_⟩)
      refine And.intro hku ?_
      refine And.intro hin (Or.inl (And.intro hku2 ?_))
      refine And.intro hku (And.intro hku ?_)
      refine hP _ ?_
      have eK : (u.2.1 x f_Mo_textSize).toNatClampNeg = len + m := hcl
      refine ih (m + 1) _ _ (by omega) (by omega) (by omega) (by rw [hi1, Int32.sub_eq_add_neg]; rfl) ((hf.si (by simp)).si (by simp)) (fun j hj => ?_) ?_ ?_ ?_
      · rw [g_si_at, va_up_ne _ _ hj, g_si_ne hne]
        exact ho j hj
      · rw [g_si_at, va_up_self, g_si_ne hne, hul]
        exact nI_1 _
      · rw [g_si_ne (fun e => hne e.symm), g_si_at, eK, hut]
        funext j
        by_cases hj : j = len + m
        · subst hj
          rw [va_up_self, if_pos (by omega), show k + (m + 1) - 1 - (len + m - len) = k by omega, ← hi1]
          rfl
        · rw [va_up_ne _ _ hj]
          by_cases hr : len ≤ j ∧ j < len + m
          · rw [if_pos hr, if_pos (by omega), show k + 1 + m - 1 - (j - len) = k + (m + 1) - 1 - (j - len) by omega]
          · rw [if_neg hr, if_neg (by omega)]
      · rw [show k + (m + 1) = k + 1 + m by omega]
        exact hp
  have bad : n < 0 ∨ 8 < n → post (some (.int (-2))) t := fun c => by
    have := h t ⟨g_fr.rf, fun _ _ => rfl, by rw [if_pos c]⟩
    rw [g_feed, if_pos c] at this
    exact this
  refine g_run [51] 60 (fun P hP => ?_)
  refine m_Mo_in ?_
  refine And.intro (fun c0 => ?_) (fun c0 => ?_)
  · have c0 : ¬ (if (0 : Int64) ≤ n.toInt64 ∧ n.toInt64 ≤ 8 then (1 : Int32) else 0) = 0 := c0
    have c0 : (0 : Int64) ≤ n.toInt64 ∧ n.toInt64 ≤ 8 := by
      by_cases q : (0 : Int64) ≤ n.toInt64 ∧ n.toInt64 ≤ 8
      · exact q
      · rw [if_neg q] at c0
        exact absurd rfl c0
    have c1 : ¬ n < 0 := Int32.not_lt.mpr ((g_le64 (a := 0)).mp c0.1)
    have c2 : n ≤ 8 := (g_le64 (b := 8)).mp c0.2
    have c12 : ¬ (n < 0 ∨ 8 < n) := fun q => q.elim c1 (fun z => absurd (Int32.lt_of_lt_of_le z c2) Int32.lt_irrefl)
    refine And.intro (fun c3 => ?_) (fun c3 => ?_)
    · have c3 : ¬ n = 0 := c3
      refine And.intro hk (And.intro (fun c4 => ?_) (fun c4 => ?_))
      · have c4 : t.2.1 x f_Mo_textSize + n ≤ 3000 := c4
        obtain ⟨k, hk8, e⟩ := nI_of2 (M := 8) (n := 8) rfl c1 c2
        have hcl : n.toNatClampNeg = k := by rw [e]; exact nI_clamp (by omega)
        rw [hlen] at c4
        have hs : nI len + n = nI (len + k) := by rw [e]; exact nI_add len k
        have h3 : len + k ≤ 3000 := (nI_leI (by omega) (by omega)).mp (show nI (len + k) ≤ nI 3000 by rw [← hs]; exact c4)
        refine hP _ (loop k 0 t _ (by omega) (by omega) (by omega) (by rw [e]; rfl) g_fr.rf (fun _ _ => rfl) (by rw [hlen]; rfl) (by funext j; rw [if_neg (by omega)]) (fun w h1 h2 h3w h4 => ?_))
        have c5 : ¬ 3000 < nI len + n := Int32.not_lt.mpr c4
        have := h w ⟨h1, h2, by rw [if_neg c12, if_neg c3, if_neg c5, hcl]; exact ⟨h3w, h4⟩⟩
        rw [g_feed, if_neg c12, if_neg c3, if_neg c5, hs] at this
        exact this
      · have c4 : ¬ t.2.1 x f_Mo_textSize + n ≤ 3000 := c4
        rw [hlen] at c4
        have c5 : 3000 < nI len + n := Int32.not_le.mp c4
        have := h t ⟨g_fr.rf, fun _ _ => rfl, by rw [if_neg c12, if_neg c3, if_pos c5]⟩
        rw [g_feed, if_neg c12, if_neg c3, if_pos c5] at this
        exact And.intro rfl (And.intro rfl this)
    · have c3 : n = 0 := Decidable.not_not.mp c3
      refine And.intro hk ?_
      refine And.intro rfl (And.intro rfl ?_)
      have := h (g_si t x f_Mo_textSize 0) ⟨g_fr.rf.si (by simp), fun j hj => by rw [g_si_at, va_up_ne _ _ hj], by rw [if_neg c12, if_pos c3]; exact ⟨by rw [g_si_at, va_up_self], g_si_ne (fun e => hne e.symm)⟩⟩
      rw [g_feed, if_neg c12, if_pos c3] at this
      exact this
  · have c0 : ¬ ¬ (if (0 : Int64) ≤ n.toInt64 ∧ n.toInt64 ≤ 8 then (1 : Int32) else 0) = 0 := c0
    refine And.intro rfl (And.intro rfl (bad ?_))
    by_cases q : n < 0
    · exact Or.inl q
    · by_cases q2 : 8 < n
      · exact Or.inr q2
      · exfalso
        apply c0
        rw [if_pos ⟨(g_le64 (a := 0)).mpr (Int32.not_lt.mp q), (g_le64 (b := 8)).mpr (Int32.not_lt.mp q2)⟩]
        decide
