/-! THE CLASS'S WALK, over a stack of open nodes: (place, kind, value, done, wants) -/
abbrev WS : Type := List (Nat × Int32 × Int32 × Nat × Nat)
def wP (w c _k : Nat) : Bool := Nat.ble w c && Nat.ble c (w + 5)
def RW (t : gSt) (ad : Nat → Nat) (w p : Nat) (st : WS) (nx ev : Nat) : Prop :=
  t.2.2.2 (ad w) 8 = some (ad p) ∧ t.2.1 (ad w) 5 = nI ev ∧ t.2.1 (ad w) 10 = nI st.length ∧ t.2.1 (ad w) 9 = nI nx ∧
  ∀ i q, st[i]? = some q → t.2.1 (ad (w + 1)) i = nI q.1 ∧ t.2.1 (ad (w + 2)) i = q.2.1 ∧ t.2.1 (ad (w + 3)) i = q.2.2.1 ∧ t.2.1 (ad (w + 4)) i = nI q.2.2.2.1 ∧ t.2.1 (ad (w + 5)) i = nI q.2.2.2.2
/-- a program's table of parameters -/
def RPar (t : gSt) (ad : Nat → Nat) (p n : Nat) (par : Int32 → Nat) : Prop := n ≤ 24 ∧ t.2.1 (ad p) 15 = nI n ∧ ∀ g, g < n → t.2.1 (ad (p + 2)) g = nI (par (nI g))
section WK
variable {cx : gCx} {d : Nat} {ad : Nat → Nat} {t u : gSt} {post : Option Value → gSt → Prop} {w p : Nat}
theorem wP_in {j k : Nat} (hj : j < 6) : wP w (w + j) k = true := by
  unfold wP
  rw [Nat.ble_eq_true_of_le (by omega), Nat.ble_eq_true_of_le (by omega)]; rfl
theorem wP_out {c k : Nat} (h : c < w ∨ w + 5 < c) : wP w c k = false := by
  unfold wP
  rcases h with h | h
  · rw [show Nat.ble w c = false from Bool.eq_false_iff.mpr (fun q => by have := Nat.ble_eq.mp q; omega)]; rfl
  · rw [show Nat.ble c (w + 5) = false from Bool.eq_false_iff.mpr (fun q => by have := Nat.ble_eq.mp q; omega), Bool.and_false]
theorem RW.fr {P : Nat → Nat → Bool} {st : WS} {nx ev : Nat} (hw : isW w) (hf : gFr ad P t u) (hP : ∀ j k, j < 6 → P (w + j) k = false) (h : RW t ad w p st nx ev) : RW u ad w p st nx ev := by
  have hl := hw.lt
  have e : ∀ j k, j < 6 → u.2.1 (ad (w + j)) k = t.2.1 (ad (w + j)) k := fun j k hj => hf.i _ k (hP j k hj) (by omega)
  have e0 : ∀ k, u.2.1 (ad w) k = t.2.1 (ad w) k := fun k => e 0 k (by decide)
  refine ⟨?_, ?_, ?_, ?_, fun i q hq => ?_⟩
  · rw [hf.r w 8 (hP 0 8 (by decide)) (by omega)]; exact h.1
  · rw [e0]; exact h.2.1
  · rw [e0]; exact h.2.2.1
  · rw [e0]; exact h.2.2.2.1
  · rw [e 1 i (by decide), e 2 i (by decide), e 3 i (by decide), e 4 i (by decide), e 5 i (by decide)]
    exact h.2.2.2.2 i q hq
theorem m_kids {n : Nat} {par : Int32 → Nat} {k v : Int32} (hp : isP p) (hL : Lay t ad) (hR : RPar t ad p n par) (hk : ∃ j, 1 ≤ j ∧ j ≤ 15 ∧ k = nI j) (hv : k = 15 → ∃ g, v = nI g ∧ g < n) (h : post (some (.int (nI (k_ar par k v)))) t) : g_E cx (d + 1) i_Program_kids [.ref (ad p), .int k, .int v] t post := by
  refine x_Program_kids hp hL ⟨fun c => ?_, fun c => ?_, fun c => ?_, fun c => ?_, fun c => ?_⟩
  · refine x_Program_kids_76 hp hL ?_
    rw [show k_ar par k v = 0 from if_pos c] at h
    exact h
  · refine x_Program_kids_78 hp hL ?_
    rw [show k_ar par k v = 1 from by rcases c with rfl | rfl <;> simp [k_ar]] at h
    exact h
  · refine x_Program_kids_80 hp hL ?_
    rw [show k_ar par k v = 3 from by subst c; simp [k_ar]] at h
    exact h
  · obtain ⟨g, e, hg⟩ := hv c
    obtain ⟨hn, h1, h2⟩ := hR
    subst e
    rw [show k_ar par k (nI g) = par (nI g) from by subst c; simp [k_ar]] at h
    refine x_Program_kids_82 hp hL ⟨fun q => absurd q (nI_pos (by omega)), fun _ => ⟨fun q => ?_, fun _ => ⟨vp_in_nI (by omega) (by omega), ?_⟩⟩⟩
    · rw [h1] at q
      exact absurd q (nI_ge hg (by omega))
    · rw [nI_clamp (by omega), h2 g hg]
      exact h
  · refine x_Program_kids_105 hp hL ?_
    rw [show k_ar par k v = 2 from by
      obtain ⟨j, h1, h2, e⟩ := hk
      rcases c with c | c | c | c | c | c | c | c | c | c | c
      · rw [e, show (1 : Int32) = nI 1 from rfl, nI_ltI (by omega) (by omega)] at c; omega
      · rw [e, show (15 : Int32) = nI 15 from rfl, nI_ltI (by omega) (by omega)] at c; omega
      all_goals (rw [c]; simp [k_ar])] at h
    exact h
theorem adv_enter {n : Nat} {par : Int32 → Nat} {st : WS} {nx ev : Nat} {k v : Int32} (hp : isP p) (hw : isW w) (hL : Lay t ad) (hR : RPar t ad p n par) (h : RW t ad w p st nx ev) (he : ev < 3) (hd : ∀ q, st.getLast? = some q → q.2.2.2.1 < q.2.2.2.2 ∧ q.2.2.2.2 < 1000) (hs : st.length < 500) (hn : nx < c_len (p + 12)) (hk1 : t.2.1 (ad (p + 12)) nx = k) (hv1 : t.2.1 (ad (p + 13)) nx = v) (hk : ∃ j, 1 ≤ j ∧ j ≤ 15 ∧ k = nI j) (hv : k = 15 → ∃ g, v = nI g ∧ g < n)
    (hc : ∀ u, gFr ad (wP w) t u → RW u ad w p (st ++ [(nx, k, v, 0, k_ar par k v)]) (nx + 1) 1 → u.2.1 (ad w) 6 = nI st.length → post (some (.int 1)) u) : g_E cx (d + 3) i_Walk_advance [.ref (ad w)] t post := by
  have hl := hw.lt
  have hpg := hp.ge
  have hpl := hp.lt
  have hlen : c_len (p + 12) < 2 ^ 30 ∧ c_len (p + 13) = c_len (p + 12) := by rcases hp with rfl | rfl | rfl <;> decide
  obtain ⟨h1, h2, h3, h4, h5⟩ := h
  have key : g_E cx (d + 2) i_Walk_enterNext [.ref (ad w)] t (fun r u => ∃ y : Int32, r = some (.int y) ∧ Lay u ad ∧ (narrow .boolean (.int y) = .int y ∧ post (some (.int y)) u)) := by
    refine x_Walk_enterNext hp hw hL h1 ⟨fun c => ?_, fun _ => ⟨fun _ => ?_, fun c => ?_⟩⟩
    · rw [h3, show (500 : Int32) = nI 500 from rfl, nI_leI (by omega) (by omega)] at c
      omega
    · have E : ∀ {a b : Nat}, a < 199 → b < 199 → (ad a = ad b) = (a = b) := fun ha hb => hL.eq ha hb
      have o : ∀ a b : Nat, a ≠ b → (w + a = w + b) = False := fun a b h => by simp; omega
      intro t1 e1 t2 e2
      have l2 : t2.2.1 (ad w) 6 = nI st.length := by rw [e2, g_rd_at, e1, g_rd_k (by decide), h3]
      have n2 : t2.2.1 (ad w) 9 = nI nx := by rw [e2, g_rd_k (by decide), e1, g_rd_k (by decide), h4]
      have F2 : gFr ad (wP w) t t2 := by
        rw [e2, e1]
        exact ((gFr.rf hL).si (wP_in (j := 0) (by decide)) (by omega)).si (wP_in (j := 0) (by decide)) (by omega)
      have ne0 : ∀ j, 0 < j → j < 6 → ad w ≠ ad (w + j) := fun j h0 hj => F2.L.ne _ _ (by omega) (by omega) (by omega)
      rw [l2, nI_clamp (by omega), n2]
      refine ⟨vp_in_nI hs (by omega), fun t3 e3 => ?_⟩
      have F3 : gFr ad (wP w) t t3 := by rw [e3]; exact F2.si (wP_in (j := 1) (by decide)) (by omega)
      have l3 : t3.2.1 (ad w) 6 = nI st.length := by rw [e3, g_rd_ne (ne0 1 (by decide) (by decide)), l2]
      have n3 : t3.2.1 (ad w) 9 = nI nx := by rw [e3, g_rd_ne (ne0 1 (by decide) (by decide)), n2]
      have k3 : t3.2.1 (ad (p + 12)) nx = k := by rw [F3.i _ _ (wP_out (by omega)) (by omega)]; exact hk1
      rw [l3, nI_clamp (n := st.length) (by omega), n3, nI_clamp (n := nx) (by omega), k3]
      refine ⟨vp_in_nI hn (by omega), vp_in_nI hs (by omega), fun t4 e4 => ?_⟩
      have F4 : gFr ad (wP w) t t4 := by rw [e4]; exact F3.si (wP_in (j := 2) (by decide)) (by omega)
      have l4 : t4.2.1 (ad w) 6 = nI st.length := by rw [e4, g_rd_ne (ne0 2 (by decide) (by decide)), l3]
      have n4 : t4.2.1 (ad w) 9 = nI nx := by rw [e4, g_rd_ne (ne0 2 (by decide) (by decide)), n3]
      have v4 : t4.2.1 (ad (p + 13)) nx = v := by rw [F4.i _ _ (wP_out (by omega)) (by omega)]; exact hv1
      rw [l4, nI_clamp (n := st.length) (by omega), n4, nI_clamp (n := nx) (by omega), v4]
      refine ⟨vp_in_nI (by omega) (by omega), vp_in_nI hs (by omega), fun t5 e5 => ?_⟩
      have F5 : gFr ad (wP w) t t5 := by rw [e5]; exact F4.si (wP_in (j := 3) (by decide)) (by omega)
      have l5 : t5.2.1 (ad w) 6 = nI st.length := by rw [e5, g_rd_ne (ne0 3 (by decide) (by decide)), l4]
      have n5 : t5.2.1 (ad w) 9 = nI nx := by rw [e5, g_rd_ne (ne0 3 (by decide) (by decide)), n4]
      have k5 : t5.2.1 (ad (w + 2)) st.length = k := by rw [e5, g_rd_ne (F4.L.ne _ _ (by omega) (by omega) (by omega)), e4, g_rd_at]
      have v5 : t5.2.1 (ad (w + 3)) st.length = v := by rw [e5, g_rd_at]
      rw [l5, nI_clamp (n := st.length) (by omega), k5, v5]
      refine ⟨vp_in_nI hs (by omega), vp_in_nI hs (by omega), ?_⟩
      have R5 : RPar t5 ad p n par := ⟨hR.1, by rw [F5.i _ _ (wP_out (by omega)) (by omega)]; exact hR.2.1, fun g hg => by rw [F5.i _ _ (wP_out (by omega)) (by omega)]; exact hR.2.2 g hg⟩
      refine m_kids hp F5.L R5 hk hv ⟨_, rfl, F5.L, vp_in_nI hs (by omega), fun t8 e8 => ?_⟩
      have F8 : gFr ad (wP w) t t8 := by rw [e8]; exact F5.si (wP_in (j := 5) (by decide)) (by omega)
      have l8 : t8.2.1 (ad w) 6 = nI st.length := by rw [e8, g_rd_ne (ne0 5 (by decide) (by decide)), l5]
      have n8 : t8.2.1 (ad w) 9 = nI nx := by rw [e8, g_rd_ne (ne0 5 (by decide) (by decide)), n5]
      rw [l8, nI_clamp (n := st.length) (by omega)]
      refine ⟨vp_in_nI hs (by omega), fun t9 e9 t10 e10 t11 e11 => ?_⟩
      have F9 : gFr ad (wP w) t t9 := by rw [e9]; exact F8.si (wP_in (j := 4) (by decide)) (by omega)
      have d9 : t9.2.1 (ad w) 10 = nI st.length := by
        rw [e9, g_rd_ne (ne0 4 (by decide) (by decide)), e8, g_rd_ne (ne0 5 (by decide) (by decide)), e5, g_rd_ne (ne0 3 (by decide) (by decide)), e4, g_rd_ne (ne0 2 (by decide) (by decide)), e3, g_rd_ne (ne0 1 (by decide) (by decide)), e2, g_rd_k (by decide), e1, g_rd_k (by decide), h3]
      have n9 : t9.2.1 (ad w) 9 = nI nx := by rw [e9, g_rd_ne (ne0 4 (by decide) (by decide)), n8]
      rw [d9, nI_1] at e10
      have n10 : t10.2.1 (ad w) 9 = nI nx := by rw [e10, g_rd_k (by decide), n9]
      rw [n10, nI_1] at e11
      have F11 : gFr ad (wP w) t t11 := by
        rw [e11, e10]
        exact (F9.si (wP_in (j := 0) (by decide)) (by omega)).si (wP_in (j := 0) (by decide)) (by omega)
      refine ⟨1, rfl, F11.L, rfl, hc t11 F11 ?_ ?_⟩
      · have f : ∀ j k, 0 < j → j < 6 → t11.2.1 (ad (w + j)) k = t9.2.1 (ad (w + j)) k := fun j k h0 hj => by
          rw [e11, g_rd_ne (ne0 j h0 hj).symm, e10, g_rd_ne (ne0 j h0 hj).symm]
        have g0 : ∀ i j, 0 < j → j < 6 → i ≠ st.length → t9.2.1 (ad (w + j)) i = t.2.1 (ad (w + j)) i := fun i j h0 hj hi => by
          have st1 : ∀ (z : gSt) (j' : Nat) (x : Int32), 0 < j' → j' < 6 → (g_si z (ad (w + j')) st.length x).2.1 (ad (w + j)) i = z.2.1 (ad (w + j)) i := fun z j' x h0 hj => by
            by_cases e : j = j'
            · subst e; exact g_rd_k hi
            · exact g_rd_ne (F2.L.ne _ _ (by omega) (by omega) (by omega))
          rw [e9, st1 _ 4 _ (by decide) (by decide), e8, st1 _ 5 _ (by decide) (by decide), e5, st1 _ 3 _ (by decide) (by decide), e4, st1 _ 2 _ (by decide) (by decide), e3, st1 _ 1 _ (by decide) (by decide), e2, g_rd_ne (ne0 j h0 hj).symm, e1, g_rd_ne (ne0 j h0 hj).symm]
        refine ⟨?_, ?_, ?_, ?_, fun i q hq => ?_⟩
        · rw [e11, e10, e9, e8, e5, e4, e3, e2, e1]; exact h1
        · rw [e11, g_rd_k (by decide), e10, g_rd_k (by decide), e9, g_rd_ne (ne0 4 (by decide) (by decide)), e8, g_rd_ne (ne0 5 (by decide) (by decide)), e5, g_rd_ne (ne0 3 (by decide) (by decide)), e4, g_rd_ne (ne0 2 (by decide) (by decide)), e3, g_rd_ne (ne0 1 (by decide) (by decide)), e2, g_rd_k (by decide), e1, g_rd_at]
          rfl
        · rw [e11, g_rd_k (by decide), e10, g_rd_at, List.length_append]; rfl
        · rw [e11, g_rd_at]
        · rw [f 1 i (by decide) (by decide), f 2 i (by decide) (by decide), f 3 i (by decide) (by decide), f 4 i (by decide) (by decide), f 5 i (by decide) (by decide)]
          by_cases hi : i < st.length
          · rw [List.getElem?_append_left hi] at hq
            rw [g0 i 1 (by decide) (by decide) (by omega), g0 i 2 (by decide) (by decide) (by omega), g0 i 3 (by decide) (by decide) (by omega), g0 i 4 (by decide) (by decide) (by omega), g0 i 5 (by decide) (by decide) (by omega)]
            exact h5 i q hq
          · rw [List.getElem?_append_right (by omega)] at hq
            have hi0 : i - st.length = 0 := by
              by_cases z : i - st.length = 0
              · exact z
              · rw [List.getElem?_eq_none (by simp; omega)] at hq; cases hq
            rw [hi0] at hq
            have hq : q = (nx, k, v, 0, k_ar par k v) := by simpa using hq.symm
            have hi1 : i = st.length := by omega
            subst hq; subst hi1
            have nj : ∀ a b, a < 6 → b < 6 → a ≠ b → ad (w + a) ≠ ad (w + b) := fun a b ha hb h => F2.L.ne _ _ (by omega) (by omega) (by omega)
            refine ⟨?_, ?_, ?_, ?_, ?_⟩
            · rw [e9, g_rd_ne (nj 1 4 (by decide) (by decide) (by decide)), e8, g_rd_ne (nj 1 5 (by decide) (by decide) (by decide)), e5, g_rd_ne (nj 1 3 (by decide) (by decide) (by decide)), e4, g_rd_ne (nj 1 2 (by decide) (by decide) (by decide)), e3, g_rd_at]
            · rw [e9, g_rd_ne (nj 2 4 (by decide) (by decide) (by decide)), e8, g_rd_ne (nj 2 5 (by decide) (by decide) (by decide)), k5]
            · rw [e9, g_rd_ne (nj 3 4 (by decide) (by decide) (by decide)), e8, g_rd_ne (nj 3 5 (by decide) (by decide) (by decide)), v5]
            · rw [e9, g_rd_at]; rfl
            · rw [e9, g_rd_ne (nj 5 4 (by decide) (by decide) (by decide)), e8, g_rd_at]
      · rw [e11, g_rd_k (by decide), e10, g_rd_k (by decide), e9, g_rd_ne (ne0 4 (by decide) (by decide)), l8]
    · rw [h4, hL.pl2 hp 12 (by decide)] at c
      exact absurd (nI_lt hn (by omega)) c
  refine x_Walk_advance hw hL ⟨fun _ => ⟨fun _ => key, fun c => ?_⟩, fun c => ?_⟩
  · rw [h3] at c ⊢
    have hne : st.length ≠ 0 := fun z => c (by rw [z]; exact Int32.le_refl _)
    obtain ⟨m, hm⟩ : ∃ m, st.length = m + 1 := ⟨st.length - 1, by omega⟩
    rw [hm, nI_pred, nI_clamp (by omega)]
    obtain ⟨q, eq⟩ : ∃ q, st[m]? = some q := ⟨_, List.getElem?_eq_getElem (by omega)⟩
    have hlast : st.getLast? = some q := by rw [List.getLast?_eq_getElem?, hm]; exact eq
    have hh := hd q hlast
    have h55 := h5 m q eq
    rw [h55.2.2.2.1, h55.2.2.2.2]
    refine ⟨vp_in_nI (by omega) (by omega), vp_in_nI (by omega) (by omega), fun _ => key, fun c2 => ?_⟩
    exact absurd (nI_lt hh.1 (by omega)) c2
  · have c := Classical.not_not.mp c
    rw [h2, show (3 : Int32) = nI 3 from rfl, nI_eq (by omega) (by omega)] at c
    omega
theorem adv_leave {st : WS} {nx ev m : Nat} {nd : Nat} {k v : Int32} (hw : isW w) (hL : Lay t ad) (h : RW t ad w p (st ++ [(nd, k, v, m, m)]) nx ev) (he : ev < 3) (hs : st.length < 500) (hm : m < 1000)
    (hc : ∀ u, gFr ad (wP w) t u → RW u ad w p (st ++ [(nd, k, v, m, m)]) nx 3 → u.2.1 (ad w) 6 = nI st.length → post (some (.int 1)) u) : g_E cx (d + 1) i_Walk_advance [.ref (ad w)] t post := by
  have hl := hw.lt
  obtain ⟨h1, h2, h3, h4, h5⟩ := h
  rw [List.length_append] at h3
  have h3 : t.2.1 (ad w) 10 = nI (st.length + 1) := h3
  have h55 := h5 st.length (nd, k, v, m, m) (by simp)
  refine x_Walk_advance hw hL ⟨fun _ => ?_, fun c => ?_⟩
  · rw [h3, nI_pred, nI_clamp (by omega), h55.2.2.2.1, h55.2.2.2.2]
    refine ⟨fun c => ?_, fun c => ⟨vp_in_nI hs (by omega), vp_in_nI hs (by omega), fun c => absurd c (nI_nlt (a := m) (Nat.le_refl _) (by omega)), fun _ t5 e5 t6 e6 => ?_⟩⟩
    · exact absurd c (nI_nle (by omega) (by omega))
    · have d5 : t5.2.1 (ad w) 10 = nI (st.length + 1) := by rw [e5, g_rd_k (by decide), h3]
      rw [d5, nI_pred] at e6
      have F6 : gFr ad (wP w) t t6 := by
        rw [e6, e5]
        exact ((gFr.rf hL).si (wP_in (j := 0) (by decide)) (by omega)).si (wP_in (j := 0) (by decide)) (by omega)
      have f : ∀ j i, 0 < j → j < 6 → t6.2.1 (ad (w + j)) i = t.2.1 (ad (w + j)) i := fun j i h0 hj => by
        rw [e6, g_rd_ne (hL.ne _ _ (by omega) (by omega) (by omega)), e5, g_rd_ne (hL.ne _ _ (by omega) (by omega) (by omega))]
      refine hc t6 F6 ⟨?_, ?_, ?_, ?_, fun i q hq => ?_⟩ ?_
      · rw [e6, e5]; exact h1
      · rw [e6, g_rd_k (by decide), e5, g_rd_at]; rfl
      · rw [e6, g_rd_k (by decide), d5, List.length_append]; rfl
      · rw [e6, g_rd_k (by decide), e5, g_rd_k (by decide), h4]
      · rw [f 1 i (by decide) (by decide), f 2 i (by decide) (by decide), f 3 i (by decide) (by decide), f 4 i (by decide) (by decide), f 5 i (by decide) (by decide)]
        exact h5 i q hq
      · rw [e6, g_rd_at]
  · have c := Classical.not_not.mp c
    rw [h2, show (3 : Int32) = nI 3 from rfl, nI_eq (by omega) (by omega)] at c
    omega
theorem adv_behind {st : WS} {nx nd dn wn : Nat} {k v : Int32} {top : Nat × Int32 × Int32 × Nat × Nat} (hw : isW w) (hL : Lay t ad) (h : RW t ad w p (st ++ [(nd, k, v, dn, wn), top]) nx 3) (hs : st.length < 499)
    (hc : ∀ u, gFr ad (wP w) t u → RW u ad w p (st ++ [(nd, k, v, dn + 1, wn)]) nx 2 → u.2.1 (ad w) 6 = nI st.length → u.2.1 (ad w) 7 = nI dn → post (some (.int 1)) u) : g_E cx (d + 1) i_Walk_advance [.ref (ad w)] t post := by
  have hl := hw.lt
  obtain ⟨h1, h2, h3, h4, h5⟩ := h
  rw [List.length_append] at h3
  have h3 : t.2.1 (ad w) 10 = nI (st.length + 1 + 1) := h3
  have h55 := h5 st.length (nd, k, v, dn, wn) (by simp)
  refine x_Walk_advance hw hL ⟨fun c => absurd (by rw [h2]; rfl) c, fun _ t7 e7 => ?_⟩
  rw [h3, nI_pred] at e7
  have d7 : t7.2.1 (ad w) 10 = nI (st.length + 1) := by rw [e7, g_rd_at]
  rw [d7]
  refine ⟨fun _ t8 e8 t9 e9 => ?_, fun c => absurd (show (0 : Int32) < nI (st.length + 1) from nI_lt (a := 0) (by omega) (by omega)) c⟩
  have d8 : t8.2.1 (ad w) 10 = nI (st.length + 1) := by rw [e8, g_rd_k (by decide), d7]
  rw [d8, nI_pred] at e9
  have l9 : t9.2.1 (ad w) 6 = nI st.length := by rw [e9, g_rd_at]
  have ne0 : ∀ j, 0 < j → j < 6 → ad w ≠ ad (w + j) := fun j h0 hj => hL.ne _ _ (by omega) (by omega) (by omega)
  have f9 : ∀ j i, 0 < j → j < 6 → t9.2.1 (ad (w + j)) i = t.2.1 (ad (w + j)) i := fun j i h0 hj => by
    rw [e9, g_rd_ne (ne0 j h0 hj).symm, e8, g_rd_ne (ne0 j h0 hj).symm, e7, g_rd_ne (ne0 j h0 hj).symm]
  rw [l9, nI_clamp (by omega), f9 4 _ (by decide) (by decide), h55.2.2.2.1]
  refine ⟨vp_in_nI (by omega) (by omega), fun t10 e10 => ?_⟩
  have l10 : t10.2.1 (ad w) 6 = nI st.length := by rw [e10, g_rd_k (by decide), l9]
  have f10 : ∀ j i, 0 < j → j < 6 → t10.2.1 (ad (w + j)) i = t.2.1 (ad (w + j)) i := fun j i h0 hj => by
    rw [e10, g_rd_ne (ne0 j h0 hj).symm, f9 j i h0 hj]
  rw [l10, nI_clamp (by omega), f10 4 _ (by decide) (by decide), h55.2.2.2.1, nI_1]
  refine ⟨vp_in_nI (by omega) (by omega), vp_in_nI (by omega) (by omega), fun t11 e11 => ?_⟩
  have z : ∀ {q : gSt} {k : Nat} {x : Int32}, gFr ad (wP w) t q → gFr ad (wP w) t (g_si q (ad w) k x) := fun h => h.si (wP_in (j := 0) (by decide)) (by omega)
  have F10 : gFr ad (wP w) t t10 := by
    rw [e10, e9, e8, e7]
    exact z (z (z (z (gFr.rf hL))))
  have F11 : gFr ad (wP w) t t11 := by rw [e11]; exact F10.si (wP_in (j := 4) (by decide)) (by omega)
  have b11 : ∀ k, t11.2.1 (ad w) k = t10.2.1 (ad w) k := fun k => by rw [e11, g_rd_ne (ne0 4 (by decide) (by decide))]
  refine hc t11 F11 ⟨?_, ?_, ?_, ?_, fun i q hq => ?_⟩ ?_ ?_
  · rw [e11, e10, e9, e8, e7]; exact h1
  · rw [b11, e10, g_rd_k (by decide), e9, g_rd_k (by decide), e8, g_rd_at]; rfl
  · rw [b11, e10, g_rd_k (by decide), e9, g_rd_k (by decide), d8, List.length_append]; rfl
  · rw [b11, e10, g_rd_k (by decide), e9, g_rd_k (by decide), e8, g_rd_k (by decide), e7, g_rd_k (by decide), h4]
  · have nj : ∀ a, a < 6 → a ≠ 4 → ad (w + a) ≠ ad (w + 4) := fun a ha h => hL.ne _ _ (by omega) (by omega) (by omega)
    have o : ∀ j i, 0 < j → j < 6 → j ≠ 4 → t11.2.1 (ad (w + j)) i = t.2.1 (ad (w + j)) i := fun j i h0 hj h4 => by rw [e11, g_rd_ne (nj j hj h4), f10 j i h0 hj]
    rw [o 1 i (by decide) (by decide) (by decide), o 2 i (by decide) (by decide) (by decide), o 3 i (by decide) (by decide) (by decide), o 5 i (by decide) (by decide) (by decide)]
    by_cases hi : i < st.length
    · rw [List.getElem?_append_left hi] at hq
      rw [e11, g_rd_k (by omega), f10 4 i (by decide) (by decide)]
      exact h5 i q (by rw [List.getElem?_append_left hi]; exact hq)
    · rw [List.getElem?_append_right (by omega)] at hq
      have hi0 : i - st.length = 0 := by
        by_cases z : i - st.length = 0
        · exact z
        · rw [List.getElem?_eq_none (by simp; omega)] at hq; cases hq
      rw [hi0] at hq
      have hq : q = (nd, k, v, dn + 1, wn) := by simpa using hq.symm
      have hi1 : i = st.length := by omega
      subst hq; subst hi1
      refine ⟨h55.1, h55.2.1, h55.2.2.1, ?_, h55.2.2.2.2⟩
      rw [e11, g_rd_at]
  · rw [b11, l10]
  · rw [b11, e10, g_rd_at]
theorem adv_end {nx : Nat} {top : Nat × Int32 × Int32 × Nat × Nat} (hw : isW w) (hL : Lay t ad) (h : RW t ad w p [top] nx 3) (hc : ∀ u, gFr ad (wP w) t u → post (some (.int 0)) u) : g_E cx (d + 1) i_Walk_advance [.ref (ad w)] t post := by
  have hl := hw.lt
  obtain ⟨h1, h2, h3, h4, h5⟩ := h
  have h3 : t.2.1 (ad w) 10 = nI (0 + 1) := h3
  refine x_Walk_advance hw hL ⟨fun c => absurd (by rw [h2]; rfl) c, fun _ t7 e7 => ?_⟩
  rw [h3, nI_pred] at e7
  have d7 : t7.2.1 (ad w) 10 = nI 0 := by rw [e7, g_rd_at]
  rw [d7]
  refine ⟨fun c => absurd c (by decide), fun _ => hc t7 ?_⟩
  rw [e7]
  exact (gFr.rf hL).si (wP_in (j := 0) (by decide)) (by omega)
theorem m_begin {f s : Nat} (hp : isP p) (hw : isW w) (hL : Lay t ad) (hf : f < 24) (hs : t.2.1 (ad (p + 4)) f = nI s)
    (hc : ∀ u, gFr ad (wP w) t u → RW u ad w p [] s 0 → post none u) : g_E cx (d + 1) i_Walk_begin [.ref (ad w), .ref (ad p), .int (nI f)] t post := by
  have hl := hw.lt
  have hpg := hp.ge
  have hpl := hp.lt
  refine x_Walk_begin hp hw hL (fun t1 e1 => ⟨vp_in_nI hf (by omega), fun t3 e3 t4 e4 t5 e5 => ?_⟩)
  have F1 : gFr ad (wP w) t t1 := by rw [e1]; exact (gFr.rf hL).sr (wP_in (j := 0) (by decide)) (g_srow hw rfl)
  have s1 : t1.2.1 (ad (p + 4)) f = nI s := by rw [e1]; exact hs
  rw [nI_clamp (by omega), s1] at e3
  have z : ∀ {q : gSt} {k : Nat} {x : Int32}, gFr ad (wP w) t q → gFr ad (wP w) t (g_si q (ad w) k x) := fun h => h.si (wP_in (j := 0) (by decide)) (by omega)
  refine hc t5 (by rw [e5, e4, e3]; exact z (z (z F1))) ⟨?_, ?_, ?_, ?_, fun i q hq => by cases hq⟩
  · rw [e5, e4, e3]
    show t1.2.2.2 (ad w) 8 = _
    rw [e1, g_rr_at]
  · rw [e5, g_rd_at]; rfl
  · rw [e5, g_rd_k (by decide), e4, g_rd_at]; rfl
  · rw [e5, g_rd_k (by decide), e4, g_rd_k (by decide), e3, g_rd_at]
end WK
