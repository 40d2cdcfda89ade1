/-! A PASS OVER AN EXPRESSION, with the places of the nodes -/
section VS2
variable {ad : Nat → Nat} {w p n : Nat} {par : Int32 → Nat} {C : Int32 → Int32 → Prop} {σ : Type} {Hd : Nat → gSt → Prop} {Q : σ → gSt → Prop} {en lv bk : WS → σ → σ} {s0 : Nat} {L : List (Int32 × Int32)}
theorem vis_ok2 (hpar : ∀ v, par v ≤ 900) (hL : s0 + L.length ≤ c_len (p + 12)) (hQ : ∀ s t, Q s t → rows (t.2.1 (ad (p + 12))) (t.2.1 (ad (p + 13))) s0 L)
    (hE : ∀ m t s st nx ev k v, m < 1500 → RW t ad w p st nx ev → Q s t → ev < 3 → (∀ q, st.getLast? = some q → q.2.2.2.1 < q.2.2.2.2 ∧ q.2.2.2.2 < 1000) → st.length < 500 → nx < c_len (p + 12) → s0 ≤ nx → L[nx - s0]? = some (k, v) → t.2.1 (ad (p + 12)) nx = k → t.2.1 (ad (p + 13)) nx = v → (∃ j, 1 ≤ j ∧ j ≤ 15 ∧ k = nI j) → (k = 15 → ∃ g, v = nI g ∧ g < n) → C k v → (∀ u, RW u ad w p (st ++ [(nx, k, v, 0, k_ar par k v)]) (nx + 1) 1 → Q (en (st ++ [(nx, k, v, 0, k_ar par k v)]) s) u → Hd (m + 1) u) → Hd m t)
    (hLv : ∀ m t s st nx ev nd k v, m < 1500 → RW t ad w p (st ++ [(nd, k, v, k_ar par k v, k_ar par k v)]) nx ev → Q s t → ev < 3 → st.length < 500 → s0 ≤ nd → L[nd - s0]? = some (k, v) → C k v → (k = 15 → ∃ g, v = nI g ∧ g < n) → (∃ j, 1 ≤ j ∧ j ≤ 15 ∧ k = nI j) → (∀ u, RW u ad w p (st ++ [(nd, k, v, k_ar par k v, k_ar par k v)]) nx 3 → Q (lv (st ++ [(nd, k, v, k_ar par k v, k_ar par k v)]) s) u → Hd (m + 1) u) → Hd m t)
    (hB : ∀ m t s st nx nd k v dn top, m < 1500 → RW t ad w p (st ++ [(nd, k, v, dn, k_ar par k v), top]) nx 3 → Q s t → st.length < 499 → s0 ≤ nd → L[nd - s0]? = some (k, v) → dn < k_ar par k v → C k v → (k = 15 → ∃ g, v = nI g ∧ g < n) → (∃ j, 1 ≤ j ∧ j ≤ 15 ∧ k = nI j) → (∀ u, RW u ad w p (st ++ [(nd, k, v, dn + 1, k_ar par k v)]) nx 2 → Q (bk (st ++ [(nd, k, v, dn + 1, k_ar par k v)]) s) u → Hd (m + 1) u) → Hd m t) :
    ∀ (F : Fo) (st : WS) (nd : Nat) (k v : Int32) (c : Nat) (pre rest : List (Int32 × Int32)) (m ev : Nat) (s : σ) (t : gSt), fo_v n par C F → L = pre ++ fo_p F ++ rest → st.length + 1 + fo_n F ≤ 500 → m + 3 * fo_n F < 1500 → c + fo_l F = k_ar par k v → C k v → (k = 15 → ∃ g, v = nI g ∧ g < n) → (∃ j, 1 ≤ j ∧ j ≤ 15 ∧ k = nI j) → s0 ≤ nd → L[nd - s0]? = some (k, v) → ev < 3 →
      RW t ad w p (st ++ [(nd, k, v, c, k_ar par k v)]) (s0 + pre.length) ev → Q s t → (∀ u ev', ev' < 3 → RW u ad w p (st ++ [(nd, k, v, k_ar par k v, k_ar par k v)]) (s0 + pre.length + fo_n F) ev' → Q (vis en lv bk F st (nd, k, v, c, k_ar par k v) (s0 + pre.length) s) u → Hd (m + 3 * fo_n F) u) → Hd m t
  | .leaf, st, nd, k, v, c, pre, rest, m, ev, s, t, _, _, _, _, hc, _, _, _, _, _, hev, hR, hq, hK => by
    have hc : c = k_ar par k v := hc
    rw [hc] at hR
    exact hK t ev hev hR hq
  | .inner z k2 v2 a b, st, nd, k, v, c, pre, rest, m, ev, s, t, hv, hl, hd, hm, hc, hC, hg, hk, hn1, hn2, hev, hR, hq, hK => by
    have hn : fo_n (.inner z k2 v2 a b) = fo_n a + 1 + fo_n b := rfl
    have hll : fo_l (.inner z k2 v2 a b) = fo_l b + 1 := rfl
    obtain ⟨⟨v1, v3, v4, v5⟩, va, vb⟩ := hv
    have hkar : ∀ k v, k_ar par k v < 1000 := by
      intro k v
      have := hpar v
      unfold k_ar
      split
      · omega
      · split
        · omega
        · split
          · omega
          · split <;> omega
    have el : L = pre ++ (k2, v2) :: (fo_p a ++ fo_p b ++ rest) := by rw [hl]; simp [fo_p]
    have ell : L.length = pre.length + (fo_n a + 1 + fo_n b) + rest.length := by rw [hl, List.length_append, List.length_append, fo_pn, hn]
    have hrow0 : L[s0 + pre.length - s0]? = some (k2, v2) := by rw [Nat.add_sub_cancel_left, el]; simp
    have hrow := hQ s t hq pre.length (k2, v2) (by rw [el]; simp)
    refine hE m t s _ _ ev k2 v2 (by omega) hR hq hev (fun q e => ?_) (by simp; omega) (by omega) (by omega) hrow0 hrow.1 hrow.2 v1 v4 v5 (fun u1 R1 Q1 => ?_)
    · rw [List.getLast?_append] at e
      have e : q = (nd, k, v, c, k_ar par k v) := by simpa using e.symm
      subst e
      exact ⟨(show c < k_ar par k v by omega), hkar k v⟩
    · rw [← v3] at R1 Q1
      have ea : L = (pre ++ [(k2, v2)]) ++ fo_p a ++ (fo_p b ++ rest) := by rw [hl]; simp [fo_p]
      have epl : (pre ++ [(k2, v2)]).length = pre.length + 1 := by simp
      refine vis_ok2 hpar hL hQ hE hLv hB a (st ++ [(nd, k, v, c, k_ar par k v)]) (s0 + pre.length) k2 v2 0 (pre ++ [(k2, v2)]) (fo_p b ++ rest) (m + 1) 1 _ u1 va ea (by simp; omega) (by omega) (by omega) v5 v4 v1 (by omega) hrow0 (by decide) ?_ Q1 (fun u2 ev2 hev2 R2 Q2 => ?_)
      · rw [epl, ← v3]; exact R1
      · refine hLv _ u2 _ _ _ ev2 _ k2 v2 (by omega) R2 Q2 hev2 (by simp; omega) (by omega) hrow0 v5 v4 v1 (fun u3 R3 Q3 => ?_)
        rw [List.append_assoc] at R3
        refine hB _ u3 _ st _ nd k v c _ (by omega) R3 Q3 (by omega) hn1 hn2 (by omega) hC hg hk (fun u4 R4 Q4 => ?_)
        have eb : L = (pre ++ (k2, v2) :: fo_p a) ++ fo_p b ++ rest := by rw [hl]; simp [fo_p]
        have epl2 : (pre ++ (k2, v2) :: fo_p a).length = pre.length + 1 + fo_n a := by simp [fo_pn]; omega
        refine vis_ok2 hpar hL hQ hE hLv hB b st nd k v (c + 1) (pre ++ (k2, v2) :: fo_p a) rest (m + 1 + 3 * fo_n a + 1 + 1) 2 _ u4 vb eb (by omega) (by omega) (by omega) hC hg hk hn1 hn2 (by decide) ?_ Q4 (fun u5 ev5 hev5 R5 Q5 => ?_)
        · rw [epl2]
          rw [epl] at R4
          rw [show s0 + (pre.length + 1 + fo_n a) = s0 + (pre.length + 1) + fo_n a by omega]
          exact R4
        · have e1 : m + 1 + 3 * fo_n a + 1 + 1 + 3 * fo_n b = m + 3 * fo_n (.inner z k2 v2 a b) := by rw [hn]; omega
          rw [e1]
          refine hK u5 ev5 hev5 ?_ ?_
          · rw [epl2] at R5
            rw [hn, show s0 + pre.length + (fo_n a + 1 + fo_n b) = s0 + (pre.length + 1 + fo_n a) + fo_n b by omega]
            exact R5
          · rw [epl2] at Q5
            rw [epl, ← v3] at Q5
            have e2 : s0 + (pre.length + 1 + fo_n a) = s0 + pre.length + 1 + fo_n a := by omega
            have e3 : s0 + (pre.length + 1) = s0 + pre.length + 1 := by omega
            rw [e2, e3] at Q5
            exact Q5
theorem visT_ok2 (hpar : ∀ v, par v ≤ 900) (hL : s0 + L.length ≤ c_len (p + 12)) (hQ : ∀ s t, Q s t → rows (t.2.1 (ad (p + 12))) (t.2.1 (ad (p + 13))) s0 L)
    (hE : ∀ m t s st nx ev k v, m < 1500 → RW t ad w p st nx ev → Q s t → ev < 3 → (∀ q, st.getLast? = some q → q.2.2.2.1 < q.2.2.2.2 ∧ q.2.2.2.2 < 1000) → st.length < 500 → nx < c_len (p + 12) → s0 ≤ nx → L[nx - s0]? = some (k, v) → t.2.1 (ad (p + 12)) nx = k → t.2.1 (ad (p + 13)) nx = v → (∃ j, 1 ≤ j ∧ j ≤ 15 ∧ k = nI j) → (k = 15 → ∃ g, v = nI g ∧ g < n) → C k v → (∀ u, RW u ad w p (st ++ [(nx, k, v, 0, k_ar par k v)]) (nx + 1) 1 → Q (en (st ++ [(nx, k, v, 0, k_ar par k v)]) s) u → Hd (m + 1) u) → Hd m t)
    (hLv : ∀ m t s st nx ev nd k v, m < 1500 → RW t ad w p (st ++ [(nd, k, v, k_ar par k v, k_ar par k v)]) nx ev → Q s t → ev < 3 → st.length < 500 → s0 ≤ nd → L[nd - s0]? = some (k, v) → C k v → (k = 15 → ∃ g, v = nI g ∧ g < n) → (∃ j, 1 ≤ j ∧ j ≤ 15 ∧ k = nI j) → (∀ u, RW u ad w p (st ++ [(nd, k, v, k_ar par k v, k_ar par k v)]) nx 3 → Q (lv (st ++ [(nd, k, v, k_ar par k v, k_ar par k v)]) s) u → Hd (m + 1) u) → Hd m t)
    (hB : ∀ m t s st nx nd k v dn top, m < 1500 → RW t ad w p (st ++ [(nd, k, v, dn, k_ar par k v), top]) nx 3 → Q s t → st.length < 499 → s0 ≤ nd → L[nd - s0]? = some (k, v) → dn < k_ar par k v → C k v → (k = 15 → ∃ g, v = nI g ∧ g < n) → (∃ j, 1 ≤ j ∧ j ≤ 15 ∧ k = nI j) → (∀ u, RW u ad w p (st ++ [(nd, k, v, dn + 1, k_ar par k v)]) nx 2 → Q (bk (st ++ [(nd, k, v, dn + 1, k_ar par k v)]) s) u → Hd (m + 1) u) → Hd m t)
    {F : Fo} {s : σ} {t : gSt} (h1 : fo_l F = 1) (hv : fo_v n par C F) (hl : L = fo_p F) (hn : fo_n F ≤ 500) (hR : RW t ad w p [] s0 0) (hq : Q s t) (hK : ∀ u top nx, RW u ad w p [top] nx 3 → Q (visT en lv bk F s0 s) u → Hd (3 * fo_n F - 1) u) : Hd 0 t := by
  match F, h1, hv, hl, hn, hK with
  | .inner z k v a b, h1, hv, hl, hn, hK =>
    match b, h1, hv, hl, hn, hK with
    | .inner _ _ _ _ _, h1, _, _, _, _ => exact absurd h1 (by simp [fo_l])
    | .leaf, h1, hv, hl, hn, hK =>
      have en' : fo_n (.inner z k v a .leaf) = fo_n a + 1 := rfl
      obtain ⟨⟨v1, v3, v4, v5⟩, va, vb⟩ := hv
      have el : L = (k, v) :: fo_p a := by rw [hl]; simp [fo_p]
      have ell : L.length = fo_n a + 1 := by rw [el, List.length_cons, fo_pn]
      have hrow0 : L[s0 - s0]? = some (k, v) := by rw [Nat.sub_self, el]; rfl
      have hrow := hQ s t hq 0 (k, v) (by rw [el]; rfl)
      refine hE 0 t s [] s0 0 k v (by decide) hR hq (by decide) (fun q e => by cases e) (by decide) (by omega) (by omega) hrow0 hrow.1 hrow.2 v1 v4 v5 (fun u1 R1 Q1 => ?_)
      refine vis_ok2 hpar hL hQ hE hLv hB a [] s0 k v 0 [(k, v)] [] 1 1 _ u1 va (by rw [el]; simp) (by simp; omega) (by omega) (by omega) v5 v4 v1 (by omega) hrow0 (by decide) R1 Q1 (fun u2 ev2 hev2 R2 Q2 => ?_)
      refine hLv _ u2 _ [] _ ev2 _ k v (by omega) R2 Q2 hev2 (by decide) (by omega) hrow0 v5 v4 v1 (fun u3 R3 Q3 => ?_)
      have e : 1 + 3 * fo_n a + 1 = 3 * fo_n (.inner z k v a .leaf) - 1 := by omega
      rw [e]
      refine hK u3 _ _ R3 ?_
      rw [← v3] at Q3
      exact Q3
end VS2
