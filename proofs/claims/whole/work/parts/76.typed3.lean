/-! THE CODE IS TYPED: sequences, lets, ifs; all -/
section TY3
variable {A : List Fn} {own S T n0 : Nat} {H : Nat → Nat × Nat} {tl : Bool}
section HX
variable {y1 y2 y3 : Nat} {k1 v1 k2 v2 k3 v3 v : Int32} {a1 a2 a3 : Fo} {e : Bool} {n h o : Nat} {σ : Int32 → Nat}
theorem hX12 : hX tl 12 (.inner y1 k1 v1 a1 (.inner y2 k2 v2 a2 .leaf)) e n h = (hX tl k1 a1 (e && kLast 12 0) n h ++ [(h + 1, n)] ++ (hX tl k2 a2 (e && kLast 12 1) n h ++ [] ++ [])) ++ [] := rfl
theorem hX14 : hX tl 14 (.inner y1 k1 v1 a1 (.inner y2 k2 v2 a2 .leaf)) e n h = (hX tl k1 a1 (e && kLast 14 0) n h ++ [(h + 1, n)] ++ (hX tl k2 a2 (e && kLast 14 1) (n + 1) h ++ [] ++ [])) ++ [] := rfl
theorem hX13 : hX tl 13 (.inner y1 k1 v1 a1 (.inner y2 k2 v2 a2 (.inner y3 k3 v3 a3 .leaf))) e n h = (hX tl k1 a1 (e && kLast 13 0) n h ++ [(h + 1, n)] ++ (hX tl k2 a2 (e && kLast 13 1) n h ++ hS 13 1 e h n ++ (hX tl k3 a3 (e && kLast 13 2) n h ++ [] ++ []))) ++ [] := rfl
theorem sq_ec : eXn tl own 12 v (.inner y1 k1 v1 a1 (.inner y2 k2 v2 a2 .leaf)) e = eXn tl own k1 v1 a1 (e && kLast 12 0) + 1 + (eXn tl own k2 v2 a2 (e && kLast 12 1) + 0 + 0) + 0 := rfl
theorem lt_ec : eXn tl own 14 v (.inner y1 k1 v1 a1 (.inner y2 k2 v2 a2 .leaf)) e = eXn tl own k1 v1 a1 (e && kLast 14 0) + 1 + (eXn tl own k2 v2 a2 (e && kLast 14 1) + 0 + 0) + 0 := rfl
theorem sq_ex : eX tl own 12 v (.inner y1 k1 v1 a1 (.inner y2 k2 v2 a2 .leaf)) e n σ o = (eX tl own k1 v1 a1 (e && kLast 12 0) n σ o ++ [(12, 0)] ++ (eX tl own k2 v2 a2 (e && kLast 12 1) n σ (o + (eXn tl own k1 v1 a1 (e && kLast 12 0) + 1)) ++ [] ++ [])) ++ [] := rfl
theorem lt_ex : eX tl own 14 v (.inner y1 k1 v1 a1 (.inner y2 k2 v2 a2 .leaf)) e n σ o = (eX tl own k1 v1 a1 (e && kLast 14 0) n σ o ++ [(13, nI n)] ++ (eX tl own k2 v2 a2 (e && kLast 14 1) (n + 1) (fun w => if w = v then n else σ w) (o + (eXn tl own k1 v1 a1 (e && kLast 14 0) + 1)) ++ [] ++ [])) ++ [] := rfl
theorem sq_em {m : Nat} : tM tl 12 (.inner y1 k1 v1 a1 (.inner y2 k2 v2 a2 .leaf)) e h m = tM tl k2 a2 (e && kLast 12 1) h (tM tl k1 a1 (e && kLast 12 0) h m) := rfl
theorem lt_em {m : Nat} : tM tl 14 (.inner y1 k1 v1 a1 (.inner y2 k2 v2 a2 .leaf)) e h m = tM tl k2 a2 (e && kLast 14 1) h (tM tl k1 a1 (e && kLast 14 0) h m) := rfl
theorem sq_ez {z : Nat} : tZ 12 v (.inner y1 k1 v1 a1 (.inner y2 k2 v2 a2 .leaf)) n σ z = tZ k2 v2 a2 n σ (tZ k1 v1 a1 n σ z) := rfl
theorem lt_ez {z : Nat} : tZ 14 v (.inner y1 k1 v1 a1 (.inner y2 k2 v2 a2 .leaf)) n σ z = tZ k2 v2 a2 (n + 1) (fun w => if w = v then n else σ w) (max (tZ k1 v1 a1 n σ z) (n + 1)) := rfl
end HX
theorem fo_w_15 {N : Nat} {par : Int32 → Nat} {y : Nat} {k v : Int32} {a b : Fo} {Sc : Nat → List Int32} (h : fo_w N par (.inner y k v a b) Sc) : k = 15 → ∃ g, v = nI g ∧ g < N := h.2.2.2.1
theorem ct_seq {v : Int32} {a : Fo} (C : CYs A own S T n0 H tl a) (TT : THs tl a) : CY A own S T n0 H tl 12 v a := by
  intro e n σ Sc h m z o hH hE hn hW h15 hs hm hM hz hZ
  obtain ⟨w1, w2, w3, w4, w5, w6⟩ := hW
  obtain ⟨y1, k1, v1, a1, y2, k2, v2, a2, rfl⟩ := fo_l2 w2
  obtain ⟨C1, C2, _⟩ := C
  have t1 := TT.1 h m hm
  have etb : tB 12 v (.inner y1 k1 v1 a1 (.inner y2 k2 v2 a2 .leaf)) = tB k1 v1 a1 ++ (tB k2 v2 a2 ++ []) := rfl
  rw [List.append_nil] at etb
  rw [etb] at w5 w6
  rw [k_sc_g (by decide)] at w4
  have hd := List.nodup_append.mp w5
  have c1 := fo_w_15 w4
  obtain ⟨x1, x2⟩ := fo_w_in w4 hd.1 (fun w hw => w6 w (List.mem_append.mpr (Or.inl hw)))
  have c2 := fo_w_15 x2
  obtain ⟨x3, _⟩ := fo_w_in x2 hd.2.1 (fun w hw => w6 w (List.mem_append.mpr (Or.inr hw)))
  have l0 : (e && kLast 12 0) = false := by cases e <;> rfl
  have l1 : (e && kLast 12 1) = e := by cases e <;> rfl
  rw [sq_ec, l0, l1] at hn hE
  rw [sq_em, l0, l1] at hM
  rw [sq_ez] at hZ
  rw [hX12, l0, l1] at hH
  rw [sq_ex, l0, l1]
  simp only [List.append_nil, Nat.add_zero] at hH hn hE ⊢
  obtain ⟨H1, H2⟩ := hH.app
  obtain ⟨H3, H4⟩ := H1.app
  rw [List.length_append, hX_len (own := own) (v := v1)] at H2
  rw [hX_len (own := own) (v := v1)] at H4
  have h1 : H (o + eXn tl own k1 v1 a1 false) = (h + 1, n) := H4 0 _ rfl
  have h2 : H (o + (eXn tl own k1 v1 a1 false + 1)) = (h, n) := H2 0 _ (hX_0 x3 e n h)
  have mg := tM_ge' (tl := tl) (k := k2) (a := a2) (e := e) (h := h) (m := tM tl k1 a1 false h m)
  have zg := tZ_ge' (k := k2) (v := v2) (a := a2) (n := n) (σ := σ) (z := tZ k1 v1 a1 n σ z)
  have zg1 := tZ_ge' (k := k1) (v := v1) (a := a1) (n := n) (σ := σ) (z := z)
  have p2 : 0 < eXn tl own k2 v2 a2 e := by
    have := hX_0 (tl := tl) x3 e n h
    rcases Nat.eq_zero_or_pos (eXn tl own k2 v2 a2 e) with c | c
    · rw [List.getElem?_eq_none (by rw [hX_len (own := own) (v := v2)]; omega)] at this; cases this
    · exact c
  refine CT.app (CT.app (C1 false n σ Sc h m z o H3 (fun _ => ⟨by rw [h1], by rw [h1]; exact Nat.le_refl _, by omega⟩) (by omega) x1 c1 hs hm (by omega) hz (by omega)) ?_) ?_
  · rw [eX_len]
    refine CT.one ⟨by rw [h1]; show h + 1 ≤ T; omega, by rw [h1]; show n ≤ S; omega, Or.inr (Or.inr (Or.inr (Or.inr (Or.inl ⟨rfl, by omega, ?_, ?_⟩))))⟩
    · rw [show o + eXn tl own k1 v1 a1 false + 1 = o + (eXn tl own k1 v1 a1 false + 1) by omega, h2, h1]
    · rw [show o + eXn tl own k1 v1 a1 false + 1 = o + (eXn tl own k1 v1 a1 false + 1) by omega, h2, h1]
      exact Nat.le_refl _
  · rw [List.length_append, eX_len]
    refine C2 e n σ Sc h _ _ _ H2 (fun c => ?_) (by simp only [List.length_cons, List.length_nil]; omega) x3 c2 hs (by omega) hM (by omega) hZ
    have := hE c
    rwa [show o + (eXn tl own k1 v1 a1 false + 1 + eXn tl own k2 v2 a2 e) = o + (eXn tl own k1 v1 a1 false + 1) + eXn tl own k2 v2 a2 e by omega] at this
theorem ct_let {v : Int32} {a : Fo} (C : CYs A own S T n0 H tl a) (TT : THs tl a) : CY A own S T n0 H tl 14 v a := by
  intro e n σ Sc h m z o hH hE hn hW h15 hs hm hM hz hZ
  obtain ⟨w1, w2, w3, w4, w5, w6⟩ := hW
  obtain ⟨y1, k1, v1, a1, y2, k2, v2, a2, rfl⟩ := fo_l2 w2
  obtain ⟨C1, C2, _⟩ := C
  have t1 := TT.1 h m hm
  have etb : tB 14 v (.inner y1 k1 v1 a1 (.inner y2 k2 v2 a2 .leaf)) = v :: (tB k1 v1 a1 ++ (tB k2 v2 a2 ++ [])) := rfl
  rw [List.append_nil] at etb
  rw [etb] at w5 w6
  obtain ⟨hnv, w5⟩ := List.nodup_cons.mp w5
  have w6' : ∀ w ∈ tB k1 v1 a1 ++ tB k2 v2 a2, w ∉ Sc ∧ ∃ j, w = nI j ∧ j < 120 := fun w hw => w6 w (List.mem_cons_of_mem _ hw)
  have hd := List.nodup_append.mp w5
  have c1 := fo_w_15 w4
  obtain ⟨x1, x2⟩ := fo_w_in w4 hd.1 (fun w hw => w6' w (List.mem_append.mpr (Or.inl hw)))
  have c2 := fo_w_15 x2
  obtain ⟨x3, _⟩ := fo_w_in x2 hd.2.1 (fun w hw => by
    obtain ⟨p1, p2⟩ := w6' w (List.mem_append.mpr (Or.inr hw))
    refine ⟨?_, p2⟩
    show ¬ w ∈ v :: Sc
    intro c
    rcases List.mem_cons.mp c with c | c
    · exact hnv (by rw [← c]; exact List.mem_append.mpr (Or.inr hw))
    · exact p1 c)
  have x1 : tW A.length (parOf A) k1 v1 a1 Sc := x1
  have x3 : tW A.length (parOf A) k2 v2 a2 (v :: Sc) := x3
  have l0 : (e && kLast 14 0) = false := by cases e <;> rfl
  have l1 : (e && kLast 14 1) = e := by cases e <;> rfl
  rw [lt_ec, l0, l1] at hn hE
  rw [lt_em, l0, l1] at hM
  rw [lt_ez] at hZ
  rw [hX14, l0, l1] at hH
  rw [lt_ex, l0, l1]
  simp only [List.append_nil, Nat.add_zero] at hH hn hE ⊢
  obtain ⟨H1, H2⟩ := hH.app
  obtain ⟨H3, H4⟩ := H1.app
  rw [List.length_append, hX_len (own := own) (v := v1)] at H2
  rw [hX_len (own := own) (v := v1)] at H4
  have h1 : H (o + eXn tl own k1 v1 a1 false) = (h + 1, n) := H4 0 _ rfl
  have h2 : H (o + (eXn tl own k1 v1 a1 false + 1)) = (h, n + 1) := H2 0 _ (hX_0 x3 e (n + 1) h)
  have mg := tM_ge' (tl := tl) (k := k2) (a := a2) (e := e) (h := h) (m := tM tl k1 a1 false h m)
  have zg := tZ_ge' (k := k2) (v := v2) (a := a2) (n := n + 1) (σ := fun w => if w = v then n else σ w) (z := max (tZ k1 v1 a1 n σ z) (n + 1))
  have zg1 := tZ_ge' (k := k1) (v := v1) (a := a1) (n := n) (σ := σ) (z := z)
  have p2 : 0 < eXn tl own k2 v2 a2 e := by
    have := hX_0 (tl := tl) x3 e n h
    rcases Nat.eq_zero_or_pos (eXn tl own k2 v2 a2 e) with c | c
    · rw [List.getElem?_eq_none (by rw [hX_len (own := own) (v := v2)]; omega)] at this; cases this
    · exact c
  refine CT.app (CT.app (C1 false n σ Sc h m z o H3 (fun _ => ⟨by rw [h1], by rw [h1]; exact Nat.le_refl _, by omega⟩) (by omega) x1 c1 hs hm (by omega) hz (by omega)) ?_) ?_
  · rw [eX_len]
    have e1 : o + eXn tl own k1 v1 a1 false + 1 = o + (eXn tl own k1 v1 a1 false + 1) := by omega
    refine CT.one ⟨by rw [h1]; show h + 1 ≤ T; omega, by rw [h1]; show n ≤ S; omega, Or.inr (Or.inr (Or.inr (Or.inr (Or.inr (Or.inl ⟨rfl, ⟨n, rfl, by omega, ?_, ?_⟩, by omega, ?_⟩)))))⟩
    · rw [h1]; exact Nat.le_refl _
    · rw [e1, h2, h1]; show n + 1 ≤ max (n + 1) n; omega
    · rw [e1, h2, h1]
  · rw [List.length_append, eX_len]
    refine C2 e (n + 1) _ (v :: Sc) h _ _ _ H2 (fun c => ?_) (by simp only [List.length_cons, List.length_nil]; omega) x3 c2 ?_ (by omega) hM (by omega) hZ
    · have := hE c
      rw [show o + (eXn tl own k1 v1 a1 false + 1 + eXn tl own k2 v2 a2 e) = o + (eXn tl own k1 v1 a1 false + 1) + eXn tl own k2 v2 a2 e by omega] at this
      exact ⟨this.1, Nat.le_trans this.2.1 (Nat.le_succ n), this.2.2⟩
    · intro w hw
      show (if w = v then n else σ w) < n + 1
      split
      · omega
      · rename_i c
        rcases List.mem_cons.mp hw with q | q
        · exact absurd q c
        · have := hs w q
          omega
theorem ct_if {v : Int32} {a : Fo} (C : CYs A own S T n0 H tl a) (TT : THs tl a) : CY A own S T n0 H tl 13 v a := by
  intro e n σ Sc h m z o hH hE hn hW h15 hs hm hM hz hZ
  obtain ⟨w1, w2, w3, w4, w5, w6⟩ := hW
  obtain ⟨y1, k1, v1, a1, y2, k2, v2, a2, y3, k3, v3, a3, rfl⟩ := fo_l3 w2
  obtain ⟨C1, C2, C3, _⟩ := C
  have t1 := TT.1 h m hm
  have etb : tB 13 v (.inner y1 k1 v1 a1 (.inner y2 k2 v2 a2 (.inner y3 k3 v3 a3 .leaf))) = tB k1 v1 a1 ++ (tB k2 v2 a2 ++ (tB k3 v3 a3 ++ [])) := rfl
  rw [List.append_nil] at etb
  rw [etb] at w5 w6
  rw [k_sc_g (by decide)] at w4
  have hd := List.nodup_append.mp w5
  have hd2 := List.nodup_append.mp hd.2.1
  have c1 := fo_w_15 w4
  obtain ⟨x1, x2⟩ := fo_w_in w4 hd.1 (fun w hw => w6 w (List.mem_append.mpr (Or.inl hw)))
  have c2 := fo_w_15 x2
  obtain ⟨x3, x4⟩ := fo_w_in x2 hd2.1 (fun w hw => w6 w (List.mem_append.mpr (Or.inr (List.mem_append.mpr (Or.inl hw)))))
  have c3 := fo_w_15 x4
  obtain ⟨x5, _⟩ := fo_w_in x4 hd2.2.1 (fun w hw => w6 w (List.mem_append.mpr (Or.inr (List.mem_append.mpr (Or.inr hw)))))
  have l0 : (e && kLast 13 0) = false := by cases e <;> rfl
  have l1 : (e && kLast 13 1) = e := by cases e <;> rfl
  have l2 : (e && kLast 13 2) = e := by cases e <;> rfl
  rw [if_ec, l0, l1, l2] at hn hE
  rw [if_em, l0, l1, l2] at hM
  rw [if_ez] at hZ
  rw [hX13, l0, l1, l2] at hH
  simp only [List.append_nil, Nat.add_zero] at hH hn hE
  have p2 : 0 < eXn tl own k2 v2 a2 e := by
    have := hX_0 (tl := tl) x3 e n h
    rcases Nat.eq_zero_or_pos (eXn tl own k2 v2 a2 e) with c | c
    · rw [List.getElem?_eq_none (by rw [hX_len (own := own) (v := v2)]; omega)] at this; cases this
    · exact c
  have p3 : 0 < eXn tl own k3 v3 a3 e := by
    have := hX_0 (tl := tl) x5 e n h
    rcases Nat.eq_zero_or_pos (eXn tl own k3 v3 a3 e) with c | c
    · rw [List.getElem?_eq_none (by rw [hX_len (own := own) (v := v3)]; omega)] at this; cases this
    · exact c
  have hSl : (hS 13 1 e h n).length = (eS 13 1 e 0 0).length := hS_len
  obtain ⟨H1, H2⟩ := hH.app
  obtain ⟨H3, H4⟩ := H1.app
  rw [List.length_append, hX_len (own := own) (v := v1)] at H2
  rw [hX_len (own := own) (v := v1)] at H4
  obtain ⟨H5, H6⟩ := H2.app
  obtain ⟨H7, H8⟩ := H5.app
  rw [List.length_append, hX_len (own := own) (v := v2), hSl] at H6
  rw [hX_len (own := own) (v := v2)] at H8
  simp only [List.length_cons, List.length_nil, Nat.zero_add] at H2 H5 H6 H7 H8
  have h1 : H (o + eXn tl own k1 v1 a1 false) = (h + 1, n) := H4 0 _ rfl
  have h2 : H (o + (eXn tl own k1 v1 a1 false + 1)) = (h, n) := H7 0 _ (hX_0 x3 e n h)
  have h3 : H (o + (eXn tl own k1 v1 a1 false + 1) + (eXn tl own k2 v2 a2 e + (eS 13 1 e 0 0).length)) = (h, n) := H6 0 _ (hX_0 x5 e n h)
  have mg1 := tM_ge' (tl := tl) (k := k2) (a := a2) (e := e) (h := h) (m := tM tl k1 a1 false h m)
  have mg := tM_ge' (tl := tl) (k := k3) (a := a3) (e := e) (h := h) (m := tM tl k2 a2 e h (tM tl k1 a1 false h m))
  have zg2 := tZ_ge' (k := k3) (v := v3) (a := a3) (n := n) (σ := σ) (z := tZ k2 v2 a2 n σ (tZ k1 v1 a1 n σ z))
  have zg := tZ_ge' (k := k2) (v := v2) (a := a2) (n := n) (σ := σ) (z := tZ k1 v1 a1 n σ z)
  have zg1 := tZ_ge' (k := k1) (v := v1) (a := a1) (n := n) (σ := σ) (z := z)
  have e1 : o + eXn tl own k1 v1 a1 false + 1 = o + (eXn tl own k1 v1 a1 false + 1) := by omega
  have K1 := C1 false n σ Sc h m z o H3 (fun _ => ⟨by rw [h1], by rw [h1]; exact Nat.le_refl _, by omega⟩) (by omega) x1 c1 hs hm (by omega) hz (by omega)
  have K2 : ∀ x : Nat, x = o + (eXn tl own k1 v1 a1 false + 1) + (eXn tl own k2 v2 a2 e + (eS 13 1 e 0 0).length) → CT A own S T n0 H (o + eXn tl own k1 v1 a1 false) [(14, nI x)] := fun x ex => by
    refine CT.one ⟨by rw [h1]; show h + 1 ≤ T; omega, by rw [h1]; show n ≤ S; omega, Or.inr (Or.inr (Or.inr (Or.inr (Or.inr (Or.inr (Or.inl ⟨rfl, ⟨x, rfl, by omega, ?_, ?_⟩, by omega, ?_, ?_⟩))))))⟩
    · rw [ex, h3, h1]
    · rw [ex, h3, h1]; exact Nat.le_refl _
    · rw [e1, h2, h1]
    · rw [e1, h2, h1]; exact Nat.le_refl _
  cases e with
  | true =>
    rw [show (eS 13 1 true 0 0).length = 0 from rfl] at hn hE H6 h3 K2
    rw [if_ext]
    simp only [List.append_nil, Nat.add_zero] at hn hE H6 h3 K2 ⊢
    refine (K1.app ?_).app ?_
    · rw [eX_len]
      exact K2 _ rfl
    · rw [List.length_append, eX_len]
      simp only [List.length_cons, List.length_nil, Nat.zero_add]
      refine CT.app (C2 true n σ Sc h (tM tl k1 a1 false h m) (tZ k1 v1 a1 n σ z) _ H7 (fun c => by cases c) (by omega) x3 c2 hs (by omega) (by omega) (by omega) (by omega)) ?_
      rw [eX_len]
      exact C3 true n σ Sc h _ _ _ H6 (fun c => by cases c) (by omega) x5 c3 hs (by omega) hM (by omega) hZ
  | false =>
    rw [show (eS 13 1 false 0 0).length = 1 from rfl] at hn hE H6 h3 K2
    rw [if_exf]
    simp only [List.append_nil, Nat.add_zero] at hn hE H6 h3 K2 ⊢
    have hx := hE trivial
    have h4 : H (o + (eXn tl own k1 v1 a1 false + 1) + eXn tl own k2 v2 a2 false) = (h + 1, n) := H8 0 _ rfl
    have t2 := TT.2.1 h (tM tl k1 a1 false h m) (by omega)
    refine (K1.app ?_).app ?_
    · rw [eX_len]
      exact K2 _ rfl
    · rw [List.length_append, eX_len]
      simp only [List.length_cons, List.length_nil, Nat.zero_add]
      refine CT.app (CT.app (C2 false n σ Sc h (tM tl k1 a1 false h m) (tZ k1 v1 a1 n σ z) _ H7 (fun _ => ⟨by rw [h4], by rw [h4]; exact Nat.le_refl _, by omega⟩) (by omega) x3 c2 hs (by omega) (by omega) (by omega) (by omega)) ?_) ?_
      · rw [eX_len]
        refine CT.one ⟨by rw [h4]; show h + 1 ≤ T; omega, by rw [h4]; show n ≤ S; omega, Or.inr (Or.inr (Or.inr (Or.inr (Or.inr (Or.inr (Or.inr (Or.inl ⟨rfl, _, rfl, ?_, ?_, ?_⟩)))))))⟩
        · have := hx.2.2
          omega
        · rw [h4, show o + (eXn tl own k1 v1 a1 false + 1) + (eXn tl own k2 v2 a2 false + 1) + eXn tl own k3 v3 a3 false = o + (eXn tl own k1 v1 a1 false + 1 + (eXn tl own k2 v2 a2 false + 1 + eXn tl own k3 v3 a3 false)) by omega]
          exact hx.1
        · rw [h4, show o + (eXn tl own k1 v1 a1 false + 1) + (eXn tl own k2 v2 a2 false + 1) + eXn tl own k3 v3 a3 false = o + (eXn tl own k1 v1 a1 false + 1 + (eXn tl own k2 v2 a2 false + 1 + eXn tl own k3 v3 a3 false)) by omega]
          exact hx.2.1
      · rw [List.length_append, eX_len]
        simp only [List.length_cons, List.length_nil, Nat.zero_add]
        refine C3 false n σ Sc h _ _ _ H6 (fun _ => ?_) (by omega) x5 c3 hs (by omega) hM (by omega) hZ
        rw [show o + (eXn tl own k1 v1 a1 false + 1) + (eXn tl own k2 v2 a2 false + 1) + eXn tl own k3 v3 a3 false = o + (eXn tl own k1 v1 a1 false + 1 + (eXn tl own k2 v2 a2 false + 1 + eXn tl own k3 v3 a3 false)) by omega]
        exact hx
theorem ct_all : ∀ (F : Fo) (Sc : Nat → List Int32), fo_w A.length (parOf A) F Sc → CYs A own S T n0 H tl F
  | .leaf, _, _ => trivial
  | .inner y k v a b, Sc, hw => by
    refine ⟨?_, ct_all b _ hw.2.2.2.2.2⟩
    have C := ct_all a _ hw.2.2.2.2.1
    have TT := th_all (tl := tl) a _ hw.2.2.2.2.1
    by_cases h : gK k
    · exact ct_gen h C TT
    · rcases Classical.not_not.mp h with rfl | rfl | rfl
      · exact ct_seq C TT
      · exact ct_let C TT
      · exact ct_if C TT
end TY3
/-- heights are not more than nodes; slots not more than variables -/
theorem eM_le {tl : Bool} : ∀ (F : Fo) (e : Bool) (pk : Int32) (i h m : Nat), eM tl F e pk i h m ≤ max m (h + i + fo_n F)
  | .inner y k v a b, e, pk, i, h, m => by
    rw [eM_in]
    obtain ⟨x, ex⟩ : ∃ x, (if pk = 12 ∨ pk = 14 ∨ pk = 13 then h else h + i) = x := ⟨_, rfl⟩
    have hx : x ≤ h + i := by rw [← ex]; split <;> omega
    rw [ex]
    have h1 := eM_le (tl := tl) a (e && kLast pk i) k 0 x m
    have h2 := eM_le (tl := tl) b e pk (i + 1) h (tM tl k a (e && kLast pk i) x m)
    have h3 : tM tl k a (e && kLast pk i) x m ≤ max (eM tl a (e && kLast pk i) k 0 x m) (x + 1) := by
      unfold tM
      split <;> omega
    simp only [fo_n]
    omega
  | .leaf, _, _, _, _, _ => by simp only [eM]; omega
/-- a tree's slots: not more than the variables around it and its own -/
def TZ (N : Nat) (par : Int32 → Nat) (k v : Int32) (a : Fo) : Prop := ∀ (n : Nat) (σ : Int32 → Nat) (Sc : List Int32) (z : Nat), fo_l a = k_ar par k v → (k = 2 → v ∈ Sc) → fo_w N par a (k_sc k v Sc) → (∀ w ∈ Sc, σ w < n) → tZ k v a n σ z ≤ max z (n + (tB k v a).length)
def TZs (N : Nat) (par : Int32 → Nat) : Fo → Prop
  | .inner _ k v a b => TZ N par k v a ∧ TZs N par b
  | .leaf => True
section TZ
variable {N : Nat} {par : Int32 → Nat}
theorem tz_gen : ∀ (F : Fo), TZs N par F → ∀ (n : Nat) (σ : Int32 → Nat) (Sc : List Int32) (pk pv : Int32) (i z : Nat), gK pk → fo_w N par F (fun _ => Sc) → (∀ w ∈ Sc, σ w < n) → eZ F n σ pk pv i z ≤ max z (n + (fo_b F).length)
  | .leaf, _, n, σ, Sc, pk, pv, i, z, _, _, _ => by simp only [eZ]; omega
  | .inner y k v a b, Z, n, σ, Sc, pk, pv, i, z, hg, hw, hs => by
    obtain ⟨h1, h2, h3, h4, h5, h6⟩ := hw
    rw [eZ_in, hg.D, hg.V, if_neg (fun c => hg (Or.inr (Or.inl c.1))), fo_b_in, List.length_append]
    have q1 := Z.1 n σ Sc z h2 h3 h5 hs
    have q2 := tz_gen b Z.2 n σ Sc pk pv (i + 1) (tZ k v a n σ z) hg h6 hs
    omega
theorem tz_all : ∀ (F : Fo), TZs N par F
  | .leaf => trivial
  | .inner y k v a b => by
    refine ⟨?_, tz_all b⟩
    have Za := tz_all a
    intro n σ Sc z h2 h3 h5 hs
    by_cases hg : gK k
    · have h14 : ¬ k = 14 := fun c => hg (Or.inr (Or.inl c))
      have etb : tB k v a = fo_b a := by unfold tB; rw [if_neg h14]; rfl
      rw [k_sc_g h14] at h5
      have := tz_gen a Za n σ Sc k v 0 z hg h5 hs
      rw [etb]
      unfold tZ
      split
      · rename_i c
        have := hs v (h3 c)
        omega
      · exact this
    · rcases Classical.not_not.mp hg with rfl | rfl | rfl
      · obtain ⟨y1, k1, v1, a1, y2, k2, v2, a2, rfl⟩ := fo_l2 h2
        obtain ⟨Z1, Z2, _⟩ := Za
        have etb : tB 12 v (.inner y1 k1 v1 a1 (.inner y2 k2 v2 a2 .leaf)) = tB k1 v1 a1 ++ (tB k2 v2 a2 ++ []) := rfl
        rw [k_sc_g (by decide)] at h5
        have q1 := Z1 n σ Sc z h5.2.1 h5.2.2.1 h5.2.2.2.2.1 hs
        have q2 := Z2 n σ Sc (tZ k1 v1 a1 n σ z) h5.2.2.2.2.2.2.1 h5.2.2.2.2.2.2.2.1 h5.2.2.2.2.2.2.2.2.2.1 hs
        rw [sq_ez, etb]
        simp only [List.length_append, List.length_nil]
        omega
      · obtain ⟨y1, k1, v1, a1, y2, k2, v2, a2, rfl⟩ := fo_l2 h2
        obtain ⟨Z1, Z2, _⟩ := Za
        have etb : tB 14 v (.inner y1 k1 v1 a1 (.inner y2 k2 v2 a2 .leaf)) = v :: (tB k1 v1 a1 ++ (tB k2 v2 a2 ++ [])) := rfl
        have q1 := Z1 n σ Sc z h5.2.1 h5.2.2.1 h5.2.2.2.2.1 hs
        have q2 := Z2 (n + 1) (fun w => if w = v then n else σ w) (v :: Sc) (max (tZ k1 v1 a1 n σ z) (n + 1)) h5.2.2.2.2.2.2.1 h5.2.2.2.2.2.2.2.1 h5.2.2.2.2.2.2.2.2.2.1 (fun w hw => by
          show (if w = v then n else σ w) < n + 1
          split
          · omega
          · rename_i c
            rcases List.mem_cons.mp hw with q | q
            · exact absurd q c
            · have := hs w q
              omega)
        rw [lt_ez, etb]
        simp only [List.length_cons, List.length_append, List.length_nil]
        omega
      · obtain ⟨y1, k1, v1, a1, y2, k2, v2, a2, y3, k3, v3, a3, rfl⟩ := fo_l3 h2
        obtain ⟨Z1, Z2, Z3, _⟩ := Za
        have etb : tB 13 v (.inner y1 k1 v1 a1 (.inner y2 k2 v2 a2 (.inner y3 k3 v3 a3 .leaf))) = tB k1 v1 a1 ++ (tB k2 v2 a2 ++ (tB k3 v3 a3 ++ [])) := rfl
        rw [k_sc_g (by decide)] at h5
        have h6 := h5.2.2.2.2.2
        have h7 := h6.2.2.2.2.2
        have q1 := Z1 n σ Sc z h5.2.1 h5.2.2.1 h5.2.2.2.2.1 hs
        have q2 := Z2 n σ Sc (tZ k1 v1 a1 n σ z) h6.2.1 h6.2.2.1 h6.2.2.2.2.1 hs
        have q3 := Z3 n σ Sc (tZ k2 v2 a2 n σ (tZ k1 v1 a1 n σ z)) h7.2.1 h7.2.2.1 h7.2.2.2.2.1 hs
        rw [if_ez, etb]
        simp only [List.length_append, List.length_nil]
        omega
end TZ
/-- a function's code, slots and temps of its expression are in order -/
theorem eT_ok {A : List Fn} {tl : Bool} {f P V M : Nat} {F : Fo} {G : Fn} (hP : P ≤ 6) (hPV : P ≤ V) (hV : V ≤ 120) (h1 : fo_l F = 1) (hn : fo_n F ≤ 500) (hw : fo_w A.length (parOf A) F (fun _ => (List.range P).map nI)) (hd : ((List.range P).map nI ++ fo_b F).Nodup) (hv : ∀ w ∈ fo_b F, ∃ j, w = nI j ∧ P ≤ j ∧ j < V) (gP : fnP G = P) (gC : fnC G = eTC tl f P F) (gS : fnS G = eTZ P F) (gT : fnT G = eTM tl F) : cd_ok A f G := by
  have hlen : 3 * (eTC tl f P F).length ≤ 4 * fo_n F + 2 := eTC_len hw h1
  have hneF : F ≠ .leaf := fun c => by rw [c] at h1; cases h1
  have hpos : 0 < (eTC tl f P F).length := by
    show 0 < (eF tl f F true P Int32.toNatClampNeg 12 0 1 0).length
    rw [eF_len]
    exact eTC_pos F _ hw true 12 1 hneF
  have hhl : (hF tl F true P 12 1 0).length = (eTC tl f P F).length := by
    show _ = (eF tl f F true P Int32.toNatClampNeg 12 0 1 0).length
    rw [eF_len, hF_len (own := f)]
  obtain ⟨y, k, v, a, rfl⟩ := fo_l1 h1
  have eb : fo_b (.inner y k v a .leaf) = tB k v a ++ [] := rfl
  rw [List.append_nil] at eb
  have hsub : ((List.range P).map nI ++ fo_b (.inner y k v a .leaf)).length ≤ ((List.range V).map nI).length := by
    refine hd.length_le_of_subset (fun w hw => ?_)
    rcases List.mem_append.mp hw with q | q
    · obtain ⟨j, j1, j2⟩ := List.mem_map.mp q
      exact List.mem_map.mpr ⟨j, List.mem_range.mpr (by have := List.mem_range.mp j1; omega), j2⟩
    · obtain ⟨j, j1, j2, j3⟩ := hv w q
      exact List.mem_map.mpr ⟨j, List.mem_range.mpr j3, j1.symm⟩
  simp only [List.length_append, List.length_map, List.length_range] at hsub
  rw [eb] at hd hv hsub
  have hd' := List.nodup_append.mp hd
  have hnS : ∀ w ∈ tB k v a, w ∉ (List.range P).map nI := fun w hw c => hd'.2.2 w c w hw rfl
  have c15 := fo_w_15 hw
  obtain ⟨w1, _⟩ := fo_w_in hw hd'.2.1 (fun w hw => ⟨hnS w hw, by obtain ⟨j, j1, j2, j3⟩ := hv w hw; exact ⟨j, j1, by omega⟩⟩)
  have w1 : tW A.length (parOf A) k v a ((List.range P).map nI) := w1
  have hs : ∀ w ∈ (List.range P).map nI, w.toNatClampNeg < P := fun w hw => by
    obtain ⟨j, j1, j2⟩ := List.mem_map.mp hw
    have := List.mem_range.mp j1
    rw [← j2, nI_clamp (by omega)]
    exact this
  have hz := (tz_all (N := A.length) (par := parOf A) (.inner y k v a .leaf)).1 P Int32.toNatClampNeg ((List.range P).map nI) P w1.2.1 w1.2.2.1 w1.2.2.2.1 hs
  have hz1 := tZ_ge' (k := k) (v := v) (a := a) (n := P) (σ := Int32.toNatClampNeg) (z := P)
  have hm := eM_le (tl := tl) (.inner y k v a .leaf) true 12 1 0 0
  have hm : eTM tl (.inner y k v a .leaf) ≤ max 0 (0 + 1 + fo_n (.inner y k v a .leaf)) := hm
  rw [eTM_e] at gT hm
  rw [eTZ_e] at gS
  have hce : (eTC tl f P (.inner y k v a .leaf)).length = eXn tl f k v a true := by rw [eTC_e, eX_len]
  have ehf : hF tl (.inner y k v a .leaf) true P 12 1 0 = hX tl k a true P 0 := by
    have : hF tl (.inner y k v a .leaf) true P 12 1 0 = hX tl k a true P 0 ++ [] ++ [] := rfl
    rw [this, List.append_nil, List.append_nil]
  rw [ehf] at hhl
  refine ⟨by rw [gP, gS]; exact hz1, Nat.zero_le _, by rw [gS]; omega, by rw [gT]; omega, by rw [gC]; exact hpos, by rw [gC]; omega, fun i => ((hX tl k a true P 0)[i]?).getD (0, 0), ?_, ?_, ?_⟩
  · show (((hX tl k a true P 0)[0]?).getD (0, 0)).1 = 0
    rw [hX_0 w1 true P 0]
    rfl
  · show (((hX tl k a true P 0)[0]?).getD (0, 0)).2 ≤ fnP G
    rw [hX_0 w1 true P 0, gP]
    exact Nat.le_refl _
  · have K := (ct_all (A := A) (own := f) (S := fnS G) (T := fnT G) (n0 := (fnC G).length) (H := fun i => ((hX tl k a true P 0)[i]?).getD (0, 0)) (tl := tl) (.inner y k v a .leaf) _ hw).1 true P Int32.toNatClampNeg ((List.range P).map nI) 0 0 P 0 (fun i x hx => by
        show ((hX tl k a true P 0)[0 + i]?).getD (0, 0) = x
        rw [Nat.zero_add, hx]
        rfl) (fun c => by cases c) (by rw [gC, hce]; omega) w1 c15 hs (Nat.le_refl _) (by rw [gT]; exact Nat.le_refl _) (Nat.le_refl _) (by rw [gS]; exact Nat.le_refl _)
    intro pc q hq
    rw [gC, eTC_e] at hq
    have := K pc q hq
    rwa [Nat.zero_add] at this
