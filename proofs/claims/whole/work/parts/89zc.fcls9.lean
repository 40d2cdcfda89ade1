/-! FOLDING, the class: trees, kind by kind -/
section FV
variable {cx : gCx} {d : Nat} {ad : Nat → Nat} {t0 : gSt} {post : Option Value → gSt → Prop} {f n : Nat} {par : Int32 → Nat} {N : Nat} {z : Nat} {k v : Int32} {a : Fo} {S : Nat → List Int32} {st : WS} {lv : FLV} {O : List (Int32 × Int32)} {nx m ev : Nat} {t : gSt} {kn ρ : RHO}
/-- after a plain node's operands: leaving it changes nothing -/
theorem tr_same {j : Nat} (K : FK ad t0 f n par) (hT : fTS cx d ad t0 f n par post N) (H : FTH ad t0 f n par z k v a S st lv O nx m ev t kn ρ) (hN : fo_n a ≤ N) (ej : k = nI j) (hj : j = 1 ∨ j = 2 ∨ j = 11 ∨ j = 15)
    (h : ∀ u m' kn' top, m' + 1 ≤ m + 3 * (fo_n a + 1) → (∀ w, w ∉ fo_b (.inner z k v a .leaf) → kn' w = kn w) → RW u ad 56 96 (st ++ [top]) (nx + (fo_n a + 1)) 3 → QF t0 ad f (nx + (fo_n a + 1)) (O ++ fo_p (cmb ρ z k v (fdK a ρ k v 0))) lv kn' u → fHd cx d ad f post m' u) : fHd cx d ad f post m t := by
  have h3 := H.st'
  have h4 := H.m'
  have nk : ∀ i, i < 100 → i ≠ j → k ≠ nI i := fun i h100 hi c => by
    rw [ej, nI_eq (by omega) (by omega)] at c
    omega
  refine H.kids K hT hN ⟨nk 12 (by omega) (by omega), nk 13 (by omega) (by omega), nk 14 (by omega) (by omega)⟩ (fun u m2 kn2 ev2 hm2 hev2 hk2 R2 Q2 => ?_)
  refine s_leave K (by omega) R2 Q2 hev2 (by omega) (fun u3 post' R3 Q3 hp => m_flv_plain (d := d + 1) (j := j) Q3.1.L (by omega) (by omega) ej ⟨by omega, fun c => by omega⟩ (by omega) R3 (hp u3 (gFr.rf Q3.1.L) Q3.pop)) (fun u3 R3 Q3 => ?_)
  refine h u3 (m2 + 1) kn2 _ (by omega) (fun w hw => hk2 w (fun c => hw (by rw [fo_b_eq]; exact List.mem_append.mpr (Or.inl (List.mem_append.mpr (Or.inr c)))))) R3 ?_
  have e : fo_p (cmb ρ z k v (fdK a ρ k v 0)) = (if k = 2 then (match kn v with | some x => (1, x) | none => (k, v)) else (k, v)) :: fo_p (fdK a ρ k v 0) := by
    by_cases c2 : k = 2
    · have hla : fo_l a = 0 := by rw [H.g.w.2.1, c2]; rfl
      match a, hla with
      | .leaf, _ =>
        have ev : kn v = ρ v := H.s0 v (H.g.w.2.2.1 c2)
        rw [if_pos c2, ev]
        unfold cmb
        rw [if_neg (by rw [c2]; decide), if_pos c2]
        cases ρ v with
        | none => rfl
        | some x => rfl
    · unfold cmb
      rw [if_pos (by
        rcases hj with q | q | q | q
        · left; rw [ej, q]; rfl
        · exact absurd (by rw [ej, q]; rfl) c2
        · right; left; rw [ej, q]; rfl
        · right; right; rw [ej, q]; rfl), fo_p_in1, if_neg c2]
  rw [e]
  exact Q3
theorem fdK_2 {y1 y2 : Nat} {k1 v1 k2 v2 : Int32} {a1 a2 : Fo} {pk pv : Int32} : fdK (.inner y1 k1 v1 a1 (.inner y2 k2 v2 a2 .leaf)) ρ pk pv 0 = fo_ap (cmb ρ y1 k1 v1 (fdK a1 ρ k1 v1 0)) (fo_ap (cmb (rnx ρ pk pv 0 (cmb ρ y1 k1 v1 (fdK a1 ρ k1 v1 0))) y2 k2 v2 (fdK a2 (rnx ρ pk pv 0 (cmb ρ y1 k1 v1 (fdK a1 ρ k1 v1 0))) k2 v2 0)) .leaf) := rfl
theorem hd_l {y : Nat} {k1 v1 : Int32} {a1 b1 : Fo} {S : Nat → List Int32} (h : fo_w n par (.inner y k1 v1 a1 b1) S) : fo_l (cmb ρ y k1 v1 (fdK a1 ρ k1 v1 0)) = 1 := cmb_l (par := par) (by rw [fdK_l a1 _ h.2.2.2.2.1]; exact h.2.1)
theorem tr_two (K : FK ad t0 f n par) (hT : fTS cx d ad t0 f n par post N) (H : FTH ad t0 f n par z k v a S st lv O nx m ev t kn ρ) (hN : fo_n a ≤ N) (hj : ∃ j, 3 ≤ j ∧ j ≤ 9 ∧ k = nI j)
    (h : ∀ u m' kn' top, m' + 1 ≤ m + 3 * (fo_n a + 1) → (∀ w, w ∉ fo_b (.inner z k v a .leaf) → kn' w = kn w) → RW u ad 56 96 (st ++ [top]) (nx + (fo_n a + 1)) 3 → QF t0 ad f (nx + (fo_n a + 1)) (O ++ fo_p (cmb ρ z k v (fdK a ρ k v 0))) lv kn' u → fHd cx d ad f post m' u) : fHd cx d ad f post m t := by
  have h1 := H.n'
  have h2 := H.o
  have h3 := H.st'
  have h4 := H.m'
  have hj' := hj
  obtain ⟨j, j3, j9, ej⟩ := hj'
  have nk : ∀ i, i < 100 → (i < 3 ∨ 9 < i) → k ≠ nI i := fun i h100 hi c => by
    rw [ej, nI_eq (by omega) (by omega)] at c
    omega
  have k2 : k ≠ 2 := nk 2 (by omega) (by omega)
  have hla : fo_l a = 2 := by
    rw [H.g.w.2.1]
    unfold k_ar
    rw [if_neg (fun c => by
      rcases c with c | c
      · exact nk 1 (by omega) (by omega) c
      · exact k2 c), if_neg (fun c => by
      rcases c with c | c
      · exact nk 10 (by omega) (by omega) c
      · exact nk 11 (by omega) (by omega) c), if_neg (show ¬ k = 13 from nk 13 (by omega) (by omega)), if_neg (show ¬ k = 15 from nk 15 (by omega) (by omega))]
  have wK := fdK_w a _ ρ k v 0 H.g.kid.w H.g.kid.d H.g.kid.s
  have hwa := H.g.kid.w
  have hpn : (fo_p (fdK a ρ k v 0)).length ≤ fo_n a := by rw [fo_pn]; exact fdK_n a ρ k v 0
  refine H.kids K hT hN ⟨nk 12 (by omega) (by omega), nk 13 (by omega) (by omega), nk 14 (by omega) (by omega)⟩ (fun u m2 kn2 ev2 hm2 hev2 hk2 R2 Q2 => ?_)
  rw [if_neg k2] at Q2
  obtain ⟨y1, k1, v1, a1, y2, k2', v2, a2, ea⟩ := fo_l2 hla
  have hw1 := hwa
  rw [ea] at hw1
  have l1 := hd_l (ρ := ρ) hw1
  have l2 := hd_l (ρ := rnx ρ k v 0 (cmb ρ y1 k1 v1 (fdK a1 ρ k1 v1 0))) hw1.2.2.2.2.2
  have eK := fdK_2 (ρ := ρ) (y1 := y1) (y2 := y2) (k1 := k1) (v1 := v1) (k2 := k2') (v2 := v2) (a1 := a1) (a2 := a2) (pk := k) (pv := v)
  rw [← ea] at eK
  obtain ⟨T1, eT1⟩ : ∃ T1, cmb ρ y1 k1 v1 (fdK a1 ρ k1 v1 0) = T1 := ⟨_, rfl⟩
  rw [eT1] at eK l1 l2
  obtain ⟨T2, eT2⟩ : ∃ T2, cmb (rnx ρ k v 0 T1) y2 k2' v2 (fdK a2 (rnx ρ k v 0 T1) k2' v2 0) = T2 := ⟨_, rfl⟩
  rw [eT2] at eK l2
  rw [eK] at wK Q2 hpn h
  rw [fo_p_two] at Q2 hpn
  have w1 := fo_w_hd wK
  have w2 := (fo_w_hd w1.2).1
  have w1 := w1.1
  rw [(kid2 l1 l2).1] at w1
  rw [(kid2 l1 l2).2] at w2
  have n1 := fo_p_ne l1
  have n2 := fo_p_ne l2
  have hlen : (O ++ (k, v) :: (fo_p T1 ++ fo_p T2)).length ≤ O.length + (fo_n a + 1) := by rw [List.length_append, List.length_cons]; omega
  refine s_leave K (by omega) R2 Q2 hev2 (by omega) (fun u3 post' R3 Q3 hp => m_flv_two (d := d + 1) K.hf (K.r Q3) Q3 (by omega) (by omega) H.l (by omega) R3 hj (by rw [List.length_append]; omega) hp) (fun u3 R3 Q3 => ?_)
  refine h u3 (m2 + 1) kn2 _ (by omega) (fun w hw => hk2 w (fun c => hw (by rw [fo_b_eq]; exact List.mem_append.mpr (Or.inl (List.mem_append.mpr (Or.inr c)))))) R3 ?_
  rw [cmb2 hj l1 l2 w1 w2]
  exact Q3
theorem fo_l1e {F : Fo} (h : fo_l F = 1) : ∃ y k v a, F = .inner y k v a .leaf := by
  match F, h with
  | .inner y k v a .leaf, _ => exact ⟨y, k, v, a, rfl⟩
  | .inner _ _ _ _ (.inner _ _ _ _ _), h => simp [fo_l] at h
theorem tr_neg (K : FK ad t0 f n par) (hT : fTS cx d ad t0 f n par post N) (H : FTH ad t0 f n par z 10 v a S st lv O nx m ev t kn ρ) (hN : fo_n a ≤ N)
    (h : ∀ u m' kn' top, m' + 1 ≤ m + 3 * (fo_n a + 1) → (∀ w, w ∉ fo_b (.inner z 10 v a .leaf) → kn' w = kn w) → RW u ad 56 96 (st ++ [top]) (nx + (fo_n a + 1)) 3 → QF t0 ad f (nx + (fo_n a + 1)) (O ++ fo_p (cmb ρ z 10 v (fdK a ρ 10 v 0))) lv kn' u → fHd cx d ad f post m' u) : fHd cx d ad f post m t := by
  have h1 := H.n'
  have h2 := H.o
  have h3 := H.st'
  have h4 := H.m'
  have hla : fo_l a = 1 := H.g.w.2.1
  have wK := fdK_w a _ ρ 10 v 0 H.g.kid.w H.g.kid.d H.g.kid.s
  have hwa := H.g.kid.w
  have hpn : (fo_p (fdK a ρ 10 v 0)).length ≤ fo_n a := by rw [fo_pn]; exact fdK_n a ρ 10 v 0
  refine H.kids K hT hN ⟨by decide, by decide, by decide⟩ (fun u m2 kn2 ev2 hm2 hev2 hk2 R2 Q2 => ?_)
  rw [if_neg (by decide)] at Q2
  obtain ⟨y1, k1, v1, a1, ea⟩ := fo_l1e hla
  have hw1 := hwa
  rw [ea] at hw1
  have l1 := hd_l (ρ := ρ) hw1
  have eK : fdK a ρ 10 v 0 = fo_ap (cmb ρ y1 k1 v1 (fdK a1 ρ k1 v1 0)) .leaf := by rw [ea]; rfl
  obtain ⟨T1, eT1⟩ : ∃ T1, cmb ρ y1 k1 v1 (fdK a1 ρ k1 v1 0) = T1 := ⟨_, rfl⟩
  rw [eT1] at eK l1
  have ep : fo_p (fo_ap T1 .leaf) = fo_p T1 := by rw [fo_p_ap]; exact List.append_nil _
  rw [eK] at wK Q2 hpn h
  rw [ep] at Q2 hpn
  have w1 := (fo_w_hd wK).1
  rw [(fo_hap l1).1] at w1
  have n1 := fo_p_ne l1
  have hlen : (O ++ (10, v) :: (fo_p T1)).length ≤ O.length + (fo_n a + 1) := by rw [List.length_append, List.length_cons]; omega
  refine s_leave K (by omega) R2 Q2 hev2 (by omega) (fun u3 post' R3 Q3 hp => m_flv_neg (d := d + 1) K.hf (K.r Q3) Q3 (by omega) (by omega) H.l (by omega) R3 n1 hp) (fun u3 R3 Q3 => ?_)
  refine h u3 (m2 + 1) kn2 _ (by omega) (fun w hw => hk2 w (fun c => hw (by rw [fo_b_eq]; exact List.mem_append.mpr (Or.inl (List.mem_append.mpr (Or.inr c)))))) R3 ?_
  rw [cmb10 l1 w1]
  exact Q3
/-- one operand -/
theorem kidTS {y nd c : Nat} {k1 v1 : Int32} {a1 b1 : Fo} (K : FK ad t0 f n par) (hT : fTS cx d ad t0 f n par post N) (hN : fo_n a1 + 1 ≤ N) (hG : FG n par (.inner y k1 v1 a1 b1) S) (hs0 : ∀ w ∈ S 0, kn w = ρ w) (hb0 : ∀ w ∈ fo_b (.inner y k1 v1 a1 .leaf), kn w = none) (hr : rows (t0.2.1 (ad 108)) (t0.2.1 (ad 109)) nx ((k1, v1) :: fo_p a1)) (hl : lv.length = st.length + 1) (hst : st.length + 1 + (fo_n a1 + 1) ≤ 500) (hO : 500 * f + O.length ≤ nx) (hn : nx + (fo_n a1 + 1) ≤ 500 * f + 500) (hm : m + 3 * (fo_n a1 + 1) ≤ 1500) (hev : ev < 3) (hc : c < k_ar par k v) (R : RW t ad 56 96 (st ++ [(nd, k, v, c, k_ar par k v)]) nx ev) (Q : QF t0 ad f nx O lv kn t)
    (h : ∀ u m' kn' top, m' + 1 ≤ m + 3 * (fo_n a1 + 1) → (∀ w, w ∉ fo_b (.inner y k1 v1 a1 .leaf) → kn' w = kn w) → RW u ad 56 96 (st ++ [(nd, k, v, c, k_ar par k v), top]) (nx + (fo_n a1 + 1)) 3 → QF t0 ad f (nx + (fo_n a1 + 1)) (O ++ fo_p (cmb ρ y k1 v1 (fdK a1 ρ k1 v1 0))) lv kn' u → fHd cx d ad f post m' u) : fHd cx d ad f post m t := by
  have hk6 := kar6 K.h6 k v
  refine hT y k1 v1 a1 S (st ++ [(nd, k, v, c, k_ar par k v)]) lv O nx m ev t kn ρ ⟨hG.head, hs0, hb0, hr, by rw [hl]; simp, by simp only [List.length_append, List.length_cons, List.length_nil]; omega, hO, hn, hm, hev, fun q e => ?_, R, Q⟩ hN (fun u m1 kn1 top hm1 hk1 R1 Q1 => ?_)
  · rw [List.getLast?_append] at e
    have e : q = (nd, k, v, c, k_ar par k v) := by simpa using e.symm
    subst e
    exact ⟨hc, (by show k_ar par k v < 1000; omega)⟩
  · rw [List.append_assoc] at R1
    exact h u m1 kn1 top hm1 hk1 R1 Q1
end FV
