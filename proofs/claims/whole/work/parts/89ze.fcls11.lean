/-! FOLDING, the class: choices; all trees -/
section FY
variable {cx : gCx} {d : Nat} {ad : Nat → Nat} {t0 : gSt} {post : Option Value → gSt → Prop} {f n : Nat} {par : Int32 → Nat} {N : Nat} {z : Nat} {k v : Int32} {a : Fo} {S : Nat → List Int32} {st : WS} {lv : FLV} {O : List (Int32 × Int32)} {nx m ev : Nat} {t : gSt} {kn ρ : RHO}
theorem QF.rw0 (h : QF t0 ad f nx O lv kn t) {l : List (Int32 × Int32)} {i : Nat} (hi : nx ≤ i) (hr : rows (t0.2.1 (ad 108)) (t0.2.1 (ad 109)) i l) : rows (t.2.1 (ad 108)) (t.2.1 (ad 109)) i l := fun j q hq => by
  have := h.2.2.2.1 (i + j) (by omega)
  rw [this.1, this.2]
  exact hr j q hq
theorem tr_if (K : FK ad t0 f n par) (hT : fTS cx d ad t0 f n par post N) (H : FTH ad t0 f n par z 13 v a S st lv O nx m ev t kn ρ) (hN : fo_n a ≤ N)
    (h : ∀ u m' kn' top, m' + 1 ≤ m + 3 * (fo_n a + 1) → (∀ w, w ∉ fo_b (.inner z 13 v a .leaf) → kn' w = kn w) → RW u ad 56 96 (st ++ [top]) (nx + (fo_n a + 1)) 3 → QF t0 ad f (nx + (fo_n a + 1)) (O ++ fo_p (cmb ρ z 13 v (fdK a ρ 13 v 0))) lv kn' u → fHd cx d ad f post m' u) : fHd cx d ad f post m t := by
  have hf := K.hf
  have h1 := H.n'
  have h2 := H.o
  have h3 := H.st'
  have h4 := H.m'
  have hl := H.l
  have hla : fo_l a = 3 := H.g.w.2.1
  obtain ⟨y1, k1, v1, a1, y2, k2, v2, a2, y3, k3, v3, a3, ea⟩ := fo_l3 hla
  subst ea
  have hG := H.g.kid
  have l1 := hd_l (ρ := ρ) hG.w
  have l2 := hd_l (ρ := ρ) hG.w.2.2.2.2.2
  have l3 := hd_l (ρ := ρ) hG.w.2.2.2.2.2.2.2.2.2.2
  have wT1 := (fo_w_hd (fdK_w _ _ ρ 13 v 0 hG.w hG.d hG.s)).1
  have er : ∀ i T, rnx ρ 13 v i T = ρ := fun i T => if_neg (fun q => absurd q.1 (by decide))
  have eK : fdK (.inner y1 k1 v1 a1 (.inner y2 k2 v2 a2 (.inner y3 k3 v3 a3 .leaf))) ρ 13 v 0 = fo_ap (cmb ρ y1 k1 v1 (fdK a1 ρ k1 v1 0)) (fo_ap (cmb ρ y2 k2 v2 (fdK a2 ρ k2 v2 0)) (fo_ap (cmb ρ y3 k3 v3 (fdK a3 ρ k3 v3 0)) .leaf)) := by
    rw [fdK_in, er, fdK_in, er, fdK_in]
    rfl
  have q1 := cmb_pl (ρ := ρ) (z := y1) (k := k1) (v := v1) (a := a1)
  have q2 := cmb_pl (ρ := ρ) (z := y2) (k := k2) (v := v2) (a := a2)
  have q3 := cmb_pl (ρ := ρ) (z := y3) (k := k3) (v := v3) (a := a3)
  have en : fo_n (.inner y1 k1 v1 a1 (.inner y2 k2 v2 a2 (.inner y3 k3 v3 a3 .leaf))) = fo_n a1 + 1 + (fo_n a2 + 1 + (fo_n a3 + 1 + 0)) := rfl
  have ep : fo_p (.inner y1 k1 v1 a1 (.inner y2 k2 v2 a2 (.inner y3 k3 v3 a3 .leaf))) = ((k1, v1) :: fo_p a1) ++ (((k2, v2) :: fo_p a2) ++ fo_p (.inner y3 k3 v3 a3 .leaf)) := rfl
  have hr := rows_tl H.r
  rw [ep] at hr
  have hr2 := rows_sf hr
  have hr3 := rows_sf hr2
  have hr2 := rows_pre hr2
  rw [List.length_cons, fo_pn] at hr2
  rw [List.length_cons, List.length_cons, fo_pn, fo_pn, fo_p_in1] at hr3
  have hb0 := H.b0
  have eb : fo_b (.inner z 13 v (.inner y1 k1 v1 a1 (.inner y2 k2 v2 a2 (.inner y3 k3 v3 a3 .leaf))) .leaf) = (fo_b (.inner y1 k1 v1 a1 .leaf)) ++ (fo_b (.inner y2 k2 v2 a2 .leaf) ++ fo_b (.inner y3 k3 v3 a3 .leaf)) := by simp [fo_b]
  have eb2 : fo_b (.inner y2 k2 v2 a2 (.inner y3 k3 v3 a3 .leaf)) = fo_b (.inner y2 k2 v2 a2 .leaf) ++ fo_b (.inner y3 k3 v3 a3 .leaf) := by simp [fo_b]
  rw [eb] at hb0
  have dj1 := hG.dj
  rw [eb2] at dj1
  have dj2 := hG.rest.dj
  have b01 : ∀ w ∈ fo_b (.inner y1 k1 v1 a1 .leaf), kn w = none := fun w hw => hb0 w (List.mem_append.mpr (Or.inl hw))
  have b02 : ∀ w ∈ fo_b (.inner y2 k2 v2 a2 .leaf), kn w = none := fun w hw => hb0 w (List.mem_append.mpr (Or.inr (List.mem_append.mpr (Or.inl hw))))
  have b03 : ∀ w ∈ fo_b (.inner y3 k3 v3 a3 .leaf), kn w = none := fun w hw => hb0 w (List.mem_append.mpr (Or.inr (List.mem_append.mpr (Or.inr hw))))
  have s1 := hG.head.s 0
  have s2 := hG.rest.head.s 0
  rw [en] at h1 h3 h4 hN h
  have hV2 := fo_wv _ _ hG.rest.head.w
  have hV3 := fo_wv _ _ hG.rest.rest.head.w
  have f2 : fo_p (.inner y2 k2 v2 a2 .leaf) = (k2, v2) :: fo_p a2 := fo_p_in1
  have f3 : fo_p (.inner y3 k3 v3 a3 .leaf) = (k3, v3) :: fo_p a3 := fo_p_in1
  refine H.enter K (fun u1 R1 Q1 => ?_)
  rw [if_neg (by decide)] at Q1
  refine kidTS (lv := lv ++ [(O.length, 0, false)]) K hT (by omega) hG (by exact H.s0) b01 (rows_pre hr) (by rw [List.length_append, hl]; rfl) (by omega) (by rw [List.length_append]; simp only [List.length_cons, List.length_nil]; omega) (by omega) (by omega) (by decide) (by show 0 < 3; decide) R1 Q1 (fun u2 m2 kn2 top hm2 hk2 R2 Q2 => ?_)
  rw [eK] at wT1
  rw [(fo_hap l1).1] at wT1
  obtain ⟨T1, eT1⟩ : ∃ T1, cmb ρ y1 k1 v1 (fdK a1 ρ k1 v1 0) = T1 := ⟨_, rfl⟩
  rw [eT1] at eK l1 Q2 q1 wT1
  obtain ⟨T2, eT2⟩ : ∃ T2, cmb ρ y2 k2 v2 (fdK a2 ρ k2 v2 0) = T2 := ⟨_, rfl⟩
  rw [eT2] at eK l2 q2
  obtain ⟨T3, eT3⟩ : ∃ T3, cmb ρ y3 k3 v3 (fdK a3 ρ k3 v3 0) = T3 := ⟨_, rfl⟩
  rw [eT3] at eK l3 q3
  rw [eK, cmb13 l1 l2 l3 wT1] at h
  rw [List.append_assoc] at Q2
  have Q2 : QF t0 ad f (nx + 1 + (fo_n a1 + 1)) (O ++ (13, v) :: fo_p T1) (lv ++ [(O.length, 0, false)]) kn2 u2 := Q2
  have hlen : (O ++ (13, v) :: fo_p T1).length = O.length + 1 + (fo_p T1).length := by simp; omega
  have n1 := fo_p_ne l1
  have sk2 : ∀ w ∈ S 0, kn2 w = ρ w := fun w hw => by rw [hk2 w (s1 w hw)]; exact H.s0 w hw
  have b22 : ∀ w ∈ fo_b (.inner y2 k2 v2 a2 .leaf), kn2 w = none := fun w hw => by rw [hk2 w (dj1 w (List.mem_append.mpr (Or.inl hw)))]; exact b02 w hw
  have b23 : ∀ w ∈ fo_b (.inner y3 k3 v3 a3 .leaf), kn2 w = none := fun w hw => by rw [hk2 w (dj1 w (List.mem_append.mpr (Or.inr hw)))]; exact b03 w hw
  have eN : nx + 1 + (fo_n a1 + 1) + (fo_n a2 + 1) + (fo_n a3 + 1) = nx + (fo_n a1 + 1 + (fo_n a2 + 1 + (fo_n a3 + 1 + 0)) + 1) := by omega
  have outk : ∀ w, w ∉ fo_b (.inner z 13 v (.inner y1 k1 v1 a1 (.inner y2 k2 v2 a2 (.inner y3 k3 v3 a3 .leaf))) .leaf) → w ∉ fo_b (.inner y1 k1 v1 a1 .leaf) ∧ w ∉ fo_b (.inner y2 k2 v2 a2 .leaf) ∧ w ∉ fo_b (.inner y3 k3 v3 a3 .leaf) := fun w hw => by
    rw [eb] at hw
    exact ⟨fun c => hw (List.mem_append.mpr (Or.inl c)), fun c => hw (List.mem_append.mpr (Or.inr (List.mem_append.mpr (Or.inl c)))), fun c => hw (List.mem_append.mpr (Or.inr (List.mem_append.mpr (Or.inr c))))⟩
  refine s_behind (C := fun u => (match onum (fo_p T1) with | some x => (if x = 0 then RW u ad 56 96 (st ++ [(nx, 13, v, 2, k_ar par 13 v)]) (nx + 1 + (fo_n a1 + 1) + (fo_n a2 + 1)) 2 ∧ QF t0 ad f (nx + 1 + (fo_n a1 + 1) + (fo_n a2 + 1)) O (lv ++ [(O.length, 0, true)]) kn2 u else RW u ad 56 96 (st ++ [(nx, 13, v, 1, k_ar par 13 v)]) (nx + 1 + (fo_n a1 + 1)) 2 ∧ QF t0 ad f (nx + 1 + (fo_n a1 + 1)) O (lv ++ [(O.length, 0, true)]) kn2 u) | none => RW u ad 56 96 (st ++ [(nx, 13, v, 1, k_ar par 13 v)]) (nx + 1 + (fo_n a1 + 1)) 2 ∧ QF t0 ad f (nx + 1 + (fo_n a1 + 1)) (O ++ (13, v) :: fo_p T1) (lv ++ [(O.length, 0, false)]) kn2 u)) K (by omega) R2 Q2 (by omega) (fun u3 post' R3 Q3 h63 hp => ?_) (fun u3 hC => ?_)
  · have en2 : fo_n (.inner y2 k2 v2 a2 .leaf) = fo_n a2 + 1 := rfl
    refine m_fbk_if0 (F := .inner y2 k2 v2 a2 .leaf) K.hf (K.r Q3) Q3 (by omega) (by omega) hl (by omega) R3 h63 n1 (K.p Q3) K.h6 rfl hV2 (by rw [en2]; omega) (by rw [f2]; exact Q3.rw0 (Nat.le_refl _) hr2) (fun u4 F4 h4 => hp u4 F4.L ?_)
    rw [en2] at h4
    cases e : onum (fo_p T1) with
    | some x => rw [e] at h4; exact h4
    | none =>
      rw [e] at h4
      have h4 : u4 = u3 := h4
      rw [h4]
      exact ⟨R3, Q3⟩
  · cases hon : onum (fo_p T1) with
    | some x =>
      rw [hon] at h hC
      by_cases cx0 : x = 0
      · have hC : RW u3 ad 56 96 (st ++ [(nx, 13, v, 2, k_ar par 13 v)]) (nx + 1 + (fo_n a1 + 1) + (fo_n a2 + 1)) 2 ∧ QF t0 ad f (nx + 1 + (fo_n a1 + 1) + (fo_n a2 + 1)) O (lv ++ [(O.length, 0, true)]) kn2 u3 := by
          have hC : (if x = 0 then _ else _) := hC
          rw [if_pos cx0] at hC
          exact hC
        dsimp only at h
        rw [if_pos cx0] at h
        refine kidTS (lv := lv ++ [(O.length, 0, true)]) (ρ := ρ) K hT (by omega) hG.rest.rest (by exact sk2) b23 hr3 (by rw [List.length_append, hl]; rfl) (by omega) (by omega) (by omega) (by omega) (by decide) (by show 2 < 3; decide) hC.1 hC.2 (fun u4 m4 kn4 top4 hm4 hk4 R4 Q4 => ?_)
        rw [eT3] at Q4
        refine s_behind (C := fun u => RW u ad 56 96 (st ++ [(nx, 13, v, 3, k_ar par 13 v)]) (nx + 1 + (fo_n a1 + 1) + (fo_n a2 + 1) + (fo_n a3 + 1)) 2 ∧ QF t0 ad f (nx + 1 + (fo_n a1 + 1) + (fo_n a2 + 1) + (fo_n a3 + 1)) (O ++ fo_p T3) (lv ++ [(O.length, 0, true)]) kn4 u) K (by omega) R4 Q4 (by omega) (fun u5 post' R5 Q5 h65 hp => m_fbk_plain Q5.1.L (by omega) (by omega) R5 (fun c => absurd c (by decide)) (fun c => absurd c (by decide)) (hp u5 Q5.1.L ⟨R5, Q5⟩)) (fun u5 hC5 => ?_)
        rw [eN] at hC5
        refine s_leave K (by omega) hC5.1 hC5.2 (by decide) (by omega) (fun u6 post' R6 Q6 hp => m_flv_plain (d := d + 1) (j := 13) Q6.1.L (by omega) (by omega) rfl ⟨by omega, fun c => by omega⟩ (by omega) R6 (hp u6 (gFr.rf Q6.1.L) Q6.pop)) (fun u6 R6 Q6 => ?_)
        refine h u6 _ kn4 _ (by omega) (fun w hw => ?_) R6 Q6
        obtain ⟨o1, o2, o3⟩ := outk w hw
        rw [hk4 w o3, hk2 w o1]
      · have hC : RW u3 ad 56 96 (st ++ [(nx, 13, v, 1, k_ar par 13 v)]) (nx + 1 + (fo_n a1 + 1)) 2 ∧ QF t0 ad f (nx + 1 + (fo_n a1 + 1)) O (lv ++ [(O.length, 0, true)]) kn2 u3 := by
          have hC : (if x = 0 then _ else _) := hC
          rw [if_neg cx0] at hC
          exact hC
        dsimp only at h
        rw [if_neg cx0] at h
        refine kidTS (lv := lv ++ [(O.length, 0, true)]) (ρ := ρ) K hT (by omega) hG.rest (by exact sk2) b22 hr2 (by rw [List.length_append, hl]; rfl) (by omega) (by omega) (by omega) (by omega) (by decide) (by show 1 < 3; decide) hC.1 hC.2 (fun u4 m4 kn4 top4 hm4 hk4 R4 Q4 => ?_)
        rw [eT2] at Q4
        have en3 : fo_n (.inner y3 k3 v3 a3 .leaf) = fo_n a3 + 1 := rfl
        refine s_behind (C := fun u => RW u ad 56 96 (st ++ [(nx, 13, v, 3, k_ar par 13 v)]) (nx + 1 + (fo_n a1 + 1) + (fo_n a2 + 1) + (fo_n a3 + 1)) 2 ∧ QF t0 ad f (nx + 1 + (fo_n a1 + 1) + (fo_n a2 + 1) + (fo_n a3 + 1)) (O ++ fo_p T2) (lv ++ [(O.length, 0, true)]) kn4 u) K (by omega) R4 Q4 (by omega) (fun u5 post' R5 Q5 h65 hp => ?_) (fun u5 hC5 => ?_)
        · refine m_fbk_if1 (F := .inner y3 k3 v3 a3 .leaf) Q5.1.L (by omega) R5 h65 (by have := Q5.top.2.2; rw [hl] at this; exact this) (K.p Q5) K.h6 rfl hV3 (by rw [en3]; omega) (by rw [f3]; exact Q5.rw0 (Nat.le_refl _) hr3) (fun u6 F6 R6 => hp u6 F6.L ⟨R6, (Q5.w F6).up (by omega)⟩)
        · rw [eN] at hC5
          refine s_leave K (by omega) hC5.1 hC5.2 (by decide) (by omega) (fun u6 post' R6 Q6 hp => m_flv_plain (d := d + 1) (j := 13) Q6.1.L (by omega) (by omega) rfl ⟨by omega, fun c => by omega⟩ (by omega) R6 (hp u6 (gFr.rf Q6.1.L) Q6.pop)) (fun u6 R6 Q6 => ?_)
          refine h u6 _ kn4 _ (by omega) (fun w hw => ?_) R6 Q6
          obtain ⟨o1, o2, o3⟩ := outk w hw
          rw [hk4 w o2, hk2 w o1]
    | none =>
      rw [hon] at h hC
      have hC : RW u3 ad 56 96 (st ++ [(nx, 13, v, 1, k_ar par 13 v)]) (nx + 1 + (fo_n a1 + 1)) 2 ∧ QF t0 ad f (nx + 1 + (fo_n a1 + 1)) (O ++ (13, v) :: fo_p T1) (lv ++ [(O.length, 0, false)]) kn2 u3 := hC
      refine kidTS (lv := lv ++ [(O.length, 0, false)]) (ρ := ρ) K hT (by omega) hG.rest (by exact sk2) b22 hr2 (by rw [List.length_append, hl]; rfl) (by omega) (by omega) (by omega) (by omega) (by decide) (by show 1 < 3; decide) hC.1 hC.2 (fun u4 m4 kn4 top4 hm4 hk4 R4 Q4 => ?_)
      rw [eT2] at Q4
      have sk4 : ∀ w ∈ S 0, kn4 w = ρ w := fun w hw => by rw [hk4 w (s2 w hw)]; exact sk2 w hw
      have b43 : ∀ w ∈ fo_b (.inner y3 k3 v3 a3 .leaf), kn4 w = none := fun w hw => by rw [hk4 w (dj2 w hw)]; exact b23 w hw
      refine s_behind (C := fun u => RW u ad 56 96 (st ++ [(nx, 13, v, 2, k_ar par 13 v)]) (nx + 1 + (fo_n a1 + 1) + (fo_n a2 + 1)) 2 ∧ QF t0 ad f (nx + 1 + (fo_n a1 + 1) + (fo_n a2 + 1)) (O ++ (13, v) :: fo_p T1 ++ fo_p T2) (lv ++ [(O.length, 0, false)]) kn4 u) K (by omega) R4 Q4 (by omega) (fun u5 post' R5 Q5 h65 hp => m_fbk_plain Q5.1.L (by omega) (by omega) R5 (fun c => absurd c (by decide)) (fun _ _ => by have := Q5.top.2.2; rw [hl] at this; exact this) (hp u5 Q5.1.L ⟨R5, Q5⟩)) (fun u5 hC5 => ?_)
      have hlen5 : (O ++ (13, v) :: fo_p T1 ++ fo_p T2).length = O.length + 1 + (fo_p T1).length + (fo_p T2).length := by rw [List.length_append, hlen]
      refine kidTS (lv := lv ++ [(O.length, 0, false)]) (ρ := ρ) K hT (by omega) hG.rest.rest (by exact sk4) b43 hr3 (by rw [List.length_append, hl]; rfl) (by omega) (by omega) (by omega) (by omega) (by decide) (by show 2 < 3; decide) hC5.1 hC5.2 (fun u6 m6 kn6 top6 hm6 hk6 R6 Q6 => ?_)
      rw [eT3] at Q6
      refine s_behind (C := fun u => RW u ad 56 96 (st ++ [(nx, 13, v, 3, k_ar par 13 v)]) (nx + 1 + (fo_n a1 + 1) + (fo_n a2 + 1) + (fo_n a3 + 1)) 2 ∧ QF t0 ad f (nx + 1 + (fo_n a1 + 1) + (fo_n a2 + 1) + (fo_n a3 + 1)) (O ++ (13, v) :: fo_p T1 ++ fo_p T2 ++ fo_p T3) (lv ++ [(O.length, 0, false)]) kn6 u) K (by omega) R6 Q6 (by omega) (fun u7 post' R7 Q7 h67 hp => m_fbk_plain Q7.1.L (by omega) (by omega) R7 (fun c => absurd c (by decide)) (fun c => absurd c (by decide)) (hp u7 Q7.1.L ⟨R7, Q7⟩)) (fun u7 hC7 => ?_)
      rw [eN] at hC7
      refine s_leave K (by omega) hC7.1 hC7.2 (by decide) (by omega) (fun u8 post' R8 Q8 hp => m_flv_plain (d := d + 1) (j := 13) Q8.1.L (by omega) (by omega) rfl ⟨by omega, fun c => by omega⟩ (by omega) R8 (hp u8 (gFr.rf Q8.1.L) Q8.pop)) (fun u8 R8 Q8 => ?_)
      refine h u8 _ kn6 _ (by omega) (fun w hw => ?_) R8 ?_
      · obtain ⟨o1, o2, o3⟩ := outk w hw
        rw [hk6 w o3, hk4 w o2, hk2 w o1]
      · dsimp only
        rw [show O ++ (13, v) :: (fo_p T1 ++ fo_p T2 ++ fo_p T3) = O ++ (13, v) :: fo_p T1 ++ fo_p T2 ++ fo_p T3 by simp]
        exact Q8
theorem fTS_all (K : FK ad t0 f n par) : ∀ N, fTS cx d ad t0 f n par post N := by
  intro N
  induction N with
  | zero =>
    intro z k v a S st lv O nx m ev t kn ρ H hN h
    omega
  | succ N ih =>
    intro z k v a S st lv O nx m ev t kn ρ H hN h
    have hN : fo_n a ≤ N := by omega
    obtain ⟨j, j1, j15, ej⟩ := H.g.w.1
    by_cases c1 : j = 1 ∨ j = 2 ∨ j = 11 ∨ j = 15
    · exact tr_same K ih H hN ej c1 h
    by_cases c2 : 3 ≤ j ∧ j ≤ 9
    · exact tr_two K ih H hN ⟨j, c2.1, c2.2, ej⟩ h
    by_cases c10 : j = 10
    · have : k = 10 := by rw [ej, c10]; rfl
      subst this
      exact tr_neg K ih H hN h
    by_cases c12 : j = 12
    · have : k = 12 := by rw [ej, c12]; rfl
      subst this
      exact tr_seq K ih H hN h
    by_cases c13 : j = 13
    · have : k = 13 := by rw [ej, c13]; rfl
      subst this
      exact tr_if K ih H hN h
    · have : k = 14 := by rw [ej, show j = 14 by omega]; rfl
      subst this
      exact tr_let K ih H hN h
end FY
