/-! FOLDING, the class: sequences, lets, choices -/
section FW
variable {cx : gCx} {d : Nat} {ad : Nat → Nat} {t0 : gSt} {post : Option Value → gSt → Prop} {f n : Nat} {par : Int32 → Nat} {N : Nat} {z : Nat} {v : Int32} {a : Fo} {S : Nat → List Int32} {st : WS} {lv : FLV} {O : List (Int32 × Int32)} {nx m ev : Nat} {t : gSt} {kn ρ : RHO}
theorem tr_seq (K : FK ad t0 f n par) (hT : fTS cx d ad t0 f n par post N) (H : FTH ad t0 f n par z 12 v a S st lv O nx m ev t kn ρ) (hN : fo_n a ≤ N)
    (h : ∀ u m' kn' top, m' + 1 ≤ m + 3 * (fo_n a + 1) → (∀ w, w ∉ fo_b (.inner z 12 v a .leaf) → kn' w = kn w) → RW u ad 56 96 (st ++ [top]) (nx + (fo_n a + 1)) 3 → QF t0 ad f (nx + (fo_n a + 1)) (O ++ fo_p (cmb ρ z 12 v (fdK a ρ 12 v 0))) lv kn' u → fHd cx d ad f post m' u) : fHd cx d ad f post m t := by
  have h1 := H.n'
  have h2 := H.o
  have h3 := H.st'
  have h4 := H.m'
  have hl := H.l
  have hla : fo_l a = 2 := H.g.w.2.1
  obtain ⟨y1, k1, v1, a1, y2, k2, v2, a2, ea⟩ := fo_l2 hla
  subst ea
  have hG := H.g.kid
  have l1 := hd_l (ρ := ρ) hG.w
  have l2 := hd_l (ρ := ρ) hG.w.2.2.2.2.2
  have eK := fdK_2 (ρ := ρ) (y1 := y1) (y2 := y2) (k1 := k1) (v1 := v1) (k2 := k2) (v2 := v2) (a1 := a1) (a2 := a2) (pk := 12) (pv := v)
  have er : ∀ T, rnx ρ 12 v 0 T = ρ := fun T => if_neg (fun q => absurd q.1 (by decide))
  rw [er] at eK
  have q1 := cmb_pl (ρ := ρ) (z := y1) (k := k1) (v := v1) (a := a1)
  have en : fo_n (.inner y1 k1 v1 a1 (.inner y2 k2 v2 a2 .leaf)) = fo_n a1 + 1 + (fo_n a2 + 1 + 0) := rfl
  have ep : fo_p (.inner y1 k1 v1 a1 (.inner y2 k2 v2 a2 .leaf)) = ((k1, v1) :: fo_p a1) ++ fo_p (.inner y2 k2 v2 a2 .leaf) := rfl
  have hr := rows_tl H.r
  rw [ep] at hr
  have hr2 := rows_sf hr
  rw [List.length_cons, fo_pn, fo_p_in1] at hr2
  have hb0 := H.b0
  have eb : fo_b (.inner z 12 v (.inner y1 k1 v1 a1 (.inner y2 k2 v2 a2 .leaf)) .leaf) = (fo_b (.inner y1 k1 v1 a1 .leaf)) ++ fo_b (.inner y2 k2 v2 a2 .leaf) := by simp [fo_b]
  rw [eb] at hb0
  rw [en] at h1 h3 h4 hN h
  refine H.enter K (fun u1 R1 Q1 => ?_)
  rw [if_neg (by decide)] at Q1
  refine kidTS (lv := lv ++ [(O.length, 0, false)]) K hT (by omega) hG (by exact H.s0) (fun w hw => hb0 w (List.mem_append.mpr (Or.inl hw))) (rows_pre hr) (by rw [List.length_append, hl]; rfl) (by omega) (by rw [List.length_append]; simp only [List.length_cons, List.length_nil]; omega) (by omega) (by omega) (by decide) (by show 0 < 2; decide) R1 Q1 (fun u2 m2 kn2 top hm2 hk2 R2 Q2 => ?_)
  obtain ⟨T1, eT1⟩ : ∃ T1, cmb ρ y1 k1 v1 (fdK a1 ρ k1 v1 0) = T1 := ⟨_, rfl⟩
  rw [eT1] at eK l1 Q2 q1
  obtain ⟨T2, eT2⟩ : ∃ T2, cmb ρ y2 k2 v2 (fdK a2 ρ k2 v2 0) = T2 := ⟨_, rfl⟩
  have q2 := cmb_pl (ρ := ρ) (z := y2) (k := k2) (v := v2) (a := a2)
  rw [eT2] at eK l2 q2
  rw [eK, cmb12 l1 l2] at h
  rw [List.append_assoc] at Q2
  have Q2 : QF t0 ad f (nx + 1 + (fo_n a1 + 1)) (O ++ (12, v) :: fo_p T1) (lv ++ [(O.length, 0, false)]) kn2 u2 := Q2
  have hlen : (O ++ (12, v) :: fo_p T1).length = O.length + 1 + (fo_p T1).length := by simp; omega
  refine s_behind (C := fun u => RW u ad 56 96 (st ++ [(nx, 12, v, 1, k_ar par 12 v)]) (nx + 1 + (fo_n a1 + 1)) 2 ∧ QF t0 ad f (nx + 1 + (fo_n a1 + 1)) (O ++ (if (fo_p T1).all (fun q => fclm q.1) = true then [] else (12, v) :: fo_p T1)) (lv ++ [(O.length, 0, (fo_p T1).all (fun q => fclm q.1))]) kn2 u) K (by omega) R2 Q2 (by omega) (fun u3 post' R3 Q3 h63 hp => ?_) (fun u3 hC => ?_)
  · refine m_fbk_seq K.hf (K.r Q3) Q3 (by omega) hl (by omega) R3 (fun u4 F4 h4 => hp u4 F4.L ?_)
    cases e : (fo_p T1).all (fun q => fclm q.1) with
    | true =>
      rw [e] at h4
      refine ⟨rw_fs F4 R3, ?_⟩
      show QF t0 ad f _ (O ++ []) _ _ _
      rw [List.append_nil]
      exact h4
    | false =>
      rw [e] at h4
      have h4 : u4 = u3 := h4
      rw [h4]
      exact ⟨R3, Q3⟩
  · have hlen3 : (O ++ (if (fo_p T1).all (fun q => fclm q.1) = true then [] else (12, v) :: fo_p T1)).length ≤ O.length + 1 + (fo_p T1).length := by
      rw [List.length_append]
      split
      · simp; omega
      · rw [List.length_cons]; omega
    refine kidTS (lv := lv ++ [(O.length, 0, (fo_p T1).all (fun q => fclm q.1))]) (ρ := ρ) K hT (by omega) hG.rest (by
      intro w hw
      have hw : w ∈ S 0 := hw
      rw [hk2 w (hG.head.s 0 w hw)]
      exact H.s0 w hw) (fun w hw => by rw [hk2 w (hG.dj w hw)]; exact hb0 w (List.mem_append.mpr (Or.inr hw))) hr2 (by rw [List.length_append, hl]; rfl) (by omega) (by omega) (by omega) (by omega) (by decide) (by show 1 < 2; decide) hC.1 hC.2 (fun u4 m4 kn4 top4 hm4 hk4 R4 Q4 => ?_)
    rw [eT2] at Q4
    refine s_behind (C := fun u => RW u ad 56 96 (st ++ [(nx, 12, v, 2, k_ar par 12 v)]) (nx + 1 + (fo_n a1 + 1) + (fo_n a2 + 1)) 2 ∧ QF t0 ad f (nx + 1 + (fo_n a1 + 1) + (fo_n a2 + 1)) (O ++ (if (fo_p T1).all (fun q => fclm q.1) = true then [] else (12, v) :: fo_p T1) ++ fo_p T2) (lv ++ [(O.length, 0, (fo_p T1).all (fun q => fclm q.1))]) kn4 u) K (by omega) R4 Q4 (by omega) (fun u5 post' R5 Q5 h65 hp => m_fbk_plain Q5.1.L (by omega) (by omega) R5 (fun c => absurd c (by decide)) (fun _ c => absurd c (by decide)) (hp u5 Q5.1.L ⟨R5, Q5⟩)) (fun u5 hC5 => ?_)
    refine s_leave K (by omega) hC5.1 hC5.2 (by decide) (by omega) (fun u6 post' R6 Q6 hp => m_flv_plain (d := d + 1) (j := 12) Q6.1.L (by omega) (by omega) rfl ⟨by omega, fun c => by omega⟩ (by omega) R6 (hp u6 (gFr.rf Q6.1.L) Q6.pop)) (fun u6 R6 Q6 => ?_)
    rw [show nx + 1 + (fo_n a1 + 1) + (fo_n a2 + 1) = nx + (fo_n a1 + 1 + (fo_n a2 + 1 + 0) + 1) by omega] at R6 Q6
    refine h u6 _ kn4 _ (by omega) (fun w hw => ?_) R6 ?_
    · rw [eb] at hw
      rw [hk4 w (fun c => hw (List.mem_append.mpr (Or.inr c))), hk2 w (fun c => hw (List.mem_append.mpr (Or.inl c)))]
    · rw [List.append_assoc] at Q6
      split
      · rename_i c
        rw [if_pos c] at Q6
        exact Q6
      · rename_i c
        rw [if_neg c] at Q6
        exact Q6
theorem tr_let (K : FK ad t0 f n par) (hT : fTS cx d ad t0 f n par post N) (H : FTH ad t0 f n par z 14 v a S st lv O nx m ev t kn ρ) (hN : fo_n a ≤ N)
    (h : ∀ u m' kn' top, m' + 1 ≤ m + 3 * (fo_n a + 1) → (∀ w, w ∉ fo_b (.inner z 14 v a .leaf) → kn' w = kn w) → RW u ad 56 96 (st ++ [top]) (nx + (fo_n a + 1)) 3 → QF t0 ad f (nx + (fo_n a + 1)) (O ++ fo_p (cmb ρ z 14 v (fdK a ρ 14 v 0))) lv kn' u → fHd cx d ad f post m' u) : fHd cx d ad f post m t := by
  have h1 := H.n'
  have h2 := H.o
  have h3 := H.st'
  have h4 := H.m'
  have hl := H.l
  have hla : fo_l a = 2 := H.g.w.2.1
  obtain ⟨y1, k1, v1, a1, y2, k2, v2, a2, ea⟩ := fo_l2 hla
  subst ea
  have hG := H.g.kid
  have l1 := hd_l (ρ := ρ) hG.w
  have wT1 := (fo_w_hd (fdK_w _ _ ρ 14 v 0 hG.w hG.d hG.s)).1
  have eK := fdK_2 (ρ := ρ) (y1 := y1) (y2 := y2) (k1 := k1) (v1 := v1) (k2 := k2) (v2 := v2) (a1 := a1) (a2 := a2) (pk := 14) (pv := v)
  have er : ∀ T, rnx ρ 14 v 0 T = rup ρ v (fnum T) := fun T => if_pos ⟨rfl, rfl⟩
  rw [er] at eK
  have l2 := hd_l (ρ := rup ρ v (fnum (cmb ρ y1 k1 v1 (fdK a1 ρ k1 v1 0)))) hG.w.2.2.2.2.2
  have q1 := cmb_pl (ρ := ρ) (z := y1) (k := k1) (v := v1) (a := a1)
  have en : fo_n (.inner y1 k1 v1 a1 (.inner y2 k2 v2 a2 .leaf)) = fo_n a1 + 1 + (fo_n a2 + 1 + 0) := rfl
  have ep : fo_p (.inner y1 k1 v1 a1 (.inner y2 k2 v2 a2 .leaf)) = ((k1, v1) :: fo_p a1) ++ fo_p (.inner y2 k2 v2 a2 .leaf) := rfl
  have hr := rows_tl H.r
  rw [ep] at hr
  have hr2 := rows_sf hr
  rw [List.length_cons, fo_pn, fo_p_in1] at hr2
  have hb0 := H.b0
  have eb : fo_b (.inner z 14 v (.inner y1 k1 v1 a1 (.inner y2 k2 v2 a2 .leaf)) .leaf) = v :: ((fo_b (.inner y1 k1 v1 a1 .leaf)) ++ fo_b (.inner y2 k2 v2 a2 .leaf)) := by simp [fo_b]
  have hdn := H.g.d
  have hvi := H.g.b
  have hSb := H.g.s 0
  rw [eb] at hb0 hdn hvi hSb
  have hdn := List.nodup_cons.mp hdn
  have hv1 : v ∉ fo_b (.inner y1 k1 v1 a1 .leaf) := fun c => hdn.1 (List.mem_append.mpr (Or.inl c))
  have hv2 : v ∉ fo_b (.inner y2 k2 v2 a2 .leaf) := fun c => hdn.1 (List.mem_append.mpr (Or.inr c))
  have hvS : v ∉ S 0 := fun c => hSb v c (List.mem_cons_self ..)
  obtain ⟨i, hi, evi⟩ := hvi v (List.mem_cons_self ..)
  rw [en] at h1 h3 h4 hN h
  refine H.enter K (fun u1 R1 Q1 => ?_)
  rw [if_neg (by decide)] at Q1
  refine kidTS (lv := lv ++ [(O.length, 0, false)]) K hT (by omega) hG (by exact H.s0) (fun w hw => hb0 w (List.mem_cons_of_mem _ (List.mem_append.mpr (Or.inl hw)))) (rows_pre hr) (by rw [List.length_append, hl]; rfl) (by omega) (by rw [List.length_append]; simp only [List.length_cons, List.length_nil]; omega) (by omega) (by omega) (by decide) (by show 0 < 2; decide) R1 Q1 (fun u2 m2 kn2 top hm2 hk2 R2 Q2 => ?_)
  rw [eK] at wT1
  rw [(fo_hap l1).1] at wT1
  obtain ⟨T1, eT1⟩ : ∃ T1, cmb ρ y1 k1 v1 (fdK a1 ρ k1 v1 0) = T1 := ⟨_, rfl⟩
  rw [eT1] at eK l1 l2 Q2 q1 wT1
  obtain ⟨T2, eT2⟩ : ∃ T2, cmb (rup ρ v (fnum T1)) y2 k2 v2 (fdK a2 (rup ρ v (fnum T1)) k2 v2 0) = T2 := ⟨_, rfl⟩
  have q2 := cmb_pl (ρ := rup ρ v (fnum T1)) (z := y2) (k := k2) (v := v2) (a := a2)
  rw [eT2] at eK l2 q2
  rw [eK, cmb14 l1 l2 wT1] at h
  rw [List.append_assoc] at Q2
  have Q2 : QF t0 ad f (nx + 1 + (fo_n a1 + 1)) (O ++ (14, v) :: fo_p T1) (lv ++ [(O.length, 0, false)]) kn2 u2 := Q2
  have hlen : (O ++ (14, v) :: fo_p T1).length = O.length + 1 + (fo_p T1).length := by simp; omega
  have hfn := fnum_on l1 wT1
  have n1 := fo_p_ne l1
  refine s_behind (C := fun u => RW u ad 56 96 (st ++ [(nx, 14, v, 1, k_ar par 14 v)]) (nx + 1 + (fo_n a1 + 1)) 2 ∧ (match onum (fo_p T1) with | some x => QF t0 ad f (nx + 1 + (fo_n a1 + 1)) O (lv ++ [(O.length, 0, true)]) (rup kn2 v (some x)) u | none => QF t0 ad f (nx + 1 + (fo_n a1 + 1)) (O ++ (14, v) :: fo_p T1) (lv ++ [(O.length, O.length + 1 + (fo_p T1).length, false)]) kn2 u)) K (by omega) R2 Q2 (by omega) (fun u3 post' R3 Q3 h63 hp => ?_) (fun u3 hC => ?_)
  · rw [evi] at R3 Q3 hp
    exact m_fbk_let K.hf (K.r Q3) hi Q3 (by rw [evi] at hlen; omega) hl (by omega) R3 n1 (fun u4 F4 h4 => hp u4 F4.L ⟨rw_fs F4 R3, h4⟩)
  · cases hon : onum (fo_p T1) with
    | some x =>
      rw [hon] at hfn h
      rw [hfn] at eT2
      obtain ⟨RC, QC⟩ := hC
      rw [hon] at QC
      refine kidTS (lv := lv ++ [(O.length, 0, true)]) (ρ := rup ρ v (some x)) K hT (by omega) hG.rest (by
        intro w hw
        have hw : w ∈ v :: S 0 := hw
        unfold rup
        rcases List.mem_cons.mp hw with q | q
        · rw [if_pos q, if_pos q]
        · have hne : w ≠ v := fun c => hvS (by rw [← c]; exact q)
          rw [if_neg hne, if_neg hne, hk2 w (hG.head.s 0 w q)]
          exact H.s0 w q) (fun w hw => by
        unfold rup
        rw [if_neg (fun c => hv2 (by rw [← c]; exact hw)), hk2 w (hG.dj w hw)]
        exact hb0 w (List.mem_cons_of_mem _ (List.mem_append.mpr (Or.inr hw)))) hr2 (by rw [List.length_append, hl]; rfl) (by omega) (by omega) (by omega) (by omega) (by decide) (by show 1 < 2; decide) RC QC (fun u4 m4 kn4 top4 hm4 hk4 R4 Q4 => ?_)
      rw [eT2] at Q4
      refine s_behind (C := fun u => RW u ad 56 96 (st ++ [(nx, 14, v, 2, k_ar par 14 v)]) (nx + 1 + (fo_n a1 + 1) + (fo_n a2 + 1)) 2 ∧ QF t0 ad f (nx + 1 + (fo_n a1 + 1) + (fo_n a2 + 1)) (O ++ fo_p T2) (lv ++ [(O.length, 0, true)]) kn4 u) K (by omega) R4 Q4 (by omega) (fun u5 post' R5 Q5 h65 hp => m_fbk_plain Q5.1.L (by omega) (by omega) R5 (fun c => absurd c (by decide)) (fun _ c => absurd c (by decide)) (hp u5 Q5.1.L ⟨R5, Q5⟩)) (fun u5 hC5 => ?_)
      refine s_leave K (by omega) hC5.1 hC5.2 (by decide) (by omega) (fun u6 post' R6 Q6 hp => m_flv_plain (d := d + 1) (j := 14) Q6.1.L (by omega) (by omega) rfl ⟨by omega, fun _ => by have := Q6.top.2.2; rw [hl] at this; exact this⟩ (by omega) R6 (hp u6 (gFr.rf Q6.1.L) Q6.pop)) (fun u6 R6 Q6 => ?_)
      rw [show nx + 1 + (fo_n a1 + 1) + (fo_n a2 + 1) = nx + (fo_n a1 + 1 + (fo_n a2 + 1 + 0) + 1) by omega] at R6 Q6
      refine h u6 _ kn4 _ (by omega) (fun w hw => ?_) R6 Q6
      rw [eb] at hw
      have hne : w ≠ v := fun c => hw (by rw [c]; exact List.mem_cons_self ..)
      rw [hk4 w (fun c => hw (List.mem_cons_of_mem _ (List.mem_append.mpr (Or.inr c))))]
      unfold rup
      rw [if_neg hne, hk2 w (fun c => hw (List.mem_cons_of_mem _ (List.mem_append.mpr (Or.inl c))))]
    | none =>
      rw [hon] at hfn h
      rw [hfn] at eT2
      obtain ⟨RC, QC⟩ := hC
      rw [hon] at QC
      have kv : kn2 v = none := by rw [hk2 v hv1]; exact hb0 v (List.mem_cons_self ..)
      refine kidTS (lv := lv ++ [(O.length, O.length + 1 + (fo_p T1).length, false)]) (ρ := rup ρ v none) K hT (by omega) hG.rest (by
        intro w hw
        have hw : w ∈ v :: S 0 := hw
        unfold rup
        rcases List.mem_cons.mp hw with q | q
        · rw [if_pos q, q, kv]
        · have hne : w ≠ v := fun c => hvS (by rw [← c]; exact q)
          rw [if_neg hne, hk2 w (hG.head.s 0 w q)]
          exact H.s0 w q) (fun w hw => by
        rw [hk2 w (hG.dj w hw)]
        exact hb0 w (List.mem_cons_of_mem _ (List.mem_append.mpr (Or.inr hw)))) hr2 (by rw [List.length_append, hl]; rfl) (by omega) (by omega) (by omega) (by omega) (by decide) (by show 1 < 2; decide) RC QC (fun u4 m4 kn4 top4 hm4 hk4 R4 Q4 => ?_)
      rw [eT2, List.append_assoc] at Q4
      have Q4 : QF t0 ad f (nx + 1 + (fo_n a1 + 1) + (fo_n a2 + 1)) (O ++ (14, v) :: (fo_p T1 ++ fo_p T2)) (lv ++ [(O.length, O.length + 1 + (fo_p T1).length, false)]) kn4 u4 := Q4
      have hlen4 : (O ++ (14, v) :: (fo_p T1 ++ fo_p T2)).length = O.length + 1 + (fo_p T1).length + (fo_p T2).length := by simp; omega
      refine s_behind (C := fun u => RW u ad 56 96 (st ++ [(nx, 14, v, 2, k_ar par 14 v)]) (nx + 1 + (fo_n a1 + 1) + (fo_n a2 + 1)) 2 ∧ QF t0 ad f (nx + 1 + (fo_n a1 + 1) + (fo_n a2 + 1)) (O ++ (14, v) :: (fo_p T1 ++ fo_p T2)) (lv ++ [(O.length, O.length + 1 + (fo_p T1).length, false)]) kn4 u) K (by omega) R4 Q4 (by omega) (fun u5 post' R5 Q5 h65 hp => m_fbk_plain Q5.1.L (by omega) (by omega) R5 (fun c => absurd c (by decide)) (fun _ c => absurd c (by decide)) (hp u5 Q5.1.L ⟨R5, Q5⟩)) (fun u5 hC5 => ?_)
      refine s_leave K (by omega) hC5.1 hC5.2 (by decide) (by omega) (fun u6 post' R6 Q6 hp => m_flv_let (d := d + 1) K.hf (K.r Q6) Q6 (by omega) (by omega) hl (by omega) R6 hp) (fun u6 R6 Q6 => ?_)
      rw [show nx + 1 + (fo_n a1 + 1) + (fo_n a2 + 1) = nx + (fo_n a1 + 1 + (fo_n a2 + 1 + 0) + 1) by omega] at R6 Q6
      refine h u6 _ kn4 _ (by omega) (fun w hw => ?_) R6 Q6
      rw [eb] at hw
      rw [hk4 w (fun c => hw (List.mem_cons_of_mem _ (List.mem_append.mpr (Or.inr c)))), hk2 w (fun c => hw (List.mem_cons_of_mem _ (List.mem_append.mpr (Or.inl c))))]
end FW
