/-! THE CLASS READS AN EXPRESSION: sums, comparisons -/
theorem b32_t {c : Prop} [Decidable c] (h : c) : b32 (decide c) = 1 := by rw [decide_eq_true h]; rfl
theorem b32_f {c : Prop} [Decidable c] (h : ¬ c) : b32 (decide c) = 0 := by rw [decide_eq_false h]; rfl
theorem b32_d {c : Prop} [Decidable c] : b32 (decide c) = 0 ↔ ¬ c := by rw [b32_0, decide_eq_false_iff_not]
section CH
variable {cx : gCx} {d dm : Nat} {ad : Nat → Nat} {T : Nat → Nat} {n p Pm st c0 x o : Nat}
theorem len1 {K : AT} {q : Nat × Nat × List Nat} : (K ++ [q]).length = K.length + 1 := by rw [List.length_append]; rfl
/-- sums -/
theorem sp_sum (hcs : g_CS cx) (hp : isQ p) (hT : txt T n) (hx : x < 72) (hU : Sp cx dm ad T n p Pm st c0 x i_Reader_readProduct (d + 9) 15 3 o) : Sp cx dm ad T n p Pm st c0 x i_Reader_readSum (d + 10) 12 2 o := by
  intro a l N sc cl ac t post hL hR hC hB kl kd
  have hn := hT.1
  have han := hB.1.1
  have loop : ∀ (m i a1 l1 : Nat) (cl1 : CL) (ac1 : Nat → Nat) (A : Fo) (u : gSt), n - a1 = m → i < a1 → fo_l A = 1 → LV ad T n p Pm x st cl.length a l o sc cl ac N t a1 l1 cl1 ac1 A u → (∀ V K, VK V K a 2 cl.length → RcT cx dm ad T n x Pm c0 (a, l, o, sc, cl, ac, V, K ++ [(12, 0, [])]) (a1, l1, o, sc, cl1, ac1, fo_ap V A, K ++ [(13, 0, [])])) → g_W cx (g_E cx (d + 9)) mt_Reader_readSum post (11, [some (.ref (ad 3)), some (.int (nI (st + min N 400))), some (.int (nI i))], [], u, 0, 0) := by
    intro m
    induction m using Nat.strongRecOn with
    | ind m ih =>
    intro i a1 l1 cl1 ac1 A u hm hi hA hLV hRc
    have ha1 := hLV.2.2.2.2.1
    have hg1 := hLV.2.1.1
    have hA1 := fo_pos hA
    have fin : ∀ (j : Nat) (u5 : gSt), (3 ≤ j ∧ j ≤ 9) → tkK T n a1 ≠ 0 → LV ad T n p Pm x st cl.length a l o sc cl ac N t a1 l1 cl1 ac1 A u5 → hcC ad T n a1 u5 → (∀ V K, K.length < 19000 → RcT cx dm ad T n x Pm c0 (a1, l1, o, sc, cl1, ac1, V, K ++ [(13, 0, [])]) (tkE T n a1, l1, o, sc, cl1, ac1, V, K ++ [(14, j, [])] ++ [(15, 0, [])])) → g_E cx (d + 9) i_Reader_insertNode [.ref (ad 3), .int (nI (st + min N 400)), .int (nI j), .int 0] u5 (fun r u7 => r = none ∧ Lay u7 ad ∧ g_E cx (d + 9) i_Tokens_take [.ref (ad 4)] u7 (fun r u9 => r = none ∧ Lay u9 ad ∧ g_E cx (d + 9) i_Reader_readProduct [.ref (ad 3)] u9 (fun r u11 => r = none ∧ Lay u11 ad ∧ g_W cx (g_E cx (d + 9)) mt_Reader_readSum post (11, [some (.ref (ad 3)), some (.int (nI (st + min N 400))), some (.int (nI i + 1))], [], u11, 0, 0)))) := by
      intro j u5 hj hk0 hLV5 h5 hr1
      have hEg := tkE_gt hT ha1 hk0
      have hEl := tkE_le hT ha1
      refine op_go (D1 := d + 8) (D2 := d + 8) (Or.inl hj) rfl hp hT hA hB hLV5 h5 hk0 hU (fun a' l' cl' ac' B w hB1 hLVw hEB hr2 => ?_) (fun c q w Fw hd hr2 => ?_)
      · have hB1' := fo_pos hB1
        have ha' := hLVw.2.2.2.2.1
        rw [nI_1]
        refine ih (n - a') (by omega) (i + 1) a' l' cl' ac' _ w rfl (by omega) rfl hLVw (fun V K hV => ?_)
        have hkl := hV.2.2
        have hVn := hV.1
        have := (hRc V K hV).tr ((hr1 (fo_ap V A) K (by omega)).tr (hr2 (fo_ap V A) (K ++ [(14, j, [])]) (hV.ap hLV5.2.1 (by omega) (by rw [len1]; omega))))
        exact this.tr (r_sum_e (by omega) hx hA hB1 (by omega) hj)
      · refine dl_sum Fw.L hd.ne (kd c q w Fw hd (fun V K hV => ?_))
        have hkl := hV.2.2
        exact (hRc V K hV).f ((hr1 (fo_ap V A) K (by omega)).f (hr2 (fo_ap V A) (K ++ [(14, j, [])]) (hV.ap hLV5.2.1 (by omega) (by rw [len1]; omega))))
    refine x_Reader_readSum_11 hLV.1.L ⟨fun z => ?_, fun _ => ?_⟩
    · rw [show (3000 : Int32) = nI 3000 from rfl, nI_leI (by omega) (by omega)] at z
      omega
    refine m_isAtC (kk := 15) (by decide) rfl hcs hLV.1.L hLV.2.2.1.1 ha1 hLV.2.2.2.1 (fun u1 F1 h1 => ⟨_, rfl, F1.L, fun z => ?_, fun z => ?_⟩) (fun hk u1 F1 h1 => ⟨_, rfl, F1.L, fun z => absurd rfl z, fun _ => ?_⟩)
    · have hk : tkK T n a1 = 15 := Classical.byContradiction (fun y => z (b32_f y))
      have hLV1 := hLV.tc (P := tcP) hp F1 h1.cu
      refine m_isAtC (kk := 15) (by decide) rfl hcs F1.L hLV1.2.2.1.1 ha1 h1.cu (fun u3 F3 h3 => ⟨_, rfl, F3.L, fun y => ?_, fun y => ?_⟩) (fun hk2 => by omega)
      · exact absurd hk (b32_d.mp y)
      · exact fin 3 u3 (by decide) (by omega) (hLV1.tc (P := tcP) hp F3 h3.cu) h3 (fun V K hK => r_add ha1 hK hk)
    · have hk : ¬ tkK T n a1 = 15 := b32_d.mp (Classical.not_not.mp z)
      have hLV1 := hLV.tc (P := tcP) hp F1 h1.cu
      refine m_isAtC (kk := 16) (by decide) rfl hcs F1.L hLV1.2.2.1.1 ha1 h1.cu (fun u3 F3 h3 => ⟨_, rfl, F3.L, fun y => ?_, fun y => ?_⟩) (fun hk2 => absurd hk2 h1.2.2.1)
      · have hLV3 := hLV1.tc (P := tcP) hp F3 h3.cu
        exact kl a1 l1 cl1 ac1 A u3 hA hLV3 (fun V K hV => (hRc V K hV).tr (r_sum_o ha1 (by have := hV.2.2; omega) hk (b32_d.mp y) h1.2.2.1))
      · have hk2 : tkK T n a1 = 16 := Classical.byContradiction (fun q => y (b32_f q))
        have hLV3 := hLV1.tc (P := tcP) hp F3 h3.cu
        refine m_isAtC (kk := 15) (by decide) rfl hcs F3.L hLV3.2.2.1.1 ha1 h3.cu (fun u5 F5 h5 => ⟨_, rfl, F5.L, fun q => ?_, fun q => absurd (b32_f hk) q⟩) (fun hk3 => by omega)
        exact fin 4 u5 (by decide) (by omega) (hLV3.tc (P := tcP) hp F5 h5.cu) h5 (fun V K hK => r_sub ha1 hK hk2)
    · refine m_isAtD F1.L h1.ne (by decide) ⟨_, rfl, F1.L, fun _ => ?_, fun z => absurd rfl z⟩
      exact kd 1 _ u1 (hLV.1.tr (F1.mo (fun c k z => ce_tc z))) h1 (fun V K hV => (hRc V K hV).f (r_sum_bad ha1 (by have := hV.2.2; omega) hk))
  refine x_Reader_readSum hL (fun x1 e1 => ?_)
  rw [hR.2.2.2.2.2.1] at e1
  rw [e1]
  refine hU a l N sc cl ac t _ hL hR hC hB (fun a1 l1 cl1 ac1 A u hA hLV hRc => ⟨rfl, hLV.1.L, ?_⟩) (fun c q u F hd hRf => ⟨rfl, F.L, dl_sum F.L hd.ne (kd c q u F hd (fun V K hV => ?_))⟩)
  · have := hLV.2.1.1
    have := fo_pos hA
    exact loop (n - a1) 0 a1 l1 cl1 ac1 A u rfl (by omega) hA hLV (fun V K hV => (r_sum han (by have := hV.2.2; omega)).tr (hRc V _ (hV.mo (Nat.le_refl _) (Nat.le_refl _) (by rw [len1]; have := hV.2.2; omega))))
  · exact (r_sum han (by have := hV.2.2; omega)).f (hRf V _ (hV.mo (Nat.le_refl _) (Nat.le_refl _) (by rw [len1]; have := hV.2.2; omega)))
/-- comparisons -/
theorem sp_comp (hcs : g_CS cx) (hp : isQ p) (hT : txt T n) (hx : x < 72) (hU : Sp cx dm ad T n p Pm st c0 x i_Reader_readSum (d + 10) 12 2 o) : Sp cx dm ad T n p Pm st c0 x i_Reader_readComparison (d + 11) 9 1 o := by
  intro a l N sc cl ac t post hL hR hC hB kl kd
  have hn := hT.1
  have han := hB.1.1
  refine x_Reader_readComparison hL (fun x1 e1 => ?_)
  rw [hR.2.2.2.2.2.1] at e1
  rw [e1]
  have start : ∀ V K, VK V K a 1 cl.length → K.length < 19000 ∧ VK V (K ++ [(10, 0, [])]) a 2 cl.length := fun V K hV => ⟨by have := hV.2.2; omega, hV.mo (Nat.le_refl _) (Nat.le_refl _) (by rw [len1]; have := hV.2.2; omega)⟩
  refine hU a l N sc cl ac t _ hL hR hC hB (fun a1 l1 cl1 ac1 A u hA hLV hRc0 => ⟨rfl, hLV.1.L, ?_⟩) (fun c q u F hd hRf => ⟨rfl, F.L, dl_comp F.L hd.ne (kd c q u F hd (fun V K hV => (r_alikes han (start V K hV).1).f (hRf V _ (start V K hV).2)))⟩)
  have hRc : ∀ V K, VK V K a 1 cl.length → RcT cx dm ad T n x Pm c0 (a, l, o, sc, cl, ac, V, K ++ [(9, 0, [])]) (a1, l1, o, sc, cl1, ac1, fo_ap V A, K ++ [(10, 0, [])]) := fun V K hV => (r_alikes han (start V K hV).1).tr (hRc0 V _ (start V K hV).2)
  have ha1 := hLV.2.2.2.2.1
  have hg1 := hLV.2.1.1
  have hA1 := fo_pos hA
  have fin : ∀ (j : Nat) (u5 : gSt), (3 ≤ j ∧ j ≤ 9) → tkK T n a1 ≠ 0 → LV ad T n p Pm x st cl.length a l o sc cl ac N t a1 l1 cl1 ac1 A u5 → hcC ad T n a1 u5 → (∀ V K, K.length < 19000 → RcT cx dm ad T n x Pm c0 (a1, l1, o, sc, cl1, ac1, V, K ++ [(10, 0, [])]) (tkE T n a1, l1, o, sc, cl1, ac1, V, K ++ [(11, j, [])] ++ [(12, 0, [])])) → g_E cx (d + 10) i_Reader_insertNode [.ref (ad 3), .int (nI (st + min N 400)), .int (nI j), .int 0] u5 (fun r u7 => r = none ∧ Lay u7 ad ∧ g_E cx (d + 10) i_Tokens_take [.ref (ad 4)] u7 (fun r u9 => r = none ∧ Lay u9 ad ∧ g_E cx (d + 10) i_Reader_readSum [.ref (ad 3)] u9 (fun r u11 => r = none ∧ Lay u11 ad ∧ post none u11))) := by
    intro j u5 hj hk0 hLV5 h5 hr1
    have hEg := tkE_gt hT ha1 hk0
    have hEl := tkE_le hT ha1
    refine op_go (D1 := d + 9) (D2 := d + 9) (Or.inl hj) rfl hp hT hA hB hLV5 h5 hk0 hU (fun a' l' cl' ac' B w hB1 hLVw hEB hr2 => ?_) (fun c q w Fw hd hr2 => ?_)
    · refine kl a' l' cl' ac' _ w rfl hLVw (fun V K hV => ?_)
      have ha' := hLVw.2.2.2.2.1
      have hkl := hV.2.2
      have hVn := hV.1
      have := (hRc V K hV).tr ((hr1 (fo_ap V A) K (by omega)).tr (hr2 (fo_ap V A) (K ++ [(11, j, [])]) (hV.ap hLV5.2.1 (by omega) (by rw [len1]; omega))))
      exact this.tr (r_alike_e (by omega) hx hA hB1 (by omega) hj)
    · refine kd c q w Fw hd (fun V K hV => ?_)
      have hkl := hV.2.2
      exact (hRc V K hV).f ((hr1 (fo_ap V A) K (by omega)).f (hr2 (fo_ap V A) (K ++ [(11, j, [])]) (hV.ap hLV5.2.1 (by omega) (by rw [len1]; omega))))
  refine m_isAtC (kk := 20) (by decide) rfl hcs hLV.1.L hLV.2.2.1.1 ha1 hLV.2.2.2.1 (fun u1 F1 h1 => ⟨_, rfl, F1.L, fun z => ?_, fun z => ?_⟩) (fun hk u1 F1 h1 => ⟨_, rfl, F1.L, fun z => absurd rfl z, fun _ => ?_⟩)
  · have hk : tkK T n a1 = 20 := Classical.byContradiction (fun y => z (b32_f y))
    have hLV1 := hLV.tc (P := tcP) hp F1 h1.cu
    refine m_isAtC (kk := 20) (by decide) rfl hcs F1.L hLV1.2.2.1.1 ha1 h1.cu (fun u3 F3 h3 => ⟨_, rfl, F3.L, fun y => absurd hk (b32_d.mp y), fun y => ?_⟩) (fun hk2 => by omega)
    exact fin 8 u3 (by decide) (by omega) (hLV1.tc (P := tcP) hp F3 h3.cu) h3 (fun V K hK => r_less ha1 hK hk)
  · have hk : ¬ tkK T n a1 = 20 := b32_d.mp (Classical.not_not.mp z)
    have hLV1 := hLV.tc (P := tcP) hp F1 h1.cu
    refine m_isAtC (kk := 21) (by decide) rfl hcs F1.L hLV1.2.2.1.1 ha1 h1.cu (fun u3 F3 h3 => ⟨_, rfl, F3.L, fun y => ?_, fun y => ?_⟩) (fun hk2 => absurd hk2 h1.2.2.1)
    · have hLV3 := hLV1.tc (P := tcP) hp F3 h3.cu
      exact kl a1 l1 cl1 ac1 A u3 hA hLV3 (fun V K hV => (hRc V K hV).tr (r_alike_o ha1 (by have := hV.2.2; omega) hk (b32_d.mp y) h1.2.2.1))
    · have hk2 : tkK T n a1 = 21 := Classical.byContradiction (fun q => y (b32_f q))
      have hLV3 := hLV1.tc (P := tcP) hp F3 h3.cu
      refine m_isAtC (kk := 20) (by decide) rfl hcs F3.L hLV3.2.2.1.1 ha1 h3.cu (fun u5 F5 h5 => ⟨_, rfl, F5.L, fun q => ?_, fun q => absurd (b32_f hk) q⟩) (fun hk3 => by omega)
      exact fin 9 u5 (by decide) (by omega) (hLV3.tc (P := tcP) hp F5 h5.cu) h5 (fun V K hK => r_same ha1 hK hk2)
  · refine m_isAtD F1.L h1.ne (by decide) ⟨_, rfl, F1.L, fun _ => ?_, fun z => absurd rfl z⟩
    exact kd 1 _ u1 (hLV.1.tr (F1.mo (fun c k z => ce_tc z))) h1 (fun V K hV => (hRc V K hV).f (r_alike_bad ha1 (by have := hV.2.2; omega) hk))
end CH
