/-! THE MODEL'S COMPILER: ifs; all -/
section MJ
variable {cx : gCx} {d : Nat} {ad : Nat → Nat} {t0 : gSt} {post : Option Value → gSt → Prop} {x NN fN own : Nat} {tl : Bool} {l1 l3 : Int32} {par : Int32 → Nat}
theorem kSH_so {w : Int32} {q : KS} : ks_so (kSetH w q) = ks_so q := rfl
theorem kSH_us {w : Int32} {q : KS} : ks_us (kSetH w q) = ks_us q := rfl
theorem kSH_ho {w : Int32} {q : KS} : ks_ho (kSetH w q) = ks_ho q := rfl
theorem kHo_so {j : Nat} {w : Int32} {q : KS} : ks_so (kSetHo j w q) = ks_so q := rfl
theorem kHo_us {j : Nat} {w : Int32} {q : KS} : ks_us (kSetHo j w q) = ks_us q := rfl
theorem kHo_ho {j : Nat} {w : Int32} {q : KS} : ks_ho (kSetHo j w q) = va_up (ks_ho q) j w := rfl
theorem kF_ho {cap base : Nat} {w : Int32} {q : KS} : ks_ho (kFill cap base w q) = ks_ho q := congrArg (·.2.2.2.2.2.2.1) kF_rs
theorem kKM_ho {j : Nat} {w : Int32} {q : KS} {m z : Nat} (h : KM q m z) : KM (kSetHo j w q) m z := h
theorem kKM_sh {w : Int32} {q : KS} {m z : Nat} (h : KM q m z) : KM (kSetH w q) m z := h
theorem mt_if (hx : x < 48) (h65 : t0.2.1 (ad 144) 65 = nI x) {v : Int32} {a : Fo} {o : Nat} (ho : o + fo_n a < 1300) (hm : rowK t0 ad x NN (o + fo_n a) 13 v (fo_r a o)) (M : MTs cx d ad post l1 l3 tl own x fN par t0 a o) : MTr cx d ad post l1 l3 tl own x fN par t0 13 v a o := by
  intro e n σ S h m z s T vn t hQ hq he hS hW h15 hc h1 h2 hT hvn hK
  have hb := hQ.2.2.2.2.1.2
  obtain ⟨w1, w2, w3, w4, w5, w6⟩ := hW
  obtain ⟨y1, k1, v1, a1, y2, k2, v2, a2, y3, k3, v3, a3, rfl⟩ := fo_l3 w2
  obtain ⟨M1, M2, M3, _⟩ := M
  have etb : tB 13 v (.inner y1 k1 v1 a1 (.inner y2 k2 v2 a2 (.inner y3 k3 v3 a3 .leaf))) = tB k1 v1 a1 ++ (tB k2 v2 a2 ++ (tB k3 v3 a3 ++ [])) := rfl
  rw [List.append_nil] at etb
  rw [etb] at w5 w6 hK
  rw [k_sc_g (by decide)] at w4
  have hd := List.nodup_append.mp w5
  have hd2 := List.nodup_append.mp hd.2.1
  have c1 := fo_w_15 w4
  obtain ⟨x1, x2⟩ := fo_w_in w4 hd.1 (fun w hw => w6 w (List.mem_append.mpr (Or.inl hw)))
  have c2 := fo_w_15 x2
  obtain ⟨x3, x4⟩ := fo_w_in x2 hd2.1 (fun w hw => w6 w (List.mem_append.mpr (Or.inr (List.mem_append.mpr (Or.inl hw)))))
  have c3 := fo_w_15 x4
  obtain ⟨x5, _⟩ := fo_w_in x4 hd2.2.1 (fun w hw => w6 w (List.mem_append.mpr (Or.inr (List.mem_append.mpr (Or.inr hw)))))
  have en : fo_n (.inner y1 k1 v1 a1 (.inner y2 k2 v2 a2 (.inner y3 k3 v3 a3 .leaf))) = fo_n a1 + 1 + (fo_n a2 + 1 + (fo_n a3 + 1 + 0)) := rfl
  have er : fo_r (.inner y1 k1 v1 a1 (.inner y2 k2 v2 a2 (.inner y3 k3 v3 a3 .leaf))) o = [o + fo_n a1, o + fo_n a1 + 1 + fo_n a2, o + fo_n a1 + 1 + fo_n a2 + 1 + fo_n a3] := rfl
  have l0 : (e && kLast 13 0) = false := by cases e <;> rfl
  have l1' : (e && kLast 13 1) = e := by cases e <;> rfl
  have l2 : (e && kLast 13 2) = e := by cases e <;> rfl
  rw [if_ec, l0, l1', l2] at hc
  rw [er] at hm
  rw [if_em, if_ez, l0, l1', l2] at hK
  -- the first operand, and the jump behind it
  have first : ∀ (T0 : TK) (u : gSt), T0.length ≤ T.length + 6 → QC t0 ad x vn (T0 ++ [(46, 0, 0)] ++ [(41, nI (o + fo_n a1), nI n)]) s u → (∀ u2 s1 s2, KR vn s s1 (eX tl own k1 v1 a1 false n σ (ks_us s - 1600 * x)) → m ≤ tM tl k1 a1 false h m → KR vn s1 s2 [(14, 0)] → KQ s2 h (tM tl k1 a1 false h m) (tZ k1 v1 a1 n σ z) → ks_us s1 = ks_us s + eXn tl own k1 v1 a1 false → ks_us s2 = ks_us s1 + 1 → ks_ho s2 vn = nI (ks_us s1 - 1600 * x) → sC S σ s2 → (∀ j, j < 120 → nI j ∉ tB k1 v1 a1 → ks_so s2 j = ks_so s j) → QC t0 ad x (vn + 1) T0 s2 u2 → HdC cx d ad post l1 tl l3 u2) → HdC cx d ad post l1 tl l3 u := by
    intro T0 u hT0 Q hN
    refine M1 false n σ S h m z s _ vn u Q hq (fun c => by cases c) hS x1 c1 (by omega) (by omega) (by omega) (by simp; omega) (by omega) (fun u1 s1 K1 Q1 => ?_)
    obtain ⟨g1, g2, g3, g4, g5⟩ := K1
    obtain ⟨g6, g7⟩ := g4 rfl
    have u1 : ks_us s1 = ks_us s + eXn tl own k1 v1 a1 false := by rw [g1.1, eX_len]
    refine c_atelse hx h65 (by omega) Q1 (by omega) (by omega) (fun u2 Q2 => ?_)
    obtain ⟨sx, esx⟩ : ∃ sx, kSetHo vn (nI (ks_us s1 - 1600 * x)) s1 = sx := ⟨_, rfl⟩
    rw [esx] at Q2
    obtain ⟨s2, es2⟩ : ∃ s2, kRise (-1) (kEmit (1600 * x + 1600) 14 0 sx) = s2 := ⟨_, rfl⟩
    rw [es2] at Q2
    have qx : KQ sx (h + 1) (tM tl k1 a1 false h m) (tZ k1 v1 a1 n σ z) := by
      rw [← esx]
      exact KQ.ho ⟨g6, g7, g2⟩
    have usx : ks_us sx = ks_us s1 := by rw [← esx, kHo_us]
    have r1x : KR vn s1 sx [] := by rw [← esx]; exact KR.setho
    have rx2 : KR vn sx s2 [(14, 0)] := by rw [← es2]; exact (KR.emit (by omega)).tr .rise
    have q2 : KQ s2 h (tM tl k1 a1 false h m) (tZ k1 v1 a1 n σ z) := by
      rw [← es2]
      exact (qx.emit).dn1
    have so2 : ks_so s2 = ks_so s1 := by rw [← es2, kR_so, kE_so, ← esx, kHo_so]
    have ho2 : ks_ho s2 vn = nI (ks_us s1 - 1600 * x) := by rw [← es2, kR_ho, kE_ho, ← esx, kHo_ho, va_up_self]
    have u2' : ks_us s2 = ks_us s1 + 1 := by rw [rx2.1, usx]; rfl
    exact hN u2 s1 s2 g1 g3 (r1x.tr rx2) q2 u1 u2' ho2 (hS.mo (B := tB k1 v1 a1) (fun j hj hB => by rw [so2]; exact g5 j hj hB) (fun w hw c => (w6 w (List.mem_append.mpr (Or.inl c))).1 hw)) (fun j hj hB => by rw [so2]; exact g5 j hj hB) Q2
  have L1 : (eX tl own k1 v1 a1 false n σ (ks_us s - 1600 * x)).length = eXn tl own k1 v1 a1 false := eX_len
  have w62 : ∀ w ∈ S, w ∉ tB k2 v2 a2 := fun w hw c => (w6 w (List.mem_append.mpr (Or.inr (List.mem_append.mpr (Or.inl c))))).1 hw
  cases e with
  | true =>
    have h0 := he rfl
    subst h0
    rw [show (eS 13 1 true 0 0).length = 0 from rfl] at hc
    rw [if_ext] at hK
    simp only [List.append_nil, Nat.add_zero] at hK hc
    refine c_vtail hQ (by omega) (fun t1 post' Q1 hp => m_vt_13 hx ho h65 hm Q1 (by omega) (fun u Q => hp u Q.1.L ?_))
    rw [show T ++ [(42, nI (o + fo_n a1 + 1 + fo_n a2 + 1 + fo_n a3), nI n), (43, 0, 0), (42, nI (o + fo_n a1 + 1 + fo_n a2), nI n), (46, 0, 0), (41, nI (o + fo_n a1), nI n)] = (T ++ [(42, nI (o + fo_n a1 + 1 + fo_n a2 + 1 + fo_n a3), nI n)] ++ [(43, 0, 0)] ++ [(42, nI (o + fo_n a1 + 1 + fo_n a2), nI n)]) ++ [(46, 0, 0)] ++ [(41, nI (o + fo_n a1), nI n)] by simp] at Q
    refine first _ u (by simp) Q (fun u2 s1 s2 g1 gm g2 q2 us1 us2 ho2 hS2 so2 Q2 => ?_)
    refine M2 true n σ S 0 _ _ s2 _ (vn + 1) u2 Q2 q2 (fun _ => rfl) hS2 x3 c2 (by omega) (by omega) (by omega) (by simp; omega) (by omega) (fun u3 s3 K2 Q3 => ?_)
    obtain ⟨f1, f2, f3, f4, f5⟩ := K2
    have L2 : (eX tl own k2 v2 a2 true n σ (ks_us s2 - 1600 * x)).length = eXn tl own k2 v2 a2 true := eX_len
    have us3 : ks_us s3 = ks_us s2 + eXn tl own k2 v2 a2 true := by rw [f1.1, L2]
    have ho3 : ks_ho s3 vn = nI (ks_us s1 - 1600 * x) := ((f1.2.2.2 vn (by omega)).2.2.1).trans ho2
    refine c_pelse0 (p0 := ks_us s1 - 1600 * x) hx h65 (by omega) Q3 (by simp; omega) (by omega) ho3 (fun u4 Q4 => ?_)
    obtain ⟨sz, esz⟩ : ∃ sz, kSetH 0 s3 = sz := ⟨_, rfl⟩
    rw [esz, show 1600 * x + (ks_us s1 - 1600 * x) = ks_us s + (eX tl own k1 v1 a1 false n σ (ks_us s - 1600 * x)).length by rw [L1]; omega] at Q4
    have r03 : KR vn s sz (eX tl own k1 v1 a1 false n σ (ks_us s - 1600 * x) ++ (14, 0) :: eX tl own k2 v2 a2 true n σ (ks_us s2 - 1600 * x)) := by
      have := ((g1.tr g2).tr (f1.mo (Nat.le_succ vn))).tr (KR.seth (D := vn) (x := 0) (s := s3))
      rw [esz, List.append_nil, List.append_assoc] at this
      exact this
    have usz : ks_us sz = ks_us s3 := by rw [← esz, kSH_us]
    have F4 := r03.fill (cap := 1600 * x + 1600) (base := 1600 * x) (by rw [L1]; omega) (by omega) hb
    obtain ⟨s4, es4⟩ : ∃ s4, kFill (1600 * x + 1600) (1600 * x) (nI (ks_us s + (eX tl own k1 v1 a1 false n σ (ks_us s - 1600 * x)).length)) sz = s4 := ⟨_, rfl⟩
    rw [es4] at Q4 F4
    have q4 : KQ s4 0 (tM tl k2 a2 true 0 (tM tl k1 a1 false 0 m)) (tZ k2 v2 a2 n σ (tZ k1 v1 a1 n σ z)) := by
      have hz : KM s4 (tM tl k2 a2 true 0 (tM tl k1 a1 false 0 m)) (tZ k2 v2 a2 n σ (tZ k1 v1 a1 n σ z)) := by
        rw [← es4, ← esz]
        exact (kKM_sh f2).fill
      refine ⟨?_, Nat.zero_le _, hz⟩
      rw [← es4, kF_h, ← esz]
      rfl
    have so4 : ks_so s4 = ks_so s3 := by rw [← es4, kF_so, ← esz, kSH_so]
    have us4 : ks_us s4 = ks_us s3 := by rw [← es4, kF_us, usz]
    refine M3 true n σ S 0 _ _ s4 T vn u4 Q4 q4 (fun _ => rfl) (fun w hw => by rw [so4]; exact (hS2.mo f5 w62) w hw) x5 c3 (by omega) (by omega) (by omega) (by omega) (by omega) (fun u5 s5 K3 Q5 => ?_)
    obtain ⟨d1, d2, d3, d4, d5⟩ := K3
    refine hK u5 s5 ⟨?_, d2, by omega, (fun c => by cases c), fun j hj hB => ?_⟩ Q5
    · have := F4.tr d1
      rw [show ks_us s - 1600 * x + (eXn tl own k1 v1 a1 false + 1) + eXn tl own k2 v2 a2 true = ks_us s3 - 1600 * x by omega, show ks_us s - 1600 * x + (eXn tl own k1 v1 a1 false + 1) = ks_us s2 - 1600 * x by omega]
      rw [us4, usz] at this
      simpa using this
    · rw [List.mem_append, List.mem_append] at hB
      rw [d5 j hj (fun c => hB (Or.inr (Or.inr c))), so4, f5 j hj (fun c => hB (Or.inr (Or.inl c))), so2 j hj (fun c => hB (Or.inl c))]
  | false =>
    rw [show (eS 13 1 false 0 0).length = 1 from rfl] at hc
    rw [if_exf] at hK
    simp only [List.append_nil, Nat.add_zero] at hK hc
    refine c_visit hQ (by omega) (fun t1 post' Q1 hp => m_visit_13 hx ho h65 hm Q1 (by omega) (fun u Q => hp u Q.1.L ?_))
    rw [show T ++ [(44, 0, 0), (41, nI (o + fo_n a1 + 1 + fo_n a2 + 1 + fo_n a3), nI n), (47, -1, 0), (43, 1, 0), (41, nI (o + fo_n a1 + 1 + fo_n a2), nI n), (46, 0, 0), (41, nI (o + fo_n a1), nI n)] = (T ++ [(44, 0, 0)] ++ [(41, nI (o + fo_n a1 + 1 + fo_n a2 + 1 + fo_n a3), nI n)] ++ [(47, -1, 0)] ++ [(43, 1, 0)] ++ [(41, nI (o + fo_n a1 + 1 + fo_n a2), nI n)]) ++ [(46, 0, 0)] ++ [(41, nI (o + fo_n a1), nI n)] by simp] at Q
    refine first _ u (by simp) Q (fun u2 s1 s2 g1 gm g2 q2 us1 us2 ho2 hS2 so2 Q2 => ?_)
    refine M2 false n σ S h _ _ s2 _ (vn + 1) u2 Q2 q2 (fun c => by cases c) hS2 x3 c2 (by omega) (by omega) (by omega) (by simp; omega) (by omega) (fun u3 s3 K2 Q3 => ?_)
    obtain ⟨f1, f2, f3, f4, f5⟩ := K2
    obtain ⟨f6, f7⟩ := f4 rfl
    have L2 : (eX tl own k2 v2 a2 false n σ (ks_us s2 - 1600 * x)).length = eXn tl own k2 v2 a2 false := eX_len
    have us3 : ks_us s3 = ks_us s2 + eXn tl own k2 v2 a2 false := by rw [f1.1, L2]
    have ho3 : ks_ho s3 vn = nI (ks_us s1 - 1600 * x) := ((f1.2.2.2 vn (by omega)).2.2.1).trans ho2
    refine c_pelse1 (p0 := ks_us s1 - 1600 * x) hx h65 (by omega) Q3 (by simp; omega) (by omega) ho3 (by omega) (fun u4 Q4 => ?_)
    obtain ⟨sz, esz⟩ : ∃ sz, kSetHo vn (nI (ks_us s3 - 1600 * x)) s3 = sz := ⟨_, rfl⟩
    rw [esz] at Q4
    obtain ⟨sy, esy⟩ : ∃ sy, kEmit (1600 * x + 1600) 15 0 sz = sy := ⟨_, rfl⟩
    rw [esy, show 1600 * x + (ks_us s1 - 1600 * x) = ks_us s + (eX tl own k1 v1 a1 false n σ (ks_us s - 1600 * x)).length by rw [L1]; omega] at Q4
    have usz : ks_us sz = ks_us s3 := by rw [← esz, kHo_us]
    have ry : KR vn s3 sy [(15, 0)] := by
      rw [← esy]
      have e1 : KR vn s3 sz [] := by rw [← esz]; exact KR.setho
      exact e1.tr (KR.emit (by omega))
    have usy : ks_us sy = ks_us s3 + 1 := by rw [ry.1]; rfl
    have r0y : KR vn s sy (eX tl own k1 v1 a1 false n σ (ks_us s - 1600 * x) ++ (14, 0) :: (eX tl own k2 v2 a2 false n σ (ks_us s2 - 1600 * x) ++ [(15, 0)])) := by
      have := ((g1.tr g2).tr (f1.mo (Nat.le_succ vn))).tr ry
      simpa using this
    have F4 := r0y.fill (cap := 1600 * x + 1600) (base := 1600 * x) (by rw [L1]; omega) (by omega) hb
    obtain ⟨s4, es4⟩ : ∃ s4, kFill (1600 * x + 1600) (1600 * x) (nI (ks_us s + (eX tl own k1 v1 a1 false n σ (ks_us s - 1600 * x)).length)) sy = s4 := ⟨_, rfl⟩
    rw [es4] at Q4 F4
    have h4 : ks_h s4 = nI (h + 1) := by
      rw [← es4, kF_h, ← esy, kE_h, ← esz]
      exact f6
    have m4 : KM s4 (tM tl k2 a2 false h (tM tl k1 a1 false h m)) (tZ k2 v2 a2 n σ (tZ k1 v1 a1 n σ z)) := by
      rw [← es4, ← esy, ← esz]
      exact ((kKM_ho f2).emit).fill
    have so4 : ks_so s4 = ks_so s3 := by rw [← es4, kF_so, ← esy, kE_so, ← esz, kHo_so]
    have us4 : ks_us s4 = ks_us s3 + 1 := by rw [← es4, kF_us, usy]
    have ho4 : ks_ho s4 vn = nI (ks_us s3 - 1600 * x) := by rw [← es4, kF_ho, ← esy, kE_ho, ← esz, kHo_ho, va_up_self]
    refine c_laid Q4 (by simp; omega) (fun u5 Q5 => ?_)
    rw [h4, pk_m1] at Q5
    obtain ⟨s5, es5⟩ : ∃ s5, kSetH (nI h) s4 = s5 := ⟨_, rfl⟩
    rw [es5] at Q5
    have q5 : KQ s5 h (tM tl k2 a2 false h (tM tl k1 a1 false h m)) (tZ k2 v2 a2 n σ (tZ k1 v1 a1 n σ z)) := by
      rw [← es5]
      exact m4.seth (by omega)
    have so5 : ks_so s5 = ks_so s3 := by rw [← es5, kSH_so, so4]
    have us5 : ks_us s5 = ks_us s3 + 1 := by rw [← es5, kSH_us, us4]
    have ho5 : ks_ho s5 vn = nI (ks_us s3 - 1600 * x) := by rw [← es5, kSH_ho]; exact ho4
    have F5 := F4.tr (KR.seth (D := vn) (x := nI h) (s := s4))
    rw [es5, List.append_nil] at F5
    refine M3 false n σ S h _ _ s5 _ (vn + 1) u5 Q5 q5 (fun c => by cases c) (fun w hw => by rw [so5]; exact (hS2.mo f5 w62) w hw) x5 c3 (by omega) (by omega) (by omega) (by simp; omega) (by omega) (fun u6 s6 K3 Q6 => ?_)
    obtain ⟨d1, d2, d3, d4, d5⟩ := K3
    have ho6 : ks_ho s6 vn = nI (ks_us s3 - 1600 * x) := ((d1.2.2.2 vn (by omega)).2.2.1).trans ho5
    have L3 : (eX tl own k3 v3 a3 false n σ (ks_us s5 - 1600 * x)).length = eXn tl own k3 v3 a3 false := eX_len
    have us6 : ks_us s6 = ks_us s5 + eXn tl own k3 v3 a3 false := by rw [d1.1, L3]
    refine c_pjump (p0 := ks_us s3 - 1600 * x) hx h65 (by omega) Q6 (by omega) (by omega) ho6 (fun u7 Q7 => ?_)
    have r06 := F5.tr (d1.mo (Nat.le_succ vn))
    have F6 := KR.fill (k := 15) (x := 0) (a := eX tl own k1 v1 a1 false n σ (ks_us s - 1600 * x) ++ (14, nI (ks_us sy - 1600 * x)) :: eX tl own k2 v2 a2 false n σ (ks_us s2 - 1600 * x)) (b := eX tl own k3 v3 a3 false n σ (ks_us s5 - 1600 * x)) (cap := 1600 * x + 1600) (base := 1600 * x) (s1 := s6) (s := s) (D := vn) (by simpa using r06) (by rw [List.length_append, List.length_cons, L1, L2]; omega) (by omega) hb
    rw [List.length_append, List.length_cons, L1, L2, show ks_us s + (eXn tl own k1 v1 a1 false + (eXn tl own k2 v2 a2 false + 1)) = ks_us s3 by omega] at F6
    rw [show 1600 * x + (ks_us s3 - 1600 * x) = ks_us s3 by omega] at Q7
    refine hK u7 _ ⟨?_, d2.fill, by omega, (fun c => by
      rw [kF_h]
      exact d4 rfl), fun j hj hB => ?_⟩ Q7
    · rw [show ks_us s - 1600 * x + (eXn tl own k1 v1 a1 false + 1) + (eXn tl own k2 v2 a2 false + 1) + eXn tl own k3 v3 a3 false = ks_us s6 - 1600 * x by omega, show ks_us s - 1600 * x + (eXn tl own k1 v1 a1 false + 1) + (eXn tl own k2 v2 a2 false + 1) = ks_us s5 - 1600 * x by omega, show ks_us s - 1600 * x + (eXn tl own k1 v1 a1 false + 1) = ks_us s2 - 1600 * x by omega]
      rw [usy, ← us5] at F6
      simpa using F6
    · rw [List.mem_append, List.mem_append] at hB
      rw [kF_so, d5 j hj (fun c => hB (Or.inr (Or.inr c))), so5, f5 j hj (fun c => hB (Or.inr (Or.inl c))), so2 j hj (fun c => hB (Or.inl c))]
theorem mt_all (hx : x < 48) (hNN : NN ≤ 1300) (h65 : t0.2.1 (ad 144) 65 = nI x) (hfN : fN ≤ 24) (hP : ∀ g, g < fN → t0.2.1 (ad 147) g = nI (par (nI g))) (hown : own < 24) (hxo : x = own ∨ x = 24 + own) : ∀ (F : Fo) (o : Nat), o + fo_n F ≤ 1300 → fo_m (fun i => t0.2.1 (ad 151) (1300 * x + i)) (fun i => t0.2.1 (ad 152) (1300 * x + i)) (fun i => t0.2.1 (ad 153) (1300 * x + i)) (fun i => t0.2.1 (ad 154) (1300 * x + i)) (fun i => t0.2.1 (ad 155) (1300 * x + i)) NN id F o → MTs cx d ad post l1 l3 tl own x fN par t0 F o
  | .leaf, _, _, _ => trivial
  | .inner y k v a b, o, ho, hm => by
    have en : fo_n (.inner y k v a b) = fo_n a + 1 + fo_n b := rfl
    refine ⟨?_, mt_all hx hNN h65 hfN hP hown hxo b _ (by omega) hm.2.2⟩
    have M := mt_all hx hNN h65 hfN hP hown hxo a o (by omega) hm.1
    have hr := hm.2.1
    by_cases hg : gK k
    · exact mt_gen hx hNN h65 hfN hP hown hxo hg (by omega) hr M
    · rcases Classical.not_not.mp hg with rfl | rfl | rfl
      · exact mt_seq hx h65 (by omega) hr M
      · exact mt_let hx h65 (by omega) hr M
      · exact mt_if hx h65 (by omega) hr M
end MJ
