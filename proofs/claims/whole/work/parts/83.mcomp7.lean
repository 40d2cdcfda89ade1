/-! THE MODEL'S COMPILER: sequences, lets, ifs; all -/
section MI
variable {cx : gCx} {d : Nat} {ad : Nat → Nat} {t0 : gSt} {post : Option Value → gSt → Prop} {x NN fN own : Nat} {tl : Bool} {l1 l3 : Int32} {par : Int32 → Nat}
theorem mt_seq (hx : x < 48) (h65 : t0.2.1 (ad 144) 65 = nI x) {v : Int32} {a : Fo} {o : Nat} (ho : o + fo_n a < 1300) (hm : rowK t0 ad x NN (o + fo_n a) 12 v (fo_r a o)) (M : MTs cx d ad post l1 l3 tl own x fN par t0 a o) : MTr cx d ad post l1 l3 tl own x fN par t0 12 v a o := by
  intro e n σ S h m z s T vn t hQ hq he hS hW h15 hc h1 h2 hT hvn hK
  have hb := hQ.2.2.2.2.1.2
  obtain ⟨w1, w2, w3, w4, w5, w6⟩ := hW
  obtain ⟨y1, k1, v1, a1, y2, k2, v2, a2, rfl⟩ := fo_l2 w2
  obtain ⟨M1, M2, _⟩ := M
  have etb : tB 12 v (.inner y1 k1 v1 a1 (.inner y2 k2 v2 a2 .leaf)) = tB k1 v1 a1 ++ (tB k2 v2 a2 ++ []) := rfl
  rw [List.append_nil] at etb
  rw [etb] at w5 w6 hK
  rw [k_sc_g (by decide)] at w4
  have hd := List.nodup_append.mp w5
  have c1 := fo_w_15 w4
  obtain ⟨x1, x2⟩ := fo_w_in w4 hd.1 (fun w hw => w6 w (List.mem_append.mpr (Or.inl hw)))
  have c2 := fo_w_15 x2
  obtain ⟨x3, _⟩ := fo_w_in x2 hd.2.1 (fun w hw => w6 w (List.mem_append.mpr (Or.inr hw)))
  have en : fo_n (.inner y1 k1 v1 a1 (.inner y2 k2 v2 a2 .leaf)) = fo_n a1 + 1 + (fo_n a2 + 1 + 0) := rfl
  have er : fo_r (.inner y1 k1 v1 a1 (.inner y2 k2 v2 a2 .leaf)) o = [o + fo_n a1, o + fo_n a1 + 1 + fo_n a2] := rfl
  have l0 : (e && kLast 12 0) = false := by cases e <;> rfl
  have l1' : (e && kLast 12 1) = e := by cases e <;> rfl
  rw [sq_ec, l0, l1'] at hc
  rw [er] at hm
  rw [sq_em, sq_ez, sq_ex, l0, l1'] at hK
  simp only [List.append_nil] at hK
  have go : ∀ u, QC t0 ad x vn (T ++ [(tv e, nI (o + fo_n a1 + 1 + fo_n a2), nI n), (40, 12, 0), (41, nI (o + fo_n a1), nI n)]) s u → HdC cx d ad post l1 tl l3 u := by
    intro u Q
    rw [show T ++ [(tv e, nI (o + fo_n a1 + 1 + fo_n a2), nI n), (40, 12, 0), (41, nI (o + fo_n a1), nI n)] = T ++ [(tv e, nI (o + fo_n a1 + 1 + fo_n a2), nI n)] ++ [(40, 12, 0)] ++ [(41, nI (o + fo_n a1), nI n)] by simp] at Q
    refine M1 false n σ S h m z s _ vn u Q hq (fun c => by cases c) hS x1 c1 (by omega) (by omega) (by omega) (by simp; omega) (by omega) (fun u1 s1 K1 Q1 => ?_)
    obtain ⟨g1, g2, g3, g4, g5⟩ := K1
    obtain ⟨g6, g7⟩ := g4 rfl
    have u1 : ks_us s1 = ks_us s + eXn tl own k1 v1 a1 false := by rw [g1.1, eX_len]
    refine c_emit Q1 (by simp; omega) (fun t1 post' Q3 hp => m_emit_op (j := 12) hx h65 (by decide) Q3 (by omega) (fun u2 Q4 => hp u2 Q4.1.L ?_))
    rw [if_pos (Or.inr rfl)] at Q4
    obtain ⟨s2, es2⟩ : ∃ s2, kRise (-1) (kEmit (1600 * x + 1600) (nI 12) 0 s1) = s2 := ⟨_, rfl⟩
    have q2 : KQ s2 h (tM tl k1 a1 false h m) (tZ k1 v1 a1 n σ z) := by
      rw [← es2]
      exact (KQ.emit ⟨g6, g7, g2⟩).dn1
    have r2 : KR vn s1 s2 [(12, 0)] := by
      rw [← es2]
      exact (KR.emit (by omega)).tr .rise
    have so2 : ks_so s2 = ks_so s1 := by rw [← es2, kR_so, kE_so]
    rw [es2] at Q4
    have r02 := g1.tr r2
    have u2' : ks_us s2 = ks_us s + eXn tl own k1 v1 a1 false + 1 := by rw [r2.1, u1]; rfl
    refine M2 e n σ S h _ _ s2 T vn u2 Q4 q2 he (hS.mo (B := tB k1 v1 a1) (fun j hj hB => by rw [so2]; exact g5 j hj hB) (fun w hw c => (w6 w (List.mem_append.mpr (Or.inl c))).1 hw)) x3 c2 (by omega) (by omega) (by omega) (by omega) (by omega) (fun u3 s3 K2 Q5 => ?_)
    obtain ⟨f1, f2, f3, f4, f5⟩ := K2
    refine hK u3 s3 ⟨?_, f2, by omega, f4, fun j hj hB => ?_⟩ Q5
    · rw [show ks_us s - 1600 * x + (eXn tl own k1 v1 a1 false + 1) = ks_us s2 - 1600 * x by omega]
      exact r02.tr f1
    · rw [List.mem_append] at hB
      rw [f5 j hj (fun c => hB (Or.inr c)), so2, g5 j hj (fun c => hB (Or.inl c))]
  cases e with
  | false => exact c_visit hQ (by omega) (fun t1 post' Q1 hp => m_visit_12 hx ho h65 hm Q1 (by omega) (fun u Q => hp u Q.1.L (go u Q)))
  | true => exact c_vtail hQ (by omega) (fun t1 post' Q1 hp => m_vt_12 hx ho h65 hm Q1 (by omega) (fun u Q => hp u Q.1.L (go u Q)))
theorem mt_let (hx : x < 48) (h65 : t0.2.1 (ad 144) 65 = nI x) {v : Int32} {a : Fo} {o : Nat} (ho : o + fo_n a < 1300) (hm : rowK t0 ad x NN (o + fo_n a) 14 v (fo_r a o)) (M : MTs cx d ad post l1 l3 tl own x fN par t0 a o) : MTr cx d ad post l1 l3 tl own x fN par t0 14 v a o := by
  intro e n σ S h m z s T vn t hQ hq he hS hW h15 hc h1 h2 hT hvn hK
  have hb := hQ.2.2.2.2.1.2
  obtain ⟨w1, w2, w3, w4, w5, w6⟩ := hW
  obtain ⟨y1, k1, v1, a1, y2, k2, v2, a2, rfl⟩ := fo_l2 w2
  obtain ⟨M1, M2, _⟩ := M
  have etb : tB 14 v (.inner y1 k1 v1 a1 (.inner y2 k2 v2 a2 .leaf)) = v :: (tB k1 v1 a1 ++ (tB k2 v2 a2 ++ [])) := rfl
  rw [List.append_nil] at etb
  rw [etb] at w5 w6 hK
  obtain ⟨hnv, w5⟩ := List.nodup_cons.mp w5
  obtain ⟨hvS, jv, ejv, hjv⟩ := w6 v (List.mem_cons_self ..)
  have w6' : ∀ w ∈ tB k1 v1 a1 ++ tB k2 v2 a2, w ∉ S ∧ ∃ j, w = nI j ∧ j < 120 := fun w hw => w6 w (List.mem_cons_of_mem _ hw)
  have hd := List.nodup_append.mp w5
  have c1 := fo_w_15 w4
  obtain ⟨x1, x2⟩ := fo_w_in w4 hd.1 (fun w hw => w6' w (List.mem_append.mpr (Or.inl hw)))
  have c2 := fo_w_15 x2
  obtain ⟨x3, _⟩ := fo_w_in x2 hd.2.1 (fun w hw => by
    obtain ⟨p1, p2⟩ := w6' w (List.mem_append.mpr (Or.inr hw))
    refine ⟨?_, p2⟩
    show ¬ w ∈ v :: S
    intro c
    rcases List.mem_cons.mp c with c | c
    · exact hnv (by rw [← c]; exact List.mem_append.mpr (Or.inr hw))
    · exact p1 c)
  have x1 : tW fN par k1 v1 a1 S := x1
  have x3 : tW fN par k2 v2 a2 (v :: S) := x3
  have en : fo_n (.inner y1 k1 v1 a1 (.inner y2 k2 v2 a2 .leaf)) = fo_n a1 + 1 + (fo_n a2 + 1 + 0) := rfl
  have er : fo_r (.inner y1 k1 v1 a1 (.inner y2 k2 v2 a2 .leaf)) o = [o + fo_n a1, o + fo_n a1 + 1 + fo_n a2] := rfl
  have l0 : (e && kLast 14 0) = false := by cases e <;> rfl
  have l1' : (e && kLast 14 1) = e := by cases e <;> rfl
  rw [lt_ec, l0, l1'] at hc
  rw [er] at hm
  have hC : t0.2.1 (ad 154) (1300 * x + (o + fo_n (.inner y1 k1 v1 a1 (.inner y2 k2 v2 a2 .leaf)))) = nI jv := (((hm.2.2.2 (by decide)).2.2.2 rfl : t0.2.1 (ad 154) (1300 * x + (o + fo_n (.inner y1 k1 v1 a1 (.inner y2 k2 v2 a2 .leaf)))) = v)).trans ejv
  rw [lt_em, lt_ez, lt_ex, l0, l1'] at hK
  simp only [List.append_nil] at hK
  have go : ∀ u, QC t0 ad x vn (T ++ [(tv e, nI (o + fo_n a1 + 1 + fo_n a2), nI (n + 1)), (45, nI (o + fo_n (.inner y1 k1 v1 a1 (.inner y2 k2 v2 a2 .leaf))), nI n), (41, nI (o + fo_n a1), nI n)]) s u → HdC cx d ad post l1 tl l3 u := by
    intro u Q
    rw [show T ++ [(tv e, nI (o + fo_n a1 + 1 + fo_n a2), nI (n + 1)), (45, nI (o + fo_n (.inner y1 k1 v1 a1 (.inner y2 k2 v2 a2 .leaf))), nI n), (41, nI (o + fo_n a1), nI n)] = T ++ [(tv e, nI (o + fo_n a1 + 1 + fo_n a2), nI (n + 1))] ++ [(45, nI (o + fo_n (.inner y1 k1 v1 a1 (.inner y2 k2 v2 a2 .leaf))), nI n)] ++ [(41, nI (o + fo_n a1), nI n)] by simp] at Q
    refine M1 false n σ S h m z s _ vn u Q hq (fun c => by cases c) hS x1 c1 (by omega) (by omega) (by omega) (by simp; omega) (by omega) (fun u1 s1 K1 Q1 => ?_)
    obtain ⟨g1, g2, g3, g4, g5⟩ := K1
    obtain ⟨g6, g7⟩ := g4 rfl
    have u1 : ks_us s1 = ks_us s + eXn tl own k1 v1 a1 false := by rw [g1.1, eX_len]
    refine c_store hx ho h65 hC hjv Q1 (by simp; omega) (by omega) (fun u2 Q4 => ?_)
    obtain ⟨sy, esy⟩ : ∃ sy, kRise (-1) (kUseN (nI n) (kEmit (1600 * x + 1600) 13 (nI n) s1)) = sy := ⟨_, rfl⟩
    obtain ⟨s2, es2⟩ : ∃ s2, kSetSo jv (nI n) sy = s2 := ⟨_, rfl⟩
    have qy : KQ sy h (tM tl k1 a1 false h m) (max (tZ k1 v1 a1 n σ z) (n + 1)) := by
      rw [← esy]
      exact ((KQ.emit ⟨g6, g7, g2⟩).useN (by omega)).dn1
    have q2 : KQ s2 h (tM tl k1 a1 false h m) (max (tZ k1 v1 a1 n σ z) (n + 1)) := by
      rw [← es2]
      exact qy
    have r2 : KR vn s1 s2 [(13, nI n)] := by
      rw [← es2, ← esy]
      exact (KR.emit (by omega)).tr (KR.useN.tr (KR.rise.tr KR.setso))
    have so2 : ks_so s2 = va_up (ks_so s1) jv (nI n) := by
      rw [← es2, show ks_so (kSetSo jv (nI n) sy) = va_up (ks_so sy) jv (nI n) from rfl, ← esy, kR_so, kUN_so, kE_so]
    rw [esy, es2] at Q4
    have r02 := g1.tr r2
    have u2' : ks_us s2 = ks_us s + eXn tl own k1 v1 a1 false + 1 := by rw [r2.1, u1]; rfl
    have hS2 : sC (v :: S) (fun w => if w = v then n else σ w) s2 := by
      intro w hw
      rcases List.mem_cons.mp hw with c | c
      · refine ⟨jv, c.trans ejv, hjv, ?_, ?_⟩
        · rw [so2, va_up_self]
          show nI n = nI (if w = v then n else σ w)
          rw [if_pos c]
        · show (if w = v then n else σ w) < 10000
          rw [if_pos c]
          omega
      · obtain ⟨j, q1, q2, q3, q4⟩ := hS w c
        have hne : ¬ w = v := fun c2 => hvS (by rw [← c2]; exact c)
        refine ⟨j, q1, q2, ?_, ?_⟩
        · rw [so2, va_up_ne _ _ (fun c2 => hne (by rw [q1, ejv, c2])), g5 j q2 (by rw [← q1]; exact fun c3 => (w6' w (List.mem_append.mpr (Or.inl c3))).1 c), q3]
          show nI (σ w) = nI (if w = v then n else σ w)
          rw [if_neg hne]
        · show (if w = v then n else σ w) < 10000
          rw [if_neg hne]
          exact q4
    refine M2 e (n + 1) _ (v :: S) h _ _ s2 T vn u2 Q4 q2 he hS2 x3 c2 (by omega) (by omega) (by omega) (by omega) (by omega) (fun u3 s3 K2 Q5 => ?_)
    obtain ⟨f1, f2, f3, f4, f5⟩ := K2
    refine hK u3 s3 ⟨?_, f2, by omega, f4, fun j hj hB => ?_⟩ Q5
    · rw [show ks_us s - 1600 * x + (eXn tl own k1 v1 a1 false + 1) = ks_us s2 - 1600 * x by omega]
      exact r02.tr f1
    · rw [List.mem_cons, List.mem_append] at hB
      rw [f5 j hj (fun c => hB (Or.inr (Or.inr c))), so2, va_up_ne _ _ (fun c => hB (Or.inl (by rw [ejv, c]))), g5 j hj (fun c => hB (Or.inr (Or.inl c)))]
  cases e with
  | false => exact c_visit hQ (by omega) (fun t1 post' Q1 hp => m_visit_14 hx ho h65 hm Q1 (by omega) (fun u Q => hp u Q.1.L (go u Q)))
  | true => exact c_vtail hQ (by omega) (fun t1 post' Q1 hp => m_vt_14 hx ho h65 hm Q1 (by omega) (fun u Q => hp u Q.1.L (go u Q)))
end MI
