/-! THE MODEL'S COMPILER: a node with all its kids worked out -/
section MH
variable {cx : gCx} {d : Nat} {ad : Nat → Nat} {t0 : gSt} {post : Option Value → gSt → Prop} {x NN fN own : Nat} {tl : Bool} {l1 l3 : Int32} {par : Int32 → Nat}
/-- behind what leaves a word: what stands of it -/
theorem kd_fin {D : Nat} {h m z : Nat} {s s1 : KS} {L : List (Int32 × Int32)} {s' : KS} {q : Int32 × Int32} {m0 : Nat} {B : List Int32} (g1 : KR D s s1 L) (g2 : KR D s1 s' [q]) (hq : KQ s' (h + 1) m z) (hm : m0 ≤ m) (hso : ∀ j, j < 120 → nI j ∉ B → ks_so s' j = ks_so s j) : KD D false h m0 m z B (L ++ [q]) s s' := ⟨g1.tr g2, hq.2.2, hm, fun _ => ⟨hq.1, hq.2.1⟩, hso⟩
/-- a node not at an end -/
theorem mt_gen0 (hx : x < 48) (hNN : NN ≤ 1300) (h65 : t0.2.1 (ad 144) 65 = nI x) (hfN : fN ≤ 24) (hP : ∀ g, g < fN → t0.2.1 (ad 147) g = nI (par (nI g))) {k v : Int32} {a : Fo} {o : Nat} (hg : gK k) (ho : o + fo_n a < 1300) (hm : rowK t0 ad x NN (o + fo_n a) k v (fo_r a o)) (M : MTs cx d ad post l1 l3 tl own x fN par t0 a o) :
    ∀ (n : Nat) (σ : Int32 → Nat) (S : List Int32) (h m z : Nat) (s : KS) (T : TK) (vn : Nat) (t : gSt), QC t0 ad x vn (T ++ [(41, nI (o + fo_n a), nI n)]) s t → KQ s h m z → sC S σ s → tW fN par k v a S → (k = 15 → ∃ g, v = nI g ∧ g < fN) → ks_us s + eXn tl own k v a false ≤ 1600 * x + 1600 → h + fo_n a + 1 ≤ 10000 → n + fo_n a + 1 ≤ 10000 → T.length + 8 * (fo_n a + 1) + 18 ≤ 20000 → vn + fo_n a + 1 ≤ 3100 →
    (∀ u s', KD vn false h m (tM tl k a false h m) (tZ k v a n σ z) (tB k v a) (eX tl own k v a false n σ (ks_us s - 1600 * x)) s s' → QC t0 ad x vn T s' u → HdC cx d ad post l1 tl l3 u) → HdC cx d ad post l1 tl l3 t := by
  intro n σ S h m z s T vn t hQ hq hS hW h15 hc h1 h2 hT hvn hK
  obtain ⟨w1, w2, w3, w4, w5, w6⟩ := hW
  have h14 : ¬ k = 14 := fun c => hg (Or.inr (Or.inl c))
  have etb : tB k v a = fo_b a := by unfold tB; rw [if_neg h14]; rfl
  rw [etb] at w5 w6 hK
  rw [k_sc_g h14] at w4
  have hb := hQ.2.2.2.2.1.2
  have n12 : ¬ (k = 12 ∨ k = 14 ∨ k = 13) := hg
  have hrl := fo_rl a o
  have hln := fo_ln a
  have hMM : tM tl k a false h m = max (eM tl a false k 0 h m) (h + 1) := by
    unfold tM
    rw [if_neg (fun q => by
      rcases q with q | q | q | ⟨_, q, _⟩
      · exact n12 (Or.inl q)
      · exact n12 (Or.inr (Or.inl q))
      · exact n12 (Or.inr (Or.inr q))
      · cases q)]
  unfold eXn at hc
  rw [hMM] at hK
  unfold eX tZ at hK
  unfold eL at hc hK
  rw [if_neg n12] at hc hK
  by_cases c1 : k = 1
  · subst c1
    have ha : a = .leaf := by
      have : fo_l a = 0 := w2
      cases a with
      | leaf => rfl
      | inner _ _ _ _ _ => exact absurd this (by simp [fo_l])
    subst ha
    rw [if_neg (by decide), if_pos rfl] at hc hK
    rw [if_neg (by decide)] at hK
    have hc : ks_us s + (0 + 1) ≤ 1600 * x + 1600 := hc
    refine c_visit hQ (by omega) (fun t1 post' Q1 hp => m_visit_1 hx ho h65 hm Q1 (by omega) (fun u Q => hp u Q.1.L (hK u _ ?_ Q)))
    exact kd_fin (L := []) (.rf _ _) ((KR.emit (by omega)).tr .rise) ((hq.emit).up (by omega)) (by simp only [eM]; omega) (fun j hj _ => by rw [kR_so, kE_so])
  · by_cases c2 : k = 2
    · subst c2
      have ha : a = .leaf := by
        have : fo_l a = 0 := w2
        cases a with
        | leaf => rfl
        | inner _ _ _ _ _ => exact absurd this (by simp [fo_l])
      subst ha
      rw [if_neg (by decide), if_neg (by decide), if_pos rfl] at hc
      rw [if_pos rfl, if_neg (show ¬ (2 : Int32) = 15 by decide), if_neg (show ¬ (2 : Int32) = 1 by decide), if_pos rfl] at hK
      have hc : ks_us s + (0 + 1) ≤ 1600 * x + 1600 := hc
      obtain ⟨j, j1, j2, j3, j4⟩ := hS v (w3 rfl)
      rw [j1] at hm
      refine c_visit hQ (by omega) (fun t1 post' Q1 hp => m_visit_2 hx ho h65 j2 hm Q1 (by omega) (fun u Q => hp u Q.1.L (hK u _ ?_ Q)))
      rw [j3]
      exact kd_fin (L := []) (.rf _ _) ((KR.emit (by omega)).tr (KR.useN.tr .rise)) (((hq.emit).useN (by omega)).up (by omega)) (by simp only [eM]; omega) (fun j hj _ => by rw [kR_so, kUN_so, kE_so])
    · have hc' : ks_us s + (eN tl own a false k 0 + 1) ≤ 1600 * x + 1600 := by
        by_cases c15 : k = 15
        · rw [if_pos c15, if_pos (Or.inl rfl)] at hc
          exact hc
        · rw [if_neg c15, if_neg c1, if_neg c2] at hc
          exact hc
      refine c_visit hQ (by omega) (fun t1 post' Q1 hp => m_visit_gen hx ho hNN h65 w1 hg (fun q => q.elim c1 c2) (par := par) (by rw [hrl]; exact w2) hm Q1 (by rw [hrl]; omega) (fun u Q => hp u Q.1.L ?_))
      rw [show T ++ (40, k, if k = 15 then v else 0) :: tkV (fo_r a o) n = (T ++ [(40, k, if k = 15 then v else 0)]) ++ tkV (fo_r a o) n by simp] at Q
      refine mk_gen a o M false n σ S h 0 m z s k v _ vn u hg Q hq hS w4 w5 w6 (by omega) (by omega) (by omega) (by simp; omega) (by omega) (fun u2 s1 r1 r2 r3 r4 Q2 => ?_)
      have hm0 := r2.2.2.2.2.1
      have hus : ks_us s1 = ks_us s + eN tl own a false k 0 := by rw [r1.1, eF_len]
      rw [w2, Nat.add_zero] at r2
      by_cases c15 : k = 15
      · obtain ⟨g, eg, hgn⟩ := h15 c15
        subst c15
        rw [if_pos rfl, if_pos (Or.inl rfl), if_neg (by decide)] at hK
        rw [if_pos rfl, eg] at Q2
        have r2 : KQ s1 (h + par v) (eM tl a false 15 0 h m) (eZ a n σ 15 v 0 z) := r2
        refine c_emit Q2 (by omega) (fun t1 post' Q3 hp2 => m_emit_call (P := par v) hx h65 (by omega) (by rw [hP g hgn, ← eg]) Q3 (by omega) (fun u3 Q4 => hp2 u3 Q4.1.L (hK u3 _ ?_ Q4)))
        rw [← eg]
        have q5 : KQ (kSetH (ks_h s1 - nI (par v)) (kEmit (1600 * x + 1600) 16 v s1)) h (eM tl a false 15 0 h m) (eZ a n σ 15 v 0 z) := by
          have := r2.1
          rw [this, nI_sub (by omega), Nat.add_sub_cancel]
          exact (r2.2.2.emit).seth (by have := r2.2.1; omega)
        have so5 : ks_so (kRise 1 (kSetH (ks_h s1 - nI (par v)) (kEmit (1600 * x + 1600) 16 v s1))) = ks_so s1 := by
          rw [kR_so, show ∀ (w : Int32) (q : KS), ks_so (kSetH w q) = ks_so q from fun _ _ => rfl, kE_so]
        exact kd_fin r1 ((KR.emit (by omega)).tr (KR.seth.tr .rise)) (q5.up (by omega)) (by omega) (fun j hj hB => by rw [so5]; exact r4 j hj hB)
      · obtain ⟨jk, jk1, jk2, ejk⟩ := w1
        have jn : ∀ c, c < 16 → k ≠ nI c → jk ≠ c := fun c hc hk2 q => hk2 (by rw [ejk, q])
        have j39 : 3 ≤ jk ∧ jk ≤ 11 := by
          have q1 := jn 1 (by decide) c1
          have q2 := jn 2 (by decide) c2
          have q12 := jn 12 (by decide) (fun c => n12 (Or.inl c))
          have q14 := jn 14 (by decide) (fun c => n12 (Or.inr (Or.inl c)))
          have q13 := jn 13 (by decide) (fun c => n12 (Or.inr (Or.inr c)))
          have q15 := jn 15 (by decide) c15
          omega
        rw [if_neg c15, if_neg c1, if_neg c2, if_neg c2] at hK
        rw [if_neg c15, ejk] at Q2
        refine c_emit Q2 (by omega) (fun t1 post' Q3 hp2 => m_emit_op hx h65 ⟨j39.1, by omega⟩ Q3 (by omega) (fun u3 Q4 => hp2 u3 Q4.1.L (hK u3 _ ?_ Q4)))
        have ear : k_ar par k v = (if jk ≤ 9 then 2 else 1) := by
          unfold k_ar
          rw [if_neg (fun q => q.elim c1 c2), if_neg (fun q => n12 (Or.inr (Or.inr q))), if_neg c15]
          by_cases c9 : jk ≤ 9
          · rw [if_pos c9, if_neg]
            rintro (q | q)
            · rw [ejk, show (10 : Int32) = nI 10 from rfl, nI_eq (by omega) (by omega)] at q; omega
            · rw [ejk, show (11 : Int32) = nI 11 from rfl, nI_eq (by omega) (by omega)] at q; omega
          · rw [if_neg c9, if_pos]
            have : jk = 10 ∨ jk = 11 := by omega
            rcases this with q | q
            · exact Or.inl (by rw [ejk, q]; rfl)
            · exact Or.inr (by rw [ejk, q]; rfl)
        rw [ear] at r2
        have q5 : KQ (kRise (if jk ≤ 9 ∨ jk = 12 then -1 else 0) (kEmit (1600 * x + 1600) (nI jk) 0 s1)) (h + 1) (max (eM tl a false k 0 h m) (h + 1)) (eZ a n σ k v 0 z) := by
          refine (r2.emit).rs ?_ (by omega)
          by_cases c9 : jk ≤ 9
          · rw [if_pos (Or.inl c9), if_pos c9]
            exact pk_m1 (h + 1)
          · rw [if_neg c9, if_neg (show ¬ (jk ≤ 9 ∨ jk = 12) by omega)]
            exact Int32.add_zero _
        rw [← ejk] at q5 ⊢
        exact kd_fin r1 ((KR.emit (by omega)).tr .rise) q5 (by omega) (fun j hj hB => by rw [kR_so, kE_so]; exact r4 j hj hB)
theorem mt_gen (hx : x < 48) (hNN : NN ≤ 1300) (h65 : t0.2.1 (ad 144) 65 = nI x) (hfN : fN ≤ 24) (hP : ∀ g, g < fN → t0.2.1 (ad 147) g = nI (par (nI g))) (hown : own < 24) (hxo : x = own ∨ x = 24 + own) {k v : Int32} {a : Fo} {o : Nat} (hg : gK k) (ho : o + fo_n a < 1300) (hm : rowK t0 ad x NN (o + fo_n a) k v (fo_r a o)) (M : MTs cx d ad post l1 l3 tl own x fN par t0 a o) : MTr cx d ad post l1 l3 tl own x fN par t0 k v a o := by
  intro e n σ S h m z s T vn t hQ hq he hS hW h15 hc h1 h2 hT hvn hK
  have hb := hQ.2.2.2.2.1.2
  have hrl := fo_rl a o
  have hln := fo_ln a
  cases e with
  | false => exact mt_gen0 hx hNN h65 hfN hP hg ho hm M n σ S h m z s T vn t hQ hq hS hW h15 hc h1 h2 (by omega) hvn hK
  | true =>
    have h0 := he rfl
    subst h0
    by_cases ct : k = 15 ∧ tl = true
    · obtain ⟨c15, ctl⟩ := ct
      subst c15 ctl
      obtain ⟨w1, w2, w3, w4, w5, w6⟩ := hW
      have etb : tB 15 v a = fo_b a := rfl
      rw [etb] at w5 w6 hK
      rw [k_sc_g (by decide)] at w4
      obtain ⟨g, eg, hgn⟩ := h15 rfl
      have hc' : ks_us s + (eN true own a true 15 0 + 1) ≤ 1600 * x + 1600 := by
        unfold eXn eL at hc
        rw [if_neg (by decide), if_pos rfl, if_neg (by decide)] at hc
        split at hc <;> exact hc
      refine c_vtail hQ (by omega) (fun t1 post' Q1 hp => m_vt_call hx ho hNN h65 hm Q1 (by rw [hrl]; omega) (fun u Q => hp u Q.1.L ?_))
      rw [show T ++ (40, 48, v) :: tkV (fo_r a o) n = (T ++ [(40, 48, v)]) ++ tkV (fo_r a o) n by simp] at Q
      refine mk_gen a o M true n σ S 0 0 m z s 15 v _ vn u hg Q hq hS w4 w5 w6 (by omega) (by omega) (by omega) (by simp; omega) (by omega) (fun u2 s1 r1 r2 r3 r4 Q2 => ?_)
      have hus : ks_us s1 = ks_us s + eN true own a true 15 0 := by rw [r1.1, eF_len]
      rw [eg] at Q2
      refine c_emit Q2 (by omega) (fun t1 post' Q3 hp2 => m_emit_ends (P := par v) (own := own) hx h65 (by omega) hown hxo (by rw [hP g hgn, ← eg]) Q3 (by omega) (fun u3 Q4 => hp2 u3 Q4.1.L (hK u3 _ ?_ Q4)))
      have em : tM true 15 a true 0 m = eM true a true 15 0 0 m := by
        unfold tM
        rw [if_pos (Or.inr (Or.inr (Or.inr ⟨rfl, rfl, rfl⟩)))]
      have ez : tZ 15 v a n σ z = eZ a n σ 15 v 0 z := by
        unfold tZ
        rw [if_neg (by decide)]
      rw [em, ez]
      have eqg : v = nI own ↔ g = own := by rw [eg]; exact nI_eq (by omega) (by omega)
      have fin : ∀ q1 q2 : Int32, eX true own 15 v a true n σ (ks_us s - 1600 * x) = eF true own a true n σ 15 v 0 (ks_us s - 1600 * x) ++ [(q1, q2)] → KD vn true 0 m (eM true a true 15 0 0 m) (eZ a n σ 15 v 0 z) (fo_b a) (eX true own 15 v a true n σ (ks_us s - 1600 * x)) s (kSetH (ks_h s1 - nI (par v)) (kEmit (1600 * x + 1600) q1 q2 s1)) := by
        intro q1 q2 e
        rw [e]
        refine ⟨r1.tr ((KR.emit (by omega)).tr KR.seth), r2.2.2.emit, r3, (fun c => by cases c), fun j hj hB => ?_⟩
        rw [show ∀ (w : Int32) (q : KS), ks_so (kSetH w q) = ks_so q from fun _ _ => rfl, kE_so]
        exact r4 j hj hB
      by_cases co : g = own
      · rw [if_pos co]
        refine fin 18 0 ?_
        unfold eX eL
        rw [if_neg (by decide), if_pos rfl, if_neg (by decide), if_pos (eqg.mpr co)]
      · rw [if_neg co, ← eg]
        refine fin 19 v ?_
        unfold eX eL
        rw [if_neg (by decide), if_pos rfl, if_neg (by decide), if_neg (fun q => co (eqg.mp q))]
    · have el : eXn tl own k v a true = eXn tl own k v a false + 1 := by
        rw [← eX_len (n := 0) (σ := fun _ => 0) (o := 0), eX_ret hg ct, List.length_append, eX_len]
        rfl
      refine c_vtail hQ (by omega) (fun t1 post' Q1 hp => m_vt_other hx ho h65 hW.1 hg ct hm Q1 (by omega) (fun u Q => hp u Q.1.L ?_))
      rw [show T ++ [(40, 49, 0), (41, nI (o + fo_n a), nI n)] = (T ++ [(40, 49, 0)]) ++ [(41, nI (o + fo_n a), nI n)] by simp] at Q
      refine mt_gen0 hx hNN h65 hfN hP hg ho hm M n σ S 0 m z s _ vn u Q hq hS hW h15 (by omega) h1 h2 (by simp; omega) hvn (fun u2 s1 K Q2 => ?_)
      obtain ⟨g1, g2, g3, g4, g5⟩ := K
      have hus : ks_us s1 = ks_us s + eXn tl own k v a false := by rw [g1.1, eX_len]
      refine c_emit Q2 (by omega) (fun t1 post' Q3 hp2 => m_emit_ret hx h65 Q3 (by omega) (fun u3 Q4 => hp2 u3 Q4.1.L (hK u3 _ ?_ Q4)))
      rw [eX_ret hg ct, tM_ret hg ct]
      exact ⟨g1.tr (KR.emit (by omega)), g2.emit, g3, (fun c => by cases c), fun j hj hB => by rw [kE_so]; exact g5 j hj hB⟩
end MH
