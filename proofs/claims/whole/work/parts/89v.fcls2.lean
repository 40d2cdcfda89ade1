/-! FOLDING, the class: an operand passed by, entering, leaving -/
theorem fo_v_ap {n : Nat} {par : Int32 → Nat} {C : Int32 → Int32 → Prop} : ∀ (F G : Fo), fo_v n par C F → fo_v n par C G → fo_v n par C (fo_ap F G)
  | .leaf, _, _, h => h
  | .inner z k v a b, G, hF, hG => ⟨hF.1, hF.2.1, fo_v_ap b G hF.2.2 hG⟩
theorem nI_ch2 (b x : Nat) : nI (b + 1) + (nI x - 1) = nI (b + x) := by
  rw [Int32.sub_eq_add_neg, Int32.add_comm (nI x), ← Int32.add_assoc, show (-1 : Int32) = -(nI 1) from rfl, nI_dn, nI_add]
section FS
variable {cx : gCx} {d : Nat} {ad : Nat → Nat} {t0 t : gSt} {post : Option Value → gSt → Prop} {f nx : Nat} {O : List (Int32 × Int32)} {lv : FLV} {kn : RHO}
theorem m_skipKid {w p n : Nat} {par : Int32 → Nat} {st : WS} {nd dn wn ev : Nat} {k v : Int32} {F : Fo} (hp : isP p) (hw : isW w) (hL : Lay t ad) (hR : RPar t ad p n par) (hpar : ∀ v, par v ≤ 6) (h : RW t ad w p (st ++ [(nd, k, v, dn, wn)]) nx ev) (h6 : t.2.1 (ad w) 6 = nI st.length) (hs : st.length < 500) (h1 : fo_l F = 1) (hV : fo_v n par (fun _ _ => True) F) (hn : nx + fo_n F ≤ c_len (p + 12)) (hrw : rows (t.2.1 (ad (p + 12))) (t.2.1 (ad (p + 13))) nx (fo_p F))
    (hc : ∀ u, gFr ad (wP w) t u → RW u ad w p (st ++ [(nd, k, v, dn + 1, wn)]) (nx + fo_n F) ev → post none u) : g_E cx (d + 2) i_Walk_skipKid [.ref (ad w)] t post := by
  have hl := hw.lt
  have hpg := hp.ge
  have hpl := hp.lt
  have hlen : c_len (p + 12) < 100000 ∧ c_len (p + 13) = c_len (p + 12) := by rcases hp with rfl | rfl | rfl <;> decide
  refine x_Walk_skipKid hw hL ?_
  have key : ∀ (N : Nat) (G : Fo) (y : Nat) (u : gSt), fo_n G = N → fo_v n par (fun _ _ => True) G → y + fo_n G = nx + fo_n F → gFr ad (wP w) t u → RW u ad w p (st ++ [(nd, k, v, dn, wn)]) y ev → u.2.1 (ad w) 6 = nI st.length → rows (t.2.1 (ad (p + 12))) (t.2.1 (ad (p + 13))) y (fo_p G) → fo_n G ≤ fo_n F → fo_l G ≤ 1 + 6 * (fo_n F - fo_n G) → g_W cx (g_E cx (d + 1)) mt_Walk_skipKid post (2, [some (.ref (ad w)), some (.int (nI (fo_l G)))], [], u, 0, 0) := by
    intro N
    induction N with
    | zero =>
      intro G y u eN hG hy hF hRu h6u hr hnF hlG
      match G, eN with
      | .leaf, _ =>
        have hy : y = nx + fo_n F := by simpa [fo_n] using hy
        refine x_Walk_skipKid_2 hp hw hF.L hRu.1 ?_
        have hst := hRu.2.2.2.2 st.length (nd, k, v, dn, wn) (by simp)
        rw [h6u, nI_clamp (by omega), hst.2.2.2.1, nI_1]
        have fin : ∀ t1, t1 = g_si u (ad (w + 4)) st.length (nI (dn + 1)) → post none t1 := fun t1 e1 => by
          refine hc t1 (by rw [e1]; exact hF.si (wP_in (j := 4) (by decide)) (by omega)) ?_
          have ne : ∀ j, j < 6 → j ≠ 4 → ad (w + j) ≠ ad (w + 4) := fun j hj h4 => hF.L.ne _ _ (by omega) (by omega) (by omega)
          have ne0 : ad w ≠ ad (w + 4) := hF.L.ne _ _ (by omega) (by omega) (by omega)
          refine ⟨?_, ?_, ?_, ?_, fun i q hq => ?_⟩
          · rw [e1]; exact hRu.1
          · rw [e1, g_rd_ne ne0]; exact hRu.2.1
          · rw [e1, g_rd_ne ne0, hRu.2.2.1]; simp
          · rw [e1, g_rd_ne ne0, hRu.2.2.2.1, hy]
          · rw [e1, g_rd_ne (ne 1 (by decide) (by decide)), g_rd_ne (ne 2 (by decide) (by decide)), g_rd_ne (ne 3 (by decide) (by decide)), g_rd_ne (ne 5 (by decide) (by decide))]
            by_cases c : i = st.length
            · rw [c] at hq
              have hq : (nd, k, v, dn + 1, wn) = q := by simpa using hq
              rw [c, ← hq, g_rd_at]
              exact ⟨hst.1, hst.2.1, hst.2.2.1, rfl, hst.2.2.2.2⟩
            · rw [g_rd_k c]
              have hi : i < st.length := by
                have := (List.getElem?_eq_some_iff.mp hq).1
                rw [List.length_append] at this
                simp only [List.length_cons, List.length_nil] at this
                omega
              rw [List.getElem?_append_left hi] at hq
              exact hRu.2.2.2.2 i q (by rw [List.getElem?_append_left hi]; exact hq)
        have hvp := vp_in_nI (N := 500) hs (by omega)
        exact ⟨fun _ => ⟨hvp, hvp, fin⟩, fun _ => ⟨fun _ => ⟨hvp, hvp, fin⟩, fun c => absurd (by decide) c⟩⟩
      | .inner z k v a b, e => simp [fo_n] at e
    | succ N ih =>
      intro G y u eN hG hy hF hRu h6u hr hnF hlG
      match G, eN with
      | .inner z k2 v2 a b, eN =>
        have eN' : fo_n a + 1 + fo_n b = N + 1 := eN
        have eG : fo_n (.inner z k2 v2 a b) = fo_n a + 1 + fo_n b := rfl
        have eL : fo_l (.inner z k2 v2 a b) = fo_l b + 1 := rfl
        obtain ⟨⟨v1, v3, v4, v5⟩, va, vb⟩ := hG
        have hrow := hr 0 (k2, v2) rfl
        have e12 : u.2.1 (ad (p + 12)) y = k2 := by rw [hF.i _ _ (wP_out (by omega)) (by omega)]; exact hrow.1
        have e13 : u.2.1 (ad (p + 13)) y = v2 := by rw [hF.i _ _ (wP_out (by omega)) (by omega)]; exact hrow.2
        have hka : k_ar par k2 v2 ≤ 6 := by
          have := hpar v2
          unfold k_ar
          split
          · omega
          · split
            · omega
            · split
              · omega
              · split <;> omega
        rw [eG] at hlG hy hnF
        rw [eL] at hlG
        have hRP : RPar u ad p n par := ⟨hR.1, by rw [hF.i _ _ (wP_out (by omega)) (by omega)]; exact hR.2.1, fun g hg => by rw [hF.i _ _ (wP_out (by omega)) (by omega)]; exact hR.2.2 g hg⟩
        refine x_Walk_skipKid_2 hp hw hF.L hRu.1 ?_
        rw [hRu.2.2.2.1, hF.L.pl2 hp 12 (by decide), nI_clamp (by omega), e12, e13, eL]
        refine ⟨fun c => ?_, fun _ => ⟨fun c => ?_, fun _ => ⟨vp_in_nI (by omega) (by omega), vp_in_nI (by omega) (by omega), ?_⟩⟩⟩
        · have c : nI (c_len (p + 12)) ≤ nI y := c
          rw [nI_leI (by omega) (by omega)] at c
          omega
        · rw [show (0 : Int32) = nI 0 from rfl, nI_leI (by omega) (by omega)] at c
          omega
        · refine m_kids hp hF.L hRP v1 v4 ⟨_, rfl, hF.L, fun x5 e5 t6 e6 => ?_⟩
          rw [hRu.2.2.2.1, nI_1] at e6
          have F6 : gFr ad (wP w) t t6 := by rw [e6]; exact hF.si (wP_in (j := 0) (by decide)) (by omega)
          have ex5 : x5 = nI (fo_l (fo_ap a b)) := by
            rw [e5, fo_l_ap, v3]
            have := nI_ch2 (fo_l b) (k_ar par k2 v2)
            rw [this, Nat.add_comm]
          rw [ex5]
          have hnap : fo_n (fo_ap a b) = fo_n a + fo_n b := fo_n_ap a b
          have ne0 : ∀ j, 0 < j → j < 6 → ad (w + j) ≠ ad w := fun j h0 hj => hF.L.ne _ _ (by omega) (by omega) (by omega)
          refine ih (fo_ap a b) (y + 1) t6 (by omega) (fo_v_ap a b va vb) (by omega) F6 ⟨?_, ?_, ?_, ?_, fun i q hq => ?_⟩ ?_ (fun i q hq => ?_) (by omega) ?_
          · rw [e6]; exact hRu.1
          · rw [e6, g_rd_k (by decide)]; exact hRu.2.1
          · rw [e6, g_rd_k (by decide)]; exact hRu.2.2.1
          · rw [e6, g_rd_at]
          · rw [e6, g_rd_ne (ne0 1 (by decide) (by decide)), g_rd_ne (ne0 2 (by decide) (by decide)), g_rd_ne (ne0 3 (by decide) (by decide)), g_rd_ne (ne0 4 (by decide) (by decide)), g_rd_ne (ne0 5 (by decide) (by decide))]
            exact hRu.2.2.2.2 i q hq
          · rw [e6, g_rd_k (by decide)]; exact h6u
          · rw [fo_p_ap] at hq
            have := hr (i + 1) q (by show ((k2, v2) :: (fo_p a ++ fo_p b))[i + 1]? = some q; rw [List.getElem?_cons_succ]; exact hq)
            rw [show y + 1 + i = y + (i + 1) by omega]
            exact this
          · rw [fo_l_ap, v3, hnap]
            omega
  have := key (fo_n F) F nx t rfl hV rfl (gFr.rf hL) h h6 hrw (Nat.le_refl _) (by rw [h1]; omega)
  rw [h1] at this
  exact this
theorem m_fenter {st : WS} {p nx' ev nd wn : Nat} {k v : Int32} (hf : f < 24) (hr : t.2.2.2 (ad 55) 6 = some (ad 96)) (hQ : QF t0 ad f nx O lv kn t) (hO : O.length < 500) (hn : 500 * f + O.length < nx) (hl : lv.length = st.length) (hs : st.length < 500) (hR : RW t ad 56 p (st ++ [(nd, k, v, 0, wn)]) nx' ev) (hv : k = 2 → ∃ i, i < 120 ∧ v = nI i)
    (h : ∀ u, gFr ad fsP t u → QF t0 ad f nx (O ++ [if k = 2 then (match kn v with | some x => (1, x) | none => (k, v)) else (k, v)]) (lv ++ [(O.length, 0, false)]) kn u → post none u) : g_E cx (d + 2) i_Folder_enter [.ref (ad 55), .int (nI st.length)] t post := by
  have hst := hR.2.2.2.2 st.length (nd, k, v, 0, wn) (by simp)
  have h58 : t.2.1 (ad 58) st.length = k := hst.2.1
  have h59 : t.2.1 (ad 59) st.length = v := hst.2.2.1
  have hv5 := vp_in_nI (N := 500) hs (by omega)
  have hL := hQ.1.L
  refine x_Folder_enter hL ⟨hv5, fun t1 e1 => ⟨hv5, fun t2 e2 => ⟨hv5, fun x3 e3 => ⟨hv5, ?_⟩⟩⟩⟩
  rw [nI_clamp (by omega)] at e1 e2 e3
  rw [nI_clamp (by omega)]
  have n2 : ∀ c, c ≠ 62 → c ≠ 64 → c < 199 → t2.2.1 (ad c) = t.2.1 (ad c) := fun c h1 h2 hl => funext (fun k => by rw [e2, g_rd_ne (hL.ne c 64 hl (by decide) h2), e1, g_rd_ne (hL.ne c 62 hl (by decide) h1)])
  rw [n2 59 (by decide) (by decide) (by decide), h59] at e3
  subst e3
  rw [n2 58 (by decide) (by decide) (by decide), h58, n2 65 (by decide) (by decide) (by decide), n2 66 (by decide) (by decide) (by decide)]
  obtain ⟨F, q2, q3, q4, q5, q6⟩ := hQ
  have F2 : gFr ad fsP t t2 := by rw [e2, e1]; exact ((gFr.rf hL).si (fsP_t (by omega))).si (fsP_t (by omega))
  have hr2 : t2.2.2.2 (ad 55) 6 = some (ad 96) := by rw [F2.r 55 6 (fsP_r (by omega))]; exact hr
  have Q2 : QF t0 ad f nx O (lv ++ [(O.length, 0, false)]) kn t2 := by
    refine ⟨F.tr (F2.mo (fun c k q => foP_t (by have := fsP_in q; omega))), ?_, ?_, ?_, ?_, ?_⟩
    · rw [n2 55 (by decide) (by decide) (by decide)]; exact q2
    · rw [n2 108 (by decide) (by decide) (by decide), n2 109 (by decide) (by decide) (by decide)]; exact q3
    · rw [n2 108 (by decide) (by decide) (by decide), n2 109 (by decide) (by decide) (by decide)]; exact q4
    · intro i q hq
      rw [n2 63 (by decide) (by decide) (by decide)]
      have e62 : ∀ j, t2.2.1 (ad 62) j = if j = lv.length then nI (500 * f + O.length) else t.2.1 (ad 62) j := fun j => by
        rw [e2, g_rd_ne (hL.ne 62 64 (by decide) (by decide) (by decide)), e1, q2, hl]
        by_cases c : j = st.length
        · rw [if_pos c, c, g_rd_at]
        · rw [if_neg c, g_rd_k c]
      have e64 : ∀ j, t2.2.1 (ad 64) j = if j = lv.length then 0 else t.2.1 (ad 64) j := fun j => by
        rw [e2, hl]
        by_cases c : j = st.length
        · rw [if_pos c, c, g_rd_at]; rfl
        · rw [if_neg c, g_rd_k c, e1, g_rd_ne (hL.ne 64 62 (by decide) (by decide) (by decide))]
      rw [e62, e64]
      by_cases c : i = lv.length
      · rw [c] at hq
        have hq : (O.length, 0, false) = q := by simpa using hq
        rw [if_pos c, if_pos c, ← hq]
        exact ⟨rfl, (fun z => absurd z (Nat.lt_irrefl 0)), rfl⟩
      · rw [if_neg c, if_neg c]
        have hi : i < lv.length := by
          have := (List.getElem?_eq_some_iff.mp hq).1
          rw [List.length_append] at this
          simp only [List.length_cons, List.length_nil] at this
          omega
        rw [List.getElem?_append_left hi] at hq
        exact q5 i q hq
    · rw [n2 65 (by decide) (by decide) (by decide), n2 66 (by decide) (by decide) (by decide)]; exact q6
  refine ⟨fun c => ⟨hv5, ?_⟩, fun c => ?_⟩
  · rw [if_neg c] at h
    exact m_femit hf hr2 Q2 hO hn (fun u F3 Q3 => ⟨rfl, F3.L, h u (F2.tr F3) Q3⟩)
  · have c := Classical.not_not.mp c
    rw [if_pos c] at h
    obtain ⟨i, hi, ei⟩ := hv c
    have h6 := q6 i hi
    rw [ei, nI_clamp (by omega)]
    rw [ei] at h
    refine ⟨vp_in_nI hi (by omega), fun z => ⟨hv5, ?_⟩, fun z => ⟨vp_in_nI hi (by omega), ?_⟩⟩
    · cases hk : kn (nI i) with
      | some x => rw [h6.1, hk] at z; exact absurd (show (1 : Int32) = 0 from z) (by decide)
      | none =>
        rw [hk] at h
        exact m_femit hf hr2 Q2 hO hn (fun u F3 Q3 => ⟨rfl, F3.L, h u (F2.tr F3) Q3⟩)
    · cases hk : kn (nI i) with
      | none => rw [h6.1, hk] at z; exact absurd rfl z
      | some x =>
        rw [hk] at h
        rw [h6.2 x hk]
        exact m_femit hf hr2 Q2 hO hn (fun u F3 Q3 => ⟨rfl, F3.L, h u (F2.tr F3) Q3⟩)
end FS
