/-! FOLDING, the class: behind the condition, behind the first branch -/
section FI
variable {cx : gCx} {d : Nat} {ad : Nat → Nat} {t0 t : gSt} {post : Option Value → gSt → Prop} {f nx : Nat} {lv : FLV} {kn : RHO} {st : WS} {nd wn ev se n : Nat} {par : Int32 → Nat} {g : Bool} {v : Int32}
theorem rw_fs {u : gSt} {st : WS} {ev : Nat} (hF : gFr ad fsP t u) (hR : RW t ad 56 96 st nx ev) : RW u ad 56 96 st nx ev := hR.fr (by simp [isW]) hF (fun j k hj => fsP_r (by omega))
theorem rp_fs {P : Nat → Nat → Bool} {u : gSt} (hF : gFr ad P t u) (hP : ∀ c k, (c = 96 ∨ c = 98) → P c k = false) (h : RPar t ad 96 n par) : RPar u ad 96 n par := ⟨h.1, by rw [hF.i 96 15 (hP _ _ (by omega))]; exact h.2.1, fun g hg => by rw [hF.i (96 + 2) g (hP _ _ (by omega))]; exact h.2.2 g hg⟩
theorem m_fbk_if1 {F : Fo} (hL : Lay t ad) (hs : st.length < 500) (hR : RW t ad 56 96 (st ++ [(nd, 13, v, 2, wn)]) nx ev) (h6 : t.2.1 (ad 56) 6 = nI st.length) (hg : t.2.1 (ad 64) st.length = 1) (hRp : RPar t ad 96 n par) (hpar : ∀ v, par v ≤ 6) (h1 : fo_l F = 1) (hV : fo_v n par (fun _ _ => True) F) (hn : nx + fo_n F ≤ 12000) (hrw : rows (t.2.1 (ad 108)) (t.2.1 (ad 109)) nx (fo_p F))
    (h : ∀ u, gFr ad (wP 56) t u → RW u ad 56 96 (st ++ [(nd, 13, v, 3, wn)]) (nx + fo_n F) ev → post none u) : g_E cx (d + 4) i_Folder_behindKid [.ref (ad 55), .int (nI st.length), .int (nI 1)] t post := by
  have hst := hR.2.2.2.2 st.length (nd, 13, v, 2, wn) (by simp)
  have h58 : t.2.1 (ad 58) st.length = 13 := hst.2.1
  have hv5 := vp_in_nI (N := 500) hs (by omega)
  refine x_Folder_behindKid hL ⟨hv5, fun x1 e1 => ?_⟩
  rw [nI_clamp (by omega), h58] at e1
  subst e1
  refine ⟨fun _ => ?_, fun c => absurd (by decide) c⟩
  refine x_Folder_behindKid_47 hL ⟨fun _ => ?_, fun c => absurd (by decide) c⟩
  refine x_Folder_behindKid_75 hL ⟨fun _ => ?_, fun c => absurd (by decide) c⟩
  refine x_Folder_behindKid_108 hL ⟨fun c => absurd rfl c, fun _ => ⟨fun c => absurd rfl c, fun _ => ⟨hv5, fun c => ?_, fun _ => ?_⟩⟩⟩
  · rw [nI_clamp (by omega), hg] at c
    exact absurd c (by decide)
  · exact m_skipKid (d := d + 1) (w := 56) (p := 96) (Or.inl rfl) (by simp [isW]) hL hRp hpar hR h6 hs h1 hV hn hrw (fun u Fu Ru => ⟨rfl, Fu.L, x_Folder_behindKid_135 Fu.L (h u Fu Ru)⟩)
theorem m_fbk_if0 {O1 L : List (Int32 × Int32)} {F : Fo} (hf : f < 24) (hr : t.2.2.2 (ad 55) 6 = some (ad 96)) (hQ : QF t0 ad f nx (O1 ++ (13, v) :: L) (lv ++ [(O1.length, se, g)]) kn t) (hO : (O1 ++ (13, v) :: L).length ≤ 500) (hOn : 500 * f + (O1 ++ (13, v) :: L).length ≤ nx) (hl : lv.length = st.length) (hs : st.length < 500) (hR : RW t ad 56 96 (st ++ [(nd, 13, v, 1, wn)]) nx ev) (h6 : t.2.1 (ad 56) 6 = nI st.length) (hL1 : 1 ≤ L.length) (hRp : RPar t ad 96 n par) (hpar : ∀ v, par v ≤ 6) (h1 : fo_l F = 1) (hV : fo_v n par (fun _ _ => True) F) (hn : nx + fo_n F ≤ 12000) (hrw : rows (t.2.1 (ad 108)) (t.2.1 (ad 109)) nx (fo_p F))
    (h : ∀ u, gFr ad foP t u → (match onum L with | some x => (if x = 0 then RW u ad 56 96 (st ++ [(nd, 13, v, 2, wn)]) (nx + fo_n F) ev ∧ QF t0 ad f (nx + fo_n F) O1 (lv ++ [(O1.length, se, true)]) kn u else RW u ad 56 96 (st ++ [(nd, 13, v, 1, wn)]) nx ev ∧ QF t0 ad f nx O1 (lv ++ [(O1.length, se, true)]) kn u) | none => u = t) → post none u) : g_E cx (d + 4) i_Folder_behindKid [.ref (ad 55), .int (nI st.length), .int (nI 0)] t post := by
  have hst := hR.2.2.2.2 st.length (nd, 13, v, 1, wn) (by simp)
  have h58 : t.2.1 (ad 58) st.length = 13 := hst.2.1
  have hv5 := vp_in_nI (N := 500) hs (by omega)
  have hL := hQ.1.L
  have hT := hQ.top
  rw [hl] at hT
  have hlen : (O1 ++ (13, v) :: L).length = O1.length + 1 + L.length := by simp; omega
  have fs2 : ∀ {u w : gSt}, gFr ad fsP u w → gFr ad foP u w := fun hF => hF.mo (fun c k q => foP_t (by have := fsP_in q; omega))
  refine x_Folder_behindKid hL ⟨hv5, fun x1 e1 => ?_⟩
  rw [nI_clamp (by omega), h58] at e1
  subst e1
  refine ⟨fun c => absurd rfl c, fun _ => ⟨fun _ => ?_, fun c => absurd (by decide) c⟩⟩
  refine x_Folder_behindKid_47 hL ⟨fun c => absurd rfl c, fun _ => ⟨fun _ => ?_, fun c => absurd (by decide) c⟩⟩
  refine x_Folder_behindKid_75 hL ⟨fun c => absurd rfl c, fun _ => ⟨fun c => absurd rfl c, fun _ => ⟨hv5, ?_⟩⟩⟩
  rw [nI_clamp (by omega), hT.1]
  dsimp only
  rw [nI_1, show 500 * f + O1.length + 1 = 500 * f + (O1 ++ [((13 : Int32), v)]).length from by rw [List.length_append]; rfl]
  have Q2 := hQ
  rw [show O1 ++ (13, v) :: L = (O1 ++ [(13, v)]) ++ L by simp] at Q2
  refine m_isNum (d := d + 2) hf hr Q2 (by rw [show (O1 ++ [((13 : Int32), v)]) ++ L = O1 ++ (13, v) :: L by simp]; exact hO) hL1 ⟨_, rfl, hL, fun z => ?_, fun z => ?_⟩
  · have hh := h t (gFr.rf hL)
    cases e : onum L with
    | some x => rw [e] at z; exact absurd (show (1 : Int32) = 0 from z) (by decide)
    | none =>
      rw [e] at hh
      exact x_Folder_behindKid_108 hL ⟨fun _ => x_Folder_behindKid_135 hL (hh rfl), fun c => absurd (by decide) c⟩
  · cases e : onum L with
    | none => rw [e] at z; exact absurd rfl z
    | some x =>
      match L, hL1 with
      | _ :: _ :: _, _ => cases e
      | [q], _ =>
        have hq : q.1 = 1 ∧ q.2 = x := by
          have e : (if q.1 = 1 then some q.2 else none) = some x := e
          by_cases c : q.1 = 1
          · rw [if_pos c] at e
            exact ⟨c, Option.some.inj e⟩
          · rw [if_neg c] at e
            cases e
        have hrow := Q2.2.2.1 (O1 ++ [((13 : Int32), v)]).length q (by rw [List.getElem?_append_right (Nat.le_refl _), Nat.sub_self]; rfl)
        have hlq : (O1 ++ [((13 : Int32), v)]).length = O1.length + 1 := by simp
        have hlc : [q].length = 1 := rfl
        rw [hlq] at hrow
        rw [e] at h
        refine x_Folder_chooseBranch hL hr ⟨hv5, ?_⟩
        rw [nI_clamp (by omega), hT.1]
        dsimp only
        rw [nI_1, show 500 * f + O1.length + 1 = 500 * f + (O1.length + 1) by omega, nI_clamp (n := 500 * f + (O1.length + 1)) (by omega), hrow.2, hq.2]
        refine ⟨vp_in_nI (by omega) (by omega), fun c => ?_, fun c => ?_⟩
        · have h : ∀ u, gFr ad foP t u → (if x = 0 then RW u ad 56 96 (st ++ [(nd, 13, v, 2, wn)]) (nx + fo_n F) ev ∧ QF t0 ad f (nx + fo_n F) O1 (lv ++ [(O1.length, se, true)]) kn u else RW u ad 56 96 (st ++ [(nd, 13, v, 1, wn)]) nx ev ∧ QF t0 ad f nx O1 (lv ++ [(O1.length, se, true)]) kn u) → post none u := h
          rw [← hl]
          refine m_giveWay (d := d + 1) hf (by omega) hQ (fun u Fu Qu => ⟨rfl, Fu.L, ?_⟩)
          have n8 : ∀ i, u.2.1 (ad 108) (nx + i) = t.2.1 (ad 108) (nx + i) ∧ u.2.1 (ad 109) (nx + i) = t.2.1 (ad 109) (nx + i) := fun i => by
            have a1 := Qu.2.2.2.1 (nx + i) (by omega)
            have a2 := hQ.2.2.2.1 (nx + i) (by omega)
            exact ⟨a1.1.trans a2.1.symm, a1.2.trans a2.2.symm⟩
          refine m_skipKid (d := d) (w := 56) (p := 96) (F := F) (Or.inl rfl) (by simp [isW]) Fu.L (rp_fs Fu (fun c k hc => fsP_r (by omega)) hRp) hpar (rw_fs Fu hR) (by rw [Fu.i 56 6 (fsP_r (by omega))]; exact h6) hs h1 hV hn (fun i q hq => ?_) (fun u2 F2 R2 => ⟨rfl, F2.L, rfl, F2.L, x_Folder_behindKid_135 F2.L (h u2 ((fs2 Fu).tr (F2.mo (fun c k q => foP_t ?_))) ?_)⟩)
          · have := hrw i q hq
            exact ⟨(n8 i).1.trans this.1, (n8 i).2.trans this.2⟩
          · unfold wP at q
            simp only [Bool.and_eq_true, Nat.ble_eq] at q
            omega
          · rw [if_pos c]
            exact ⟨R2, (Qu.w F2).up (by omega)⟩
        · have h : ∀ u, gFr ad foP t u → (if x = 0 then RW u ad 56 96 (st ++ [(nd, 13, v, 2, wn)]) (nx + fo_n F) ev ∧ QF t0 ad f (nx + fo_n F) O1 (lv ++ [(O1.length, se, true)]) kn u else RW u ad 56 96 (st ++ [(nd, 13, v, 1, wn)]) nx ev ∧ QF t0 ad f nx O1 (lv ++ [(O1.length, se, true)]) kn u) → post none u := h
          rw [← hl]
          refine m_giveWay (d := d + 1) hf (by omega) hQ (fun u Fu Qu => ⟨rfl, Fu.L, rfl, Fu.L, x_Folder_behindKid_135 Fu.L (h u (fs2 Fu) ?_)⟩)
          rw [if_neg c]
          exact ⟨rw_fs Fu hR, Qu⟩
end FI
