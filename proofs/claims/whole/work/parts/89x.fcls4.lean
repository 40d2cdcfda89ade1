/-! FOLDING, the class: the events -/
section FE
variable {cx : gCx} {d : Nat} {ad : Nat → Nat} {t0 t : gSt} {post : Option Value → gSt → Prop} {f nx : Nat} {O : List (Int32 × Int32)} {lv : FLV} {kn : RHO} {st : WS} {p nd dn wn nx' ev se : Nat} {g : Bool} {k v : Int32}
theorem m_flv_plain {j : Nat} (hL : Lay t ad) (hj1 : 1 ≤ j) (hj : j ≤ 15) (ej : k = nI j) (hk : (j < 3 ∨ 10 < j) ∧ (j = 14 → t.2.1 (ad 64) st.length = 1)) (hs : st.length < 500) (hR : RW t ad 56 p (st ++ [(nd, k, v, dn, wn)]) nx' ev) (h : post none t) : g_E cx (d + 3) i_Folder_leave [.ref (ad 55), .int (nI st.length)] t post := by
  have hst := hR.2.2.2.2 st.length (nd, k, v, dn, wn) (by simp)
  have h58 : t.2.1 (ad 58) st.length = k := hst.2.1
  have hv5 := vp_in_nI (N := 500) hs (by omega)
  have e29 : ∀ o3, g_W cx (g_E cx (d + 2)) mt_Folder_leave post (107, [some (.ref (ad 55)), some (.int (nI st.length)), some (.int k), o3], [], t, 0, 0) := fun o3 => x_Folder_leave_107 hL h
  have go : g_W cx (g_E cx (d + 2)) mt_Folder_leave post (29, [some (.ref (ad 55)), some (.int (nI st.length)), some (.int k), none], [], t, 0, 0) := by
    refine x_Folder_leave_29 hL ⟨fun _ => ?_, fun c => ?_⟩
    · refine x_Folder_leave_87 hL ⟨fun _ => e29 _, fun c => ⟨hv5, fun _ => e29 _, fun z => ?_⟩⟩
      have c := Classical.not_not.mp c
      have : j = 14 := by
        rw [ej, show (14 : Int32) = nI 14 from rfl, nI_eq (by omega) (by omega)] at c
        exact c
      rw [nI_clamp (by omega), hk.2 this] at z
      exact absurd (by decide) z
    · have c := Classical.not_not.mp c
      rw [ej, show (10 : Int32) = nI 10 from rfl, nI_eq (by omega) (by omega)] at c
      omega
  refine x_Folder_leave hL ⟨hv5, fun x1 e1 => ?_⟩
  rw [nI_clamp (by omega), h58] at e1
  subst e1
  refine ⟨fun _ => go, fun c => ⟨fun _ => go, fun c2 => ?_⟩⟩
  rw [ej, show (3 : Int32) = nI 3 from rfl, nI_ltI (by omega) (by omega)] at c
  rw [ej, show (9 : Int32) = nI 9 from rfl, nI_ltI (by omega) (by omega)] at c2
  omega
theorem m_flv_two {O1 L : List (Int32 × Int32)} (hf : f < 24) (hr : t.2.2.2 (ad 55) 6 = some (ad 96)) (hQ : QF t0 ad f nx (O1 ++ (k, v) :: L) (lv ++ [(O1.length, se, g)]) kn t) (hO : (O1 ++ (k, v) :: L).length ≤ 500) (hn : 500 * f + (O1 ++ (k, v) :: L).length ≤ nx) (hl : lv.length = st.length) (hs : st.length < 500) (hR : RW t ad 56 p (st ++ [(nd, k, v, dn, wn)]) nx' ev) (hk : ∃ j, 3 ≤ j ∧ j ≤ 9 ∧ k = nI j) (h2 : 2 ≤ L.length)
    (h : ∀ u, gFr ad fsP t u → QF t0 ad f nx (O1 ++ two k v L) lv kn u → post none u) : g_E cx (d + 3) i_Folder_leave [.ref (ad 55), .int (nI st.length)] t post := by
  have hst := hR.2.2.2.2 st.length (nd, k, v, dn, wn) (by simp)
  have h58 : t.2.1 (ad 58) st.length = k := hst.2.1
  have hv5 := vp_in_nI (N := 500) hs (by omega)
  have hL := hQ.1.L
  refine x_Folder_leave hL ⟨hv5, fun x1 e1 => ?_⟩
  rw [nI_clamp (by omega), h58] at e1
  subst e1
  have hk' := hk
  obtain ⟨j, j3, j9, ej⟩ := hk'
  refine ⟨fun c => ?_, fun _ => ⟨fun c => ?_, fun _ => ?_⟩⟩
  · rw [ej, show (3 : Int32) = nI 3 from rfl, nI_ltI (by omega) (by omega)] at c
    omega
  · rw [ej, show (9 : Int32) = nI 9 from rfl, nI_ltI (by omega) (by omega)] at c
    omega
  · exact m_foldTwo hf hr hQ hO hn hl hs hR hk h2 (fun u Fu Qu => ⟨rfl, Fu.L, x_Folder_leave_107 Fu.L (h u Fu Qu)⟩)
theorem m_flv_neg {O1 L : List (Int32 × Int32)} (hf : f < 24) (hr : t.2.2.2 (ad 55) 6 = some (ad 96)) (hQ : QF t0 ad f nx (O1 ++ (10, v) :: L) (lv ++ [(O1.length, se, g)]) kn t) (hO : (O1 ++ (10, v) :: L).length ≤ 500) (hn : 500 * f + (O1 ++ (10, v) :: L).length ≤ nx) (hl : lv.length = st.length) (hs : st.length < 500) (hR : RW t ad 56 p (st ++ [(nd, 10, v, dn, wn)]) nx' ev) (h2 : 1 ≤ L.length)
    (h : ∀ u, gFr ad fsP t u → QF t0 ad f nx (O1 ++ (match onum L with | some x => [(1, -x)] | none => (10, v) :: L)) lv kn u → post none u) : g_E cx (d + 3) i_Folder_leave [.ref (ad 55), .int (nI st.length)] t post := by
  have hst := hR.2.2.2.2 st.length (nd, 10, v, dn, wn) (by simp)
  have h58 : t.2.1 (ad 58) st.length = 10 := hst.2.1
  have hv5 := vp_in_nI (N := 500) hs (by omega)
  have hL := hQ.1.L
  have hT := hQ.top
  rw [hl] at hT
  have Qp := hQ.pop
  have hlen : (O1 ++ (10, v) :: L).length = O1.length + 1 + L.length := by simp; omega
  refine x_Folder_leave hL ⟨hv5, fun x1 e1 => ?_⟩
  rw [nI_clamp (by omega), h58] at e1
  subst e1
  refine ⟨fun c => absurd c (by decide), fun _ => ⟨fun _ => ?_, fun c => absurd (by decide) c⟩⟩
  refine x_Folder_leave_29 hL ⟨fun c => absurd rfl c, fun _ => ⟨hv5, ?_⟩⟩
  rw [nI_clamp (by omega), hT.1]
  dsimp only
  rw [nI_1, show 500 * f + O1.length + 1 = 500 * f + (O1 ++ [((10 : Int32), v)]).length from by rw [List.length_append]; rfl]
  have Q1 := Qp
  rw [show O1 ++ (10, v) :: L = (O1 ++ [(10, v)]) ++ L by simp] at Q1
  refine m_isNum (d := d + 1) hf hr Q1 (by rw [show (O1 ++ [((10 : Int32), v)]) ++ L = O1 ++ (10, v) :: L by simp]; exact hO) h2 ⟨_, rfl, hL, hr, fun z => ?_, fun z => ⟨hv5, ?_⟩⟩
  · refine x_Folder_leave_87 hL ⟨fun _ => x_Folder_leave_107 hL (h t (gFr.rf hL) ?_), fun c => absurd (by decide) c⟩
    cases e : onum L with
    | none => exact Qp
    | some x => rw [e] at z; exact absurd (show (1 : Int32) = 0 from z) (by decide)
  · cases e : onum L with
    | none => rw [e] at z; exact absurd rfl z
    | some x =>
      match L, h2 with
      | [q], _ =>
        have hq : q.1 = 1 ∧ q.2 = x := by
          have e : (if q.1 = 1 then some q.2 else none) = some x := e
          by_cases c : q.1 = 1
          · rw [if_pos c] at e
            exact ⟨c, Option.some.inj e⟩
          · rw [if_neg c] at e
            cases e
        have hrow := Q1.2.2.1 (O1 ++ [((10 : Int32), v)]).length q (by rw [List.getElem?_append_right (Nat.le_refl _), Nat.sub_self]; rfl)
        have hlq : (O1 ++ [((10 : Int32), v)]).length = O1.length + 1 := by simp
        rw [hT.1]
        dsimp only
        rw [nI_1, show 500 * f + O1.length + 1 = 500 * f + (O1 ++ [((10 : Int32), v)]).length from by rw [List.length_append]; rfl, nI_clamp (n := 500 * f + (O1 ++ [((10 : Int32), v)]).length) (by rw [hlq]; omega), hrow.2, hq.2]
        refine ⟨vp_in_nI (by rw [hlq]; omega) (by omega), fun x3 e3 => ⟨hv5, fun t4 e4 => ?_⟩⟩
        subst e3
        obtain ⟨Q7, F7⟩ := Qp.cut e4
        refine m_femit (d := d + 1) hf (by rw [F7.r 55 6 (fsP_r (by omega))]; exact hr) Q7 (by omega) (by omega) (fun u F8 Q8 => ⟨rfl, F8.L, x_Folder_leave_107 F8.L (h u (F7.tr F8) ?_)⟩)
        rw [e]
        exact Q8
      | _ :: _ :: _, _ => cases e
theorem m_flv_let {O1 L1 L2 : List (Int32 × Int32)} (hf : f < 24) (hr : t.2.2.2 (ad 55) 6 = some (ad 96)) (hQ : QF t0 ad f nx (O1 ++ (14, v) :: (L1 ++ L2)) (lv ++ [(O1.length, O1.length + 1 + L1.length, false)]) kn t) (hO : (O1 ++ (14, v) :: (L1 ++ L2)).length ≤ 500) (hn : 500 * f + (O1 ++ (14, v) :: (L1 ++ L2)).length ≤ nx) (hl : lv.length = st.length) (hs : st.length < 500) (hR : RW t ad 56 p (st ++ [(nd, 14, v, dn, wn)]) nx' ev)
    (h : ∀ u, gFr ad fsP t u → QF t0 ad f nx (O1 ++ (if (L1.all (fun q => fclm q.1) && !decide ((2, v) ∈ L2)) = true then L2 else (14, v) :: (L1 ++ L2))) lv kn u → post none u) : g_E cx (d + 3) i_Folder_leave [.ref (ad 55), .int (nI st.length)] t post := by
  have hst := hR.2.2.2.2 st.length (nd, 14, v, dn, wn) (by simp)
  have h58 : t.2.1 (ad 58) st.length = 14 := hst.2.1
  have hv5 := vp_in_nI (N := 500) hs (by omega)
  have hL := hQ.1.L
  have hT := hQ.top
  rw [hl] at hT
  refine x_Folder_leave hL ⟨hv5, fun x1 e1 => ?_⟩
  rw [nI_clamp (by omega), h58] at e1
  subst e1
  refine ⟨fun c => absurd c (by decide), fun _ => ⟨fun _ => ?_, fun c => absurd (by decide) c⟩⟩
  refine x_Folder_leave_29 hL ⟨fun _ => ?_, fun c => absurd (by decide) c⟩
  refine x_Folder_leave_87 hL ⟨fun c => absurd rfl c, fun _ => ⟨hv5, fun c => ?_, fun _ => ?_⟩⟩
  · rw [nI_clamp (by omega), hT.2.2] at c
    exact absurd rfl c
  · exact m_drop hf hr hQ hO hn hl hs hR (fun u Fu Qu => ⟨rfl, Fu.L, x_Folder_leave_107 Fu.L (h u Fu Qu)⟩)
/-- behind an operand: nothing -/
theorem m_fbk_plain (hL : Lay t ad) (hs : st.length < 500) (hd : dn < 100) (hR : RW t ad 56 p (st ++ [(nd, k, v, dn + 1, wn)]) nx' ev) (hk : dn = 0 → k ≠ 12 ∧ k ≠ 13 ∧ k ≠ 14) (hk1 : dn = 1 → k = 13 → t.2.1 (ad 64) st.length = 0) (h : post none t) : g_E cx (d + 4) i_Folder_behindKid [.ref (ad 55), .int (nI st.length), .int (nI dn)] t post := by
  have hst := hR.2.2.2.2 st.length (nd, k, v, dn + 1, wn) (by simp)
  have h58 : t.2.1 (ad 58) st.length = k := hst.2.1
  have hv5 := vp_in_nI (N := 500) hs (by omega)
  have z0 : ¬ (¬ nI dn = 0) → dn = 0 := fun c => by
    have c := Classical.not_not.mp c
    rw [show (0 : Int32) = nI 0 from rfl, nI_eq (by omega) (by omega)] at c
    exact c
  have z1 : ¬ (¬ nI dn = 1) → dn = 1 := fun c => by
    have c := Classical.not_not.mp c
    rw [show (1 : Int32) = nI 1 from rfl, nI_eq (by omega) (by omega)] at c
    exact c
  have fin : g_W cx (g_E cx (d + 3)) mt_Folder_behindKid post (135, [some (.ref (ad 55)), some (.int (nI st.length)), some (.int (nI dn)), some (.int k)], [], t, 0, 0) := x_Folder_behindKid_135 hL h
  have g108 : g_W cx (g_E cx (d + 3)) mt_Folder_behindKid post (108, [some (.ref (ad 55)), some (.int (nI st.length)), some (.int (nI dn)), some (.int k)], [], t, 0, 0) := x_Folder_behindKid_108 hL ⟨fun _ => fin, fun c => ⟨fun _ => fin, fun c2 => ⟨hv5, fun _ => fin, fun c3 => absurd (by rw [nI_clamp (by omega)]; exact hk1 (z1 c) (Classical.not_not.mp c2)) c3⟩⟩⟩
  have g75 : g_W cx (g_E cx (d + 3)) mt_Folder_behindKid post (75, [some (.ref (ad 55)), some (.int (nI st.length)), some (.int (nI dn)), some (.int k)], [], t, 0, 0) := x_Folder_behindKid_75 hL ⟨fun _ => g108, fun c => ⟨fun _ => g108, fun c2 => absurd (Classical.not_not.mp c2) (hk (z0 c)).2.1⟩⟩
  have g47 : g_W cx (g_E cx (d + 3)) mt_Folder_behindKid post (47, [some (.ref (ad 55)), some (.int (nI st.length)), some (.int (nI dn)), some (.int k)], [], t, 0, 0) := x_Folder_behindKid_47 hL ⟨fun _ => g75, fun c => ⟨fun _ => g75, fun c2 => absurd (Classical.not_not.mp c2) (hk (z0 c)).2.2⟩⟩
  refine x_Folder_behindKid hL ⟨hv5, fun x1 e1 => ?_⟩
  rw [nI_clamp (by omega), h58] at e1
  subst e1
  exact ⟨fun _ => g47, fun c => ⟨fun _ => g47, fun c2 => absurd (Classical.not_not.mp c2) (hk (z0 c)).1⟩⟩
theorem m_fbk_seq {O1 L : List (Int32 × Int32)} (hf : f < 24) (hr : t.2.2.2 (ad 55) 6 = some (ad 96)) (hQ : QF t0 ad f nx (O1 ++ (12, v) :: L) (lv ++ [(O1.length, se, g)]) kn t) (hO : (O1 ++ (12, v) :: L).length ≤ 500) (hl : lv.length = st.length) (hs : st.length < 500) (hR : RW t ad 56 p (st ++ [(nd, 12, v, 1, wn)]) nx' ev)
    (h : ∀ u, gFr ad fsP t u → (if L.all (fun q => fclm q.1) = true then QF t0 ad f nx O1 (lv ++ [(O1.length, se, true)]) kn u else u = t) → post none u) : g_E cx (d + 4) i_Folder_behindKid [.ref (ad 55), .int (nI st.length), .int (nI 0)] t post := by
  have hst := hR.2.2.2.2 st.length (nd, 12, v, 1, wn) (by simp)
  have h58 : t.2.1 (ad 58) st.length = 12 := hst.2.1
  have hv5 := vp_in_nI (N := 500) hs (by omega)
  have hL := hQ.1.L
  have hT := hQ.top
  have hT1 := hT.1
  dsimp only at hT1
  rw [hl] at hT1
  have hlen : (O1 ++ (12, v) :: L).length = O1.length + 1 + L.length := by simp; omega
  refine x_Folder_behindKid hL ⟨hv5, fun x1 e1 => ?_⟩
  rw [nI_clamp (by omega), h58] at e1
  subst e1
  refine ⟨fun c => absurd rfl c, fun _ => ⟨fun c => absurd rfl c, fun _ => ⟨hv5, ?_⟩⟩⟩
  have Q1 := hQ
  rw [show O1 ++ (12, v) :: L = (O1 ++ [(12, v)]) ++ L ++ [] by simp] at Q1
  have q2 := Q1.2.1
  rw [nI_clamp (by omega), hT1, nI_1, q2, show 500 * f + O1.length + 1 = 500 * f + (O1 ++ [((12 : Int32), v)]).length from by rw [List.length_append]; rfl, List.append_nil]
  refine m_isCalm (d := d + 2) hf hr Q1 (by rw [show (O1 ++ [((12 : Int32), v)]) ++ L ++ [] = O1 ++ (12, v) :: L by simp]; exact hO) ⟨_, rfl, hL, fun z => ?_, fun z => ?_⟩
  · have hc : L.all (fun q => fclm q.1) = false := by
      cases e : L.all (fun q => fclm q.1) with
      | true => rw [e] at z; exact absurd (show (1 : Int32) = 0 from z) (by decide)
      | false => rfl
    have hh := h t (gFr.rf hL)
    rw [hc] at hh
    have fin : g_W cx (g_E cx (d + 3)) mt_Folder_behindKid post (135, [some (.ref (ad 55)), some (.int (nI st.length)), some (.int (nI 0)), some (.int 12)], [], t, 0, 0) := x_Folder_behindKid_135 hL (hh rfl)
    have g108 : g_W cx (g_E cx (d + 3)) mt_Folder_behindKid post (108, [some (.ref (ad 55)), some (.int (nI st.length)), some (.int (nI 0)), some (.int 12)], [], t, 0, 0) := x_Folder_behindKid_108 hL ⟨fun _ => fin, fun c => absurd (by decide) c⟩
    have g75 : g_W cx (g_E cx (d + 3)) mt_Folder_behindKid post (75, [some (.ref (ad 55)), some (.int (nI st.length)), some (.int (nI 0)), some (.int 12)], [], t, 0, 0) := x_Folder_behindKid_75 hL ⟨fun _ => g108, fun c => ⟨fun _ => g108, fun c2 => absurd (by decide) c2⟩⟩
    exact x_Folder_behindKid_47 hL ⟨fun _ => g75, fun c => ⟨fun _ => g75, fun c2 => absurd (by decide) c2⟩⟩
  · have hc : L.all (fun q => fclm q.1) = true := by
      cases e : L.all (fun q => fclm q.1) with
      | true => rfl
      | false => rw [e] at z; exact absurd rfl z
    rw [← hl]
    refine m_giveWay (d := d + 2) hf (by omega) hQ (fun u Fu Qu => ⟨rfl, Fu.L, x_Folder_behindKid_135 Fu.L (h u Fu ?_)⟩)
    rw [hc]
    exact Qu
theorem m_fbk_let {O1 L : List (Int32 × Int32)} {i : Nat} (hf : f < 24) (hr : t.2.2.2 (ad 55) 6 = some (ad 96)) (hi : i < 120) (hQ : QF t0 ad f nx (O1 ++ (14, nI i) :: L) (lv ++ [(O1.length, se, false)]) kn t) (hO : (O1 ++ (14, nI i) :: L).length ≤ 500) (hl : lv.length = st.length) (hs : st.length < 500) (hR : RW t ad 56 p (st ++ [(nd, 14, nI i, 1, wn)]) nx' ev) (hL1 : 1 ≤ L.length)
    (h : ∀ u, gFr ad fsP t u → (match onum L with | some x => QF t0 ad f nx O1 (lv ++ [(O1.length, 0, true)]) (rup kn (nI i) (some x)) u | none => QF t0 ad f nx (O1 ++ (14, nI i) :: L) (lv ++ [(O1.length, O1.length + 1 + L.length, false)]) kn u) → post none u) : g_E cx (d + 4) i_Folder_behindKid [.ref (ad 55), .int (nI st.length), .int (nI 0)] t post := by
  have hst := hR.2.2.2.2 st.length (nd, 14, nI i, 1, wn) (by simp)
  have h58 : t.2.1 (ad 58) st.length = 14 := hst.2.1
  have h59 : t.2.1 (ad 59) st.length = nI i := hst.2.2.1
  have hv5 := vp_in_nI (N := 500) hs (by omega)
  have hL := hQ.1.L
  have hT := hQ.top
  rw [hl] at hT
  have hlen : (O1 ++ (14, nI i) :: L).length = O1.length + 1 + L.length := by simp; omega
  refine x_Folder_behindKid hL ⟨hv5, fun x1 e1 => ?_⟩
  rw [nI_clamp (by omega), h58] at e1
  subst e1
  refine ⟨fun c => absurd rfl c, fun _ => ⟨fun _ => ?_, fun c => absurd (by decide) c⟩⟩
  refine x_Folder_behindKid_47 hL ⟨fun c => absurd rfl c, fun _ => ⟨fun c => absurd rfl c, fun _ => ⟨hv5, fun t1 e1 => ?_⟩⟩⟩
  rw [nI_clamp (by omega), hQ.2.1, hlen] at e1
  have F1 : gFr ad fsP t t1 := by rw [e1]; exact (gFr.rf hL).si (fsP_t (by omega))
  have n1 : ∀ c, c ≠ 63 → c < 199 → t1.2.1 (ad c) = t.2.1 (ad c) := fun c hc hl => funext (fun j => by rw [e1, g_rd_ne (hL.ne c 63 hl (by decide) hc)])
  have Q1 : QF t0 ad f nx (O1 ++ (14, nI i) :: L) (lv ++ [(O1.length, O1.length + 1 + L.length, false)]) kn t1 := by
    obtain ⟨F, q2, q3, q4, q5, q6⟩ := hQ
    refine ⟨F.tr (F1.mo (fun c k q => foP_t (by have := fsP_in q; omega))), ?_, ?_, ?_, ?_, ?_⟩
    · rw [n1 55 (by decide) (by decide)]; exact q2
    · rw [n1 108 (by decide) (by decide), n1 109 (by decide) (by decide)]; exact q3
    · rw [n1 108 (by decide) (by decide), n1 109 (by decide) (by decide)]; exact q4
    · intro a q hq
      rw [n1 62 (by decide) (by decide), n1 64 (by decide) (by decide)]
      by_cases c : a = lv.length
      · rw [c] at hq
        have hq : (O1.length, O1.length + 1 + L.length, false) = q := by simpa using hq
        rw [c, ← hq, hl]
        refine ⟨hT.1, fun _ => ?_, hT.2.2⟩
        rw [e1, g_rd_at]
      · have hi : a < lv.length := by
          have := (List.getElem?_eq_some_iff.mp hq).1
          rw [List.length_append] at this
          simp only [List.length_cons, List.length_nil] at this
          omega
        rw [List.getElem?_append_left hi] at hq
        rw [e1, g_rd_k (by omega)]
        exact q5 a q (by rw [List.getElem?_append_left hi]; exact hq)
    · rw [n1 65 (by decide) (by decide), n1 66 (by decide) (by decide)]; exact q6
  have hr1 : t1.2.2.2 (ad 55) 6 = some (ad 96) := by rw [F1.r 55 6 (fsP_r (by omega))]; exact hr
  refine x_Folder_bind F1.L ⟨hv5, ?_⟩
  rw [n1 62 (by decide) (by decide), nI_clamp (by omega), hT.1]
  dsimp only
  rw [nI_1, show 500 * f + O1.length + 1 = 500 * f + (O1 ++ [((14 : Int32), nI i)]).length from by rw [List.length_append]; rfl]
  have Q2 := Q1
  rw [show O1 ++ (14, nI i) :: L = (O1 ++ [(14, nI i)]) ++ L by simp] at Q2
  refine m_isNum (d := d + 1) hf hr1 Q2 (by rw [show (O1 ++ [((14 : Int32), nI i)]) ++ L = O1 ++ (14, nI i) :: L by simp]; exact hO) hL1 ⟨_, rfl, F1.L, hr1, fun z => ⟨rfl, F1.L, x_Folder_behindKid_135 F1.L (h t1 F1 ?_)⟩, fun z => ⟨hv5, fun x3 e3 => ?_⟩⟩
  · cases e : onum L with
    | none => exact Q1
    | some x => rw [e] at z; exact absurd (show (1 : Int32) = 0 from z) (by decide)
  · cases e : onum L with
    | none => rw [e] at z; exact absurd rfl z
    | some x =>
      match L, hL1 with
      | _ :: _ :: _, _ => cases e
      | [q], _ =>
        have hq : q.1 = 1 ∧ q.2 = x := by
          have e : (if q.1 = 1 then some q.2 else none) = some x := e
          by_cases c : q.1 = 1
          · rw [if_pos c] at e
            exact ⟨c, Option.some.inj e⟩
          · rw [if_neg c] at e
            cases e
        have hrow := Q2.2.2.1 (O1 ++ [((14 : Int32), nI i)]).length q (by rw [List.getElem?_append_right (Nat.le_refl _), Nat.sub_self]; rfl)
        have hlq : (O1 ++ [((14 : Int32), nI i)]).length = O1.length + 1 := by simp
        have hlc : [q].length = 1 := rfl
        rw [hlq] at hrow
        rw [n1 59 (by decide) (by decide), h59] at e3
        subst e3
        have hvi := vp_in_nI (N := 120) hi (by omega)
        refine ⟨hvi, fun t4 e4 => ⟨hv5, ?_⟩⟩
        rw [nI_clamp (by omega)] at e4
        have n4 : ∀ c, c ≠ 65 → c < 199 → t4.2.1 (ad c) = t1.2.1 (ad c) := fun c hc hl => funext (fun j => by rw [e4, g_rd_ne (F1.L.ne c 65 hl (by decide) hc)])
        rw [n4 62 (by decide) (by decide), n1 62 (by decide) (by decide), hT.1]
        dsimp only
        rw [nI_1, show 500 * f + O1.length + 1 = 500 * f + (O1.length + 1) by omega, nI_clamp (n := 500 * f + (O1.length + 1)) (by omega), n4 109 (by decide) (by decide), hrow.2, hq.2, nI_clamp (n := i) (by omega)]
        refine ⟨vp_in_nI (by omega) (by omega), hvi, fun t5 e5 => ?_⟩
        have F5 : gFr ad fsP t1 t5 := by rw [e5, e4]; exact ((gFr.rf F1.L).si (fsP_t (by omega))).si (fsP_t (by omega))
        have n5 : ∀ c, c ≠ 65 → c ≠ 66 → c < 199 → t5.2.1 (ad c) = t1.2.1 (ad c) := fun c hc h6 hl => funext (fun j => by rw [e5, g_rd_ne (F1.L.ne c 66 hl (by decide) h6), n4 c hc hl])
        have Q5 : QF t0 ad f nx (O1 ++ [(14, nI i), q]) (lv ++ [(O1.length, O1.length + 1 + 1, false)]) (rup kn (nI i) (some x)) t5 := by
          obtain ⟨F, q2, q3, q4, q5, q6⟩ := Q1
          refine ⟨F.tr (F5.mo (fun c k q => foP_t (by have := fsP_in q; omega))), ?_, ?_, ?_, ?_, ?_⟩
          · rw [n5 55 (by decide) (by decide) (by decide)]; exact q2
          · rw [n5 108 (by decide) (by decide) (by decide), n5 109 (by decide) (by decide) (by decide)]; exact q3
          · rw [n5 108 (by decide) (by decide) (by decide), n5 109 (by decide) (by decide) (by decide)]; exact q4
          · rw [n5 62 (by decide) (by decide) (by decide), n5 63 (by decide) (by decide) (by decide), n5 64 (by decide) (by decide) (by decide)]; exact q5
          · intro w hw
            unfold rup
            by_cases c : w = i
            · rw [c, if_pos rfl]
              refine ⟨?_, fun y ey => ?_⟩
              · rw [e5, g_rd_ne (F1.L.ne 65 66 (by decide) (by decide) (by decide)), e4, g_rd_at]; rfl
              · rw [e5, g_rd_at]
                exact Option.some.inj ey
            · rw [if_neg (fun e => c ((nI_eq (by omega) (by omega)).mp e)), e5, g_rd_ne (F1.L.ne 65 66 (by decide) (by decide) (by decide)), g_rd_k c, e4, g_rd_k c, g_rd_ne (F1.L.ne 66 65 (by decide) (by decide) (by decide))]
              exact q6 w hw
        rw [← hl]
        refine m_giveWay (d := d + 1) hf (by omega) Q5 (fun u Fu Qu => ⟨rfl, Fu.L, ⟨rfl, Fu.L, x_Folder_behindKid_135 Fu.L (h u ((F1.tr F5).tr Fu) ?_)⟩⟩)
        rw [e]
        obtain ⟨F, q2, q3, q4, q5, q6⟩ := Qu
        refine ⟨F, q2, q3, q4, fun a y hy => ?_, q6⟩
        by_cases c : a = lv.length
        · have := q5 a (O1.length, O1.length + 1 + 1, true) (by rw [c]; simp)
          rw [c] at hy
          have hy : (O1.length, 0, true) = y := by simpa using hy
          rw [← hy]
          exact ⟨this.1, (fun z => absurd z (Nat.lt_irrefl 0)), this.2.2⟩
        · have hi : a < lv.length := by
            have := (List.getElem?_eq_some_iff.mp hy).1
            rw [List.length_append] at this
            simp only [List.length_cons, List.length_nil] at this
            omega
          rw [List.getElem?_append_left hi] at hy
          exact q5 a y (by rw [List.getElem?_append_left hi]; exact hy)
end FE
