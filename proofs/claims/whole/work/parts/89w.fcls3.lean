/-! FOLDING, the class: leaving a node -/
section FL
variable {cx : gCx} {d : Nat} {ad : Nat → Nat} {t0 t : gSt} {post : Option Value → gSt → Prop} {f nx : Nat} {O : List (Int32 × Int32)} {lv : FLV} {kn : RHO}
theorem QF.cut {O1 L : List (Int32 × Int32)} {t1 : gSt} (h : QF t0 ad f nx (O1 ++ L) lv kn t) (e1 : t1 = g_si t (ad 55) 7 (nI (500 * f + O1.length))) : QF t0 ad f nx O1 lv kn t1 ∧ gFr ad fsP t t1 := by
  obtain ⟨F, q2, q3, q4, q5, q6⟩ := h
  have hL := F.L
  have F2 : gFr ad fsP t t1 := by rw [e1]; exact (gFr.rf hL).si (fsP_t (by omega))
  have n2 : ∀ c, c ≠ 55 → c < 199 → t1.2.1 (ad c) = t.2.1 (ad c) := fun c h1 hl => funext (fun k => by rw [e1, g_rd_ne (hL.ne c 55 hl (by decide) h1)])
  refine ⟨⟨F.tr (F2.mo (fun c k q => foP_t (by have := fsP_in q; omega))), ?_, ?_, ?_, ?_, ?_⟩, F2⟩
  · rw [e1, g_rd_at]
  · rw [n2 108 (by decide) (by decide), n2 109 (by decide) (by decide)]; exact rows_pre q3
  · rw [n2 108 (by decide) (by decide), n2 109 (by decide) (by decide)]; exact q4
  · rw [n2 62 (by decide) (by decide), n2 63 (by decide) (by decide), n2 64 (by decide) (by decide)]; exact q5
  · rw [n2 65 (by decide) (by decide), n2 66 (by decide) (by decide)]; exact q6
def two (k v : Int32) : List (Int32 × Int32) → List (Int32 × Int32)
  | [q1, q2] => if q1.1 = 1 ∧ q2.1 = 1 ∧ ¬ ((k = 6 ∨ k = 7) ∧ q2.2 = 0) then [(1, op2 k q1.2 q2.2)] else [(k, v), q1, q2]
  | L => (k, v) :: L
theorem m_foldTwo {O1 L : List (Int32 × Int32)} {st : WS} {p nd dn wn nx' ev se : Nat} {g : Bool} {k v : Int32} (hf : f < 24) (hr : t.2.2.2 (ad 55) 6 = some (ad 96)) (hQ : QF t0 ad f nx (O1 ++ (k, v) :: L) (lv ++ [(O1.length, se, g)]) kn t) (hO : (O1 ++ (k, v) :: L).length ≤ 500) (hn : 500 * f + (O1 ++ (k, v) :: L).length ≤ nx) (hl : lv.length = st.length) (hs : st.length < 500) (hR : RW t ad 56 p (st ++ [(nd, k, v, dn, wn)]) nx' ev) (hk : ∃ j, 3 ≤ j ∧ j ≤ 9 ∧ k = nI j) (h2 : 2 ≤ L.length)
    (h : ∀ u, gFr ad fsP t u → QF t0 ad f nx (O1 ++ two k v L) lv kn u → post none u) : g_E cx (d + 2) i_Folder_foldTwo [.ref (ad 55), .int (nI st.length)] t post := by
  have hst := hR.2.2.2.2 st.length (nd, k, v, dn, wn) (by simp)
  have h58 : t.2.1 (ad 58) st.length = k := hst.2.1
  have hv5 := vp_in_nI (N := 500) hs (by omega)
  have hT := hQ.top
  rw [hl] at hT
  have hL := hQ.1.L
  have hlen : (O1 ++ (k, v) :: L).length = O1.length + 1 + L.length := by simp; omega
  refine x_Folder_foldTwo hL hr ⟨hv5, fun x1 e1 x2 e2 => ?_⟩
  rw [nI_clamp (by omega), hT.1] at e1
  obtain rfl : x1 = nI (500 * f + O1.length + 1) := by rw [e1]; exact nI_1 _
  obtain rfl : x2 = nI (500 * f + O1.length + 2) := by rw [e2]; exact nI_1 _
  clear e1 e2
  have q2 := hQ.2.1
  have q3 := hQ.2.2.1
  have Qp := hQ.pop
  rw [nI_clamp (n := st.length) (by omega), nI_clamp (n := 500 * f + O1.length + 1) (by omega), nI_clamp (n := 500 * f + O1.length + 2) (by omega), q2, nI_1, h58, nI_eq (by omega) (by omega), hlen]
  match L, h2 with
  | [], h2 => exact absurd h2 (by decide)
  | [a], h2 => exact absurd h2 (by simp)
  | a :: b :: c :: L, _ =>
    refine ⟨fun _ => h t (gFr.rf hL) Qp, fun z => absurd (Classical.not_not.mp z) ?_⟩
    simp only [List.length_cons]
    omega
  | [a, b], _ =>
    have ha := q3 (O1.length + 1) a (by rw [List.getElem?_append_right (by omega), show O1.length + 1 - O1.length = 1 by omega]; rfl)
    have hb' := q3 (O1.length + 2) b (by rw [List.getElem?_append_right (by omega), show O1.length + 2 - O1.length = 2 by omega]; rfl)
    rw [← Nat.add_assoc] at ha hb'
    rw [ha.1, hb'.1, hb'.2]
    have hno : ¬ (a.1 = 1 ∧ b.1 = 1 ∧ ¬ ((k = 6 ∨ k = 7) ∧ b.2 = 0)) → post none t := fun z => h t (gFr.rf hL) (by
      have : two k v [a, b] = [(k, v), a, b] := if_neg z
      rw [this]
      exact Qp)
    refine ⟨fun z => absurd (by simp only [List.length_cons, List.length_nil]; omega) z, fun _ => ⟨vp_in_nI (by omega) (by omega), fun z => hno (fun c => z c.1), fun z1 => ⟨vp_in_nI (by omega) (by omega), fun z2 => ⟨hv5, vp_in_nI (by omega) (by omega), ?_⟩, fun z => hno (fun c => z c.2.1)⟩⟩⟩
    have z1 := Classical.not_not.mp z1
    refine divides_ok hL ⟨_, rfl, hL, hr, fun y0 => ⟨hv5, vp_in_nI (by omega) (by omega), vp_in_nI (by omega) (by omega), ?_⟩, fun y1 => hno (fun c => y1 (if_neg c.2.2))⟩
    have hz : ¬ ((k = 6 ∨ k = 7) ∧ b.2 = 0) := fun c => by
      rw [if_pos c] at y0
      exact absurd y0 (by decide)
    obtain ⟨j, j3, j9, ej⟩ := hk
    rw [ha.2, h58, hb'.2, ej]
    rw [ej] at hz
    refine operate_ok j3 j9 hz hL ⟨_, rfl, hL, hv5, fun t7 e7 => ?_⟩
    rw [hT.1] at e7
    obtain ⟨Q7, F7⟩ := Qp.cut e7
    refine m_femit hf (by rw [F7.r 55 6 (fsP_r (by omega))]; exact hr) Q7 (by omega) (by omega) (fun u F8 Q8 => ⟨rfl, F8.L, h u (F7.tr F8) ?_⟩)
    have : two k v [a, b] = [(1, op2 k a.2 b.2)] := if_pos ⟨z1, z2, by rw [ej]; exact hz⟩
    rw [this, ej]
    exact Q8
theorem m_drop {O1 L1 L2 : List (Int32 × Int32)} {st : WS} {p nd dn wn nx' ev : Nat} {g : Bool} {k v : Int32} (hf : f < 24) (hr : t.2.2.2 (ad 55) 6 = some (ad 96)) (hQ : QF t0 ad f nx (O1 ++ (k, v) :: (L1 ++ L2)) (lv ++ [(O1.length, O1.length + 1 + L1.length, g)]) kn t) (hO : (O1 ++ (k, v) :: (L1 ++ L2)).length ≤ 500) (hn : 500 * f + (O1 ++ (k, v) :: (L1 ++ L2)).length ≤ nx) (hl : lv.length = st.length) (hs : st.length < 500) (hR : RW t ad 56 p (st ++ [(nd, k, v, dn, wn)]) nx' ev)
    (h : ∀ u, gFr ad fsP t u → QF t0 ad f nx (O1 ++ (if (L1.all (fun q => fclm q.1) && !decide ((2, v) ∈ L2)) = true then L2 else (k, v) :: (L1 ++ L2))) lv kn u → post none u) : g_E cx (d + 2) i_Folder_dropUnused [.ref (ad 55), .int (nI st.length)] t post := by
  have hst := hR.2.2.2.2 st.length (nd, k, v, dn, wn) (by simp)
  have h59 : t.2.1 (ad 59) st.length = v := hst.2.2.1
  have hv5 := vp_in_nI (N := 500) hs (by omega)
  have hT := hQ.top
  rw [hl] at hT
  have hL := hQ.1.L
  have hlen : (O1 ++ (k, v) :: (L1 ++ L2)).length = O1.length + 1 + L1.length + L2.length := by simp; omega
  have eO : O1 ++ (k, v) :: (L1 ++ L2) = (O1 ++ [(k, v)]) ++ L1 ++ L2 := by simp
  have Qp := hQ.pop
  refine x_Folder_dropUnused hL ⟨hv5, fun x1 e1 => ⟨hv5, ?_⟩⟩
  have len1 : ((O1 ++ [(k, v)]) ++ L1).length = O1.length + 1 + L1.length := by simp; omega
  rw [nI_clamp (by omega), hT.2.1 (by dsimp only; omega)] at e1
  dsimp only at e1
  rw [← len1] at e1
  subst e1
  rw [nI_clamp (n := st.length) (by omega), h59]
  have Q1 := Qp
  rw [eO] at Q1
  refine m_stands (d := d) hf hr Q1 (by rw [← eO]; exact hO) ?_
  have hno : (L1.all (fun q => fclm q.1) && !decide ((2, v) ∈ L2)) = false → post none t := fun z => by
    have := h t (gFr.rf hL)
    rw [z] at this
    exact this Qp
  refine ⟨_, rfl, hL, fun z => hno ?_, fun z => ⟨hv5, ?_⟩⟩
  · by_cases c : (2, v) ∈ L2
    · rw [decide_eq_true c, Bool.not_true, Bool.and_false]
    · rw [if_neg c] at z
      exact absurd rfl z
  · have z := Classical.not_not.mp z
    have c : (2, v) ∉ L2 := fun c => by
      rw [if_pos c] at z
      exact absurd z (by decide)
    rw [hT.1]
    rw [nI_1, show 500 * f + O1.length + 1 = 500 * f + (O1 ++ [(k, v)]).length from by rw [List.length_append]; rfl]
    refine m_isCalm (d := d) hf hr Q1 (by rw [← eO]; exact hO) ?_
    refine ⟨_, rfl, hL, hr, fun y => ⟨hv5, ?_⟩, fun y => hno ?_⟩
    · have hcm : L1.all (fun q => fclm q.1) = true := by
        cases e : L1.all (fun q => fclm q.1) with
        | true => rfl
        | false => rw [e] at y; exact absurd rfl y
      rw [len1]
      have q2 := hQ.2.1
      rw [hlen] at q2
      have hsub : nI (500 * f + (O1.length + 1 + L1.length + L2.length)) - nI (500 * f + (O1.length + 1 + L1.length)) = nI L2.length := by
        rw [nI_sub (by omega)]
        congr 1
        omega
      have nn : ∀ x : Nat, x < 100000 → ¬ nI x < 0 := fun x hx => nI_pos (by omega)
      have go : ∀ s : gSt, s.2.1 (ad 62) st.length = nI (500 * f + O1.length) → s.2.1 (ad 55) 7 = nI (500 * f + (O1.length + 1 + L1.length + L2.length)) → (¬ (nI (500 * f + (O1.length + 1 + L1.length))) < 0 ∧ ¬ (s.2.1 (ad 62) st.length) < 0 ∧ ¬ ((s.2.1 (ad 55) 7) - (nI (500 * f + (O1.length + 1 + L1.length)))) < 0 ∧ (nI (500 * f + (O1.length + 1 + L1.length))).toNatClampNeg + (((s.2.1 (ad 55) 7) - (nI (500 * f + (O1.length + 1 + L1.length)))) : Int32).toNatClampNeg ≤ 12000 ∧ ((s.2.1 (ad 62) st.length) : Int32).toNatClampNeg + (((s.2.1 (ad 55) 7) - (nI (500 * f + (O1.length + 1 + L1.length)))) : Int32).toNatClampNeg ≤ 12000) := fun s h1 h2 => by
        rw [h1, h2, hsub, nI_clamp (n := L2.length) (by omega), nI_clamp (n := 500 * f + (O1.length + 1 + L1.length)) (by omega), nI_clamp (n := 500 * f + O1.length) (by omega)]
        exact ⟨nn _ (by omega), nn _ (by omega), nn _ (by omega), by omega, by omega⟩
      refine ⟨go t hT.1 q2, fun t6 e6 => ⟨hv5, ?_⟩⟩
      have n6 : ∀ c, c ≠ 108 → c < 199 → t6.2.1 (ad c) = t.2.1 (ad c) := fun c hc hl => funext (fun j => by rw [e6, g_rdw, if_neg (hL.ne c 108 hl (by decide) hc)])
      refine ⟨go t6 (by rw [n6 62 (by decide) (by decide)]; exact hT.1) (by rw [n6 55 (by decide) (by decide)]; exact q2), fun t7 e7 => ⟨hv5, fun t8 e8 => ?_⟩⟩
      have n7 : ∀ c, c ≠ 108 → c ≠ 109 → c < 199 → t7.2.1 (ad c) = t.2.1 (ad c) := fun c hc h9 hl => funext (fun j => by rw [e7, g_rdw, if_neg (hL.ne c 109 hl (by decide) h9), n6 c hc hl])
      rw [n6 109 (by decide) (by decide), n6 62 (by decide) (by decide), n6 55 (by decide) (by decide)] at e7
      rw [hT.1, q2, hsub, nI_clamp (n := L2.length) (by omega), nI_clamp (n := 500 * f + (O1.length + 1 + L1.length)) (by omega)] at e6 e7
      dsimp only at e6 e7
      rw [nI_clamp (n := 500 * f + O1.length) (by omega)] at e6 e7
      rw [n7 62 (by decide) (by decide) (by decide), n7 55 (by decide) (by decide) (by decide), hT.1, q2] at e8
      dsimp only at e8
      rw [nI_add, nI_sub (by omega), show 500 * f + O1.length + (500 * f + (O1.length + 1 + L1.length + L2.length)) - (500 * f + (O1.length + 1 + L1.length)) = 500 * f + (O1 ++ L2).length from by rw [List.length_append]; omega] at e8
      have F8 : gFr ad fsP t t8 := by
        rw [e8]
        refine gFr.si ?_ (fsP_t (by omega))
        rw [e7]
        refine gFr.row ?_ (fun j hj => absurd (fsP_t (c := 109) (k := j) (by omega)) (by rw [hj]; decide))
        rw [e6]
        exact (gFr.rf hL).row (fun j hj => absurd (fsP_t (c := 108) (k := j) (by omega)) (by rw [hj]; decide))
      have n8 : ∀ c, c ≠ 108 → c ≠ 109 → c ≠ 55 → c < 199 → t8.2.1 (ad c) = t.2.1 (ad c) := fun c hc h9 h5 hl => funext (fun j => by rw [e8, g_rd_ne (hL.ne c 55 hl (by decide) h5), n7 c hc h9 hl])
      have r8 : ∀ j, t8.2.1 (ad 108) j = if 500 * f + O1.length ≤ j ∧ j < 500 * f + O1.length + L2.length then t.2.1 (ad 108) (500 * f + (O1.length + 1 + L1.length) + (j - (500 * f + O1.length))) else t.2.1 (ad 108) j := fun j => by
        rw [e8, g_rd_ne (hL.ne 108 55 (by decide) (by decide) (by decide)), e7, g_rdw, if_neg (hL.ne 108 109 (by decide) (by decide) (by decide)), e6, g_rdw, if_pos rfl]
        rfl
      have r9 : ∀ j, t8.2.1 (ad 109) j = if 500 * f + O1.length ≤ j ∧ j < 500 * f + O1.length + L2.length then t.2.1 (ad 109) (500 * f + (O1.length + 1 + L1.length) + (j - (500 * f + O1.length))) else t.2.1 (ad 109) j := fun j => by
        rw [e8, g_rd_ne (hL.ne 109 55 (by decide) (by decide) (by decide)), e7, g_rdw, if_pos rfl]
        rfl
      have hh := h t8 F8
      rw [hcm, decide_eq_false c] at hh
      refine hh ?_
      obtain ⟨F, q2, q3, q4, q5, q6⟩ := Qp
      rw [hlen] at hn hO
      refine ⟨F.tr (F8.mo (fun c k q => foP_t (by have := fsP_in q; omega))), ?_, ?_, ?_, ?_, ?_⟩
      · rw [e8, g_rd_at]; rfl
      · intro i q hq
        have hq : (O1 ++ L2)[i]? = some q := hq
        rw [r8, r9]
        by_cases hi : i < O1.length
        · rw [if_neg (by omega), if_neg (by omega)]
          rw [List.getElem?_append_left hi] at hq
          exact q3 i q (by rw [List.getElem?_append_left hi]; exact hq)
        · rw [List.getElem?_append_right (by omega)] at hq
          have hi2 := (List.getElem?_eq_some_iff.mp hq).1
          rw [if_pos (by omega), if_pos (by omega), show 500 * f + (O1.length + 1 + L1.length) + (500 * f + i - (500 * f + O1.length)) = 500 * f + (O1.length + 1 + L1.length + (i - O1.length)) by omega]
          refine q3 _ q ?_
          rw [eO, List.getElem?_append_right (by rw [len1]; omega), len1, show O1.length + 1 + L1.length + (i - O1.length) - (O1.length + 1 + L1.length) = i - O1.length by omega]
          exact hq
      · intro i hi
        rw [r8, r9, if_neg (by omega), if_neg (by omega)]
        exact q4 i hi
      · rw [n8 62 (by decide) (by decide) (by decide) (by decide), n8 63 (by decide) (by decide) (by decide) (by decide), n8 64 (by decide) (by decide) (by decide) (by decide)]
        exact q5
      · rw [n8 65 (by decide) (by decide) (by decide) (by decide), n8 66 (by decide) (by decide) (by decide) (by decide)]
        exact q6
    · have y := Classical.not_not.mp y
      cases e : L1.all (fun q => fclm q.1) with
      | true => rw [e] at y; exact absurd (show (1 : Int32) = 0 from y) (by decide)
      | false => rfl
end FL
