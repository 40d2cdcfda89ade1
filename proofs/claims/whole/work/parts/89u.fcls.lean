/-! FOLDING, the class: its state and its small methods -/
def onum : List (Int32 × Int32) → Option Int32
  | [q] => if q.1 = 1 then some q.2 else none
  | _ => none
def foP (c k : Nat) : Bool := (Nat.ble 56 c && Nat.ble c 66) || Nat.beq c 108 || Nat.beq c 109 || (Nat.beq c 55 && Nat.beq k 7)
theorem foP_in {c k : Nat} (h : foP c k = true) : (56 ≤ c ∧ c ≤ 66) ∨ c = 108 ∨ c = 109 ∨ (c = 55 ∧ k = 7) := by
  unfold foP at h
  simp only [Bool.or_eq_true, Bool.and_eq_true, Nat.ble_eq, Nat.beq_eq] at h
  omega
theorem foP_t {c k : Nat} (h : (56 ≤ c ∧ c ≤ 66) ∨ c = 108 ∨ c = 109 ∨ (c = 55 ∧ k = 7)) : foP c k = true := by
  unfold foP
  simp only [Bool.or_eq_true, Bool.and_eq_true, Nat.ble_eq, Nat.beq_eq]
  omega
theorem foP_r {c k : Nat} (h : ¬ ((56 ≤ c ∧ c ≤ 66) ∨ c = 108 ∨ c = 109 ∨ (c = 55 ∧ k = 7))) : foP c k = false := by
  cases e : foP c k with
  | false => rfl
  | true => exact absurd (foP_in e) h
/-- what the small methods change: not the walk -/
def fsP (c k : Nat) : Bool := (Nat.ble 62 c && Nat.ble c 66) || Nat.beq c 108 || Nat.beq c 109 || (Nat.beq c 55 && Nat.beq k 7)
theorem fsP_in {c k : Nat} (h : fsP c k = true) : (62 ≤ c ∧ c ≤ 66) ∨ c = 108 ∨ c = 109 ∨ (c = 55 ∧ k = 7) := by
  unfold fsP at h
  simp only [Bool.or_eq_true, Bool.and_eq_true, Nat.ble_eq, Nat.beq_eq] at h
  omega
theorem fsP_t {c k : Nat} (h : (62 ≤ c ∧ c ≤ 66) ∨ c = 108 ∨ c = 109 ∨ (c = 55 ∧ k = 7)) : fsP c k = true := by
  unfold fsP
  simp only [Bool.or_eq_true, Bool.and_eq_true, Nat.ble_eq, Nat.beq_eq]
  omega
theorem fsP_r {c k : Nat} (h : ¬ ((62 ≤ c ∧ c ≤ 66) ∨ c = 108 ∨ c = 109 ∨ (c = 55 ∧ k = 7))) : fsP c k = false := by
  cases e : fsP c k with
  | false => rfl
  | true => exact absurd (fsP_in e) h
abbrev FLV : Type := List (Nat × Nat × Bool)
def QF (t0 : gSt) (ad : Nat → Nat) (f nx : Nat) (O : List (Int32 × Int32)) (lv : FLV) (kn : RHO) (t : gSt) : Prop :=
  gFr ad foP t0 t ∧ t.2.1 (ad 55) 7 = nI (500 * f + O.length) ∧ rows (t.2.1 (ad 108)) (t.2.1 (ad 109)) (500 * f) O ∧
  (∀ i, (i < 500 * f ∨ nx ≤ i) → t.2.1 (ad 108) i = t0.2.1 (ad 108) i ∧ t.2.1 (ad 109) i = t0.2.1 (ad 109) i) ∧
  (∀ i q, lv[i]? = some q → t.2.1 (ad 62) i = nI (500 * f + q.1) ∧ (0 < q.2.1 → t.2.1 (ad 63) i = nI (500 * f + q.2.1)) ∧ t.2.1 (ad 64) i = (if q.2.2 then 1 else 0)) ∧
  (∀ w, w < 120 → t.2.1 (ad 65) w = (if (kn (nI w)).isSome then 1 else 0) ∧ ∀ x, kn (nI w) = some x → t.2.1 (ad 66) w = x)
theorem rows_add {X Y X' Y' : Nat → Int32} {s : Nat} {O : List (Int32 × Int32)} {q : Int32 × Int32} (h : rows X Y s O) (e : ∀ i, i < s + O.length → X' i = X i ∧ Y' i = Y i) (e1 : X' (s + O.length) = q.1) (e2 : Y' (s + O.length) = q.2) : rows X' Y' s (O ++ [q]) := by
  intro i r hr
  by_cases hi : i < O.length
  · rw [List.getElem?_append_left hi] at hr
    rw [(e _ (by omega)).1, (e _ (by omega)).2]
    exact h i r hr
  · rw [List.getElem?_append_right (by omega)] at hr
    have hi0 : i - O.length = 0 := by
      by_cases z : i - O.length = 0
      · exact z
      · rw [List.getElem?_eq_none (by simp; omega)] at hr; cases hr
    rw [hi0] at hr
    have hr : q = r := by simpa using hr
    rw [show s + i = s + O.length by omega, ← hr]
    exact ⟨e1, e2⟩
section FC
variable {cx : gCx} {d : Nat} {ad : Nat → Nat} {t0 t : gSt} {post : Option Value → gSt → Prop} {f nx : Nat} {O : List (Int32 × Int32)} {lv : FLV} {kn : RHO}
theorem QF.up {nx' : Nat} (h : QF t0 ad f nx O lv kn t) (hn : nx ≤ nx') : QF t0 ad f nx' O lv kn t := ⟨h.1, h.2.1, h.2.2.1, (fun i hi => h.2.2.2.1 i (by omega)), h.2.2.2.2.1, h.2.2.2.2.2⟩
theorem QF.w {u : gSt} (h : QF t0 ad f nx O lv kn t) (hF : gFr ad (wP 56) t u) : QF t0 ad f nx O lv kn u := by
  obtain ⟨h1, h2, h3, h4, h5, h6⟩ := h
  have o : ∀ c, (c < 56 ∨ 61 < c) → c < 199 → u.2.1 (ad c) = t.2.1 (ad c) := fun c hc hl => funext (fun k => hF.i c k (wP_out (by omega)) hl)
  refine ⟨h1.tr (hF.mo (fun c k q => foP_t ?_)), ?_, ?_, ?_, ?_, ?_⟩
  · unfold wP at q
    simp only [Bool.and_eq_true, Nat.ble_eq] at q
    omega
  · rw [o 55 (by decide) (by decide)]; exact h2
  · rw [o 108 (by decide) (by decide), o 109 (by decide) (by decide)]; exact h3
  · rw [o 108 (by decide) (by decide), o 109 (by decide) (by decide)]; exact h4
  · rw [o 62 (by decide) (by decide), o 63 (by decide) (by decide), o 64 (by decide) (by decide)]; exact h5
  · rw [o 65 (by decide) (by decide), o 66 (by decide) (by decide)]; exact h6
theorem QF.pop {l : Nat × Nat × Bool} (h : QF t0 ad f nx O (lv ++ [l]) kn t) : QF t0 ad f nx O lv kn t := by
  obtain ⟨h1, h2, h3, h4, h5, h6⟩ := h
  exact ⟨h1, h2, h3, h4, (fun i q hq => h5 i q (by rw [List.getElem?_append_left (List.getElem?_eq_some_iff.mp hq).1]; exact hq)), h6⟩
theorem QF.top {l : Nat × Nat × Bool} (h : QF t0 ad f nx O (lv ++ [l]) kn t) : t.2.1 (ad 62) lv.length = nI (500 * f + l.1) ∧ (0 < l.2.1 → t.2.1 (ad 63) lv.length = nI (500 * f + l.2.1)) ∧ t.2.1 (ad 64) lv.length = (if l.2.2 then 1 else 0) := h.2.2.2.2.1 lv.length l (by simp)
theorem m_femit {k v : Int32} (hf : f < 24) (hr : t.2.2.2 (ad 55) 6 = some (ad 96)) (hQ : QF t0 ad f nx O lv kn t) (hO : O.length < 500) (hn : 500 * f + O.length < nx) (h : ∀ u, gFr ad fsP t u → QF t0 ad f nx (O ++ [(k, v)]) lv kn u → post none u) : g_E cx (d + 1) i_Folder_emit [.ref (ad 55), .int k, .int v] t post := by
  obtain ⟨F, q2, q3, q4, q5, q6⟩ := hQ
  have hL := F.L
  have hlen : (Int32.ofNat (t.1.2.2 (ad 108))) = nI 12000 := by
    have := hL.pl2 (p := 96) (Or.inl rfl) 12 (by decide)
    rw [this]; rfl
  refine x_Folder_emit hL hr ?_
  rw [hlen, q2, nI_leI (by omega) (by omega)]
  refine ⟨fun c => absurd c (by omega), fun c => ⟨vp_in_nI (by omega) (by omega), fun t1 e1 => ?_⟩⟩
  have n1 : ∀ c k, c ≠ 108 → c < 199 → t1.2.1 (ad c) k = t.2.1 (ad c) k := fun c k hc hl => by rw [e1, g_rd_ne (hL.ne c 108 hl (by decide) hc)]
  rw [n1 55 7 (by decide) (by decide), q2]
  refine ⟨vp_in_nI (by omega) (by omega), fun t2 e2 t3 e3 => ?_⟩
  rw [nI_clamp (by omega)] at e1 e2
  have n2 : ∀ c k, c ≠ 108 → c ≠ 109 → c < 199 → t2.2.1 (ad c) k = t.2.1 (ad c) k := fun c k h1 h2 hl => by rw [e2, g_rd_ne (hL.ne c 109 hl (by decide) h2), n1 c k h1 hl]
  rw [n2 55 7 (by decide) (by decide) (by decide), q2, nI_1] at e3
  have F3 : gFr ad fsP t t3 := by rw [e3, e2, e1]; exact (((gFr.rf hL).si (fsP_t (by omega))).si (fsP_t (by omega))).si (fsP_t (by omega))
  have n3 : ∀ c, c ≠ 108 → c ≠ 109 → c ≠ 55 → c < 199 → t3.2.1 (ad c) = t.2.1 (ad c) := fun c h1 h2 h3 hl => funext (fun k => by rw [e3, g_rd_ne (hL.ne c 55 hl (by decide) h3), n2 c k h1 h2 hl])
  have r8 : ∀ i, t3.2.1 (ad 108) i = if i = 500 * f + O.length then k else t.2.1 (ad 108) i := fun i => by
    rw [e3, g_rd_ne (hL.ne 108 55 (by decide) (by decide) (by decide)), e2, g_rd_ne (hL.ne 108 109 (by decide) (by decide) (by decide)), e1]
    by_cases c : i = 500 * f + O.length
    · rw [if_pos c, c, g_rd_at]
    · rw [if_neg c, g_rd_k c]
  have r9 : ∀ i, t3.2.1 (ad 109) i = if i = 500 * f + O.length then v else t.2.1 (ad 109) i := fun i => by
    rw [e3, g_rd_ne (hL.ne 109 55 (by decide) (by decide) (by decide)), e2]
    by_cases c : i = 500 * f + O.length
    · rw [if_pos c, c, g_rd_at]
    · rw [if_neg c, g_rd_k c, e1, g_rd_ne (hL.ne 109 108 (by decide) (by decide) (by decide))]
  refine h t3 F3 ⟨F.tr (F3.mo (fun c k q => foP_t (by have := fsP_in q; omega))), ?_, ?_, ?_, ?_, ?_⟩
  · rw [e3, g_rd_at, List.length_append]; rfl
  · exact rows_add q3 (fun i hi => ⟨by rw [r8, if_neg (by omega)], by rw [r9, if_neg (by omega)]⟩) (by rw [r8, if_pos rfl]) (by rw [r9, if_pos rfl])
  · intro i hi
    rw [r8, r9, if_neg (by omega), if_neg (by omega)]
    exact q4 i hi
  · rw [n3 62 (by decide) (by decide) (by decide) (by decide), n3 63 (by decide) (by decide) (by decide) (by decide), n3 64 (by decide) (by decide) (by decide) (by decide)]
    exact q5
  · rw [n3 65 (by decide) (by decide) (by decide) (by decide), n3 66 (by decide) (by decide) (by decide) (by decide)]
    exact q6
theorem m_isNum {O1 L : List (Int32 × Int32)} (hf : f < 24) (hr : t.2.2.2 (ad 55) 6 = some (ad 96)) (hQ : QF t0 ad f nx (O1 ++ L) lv kn t) (hO : (O1 ++ L).length ≤ 500) (hl : 0 < L.length) (h : post (some (.int (if (onum L).isSome then 1 else 0))) t) : g_E cx (d + 1) i_Folder_isNumber [.ref (ad 55), .int (nI (500 * f + O1.length))] t post := by
  obtain ⟨F, q2, q3, q4, q5, q6⟩ := hQ
  rw [List.length_append] at hO q2
  refine x_Folder_isNumber F.L hr ?_
  rw [q2, nI_1, nI_eq (by omega) (by omega)]
  refine ⟨fun c => ?_, fun c => ⟨vp_in_nI (by omega) (by omega), ?_⟩⟩
  · rw [show onum L = none from by
      match L, hl with
      | [q], _ => simp at c; omega
      | _ :: _ :: _, _ => rfl] at h
    exact h
  · have c := Classical.not_not.mp c
    match L, hl with
    | [q], _ =>
      have := (q3 O1.length q (by simp)).1
      rw [nI_clamp (by omega), this]
      refine ⟨fun z => ?_, fun z => ?_⟩
      · rw [show onum [q] = none from if_neg z] at h
        exact h
      · rw [show onum [q] = some q.2 from if_pos (Classical.not_not.mp z)] at h
        exact h
    | _ :: _ :: _, _ => simp at c; omega
theorem m_isCalm {O1 L O2 : List (Int32 × Int32)} (hf : f < 24) (hr : t.2.2.2 (ad 55) 6 = some (ad 96)) (hQ : QF t0 ad f nx (O1 ++ L ++ O2) lv kn t) (hO : (O1 ++ L ++ O2).length ≤ 500) (h : post (some (.int (if L.all (fun q => fclm q.1) then 1 else 0))) t) : g_E cx (d + 1) i_Folder_isCalm [.ref (ad 55), .int (nI (500 * f + O1.length)), .int (nI (500 * f + (O1 ++ L).length))] t post := by
  have hL := hQ.1.L
  have q3 := hQ.2.2.1
  refine x_Folder_isCalm hL ?_
  have key : ∀ (A B : List (Int32 × Int32)) (o4 : Option Value), L = A ++ B → A.all (fun q => fclm q.1) = true → g_W cx (g_E cx d) mt_Folder_isCalm post (2, [some (.ref (ad 55)), some (.int (nI (500 * f + O1.length))), some (.int (nI (500 * f + (O1 ++ L).length))), some (.int (nI (500 * f + (O1 ++ A).length))), o4], [], t, 0, 0) := by
    intro A B
    induction B generalizing A with
    | nil =>
      intro o4 e hA
      refine x_Folder_isCalm_2 hL hr ?_
      rw [List.append_nil] at e
      rw [e]
      refine ⟨fun _ => ?_, fun c => absurd (by exact Int32.le_refl _) c⟩
      rw [e, hA] at h
      exact h
    | cons b B ih =>
      intro o4 e hA
      have hl : L.length = A.length + 1 + B.length := by rw [e]; simp; omega
      have hb := q3 (O1 ++ A).length b (by rw [e, show O1 ++ (A ++ b :: B) ++ O2 = (O1 ++ A) ++ b :: (B ++ O2) by simp, List.getElem?_append_right (Nat.le_refl _), Nat.sub_self]; rfl)
      have hOl : (O1 ++ L ++ O2).length = O1.length + L.length + O2.length := by simp; omega
      have h1 : (O1 ++ A).length = O1.length + A.length := by simp
      have h2 : (O1 ++ L).length = O1.length + L.length := by simp
      have bad : fclm b.1 = false → post (some (.int 0)) t := fun z => by
        rw [show L.all (fun q => fclm q.1) = false from by rw [e, List.all_append, List.all_cons, z, Bool.false_and, Bool.and_false]] at h
        exact h
      refine x_Folder_isCalm_2 hL hr ⟨fun c => ?_, fun _ => ⟨vp_in_nI (by omega) (by omega), fun x1 e1 => ?_⟩⟩
      · rw [nI_leI (by omega) (by omega)] at c
        omega
      · rw [nI_clamp (by omega), hb.1] at e1
        subst e1
        refine ⟨fun z => bad (by rw [z]; rfl), fun z1 => ⟨fun z => bad (by rw [z]; rfl), fun z2 => ⟨fun z => bad (by rw [z]; rfl), fun z3 => ⟨fun z4 => ?_, fun z => bad (by rw [Classical.not_not.mp z]; rfl)⟩⟩⟩⟩
        have good : fclm b.1 = true := by
          unfold fclm
          rw [decide_eq_false z1, decide_eq_false z2, decide_eq_false z3, decide_eq_false z4]
          rfl
        have := ih (A ++ [b]) (some (.int b.1)) (by rw [e]; simp) (by rw [List.all_append, hA, List.all_cons, good]; rfl)
        rw [show (O1 ++ (A ++ [b])).length = (O1 ++ A).length + 1 by simp; omega] at this
        rw [nI_1, show 500 * f + (O1 ++ A).length + 1 = 500 * f + ((O1 ++ A).length + 1) by omega]
        exact this
  have := key [] L none rfl rfl
  rw [List.append_nil] at this
  exact this
theorem m_stands {v : Int32} {O1 L : List (Int32 × Int32)} (hf : f < 24) (hr : t.2.2.2 (ad 55) 6 = some (ad 96)) (hQ : QF t0 ad f nx (O1 ++ L) lv kn t) (hO : (O1 ++ L).length ≤ 500) (h : post (some (.int (if (2, v) ∈ L then 1 else 0))) t) : g_E cx (d + 1) i_Folder_standsIn [.ref (ad 55), .int v, .int (nI (500 * f + O1.length))] t post := by
  have hL := hQ.1.L
  have q2 := hQ.2.1
  have q3 := hQ.2.2.1
  refine x_Folder_standsIn hL ?_
  have key : ∀ (A B : List (Int32 × Int32)), L = A ++ B → (2, v) ∉ A → g_W cx (g_E cx d) mt_Folder_standsIn post (2, [some (.ref (ad 55)), some (.int v), some (.int (nI (500 * f + O1.length))), some (.int (nI (500 * f + (O1 ++ A).length)))], [], t, 0, 0) := by
    intro A B
    induction B generalizing A with
    | nil =>
      intro e hA
      refine x_Folder_standsIn_2 hL hr ?_
      rw [List.append_nil] at e
      rw [q2, e]
      refine ⟨fun _ => ?_, fun c => absurd (by exact Int32.le_refl _) c⟩
      rw [e, if_neg hA] at h
      exact h
    | cons b B ih =>
      intro e hA
      have hl : L.length = A.length + 1 + B.length := by rw [e]; simp; omega
      have hb := q3 (O1 ++ A).length b (by rw [e]; simp)
      have h1 : (O1 ++ A).length = O1.length + A.length := by simp
      have h2 : (O1 ++ L).length = O1.length + L.length := by simp
      have nxt : b ≠ (2, v) → g_W cx (g_E cx d) mt_Folder_standsIn post (2, [some (.ref (ad 55)), some (.int v), some (.int (nI (500 * f + O1.length))), some (.int (nI (500 * f + (O1 ++ A).length) + 1))], [], t, 0, 0) := fun z => by
        have := ih (A ++ [b]) (by rw [e]; simp) (fun c => by
          rcases List.mem_append.mp c with c | c
          · exact hA c
          · exact z (List.mem_singleton.mp c).symm)
        rw [show (O1 ++ (A ++ [b])).length = (O1 ++ A).length + 1 by simp; omega] at this
        rw [nI_1, show 500 * f + (O1 ++ A).length + 1 = 500 * f + ((O1 ++ A).length + 1) by omega]
        exact this
      refine x_Folder_standsIn_2 hL hr ⟨fun c => ?_, fun _ => ⟨vp_in_nI (by omega) (by omega), ?_⟩⟩
      · rw [q2, nI_leI (by omega) (by omega)] at c
        omega
      · rw [nI_clamp (by omega), hb.1, hb.2]
        refine ⟨fun z => nxt (fun c => z (by rw [c])), fun z => ⟨vp_in_nI (by omega) (by omega), fun z2 => nxt (fun c => z2 (by rw [c])), fun z2 => ?_⟩⟩
        have eb : b = (2, v) := Prod.ext (Classical.not_not.mp z) (Classical.not_not.mp z2)
        rw [if_pos (by rw [e, eb]; exact List.mem_append.mpr (Or.inr (List.mem_cons_self ..)))] at h
        exact h
  have := key [] L rfl (fun c => by cases c)
  rw [List.append_nil] at this
  exact this
theorem m_giveWay {O1 L : List (Int32 × Int32)} {se : Nat} {g : Bool} (hf : f < 24) (hl : lv.length < 500) (hQ : QF t0 ad f nx (O1 ++ L) (lv ++ [(O1.length, se, g)]) kn t) (h : ∀ u, gFr ad fsP t u → QF t0 ad f nx O1 (lv ++ [(O1.length, se, true)]) kn u → post none u) : g_E cx (d + 1) i_Folder_giveWay [.ref (ad 55), .int (nI lv.length)] t post := by
  have hT := hQ.top
  obtain ⟨F, q2, q3, q4, q5, q6⟩ := hQ
  have hL := F.L
  have hv := vp_in_nI (N := 500) hl (by omega)
  refine x_Folder_giveWay hL ⟨hv, fun t1 e1 => ⟨hv, fun t2 e2 => ?_⟩⟩
  rw [nI_clamp (by omega)] at e1 e2
  rw [hT.1] at e1
  have n2 : ∀ c, c ≠ 55 → c ≠ 64 → c < 199 → t2.2.1 (ad c) = t.2.1 (ad c) := fun c h1 h2 hl => funext (fun k => by rw [e2, g_rd_ne (hL.ne c 64 hl (by decide) h2), e1, g_rd_ne (hL.ne c 55 hl (by decide) h1)])
  have F2 : gFr ad fsP t t2 := by rw [e2, e1]; exact ((gFr.rf hL).si (fsP_t (by omega))).si (fsP_t (by omega))
  refine h t2 F2 ⟨F.tr (F2.mo (fun c k q => foP_t (by have := fsP_in q; omega))), ?_, ?_, ?_, ?_, ?_⟩
  · rw [e2, g_rd_ne (hL.ne 55 64 (by decide) (by decide) (by decide)), e1, g_rd_at]
  · rw [n2 108 (by decide) (by decide) (by decide), n2 109 (by decide) (by decide) (by decide)]
    exact rows_pre q3
  · rw [n2 108 (by decide) (by decide) (by decide), n2 109 (by decide) (by decide) (by decide)]
    exact q4
  · intro i q hq
    rw [n2 62 (by decide) (by decide) (by decide), n2 63 (by decide) (by decide) (by decide)]
    have e64 : ∀ j, t2.2.1 (ad 64) j = if j = lv.length then 1 else t.2.1 (ad 64) j := fun j => by
      rw [e2]
      by_cases c : j = lv.length
      · rw [if_pos c, c, g_rd_at]; rfl
      · rw [if_neg c, g_rd_k c, e1, g_rd_ne (hL.ne 64 55 (by decide) (by decide) (by decide))]
    rw [e64]
    by_cases c : i = lv.length
    · rw [c] at hq
      have hq : (O1.length, se, true) = q := by simpa using hq
      rw [if_pos c, c, ← hq]
      exact ⟨hT.1, hT.2.1, rfl⟩
    · rw [if_neg c]
      have hi : i < lv.length := by
        have := (List.getElem?_eq_some_iff.mp hq).1
        rw [List.length_append] at this
        simp only [List.length_cons, List.length_nil] at this
        omega
      rw [List.getElem?_append_left hi] at hq
      exact q5 i q (by rw [List.getElem?_append_left hi]; exact hq)
  · rw [n2 65 (by decide) (by decide) (by decide), n2 66 (by decide) (by decide) (by decide)]
    exact q6
end FC
