/-! PAIR: function -/
section P7
variable {cx : gCx} {d : Nat} {ad : Nat → Nat} {t : gSt} {post : Option Value → gSt → Prop}
theorem m_countCalls {p f s : Nat} {F : Fo} (hp : isP p) (hL : Lay t ad) (hf : f < 24) (h4 : t.2.1 (ad (p + 4)) f = nI s) (h5 : t.2.1 (ad (p + 5)) f = nI (fo_n F)) (hs : s + fo_n F ≤ c_len (p + 12)) (hr : rows (t.2.1 (ad (p + 12))) (t.2.1 (ad (p + 13))) s (fo_p F)) (h : post (some (.int (nI (fo_c F)))) t) : g_E cx (d + 1) i_Program_countCalls [.ref (ad p), .int (nI f)] t post := by
  have hlen : c_len (p + 12) < 2 ^ 30 := by rcases hp with rfl | rfl | rfl <;> decide
  refine x_Program_countCalls hp hL ⟨vp_in_nI hf (by omega), fun x1 e1 => ?_⟩
  rw [nI_clamp (by omega), h4] at e1
  subst e1
  have loop : ∀ m j c, m + j = fo_n F → c ≤ j → c + ((fo_p F).drop j).countP (fun q => q.1 = 15) = fo_c F → g_W cx (g_E cx d) mt_Program_countCalls post (9, [some (.ref (ad p)), some (.int (nI f)), some (.int (nI c)), some (.int (nI (s + j)))], [], t, 0, 0) := by
    intro m
    induction m with
    | zero =>
      intro j c hj hcj hc
      refine x_Program_countCalls_9 hp hL ⟨vp_in_nI hf (by omega), vp_in_nI hf (by omega), ?_⟩
      rw [nI_clamp (by omega), h4, h5, nI_add]
      refine ⟨fun _ => ?_, fun q => absurd (nI_le (by omega) (by omega)) q⟩
      rw [List.drop_eq_nil_of_le (by rw [fo_pn]; omega)] at hc
      have : c = fo_c F := hc
      rw [this]
      exact h
    | succ m ih =>
      intro j c hj hcj hc
      refine x_Program_countCalls_9 hp hL ⟨vp_in_nI hf (by omega), vp_in_nI hf (by omega), ?_⟩
      rw [nI_clamp (by omega), h4, h5, nI_add]
      refine ⟨fun q => absurd q (nI_ge (by omega) (by omega)), fun _ => ⟨vp_in_nI (by omega) (by omega), ?_⟩⟩
      have hjl : j < (fo_p F).length := by rw [fo_pn]; omega
      have e := (hr j _ (List.getElem?_eq_getElem hjl)).1
      rw [List.drop_eq_getElem_cons hjl, List.countP_cons] at hc
      rw [nI_clamp (by omega), e, nI_1, nI_1, Nat.add_assoc]
      refine ⟨fun q => ih (j + 1) c (by omega) (by omega) ?_, fun q => ih (j + 1) (c + 1) (by omega) (by omega) ?_⟩
      · rw [if_neg (by simpa using q)] at hc
        omega
      · rw [if_pos (by simpa using q)] at hc
        omega
  have := loop (fo_n F) 0 0 (by omega) (by omega) (by rw [List.drop_zero, fo_cp]; omega)
  exact this
theorem fo_cn : ∀ F : Fo, fo_c F ≤ fo_n F
  | .inner _ k v a b => by
    have := fo_cn a
    have := fo_cn b
    simp only [fo_c, fo_n]
    split <;> omega
  | .leaf => Nat.le_refl _
def fn_ans (F : Fn) (b : Int32) : Int32 := if b = 0 then nI (fo_n (fnB F)) else if b = 1 then nI (fnP F) else if b = 2 then nI (fnV F) else if b = 3 then nI (fo_c (fnB F)) else if b = 4 then 2 + nI (fnS F) + nI (fnT F) else if b = 5 then nI (fnC F).length else if b = 6 then fnU F else if b = 7 then nI (fnR F) else -2
theorem fn_ans_out {F : Fn} {b : Int32} (h : b < 0 ∨ 7 < b) : fn_ans F b = -2 := by
  unfold fn_ans
  rw [if_neg, if_neg, if_neg, if_neg, if_neg, if_neg, if_neg, if_neg] <;> (rintro rfl; exact absurd h (by decide))
/-- the model's function, behind its count -/
theorem m_Mo_function {x f wn : Nat} {w b : Int32} {F : Fn} {N : Nat} (hL : Lay t ad) (hw : w = nI wn) (hx : x = 24 * wn + f) (hw1 : wn ≤ 1) (hf : f < 24) (hM : RMf (rI t ad) x F) (h7 : t.2.1 (ad 147) f = nI (fnP F)) (h150 : if wn = 0 then fnR F = 0 else t.2.1 (ad 150) f = nI (fnR F)) (hN : fo_n (fnB F) ≤ 500) (h : post (some (.int (fn_ans F b))) t) : g_W cx (g_E cx (d + 1)) mt_Mo_function post (30, [some (.ref (ad 144)), some (.int w), some (.int (nI f)), some (.int b), some (.int (nI x)), some (.int 0), some (.int 0)], [], t, 0, 0) := by
  obtain ⟨⟨b1, N, b2, b3, b4⟩, c2, c3, c4, c5, c6, c7⟩ := hM
  have d1 : t.2.1 (ad 148) x = nI (fo_n (fnB F)) := b1
  have hcm := fo_cm (fnB F) 0 b4
  have loop : ∀ m j c, m + j = fo_n (fnB F) → c ≤ j → c + (List.range' j m).countP (fun i => t.2.1 (ad 151) (1300 * x + i) = 15) = fo_c (fnB F) → g_W cx (g_E cx (d + 1)) mt_Mo_function post (30, [some (.ref (ad 144)), some (.int w), some (.int (nI f)), some (.int b), some (.int (nI x)), some (.int (nI c)), some (.int (nI j))], [], t, 0, 0) := by
    intro m
    induction m with
    | zero =>
      intro j c hj hcj hc
      have hcc : c = fo_c (fnB F) := hc
      refine x_Mo_function_30 hL ⟨vp_in_nI (by omega) (by omega), ?_⟩
      rw [nI_clamp (by omega), d1]
      refine ⟨fun _ => ⟨fun e => ?_, fun e => ?_, fun e => ?_, fun e => ?_, fun e => ?_, fun e => ?_, fun e => ?_, fun e => ?_, fun e => ?_⟩, fun q => absurd (nI_le (by omega) (by omega)) q⟩
      · refine x_Mo_function_124 hL ⟨vp_in_nI (by omega) (by omega), ?_⟩
        rw [nI_clamp (by omega), d1]
        rw [e] at h
        exact h
      · refine x_Mo_function_132 hL ⟨vp_in_nI (by omega) (by omega), ?_⟩
        rw [nI_clamp (by omega), h7]
        rw [e] at h
        exact h
      · refine x_Mo_function_139 hL ⟨vp_in_nI (by omega) (by omega), ?_⟩
        rw [nI_clamp (by omega), show t.2.1 (ad 149) x = nI (fnV F) from c2]
        rw [e] at h
        exact h
      · refine x_Mo_function_147 hL ?_
        rw [hcc]
        rw [e] at h
        exact h
      · refine x_Mo_function_150 hL ?_
        refine x_Mo_frame hL ⟨vp_in_nI (by omega) (by omega), vp_in_nI (by omega) (by omega), _, rfl, hL, ?_⟩
        rw [nI_clamp (by omega), show t.2.1 (ad 185) x = nI (fnS F) from c5, show t.2.1 (ad 186) x = nI (fnT F) from c6]
        rw [e] at h
        exact h
      · refine x_Mo_function_157 hL ⟨vp_in_nI (by omega) (by omega), ?_⟩
        rw [nI_clamp (by omega), show t.2.1 (ad 184) x = nI (fnC F).length from c3]
        rw [e] at h
        exact h
      · refine x_Mo_function_165 hL ⟨vp_in_nI (by omega) (by omega), ?_⟩
        rw [nI_clamp (by omega), show t.2.1 (ad 188) x = fnU F from c7]
        rw [e] at h
        exact h
      · refine x_Mo_function_173 hL ⟨fun c0 => ⟨vp_in_nI (by omega) (by omega), ?_⟩, fun c0 => ?_⟩
        · have hw0 : wn ≠ 0 := fun q => c0 (by rw [hw, q]; rfl)
          rw [if_neg hw0] at h150
          rw [nI_clamp (by omega), h150]
          rw [e] at h
          exact h
        · have hw0 : wn = 0 := (nI_eq (by omega) (by omega)).mp (hw.symm.trans (Classical.not_not.mp c0))
          rw [if_pos hw0] at h150
          rw [e] at h
          have h : post (some (.int (nI (fnR F)))) t := h
          rw [h150] at h
          exact h
      · refine x_Mo_function_188 hL ?_
        rw [fn_ans_out e] at h
        exact h
    | succ m ih =>
      intro j c hj hcj hc
      refine x_Mo_function_30 hL ⟨vp_in_nI (by omega) (by omega), ?_⟩
      rw [show (1300 : Int32) = nI 1300 from rfl, nI_mul, nI_add, nI_clamp (n := x) (by omega), nI_clamp (n := 1300 * x + j) (by omega), d1]
      refine ⟨fun q => absurd q (nI_ge (by omega) (by omega)), fun _ => ⟨vp_in_nI (by omega) (by omega), ?_⟩⟩
      rw [List.range'_succ, List.countP_cons] at hc
      refine ⟨fun q x1 e1 => ?_, fun q x1 e1 => ?_⟩
      · rw [e1, Int32.add_zero, nI_1]
        refine ih (j + 1) c (by omega) (by omega) ?_
        rw [if_neg (by simpa using q)] at hc
        omega
      · rw [e1, nI_1, nI_1]
        refine ih (j + 1) (c + 1) (by omega) (by omega) ?_
        rw [if_pos (by simpa using q)] at hc
        omega
  exact loop (fo_n (fnB F)) 0 0 (by omega) (by omega) (by rw [Nat.zero_add]; exact hcm)
theorem p_function {Rest : gSt → Prop} (hr : ∀ t u, g_ag ad t u → Rest t → Rest u) (hx : ∀ t, Rest t → gRest ad t) (w a b : Int32) : g_pair cx (d + 4) (g_Inv ad Rest) (ad c_Tr) (ad c_Mo) i_Tr_function i_Mo_function [.int w, .int a, .int b] := by
  intro t hI post hp
  have hL := hI.1
  obtain ⟨p, p2, A, B, dir, com, ord, hX⟩ := gRest_iff.mp (hx _ hI.2.2)
  have hP := hX.hP
  have hW := hX.which
  obtain ⟨h1, h2, h3, h4, h5, h6, h7, h8, h9, h10, h11, h12, h13⟩ := hX
  have hn : A.length < 2 ^ 31 := by omega
  have hc2 : t.2.1 (ad c_Mo) 11 = nI A.length := h8.1
  have hL1 : Lay (g_si t (ad c_Mo) 0 0) ad := hL.si
  have hc3 : (g_si t (ad c_Mo) 0 0).2.1 (ad 144) 11 = nI A.length := by rw [g_rd_k (by decide)]; exact hc2
  have hN := hI.code (v := 0) hr
  have nok : ∀ r : Int32, r = -1 → ((w < 0 ∨ nI 1 < w) ∨ (a < 0 ∨ nI A.length ≤ a)) → post (some (.int r)) t := by
    intro r er c
    refine hp r t (hL.k c_Mo (by decide)) (fun post2 h2 => ?_)
    refine x_Mo_function hL (fun t1 e1 => ?_)
    subst e1
    refine m_noFunction hn hL1 hc3 ?_
    rw [if_pos c]
    refine ⟨_, rfl, hL1, fun q => absurd q (by decide), fun _ => ?_⟩
    rw [← er]
    exact h2 _ hN
  refine x_Tr_function hP hL ?_
  refine m_programOf hP hL h2 (fun j hj ew => ?_) (fun c => ⟨hL, Or.inr ⟨rfl, nok (-1) rfl (Or.inl c)⟩⟩)
  obtain ⟨q, L, hq, eq, hR, hl, hF⟩ := hW j hj
  rw [← eq]
  have hww : ¬ (w < 0 ∨ nI 1 < w) := by
    rw [ew]
    match j, hj with
    | 0, _ => decide
    | 1, _ => decide
  refine ⟨hL, Or.inl ⟨q, hq, rfl, ?_⟩⟩
  refine m_Program_has (hL.pk hq 0 (by decide)) ?_
  have hcq : t.2.1 (ad q) 15 = nI A.length := by rw [← hl]; exact hR.1
  rw [hcq]
  by_cases ca : a < 0 ∨ nI A.length ≤ a
  · rw [if_pos ca]
    exact ⟨_, rfl, hL, fun q => absurd rfl q, fun _ => nok (-1) rfl (Or.inr ca)⟩
  · rw [if_neg ca]
    obtain ⟨f, hf, ef⟩ := has_of hn ca
    obtain ⟨F, eF⟩ : ∃ F, L[f]? = some F := ⟨_, List.getElem?_eq_getElem (by omega)⟩
    obtain ⟨m1, m2, m3, m4, m5, m6⟩ := hF f F eF
    obtain ⟨r1, r2, r3, r4, r5, r6, r7, ⟨s', u1, u2, u3, u4⟩, s, s1, s2, s3, s4⟩ := hR.2 f F eF
    subst ef
    have ex : (24 : Int32) * w + nI f = nI (24 * j + f) := by rw [show (24 : Int32) = nI 24 from rfl, ew, nI_mul, nI_add]
    have same : ∀ c k, c < 199 → rp c k = true → (g_si t (ad c_Mo) 0 0).2.1 (ad c) k = t.2.1 (ad c) k := by
      intro c k hc hk
      by_cases e : c = 144
      · subst e
        exact g_rd_k (by rintro rfl; cases hk)
      · exact g_rd_ne (hL.ne c 144 hc (by decide) e)
    have mo : post (some (.int (fn_ans F b))) t := by
      refine hp _ t (hL.k c_Mo (by decide)) (fun post2 h2 => ?_)
      refine x_Mo_function hL (fun t1 e1 => ?_)
      subst e1
      refine m_noFunction hn hL1 hc3 ?_
      rw [if_neg (fun q => q.elim hww ca)]
      refine ⟨_, rfl, hL1, fun _ x4 e4 => ?_, fun q => absurd rfl q⟩
      rw [ex] at e4
      subst e4
      refine m_Mo_function (N := 0) hL1 ew rfl hj (by omega) ?_ ?_ ?_ m5.2.2.2.2.2.1 (h2 _ hN)
      · refine m1.cg (fun c hc hc7 => funext (fun k => same c k (by omega) ?_))
        rcases hc with hc | hc
        · have a : Nat.ble 146 c = true := Nat.ble_eq.mpr (by omega)
          have b : Nat.ble c 156 = true := Nat.ble_eq.mpr (by omega)
          simp only [rp, a, b, Bool.true_and, Bool.true_or, Bool.or_true]
        · by_cases e : c = 188
          · subst e; rfl
          · have a : Nat.ble 182 c = true := Nat.ble_eq.mpr (by omega)
            have b : Nat.ble c 186 = true := Nat.ble_eq.mpr (by omega)
            simp only [rp, a, b, Bool.true_and, Bool.true_or, Bool.or_true]
      · rw [same 147 f (by decide) rfl]; exact m2
      · rw [same 150 f (by decide) rfl]; exact m6
    have hv : vp_in (nI f) 24 := vp_in_nI (by omega) (by omega)
    refine ⟨_, rfl, hL, fun _ => ⟨fun e => ?_, fun e => ?_, fun e => ?_, fun e => ?_, fun e => ?_, fun e => ?_, fun e => ?_, fun e => ?_, fun e => ?_⟩, fun q => absurd (by decide) q⟩
    · refine x_Tr_function_72 hq hL ⟨hv, ?_⟩
      rw [nI_clamp (by omega), show t.2.1 (ad (q + 5)) f = _ from u3]
      rw [e] at mo
      exact mo
    · refine x_Tr_function_80 hq hL ⟨hv, ?_⟩
      rw [nI_clamp (by omega), show t.2.1 (ad (q + 2)) f = _ from r2]
      rw [e] at mo
      exact mo
    · refine x_Tr_function_88 hq hL ⟨hv, ?_⟩
      rw [nI_clamp (by omega), show t.2.1 (ad (q + 3)) f = _ from r3]
      rw [e] at mo
      exact mo
    · refine x_Tr_function_96 hq hL ?_
      refine m_countCalls hq hL (by omega) u1 u3 u2 u4 ⟨_, rfl, hL, ?_⟩
      rw [e] at mo
      exact mo
    · refine x_Tr_function_103 hq hL ?_
      refine x_Program_frame hq hL ⟨hv, hv, _, rfl, hL, ?_⟩
      rw [nI_clamp (by omega), show t.2.1 (ad (q + 9)) f = _ from r5, show t.2.1 (ad (q + 10)) f = _ from r6]
      rw [e] at mo
      exact mo
    · refine x_Tr_function_110 hq hL ⟨hv, ?_⟩
      rw [nI_clamp (by omega), show t.2.1 (ad (q + 8)) f = _ from s3]
      rw [e] at mo
      exact mo
    · refine x_Tr_function_118 hq hL ⟨hv, ?_⟩
      rw [nI_clamp (by omega), show t.2.1 (ad (q + 11)) f = _ from r7]
      rw [e] at mo
      exact mo
    · refine x_Tr_function_126 hq hL ⟨hv, ?_⟩
      rw [nI_clamp (by omega), show t.2.1 (ad (q + 6)) f = _ from r4]
      rw [e] at mo
      exact mo
    · refine x_Tr_function_134 hq hL ?_
      rw [fn_ans_out e] at mo
      exact mo
end P7
