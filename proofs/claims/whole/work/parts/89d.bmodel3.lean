/-! THE MODEL'S BOUNDS: those without one -/
theorem bEnd_off {n : Nat} {cl E R : Nat → Nat → Bool} (h : ∀ a b, a ≠ b → E a b = R a b) (f : Nat) : bEnd n cl E f = bEnd n cl R f := by
  unfold bEnd
  congr 1
  funext g
  by_cases c : g = f
  · rw [decide_eq_true c]; rfl
  · rw [h g f c]
theorem bNo_off {n : Nat} {cl E R : Nat → Nat → Bool} (h : ∀ a b, a ≠ b → E a b = R a b) {f : Nat} (hf : f < n) : bNo n cl E f = bNo n cl R f := by
  unfold bNo
  rw [bEnd_off h]
  cases hb : bEnd n cl R f with
  | true => rfl
  | false =>
    rw [Bool.false_or, Bool.false_or, Bool.eq_iff_iff, List.any_eq_true, List.any_eq_true]
    refine exists_congr (fun e => and_congr Iff.rfl ?_)
    rw [bEnd_off h]
    by_cases c : f = e
    · rw [← c, hb, Bool.false_and, Bool.false_and]
    · rw [h f e c]
/-- who is marked when the first m functions are done -/
def mkB (n : Nat) (cl E : Nat → Nat → Bool) (m a : Nat) : Bool := (List.range m).any (fun g => bEnd n cl E g && (decide (a = g) || E a g))
theorem mkB_n {n : Nat} {cl E : Nat → Nat → Bool} {a : Nat} (ha : a < n) : mkB n cl E n a = bNo n cl E a := by
  unfold mkB bNo
  rw [Bool.eq_iff_iff, Bool.or_eq_true, List.any_eq_true, List.any_eq_true]
  constructor
  · rintro ⟨g, hg, z⟩
    rw [Bool.and_eq_true, Bool.or_eq_true] at z
    rcases z.2 with q | q
    · exact Or.inl (by rw [of_decide_eq_true q]; exact z.1)
    · exact Or.inr ⟨g, hg, by rw [z.1, q]; rfl⟩
  · rintro (z | ⟨g, hg, z⟩)
    · exact ⟨a, List.mem_range.mpr ha, by rw [z, decide_eq_true rfl]; rfl⟩
    · rw [Bool.and_eq_true] at z
      exact ⟨g, hg, by rw [z.1, z.2, Bool.or_true]; rfl⟩
theorem mkB_s {n : Nat} {cl E : Nat → Nat → Bool} {m a : Nat} : mkB n cl E (m + 1) a = (mkB n cl E m a || (bEnd n cl E m && (decide (a = m) || E a m))) := by
  unfold mkB
  rw [List.range_succ, List.any_append]
  simp
/-- a call among the first i instructions comes back -/
def bEp (n : Nat) (E : Nat → Nat → Bool) (C : List (Int32 × Int32)) (i m : Nat) : Bool := (List.range n).any (fun h => cCal (C.take i) h && (decide (h = m) || E h m))
theorem bEp_s {n : Nat} {E : Nat → Nat → Bool} {C : List (Int32 × Int32)} {i m : Nat} {q : Int32 × Int32} (hq : C[i]? = some q) (hG : cdG n C) (hn : n ≤ 24) : bEp n E C (i + 1) m = (bEp n E C i m || (List.range n).any (fun h => decide (q = (16, nI h)) && (decide (h = m) || E h m))) := by
  unfold bEp cCal
  rw [Bool.eq_iff_iff, Bool.or_eq_true, List.any_eq_true, List.any_eq_true, List.any_eq_true]
  constructor
  · rintro ⟨h, hh, z⟩
    rw [Bool.and_eq_true, decide_eq_true_eq, mem_take_s hq] at z
    rcases z.1 with w | w
    · exact Or.inl ⟨h, hh, by rw [decide_eq_true w, z.2]; rfl⟩
    · exact Or.inr ⟨h, hh, by rw [decide_eq_true w.symm, z.2]; rfl⟩
  · rintro (⟨h, hh, z⟩ | ⟨h, hh, z⟩)
    · rw [Bool.and_eq_true, decide_eq_true_eq] at z
      exact ⟨h, hh, by rw [z.2, Bool.and_true, decide_eq_true_eq, mem_take_s hq]; exact Or.inl z.1⟩
    · rw [Bool.and_eq_true, decide_eq_true_eq] at z
      exact ⟨h, hh, by rw [z.2, Bool.and_true, decide_eq_true_eq, mem_take_s hq]; exact Or.inr z.1.symm⟩
section BO
variable {cx : gCx} {d : Nat} {ad : Nat → Nat} {t : gSt} {post : Option Value → gSt → Prop} {n wn : Nat} {fc : Nat → List (Int32 × Int32)} {fr : Nat → Nat} {E : Nat → Nat → Bool}
theorem m_bmark (hL : Lay t ad) (hn : n ≤ 24) (hw : wn ≤ 1) (hT : mTb t ad wn n fc fr) (hE : ∀ f g, f < n → g < n → t.2.1 (ad 189) (24 * f + g) = b32 (E f g)) (hB : ∀ f, f < n → t.2.1 (ad 188) (24 * wn + f) = nI (fr f)) {o3 o4 o5 o6 : Option Value} (h : ∀ u o3' o4' o5' o6', gFr ad (mbP wn) t u → (∀ f, f < n → u.2.1 (ad 188) (24 * wn + f) = if bNo n (fun f g => cCal (fc f) g) E f = true then -1 else nI (fr f)) → g_W cx (g_E cx d) mt_Mo_bounds post (437, [some (.ref (ad 144)), some (.int (nI wn)), some (.int 1), o3', o4', o5', o6', none], [], u, 0, 0)) : g_W cx (g_E cx d) mt_Mo_bounds post (261, [some (.ref (ad 144)), some (.int (nI wn)), some (.int (nI 0)), o3, o4, o5, o6, none], [], t, 0, 0) := by
  obtain ⟨cl, ecl⟩ : ∃ cl, (fun f g => cCal (fc f) g) = cl := ⟨_, rfl⟩
  have ecl' : ∀ f g, cCal (fc f) g = cl f g := fun f g => congrFun (congrFun ecl f) g
  rw [ecl] at h
  -- only the bounds change here
  have key : ∀ {u : gSt}, gFr ad (onP 188) t u → (∀ k, ¬ (24 * wn ≤ k ∧ k ≤ 24 * wn + 23) → u.2.1 (ad 188) k = t.2.1 (ad 188) k) → True := fun _ _ => trivial
  have outer : ∀ k m (u : gSt) (o3 o4 o5 o6 : Option Value), k + m = n → gFr ad (mbP wn) t u → (∀ j, u.2.1 (ad 189) j = t.2.1 (ad 189) j) → (∀ a, a < n → u.2.1 (ad 188) (24 * wn + a) = if mkB n cl E m a = true then -1 else nI (fr a)) → g_W cx (g_E cx d) mt_Mo_bounds post (261, [some (.ref (ad 144)), some (.int (nI wn)), some (.int (nI m)), o3, o4, o5, o6, none], [], u, 0, 0) := by
    intro k
    induction k with
    | zero =>
      intro m u o3 o4 o5 o6 hk hF hj hu
      have hm : m = n := by omega
      subst hm
      refine x_Mo_bounds_261 hF.L ?_
      rw [(hT.fm hF).1]
      refine ⟨fun _ => h u _ _ _ _ hF (fun f hf => ?_), fun z => absurd (nI_le (Nat.le_refl _) (by omega)) z⟩
      rw [hu f hf, mkB_n hf]
    | succ k ih =>
      intro m u o3 o4 o5 o6 hk hF hj hu
      refine x_Mo_bounds_261 hF.L ?_
      rw [(hT.fm hF).1]
      refine ⟨fun z => absurd z (nI_ge (by omega) (by omega)), fun _ x1 e1 => ?_⟩
      rw [ix24] at e1
      subst e1
      have hvx := vp_in_nI (n := 24 * wn + m) (N := 48) (by omega) (by omega)
      have inn : ∀ e i (w : gSt) (o5 o6 : Option Value), e + i = (fc m).length → gFr ad (mbP wn) t w → (∀ j, w.2.1 (ad 189) j = t.2.1 (ad 189) j) → (∀ a, a < n → w.2.1 (ad 188) (24 * wn + a) = if (mkB n cl E m a || (bEp n E (fc m) i m && (decide (a = m) || E a m))) = true then -1 else nI (fr a)) → g_W cx (g_E cx d) mt_Mo_bounds post (279, [some (.ref (ad 144)), some (.int (nI wn)), some (.int (nI m)), some (.int (nI (24 * wn + m))), some (.int (nI i)), o5, o6, none], [], w, 0, 0) := by
        intro e
        induction e with
        | zero =>
          intro i w o5 o6 he hW hjw hw'
          have hTw := hT.fm hW
          refine x_Mo_bounds_279 hW.L ?_
          rw [nI_clamp (by omega), (hTw.2.1 m (by omega)).1.1, nI_1 m]
          refine ⟨hvx, fun _ => ih (m + 1) w _ _ _ _ (by omega) hW hjw (fun a ha => ?_), fun z => absurd (nI_le (by omega) (by have := (hTw.2.1 m (by omega)).1.2.1; omega)) z⟩
          rw [hw' a ha, mkB_s]
          have : bEp n E (fc m) i m = bEnd n cl E m := by
            unfold bEp bEnd
            rw [List.take_of_length_le (by omega)]
            congr 1
            funext g
            rw [ecl']
          rw [this]
        | succ e ihe =>
          intro i w o5 o6 he hW hjw hw'
          have hTw := hT.fm hW
          obtain ⟨⟨r1, r2, r3⟩, r4⟩ := hTw.2.1 m (by omega)
          have hil : i < (fc m).length := by omega
          obtain ⟨q, hq⟩ : ∃ q, (fc m)[i]? = some q := ⟨_, List.getElem?_eq_getElem hil⟩
          obtain ⟨q1, q2⟩ := r3 i q hq
          have hmem : q ∈ fc m := List.mem_of_getElem? hq
          have hv16 : vp_in (nI (1600 * (24 * wn + m) + i)) 76800 := vp_in_nI (by omega) (by omega)
          have rE : ∀ {v : gSt}, (∀ j, v.2.1 (ad 189) j = t.2.1 (ad 189) j) → ∀ f g, f < n → g < n → v.2.1 (ad 189) (24 * f + g) = b32 (E f g) := fun hv f g hf hg => by rw [hv]; exact hE f g hf hg
          -- nothing comes back by this instruction
          have skip : ∀ (s0 : Int32) (o6 : Option Value), ((List.range n).any (fun h => decide (q = (16, nI h)) && (decide (h = m) || E h m)) = false) → g_W cx (g_E cx d) mt_Mo_bounds post (423, [some (.ref (ad 144)), some (.int (nI wn)), some (.int (nI m)), some (.int (nI (24 * wn + m))), some (.int (nI i)), some (.int s0), o6, none], [], w, 0, 0) := by
            intro s0 o6 hz
            refine x_Mo_bounds_423 hW.L ?_
            rw [nI_1]
            refine ihe (i + 1) w _ _ (by omega) hW hjw (fun a ha => ?_)
            rw [hw' a ha, bEp_s hq r4 hn, hz, Bool.or_false]
          -- it does: all that come to m are marked
          have mark : ∀ (s0 : Int32) (o6 : Option Value), ((List.range n).any (fun h => decide (q = (16, nI h)) && (decide (h = m) || E h m)) = true) → g_W cx (g_E cx d) mt_Mo_bounds post (356, [some (.ref (ad 144)), some (.int (nI wn)), some (.int (nI m)), some (.int (nI (24 * wn + m))), some (.int (nI i)), some (.int s0), o6, none], [], w, 0, 0) := by
            intro s0 o6 hz
            refine x_Mo_bounds_356 hW.L ?_
            have lp : ∀ c b (v : gSt), c + b = n → gFr ad (mbP wn) t v → (∀ j, v.2.1 (ad 189) j = t.2.1 (ad 189) j) → (∀ a, a < n → v.2.1 (ad 188) (24 * wn + a) = if (mkB n cl E m a || ((bEp n E (fc m) i m || decide (a < b)) && (decide (a = m) || E a m))) = true then -1 else nI (fr a)) → g_W cx (g_E cx d) mt_Mo_bounds post (359, [some (.ref (ad 144)), some (.int (nI wn)), some (.int (nI m)), some (.int (nI (24 * wn + m))), some (.int (nI i)), some (.int s0), some (.int (nI b)), none], [], v, 0, 0) := by
              intro c
              induction c with
              | zero =>
                intro b v hc hV hjv hv
                refine x_Mo_bounds_359 hV.L ?_
                rw [(hT.fm hV).1]
                refine ⟨fun _ => ?_, fun z => absurd (nI_le (by omega) (by omega)) z⟩
                refine x_Mo_bounds_423 hV.L ?_
                rw [nI_1]
                refine ihe (i + 1) v _ _ (by omega) hV hjv (fun a ha => ?_)
                rw [hv a ha, bEp_s hq r4 hn, hz, Bool.or_true, decide_eq_true (show a < b by omega), Bool.or_true]
              | succ c ihc =>
                intro b v hc hV hjv hv
                have hvb := vp_in_nI (n := 24 * wn + b) (N := 48) (by omega) (by omega)
                have put : ∀ (x : Int32), x = (if (mkB n cl E m b || (decide (b = m) || E b m)) = true then -1 else v.2.1 (ad 188) (24 * wn + b)) → g_W cx (g_E cx d) mt_Mo_bounds post (416, [some (.ref (ad 144)), some (.int (nI wn)), some (.int (nI m)), some (.int (nI (24 * wn + m))), some (.int (nI i)), some (.int s0), some (.int (nI b)), none], [.int x, .int (nI (24 * wn + b)), .ref (ad 188)], v, 0, 0) := by
                  intro x ex
                  refine x_Mo_bounds_416 hV.L ⟨hvb, fun t1 e1 => ?_⟩
                  rw [nI_clamp (by omega)] at e1
                  rw [nI_1]
                  refine ihc (b + 1) t1 (by omega) (by rw [e1]; exact hV.si (mbP_t (by omega))) (fun j => by rw [e1, g_rd_ne (hL.ne 189 188 (by decide) (by decide) (by decide))]; exact hjv j) (fun a ha => ?_)
                  rw [e1]
                  by_cases ca : a = b
                  · subst ca
                    rw [g_rd_at, ex, hv a ha, decide_eq_true (Nat.lt_succ_self a), Bool.or_true, Bool.true_and, decide_eq_false (Nat.lt_irrefl a), Bool.or_false]
                    cases mkB n cl E m a <;> cases (decide (a = m) || E a m) <;> cases bEp n E (fc m) i m <;> rfl
                  · rw [g_rd_k (by omega), hv a ha]
                    by_cases cb : a < b
                    · rw [decide_eq_true cb, decide_eq_true (show a < b + 1 by omega)]
                    · rw [decide_eq_false cb, decide_eq_false (show ¬ a < b + 1 by omega)]
                refine x_Mo_bounds_359 hV.L ?_
                rw [(hT.fm hV).1, ix24, ix24, nI_clamp (n := 24 * b + m) (by omega), rE hjv b m (by omega) (by omega), nI_clamp (n := 24 * wn + b) (by omega), nI_eq (by omega) (by omega)]
                refine ⟨fun z => absurd z (nI_ge (by omega) (by omega)), fun _ => ⟨fun z => x_Mo_bounds_400 hV.L (put _ ?_), fun z => ⟨vp_in_nI (by omega) (by omega), fun z2 => ⟨hvb, put _ ?_⟩, fun z2 => x_Mo_bounds_400 hV.L (put _ ?_)⟩⟩⟩
                · rw [decide_eq_true z, Bool.true_or, Bool.or_true, if_pos rfl]
                · rw [decide_eq_false z, b32_0.mp z2, Bool.or_false, Bool.or_false]
                  cases hmk : mkB n cl E m b with
                  | false => rfl
                  | true =>
                    rw [if_pos rfl, hv b (by omega), hmk, Bool.true_or, if_pos rfl]
                · have : E b m = true := by
                    cases e2 : E b m with
                    | true => rfl
                    | false => rw [e2] at z2; exact absurd rfl z2
                  rw [this, Bool.or_true, Bool.or_true, if_pos rfl]
            refine lp n 0 w (by omega) hW hjw (fun a ha => ?_)
            rw [hw' a ha, decide_eq_false (Nat.not_lt_zero a), Bool.or_false]
          refine x_Mo_bounds_279 hW.L ?_
          rw [nI_clamp (n := 24 * wn + m) (by omega), r1, ix16, nI_clamp (n := 1600 * (24 * wn + m) + i) (by omega), q1, q2]
          refine ⟨hvx, fun z => absurd z (nI_ge (by omega) (by omega)), fun _ => ⟨hv16, fun c => ?_, fun c => ⟨hv16, ?_⟩⟩⟩
          · refine x_Mo_bounds_325 hW.L ⟨fun _ => skip _ _ ?_, fun z => absurd (by decide) z⟩
            rw [List.any_eq_false]
            intro g hg
            rw [decide_eq_false (fun z => c (by rw [z])), Bool.false_and]
            decide
          · have c := Classical.not_not.mp c
            obtain ⟨g0, hg0, eg0⟩ := r4 q hmem (Or.inl c)
            rw [eg0]
            have uniq : ∀ g, g < n → q = (16, nI g) → g = g0 := fun g hg z => by
              have := congrArg (·.2) z
              rw [eg0] at this
              exact ((nI_eq (by omega) (by omega)).mp this).symm
            have eq0 : q = (16, nI g0) := Prod.ext c eg0
            refine x_Mo_bounds_325 hW.L ?_
            rw [ix24, nI_clamp (by omega), rE hjw g0 m (by omega) (by omega), nI_eq (by omega) (by omega)]
            refine ⟨fun z => absurd z (nI_pos (by omega)), fun _ => ⟨fun z => mark _ _ ?_, fun z => ⟨vp_in_nI (by omega) (by omega), fun z2 => mark _ _ ?_, fun z2 => skip _ _ ?_⟩⟩⟩
            · rw [List.any_eq_true]
              exact ⟨g0, List.mem_range.mpr hg0, by rw [decide_eq_true eq0, decide_eq_true z]; rfl⟩
            · rw [List.any_eq_true]
              have : E g0 m = true := by
                cases e2 : E g0 m with
                | true => rfl
                | false => rw [e2] at z2; exact absurd rfl z2
              exact ⟨g0, List.mem_range.mpr hg0, by rw [decide_eq_true eq0, this, Bool.or_true]; rfl⟩
            · have z2 := b32_0.mp (Classical.not_not.mp z2)
              rw [List.any_eq_false]
              intro g hg hh
              rw [Bool.and_eq_true, decide_eq_true_eq] at hh
              have := uniq g (List.mem_range.mp hg) hh.1
              rw [this, decide_eq_false z, z2] at hh
              cases hh.2
      refine inn (fc m).length 0 u _ _ (by omega) hF hj (fun a ha => ?_)
      rw [hu a ha]
      have : bEp n E (fc m) 0 m = false := by
        unfold bEp
        rw [List.any_eq_false]
        intro g _
        unfold cCal
        simp
      rw [this, Bool.false_and, Bool.or_false]
  refine outer n 0 t _ _ _ _ (by omega) (gFr.rf hL) (fun _ => rfl) (fun a ha => ?_)
  rw [hB a ha]
  rfl
end BO
