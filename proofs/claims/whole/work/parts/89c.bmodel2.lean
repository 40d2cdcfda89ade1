/-! THE MODEL'S BOUNDS: its steps; those without a bound -/
section BN
variable {cx : gCx} {d : Nat} {ad : Nat → Nat} {t : gSt} {post : Option Value → gSt → Prop} {n wn : Nat} {fc : Nat → List (Int32 × Int32)} {fr : Nat → Nat}
/-- what the bounds read in the model -/
def mTb (t : gSt) (ad : Nat → Nat) (wn n : Nat) (fc : Nat → List (Int32 × Int32)) (fr : Nat → Nat) : Prop := t.2.1 (ad 144) 11 = nI n ∧ (∀ f, f < n → RMc t ad (24 * wn + f) (fc f) ∧ cdG n (fc f)) ∧ ∀ f, f < n → ∃ s w, t.2.1 (ad 185) (24 * wn + f) = nI s ∧ t.2.1 (ad 186) (24 * wn + f) = nI w ∧ fr f = 2 + s + w
theorem mTb.fm {u : gSt} (h : mTb t ad wn n fc fr) (hF : gFr ad (mbP wn) t u) : mTb u ad wn n fc fr := by
  obtain ⟨h1, h2, h3⟩ := h
  have o : ∀ c, c < 188 → u.2.1 (ad c) = t.2.1 (ad c) := fun c hc => funext (fun k => hF.i c k (mbP_r (by omega)) (by omega))
  refine ⟨by rw [o 144 (by decide)]; exact h1, fun f hf => ?_, fun f hf => by rw [o 185 (by decide), o 186 (by decide)]; exact h3 f hf⟩
  unfold RMc
  rw [o 184 (by decide), o 182 (by decide), o 183 (by decide)]
  exact h2 f hf
theorem m_mframe {f : Nat} (hL : Lay t ad) (hn : n ≤ 24) (hw : wn ≤ 1) (hT : mTb t ad wn n fc fr) (hf : f < n) (h : post (some (.int (nI (fr f)))) t) : g_E cx (d + 1) i_Mo_frame [.ref (ad 144), .int (nI (24 * wn + f))] t post := by
  obtain ⟨s, w, e1, e2, e3⟩ := hT.2.2 f hf
  have hv := vp_in_nI (n := 24 * wn + f) (N := 48) (by omega) (by omega)
  refine x_Mo_frame hL ⟨hv, hv, ?_⟩
  rw [nI_clamp (by omega), e1, e2, show (2 : Int32) = nI 2 from rfl, nI_add, nI_add, ← e3]
  exact h
theorem cEdg_s {C : List (Int32 × Int32)} {i f g : Nat} {q : Int32 × Int32} (h : C[i]? = some q) : cEdg (C.take (i + 1)) f g = (cEdg (C.take i) f g || (decide (q = (16, nI g)) || decide (q = (19, nI g)) || (decide (g = f) && decide (q.1 = 18)))) := by
  unfold cEdg cCal cTal
  rw [Bool.eq_iff_iff]
  simp only [Bool.or_eq_true, Bool.and_eq_true, decide_eq_true_eq, mem_take_s h]
  constructor
  · rintro (((z | z) | (z | z)) | ⟨z1, q', z2, z3⟩)
    · exact Or.inl (Or.inl (Or.inl z))
    · exact Or.inr (Or.inl (Or.inl z.symm))
    · exact Or.inl (Or.inl (Or.inr z))
    · exact Or.inr (Or.inl (Or.inr z.symm))
    · rcases z2 with z2 | z2
      · exact Or.inl (Or.inr ⟨z1, q', z2, z3⟩)
      · exact Or.inr (Or.inr ⟨z1, by rw [← z2]; exact z3⟩)
  · rintro (((z | z) | ⟨z1, q', z2, z3⟩) | ((z | z) | ⟨z1, z2⟩))
    · exact Or.inl (Or.inl (Or.inl z))
    · exact Or.inl (Or.inr (Or.inl z))
    · exact Or.inr ⟨z1, q', Or.inl z2, z3⟩
    · exact Or.inl (Or.inl (Or.inr z.symm))
    · exact Or.inl (Or.inr (Or.inr z.symm))
    · exact Or.inr ⟨z1, q, Or.inr rfl, z2⟩
theorem m_bedges (hL : Lay t ad) (hn : n ≤ 24) (hw : wn ≤ 1) (hT : mTb t ad wn n fc fr) (h : ∀ u o3' o4' o5', gFr ad (mbP wn) t u → (∀ f g, f < n → g < n → u.2.1 (ad 189) (24 * f + g) = b32 (cEdg (fc f) f g)) → (∀ f, f < n → u.2.1 (ad 188) (24 * wn + f) = nI (fr f)) → g_W cx (g_E cx (d + 1)) mt_Mo_bounds post (150, [some (.ref (ad 144)), some (.int (nI wn)), some (.int (nI 0)), o3', o4', o5', none, none], [], u, 0, 0)) : g_E cx (d + 2) i_Mo_bounds [.ref (ad 144), .int (nI wn)] t post := by
  have b0 : vp_nar .boolean 0 = 0 := by decide
  have b1 : vp_nar .boolean 1 = 1 := by decide
  refine x_Mo_bounds hL ?_
  have second : ∀ k m (u : gSt) (o3 o4 o5 : Option Value), k + m = n → gFr ad (mbP wn) t u → (∀ f g, f < n → g < n → u.2.1 (ad 189) (24 * f + g) = b32 (decide (f < m) && cEdg (fc f) f g)) → (∀ f, f < m → u.2.1 (ad 188) (24 * wn + f) = nI (fr f)) → g_W cx (g_E cx (d + 1)) mt_Mo_bounds post (24, [some (.ref (ad 144)), some (.int (nI wn)), some (.int (nI m)), o3, o4, o5, none, none], [], u, 0, 0) := by
    intro k
    induction k with
    | zero =>
      intro m u o3 o4 o5 hk hF hu hb
      have hm : m = n := by omega
      subst hm
      refine x_Mo_bounds_24 hF.L ?_
      rw [(hT.fm hF).1]
      exact ⟨fun _ => h u _ _ _ hF (fun f g hf hg => by rw [hu f g hf hg, decide_eq_true hf, Bool.true_and]) hb, fun z => absurd (nI_le (Nat.le_refl _) (by omega)) z⟩
    | succ k ih =>
      intro m u o3 o4 o5 hk hF hu hb
      refine x_Mo_bounds_24 hF.L ?_
      rw [(hT.fm hF).1]
      refine ⟨fun z => absurd z (nI_ge (by omega) (by omega)), fun _ x1 e1 => ?_⟩
      rw [ix24] at e1
      subst e1
      have hvx := vp_in_nI (n := 24 * wn + m) (N := 48) (by omega) (by omega)
      have inn : ∀ e i (w : gSt) (o5 : Option Value), e + i = (fc m).length → gFr ad (mbP wn) t w → (∀ f g, f < n → g < n → w.2.1 (ad 189) (24 * f + g) = b32 (if f = m then cEdg ((fc m).take i) m g else (decide (f < m) && cEdg (fc f) f g))) → (∀ f, f < m → w.2.1 (ad 188) (24 * wn + f) = nI (fr f)) → g_W cx (g_E cx (d + 1)) mt_Mo_bounds post (42, [some (.ref (ad 144)), some (.int (nI wn)), some (.int (nI m)), some (.int (nI (24 * wn + m))), some (.int (nI i)), o5, none, none], [], w, 0, 0) := by
        intro e
        induction e with
        | zero =>
          intro i w o5 he hW hw' hbw
          have hTw := hT.fm hW
          refine x_Mo_bounds_42 hW.L ?_
          rw [nI_clamp (by omega), (hTw.2.1 m (by omega)).1.1, nI_1 m]
          refine ⟨hvx, fun _ => m_mframe hW.L hn hw hTw (by omega) ⟨_, rfl, hW.L, hvx, fun t3 e3 => ?_⟩, fun z => absurd (nI_le (by omega) (by have := (hTw.2.1 m (by omega)).1.2.1; omega)) z⟩
          refine ih (m + 1) t3 _ _ _ (by omega) (by rw [e3]; exact hW.si (mbP_t (by omega))) (fun f g hf hg => ?_) (fun f hf => ?_)
          · rw [e3, g_rd_ne (hL.ne 189 188 (by decide) (by decide) (by decide)), hw' f g hf hg]
            congr 1
            by_cases c : f = m
            · subst c
              rw [if_pos rfl, decide_eq_true (Nat.lt_succ_self f), Bool.true_and, List.take_of_length_le (by omega)]
            · rw [if_neg c]
              by_cases c2 : f < m
              · rw [decide_eq_true c2, decide_eq_true (show f < m + 1 by omega)]
              · rw [decide_eq_false c2, decide_eq_false (show ¬ f < m + 1 by omega)]
          · rw [e3]
            by_cases c : f = m
            · subst c; rw [g_rd_at]
            · rw [g_rd_k (by omega)]; exact hbw f (by omega)
        | succ e ihe =>
          intro i w o5 he hW hw' hbw
          have hTw := hT.fm hW
          obtain ⟨⟨r1, r2, r3⟩, r4⟩ := hTw.2.1 m (by omega)
          have hil : i < (fc m).length := by omega
          obtain ⟨q, hq⟩ : ∃ q, (fc m)[i]? = some q := ⟨_, List.getElem?_eq_getElem hil⟩
          obtain ⟨q1, q2⟩ := r3 i q hq
          have hmem : q ∈ fc m := List.mem_of_getElem? hq
          have hv16 : vp_in (nI (1600 * (24 * wn + m) + i)) 76800 := vp_in_nI (by omega) (by omega)
          have next : ∀ (v : gSt), gFr ad (mbP wn) t v → (∀ f g, f < n → g < n → v.2.1 (ad 189) (24 * f + g) = b32 (if f = m then cEdg ((fc m).take (i + 1)) m g else (decide (f < m) && cEdg (fc f) f g))) → (∀ f, f < m → v.2.1 (ad 188) (24 * wn + f) = nI (fr f)) → g_W cx (g_E cx (d + 1)) mt_Mo_bounds post (125, [some (.ref (ad 144)), some (.int (nI wn)), some (.int (nI m)), some (.int (nI (24 * wn + m))), some (.int (nI i)), some (.int q.1), none, none], [], v, 0, 0) := by
            intro v hV hv' hbv
            refine x_Mo_bounds_125 hV.L ?_
            rw [nI_1]
            exact ihe (i + 1) v _ (by omega) hV hv' hbv
          -- the loop's own step
          have own : ∀ (v : gSt), ¬ (q.1 = 16 ∨ q.1 = 19) → gFr ad (mbP wn) t v → (∀ f g, f < n → g < n → v.2.1 (ad 189) (24 * f + g) = b32 (if f = m then cEdg ((fc m).take i) m g else (decide (f < m) && cEdg (fc f) f g))) → (∀ f, f < m → v.2.1 (ad 188) (24 * wn + f) = nI (fr f)) → g_W cx (g_E cx (d + 1)) mt_Mo_bounds post (106, [some (.ref (ad 144)), some (.int (nI wn)), some (.int (nI m)), some (.int (nI (24 * wn + m))), some (.int (nI i)), some (.int q.1), none, none], [], v, 0, 0) := by
            intro v hk hV hv' hbv
            have hk16 : ∀ g, decide (q = (16, nI g)) = false := fun g => decide_eq_false (fun z => hk (Or.inl (by rw [z])))
            have hk19 : ∀ g, decide (q = (19, nI g)) = false := fun g => decide_eq_false (fun z => hk (Or.inr (by rw [z])))
            refine x_Mo_bounds_106 hV.L ?_
            rw [ix24]
            refine ⟨fun c => next v hV (fun f g hf hg => ?_) hbv, fun c => ⟨vp_in_nI (by omega) (by omega), fun t1 e1 => ?_⟩⟩
            · rw [hv' f g hf hg]
              congr 1
              by_cases z : f = m
              · rw [if_pos z, if_pos z, cEdg_s hq, hk16, hk19, decide_eq_false c, Bool.and_false]
                simp
              · rw [if_neg z, if_neg z]
            · have c := Classical.not_not.mp c
              rw [nI_clamp (by omega), b1] at e1
              refine next t1 (by rw [e1]; exact hV.si (mbP_t (by omega))) (fun f g hf hg => ?_) (fun f hf => by rw [e1, g_rd_ne (hL.ne 188 189 (by decide) (by decide) (by decide))]; exact hbv f hf)
              rw [e1]
              by_cases z : f = m
              · subst z
                rw [if_pos rfl, cEdg_s hq, hk16, hk19, decide_eq_true c, Bool.and_true]
                by_cases z2 : g = f
                · subst z2
                  rw [g_rd_at, decide_eq_true rfl]
                  simp
                · rw [g_rd_k (by omega), hv' f g hf hg, if_pos rfl, decide_eq_false z2]
                  simp
              · rw [if_neg z, g_rd_k (by omega), hv' f g hf hg, if_neg z]
          have call : ∀ g0, g0 < n → q.2 = nI g0 → (q.1 = 16 ∨ q.1 = 19) → g_W cx (g_E cx (d + 1)) mt_Mo_bounds post (82, [some (.ref (ad 144)), some (.int (nI wn)), some (.int (nI m)), some (.int (nI (24 * wn + m))), some (.int (nI i)), some (.int q.1), none, none], [], w, 0, 0) := by
            intro g0 hg0 eg0 hkk
            have q18 : ¬ q.1 = 18 := by rcases hkk with z | z <;> rw [z] <;> decide
            refine x_Mo_bounds_82 hW.L ?_
            rw [ix16, nI_clamp (by omega), q2, eg0, ix24]
            refine ⟨hv16, vp_in_nI (by omega) (by omega), fun t1 e1 => ?_⟩
            rw [nI_clamp (by omega), b1] at e1
            have F1 : gFr ad (mbP wn) t t1 := by rw [e1]; exact hW.si (mbP_t (by omega))
            refine x_Mo_bounds_106 F1.L ⟨fun _ => next t1 F1 (fun f g hf hg => ?_) (fun f hf => by rw [e1, g_rd_ne (hL.ne 188 189 (by decide) (by decide) (by decide))]; exact hbw f hf), fun c => absurd q18 c⟩
            rw [e1]
            by_cases z : f = m
            · subst z
              rw [if_pos rfl, cEdg_s hq, decide_eq_false q18, Bool.and_false]
              by_cases z2 : g = g0
              · subst z2
                rw [g_rd_at]
                have : (decide (q = (16, nI g)) || decide (q = (19, nI g))) = true := by
                  rw [← Bool.decide_or]
                  refine decide_eq_true ?_
                  exact hkk.imp (fun hz => Prod.ext hz eg0) (fun hz => Prod.ext hz eg0)
                rw [this]
                simp
              · have hne : ¬ q.2 = nI g := fun z3 => z2 (by rw [eg0] at z3; exact ((nI_eq (by omega) (by omega)).mp z3).symm)
                rw [g_rd_k (by omega), hw' f g hf hg, if_pos rfl, decide_eq_false (fun z3 => hne (by rw [z3])), decide_eq_false (fun z3 => hne (by rw [z3]))]
                simp
            · rw [if_neg z, g_rd_k (by omega), hw' f g hf hg, if_neg z]
          refine x_Mo_bounds_42 hW.L ?_
          rw [nI_clamp (n := 24 * wn + m) (by omega), r1, ix16, nI_clamp (n := 1600 * (24 * wn + m) + i) (by omega), q1]
          refine ⟨hvx, fun z => absurd z (nI_ge (by omega) (by omega)), fun _ => ⟨hv16, fun x4 e4 => ?_⟩⟩
          subst e4
          refine ⟨fun c => ?_, fun c => ⟨fun c2 => own w (fun z => z.elim c c2) hW hw' hbw, fun c2 => ?_⟩⟩
          · obtain ⟨g0, hg0, eg0⟩ := r4 q hmem (Or.inl c)
            exact call g0 hg0 eg0 (Or.inl c)
          · obtain ⟨g0, hg0, eg0⟩ := r4 q hmem (Or.inr (Classical.not_not.mp c2))
            exact call g0 hg0 eg0 (Or.inr (Classical.not_not.mp c2))
      refine inn (fc m).length 0 u _ (by omega) hF (fun f g hf hg => ?_) hb
      rw [hu f g hf hg]
      congr 1
      by_cases c : f = m
      · subst c
        rw [if_pos rfl, decide_eq_false (Nat.lt_irrefl f), Bool.false_and, List.take_zero]
        unfold cEdg cCal cTal
        simp
      · rw [if_neg c]
  have first : ∀ k i (u : gSt), k + i = 576 → gFr ad (mbP wn) t u → (∀ j, j < i → u.2.1 (ad 189) j = 0) → g_W cx (g_E cx (d + 1)) mt_Mo_bounds post (2, [some (.ref (ad 144)), some (.int (nI wn)), some (.int (nI i)), none, none, none, none, none], [], u, 0, 0) := by
    intro k
    induction k with
    | zero =>
      intro i u hk hF hu
      refine x_Mo_bounds_2 hF.L ⟨fun _ => ?_, fun z => ?_⟩
      · exact second n 0 u _ _ _ (by omega) hF (fun f g hf hg => by rw [hu _ (by omega), decide_eq_false (by omega), Bool.false_and]; rfl) (fun f hf => by omega)
      · rw [show (576 : Int32) = nI 576 from rfl, nI_leI (by omega) (by omega)] at z
        omega
    | succ k ih =>
      intro i u hk hF hu
      refine x_Mo_bounds_2 hF.L ⟨fun z => ?_, fun _ => ⟨vp_in_nI (by omega) (by omega), fun t1 e1 => ?_⟩⟩
      · rw [show (576 : Int32) = nI 576 from rfl, nI_leI (by omega) (by omega)] at z
        omega
      · rw [nI_clamp (by omega), b0] at e1
        rw [nI_1]
        refine ih (i + 1) t1 (by omega) (by rw [e1]; exact hF.si (mbP_t (by omega))) (fun j hj => ?_)
        rw [e1]
        by_cases c : j = i
        · subst c; rw [g_rd_at]
        · rw [g_rd_k c]; exact hu j (by omega)
  exact first 576 0 t (by decide) (gFr.rf hL) (fun j hj => by omega)
end BN
