/-! THE GRAPH: the model's direct calls and their closure -/
section MI
variable {cx : gCx} {d : Nat} {ad : Nat → Nat} {t : gSt} {post : Option Value → gSt → Prop} {n : Nat} {nd : Nat → List (Int32 × Int32)}
theorem dirL_take {l : List (Int32 × Int32)} {k g : Nat} (hk : k < l.length) : dirL (l.take (k + 1)) g = (dirL (l.take k) g || decide (l[k] = (15, nI g))) := by
  unfold dirL
  rw [List.take_add_one, List.getElem?_eq_getElem hk, ← Bool.decide_or, decide_eq_decide]
  simp only [Option.toList, List.mem_append, List.mem_singleton]
  exact ⟨fun h => h.elim Or.inl (fun e => Or.inr e.symm), fun h => h.elim Or.inl (fun e => Or.inr e.symm)⟩
theorem m_direct (hL : Lay t ad) (hn : n ≤ 24) (hf : t.2.1 (ad 144) 11 = nI n) (hN : ∀ g, g < n → nodR t ad g (nd g) ∧ ∀ q ∈ nd g, q.1 = 15 → ∃ h, q.2 = nI h ∧ h < n)
    (h : ∀ u o2 o3, gFr ad mgP t u → (∀ c k, (c < 171 ∨ 174 < c) → c ≠ 144 → c < 199 → u.2.1 (ad c) k = t.2.1 (ad c) k) → u.2.1 (ad 144) 50 = 0 → (∀ f, f < n → u.2.1 (ad 174) f = 0) → (∀ f g, f < n → g < n → u.2.1 (ad 172) (24 * f + g) = b32 (dirL (nd f) g)) → (∀ f g, f < n → g < n → u.2.1 (ad 171) (24 * f + g) = b32 (clF (fun f g => dirL (nd f) g) n f g)) → g_W cx (g_E cx d) mt_Mo_findGraph post (243, [some (.ref (ad 144)), some (.int 0), o2, o3], [], u, 0, 0)) : g_E cx (d + 1) i_Mo_findGraph [.ref (ad 144)] t post := by
  have b0 : vp_nar .boolean 0 = 0 := by decide
  have b1 : vp_nar .boolean 1 = 1 := by decide
  refine x_Mo_findGraph hL ?_
  -- behind the rows: the copy, then the closure
  have loopC : ∀ k i (u : gSt) (o2 : Option Value), k + i = 576 → gFr ad mgP t u → (∀ c k, (c < 171 ∨ 174 < c) → c < 199 → u.2.1 (ad c) k = t.2.1 (ad c) k) → (∀ f, f < n → u.2.1 (ad 174) f = 0) → (∀ f g, f < n → g < n → u.2.1 (ad 172) (24 * f + g) = b32 (dirL (nd f) g)) → (∀ f g, f < n → g < n → 24 * f + g < i → u.2.1 (ad 171) (24 * f + g) = b32 (dirL (nd f) g)) → (∀ j, j < 576 → ∃ b, u.2.1 (ad 172) j = b32 b) → g_W cx (g_E cx d) mt_Mo_findGraph post (105, [some (.ref (ad 144)), some (.int (nI i)), o2, none], [], u, 0, 0) := by
    intro k
    induction k with
    | zero =>
      intro i u o2 hk hF ho h4 h2 h1 hb
      refine x_Mo_findGraph_105 hF.L ⟨fun _ => ?_, fun z => ?_⟩
      · refine m_close (R := fun f g => dirL (nd f) g) hF.L hn (by rw [ho 144 11 (by decide) (by decide)]; exact hf) (fun f g hf hg => h1 f g hf hg (by omega)) (fun w o2' o3' FW oW w50 w1 => h w _ _ (hF.tr FW) (fun c k hc h4 hl => by rw [oW c k (by omega) h4 hl, ho c k hc hl]) w50 (fun f hf => by rw [oW 174 f (by decide) (by decide) (by decide)]; exact h4 f hf) (fun f g hf hg => by rw [oW 172 _ (by decide) (by decide) (by decide)]; exact h2 f g hf hg) w1)
      · rw [show (576 : Int32) = nI 576 from rfl, nI_leI (by omega) (by omega)] at z
        omega
    | succ k ih =>
      intro i u o2 hk hF ho h4 h2 h1 hb
      have hv := vp_in_nI (n := i) (N := 576) (by omega) (by omega)
      refine x_Mo_findGraph_105 hF.L ⟨fun z => ?_, fun _ => ⟨hv, hv, fun t1 e1 => ?_⟩⟩
      · rw [show (576 : Int32) = nI 576 from rfl, nI_leI (by omega) (by omega)] at z
        omega
      · obtain ⟨b, eb⟩ := hb i (by omega)
        rw [nI_clamp (by omega), eb, nar_b] at e1
        have o1 : ∀ c k, c ≠ 171 → c < 199 → t1.2.1 (ad c) k = u.2.1 (ad c) k := fun c k hc hl => by rw [e1, g_rd_ne (hL.ne c 171 hl (by decide) hc)]
        rw [nI_1]
        refine ih (i + 1) t1 o2 (by omega) (by rw [e1]; exact hF.si (mgP_t (by omega))) (fun c k hc hl => by rw [o1 c k (by omega) hl, ho c k hc hl]) (fun f hf => by rw [o1 174 f (by decide) (by decide)]; exact h4 f hf) (fun f g hf hg => by rw [o1 172 _ (by decide) (by decide)]; exact h2 f g hf hg) (fun f g hf hg hlt => ?_) (fun j hj => by rw [o1 172 j (by decide) (by decide)]; exact hb j hj)
        rw [e1]
        by_cases c : 24 * f + g = i
        · rw [← c, g_rd_at]
          rw [← c, h2 f g hf hg] at eb
          exact eb.symm
        · rw [g_rd_k c]
          exact h1 f g hf hg (by omega)
  -- the nodes of each function
  have loopB : ∀ k m (u : gSt) (o2 : Option Value), k + m = n → gFr ad mgP t u → (∀ c k, (c < 171 ∨ 174 < c) → c < 199 → u.2.1 (ad c) k = t.2.1 (ad c) k) → (∀ f, f < m → u.2.1 (ad 174) f = 0) → (∀ f g, f < n → g < n → u.2.1 (ad 172) (24 * f + g) = b32 (decide (f < m) && dirL (nd f) g)) → (∀ j, j < 576 → ∃ b, u.2.1 (ad 172) j = b32 b) → g_W cx (g_E cx d) mt_Mo_findGraph post (24, [some (.ref (ad 144)), some (.int (nI m)), o2, none], [], u, 0, 0) := by
    intro k
    induction k with
    | zero =>
      intro m u o2 hk hF ho h4 h2 hb
      refine x_Mo_findGraph_24 hF.L ?_
      rw [ho 144 11 (by decide) (by decide), hf]
      refine ⟨fun _ => ?_, fun z => absurd (nI_le (by omega) (by omega)) z⟩
      exact loopC 576 0 u _ (by decide) hF ho (fun f hf => h4 f (by omega)) (fun f g hf hg => by rw [h2 f g hf hg, decide_eq_true (by omega), Bool.true_and]) (fun f g _ _ z => absurd z (by omega)) hb
    | succ k ih =>
      intro m u o2 hk hF ho h4 h2 hb
      obtain ⟨⟨c1, c2, c3⟩, c4⟩ := hN m (by omega)
      refine x_Mo_findGraph_24 hF.L ?_
      rw [ho 144 11 (by decide) (by decide), hf]
      refine ⟨fun z => absurd z (nI_ge (by omega) (by omega)), fun _ => ⟨vp_in_nI (by omega) (by omega), fun t1 e1 => ?_⟩⟩
      rw [nI_clamp (by omega), b0] at e1
      have o1 : ∀ c k, c ≠ 174 → c < 199 → t1.2.1 (ad c) k = u.2.1 (ad c) k := fun c k hc hl => by rw [e1, g_rd_ne (hL.ne c 174 hl (by decide) hc)]
      have inn : ∀ e i (w : gSt), e + i = (nd m).length → gFr ad mgP t w → (∀ c k, (c < 171 ∨ 174 < c) → c < 199 → w.2.1 (ad c) k = t.2.1 (ad c) k) → (∀ f, f < m + 1 → w.2.1 (ad 174) f = 0) → (∀ f g, f < n → g < n → w.2.1 (ad 172) (24 * f + g) = b32 (if f = m then dirL ((nd m).take i) g else (decide (f < m) && dirL (nd f) g))) → (∀ j, j < 576 → ∃ b, w.2.1 (ad 172) j = b32 b) → g_W cx (g_E cx d) mt_Mo_findGraph post (41, [some (.ref (ad 144)), some (.int (nI m)), some (.int (nI i)), none], [], w, 0, 0) := by
        intro e
        induction e with
        | zero =>
          intro i w he hW hoW w4 w2 wb
          refine x_Mo_findGraph_41 hW.L ⟨vp_in_nI (by omega) (by omega), ?_⟩
          rw [nI_clamp (n := m) (by omega), hoW 148 m (by decide) (by decide), c1, nI_1 m]
          refine ⟨fun _ => ih (m + 1) w _ (by omega) hW hoW w4 (fun f g hf hg => ?_) wb, fun z => absurd (nI_le (by omega) (by omega)) z⟩
          rw [w2 f g hf hg]
          congr 1
          by_cases c : f = m
          · subst c
            rw [if_pos rfl, List.take_of_length_le (by omega), decide_eq_true (by omega), Bool.true_and]
          · rw [if_neg c, show decide (f < m + 1) = decide (f < m) from by rw [decide_eq_decide]; omega]
        | succ e ihe =>
          intro i w he hW hoW w4 w2 wb
          have hil : i < (nd m).length := by omega
          obtain ⟨q1, q2⟩ := c3 i _ (List.getElem?_eq_getElem hil)
          have hv1 : vp_in (nI (1300 * m + i)) 93600 := vp_in_nI (by omega) (by omega)
          refine x_Mo_findGraph_41 hW.L ⟨vp_in_nI (by omega) (by omega), ?_⟩
          rw [nI_clamp (n := m) (by omega), hoW 148 m (by decide) (by decide), c1, show (1300 : Int32) = nI 1300 from rfl, nI_mul, nI_add, nI_clamp (n := 1300 * m + i) (by omega), hoW 151 _ (by decide) (by decide), hoW 154 _ (by decide) (by decide), q1, nI_1 i]
          refine ⟨fun z => absurd z (nI_ge hil (by omega)), fun _ => ⟨hv1, fun ck => ?_, fun ck => ?_⟩⟩
          · refine ihe (i + 1) w (by omega) hW hoW w4 (fun f g hf hg => ?_) wb
            rw [w2 f g hf hg]
            congr 1
            by_cases c : f = m
            · rw [if_pos c, if_pos c, dirL_take hil, decide_eq_false (fun z => ck (by rw [z])), Bool.or_false]
            · rw [if_neg c, if_neg c]
          · have ck := Classical.not_not.mp ck
            obtain ⟨g0, eg, hg0⟩ := c4 _ (List.getElem_mem hil) ck
            rw [q2 ck, eg, show (24 : Int32) = nI 24 from rfl, nI_mul, nI_add, nI_clamp (n := 24 * m + g0) (by omega), b1]
            refine ⟨hv1, vp_in_nI (by omega) (by omega), fun t2 e2 => ?_⟩
            refine ihe (i + 1) t2 (by omega) (by rw [e2]; exact hW.si (mgP_t (by omega))) (fun c k hc hl => by rw [e2, g_rd_ne (hL.ne c 172 hl (by decide) (by omega)), hoW c k hc hl]) (fun f hf => by rw [e2, g_rd_ne (hL.ne 174 172 (by decide) (by decide) (by decide))]; exact w4 f hf) (fun f g hf hg => ?_) (fun j hj => ?_)
            · have el : (nd m)[i] = (15, nI g0) := Prod.ext ck eg
              rw [e2]
              by_cases c : f = m ∧ g = g0
              · obtain ⟨rfl, rfl⟩ := c
                rw [g_rd_at, if_pos rfl, dirL_take hil, decide_eq_true el, Bool.or_true]
                rfl
              · rw [g_rd_k (by omega), w2 f g hf hg]
                congr 1
                by_cases c' : f = m
                · rw [if_pos c', if_pos c', dirL_take hil, decide_eq_false (fun z => ?_), Bool.or_false]
                  rw [el] at z
                  have := (nI_eq (by omega) (by omega)).mp (Prod.mk.inj z).2
                  omega
                · rw [if_neg c', if_neg c']
            · rw [e2]
              by_cases c : j = 24 * m + g0
              · rw [c, g_rd_at]; exact ⟨true, rfl⟩
              · rw [g_rd_k c]; exact wb j hj
      refine inn (nd m).length 0 t1 (by omega) (by rw [e1]; exact hF.si (mgP_t (by omega))) (fun c k hc hl => by rw [o1 c k (by omega) hl, ho c k hc hl]) (fun f hf => ?_) (fun f g hf hg => ?_) (fun j hj => by rw [o1 172 j (by decide) (by decide)]; exact hb j hj)
      · rw [e1]
        by_cases c : f = m
        · rw [c, g_rd_at]
        · rw [g_rd_k c]; exact h4 f (by omega)
      · rw [o1 172 _ (by decide) (by decide), h2 f g hf hg]
        congr 1
        by_cases c : f = m
        · rw [if_pos c, decide_eq_false (by omega), Bool.false_and]
          rfl
        · rw [if_neg c]
  -- the rows are emptied
  have loopA : ∀ k i (u : gSt), k + i = 576 → gFr ad mgP t u → (∀ c k, (c < 171 ∨ 174 < c) → c < 199 → u.2.1 (ad c) k = t.2.1 (ad c) k) → (∀ j, j < i → u.2.1 (ad 172) j = 0) → g_W cx (g_E cx d) mt_Mo_findGraph post (2, [some (.ref (ad 144)), some (.int (nI i)), none, none], [], u, 0, 0) := by
    intro k
    induction k with
    | zero =>
      intro i u hk hF ho hz
      refine x_Mo_findGraph_2 hF.L ⟨fun _ => ?_, fun z => ?_⟩
      · exact loopB n 0 u _ (by omega) hF ho (fun f hf => absurd hf (by omega)) (fun f g hf hg => by rw [hz _ (by omega), decide_eq_false (by omega), Bool.false_and]; rfl) (fun j hj => ⟨false, by rw [hz j (by omega)]; rfl⟩)
      · rw [show (576 : Int32) = nI 576 from rfl, nI_leI (by omega) (by omega)] at z
        omega
    | succ k ih =>
      intro i u hk hF ho hz
      refine x_Mo_findGraph_2 hF.L ⟨fun z => ?_, fun _ => ⟨vp_in_nI (by omega) (by omega), fun t1 e1 => ?_⟩⟩
      · rw [show (576 : Int32) = nI 576 from rfl, nI_leI (by omega) (by omega)] at z
        omega
      · rw [nI_clamp (by omega), b0] at e1
        rw [nI_1]
        refine ih (i + 1) t1 (by omega) (by rw [e1]; exact hF.si (mgP_t (by omega))) (fun c k hc hl => by rw [e1, g_rd_ne (hL.ne c 172 hl (by decide) (by omega)), ho c k hc hl]) (fun j hj => ?_)
        rw [e1]
        by_cases c : j = i
        · rw [c, g_rd_at]
        · rw [g_rd_k c]; exact hz j (by omega)
  exact loopA 576 0 t (by decide) (gFr.rf hL) (fun _ _ _ _ => rfl) (fun j hj => absurd hj (by omega))
end MI
