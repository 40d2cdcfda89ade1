/-! THE MODEL'S BOUNDS: its steps, and their closure -/
/-- function x's code in the model's rows -/
def RMc (t : gSt) (ad : Nat → Nat) (x : Nat) (C : List (Int32 × Int32)) : Prop := t.2.1 (ad 184) x = nI C.length ∧ C.length ≤ 1600 ∧ rows (t.2.1 (ad 182)) (t.2.1 (ad 183)) (1600 * x) C
def mbP (wn c k : Nat) : Bool := Nat.beq c 189 || (Nat.beq c 188 && (Nat.ble (24 * wn) k && Nat.ble k (24 * wn + 23)))
theorem mbP_in {wn c k : Nat} (h : mbP wn c k = true) : c = 189 ∨ (c = 188 ∧ 24 * wn ≤ k ∧ k ≤ 24 * wn + 23) := by
  unfold mbP at h
  simp only [Bool.or_eq_true, Bool.and_eq_true, Nat.ble_eq, Nat.beq_eq] at h
  omega
theorem mbP_r {wn c k : Nat} (h : ¬ (c = 189 ∨ (c = 188 ∧ 24 * wn ≤ k ∧ k ≤ 24 * wn + 23))) : mbP wn c k = false := by
  cases e : mbP wn c k with
  | false => rfl
  | true => exact absurd (mbP_in e) h
theorem mbP_t {wn c k : Nat} (h : c = 189 ∨ (c = 188 ∧ 24 * wn ≤ k ∧ k ≤ 24 * wn + 23)) : mbP wn c k = true := by
  unfold mbP
  simp only [Bool.or_eq_true, Bool.and_eq_true, Nat.ble_eq, Nat.beq_eq]
  omega
/-- one step by code, to oneself by a loop too -/
def cEdg (C : List (Int32 × Int32)) (f g : Nat) : Bool := (cCal C g || cTal C g) || (decide (g = f) && decide (∃ q ∈ C, q.1 = 18))
section BM
variable {cx : gCx} {d : Nat} {ad : Nat → Nat} {t : gSt} {post : Option Value → gSt → Prop} {n wn : Nat} {fc : Nat → List (Int32 × Int32)} {fr : Nat → Nat}
theorem ix24 (f g : Nat) : (24 : Int32) * nI f + nI g = nI (24 * f + g) := by rw [show (24 : Int32) = nI 24 from rfl, nI_mul, nI_add]
theorem ix16 (f g : Nat) : (1600 : Int32) * nI f + nI g = nI (1600 * f + g) := by rw [show (1600 : Int32) = nI 1600 from rfl, nI_mul, nI_add]
theorem m_bclose {R : Nat → Nat → Bool} (hL : Lay t ad) (hn : n ≤ 24) (hf : t.2.1 (ad 144) 11 = nI n) {o3 o4 o5 : Option Value} (hR : ∀ f g, f < n → g < n → t.2.1 (ad 189) (24 * f + g) = b32 (R f g)) (h : ∀ u o3' o4' o5', gFr ad (onP 189) t u → (∀ f g, f < n → g < n → u.2.1 (ad 189) (24 * f + g) = b32 (clF R n f g)) → g_W cx (g_E cx d) mt_Mo_bounds post (261, [some (.ref (ad 144)), some (.int (nI wn)), some (.int (nI 0)), o3', o4', o5', none, none], [], u, 0, 0)) : g_W cx (g_E cx d) mt_Mo_bounds post (150, [some (.ref (ad 144)), some (.int (nI wn)), some (.int (nI 0)), o3, o4, o5, none, none], [], t, 0, 0) := by
  have c11 : ∀ {u : gSt}, gFr ad (onP 189) t u → u.2.1 (ad 144) 11 = nI n := fun hF => by rw [hF.i 144 11 (onP_r (by decide))]; exact hf
  have outer : ∀ k m (u : gSt) (o3 o4 o5 : Option Value), k + m = n → gFr ad (onP 189) t u → (∀ f g, f < n → g < n → u.2.1 (ad 189) (24 * f + g) = b32 (clF R m f g)) → g_W cx (g_E cx d) mt_Mo_bounds post (150, [some (.ref (ad 144)), some (.int (nI wn)), some (.int (nI m)), o3, o4, o5, none, none], [], u, 0, 0) := by
    intro k
    induction k with
    | zero =>
      intro m u o3 o4 o5 hk hF hu
      have hm : m = n := by omega
      subst hm
      refine x_Mo_bounds_150 hF.L ?_
      rw [c11 hF]
      exact ⟨fun _ => h u _ _ _ hF hu, fun z => absurd (nI_le (Nat.le_refl _) (by omega)) z⟩
    | succ k ih =>
      intro m u o3 o4 o5 hk hF hu
      refine x_Mo_bounds_150 hF.L ?_
      rw [c11 hF]
      refine ⟨fun z => absurd z (nI_ge (by omega) (by omega)), fun _ => ?_⟩
      have mid : ∀ j i (w : gSt) (o4 o5 : Option Value), j + i = n → gFr ad (onP 189) t w → (∀ f g, f < n → g < n → w.2.1 (ad 189) (24 * f + g) = b32 (if f < i then clS (clF R m) m f g else clF R m f g)) → g_W cx (g_E cx d) mt_Mo_bounds post (160, [some (.ref (ad 144)), some (.int (nI wn)), some (.int (nI m)), some (.int (nI i)), o4, o5, none, none], [], w, 0, 0) := by
        intro j
        induction j with
        | zero =>
          intro i w o4 o5 hj hW hw
          refine x_Mo_bounds_160 hW.L ?_
          rw [c11 hW, nI_1]
          refine ⟨fun _ => ih (m + 1) w _ _ _ (by omega) hW (fun f g hf hg => ?_), fun z => absurd (nI_le (by omega) (by omega)) z⟩
          rw [hw f g hf hg, if_pos (by omega)]
          rfl
        | succ j ihj =>
          intro i w o4 o5 hj hW hw
          refine x_Mo_bounds_160 hW.L ?_
          rw [c11 hW]
          refine ⟨fun z => absurd z (nI_ge (by omega) (by omega)), fun _ => ?_⟩
          have inn : ∀ e b (y : gSt) (o5 : Option Value), e + b = n → gFr ad (onP 189) t y → (∀ f g, f < n → g < n → y.2.1 (ad 189) (24 * f + g) = b32 (if f < i ∨ (f = i ∧ g < b) then clS (clF R m) m f g else clF R m f g)) → g_W cx (g_E cx d) mt_Mo_bounds post (171, [some (.ref (ad 144)), some (.int (nI wn)), some (.int (nI m)), some (.int (nI i)), some (.int (nI b)), o5, none, none], [], y, 0, 0) := by
            intro e
            induction e with
            | zero =>
              intro b y o5 he hY hy
              refine x_Mo_bounds_171 hY.L ?_
              rw [c11 hY, nI_1 i]
              refine ⟨fun _ => ihj (i + 1) y _ _ (by omega) hY (fun f g hf hg => ?_), fun z => absurd (nI_le (by omega) (by omega)) z⟩
              rw [hy f g hf hg]
              congr 1
              by_cases c : f < i + 1
              · rw [if_pos c, if_pos (by omega)]
              · rw [if_neg c, if_neg (by omega)]
            | succ e ihe =>
              intro b y o5 he hY hy
              have vv : ∀ f g, f < n → g < n → vp_in (nI (24 * f + g)) 576 := fun f g hf hg => vp_in_nI (by omega) (by omega)
              have e1 : (if i < i ∨ (i = i ∧ b < b) then clS (clF R m) m i b else clF R m i b) = clF R m i b := if_neg (by omega)
              have e2 : (if i < i ∨ (i = i ∧ m < b) then clS (clF R m) m i m else clF R m i m) = clF R m i m := by
                split
                · unfold clS
                  cases clF R m i m <;> rfl
                · rfl
              have e3 : (if m < i ∨ (m = i ∧ b < b) then clS (clF R m) m m b else clF R m m b) = clF R m m b := by
                split
                · exact clS_m
                · rfl
              have wr1 : ∀ (v : Bool), v = clS (clF R m) m i b → g_W cx (g_E cx d) mt_Mo_bounds post (240, [some (.ref (ad 144)), some (.int (nI wn)), some (.int (nI m)), some (.int (nI i)), some (.int (nI b)), o5, none, none], [.int (b32 v), .int (nI (24 * i + b)), .ref (ad 189)], y, 0, 0) := by
                intro v hv
                refine x_Mo_bounds_240 hY.L ⟨vv i b (by omega) (by omega), fun t1 et => ?_⟩
                rw [nI_clamp (by omega), nar_b] at et
                rw [nI_1]
                refine ihe (b + 1) t1 o5 (by omega) (by rw [et]; exact hY.si onP_t) (fun f g hf hg => ?_)
                rw [et]
                by_cases c : f = i ∧ g = b
                · obtain ⟨rfl, rfl⟩ := c
                  rw [g_rd_at, if_pos (by omega), hv]
                · rw [g_rd_k (by omega), hy f g hf hg]
                  congr 1
                  by_cases c2 : f < i ∨ (f = i ∧ g < b)
                  · rw [if_pos c2, if_pos (by omega)]
                  · rw [if_neg c2, if_neg (by omega)]
              refine x_Mo_bounds_171 hY.L ?_
              rw [c11 hY, ix24, ix24, ix24, nI_clamp (n := 24 * i + b) (by omega), nI_clamp (n := 24 * i + m) (by omega), nI_clamp (n := 24 * m + b) (by omega), hy i b (by omega) (by omega), hy i m (by omega) (by omega), hy m b (by omega) (by omega), e1, e2, e3]
              refine ⟨fun z => absurd z (nI_ge (by omega) (by omega)), fun _ => ⟨vv i b (by omega) (by omega), fun z1 => x_Mo_bounds_235 hY.L (wr1 true ?_), fun z1 => ⟨vv i m (by omega) (by omega), fun z2 => x_Mo_bounds_239 hY.L (wr1 false ?_), fun z2 => ⟨vv m b (by omega) (by omega), fun z3 => x_Mo_bounds_239 hY.L (wr1 false ?_), fun z3 => x_Mo_bounds_235 hY.L (wr1 true ?_)⟩⟩⟩⟩
              · unfold clS
                cases h1 : clF R m i b with
                | true => rfl
                | false => rw [h1] at z1; exact absurd rfl z1
              · have z1 := b32_0.mp (Classical.not_not.mp z1)
                unfold clS
                rw [z1, b32_0.mp z2]
                rfl
              · have z1 := b32_0.mp (Classical.not_not.mp z1)
                unfold clS
                rw [z1, b32_0.mp z3, Bool.and_false]
                rfl
              · unfold clS
                have h2 : clF R m i m = true := by
                  cases h2 : clF R m i m with
                  | true => rfl
                  | false => rw [h2] at z2; exact absurd rfl z2
                have h3 : clF R m m b = true := by
                  cases h3 : clF R m m b with
                  | true => rfl
                  | false => rw [h3] at z3; exact absurd rfl z3
                rw [h2, h3, Bool.and_true, Bool.or_true]
          exact inn n 0 w _ (by omega) hW (fun f g hf hg => by
            rw [hw f g hf hg]
            congr 1
            by_cases c : f < i
            · rw [if_pos c, if_pos (by omega)]
            · rw [if_neg c, if_neg (by omega)])
      exact mid n 0 u _ _ (by omega) hF (fun f g hf hg => by rw [if_neg (by omega)]; exact hu f g hf hg)
  exact outer n 0 t _ _ _ (by omega) (gFr.rf hL) hR
end BM
