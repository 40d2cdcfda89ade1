/-! WHO COMES TO WHOM: the class's closure -/
section CO
variable {cx : gCx} {d : Nat} {ad : Nat → Nat} {t : gSt} {post : Option Value → gSt → Prop} {q n : Nat} {R : Nat → Nat → Bool}
def onP (q c _k : Nat) : Bool := Nat.beq c q
theorem onP_r {c k : Nat} (h : c ≠ q) : onP q c k = false := Bool.eq_false_iff.mpr (fun z => h (Nat.eq_of_beq_eq_true z))
theorem m_closeOver (hq : isR q) (hL : Lay t ad) (hn : n ≤ 24) (hR : ∀ f g, f < n → g < 24 → hb (t.2.1 (ad q) f) g = R f g) (h : ∀ u, gFr ad (onP q) t u → (∀ f g, f < n → g < 24 → hb (u.2.1 (ad q) f) g = clF R n f g) → post none u) : g_E cx (d + 2) i_Tr_closeOver [.ref (ad q), .int (nI n)] t post := by
  have hql : q < 199 := by rcases hq with rfl | rfl <;> decide
  have hqq : ∀ k, onP q q k = true := fun k => Nat.beq_refl q
  refine x_Tr_closeOver hq hL ?_
  have outer : ∀ k m (u : gSt) (o : Option Value), k + m = n → gFr ad (onP q) t u → (∀ f g, f < n → g < 24 → hb (u.2.1 (ad q) f) g = clF R m f g) → g_W cx (g_E cx (d + 1)) mt_Tr_closeOver post (2, [some (.ref (ad q)), some (.int (nI n)), some (.int (nI m)), o], [], u, 0, 0) := by
    intro k
    induction k with
    | zero =>
      intro m u o hk hF hu
      have hm : m = n := by omega
      subst hm
      exact x_Tr_closeOver_2 hq hF.L ⟨fun _ => h u hF hu, fun z => absurd (nI_le (Nat.le_refl _) (by omega)) z⟩
    | succ k ih =>
      intro m u o hk hF hu
      refine x_Tr_closeOver_2 hq hF.L ⟨fun z => absurd z (nI_ge (by omega) (by omega)), fun _ => ?_⟩
      have inner : ∀ j i (w : gSt), j + i = n → gFr ad (onP q) t w → (∀ f g, f < n → g < 24 → hb (w.2.1 (ad q) f) g = if f < i then clS (clF R m) m f g else clF R m f g) → g_W cx (g_E cx (d + 1)) mt_Tr_closeOver post (9, [some (.ref (ad q)), some (.int (nI n)), some (.int (nI m)), some (.int (nI i))], [], w, 0, 0) := by
        intro j
        induction j with
        | zero =>
          intro i w hj hW hw
          have hi : i = n := by omega
          subst hi
          refine x_Tr_closeOver_9 hq hW.L ⟨fun _ => ?_, fun z => absurd (nI_le (Nat.le_refl _) (by omega)) z⟩
          rw [nI_1]
          refine ih (m + 1) w _ (by omega) hW (fun f g hf hg => ?_)
          rw [hw f g hf hg, if_pos hf]
          rfl
        | succ j ihj =>
          intro i w hj hW hw
          refine x_Tr_closeOver_9 hq hW.L ⟨fun z => absurd z (nI_ge (by omega) (by omega)), fun _ => ⟨vp_in_nI (by omega) (by omega), ?_⟩⟩
          rw [nI_clamp (by omega)]
          have hbi : hb (w.2.1 (ad q) i) m = clF R m i m := by rw [hw i m (by omega) (by omega), if_neg (by omega)]
          refine m_hasBit hW.L (by omega) ⟨_, rfl, hW.L, ?_⟩
          rw [hbi, nI_1]
          refine ⟨fun z => ?_, fun z => ⟨vp_in_nI (by omega) (by omega), vp_in_nI (by omega) (by omega), vp_in_nI (by omega) (by omega), fun t3 e3 => ?_⟩⟩
          · have z := b32_0.mp z
            refine ihj (i + 1) w (by omega) hW (fun f g hf hg => ?_)
            rw [hw f g hf hg]
            by_cases c : f = i
            · subst c
              rw [if_neg (by omega), if_pos (by omega)]
              unfold clS
              rw [z, Bool.false_and, Bool.or_false]
            · by_cases c2 : f < i
              · rw [if_pos c2, if_pos (by omega)]
              · rw [if_neg c2, if_neg (by omega)]
          · have z : clF R m i m = true := by
              cases e : clF R m i m with
              | true => rfl
              | false => rw [e] at z; exact absurd rfl z
            rw [nI_clamp (n := m) (by omega)] at e3
            refine ihj (i + 1) t3 (by omega) (by rw [e3]; exact hW.si (hqq _) hql) (fun f g hf hg => ?_)
            rw [e3]
            by_cases c : f = i
            · subst c
              rw [g_rd_at, if_pos (by omega), hb_or, hw f g hf hg, hw m g (by omega) hg, if_neg (by omega)]
              have : (if m < f then clS (clF R m) m m g else clF R m m g) = clF R m m g := by
                split
                · exact clS_m
                · rfl
              rw [this]
              unfold clS
              rw [z, Bool.true_and]
            · rw [g_rd_k c, hw f g hf hg]
              by_cases c2 : f < i
              · rw [if_pos c2, if_pos (by omega)]
              · rw [if_neg c2, if_neg (by omega)]
      exact inner n 0 u (by omega) hF (fun f g hf hg => by rw [if_neg (by omega)]; exact hu f g hf hg)
  exact outer n 0 t _ (by omega) (gFr.rf hL) hR
end CO
