/-! THE MODEL READS AN EXPRESSION: values and nodes -/
def MVs (ad : Nat → Nat) (rs : List Nat) (t : gSt) : Prop := t.2.1 (ad 144) 33 = nI rs.length ∧ ∀ i r, rs[i]? = some r → t.2.1 (ad 162) i = nI r
def MVn (ad : Nat → Nat) (x : Nat) (V : Fo) (t : gSt) : Prop := t.2.1 (ad 148) x = nI (fo_n V) ∧ t.2.1 (ad 156) x = nI (fo_ac V) ∧
  (fo_n V ≤ 400 → fo_m (mro t ad 151 x) (mro t ad 152 x) (mro t ad 153 x) (mro t ad 154 x) (mro t ad 155 x) (fo_ac V) id (fo_mv (fun _ => 0) V) 0 ∧ fo_cno (fun i => t.2.1 (ad 166) i) V 0)
theorem MV_iff {ad : Nat → Nat} {x : Nat} {V : Fo} {t : gSt} : MV ad x V t ↔ MVs ad (fo_r V 0) t ∧ MVn ad x V t := by
  unfold MV MVs MVn
  rw [fo_rl]
  exact ⟨fun h => ⟨⟨h.1, h.2.1⟩, h.2.2⟩, fun h => ⟨h.1.1, h.1.2, h.2⟩⟩
def msP (c k : Nat) : Bool := (Nat.beq c 144 && Nat.beq k 33) || Nat.beq c 162
theorem msP_i {c k : Nat} : msP c k = true ↔ (c = 144 ∧ k = 33) ∨ c = 162 := by
  unfold msP
  simp only [Bool.or_eq_true, Bool.and_eq_true, Nat.beq_eq]
section MVV
variable {cx : gCx} {d : Nat} {ad : Nat → Nat} {x : Nat} {t u : gSt} {post : Option Value → gSt → Prop} {V : Fo} {rs : List Nat} {r : Nat} {P : Nat → Nat → Bool}
theorem MVs.fr (h : MVs ad rs t) (hF : gFr ad P t u) (hP : ∀ c k, (c = 144 ∧ k = 33) ∨ c = 162 → P c k = false) : MVs ad rs u :=
  ⟨by rw [hF.i 144 33 (hP _ _ (by omega))]; exact h.1, fun i r hr => by rw [hF.i 162 i (hP _ _ (by omega))]; exact h.2 i r hr⟩
theorem MVn.fr (h : MVn ad x V t) (hF : gFr ad P t u) (hP : ∀ c k, c = 166 ∨ ((c = 148 ∨ c = 156) ∧ k = x) ∨ (151 ≤ c ∧ c ≤ 155 ∧ 1300 * x ≤ k ∧ k < 1300 * x + 1300) → P c k = false) : MVn ad x V u := by
  obtain ⟨h3, h4, h5⟩ := h
  refine ⟨?_, ?_, fun hn => ⟨?_, ?_⟩⟩
  · rw [hF.i 148 x (hP _ _ (by omega))]; exact h3
  · rw [hF.i 156 x (hP _ _ (by omega))]; exact h4
  · have hac := fo_ac_le V
    refine fo_m_cg (fun i hi => ?_) (Nat.le_refl _) _ 0 (h5 hn).1 (fun m m1 m2 => ?_)
    · exact hF.i 155 _ (hP _ _ (by omega))
    · rw [fo_n_mv] at m2
      exact ⟨hF.i 151 _ (hP _ _ (by omega)), hF.i 152 _ (hP _ _ (by omega)), hF.i 153 _ (hP _ _ (by omega)), hF.i 154 _ (hP _ _ (by omega))⟩
  · exact fo_cno_cg V 0 (h5 hn).2 (fun q _ _ => hF.i 166 _ (hP _ _ (by omega)))
theorem m_got (hL : Lay t ad) (h : MVs ad (rs ++ [r]) t) (hl : rs.length < 3100) (k1 : ∀ u, gFr ad msP t u → MVs ad rs u → post (some (.int (nI r))) u) : g_E cx (d + 1) i_Mo_got [.ref (ad 144)] t post := by
  have h33 : t.2.1 (ad 144) 33 = nI (rs.length + 1) := by rw [h.1, List.length_append]; rfl
  refine x_Mo_got hL (fun t1 e1 => ?_)
  rw [h33, nI_pred] at e1
  have e33 : t1.2.1 (ad 144) 33 = nI rs.length := by rw [e1, g_rd_at]
  have e162 : ∀ i, t1.2.1 (ad 162) i = t.2.1 (ad 162) i := fun i => by rw [e1, g_rd_ne (hL.ne 162 144 (by decide) (by decide) (by decide))]
  rw [e33, nI_clamp (by omega), e162, h.2 rs.length r (by simp)]
  have F : gFr ad msP t t1 := by rw [e1]; exact (gFr.rf hL).si rfl
  exact ⟨vp_in_nI hl (by omega), k1 t1 F ⟨e33, fun i r' hr => by
    rw [e162]
    exact h.2 i r' (by rw [List.getElem?_append_left (List.getElem?_eq_some_iff.mp hr).1]; exact hr)⟩⟩
theorem m_give (hL : Lay t ad) (h : MVs ad rs t) (hl : rs.length < 3100) (k1 : ∀ u, gFr ad msP t u → MVs ad (rs ++ [r]) u → post none u) : g_E cx (d + 1) i_Mo_give [.ref (ad 144), .int (nI r)] t post := by
  refine x_Mo_give hL ?_
  rw [h.1, nI_clamp (by omega)]
  refine ⟨vp_in_nI hl (by omega), fun t1 e1 t2 e2 => ?_⟩
  have e33 : t1.2.1 (ad 144) 33 = nI rs.length := by rw [e1, g_rd_ne (hL.ne 144 162 (by decide) (by decide) (by decide))]; exact h.1
  rw [e33, nI_1] at e2
  have F : gFr ad msP t t2 := by rw [e2, e1]; exact ((gFr.rf hL).si rfl).si rfl
  refine k1 t2 F ⟨by rw [e2, g_rd_at, List.length_append]; rfl, fun i r' hr => ?_⟩
  rw [e2, g_rd_ne (hL.ne 162 144 (by decide) (by decide) (by decide)), e1]
  by_cases hi : i < rs.length
  · rw [List.getElem?_append_left hi] at hr
    rw [g_rd_k (by omega)]
    exact h.2 i r' hr
  · rw [List.getElem?_append_right (by omega)] at hr
    have hi0 : i - rs.length = 0 := by
      by_cases z : i - rs.length = 0
      · exact z
      · rw [List.getElem?_eq_none (by simp; omega)] at hr; cases hr
    rw [hi0] at hr
    have hr : r = r' := by simpa using hr
    have hi1 : i = rs.length := by omega
    rw [hi1, g_rd_at, hr]
/-- what a node writes -/
def noP (x m c k : Nat) : Bool := (Nat.beq c 148 && Nat.beq k x) || (Nat.ble 151 c && Nat.ble c 154 && Nat.beq k (1300 * x + m) && Nat.blt m 1300)
theorem noP_i {x m c k : Nat} : noP x m c k = true ↔ (c = 148 ∧ k = x) ∨ (151 ≤ c ∧ c ≤ 154 ∧ k = 1300 * x + m ∧ m < 1300) := by
  unfold noP
  simp only [Bool.or_eq_true, Bool.and_eq_true, Nat.beq_eq, Nat.ble_eq, Nat.blt_eq]
  omega
theorem m_no {m : Nat} {k a b c : Int32} (hL : Lay t ad) (hx : x < 72) (hm : m < 2 ^ 20) (h : t.2.1 (ad 148) x = nI m) (k1 : ∀ u, gFr ad (noP x m) t u → u.2.1 (ad 148) x = nI (m + 1) → (m < 1300 → mro u ad 151 x m = k ∧ mro u ad 152 x m = a ∧ mro u ad 153 x m = b ∧ mro u ad 154 x m = c) → post (some (.int (nI m))) u) : g_E cx (d + 1) i_Mo_node [.ref (ad 144), .int (nI x), .int k, .int a, .int b, .int c] t post := by
  have hv : vp_in (nI x) 72 := vp_in_nI hx (by decide)
  refine x_Mo_node hL ?_
  rw [nI_clamp (by omega), h, nI_1]
  refine ⟨hv, fun x1 e1 => ⟨hv, hv, fun t2 e2 => ?_⟩⟩
  subst e1
  rw [ix13, show (1300 : Int32) = nI 1300 from rfl, nI_leI (by omega) (by omega)]
  have F2 : gFr ad (noP x m) t t2 := by rw [e2]; exact (gFr.rf hL).si (noP_i.mpr (by omega))
  refine ⟨fun z => k1 t2 F2 (by rw [e2, g_rd_at]) (fun y => by omega), fun z => ?_⟩
  have hvi : vp_in (nI (1300 * x + m)) 93600 := vp_in_nI (by omega) (by omega)
  rw [nI_clamp (by omega)]
  refine ⟨hvi, fun t3 e3 => ⟨hvi, fun t4 e4 => ⟨hvi, fun t5 e5 => ⟨hvi, fun t6 e6 => ?_⟩⟩⟩⟩
  have F6 : gFr ad (noP x m) t t6 := by
    rw [e6, e5, e4, e3]
    exact (((F2.si (noP_i.mpr (by omega))).si (noP_i.mpr (by omega))).si (noP_i.mpr (by omega))).si (noP_i.mpr (by omega))
  have ne : ∀ c c', c < 199 → c' < 199 → c ≠ c' → ad c ≠ ad c' := fun c c' h1 h2 h3 => hL.ne c c' h1 h2 h3
  refine k1 t6 F6 ?_ (fun _ => ⟨?_, ?_, ?_, ?_⟩)
  · rw [e6, g_rd_ne (ne 148 154 (by decide) (by decide) (by decide)), e5, g_rd_ne (ne 148 153 (by decide) (by decide) (by decide)), e4, g_rd_ne (ne 148 152 (by decide) (by decide) (by decide)), e3, g_rd_ne (ne 148 151 (by decide) (by decide) (by decide)), e2, g_rd_at]
  · show t6.2.1 (ad 151) (1300 * x + m) = k
    rw [e6, g_rd_ne (ne 151 154 (by decide) (by decide) (by decide)), e5, g_rd_ne (ne 151 153 (by decide) (by decide) (by decide)), e4, g_rd_ne (ne 151 152 (by decide) (by decide) (by decide)), e3, g_rd_at]
  · show t6.2.1 (ad 152) (1300 * x + m) = a
    rw [e6, g_rd_ne (ne 152 154 (by decide) (by decide) (by decide)), e5, g_rd_ne (ne 152 153 (by decide) (by decide) (by decide)), e4, g_rd_at]
  · show t6.2.1 (ad 153) (1300 * x + m) = b
    rw [e6, g_rd_ne (ne 153 154 (by decide) (by decide) (by decide)), e5, g_rd_at]
  · show t6.2.1 (ad 154) (1300 * x + m) = c
    rw [e6, g_rd_at]
/-- a new node over the last trees, not a call -/
theorem MVn.nd {V0 W : Fo} {k v a b c : Int32} (h : MVn ad x (fo_ap V0 W) t) (hF : gFr ad (noP x (fo_n V0 + fo_n W)) t u) (h148 : u.2.1 (ad 148) x = nI (fo_n V0 + fo_n W + 1)) (hw : fo_n V0 + fo_n W < 1300 → mro u ad 151 x (fo_n V0 + fo_n W) = k ∧ mro u ad 152 x (fo_n V0 + fo_n W) = a ∧ mro u ad 153 x (fo_n V0 + fo_n W) = b ∧ mro u ad 154 x (fo_n V0 + fo_n W) = c) (hk15 : k ≠ 15) (hk12 : k = 1 ∨ k = 2 → a = v) (hk3 : ¬ (k = 1 ∨ k = 2 ∨ k = 15) → (∀ r, (fo_r W (fo_n V0))[0]? = some r → a = nI r) ∧ (∀ r, (fo_r W (fo_n V0))[1]? = some r → b = nI r) ∧ (∀ r, (fo_r W (fo_n V0))[2]? = some r → c = nI r) ∧ (k = 14 → c = v)) : MVn ad x (fo_ap V0 (.inner 0 k v W .leaf)) u := by
  obtain ⟨h3, h4, h5⟩ := h
  have en : fo_n (fo_ap V0 (.inner 0 k v W .leaf)) = fo_n V0 + fo_n W + 1 := by rw [fo_n_ap]; simp only [fo_n]; omega
  have en0 : fo_n (fo_ap V0 W) = fo_n V0 + fo_n W := fo_n_ap _ _
  have ea : fo_ac (fo_ap V0 (.inner 0 k v W .leaf)) = fo_ac (fo_ap V0 W) := by
    rw [fo_ac_ap, fo_ac_ap]
    simp only [fo_ac, if_neg hk15]
    omega
  refine ⟨by rw [en]; exact h148, ?_, fun hn => ⟨?_, ?_⟩⟩
  · rw [ea, hF.i 156 x (bool_r noP_i (by omega))]; exact h4
  · rw [en] at hn
    obtain ⟨w1, w2, w3, w4⟩ := hw (by omega)
    have hac := fo_ac_le (fo_ap V0 W)
    have hm := fo_m_cg (K' := mro u ad 151 x) (A' := mro u ad 152 x) (B' := mro u ad 153 x) (C' := mro u ad 154 x) (G' := mro u ad 155 x) (N' := fo_ac (fo_ap V0 W)) (fun i hi => hF.i 155 _ (bool_r noP_i (by omega))) (Nat.le_refl _) _ 0 (h5 (by omega)).1 (fun m m1 m2 => by
      rw [fo_n_mv] at m2
      exact ⟨hF.i 151 _ (bool_r noP_i (by omega)), hF.i 152 _ (bool_r noP_i (by omega)), hF.i 153 _ (bool_r noP_i (by omega)), hF.i 154 _ (bool_r noP_i (by omega))⟩)
    rw [ea, fo_mv_ap, fo_m_ap]
    rw [fo_mv_ap, fo_m_ap] at hm
    refine ⟨hm.1, hm.2, ?_, trivial⟩
    rw [if_neg hk15, fo_r_mv, fo_n_mv, fo_n_mv, Nat.zero_add]
    refine ⟨w1, fun z => ?_, fun z => absurd z hk15, fun z => ?_⟩
    · show mro u ad 152 x (fo_n V0 + fo_n W) = v
      rw [w2]; exact hk12 z
    · obtain ⟨q1, q2, q3, q4⟩ := hk3 z
      exact ⟨fun r hr => by rw [id, w2]; exact q1 r hr, fun r hr => by rw [id, w3]; exact q2 r hr, fun r hr => by rw [id, w4]; exact q3 r hr, fun e => by rw [id, w4]; exact q4 e⟩
  · rw [en] at hn
    have hc := (h5 (by omega)).2
    rw [fo_cno_ap] at hc ⊢
    have cg : ∀ F o, fo_cno (fun i => t.2.1 (ad 166) i) F o → fo_cno (fun i => u.2.1 (ad 166) i) F o := fun F o z => fo_cno_cg F o z (fun q _ _ => hF.i 166 _ (bool_r noP_i (by omega)))
    exact ⟨cg _ _ hc.1, cg _ _ hc.2, fun z => absurd z hk15, trivial⟩
/-- node and value, not of a call -/
theorem m_ng {V0 W : Fo} {k v a b c : Int32} {D : Nat} {cont : gSt → Prop} (hL : Lay t ad) (hx : x < 72) (hl : fo_l V0 < 3100) (hn : fo_n (fo_ap V0 W) < 2 ^ 20) (h : MVn ad x (fo_ap V0 W) t) (hs : MVs ad (fo_r V0 0) t) (hk15 : k ≠ 15) (hk12 : k = 1 ∨ k = 2 → a = v) (hk3 : ¬ (k = 1 ∨ k = 2 ∨ k = 15) → (∀ r, (fo_r W (fo_n V0))[0]? = some r → a = nI r) ∧ (∀ r, (fo_r W (fo_n V0))[1]? = some r → b = nI r) ∧ (∀ r, (fo_r W (fo_n V0))[2]? = some r → c = nI r) ∧ (k = 14 → c = v)) (k1 : ∀ u, gFr ad (mvvP x) t u → MV ad x (fo_ap V0 (.inner 0 k v W .leaf)) u → cont u) :
    g_E cx (d + 1) i_Mo_node [.ref (ad 144), .int (nI x), .int k, .int a, .int b, .int c] t (fun r u => ∃ y : Int32, r = some (.int y) ∧ Lay u ad ∧ g_E cx (D + 1) i_Mo_give [.ref (ad 144), .int y] u (fun r w => r = none ∧ Lay w ad ∧ cont w)) := by
  have en0 : fo_n (fo_ap V0 W) = fo_n V0 + fo_n W := fo_n_ap _ _
  refine m_no (m := fo_n V0 + fo_n W) hL hx (by omega) (by rw [← en0]; exact h.1) (fun u F h148 hw => ⟨_, rfl, F.L, ?_⟩)
  have hn2 := MVn.nd h F h148 hw hk15 hk12 hk3
  refine m_give F.L (hs.fr F (fun c k z => bool_r noP_i (by omega))) (by rw [fo_rl]; exact hl) (fun w Fw hw2 => ⟨rfl, Fw.L, k1 w ?_ (MV_iff.mpr ⟨?_, hn2.fr Fw (fun c k z => bool_r msP_i (by omega))⟩)⟩)
  · exact (F.mo (fun c k z => by rw [noP_i] at z; rw [mvvP_i]; omega)).tr (Fw.mo (fun c k z => by rw [msP_i] at z; rw [mvvP_i]; omega))
  · rw [fo_r_ap]
    simp only [fo_r, Nat.zero_add]
    exact hw2
end MVV
