/-! THE MODEL: a body in a call's place -/
def mrP (c k : Nat) : Bool := meP c k || Nat.beq c 180
theorem mrP_in {c k : Nat} (h : mrP c k = true) : (151 ≤ c ∧ c ≤ 155 ∧ 62400 ≤ k) ∨ ((c = 148 ∨ c = 156) ∧ k = 48) ∨ c = 180 := by
  unfold mrP at h
  rw [Bool.or_eq_true] at h
  rcases h with h | h
  · have := meP_in h
    omega
  · exact Or.inr (Or.inr (Nat.eq_of_beq_eq_true h))
theorem mrP_r {c k : Nat} (h : ¬ ((151 ≤ c ∧ c ≤ 155 ∧ 62400 ≤ k) ∨ ((c = 148 ∨ c = 156) ∧ k = 48) ∨ c = 180)) : mrP c k = false := by
  cases e : mrP c k with
  | false => rfl
  | true => exact absurd (mrP_in e) h
theorem mrP_t {c k : Nat} (h : meP c k = true ∨ c = 180) : mrP c k = true := by
  unfold mrP
  rcases h with h | h
  · rw [h]; rfl
  · rw [h]
    exact Bool.or_eq_true_iff.mpr (Or.inr rfl)
section MQ
variable {cx : gCx} {d : Nat} {ad : Nat → Nat} {t : gSt} {post : Option Value → gSt → Prop} {L : List ND} {G : List Int32}
theorem m_replace {xf r h q o' NB n P q0 : Nat} {rs : List Nat} {par : Int32 → Nat} {a' B : Fo} {S : Nat → List Int32} (hxf : xf < 48) (hr : r < 1300) (hh : h < 24) (hL : Lay t ad) (hE : RE ad L G t) (hP : rs.length = P) (h153 : t.2.1 (ad 153) (1300 * xf + r) = nI P) (h152 : t.2.1 (ad 152) (1300 * xf + r) = nI q0) (hq0 : q0 + P ≤ 1300) (h155 : ∀ i y, rs[i]? = some y → t.2.1 (ad 155) (1300 * xf + (q0 + i)) = nI y) (hrs : ∀ y ∈ rs, y < 1300) (hmap : ∀ (i y z : Nat), rs[i]? = some y → (fo_r a' o')[i]? = some z → t.2.1 (ad 177) y = nI z) (hla : fo_l a' = P) (hB1 : fo_l B = 1) (hw : fo_w n par B S) (h148 : t.2.1 (ad 148) (24 + h) = nI (fo_n B)) (h156 : t.2.1 (ad 156) (24 + h) = nI NB) (hm : fo_m (fun i => t.2.1 (ad 151) (1300 * (24 + h) + i)) (fun i => t.2.1 (ad 152) (1300 * (24 + h) + i)) (fun i => t.2.1 (ad 153) (1300 * (24 + h) + i)) (fun i => t.2.1 (ad 154) (1300 * (24 + h) + i)) (fun i => t.2.1 (ad 155) (1300 * (24 + h) + i)) NB id B 0) (hLo : L.length = o' + fo_n a') (hfa : fmL L G a' o') (hcl : L.length + fo_n B + P ≤ 1300) (hcg : G.length + NB ≤ 1300)
    (hK : ∀ u X Y, gFr ad mrP t u → RE ad (L ++ X) (G ++ Y) u → fmL (L ++ X) (G ++ Y) (nest q a' (fo_sh q B)) o' → X.length = fo_n B + P → Y.length = NB → post (some (.int (nI ((L ++ X).length - 1)))) u) : g_E cx (d + 2) i_Mo_replace [.ref (ad 144), .int (nI xf), .int (nI (1300 * xf + r)), .int (nI h), .int 48, .int (nI q)] t post := by
  have hv48 : vp_in 48 72 := vp_in_nI (n := 48) (by decide) (by decide)
  have e48 : ((48 : Int32)).toNatClampNeg = 48 := by decide
  have hve : vp_in (nI (24 + h)) 72 := vp_in_nI (by omega) (by omega)
  have hvx : vp_in (nI (1300 * xf + r)) 93600 := vp_in_nI (by omega) (by omega)
  have hBn := fo_ln B
  -- what of the model's rows is read
  have rowB : ∀ {u : gSt}, gFr ad mrP t u → ∀ c i, 151 ≤ c → c ≤ 155 → i < 62400 → u.2.1 (ad c) i = t.2.1 (ad c) i := fun hF c i h1 h2 h3 => hF.i c i (mrP_r (by omega)) (by omega)
  have r148 : ∀ {u : gSt}, gFr ad mrP t u → u.2.1 (ad 148) (24 + h) = nI (fo_n B) := fun hF => by rw [hF.i 148 _ (mrP_r (by omega))]; exact h148
  have r156 : ∀ {u : gSt}, gFr ad mrP t u → u.2.1 (ad 156) (24 + h) = nI NB := fun hF => by rw [hF.i 156 _ (mrP_r (by omega))]; exact h156
  have me : ∀ {u v : gSt}, gFr ad meP u v → gFr ad mrP u v := fun hF => hF.mo (fun c k q => mrP_t (Or.inl q))
  have ix : ∀ i, (1300 : Int32) * nI (24 + h) + nI i = nI (1300 * (24 + h) + i) := fun i => ix13
  -- names
  obtain ⟨LB, eLB⟩ : ∃ LB : List ND, LB = (List.range (fo_n B)).map (fun m => shN q L.length G.length (t.2.1 (ad 151) (1300 * (24 + h) + m), t.2.1 (ad 152) (1300 * (24 + h) + m), t.2.1 (ad 153) (1300 * (24 + h) + m), t.2.1 (ad 154) (1300 * (24 + h) + m))) := ⟨_, rfl⟩
  obtain ⟨YG, eYG⟩ : ∃ YG : List Int32, YG = (List.range NB).map (fun j => nI L.length + t.2.1 (ad 155) (1300 * (24 + h) + j)) := ⟨_, rfl⟩
  have lLB : LB.length = fo_n B := by rw [eLB]; simp
  have lYG : YG.length = NB := by rw [eYG]; simp
  refine x_Mo_replace hL (fun x1 e1 => ?_)
  rw [show (24 : Int32) = nI 24 from rfl, nI_add] at e1
  subst e1
  rw [e48, hE.1, hE.2.1]
  refine ⟨hv48, fun x2 e2 => ⟨hv48, fun x3 e3 => ?_⟩⟩
  subst e2 e3
  -- the lets
  have lets : ∀ c (u : gSt) (W : List ND), c ≤ P → gFr ad mrP t u → RE ad (L ++ LB ++ W) (G ++ YG) u → W = (List.range (P - c)).map (fun s => ((14 : Int32), nI (((fo_r a' o')[P - 1 - s]?).getD 0), nI (L.length + fo_n B + s - 1), nI (q + (P - 1 - s)))) → g_W cx (g_E cx (d + 1)) mt_Mo_replace post (472, [some (.ref (ad 144)), some (.int (nI xf)), some (.int (nI (1300 * xf + r))), some (.int (nI h)), some (.int 48), some (.int (nI q)), some (.int (nI (24 + h))), some (.int (nI L.length)), some (.int (nI G.length)), some (.int (nI (L.length + fo_n B + (P - c) - 1))), some (.int (nI c - 1))], [], u, 0, 0) := by
    intro c
    induction c with
    | zero =>
      intro u W hc hF hR hW
      have lW : W.length = P := by rw [hW]; simp
      refine x_Mo_replace_472 hF.L ⟨fun _ => ?_, fun z => absurd (by decide) z⟩
      have := hK u (LB ++ W) YG hF (by rw [← List.append_assoc]; exact hR) ?_ (by rw [List.length_append, lLB, lW]) lYG
      · rw [List.length_append, List.length_append, lLB, lW] at this
        rw [show L.length + fo_n B + (P - 0) - 1 = L.length + (fo_n B + P) - 1 by omega]
        exact this
      · rw [← List.append_assoc]
        refine nest_m (by rw [fo_l_sh]; exact hB1) a' o' q ?_ ?_ (fun j z hj => ?_)
        · rw [List.append_assoc]
          exact fmL_mo hfa (by omega)
        · have := fo_m_sh (q := q) (bs := L.length) (as := G.length) (L := L ++ LB ++ W) (G := G ++ YG) (N := NB) (fun j hj => ?_) (by rw [List.length_append, lYG]; omega) B S 0 hw hm (fun m _ m2 => ?_)
          · rw [Nat.add_zero, hLo] at this
            exact this
          · unfold aG
            rw [List.getElem?_append_right (by omega), Nat.add_sub_cancel_left, eYG, List.getElem?_map, List.getElem?_range hj]
            rfl
          · rw [Nat.zero_add] at m2
            rw [List.append_assoc, List.getElem?_append_right (by omega), Nat.add_sub_cancel_left, List.getElem?_append_left (by omega), eLB, List.getElem?_map, List.getElem?_range m2]
            rfl
        · have hjl := (List.getElem?_eq_some_iff.mp hj).1
          rw [fo_rl, hla] at hjl
          rw [fo_n_sh, hla, ← hLo, List.getElem?_append_right (by rw [List.length_append, lLB]; omega), List.length_append, lLB, show L.length + fo_n B + (P - 1 - j) - (L.length + fo_n B) = P - 1 - j by omega, hW, List.getElem?_map, List.getElem?_range (by omega)]
          simp only [Option.map_some]
          rw [show P - 1 - (P - 1 - j) = j by omega, hj]
          rfl
    | succ c ih =>
      intro u W hc hF hR hW
      have lW : W.length = P - (c + 1) := by rw [hW]; simp
      have hcl2 : c < rs.length := by omega
      obtain ⟨y, hy⟩ : ∃ y, rs[c]? = some y := ⟨_, List.getElem?_eq_getElem hcl2⟩
      obtain ⟨z, hz⟩ : ∃ z, (fo_r a' o')[c]? = some z := ⟨_, List.getElem?_eq_getElem (by rw [fo_rl]; omega)⟩
      have hy13 := hrs y (List.mem_of_getElem? hy)
      have ixq : (1300 : Int32) * nI xf + nI q0 + nI c = nI (1300 * xf + (q0 + c)) := by rw [show (1300 : Int32) = nI 1300 from rfl, nI_mul, nI_add, nI_add, Nat.add_assoc]
      rw [nI_pred]
      refine x_Mo_replace_472 hF.L ⟨fun z => absurd z (nI_pos (by omega)), fun _ => ?_⟩
      rw [nI_clamp (n := 1300 * xf + r) (by omega), rowB hF 152 _ (by decide) (by decide) (by omega), h152, ixq, nI_clamp (n := 1300 * xf + (q0 + c)) (by omega), rowB hF 155 _ (by decide) (by decide) (by omega), h155 c y hy, nI_clamp (n := y) (by omega), hF.i 177 y (mrP_r (by omega)), hmap c y z hy hz, nI_add]
      refine ⟨hvx, vp_in_nI (by omega) (by omega), vp_in_nI hy13 (by omega), ?_⟩
      refine m_enode hF.L hR (by rw [List.length_append, List.length_append, lLB, lW]; omega) (fun u2 F2 E2 => ⟨_, rfl, F2.L, ?_⟩)
      have lW2 : (L ++ LB ++ W).length = L.length + fo_n B + (P - (c + 1)) := by rw [List.length_append, List.length_append, lLB, lW]
      have := ih u2 (W ++ [(14, nI z, nI (L.length + fo_n B + (P - (c + 1)) - 1), nI (q + c))]) (by omega) (hF.tr (me F2)) (by rw [← List.append_assoc]; exact E2) ?_
      · rw [lW2, show nI c + (-1) = nI c - 1 from by rw [Int32.sub_eq_add_neg]]
        rw [show L.length + fo_n B + (P - c) - 1 = L.length + fo_n B + (P - (c + 1)) by omega] at this
        exact this
      · rw [hW, show P - c = (P - (c + 1)) + 1 by omega, List.range_succ, List.map_append]
        congr 1
        simp only [List.map_cons, List.map_nil]
        rw [show P - 1 - (P - (c + 1)) = c by omega, hz]
        rfl
  -- the nodes
  have nodes : ∀ m i (u : gSt) (o : Option Value), m + i = fo_n B → gFr ad mrP t u → RE ad (L ++ LB.take i) (G ++ YG) u → g_W cx (g_E cx (d + 1)) mt_Mo_replace post (73, [some (.ref (ad 144)), some (.int (nI xf)), some (.int (nI (1300 * xf + r))), some (.int (nI h)), some (.int 48), some (.int (nI q)), some (.int (nI (24 + h))), some (.int (nI L.length)), some (.int (nI G.length)), some (.int (nI i)), o], [], u, 0, 0) := by
    intro m
    induction m with
    | zero =>
      intro i u o hi hF hR
      rw [List.take_of_length_le (by omega)] at hR
      have h48 : u.2.1 (ad 148) 48 = nI (L.length + fo_n B) := by rw [hR.1, List.length_append, lLB]
      refine x_Mo_replace_73 hF.L ?_
      rw [nI_clamp (n := 24 + h) (by omega), r148 hF, e48, h48]
      refine ⟨hve, fun _ => ⟨hv48, fun x1 e1 => ⟨hvx, fun x2 e2 => ?_⟩⟩, fun z => absurd (nI_le (by omega) (by omega)) z⟩
      rw [show nI (L.length + fo_n B) - 1 = nI (L.length + fo_n B - 1) by rw [show (1 : Int32) = nI 1 from rfl, nI_sub (by omega)]] at e1
      rw [nI_clamp (by omega), rowB hF 153 _ (by decide) (by decide) (by omega), h153] at e2
      subst e1 e2
      have := lets P u [] (Nat.le_refl _) hF (by rw [List.append_nil]; exact hR) (by simp)
      rw [show L.length + fo_n B + (P - P) - 1 = L.length + fo_n B - 1 by omega] at this
      exact this
    | succ m ih =>
      intro i u o hi hF hR
      have hil : i < fo_n B := by omega
      have hvy : vp_in (nI (1300 * (24 + h) + i)) 93600 := vp_in_nI (by omega) (by omega)
      have hvi : vp_in (nI i) 1300 := vp_in_nI (by omega) (by omega)
      obtain ⟨K0, eK⟩ : ∃ K0, t.2.1 (ad 151) (1300 * (24 + h) + i) = K0 := ⟨_, rfl⟩
      obtain ⟨A0, eA⟩ : ∃ A0, t.2.1 (ad 152) (1300 * (24 + h) + i) = A0 := ⟨_, rfl⟩
      obtain ⟨B0, eB⟩ : ∃ B0, t.2.1 (ad 153) (1300 * (24 + h) + i) = B0 := ⟨_, rfl⟩
      obtain ⟨C0, eC⟩ : ∃ C0, t.2.1 (ad 154) (1300 * (24 + h) + i) = C0 := ⟨_, rfl⟩
      have uK : u.2.1 (ad 151) (1300 * (24 + h) + i) = K0 := by rw [rowB hF 151 _ (by decide) (by decide) (by omega)]; exact eK
      have uA : u.2.1 (ad 152) (1300 * (24 + h) + i) = A0 := by rw [rowB hF 152 _ (by decide) (by decide) (by omega)]; exact eA
      have uB : u.2.1 (ad 153) (1300 * (24 + h) + i) = B0 := by rw [rowB hF 153 _ (by decide) (by decide) (by omega)]; exact eB
      have uC : u.2.1 (ad 154) (1300 * (24 + h) + i) = C0 := by rw [rowB hF 154 _ (by decide) (by decide) (by omega)]; exact eC
      have etk : LB.take (i + 1) = LB.take i ++ [shN q L.length G.length (K0, A0, B0, C0)] := by
        rw [List.take_add_one]
        congr 1
        rw [eLB, List.getElem?_map, List.getElem?_range hil]
        simp only [Option.map_some, Option.toList]
        rw [eK, eA, eB, eC]
      have ltk : (L ++ LB.take i).length = L.length + i := by rw [List.length_append, List.length_take]; omega
      have go : ∀ (k2 a2 b2 c2 : Int32), (k2, a2, b2, c2) = shN q L.length G.length (K0, A0, B0, C0) → g_E cx (d + 1) i_Mo_node [.ref (ad 144), .int 48, .int k2, .int a2, .int b2, .int c2] u (fun rr u1 => ∃ y2 : Int32, rr = some (.int y2) ∧ Lay u1 ad ∧ (vp_in (nI i) 1300 ∧ (∀ t3, t3 = g_si u1 (ad 180) (nI i).toNatClampNeg y2 → g_W cx (g_E cx (d + 1)) mt_Mo_replace post (73, [some (.ref (ad 144)), some (.int (nI xf)), some (.int (nI (1300 * xf + r))), some (.int (nI h)), some (.int 48), some (.int (nI q)), some (.int (nI (24 + h))), some (.int (nI L.length)), some (.int (nI G.length)), some (.int (nI i + 1)), some (.int (nI (1300 * (24 + h) + i)))], [], t3, 0, 0)))) := by
        intro k2 a2 b2 c2 e2
        refine m_enode hF.L hR (by omega) (fun u2 F2 E2 => ⟨_, rfl, F2.L, hvi, fun t3 e3 => ?_⟩)
        rw [nI_1]
        have F3 : gFr ad (fun c _ => Nat.beq c 180) u2 t3 := by rw [e3]; exact (gFr.rf F2.L).si (by rfl)
        refine ih (i + 1) t3 _ (by omega) ((hF.tr (me F2)).tr (F3.mo (fun c k q => mrP_t (Or.inr (Nat.eq_of_beq_eq_true q))))) ?_
        rw [etk, ← List.append_assoc, ← e2]
        exact E2.fr F3 (fun c k h1 h2 => Bool.eq_false_iff.mpr (fun z => by have := Nat.eq_of_beq_eq_true z; omega))
      refine x_Mo_replace_73 hF.L ?_
      rw [nI_clamp (n := 24 + h) (by omega), r148 hF, ix i]
      refine ⟨hve, fun z => absurd z (nI_ge (by omega) (by omega)), fun _ x3 e3 => ?_⟩
      subst e3
      rw [nI_clamp (n := 1300 * (24 + h) + i) (by omega), uK]
      refine ⟨hvy, fun c => ?_, fun c => ?_, fun c => ?_, fun c => ?_, fun c => ?_, fun c => ?_, fun c => ?_⟩
      · refine x_Mo_replace_176 hF.L ⟨hvy, ?_⟩
        rw [nI_clamp (n := 1300 * (24 + h) + i) (by omega), uA]
        exact go _ _ _ _ (by unfold shN; rw [if_pos c])
      · refine x_Mo_replace_202 hF.L ⟨hvy, ?_⟩
        rw [nI_clamp (n := 1300 * (24 + h) + i) (by omega), uA]
        exact go _ _ _ _ (by unfold shN; dsimp only; rw [if_neg (by rw [c]; decide), if_pos c])
      · refine x_Mo_replace_273 hF.L ⟨hvy, hvy, ?_⟩
        rw [nI_clamp (n := 1300 * (24 + h) + i) (by omega), uA, uK]
        exact go _ _ _ _ (by unfold shN; dsimp only; rw [if_neg (by rcases c with c | c <;> rw [c] <;> decide), if_neg (by rcases c with c | c <;> rw [c] <;> decide), if_pos c])
      · refine x_Mo_replace_308 hF.L ⟨hvy, hvy, hvy, ?_⟩
        rw [nI_clamp (n := 1300 * (24 + h) + i) (by omega), uA, uB, uC]
        exact go _ _ _ _ (by unfold shN; dsimp only; rw [if_neg (by rw [c]; decide), if_neg (by rw [c]; decide), if_neg (by rw [c]; decide), if_pos c])
      · refine x_Mo_replace_356 hF.L ⟨hvy, hvy, hvy, ?_⟩
        rw [nI_clamp (n := 1300 * (24 + h) + i) (by omega), uA, uB, uC]
        exact go _ _ _ _ (by unfold shN; dsimp only; rw [if_neg (by rw [c]; decide), if_neg (by rw [c]; decide), if_neg (by rw [c]; decide), if_neg (by rw [c]; decide), if_pos c])
      · refine x_Mo_replace_231 hF.L ⟨hvy, hvy, hvy, ?_⟩
        rw [nI_clamp (n := 1300 * (24 + h) + i) (by omega), uA, uB, uC]
        exact go _ _ _ _ (by unfold shN; dsimp only; rw [if_neg (by rw [c]; decide), if_neg (by rw [c]; decide), if_neg (by rw [c]; decide), if_neg (by rw [c]; decide), if_neg (by rw [c]; decide), if_pos c])
      · refine x_Mo_replace_404 hF.L ⟨hvy, hvy, hvy, ?_⟩
        rw [nI_clamp (n := 1300 * (24 + h) + i) (by omega), uA, uB, uK]
        have hne : ∀ y : Int32, y = 1 ∨ y = 2 ∨ y = 10 ∨ y = 11 ∨ y = 13 ∨ y = 14 ∨ y = 15 → ¬ K0 = y := fun y hy e => by
          rw [e] at c
          rcases hy with h | h | h | h | h | h | h <;> rw [h] at c <;> revert c <;> decide
        exact go _ _ _ _ (by
          unfold shN
          dsimp only
          rw [if_neg (hne 1 (by decide)), if_neg (hne 2 (by decide)), if_neg (fun z => z.elim (hne 10 (by decide)) (hne 11 (by decide))), if_neg (hne 13 (by decide)), if_neg (hne 14 (by decide)), if_neg (hne 15 (by decide))])
  -- the arguments
  have args : ∀ m i (u : gSt) (o : Option Value), m + i = NB → gFr ad mrP t u → RE ad L (G ++ YG.take i) u → g_W cx (g_E cx (d + 1)) mt_Mo_replace post (27, [some (.ref (ad 144)), some (.int (nI xf)), some (.int (nI (1300 * xf + r))), some (.int (nI h)), some (.int 48), some (.int (nI q)), some (.int (nI (24 + h))), some (.int (nI L.length)), some (.int (nI G.length)), some (.int (nI i)), o], [], u, 0, 0) := by
    intro m
    induction m with
    | zero =>
      intro i u o hi hF hR
      rw [List.take_of_length_le (by omega)] at hR
      refine x_Mo_replace_27 hF.L ?_
      rw [nI_clamp (n := 24 + h) (by omega), r156 hF]
      refine ⟨hve, fun _ => nodes (fo_n B) 0 u _ (by omega) hF (by rw [List.take_zero, List.append_nil]; exact hR), fun z => absurd (nI_le (by omega) (by omega)) z⟩
    | succ m ih =>
      intro i u o hi hF hR
      have hil : i < NB := by omega
      refine x_Mo_replace_27 hF.L ?_
      rw [nI_clamp (n := 24 + h) (by omega), r156 hF, ix i, nI_clamp (n := 1300 * (24 + h) + i) (by omega), rowB hF 155 _ (by decide) (by decide) (by omega), nI_1 i]
      refine ⟨hve, fun z => absurd z (nI_ge (by omega) (by omega)), fun _ => ⟨vp_in_nI (by omega) (by omega), m_earg hF.L hR (by rw [List.length_append, List.length_take]; omega) (fun u2 F2 E2 => ⟨_, rfl, F2.L, ih (i + 1) u2 _ (by omega) (hF.tr (me F2)) ?_⟩)⟩⟩
      have : YG.take (i + 1) = YG.take i ++ [nI L.length + t.2.1 (ad 155) (1300 * (24 + h) + i)] := by
        rw [List.take_add_one]
        congr 1
        rw [eYG, List.getElem?_map, List.getElem?_range hil]
        rfl
      rw [this, ← List.append_assoc]
      exact E2
  exact args NB 0 t none (by omega) (gFr.rf hL) (by rw [List.take_zero, List.append_nil]; exact hE)
end MQ
