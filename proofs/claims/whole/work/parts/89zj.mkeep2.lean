/-! FOLDING, the model: the nodes of an expression; whether a variable stands in it -/
section ML
variable {cx : gCx} {d : Nat} {ad : Nat → Nat} {t : gSt} {post : Option Value → gSt → Prop} {L : List ND} {G : List Int32} {n : Nat} {par : Int32 → Nat} {C : Int32 → Int32 → Prop}
theorem REy.mk {u : gSt} (h : REy ad 48 L G t) (hF : gFr ad mkP t u) : REy ad 48 L G u := by
  obtain ⟨a1, a2, a3, a4⟩ := h
  refine ⟨by rw [hF.i 148 48 (mkP_r (by decide))]; exact a1, by rw [hF.i 156 48 (mkP_r (by decide))]; exact a2, fun i q hq => ?_, fun i a ha => by rw [hF.i 155 _ (mkP_r (by decide))]; exact a4 i a ha⟩
  rw [hF.i 151 _ (mkP_r (by decide)), hF.i 152 _ (mkP_r (by decide)), hF.i 153 _ (mkP_r (by decide)), hF.i 154 _ (mkP_r (by decide))]
  exact a3 i q hq
theorem k_forest {a2 : Int32} (hL13 : L.length ≤ 1300) (hG13 : G.length ≤ 1300) : ∀ (F : Fo) (lo hi : Nat) (u : gSt), rpd L G F → fo_v n par C F → (zq F).Pairwise (· < ·) → (∀ q ∈ zq F, lo ≤ q ∧ q < hi) → lo ≤ hi → hi ≤ L.length → Lay u ad → REy ad 48 L G u → (∀ i, lo ≤ i → i < hi → u.2.1 (ad 179) i = b32 (decide (i ∈ zr F))) →
    (∀ w, gFr ad mkP u w → (∀ i, w.2.1 (ad 179) i = if lo ≤ i ∧ i < hi then b32 (decide (i ∈ zq F)) else u.2.1 (ad 179) i) → kHd cx d ad post a2 lo w) → kHd cx d ad post a2 hi u
  | .leaf, lo, hi, u, _, _, _, _, hlh, hhi, hL, _, hz, h => by
    have hz' : ∀ i, lo ≤ i → i < hi → u.2.1 (ad 179) i = 0 := fun i h1 h2 => hz i h1 h2
    refine k_skip (hi - lo) hi u hL (by omega) (by omega) hz' (h u (gFr.rf hL) (fun i => ?_))
    split
    · rename_i c
      exact hz' i c.1 c.2
    · rfl
  | .inner z k v a b, lo, hi, u, hr, hv, hp, hq, hlh, hhi, hL, hE, hz, h => by
    have eq : zq (.inner z k v a b) = zq a ++ z :: zq b := rfl
    have ez : zr (.inner z k v a b) = z :: zr b := rfl
    rw [eq] at hp hq
    have hp' := List.pairwise_append.mp hp
    have hpb := List.pairwise_cons.mp hp'.2.1
    have hz0 := hq z (List.mem_append.mpr (Or.inr (List.mem_cons_self ..)))
    have hbq : ∀ q ∈ zq b, z + 1 ≤ q ∧ q < hi := fun q hq' => ⟨hpb.1 q hq', (hq q (List.mem_append.mpr (Or.inr (List.mem_cons_of_mem _ hq')))).2⟩
    have haq : ∀ q ∈ zq a, lo ≤ q ∧ q < z := fun q hq' => ⟨(hq q (List.mem_append.mpr (Or.inl hq'))).1, hp'.2.2 q hq' z (List.mem_cons_self ..)⟩
    rw [ez] at hz
    refine k_forest hL13 hG13 b (z + 1) hi u hr.2.2 hv.2.2 hpb.2 hbq (by omega) hhi hL hE (fun i h1 h2 => ?_) (fun w1 F1 v1 => ?_)
    · rw [hz i (by omega) h2]
      have : (i ∈ z :: zr b) ↔ i ∈ zr b := ⟨fun c => (List.mem_cons.mp c).resolve_left (by omega), List.mem_cons_of_mem _⟩
      rw [decide_eq_decide.mpr this]
    · have w1z : w1.2.1 (ad 179) z = 1 := by
        rw [v1, if_neg (by omega), hz z hz0.1 hz0.2, decide_eq_true (List.mem_cons_self ..)]
        rfl
      refine k_node (par := par) (rs := zr a) (k := k) (v := v) (by omega) F1.L (hE.mk F1) (by omega) hG13 hv.1.1 (by rw [zr_l]; exact hv.1.2.1) hr.2.1 (fun r hr' => by have := haq r (zr_sub a r hr'); omega) w1z (fun w2 F2 v2 => ?_)
      refine k_forest hL13 hG13 a lo z w2 hr.1 hv.2.1 hp'.1 haq hz0.1 (by omega) F2.L ((hE.mk F1).mk F2) (fun i h1 h2 => ?_) (fun w3 F3 v3 => h w3 ((F1.tr F2).tr F3) (fun i => ?_))
      · rw [v2]
        by_cases c : i ∈ zr a
        · rw [if_pos c, decide_eq_true c]; rfl
        · rw [if_neg c, decide_eq_false c, v1, if_neg (by omega), hz i h1 (by omega), decide_eq_false (fun z' => by
            rcases List.mem_cons.mp z' with z' | z'
            · omega
            · have := hbq i (zr_sub b i z'); omega)]
      · rw [v3, eq]
        by_cases ca : lo ≤ i ∧ i < z
        · rw [if_pos ca, if_pos (by omega)]
          have : i ∈ zq a ++ z :: zq b ↔ i ∈ zq a := ⟨fun c => by
            rcases List.mem_append.mp c with c | c
            · exact c
            · rcases List.mem_cons.mp c with c | c
              · omega
              · have := hbq i c; omega, fun c => List.mem_append.mpr (Or.inl c)⟩
          rw [decide_eq_decide.mpr this]
        · rw [if_neg ca, v2, if_neg (fun c => ca (by have := haq i (zr_sub a i c); omega)), v1]
          by_cases cz : i = z
          · rw [if_neg (by omega), if_pos (by omega), hz i (by omega) (by omega), cz, decide_eq_true (List.mem_cons_self ..), decide_eq_true (List.mem_append.mpr (Or.inr (List.mem_cons_self ..)))]
          · by_cases cb : z + 1 ≤ i ∧ i < hi
            · rw [if_pos cb, if_pos (by omega)]
              have : i ∈ zq a ++ z :: zq b ↔ i ∈ zq b := ⟨fun c => by
                rcases List.mem_append.mp c with c | c
                · have := haq i c; omega
                · rcases List.mem_cons.mp c with c | c
                  · omega
                  · exact c, fun c => List.mem_append.mpr (Or.inr (List.mem_cons_of_mem _ c))⟩
              rw [decide_eq_decide.mpr this]
            · rw [if_neg cb, if_neg (by omega)]
/-- keepParts over the row -/
theorem m_keep {F : Fo} {z hi : Nat} (hL13 : L.length ≤ 1300) (hG13 : G.length ≤ 1300) (hL : Lay t ad) (hE : REy ad 48 L G t) (hz : zr F = [z]) (hr : rpd L G F) (hv : fo_v n par C F) (hp : (zq F).Pairwise (· < ·)) (hq : ∀ q ∈ zq F, q < hi) (hhi : hi ≤ L.length) (h0 : 0 < hi) (h179 : ∀ i, i < hi → t.2.1 (ad 179) i = b32 (decide (i = z)))
    (h : ∀ w, gFr ad mkP t w → (∀ i, i < hi → w.2.1 (ad 179) i = b32 (decide (i ∈ zq F))) → post none w) : g_E cx (d + 1) i_Mo_keepParts [.ref (ad 144), .int (nI 48), .int (nI (hi - 1))] t post := by
  refine x_Mo_keepParts hL ?_
  have := k_forest (cx := cx) (d := d) (post := post) (a2 := nI (hi - 1)) hL13 hG13 F 0 hi t hr hv hp (fun q h => ⟨Nat.zero_le _, hq q h⟩) (Nat.zero_le _) hhi hL hE (fun i _ hi' => by rw [h179 i hi', hz]; simp only [List.mem_singleton]) (fun w Fw hw o4 o5 => ?_)
  · have := this none none
    rw [show hi = hi - 1 + 1 by omega, nI_m1, Nat.add_sub_cancel] at this
    exact this
  · refine x_Mo_keepParts_2 Fw.L ⟨fun _ => h w Fw (fun i hi' => by rw [hw i, if_pos ⟨Nat.zero_le _, hi'⟩]), fun c => absurd (by decide) c⟩
/-- whether the variable stands in the expression -/
theorem m_stands48 {F : Fo} {z : Nat} {v : Int32} (hL13 : L.length ≤ 1300) (hG13 : G.length ≤ 1300) (hL : Lay t ad) (hE : REy ad 48 L G t) (hz : zr F = [z]) (hr : rpd L G F) (hv : fo_v n par C F) (hp : (zq F).Pairwise (· < ·)) (hq : ∀ q ∈ zq F, q ≤ z) (hzL : z < L.length)
    (h : ∀ w, gFr ad mkP t w → post (some (.int (b32 (decide ((2, v) ∈ fo_p F))))) w) : g_E cx (d + 2) i_Mo_stands [.ref (ad 144), .int (nI 48), .int (nI z), .int v] t post := by
  refine x_Mo_stands hL ?_
  have second : ∀ (j i : Nat) (u : gSt), i + j = z + 1 → gFr ad mkP t u → (∀ i, i < z + 1 → u.2.1 (ad 179) i = b32 (decide (i ∈ zq F))) → (∀ i', i' < i → i' ∈ zq F → ¬ (nK L i' = 2 ∧ nA L i' = v)) → g_W cx (g_E cx (d + 1)) mt_Mo_stands post (42, [some (.ref (ad 144)), some (.int (nI 48)), some (.int (nI z)), some (.int v), some (.int (nI i))], [], u, 0, 0) := by
    intro j
    induction j with
    | zero =>
      intro i u hi hF hw hn
      refine x_Mo_stands_42 hF.L ⟨fun _ => ?_, fun c => absurd (nI_lt (by omega) (by omega)) c⟩
      have := h u hF
      rw [decide_eq_false (fun c => by
        obtain ⟨i', i1, i2, i3⟩ := (rpd_std F hr).mpr c
        exact hn i' (by have := hq i' i1; omega) i1 ⟨i2, i3⟩)] at this
      exact this
    | succ j ih =>
      intro i u hi hF hw hn
      have hEu := hE.mk hF
      obtain ⟨q, hq'⟩ : ∃ q, L[i]? = some q := ⟨_, List.getElem?_eq_getElem (by omega)⟩
      obtain ⟨p1, p2, _, _⟩ := hEu.2.2.1 i q hq'
      have k1 : nK L i = q.1 := by unfold nK; rw [hq']; rfl
      have k2 : nA L i = q.2.1 := by unfold nA; rw [hq']; rfl
      have nxt : ¬ (i ∈ zq F ∧ nK L i = 2 ∧ nA L i = v) → g_W cx (g_E cx (d + 1)) mt_Mo_stands post (42, [some (.ref (ad 144)), some (.int (nI 48)), some (.int (nI z)), some (.int v), some (.int (nI i + 1))], [], u, 0, 0) := fun hh => by
        rw [nI_1]
        exact ih (i + 1) u (by omega) hF hw (fun i' h1 h2 h3 => by
          by_cases c : i' = i
          · rw [c] at h2 h3; exact hh ⟨h2, h3⟩
          · exact hn i' (by omega) h2 h3)
      refine x_Mo_stands_42 hF.L ⟨fun c => absurd c (nI_nlt (by omega) (by omega)), fun _ => ⟨vp_in_nI (by omega) (by omega), ?_⟩⟩
      rw [nI_clamp (n := i) (by omega), hw i (by omega), ix13, nI_clamp (n := 1300 * 48 + i) (by omega), p1, p2, ← k1, ← k2]
      refine ⟨fun c => nxt (fun z' => ?_), fun c => ⟨vp_in_nI (by omega) (by omega), fun c2 => nxt (fun z' => c2 z'.2.1), fun c2 => ⟨vp_in_nI (by omega) (by omega), fun c3 => nxt (fun z' => c3 z'.2.2), fun c3 => ?_⟩⟩⟩
      · rw [decide_eq_true z'.1] at c
        exact absurd c (by decide)
      · have hm : i ∈ zq F := by
          by_cases z' : i ∈ zq F
          · exact z'
          · rw [decide_eq_false z'] at c
            exact absurd rfl c
        have := h u hF
        rw [decide_eq_true ((rpd_std F hr).mp ⟨i, hm, Classical.not_not.mp c2, Classical.not_not.mp c3⟩)] at this
        exact this
  have first : ∀ (j i : Nat) (u : gSt), i + j = z + 1 → gFr ad mkP t u → (∀ i', i' < i → u.2.1 (ad 179) i' = b32 (decide (i' = z))) → g_W cx (g_E cx (d + 1)) mt_Mo_stands post (3, [some (.ref (ad 144)), some (.int (nI 48)), some (.int (nI z)), some (.int v), some (.int (nI i))], [], u, 0, 0) := by
    intro j
    induction j with
    | zero =>
      intro i u hi hF hw
      refine x_Mo_stands_3 hF.L ⟨fun _ => ?_, fun c => absurd (nI_lt (by omega) (by omega)) c⟩
      have := m_keep (cx := cx) (d := d) (hi := z + 1) (post := fun r u1 => r = none ∧ Lay u1 ad ∧ (g_W cx (g_E cx (d + 1)) mt_Mo_stands post (42, [some (.ref (ad 144)), some (.int (nI 48)), some (.int (nI z)), some (.int v), some (.int (nI 0))], [], u1, 0, 0))) hL13 hG13 hF.L (hE.mk hF) hz hr hv hp (fun q h => by have := hq q h; omega) (by omega) (by omega) (fun i' h' => hw i' (by omega)) (fun w Fw hw' => ⟨rfl, Fw.L, second (z + 1) 0 w (by omega) (hF.tr Fw) hw' (fun i' h' => by omega)⟩)
      exact this
    | succ j ih =>
      intro i u hi hF hw
      refine x_Mo_stands_3 hF.L ⟨fun c => absurd c (nI_nlt (by omega) (by omega)), fun _ => ?_⟩
      rw [nI_eq (by omega) (by omega), nI_clamp (by omega), nI_1]
      have nx : ∀ (t3 : gSt) (x : Int32), t3 = g_si u (ad 179) i x → x = b32 (decide (i = z)) → g_W cx (g_E cx (d + 1)) mt_Mo_stands post (3, [some (.ref (ad 144)), some (.int (nI 48)), some (.int (nI z)), some (.int v), some (.int (nI (i + 1)))], [], t3, 0, 0) := fun t3 x e3 ex => by
        refine ih (i + 1) t3 (by omega) (by rw [e3]; exact hF.si mkP_t) (fun i' h' => ?_)
        rw [e3]
        by_cases c : i' = i
        · rw [c, g_rd_at, ex]
        · rw [g_rd_k c]
          exact hw i' (by omega)
      refine ⟨fun c => ⟨vp_in_nI (by omega) (by omega), fun t3 e3 => nx t3 _ e3 ?_⟩, fun c => ⟨vp_in_nI (by omega) (by omega), fun t3 e3 => nx t3 _ e3 ?_⟩⟩
      · rw [decide_eq_false c]; rfl
      · rw [decide_eq_true (Classical.not_not.mp c)]; rfl
  exact first (z + 1) 0 t (by omega) (gFr.rf hL) (fun i' h' => by omega)
end ML
