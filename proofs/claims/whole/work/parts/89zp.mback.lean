/-! FOLDING, the model: what is kept goes back -/
def mvP (x c k : Nat) : Bool := meY x c k || Nat.beq c 177
theorem mvP_in {x c k : Nat} (h : mvP x c k = true) : (151 ≤ c ∧ c ≤ 155 ∧ 1300 * x ≤ k ∧ k ≤ 1300 * x + 1299) ∨ ((c = 148 ∨ c = 156) ∧ k = x) ∨ c = 177 := by
  unfold mvP at h
  rw [Bool.or_eq_true, Nat.beq_eq] at h
  rcases h with h | h
  · have := meY_in h; omega
  · omega
theorem mvP_t {x c k : Nat} (h : meY x c k = true ∨ c = 177) : mvP x c k = true := by
  unfold mvP
  rw [Bool.or_eq_true, Nat.beq_eq]
  exact h
theorem mvP_r {x c k : Nat} (h : ¬ ((151 ≤ c ∧ c ≤ 155 ∧ 1300 * x ≤ k ∧ k ≤ 1300 * x + 1299) ∨ ((c = 148 ∨ c = 156) ∧ k = x) ∨ c = 177)) : mvP x c k = false := by
  cases e : mvP x c k with
  | false => rfl
  | true => exact absurd (mvP_in e) h
theorem fz_r : ∀ (F : Fo) (o : Nat), fo_r (fz F) o = fo_r F o
  | .leaf, _ => rfl
  | .inner z k v a b, o => by simp only [fz, fo_r, fz_n, fz_r b]
theorem fz_m {K A B C G : Nat → Int32} {N : Nat} : ∀ (F : Fo) (o : Nat), fo_m K A B C G N id (fz F) o ↔ fo_m K A B C G N id F o
  | .leaf, _ => Iff.rfl
  | .inner z k v a b, o => by simp only [fz, fo_m, fz_n, fz_r, fz_m a, fz_m b]
theorem REy.mBn {ad : Nat → Nat} {t : gSt} {y : Nat} {L : List ND} {G : List Int32} {F : Fo} (h : REy ad y L G t) (hf : fmL L G F 0) (hl : L.length = fo_n F) (hg : G.length < fo_n F) : mBn t ad y F := by
  obtain ⟨a1, a2, a3, a4⟩ := h
  refine ⟨by rw [a1, hl], G.length, a2, hg, ?_⟩
  refine fo_m_cg (fun i hi => ?_) (Nat.le_refl _) F 0 hf (fun m _ hm => ?_)
  · unfold aG
    obtain ⟨a, ha⟩ : ∃ a, G[i]? = some a := ⟨_, List.getElem?_eq_getElem hi⟩
    rw [ha]
    exact a4 i a ha
  · obtain ⟨q, hq⟩ : ∃ q, L[m]? = some q := ⟨_, List.getElem?_eq_getElem (by omega)⟩
    have := a3 m q hq
    unfold nK nA nBb nC
    rw [hq]
    exact this
section MB
variable {cx : gCx} {d : Nat} {ad : Nat → Nat} {t1 : gSt} {post : Option Value → gSt → Prop} {n x M0 cnt : Nat} {par : Int32 → Nat} {L : List ND} {G : List Int32} {C : Int32 → Int32 → Prop}
abbrev HdB (cx : gCx) (d : Nat) (ad : Nat → Nat) (post : Option Value → gSt → Prop) (x M0 cnt i : Nat) (t : gSt) : Prop := g_W cx (g_E cx (d + 3)) mt_Mo_fold post (223, [some (.ref (ad 144)), some (.int (nI x)), some (.int (nI 48)), some (.int (nI M0)), some (.int (nI cnt)), some (.int (nI x)), some (.int (nI i))], [], t, 0, 0)
theorem b_skip {hi : Nat} (hc : cnt ≤ 1300) : ∀ (j lo : Nat) (u : gSt), Lay u ad → lo + j = hi → hi ≤ cnt → (∀ i, lo ≤ i → i < hi → u.2.1 (ad 179) i = 0) → HdB cx d ad post x M0 cnt hi u → HdB cx d ad post x M0 cnt lo u
  | 0, lo, u, _, e, _, _, h => by
    rw [show lo = hi by omega]
    exact h
  | j + 1, lo, u, hL, e, h2, hz, h => by
    refine x_Mo_fold_223 hL ⟨fun c => absurd c (nI_ge (by omega) (by omega)), fun _ => ⟨vp_in_nI (by omega) (by omega), fun _ => ?_, fun c => ?_⟩⟩
    · rw [nI_1]
      exact b_skip hc j (lo + 1) u hL (by omega) h2 (fun i h1 h2 => hz i (by omega) h2) h
    · rw [nI_clamp (by omega)] at c
      exact absurd (hz lo (Nat.le_refl _) (by omega)) c
theorem rowK48 {z : Nat} {k v : Int32} {rs : List Nat} {u : gSt} (hE : REy ad 48 L G u) (hz : z < L.length) (h : fo_k (nK L) (nA L) (nBb L) (nC L) (aG G) G.length id z k v rs) : rowK u ad 48 G.length z k v rs := by
  obtain ⟨q, hq⟩ : ∃ q, L[z]? = some q := ⟨_, List.getElem?_eq_getElem hz⟩
  have := hE.2.2.1 z q hq
  refine fo_k_cg h ?_ (fun i hi => ?_) (Nat.le_refl _)
  · unfold nK nA nBb nC
    rw [hq]
    exact this
  · unfold aG
    obtain ⟨a, ha⟩ : ∃ a, G[i]? = some a := ⟨_, List.getElem?_eq_getElem hi⟩
    rw [ha]
    exact hE.2.2.2 i a ha
theorem b_forest (hx : x < 48) (hcn : cnt = L.length) (hL13 : L.length ≤ 1300) (hG13 : G.length ≤ 1300) (hE : REy ad 48 L G t1) : ∀ (F : Fo) (lo hi : Nat) (L2 : List ND) (G2 : List Int32) (u : gSt), rpd L G F → fo_v n par C F → (zq F).Pairwise (· < ·) → (∀ q ∈ zq F, lo ≤ q ∧ q < hi) → lo ≤ hi → hi ≤ cnt → (∀ i, lo ≤ i → i < hi → t1.2.1 (ad 179) i = b32 (decide (i ∈ zq F))) → gFr ad (mvP x) t1 u → REy ad x L2 G2 u → L2.length + fo_n F ≤ 1300 → G2.length + fo_n F ≤ 1300 →
    (∀ w X Y, gFr ad (mvP x) t1 w → REy ad x (L2 ++ X) (G2 ++ Y) w → fmL (L2 ++ X) (G2 ++ Y) F L2.length → X.length = fo_n F → Y.length + fo_l F ≤ fo_n F → (∀ (j z r : Nat), (zr F)[j]? = some z → (fo_r F L2.length)[j]? = some r → w.2.1 (ad 177) z = nI r) → (∀ j, (j < lo ∨ hi ≤ j) → w.2.1 (ad 177) j = u.2.1 (ad 177) j) → HdB cx d ad post x M0 cnt hi w) → HdB cx d ad post x M0 cnt lo u
  | .leaf, lo, hi, L2, G2, u, _, _, _, _, hlh, hhi, hz, hF, hE2, _, _, h => by
    refine b_skip (by omega) (hi - lo) lo u hF.L (by omega) hhi (fun i h1 h2 => by rw [hF.i 179 i (mvP_r (by omega))]; exact hz i h1 h2) (h u [] [] hF (by rw [List.append_nil, List.append_nil]; exact hE2) trivial rfl (Nat.le_refl _) (fun j z r hz => by cases hz) (fun _ _ => rfl))
  | .inner z k v a b, lo, hi, L2, G2, u, hr, hv, hp, hq, hlh, hhi, hz, hF, hE2, hl2, hg2, h => by
    have eq : zq (.inner z k v a b) = zq a ++ z :: zq b := rfl
    have ez : zr (.inner z k v a b) = z :: zr b := rfl
    have en : fo_n (.inner z k v a b) = fo_n a + 1 + fo_n b := rfl
    have el : fo_l (.inner z k v a b) = fo_l b + 1 := rfl
    rw [eq] at hp hq
    rw [en] at hl2 hg2
    have hp' := List.pairwise_append.mp hp
    have hpb := List.pairwise_cons.mp hp'.2.1
    have hz0 := hq z (List.mem_append.mpr (Or.inr (List.mem_cons_self ..)))
    have hbq : ∀ q ∈ zq b, z + 1 ≤ q ∧ q < hi := fun q hq' => ⟨hpb.1 q hq', (hq q (List.mem_append.mpr (Or.inr (List.mem_cons_of_mem _ hq')))).2⟩
    have haq : ∀ q ∈ zq a, lo ≤ q ∧ q < z := fun q hq' => ⟨(hq q (List.mem_append.mpr (Or.inl hq'))).1, hp'.2.2 q hq' z (List.mem_cons_self ..)⟩
    rw [eq] at hz
    refine b_forest hx hcn hL13 hG13 hE a lo z L2 G2 u hr.1 hv.2.1 hp'.1 haq hz0.1 (by omega) (fun i h1 h2 => ?_) hF hE2 (by omega) (by omega) (fun w1 X1 Y1 F1 E1 f1 x1 y1 mp1 n1 => ?_)
    · rw [hz i h1 (by omega)]
      have : i ∈ zq a ++ z :: zq b ↔ i ∈ zq a := ⟨fun c => by
        rcases List.mem_append.mp c with c | c
        · exact c
        · rcases List.mem_cons.mp c with c | c
          · omega
          · have := hbq i c; omega, fun c => List.mem_append.mpr (Or.inl c)⟩
      rw [decide_eq_decide.mpr this]
    · have lX1 : (L2 ++ X1).length = L2.length + fo_n a := by rw [List.length_append, x1]
      have lY1 : (G2 ++ Y1).length = G2.length + Y1.length := List.length_append ..
      have h179 : w1.2.1 (ad 179) z = 1 := by
        rw [F1.i 179 z (mvP_r (by omega)), hz z hz0.1 hz0.2, decide_eq_true (List.mem_append.mpr (Or.inr (List.mem_cons_self ..)))]
        rfl
      have E48 : REy ad 48 L G w1 := by
        obtain ⟨a1, a2, a3, a4⟩ := hE
        have o : ∀ c i, 148 ≤ c → c ≤ 156 → (c = 148 ∨ c = 156 → i = 48) → (151 ≤ c ∧ c ≤ 155 → 62400 ≤ i) → w1.2.1 (ad c) i = t1.2.1 (ad c) i := fun c i h1 h2 h3 h4 => F1.i c i (mvP_r (by omega)) (by omega)
        refine ⟨by rw [o 148 48 (by decide) (by decide) (by omega) (by omega)]; exact a1, by rw [o 156 48 (by decide) (by decide) (by omega) (by omega)]; exact a2, fun i q hq => ?_, fun i a ha => by rw [o 155 _ (by decide) (by decide) (by omega) (by omega)]; exact a4 i a ha⟩
        rw [o 151 _ (by decide) (by decide) (by omega) (by omega), o 152 _ (by decide) (by decide) (by omega) (by omega), o 153 _ (by decide) (by decide) (by omega) (by omega), o 154 _ (by decide) (by decide) (by omega) (by omega)]
        exact a3 i q hq
      have hlza : (zr a).length = fo_l a := zr_l a
      have hlra := fo_rl a L2.length
      have hM : ∀ (j y : Nat), (zr a)[j]? = some y → ∃ r, (fo_r a L2.length)[j]? = some r ∧ w1.2.1 (ad 177) y = nI r ∧ r < 1300 := fun j y hy => by
        have hj := (List.getElem?_eq_some_iff.mp hy).1
        have e : (fo_r a L2.length)[j]? = some ((fo_r a L2.length)[j]'(by omega)) := List.getElem?_eq_getElem (by omega)
        have := fo_r_in a L2.length _ (List.mem_of_getElem? e)
        exact ⟨_, e, mp1 j y _ hy e, by omega⟩
      have emap : (zr a).map (fun y => (w1.2.1 (ad 177) y).toNatClampNeg) = fo_r a L2.length := by
        refine List.ext_getElem? (fun j => ?_)
        rw [List.getElem?_map]
        cases hj : (zr a)[j]? with
        | none =>
          have : (zr a).length ≤ j := List.getElem?_eq_none_iff.mp hj
          rw [List.getElem?_eq_none (by omega)]
          rfl
        | some y =>
          obtain ⟨r, e1, e2, e3⟩ := hM j y hj
          rw [e1]
          show some ((w1.2.1 (ad 177) y).toNatClampNeg) = some r
          rw [e2, nI_clamp (by omega)]
      refine x_Mo_fold_223 F1.L ⟨fun c => absurd c (nI_ge (by omega) (by omega)), fun _ => ⟨vp_in_nI (by omega) (by omega), fun c => ?_, fun _ => ?_⟩⟩
      · rw [nI_clamp (by omega), h179] at c
        exact absurd c (by decide)
      · refine m_againY (d := d + 1) (par := par) (mp := fun y => (w1.2.1 (ad 177) y).toNatClampNeg) (by decide) (by omega) (by omega) (by omega) hG13 F1.L E1 (by omega) (by rw [hlza, lY1]; omega) hv.1.1 (by rw [hlza]; exact hv.1.2.1) (rowK48 E48 (by omega) hr.2.1) (fun q hq => by have := haq q (zr_sub a q hq); omega) (fun q hq => ?_) (fun u2 q G' F2 E2 hk2 hg2' => ⟨_, rfl, F2.L, vp_in_nI (by omega) (by omega), fun t3 e3 => ?_⟩)
        · obtain ⟨j, hj⟩ := List.getElem?_of_mem hq
          obtain ⟨r, e1, e2, e3⟩ := hM j q hj
          rw [e2, nI_clamp (by omega)]
        · rw [nI_clamp (by omega)] at e3
          rw [nI_1]
          rw [emap, lX1] at hk2
          have hG' : G'.length ≤ fo_l a := by rw [hg2', hlza]; split <;> omega
          have n3 : ∀ c k, c ≠ 177 → c < 199 → t3.2.1 (ad c) k = u2.2.1 (ad c) k := fun c k hc hl => by rw [e3, g_rd_ne (F2.L.ne c 177 hl (by decide) hc)]
          have F3 : gFr ad (mvP x) t1 t3 := by
            rw [e3]
            exact (F1.tr (F2.mo (fun c k q => mvP_t (Or.inl q)))).si (mvP_t (Or.inr rfl))
          have E3 : REy ad x (L2 ++ X1 ++ [q]) (G2 ++ Y1 ++ G') t3 := by
            obtain ⟨a1, a2, a3, a4⟩ := E2
            refine ⟨by rw [n3 148 x (by decide) (by decide)]; exact a1, by rw [n3 156 x (by decide) (by decide)]; exact a2, fun i q hq => ?_, fun i a ha => by rw [n3 155 _ (by decide) (by decide)]; exact a4 i a ha⟩
            rw [n3 151 _ (by decide) (by decide), n3 152 _ (by decide) (by decide), n3 153 _ (by decide) (by decide), n3 154 _ (by decide) (by decide)]
            exact a3 i q hq
          have v3 : ∀ j, t3.2.1 (ad 177) j = if j = z then nI (L2.length + fo_n a) else w1.2.1 (ad 177) j := fun j => by
            rw [e3]
            by_cases c : j = z
            · rw [if_pos c, c, g_rd_at, lX1]
            · rw [if_neg c, g_rd_k c, F2.i 177 j (meY_r (by omega))]
          have lX2 : (L2 ++ X1 ++ [q]).length = L2.length + fo_n a + 1 := by rw [List.length_append, lX1]; rfl
          have lY2 : (G2 ++ Y1 ++ G').length = G2.length + Y1.length + G'.length := by rw [List.length_append, lY1]
          refine b_forest hx hcn hL13 hG13 hE b (z + 1) hi (L2 ++ X1 ++ [q]) (G2 ++ Y1 ++ G') t3 hr.2.2 hv.2.2 hpb.2 hbq (by omega) hhi (fun i h1 h2 => ?_) F3 E3 (by omega) (by omega) (fun w4 X4 Y4 F4 E4 f4 x4 y4 mp4 n4 => ?_)
          · rw [hz i (by omega) h2]
            have : i ∈ zq a ++ z :: zq b ↔ i ∈ zq b := ⟨fun c => by
              rcases List.mem_append.mp c with c | c
              · have := haq i c; omega
              · rcases List.mem_cons.mp c with c | c
                · omega
                · exact c, fun c => List.mem_append.mpr (Or.inr (List.mem_cons_of_mem _ c))⟩
            rw [decide_eq_decide.mpr this]
          · have eX : L2 ++ X1 ++ [q] ++ X4 = L2 ++ (X1 ++ [q] ++ X4) := by simp
            have eY : G2 ++ Y1 ++ G' ++ Y4 = G2 ++ (Y1 ++ G' ++ Y4) := by simp
            refine h w4 (X1 ++ [q] ++ X4) (Y1 ++ G' ++ Y4) F4 (by rw [← eX, ← eY]; exact E4) ?_ ?_ ?_ (fun j z0 r0 hz0' hr0 => ?_) (fun j hj => ?_)
            · rw [← eX, ← eY]
              refine ⟨?_, ?_, ?_⟩
              · have := fmL_mo (X := [q] ++ X4) (Y := G' ++ Y4) f1 (by rw [lX1]; exact Nat.le_refl _)
                rw [← List.append_assoc, ← List.append_assoc] at this
                exact this
              · refine fo_k_cg hk2 ?_ (fun i hi => ?_) (Nat.le_trans (Nat.le_add_right _ Y4.length) (Nat.le_of_eq (List.length_append ..).symm))
                · unfold nK nA nBb nC
                  rw [List.getElem?_append_left (by rw [lX2]; omega)]
                  exact ⟨rfl, rfl, rfl, rfl⟩
                · unfold aG
                  rw [List.getElem?_append_left hi]
              · rw [← lX2]
                exact f4
            · rw [List.length_append, List.length_append, x1, x4, en]
              rfl
            · rw [List.length_append, List.length_append, en, el]
              omega
            · have er : fo_r (.inner z k v a b) L2.length = (L2.length + fo_n a) :: fo_r b (L2.length + fo_n a + 1) := rfl
              rw [er] at hr0
              rw [ez] at hz0'
              match j, hz0', hr0 with
              | 0, hz0', hr0 =>
                have e1 : z = z0 := by simpa using hz0'
                have e2 : L2.length + fo_n a = r0 := by simpa using hr0
                rw [n4 z0 (Or.inl (by omega)), v3, if_pos e1.symm, e2]
              | j + 1, hz0', hr0 =>
                rw [List.getElem?_cons_succ] at hz0' hr0
                rw [← lX2] at hr0
                exact mp4 j z0 r0 hz0' hr0
            · rw [n4 j (by omega), v3, if_neg (by omega), n1 j (by omega)]
end MB
