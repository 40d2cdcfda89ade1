/-! THE MODEL'S WRITER: the whole expression -/
theorem fo_ln : ∀ F : Fo, fo_l F ≤ fo_n F
  | .inner _ k v a b => by
    have := fo_ln b
    simp only [fo_l, fo_n]
    omega
  | .leaf => Nat.le_refl _
theorem op_len {nm : Int32 → List Nat} (hnm : ∀ v, (nm v).length ≤ 8) (k v : Int32) : (op_t nm k v).length ≤ 18 := by
  have h1 := dgs_len 10 v.toInt.natAbs
  have h2 := hnm v
  have h3 : (num_t v).length ≤ 13 := by
    unfold num_t
    split
    · simp; omega
    · omega
  have h4 : (var_t v).length ≤ 11 := by
    unfold var_t
    simp
    omega
  unfold op_t
  repeat' split
  all_goals first | omega | (simp; try omega)
theorem cl_len (k : Int32) : (cl_t k).length ≤ 1 := by
  unfold cl_t
  split <;> simp
theorem se_len (k : Int32) (i m : Nat) : (se_t k i m).length ≤ 6 := by
  unfold se_t ch_t
  repeat' split
  all_goals simp
theorem fo_tl {nm : Int32 → List Nat} (hnm : ∀ v, (nm v).length ≤ 8) : ∀ (F : Fo) (pk : Int32) (i m : Nat), (fo_t nm F pk i m).length ≤ 25 * fo_n F
  | .inner _ k v a b, pk, i, m => by
    have h1 := fo_tl hnm a k 0 (fo_l a)
    have h2 := fo_tl hnm b pk (i + 1) m
    have h3 := op_len hnm k v
    have h4 := cl_len k
    have h5 := se_len pk i m
    simp only [fo_t, List.length_append, fo_n]
    omega
  | .leaf, _, _, _ => by simp [fo_t]
theorem wd_ok : ∀ c, c < 113 → nB 256 (wd_t (nI c)) < 2 ^ 63 ∧ (∀ x ∈ wd_t (nI c), 0 < x ∧ x < 128) ∧ (wd_t (nI c)).length ≤ 8 := by decide +kernel
theorem se_wd {par : Int32 → Nat} {pk v : Int32} {i m : Nat} (hk : ∃ j, 1 ≤ j ∧ j ≤ 15 ∧ pk = nI j) (hm : m = k_ar par pk v) (hi : i + 1 < m) : se_t pk i m = wd_t (sc_t pk i) ∧ ∃ c, sc_t pk i = nI c ∧ (c ≤ 4 ∨ (103 ≤ c ∧ c ≤ 109) ∨ c = 112) := by
  obtain ⟨j, h1, h2, e⟩ := hk
  subst e
  have hcs : j = 1 ∨ j = 2 ∨ j = 3 ∨ j = 4 ∨ j = 5 ∨ j = 6 ∨ j = 7 ∨ j = 8 ∨ j = 9 ∨ j = 10 ∨ j = 11 ∨ j = 12 ∨ j = 13 ∨ j = 14 ∨ j = 15 := by omega
  unfold se_t
  rw [if_pos hi]
  rcases hcs with rfl | rfl | rfl | rfl | rfl | rfl | rfl | rfl | rfl | rfl | rfl | rfl | rfl | rfl | rfl
  · have : m = 0 := hm
    omega
  · have : m = 0 := hm
    omega
  · exact ⟨rfl, 103, rfl, by decide⟩
  · exact ⟨rfl, 104, rfl, by decide⟩
  · exact ⟨rfl, 105, rfl, by decide⟩
  · exact ⟨rfl, 106, rfl, by decide⟩
  · exact ⟨rfl, 107, rfl, by decide⟩
  · exact ⟨rfl, 108, rfl, by decide⟩
  · exact ⟨rfl, 109, rfl, by decide⟩
  · have : m = 1 := hm
    omega
  · have : m = 1 := hm
    omega
  · exact ⟨rfl, 112, rfl, by decide⟩
  · have : m = 3 := hm
    have hi2 : i = 0 ∨ i = 1 := by omega
    rcases hi2 with rfl | rfl
    · exact ⟨rfl, 1, rfl, by decide⟩
    · exact ⟨rfl, 2, rfl, by decide⟩
  · exact ⟨rfl, 3, rfl, by decide⟩
  · exact ⟨rfl, 4, rfl, by decide⟩
section MW
variable {cx : gCx} {d : Nat} {ad : Nat → Nat} {t0 : gSt} {post : Option Value → gSt → Prop} {nm : Int32 → List Nat} {par : Int32 → Nat} {x n N : Nat} {w0 g0 : Int32}
/-- a task is taken from the stack -/
theorem RT.pop {T : TK} {q : Int32 × Int32 × Int32} {t t1 : gSt} (hL : Lay t ad) (h : RT ad (T ++ [q]) t) (hl : T.length < 20000) (e : t1 = g_si t (ad 144) 29 ((t.2.1 (ad 144) 29) - 1)) : RT ad T t1 ∧ gFr ad tkP t t1 ∧ t1.2.1 (ad 144) 29 = nI T.length ∧ t1.2.1 (ad 159) T.length = q.1 ∧ t1.2.1 (ad 160) T.length = q.2.1 ∧ t1.2.1 (ad 161) T.length = q.2.2 := by
  have h1 : t.2.1 (ad 144) 29 = nI (T.length + 1) := by rw [h.1, List.length_append]; rfl
  rw [h1, nI_pred] at e
  have hq := h.2 T.length q (by simp)
  have ne : ∀ c k, c < 199 → c ≠ 144 → t1.2.1 (ad c) k = t.2.1 (ad c) k := fun c k hc hn => by rw [e, g_rd_ne (hL.ne c 144 hc (by decide) hn)]
  refine ⟨⟨by rw [e, g_rd_at], fun i q' hq' => ?_⟩, by rw [e]; exact (gFr.rf hL).si rfl, by rw [e, g_rd_at], ?_, ?_, ?_⟩
  · rw [ne 159 i (by decide) (by decide), ne 160 i (by decide) (by decide), ne 161 i (by decide) (by decide)]
    exact h.2 i q' (by rw [List.getElem?_append_left (List.getElem?_eq_some_iff.mp hq').1]; exact hq')
  · rw [ne 159 _ (by decide) (by decide)]; exact hq.1
  · rw [ne 160 _ (by decide) (by decide)]; exact hq.2.1
  · rw [ne 161 _ (by decide) (by decide)]; exact hq.2.2
abbrev HdW (cx : gCx) (d : Nat) (ad : Nat → Nat) (post : Option Value → gSt → Prop) (w0 g0 : Int32) (x : Nat) (t : gSt) : Prop := g_W cx (g_E cx (d + 4)) mt_Mo_write post (48, [some (.ref (ad 144)), some (.int w0), some (.int g0), some (.int (nI x)), none], [], t, 0, 0)
theorem w_sign {T : TK} {c : Nat} {l : List Nat} {t : gSt} (hF : gFr ad mwP t0 t) (hc : c ≤ 4 ∨ (103 ≤ c ∧ c ≤ 109) ∨ c = 112) (hT : RT ad (T ++ [(61, nI c, 0)]) t) (hl : T.length < 20000) (hQ : Qm ad l t) (hll : l.length < 2 ^ 28) (h : ∀ u, gFr ad mwP t0 u → RT ad T u → Qm ad (l ++ wd_t (nI c)) u → HdW cx d ad post w0 g0 x u) : HdW cx d ad post w0 g0 x t := by
  have h1 : t.2.1 (ad 144) 29 = nI (T.length + 1) := by rw [hT.1, List.length_append]; rfl
  refine x_Mo_write_48 hF.L ⟨fun q => ?_, fun _ t1 e1 => ?_⟩
  · rw [h1] at q
    exact absurd q (nI_nle (by omega) (by omega))
  · obtain ⟨p1, p2, p3, p4, p5, p6⟩ := hT.pop hF.L hl e1
    have hF1 := hF.tr p2.mt
    have q1 := hQ.mt p2
    rw [p3, nI_clamp (by omega), p4, p5]
    have hv := vp_in_nI (N := 20000) hl (by omega)
    refine ⟨hv, fun q => absurd rfl q, fun _ => ⟨hv, ?_⟩⟩
    obtain ⟨k1, k2, k3⟩ := wd_ok c (by omega)
    refine m_wordOf hF1.L hc ⟨_, rfl, hF1.L, ?_⟩
    exact m_putLW _ rfl k1 k2 k3 hF1 p1 q1 (by omega) (fun u F R q => ⟨rfl, F.L, h u F R q⟩)
theorem w_node {T : TK} {r : Nat} {k v : Int32} {rs : List Nat} {l : List Nat} {t : gSt} (hx : x < 72) (hr : r < 1300) (hN : N ≤ 1300) (hF : gFr ad mwP t0 t) (hk : ∃ j, 1 ≤ j ∧ j ≤ 15 ∧ k = nI j) (hC : vC k v) (har : rs.length = k_ar par k v) (hpar : par v ≤ 24) (hg : k = 15 → ∃ g, v = nI g ∧ g < 24 ∧ t0.2.2.1 (ad 146) g = pk6 (nm v) ∧ nm_ok (nm v))
    (hm : fo_k (fun i => t0.2.1 (ad 151) (1300 * x + i)) (fun i => t0.2.1 (ad 152) (1300 * x + i)) (fun i => t0.2.1 (ad 153) (1300 * x + i)) (fun i => t0.2.1 (ad 154) (1300 * x + i)) (fun i => t0.2.1 (ad 155) (1300 * x + i)) N id r k v rs) (hT : RT ad (T ++ [(60, nI r, 0)]) t) (hl : T.length + 100 < 20000) (hQ : Qm ad l t) (hll : l.length < 2 ^ 28) (h : ∀ u, gFr ad mwP t0 u → RT ad (T ++ nd_k k rs) u → Qm ad (l ++ op_t nm k v) u → HdW cx d ad post w0 g0 x u) : HdW cx d ad post w0 g0 x t := by
  have h1 : t.2.1 (ad 144) 29 = nI (T.length + 1) := by rw [hT.1, List.length_append]; rfl
  have hrs : rs.length ≤ 24 := by
    rw [har]
    unfold k_ar
    split
    · omega
    · split
      · omega
      · split
        · omega
        · split <;> omega
  refine x_Mo_write_48 hF.L ⟨fun q => ?_, fun _ t1 e1 => ?_⟩
  · rw [h1] at q
    exact absurd q (nI_nle (by omega) (by omega))
  · obtain ⟨p1, p2, p3, p4, p5, p6⟩ := hT.pop hF.L (by omega) e1
    have hF1 := hF.tr p2.mt
    have q1 := hQ.mt p2
    rw [p3, nI_clamp (by omega), p4, p5]
    have hv := vp_in_nI (n := T.length) (N := 20000) (by omega) (by omega)
    refine ⟨hv, fun _ => ⟨hv, ?_⟩, fun q => absurd (show ¬ (60 : Int32) = 61 by decide) q⟩
    refine m_writeOne hx hr hN hF1 hk hC ⟨fun c => ?_, fun c => ?_, fun c => ?_, fun c => ?_⟩ hg hm (by omega) p1 q1 hll (by omega) (fun u F R q => ⟨rfl, F.L, h u F R q⟩)
    · rw [har]; exact if_pos c
    · rw [har]; rcases c with rfl | rfl <;> rfl
    · rw [har]; subst c; rfl
    · rw [har]
      unfold k_ar
      rw [if_neg (fun z => c (by rcases z with z | z; exact Or.inl z; exact Or.inr (Or.inl z))), if_neg (fun z => c (by rcases z with z | z; exact Or.inr (Or.inr (Or.inl z)); exact Or.inr (Or.inr (Or.inr (Or.inl z))))), if_neg (fun z => c (by simp [z])), if_neg (fun z => c (by simp [z]))]
theorem w_visit (hx : x < 72) (hN : N ≤ 1300) (hpar : ∀ v, par v ≤ 24) (hnm8 : ∀ v, (nm v).length ≤ 8) (hg : ∀ g, g < n → g < 24 ∧ t0.2.2.1 (ad 146) g = pk6 (nm (nI g)) ∧ nm_ok (nm (nI g))) :
    ∀ (F : Fo) (o : Nat) (pk pv : Int32) (i m : Nat) (T : TK) (l : List Nat) (t : gSt), fo_m (fun i => t0.2.1 (ad 151) (1300 * x + i)) (fun i => t0.2.1 (ad 152) (1300 * x + i)) (fun i => t0.2.1 (ad 153) (1300 * x + i)) (fun i => t0.2.1 (ad 154) (1300 * x + i)) (fun i => t0.2.1 (ad 155) (1300 * x + i)) N id F o → fo_v n par vC F → o + fo_n F ≤ 1300 → m = k_ar par pk pv → i + fo_l F = m → (∃ j, 1 ≤ j ∧ j ≤ 15 ∧ pk = nI j) → gFr ad mwP t0 t → RT ad (T ++ ktr (fo_r F o) pk i m) t → Qm ad l t → T.length + 4 * fo_n F + 200 < 20000 → l.length + 50 * fo_n F < 2 ^ 28 → (∀ u, gFr ad mwP t0 u → RT ad T u → Qm ad (l ++ fo_t nm F pk i m) u → HdW cx d ad post w0 g0 x u) → HdW cx d ad post w0 g0 x t
  | .leaf, o, pk, pv, i, m, T, l, t, _, _, _, _, _, _, hF, hR, hQ, _, _, hK => hK t hF (by simpa [fo_r, ktr] using hR) (by simpa [fo_t] using hQ)
  | .inner z k v a b, o, pk, pv, i, m, T, l, t, hm, hv, ho, hmm, him, hpk, hF, hR, hQ, hTl, hll, hK => by
    obtain ⟨ma, mk, mb⟩ := hm
    obtain ⟨⟨v1, v2, v3, v4⟩, va, vb⟩ := hv
    have hn : fo_n (.inner z k v a b) = fo_n a + 1 + fo_n b := rfl
    have hlf : fo_l (.inner z k v a b) = fo_l b + 1 := rfl
    have hlb := fo_ln b
    have hrl := fo_rl a o
    have hrb := fo_rl b (o + fo_n a + 1)
    have kl := ktr_len (fo_r b (o + fo_n a + 1)) pk (i + 1) m
    have e0 : T ++ ktr (fo_r (.inner z k v a b) o) pk i m = (T ++ ktr (fo_r b (o + fo_n a + 1)) pk (i + 1) m ++ (if i + 1 < m then [(61, sc_t pk i, 0)] else [])) ++ [(60, nI (o + fo_n a), 0)] := by
      simp only [fo_r, ktr, List.append_assoc]
    rw [e0] at hR
    have hsl : (if i + 1 < m then [((61 : Int32), sc_t pk i, (0 : Int32))] else []).length ≤ 1 := by split <;> simp
    have hopl := op_len hnm8 k v
    have hcll := cl_len k
    have hsel := se_len pk i m
    have hal := fo_tl hnm8 a k 0 (fo_l a)
    refine w_node (par := par) (nm := nm) hx (by omega) hN hF v1 v4 (by rw [hrl]; exact v2) (hpar v) (fun c => ?_) mk hR (by simp only [List.length_append]; omega) hQ (by omega) (fun u1 F1 R1 q1 => ?_)
    · obtain ⟨g, eg, hgn⟩ := v3 c
      refine ⟨g, eg, ?_⟩
      rw [eg]
      exact hg g hgn
    -- behind the kids and the node's end: the sign, then the rest
    have fin : ∀ u, gFr ad mwP t0 u → RT ad (T ++ ktr (fo_r b (o + fo_n a + 1)) pk (i + 1) m ++ (if i + 1 < m then [(61, sc_t pk i, 0)] else [])) u → Qm ad (l ++ op_t nm k v ++ fo_t nm a k 0 (fo_l a) ++ cl_t k) u → HdW cx d ad post w0 g0 x u := by
      intro u F R q
      have rest : ∀ u, gFr ad mwP t0 u → RT ad (T ++ ktr (fo_r b (o + fo_n a + 1)) pk (i + 1) m) u → Qm ad (l ++ op_t nm k v ++ fo_t nm a k 0 (fo_l a) ++ cl_t k ++ se_t pk i m) u → HdW cx d ad post w0 g0 x u := by
        intro u F R q
        refine w_visit hx hN hpar hnm8 hg b (o + fo_n a + 1) pk pv (i + 1) m T _ u mb vb (by omega) hmm (by omega) hpk F R q (by omega) (by simp only [List.length_append]; omega) (fun u2 F2 R2 q2 => hK u2 F2 R2 ?_)
        simp only [fo_t]
        simp only [List.append_assoc] at q2 ⊢
        exact q2
      by_cases hi : i + 1 < m
      · rw [if_pos hi] at R
        obtain ⟨e1, c, e2, hc⟩ := se_wd (v := pv) hpk hmm hi
        rw [e2] at R e1
        refine w_sign F hc R (by simp only [List.length_append]; omega) q (by simp only [List.length_append]; omega) (fun u2 F2 R2 q2 => rest u2 F2 R2 ?_)
        rw [e1]
        exact q2
      · rw [if_neg hi, List.append_nil] at R
        refine rest u F R ?_
        have : se_t pk i m = [] := if_neg hi
        rw [this, List.append_nil]
        exact q
    by_cases hk12 : k = 1 ∨ k = 2
    · have e1 : nd_k k (fo_r a o) = [] := if_pos hk12
      rw [e1, List.append_nil] at R1
      have ha : a = .leaf := by
        have : fo_l a = 0 := by rw [v2]; exact if_pos hk12
        match a, this with
        | .leaf, _ => rfl
      refine fin u1 F1 R1 ?_
      have e2 : cl_t k = [] := if_pos hk12
      rw [ha, e2, List.append_nil]
      simpa [fo_t] using q1
    · have e1 : nd_k k (fo_r a o) = [(61, 0, 0)] ++ ktr (fo_r a o) k 0 (fo_l a) := by
        unfold nd_k
        rw [if_neg hk12, hrl]
        rfl
      rw [e1, ← List.append_assoc] at R1
      refine w_visit hx hN hpar hnm8 hg a o k v 0 (fo_l a) _ _ u1 ma va (by omega) v2 (by omega) v1 F1 R1 q1 (by simp only [List.length_append, List.length_cons, List.length_nil]; omega) (by simp only [List.length_append]; omega) (fun u2 F2 R2 q2 => ?_)
      refine w_sign (c := 0) F2 (by omega) R2 (by simp only [List.length_append]; omega) q2 (by simp only [List.length_append]; omega) (fun u3 F3 R3 q3 => fin u3 F3 R3 ?_)
      have e2 : cl_t k = [41] := if_neg hk12
      rw [e2]
      exact q3
end MW
