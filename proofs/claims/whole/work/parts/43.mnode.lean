/-! THE MODEL'S WRITER: one node -/
def sc_t (pk : Int32) (i : Nat) : Int32 := if pk = 13 then (if i = 0 then 1 else 2) else if pk = 14 then 3 else if pk = 15 then 4 else 100 + pk
/-- the tasks that write kids i .. of m, the last one lying lowest -/
def ktr : List Nat → Int32 → Nat → Nat → TK
  | r :: rs, pk, i, m => ktr rs pk (i + 1) m ++ (if i + 1 < m then [(61, sc_t pk i, 0)] else []) ++ [(60, nI r, 0)]
  | [], _, _, _ => []
theorem ktr_len : ∀ (rs : List Nat) (pk : Int32) (i m : Nat), (ktr rs pk i m).length ≤ 2 * rs.length
  | r :: rs, pk, i, m => by
    have := ktr_len rs pk (i + 1) m
    simp only [ktr, List.length_append, List.length_cons, List.length_nil]
    split <;> simp <;> omega
  | [], _, _, _ => by simp [ktr]
def mwP (c k : Nat) : Bool := tkP c k || puP c k
theorem mwP_r {c k : Nat} (h : (c < 159 ∨ 161 < c) ∧ c ≠ 191 ∧ (c ≠ 144 ∨ (k ≠ 29 ∧ k ≠ 73))) : mwP c k = false := by
  unfold mwP
  rw [tkP_r (by omega), puP_r (by omega)]
  rfl
/-- what a node lays on the stack -/
def nd_k (k : Int32) (rs : List Nat) : TK := if k = 1 ∨ k = 2 then [] else (61, 0, 0) :: ktr rs k 0 rs.length
section MD
variable {cx : gCx} {d : Nat} {ad : Nat → Nat} {t0 t : gSt} {post : Option Value → gSt → Prop} {l : List Nat} {T : TK} {nm : Int32 → List Nat}
theorem gFr.mt {u : gSt} (h : gFr ad tkP t u) : gFr ad mwP t u := h.mo (fun c k q => by unfold mwP; rw [q]; rfl)
theorem gFr.mp {u : gSt} (h : gFr ad puP t u) : gFr ad mwP t u := h.mo (fun c k q => by unfold mwP; rw [q, Bool.or_true])
theorem RT.mp {u : gSt} (h : gFr ad puP t u) (hT : RT ad T t) : RT ad T u := hT.fr h (puP_r (by decide)) (fun k => puP_r (by omega)) (fun k => puP_r (by omega)) (fun k => puP_r (by omega))
theorem Qm.mt {u : gSt} (h : gFr ad tkP t u) (hQ : Qm ad l t) : Qm ad l u := ⟨by rw [h.i 144 73 (tkP_r (by decide))]; exact hQ.1, fun j c hj h6 => by rw [h.i 191 j (tkP_r (by omega))]; exact hQ.2 j c hj h6⟩
/-- a task is laid on the stack, in a run of the writer -/
theorem m_pushW {a b : Int32} {k : Int32} (hF : gFr ad mwP t0 t) (hT : RT ad T t) (hQ : Qm ad l t) (hl : T.length < 20000) (h : ∀ u, gFr ad mwP t0 u → RT ad (T ++ [(k, a, b)]) u → Qm ad l u → post none u) : g_E cx (d + 1) i_Mo_push [.ref (ad 144), .int k, .int a, .int b] t post := m_pushT hF.L hT hl (fun u F R => h u (hF.tr F.mt) R (hQ.mt F))
theorem m_putW {x : Nat} (hF : gFr ad mwP t0 t) (hT : RT ad T t) (hQ : Qm ad l t) (hx : x < 128) (hl : l.length < 2 ^ 29) (h : ∀ u, gFr ad mwP t0 u → RT ad T u → Qm ad (l ++ [x]) u → post none u) : g_E cx (d + 1) i_Mo_put [.ref (ad 144), .int (nI x)] t post := m_put hF.L hx (by omega) hQ (fun u F q => h u (hF.tr F.mp) (hT.mp F) q)
theorem m_putLW {z : Int64} (nm : List Nat) (hz : z = lN (nB 256 nm)) (hlt : nB 256 nm < 2 ^ 63) (hc : ∀ c ∈ nm, 0 < c ∧ c < 128) (hlen : nm.length ≤ 8) (hF : gFr ad mwP t0 t) (hT : RT ad T t) (hQ : Qm ad l t) (hl : l.length < 2 ^ 29) (h : ∀ u, gFr ad mwP t0 u → RT ad T u → Qm ad (l ++ nm) u → post none u) : g_E cx (d + 2) i_Mo_puts [.ref (ad 144), .long z] t post := m_putL nm hz hlt hc hlen hF.L hl hQ (fun u F q => h u (hF.tr F.mp) (hT.mp F) q)
theorem m_decW {n : Nat} (hn : n < 10 ^ 10) (hF : gFr ad mwP t0 t) (hT : RT ad T t) (hQ : Qm ad l t) (hl : l.length < 2 ^ 29) (h : ∀ u, gFr ad mwP t0 u → RT ad T u → Qm ad (l ++ dgs 10 n) u → post none u) : g_E cx (d + 2) i_Mo_decimal [.ref (ad 144), .long (lN n)] t post := m_decimal hn hF.L hl hQ (fun u F q => h u (hF.tr F.mp) (hT.mp F) q)
theorem m_writeOne {x r : Nat} {k v : Int32} {rs : List Nat} {N : Nat} (hx : x < 72) (hr : r < 1300) (hN : N ≤ 1300) (hF : gFr ad mwP t0 t) (hk : ∃ j, 1 ≤ j ∧ j ≤ 15 ∧ k = nI j) (hC : vC k v) (har : (k = 1 ∨ k = 2 → rs.length = 0) ∧ (k = 10 ∨ k = 11 → rs.length = 1) ∧ (k = 13 → rs.length = 3) ∧ (¬ (k = 1 ∨ k = 2 ∨ k = 10 ∨ k = 11 ∨ k = 13 ∨ k = 15) → rs.length = 2)) (hg : k = 15 → ∃ g, v = nI g ∧ g < 24 ∧ t0.2.2.1 (ad 146) g = pk6 (nm v) ∧ nm_ok (nm v))
    (hm : fo_k (fun i => t0.2.1 (ad 151) (1300 * x + i)) (fun i => t0.2.1 (ad 152) (1300 * x + i)) (fun i => t0.2.1 (ad 153) (1300 * x + i)) (fun i => t0.2.1 (ad 154) (1300 * x + i)) (fun i => t0.2.1 (ad 155) (1300 * x + i)) N id r k v rs) (hrs : rs.length ≤ 100) (hT : RT ad T t) (hQ : Qm ad l t) (hl : l.length < 2 ^ 28) (hTl : T.length + 2 * rs.length + 3 < 20000)
    (h : ∀ u, gFr ad mwP t0 u → RT ad (T ++ nd_k k rs) u → Qm ad (l ++ op_t nm k v) u → post none u) : g_E cx (d + 4) i_Mo_writeOne [.ref (ad 144), .int (nI x), .int (nI r)] t post := by
  obtain ⟨m1, m2, m3, m4⟩ := hm
  have fI : ∀ {u : gSt}, gFr ad mwP t0 u → ∀ c i, 151 ≤ c → c ≤ 155 → u.2.1 (ad c) i = t0.2.1 (ad c) i := fun hF c i h1 h2 => hF.i c i (mwP_r (by omega)) (by omega)
  have ix : (1300 : Int32) * nI x + nI r = nI (1300 * x + r) := by rw [show (1300 : Int32) = nI 1300 from rfl, nI_mul, nI_add]
  have hv : vp_in (nI (1300 * x + r)) 93600 := vp_in_nI (by omega) (by omega)
  have k1 : t0.2.1 (ad 151) (1300 * x + r) = k := m1
  refine x_Mo_writeOne hF.L (fun x1 e1 => ?_)
  rw [ix] at e1
  subst e1
  refine ⟨hv, fun x2 e2 => ?_⟩
  rw [nI_clamp (by omega), fI hF 151 _ (by decide) (by decide), k1] at e2
  subst e2
  refine ⟨fun c => ?_, fun c => ?_, fun c => ?_, fun c => ?_, fun c => ?_, fun c => ?_, fun c => ?_⟩
  · -- a number
    have a2 : t0.2.1 (ad 152) (1300 * x + r) = v := m2 (Or.inl c)
    have hnd : nd_k x2 rs = [] := if_pos (Or.inl c)
    have hop : op_t nm x2 v = num_t v := if_pos c
    rw [hnd, List.append_nil, hop] at h
    refine x_Mo_writeOne_92 hF.L ⟨hv, ?_⟩
    rw [nI_clamp (by omega), fI hF 152 _ (by decide) (by decide), a2]
    refine ⟨fun c2 => ⟨hv, ?_⟩, fun c2 => ?_⟩
    · have c' : ¬ v < 0 := Int32.not_lt.mpr c2
      rw [i64_abs c']
      refine m_decW (abs_lt v) hF hT hQ (by omega) (fun u F R q => ⟨rfl, F.L, h u F R ?_⟩)
      unfold num_t
      rw [if_neg c']
      exact q
    · have c' : v < 0 := Int32.not_le.mp c2
      refine m_putLW [40, 45] (by decide +kernel) (by decide) (by decide) (by decide) hF hT hQ (by omega) (fun u F R q => ⟨rfl, F.L, hv, ?_⟩)
      rw [fI F 152 _ (by decide) (by decide), a2, i64_neg c']
      refine m_decW (abs_lt v) F R q (by simp; omega) (fun u2 F2 R2 q2 => ⟨rfl, F2.L, ?_⟩)
      have hdl := dgs_len 10 v.toInt.natAbs
      refine m_putW (x := 41) F2 R2 q2 (by decide) (by simp; omega) (fun u3 F3 R3 q3 => ⟨rfl, F3.L, h u3 F3 R3 ?_⟩)
      unfold num_t
      rw [if_pos c']
      rw [List.append_assoc, List.append_assoc] at q3
      rw [List.append_assoc]
      exact q3
  · -- a variable
    have a2 : t0.2.1 (ad 152) (1300 * x + r) = v := m2 (Or.inr c)
    have hnd : nd_k x2 rs = [] := if_pos (Or.inr c)
    have hop : op_t nm x2 v = var_t v := by subst c; rfl
    rw [hnd, List.append_nil, hop] at h
    refine x_Mo_writeOne_141 hF.L ?_
    refine m_putW (x := 118) hF hT hQ (by decide) (by omega) (fun u F R q => ⟨rfl, F.L, hv, ?_⟩)
    rw [nI_clamp (by omega), fI F 152 _ (by decide) (by decide), a2, i64_abs (hC (Or.inl c))]
    refine m_decW (abs_lt v) F R q (by simp; omega) (fun u2 F2 R2 q2 => ⟨rfl, F2.L, h u2 F2 R2 ?_⟩)
    rw [List.append_assoc] at q2
    exact q2
  · -- with one operand
    have hn1 : ¬ (x2 = 1 ∨ x2 = 2) := by rcases c with rfl | rfl <;> decide
    have hn2 : ¬ (x2 = 1 ∨ x2 = 2 ∨ x2 = 15) := by rcases c with rfl | rfl <;> decide
    have hl1 := har.2.1 c
    obtain ⟨r0, er⟩ : ∃ r0, rs = [r0] := by
      match rs, hl1 with
      | [a], _ => exact ⟨a, rfl⟩
    subst er
    have a0 : t0.2.1 (ad 152) (1300 * x + r) = nI r0 := (m4 hn2).1 r0 rfl
    have hnd : nd_k x2 [r0] = [(61, 0, 0), (60, nI r0, 0)] := if_neg hn1
    rw [hnd] at h
    have pe : ∀ {u : gSt}, gFr ad mwP t0 u → RT ad T u → Qm ad (l ++ op_t nm x2 v) u → g_E cx (d + 3) i_Mo_push [.ref (ad 144), .int 61, .int 0, .int 0] u (fun rr u3 => rr = none ∧ Lay u3 ad ∧ (vp_in (nI (1300 * x + r)) 93600 ∧ (g_E cx (d + 3) i_Mo_push [.ref (ad 144), .int 60, .int (u3.2.1 (ad 152) (nI (1300 * x + r)).toNatClampNeg), .int 0] u3 (fun rr u5 => rr = none ∧ Lay u5 ad ∧ (post none u5))))) := by
      intro u F R q
      refine m_pushW F R q (by omega) (fun u2 F2 R2 q2 => ⟨rfl, F2.L, hv, ?_⟩)
      rw [nI_clamp (by omega), fI F2 152 _ (by decide) (by decide), a0]
      refine m_pushW F2 R2 q2 (by simp; omega) (fun u3 F3 R3 q3 => ⟨rfl, F3.L, h u3 F3 ?_ q3⟩)
      rw [List.append_assoc] at R3
      exact R3
    refine x_Mo_writeOne_159 hF.L ⟨fun c2 => ?_, fun c2 => ?_⟩
    · have e11 : x2 = 11 := c.resolve_left c2
      refine m_putLW [112, 117, 116, 40] (by decide +kernel) (by decide) (by decide) (by decide) hF hT hQ (by omega) (fun u F R q => ⟨rfl, F.L, pe F R ?_⟩)
      subst e11; exact q
    · have e10 : x2 = 10 := Classical.not_not.mp c2
      refine m_putLW [40, 45] (by decide +kernel) (by decide) (by decide) (by decide) hF hT hQ (by omega) (fun u F R q => ⟨rfl, F.L, pe F R ?_⟩)
      subst e10; exact q
  · -- if
    have hl1 := har.2.2.1 c
    have hn2 : ¬ (x2 = 1 ∨ x2 = 2 ∨ x2 = 15) := by subst c; decide
    obtain ⟨r0, r1, r2, er⟩ : ∃ r0 r1 r2, rs = [r0, r1, r2] := by
      match rs, hl1 with
      | [a, b, e], _ => exact ⟨a, b, e, rfl⟩
    subst er
    have a0 : t0.2.1 (ad 152) (1300 * x + r) = nI r0 := (m4 hn2).1 r0 rfl
    have a1 : t0.2.1 (ad 153) (1300 * x + r) = nI r1 := (m4 hn2).2.1 r1 rfl
    have a2 : t0.2.1 (ad 154) (1300 * x + r) = nI r2 := (m4 hn2).2.2.1 r2 rfl
    subst c
    refine x_Mo_writeOne_201 hF.L ?_
    refine m_putLW [40, 105, 102, 32] (by decide +kernel) (by decide) (by decide) (by decide) hF hT hQ (by omega) (fun u F R q => ⟨rfl, F.L, ?_⟩)
    have hlt : T.length + 9 < 20000 := by simpa using hTl
    refine m_pushW F R q (by omega) (fun u1 F1 R1 q1 => ⟨rfl, F1.L, hv, ?_⟩)
    rw [nI_clamp (by omega), fI F1 154 _ (by decide) (by decide), a2]
    refine m_pushW F1 R1 q1 (by simp; omega) (fun u2 F2 R2 q2 => ⟨rfl, F2.L, ?_⟩)
    refine m_pushW F2 R2 q2 (by simp; omega) (fun u3 F3 R3 q3 => ⟨rfl, F3.L, hv, ?_⟩)
    rw [fI F3 153 _ (by decide) (by decide), a1]
    refine m_pushW F3 R3 q3 (by simp; omega) (fun u4 F4 R4 q4 => ⟨rfl, F4.L, ?_⟩)
    refine m_pushW F4 R4 q4 (by simp; omega) (fun u5 F5 R5 q5 => ⟨rfl, F5.L, hv, ?_⟩)
    rw [fI F5 152 _ (by decide) (by decide), a0]
    refine m_pushW F5 R5 q5 (by simp; omega) (fun u6 F6 R6 q6 => ⟨rfl, F6.L, h u6 F6 ?_ q6⟩)
    simp only [List.append_assoc] at R6
    exact R6
  · -- let
    have hl1 := har.2.2.2 (by subst c; decide)
    have hn2 : ¬ (x2 = 1 ∨ x2 = 2 ∨ x2 = 15) := by subst c; decide
    obtain ⟨r0, r1, er⟩ : ∃ r0 r1, rs = [r0, r1] := by
      match rs, hl1 with
      | [a, b], _ => exact ⟨a, b, rfl⟩
    subst er
    have a0 : t0.2.1 (ad 152) (1300 * x + r) = nI r0 := (m4 hn2).1 r0 rfl
    have a1 : t0.2.1 (ad 153) (1300 * x + r) = nI r1 := (m4 hn2).2.1 r1 rfl
    have a2 : t0.2.1 (ad 154) (1300 * x + r) = v := (m4 hn2).2.2.2 c
    have hvv := hC (Or.inr c)
    subst c
    have hlt : T.length + 7 < 20000 := by simpa using hTl
    refine x_Mo_writeOne_272 hF.L ?_
    refine m_putLW [40, 108, 101, 116, 32, 118] (by decide +kernel) (by decide) (by decide) (by decide) hF hT hQ (by omega) (fun u F R q => ⟨rfl, F.L, hv, ?_⟩)
    rw [nI_clamp (by omega), fI F 154 _ (by decide) (by decide), a2, i64_abs hvv]
    have hdl := dgs_len 10 v.toInt.natAbs
    refine m_decW (abs_lt v) F R q (by simp; omega) (fun u0 F0 R0 q0 => ⟨rfl, F0.L, ?_⟩)
    refine m_putW (x := 61) F0 R0 q0 (by decide) (by simp; omega) (fun u' F' R' q' => ⟨rfl, F'.L, ?_⟩)
    refine m_pushW F' R' q' (by omega) (fun u1 F1 R1 q1 => ⟨rfl, F1.L, hv, ?_⟩)
    rw [fI F1 153 _ (by decide) (by decide), a1]
    refine m_pushW F1 R1 q1 (by simp; omega) (fun u2 F2 R2 q2 => ⟨rfl, F2.L, ?_⟩)
    refine m_pushW F2 R2 q2 (by simp; omega) (fun u3 F3 R3 q3 => ⟨rfl, F3.L, hv, ?_⟩)
    rw [fI F3 152 _ (by decide) (by decide), a0]
    refine m_pushW F3 R3 q3 (by simp; omega) (fun u4 F4 R4 q4 => ⟨rfl, F4.L, h u4 F4 ?_ ?_⟩)
    · simp only [List.append_assoc] at R4
      exact R4
    · simp only [List.append_assoc] at q4
      rw [show op_t nm 14 v = [40, 108, 101, 116, 32] ++ var_t v ++ [61] from rfl]
      unfold var_t
      simp only [List.append_assoc, List.cons_append, List.nil_append] at q4 ⊢
      exact q4
  · -- call
    obtain ⟨g, eg, hg24, hgn, hgo⟩ := hg c
    obtain ⟨b1, b2, q, b3, b4, b5⟩ := m3 c
    have a2 : t0.2.1 (ad 154) (1300 * x + r) = v := b1
    have a1 : t0.2.1 (ad 153) (1300 * x + r) = nI rs.length := b2
    have a0 : t0.2.1 (ad 152) (1300 * x + r) = nI q := b3
    have hnd : nd_k x2 rs = (61, 0, 0) :: ktr rs 15 0 rs.length := by subst c; rfl
    have hop : op_t nm x2 v = nm v ++ [40] := by subst c; rfl
    rw [hnd, hop] at h
    refine x_Mo_writeOne_339 hF.L ⟨hv, ?_⟩
    rw [nI_clamp (by omega), fI hF 154 _ (by decide) (by decide), a2, eg, nI_clamp (by omega), hF.j 146 g (mwP_r (by omega)), hgn, ← eg]
    refine ⟨by rw [eg]; exact vp_in_nI hg24 (by omega), ?_⟩
    have hnl := hgo.2.1
    refine m_nameOut hgo hF.L (by omega) hQ (fun u F q0 => ⟨rfl, F.L, ?_⟩)
    refine m_putW (x := 40) (hF.tr F.mp) (hT.mp F) q0 (by decide) (by simp; omega) (fun u' F' R' q' => ⟨rfl, F'.L, ?_⟩)
    refine m_pushW F' R' q' (by omega) (fun u1 F1 R1 q1 => ⟨rfl, F1.L, hv, fun x7 e7 => ?_⟩)
    rw [fI F1 153 _ (by decide) (by decide), a1] at e7
    subst e7
    have loop : ∀ i (w : gSt), i ≤ rs.length → gFr ad mwP t0 w → Qm ad (l ++ nm v ++ [40]) w → RT ad (T ++ [(61, 0, 0)] ++ ktr (rs.drop i) 15 i rs.length ++ (if 0 < i ∧ i < rs.length then [(61, 4, 0)] else [])) w → g_W cx (g_E cx (d + 3)) mt_Mo_writeOne post (378, [some (.ref (ad 144)), some (.int (nI x)), some (.int (nI r)), some (.int (nI (1300 * x + r))), some (.int x2), some (.int (nI i - 1))], [], w, 0, 0) := by
      intro i
      induction i with
      | zero =>
        intro w hi hFw hq hR
        refine x_Mo_writeOne_378 hFw.L ⟨fun _ => h w hFw ?_ (by rw [List.append_assoc] at hq; exact hq), fun z => absurd (by decide) z⟩
        rw [if_neg (by omega), List.append_nil, List.drop_zero, List.append_assoc] at hR
        exact hR
      | succ i ih =>
        intro w hi hFw hq hR
        have hkl := ktr_len (rs.drop (i + 1)) 15 (i + 1) rs.length
        rw [List.length_drop] at hkl
        rw [nI_pred]
        have ixq : (1300 : Int32) * nI x + nI q + nI i = nI (1300 * x + (q + i)) := by rw [show (1300 : Int32) = nI 1300 from rfl, nI_mul, nI_add, nI_add, Nat.add_assoc]
        have hil : i < rs.length := by omega
        have eG : t0.2.1 (ad 155) (1300 * x + (q + i)) = nI rs[i] := b5 i rs[i] (List.getElem?_eq_getElem hil)
        refine x_Mo_writeOne_378 hFw.L ⟨fun z => absurd z (nI_pos (by omega)), fun _ => ⟨hv, ?_⟩⟩
        rw [nI_clamp (by omega), fI hFw 152 _ (by decide) (by decide), a0, ixq, nI_clamp (by omega), fI hFw 155 _ (by decide) (by decide), eG]
        refine ⟨vp_in_nI (by omega) (by omega), ?_⟩
        have hlen1 : (T ++ [(61, 0, 0)] ++ ktr (rs.drop (i + 1)) 15 (i + 1) rs.length ++ (if 0 < i + 1 ∧ i + 1 < rs.length then [((61 : Int32), (4 : Int32), (0 : Int32))] else [])).length + 1 < 20000 := by
          simp only [List.length_append, List.length_cons, List.length_nil]
          split <;> simp <;> omega
        have ek : T ++ [(61, 0, 0)] ++ ktr (rs.drop (i + 1)) 15 (i + 1) rs.length ++ (if 0 < i + 1 ∧ i + 1 < rs.length then [(61, 4, 0)] else []) ++ [(60, nI rs[i], 0)] = T ++ [(61, 0, 0)] ++ ktr (rs.drop i) 15 i rs.length := by
          rw [List.drop_eq_getElem_cons hil]
          simp only [ktr, List.append_assoc]
          congr 3
          by_cases z : i + 1 < rs.length
          · rw [if_pos ⟨by omega, z⟩, if_pos z]; rfl
          · rw [if_neg (fun y => z y.2), if_neg z]
        refine m_pushW hFw hR hq (by omega) (fun w2 F2 R2 q2 => ⟨rfl, F2.L, ?_⟩)
        rw [ek] at R2
        rw [show nI i + (-1) = nI i - 1 from by rw [Int32.sub_eq_add_neg], show (0 : Int32) = nI 0 from rfl, nI_leI (by omega) (by omega)]
        refine ⟨fun z => ?_, fun z => ?_⟩
        · have hi0 : i = 0 := by omega
          subst hi0
          refine ih w2 (by omega) F2 q2 ?_
          rw [if_neg (by omega), List.append_nil]
          exact R2
        · have hlen2 : (T ++ [(61, 0, 0)] ++ ktr (rs.drop i) 15 i rs.length).length < 20000 := by
            rw [← ek, List.length_append]
            exact hlen1
          refine m_pushW F2 R2 q2 hlen2 (fun w3 F3 R3 q3 => ⟨rfl, F3.L, ?_⟩)
          refine ih w3 (by omega) F3 q3 ?_
          rw [if_pos ⟨by omega, by omega⟩]
          exact R3
    refine loop rs.length u1 (Nat.le_refl _) F1 q1 ?_
    rw [List.drop_length, if_neg (by omega)]
    simp only [ktr, List.append_nil]
    exact R1
  · -- with two operands
    have hn1 : ¬ (x2 = 1 ∨ x2 = 2) ∧ ¬ (x2 = 1 ∨ x2 = 2 ∨ x2 = 15) ∧ ¬ (x2 = 1 ∨ x2 = 2 ∨ x2 = 10 ∨ x2 = 11 ∨ x2 = 13 ∨ x2 = 15) ∧ op_t nm x2 v = [40] ∧ sc_t x2 0 = 100 + x2 := by
      obtain ⟨j, h1, h2, e⟩ := hk
      rcases c with c | c | c | c | c | c | c | c | c | c
      · rw [e, show (1 : Int32) = nI 1 from rfl, nI_ltI (by omega) (by omega)] at c; omega
      · rw [e, show (15 : Int32) = nI 15 from rfl, nI_ltI (by omega) (by omega)] at c; omega
      all_goals (rw [c]; exact ⟨by decide, by decide, by decide, rfl, rfl⟩)
    have hl1 := har.2.2.2 hn1.2.2.1
    obtain ⟨r0, r1, er⟩ : ∃ r0 r1, rs = [r0, r1] := by
      match rs, hl1 with
      | [a, b], _ => exact ⟨a, b, rfl⟩
    subst er
    have a0 : t0.2.1 (ad 152) (1300 * x + r) = nI r0 := (m4 hn1.2.1).1 r0 rfl
    have a1 : t0.2.1 (ad 153) (1300 * x + r) = nI r1 := (m4 hn1.2.1).2.1 r1 rfl
    have hlt : T.length + 7 < 20000 := by simpa using hTl
    have hnd : nd_k x2 [r0, r1] = [(61, 0, 0), (60, nI r1, 0), (61, 100 + x2, 0), (60, nI r0, 0)] := by
      unfold nd_k
      rw [if_neg hn1.1, ← hn1.2.2.2.2]
      rfl
    rw [hnd, hn1.2.2.2.1] at h
    refine x_Mo_writeOne_430 hF.L ?_
    refine m_putW (x := 40) hF hT hQ (by decide) (by omega) (fun u' F' R' q' => ⟨rfl, F'.L, ?_⟩)
    refine m_pushW F' R' q' (by omega) (fun u1 F1 R1 q1 => ⟨rfl, F1.L, hv, ?_⟩)
    rw [nI_clamp (by omega), fI F1 153 _ (by decide) (by decide), a1]
    refine m_pushW F1 R1 q1 (by simp; omega) (fun u2 F2 R2 q2 => ⟨rfl, F2.L, ?_⟩)
    refine m_pushW F2 R2 q2 (by simp; omega) (fun u3 F3 R3 q3 => ⟨rfl, F3.L, hv, ?_⟩)
    rw [fI F3 152 _ (by decide) (by decide), a0]
    refine m_pushW F3 R3 q3 (by simp; omega) (fun u4 F4 R4 q4 => ⟨rfl, F4.L, h u4 F4 ?_ q4⟩)
    simp only [List.append_assoc] at R4
    exact R4
end MD
