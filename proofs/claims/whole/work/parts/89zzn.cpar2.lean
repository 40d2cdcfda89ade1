/-! THE CLASS READS AN EXPRESSION: nodes, names -/
def inP (p c k : Nat) : Bool := (Nat.beq c 3 && (Nat.beq k 11 || Nat.beq k 12)) || Nat.beq c (p + 12) || Nat.beq c (p + 13)
theorem inP_i {p c k : Nat} : inP p c k = true ↔ (c = 3 ∧ (k = 11 ∨ k = 12)) ∨ c = p + 12 ∨ c = p + 13 := by
  unfold inP
  simp only [Bool.or_eq_true, Bool.and_eq_true, Nat.beq_eq]
  omega
/-- source and fresh -/
def isQ (p : Nat) : Prop := p = 112 ∨ p = 128
theorem isQ.P {p : Nat} (h : isQ p) : isP p := h.elim (fun e => Or.inr (Or.inl e)) (fun e => Or.inr (Or.inr e))
theorem isQ.ge {p : Nat} (h : isQ p) : 112 ≤ p ∧ p ≤ 128 := by rcases h with rfl | rfl <;> decide
theorem isQ.l {p : Nat} (h : isQ p) : c_len (p + 12) = 3000 ∧ c_len (p + 13) = 3000 ∧ c_len (p + 14) = 6000 ∧ c_len (p + 15) = 6000 := by rcases h with rfl | rfl <;> decide
section CQ
variable {cx : gCx} {d : Nat} {ad : Nat → Nat} {T : Nat → Nat} {n a p Pm st l o cn N : Nat} {sc : SC} {t u w : gSt} {post : Option Value → gSt → Prop} {P : Nat → Nat → Bool}
theorem ce_in {c k : Nat} (h : inP p c k = true) : crxP p c k = true := by
  rw [inP_i] at h
  rw [crxP_i]
  omega
theorem m_insert {U0 : Nat} {k v : Int32} (hp : isQ p) (hL : Lay t ad) (h : CR ad T n p Pm st l o sc cn N t) (hU : U0 ≤ st + min N 400) (hN : N < 2 ^ 20) (hs : st + N < 3000) (k1 : ∀ u, gFr ad (inP p) t u → CR ad T n p Pm st l o sc cn (N + 1) u → bel ad p U0 t u → (N + 1 ≤ 400 → ∀ L, L.length = st + N - U0 → rowC ad p U0 L t → rowC ad p U0 ((k, v) :: L) u) → post none u) : g_E cx (d + 1) i_Reader_insertNode [.ref (ad 3), .int (nI U0), .int k, .int v] t post := by
  have hpg := hp.ge
  obtain ⟨hl12, hl13, -, -⟩ := hp.l
  obtain ⟨h1, h2, h3, ⟨h4, h5⟩, h6, h7, h8, h9, h10⟩ := h
  have ne : ∀ c c', c < 199 → c' < 199 → c ≠ c' → ad c ≠ ad c' := fun c c' h1 h2 h3 => hL.ne c c' h1 h2 h3
  refine x_Reader_insertNode hp.P hL h2 (fun t1 e1 => ?_)
  rw [h8, nI_1] at e1
  have F1 : gFr ad (inP p) t t1 := by rw [e1]; exact (gFr.rf hL).si (inP_i.mpr (by omega))
  have r1 : ∀ c k, c < 199 → ¬ (c = 3 ∧ k = 12) → t1.2.1 (ad c) k = t.2.1 (ad c) k := fun c k hc hn => by
    rw [e1, g_rdi, if_neg]
    rintro ⟨z1, z2⟩
    exact hn ⟨hL.1 _ _ hc (by decide) z1, z2⟩
  have e12 : t1.2.1 (ad 3) 12 = nI (N + 1) := by rw [e1, g_rd_at]
  have e11 : t1.2.1 (ad 3) 11 = nI (st + min N 400) := by rw [r1 3 11 (by decide) (by omega)]; exact h7
  have cr : ∀ u, gFr ad (inP p) t u → u.2.1 (ad 3) 11 = nI (st + min (N + 1) 400) → u.2.1 (ad 3) 12 = nI (N + 1) → CR ad T n p Pm st l o sc cn (N + 1) u := fun u F z1 z2 => by
    have b : ∀ c k, ¬ ((c = 3 ∧ (k = 11 ∨ k = 12)) ∨ c = p + 12 ∨ c = p + 13) → inP p c k = false := fun c k z => bool_r inP_i z
    refine ⟨h1.fr F (b _ _ (by omega)) (b _ _ (by omega)) (fun k => b _ _ (by omega)), ?_, ?_, ⟨?_, fun i q hq => ?_⟩, ?_, z1, z2, ?_, ?_⟩
    · rw [F.r 3 7 (b _ _ (by omega))]; exact h2
    · rw [F.i 3 8 (b _ _ (by omega))]; exact h3
    · rw [F.i 3 9 (b _ _ (by omega))]; exact h4
    · rw [F.j 9 i (b _ _ (by omega)), F.i 10 i (b _ _ (by omega))]; exact h5 i q hq
    · rw [F.i 3 10 (b _ _ (by omega))]; exact h6
    · rw [F.i 3 13 (b _ _ (by omega))]; exact h9
    · rw [F.i 3 14 (b _ _ (by omega))]; exact h10
  have elen : Int32.ofNat (t1.1.2.2 (ad (p + 12))) = nI 3000 := by rw [F1.L.pl2 hp.P 12 (by decide), hl12]; rfl
  rw [e12, e11, elen, show (400 : Int32) = nI 400 from rfl, nI_ltI (by omega) (by omega), nI_leI (by omega) (by omega), nI_leI (by omega) (by omega)]
  refine ⟨fun z => k1 t1 F1 (cr t1 F1 (by rw [e11, show min (N + 1) 400 = min N 400 by omega]) e12) (fun i _ => ⟨r1 _ _ (by omega) (by omega), r1 _ _ (by omega) (by omega)⟩) (fun y => by omega), fun z => ⟨fun y => by omega, fun _ => ⟨fun y => absurd y (nI_pos (by omega)), fun _ => ⟨fun _ => ?_, fun y => by omega⟩⟩⟩⟩
  have hm : min N 400 = N := by omega
  rw [hm] at hU ⊢
  rw [hm] at e11
  rw [nI_1, nI_sub hU, nI_clamp (by omega), nI_clamp (by omega), nI_clamp (by omega), hl12, hl13]
  refine ⟨⟨nI_pos (by omega), nI_pos (by omega), nI_pos (by omega), by omega, by omega⟩, fun t2 e2 => ?_⟩
  have F2 : gFr ad (inP p) t t2 := by rw [e2]; exact F1.row (fun k hk => by rw [inP_i.mpr (by omega)] at hk; cases hk) (by omega)
  have r2 : ∀ c k, c < 199 → c ≠ p + 12 → t2.2.1 (ad c) k = t1.2.1 (ad c) k := fun c k hc hn => by rw [e2, g_rdw, if_neg (ne c (p + 12) hc (by omega) hn)]
  rw [r2 3 11 (by decide) (by omega), e11, nI_sub hU, nI_clamp (by omega)]
  refine ⟨⟨nI_pos (by omega), nI_pos (by omega), nI_pos (by omega), by omega, by omega⟩, fun t3 e3 => ⟨vp_in_nI (by omega) (by omega), fun t4 e4 => ⟨vp_in_nI (by omega) (by omega), fun t5 e5 t6 e6 => ?_⟩⟩⟩
  have F3 : gFr ad (inP p) t t3 := by rw [e3]; exact F2.row (fun k hk => by rw [inP_i.mpr (by omega)] at hk; cases hk) (by omega)
  have F5 : gFr ad (inP p) t t5 := by rw [e5, e4]; exact (F3.si (inP_i.mpr (by omega)) (by omega)).si (inP_i.mpr (by omega)) (by omega)
  have r3 : ∀ c k, c < 199 → c ≠ p + 13 → t3.2.1 (ad c) k = t2.2.1 (ad c) k := fun c k hc hn => by rw [e3, g_rdw, if_neg (ne c (p + 13) hc (by omega) hn)]
  have q11 : t5.2.1 (ad 3) 11 = nI (st + N) := by
    rw [e5, g_rd_ne (ne 3 (p + 13) (by decide) (by omega) (by omega)), e4, g_rd_ne (ne 3 (p + 12) (by decide) (by omega) (by omega)), r3 3 11 (by decide) (by omega), r2 3 11 (by decide) (by omega)]
    exact e11
  have q12 : t5.2.1 (ad 3) 12 = nI (N + 1) := by
    rw [e5, g_rd_ne (ne 3 (p + 13) (by decide) (by omega) (by omega)), e4, g_rd_ne (ne 3 (p + 12) (by decide) (by omega) (by omega)), r3 3 12 (by decide) (by omega), r2 3 12 (by decide) (by omega)]
    exact e12
  rw [q11, nI_1] at e6
  have F6 : gFr ad (inP p) t t6 := by rw [e6]; exact F5.si (inP_i.mpr (by omega))
  have X : ∀ i, t6.2.1 (ad (p + 12)) i = if i = U0 then k else if U0 + 1 ≤ i ∧ i < U0 + 1 + (st + N - U0) then t.2.1 (ad (p + 12)) (U0 + (i - (U0 + 1))) else t.2.1 (ad (p + 12)) i := fun i => by
    rw [e6, g_rd_ne (ne (p + 12) 3 (by omega) (by decide) (by omega)), e5, g_rd_ne (ne (p + 12) (p + 13) (by omega) (by omega) (by omega)), e4, g_rdi]
    by_cases z : i = U0
    · rw [if_pos ⟨rfl, z⟩, if_pos z]
    · rw [if_neg (fun y => z y.2), if_neg z, r3 (p + 12) i (by omega) (by omega), e2, g_rdw, if_pos rfl]
      unfold va_cpy
      rw [r1 _ _ (by omega) (by omega), r1 _ _ (by omega) (by omega)]
  have Y : ∀ i, t6.2.1 (ad (p + 13)) i = if i = U0 then v else if U0 + 1 ≤ i ∧ i < U0 + 1 + (st + N - U0) then t.2.1 (ad (p + 13)) (U0 + (i - (U0 + 1))) else t.2.1 (ad (p + 13)) i := fun i => by
    rw [e6, g_rd_ne (ne (p + 13) 3 (by omega) (by decide) (by omega)), e5, g_rdi]
    by_cases z : i = U0
    · rw [if_pos ⟨rfl, z⟩, if_pos z]
    · rw [if_neg (fun y => z y.2), if_neg z, e4, g_rd_ne (ne (p + 13) (p + 12) (by omega) (by omega) (by omega)), e3, g_rdw, if_pos rfl]
      unfold va_cpy
      rw [r2 _ _ (by omega) (by omega), r2 _ _ (by omega) (by omega), r1 _ _ (by omega) (by omega), r1 _ _ (by omega) (by omega)]
  refine k1 t6 F6 (cr t6 F6 (by rw [e6, g_rd_at, show min (N + 1) 400 = N + 1 by omega]; rfl) (by rw [e6, g_rd_k (by decide)]; exact q12)) (fun i hi => ⟨?_, ?_⟩) (fun _ L hlen hr i q hq => ?_)
  · rw [X, if_neg (by omega), if_neg (by omega)]
  · rw [Y, if_neg (by omega), if_neg (by omega)]
  · show t6.2.1 (ad (p + 12)) (U0 + i) = q.1 ∧ t6.2.1 (ad (p + 13)) (U0 + i) = q.2
    cases i with
    | zero =>
      have hq : (k, v) = q := by simpa using hq
      rw [X, Y, if_pos (Nat.add_zero U0), if_pos (Nat.add_zero U0), ← hq]
      exact ⟨rfl, rfl⟩
    | succ i =>
      rw [List.getElem?_cons_succ] at hq
      have hi := (List.getElem?_eq_some_iff.mp hq).1
      have x := X (U0 + (i + 1))
      have y := Y (U0 + (i + 1))
      rw [if_neg (by omega), if_pos (by omega), show U0 + (U0 + (i + 1) - (U0 + 1)) = U0 + i by omega] at x y
      rw [x, y]
      exact hr i q hq
/-- a node at the end -/
theorem m_addN {k v : Int32} (hp : isQ p) (hL : Lay t ad) (h : CR ad T n p Pm st l o sc cn N t) (hN : N < 2 ^ 20) (hs : st + N < 3000) (k1 : ∀ u, gFr ad (inP p) t u → CR ad T n p Pm st l o sc cn (N + 1) u → bel ad p (st + min N 400) t u → (N + 1 ≤ 400 → rowC ad p (st + N) [(k, v)] u) → post none u) : g_E cx (d + 2) i_Reader_addNode [.ref (ad 3), .int k, .int v] t post := by
  refine x_Reader_addNode hL ?_
  rw [h.2.2.2.2.2.1]
  refine m_insert hp hL h (Nat.le_refl _) hN hs (fun u F hu hb hr => ⟨rfl, F.L, k1 u F hu hb (fun z => ?_)⟩)
  have := hr z [] (by simp only [List.length_nil]; omega) (fun i q hq => by cases hq)
  rw [show st + min N 400 = st + N by omega] at this
  exact this
/-- the search of a name -/
theorem m_findVar {nm : List Nat} (hL : Lay t ad) (h : CR ad T n p Pm st l o sc cn N t) (hs : sc.length ≤ 46) (hnm : nm_ok nm) (hsc : ∀ q ∈ sc, nm_ok q.1) (k1 : post (some (.int (match scl sc nm sc.length with | some v => nI v | none => -1))) t) : g_E cx (d + 1) i_Reader_findVariable [.ref (ad 3), .long (pk8 nm)] t post := by
  have e9 : t.2.1 (ad 3) 9 = nI sc.length := h.2.2.2.1.1
  refine x_Reader_findVariable hL (fun x1 e1 => ?_)
  rw [e9] at e1
  rw [e1]
  have loop : ∀ i, i ≤ sc.length → scl sc nm sc.length = scl sc nm i → g_W cx (g_E cx d) mt_Reader_findVariable post (7, [some (.ref (ad 3)), some (.long (pk8 nm)), none, some (.int (nI i - 1))], [], t, 0, 0) := by
    intro i
    induction i with
    | zero =>
      intro _ e
      refine x_Reader_findVariable_7 hL ⟨fun _ => ?_, fun z => absurd (show nI 0 - 1 < (0 : Int32) by decide) z⟩
      rw [e] at k1
      exact k1
    | succ i ih =>
      intro hi e
      have hq := h.2.2.2.1.2 i _ (sc_get (by omega))
      rw [nI_pred]
      refine x_Reader_findVariable_7 hL ⟨fun z => absurd z (nI_pos (by omega)), fun _ => ?_⟩
      rw [nI_clamp (by omega), hq.1, hq.2, lg_cmp_eq, pk8_inj (hsc _ (List.mem_of_getElem? (sc_get (by omega)))) hnm]
      refine ⟨vp_in_nI (by omega) (by omega), fun z => ?_, fun z => ⟨vp_in_nI (by omega) (by omega), ?_⟩⟩
      · have e2 : scl sc nm sc.length = scl sc nm i := by rw [e]; simp only [scl]; rw [if_neg z]
        have := ih (by omega) e2
        rw [← Int32.sub_eq_add_neg]
        exact this
      · have e2 : scl sc nm sc.length = some (sc.getD i ([], 0)).2 := by rw [e]; simp only [scl]; rw [if_pos (Classical.not_not.mp z)]
        rw [e2] at k1
        exact k1
  exact loop sc.length (Nat.le_refl _) rfl
def seP (c k : Nat) : Bool := (Nat.beq c 3 && Nat.beq k 9) || Nat.beq c 9 || Nat.beq c 10
theorem seP_i {c k : Nat} : seP c k = true ↔ (c = 3 ∧ k = 9) ∨ c = 9 ∨ c = 10 := by
  unfold seP
  simp only [Bool.or_eq_true, Bool.and_eq_true, Nat.beq_eq]
  omega
theorem m_seeC {nm : List Nat} {v : Nat} (hL : Lay t ad) (h : CR ad T n p Pm st l o sc cn N t) (hs : sc.length < 46) (k1 : ∀ u, gFr ad seP t u → CR ad T n p Pm st l o (sc ++ [(nm, v)]) cn N u → post none u) : g_E cx (d + 1) i_Reader_see [.ref (ad 3), .long (pk8 nm), .int (nI v)] t post := by
  obtain ⟨h1, h2, h3, ⟨h4, h5⟩, h6, h7, h8, h9, h10⟩ := h
  have ne : ∀ c c', c < 199 → c' < 199 → c ≠ c' → ad c ≠ ad c' := fun c c' h1 h2 h3 => hL.ne c c' h1 h2 h3
  refine x_Reader_see hL ?_
  rw [h4, hL.l 9 (by decide), show (Int32.ofNat (g_cells.getD 9 (0, 0)).2) = nI 46 from rfl, nI_leI (by decide) (by omega), nI_clamp (by omega)]
  refine ⟨fun z => by omega, fun _ => ⟨vp_in_nI hs (by omega), fun t1 e1 => ?_⟩⟩
  have r1 : t1.2.1 (ad 3) 9 = nI sc.length := by rw [e1, g_sj_i]; exact h4
  rw [r1, nI_clamp (by omega)]
  refine ⟨vp_in_nI hs (by omega), fun t2 e2 t3 e3 => ?_⟩
  have r2 : t2.2.1 (ad 3) 9 = nI sc.length := by rw [e2, g_rd_ne (ne 3 10 (by decide) (by decide) (by decide))]; exact r1
  rw [r2, nI_1] at e3
  have F : gFr ad seP t t3 := by rw [e3, e2, e1]; exact (((gFr.rf hL).sj rfl).si rfl).si rfl
  refine k1 t3 F ⟨h1.fr F rfl rfl (fun k => rfl), ?_, ?_, ⟨?_, fun i q hq => ?_⟩, ?_, ?_, ?_, ?_, ?_⟩
  · rw [F.r 3 7 rfl]; exact h2
  · rw [F.i 3 8 rfl]; exact h3
  · rw [e3, g_rd_at, List.length_append]; rfl
  · rw [e3, g_si_j, g_rd_ne (ne 10 3 (by decide) (by decide) (by decide)), e2, g_si_j, e1, g_rdj]
    by_cases hi : i < sc.length
    · rw [List.getElem?_append_left hi] at hq
      rw [if_neg (by omega), g_rd_k (by omega), g_sj_i]
      exact h5 i q hq
    · rw [List.getElem?_append_right (by omega)] at hq
      have hi0 : i - sc.length = 0 := by
        by_cases z : i - sc.length = 0
        · exact z
        · rw [List.getElem?_eq_none (by simp; omega)] at hq; cases hq
      rw [hi0] at hq
      have hq : (nm, v) = q := by simpa using hq
      have hi1 : i = sc.length := by omega
      rw [hi1, if_pos ⟨rfl, rfl⟩, g_rd_at, ← hq]
      exact ⟨rfl, rfl⟩
  · rw [F.i 3 10 rfl]; exact h6
  · rw [F.i 3 11 rfl]; exact h7
  · rw [F.i 3 12 rfl]; exact h8
  · rw [F.i 3 13 rfl]; exact h9
  · rw [F.i 3 14 rfl]; exact h10
end CQ
