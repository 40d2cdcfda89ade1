/-! THE CLASS'S WRITER: digits, names, nodes -/
theorem dgs_len : ∀ f n, (dgs f n).length ≤ f
  | 0, _ => Nat.le_refl _
  | f + 1, n => by
    unfold dgs
    split
    · simp
    · have := dgs_len f (n / 10)
      simp
      omega
theorem dgs_ne : ∀ f n, dgs (f + 1) n ≠ [] := by
  intro f n
  unfold dgs
  split <;> simp
theorem dgs_lt : ∀ f n, ∀ c ∈ dgs f n, c < 58
  | 0, _, c, h => by cases h
  | f + 1, n, c, h => by
    unfold dgs at h
    split at h
    · simp at h; omega
    · rw [List.mem_append] at h
      rcases h with h | h
      · exact dgs_lt f _ c h
      · simp at h; omega
theorem ch_nar : ∀ x, x < 58 → vp_nar .char (((lN x).toInt32.toUInt32 % 65536).toInt32) = nI x := by decide +kernel
theorem lB_rem {m : Nat} (h : m < 2 ^ 60) : (48 : Int64) + (lN m - lN m / 10 * 10) = lN (48 + m % 10) := by
  rw [show (10 : Int64) = lN 10 from rfl, show (48 : Int64) = lN 48 from rfl, lB_div (by omega) (by omega), lN_mul, lN_sub (by omega), lN_add]
  congr 1
  omega
theorem nx_pos {i : Nat} (h : i < 2 ^ 31) : nI (i + 1) + (-1) = nI i := by
  rw [show nI (i + 1) + (-1) = nI (i + 1) - 1 from by rw [Int32.sub_eq_add_neg], nI_pred]
section WC
variable {cx : gCx} {d : Nat} {ad : Nat → Nat} {t : gSt} {post : Option Value → gSt → Prop} {v2 : Nat} {l : List Nat}
theorem Qc.frR {u : gSt} (hv : isV v2) (hF : gFr ad (baP v2) t u) (hr : t.2.2.2 (ad 83) 2 = some (ad v2)) : u.2.2.2 (ad 83) 2 = some (ad v2) := by
  rw [hF.r 83 2 (baP_r hv (Or.inl ⟨rfl, by decide, by decide⟩))]; exact hr
/-- digits that lie reversed in the row are written -/
theorem m_putDigits {n0 : Int64} {rest : Int64} (hv : isV v2) {dg : List Nat} (hd : ∀ c ∈ dg, c < 58) (hdl : dg.length ≤ 10) {c0 : Int32} : ∀ (m : Nat) (u : gSt) (l : List Nat), Lay u ad → u.2.2.2 (ad 83) 2 = some (ad v2) → m ≤ dg.length → (∀ j c, j < m → dg[dg.length - 1 - j]? = some c → u.2.1 (ad 92) j = nI c) → Qc ad v2 l u → (∀ w, gFr ad (baP v2) u w → Qc ad v2 (l ++ dg.drop (dg.length - m)) w → post none w) → g_W cx (g_E cx (d + 1)) mt_Writer_addDigits post (54, [some (.ref (ad 83)), some (.long n0), none, some (.long rest), none, some (.int c0), some (.int (nI m - 1))], [], u, 0, 0) := by
  intro m
  induction m with
  | zero =>
    intro u l hL hr hm hdg hQ h
    refine x_Writer_addDigits_54 hL ⟨fun _ => h u (gFr.rf hL) ?_, fun c => absurd (by decide) c⟩
    rw [Nat.sub_zero, List.drop_length, List.append_nil]
    exact hQ
  | succ m ih =>
    intro u l hL hr hm hdg hQ h
    rw [nI_pred]
    refine x_Writer_addDigits_54 hL ⟨fun c => absurd c (nI_pos (by omega)), fun _ => ⟨vp_in_nI (by omega) (by omega), ?_⟩⟩
    obtain ⟨c, ec⟩ : ∃ c, dg[dg.length - 1 - m]? = some c := ⟨_, List.getElem?_eq_getElem (by omega)⟩
    rw [nI_clamp (by omega), hdg m c (by omega) ec]
    have hc58 := hd c (List.mem_of_getElem? ec)
    refine m_addByte hv hL hr (by omega) hQ (fun w F2 q2 => ⟨rfl, F2.L, ?_⟩)
    rw [show nI m + (-1) = nI m - 1 from by rw [Int32.sub_eq_add_neg]]
    refine ih w (l ++ [c]) F2.L (Qc.frR hv F2 hr) (by omega) (fun j c' hj e => ?_) q2 (fun w2 F3 q3 => h w2 (F2.tr F3) ?_)
    · have e92 : w.2.1 (ad 92) j = u.2.1 (ad 92) j := by
        exact F2.i 92 j (baP_r hv (by omega))
      rw [e92]
      exact hdg j c' (by omega) e
    · have e2 : dg.drop (dg.length - (m + 1)) = c :: dg.drop (dg.length - m) := by
        have hlt : dg.length - (m + 1) < dg.length := by omega
        rw [List.drop_eq_getElem_cons hlt]
        have e3 : dg.length - (m + 1) + 1 = dg.length - m := by omega
        have e4 : dg.length - 1 - m = dg.length - (m + 1) := by omega
        rw [e3]
        rw [e4, List.getElem?_eq_getElem hlt] at ec
        rw [Option.some.inj ec]
      rw [e2]
      rw [List.append_assoc] at q3
      exact q3
theorem m_addDigits {n : Nat} (hn : n < 10 ^ 10) (hv : isV v2) (hL : Lay t ad) (hr : t.2.2.2 (ad 83) 2 = some (ad v2)) (hQ : Qc ad v2 l t) (h : ∀ u, gFr ad (abP v2) t u → Qc ad v2 (l ++ dgs 10 n) u → post none u) : g_E cx (d + 2) i_Writer_addDigits [.ref (ad 83), .long (lN n)] t post := by
  refine x_Writer_addDigits hL ?_
  have a92 : abP v2 92 0 = true := rfl
  -- k digits are still to come of m
  have loop : ∀ k m (hi : List Nat) (u : gSt), k + hi.length = 10 → 0 < k → m < 10 ^ k → dgs 10 n = dgs k m ++ hi → (∀ c ∈ hi, c < 58) → gFr ad (abP v2) t u → (∀ j c, hi[hi.length - 1 - j]? = some c → j < hi.length → u.2.1 (ad 92) j = nI c) → Qc ad v2 l u → g_W cx (g_E cx (d + 1)) mt_Writer_addDigits post (5, [some (.ref (ad 83)), some (.long (lN n)), none, some (.long (lN m)), none, some (.int (nI hi.length)), none], [], u, 0, 0) := by
    intro k
    induction k with
    | zero => intro m hi u _ h0; omega
    | succ k ih =>
      intro m hi u hk _ hm hdg hlt hF h92 hq
      have hm60 : m < 2 ^ 60 := by
        have : 10 ^ (k + 1) ≤ 10 ^ 10 := Nat.pow_le_pow_right (by decide) (by omega)
        omega
      refine x_Writer_addDigits_5 hF.L ⟨vp_in_nI (by omega) (by omega), fun t1 e1 x2 e2 => ?_⟩
      rw [lB_rem hm60, ch_nar (48 + m % 10) (by omega), nI_clamp (by omega)] at e1
      rw [show (10 : Int64) = lN 10 from rfl, lB_div (by omega) (by omega)] at e2
      subst e2
      have F1 : gFr ad (abP v2) u t1 := by rw [e1]; exact (gFr.rf hF.L).si rfl
      have hF1 := hF.tr F1
      have q1 : Qc ad v2 l t1 := by
        have hvl : v2 < 199 ∧ v2 ≠ 92 := by rcases hv with rfl | rfl <;> decide
        refine ⟨?_, ?_, fun j c hj h6 => ?_⟩
        · rw [e1, g_rd_ne (hF.L.ne 83 92 (by decide) (by decide) (by decide))]; exact hq.1
        · rw [e1, g_rd_ne (hF.L.ne 83 92 (by decide) (by decide) (by decide))]; exact hq.2.1
        · rw [e1, g_rd_ne (hF.L.ne v2 92 hvl.1 (by decide) hvl.2)]; exact hq.2.2 j c hj h6
      have g92 : ∀ j c, ((48 + m % 10) :: hi)[((48 + m % 10) :: hi).length - 1 - j]? = some c → j < ((48 + m % 10) :: hi).length → t1.2.1 (ad 92) j = nI c := by
        intro j c hj hjl
        simp only [List.length_cons, Nat.add_sub_cancel] at hj hjl
        rw [e1]
        by_cases e : j = hi.length
        · subst e
          rw [g_rd_at]
          rw [Nat.sub_self] at hj
          rw [show 48 + m % 10 = c from by simpa using hj]
        · rw [g_rd_k e]
          have e5 : hi.length - j = (hi.length - 1 - j) + 1 := by omega
          rw [e5, List.getElem?_cons_succ] at hj
          exact h92 j c hj (by omega)
      have hlt' : ∀ c ∈ (48 + m % 10) :: hi, c < 58 := by
        intro c hc
        rcases List.mem_cons.mp hc with rfl | hc
        · omega
        · exact hlt c hc
      have hl1 : (Int32.ofNat (t1.1.2.2 (ad 92))) = nI 10 := by
        rw [hF1.L.l 92 (by decide)]; rfl
      have fin : dgs 10 n = (48 + m % 10) :: hi → ∀ x3 : Int32, x3 = nI (hi.length + 1) - 1 → g_W cx (g_E cx (d + 1)) mt_Writer_addDigits post (54, [some (.ref (ad 83)), some (.long (lN n)), none, some (.long (lN (m / 10))), none, some (.int (nI (hi.length + 1))), some (.int x3)], [], t1, 0, 0) := by
        intro ed x3 e3
        have hl10 : (dgs 10 n).length ≤ 10 := dgs_len 10 n
        rw [e3]
        refine m_putDigits hv (dg := (48 + m % 10) :: hi) hlt' (by rw [← ed]; exact hl10) (hi.length + 1) t1 l hF1.L (by rw [hF1.r 83 2 (abP_r hv (Or.inl ⟨rfl, by decide, by decide⟩))]; exact hr) (by simp) (fun j c hj e => g92 j c e (by simpa using hj)) q1 (fun w F2 q2 => h w (hF1.tr F2.ab) ?_)
        rw [ed]
        simpa using q2
      rw [hl1, nI_1]
      refine ⟨fun c x3 e3 => ?_, fun c => ⟨fun c2 => ?_, fun c2 x4 e4 => ?_⟩⟩
      · rw [nI_leI (by omega) (by omega)] at c
        have hk0 : k = 0 := by omega
        subst hk0
        have : m < 10 := by simpa using hm
        refine fin ?_ x3 e3
        rw [hdg]
        simp only [dgs]
        rw [if_pos this, Nat.mod_eq_of_lt this]
        rfl
      · have hm10 : 10 ≤ m := by
          refine Classical.byContradiction (fun q => ?_)
          have : m / 10 = 0 := Nat.div_eq_of_lt (by omega)
          rw [this] at c2
          exact absurd c2 (by decide)
        rw [nI_leI (by omega) (by omega)] at c
        have hk1 : 0 < k := by omega
        refine ih (m / 10) ((48 + m % 10) :: hi) t1 (by simp; omega) hk1 ?_ ?_ hlt' hF1 g92 q1
        · rw [Nat.pow_succ] at hm
          exact Nat.div_lt_of_lt_mul (by omega)
        · rw [hdg]
          simp only [dgs]
          rw [if_neg (by omega)]
          simp
      · have hm10 : m < 10 := by
          refine Classical.byContradiction (fun q => c2 ?_)
          have h1 : 1 ≤ m / 10 := by omega
          have h2 : ¬ (lg_cmp (lN (m / 10)) (lN 0) ≤ 0) := fun z => by
            have := (lB_cmp_le (by omega) (by omega)).mp z
            omega
          exact Int32.not_le.mp h2
        refine fin ?_ x4 e4
        rw [hdg]
        simp only [dgs]
        rw [if_pos hm10, Nat.mod_eq_of_lt hm10]
        rfl
  exact loop 10 n [] t (by simp) (by decide) hn (by simp) (fun c hc => by cases hc) (gFr.rf hL) (fun j c hj h0 => by cases hj) hQ
theorem i64_abs {v : Int32} (h : ¬ v < 0) : v.toInt64 = lN v.toInt.natAbs := by
  obtain ⟨j, hj, e⟩ := nI_of h
  subst e
  rw [nI_l hj, nI_toInt hj]
  rfl
theorem i64_neg {v : Int32} (h : v < 0) : -v.toInt64 = lN v.toInt.natAbs := by
  have h1 := Int32.lt_iff_toInt_lt.mp h
  have h0 : (0 : Int32).toInt = 0 := by decide
  have h2 := Int32.le_toInt v
  have h3 := Int32.toInt_lt v
  refine Int64.toInt_inj.mp ?_
  rw [lB_toInt (by omega), Int64.toInt_neg, Int32.toInt_toInt64]
  rw [Int.bmod_eq_of_le_mul_two (by omega) (by omega)]
  omega
theorem abs_lt (v : Int32) : v.toInt.natAbs < 10 ^ 10 := by
  have h2 := Int32.le_toInt v
  have h3 := Int32.toInt_lt v
  omega
theorem Qc.frA {u : gSt} (hv : isV v2) (hF : gFr ad (abP v2) t u) (hr : t.2.2.2 (ad 83) 2 = some (ad v2)) : u.2.2.2 (ad 83) 2 = some (ad v2) := by
  rw [hF.r 83 2 (abP_r hv (Or.inl ⟨rfl, by decide, by decide⟩))]; exact hr
theorem m_addNumber {v : Int32} (hc : g_CS cx) (hv : isV v2) (hL : Lay t ad) (hr : t.2.2.2 (ad 83) 2 = some (ad v2)) (hQ : Qc ad v2 l t) (h : ∀ u, gFr ad (abP v2) t u → Qc ad v2 (l ++ num_t v) u → post none u) : g_E cx (d + 6) i_Writer_addNumber [.ref (ad 83), .int v] t post := by
  refine x_Writer_addNumber hL ⟨fun c => ?_, fun c => ?_⟩
  · have c' : ¬ v < 0 := Int32.not_lt.mpr c
    rw [i64_abs c']
    refine m_addDigits (abs_lt v) hv hL hr hQ (fun u F q => ⟨rfl, F.L, h u F ?_⟩)
    unfold num_t
    rw [if_neg c']
    exact q
  · have c' : v < 0 := Int32.not_le.mp c
    refine m_addText hc (i := 1) (by decide) hv hL hr hQ (fun u F q => ⟨rfl, F.L, ?_⟩)
    rw [i64_neg c']
    refine m_addDigits (abs_lt v) hv F.L (Qc.frA hv F.ab hr) q (fun u2 F2 q2 => ⟨rfl, F2.L, ?_⟩)
    refine m_addText hc (i := 2) (by decide) hv F2.L (Qc.frA hv (F.ab.tr F2) hr) q2 (fun u3 F3 q3 => ⟨rfl, F3.L, h u3 ((F.ab.tr F2).tr F3.ab) ?_⟩)
    unfold num_t
    rw [if_pos c']
    rw [List.append_assoc, List.append_assoc] at q3
    rw [List.append_assoc]
    exact q3
theorem m_addVariable {v : Int32} (hc : g_CS cx) (hv : isV v2) (hL : Lay t ad) (hr : t.2.2.2 (ad 83) 2 = some (ad v2)) (hp : ¬ v < 0) (hQ : Qc ad v2 l t) (h : ∀ u, gFr ad (abP v2) t u → Qc ad v2 (l ++ var_t v) u → post none u) : g_E cx (d + 6) i_Writer_addVariable [.ref (ad 83), .int v] t post := by
  refine x_Writer_addVariable hL ?_
  refine m_addText hc (i := 3) (by decide) hv hL hr hQ (fun u F q => ⟨rfl, F.L, ?_⟩)
  rw [i64_abs hp]
  refine m_addDigits (abs_lt v) hv F.L (Qc.frA hv F.ab hr) q (fun u2 F2 q2 => ⟨rfl, F2.L, h u2 (F.ab.tr F2) ?_⟩)
  rw [List.append_assoc] at q2
  exact q2
theorem nB8_name {nm : List Nat} (h : nm_ok nm) : pk8 nm = lN (nB 256 nm) ∧ nB 256 nm < 2 ^ 63 ∧ (∀ c ∈ nm, 0 < c ∧ c < 128) := by
  obtain ⟨h1, h2, h3, h4⟩ := h
  have hc : ∀ c ∈ nm, 0 < c ∧ c < 128 := fun c hc => by
    have := h3 c hc
    unfold lt6 at this
    split at this
    · omega
    · split at this
      · omega
      · omega
  have hlt : nB 256 nm < 2 ^ 63 := by
    match nm, h1, h2, hc with
    | c :: l, _, h2, hc =>
      have hh := hc c List.mem_cons_self
      have hl := nB_lt (B := 256) l (fun x hx => by have := hc x (List.mem_cons_of_mem _ hx); omega)
      simp only [nB]
      simp only [List.length_cons] at h2
      have hp : 256 ^ l.length ≤ 256 ^ 7 := Nat.pow_le_pow_right (by decide) (by omega)
      have : c * 256 ^ l.length ≤ 127 * 256 ^ l.length := Nat.mul_le_mul_right _ (by omega)
      omega
  refine ⟨?_, hlt, hc⟩
  have := pk_fold (k := 8) (by decide) id nm 0 (fun c hx => by have := hc c hx; show c < 256; omega) (by rw [Nat.zero_mul, Nat.zero_add, List.map_id]; exact hlt)
  rw [Nat.zero_mul, Nat.zero_add, List.map_id] at this
  exact this
theorem sh8 : ∀ i, i < 8 → (((8 : Int32) * nI i).toInt64 &&& 63) = lN (8 * i) := by decide +kernel
theorem ch2_nar : ∀ x, x < 128 → ((nI x).toUInt32 % 65536).toInt32 = nI x := by decide +kernel
theorem m_addName {nm : List Nat} (hn : nm_ok nm) (hv : isV v2) (hL : Lay t ad) (hr : t.2.2.2 (ad 83) 2 = some (ad v2)) (hQ : Qc ad v2 l t) (h : ∀ u, gFr ad (abP v2) t u → Qc ad v2 (l ++ nm) u → post none u) : g_E cx (d + 2) i_Writer_addName [.ref (ad 83), .long (pk8 nm)] t post := by
  obtain ⟨e8, hlt, hc⟩ := nB8_name hn
  have hlen := hn.2.1
  rw [e8]
  refine x_Writer_addName hL ?_
  have loop : ∀ m (u : gSt) (l' : List Nat) (o : Option Value), m ≤ 8 → gFr ad (abP v2) t u → Qc ad v2 l' u → l' ++ nm.drop (nm.length - m) = l ++ nm → g_W cx (g_E cx (d + 1)) mt_Writer_addName post (3, [some (.ref (ad 83)), some (.long (lN (nB 256 nm))), none, some (.int (nI m - 1)), o], [], u, 0, 0) := by
    intro m
    induction m with
    | zero =>
      intro u l' o hm hF hq hl
      refine x_Writer_addName_3 hF.L ⟨fun _ => h u hF ?_, fun q => absurd (by decide) q⟩
      rw [Nat.sub_zero, List.drop_length, List.append_nil] at hl
      rw [← hl]
      exact hq
    | succ m ih =>
      intro u l' o hm hF hq hl
      rw [nI_pred]
      refine x_Writer_addName_3 hF.L ⟨fun q => absurd q (nI_pos (by omega)), fun _ x1 e1 => ?_⟩
      have hdv : nB 256 nm / 2 ^ (8 * m) < 2 ^ 63 := Nat.lt_of_le_of_lt (Nat.div_le_self _ _) hlt
      rw [sh8 m (by omega), lB_shr hlt (by omega), lN_i, show (255 : Int32) = nI (2 ^ 8 - 1) from rfl, nI_and (by decide)] at e1
      have ep : 2 ^ (8 * m) = 256 ^ m := by rw [Nat.pow_mul]
      rw [ep] at e1
      rw [show nI m + (-1) = nI m - 1 from by rw [Int32.sub_eq_add_neg]]
      by_cases hml : m < nm.length
      · have hd := nB_dig (B := 256) (by decide) nm (fun c hx => by have := hc c hx; omega) m hml
        have hi : nm.length - 1 - m < nm.length := by omega
        have egd : nm.getD (nm.length - 1 - m) 0 = nm[nm.length - 1 - m] := by rw [List.getD_eq_getElem?_getD, List.getElem?_eq_getElem hi]; rfl
        rw [hd, egd] at e1
        have hcc := hc _ (List.getElem_mem hi)
        refine ⟨fun q => ?_, fun _ => ?_⟩
        · rw [e1, show (0 : Int32) = nI 0 from rfl, nI_eq (by omega) (by omega)] at q
          omega
        · rw [e1, ch2_nar _ hcc.2]
          refine m_addByte hv hF.L (Qc.frA hv hF hr) hcc.2 hq (fun w F2 q2 => ⟨rfl, F2.L, ?_⟩)
          refine ih w _ _ (by omega) (hF.tr F2.ab) q2 ?_
          have e5 : nm.length - (m + 1) = nm.length - 1 - m := by omega
          rw [← hl, e5, List.drop_eq_getElem_cons hi, List.append_assoc]
          have e6 : nm.length - 1 - m + 1 = nm.length - m := by omega
          rw [e6]
          rfl
      · have hz : nB 256 nm / 256 ^ m = 0 := Nat.div_eq_of_lt (Nat.lt_of_lt_of_le (nB_lt nm (fun c hx => by have := hc c hx; omega)) (Nat.pow_le_pow_right (by decide) (by omega)))
        rw [hz] at e1
        refine ⟨fun _ => ih u l' _ (by omega) hF hq ?_, fun q => absurd (by rw [e1]; rfl) q⟩
        rw [← hl, show nm.length - m = 0 by omega, show nm.length - (m + 1) = 0 by omega]
  exact loop 8 t l _ (Nat.le_refl _) (gFr.rf hL) hQ (by rw [show nm.length - 8 = 0 by omega, List.drop_zero])
end WC
