/-! TOKENS OF THE MODEL -/
theorem pk6_app (l : List Nat) (c : Nat) : pk6 (l ++ [c]) = pk6 l <<< 6 ||| Int64.ofNat (lt6 c) := by
  unfold pk6
  rw [List.foldl_append]
  rfl
/-- what sign() gives -/
def sgI (c : Nat) : Int32 := if c = 256 then -1 else nI c
theorem sgI_eq {c m : Nat} (hc : c ≤ 256) (hm : m < 256) : sgI c = nI m ↔ c = m := by
  unfold sgI
  split
  · refine ⟨fun q => ?_, fun q => by omega⟩
    have : (-1 : Int32) < 0 := by decide
    rw [q] at this
    exact absurd this (nI_pos (by omega))
  · rw [nI_eq (by omega) (by omega)]
theorem sgI_ge {c : Nat} (hc : c ≤ 256) : (0 : Int32) ≤ sgI c ↔ c ≠ 256 := by
  unfold sgI
  split
  · exact ⟨fun q => absurd q (by decide), fun q => by omega⟩
  · exact ⟨fun _ => by assumption, fun _ => nI_pos' (by omega)⟩
theorem sgI_in {c lo hi : Nat} (hc : c ≤ 256) (h1 : 0 < lo ∧ lo < 256) (h2 : hi < 256) : (lN lo ≤ (sgI c).toInt64 ∧ (sgI c).toInt64 ≤ lN hi) ↔ lo ≤ c ∧ c ≤ hi := by
  unfold sgI
  split
  · refine ⟨fun q => ?_, fun q => by omega⟩
    have := Int64.le_iff_toInt_le.mp q.1
    rw [lN_toInt (by omega), show ((-1 : Int32).toInt64).toInt = -1 by decide] at this
    omega
  · rw [nI_l (by omega), lN_le (by omega) (by omega), lN_le (by omega) (by omega)]
def txM (ad : Nat → Nat) (T : Nat → Nat) (n : Nat) (t : gSt) : Prop := txt T n ∧ t.2.1 (ad 144) 2 = nI n ∧ ∀ j, j < n → t.2.1 (ad 145) j &&& 255 = nI (T j)
theorem txM.fr {ad : Nat → Nat} {T : Nat → Nat} {n : Nat} {t u : gSt} {P : Nat → Nat → Bool} (h : txM ad T n t) (hF : gFr ad P t u) (h0 : P 144 2 = false) (h2 : ∀ k, P 145 k = false) : txM ad T n u :=
  ⟨h.1, by rw [hF.i 144 2 h0]; exact h.2.1, fun j hj => by rw [hF.i 145 j (h2 j)]; exact h.2.2 j hj⟩
def hdM (ad : Nat → Nat) (T : Nat → Nat) (n a : Nat) (t : gSt) : Prop := tkK T n a ≠ 23 ∧ t.2.1 (ad 144) 5 = nI (tkE T n a) ∧ t.2.1 (ad 144) 7 = nI (tkK T n a) ∧ t.2.1 (ad 144) 8 = nI (tkS T n a) ∧ (tkK T n a = 1 → t.2.2.1 (ad 144) 9 = lN (tkW T n a)) ∧ (tkK T n a = 2 → t.2.2.1 (ad 144) 10 = pk6 (tkN T n a))
def lvM0 (ad : Nat → Nat) (t : gSt) : Prop := t.2.1 (ad 144) 3 = 0 ∧ t.2.1 (ad 144) 4 = -1
def hcM0 (ad : Nat → Nat) (T : Nat → Nat) (n a : Nat) (t : gSt) : Prop := lvM0 ad t ∧ t.2.1 (ad 144) 6 = 1 ∧ hdM ad T n a t
def cuM0 (ad : Nat → Nat) (T : Nat → Nat) (n a : Nat) (t : gSt) : Prop := lvM0 ad t ∧ ((t.2.1 (ad 144) 6 = 0 ∧ t.2.1 (ad 144) 5 = nI a) ∨ (t.2.1 (ad 144) 6 = 1 ∧ hdM ad T n a t))
def ddM0 (ad : Nat → Nat) (c p : Nat) (t : gSt) : Prop := (1 ≤ c ∧ c ≤ 7) ∧ t.2.1 (ad 144) 3 = nI c ∧ t.2.1 (ad 144) 4 = nI p
/-- what looking may change -/
def tmP (c k : Nat) : Bool := Nat.beq c 144 && (Nat.ble 3 k && Nat.ble k 10)
def tm5 (c k : Nat) : Bool := Nat.beq c 144 && Nat.beq k 5
def tmN (c k : Nat) : Bool := Nat.beq c 144 && (Nat.beq k 5 || Nat.beq k 10)
def tmD (c k : Nat) : Bool := Nat.beq c 144 && (Nat.beq k 5 || Nat.beq k 9)
theorem tm5_t {c k : Nat} (h : tm5 c k = true) : tmP c k = true := by
  unfold tm5 at h
  unfold tmP
  simp only [Bool.and_eq_true, Nat.beq_eq, Nat.ble_eq] at h ⊢
  omega
theorem tmN_t {c k : Nat} (h : tmN c k = true) : tmP c k = true := by
  unfold tmN at h
  unfold tmP
  simp only [Bool.and_eq_true, Bool.or_eq_true, Nat.beq_eq, Nat.ble_eq] at h ⊢
  omega
theorem tmD_t {c k : Nat} (h : tmD c k = true) : tmP c k = true := by
  unfold tmD at h
  unfold tmP
  simp only [Bool.and_eq_true, Bool.or_eq_true, Nat.beq_eq, Nat.ble_eq] at h ⊢
  omega
def wfm (x : Int64) : Int32 := if x = 16710 then 3 else if x = 49492 then 4 else if x = 590 then 5 else if x = 582 then 6 else if x = 5275982 then 7 else if x = 1361093 then 8 else if x = 66900 then 9 else 2
theorem wdm_pk : ∀ i, i < 7 → ([16710, 49492, 590, 582, 5275982, 1361093, 66900] : List Int64).getD i 0 = pk6 (wdl.getD i []) := by decide
theorem wfm_nkd {nm : List Nat} (h : nm_ok nm) : wfm (pk6 nm) = nI (nkd nm) := by
  have key : ∀ i, i < 7 → ∀ y : Int64, y = ([16710, 49492, 590, 582, 5275982, 1361093, 66900] : List Int64).getD i 0 → (pk6 nm = y ↔ nm = wdl.getD i []) := fun i hi y hy => by
    rw [hy, wdm_pk i hi]
    refine pk6_inj h (wdl_ok _ ?_)
    have : i < wdl.length := hi
    rw [List.getD_eq_getElem?_getD, List.getElem?_eq_getElem this]
    exact List.getElem_mem this
  have k0 : pk6 nm = 16710 ↔ nm = [100, 101, 102] := key 0 (by decide) _ rfl
  have k1 : pk6 nm = 49492 ↔ nm = [108, 101, 116] := key 1 (by decide) _ rfl
  have k2 : pk6 nm = 590 ↔ nm = [105, 110] := key 2 (by decide) _ rfl
  have k3 : pk6 nm = 582 ↔ nm = [105, 102] := key 3 (by decide) _ rfl
  have k4 : pk6 nm = 5275982 ↔ nm = [116, 104, 101, 110] := key 4 (by decide) _ rfl
  have k5 : pk6 nm = 1361093 ↔ nm = [101, 108, 115, 101] := key 5 (by decide) _ rfl
  have k6 : pk6 nm = 66900 ↔ nm = [112, 117, 116] := key 6 (by decide) _ rfl
  unfold wfm nkd
  simp only [k0, k1, k2, k3, k4, k5, k6]
  repeat' split
  all_goals rfl
section TM
variable {cx : gCx} {d : Nat} {ad : Nat → Nat} {T : Nat → Nat} {n a : Nat} {post : Option Value → gSt → Prop}
theorem txt.le {j : Nat} (h : txt T n) : T j ≤ 256 := by
  by_cases q : j < n
  · have := h.2.1 j q; omega
  · rw [h.2.2 j (by omega)]
    exact Nat.le_refl _
theorem m_sign {t : gSt} {j : Nat} (hL : Lay t ad) (hX : txM ad T n t) (hj : j < 2 ^ 31) (h : post (some (.int (sgI (T j)))) t) : g_E cx (d + 1) i_Mo_sign [.ref (ad 144), .int (nI j)] t post := by
  have hn := hX.1.1
  refine x_Mo_sign hL ?_
  rw [hX.2.1, nI_leI (by omega) hj, nI_clamp hj]
  refine ⟨fun q => ?_, fun q => ⟨vp_in_nI (by omega) (by omega), ?_⟩⟩
  · rw [hX.1.2.2 j q] at h
    exact h
  · rw [hX.2.2 j (by omega)]
    have := hX.1.2.1 j (by omega)
    unfold sgI at h
    rw [if_neg (by omega)] at h
    exact h
theorem m_inS {t : gSt} {c lo hi : Nat} (hc : c ≤ 256) (h1 : 0 < lo ∧ lo < 256) (h2 : hi < 256) (h : post (some (.int (if lo ≤ c ∧ c ≤ hi then 1 else 0))) t) : g_E cx (d + 1) i_Mo_in [.long (sgI c).toInt64, .long (lN lo), .long (lN hi)] t post := by
  refine m_Mo_in ?_
  simp only [sgI_in hc h1 h2]
  exact h
theorem m_letter {t : gSt} {c : Nat} (hL : Lay t ad) (hc : c ≤ 256) (h : post (some (.int (nI (lt6 c)))) t) : g_E cx (d + 2) i_Mo_letter [.int (sgI c)] t post := by
  refine x_Mo_letter hL (m_inS (lo := 97) (hi := 122) hc (by decide) (by decide) ⟨_, rfl, hL, fun q => m_inS (lo := 48) (hi := 57) hc (by decide) (by decide) ⟨_, rfl, hL, fun q2 => ?_, fun q2 => ?_⟩, fun q => ?_⟩)
  · have n1 : ¬ (97 ≤ c ∧ c ≤ 122) := fun z => by rw [if_pos z] at q; exact absurd q (by decide)
    have n2 : ¬ (48 ≤ c ∧ c ≤ 57) := fun z => by rw [if_pos z] at q2; exact absurd q2 (by decide)
    unfold lt6 at h
    rw [if_neg n1, if_neg n2] at h
    exact h
  · have n1 : ¬ (97 ≤ c ∧ c ≤ 122) := fun z => by rw [if_pos z] at q; exact absurd q (by decide)
    have n2 : (48 ≤ c ∧ c ≤ 57) := Classical.byContradiction (fun z => q2 (by rw [if_neg z]))
    unfold lt6 at h
    rw [if_neg n1, if_pos n2] at h
    unfold sgI
    rw [if_neg (by omega), show (48 : Int32) = nI 48 from rfl, nI_sub (by omega), show (27 : Int32) = nI 27 from rfl, nI_add, show c - 48 + 27 = c - 21 by omega]
    exact h
  · have n1 : (97 ≤ c ∧ c ≤ 122) := Classical.byContradiction (fun z => q (by rw [if_neg z]))
    unfold lt6 at h
    rw [if_pos n1] at h
    unfold sgI
    rw [if_neg (by omega), show (97 : Int32) = nI 97 from rfl, nI_sub (by omega), show (1 : Int32) = nI 1 from rfl, nI_add, show c - 97 + 1 = c - 96 by omega]
    exact h
theorem m_fail0 {t : gSt} {c p : Nat} (hL : Lay t ad) (hc : 1 ≤ c ∧ c ≤ 7) (h0 : t.2.1 (ad 144) 3 = 0) (h : ∀ u, gFr ad tmP t u → ddM0 ad c p u → (∀ k, k ≠ 3 → k ≠ 4 → u.2.1 (ad 144) k = t.2.1 (ad 144) k) → post none u) : g_E cx (d + 1) i_Mo_fail [.ref (ad 144), .int (nI c), .int (nI p)] t post := by
  refine m_Mo_fail (hL.k 144 (by decide)) (fun _ => ?_) (fun q => absurd h0 q)
  refine h _ (((gFr.rf hL).si rfl).si rfl) ⟨hc, ?_, g_rd_at⟩ (fun k h1 h2 => ?_)
  · rw [g_rd_k (by decide)]; exact g_rd_at
  · rw [g_rd_k h2]; exact g_rd_k h1
theorem ddM0.ne {t : gSt} {c p : Nat} (h : ddM0 ad c p t) : ¬ t.2.1 (ad 144) 3 = 0 ∧ ¬ t.2.1 (ad 144) 3 ≤ 0 := by
  rw [h.2.1]
  exact ⟨nI_ne0 (by have := h.1; omega) (by have := h.1; omega), nI_nle (by have := h.1; omega) (by have := h.1; omega)⟩
theorem m_lookD {t : gSt} (hL : Lay t ad) (h0 : ¬ t.2.1 (ad 144) 3 ≤ 0) (h : post (some (.int (-1))) t) : g_E cx (d + 1) i_Mo_look [.ref (ad 144)] t post :=
  x_Mo_look hL ⟨fun q => absurd q h0, fun _ => h⟩
theorem lk_end {t : gSt} {l1 l2 : Int32} (hL : Lay t ad) (h1 : t.2.1 (ad 144) 3 = 0 → post (some (.int (t.2.1 (ad 144) 7))) t) (h2 : ¬ t.2.1 (ad 144) 3 ≤ 0 → post (some (.int (-1))) t) (h0 : t.2.1 (ad 144) 3 = 0 ∨ ¬ t.2.1 (ad 144) 3 ≤ 0) : g_W cx (g_E cx (d + 1)) mt_Mo_look post (665, [some (.ref (ad 144)), some (.int l1), some (.int l2)], [], t, 0, 0) := by
  refine x_Mo_look_665 hL ⟨fun q => x_Mo_look_680 hL (h1 (h0.resolve_right (fun z => z q))), fun q => x_Mo_look_680 hL (h2 q)⟩
theorem lt6_A {c : Nat} : isA c = true ↔ lt6 c ≠ 0 := by
  rw [isA_i]
  unfold lt6
  split
  · exact ⟨fun _ => by omega, fun _ => by omega⟩
  · split
    · exact ⟨fun _ => by omega, fun _ => by omega⟩
    · exact ⟨fun _ => by omega, fun q => absurd rfl q⟩
theorem ln_loop {p : Nat} {t0 : gSt} {l1 : Int32} : ∀ (m b : Nat) (t : gSt), n - b = m → p ≤ b → b ≤ n → gFr ad tmN t0 t → txM ad T n t → t.2.1 (ad 144) 5 = nI b → (b - p ≤ 8 → t.2.2.1 (ad 144) 10 = pk6 (tby T p (b - p))) →
    (∀ u s0, gFr ad tmN t0 u → u.2.1 (ad 144) 5 = nI (rn isA T n b) → (rn isA T n b - p ≤ 8 → u.2.2.1 (ad 144) 10 = pk6 (tby T p (rn isA T n b - p)) ∧ s0 = wfm (u.2.2.1 (ad 144) 10)) → g_W cx (g_E cx (d + 3)) mt_Mo_look post (319, [some (.ref (ad 144)), some (.int l1), some (.int (nI (rn isA T n b - p)))], [.int s0, .ref (ad 144)], u, 0, 0)) →
    g_W cx (g_E cx (d + 3)) mt_Mo_look post (141, [some (.ref (ad 144)), some (.int l1), some (.int (nI (b - p)))], [], t, 0, 0) := by
  intro m
  induction m with
  | zero =>
    intro b t hm hpb hb hF hX h5 h10 hK
    have hn := hX.1.1
    have hT : T b = 256 := hX.1.2.2 b (by omega)
    have e : rn isA T n b = b := rn_no (by rw [hT]; rfl)
    rw [e] at hK
    have hl6 : lt6 (T b) = 0 := by rw [hT]; rfl
    refine x_Mo_look_141 hF.L ?_
    rw [h5]
    refine m_sign hF.L hX (by omega) ⟨_, rfl, hF.L, m_letter hF.L hX.1.le ⟨_, rfl, hF.L, fun _ => ?_, fun q => ?_⟩⟩
    · simp only [lg_cmp_eq]
      have K := fun s0 hs => hK t s0 hF h5 (fun z => ⟨h10 z, hs⟩)
      unfold wfm at K
      refine ⟨fun c0 => ⟨fun c1 => ⟨fun c2 => ⟨fun c3 => ⟨fun c4 => ⟨fun c5 => ⟨fun c6 => K _ ?_, fun c6 => K _ ?_⟩, fun c5 => K _ ?_⟩, fun c4 => K _ ?_⟩, fun c3 => K _ ?_⟩, fun c2 => K _ ?_⟩, fun c1 => K _ ?_⟩, fun c0 => K _ ?_⟩
      all_goals ((try simp only [Classical.not_not] at *); simp only [*, if_true, if_false]; try rfl)
    · rw [hl6] at q
      exact absurd (show nI 0 ≤ (0 : Int32) by decide) q
  | succ m ih =>
    intro b t hm hpb hb hF hX h5 h10 hK
    have hn := hX.1.1
    refine x_Mo_look_141 hF.L ?_
    rw [h5]
    refine m_sign hF.L hX (by omega) ⟨_, rfl, hF.L, m_letter hF.L hX.1.le ⟨_, rfl, hF.L, fun q => ?_, fun q => ?_⟩⟩
    · have hA : isA (T b) = false := Bool.eq_false_iff.mpr (fun z => by
        have z := lt6_A.mp z
        have h37 : lt6 (T b) < 37 := by unfold lt6; (repeat' split) <;> omega
        exact nI_nle (by omega) (by omega) q)
      have e : rn isA T n b = b := rn_no hA
      rw [e] at hK
      simp only [lg_cmp_eq]
      have K := fun s0 hs => hK t s0 hF h5 (fun z => ⟨h10 z, hs⟩)
      unfold wfm at K
      refine ⟨fun c0 => ⟨fun c1 => ⟨fun c2 => ⟨fun c3 => ⟨fun c4 => ⟨fun c5 => ⟨fun c6 => K _ ?_, fun c6 => K _ ?_⟩, fun c5 => K _ ?_⟩, fun c4 => K _ ?_⟩, fun c3 => K _ ?_⟩, fun c2 => K _ ?_⟩, fun c1 => K _ ?_⟩, fun c0 => K _ ?_⟩
      all_goals ((try simp only [Classical.not_not] at *); simp only [*, if_true, if_false]; try rfl)
    · have hA : isA (T b) = true := lt6_A.mpr (fun z => by
        rw [z] at q
        exact absurd (show nI 0 ≤ (0 : Int32) by decide) q)
      rw [rn_yes hA (by omega)] at hK
      have h37 : lt6 (T b) < 37 := by unfold lt6; (repeat' split) <;> omega
      have fin : ∀ s0 : Int64, (b + 1 - p ≤ 8 → s0 = pk6 (tby T p (b + 1 - p))) → g_W cx (g_E cx (d + 3)) mt_Mo_look post (189, [some (.ref (ad 144)), some (.int l1), some (.int (nI (b - p)))], [.long s0, .ref (ad 144)], t, 0, 0) := fun s0 hs => by
        refine x_Mo_look_189 hF.L (fun t1 e1 t2 e2 => ?_)
        have F : gFr ad tmN t t2 := by rw [e2, e1]; exact ((gFr.rf hF.L).sj rfl).si rfl
        have := ih (b + 1) t2 (by omega) (by omega) (by omega) (hF.tr F) (hX.fr F rfl (fun _ => rfl)) (by rw [e2, g_rd_at, e1, g_sj_i, h5, nI_1]) (fun z => by
          rw [e2, g_si_j, e1]
          rw [show (g_sj t (ad 144) 10 s0).2.2.1 (ad 144) 10 = s0 from g_up_v]
          exact hs z) hK
        rw [nI_1, show b - p + 1 = b + 1 - p by omega]
        exact this
      rw [show (8 : Int32) = nI 8 from rfl, nI_leI (by omega) (by omega)]
      refine ⟨fun z => fin _ (fun y => by omega), fun z => ?_⟩
      rw [h5]
      refine m_sign hF.L hX (by omega) ⟨_, rfl, hF.L, m_letter hF.L hX.1.le ⟨_, rfl, hF.L, fin _ (fun y => ?_)⟩⟩
      rw [h10 (by omega), show b + 1 - p = (b - p) + 1 by omega, tby_s, pk6_app, show p + (b - p) = b by omega, nI_l (by omega)]
      rfl
theorem ld_loop {p : Nat} {t0 : gSt} {l1 : Int32} : ∀ (m b : Nat) (t : gSt), n - b = m → p ≤ b → b ≤ n → gFr ad tmD t0 t → txM ad T n t → t.2.1 (ad 144) 5 = nI b → t.2.2.1 (ad 144) 9 = lN (dvl T p (min (b - p) 10)) →
    (∀ u, gFr ad tmD t0 u → u.2.1 (ad 144) 5 = nI (rn isD T n b) → u.2.2.1 (ad 144) 9 = lN (dvl T p (min (rn isD T n b - p) 10)) → ∀ t5, t5 = g_si u (ad 144) 7 1 → (10 < nI (rn isD T n b - p) → g_W cx (g_E cx (d + 3)) mt_Mo_look post (457, [some (.ref (ad 144)), some (.int l1), some (.int (nI (rn isD T n b - p)))], [], t5, 0, 0)) ∧ (¬ (10 < nI (rn isD T n b - p)) → ((lg_cmp (t5.2.2.1 (ad 144) 9) 2147483647) ≤ 0 → g_W cx (g_E cx (d + 3)) mt_Mo_look post (665, [some (.ref (ad 144)), some (.int l1), some (.int (nI (rn isD T n b - p)))], [], t5, 0, 0)) ∧ (¬ ((lg_cmp (t5.2.2.1 (ad 144) 9) 2147483647) ≤ 0) → g_W cx (g_E cx (d + 3)) mt_Mo_look post (457, [some (.ref (ad 144)), some (.int l1), some (.int (nI (rn isD T n b - p)))], [], t5, 0, 0)))) →
    g_W cx (g_E cx (d + 3)) mt_Mo_look post (359, [some (.ref (ad 144)), some (.int l1), some (.int (nI (b - p)))], [], t, 0, 0) := by
  intro m
  induction m with
  | zero =>
    intro b t hm hpb hb hF hX h5 h9 hK
    have hn := hX.1.1
    have hT : T b = 256 := hX.1.2.2 b (by omega)
    have e : rn isD T n b = b := rn_no (by rw [hT]; rfl)
    rw [e] at hK
    refine x_Mo_look_359 hF.L ?_
    rw [h5]
    refine m_sign hF.L hX (by omega) ⟨_, rfl, hF.L, m_inS (lo := 48) (hi := 57) hX.1.le (by decide) (by decide) ⟨_, rfl, hF.L, fun _ => hK t hF h5 h9, fun q => ?_⟩⟩
    rw [hT] at q
    exact absurd rfl q
  | succ m ih =>
    intro b t hm hpb hb hF hX h5 h9 hK
    have hn := hX.1.1
    refine x_Mo_look_359 hF.L ?_
    rw [h5]
    refine m_sign hF.L hX (by omega) ⟨_, rfl, hF.L, m_inS (lo := 48) (hi := 57) hX.1.le (by decide) (by decide) ⟨_, rfl, hF.L, fun q => ?_, fun q => ?_⟩⟩
    · have n1 : ¬ (48 ≤ T b ∧ T b ≤ 57) := fun z => by rw [if_pos z] at q; exact absurd q (by decide)
      have e : rn isD T n b = b := rn_no (Bool.eq_false_iff.mpr (fun z => n1 (isD_i.mp z)))
      rw [e] at hK
      exact hK t hF h5 h9
    · have n1 : (48 ≤ T b ∧ T b ≤ 57) := Classical.byContradiction (fun z => q (by rw [if_neg z]))
      rw [rn_yes (isD_i.mpr n1) (by omega)] at hK
      have fin : ∀ s0 : Int64, s0 = lN (dvl T p (min (b + 1 - p) 10)) → g_W cx (g_E cx (d + 3)) mt_Mo_look post (416, [some (.ref (ad 144)), some (.int l1), some (.int (nI (b - p)))], [.long s0, .ref (ad 144)], t, 0, 0) := fun s0 hs => by
        refine x_Mo_look_416 hF.L (fun t1 e1 t2 e2 => ?_)
        have F : gFr ad tmD t t2 := by rw [e2, e1]; exact ((gFr.rf hF.L).sj rfl).si rfl
        have := ih (b + 1) t2 (by omega) (by omega) (by omega) (hF.tr F) (hX.fr F rfl (fun _ => rfl)) (by rw [e2, g_rd_at, e1, g_sj_i, h5, nI_1]) (by
          rw [e2, g_si_j, e1]
          rw [show (g_sj t (ad 144) 9 s0).2.2.1 (ad 144) 9 = s0 from g_up_v]
          exact hs) hK
        rw [nI_1, show b - p + 1 = b + 1 - p by omega]
        exact this
      rw [show (10 : Int32) = nI 10 from rfl, nI_leI (by omega) (by omega)]
      refine ⟨fun z => fin _ ?_, fun z => ?_⟩
      · rw [h9, show min (b + 1 - p) 10 = min (b - p) 10 by omega]
      · rw [h5]
        refine m_sign hF.L hX (by omega) ⟨_, rfl, hF.L, fin _ ?_⟩
        rw [h9, show min (b + 1 - p) 10 = (b - p) + 1 by omega, show min (b - p) 10 = b - p by omega]
        unfold sgI
        rw [if_neg (by omega), nI_l (by omega), show (10 : Int64) = lN 10 from rfl, lN_mul, lN_add, show (48 : Int64) = lN 48 from rfl, lN_sub (by omega)]
        simp only [dvl]
        rw [show p + (b - p) = b by omega, show 10 * dvl T p (b - p) + T b - 48 = dvl T p (b - p) * 10 + (T b - 48) by omega]
end TM
