/-! THE START: both objects are made, and the invariant holds -/
def a_ints : List (Nat × Nat × Int32) := [(144, 46, 20), (144, 4, -1), (0, 15, 20), (0, 14, -1), (4, 9, -1)]
def a_vars : List (Nat × Nat × Nat) := [(0, 11, 112), (0, 12, 128), (83, 1, 90), (83, 2, 91)]
def a_ck3 (o : Option aM) : Bool := match o with
  | some N => decide (N.1 = g_cells) && (decide (N.2.1 = a_ints) && (g_refs ++ a_vars).all (fun q => decide (aR N.2.2 q.1 q.2.1 = some q.2.2)))
  | none => false
def a_ck2 (o : Option aM) (f : aM → Option aM) : Bool := match o with
  | some M => decide (M.1.length = 144) && a_ck3 (f M)
  | none => false
theorem a_ck3_inv {o : Option aM} (h : a_ck3 o = true) : ∃ N, o = some N ∧ N.1 = g_cells ∧ N.2.1 = a_ints ∧ ∀ q ∈ g_refs ++ a_vars, aR N.2.2 q.1 q.2.1 = some q.2.2 := by
  cases o with
  | none => cases h
  | some N =>
    have h : (decide (N.1 = g_cells) && (decide (N.2.1 = a_ints) && (g_refs ++ a_vars).all (fun q => decide (aR N.2.2 q.1 q.2.1 = some q.2.2)))) = true := h
    rw [Bool.and_eq_true, Bool.and_eq_true] at h
    exact ⟨N, rfl, of_decide_eq_true h.1, of_decide_eq_true h.2.1, fun q hq => of_decide_eq_true (List.all_eq_true.mp h.2.2 q hq)⟩
theorem a_ck2_inv {o : Option aM} {f : aM → Option aM} (h : a_ck2 o f = true) : ∃ M N, o = some M ∧ M.1.length = 144 ∧ f M = some N ∧ N.1 = g_cells ∧ N.2.1 = a_ints ∧ ∀ q ∈ g_refs ++ a_vars, aR N.2.2 q.1 q.2.1 = some q.2.2 := by
  cases o with
  | none => cases h
  | some M =>
    have h : (decide (M.1.length = 144) && a_ck3 (f M)) = true := h
    rw [Bool.and_eq_true] at h
    obtain ⟨N, h1, h2⟩ := a_ck3_inv h.2
    exact ⟨M, N, rfl, of_decide_eq_true h.1, h1, h2⟩
def a_f1 : Option aM := a_E 4 126 [.ref 0] ([(11, 0)], [], [])
def a_f2 (M : aM) : Option aM := a_E 4 148 [.ref 144] (M.1 ++ [(12, 0)], M.2)
set_option maxRecDepth 100000 in
theorem a_chk_ok : a_ck2 a_f1 a_f2 = true := by decide +kernel
theorem g_cells_len : g_cells.length = 199 := by decide +kernel
theorem a_inv {ad : Nat → Nat} {N : aM} {t : gSt} (hR : aRel ad N t) (h1 : N.1 = g_cells) (h2 : N.2.1 = a_ints) (h3 : ∀ q ∈ g_refs ++ a_vars, aR N.2.2 q.1 q.2.1 = some q.2.2) : (∀ i j, i < 199 → j < 199 → ad i = ad j → i = j) ∧ g_Inv ad (gRst ad) t := by
  obtain ⟨r1, r2, r3, r4, -, -⟩ := hR
  rw [h1, g_cells_len] at r1 r2 r3 r4
  rw [h2] at r4
  have hI : ∀ i j, i < 199 → t.2.1 (ad i) j = aI a_ints i j := fun i j hi => (r4 i j hi).1
  have hZ : ∀ i j, i < 199 → a_ints.all (fun q => q.1 != i) = true → t.2.1 (ad i) j = nI 0 := fun i j hi h => (hI i j hi).trans ((aI_none h).trans (by decide))
  have hV : ∀ i j k, i < 199 → (i, j, k) ∈ g_refs ++ a_vars → t.2.2.2 (ad i) j = some (ad k) := fun i j k hi hm => by
    have h4 : aR N.2.2 i j = some k := h3 (i, j, k) hm
    rw [(r4 i j hi).2.2, h4]
    rfl
  refine ⟨r2, ⟨r2, fun i hi => ⟨⟨r1 i hi, (r3 i hi).1⟩, (r3 i hi).2⟩, fun q hq => hV q.1 q.2.1 q.2.2 (g_refs_lt q hq).1 (List.mem_append_left _ hq)⟩, ?_, ?_⟩
  · refine ⟨⟨0, Nat.zero_le _, (hI 0 f_Tr_textLength (by decide)).trans (by decide +kernel), (hI 144 f_Mo_textSize (by decide)).trans (by decide +kernel), fun j hj => absurd hj (Nat.not_lt_zero _)⟩, ?_, ?_, fun j _ => ?_, ⟨⟨?_, ?_, ?_⟩, 0, Nat.zero_le _, ?_, ?_, fun j hj => absurd hj (Nat.not_lt_zero _)⟩, ⟨0, 90, Nat.zero_le _, Or.inl rfl, ?_, ?_, ?_, fun j hj => absurd hj (Nat.not_lt_zero _)⟩⟩
    · rw [hI c_Tr _ (by decide), hI c_Mo _ (by decide)]
      decide +kernel
    · rw [hI c_Tr _ (by decide), hI c_Mo _ (by decide)]
      decide +kernel
    · rw [hZ c_Tr_arguments j (by decide) (by decide +kernel), hZ c_Mo_arguments j (by decide) (by decide +kernel)]
    · rw [hZ c_Machine _ (by decide) (by decide +kernel), hI c_Mo _ (by decide)]
      decide +kernel
    · rw [hZ c_Machine _ (by decide) (by decide +kernel), hI c_Mo _ (by decide)]
      decide +kernel
    · rw [hZ c_Machine _ (by decide) (by decide +kernel), hI c_Mo _ (by decide)]
      decide +kernel
    · exact hZ c_Machine _ (by decide) (by decide +kernel)
    · rw [hI c_Mo _ (by decide)]
      decide +kernel
    · exact hV 83 1 90 (by decide) (List.mem_append_right _ (by decide))
    · exact hZ c_Writer _ (by decide) (by decide +kernel)
    · rw [hI c_Mo _ (by decide)]
      decide +kernel
  · have hn : ∀ {α : Type} (f : Nat) (F : α), ¬ ([] : List α)[f]? = some F := fun f F h => by
      rw [List.getElem?_nil] at h
      cases h
    refine ⟨gRest_iff.mpr ⟨112, 128, [], [], fun _ _ => false, fun _ _ => false, fun _ => 0, ?_⟩, ⟨90, 91, Or.inl rfl, Or.inr rfl, by decide, hV 83 1 90 (by decide) (List.mem_append_right _ (by decide)), hV 83 2 91 (by decide) (List.mem_append_right _ (by decide))⟩, fun j => ?_⟩
    · refine ⟨Or.inl ⟨rfl, rfl⟩, hV 0 11 112 (by decide) (List.mem_append_right _ (by decide)), hV 0 12 128 (by decide) (List.mem_append_right _ (by decide)), Nat.zero_le _, rfl, ?_, ?_, ?_, ?_, ?_, ?_, ?_, ?_⟩
      · exact ⟨hZ 112 15 (by decide) (by decide +kernel), fun f F h => absurd h (hn f F)⟩
      · exact ⟨hZ 96 15 (by decide) (by decide +kernel), fun f F h => absurd h (hn f F)⟩
      · exact ⟨(hI 144 11 (by decide)).trans (by decide +kernel), fun f F h => absurd h (hn f F), fun f F h => absurd h (hn f F)⟩
      · exact ⟨fun f g hf => absurd hf (Nat.not_lt_zero _), fun k hk => absurd hk (Nat.not_lt_zero _)⟩
      · exact ⟨fun k hk => absurd hk (Nat.not_lt_zero _), fun i j hi => absurd hi (Nat.not_lt_zero _), fun f hf => absurd hf (Nat.not_lt_zero _), fun k g hk => absurd hk (Nat.not_lt_zero _), fun f F g h => absurd h (hn f F)⟩
      · exact ⟨0, (hI 144 33 (by decide)).trans (by decide +kernel), Nat.zero_le _⟩
      · exact fun f F h => absurd h (hn f F)
      · exact fun f F h => absurd h (hn f F)
    · rw [hZ 76 j (by decide) (by decide +kernel)]
      decide
set_option maxHeartbeats 4000000 in
/-- the law's body up to its loop -/
theorem g_law_pre {cx : gCx} {d b : Nat} {t : gSt} {post : Option Value → gSt → Prop} (hc : ∀ (ad : Nat → Nat) (u : gSt), (∀ i j, i < 199 → j < 199 → ad i = ad j → i = j) → g_Inv ad (gRst ad) u → g_W cx (g_E cx (d + 4)) mt_law post (18, [some (.ref b), some (.ref (ad c_Tr)), some (.ref (ad c_Mo)), some (.int (Int32.ofInt 0))], [], u, 199, 998999)) : g_W cx (g_E cx (d + 4)) mt_law post (0, g_l0 [.ref b] 4, [], t, 0, 0) := by
  obtain ⟨M, N, hM, hl, hN, h1, h2, h3⟩ := a_ck2_inv a_chk_ok
  have hE1 : ∀ a, a ∉ t.1.1 → ∀ post : Option Value → gSt → Prop, (∀ ad' u, aX (va_up (fun _ => a) 0 a) 1 ad' M.1.length → aRel ad' M u → post none u) → g_E cx (d + 4) i_Tr_init [.ref a] (g_nw t a k_Tr 0) post := fun a ha post hp =>
    a_E_ok (cx := cx) (e := d) 4 126 [.ref 0] ([(11, 0)], [], []) M hM (va_up (fun _ => a) 0 a) (g_nw t a 11 0) (aRel.nw (M := ([], [], [])) (ad := fun _ => a) aRel.nil ha) (fun v hv => by
      rw [List.mem_singleton.mp hv]
      exact Nat.zero_lt_one) post hp
  have hE2 : ∀ (ad1 : Nat → Nat) (u1 : gSt), aRel ad1 M u1 → ∀ a, a ∉ u1.1.1 → ∀ post : Option Value → gSt → Prop, (∀ ad' u, aX (va_up ad1 M.1.length a) 145 ad' N.1.length → aRel ad' N u → post none u) → g_E cx (d + 4) i_Mo_init [.ref a] (g_nw u1 a k_Mo 0) post := fun ad1 u1 hr1 a ha post hp => by
    have hlen : (M.1 ++ [(12, 0)]).length = 145 := by rw [List.length_append, hl]; rfl
    have e2 : va_up ad1 M.1.length a 144 = a := by
      have := va_up_self ad1 M.1.length a
      rw [hl] at this ⊢
      exact this
    have h := a_E_ok (cx := cx) (e := d) 4 148 [.ref 144] (M.1 ++ [(12, 0)], M.2) N hN (va_up ad1 M.1.length a) (g_nw u1 a 12 0) (hr1.nw ha) (fun v hv => by
      rw [List.mem_singleton.mp hv]
      show 144 < (M.1 ++ [(12, 0)]).length
      rw [hlen]
      decide) post (fun ad' u hx hu => hp ad' u (by
        have hx : aX (va_up ad1 M.1.length a) (M.1 ++ [(12, 0)]).length ad' N.1.length := hx
        rw [hlen] at hx
        exact hx) hu)
    have e3 : ([.ref 144] : List Value).map (a_v (va_up ad1 M.1.length a)) = [.ref a] := by
      show [Value.ref (va_up ad1 M.1.length a 144)] = [.ref a]
      rw [e2]
    rw [e3] at h
    exact h
  refine g_run [18] 20 (fun P hP => ?_)
  refine And.intro (by decide +kernel) (And.intro (by decide +kernel) (fun a ha => ?_))
  refine And.intro (And.intro (List.mem_append_right _ List.mem_cons_self) (va_up_self _ _ _)) (hE1 a ha _ (fun ad1 u1 hx1 hr1 => ?_))
  refine And.intro (by decide +kernel) (And.intro (by decide +kernel) (fun a2 ha2 => ?_))
  refine And.intro (And.intro (List.mem_append_right _ List.mem_cons_self) (va_up_self _ _ _)) (hE2 ad1 u1 hr1 a2 ha2 _ (fun ad2 u2 hx2 hr2 => ?_))
  obtain ⟨hi, hI⟩ := a_inv hr2 h1 h2 h3
  have e2 : va_up ad1 M.1.length a2 144 = a2 := by
    have := va_up_self ad1 M.1.length a2
    rw [hl] at this ⊢
    exact this
  have k2 : ad2 c_Mo = a2 := (hx2.2 144 (by decide)).trans e2
  have k1 : ad2 c_Tr = a := by
    have e1 : ad2 0 = ad1 0 := (hx2.2 0 (by decide)).trans (va_up_ne _ _ (by rw [hl]; decide))
    exact e1.trans (hx1.2 0 (by decide))
  have h := hc ad2 u2 hi hI
  rw [k1, k2] at h
  exact hP _ h
