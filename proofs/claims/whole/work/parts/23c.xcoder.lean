/-! PRINTED by wip/gen/xparts.py: symbolic execution, method by method -/
theorem x_Coder_encode {cx : gCx} {d : Nat} {ad : Nat → Nat} {p : Nat} (hp : isP p) {a2 : Int32} {t : gSt} {post : Option Value → gSt → Prop} (hL : Lay t ad) (h : ∀ t1, t1 = g_sr t (ad 67) 6 (some (ad p)) → (narrow .boolean (.int a2) = .int a2 ∧ fits .boolean (.int a2) = true) ∧ (∀ t3, t3 = g_si t1 (ad 67) 7 a2 → ∀ t4, t4 = g_si t3 (ad 67) 9 0 → g_W cx (g_E cx d) mt_Coder_encode post (17, [some (.ref (ad 67)), some (.ref (ad p)), some (.int a2), some (.int 0)], [], t4, 0, 0))) : g_E cx (d + 1) i_Coder_encode [.ref (ad 67), .ref (ad p), .int a2] t post := by
  refine g_call mt_Coder_encode rfl (by decide) (Nat.le_of_ble_eq_true rfl) ?_
  refine g_run [17] 400 (fun P hP => ?_)
  refine And.intro (hL.k 67 (by decide)) ?_
  have h := h _ rfl
  have hL := hL.sr 67 6 (some (ad p)) (by decide +kernel)
  refine And.intro (hL.k 67 (by decide)) (And.intro h.1 ?_)
  have h := h.2
  have h := h _ rfl
  refine And.intro (hL.k 67 (by decide)) ?_
  have h := h _ rfl
  exact hP _ h
theorem x_Coder_encode_17 {cx : gCx} {d : Nat} {ad : Nat → Nat} {p : Nat} (hp : isP p) {l2 l3 : Int32} {t : gSt} {post : Option Value → gSt → Prop} (hL : Lay t ad) (h : ((t.2.1 (ad p) 15) ≤ l3 → post none t) ∧ (¬ ((t.2.1 (ad p) 15) ≤ l3) → g_E cx d i_Coder_encodeIn [.ref (ad 67), .int l3] t (fun r u1 => r = none ∧ Lay u1 ad ∧ (g_W cx (g_E cx d) mt_Coder_encode post (17, [some (.ref (ad 67)), some (.ref (ad p)), some (.int l2), some (.int (l3 + 1))], [], u1, 0, 0))))) : g_W cx (g_E cx d) mt_Coder_encode post (17, [some (.ref (ad 67)), some (.ref (ad p)), some (.int l2), some (.int l3)], [], t, 0, 0) := by
  refine g_run [17] 400 (fun P hP => ?_)
  refine And.intro (hL.pk hp 0 (by decide)) ?_
  refine And.intro (fun c => ?_) (fun c => ?_)
  · have h := h.1 c
    exact And.intro rfl (And.intro rfl h)
  · have h := h.2 c
    refine And.intro (hL.k 67 (by decide)) ?_
    refine g_Em h (fun r u h => ?_)
    obtain ⟨rfl, hL, h⟩ := h
    exact hP _ h
theorem x_Coder_encodeIn {cx : gCx} {d : Nat} {ad : Nat → Nat} {p : Nat} (hp : isP p) {a1 : Int32} {t : gSt} {post : Option Value → gSt → Prop} (hL : Lay t ad) (hr_67_6 : t.2.2.2 (ad 67) 6 = some (ad p)) (h : ∀ t1, t1 = g_si t (ad 67) 8 a1 → ∀ t2, t2 = g_si t1 (ad 67) 10 0 → ∀ t3, t3 = g_si t2 (ad 67) 11 0 → vp_in a1 24 ∧ (∀ t4, t4 = g_si t3 (ad 67) 12 (t3.2.1 (ad (p + 2)) (a1 : Int32).toNatClampNeg) → g_W cx (g_E cx d) mt_Coder_encodeIn post (30, [some (.ref (ad 67)), some (.int a1), some (.int 0)], [], t4, 0, 0))) : g_E cx (d + 1) i_Coder_encodeIn [.ref (ad 67), .int a1] t post := by
  refine g_call mt_Coder_encodeIn rfl (by decide) (Nat.le_of_ble_eq_true rfl) ?_
  refine g_run [30, 83] 400 (fun P hP => ?_)
  refine And.intro (hL.k 67 (by decide)) ?_
  have h := h _ rfl
  refine And.intro (hL.k 67 (by decide)) ?_
  have h := h _ rfl
  refine And.intro (hL.k 67 (by decide)) ?_
  have h := h _ rfl
  refine And.intro (hL.k 67 (by decide)) (Or.inl ⟨_, hr_67_6, ?_⟩)
  refine And.intro (hL.pk hp 0 (by decide)) (Or.inl ⟨_, (hL.pr hp 3 (by decide)), ?_⟩)
  refine Or.inl (And.intro (hL.pk hp 2 (by decide)) (And.intro (hL.pv hp 2 (by decide) (by decide) h.1) ?_))
  have h := h.2
  refine And.intro (hL.k 67 (by decide)) ?_
  have h := h _ rfl
  exact hP _ h
theorem x_Coder_encodeIn_30 {cx : gCx} {d : Nat} {ad : Nat → Nat} {p : Nat} (hp : isP p) {l1 l2 : Int32} {t : gSt} {post : Option Value → gSt → Prop} (hL : Lay t ad) (hr_67_6 : t.2.2.2 (ad 67) 6 = some (ad p)) (h : vp_in l1 24 ∧ (((t.2.1 (ad (p + 2)) (l1 : Int32).toNatClampNeg) ≤ l2 → vp_in l1 24 ∧ (∀ t1, t1 = g_si t (ad (p + 7)) (l1 : Int32).toNatClampNeg (t.2.1 (ad 67) 9) → g_E cx d i_Walk_begin [.ref (ad 68), .ref (ad p), .int l1] t1 (fun r u2 => r = none ∧ Lay u2 ad ∧ (g_W cx (g_E cx d) mt_Coder_encodeIn post (83, [some (.ref (ad 67)), some (.int l1), some (.int 0)], [], u2, 0, 0))))) ∧ (¬ ((t.2.1 (ad (p + 2)) (l1 : Int32).toNatClampNeg) ≤ l2) → vp_in l2 120 ∧ (∀ t4, t4 = g_si t (ad 78) (l2 : Int32).toNatClampNeg l2 → g_W cx (g_E cx d) mt_Coder_encodeIn post (30, [some (.ref (ad 67)), some (.int l1), some (.int (l2 + 1))], [], t4, 0, 0))))) : g_W cx (g_E cx d) mt_Coder_encodeIn post (30, [some (.ref (ad 67)), some (.int l1), some (.int l2)], [], t, 0, 0) := by
  refine g_run [30, 83] 400 (fun P hP => ?_)
  refine And.intro (hL.k 67 (by decide)) (Or.inl ⟨_, hr_67_6, ?_⟩)
  refine And.intro (hL.pk hp 0 (by decide)) (Or.inl ⟨_, (hL.pr hp 3 (by decide)), ?_⟩)
  refine Or.inl (And.intro (hL.pk hp 2 (by decide)) (And.intro (hL.pv hp 2 (by decide) (by decide) h.1) ?_))
  have h := h.2
  refine And.intro (fun c => ?_) (fun c => ?_)
  · have h := h.1 c
    refine And.intro (hL.k 67 (by decide)) (Or.inl ⟨_, hr_67_6, ?_⟩)
    refine And.intro (hL.pk hp 0 (by decide)) (Or.inl ⟨_, (hL.pr hp 10 (by decide)), ?_⟩)
    refine And.intro (hL.k 67 (by decide)) ?_
    refine And.intro (hL.pk hp 7 (by decide)) (And.intro (hL.pv hp 7 (by decide) (by decide) h.1) ?_)
    have h := h.2 _ rfl
    refine And.intro (hL.k 67 (by decide)) (Or.inl ⟨_, (hL.r 67 0 68 (by decide)), ?_⟩)
    refine And.intro (hL.k 67 (by decide)) (Or.inl ⟨_, hr_67_6, ?_⟩)
    refine And.intro (hL.k 68 (by decide)) ?_
    refine g_Em h (fun r u h => ?_)
    obtain ⟨rfl, hL, h⟩ := h
    exact hP _ h
  · have h := h.2 c
    refine And.intro (hL.k 67 (by decide)) (Or.inl ⟨_, (hL.r 67 5 78 (by decide)), ?_⟩)
    refine And.intro (hL.k 78 (by decide)) (And.intro (hL.v 78 (by decide) h.1) ?_)
    have h := h.2 _ rfl
    exact hP _ h
theorem x_Coder_encodeIn_83 {cx : gCx} {d : Nat} {ad : Nat → Nat} {p : Nat} (hp : isP p) {l1 l2 : Int32} {t : gSt} {post : Option Value → gSt → Prop} (hL : Lay t ad) (hr_67_6 : t.2.2.2 (ad 67) 6 = some (ad p)) (h : (1500 ≤ l2 → vp_in l1 24 ∧ (vp_in l1 24 ∧ (∀ t1, t1 = g_si t (ad (p + 8)) (l1 : Int32).toNatClampNeg ((t.2.1 (ad 67) 9) - (t.2.1 (ad (p + 7)) (l1 : Int32).toNatClampNeg)) → vp_in l1 24 ∧ (∀ t2, t2 = g_si t1 (ad (p + 9)) (l1 : Int32).toNatClampNeg (t1.2.1 (ad 67) 12) → vp_in l1 24 ∧ (∀ t3, t3 = g_si t2 (ad (p + 10)) (l1 : Int32).toNatClampNeg (t2.2.1 (ad 67) 11) → post none t3))))) ∧ (¬ (1500 ≤ l2) → g_E cx d i_Walk_advance [.ref (ad 68)] t (fun r u4 => ∃ y5 : Int32, r = some (.int y5) ∧ Lay u4 ad ∧ u4.2.2.2 (ad 67) 6 = some (ad p) ∧ ((y5 = 0 → vp_in l1 24 ∧ (vp_in l1 24 ∧ (∀ t6, t6 = g_si u4 (ad (p + 8)) (l1 : Int32).toNatClampNeg ((u4.2.1 (ad 67) 9) - (u4.2.1 (ad (p + 7)) (l1 : Int32).toNatClampNeg)) → vp_in l1 24 ∧ (∀ t7, t7 = g_si t6 (ad (p + 9)) (l1 : Int32).toNatClampNeg (t6.2.1 (ad 67) 12) → vp_in l1 24 ∧ (∀ t8, t8 = g_si t7 (ad (p + 10)) (l1 : Int32).toNatClampNeg (t7.2.1 (ad 67) 11) → post none t8))))) ∧ (¬ (y5 = 0) → (¬ (u4.2.1 (ad 68) 5) = 1 → (¬ (u4.2.1 (ad 68) 5) = 2 → g_E cx d i_Coder_leave [.ref (ad 67), .int (u4.2.1 (ad 68) 6)] u4 (fun r u9 => r = none ∧ Lay u9 ad ∧ (g_W cx (g_E cx d) mt_Coder_encodeIn post (83, [some (.ref (ad 67)), some (.int l1), some (.int (l2 + 1))], [], u9, 0, 0)))) ∧ (¬ (¬ (u4.2.1 (ad 68) 5) = 2) → g_E cx d i_Coder_behindKid [.ref (ad 67), .int (u4.2.1 (ad 68) 6), .int (u4.2.1 (ad 68) 7)] u4 (fun r u11 => r = none ∧ Lay u11 ad ∧ (g_W cx (g_E cx d) mt_Coder_encodeIn post (83, [some (.ref (ad 67)), some (.int l1), some (.int (l2 + 1))], [], u11, 0, 0))))) ∧ (¬ (¬ (u4.2.1 (ad 68) 5) = 1) → g_E cx d i_Coder_enter [.ref (ad 67), .int (u4.2.1 (ad 68) 6)] u4 (fun r u13 => r = none ∧ Lay u13 ad ∧ (g_W cx (g_E cx d) mt_Coder_encodeIn post (83, [some (.ref (ad 67)), some (.int l1), some (.int (l2 + 1))], [], u13, 0, 0))))))))) : g_W cx (g_E cx d) mt_Coder_encodeIn post (83, [some (.ref (ad 67)), some (.int l1), some (.int l2)], [], t, 0, 0) := by
  refine g_run [30, 83] 400 (fun P hP => ?_)
  refine And.intro (fun c => ?_) (fun c => ?_)
  · have h := h.1 c
    refine And.intro (hL.k 67 (by decide)) (Or.inl ⟨_, hr_67_6, ?_⟩)
    refine And.intro (hL.pk hp 0 (by decide)) (Or.inl ⟨_, (hL.pr hp 11 (by decide)), ?_⟩)
    refine And.intro (hL.k 67 (by decide)) ?_
    refine And.intro (hL.k 67 (by decide)) (Or.inl ⟨_, hr_67_6, ?_⟩)
    refine And.intro (hL.pk hp 0 (by decide)) (Or.inl ⟨_, (hL.pr hp 10 (by decide)), ?_⟩)
    refine Or.inl (And.intro (hL.pk hp 7 (by decide)) (And.intro (hL.pv hp 7 (by decide) (by decide) h.1) ?_))
    have h := h.2
    refine And.intro (hL.pk hp 8 (by decide)) (And.intro (hL.pv hp 8 (by decide) (by decide) h.1) ?_)
    have h := h.2 _ rfl
    refine And.intro (hL.k 67 (by decide)) (Or.inl ⟨_, hr_67_6, ?_⟩)
    refine And.intro (hL.pk hp 0 (by decide)) (Or.inl ⟨_, (hL.pr hp 12 (by decide)), ?_⟩)
    refine And.intro (hL.k 67 (by decide)) ?_
    refine And.intro (hL.pk hp 9 (by decide)) (And.intro (hL.pv hp 9 (by decide) (by decide) h.1) ?_)
    have h := h.2 _ rfl
    refine And.intro (hL.k 67 (by decide)) (Or.inl ⟨_, hr_67_6, ?_⟩)
    refine And.intro (hL.pk hp 0 (by decide)) (Or.inl ⟨_, (hL.pr hp 13 (by decide)), ?_⟩)
    refine And.intro (hL.k 67 (by decide)) ?_
    refine And.intro (hL.pk hp 10 (by decide)) (And.intro (hL.pv hp 10 (by decide) (by decide) h.1) ?_)
    have h := h.2 _ rfl
    exact And.intro rfl (And.intro rfl h)
  · have h := h.2 c
    refine And.intro (hL.k 67 (by decide)) (Or.inl ⟨_, (hL.r 67 0 68 (by decide)), ?_⟩)
    refine And.intro (hL.k 68 (by decide)) ?_
    refine g_Em h (fun r u h => ?_)
    obtain ⟨y5, rfl, hL, hr_67_6, h⟩ := h
    refine And.intro (fun c => ?_) (fun c => ?_)
    · have h := h.1 c
      refine And.intro (hL.k 67 (by decide)) (Or.inl ⟨_, hr_67_6, ?_⟩)
      refine And.intro (hL.pk hp 0 (by decide)) (Or.inl ⟨_, (hL.pr hp 11 (by decide)), ?_⟩)
      refine And.intro (hL.k 67 (by decide)) ?_
      refine And.intro (hL.k 67 (by decide)) (Or.inl ⟨_, hr_67_6, ?_⟩)
      refine And.intro (hL.pk hp 0 (by decide)) (Or.inl ⟨_, (hL.pr hp 10 (by decide)), ?_⟩)
      refine Or.inl (And.intro (hL.pk hp 7 (by decide)) (And.intro (hL.pv hp 7 (by decide) (by decide) h.1) ?_))
      have h := h.2
      refine And.intro (hL.pk hp 8 (by decide)) (And.intro (hL.pv hp 8 (by decide) (by decide) h.1) ?_)
      have h := h.2 _ rfl
      refine And.intro (hL.k 67 (by decide)) (Or.inl ⟨_, hr_67_6, ?_⟩)
      refine And.intro (hL.pk hp 0 (by decide)) (Or.inl ⟨_, (hL.pr hp 12 (by decide)), ?_⟩)
      refine And.intro (hL.k 67 (by decide)) ?_
      refine And.intro (hL.pk hp 9 (by decide)) (And.intro (hL.pv hp 9 (by decide) (by decide) h.1) ?_)
      have h := h.2 _ rfl
      refine And.intro (hL.k 67 (by decide)) (Or.inl ⟨_, hr_67_6, ?_⟩)
      refine And.intro (hL.pk hp 0 (by decide)) (Or.inl ⟨_, (hL.pr hp 13 (by decide)), ?_⟩)
      refine And.intro (hL.k 67 (by decide)) ?_
      refine And.intro (hL.pk hp 10 (by decide)) (And.intro (hL.pv hp 10 (by decide) (by decide) h.1) ?_)
      have h := h.2 _ rfl
      exact And.intro rfl (And.intro rfl h)
    · have h := h.2 c
      refine And.intro (hL.k 67 (by decide)) (Or.inl ⟨_, (hL.r 67 0 68 (by decide)), ?_⟩)
      refine And.intro (hL.k 68 (by decide)) ?_
      refine And.intro (fun c => ?_) (fun c => ?_)
      · have h := h.1 c
        refine And.intro (hL.k 67 (by decide)) (Or.inl ⟨_, (hL.r 67 0 68 (by decide)), ?_⟩)
        refine And.intro (hL.k 68 (by decide)) ?_
        refine And.intro (fun c => ?_) (fun c => ?_)
        · have h := h.1 c
          refine And.intro (hL.k 67 (by decide)) (Or.inl ⟨_, (hL.r 67 0 68 (by decide)), ?_⟩)
          refine And.intro (hL.k 68 (by decide)) ?_
          refine And.intro (hL.k 67 (by decide)) ?_
          refine g_Em h (fun r u h => ?_)
          obtain ⟨rfl, hL, h⟩ := h
          exact hP _ h
        · have h := h.2 c
          refine And.intro (hL.k 67 (by decide)) (Or.inl ⟨_, (hL.r 67 0 68 (by decide)), ?_⟩)
          refine And.intro (hL.k 68 (by decide)) ?_
          refine And.intro (hL.k 67 (by decide)) (Or.inl ⟨_, (hL.r 67 0 68 (by decide)), ?_⟩)
          refine And.intro (hL.k 68 (by decide)) ?_
          refine And.intro (hL.k 67 (by decide)) ?_
          refine g_Em h (fun r u h => ?_)
          obtain ⟨rfl, hL, h⟩ := h
          exact hP _ h
      · have h := h.2 c
        refine And.intro (hL.k 67 (by decide)) (Or.inl ⟨_, (hL.r 67 0 68 (by decide)), ?_⟩)
        refine And.intro (hL.k 68 (by decide)) ?_
        refine And.intro (hL.k 67 (by decide)) ?_
        refine g_Em h (fun r u h => ?_)
        obtain ⟨rfl, hL, h⟩ := h
        exact hP _ h
theorem x_Coder_enter {cx : gCx} {d : Nat} {ad : Nat → Nat} {p : Nat} (hp : isP p) {a1 : Int32} {t : gSt} {post : Option Value → gSt → Prop} (hL : Lay t ad) (hr_67_6 : t.2.2.2 (ad 67) 6 = some (ad p)) (h : (¬ a1 = 0 → vp_in (a1 - 1) 500 ∧ (∀ x1 : Int32, x1 = (t.2.1 (ad 70) ((a1 - 1) : Int32).toNatClampNeg) → vp_in (a1 - 1) 500 ∧ (∀ x2 : Int32, x2 = (t.2.1 (ad 72) ((a1 - 1) : Int32).toNatClampNeg) → (¬ x1 = 13 → (x1 = 14 → g_W cx (g_E cx d) mt_Coder_enter post (86, [some (.ref (ad 67)), some (.int a1), some (.int x1), some (.int x2), none], [], t, 0, 0)) ∧ (¬ (x1 = 14) → (¬ x1 = 12 → g_W cx (g_E cx d) mt_Coder_enter post (95, [some (.ref (ad 67)), some (.int a1), some (.int x1), some (.int x2), none], [], t, 0, 0)) ∧ (¬ (¬ x1 = 12) → g_W cx (g_E cx d) mt_Coder_enter post (86, [some (.ref (ad 67)), some (.int a1), some (.int x1), some (.int x2), none], [], t, 0, 0)))) ∧ (¬ (¬ x1 = 13) → (x2 ≤ 0 → g_W cx (g_E cx d) mt_Coder_enter post (96, [some (.ref (ad 67)), some (.int a1), some (.int x1), some (.int x2), none], [.int 0], t, 0, 0)) ∧ (¬ (x2 ≤ 0) → g_W cx (g_E cx d) mt_Coder_enter post (96, [some (.ref (ad 67)), some (.int a1), some (.int x1), some (.int x2), none], [.int 1], t, 0, 0)))))) ∧ (¬ (¬ a1 = 0) → vp_in 0 500 ∧ (∀ t3, t3 = g_si t (ad 74) (0 : Int32).toNatClampNeg (vp_nar .boolean 1) → vp_in (t3.2.1 (ad 67) 8) 24 ∧ (vp_in 0 500 ∧ (∀ t4, t4 = g_si t3 (ad 75) (0 : Int32).toNatClampNeg (t3.2.1 (ad (p + 2)) ((t3.2.1 (ad 67) 8) : Int32).toNatClampNeg) → g_W cx (g_E cx d) mt_Coder_enter post (156, [some (.ref (ad 67)), some (.int a1), none, none, none], [], t4, 0, 0)))))) : g_E cx (d + 1) i_Coder_enter [.ref (ad 67), .int a1] t post := by
  refine g_call mt_Coder_enter rfl (by decide) (Nat.le_of_ble_eq_true rfl) ?_
  refine g_run [86, 95, 96, 123, 124, 153, 154, 156, 190] 400 (fun P hP => ?_)
  refine And.intro (fun c => ?_) (fun c => ?_)
  · have h := h.1 c
    refine And.intro (hL.k 67 (by decide)) (Or.inl ⟨_, (hL.r 67 0 68 (by decide)), ?_⟩)
    refine And.intro (hL.k 68 (by decide)) (Or.inl ⟨_, (hL.r 68 1 70 (by decide)), ?_⟩)
    refine Or.inl (And.intro (hL.k 70 (by decide)) (And.intro (hL.v 70 (by decide) h.1) ?_))
    have h := h.2
    have h := h _ rfl
    refine And.intro (hL.k 67 (by decide)) (Or.inl ⟨_, (hL.r 67 0 68 (by decide)), ?_⟩)
    refine And.intro (hL.k 68 (by decide)) (Or.inl ⟨_, (hL.r 68 3 72 (by decide)), ?_⟩)
    refine Or.inl (And.intro (hL.k 72 (by decide)) (And.intro (hL.v 72 (by decide) h.1) ?_))
    have h := h.2
    have h := h _ rfl
    refine And.intro (fun c => ?_) (fun c => ?_)
    · have h := h.1 c
      refine And.intro (fun c => ?_) (fun c => ?_)
      · have h := h.1 c
        exact hP _ h
      · have h := h.2 c
        refine And.intro (fun c => ?_) (fun c => ?_)
        · have h := h.1 c
          exact hP _ h
        · have h := h.2 c
          exact hP _ h
    · have h := h.2 c
      refine And.intro (fun c => ?_) (fun c => ?_)
      · have h := h.1 c
        exact hP _ h
      · have h := h.2 c
        exact hP _ h
  · have h := h.2 c
    refine And.intro (hL.k 67 (by decide)) (Or.inl ⟨_, (hL.r 67 1 74 (by decide)), ?_⟩)
    refine And.intro (hL.v 74 (by decide) h.1) (Or.inr (And.intro (hL.k 74 (by decide)) ?_))
    have h := h.2 _ rfl
    refine And.intro (hL.k 67 (by decide)) (Or.inl ⟨_, (hL.r 67 2 75 (by decide)), ?_⟩)
    refine And.intro (hL.k 67 (by decide)) (Or.inl ⟨_, hr_67_6, ?_⟩)
    refine And.intro (hL.pk hp 0 (by decide)) (Or.inl ⟨_, (hL.pr hp 3 (by decide)), ?_⟩)
    refine And.intro (hL.k 67 (by decide)) ?_
    refine Or.inl (And.intro (hL.pk hp 2 (by decide)) (And.intro (hL.pv hp 2 (by decide) (by decide) h.1) ?_))
    have h := h.2
    refine And.intro (hL.k 75 (by decide)) (And.intro (hL.v 75 (by decide) h.1) ?_)
    have h := h.2 _ rfl
    exact hP _ h
theorem x_Coder_enter_86 {cx : gCx} {d : Nat} {ad : Nat → Nat} {l1 l2 l3 : Int32} {t : gSt} {post : Option Value → gSt → Prop} (hL : Lay t ad) (h : (¬ l3 = 1 → g_W cx (g_E cx d) mt_Coder_enter post (95, [some (.ref (ad 67)), some (.int l1), some (.int l2), some (.int l3), none], [], t, 0, 0)) ∧ (¬ (¬ l3 = 1) → g_W cx (g_E cx d) mt_Coder_enter post (96, [some (.ref (ad 67)), some (.int l1), some (.int l2), some (.int l3), none], [.int 1], t, 0, 0))) : g_W cx (g_E cx d) mt_Coder_enter post (86, [some (.ref (ad 67)), some (.int l1), some (.int l2), some (.int l3), none], [], t, 0, 0) := by
  refine g_run [86, 95, 96, 123, 124, 153, 154, 156, 190] 400 (fun P hP => ?_)
  refine And.intro (fun c => ?_) (fun c => ?_)
  · have h := h.1 c
    exact hP _ h
  · have h := h.2 c
    exact hP _ h
theorem x_Coder_enter_95 {cx : gCx} {d : Nat} {ad : Nat → Nat} {l1 l2 l3 : Int32} {t : gSt} {post : Option Value → gSt → Prop} (hL : Lay t ad) (h : g_W cx (g_E cx d) mt_Coder_enter post (96, [some (.ref (ad 67)), some (.int l1), some (.int l2), some (.int l3), none], [.int 0], t, 0, 0)) : g_W cx (g_E cx d) mt_Coder_enter post (95, [some (.ref (ad 67)), some (.int l1), some (.int l2), some (.int l3), none], [], t, 0, 0) := by
  refine g_run [86, 95, 96, 123, 124, 153, 154, 156, 190] 400 (fun P hP => ?_)
  exact hP _ h
theorem x_Coder_enter_96 {cx : gCx} {d : Nat} {ad : Nat → Nat} {l1 l2 l3 s0 : Int32} {t : gSt} {post : Option Value → gSt → Prop} (hL : Lay t ad) (h : vp_in (l1 - 1) 500 ∧ (((t.2.1 (ad 74) ((l1 - 1) : Int32).toNatClampNeg) = 0 → g_W cx (g_E cx d) mt_Coder_enter post (123, [some (.ref (ad 67)), some (.int l1), some (.int l2), some (.int l3), some (.int s0)], [.int l1, .ref (ad 74)], t, 0, 0)) ∧ (¬ ((t.2.1 (ad 74) ((l1 - 1) : Int32).toNatClampNeg) = 0) → (s0 = 0 → g_W cx (g_E cx d) mt_Coder_enter post (123, [some (.ref (ad 67)), some (.int l1), some (.int l2), some (.int l3), some (.int s0)], [.int l1, .ref (ad 74)], t, 0, 0)) ∧ (¬ (s0 = 0) → g_W cx (g_E cx d) mt_Coder_enter post (124, [some (.ref (ad 67)), some (.int l1), some (.int l2), some (.int l3), some (.int s0)], [.int 1, .int l1, .ref (ad 74)], t, 0, 0))))) : g_W cx (g_E cx d) mt_Coder_enter post (96, [some (.ref (ad 67)), some (.int l1), some (.int l2), some (.int l3), none], [.int s0], t, 0, 0) := by
  refine g_run [86, 95, 96, 123, 124, 153, 154, 156, 190] 400 (fun P hP => ?_)
  refine And.intro (hL.k 67 (by decide)) (Or.inl ⟨_, (hL.r 67 1 74 (by decide)), ?_⟩)
  refine And.intro (hL.k 67 (by decide)) (Or.inl ⟨_, (hL.r 67 1 74 (by decide)), ?_⟩)
  refine Or.inl (And.intro (Or.inr (hL.k 74 (by decide))) (And.intro (hL.v 74 (by decide) h.1) ?_))
  have h := h.2
  refine And.intro (fun c => ?_) (fun c => ?_)
  · have h := h.1 c
    exact hP _ h
  · have h := h.2 c
    refine And.intro (fun c => ?_) (fun c => ?_)
    · have h := h.1 c
      exact hP _ h
    · have h := h.2 c
      exact hP _ h
theorem x_Coder_enter_123 {cx : gCx} {d : Nat} {ad : Nat → Nat} {l1 l2 l3 l4 s0 : Int32} {t : gSt} {post : Option Value → gSt → Prop} (hL : Lay t ad) (h : g_W cx (g_E cx d) mt_Coder_enter post (124, [some (.ref (ad 67)), some (.int l1), some (.int l2), some (.int l3), some (.int l4)], [.int 0, .int s0, .ref (ad 74)], t, 0, 0)) : g_W cx (g_E cx d) mt_Coder_enter post (123, [some (.ref (ad 67)), some (.int l1), some (.int l2), some (.int l3), some (.int l4)], [.int s0, .ref (ad 74)], t, 0, 0) := by
  refine g_run [86, 95, 96, 123, 124, 153, 154, 156, 190] 400 (fun P hP => ?_)
  exact hP _ h
theorem x_Coder_enter_124 {cx : gCx} {d : Nat} {ad : Nat → Nat} {l1 l2 l3 l4 s0 s1 : Int32} {t : gSt} {post : Option Value → gSt → Prop} (hL : Lay t ad) (h : vp_in s1 500 ∧ (∀ t1, t1 = g_si t (ad 74) (s1 : Int32).toNatClampNeg (vp_nar .boolean s0) → vp_in (l1 - 1) 500 ∧ ((¬ l2 = 14 → g_W cx (g_E cx d) mt_Coder_enter post (153, [some (.ref (ad 67)), some (.int l1), some (.int l2), some (.int l3), some (.int l4)], [.int (t1.2.1 (ad 75) ((l1 - 1) : Int32).toNatClampNeg), .int l1, .ref (ad 75)], t1, 0, 0)) ∧ (¬ (¬ l2 = 14) → (¬ l3 = 1 → g_W cx (g_E cx d) mt_Coder_enter post (153, [some (.ref (ad 67)), some (.int l1), some (.int l2), some (.int l3), some (.int l4)], [.int (t1.2.1 (ad 75) ((l1 - 1) : Int32).toNatClampNeg), .int l1, .ref (ad 75)], t1, 0, 0)) ∧ (¬ (¬ l3 = 1) → g_W cx (g_E cx d) mt_Coder_enter post (154, [some (.ref (ad 67)), some (.int l1), some (.int l2), some (.int l3), some (.int l4)], [.int 1, .int (t1.2.1 (ad 75) ((l1 - 1) : Int32).toNatClampNeg), .int l1, .ref (ad 75)], t1, 0, 0)))))) : g_W cx (g_E cx d) mt_Coder_enter post (124, [some (.ref (ad 67)), some (.int l1), some (.int l2), some (.int l3), some (.int l4)], [.int s0, .int s1, .ref (ad 74)], t, 0, 0) := by
  refine g_run [86, 95, 96, 123, 124, 153, 154, 156, 190] 400 (fun P hP => ?_)
  refine And.intro (hL.v 74 (by decide) h.1) (Or.inr (And.intro (hL.k 74 (by decide)) ?_))
  have h := h.2 _ rfl
  refine And.intro (hL.k 67 (by decide)) (Or.inl ⟨_, (hL.r 67 2 75 (by decide)), ?_⟩)
  refine And.intro (hL.k 67 (by decide)) (Or.inl ⟨_, (hL.r 67 2 75 (by decide)), ?_⟩)
  refine Or.inl (And.intro (hL.k 75 (by decide)) (And.intro (hL.v 75 (by decide) h.1) ?_))
  have h := h.2
  refine And.intro (fun c => ?_) (fun c => ?_)
  · have h := h.1 c
    exact hP _ h
  · have h := h.2 c
    refine And.intro (fun c => ?_) (fun c => ?_)
    · have h := h.1 c
      exact hP _ h
    · have h := h.2 c
      exact hP _ h
theorem x_Coder_enter_153 {cx : gCx} {d : Nat} {ad : Nat → Nat} {l1 l2 l3 l4 s0 s1 : Int32} {t : gSt} {post : Option Value → gSt → Prop} (hL : Lay t ad) (h : g_W cx (g_E cx d) mt_Coder_enter post (154, [some (.ref (ad 67)), some (.int l1), some (.int l2), some (.int l3), some (.int l4)], [.int 0, .int s0, .int s1, .ref (ad 75)], t, 0, 0)) : g_W cx (g_E cx d) mt_Coder_enter post (153, [some (.ref (ad 67)), some (.int l1), some (.int l2), some (.int l3), some (.int l4)], [.int s0, .int s1, .ref (ad 75)], t, 0, 0) := by
  refine g_run [86, 95, 96, 123, 124, 153, 154, 156, 190] 400 (fun P hP => ?_)
  exact hP _ h
theorem x_Coder_enter_154 {cx : gCx} {d : Nat} {ad : Nat → Nat} {l1 l2 l3 l4 s0 s1 s2 : Int32} {t : gSt} {post : Option Value → gSt → Prop} (hL : Lay t ad) (h : vp_in s2 500 ∧ (∀ t1, t1 = g_si t (ad 75) (s2 : Int32).toNatClampNeg (s1 + s0) → g_W cx (g_E cx d) mt_Coder_enter post (156, [some (.ref (ad 67)), some (.int l1), some (.int l2), some (.int l3), some (.int l4)], [], t1, 0, 0))) : g_W cx (g_E cx d) mt_Coder_enter post (154, [some (.ref (ad 67)), some (.int l1), some (.int l2), some (.int l3), some (.int l4)], [.int s0, .int s1, .int s2, .ref (ad 75)], t, 0, 0) := by
  refine g_run [86, 95, 96, 123, 124, 153, 154, 156, 190] 400 (fun P hP => ?_)
  refine And.intro (hL.k 75 (by decide)) (And.intro (hL.v 75 (by decide) h.1) ?_)
  have h := h.2 _ rfl
  exact hP _ h
theorem x_Coder_enter_156 {cx : gCx} {d : Nat} {ad : Nat → Nat} {l1 : Int32} {o2 o3 o4 : Option Value} {t : gSt} {post : Option Value → gSt → Prop} (hL : Lay t ad) (h : vp_in l1 500 ∧ ((¬ (t.2.1 (ad 70) (l1 : Int32).toNatClampNeg) = 14 → g_W cx (g_E cx d) mt_Coder_enter post (190, [some (.ref (ad 67)), some (.int l1), o2, o3, o4], [], t, 0, 0)) ∧ (¬ (¬ (t.2.1 (ad 70) (l1 : Int32).toNatClampNeg) = 14) → vp_in l1 500 ∧ (vp_in l1 500 ∧ (vp_in (t.2.1 (ad 71) (l1 : Int32).toNatClampNeg) 120 ∧ (∀ t1, t1 = g_si t (ad 78) ((t.2.1 (ad 71) (l1 : Int32).toNatClampNeg) : Int32).toNatClampNeg (t.2.1 (ad 75) (l1 : Int32).toNatClampNeg) → g_W cx (g_E cx d) mt_Coder_enter post (190, [some (.ref (ad 67)), some (.int l1), o2, o3, o4], [], t1, 0, 0))))))) : g_W cx (g_E cx d) mt_Coder_enter post (156, [some (.ref (ad 67)), some (.int l1), o2, o3, o4], [], t, 0, 0) := by
  refine g_run [86, 95, 96, 123, 124, 153, 154, 156, 190] 400 (fun P hP => ?_)
  refine And.intro (hL.k 67 (by decide)) (Or.inl ⟨_, (hL.r 67 0 68 (by decide)), ?_⟩)
  refine And.intro (hL.k 68 (by decide)) (Or.inl ⟨_, (hL.r 68 1 70 (by decide)), ?_⟩)
  refine Or.inl (And.intro (hL.k 70 (by decide)) (And.intro (hL.v 70 (by decide) h.1) ?_))
  have h := h.2
  refine And.intro (fun c => ?_) (fun c => ?_)
  · have h := h.1 c
    exact hP _ h
  · have h := h.2 c
    refine And.intro (hL.k 67 (by decide)) (Or.inl ⟨_, (hL.r 67 5 78 (by decide)), ?_⟩)
    refine And.intro (hL.k 67 (by decide)) (Or.inl ⟨_, (hL.r 67 0 68 (by decide)), ?_⟩)
    refine And.intro (hL.k 68 (by decide)) (Or.inl ⟨_, (hL.r 68 2 71 (by decide)), ?_⟩)
    refine Or.inl (And.intro (hL.k 71 (by decide)) (And.intro (hL.v 71 (by decide) h.1) ?_))
    have h := h.2
    refine And.intro (hL.k 67 (by decide)) (Or.inl ⟨_, (hL.r 67 2 75 (by decide)), ?_⟩)
    refine Or.inl (And.intro (hL.k 75 (by decide)) (And.intro (hL.v 75 (by decide) h.1) ?_))
    have h := h.2
    refine And.intro (hL.k 78 (by decide)) (And.intro (hL.v 78 (by decide) h.1) ?_)
    have h := h.2 _ rfl
    exact hP _ h
theorem x_Coder_enter_190 {cx : gCx} {d : Nat} {ad : Nat → Nat} {l1 : Int32} {o2 o3 o4 : Option Value} {t : gSt} {post : Option Value → gSt → Prop} (hL : Lay t ad) (h : post none t) : g_W cx (g_E cx d) mt_Coder_enter post (190, [some (.ref (ad 67)), some (.int l1), o2, o3, o4], [], t, 0, 0) := by
  refine g_run [86, 95, 96, 123, 124, 153, 154, 156, 190] 400 (fun P hP => ?_)
  exact And.intro rfl (And.intro rfl h)
theorem x_Coder_behindKid {cx : gCx} {d : Nat} {ad : Nat → Nat} {a1 a2 : Int32} {t : gSt} {post : Option Value → gSt → Prop} (hL : Lay t ad) (h : vp_in a1 500 ∧ (∀ x1 : Int32, x1 = (t.2.1 (ad 70) (a1 : Int32).toNatClampNeg) → (¬ x1 = 12 → g_W cx (g_E cx d) mt_Coder_behindKid post (36, [some (.ref (ad 67)), some (.int a1), some (.int a2), some (.int x1), none], [], t, 0, 0)) ∧ (¬ (¬ x1 = 12) → (¬ a2 = 0 → g_W cx (g_E cx d) mt_Coder_behindKid post (36, [some (.ref (ad 67)), some (.int a1), some (.int a2), some (.int x1), none], [], t, 0, 0)) ∧ (¬ (¬ a2 = 0) → g_E cx d i_Coder_emit [.ref (ad 67), .int 12, .int 0] t (fun r u2 => ∃ y3 : Int32, r = some (.int y3) ∧ Lay u2 ad ∧ (g_E cx d i_Coder_rise [.ref (ad 67), .int (-1)] u2 (fun r u4 => r = none ∧ Lay u4 ad ∧ (g_W cx (g_E cx d) mt_Coder_behindKid post (172, [some (.ref (ad 67)), some (.int a1), some (.int a2), some (.int x1), none], [], u4, 0, 0))))))))) : g_E cx (d + 1) i_Coder_behindKid [.ref (ad 67), .int a1, .int a2] t post := by
  refine g_call mt_Coder_behindKid rfl (by decide) (Nat.le_of_ble_eq_true rfl) ?_
  refine g_run [36, 74, 115, 156, 172] 400 (fun P hP => ?_)
  refine And.intro (hL.k 67 (by decide)) (Or.inl ⟨_, (hL.r 67 0 68 (by decide)), ?_⟩)
  refine And.intro (hL.k 68 (by decide)) (Or.inl ⟨_, (hL.r 68 1 70 (by decide)), ?_⟩)
  refine Or.inl (And.intro (hL.k 70 (by decide)) (And.intro (hL.v 70 (by decide) h.1) ?_))
  have h := h.2
  have h := h _ rfl
  refine And.intro (fun c => ?_) (fun c => ?_)
  · have h := h.1 c
    exact hP _ h
  · have h := h.2 c
    refine And.intro (fun c => ?_) (fun c => ?_)
    · have h := h.1 c
      exact hP _ h
    · have h := h.2 c
      refine And.intro (hL.k 67 (by decide)) ?_
      refine g_Em h (fun r u h => ?_)
      obtain ⟨y3, rfl, hL, h⟩ := h
      refine And.intro (hL.k 67 (by decide)) ?_
      refine g_Em h (fun r u h => ?_)
      obtain ⟨rfl, hL, h⟩ := h
      exact hP _ h
theorem x_Coder_behindKid_36 {cx : gCx} {d : Nat} {ad : Nat → Nat} {l1 l2 l3 : Int32} {t : gSt} {post : Option Value → gSt → Prop} (hL : Lay t ad) (h : (¬ l3 = 14 → g_W cx (g_E cx d) mt_Coder_behindKid post (74, [some (.ref (ad 67)), some (.int l1), some (.int l2), some (.int l3), none], [], t, 0, 0)) ∧ (¬ (¬ l3 = 14) → (¬ l2 = 0 → g_W cx (g_E cx d) mt_Coder_behindKid post (74, [some (.ref (ad 67)), some (.int l1), some (.int l2), some (.int l3), none], [], t, 0, 0)) ∧ (¬ (¬ l2 = 0) → vp_in l1 500 ∧ (g_E cx d i_Coder_useSlot [.ref (ad 67), .int (t.2.1 (ad 71) (l1 : Int32).toNatClampNeg)] t (fun r u1 => ∃ y2 : Int32, r = some (.int y2) ∧ Lay u1 ad ∧ (g_E cx d i_Coder_emit [.ref (ad 67), .int 13, .int y2] u1 (fun r u3 => ∃ y4 : Int32, r = some (.int y4) ∧ Lay u3 ad ∧ (g_E cx d i_Coder_rise [.ref (ad 67), .int (-1)] u3 (fun r u5 => r = none ∧ Lay u5 ad ∧ (g_W cx (g_E cx d) mt_Coder_behindKid post (172, [some (.ref (ad 67)), some (.int l1), some (.int l2), some (.int l3), none], [], u5, 0, 0))))))))))) : g_W cx (g_E cx d) mt_Coder_behindKid post (36, [some (.ref (ad 67)), some (.int l1), some (.int l2), some (.int l3), none], [], t, 0, 0) := by
  refine g_run [36, 74, 115, 156, 172] 400 (fun P hP => ?_)
  refine And.intro (fun c => ?_) (fun c => ?_)
  · have h := h.1 c
    exact hP _ h
  · have h := h.2 c
    refine And.intro (fun c => ?_) (fun c => ?_)
    · have h := h.1 c
      exact hP _ h
    · have h := h.2 c
      refine And.intro (hL.k 67 (by decide)) (Or.inl ⟨_, (hL.r 67 0 68 (by decide)), ?_⟩)
      refine And.intro (hL.k 68 (by decide)) (Or.inl ⟨_, (hL.r 68 2 71 (by decide)), ?_⟩)
      refine Or.inl (And.intro (hL.k 71 (by decide)) (And.intro (hL.v 71 (by decide) h.1) ?_))
      have h := h.2
      refine And.intro (hL.k 67 (by decide)) ?_
      refine g_Em h (fun r u h => ?_)
      obtain ⟨y2, rfl, hL, h⟩ := h
      refine And.intro (hL.k 67 (by decide)) ?_
      refine g_Em h (fun r u h => ?_)
      obtain ⟨y4, rfl, hL, h⟩ := h
      refine And.intro (hL.k 67 (by decide)) ?_
      refine g_Em h (fun r u h => ?_)
      obtain ⟨rfl, hL, h⟩ := h
      exact hP _ h
theorem x_Coder_behindKid_74 {cx : gCx} {d : Nat} {ad : Nat → Nat} {l1 l2 l3 : Int32} {t : gSt} {post : Option Value → gSt → Prop} (hL : Lay t ad) (h : (¬ l3 = 13 → g_W cx (g_E cx d) mt_Coder_behindKid post (115, [some (.ref (ad 67)), some (.int l1), some (.int l2), some (.int l3), none], [], t, 0, 0)) ∧ (¬ (¬ l3 = 13) → (¬ l2 = 0 → g_W cx (g_E cx d) mt_Coder_behindKid post (115, [some (.ref (ad 67)), some (.int l1), some (.int l2), some (.int l3), none], [], t, 0, 0)) ∧ (¬ (¬ l2 = 0) → g_E cx d i_Coder_emit [.ref (ad 67), .int 14, .int 0] t (fun r u1 => ∃ y2 : Int32, r = some (.int y2) ∧ Lay u1 ad ∧ (vp_in l1 500 ∧ (∀ t3, t3 = g_si u1 (ad 76) (l1 : Int32).toNatClampNeg y2 → g_E cx d i_Coder_rise [.ref (ad 67), .int (-1)] t3 (fun r u4 => r = none ∧ Lay u4 ad ∧ (vp_in l1 500 ∧ (∀ t6, t6 = g_si u4 (ad 77) (l1 : Int32).toNatClampNeg (u4.2.1 (ad 67) 10) → g_W cx (g_E cx d) mt_Coder_behindKid post (172, [some (.ref (ad 67)), some (.int l1), some (.int l2), some (.int l3), none], [], t6, 0, 0)))))))))) : g_W cx (g_E cx d) mt_Coder_behindKid post (74, [some (.ref (ad 67)), some (.int l1), some (.int l2), some (.int l3), none], [], t, 0, 0) := by
  refine g_run [36, 74, 115, 156, 172] 400 (fun P hP => ?_)
  refine And.intro (fun c => ?_) (fun c => ?_)
  · have h := h.1 c
    exact hP _ h
  · have h := h.2 c
    refine And.intro (fun c => ?_) (fun c => ?_)
    · have h := h.1 c
      exact hP _ h
    · have h := h.2 c
      refine And.intro (hL.k 67 (by decide)) (Or.inl ⟨_, (hL.r 67 3 76 (by decide)), ?_⟩)
      refine And.intro (hL.k 67 (by decide)) ?_
      refine g_Em h (fun r u h => ?_)
      obtain ⟨y2, rfl, hL, h⟩ := h
      refine And.intro (hL.k 76 (by decide)) (And.intro (hL.v 76 (by decide) h.1) ?_)
      have h := h.2 _ rfl
      refine And.intro (hL.k 67 (by decide)) ?_
      refine g_Em h (fun r u h => ?_)
      obtain ⟨rfl, hL, h⟩ := h
      refine And.intro (hL.k 67 (by decide)) (Or.inl ⟨_, (hL.r 67 4 77 (by decide)), ?_⟩)
      refine And.intro (hL.k 67 (by decide)) ?_
      refine And.intro (hL.k 77 (by decide)) (And.intro (hL.v 77 (by decide) h.1) ?_)
      have h := h.2 _ rfl
      exact hP _ h
theorem x_Coder_behindKid_115 {cx : gCx} {d : Nat} {ad : Nat → Nat} {l1 l2 l3 : Int32} {t : gSt} {post : Option Value → gSt → Prop} (hL : Lay t ad) (h : (¬ l3 = 13 → g_W cx (g_E cx d) mt_Coder_behindKid post (172, [some (.ref (ad 67)), some (.int l1), some (.int l2), some (.int l3), none], [], t, 0, 0)) ∧ (¬ (¬ l3 = 13) → (¬ l2 = 1 → g_W cx (g_E cx d) mt_Coder_behindKid post (172, [some (.ref (ad 67)), some (.int l1), some (.int l2), some (.int l3), none], [], t, 0, 0)) ∧ (¬ (¬ l2 = 1) → vp_in l1 500 ∧ (∀ x1 : Int32, x1 = (t.2.1 (ad 76) (l1 : Int32).toNatClampNeg) → vp_in l1 500 ∧ ((¬ (t.2.1 (ad 74) (l1 : Int32).toNatClampNeg) = 0 → g_W cx (g_E cx d) mt_Coder_behindKid post (156, [some (.ref (ad 67)), some (.int l1), some (.int l2), some (.int l3), some (.int x1)], [], t, 0, 0)) ∧ (¬ (¬ (t.2.1 (ad 74) (l1 : Int32).toNatClampNeg) = 0) → g_E cx d i_Coder_emit [.ref (ad 67), .int 15, .int 0] t (fun r u2 => ∃ y3 : Int32, r = some (.int y3) ∧ Lay u2 ad ∧ (vp_in l1 500 ∧ (∀ t4, t4 = g_si u2 (ad 76) (l1 : Int32).toNatClampNeg y3 → g_W cx (g_E cx d) mt_Coder_behindKid post (156, [some (.ref (ad 67)), some (.int l1), some (.int l2), some (.int l3), some (.int x1)], [], t4, 0, 0)))))))))) : g_W cx (g_E cx d) mt_Coder_behindKid post (115, [some (.ref (ad 67)), some (.int l1), some (.int l2), some (.int l3), none], [], t, 0, 0) := by
  refine g_run [36, 74, 115, 156, 172] 400 (fun P hP => ?_)
  refine And.intro (fun c => ?_) (fun c => ?_)
  · have h := h.1 c
    exact hP _ h
  · have h := h.2 c
    refine And.intro (fun c => ?_) (fun c => ?_)
    · have h := h.1 c
      exact hP _ h
    · have h := h.2 c
      refine And.intro (hL.k 67 (by decide)) (Or.inl ⟨_, (hL.r 67 3 76 (by decide)), ?_⟩)
      refine Or.inl (And.intro (hL.k 76 (by decide)) (And.intro (hL.v 76 (by decide) h.1) ?_))
      have h := h.2
      have h := h _ rfl
      refine And.intro (hL.k 67 (by decide)) (Or.inl ⟨_, (hL.r 67 1 74 (by decide)), ?_⟩)
      refine Or.inl (And.intro (Or.inr (hL.k 74 (by decide))) (And.intro (hL.v 74 (by decide) h.1) ?_))
      have h := h.2
      refine And.intro (fun c => ?_) (fun c => ?_)
      · have h := h.1 c
        exact hP _ h
      · have h := h.2 c
        refine And.intro (hL.k 67 (by decide)) (Or.inl ⟨_, (hL.r 67 3 76 (by decide)), ?_⟩)
        refine And.intro (hL.k 67 (by decide)) ?_
        refine g_Em h (fun r u h => ?_)
        obtain ⟨y3, rfl, hL, h⟩ := h
        refine And.intro (hL.k 76 (by decide)) (And.intro (hL.v 76 (by decide) h.1) ?_)
        have h := h.2 _ rfl
        exact hP _ h
theorem x_Coder_behindKid_156 {cx : gCx} {d : Nat} {ad : Nat → Nat} {l1 l2 l3 l4 : Int32} {t : gSt} {post : Option Value → gSt → Prop} (hL : Lay t ad) (h : g_E cx d i_Coder_fillWithHere [.ref (ad 67), .int l4] t (fun r u1 => r = none ∧ Lay u1 ad ∧ (vp_in l1 500 ∧ (∀ t3, t3 = g_si u1 (ad 67) 10 (u1.2.1 (ad 77) (l1 : Int32).toNatClampNeg) → g_W cx (g_E cx d) mt_Coder_behindKid post (172, [some (.ref (ad 67)), some (.int l1), some (.int l2), some (.int l3), some (.int l4)], [], t3, 0, 0))))) : g_W cx (g_E cx d) mt_Coder_behindKid post (156, [some (.ref (ad 67)), some (.int l1), some (.int l2), some (.int l3), some (.int l4)], [], t, 0, 0) := by
  refine g_run [36, 74, 115, 156, 172] 400 (fun P hP => ?_)
  refine And.intro (hL.k 67 (by decide)) ?_
  refine g_Em h (fun r u h => ?_)
  obtain ⟨rfl, hL, h⟩ := h
  refine And.intro (hL.k 67 (by decide)) (Or.inl ⟨_, (hL.r 67 4 77 (by decide)), ?_⟩)
  refine Or.inl (And.intro (hL.k 77 (by decide)) (And.intro (hL.v 77 (by decide) h.1) ?_))
  have h := h.2
  refine And.intro (hL.k 67 (by decide)) ?_
  have h := h _ rfl
  exact hP _ h
theorem x_Coder_behindKid_172 {cx : gCx} {d : Nat} {ad : Nat → Nat} {l1 l2 l3 : Int32} {o4 : Option Value} {t : gSt} {post : Option Value → gSt → Prop} (hL : Lay t ad) (h : post none t) : g_W cx (g_E cx d) mt_Coder_behindKid post (172, [some (.ref (ad 67)), some (.int l1), some (.int l2), some (.int l3), o4], [], t, 0, 0) := by
  refine g_run [36, 74, 115, 156, 172] 400 (fun P hP => ?_)
  exact And.intro rfl (And.intro rfl h)
theorem x_Coder_leave {cx : gCx} {d : Nat} {ad : Nat → Nat} {a1 : Int32} {t : gSt} {post : Option Value → gSt → Prop} (hL : Lay t ad) (h : vp_in a1 500 ∧ (∀ x1 : Int32, x1 = (t.2.1 (ad 70) (a1 : Int32).toNatClampNeg) → (x1 = 1 → g_W cx (g_E cx d) mt_Coder_leave post (125, [some (.ref (ad 67)), some (.int a1), some (.int x1)], [], t, 0, 0)) ∧ (x1 = 2 → g_W cx (g_E cx d) mt_Coder_leave post (148, [some (.ref (ad 67)), some (.int a1), some (.int x1)], [], t, 0, 0)) ∧ (x1 = 12 ∨ x1 = 14 → g_W cx (g_E cx d) mt_Coder_leave post (84, [some (.ref (ad 67)), some (.int a1), some (.int x1)], [], t, 0, 0)) ∧ (x1 = 13 → g_W cx (g_E cx d) mt_Coder_leave post (85, [some (.ref (ad 67)), some (.int a1), some (.int x1)], [], t, 0, 0)) ∧ (x1 = 15 → g_W cx (g_E cx d) mt_Coder_leave post (105, [some (.ref (ad 67)), some (.int a1), some (.int x1)], [], t, 0, 0)) ∧ (x1 < 1 ∨ 15 < x1 ∨ x1 = 3 ∨ x1 = 4 ∨ x1 = 5 ∨ x1 = 6 ∨ x1 = 7 ∨ x1 = 8 ∨ x1 = 9 ∨ x1 = 10 ∨ x1 = 11 → g_W cx (g_E cx d) mt_Coder_leave post (175, [some (.ref (ad 67)), some (.int a1), some (.int x1)], [], t, 0, 0)))) : g_E cx (d + 1) i_Coder_leave [.ref (ad 67), .int a1] t post := by
  refine g_call mt_Coder_leave rfl (by decide) (Nat.le_of_ble_eq_true rfl) ?_
  refine g_run [11, 84, 85, 105, 125, 148, 175] 400 (fun P hP => ?_)
  refine And.intro (hL.k 67 (by decide)) (Or.inl ⟨_, (hL.r 67 0 68 (by decide)), ?_⟩)
  refine And.intro (hL.k 68 (by decide)) (Or.inl ⟨_, (hL.r 68 1 70 (by decide)), ?_⟩)
  refine Or.inl (And.intro (hL.k 70 (by decide)) (And.intro (hL.v 70 (by decide) h.1) ?_))
  have h := h.2
  have h := h _ rfl
  refine hP _ ?_
  rcases g_swc _ 1 15 (by decide) (by decide) (by decide) with c | c | ⟨j, hj, c⟩
  · exact g_sw (tgt := 175) rfl (g_swlo c) (h.2.2.2.2.2 (Or.inl c))
  · exact g_sw (tgt := 175) rfl (g_swhi c) (h.2.2.2.2.2 (Or.inr (Or.inl c)))
  · match j, hj with
    | 0, _ => exact g_sw (tgt := 125) rfl (by rw [c]; decide) (h.1 c)
    | 1, _ => exact g_sw (tgt := 148) rfl (by rw [c]; decide) (h.2.1 c)
    | 2, _ => exact g_sw (tgt := 175) rfl (by rw [c]; decide) (h.2.2.2.2.2 (Or.inr (Or.inr (Or.inl c))))
    | 3, _ => exact g_sw (tgt := 175) rfl (by rw [c]; decide) (h.2.2.2.2.2 (Or.inr (Or.inr (Or.inr (Or.inl c)))))
    | 4, _ => exact g_sw (tgt := 175) rfl (by rw [c]; decide) (h.2.2.2.2.2 (Or.inr (Or.inr (Or.inr (Or.inr (Or.inl c))))))
    | 5, _ => exact g_sw (tgt := 175) rfl (by rw [c]; decide) (h.2.2.2.2.2 (Or.inr (Or.inr (Or.inr (Or.inr (Or.inr (Or.inl c)))))))
    | 6, _ => exact g_sw (tgt := 175) rfl (by rw [c]; decide) (h.2.2.2.2.2 (Or.inr (Or.inr (Or.inr (Or.inr (Or.inr (Or.inr (Or.inl c))))))))
    | 7, _ => exact g_sw (tgt := 175) rfl (by rw [c]; decide) (h.2.2.2.2.2 (Or.inr (Or.inr (Or.inr (Or.inr (Or.inr (Or.inr (Or.inr (Or.inl c)))))))))
    | 8, _ => exact g_sw (tgt := 175) rfl (by rw [c]; decide) (h.2.2.2.2.2 (Or.inr (Or.inr (Or.inr (Or.inr (Or.inr (Or.inr (Or.inr (Or.inr (Or.inl c))))))))))
    | 9, _ => exact g_sw (tgt := 175) rfl (by rw [c]; decide) (h.2.2.2.2.2 (Or.inr (Or.inr (Or.inr (Or.inr (Or.inr (Or.inr (Or.inr (Or.inr (Or.inr (Or.inl c)))))))))))
    | 10, _ => exact g_sw (tgt := 175) rfl (by rw [c]; decide) (h.2.2.2.2.2 (Or.inr (Or.inr (Or.inr (Or.inr (Or.inr (Or.inr (Or.inr (Or.inr (Or.inr (Or.inr c)))))))))))
    | 11, _ => exact g_sw (tgt := 84) rfl (by rw [c]; decide) (h.2.2.1 (Or.inl c))
    | 12, _ => exact g_sw (tgt := 85) rfl (by rw [c]; decide) (h.2.2.2.1 c)
    | 13, _ => exact g_sw (tgt := 84) rfl (by rw [c]; decide) (h.2.2.1 (Or.inr c))
    | 14, _ => exact g_sw (tgt := 105) rfl (by rw [c]; decide) (h.2.2.2.2.1 c)
    | j + 15, hj => exact absurd hj (by omega)
theorem x_Coder_leave_84 {cx : gCx} {d : Nat} {ad : Nat → Nat} {l1 l2 : Int32} {t : gSt} {post : Option Value → gSt → Prop} (hL : Lay t ad) (h : post none t) : g_W cx (g_E cx d) mt_Coder_leave post (84, [some (.ref (ad 67)), some (.int l1), some (.int l2)], [], t, 0, 0) := by
  refine g_run [11, 84, 85, 105, 125, 148, 175] 400 (fun P hP => ?_)
  exact And.intro rfl (And.intro rfl h)
theorem x_Coder_leave_85 {cx : gCx} {d : Nat} {ad : Nat → Nat} {l1 l2 : Int32} {t : gSt} {post : Option Value → gSt → Prop} (hL : Lay t ad) (h : vp_in l1 500 ∧ ((¬ (t.2.1 (ad 74) (l1 : Int32).toNatClampNeg) = 0 → post none t) ∧ (¬ (¬ (t.2.1 (ad 74) (l1 : Int32).toNatClampNeg) = 0) → vp_in l1 500 ∧ (g_E cx d i_Coder_fillWithHere [.ref (ad 67), .int (t.2.1 (ad 76) (l1 : Int32).toNatClampNeg)] t (fun r u1 => r = none ∧ Lay u1 ad ∧ (post none u1)))))) : g_W cx (g_E cx d) mt_Coder_leave post (85, [some (.ref (ad 67)), some (.int l1), some (.int l2)], [], t, 0, 0) := by
  refine g_run [11, 84, 85, 105, 125, 148, 175] 400 (fun P hP => ?_)
  refine And.intro (hL.k 67 (by decide)) (Or.inl ⟨_, (hL.r 67 1 74 (by decide)), ?_⟩)
  refine Or.inl (And.intro (Or.inr (hL.k 74 (by decide))) (And.intro (hL.v 74 (by decide) h.1) ?_))
  have h := h.2
  refine And.intro (fun c => ?_) (fun c => ?_)
  · have h := h.1 c
    exact And.intro rfl (And.intro rfl h)
  · have h := h.2 c
    refine And.intro (hL.k 67 (by decide)) (Or.inl ⟨_, (hL.r 67 3 76 (by decide)), ?_⟩)
    refine Or.inl (And.intro (hL.k 76 (by decide)) (And.intro (hL.v 76 (by decide) h.1) ?_))
    have h := h.2
    refine And.intro (hL.k 67 (by decide)) ?_
    refine g_Em h (fun r u h => ?_)
    obtain ⟨rfl, hL, h⟩ := h
    exact And.intro rfl (And.intro rfl h)
theorem x_Coder_leave_105 {cx : gCx} {d : Nat} {ad : Nat → Nat} {l1 l2 : Int32} {t : gSt} {post : Option Value → gSt → Prop} (hL : Lay t ad) (h : vp_in l1 500 ∧ (vp_in l1 500 ∧ (g_E cx d i_Coder_encodeCall [.ref (ad 67), .int (t.2.1 (ad 71) (l1 : Int32).toNatClampNeg), .int (t.2.1 (ad 74) (l1 : Int32).toNatClampNeg)] t (fun r u1 => r = none ∧ Lay u1 ad ∧ (post none u1))))) : g_W cx (g_E cx d) mt_Coder_leave post (105, [some (.ref (ad 67)), some (.int l1), some (.int l2)], [], t, 0, 0) := by
  refine g_run [11, 84, 85, 105, 125, 148, 175] 400 (fun P hP => ?_)
  refine And.intro (hL.k 67 (by decide)) (Or.inl ⟨_, (hL.r 67 0 68 (by decide)), ?_⟩)
  refine And.intro (hL.k 68 (by decide)) (Or.inl ⟨_, (hL.r 68 2 71 (by decide)), ?_⟩)
  refine Or.inl (And.intro (hL.k 71 (by decide)) (And.intro (hL.v 71 (by decide) h.1) ?_))
  have h := h.2
  refine And.intro (hL.k 67 (by decide)) (Or.inl ⟨_, (hL.r 67 1 74 (by decide)), ?_⟩)
  refine Or.inl (And.intro (Or.inr (hL.k 74 (by decide))) (And.intro (hL.v 74 (by decide) h.1) ?_))
  have h := h.2
  refine And.intro (hL.k 67 (by decide)) ?_
  refine g_Em h (fun r u h => ?_)
  obtain ⟨rfl, hL, h⟩ := h
  exact And.intro rfl (And.intro rfl h)
theorem x_Coder_leave_125 {cx : gCx} {d : Nat} {ad : Nat → Nat} {l1 l2 : Int32} {t : gSt} {post : Option Value → gSt → Prop} (hL : Lay t ad) (h : vp_in l1 500 ∧ (g_E cx d i_Coder_emit [.ref (ad 67), .int 1, .int (t.2.1 (ad 71) (l1 : Int32).toNatClampNeg)] t (fun r u1 => ∃ y2 : Int32, r = some (.int y2) ∧ Lay u1 ad ∧ (g_E cx d i_Coder_rise [.ref (ad 67), .int 1] u1 (fun r u3 => r = none ∧ Lay u3 ad ∧ (vp_in l1 500 ∧ (((u3.2.1 (ad 74) (l1 : Int32).toNatClampNeg) = 0 → post none u3) ∧ (¬ ((u3.2.1 (ad 74) (l1 : Int32).toNatClampNeg) = 0) → g_E cx d i_Coder_emit [.ref (ad 67), .int 17, .int 0] u3 (fun r u5 => ∃ y6 : Int32, r = some (.int y6) ∧ Lay u5 ad ∧ (post none u5)))))))))) : g_W cx (g_E cx d) mt_Coder_leave post (125, [some (.ref (ad 67)), some (.int l1), some (.int l2)], [], t, 0, 0) := by
  refine g_run [11, 84, 85, 105, 125, 148, 175] 400 (fun P hP => ?_)
  refine And.intro (hL.k 67 (by decide)) (Or.inl ⟨_, (hL.r 67 0 68 (by decide)), ?_⟩)
  refine And.intro (hL.k 68 (by decide)) (Or.inl ⟨_, (hL.r 68 2 71 (by decide)), ?_⟩)
  refine Or.inl (And.intro (hL.k 71 (by decide)) (And.intro (hL.v 71 (by decide) h.1) ?_))
  have h := h.2
  refine And.intro (hL.k 67 (by decide)) ?_
  refine g_Em h (fun r u h => ?_)
  obtain ⟨y2, rfl, hL, h⟩ := h
  refine And.intro (hL.k 67 (by decide)) ?_
  refine g_Em h (fun r u h => ?_)
  obtain ⟨rfl, hL, h⟩ := h
  refine And.intro (hL.k 67 (by decide)) (Or.inl ⟨_, (hL.r 67 1 74 (by decide)), ?_⟩)
  refine Or.inl (And.intro (Or.inr (hL.k 74 (by decide))) (And.intro (hL.v 74 (by decide) h.1) ?_))
  have h := h.2
  refine And.intro (fun c => ?_) (fun c => ?_)
  · have h := h.1 c
    exact And.intro rfl (And.intro rfl h)
  · have h := h.2 c
    refine And.intro (hL.k 67 (by decide)) ?_
    refine g_Em h (fun r u h => ?_)
    obtain ⟨y6, rfl, hL, h⟩ := h
    exact And.intro rfl (And.intro rfl h)
theorem x_Coder_leave_148 {cx : gCx} {d : Nat} {ad : Nat → Nat} {l1 l2 : Int32} {t : gSt} {post : Option Value → gSt → Prop} (hL : Lay t ad) (h : vp_in l1 500 ∧ (g_E cx d i_Coder_useSlot [.ref (ad 67), .int (t.2.1 (ad 71) (l1 : Int32).toNatClampNeg)] t (fun r u1 => ∃ y2 : Int32, r = some (.int y2) ∧ Lay u1 ad ∧ (g_E cx d i_Coder_emit [.ref (ad 67), .int 2, .int y2] u1 (fun r u3 => ∃ y4 : Int32, r = some (.int y4) ∧ Lay u3 ad ∧ (g_E cx d i_Coder_rise [.ref (ad 67), .int 1] u3 (fun r u5 => r = none ∧ Lay u5 ad ∧ (vp_in l1 500 ∧ (((u5.2.1 (ad 74) (l1 : Int32).toNatClampNeg) = 0 → post none u5) ∧ (¬ ((u5.2.1 (ad 74) (l1 : Int32).toNatClampNeg) = 0) → g_E cx d i_Coder_emit [.ref (ad 67), .int 17, .int 0] u5 (fun r u7 => ∃ y8 : Int32, r = some (.int y8) ∧ Lay u7 ad ∧ (post none u7)))))))))))) : g_W cx (g_E cx d) mt_Coder_leave post (148, [some (.ref (ad 67)), some (.int l1), some (.int l2)], [], t, 0, 0) := by
  refine g_run [11, 84, 85, 105, 125, 148, 175] 400 (fun P hP => ?_)
  refine And.intro (hL.k 67 (by decide)) (Or.inl ⟨_, (hL.r 67 0 68 (by decide)), ?_⟩)
  refine And.intro (hL.k 68 (by decide)) (Or.inl ⟨_, (hL.r 68 2 71 (by decide)), ?_⟩)
  refine Or.inl (And.intro (hL.k 71 (by decide)) (And.intro (hL.v 71 (by decide) h.1) ?_))
  have h := h.2
  refine And.intro (hL.k 67 (by decide)) ?_
  refine g_Em h (fun r u h => ?_)
  obtain ⟨y2, rfl, hL, h⟩ := h
  refine And.intro (hL.k 67 (by decide)) ?_
  refine g_Em h (fun r u h => ?_)
  obtain ⟨y4, rfl, hL, h⟩ := h
  refine And.intro (hL.k 67 (by decide)) ?_
  refine g_Em h (fun r u h => ?_)
  obtain ⟨rfl, hL, h⟩ := h
  refine And.intro (hL.k 67 (by decide)) (Or.inl ⟨_, (hL.r 67 1 74 (by decide)), ?_⟩)
  refine Or.inl (And.intro (Or.inr (hL.k 74 (by decide))) (And.intro (hL.v 74 (by decide) h.1) ?_))
  have h := h.2
  refine And.intro (fun c => ?_) (fun c => ?_)
  · have h := h.1 c
    exact And.intro rfl (And.intro rfl h)
  · have h := h.2 c
    refine And.intro (hL.k 67 (by decide)) ?_
    refine g_Em h (fun r u h => ?_)
    obtain ⟨y8, rfl, hL, h⟩ := h
    exact And.intro rfl (And.intro rfl h)
theorem x_Coder_leave_175 {cx : gCx} {d : Nat} {ad : Nat → Nat} {p : Nat} (hp : isP p) {l1 l2 : Int32} {t : gSt} {post : Option Value → gSt → Prop} (hL : Lay t ad) (h : g_E cx d i_Coder_emit [.ref (ad 67), .int l2, .int 0] t (fun r u1 => ∃ y2 : Int32, r = some (.int y2) ∧ Lay u1 ad ∧ u1.2.2.2 (ad 67) 6 = some (ad p) ∧ (g_E cx d i_Program_kids [.ref (ad p), .int l2, .int 0] u1 (fun r u3 => ∃ y4 : Int32, r = some (.int y4) ∧ Lay u3 ad ∧ (g_E cx d i_Coder_rise [.ref (ad 67), .int (1 - y4)] u3 (fun r u5 => r = none ∧ Lay u5 ad ∧ (vp_in l1 500 ∧ (((u5.2.1 (ad 74) (l1 : Int32).toNatClampNeg) = 0 → post none u5) ∧ (¬ ((u5.2.1 (ad 74) (l1 : Int32).toNatClampNeg) = 0) → g_E cx d i_Coder_emit [.ref (ad 67), .int 17, .int 0] u5 (fun r u7 => ∃ y8 : Int32, r = some (.int y8) ∧ Lay u7 ad ∧ (post none u7))))))))))) : g_W cx (g_E cx d) mt_Coder_leave post (175, [some (.ref (ad 67)), some (.int l1), some (.int l2)], [], t, 0, 0) := by
  refine g_run [11, 84, 85, 105, 125, 148, 175] 400 (fun P hP => ?_)
  refine And.intro (hL.k 67 (by decide)) ?_
  refine g_Em h (fun r u h => ?_)
  obtain ⟨y2, rfl, hL, hr_67_6, h⟩ := h
  refine And.intro (hL.k 67 (by decide)) (Or.inl ⟨_, hr_67_6, ?_⟩)
  refine And.intro (hL.pk hp 0 (by decide)) ?_
  refine g_Em h (fun r u h => ?_)
  obtain ⟨y4, rfl, hL, h⟩ := h
  refine And.intro (hL.k 67 (by decide)) ?_
  refine g_Em h (fun r u h => ?_)
  obtain ⟨rfl, hL, h⟩ := h
  refine And.intro (hL.k 67 (by decide)) (Or.inl ⟨_, (hL.r 67 1 74 (by decide)), ?_⟩)
  refine Or.inl (And.intro (Or.inr (hL.k 74 (by decide))) (And.intro (hL.v 74 (by decide) h.1) ?_))
  have h := h.2
  refine And.intro (fun c => ?_) (fun c => ?_)
  · have h := h.1 c
    exact And.intro rfl (And.intro rfl h)
  · have h := h.2 c
    refine And.intro (hL.k 67 (by decide)) ?_
    refine g_Em h (fun r u h => ?_)
    obtain ⟨y8, rfl, hL, h⟩ := h
    exact And.intro rfl (And.intro rfl h)
theorem x_Coder_encodeCall {cx : gCx} {d : Nat} {ad : Nat → Nat} {p : Nat} (hp : isP p) {a1 a2 : Int32} {t : gSt} {post : Option Value → gSt → Prop} (hL : Lay t ad) (hr_67_6 : t.2.2.2 (ad 67) 6 = some (ad p)) (h : vp_in a1 24 ∧ (g_E cx d i_Coder_rise [.ref (ad 67), .int (-(t.2.1 (ad (p + 2)) (a1 : Int32).toNatClampNeg))] t (fun r u1 => r = none ∧ Lay u1 ad ∧ ((a2 = 0 → g_E cx d i_Coder_emit [.ref (ad 67), .int 16, .int a1] u1 (fun r u3 => ∃ y4 : Int32, r = some (.int y4) ∧ Lay u3 ad ∧ (g_E cx d i_Coder_rise [.ref (ad 67), .int 1] u3 (fun r u5 => r = none ∧ Lay u5 ad ∧ ((a2 = 0 → post none u5) ∧ (¬ (a2 = 0) → g_E cx d i_Coder_emit [.ref (ad 67), .int 17, .int 0] u5 (fun r u7 => ∃ y8 : Int32, r = some (.int y8) ∧ Lay u7 ad ∧ (post none u7)))))))) ∧ (¬ (a2 = 0) → (¬ (u1.2.1 (ad 67) 7) = 0 → (¬ a1 = (u1.2.1 (ad 67) 8) → g_E cx d i_Coder_emit [.ref (ad 67), .int 19, .int a1] u1 (fun r u9 => ∃ y10 : Int32, r = some (.int y10) ∧ Lay u9 ad ∧ (post none u9))) ∧ (¬ (¬ a1 = (u1.2.1 (ad 67) 8)) → g_E cx d i_Coder_emit [.ref (ad 67), .int 18, .int 0] u1 (fun r u11 => ∃ y12 : Int32, r = some (.int y12) ∧ Lay u11 ad ∧ (post none u11)))) ∧ (¬ (¬ (u1.2.1 (ad 67) 7) = 0) → g_E cx d i_Coder_emit [.ref (ad 67), .int 16, .int a1] u1 (fun r u13 => ∃ y14 : Int32, r = some (.int y14) ∧ Lay u13 ad ∧ (g_E cx d i_Coder_rise [.ref (ad 67), .int 1] u13 (fun r u15 => r = none ∧ Lay u15 ad ∧ ((a2 = 0 → post none u15) ∧ (¬ (a2 = 0) → g_E cx d i_Coder_emit [.ref (ad 67), .int 17, .int 0] u15 (fun r u17 => ∃ y18 : Int32, r = some (.int y18) ∧ Lay u17 ad ∧ (post none u17))))))))))))) : g_E cx (d + 1) i_Coder_encodeCall [.ref (ad 67), .int a1, .int a2] t post := by
  refine g_call mt_Coder_encodeCall rfl (by decide) (Nat.le_of_ble_eq_true rfl) ?_
  refine g_run [] 400 (fun P hP => ?_)
  refine And.intro (hL.k 67 (by decide)) (Or.inl ⟨_, hr_67_6, ?_⟩)
  refine And.intro (hL.pk hp 0 (by decide)) (Or.inl ⟨_, (hL.pr hp 3 (by decide)), ?_⟩)
  refine Or.inl (And.intro (hL.pk hp 2 (by decide)) (And.intro (hL.pv hp 2 (by decide) (by decide) h.1) ?_))
  have h := h.2
  refine And.intro (hL.k 67 (by decide)) ?_
  refine g_Em h (fun r u h => ?_)
  obtain ⟨rfl, hL, h⟩ := h
  refine And.intro (fun c => ?_) (fun c => ?_)
  · have h := h.1 c
    refine And.intro (hL.k 67 (by decide)) ?_
    refine g_Em h (fun r u h => ?_)
    obtain ⟨y4, rfl, hL, h⟩ := h
    refine And.intro (hL.k 67 (by decide)) ?_
    refine g_Em h (fun r u h => ?_)
    obtain ⟨rfl, hL, h⟩ := h
    refine And.intro (fun c => ?_) (fun c => ?_)
    · have h := h.1 c
      exact And.intro rfl (And.intro rfl h)
    · have h := h.2 c
      refine And.intro (hL.k 67 (by decide)) ?_
      refine g_Em h (fun r u h => ?_)
      obtain ⟨y8, rfl, hL, h⟩ := h
      exact And.intro rfl (And.intro rfl h)
  · have h := h.2 c
    refine And.intro (hL.k 67 (by decide)) ?_
    refine And.intro (fun c => ?_) (fun c => ?_)
    · have h := h.1 c
      refine And.intro (hL.k 67 (by decide)) ?_
      refine And.intro (fun c => ?_) (fun c => ?_)
      · have h := h.1 c
        refine And.intro (hL.k 67 (by decide)) ?_
        refine g_Em h (fun r u h => ?_)
        obtain ⟨y10, rfl, hL, h⟩ := h
        exact And.intro rfl (And.intro rfl h)
      · have h := h.2 c
        refine And.intro (hL.k 67 (by decide)) ?_
        refine g_Em h (fun r u h => ?_)
        obtain ⟨y12, rfl, hL, h⟩ := h
        exact And.intro rfl (And.intro rfl h)
    · have h := h.2 c
      refine And.intro (hL.k 67 (by decide)) ?_
      refine g_Em h (fun r u h => ?_)
      obtain ⟨y14, rfl, hL, h⟩ := h
      refine And.intro (hL.k 67 (by decide)) ?_
      refine g_Em h (fun r u h => ?_)
      obtain ⟨rfl, hL, h⟩ := h
      refine And.intro (fun c => ?_) (fun c => ?_)
      · have h := h.1 c
        exact And.intro rfl (And.intro rfl h)
      · have h := h.2 c
        refine And.intro (hL.k 67 (by decide)) ?_
        refine g_Em h (fun r u h => ?_)
        obtain ⟨y18, rfl, hL, h⟩ := h
        exact And.intro rfl (And.intro rfl h)
theorem x_Coder_useSlot {cx : gCx} {d : Nat} {ad : Nat → Nat} {a1 : Int32} {t : gSt} {post : Option Value → gSt → Prop} (hL : Lay t ad) (h : vp_in a1 120 ∧ (∀ x1 : Int32, x1 = (t.2.1 (ad 78) (a1 : Int32).toNatClampNeg) → ∀ t2, t2 = g_si t (ad 67) 12 (if (t.2.1 (ad 67) 12) < (x1 + 1) then (x1 + 1) else (t.2.1 (ad 67) 12)) → post (some (.int x1)) t2)) : g_E cx (d + 1) i_Coder_useSlot [.ref (ad 67), .int a1] t post := by
  refine g_call mt_Coder_useSlot rfl (by decide) (Nat.le_of_ble_eq_true rfl) ?_
  refine g_run [] 400 (fun P hP => ?_)
  refine And.intro (hL.k 67 (by decide)) (Or.inl ⟨_, (hL.r 67 5 78 (by decide)), ?_⟩)
  refine Or.inl (And.intro (hL.k 78 (by decide)) (And.intro (hL.v 78 (by decide) h.1) ?_))
  have h := h.2
  have h := h _ rfl
  refine And.intro (hL.k 67 (by decide)) ?_
  refine And.intro (hL.k 67 (by decide)) ?_
  have h := h _ rfl
  exact And.intro rfl (And.intro rfl h)
theorem x_Coder_rise {cx : gCx} {d : Nat} {ad : Nat → Nat} {a1 : Int32} {t : gSt} {post : Option Value → gSt → Prop} (hL : Lay t ad) (h : ∀ t1, t1 = g_si t (ad 67) 10 ((t.2.1 (ad 67) 10) + a1) → ∀ t2, t2 = g_si t1 (ad 67) 11 (if (t1.2.1 (ad 67) 11) < (t1.2.1 (ad 67) 10) then (t1.2.1 (ad 67) 10) else (t1.2.1 (ad 67) 11)) → post none t2) : g_E cx (d + 1) i_Coder_rise [.ref (ad 67), .int a1] t post := by
  refine g_call mt_Coder_rise rfl (by decide) (Nat.le_of_ble_eq_true rfl) ?_
  refine g_run [] 400 (fun P hP => ?_)
  refine And.intro (hL.k 67 (by decide)) ?_
  refine And.intro (hL.k 67 (by decide)) ?_
  have h := h _ rfl
  refine And.intro (hL.k 67 (by decide)) ?_
  refine And.intro (hL.k 67 (by decide)) ?_
  refine And.intro (hL.k 67 (by decide)) ?_
  have h := h _ rfl
  exact And.intro rfl (And.intro rfl h)
theorem x_Coder_emit {cx : gCx} {d : Nat} {ad : Nat → Nat} {p : Nat} (hp : isP p) {a1 a2 : Int32} {t : gSt} {post : Option Value → gSt → Prop} (hL : Lay t ad) (hr_67_6 : t.2.2.2 (ad 67) 6 = some (ad p)) (h : ∀ x1 : Int32, x1 = (t.2.1 (ad 67) 9) → ((Int32.ofNat (t.1.2.2 (ad (p + 14)))) ≤ x1 → post (some (.int x1)) t) ∧ (¬ ((Int32.ofNat (t.1.2.2 (ad (p + 14)))) ≤ x1) → vp_in x1 (c_len (p + 14)) ∧ (∀ t2, t2 = g_si t (ad (p + 14)) (x1 : Int32).toNatClampNeg a1 → vp_in x1 (c_len (p + 15)) ∧ (∀ t3, t3 = g_si t2 (ad (p + 15)) (x1 : Int32).toNatClampNeg a2 → ∀ t4, t4 = g_si t3 (ad 67) 9 ((t3.2.1 (ad 67) 9) + 1) → post (some (.int x1)) t4)))) : g_E cx (d + 1) i_Coder_emit [.ref (ad 67), .int a1, .int a2] t post := by
  refine g_call mt_Coder_emit rfl (by decide) (Nat.le_of_ble_eq_true rfl) ?_
  refine g_run [] 400 (fun P hP => ?_)
  refine And.intro (hL.k 67 (by decide)) ?_
  have h := h _ rfl
  refine And.intro (hL.k 67 (by decide)) (Or.inl ⟨_, hr_67_6, ?_⟩)
  refine And.intro (hL.pk hp 0 (by decide)) (Or.inl ⟨_, (hL.pr hp 8 (by decide)), ?_⟩)
  refine Or.inl (And.intro (hL.pk hp 14 (by decide)).1 (And.intro (g_karr (hL.pk hp 14 (by decide)) (by decide) (by decide)) ?_))
  refine And.intro (fun c => ?_) (fun c => ?_)
  · have h := h.1 c
    exact And.intro rfl (And.intro rfl h)
  · have h := h.2 c
    refine And.intro (hL.k 67 (by decide)) (Or.inl ⟨_, hr_67_6, ?_⟩)
    refine And.intro (hL.pk hp 0 (by decide)) (Or.inl ⟨_, (hL.pr hp 8 (by decide)), ?_⟩)
    refine And.intro (hL.pk hp 14 (by decide)) (And.intro (hL.pv2 hp 14 (by decide) h.1) ?_)
    have h := h.2 _ rfl
    refine And.intro (hL.k 67 (by decide)) (Or.inl ⟨_, hr_67_6, ?_⟩)
    refine And.intro (hL.pk hp 0 (by decide)) (Or.inl ⟨_, (hL.pr hp 9 (by decide)), ?_⟩)
    refine And.intro (hL.pk hp 15 (by decide)) (And.intro (hL.pv2 hp 15 (by decide) h.1) ?_)
    have h := h.2 _ rfl
    refine And.intro (hL.k 67 (by decide)) ?_
    refine And.intro (hL.k 67 (by decide)) ?_
    have h := h _ rfl
    exact And.intro rfl (And.intro rfl h)
theorem x_Coder_fillWithHere {cx : gCx} {d : Nat} {ad : Nat → Nat} {p : Nat} (hp : isP p) {a1 : Int32} {t : gSt} {post : Option Value → gSt → Prop} (hL : Lay t ad) (hr_67_6 : t.2.2.2 (ad 67) 6 = some (ad p)) (h : ((Int32.ofNat (t.1.2.2 (ad (p + 15)))) ≤ a1 → post none t) ∧ (¬ ((Int32.ofNat (t.1.2.2 (ad (p + 15)))) ≤ a1) → vp_in (t.2.1 (ad 67) 8) 24 ∧ (vp_in a1 (c_len (p + 15)) ∧ (∀ t1, t1 = g_si t (ad (p + 15)) (a1 : Int32).toNatClampNeg ((t.2.1 (ad 67) 9) - (t.2.1 (ad (p + 7)) ((t.2.1 (ad 67) 8) : Int32).toNatClampNeg)) → post none t1)))) : g_E cx (d + 1) i_Coder_fillWithHere [.ref (ad 67), .int a1] t post := by
  refine g_call mt_Coder_fillWithHere rfl (by decide) (Nat.le_of_ble_eq_true rfl) ?_
  refine g_run [] 400 (fun P hP => ?_)
  refine And.intro (hL.k 67 (by decide)) (Or.inl ⟨_, hr_67_6, ?_⟩)
  refine And.intro (hL.pk hp 0 (by decide)) (Or.inl ⟨_, (hL.pr hp 9 (by decide)), ?_⟩)
  refine Or.inl (And.intro (hL.pk hp 15 (by decide)).1 (And.intro (g_karr (hL.pk hp 15 (by decide)) (by decide) (by decide)) ?_))
  refine And.intro (fun c => ?_) (fun c => ?_)
  · have h := h.1 c
    exact And.intro rfl (And.intro rfl h)
  · have h := h.2 c
    refine And.intro (hL.k 67 (by decide)) (Or.inl ⟨_, hr_67_6, ?_⟩)
    refine And.intro (hL.pk hp 0 (by decide)) (Or.inl ⟨_, (hL.pr hp 9 (by decide)), ?_⟩)
    refine And.intro (hL.k 67 (by decide)) ?_
    refine And.intro (hL.k 67 (by decide)) (Or.inl ⟨_, hr_67_6, ?_⟩)
    refine And.intro (hL.pk hp 0 (by decide)) (Or.inl ⟨_, (hL.pr hp 10 (by decide)), ?_⟩)
    refine And.intro (hL.k 67 (by decide)) ?_
    refine Or.inl (And.intro (hL.pk hp 7 (by decide)) (And.intro (hL.pv hp 7 (by decide) (by decide) h.1) ?_))
    have h := h.2
    refine And.intro (hL.pk hp 15 (by decide)) (And.intro (hL.pv2 hp 15 (by decide) h.1) ?_)
    have h := h.2 _ rfl
    exact And.intro rfl (And.intro rfl h)
