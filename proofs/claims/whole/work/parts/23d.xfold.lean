/-! PRINTED by wip/gen/xparts.py: symbolic execution, method by method -/
theorem x_Folder_foldAll {cx : gCx} {d : Nat} {ad : Nat → Nat} {p : Nat} (hp : isP p) {t : gSt} {post : Option Value → gSt → Prop} (hL : Lay t ad) (h : ∀ t1, t1 = g_sr t (ad 55) 6 (some (ad p)) → g_W cx (g_E cx d) mt_Folder_foldAll post (7, [some (.ref (ad 55)), some (.ref (ad p)), some (.int 0)], [], t1, 0, 0)) : g_E cx (d + 1) i_Folder_foldAll [.ref (ad 55), .ref (ad p)] t post := by
  refine g_call mt_Folder_foldAll rfl (by decide) (Nat.le_of_ble_eq_true rfl) ?_
  refine g_run [7] 400 (fun P hP => ?_)
  refine And.intro (hL.k 55 (by decide)) ?_
  have h := h _ rfl
  have hL := hL.sr 55 6 (some (ad p)) (by decide +kernel)
  exact hP _ h
theorem x_Folder_foldAll_7 {cx : gCx} {d : Nat} {ad : Nat → Nat} {p : Nat} (hp : isP p) {l2 : Int32} {t : gSt} {post : Option Value → gSt → Prop} (hL : Lay t ad) (h : ((t.2.1 (ad p) 15) ≤ l2 → post none t) ∧ (¬ ((t.2.1 (ad p) 15) ≤ l2) → g_E cx d i_Folder_foldIn [.ref (ad 55), .int l2] t (fun r u1 => r = none ∧ Lay u1 ad ∧ (g_W cx (g_E cx d) mt_Folder_foldAll post (7, [some (.ref (ad 55)), some (.ref (ad p)), some (.int (l2 + 1))], [], u1, 0, 0))))) : g_W cx (g_E cx d) mt_Folder_foldAll post (7, [some (.ref (ad 55)), some (.ref (ad p)), some (.int l2)], [], t, 0, 0) := by
  refine g_run [7] 400 (fun P hP => ?_)
  refine And.intro (hL.pk hp 0 (by decide)) ?_
  refine And.intro (fun c => ?_) (fun c => ?_)
  · have h := h.1 c
    exact And.intro rfl (And.intro rfl h)
  · have h := h.2 c
    refine And.intro (hL.k 55 (by decide)) ?_
    refine g_Em h (fun r u h => ?_)
    obtain ⟨rfl, hL, h⟩ := h
    exact hP _ h
theorem x_Folder_foldIn {cx : gCx} {d : Nat} {ad : Nat → Nat} {a1 : Int32} {t : gSt} {post : Option Value → gSt → Prop} (hL : Lay t ad) (h : g_W cx (g_E cx d) mt_Folder_foldIn post (2, [some (.ref (ad 55)), some (.int a1), some (.int 0)], [], t, 0, 0)) : g_E cx (d + 1) i_Folder_foldIn [.ref (ad 55), .int a1] t post := by
  refine g_call mt_Folder_foldIn rfl (by decide) (Nat.le_of_ble_eq_true rfl) ?_
  refine g_run [2, 48] 400 (fun P hP => ?_)
  exact hP _ h
theorem x_Folder_foldIn_2 {cx : gCx} {d : Nat} {ad : Nat → Nat} {l1 l2 : Int32} {t : gSt} {post : Option Value → gSt → Prop} (hL : Lay t ad) (hr_55_6 : t.2.2.2 (ad 55) 6 = some (ad 96)) (h : (120 ≤ l2 → vp_in l1 24 ∧ (∀ t1, t1 = g_si t (ad 55) 7 (t.2.1 (ad 100) (l1 : Int32).toNatClampNeg) → g_E cx d i_Walk_begin [.ref (ad 56), .ref (ad 96), .int l1] t1 (fun r u2 => r = none ∧ Lay u2 ad ∧ (g_W cx (g_E cx d) mt_Folder_foldIn post (48, [some (.ref (ad 55)), some (.int l1), some (.int 0)], [], u2, 0, 0))))) ∧ (¬ (120 ≤ l2) → vp_in l2 120 ∧ (∀ t4, t4 = g_si t (ad 65) (l2 : Int32).toNatClampNeg (vp_nar .boolean 0) → g_W cx (g_E cx d) mt_Folder_foldIn post (2, [some (.ref (ad 55)), some (.int l1), some (.int (l2 + 1))], [], t4, 0, 0)))) : g_W cx (g_E cx d) mt_Folder_foldIn post (2, [some (.ref (ad 55)), some (.int l1), some (.int l2)], [], t, 0, 0) := by
  refine g_run [2, 48] 400 (fun P hP => ?_)
  refine And.intro (fun c => ?_) (fun c => ?_)
  · have h := h.1 c
    refine And.intro (hL.k 55 (by decide)) (Or.inl ⟨_, hr_55_6, ?_⟩)
    refine And.intro (hL.k 96 (by decide)) (Or.inl ⟨_, (hL.r 96 5 100 (by decide)), ?_⟩)
    refine Or.inl (And.intro (hL.k 100 (by decide)) (And.intro (hL.v 100 (by decide) h.1) ?_))
    have h := h.2
    refine And.intro (hL.k 55 (by decide)) ?_
    have h := h _ rfl
    refine And.intro (hL.k 55 (by decide)) (Or.inl ⟨_, (hL.r 55 0 56 (by decide)), ?_⟩)
    refine And.intro (hL.k 55 (by decide)) (Or.inl ⟨_, hr_55_6, ?_⟩)
    refine And.intro (hL.k 56 (by decide)) ?_
    refine g_Em h (fun r u h => ?_)
    obtain ⟨rfl, hL, h⟩ := h
    exact hP _ h
  · have h := h.2 c
    refine And.intro (hL.k 55 (by decide)) (Or.inl ⟨_, (hL.r 55 4 65 (by decide)), ?_⟩)
    refine And.intro (hL.v 65 (by decide) h.1) (Or.inr (And.intro (hL.k 65 (by decide)) ?_))
    have h := h.2 _ rfl
    exact hP _ h
theorem x_Folder_foldIn_48 {cx : gCx} {d : Nat} {ad : Nat → Nat} {l1 l2 : Int32} {t : gSt} {post : Option Value → gSt → Prop} (hL : Lay t ad) (hr_55_6 : t.2.2.2 (ad 55) 6 = some (ad 96)) (h : (1500 ≤ l2 → vp_in l1 24 ∧ (vp_in l1 24 ∧ (∀ t1, t1 = g_si t (ad 101) (l1 : Int32).toNatClampNeg ((t.2.1 (ad 55) 7) - (t.2.1 (ad 100) (l1 : Int32).toNatClampNeg)) → post none t1))) ∧ (¬ (1500 ≤ l2) → g_E cx d i_Walk_advance [.ref (ad 56)] t (fun r u2 => ∃ y3 : Int32, r = some (.int y3) ∧ Lay u2 ad ∧ u2.2.2.2 (ad 55) 6 = some (ad 96) ∧ ((y3 = 0 → vp_in l1 24 ∧ (vp_in l1 24 ∧ (∀ t4, t4 = g_si u2 (ad 101) (l1 : Int32).toNatClampNeg ((u2.2.1 (ad 55) 7) - (u2.2.1 (ad 100) (l1 : Int32).toNatClampNeg)) → post none t4))) ∧ (¬ (y3 = 0) → (¬ (u2.2.1 (ad 56) 5) = 1 → (¬ (u2.2.1 (ad 56) 5) = 2 → g_E cx d i_Folder_leave [.ref (ad 55), .int (u2.2.1 (ad 56) 6)] u2 (fun r u5 => r = none ∧ Lay u5 ad ∧ (g_W cx (g_E cx d) mt_Folder_foldIn post (48, [some (.ref (ad 55)), some (.int l1), some (.int (l2 + 1))], [], u5, 0, 0)))) ∧ (¬ (¬ (u2.2.1 (ad 56) 5) = 2) → g_E cx d i_Folder_behindKid [.ref (ad 55), .int (u2.2.1 (ad 56) 6), .int (u2.2.1 (ad 56) 7)] u2 (fun r u7 => r = none ∧ Lay u7 ad ∧ (g_W cx (g_E cx d) mt_Folder_foldIn post (48, [some (.ref (ad 55)), some (.int l1), some (.int (l2 + 1))], [], u7, 0, 0))))) ∧ (¬ (¬ (u2.2.1 (ad 56) 5) = 1) → g_E cx d i_Folder_enter [.ref (ad 55), .int (u2.2.1 (ad 56) 6)] u2 (fun r u9 => r = none ∧ Lay u9 ad ∧ (g_W cx (g_E cx d) mt_Folder_foldIn post (48, [some (.ref (ad 55)), some (.int l1), some (.int (l2 + 1))], [], u9, 0, 0))))))))) : g_W cx (g_E cx d) mt_Folder_foldIn post (48, [some (.ref (ad 55)), some (.int l1), some (.int l2)], [], t, 0, 0) := by
  refine g_run [2, 48] 400 (fun P hP => ?_)
  refine And.intro (fun c => ?_) (fun c => ?_)
  · have h := h.1 c
    refine And.intro (hL.k 55 (by decide)) (Or.inl ⟨_, hr_55_6, ?_⟩)
    refine And.intro (hL.k 96 (by decide)) (Or.inl ⟨_, (hL.r 96 6 101 (by decide)), ?_⟩)
    refine And.intro (hL.k 55 (by decide)) ?_
    refine And.intro (hL.k 55 (by decide)) (Or.inl ⟨_, hr_55_6, ?_⟩)
    refine And.intro (hL.k 96 (by decide)) (Or.inl ⟨_, (hL.r 96 5 100 (by decide)), ?_⟩)
    refine Or.inl (And.intro (hL.k 100 (by decide)) (And.intro (hL.v 100 (by decide) h.1) ?_))
    have h := h.2
    refine And.intro (hL.k 101 (by decide)) (And.intro (hL.v 101 (by decide) h.1) ?_)
    have h := h.2 _ rfl
    exact And.intro rfl (And.intro rfl h)
  · have h := h.2 c
    refine And.intro (hL.k 55 (by decide)) (Or.inl ⟨_, (hL.r 55 0 56 (by decide)), ?_⟩)
    refine And.intro (hL.k 56 (by decide)) ?_
    refine g_Em h (fun r u h => ?_)
    obtain ⟨y3, rfl, hL, hr_55_6, h⟩ := h
    refine And.intro (fun c => ?_) (fun c => ?_)
    · have h := h.1 c
      refine And.intro (hL.k 55 (by decide)) (Or.inl ⟨_, hr_55_6, ?_⟩)
      refine And.intro (hL.k 96 (by decide)) (Or.inl ⟨_, (hL.r 96 6 101 (by decide)), ?_⟩)
      refine And.intro (hL.k 55 (by decide)) ?_
      refine And.intro (hL.k 55 (by decide)) (Or.inl ⟨_, hr_55_6, ?_⟩)
      refine And.intro (hL.k 96 (by decide)) (Or.inl ⟨_, (hL.r 96 5 100 (by decide)), ?_⟩)
      refine Or.inl (And.intro (hL.k 100 (by decide)) (And.intro (hL.v 100 (by decide) h.1) ?_))
      have h := h.2
      refine And.intro (hL.k 101 (by decide)) (And.intro (hL.v 101 (by decide) h.1) ?_)
      have h := h.2 _ rfl
      exact And.intro rfl (And.intro rfl h)
    · have h := h.2 c
      refine And.intro (hL.k 55 (by decide)) (Or.inl ⟨_, (hL.r 55 0 56 (by decide)), ?_⟩)
      refine And.intro (hL.k 56 (by decide)) ?_
      refine And.intro (fun c => ?_) (fun c => ?_)
      · have h := h.1 c
        refine And.intro (hL.k 55 (by decide)) (Or.inl ⟨_, (hL.r 55 0 56 (by decide)), ?_⟩)
        refine And.intro (hL.k 56 (by decide)) ?_
        refine And.intro (fun c => ?_) (fun c => ?_)
        · have h := h.1 c
          refine And.intro (hL.k 55 (by decide)) (Or.inl ⟨_, (hL.r 55 0 56 (by decide)), ?_⟩)
          refine And.intro (hL.k 56 (by decide)) ?_
          refine And.intro (hL.k 55 (by decide)) ?_
          refine g_Em h (fun r u h => ?_)
          obtain ⟨rfl, hL, h⟩ := h
          exact hP _ h
        · have h := h.2 c
          refine And.intro (hL.k 55 (by decide)) (Or.inl ⟨_, (hL.r 55 0 56 (by decide)), ?_⟩)
          refine And.intro (hL.k 56 (by decide)) ?_
          refine And.intro (hL.k 55 (by decide)) (Or.inl ⟨_, (hL.r 55 0 56 (by decide)), ?_⟩)
          refine And.intro (hL.k 56 (by decide)) ?_
          refine And.intro (hL.k 55 (by decide)) ?_
          refine g_Em h (fun r u h => ?_)
          obtain ⟨rfl, hL, h⟩ := h
          exact hP _ h
      · have h := h.2 c
        refine And.intro (hL.k 55 (by decide)) (Or.inl ⟨_, (hL.r 55 0 56 (by decide)), ?_⟩)
        refine And.intro (hL.k 56 (by decide)) ?_
        refine And.intro (hL.k 55 (by decide)) ?_
        refine g_Em h (fun r u h => ?_)
        obtain ⟨rfl, hL, h⟩ := h
        exact hP _ h
theorem x_Folder_enter {cx : gCx} {d : Nat} {ad : Nat → Nat} {a1 : Int32} {t : gSt} {post : Option Value → gSt → Prop} (hL : Lay t ad) (h : vp_in a1 500 ∧ (∀ t1, t1 = g_si t (ad 62) (a1 : Int32).toNatClampNeg (t.2.1 (ad 55) 7) → vp_in a1 500 ∧ (∀ t2, t2 = g_si t1 (ad 64) (a1 : Int32).toNatClampNeg (vp_nar .boolean 0) → vp_in a1 500 ∧ (∀ x3 : Int32, x3 = (t2.2.1 (ad 59) (a1 : Int32).toNatClampNeg) → vp_in a1 500 ∧ ((¬ (t2.2.1 (ad 58) (a1 : Int32).toNatClampNeg) = 2 → vp_in a1 500 ∧ (g_E cx d i_Folder_emit [.ref (ad 55), .int (t2.2.1 (ad 58) (a1 : Int32).toNatClampNeg), .int x3] t2 (fun r u4 => r = none ∧ Lay u4 ad ∧ (post none u4)))) ∧ (¬ (¬ (t2.2.1 (ad 58) (a1 : Int32).toNatClampNeg) = 2) → vp_in x3 120 ∧ (((t2.2.1 (ad 65) (x3 : Int32).toNatClampNeg) = 0 → vp_in a1 500 ∧ (g_E cx d i_Folder_emit [.ref (ad 55), .int (t2.2.1 (ad 58) (a1 : Int32).toNatClampNeg), .int x3] t2 (fun r u6 => r = none ∧ Lay u6 ad ∧ (post none u6)))) ∧ (¬ ((t2.2.1 (ad 65) (x3 : Int32).toNatClampNeg) = 0) → vp_in x3 120 ∧ (g_E cx d i_Folder_emit [.ref (ad 55), .int 1, .int (t2.2.1 (ad 66) (x3 : Int32).toNatClampNeg)] t2 (fun r u8 => r = none ∧ Lay u8 ad ∧ (post none u8))))))))))) : g_E cx (d + 1) i_Folder_enter [.ref (ad 55), .int a1] t post := by
  refine g_call mt_Folder_enter rfl (by decide) (Nat.le_of_ble_eq_true rfl) ?_
  refine g_run [] 400 (fun P hP => ?_)
  refine And.intro (hL.k 55 (by decide)) (Or.inl ⟨_, (hL.r 55 1 62 (by decide)), ?_⟩)
  refine And.intro (hL.k 55 (by decide)) ?_
  refine And.intro (hL.k 62 (by decide)) (And.intro (hL.v 62 (by decide) h.1) ?_)
  have h := h.2 _ rfl
  refine And.intro (hL.k 55 (by decide)) (Or.inl ⟨_, (hL.r 55 3 64 (by decide)), ?_⟩)
  refine And.intro (hL.v 64 (by decide) h.1) (Or.inr (And.intro (hL.k 64 (by decide)) ?_))
  have h := h.2 _ rfl
  refine And.intro (hL.k 55 (by decide)) (Or.inl ⟨_, (hL.r 55 0 56 (by decide)), ?_⟩)
  refine And.intro (hL.k 56 (by decide)) (Or.inl ⟨_, (hL.r 56 2 59 (by decide)), ?_⟩)
  refine Or.inl (And.intro (hL.k 59 (by decide)) (And.intro (hL.v 59 (by decide) h.1) ?_))
  have h := h.2
  have h := h _ rfl
  refine And.intro (hL.k 55 (by decide)) (Or.inl ⟨_, (hL.r 55 0 56 (by decide)), ?_⟩)
  refine And.intro (hL.k 56 (by decide)) (Or.inl ⟨_, (hL.r 56 1 58 (by decide)), ?_⟩)
  refine Or.inl (And.intro (hL.k 58 (by decide)) (And.intro (hL.v 58 (by decide) h.1) ?_))
  have h := h.2
  refine And.intro (fun c => ?_) (fun c => ?_)
  · have h := h.1 c
    refine And.intro (hL.k 55 (by decide)) (Or.inl ⟨_, (hL.r 55 0 56 (by decide)), ?_⟩)
    refine And.intro (hL.k 56 (by decide)) (Or.inl ⟨_, (hL.r 56 1 58 (by decide)), ?_⟩)
    refine Or.inl (And.intro (hL.k 58 (by decide)) (And.intro (hL.v 58 (by decide) h.1) ?_))
    have h := h.2
    refine And.intro (hL.k 55 (by decide)) ?_
    refine g_Em h (fun r u h => ?_)
    obtain ⟨rfl, hL, h⟩ := h
    exact And.intro rfl (And.intro rfl h)
  · have h := h.2 c
    refine And.intro (hL.k 55 (by decide)) (Or.inl ⟨_, (hL.r 55 4 65 (by decide)), ?_⟩)
    refine Or.inl (And.intro (Or.inr (hL.k 65 (by decide))) (And.intro (hL.v 65 (by decide) h.1) ?_))
    have h := h.2
    refine And.intro (fun c => ?_) (fun c => ?_)
    · have h := h.1 c
      refine And.intro (hL.k 55 (by decide)) (Or.inl ⟨_, (hL.r 55 0 56 (by decide)), ?_⟩)
      refine And.intro (hL.k 56 (by decide)) (Or.inl ⟨_, (hL.r 56 1 58 (by decide)), ?_⟩)
      refine Or.inl (And.intro (hL.k 58 (by decide)) (And.intro (hL.v 58 (by decide) h.1) ?_))
      have h := h.2
      refine And.intro (hL.k 55 (by decide)) ?_
      refine g_Em h (fun r u h => ?_)
      obtain ⟨rfl, hL, h⟩ := h
      exact And.intro rfl (And.intro rfl h)
    · have h := h.2 c
      refine And.intro (hL.k 55 (by decide)) (Or.inl ⟨_, (hL.r 55 5 66 (by decide)), ?_⟩)
      refine Or.inl (And.intro (hL.k 66 (by decide)) (And.intro (hL.v 66 (by decide) h.1) ?_))
      have h := h.2
      refine And.intro (hL.k 55 (by decide)) ?_
      refine g_Em h (fun r u h => ?_)
      obtain ⟨rfl, hL, h⟩ := h
      exact And.intro rfl (And.intro rfl h)
theorem x_Folder_behindKid {cx : gCx} {d : Nat} {ad : Nat → Nat} {a1 a2 : Int32} {t : gSt} {post : Option Value → gSt → Prop} (hL : Lay t ad) (h : vp_in a1 500 ∧ (∀ x1 : Int32, x1 = (t.2.1 (ad 58) (a1 : Int32).toNatClampNeg) → (¬ a2 = 0 → g_W cx (g_E cx d) mt_Folder_behindKid post (47, [some (.ref (ad 55)), some (.int a1), some (.int a2), some (.int x1)], [], t, 0, 0)) ∧ (¬ (¬ a2 = 0) → (¬ x1 = 12 → g_W cx (g_E cx d) mt_Folder_behindKid post (47, [some (.ref (ad 55)), some (.int a1), some (.int a2), some (.int x1)], [], t, 0, 0)) ∧ (¬ (¬ x1 = 12) → vp_in a1 500 ∧ (g_E cx d i_Folder_isCalm [.ref (ad 55), .int ((t.2.1 (ad 62) (a1 : Int32).toNatClampNeg) + 1), .int (t.2.1 (ad 55) 7)] t (fun r u2 => ∃ y3 : Int32, r = some (.int y3) ∧ Lay u2 ad ∧ ((y3 = 0 → g_W cx (g_E cx d) mt_Folder_behindKid post (47, [some (.ref (ad 55)), some (.int a1), some (.int a2), some (.int x1)], [], u2, 0, 0)) ∧ (¬ (y3 = 0) → g_E cx d i_Folder_giveWay [.ref (ad 55), .int a1] u2 (fun r u4 => r = none ∧ Lay u4 ad ∧ (g_W cx (g_E cx d) mt_Folder_behindKid post (135, [some (.ref (ad 55)), some (.int a1), some (.int a2), some (.int x1)], [], u4, 0, 0))))))))))) : g_E cx (d + 1) i_Folder_behindKid [.ref (ad 55), .int a1, .int a2] t post := by
  refine g_call mt_Folder_behindKid rfl (by decide) (Nat.le_of_ble_eq_true rfl) ?_
  refine g_run [47, 75, 108, 135] 400 (fun P hP => ?_)
  refine And.intro (hL.k 55 (by decide)) (Or.inl ⟨_, (hL.r 55 0 56 (by decide)), ?_⟩)
  refine And.intro (hL.k 56 (by decide)) (Or.inl ⟨_, (hL.r 56 1 58 (by decide)), ?_⟩)
  refine Or.inl (And.intro (hL.k 58 (by decide)) (And.intro (hL.v 58 (by decide) h.1) ?_))
  have h := h.2
  have h := h _ rfl
  refine And.intro (fun c => ?_) (fun c => ?_)
  · have h := h.1 c
    exact hP _ h
  · have h := h.2 c
    refine And.intro (fun c => ?_) (fun c => ?_)
    · have h := h.1 c
      exact hP _ h
    · have h := h.2 c
      refine And.intro (hL.k 55 (by decide)) (Or.inl ⟨_, (hL.r 55 1 62 (by decide)), ?_⟩)
      refine Or.inl (And.intro (hL.k 62 (by decide)) (And.intro (hL.v 62 (by decide) h.1) ?_))
      have h := h.2
      refine And.intro (hL.k 55 (by decide)) ?_
      refine And.intro (hL.k 55 (by decide)) ?_
      refine g_Em h (fun r u h => ?_)
      obtain ⟨y3, rfl, hL, h⟩ := h
      refine And.intro (fun c => ?_) (fun c => ?_)
      · have h := h.1 c
        exact hP _ h
      · have h := h.2 c
        refine And.intro (hL.k 55 (by decide)) ?_
        refine g_Em h (fun r u h => ?_)
        obtain ⟨rfl, hL, h⟩ := h
        exact hP _ h
theorem x_Folder_behindKid_47 {cx : gCx} {d : Nat} {ad : Nat → Nat} {l1 l2 l3 : Int32} {t : gSt} {post : Option Value → gSt → Prop} (hL : Lay t ad) (h : (¬ l2 = 0 → g_W cx (g_E cx d) mt_Folder_behindKid post (75, [some (.ref (ad 55)), some (.int l1), some (.int l2), some (.int l3)], [], t, 0, 0)) ∧ (¬ (¬ l2 = 0) → (¬ l3 = 14 → g_W cx (g_E cx d) mt_Folder_behindKid post (75, [some (.ref (ad 55)), some (.int l1), some (.int l2), some (.int l3)], [], t, 0, 0)) ∧ (¬ (¬ l3 = 14) → vp_in l1 500 ∧ (∀ t1, t1 = g_si t (ad 63) (l1 : Int32).toNatClampNeg (t.2.1 (ad 55) 7) → g_E cx d i_Folder_bind [.ref (ad 55), .int l1] t1 (fun r u2 => r = none ∧ Lay u2 ad ∧ (g_W cx (g_E cx d) mt_Folder_behindKid post (135, [some (.ref (ad 55)), some (.int l1), some (.int l2), some (.int l3)], [], u2, 0, 0))))))) : g_W cx (g_E cx d) mt_Folder_behindKid post (47, [some (.ref (ad 55)), some (.int l1), some (.int l2), some (.int l3)], [], t, 0, 0) := by
  refine g_run [47, 75, 108, 135] 400 (fun P hP => ?_)
  refine And.intro (fun c => ?_) (fun c => ?_)
  · have h := h.1 c
    exact hP _ h
  · have h := h.2 c
    refine And.intro (fun c => ?_) (fun c => ?_)
    · have h := h.1 c
      exact hP _ h
    · have h := h.2 c
      refine And.intro (hL.k 55 (by decide)) (Or.inl ⟨_, (hL.r 55 2 63 (by decide)), ?_⟩)
      refine And.intro (hL.k 55 (by decide)) ?_
      refine And.intro (hL.k 63 (by decide)) (And.intro (hL.v 63 (by decide) h.1) ?_)
      have h := h.2 _ rfl
      refine And.intro (hL.k 55 (by decide)) ?_
      refine g_Em h (fun r u h => ?_)
      obtain ⟨rfl, hL, h⟩ := h
      exact hP _ h
theorem x_Folder_behindKid_75 {cx : gCx} {d : Nat} {ad : Nat → Nat} {l1 l2 l3 : Int32} {t : gSt} {post : Option Value → gSt → Prop} (hL : Lay t ad) (h : (¬ l2 = 0 → g_W cx (g_E cx d) mt_Folder_behindKid post (108, [some (.ref (ad 55)), some (.int l1), some (.int l2), some (.int l3)], [], t, 0, 0)) ∧ (¬ (¬ l2 = 0) → (¬ l3 = 13 → g_W cx (g_E cx d) mt_Folder_behindKid post (108, [some (.ref (ad 55)), some (.int l1), some (.int l2), some (.int l3)], [], t, 0, 0)) ∧ (¬ (¬ l3 = 13) → vp_in l1 500 ∧ (g_E cx d i_Folder_isNumber [.ref (ad 55), .int ((t.2.1 (ad 62) (l1 : Int32).toNatClampNeg) + 1)] t (fun r u1 => ∃ y2 : Int32, r = some (.int y2) ∧ Lay u1 ad ∧ ((y2 = 0 → g_W cx (g_E cx d) mt_Folder_behindKid post (108, [some (.ref (ad 55)), some (.int l1), some (.int l2), some (.int l3)], [], u1, 0, 0)) ∧ (¬ (y2 = 0) → g_E cx d i_Folder_chooseBranch [.ref (ad 55), .int l1] u1 (fun r u3 => r = none ∧ Lay u3 ad ∧ (g_W cx (g_E cx d) mt_Folder_behindKid post (135, [some (.ref (ad 55)), some (.int l1), some (.int l2), some (.int l3)], [], u3, 0, 0)))))))))) : g_W cx (g_E cx d) mt_Folder_behindKid post (75, [some (.ref (ad 55)), some (.int l1), some (.int l2), some (.int l3)], [], t, 0, 0) := by
  refine g_run [47, 75, 108, 135] 400 (fun P hP => ?_)
  refine And.intro (fun c => ?_) (fun c => ?_)
  · have h := h.1 c
    exact hP _ h
  · have h := h.2 c
    refine And.intro (fun c => ?_) (fun c => ?_)
    · have h := h.1 c
      exact hP _ h
    · have h := h.2 c
      refine And.intro (hL.k 55 (by decide)) (Or.inl ⟨_, (hL.r 55 1 62 (by decide)), ?_⟩)
      refine Or.inl (And.intro (hL.k 62 (by decide)) (And.intro (hL.v 62 (by decide) h.1) ?_))
      have h := h.2
      refine And.intro (hL.k 55 (by decide)) ?_
      refine g_Em h (fun r u h => ?_)
      obtain ⟨y2, rfl, hL, h⟩ := h
      refine And.intro (fun c => ?_) (fun c => ?_)
      · have h := h.1 c
        exact hP _ h
      · have h := h.2 c
        refine And.intro (hL.k 55 (by decide)) ?_
        refine g_Em h (fun r u h => ?_)
        obtain ⟨rfl, hL, h⟩ := h
        exact hP _ h
theorem x_Folder_behindKid_108 {cx : gCx} {d : Nat} {ad : Nat → Nat} {l1 l2 l3 : Int32} {t : gSt} {post : Option Value → gSt → Prop} (hL : Lay t ad) (h : (¬ l2 = 1 → g_W cx (g_E cx d) mt_Folder_behindKid post (135, [some (.ref (ad 55)), some (.int l1), some (.int l2), some (.int l3)], [], t, 0, 0)) ∧ (¬ (¬ l2 = 1) → (¬ l3 = 13 → g_W cx (g_E cx d) mt_Folder_behindKid post (135, [some (.ref (ad 55)), some (.int l1), some (.int l2), some (.int l3)], [], t, 0, 0)) ∧ (¬ (¬ l3 = 13) → vp_in l1 500 ∧ (((t.2.1 (ad 64) (l1 : Int32).toNatClampNeg) = 0 → g_W cx (g_E cx d) mt_Folder_behindKid post (135, [some (.ref (ad 55)), some (.int l1), some (.int l2), some (.int l3)], [], t, 0, 0)) ∧ (¬ ((t.2.1 (ad 64) (l1 : Int32).toNatClampNeg) = 0) → g_E cx d i_Walk_skipKid [.ref (ad 56)] t (fun r u1 => r = none ∧ Lay u1 ad ∧ (g_W cx (g_E cx d) mt_Folder_behindKid post (135, [some (.ref (ad 55)), some (.int l1), some (.int l2), some (.int l3)], [], u1, 0, 0)))))))) : g_W cx (g_E cx d) mt_Folder_behindKid post (108, [some (.ref (ad 55)), some (.int l1), some (.int l2), some (.int l3)], [], t, 0, 0) := by
  refine g_run [47, 75, 108, 135] 400 (fun P hP => ?_)
  refine And.intro (fun c => ?_) (fun c => ?_)
  · have h := h.1 c
    exact hP _ h
  · have h := h.2 c
    refine And.intro (fun c => ?_) (fun c => ?_)
    · have h := h.1 c
      exact hP _ h
    · have h := h.2 c
      refine And.intro (hL.k 55 (by decide)) (Or.inl ⟨_, (hL.r 55 3 64 (by decide)), ?_⟩)
      refine Or.inl (And.intro (Or.inr (hL.k 64 (by decide))) (And.intro (hL.v 64 (by decide) h.1) ?_))
      have h := h.2
      refine And.intro (fun c => ?_) (fun c => ?_)
      · have h := h.1 c
        exact hP _ h
      · have h := h.2 c
        refine And.intro (hL.k 55 (by decide)) (Or.inl ⟨_, (hL.r 55 0 56 (by decide)), ?_⟩)
        refine And.intro (hL.k 56 (by decide)) ?_
        refine g_Em h (fun r u h => ?_)
        obtain ⟨rfl, hL, h⟩ := h
        exact hP _ h
theorem x_Folder_behindKid_135 {cx : gCx} {d : Nat} {ad : Nat → Nat} {l1 l2 l3 : Int32} {t : gSt} {post : Option Value → gSt → Prop} (hL : Lay t ad) (h : post none t) : g_W cx (g_E cx d) mt_Folder_behindKid post (135, [some (.ref (ad 55)), some (.int l1), some (.int l2), some (.int l3)], [], t, 0, 0) := by
  refine g_run [47, 75, 108, 135] 400 (fun P hP => ?_)
  exact And.intro rfl (And.intro rfl h)
theorem x_Folder_leave {cx : gCx} {d : Nat} {ad : Nat → Nat} {a1 : Int32} {t : gSt} {post : Option Value → gSt → Prop} (hL : Lay t ad) (h : vp_in a1 500 ∧ (∀ x1 : Int32, x1 = (t.2.1 (ad 58) (a1 : Int32).toNatClampNeg) → (x1 < 3 → g_W cx (g_E cx d) mt_Folder_leave post (29, [some (.ref (ad 55)), some (.int a1), some (.int x1), none], [], t, 0, 0)) ∧ (¬ (x1 < 3) → (9 < x1 → g_W cx (g_E cx d) mt_Folder_leave post (29, [some (.ref (ad 55)), some (.int a1), some (.int x1), none], [], t, 0, 0)) ∧ (¬ (9 < x1) → g_E cx d i_Folder_foldTwo [.ref (ad 55), .int a1] t (fun r u2 => r = none ∧ Lay u2 ad ∧ (g_W cx (g_E cx d) mt_Folder_leave post (107, [some (.ref (ad 55)), some (.int a1), some (.int x1), none], [], u2, 0, 0))))))) : g_E cx (d + 1) i_Folder_leave [.ref (ad 55), .int a1] t post := by
  refine g_call mt_Folder_leave rfl (by decide) (Nat.le_of_ble_eq_true rfl) ?_
  refine g_run [29, 87, 107] 400 (fun P hP => ?_)
  refine And.intro (hL.k 55 (by decide)) (Or.inl ⟨_, (hL.r 55 0 56 (by decide)), ?_⟩)
  refine And.intro (hL.k 56 (by decide)) (Or.inl ⟨_, (hL.r 56 1 58 (by decide)), ?_⟩)
  refine Or.inl (And.intro (hL.k 58 (by decide)) (And.intro (hL.v 58 (by decide) h.1) ?_))
  have h := h.2
  have h := h _ rfl
  refine And.intro (fun c => ?_) (fun c => ?_)
  · have h := h.1 c
    exact hP _ h
  · have h := h.2 c
    refine And.intro (fun c => ?_) (fun c => ?_)
    · have h := h.1 c
      exact hP _ h
    · have h := h.2 c
      refine And.intro (hL.k 55 (by decide)) ?_
      refine g_Em h (fun r u h => ?_)
      obtain ⟨rfl, hL, h⟩ := h
      exact hP _ h
theorem x_Folder_leave_29 {cx : gCx} {d : Nat} {ad : Nat → Nat} {l1 l2 : Int32} {t : gSt} {post : Option Value → gSt → Prop} (hL : Lay t ad) (h : (¬ l2 = 10 → g_W cx (g_E cx d) mt_Folder_leave post (87, [some (.ref (ad 55)), some (.int l1), some (.int l2), none], [], t, 0, 0)) ∧ (¬ (¬ l2 = 10) → vp_in l1 500 ∧ (g_E cx d i_Folder_isNumber [.ref (ad 55), .int ((t.2.1 (ad 62) (l1 : Int32).toNatClampNeg) + 1)] t (fun r u1 => ∃ y2 : Int32, r = some (.int y2) ∧ Lay u1 ad ∧ u1.2.2.2 (ad 55) 6 = some (ad 96) ∧ ((y2 = 0 → g_W cx (g_E cx d) mt_Folder_leave post (87, [some (.ref (ad 55)), some (.int l1), some (.int l2), none], [], u1, 0, 0)) ∧ (¬ (y2 = 0) → vp_in l1 500 ∧ (vp_in ((u1.2.1 (ad 62) (l1 : Int32).toNatClampNeg) + 1) 12000 ∧ (∀ x3 : Int32, x3 = (-(u1.2.1 (ad 109) (((u1.2.1 (ad 62) (l1 : Int32).toNatClampNeg) + 1) : Int32).toNatClampNeg)) → vp_in l1 500 ∧ (∀ t4, t4 = g_si u1 (ad 55) 7 (u1.2.1 (ad 62) (l1 : Int32).toNatClampNeg) → g_E cx d i_Folder_emit [.ref (ad 55), .int 1, .int x3] t4 (fun r u5 => r = none ∧ Lay u5 ad ∧ (g_W cx (g_E cx d) mt_Folder_leave post (107, [some (.ref (ad 55)), some (.int l1), some (.int l2), some (.int x3)], [], u5, 0, 0)))))))))))) : g_W cx (g_E cx d) mt_Folder_leave post (29, [some (.ref (ad 55)), some (.int l1), some (.int l2), none], [], t, 0, 0) := by
  refine g_run [29, 87, 107] 400 (fun P hP => ?_)
  refine And.intro (fun c => ?_) (fun c => ?_)
  · have h := h.1 c
    exact hP _ h
  · have h := h.2 c
    refine And.intro (hL.k 55 (by decide)) (Or.inl ⟨_, (hL.r 55 1 62 (by decide)), ?_⟩)
    refine Or.inl (And.intro (hL.k 62 (by decide)) (And.intro (hL.v 62 (by decide) h.1) ?_))
    have h := h.2
    refine And.intro (hL.k 55 (by decide)) ?_
    refine g_Em h (fun r u h => ?_)
    obtain ⟨y2, rfl, hL, hr_55_6, h⟩ := h
    refine And.intro (fun c => ?_) (fun c => ?_)
    · have h := h.1 c
      exact hP _ h
    · have h := h.2 c
      refine And.intro (hL.k 55 (by decide)) (Or.inl ⟨_, hr_55_6, ?_⟩)
      refine And.intro (hL.k 96 (by decide)) (Or.inl ⟨_, (hL.r 96 1 109 (by decide)), ?_⟩)
      refine And.intro (hL.k 55 (by decide)) (Or.inl ⟨_, (hL.r 55 1 62 (by decide)), ?_⟩)
      refine Or.inl (And.intro (hL.k 62 (by decide)) (And.intro (hL.v 62 (by decide) h.1) ?_))
      have h := h.2
      refine Or.inl (And.intro (hL.k 109 (by decide)) (And.intro (hL.v 109 (by decide) h.1) ?_))
      have h := h.2
      have h := h _ rfl
      refine And.intro (hL.k 55 (by decide)) (Or.inl ⟨_, (hL.r 55 1 62 (by decide)), ?_⟩)
      refine Or.inl (And.intro (hL.k 62 (by decide)) (And.intro (hL.v 62 (by decide) h.1) ?_))
      have h := h.2
      refine And.intro (hL.k 55 (by decide)) ?_
      have h := h _ rfl
      refine And.intro (hL.k 55 (by decide)) ?_
      refine g_Em h (fun r u h => ?_)
      obtain ⟨rfl, hL, h⟩ := h
      exact hP _ h
theorem x_Folder_leave_87 {cx : gCx} {d : Nat} {ad : Nat → Nat} {l1 l2 : Int32} {t : gSt} {post : Option Value → gSt → Prop} (hL : Lay t ad) (h : (¬ l2 = 14 → g_W cx (g_E cx d) mt_Folder_leave post (107, [some (.ref (ad 55)), some (.int l1), some (.int l2), none], [], t, 0, 0)) ∧ (¬ (¬ l2 = 14) → vp_in l1 500 ∧ ((¬ (t.2.1 (ad 64) (l1 : Int32).toNatClampNeg) = 0 → g_W cx (g_E cx d) mt_Folder_leave post (107, [some (.ref (ad 55)), some (.int l1), some (.int l2), none], [], t, 0, 0)) ∧ (¬ (¬ (t.2.1 (ad 64) (l1 : Int32).toNatClampNeg) = 0) → g_E cx d i_Folder_dropUnused [.ref (ad 55), .int l1] t (fun r u1 => r = none ∧ Lay u1 ad ∧ (g_W cx (g_E cx d) mt_Folder_leave post (107, [some (.ref (ad 55)), some (.int l1), some (.int l2), none], [], u1, 0, 0))))))) : g_W cx (g_E cx d) mt_Folder_leave post (87, [some (.ref (ad 55)), some (.int l1), some (.int l2), none], [], t, 0, 0) := by
  refine g_run [29, 87, 107] 400 (fun P hP => ?_)
  refine And.intro (fun c => ?_) (fun c => ?_)
  · have h := h.1 c
    exact hP _ h
  · have h := h.2 c
    refine And.intro (hL.k 55 (by decide)) (Or.inl ⟨_, (hL.r 55 3 64 (by decide)), ?_⟩)
    refine Or.inl (And.intro (Or.inr (hL.k 64 (by decide))) (And.intro (hL.v 64 (by decide) h.1) ?_))
    have h := h.2
    refine And.intro (fun c => ?_) (fun c => ?_)
    · have h := h.1 c
      exact hP _ h
    · have h := h.2 c
      refine And.intro (hL.k 55 (by decide)) ?_
      refine g_Em h (fun r u h => ?_)
      obtain ⟨rfl, hL, h⟩ := h
      exact hP _ h
theorem x_Folder_leave_107 {cx : gCx} {d : Nat} {ad : Nat → Nat} {l1 l2 : Int32} {o3 : Option Value} {t : gSt} {post : Option Value → gSt → Prop} (hL : Lay t ad) (h : post none t) : g_W cx (g_E cx d) mt_Folder_leave post (107, [some (.ref (ad 55)), some (.int l1), some (.int l2), o3], [], t, 0, 0) := by
  refine g_run [29, 87, 107] 400 (fun P hP => ?_)
  exact And.intro rfl (And.intro rfl h)
theorem x_Folder_giveWay {cx : gCx} {d : Nat} {ad : Nat → Nat} {a1 : Int32} {t : gSt} {post : Option Value → gSt → Prop} (hL : Lay t ad) (h : vp_in a1 500 ∧ (∀ t1, t1 = g_si t (ad 55) 7 (t.2.1 (ad 62) (a1 : Int32).toNatClampNeg) → vp_in a1 500 ∧ (∀ t2, t2 = g_si t1 (ad 64) (a1 : Int32).toNatClampNeg (vp_nar .boolean 1) → post none t2))) : g_E cx (d + 1) i_Folder_giveWay [.ref (ad 55), .int a1] t post := by
  refine g_call mt_Folder_giveWay rfl (by decide) (Nat.le_of_ble_eq_true rfl) ?_
  refine g_run [] 400 (fun P hP => ?_)
  refine And.intro (hL.k 55 (by decide)) (Or.inl ⟨_, (hL.r 55 1 62 (by decide)), ?_⟩)
  refine Or.inl (And.intro (hL.k 62 (by decide)) (And.intro (hL.v 62 (by decide) h.1) ?_))
  have h := h.2
  refine And.intro (hL.k 55 (by decide)) ?_
  have h := h _ rfl
  refine And.intro (hL.k 55 (by decide)) (Or.inl ⟨_, (hL.r 55 3 64 (by decide)), ?_⟩)
  refine And.intro (hL.v 64 (by decide) h.1) (Or.inr (And.intro (hL.k 64 (by decide)) ?_))
  have h := h.2 _ rfl
  exact And.intro rfl (And.intro rfl h)
theorem x_Folder_bind {cx : gCx} {d : Nat} {ad : Nat → Nat} {a1 : Int32} {t : gSt} {post : Option Value → gSt → Prop} (hL : Lay t ad) (h : vp_in a1 500 ∧ (g_E cx d i_Folder_isNumber [.ref (ad 55), .int ((t.2.1 (ad 62) (a1 : Int32).toNatClampNeg) + 1)] t (fun r u1 => ∃ y2 : Int32, r = some (.int y2) ∧ Lay u1 ad ∧ u1.2.2.2 (ad 55) 6 = some (ad 96) ∧ ((y2 = 0 → post none u1) ∧ (¬ (y2 = 0) → vp_in a1 500 ∧ (∀ x3 : Int32, x3 = (u1.2.1 (ad 59) (a1 : Int32).toNatClampNeg) → vp_in x3 120 ∧ (∀ t4, t4 = g_si u1 (ad 65) (x3 : Int32).toNatClampNeg (vp_nar .boolean 1) → vp_in a1 500 ∧ (vp_in ((t4.2.1 (ad 62) (a1 : Int32).toNatClampNeg) + 1) 12000 ∧ (vp_in x3 120 ∧ (∀ t5, t5 = g_si t4 (ad 66) (x3 : Int32).toNatClampNeg (t4.2.1 (ad 109) (((t4.2.1 (ad 62) (a1 : Int32).toNatClampNeg) + 1) : Int32).toNatClampNeg) → g_E cx d i_Folder_giveWay [.ref (ad 55), .int a1] t5 (fun r u6 => r = none ∧ Lay u6 ad ∧ (post none u6)))))))))))) : g_E cx (d + 1) i_Folder_bind [.ref (ad 55), .int a1] t post := by
  refine g_call mt_Folder_bind rfl (by decide) (Nat.le_of_ble_eq_true rfl) ?_
  refine g_run [] 400 (fun P hP => ?_)
  refine And.intro (hL.k 55 (by decide)) (Or.inl ⟨_, (hL.r 55 1 62 (by decide)), ?_⟩)
  refine Or.inl (And.intro (hL.k 62 (by decide)) (And.intro (hL.v 62 (by decide) h.1) ?_))
  have h := h.2
  refine And.intro (hL.k 55 (by decide)) ?_
  refine g_Em h (fun r u h => ?_)
  obtain ⟨y2, rfl, hL, hr_55_6, h⟩ := h
  refine And.intro (fun c => ?_) (fun c => ?_)
  · have h := h.1 c
    exact And.intro rfl (And.intro rfl h)
  · have h := h.2 c
    refine And.intro (hL.k 55 (by decide)) (Or.inl ⟨_, (hL.r 55 0 56 (by decide)), ?_⟩)
    refine And.intro (hL.k 56 (by decide)) (Or.inl ⟨_, (hL.r 56 2 59 (by decide)), ?_⟩)
    refine Or.inl (And.intro (hL.k 59 (by decide)) (And.intro (hL.v 59 (by decide) h.1) ?_))
    have h := h.2
    have h := h _ rfl
    refine And.intro (hL.k 55 (by decide)) (Or.inl ⟨_, (hL.r 55 4 65 (by decide)), ?_⟩)
    refine And.intro (hL.v 65 (by decide) h.1) (Or.inr (And.intro (hL.k 65 (by decide)) ?_))
    have h := h.2 _ rfl
    refine And.intro (hL.k 55 (by decide)) (Or.inl ⟨_, (hL.r 55 5 66 (by decide)), ?_⟩)
    refine And.intro (hL.k 55 (by decide)) (Or.inl ⟨_, hr_55_6, ?_⟩)
    refine And.intro (hL.k 96 (by decide)) (Or.inl ⟨_, (hL.r 96 1 109 (by decide)), ?_⟩)
    refine And.intro (hL.k 55 (by decide)) (Or.inl ⟨_, (hL.r 55 1 62 (by decide)), ?_⟩)
    refine Or.inl (And.intro (hL.k 62 (by decide)) (And.intro (hL.v 62 (by decide) h.1) ?_))
    have h := h.2
    refine Or.inl (And.intro (hL.k 109 (by decide)) (And.intro (hL.v 109 (by decide) h.1) ?_))
    have h := h.2
    refine And.intro (hL.k 66 (by decide)) (And.intro (hL.v 66 (by decide) h.1) ?_)
    have h := h.2 _ rfl
    refine And.intro (hL.k 55 (by decide)) ?_
    refine g_Em h (fun r u h => ?_)
    obtain ⟨rfl, hL, h⟩ := h
    exact And.intro rfl (And.intro rfl h)
theorem x_Folder_chooseBranch {cx : gCx} {d : Nat} {ad : Nat → Nat} {a1 : Int32} {t : gSt} {post : Option Value → gSt → Prop} (hL : Lay t ad) (hr_55_6 : t.2.2.2 (ad 55) 6 = some (ad 96)) (h : vp_in a1 500 ∧ (vp_in ((t.2.1 (ad 62) (a1 : Int32).toNatClampNeg) + 1) 12000 ∧ (((t.2.1 (ad 109) (((t.2.1 (ad 62) (a1 : Int32).toNatClampNeg) + 1) : Int32).toNatClampNeg) = 0 → g_E cx d i_Folder_giveWay [.ref (ad 55), .int a1] t (fun r u1 => r = none ∧ Lay u1 ad ∧ (g_E cx d i_Walk_skipKid [.ref (ad 56)] u1 (fun r u3 => r = none ∧ Lay u3 ad ∧ (post none u3))))) ∧ (¬ ((t.2.1 (ad 109) (((t.2.1 (ad 62) (a1 : Int32).toNatClampNeg) + 1) : Int32).toNatClampNeg) = 0) → g_E cx d i_Folder_giveWay [.ref (ad 55), .int a1] t (fun r u5 => r = none ∧ Lay u5 ad ∧ (post none u5)))))) : g_E cx (d + 1) i_Folder_chooseBranch [.ref (ad 55), .int a1] t post := by
  refine g_call mt_Folder_chooseBranch rfl (by decide) (Nat.le_of_ble_eq_true rfl) ?_
  refine g_run [] 400 (fun P hP => ?_)
  refine And.intro (hL.k 55 (by decide)) (Or.inl ⟨_, hr_55_6, ?_⟩)
  refine And.intro (hL.k 96 (by decide)) (Or.inl ⟨_, (hL.r 96 1 109 (by decide)), ?_⟩)
  refine And.intro (hL.k 55 (by decide)) (Or.inl ⟨_, (hL.r 55 1 62 (by decide)), ?_⟩)
  refine Or.inl (And.intro (hL.k 62 (by decide)) (And.intro (hL.v 62 (by decide) h.1) ?_))
  have h := h.2
  refine Or.inl (And.intro (hL.k 109 (by decide)) (And.intro (hL.v 109 (by decide) h.1) ?_))
  have h := h.2
  refine And.intro (fun c => ?_) (fun c => ?_)
  · have h := h.1 c
    refine And.intro (hL.k 55 (by decide)) ?_
    refine g_Em h (fun r u h => ?_)
    obtain ⟨rfl, hL, h⟩ := h
    refine And.intro (fun c => absurd (show ¬ (0 : Int32) = (0 : Int32) from c) (by decide)) (fun c => ?_)
    refine And.intro (hL.k 55 (by decide)) (Or.inl ⟨_, (hL.r 55 0 56 (by decide)), ?_⟩)
    refine And.intro (hL.k 56 (by decide)) ?_
    refine g_Em h (fun r u h => ?_)
    obtain ⟨rfl, hL, h⟩ := h
    exact And.intro rfl (And.intro rfl h)
  · have h := h.2 c
    refine And.intro (hL.k 55 (by decide)) ?_
    refine g_Em h (fun r u h => ?_)
    obtain ⟨rfl, hL, h⟩ := h
    refine And.intro (fun c => ?_) (fun c => (c (show ¬ (1 : Int32) = (0 : Int32) by decide)).elim)
    exact And.intro rfl (And.intro rfl h)
theorem x_Folder_foldTwo {cx : gCx} {d : Nat} {ad : Nat → Nat} {a1 : Int32} {t : gSt} {post : Option Value → gSt → Prop} (hL : Lay t ad) (hr_55_6 : t.2.2.2 (ad 55) 6 = some (ad 96)) (h : vp_in a1 500 ∧ (∀ x1 : Int32, x1 = ((t.2.1 (ad 62) (a1 : Int32).toNatClampNeg) + 1) → ∀ x2 : Int32, x2 = (x1 + 1) → (¬ (t.2.1 (ad 55) 7) = (x2 + 1) → post none t) ∧ (¬ (¬ (t.2.1 (ad 55) 7) = (x2 + 1)) → vp_in x1 12000 ∧ ((¬ (t.2.1 (ad 108) (x1 : Int32).toNatClampNeg) = 1 → post none t) ∧ (¬ (¬ (t.2.1 (ad 108) (x1 : Int32).toNatClampNeg) = 1) → vp_in x2 12000 ∧ (((t.2.1 (ad 108) (x2 : Int32).toNatClampNeg) = 1 → vp_in a1 500 ∧ (vp_in x2 12000 ∧ (g_E cx d i_Tr_dividesByZero [.int (t.2.1 (ad 58) (a1 : Int32).toNatClampNeg), .int (t.2.1 (ad 109) (x2 : Int32).toNatClampNeg)] t (fun r u3 => ∃ y4 : Int32, r = some (.int y4) ∧ Lay u3 ad ∧ u3.2.2.2 (ad 55) 6 = some (ad 96) ∧ ((y4 = 0 → vp_in a1 500 ∧ (vp_in x1 12000 ∧ (vp_in x2 12000 ∧ (g_E cx d i_Tr_operate [.int (u3.2.1 (ad 58) (a1 : Int32).toNatClampNeg), .int (u3.2.1 (ad 109) (x1 : Int32).toNatClampNeg), .int (u3.2.1 (ad 109) (x2 : Int32).toNatClampNeg)] u3 (fun r u5 => ∃ y6 : Int32, r = some (.int y6) ∧ Lay u5 ad ∧ (vp_in a1 500 ∧ (∀ t7, t7 = g_si u5 (ad 55) 7 (u5.2.1 (ad 62) (a1 : Int32).toNatClampNeg) → g_E cx d i_Folder_emit [.ref (ad 55), .int 1, .int y6] t7 (fun r u8 => r = none ∧ Lay u8 ad ∧ (post none u8))))))))) ∧ (¬ (y4 = 0) → post none u3)))))) ∧ (¬ ((t.2.1 (ad 108) (x2 : Int32).toNatClampNeg) = 1) → post none t))))))) : g_E cx (d + 1) i_Folder_foldTwo [.ref (ad 55), .int a1] t post := by
  refine g_call mt_Folder_foldTwo rfl (by decide) (Nat.le_of_ble_eq_true rfl) ?_
  refine g_run [] 400 (fun P hP => ?_)
  refine And.intro (hL.k 55 (by decide)) (Or.inl ⟨_, (hL.r 55 1 62 (by decide)), ?_⟩)
  refine Or.inl (And.intro (hL.k 62 (by decide)) (And.intro (hL.v 62 (by decide) h.1) ?_))
  have h := h.2
  have h := h _ rfl
  have h := h _ rfl
  refine And.intro (hL.k 55 (by decide)) ?_
  refine And.intro (fun c => ?_) (fun c => ?_)
  · have h := h.1 c
    exact And.intro rfl (And.intro rfl h)
  · have h := h.2 c
    refine And.intro (hL.k 55 (by decide)) (Or.inl ⟨_, hr_55_6, ?_⟩)
    refine And.intro (hL.k 96 (by decide)) (Or.inl ⟨_, (hL.r 96 0 108 (by decide)), ?_⟩)
    refine Or.inl (And.intro (hL.k 108 (by decide)) (And.intro (hL.v 108 (by decide) h.1) ?_))
    have h := h.2
    refine And.intro (fun c => ?_) (fun c => ?_)
    · have h := h.1 c
      exact And.intro rfl (And.intro rfl h)
    · have h := h.2 c
      refine And.intro (hL.k 55 (by decide)) (Or.inl ⟨_, hr_55_6, ?_⟩)
      refine And.intro (hL.k 96 (by decide)) (Or.inl ⟨_, (hL.r 96 0 108 (by decide)), ?_⟩)
      refine Or.inl (And.intro (hL.k 108 (by decide)) (And.intro (hL.v 108 (by decide) h.1) ?_))
      have h := h.2
      refine And.intro (fun c => ?_) (fun c => ?_)
      · have h := h.1 c
        refine And.intro (hL.k 55 (by decide)) (Or.inl ⟨_, (hL.r 55 0 56 (by decide)), ?_⟩)
        refine And.intro (hL.k 56 (by decide)) (Or.inl ⟨_, (hL.r 56 1 58 (by decide)), ?_⟩)
        refine Or.inl (And.intro (hL.k 58 (by decide)) (And.intro (hL.v 58 (by decide) h.1) ?_))
        have h := h.2
        refine And.intro (hL.k 55 (by decide)) (Or.inl ⟨_, hr_55_6, ?_⟩)
        refine And.intro (hL.k 96 (by decide)) (Or.inl ⟨_, (hL.r 96 1 109 (by decide)), ?_⟩)
        refine Or.inl (And.intro (hL.k 109 (by decide)) (And.intro (hL.v 109 (by decide) h.1) ?_))
        have h := h.2
        refine g_Em h (fun r u h => ?_)
        obtain ⟨y4, rfl, hL, hr_55_6, h⟩ := h
        refine And.intro (fun c => ?_) (fun c => ?_)
        · have h := h.1 c
          refine And.intro (hL.k 55 (by decide)) (Or.inl ⟨_, (hL.r 55 0 56 (by decide)), ?_⟩)
          refine And.intro (hL.k 56 (by decide)) (Or.inl ⟨_, (hL.r 56 1 58 (by decide)), ?_⟩)
          refine Or.inl (And.intro (hL.k 58 (by decide)) (And.intro (hL.v 58 (by decide) h.1) ?_))
          have h := h.2
          refine And.intro (hL.k 55 (by decide)) (Or.inl ⟨_, hr_55_6, ?_⟩)
          refine And.intro (hL.k 96 (by decide)) (Or.inl ⟨_, (hL.r 96 1 109 (by decide)), ?_⟩)
          refine Or.inl (And.intro (hL.k 109 (by decide)) (And.intro (hL.v 109 (by decide) h.1) ?_))
          have h := h.2
          refine And.intro (hL.k 55 (by decide)) (Or.inl ⟨_, hr_55_6, ?_⟩)
          refine And.intro (hL.k 96 (by decide)) (Or.inl ⟨_, (hL.r 96 1 109 (by decide)), ?_⟩)
          refine Or.inl (And.intro (hL.k 109 (by decide)) (And.intro (hL.v 109 (by decide) h.1) ?_))
          have h := h.2
          refine g_Em h (fun r u h => ?_)
          obtain ⟨y6, rfl, hL, h⟩ := h
          refine And.intro (hL.k 55 (by decide)) (Or.inl ⟨_, (hL.r 55 1 62 (by decide)), ?_⟩)
          refine Or.inl (And.intro (hL.k 62 (by decide)) (And.intro (hL.v 62 (by decide) h.1) ?_))
          have h := h.2
          refine And.intro (hL.k 55 (by decide)) ?_
          have h := h _ rfl
          refine And.intro (hL.k 55 (by decide)) ?_
          refine g_Em h (fun r u h => ?_)
          obtain ⟨rfl, hL, h⟩ := h
          exact And.intro rfl (And.intro rfl h)
        · have h := h.2 c
          exact And.intro rfl (And.intro rfl h)
      · have h := h.2 c
        exact And.intro rfl (And.intro rfl h)
theorem x_Folder_dropUnused {cx : gCx} {d : Nat} {ad : Nat → Nat} {a1 : Int32} {t : gSt} {post : Option Value → gSt → Prop} (hL : Lay t ad) (h : vp_in a1 500 ∧ (∀ x1 : Int32, x1 = (t.2.1 (ad 63) (a1 : Int32).toNatClampNeg) → vp_in a1 500 ∧ (g_E cx d i_Folder_standsIn [.ref (ad 55), .int (t.2.1 (ad 59) (a1 : Int32).toNatClampNeg), .int x1] t (fun r u2 => ∃ y3 : Int32, r = some (.int y3) ∧ Lay u2 ad ∧ ((¬ y3 = 0 → post none u2) ∧ (¬ (¬ y3 = 0) → vp_in a1 500 ∧ (g_E cx d i_Folder_isCalm [.ref (ad 55), .int ((u2.2.1 (ad 62) (a1 : Int32).toNatClampNeg) + 1), .int x1] u2 (fun r u4 => ∃ y5 : Int32, r = some (.int y5) ∧ Lay u4 ad ∧ u4.2.2.2 (ad 55) 6 = some (ad 96) ∧ ((¬ y5 = 0 → vp_in a1 500 ∧ ((¬ x1 < 0 ∧ ¬ (u4.2.1 (ad 62) (a1 : Int32).toNatClampNeg) < 0 ∧ ¬ ((u4.2.1 (ad 55) 7) - x1) < 0 ∧ (x1 : Int32).toNatClampNeg + (((u4.2.1 (ad 55) 7) - x1) : Int32).toNatClampNeg ≤ 12000 ∧ ((u4.2.1 (ad 62) (a1 : Int32).toNatClampNeg) : Int32).toNatClampNeg + (((u4.2.1 (ad 55) 7) - x1) : Int32).toNatClampNeg ≤ 12000) ∧ (∀ t6, t6 = g_row u4 (ad 108) (va_cpy (u4.2.1 (ad 108)) (u4.2.1 (ad 108)) (x1 : Int32).toNatClampNeg ((u4.2.1 (ad 62) (a1 : Int32).toNatClampNeg) : Int32).toNatClampNeg (((u4.2.1 (ad 55) 7) - x1) : Int32).toNatClampNeg) → vp_in a1 500 ∧ ((¬ x1 < 0 ∧ ¬ (t6.2.1 (ad 62) (a1 : Int32).toNatClampNeg) < 0 ∧ ¬ ((t6.2.1 (ad 55) 7) - x1) < 0 ∧ (x1 : Int32).toNatClampNeg + (((t6.2.1 (ad 55) 7) - x1) : Int32).toNatClampNeg ≤ 12000 ∧ ((t6.2.1 (ad 62) (a1 : Int32).toNatClampNeg) : Int32).toNatClampNeg + (((t6.2.1 (ad 55) 7) - x1) : Int32).toNatClampNeg ≤ 12000) ∧ (∀ t7, t7 = g_row t6 (ad 109) (va_cpy (t6.2.1 (ad 109)) (t6.2.1 (ad 109)) (x1 : Int32).toNatClampNeg ((t6.2.1 (ad 62) (a1 : Int32).toNatClampNeg) : Int32).toNatClampNeg (((t6.2.1 (ad 55) 7) - x1) : Int32).toNatClampNeg) → vp_in a1 500 ∧ (∀ t8, t8 = g_si t7 (ad 55) 7 (((t7.2.1 (ad 62) (a1 : Int32).toNatClampNeg) + (t7.2.1 (ad 55) 7)) - x1) → post none t8)))))) ∧ (¬ (¬ y5 = 0) → post none u4)))))))))) : g_E cx (d + 1) i_Folder_dropUnused [.ref (ad 55), .int a1] t post := by
  refine g_call mt_Folder_dropUnused rfl (by decide) (Nat.le_of_ble_eq_true rfl) ?_
  refine g_run [] 400 (fun P hP => ?_)
  refine And.intro (hL.k 55 (by decide)) (Or.inl ⟨_, (hL.r 55 2 63 (by decide)), ?_⟩)
  refine Or.inl (And.intro (hL.k 63 (by decide)) (And.intro (hL.v 63 (by decide) h.1) ?_))
  have h := h.2
  have h := h _ rfl
  refine And.intro (hL.k 55 (by decide)) (Or.inl ⟨_, (hL.r 55 0 56 (by decide)), ?_⟩)
  refine And.intro (hL.k 56 (by decide)) (Or.inl ⟨_, (hL.r 56 2 59 (by decide)), ?_⟩)
  refine Or.inl (And.intro (hL.k 59 (by decide)) (And.intro (hL.v 59 (by decide) h.1) ?_))
  have h := h.2
  refine And.intro (hL.k 55 (by decide)) ?_
  refine g_Em h (fun r u h => ?_)
  obtain ⟨y3, rfl, hL, h⟩ := h
  refine And.intro (fun c => ?_) (fun c => ?_)
  · have h := h.1 c
    exact And.intro rfl (And.intro rfl h)
  · have h := h.2 c
    refine And.intro (hL.k 55 (by decide)) (Or.inl ⟨_, (hL.r 55 1 62 (by decide)), ?_⟩)
    refine Or.inl (And.intro (hL.k 62 (by decide)) (And.intro (hL.v 62 (by decide) h.1) ?_))
    have h := h.2
    refine And.intro (hL.k 55 (by decide)) ?_
    refine g_Em h (fun r u h => ?_)
    obtain ⟨y5, rfl, hL, hr_55_6, h⟩ := h
    refine And.intro (fun c => ?_) (fun c => ?_)
    · have h := h.1 c
      refine And.intro (hL.k 55 (by decide)) (Or.inl ⟨_, hr_55_6, ?_⟩)
      refine And.intro (hL.k 96 (by decide)) (Or.inl ⟨_, (hL.r 96 0 108 (by decide)), ?_⟩)
      refine And.intro (hL.k 55 (by decide)) (Or.inl ⟨_, hr_55_6, ?_⟩)
      refine And.intro (hL.k 96 (by decide)) (Or.inl ⟨_, (hL.r 96 0 108 (by decide)), ?_⟩)
      refine And.intro (hL.k 55 (by decide)) (Or.inl ⟨_, (hL.r 55 1 62 (by decide)), ?_⟩)
      refine Or.inl (And.intro (hL.k 62 (by decide)) (And.intro (hL.v 62 (by decide) h.1) ?_))
      have h := h.2
      refine And.intro (hL.k 55 (by decide)) ?_
      refine And.intro (hL.k 108 (by decide)) (And.intro (hL.k 108 (by decide)) (And.intro ⟨h.1.1, h.1.2.1, h.1.2.2.1, (hL.la 108 (by decide) h.1.2.2.2.1), (hL.la 108 (by decide) h.1.2.2.2.2)⟩ ?_))
      have h := h.2 _ rfl
      refine And.intro (hL.k 55 (by decide)) (Or.inl ⟨_, hr_55_6, ?_⟩)
      refine And.intro (hL.k 96 (by decide)) (Or.inl ⟨_, (hL.r 96 1 109 (by decide)), ?_⟩)
      refine And.intro (hL.k 55 (by decide)) (Or.inl ⟨_, hr_55_6, ?_⟩)
      refine And.intro (hL.k 96 (by decide)) (Or.inl ⟨_, (hL.r 96 1 109 (by decide)), ?_⟩)
      refine And.intro (hL.k 55 (by decide)) (Or.inl ⟨_, (hL.r 55 1 62 (by decide)), ?_⟩)
      refine Or.inl (And.intro (hL.k 62 (by decide)) (And.intro (hL.v 62 (by decide) h.1) ?_))
      have h := h.2
      refine And.intro (hL.k 55 (by decide)) ?_
      refine And.intro (hL.k 109 (by decide)) (And.intro (hL.k 109 (by decide)) (And.intro ⟨h.1.1, h.1.2.1, h.1.2.2.1, (hL.la 109 (by decide) h.1.2.2.2.1), (hL.la 109 (by decide) h.1.2.2.2.2)⟩ ?_))
      have h := h.2 _ rfl
      refine And.intro (hL.k 55 (by decide)) (Or.inl ⟨_, (hL.r 55 1 62 (by decide)), ?_⟩)
      refine Or.inl (And.intro (hL.k 62 (by decide)) (And.intro (hL.v 62 (by decide) h.1) ?_))
      have h := h.2
      refine And.intro (hL.k 55 (by decide)) ?_
      refine And.intro (hL.k 55 (by decide)) ?_
      have h := h _ rfl
      exact And.intro rfl (And.intro rfl h)
    · have h := h.2 c
      exact And.intro rfl (And.intro rfl h)
theorem x_Folder_isNumber {cx : gCx} {d : Nat} {ad : Nat → Nat} {a1 : Int32} {t : gSt} {post : Option Value → gSt → Prop} (hL : Lay t ad) (hr_55_6 : t.2.2.2 (ad 55) 6 = some (ad 96)) (h : (¬ (t.2.1 (ad 55) 7) = (a1 + 1) → post (some (.int 0)) t) ∧ (¬ (¬ (t.2.1 (ad 55) 7) = (a1 + 1)) → vp_in a1 12000 ∧ ((¬ (t.2.1 (ad 108) (a1 : Int32).toNatClampNeg) = 1 → post (some (.int 0)) t) ∧ (¬ (¬ (t.2.1 (ad 108) (a1 : Int32).toNatClampNeg) = 1) → post (some (.int 1)) t)))) : g_E cx (d + 1) i_Folder_isNumber [.ref (ad 55), .int a1] t post := by
  refine g_call mt_Folder_isNumber rfl (by decide) (Nat.le_of_ble_eq_true rfl) ?_
  refine g_run [] 400 (fun P hP => ?_)
  refine And.intro (hL.k 55 (by decide)) ?_
  refine And.intro (fun c => ?_) (fun c => ?_)
  · have h := h.1 c
    exact And.intro rfl (And.intro rfl h)
  · have h := h.2 c
    refine And.intro (hL.k 55 (by decide)) (Or.inl ⟨_, hr_55_6, ?_⟩)
    refine And.intro (hL.k 96 (by decide)) (Or.inl ⟨_, (hL.r 96 0 108 (by decide)), ?_⟩)
    refine Or.inl (And.intro (hL.k 108 (by decide)) (And.intro (hL.v 108 (by decide) h.1) ?_))
    have h := h.2
    refine And.intro (fun c => ?_) (fun c => ?_)
    · have h := h.1 c
      exact And.intro rfl (And.intro rfl h)
    · have h := h.2 c
      exact And.intro rfl (And.intro rfl h)
theorem x_Folder_isCalm {cx : gCx} {d : Nat} {ad : Nat → Nat} {a1 a2 : Int32} {t : gSt} {post : Option Value → gSt → Prop} (hL : Lay t ad) (h : g_W cx (g_E cx d) mt_Folder_isCalm post (2, [some (.ref (ad 55)), some (.int a1), some (.int a2), some (.int a1), none], [], t, 0, 0)) : g_E cx (d + 1) i_Folder_isCalm [.ref (ad 55), .int a1, .int a2] t post := by
  refine g_call mt_Folder_isCalm rfl (by decide) (Nat.le_of_ble_eq_true rfl) ?_
  refine g_run [2] 400 (fun P hP => ?_)
  exact hP _ h
theorem x_Folder_isCalm_2 {cx : gCx} {d : Nat} {ad : Nat → Nat} {l1 l2 l3 : Int32} {o4 : Option Value} {t : gSt} {post : Option Value → gSt → Prop} (hL : Lay t ad) (hr_55_6 : t.2.2.2 (ad 55) 6 = some (ad 96)) (h : (l2 ≤ l3 → post (some (.int 1)) t) ∧ (¬ (l2 ≤ l3) → vp_in l3 12000 ∧ (∀ x1 : Int32, x1 = (t.2.1 (ad 108) (l3 : Int32).toNatClampNeg) → (x1 = 15 → post (some (.int 0)) t) ∧ (¬ (x1 = 15) → (x1 = 11 → post (some (.int 0)) t) ∧ (¬ (x1 = 11) → (x1 = 6 → post (some (.int 0)) t) ∧ (¬ (x1 = 6) → (¬ x1 = 7 → g_W cx (g_E cx d) mt_Folder_isCalm post (2, [some (.ref (ad 55)), some (.int l1), some (.int l2), some (.int (l3 + 1)), some (.int x1)], [], t, 0, 0)) ∧ (¬ (¬ x1 = 7) → post (some (.int 0)) t))))))) : g_W cx (g_E cx d) mt_Folder_isCalm post (2, [some (.ref (ad 55)), some (.int l1), some (.int l2), some (.int l3), o4], [], t, 0, 0) := by
  refine g_run [2] 400 (fun P hP => ?_)
  refine And.intro (fun c => ?_) (fun c => ?_)
  · have h := h.1 c
    exact And.intro rfl (And.intro rfl h)
  · have h := h.2 c
    refine And.intro (hL.k 55 (by decide)) (Or.inl ⟨_, hr_55_6, ?_⟩)
    refine And.intro (hL.k 96 (by decide)) (Or.inl ⟨_, (hL.r 96 0 108 (by decide)), ?_⟩)
    refine Or.inl (And.intro (hL.k 108 (by decide)) (And.intro (hL.v 108 (by decide) h.1) ?_))
    have h := h.2
    have h := h _ rfl
    refine And.intro (fun c => ?_) (fun c => ?_)
    · have h := h.1 c
      exact And.intro rfl (And.intro rfl h)
    · have h := h.2 c
      refine And.intro (fun c => ?_) (fun c => ?_)
      · have h := h.1 c
        exact And.intro rfl (And.intro rfl h)
      · have h := h.2 c
        refine And.intro (fun c => ?_) (fun c => ?_)
        · have h := h.1 c
          exact And.intro rfl (And.intro rfl h)
        · have h := h.2 c
          refine And.intro (fun c => ?_) (fun c => ?_)
          · have h := h.1 c
            exact hP _ h
          · have h := h.2 c
            exact And.intro rfl (And.intro rfl h)
theorem x_Folder_standsIn {cx : gCx} {d : Nat} {ad : Nat → Nat} {a1 a2 : Int32} {t : gSt} {post : Option Value → gSt → Prop} (hL : Lay t ad) (h : g_W cx (g_E cx d) mt_Folder_standsIn post (2, [some (.ref (ad 55)), some (.int a1), some (.int a2), some (.int a2)], [], t, 0, 0)) : g_E cx (d + 1) i_Folder_standsIn [.ref (ad 55), .int a1, .int a2] t post := by
  refine g_call mt_Folder_standsIn rfl (by decide) (Nat.le_of_ble_eq_true rfl) ?_
  refine g_run [2] 400 (fun P hP => ?_)
  exact hP _ h
theorem x_Folder_standsIn_2 {cx : gCx} {d : Nat} {ad : Nat → Nat} {l1 l2 l3 : Int32} {t : gSt} {post : Option Value → gSt → Prop} (hL : Lay t ad) (hr_55_6 : t.2.2.2 (ad 55) 6 = some (ad 96)) (h : ((t.2.1 (ad 55) 7) ≤ l3 → post (some (.int 0)) t) ∧ (¬ ((t.2.1 (ad 55) 7) ≤ l3) → vp_in l3 12000 ∧ ((¬ (t.2.1 (ad 108) (l3 : Int32).toNatClampNeg) = 2 → g_W cx (g_E cx d) mt_Folder_standsIn post (2, [some (.ref (ad 55)), some (.int l1), some (.int l2), some (.int (l3 + 1))], [], t, 0, 0)) ∧ (¬ (¬ (t.2.1 (ad 108) (l3 : Int32).toNatClampNeg) = 2) → vp_in l3 12000 ∧ ((¬ (t.2.1 (ad 109) (l3 : Int32).toNatClampNeg) = l1 → g_W cx (g_E cx d) mt_Folder_standsIn post (2, [some (.ref (ad 55)), some (.int l1), some (.int l2), some (.int (l3 + 1))], [], t, 0, 0)) ∧ (¬ (¬ (t.2.1 (ad 109) (l3 : Int32).toNatClampNeg) = l1) → post (some (.int 1)) t)))))) : g_W cx (g_E cx d) mt_Folder_standsIn post (2, [some (.ref (ad 55)), some (.int l1), some (.int l2), some (.int l3)], [], t, 0, 0) := by
  refine g_run [2] 400 (fun P hP => ?_)
  refine And.intro (hL.k 55 (by decide)) ?_
  refine And.intro (fun c => ?_) (fun c => ?_)
  · have h := h.1 c
    exact And.intro rfl (And.intro rfl h)
  · have h := h.2 c
    refine And.intro (hL.k 55 (by decide)) (Or.inl ⟨_, hr_55_6, ?_⟩)
    refine And.intro (hL.k 96 (by decide)) (Or.inl ⟨_, (hL.r 96 0 108 (by decide)), ?_⟩)
    refine Or.inl (And.intro (hL.k 108 (by decide)) (And.intro (hL.v 108 (by decide) h.1) ?_))
    have h := h.2
    refine And.intro (fun c => ?_) (fun c => ?_)
    · have h := h.1 c
      exact hP _ h
    · have h := h.2 c
      refine And.intro (hL.k 55 (by decide)) (Or.inl ⟨_, hr_55_6, ?_⟩)
      refine And.intro (hL.k 96 (by decide)) (Or.inl ⟨_, (hL.r 96 1 109 (by decide)), ?_⟩)
      refine Or.inl (And.intro (hL.k 109 (by decide)) (And.intro (hL.v 109 (by decide) h.1) ?_))
      have h := h.2
      refine And.intro (fun c => ?_) (fun c => ?_)
      · have h := h.1 c
        exact hP _ h
      · have h := h.2 c
        exact And.intro rfl (And.intro rfl h)
theorem x_Folder_emit {cx : gCx} {d : Nat} {ad : Nat → Nat} {a1 a2 : Int32} {t : gSt} {post : Option Value → gSt → Prop} (hL : Lay t ad) (hr_55_6 : t.2.2.2 (ad 55) 6 = some (ad 96)) (h : ((Int32.ofNat (t.1.2.2 (ad 108))) ≤ (t.2.1 (ad 55) 7) → post none t) ∧ (¬ ((Int32.ofNat (t.1.2.2 (ad 108))) ≤ (t.2.1 (ad 55) 7)) → vp_in (t.2.1 (ad 55) 7) 12000 ∧ (∀ t1, t1 = g_si t (ad 108) ((t.2.1 (ad 55) 7) : Int32).toNatClampNeg a1 → vp_in (t1.2.1 (ad 55) 7) 12000 ∧ (∀ t2, t2 = g_si t1 (ad 109) ((t1.2.1 (ad 55) 7) : Int32).toNatClampNeg a2 → ∀ t3, t3 = g_si t2 (ad 55) 7 ((t2.2.1 (ad 55) 7) + 1) → post none t3)))) : g_E cx (d + 1) i_Folder_emit [.ref (ad 55), .int a1, .int a2] t post := by
  refine g_call mt_Folder_emit rfl (by decide) (Nat.le_of_ble_eq_true rfl) ?_
  refine g_run [] 400 (fun P hP => ?_)
  refine And.intro (hL.k 55 (by decide)) ?_
  refine And.intro (hL.k 55 (by decide)) (Or.inl ⟨_, hr_55_6, ?_⟩)
  refine And.intro (hL.k 96 (by decide)) (Or.inl ⟨_, (hL.r 96 0 108 (by decide)), ?_⟩)
  refine Or.inl (And.intro (hL.k 108 (by decide)).1 (And.intro (g_karr (hL.k 108 (by decide)) (by decide) (by decide)) ?_))
  refine And.intro (fun c => ?_) (fun c => ?_)
  · have h := h.1 c
    exact And.intro rfl (And.intro rfl h)
  · have h := h.2 c
    refine And.intro (hL.k 55 (by decide)) (Or.inl ⟨_, hr_55_6, ?_⟩)
    refine And.intro (hL.k 96 (by decide)) (Or.inl ⟨_, (hL.r 96 0 108 (by decide)), ?_⟩)
    refine And.intro (hL.k 55 (by decide)) ?_
    refine And.intro (hL.k 108 (by decide)) (And.intro (hL.v 108 (by decide) h.1) ?_)
    have h := h.2 _ rfl
    refine And.intro (hL.k 55 (by decide)) (Or.inl ⟨_, hr_55_6, ?_⟩)
    refine And.intro (hL.k 96 (by decide)) (Or.inl ⟨_, (hL.r 96 1 109 (by decide)), ?_⟩)
    refine And.intro (hL.k 55 (by decide)) ?_
    refine And.intro (hL.k 109 (by decide)) (And.intro (hL.v 109 (by decide) h.1) ?_)
    have h := h.2 _ rfl
    refine And.intro (hL.k 55 (by decide)) ?_
    refine And.intro (hL.k 55 (by decide)) ?_
    have h := h _ rfl
    exact And.intro rfl (And.intro rfl h)
