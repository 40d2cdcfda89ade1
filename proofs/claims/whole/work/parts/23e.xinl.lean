/-! PRINTED by wip/gen/xparts.py: symbolic execution, method by method -/
theorem x_Inliner_inlineAll {cx : gCx} {d : Nat} {ad : Nat → Nat} {p : Nat} (hp : isP p) {a4 : Int32} {t : gSt} {post : Option Value → gSt → Prop} (hL : Lay t ad) (h : ∀ t1, t1 = g_sr t (ad 47) 2 (some (ad p)) → ∀ t3, t3 = g_sr t1 (ad 47) 3 (some (ad 96)) → ∀ t5, t5 = g_sr t3 (ad 47) 4 (some (ad 11)) → ∀ t7, t7 = g_si t5 (ad 47) 5 a4 → ∀ t8, t8 = g_si t7 (ad 96) 15 (t7.2.1 (ad p) 15) → g_W cx (g_E cx d) mt_Inliner_inlineAll post (35, [some (.ref (ad 47)), some (.ref (ad p)), some (.ref (ad 96)), some (.ref (ad 11)), some (.int a4), some (.int 0), some (.int 0)], [], t8, 0, 0)) : g_E cx (d + 1) i_Inliner_inlineAll [.ref (ad 47), .ref (ad p), .ref (ad 96), .ref (ad 11), .int a4] t post := by
  refine g_call mt_Inliner_inlineAll rfl (by decide) (Nat.le_of_ble_eq_true rfl) ?_
  refine g_run [35] 400 (fun P hP => ?_)
  refine And.intro (hL.k 47 (by decide)) ?_
  have h := h _ rfl
  have hL := hL.sr 47 2 (some (ad p)) (by decide +kernel)
  refine And.intro (hL.k 47 (by decide)) ?_
  have h := h _ rfl
  have hL := hL.sr 47 3 (some (ad 96)) (by decide +kernel)
  refine And.intro (hL.k 47 (by decide)) ?_
  have h := h _ rfl
  have hL := hL.sr 47 4 (some (ad 11)) (by decide +kernel)
  refine And.intro (hL.k 47 (by decide)) ?_
  have h := h _ rfl
  refine And.intro (hL.pk hp 0 (by decide)) ?_
  refine And.intro (hL.k 96 (by decide)) ?_
  have h := h _ rfl
  exact hP _ h
theorem x_Inliner_inlineAll_35 {cx : gCx} {d : Nat} {ad : Nat → Nat} {p : Nat} (hp : isP p) {l4 l5 l6 : Int32} {t : gSt} {post : Option Value → gSt → Prop} (hL : Lay t ad) (h : ((t.2.1 (ad p) 15) ≤ l6 → post (some (.int l5)) t) ∧ (¬ ((t.2.1 (ad p) 15) ≤ l6) → vp_in l6 24 ∧ (g_E cx d i_Inliner_inlineIn [.ref (ad 47), .int (t.2.1 (ad 18) (l6 : Int32).toNatClampNeg)] t (fun r u1 => r = none ∧ Lay u1 ad ∧ (∀ x3 : Int32, x3 = (l5 + (u1.2.1 (ad 47) 8)) → g_W cx (g_E cx d) mt_Inliner_inlineAll post (35, [some (.ref (ad 47)), some (.ref (ad p)), some (.ref (ad 96)), some (.ref (ad 11)), some (.int l4), some (.int x3), some (.int (l6 + 1))], [], u1, 0, 0)))))) : g_W cx (g_E cx d) mt_Inliner_inlineAll post (35, [some (.ref (ad 47)), some (.ref (ad p)), some (.ref (ad 96)), some (.ref (ad 11)), some (.int l4), some (.int l5), some (.int l6)], [], t, 0, 0) := by
  refine g_run [35] 400 (fun P hP => ?_)
  refine And.intro (hL.pk hp 0 (by decide)) ?_
  refine And.intro (fun c => ?_) (fun c => ?_)
  · have h := h.1 c
    exact And.intro rfl (And.intro rfl h)
  · have h := h.2 c
    refine And.intro (hL.k 11 (by decide)) (Or.inl ⟨_, (hL.r 11 1 18 (by decide)), ?_⟩)
    refine Or.inl (And.intro (hL.k 18 (by decide)) (And.intro (hL.v 18 (by decide) h.1) ?_))
    have h := h.2
    refine And.intro (hL.k 47 (by decide)) ?_
    refine g_Em h (fun r u h => ?_)
    obtain ⟨rfl, hL, h⟩ := h
    refine And.intro (hL.k 47 (by decide)) ?_
    have h := h _ rfl
    exact hP _ h
theorem x_Inliner_inlineIn {cx : gCx} {d : Nat} {ad : Nat → Nat} {p : Nat} (hp : isP p) {a1 : Int32} {t : gSt} {post : Option Value → gSt → Prop} (hL : Lay t ad) (hr_47_2 : t.2.2.2 (ad 47) 2 = some (ad p)) (h : vp_in a1 24 ∧ (∀ t1, t1 = g_si t (ad 47) 6 (t.2.1 (ad (p + 5)) (a1 : Int32).toNatClampNeg) → vp_in a1 24 ∧ (∀ t2, t2 = g_si t1 (ad 47) 7 (t1.2.1 (ad (p + 3)) (a1 : Int32).toNatClampNeg) → ∀ t3, t3 = g_si t2 (ad 47) 8 0 → g_E cx d i_Inliner_chooseCalls [.ref (ad 47), .int a1] t3 (fun r u4 => r = none ∧ Lay u4 ad ∧ u4.2.2.2 (ad 47) 3 = some (ad 96) ∧ (vp_in a1 24 ∧ (∀ t6, t6 = g_si u4 (ad 100) (a1 : Int32).toNatClampNeg (a1 * 500) → vp_in a1 24 ∧ (∀ t7, t7 = g_si t6 (ad 47) 9 (t6.2.1 (ad 100) (a1 : Int32).toNatClampNeg) → g_E cx d i_Inliner_copyWithChosen [.ref (ad 47), .int a1] t7 (fun r u8 => r = none ∧ Lay u8 ad ∧ u8.2.2.2 (ad 47) 2 = some (ad p) ∧ u8.2.2.2 (ad 47) 3 = some (ad 96) ∧ (vp_in a1 24 ∧ (vp_in a1 24 ∧ (∀ t10, t10 = g_sj u8 (ad 97) (a1 : Int32).toNatClampNeg (u8.2.2.1 (ad (p + 1)) (a1 : Int32).toNatClampNeg) → vp_in a1 24 ∧ (vp_in a1 24 ∧ (∀ t11, t11 = g_si t10 (ad 98) (a1 : Int32).toNatClampNeg (t10.2.1 (ad (p + 2)) (a1 : Int32).toNatClampNeg) → vp_in a1 24 ∧ (∀ t12, t12 = g_si t11 (ad 99) (a1 : Int32).toNatClampNeg (t11.2.1 (ad 47) 7) → vp_in a1 24 ∧ (vp_in a1 24 ∧ (∀ t13, t13 = g_si t12 (ad 101) (a1 : Int32).toNatClampNeg ((t12.2.1 (ad 47) 9) - (t12.2.1 (ad 100) (a1 : Int32).toNatClampNeg)) → vp_in a1 24 ∧ (∀ t14, t14 = g_si t13 (ad 102) (a1 : Int32).toNatClampNeg (t13.2.1 (ad 47) 8) → post none t14))))))))))))))))) : g_E cx (d + 1) i_Inliner_inlineIn [.ref (ad 47), .int a1] t post := by
  refine g_call mt_Inliner_inlineIn rfl (by decide) (Nat.le_of_ble_eq_true rfl) ?_
  refine g_run [] 400 (fun P hP => ?_)
  refine And.intro (hL.k 47 (by decide)) (Or.inl ⟨_, hr_47_2, ?_⟩)
  refine And.intro (hL.pk hp 0 (by decide)) (Or.inl ⟨_, (hL.pr hp 6 (by decide)), ?_⟩)
  refine Or.inl (And.intro (hL.pk hp 5 (by decide)) (And.intro (hL.pv hp 5 (by decide) (by decide) h.1) ?_))
  have h := h.2
  refine And.intro (hL.k 47 (by decide)) ?_
  have h := h _ rfl
  refine And.intro (hL.k 47 (by decide)) (Or.inl ⟨_, hr_47_2, ?_⟩)
  refine And.intro (hL.pk hp 0 (by decide)) (Or.inl ⟨_, (hL.pr hp 4 (by decide)), ?_⟩)
  refine Or.inl (And.intro (hL.pk hp 3 (by decide)) (And.intro (hL.pv hp 3 (by decide) (by decide) h.1) ?_))
  have h := h.2
  refine And.intro (hL.k 47 (by decide)) ?_
  have h := h _ rfl
  refine And.intro (hL.k 47 (by decide)) ?_
  have h := h _ rfl
  refine And.intro (hL.k 47 (by decide)) ?_
  refine g_Em h (fun r u h => ?_)
  obtain ⟨rfl, hL, hr_47_3, h⟩ := h
  refine And.intro (hL.k 47 (by decide)) (Or.inl ⟨_, hr_47_3, ?_⟩)
  refine And.intro (hL.k 96 (by decide)) (Or.inl ⟨_, (hL.r 96 5 100 (by decide)), ?_⟩)
  refine And.intro (hL.k 100 (by decide)) (And.intro (hL.v 100 (by decide) h.1) ?_)
  have h := h.2 _ rfl
  refine And.intro (hL.k 47 (by decide)) (Or.inl ⟨_, hr_47_3, ?_⟩)
  refine And.intro (hL.k 96 (by decide)) (Or.inl ⟨_, (hL.r 96 5 100 (by decide)), ?_⟩)
  refine Or.inl (And.intro (hL.k 100 (by decide)) (And.intro (hL.v 100 (by decide) h.1) ?_))
  have h := h.2
  refine And.intro (hL.k 47 (by decide)) ?_
  have h := h _ rfl
  refine And.intro (hL.k 47 (by decide)) ?_
  refine g_Em h (fun r u h => ?_)
  obtain ⟨rfl, hL, hr_47_2, hr_47_3, h⟩ := h
  refine And.intro (hL.k 47 (by decide)) (Or.inl ⟨_, hr_47_3, ?_⟩)
  refine And.intro (hL.k 96 (by decide)) (Or.inl ⟨_, (hL.r 96 2 97 (by decide)), ?_⟩)
  refine And.intro (hL.k 47 (by decide)) (Or.inl ⟨_, hr_47_2, ?_⟩)
  refine And.intro (hL.pk hp 0 (by decide)) (Or.inl ⟨_, (hL.pr hp 2 (by decide)), ?_⟩)
  refine Or.inl (And.intro (hL.pk hp 1 (by decide)) (And.intro (hL.pv hp 1 (by decide) (by decide) h.1) ?_))
  have h := h.2
  refine And.intro (hL.k 97 (by decide)) (And.intro (hL.v 97 (by decide) h.1) ?_)
  have h := h.2 _ rfl
  refine And.intro (hL.k 47 (by decide)) (Or.inl ⟨_, hr_47_3, ?_⟩)
  refine And.intro (hL.k 96 (by decide)) (Or.inl ⟨_, (hL.r 96 3 98 (by decide)), ?_⟩)
  refine And.intro (hL.k 47 (by decide)) (Or.inl ⟨_, hr_47_2, ?_⟩)
  refine And.intro (hL.pk hp 0 (by decide)) (Or.inl ⟨_, (hL.pr hp 3 (by decide)), ?_⟩)
  refine Or.inl (And.intro (hL.pk hp 2 (by decide)) (And.intro (hL.pv hp 2 (by decide) (by decide) h.1) ?_))
  have h := h.2
  refine And.intro (hL.k 98 (by decide)) (And.intro (hL.v 98 (by decide) h.1) ?_)
  have h := h.2 _ rfl
  refine And.intro (hL.k 47 (by decide)) (Or.inl ⟨_, hr_47_3, ?_⟩)
  refine And.intro (hL.k 96 (by decide)) (Or.inl ⟨_, (hL.r 96 4 99 (by decide)), ?_⟩)
  refine And.intro (hL.k 47 (by decide)) ?_
  refine And.intro (hL.k 99 (by decide)) (And.intro (hL.v 99 (by decide) h.1) ?_)
  have h := h.2 _ rfl
  refine And.intro (hL.k 47 (by decide)) (Or.inl ⟨_, hr_47_3, ?_⟩)
  refine And.intro (hL.k 96 (by decide)) (Or.inl ⟨_, (hL.r 96 6 101 (by decide)), ?_⟩)
  refine And.intro (hL.k 47 (by decide)) ?_
  refine And.intro (hL.k 47 (by decide)) (Or.inl ⟨_, hr_47_3, ?_⟩)
  refine And.intro (hL.k 96 (by decide)) (Or.inl ⟨_, (hL.r 96 5 100 (by decide)), ?_⟩)
  refine Or.inl (And.intro (hL.k 100 (by decide)) (And.intro (hL.v 100 (by decide) h.1) ?_))
  have h := h.2
  refine And.intro (hL.k 101 (by decide)) (And.intro (hL.v 101 (by decide) h.1) ?_)
  have h := h.2 _ rfl
  refine And.intro (hL.k 47 (by decide)) (Or.inl ⟨_, hr_47_3, ?_⟩)
  refine And.intro (hL.k 96 (by decide)) (Or.inl ⟨_, (hL.r 96 7 102 (by decide)), ?_⟩)
  refine And.intro (hL.k 47 (by decide)) ?_
  refine And.intro (hL.k 102 (by decide)) (And.intro (hL.v 102 (by decide) h.1) ?_)
  have h := h.2 _ rfl
  exact And.intro rfl (And.intro rfl h)
theorem x_Inliner_chooseCalls {cx : gCx} {d : Nat} {ad : Nat → Nat} {p : Nat} (hp : isP p) {a1 : Int32} {t : gSt} {post : Option Value → gSt → Prop} (hL : Lay t ad) (hr_47_2 : t.2.2.2 (ad 47) 2 = some (ad p)) (h : g_E cx d i_Walk_begin [.ref (ad 48), .ref (ad p), .int a1] t (fun r u1 => r = none ∧ Lay u1 ad ∧ (g_W cx (g_E cx d) mt_Inliner_chooseCalls post (14, [some (.ref (ad 47)), some (.int a1), some (.int 0), none, none], [], u1, 0, 0)))) : g_E cx (d + 1) i_Inliner_chooseCalls [.ref (ad 47), .int a1] t post := by
  refine g_call mt_Inliner_chooseCalls rfl (by decide) (Nat.le_of_ble_eq_true rfl) ?_
  refine g_run [14] 400 (fun P hP => ?_)
  refine And.intro (hL.k 47 (by decide)) (Or.inl ⟨_, (hL.r 47 0 48 (by decide)), ?_⟩)
  refine And.intro (hL.k 47 (by decide)) (Or.inl ⟨_, hr_47_2, ?_⟩)
  refine And.intro (hL.k 48 (by decide)) ?_
  refine g_Em h (fun r u h => ?_)
  obtain ⟨rfl, hL, h⟩ := h
  exact hP _ h
theorem x_Inliner_chooseCalls_14 {cx : gCx} {d : Nat} {ad : Nat → Nat} {p : Nat} (hp : isP p) {l1 l2 : Int32} {o3 o4 : Option Value} {t : gSt} {post : Option Value → gSt → Prop} (hL : Lay t ad) (h : (1500 ≤ l2 → post none t) ∧ (¬ (1500 ≤ l2) → g_E cx d i_Walk_advance [.ref (ad 48)] t (fun r u1 => ∃ y2 : Int32, r = some (.int y2) ∧ Lay u1 ad ∧ u1.2.2.2 (ad 47) 2 = some (ad p) ∧ ((y2 = 0 → post none u1) ∧ (¬ (y2 = 0) → (¬ (u1.2.1 (ad 48) 5) = 3 → g_W cx (g_E cx d) mt_Inliner_chooseCalls post (14, [some (.ref (ad 47)), some (.int l1), some (.int (l2 + 1)), o3, o4], [], u1, 0, 0)) ∧ (¬ (¬ (u1.2.1 (ad 48) 5) = 3) → ∀ x3 : Int32, x3 = (u1.2.1 (ad 48) 6) → vp_in x3 500 ∧ ((¬ (u1.2.1 (ad 50) (x3 : Int32).toNatClampNeg) = 15 → vp_in x3 500 ∧ (vp_in l1 24 ∧ (vp_in ((u1.2.1 (ad 49) (x3 : Int32).toNatClampNeg) - (u1.2.1 (ad (p + 4)) (l1 : Int32).toNatClampNeg)) 500 ∧ (∀ t4, t4 = g_si u1 (ad 54) (((u1.2.1 (ad 49) (x3 : Int32).toNatClampNeg) - (u1.2.1 (ad (p + 4)) (l1 : Int32).toNatClampNeg)) : Int32).toNatClampNeg (-1) → g_W cx (g_E cx d) mt_Inliner_chooseCalls post (14, [some (.ref (ad 47)), some (.int l1), some (.int (l2 + 1)), some (.int x3), some (.int 0)], [], t4, 0, 0))))) ∧ (¬ (¬ (u1.2.1 (ad 50) (x3 : Int32).toNatClampNeg) = 15) → vp_in x3 500 ∧ (vp_in l1 24 ∧ (vp_in x3 500 ∧ (g_E cx d i_Inliner_choose [.ref (ad 47), .int (u1.2.1 (ad 51) (x3 : Int32).toNatClampNeg)] u1 (fun r u5 => ∃ y6 : Int32, r = some (.int y6) ∧ Lay u5 ad ∧ (vp_in ((u1.2.1 (ad 49) (x3 : Int32).toNatClampNeg) - (u1.2.1 (ad (p + 4)) (l1 : Int32).toNatClampNeg)) 500 ∧ (∀ t7, t7 = g_si u5 (ad 54) (((u1.2.1 (ad 49) (x3 : Int32).toNatClampNeg) - (u1.2.1 (ad (p + 4)) (l1 : Int32).toNatClampNeg)) : Int32).toNatClampNeg y6 → g_W cx (g_E cx d) mt_Inliner_chooseCalls post (14, [some (.ref (ad 47)), some (.int l1), some (.int (l2 + 1)), some (.int x3), some (.int 1)], [], t7, 0, 0))))))))))))))) : g_W cx (g_E cx d) mt_Inliner_chooseCalls post (14, [some (.ref (ad 47)), some (.int l1), some (.int l2), o3, o4], [], t, 0, 0) := by
  refine g_run [14] 400 (fun P hP => ?_)
  refine And.intro (fun c => ?_) (fun c => ?_)
  · have h := h.1 c
    exact And.intro rfl (And.intro rfl h)
  · have h := h.2 c
    refine And.intro (hL.k 47 (by decide)) (Or.inl ⟨_, (hL.r 47 0 48 (by decide)), ?_⟩)
    refine And.intro (hL.k 48 (by decide)) ?_
    refine g_Em h (fun r u h => ?_)
    obtain ⟨y2, rfl, hL, hr_47_2, h⟩ := h
    refine And.intro (fun c => ?_) (fun c => ?_)
    · have h := h.1 c
      exact And.intro rfl (And.intro rfl h)
    · have h := h.2 c
      refine And.intro (hL.k 47 (by decide)) (Or.inl ⟨_, (hL.r 47 0 48 (by decide)), ?_⟩)
      refine And.intro (hL.k 48 (by decide)) ?_
      refine And.intro (fun c => ?_) (fun c => ?_)
      · have h := h.1 c
        exact hP _ h
      · have h := h.2 c
        refine And.intro (hL.k 47 (by decide)) (Or.inl ⟨_, (hL.r 47 0 48 (by decide)), ?_⟩)
        refine And.intro (hL.k 48 (by decide)) ?_
        have h := h _ rfl
        refine And.intro (hL.k 47 (by decide)) (Or.inl ⟨_, (hL.r 47 0 48 (by decide)), ?_⟩)
        refine And.intro (hL.k 48 (by decide)) (Or.inl ⟨_, (hL.r 48 1 50 (by decide)), ?_⟩)
        refine Or.inl (And.intro (hL.k 50 (by decide)) (And.intro (hL.v 50 (by decide) h.1) ?_))
        have h := h.2
        refine And.intro (fun c => ?_) (fun c => ?_)
        · have h := h.1 c
          refine And.intro (hL.k 47 (by decide)) (Or.inl ⟨_, (hL.r 47 1 54 (by decide)), ?_⟩)
          refine And.intro (hL.k 47 (by decide)) (Or.inl ⟨_, (hL.r 47 0 48 (by decide)), ?_⟩)
          refine And.intro (hL.k 48 (by decide)) (Or.inl ⟨_, (hL.r 48 0 49 (by decide)), ?_⟩)
          refine Or.inl (And.intro (hL.k 49 (by decide)) (And.intro (hL.v 49 (by decide) h.1) ?_))
          have h := h.2
          refine And.intro (hL.k 47 (by decide)) (Or.inl ⟨_, hr_47_2, ?_⟩)
          refine And.intro (hL.pk hp 0 (by decide)) (Or.inl ⟨_, (hL.pr hp 5 (by decide)), ?_⟩)
          refine Or.inl (And.intro (hL.pk hp 4 (by decide)) (And.intro (hL.pv hp 4 (by decide) (by decide) h.1) ?_))
          have h := h.2
          refine And.intro (fun c => ?_) (fun c => (c (show (0 : Int32) = (0 : Int32) by decide)).elim)
          refine And.intro (hL.k 54 (by decide)) (And.intro (hL.v 54 (by decide) h.1) ?_)
          have h := h.2 _ rfl
          exact hP _ h
        · have h := h.2 c
          refine And.intro (hL.k 47 (by decide)) (Or.inl ⟨_, (hL.r 47 1 54 (by decide)), ?_⟩)
          refine And.intro (hL.k 47 (by decide)) (Or.inl ⟨_, (hL.r 47 0 48 (by decide)), ?_⟩)
          refine And.intro (hL.k 48 (by decide)) (Or.inl ⟨_, (hL.r 48 0 49 (by decide)), ?_⟩)
          refine Or.inl (And.intro (hL.k 49 (by decide)) (And.intro (hL.v 49 (by decide) h.1) ?_))
          have h := h.2
          refine And.intro (hL.k 47 (by decide)) (Or.inl ⟨_, hr_47_2, ?_⟩)
          refine And.intro (hL.pk hp 0 (by decide)) (Or.inl ⟨_, (hL.pr hp 5 (by decide)), ?_⟩)
          refine Or.inl (And.intro (hL.pk hp 4 (by decide)) (And.intro (hL.pv hp 4 (by decide) (by decide) h.1) ?_))
          have h := h.2
          refine And.intro (fun c => absurd (show (1 : Int32) = (0 : Int32) from c) (by decide)) (fun c => ?_)
          refine And.intro (hL.k 47 (by decide)) (Or.inl ⟨_, (hL.r 47 0 48 (by decide)), ?_⟩)
          refine And.intro (hL.k 48 (by decide)) (Or.inl ⟨_, (hL.r 48 2 51 (by decide)), ?_⟩)
          refine Or.inl (And.intro (hL.k 51 (by decide)) (And.intro (hL.v 51 (by decide) h.1) ?_))
          have h := h.2
          refine And.intro (hL.k 47 (by decide)) ?_
          refine g_Em h (fun r u h => ?_)
          obtain ⟨y6, rfl, hL, h⟩ := h
          refine And.intro (hL.k 54 (by decide)) (And.intro (hL.v 54 (by decide) h.1) ?_)
          have h := h.2 _ rfl
          exact hP _ h
theorem x_Inliner_copyWithChosen {cx : gCx} {d : Nat} {ad : Nat → Nat} {p : Nat} (hp : isP p) {a1 : Int32} {t : gSt} {post : Option Value → gSt → Prop} (hL : Lay t ad) (hr_47_2 : t.2.2.2 (ad 47) 2 = some (ad p)) (h : g_E cx d i_Walk_begin [.ref (ad 48), .ref (ad p), .int a1] t (fun r u1 => r = none ∧ Lay u1 ad ∧ (g_W cx (g_E cx d) mt_Inliner_copyWithChosen post (14, [some (.ref (ad 47)), some (.int a1), some (.int 0), none, none, none], [], u1, 0, 0)))) : g_E cx (d + 1) i_Inliner_copyWithChosen [.ref (ad 47), .int a1] t post := by
  refine g_call mt_Inliner_copyWithChosen rfl (by decide) (Nat.le_of_ble_eq_true rfl) ?_
  refine g_run [14] 400 (fun P hP => ?_)
  refine And.intro (hL.k 47 (by decide)) (Or.inl ⟨_, (hL.r 47 0 48 (by decide)), ?_⟩)
  refine And.intro (hL.k 47 (by decide)) (Or.inl ⟨_, hr_47_2, ?_⟩)
  refine And.intro (hL.k 48 (by decide)) ?_
  refine g_Em h (fun r u h => ?_)
  obtain ⟨rfl, hL, h⟩ := h
  exact hP _ h
theorem x_Inliner_copyWithChosen_14 {cx : gCx} {d : Nat} {ad : Nat → Nat} {p : Nat} (hp : isP p) {l1 l2 : Int32} {o3 o4 o5 : Option Value} {t : gSt} {post : Option Value → gSt → Prop} (hL : Lay t ad) (h : (1500 ≤ l2 → post none t) ∧ (¬ (1500 ≤ l2) → g_E cx d i_Walk_advance [.ref (ad 48)] t (fun r u1 => ∃ y2 : Int32, r = some (.int y2) ∧ Lay u1 ad ∧ u1.2.2.2 (ad 47) 2 = some (ad p) ∧ ((y2 = 0 → post none u1) ∧ (¬ (y2 = 0) → vp_in (u1.2.1 (ad 48) 6) 500 ∧ (∀ x3 : Int32, x3 = (u1.2.1 (ad 50) ((u1.2.1 (ad 48) 6) : Int32).toNatClampNeg) → vp_in (u1.2.1 (ad 48) 6) 500 ∧ (∀ x4 : Int32, x4 = (u1.2.1 (ad 51) ((u1.2.1 (ad 48) 6) : Int32).toNatClampNeg) → vp_in (u1.2.1 (ad 48) 6) 500 ∧ (vp_in l1 24 ∧ (vp_in ((u1.2.1 (ad 49) ((u1.2.1 (ad 48) 6) : Int32).toNatClampNeg) - (u1.2.1 (ad (p + 4)) (l1 : Int32).toNatClampNeg)) 500 ∧ (∀ x5 : Int32, x5 = (u1.2.1 (ad 54) (((u1.2.1 (ad 49) ((u1.2.1 (ad 48) 6) : Int32).toNatClampNeg) - (u1.2.1 (ad (p + 4)) (l1 : Int32).toNatClampNeg)) : Int32).toNatClampNeg) → (x5 = (-1) → (¬ (u1.2.1 (ad 48) 5) = 1 → g_W cx (g_E cx d) mt_Inliner_copyWithChosen post (14, [some (.ref (ad 47)), some (.int l1), some (.int (l2 + 1)), some (.int x3), some (.int x4), some (.int x5)], [], u1, 0, 0)) ∧ (¬ (¬ (u1.2.1 (ad 48) 5) = 1) → g_E cx d i_Inliner_emit [.ref (ad 47), .int x3, .int x4] u1 (fun r u6 => r = none ∧ Lay u6 ad ∧ (g_W cx (g_E cx d) mt_Inliner_copyWithChosen post (14, [some (.ref (ad 47)), some (.int l1), some (.int (l2 + 1)), some (.int x3), some (.int x4), some (.int x5)], [], u6, 0, 0))))) ∧ (¬ (x5 = (-1)) → g_E cx d i_Inliner_replace [.ref (ad 47), .int x4, .int x5] u1 (fun r u8 => r = none ∧ Lay u8 ad ∧ (g_W cx (g_E cx d) mt_Inliner_copyWithChosen post (14, [some (.ref (ad 47)), some (.int l1), some (.int (l2 + 1)), some (.int x3), some (.int x4), some (.int x5)], [], u8, 0, 0)))))))))))))) : g_W cx (g_E cx d) mt_Inliner_copyWithChosen post (14, [some (.ref (ad 47)), some (.int l1), some (.int l2), o3, o4, o5], [], t, 0, 0) := by
  refine g_run [14] 400 (fun P hP => ?_)
  refine And.intro (fun c => ?_) (fun c => ?_)
  · have h := h.1 c
    exact And.intro rfl (And.intro rfl h)
  · have h := h.2 c
    refine And.intro (hL.k 47 (by decide)) (Or.inl ⟨_, (hL.r 47 0 48 (by decide)), ?_⟩)
    refine And.intro (hL.k 48 (by decide)) ?_
    refine g_Em h (fun r u h => ?_)
    obtain ⟨y2, rfl, hL, hr_47_2, h⟩ := h
    refine And.intro (fun c => ?_) (fun c => ?_)
    · have h := h.1 c
      exact And.intro rfl (And.intro rfl h)
    · have h := h.2 c
      refine And.intro (hL.k 47 (by decide)) (Or.inl ⟨_, (hL.r 47 0 48 (by decide)), ?_⟩)
      refine And.intro (hL.k 48 (by decide)) (Or.inl ⟨_, (hL.r 48 1 50 (by decide)), ?_⟩)
      refine And.intro (hL.k 47 (by decide)) (Or.inl ⟨_, (hL.r 47 0 48 (by decide)), ?_⟩)
      refine And.intro (hL.k 48 (by decide)) ?_
      refine Or.inl (And.intro (hL.k 50 (by decide)) (And.intro (hL.v 50 (by decide) h.1) ?_))
      have h := h.2
      have h := h _ rfl
      refine And.intro (hL.k 47 (by decide)) (Or.inl ⟨_, (hL.r 47 0 48 (by decide)), ?_⟩)
      refine And.intro (hL.k 48 (by decide)) (Or.inl ⟨_, (hL.r 48 2 51 (by decide)), ?_⟩)
      refine And.intro (hL.k 47 (by decide)) (Or.inl ⟨_, (hL.r 47 0 48 (by decide)), ?_⟩)
      refine And.intro (hL.k 48 (by decide)) ?_
      refine Or.inl (And.intro (hL.k 51 (by decide)) (And.intro (hL.v 51 (by decide) h.1) ?_))
      have h := h.2
      have h := h _ rfl
      refine And.intro (hL.k 47 (by decide)) (Or.inl ⟨_, (hL.r 47 1 54 (by decide)), ?_⟩)
      refine And.intro (hL.k 47 (by decide)) (Or.inl ⟨_, (hL.r 47 0 48 (by decide)), ?_⟩)
      refine And.intro (hL.k 48 (by decide)) (Or.inl ⟨_, (hL.r 48 0 49 (by decide)), ?_⟩)
      refine And.intro (hL.k 47 (by decide)) (Or.inl ⟨_, (hL.r 47 0 48 (by decide)), ?_⟩)
      refine And.intro (hL.k 48 (by decide)) ?_
      refine Or.inl (And.intro (hL.k 49 (by decide)) (And.intro (hL.v 49 (by decide) h.1) ?_))
      have h := h.2
      refine And.intro (hL.k 47 (by decide)) (Or.inl ⟨_, hr_47_2, ?_⟩)
      refine And.intro (hL.pk hp 0 (by decide)) (Or.inl ⟨_, (hL.pr hp 5 (by decide)), ?_⟩)
      refine Or.inl (And.intro (hL.pk hp 4 (by decide)) (And.intro (hL.pv hp 4 (by decide) (by decide) h.1) ?_))
      have h := h.2
      refine Or.inl (And.intro (hL.k 54 (by decide)) (And.intro (hL.v 54 (by decide) h.1) ?_))
      have h := h.2
      have h := h _ rfl
      refine And.intro (fun c => ?_) (fun c => ?_)
      · have h := h.1 c
        refine And.intro (hL.k 47 (by decide)) (Or.inl ⟨_, (hL.r 47 0 48 (by decide)), ?_⟩)
        refine And.intro (hL.k 48 (by decide)) ?_
        refine And.intro (fun c => ?_) (fun c => ?_)
        · have h := h.1 c
          exact hP _ h
        · have h := h.2 c
          refine And.intro (hL.k 47 (by decide)) ?_
          refine g_Em h (fun r u h => ?_)
          obtain ⟨rfl, hL, h⟩ := h
          exact hP _ h
      · have h := h.2 c
        refine And.intro (hL.k 47 (by decide)) ?_
        refine g_Em h (fun r u h => ?_)
        obtain ⟨rfl, hL, h⟩ := h
        exact hP _ h
theorem x_Inliner_replace {cx : gCx} {d : Nat} {ad : Nat → Nat} {p : Nat} (hp : isP p) {a1 a2 : Int32} {t : gSt} {post : Option Value → gSt → Prop} (hL : Lay t ad) (hr_47_2 : t.2.2.2 (ad 47) 2 = some (ad p)) (h : (¬ (t.2.1 (ad 48) 5) = 2 → (¬ (t.2.1 (ad 48) 5) = 3 → vp_in a1 24 ∧ (((t.2.1 (ad (p + 2)) (a1 : Int32).toNatClampNeg) ≤ (0 : Int32) → post none t) ∧ (¬ ((t.2.1 (ad (p + 2)) (a1 : Int32).toNatClampNeg) ≤ (0 : Int32)) → g_E cx d i_Inliner_emit [.ref (ad 47), .int 14, .int (a2 + 0)] t (fun r u1 => r = none ∧ Lay u1 ad ∧ (post none u1))))) ∧ (¬ (¬ (t.2.1 (ad 48) 5) = 3) → g_E cx d i_Inliner_emitBody [.ref (ad 47), .int a1, .int a2] t (fun r u3 => r = none ∧ Lay u3 ad ∧ (post none u3)))) ∧ (¬ (¬ (t.2.1 (ad 48) 5) = 2) → ∀ x5 : Int32, x5 = ((t.2.1 (ad 48) 7) + 1) → (¬ (t.2.1 (ad 48) 5) = 3 → vp_in a1 24 ∧ (((t.2.1 (ad (p + 2)) (a1 : Int32).toNatClampNeg) ≤ x5 → post none t) ∧ (¬ ((t.2.1 (ad (p + 2)) (a1 : Int32).toNatClampNeg) ≤ x5) → g_E cx d i_Inliner_emit [.ref (ad 47), .int 14, .int (a2 + x5)] t (fun r u6 => r = none ∧ Lay u6 ad ∧ (post none u6))))) ∧ (¬ (¬ (t.2.1 (ad 48) 5) = 3) → g_E cx d i_Inliner_emitBody [.ref (ad 47), .int a1, .int a2] t (fun r u8 => r = none ∧ Lay u8 ad ∧ (post none u8))))) : g_E cx (d + 1) i_Inliner_replace [.ref (ad 47), .int a1, .int a2] t post := by
  refine g_call mt_Inliner_replace rfl (by decide) (Nat.le_of_ble_eq_true rfl) ?_
  refine g_run [] 400 (fun P hP => ?_)
  refine And.intro (hL.k 47 (by decide)) (Or.inl ⟨_, (hL.r 47 0 48 (by decide)), ?_⟩)
  refine And.intro (hL.k 48 (by decide)) ?_
  refine And.intro (fun c => ?_) (fun c => ?_)
  · have h := h.1 c
    refine And.intro (hL.k 47 (by decide)) (Or.inl ⟨_, (hL.r 47 0 48 (by decide)), ?_⟩)
    refine And.intro (hL.k 48 (by decide)) ?_
    refine And.intro (fun c => ?_) (fun c => ?_)
    · have h := h.1 c
      refine And.intro (hL.k 47 (by decide)) (Or.inl ⟨_, hr_47_2, ?_⟩)
      refine And.intro (hL.pk hp 0 (by decide)) (Or.inl ⟨_, (hL.pr hp 3 (by decide)), ?_⟩)
      refine Or.inl (And.intro (hL.pk hp 2 (by decide)) (And.intro (hL.pv hp 2 (by decide) (by decide) h.1) ?_))
      have h := h.2
      refine And.intro (fun c => ?_) (fun c => ?_)
      · have h := h.1 c
        exact And.intro rfl (And.intro rfl h)
      · have h := h.2 c
        refine And.intro (hL.k 47 (by decide)) ?_
        refine g_Em h (fun r u h => ?_)
        obtain ⟨rfl, hL, h⟩ := h
        exact And.intro rfl (And.intro rfl h)
    · have h := h.2 c
      refine And.intro (hL.k 47 (by decide)) ?_
      refine g_Em h (fun r u h => ?_)
      obtain ⟨rfl, hL, h⟩ := h
      exact And.intro rfl (And.intro rfl h)
  · have h := h.2 c
    refine And.intro (hL.k 47 (by decide)) (Or.inl ⟨_, (hL.r 47 0 48 (by decide)), ?_⟩)
    refine And.intro (hL.k 48 (by decide)) ?_
    have h := h _ rfl
    refine And.intro (hL.k 47 (by decide)) (Or.inl ⟨_, (hL.r 47 0 48 (by decide)), ?_⟩)
    refine And.intro (hL.k 48 (by decide)) ?_
    refine And.intro (fun c => ?_) (fun c => ?_)
    · have h := h.1 c
      refine And.intro (hL.k 47 (by decide)) (Or.inl ⟨_, hr_47_2, ?_⟩)
      refine And.intro (hL.pk hp 0 (by decide)) (Or.inl ⟨_, (hL.pr hp 3 (by decide)), ?_⟩)
      refine Or.inl (And.intro (hL.pk hp 2 (by decide)) (And.intro (hL.pv hp 2 (by decide) (by decide) h.1) ?_))
      have h := h.2
      refine And.intro (fun c => ?_) (fun c => ?_)
      · have h := h.1 c
        exact And.intro rfl (And.intro rfl h)
      · have h := h.2 c
        refine And.intro (hL.k 47 (by decide)) ?_
        refine g_Em h (fun r u h => ?_)
        obtain ⟨rfl, hL, h⟩ := h
        exact And.intro rfl (And.intro rfl h)
    · have h := h.2 c
      refine And.intro (hL.k 47 (by decide)) ?_
      refine g_Em h (fun r u h => ?_)
      obtain ⟨rfl, hL, h⟩ := h
      exact And.intro rfl (And.intro rfl h)
theorem x_Inliner_choose {cx : gCx} {d : Nat} {ad : Nat → Nat} {p : Nat} (hp : isP p) {a1 : Int32} {t : gSt} {post : Option Value → gSt → Prop} (hL : Lay t ad) (hr_47_4 : t.2.2.2 (ad 47) 4 = some (ad 11)) (h : g_E cx d i_Graph_inOneCircle [.ref (ad 11), .int a1, .int a1] t (fun r u1 => ∃ y2 : Int32, r = some (.int y2) ∧ Lay u1 ad ∧ u1.2.2.2 (ad 47) 2 = some (ad p) ∧ u1.2.2.2 (ad 47) 3 = some (ad 96) ∧ ((¬ y2 = 0 → post (some (.int (-1))) u1) ∧ (¬ (¬ y2 = 0) → vp_in a1 24 ∧ (((u1.2.1 (ad 101) (a1 : Int32).toNatClampNeg) ≤ (u1.2.1 (ad 47) 5) → vp_in a1 24 ∧ (vp_in a1 24 ∧ (∀ x3 : Int32, x3 = ((((u1.2.1 (ad 47) 6) - 1) + (u1.2.1 (ad (p + 2)) (a1 : Int32).toNatClampNeg)) + (u1.2.1 (ad 101) (a1 : Int32).toNatClampNeg)) → vp_in a1 24 ∧ (∀ x4 : Int32, x4 = ((u1.2.1 (ad 47) 7) + (u1.2.1 (ad 99) (a1 : Int32).toNatClampNeg)) → (500 < x3 → post (some (.int (-1))) u1) ∧ (¬ (500 < x3) → (x4 ≤ 120 → ∀ x5 : Int32, x5 = (u1.2.1 (ad 47) 7) → ∀ t6, t6 = g_si u1 (ad 47) 6 x3 → ∀ t7, t7 = g_si t6 (ad 47) 7 x4 → ∀ t8, t8 = g_si t7 (ad 47) 8 ((t7.2.1 (ad 47) 8) + 1) → post (some (.int x5)) t8) ∧ (¬ (x4 ≤ 120) → post (some (.int (-1))) u1)))))) ∧ (¬ ((u1.2.1 (ad 101) (a1 : Int32).toNatClampNeg) ≤ (u1.2.1 (ad 47) 5)) → post (some (.int (-1))) u1)))))) : g_E cx (d + 1) i_Inliner_choose [.ref (ad 47), .int a1] t post := by
  refine g_call mt_Inliner_choose rfl (by decide) (Nat.le_of_ble_eq_true rfl) ?_
  refine g_run [] 400 (fun P hP => ?_)
  refine And.intro (hL.k 47 (by decide)) (Or.inl ⟨_, hr_47_4, ?_⟩)
  refine And.intro (hL.k 11 (by decide)) ?_
  refine g_Em h (fun r u h => ?_)
  obtain ⟨y2, rfl, hL, hr_47_2, hr_47_3, h⟩ := h
  refine And.intro (fun c => ?_) (fun c => ?_)
  · have h := h.1 c
    exact And.intro rfl (And.intro rfl h)
  · have h := h.2 c
    refine And.intro (hL.k 47 (by decide)) (Or.inl ⟨_, hr_47_3, ?_⟩)
    refine And.intro (hL.k 96 (by decide)) (Or.inl ⟨_, (hL.r 96 6 101 (by decide)), ?_⟩)
    refine Or.inl (And.intro (hL.k 101 (by decide)) (And.intro (hL.v 101 (by decide) h.1) ?_))
    have h := h.2
    refine And.intro (hL.k 47 (by decide)) ?_
    refine And.intro (fun c => ?_) (fun c => ?_)
    · have h := h.1 c
      refine And.intro (hL.k 47 (by decide)) ?_
      refine And.intro (hL.k 47 (by decide)) (Or.inl ⟨_, hr_47_2, ?_⟩)
      refine And.intro (hL.pk hp 0 (by decide)) (Or.inl ⟨_, (hL.pr hp 3 (by decide)), ?_⟩)
      refine Or.inl (And.intro (hL.pk hp 2 (by decide)) (And.intro (hL.pv hp 2 (by decide) (by decide) h.1) ?_))
      have h := h.2
      refine And.intro (hL.k 47 (by decide)) (Or.inl ⟨_, hr_47_3, ?_⟩)
      refine And.intro (hL.k 96 (by decide)) (Or.inl ⟨_, (hL.r 96 6 101 (by decide)), ?_⟩)
      refine Or.inl (And.intro (hL.k 101 (by decide)) (And.intro (hL.v 101 (by decide) h.1) ?_))
      have h := h.2
      have h := h _ rfl
      refine And.intro (hL.k 47 (by decide)) ?_
      refine And.intro (hL.k 47 (by decide)) (Or.inl ⟨_, hr_47_3, ?_⟩)
      refine And.intro (hL.k 96 (by decide)) (Or.inl ⟨_, (hL.r 96 4 99 (by decide)), ?_⟩)
      refine Or.inl (And.intro (hL.k 99 (by decide)) (And.intro (hL.v 99 (by decide) h.1) ?_))
      have h := h.2
      have h := h _ rfl
      refine And.intro (fun c => ?_) (fun c => ?_)
      · have h := h.1 c
        exact And.intro rfl (And.intro rfl h)
      · have h := h.2 c
        refine And.intro (fun c => ?_) (fun c => ?_)
        · have h := h.1 c
          refine And.intro (hL.k 47 (by decide)) ?_
          have h := h _ rfl
          refine And.intro (hL.k 47 (by decide)) ?_
          have h := h _ rfl
          refine And.intro (hL.k 47 (by decide)) ?_
          have h := h _ rfl
          refine And.intro (hL.k 47 (by decide)) ?_
          refine And.intro (hL.k 47 (by decide)) ?_
          have h := h _ rfl
          exact And.intro rfl (And.intro rfl h)
        · have h := h.2 c
          exact And.intro rfl (And.intro rfl h)
    · have h := h.2 c
      exact And.intro rfl (And.intro rfl h)
theorem x_Inliner_emitBody {cx : gCx} {d : Nat} {ad : Nat → Nat} {a1 a2 : Int32} {t : gSt} {post : Option Value → gSt → Prop} (hL : Lay t ad) (hr_47_3 : t.2.2.2 (ad 47) 3 = some (ad 96)) (h : vp_in a1 24 ∧ (vp_in a1 24 ∧ (∀ x1 : Int32, x1 = ((t.2.1 (ad 100) (a1 : Int32).toNatClampNeg) + (t.2.1 (ad 101) (a1 : Int32).toNatClampNeg)) → vp_in a1 24 ∧ (∀ x2 : Int32, x2 = (t.2.1 (ad 100) (a1 : Int32).toNatClampNeg) → g_W cx (g_E cx d) mt_Inliner_emitBody post (31, [some (.ref (ad 47)), some (.int a1), some (.int a2), some (.int x1), some (.int x2), none], [], t, 0, 0))))) : g_E cx (d + 1) i_Inliner_emitBody [.ref (ad 47), .int a1, .int a2] t post := by
  refine g_call mt_Inliner_emitBody rfl (by decide) (Nat.le_of_ble_eq_true rfl) ?_
  refine g_run [31] 400 (fun P hP => ?_)
  refine And.intro (hL.k 47 (by decide)) (Or.inl ⟨_, hr_47_3, ?_⟩)
  refine And.intro (hL.k 96 (by decide)) (Or.inl ⟨_, (hL.r 96 5 100 (by decide)), ?_⟩)
  refine Or.inl (And.intro (hL.k 100 (by decide)) (And.intro (hL.v 100 (by decide) h.1) ?_))
  have h := h.2
  refine And.intro (hL.k 47 (by decide)) (Or.inl ⟨_, hr_47_3, ?_⟩)
  refine And.intro (hL.k 96 (by decide)) (Or.inl ⟨_, (hL.r 96 6 101 (by decide)), ?_⟩)
  refine Or.inl (And.intro (hL.k 101 (by decide)) (And.intro (hL.v 101 (by decide) h.1) ?_))
  have h := h.2
  have h := h _ rfl
  refine And.intro (hL.k 47 (by decide)) (Or.inl ⟨_, hr_47_3, ?_⟩)
  refine And.intro (hL.k 96 (by decide)) (Or.inl ⟨_, (hL.r 96 5 100 (by decide)), ?_⟩)
  refine Or.inl (And.intro (hL.k 100 (by decide)) (And.intro (hL.v 100 (by decide) h.1) ?_))
  have h := h.2
  have h := h _ rfl
  exact hP _ h
theorem x_Inliner_emitBody_31 {cx : gCx} {d : Nat} {ad : Nat → Nat} {l1 l2 l3 l4 : Int32} {o5 : Option Value} {t : gSt} {post : Option Value → gSt → Prop} (hL : Lay t ad) (hr_47_3 : t.2.2.2 (ad 47) 3 = some (ad 96)) (h : (l3 ≤ l4 → post none t) ∧ (¬ (l3 ≤ l4) → vp_in l4 12000 ∧ (((t.2.1 (ad 108) (l4 : Int32).toNatClampNeg) = 2 → vp_in l4 12000 ∧ (vp_in l4 12000 ∧ (g_E cx d i_Inliner_emit [.ref (ad 47), .int (t.2.1 (ad 108) (l4 : Int32).toNatClampNeg), .int ((t.2.1 (ad 109) (l4 : Int32).toNatClampNeg) + l2)] t (fun r u1 => r = none ∧ Lay u1 ad ∧ (g_W cx (g_E cx d) mt_Inliner_emitBody post (31, [some (.ref (ad 47)), some (.int l1), some (.int l2), some (.int l3), some (.int (l4 + 1)), some (.int 1)], [], u1, 0, 0)))))) ∧ (¬ ((t.2.1 (ad 108) (l4 : Int32).toNatClampNeg) = 2) → vp_in l4 12000 ∧ ((¬ (t.2.1 (ad 108) (l4 : Int32).toNatClampNeg) = 14 → vp_in l4 12000 ∧ (vp_in l4 12000 ∧ (g_E cx d i_Inliner_emit [.ref (ad 47), .int (t.2.1 (ad 108) (l4 : Int32).toNatClampNeg), .int (t.2.1 (ad 109) (l4 : Int32).toNatClampNeg)] t (fun r u3 => r = none ∧ Lay u3 ad ∧ (g_W cx (g_E cx d) mt_Inliner_emitBody post (31, [some (.ref (ad 47)), some (.int l1), some (.int l2), some (.int l3), some (.int (l4 + 1)), some (.int 0)], [], u3, 0, 0)))))) ∧ (¬ (¬ (t.2.1 (ad 108) (l4 : Int32).toNatClampNeg) = 14) → vp_in l4 12000 ∧ (vp_in l4 12000 ∧ (g_E cx d i_Inliner_emit [.ref (ad 47), .int (t.2.1 (ad 108) (l4 : Int32).toNatClampNeg), .int ((t.2.1 (ad 109) (l4 : Int32).toNatClampNeg) + l2)] t (fun r u5 => r = none ∧ Lay u5 ad ∧ (g_W cx (g_E cx d) mt_Inliner_emitBody post (31, [some (.ref (ad 47)), some (.int l1), some (.int l2), some (.int l3), some (.int (l4 + 1)), some (.int 1)], [], u5, 0, 0))))))))))) : g_W cx (g_E cx d) mt_Inliner_emitBody post (31, [some (.ref (ad 47)), some (.int l1), some (.int l2), some (.int l3), some (.int l4), o5], [], t, 0, 0) := by
  refine g_run [31] 400 (fun P hP => ?_)
  refine And.intro (fun c => ?_) (fun c => ?_)
  · have h := h.1 c
    exact And.intro rfl (And.intro rfl h)
  · have h := h.2 c
    refine And.intro (hL.k 47 (by decide)) (Or.inl ⟨_, hr_47_3, ?_⟩)
    refine And.intro (hL.k 96 (by decide)) (Or.inl ⟨_, (hL.r 96 0 108 (by decide)), ?_⟩)
    refine Or.inl (And.intro (hL.k 108 (by decide)) (And.intro (hL.v 108 (by decide) h.1) ?_))
    have h := h.2
    refine And.intro (fun c => ?_) (fun c => ?_)
    · have h := h.1 c
      refine And.intro (hL.k 47 (by decide)) (Or.inl ⟨_, hr_47_3, ?_⟩)
      refine And.intro (hL.k 96 (by decide)) (Or.inl ⟨_, (hL.r 96 0 108 (by decide)), ?_⟩)
      refine Or.inl (And.intro (hL.k 108 (by decide)) (And.intro (hL.v 108 (by decide) h.1) ?_))
      have h := h.2
      refine And.intro (fun c => absurd (show (1 : Int32) = (0 : Int32) from c) (by decide)) (fun c => ?_)
      refine And.intro (hL.k 47 (by decide)) (Or.inl ⟨_, hr_47_3, ?_⟩)
      refine And.intro (hL.k 96 (by decide)) (Or.inl ⟨_, (hL.r 96 1 109 (by decide)), ?_⟩)
      refine Or.inl (And.intro (hL.k 109 (by decide)) (And.intro (hL.v 109 (by decide) h.1) ?_))
      have h := h.2
      refine And.intro (hL.k 47 (by decide)) ?_
      refine g_Em h (fun r u h => ?_)
      obtain ⟨rfl, hL, h⟩ := h
      exact hP _ h
    · have h := h.2 c
      refine And.intro (hL.k 47 (by decide)) (Or.inl ⟨_, hr_47_3, ?_⟩)
      refine And.intro (hL.k 96 (by decide)) (Or.inl ⟨_, (hL.r 96 0 108 (by decide)), ?_⟩)
      refine Or.inl (And.intro (hL.k 108 (by decide)) (And.intro (hL.v 108 (by decide) h.1) ?_))
      have h := h.2
      refine And.intro (fun c => ?_) (fun c => ?_)
      · have h := h.1 c
        refine And.intro (hL.k 47 (by decide)) (Or.inl ⟨_, hr_47_3, ?_⟩)
        refine And.intro (hL.k 96 (by decide)) (Or.inl ⟨_, (hL.r 96 0 108 (by decide)), ?_⟩)
        refine Or.inl (And.intro (hL.k 108 (by decide)) (And.intro (hL.v 108 (by decide) h.1) ?_))
        have h := h.2
        refine And.intro (fun c => ?_) (fun c => (c (show (0 : Int32) = (0 : Int32) by decide)).elim)
        refine And.intro (hL.k 47 (by decide)) (Or.inl ⟨_, hr_47_3, ?_⟩)
        refine And.intro (hL.k 96 (by decide)) (Or.inl ⟨_, (hL.r 96 1 109 (by decide)), ?_⟩)
        refine Or.inl (And.intro (hL.k 109 (by decide)) (And.intro (hL.v 109 (by decide) h.1) ?_))
        have h := h.2
        refine And.intro (hL.k 47 (by decide)) ?_
        refine g_Em h (fun r u h => ?_)
        obtain ⟨rfl, hL, h⟩ := h
        exact hP _ h
      · have h := h.2 c
        refine And.intro (hL.k 47 (by decide)) (Or.inl ⟨_, hr_47_3, ?_⟩)
        refine And.intro (hL.k 96 (by decide)) (Or.inl ⟨_, (hL.r 96 0 108 (by decide)), ?_⟩)
        refine Or.inl (And.intro (hL.k 108 (by decide)) (And.intro (hL.v 108 (by decide) h.1) ?_))
        have h := h.2
        refine And.intro (fun c => absurd (show (1 : Int32) = (0 : Int32) from c) (by decide)) (fun c => ?_)
        refine And.intro (hL.k 47 (by decide)) (Or.inl ⟨_, hr_47_3, ?_⟩)
        refine And.intro (hL.k 96 (by decide)) (Or.inl ⟨_, (hL.r 96 1 109 (by decide)), ?_⟩)
        refine Or.inl (And.intro (hL.k 109 (by decide)) (And.intro (hL.v 109 (by decide) h.1) ?_))
        have h := h.2
        refine And.intro (hL.k 47 (by decide)) ?_
        refine g_Em h (fun r u h => ?_)
        obtain ⟨rfl, hL, h⟩ := h
        exact hP _ h
theorem x_Inliner_emit {cx : gCx} {d : Nat} {ad : Nat → Nat} {a1 a2 : Int32} {t : gSt} {post : Option Value → gSt → Prop} (hL : Lay t ad) (hr_47_3 : t.2.2.2 (ad 47) 3 = some (ad 96)) (h : ((Int32.ofNat (t.1.2.2 (ad 108))) ≤ (t.2.1 (ad 47) 9) → post none t) ∧ (¬ ((Int32.ofNat (t.1.2.2 (ad 108))) ≤ (t.2.1 (ad 47) 9)) → vp_in (t.2.1 (ad 47) 9) 12000 ∧ (∀ t1, t1 = g_si t (ad 108) ((t.2.1 (ad 47) 9) : Int32).toNatClampNeg a1 → vp_in (t1.2.1 (ad 47) 9) 12000 ∧ (∀ t2, t2 = g_si t1 (ad 109) ((t1.2.1 (ad 47) 9) : Int32).toNatClampNeg a2 → ∀ t3, t3 = g_si t2 (ad 47) 9 ((t2.2.1 (ad 47) 9) + 1) → post none t3)))) : g_E cx (d + 1) i_Inliner_emit [.ref (ad 47), .int a1, .int a2] t post := by
  refine g_call mt_Inliner_emit rfl (by decide) (Nat.le_of_ble_eq_true rfl) ?_
  refine g_run [] 400 (fun P hP => ?_)
  refine And.intro (hL.k 47 (by decide)) ?_
  refine And.intro (hL.k 47 (by decide)) (Or.inl ⟨_, hr_47_3, ?_⟩)
  refine And.intro (hL.k 96 (by decide)) (Or.inl ⟨_, (hL.r 96 0 108 (by decide)), ?_⟩)
  refine Or.inl (And.intro (hL.k 108 (by decide)).1 (And.intro (g_karr (hL.k 108 (by decide)) (by decide) (by decide)) ?_))
  refine And.intro (fun c => ?_) (fun c => ?_)
  · have h := h.1 c
    exact And.intro rfl (And.intro rfl h)
  · have h := h.2 c
    refine And.intro (hL.k 47 (by decide)) (Or.inl ⟨_, hr_47_3, ?_⟩)
    refine And.intro (hL.k 96 (by decide)) (Or.inl ⟨_, (hL.r 96 0 108 (by decide)), ?_⟩)
    refine And.intro (hL.k 47 (by decide)) ?_
    refine And.intro (hL.k 108 (by decide)) (And.intro (hL.v 108 (by decide) h.1) ?_)
    have h := h.2 _ rfl
    refine And.intro (hL.k 47 (by decide)) (Or.inl ⟨_, hr_47_3, ?_⟩)
    refine And.intro (hL.k 96 (by decide)) (Or.inl ⟨_, (hL.r 96 1 109 (by decide)), ?_⟩)
    refine And.intro (hL.k 47 (by decide)) ?_
    refine And.intro (hL.k 109 (by decide)) (And.intro (hL.v 109 (by decide) h.1) ?_)
    have h := h.2 _ rfl
    refine And.intro (hL.k 47 (by decide)) ?_
    refine And.intro (hL.k 47 (by decide)) ?_
    have h := h _ rfl
    exact And.intro rfl (And.intro rfl h)
