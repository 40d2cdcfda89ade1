/-! PRINTED by wip/gen/xparts.py: symbolic execution, method by method -/
theorem x_Graph_draw {cx : gCx} {d : Nat} {ad : Nat → Nat} {p : Nat} (hp : isP p) {t : gSt} {post : Option Value → gSt → Prop} (hL : Lay t ad) (h : g_W cx (g_E cx d) mt_Graph_draw post (2, [some (.ref (ad 11)), some (.ref (ad p)), some (.int 0)], [], t, 0, 0)) : g_E cx (d + 1) i_Graph_draw [.ref (ad 11), .ref (ad p)] t post := by
  refine g_call mt_Graph_draw rfl (by decide) (Nat.le_of_ble_eq_true rfl) ?_
  refine g_run [2, 57] 400 (fun P hP => ?_)
  exact hP _ h
theorem x_Graph_draw_2 {cx : gCx} {d : Nat} {ad : Nat → Nat} {p : Nat} (hp : isP p) {l2 : Int32} {t : gSt} {post : Option Value → gSt → Prop} (hL : Lay t ad) (h : ((t.2.1 (ad p) 15) ≤ l2 → g_E cx d i_Tr_closeOver [.ref (ad 20), .int (t.2.1 (ad p) 15)] t (fun r u1 => r = none ∧ Lay u1 ad ∧ (∀ t3, t3 = g_si u1 (ad 11) 6 0 → ∀ t4, t4 = g_si t3 (ad 11) 7 0 → g_W cx (g_E cx d) mt_Graph_draw post (57, [some (.ref (ad 11)), some (.ref (ad p)), some (.int 0)], [], t4, 0, 0)))) ∧ (¬ ((t.2.1 (ad p) 15) ≤ l2) → g_E cx d i_Graph_gather [.ref (ad 11), .ref (ad p), .int l2] t (fun r u5 => r = none ∧ Lay u5 ad ∧ (vp_in l2 24 ∧ (vp_in l2 24 ∧ (∀ t7, t7 = g_si u5 (ad 20) (l2 : Int32).toNatClampNeg (u5.2.1 (ad 19) (l2 : Int32).toNatClampNeg) → g_W cx (g_E cx d) mt_Graph_draw post (2, [some (.ref (ad 11)), some (.ref (ad p)), some (.int (l2 + 1))], [], t7, 0, 0))))))) : g_W cx (g_E cx d) mt_Graph_draw post (2, [some (.ref (ad 11)), some (.ref (ad p)), some (.int l2)], [], t, 0, 0) := by
  refine g_run [2, 57] 400 (fun P hP => ?_)
  refine And.intro (hL.pk hp 0 (by decide)) ?_
  refine And.intro (fun c => ?_) (fun c => ?_)
  · have h := h.1 c
    refine And.intro (hL.k 11 (by decide)) (Or.inl ⟨_, (hL.r 11 3 20 (by decide)), ?_⟩)
    refine And.intro (hL.pk hp 0 (by decide)) ?_
    refine g_Em h (fun r u h => ?_)
    obtain ⟨rfl, hL, h⟩ := h
    refine And.intro (hL.k 11 (by decide)) ?_
    have h := h _ rfl
    refine And.intro (hL.k 11 (by decide)) ?_
    have h := h _ rfl
    exact hP _ h
  · have h := h.2 c
    refine And.intro (hL.k 11 (by decide)) ?_
    refine g_Em h (fun r u h => ?_)
    obtain ⟨rfl, hL, h⟩ := h
    refine And.intro (hL.k 11 (by decide)) (Or.inl ⟨_, (hL.r 11 3 20 (by decide)), ?_⟩)
    refine And.intro (hL.k 11 (by decide)) (Or.inl ⟨_, (hL.r 11 2 19 (by decide)), ?_⟩)
    refine Or.inl (And.intro (hL.k 19 (by decide)) (And.intro (hL.v 19 (by decide) h.1) ?_))
    have h := h.2
    refine And.intro (hL.k 20 (by decide)) (And.intro (hL.v 20 (by decide) h.1) ?_)
    have h := h.2 _ rfl
    exact hP _ h
theorem x_Graph_draw_57 {cx : gCx} {d : Nat} {ad : Nat → Nat} {p : Nat} (hp : isP p) {l2 : Int32} {t : gSt} {post : Option Value → gSt → Prop} (hL : Lay t ad) (h : ((t.2.1 (ad p) 15) ≤ l2 → post none t) ∧ (¬ ((t.2.1 (ad p) 15) ≤ l2) → g_E cx d i_Graph_look [.ref (ad 11), .int l2, .int 0] t (fun r u1 => r = none ∧ Lay u1 ad ∧ (g_W cx (g_E cx d) mt_Graph_draw post (57, [some (.ref (ad 11)), some (.ref (ad p)), some (.int (l2 + 1))], [], u1, 0, 0))))) : g_W cx (g_E cx d) mt_Graph_draw post (57, [some (.ref (ad 11)), some (.ref (ad p)), some (.int l2)], [], t, 0, 0) := by
  refine g_run [2, 57] 400 (fun P hP => ?_)
  refine And.intro (hL.pk hp 0 (by decide)) ?_
  refine And.intro (fun c => ?_) (fun c => ?_)
  · have h := h.1 c
    exact And.intro rfl (And.intro rfl h)
  · have h := h.2 c
    refine And.intro (hL.k 11 (by decide)) ?_
    refine g_Em h (fun r u h => ?_)
    obtain ⟨rfl, hL, h⟩ := h
    exact hP _ h
theorem x_Graph_doesCall {cx : gCx} {d : Nat} {ad : Nat → Nat} {a1 a2 : Int32} {t : gSt} {post : Option Value → gSt → Prop} (hL : Lay t ad) (h : vp_in a1 24 ∧ (g_E cx d i_Tr_hasBit [.int (t.2.1 (ad 19) (a1 : Int32).toNatClampNeg), .int a2] t (fun r u1 => ∃ y2 : Int32, r = some (.int y2) ∧ Lay u1 ad ∧ (narrow .boolean (.int y2) = .int y2 ∧ post (some (.int y2)) u1)))) : g_E cx (d + 1) i_Graph_doesCall [.ref (ad 11), .int a1, .int a2] t post := by
  refine g_call mt_Graph_doesCall rfl (by decide) (Nat.le_of_ble_eq_true rfl) ?_
  refine g_run [] 400 (fun P hP => ?_)
  refine And.intro (hL.k 11 (by decide)) (Or.inl ⟨_, (hL.r 11 2 19 (by decide)), ?_⟩)
  refine Or.inl (And.intro (hL.k 19 (by decide)) (And.intro (hL.v 19 (by decide) h.1) ?_))
  have h := h.2
  refine g_Em h (fun r u h => ?_)
  obtain ⟨y2, rfl, hL, h⟩ := h
  exact And.intro rfl h
theorem x_Graph_inOneCircle {cx : gCx} {d : Nat} {ad : Nat → Nat} {a1 a2 : Int32} {t : gSt} {post : Option Value → gSt → Prop} (hL : Lay t ad) (h : vp_in a1 24 ∧ (g_E cx d i_Tr_hasBit [.int (t.2.1 (ad 20) (a1 : Int32).toNatClampNeg), .int a2] t (fun r u1 => ∃ y2 : Int32, r = some (.int y2) ∧ Lay u1 ad ∧ ((y2 = 0 → post (some (.int 0)) u1) ∧ (¬ (y2 = 0) → vp_in a2 24 ∧ (g_E cx d i_Tr_hasBit [.int (u1.2.1 (ad 20) (a2 : Int32).toNatClampNeg), .int a1] u1 (fun r u3 => ∃ y4 : Int32, r = some (.int y4) ∧ Lay u3 ad ∧ ((y4 = 0 → post (some (.int 0)) u3) ∧ (¬ (y4 = 0) → post (some (.int 1)) u3))))))))) : g_E cx (d + 1) i_Graph_inOneCircle [.ref (ad 11), .int a1, .int a2] t post := by
  refine g_call mt_Graph_inOneCircle rfl (by decide) (Nat.le_of_ble_eq_true rfl) ?_
  refine g_run [] 400 (fun P hP => ?_)
  refine And.intro (hL.k 11 (by decide)) (Or.inl ⟨_, (hL.r 11 3 20 (by decide)), ?_⟩)
  refine Or.inl (And.intro (hL.k 20 (by decide)) (And.intro (hL.v 20 (by decide) h.1) ?_))
  have h := h.2
  refine g_Em h (fun r u h => ?_)
  obtain ⟨y2, rfl, hL, h⟩ := h
  refine And.intro (fun c => ?_) (fun c => ?_)
  · have h := h.1 c
    exact And.intro rfl (And.intro rfl h)
  · have h := h.2 c
    refine And.intro (hL.k 11 (by decide)) (Or.inl ⟨_, (hL.r 11 3 20 (by decide)), ?_⟩)
    refine Or.inl (And.intro (hL.k 20 (by decide)) (And.intro (hL.v 20 (by decide) h.1) ?_))
    have h := h.2
    refine g_Em h (fun r u h => ?_)
    obtain ⟨y4, rfl, hL, h⟩ := h
    refine And.intro (fun c => ?_) (fun c => ?_)
    · have h := h.1 c
      exact And.intro rfl (And.intro rfl h)
    · have h := h.2 c
      exact And.intro rfl (And.intro rfl h)
theorem x_Graph_gather {cx : gCx} {d : Nat} {ad : Nat → Nat} {p : Nat} (hp : isP p) {a2 : Int32} {t : gSt} {post : Option Value → gSt → Prop} (hL : Lay t ad) (h : vp_in a2 24 ∧ (∀ t1, t1 = g_si t (ad 19) (a2 : Int32).toNatClampNeg 0 → vp_in a2 24 ∧ (∀ t2, t2 = g_si t1 (ad 46) (a2 : Int32).toNatClampNeg 0 → g_E cx d i_Walk_begin [.ref (ad 12), .ref (ad p), .int a2] t2 (fun r u3 => r = none ∧ Lay u3 ad ∧ (g_W cx (g_E cx d) mt_Graph_gather post (25, [some (.ref (ad 11)), some (.ref (ad p)), some (.int a2), some (.int 0)], [], u3, 0, 0)))))) : g_E cx (d + 1) i_Graph_gather [.ref (ad 11), .ref (ad p), .int a2] t post := by
  refine g_call mt_Graph_gather rfl (by decide) (Nat.le_of_ble_eq_true rfl) ?_
  refine g_run [25] 400 (fun P hP => ?_)
  refine And.intro (hL.k 11 (by decide)) (Or.inl ⟨_, (hL.r 11 2 19 (by decide)), ?_⟩)
  refine And.intro (hL.k 19 (by decide)) (And.intro (hL.v 19 (by decide) h.1) ?_)
  have h := h.2 _ rfl
  refine And.intro (hL.k 11 (by decide)) (Or.inl ⟨_, (hL.r 11 5 46 (by decide)), ?_⟩)
  refine And.intro (hL.k 46 (by decide)) (And.intro (hL.v 46 (by decide) h.1) ?_)
  have h := h.2 _ rfl
  refine And.intro (hL.k 11 (by decide)) (Or.inl ⟨_, (hL.r 11 0 12 (by decide)), ?_⟩)
  refine And.intro (hL.k 12 (by decide)) ?_
  refine g_Em h (fun r u h => ?_)
  obtain ⟨rfl, hL, h⟩ := h
  exact hP _ h
theorem x_Graph_gather_25 {cx : gCx} {d : Nat} {ad : Nat → Nat} {p : Nat} (hp : isP p) {l2 l3 : Int32} {t : gSt} {post : Option Value → gSt → Prop} (hL : Lay t ad) (h : (1500 ≤ l3 → post none t) ∧ (¬ (1500 ≤ l3) → g_E cx d i_Walk_advance [.ref (ad 12)] t (fun r u1 => ∃ y2 : Int32, r = some (.int y2) ∧ Lay u1 ad ∧ ((y2 = 0 → post none u1) ∧ (¬ (y2 = 0) → (¬ (u1.2.1 (ad 12) 5) = 3 → g_W cx (g_E cx d) mt_Graph_gather post (25, [some (.ref (ad 11)), some (.ref (ad p)), some (.int l2), some (.int (l3 + 1))], [], u1, 0, 0)) ∧ (¬ (¬ (u1.2.1 (ad 12) 5) = 3) → vp_in (u1.2.1 (ad 12) 6) 500 ∧ ((¬ (u1.2.1 (ad 14) ((u1.2.1 (ad 12) 6) : Int32).toNatClampNeg) = 15 → g_W cx (g_E cx d) mt_Graph_gather post (25, [some (.ref (ad 11)), some (.ref (ad p)), some (.int l2), some (.int (l3 + 1))], [], u1, 0, 0)) ∧ (¬ (¬ (u1.2.1 (ad 14) ((u1.2.1 (ad 12) 6) : Int32).toNatClampNeg) = 15) → vp_in (u1.2.1 (ad 12) 6) 500 ∧ (g_E cx d i_Graph_addCallee [.ref (ad 11), .int l2, .int (u1.2.1 (ad 15) ((u1.2.1 (ad 12) 6) : Int32).toNatClampNeg)] u1 (fun r u3 => r = none ∧ Lay u3 ad ∧ (g_W cx (g_E cx d) mt_Graph_gather post (25, [some (.ref (ad 11)), some (.ref (ad p)), some (.int l2), some (.int (l3 + 1))], [], u3, 0, 0)))))))))))) : g_W cx (g_E cx d) mt_Graph_gather post (25, [some (.ref (ad 11)), some (.ref (ad p)), some (.int l2), some (.int l3)], [], t, 0, 0) := by
  refine g_run [25] 400 (fun P hP => ?_)
  refine And.intro (fun c => ?_) (fun c => ?_)
  · have h := h.1 c
    exact And.intro rfl (And.intro rfl h)
  · have h := h.2 c
    refine And.intro (hL.k 11 (by decide)) (Or.inl ⟨_, (hL.r 11 0 12 (by decide)), ?_⟩)
    refine And.intro (hL.k 12 (by decide)) ?_
    refine g_Em h (fun r u h => ?_)
    obtain ⟨y2, rfl, hL, h⟩ := h
    refine And.intro (fun c => ?_) (fun c => ?_)
    · have h := h.1 c
      exact And.intro rfl (And.intro rfl h)
    · have h := h.2 c
      refine And.intro (hL.k 11 (by decide)) (Or.inl ⟨_, (hL.r 11 0 12 (by decide)), ?_⟩)
      refine And.intro (hL.k 12 (by decide)) ?_
      refine And.intro (fun c => ?_) (fun c => ?_)
      · have h := h.1 c
        exact hP _ h
      · have h := h.2 c
        refine And.intro (hL.k 11 (by decide)) (Or.inl ⟨_, (hL.r 11 0 12 (by decide)), ?_⟩)
        refine And.intro (hL.k 12 (by decide)) (Or.inl ⟨_, (hL.r 12 1 14 (by decide)), ?_⟩)
        refine And.intro (hL.k 11 (by decide)) (Or.inl ⟨_, (hL.r 11 0 12 (by decide)), ?_⟩)
        refine And.intro (hL.k 12 (by decide)) ?_
        refine Or.inl (And.intro (hL.k 14 (by decide)) (And.intro (hL.v 14 (by decide) h.1) ?_))
        have h := h.2
        refine And.intro (fun c => ?_) (fun c => ?_)
        · have h := h.1 c
          exact hP _ h
        · have h := h.2 c
          refine And.intro (hL.k 11 (by decide)) (Or.inl ⟨_, (hL.r 11 0 12 (by decide)), ?_⟩)
          refine And.intro (hL.k 12 (by decide)) (Or.inl ⟨_, (hL.r 12 2 15 (by decide)), ?_⟩)
          refine And.intro (hL.k 11 (by decide)) (Or.inl ⟨_, (hL.r 11 0 12 (by decide)), ?_⟩)
          refine And.intro (hL.k 12 (by decide)) ?_
          refine Or.inl (And.intro (hL.k 15 (by decide)) (And.intro (hL.v 15 (by decide) h.1) ?_))
          have h := h.2
          refine And.intro (hL.k 11 (by decide)) ?_
          refine g_Em h (fun r u h => ?_)
          obtain ⟨rfl, hL, h⟩ := h
          exact hP _ h
theorem x_Graph_addCallee {cx : gCx} {d : Nat} {ad : Nat → Nat} {a1 a2 : Int32} {t : gSt} {post : Option Value → gSt → Prop} (hL : Lay t ad) (h : vp_in a1 24 ∧ (g_E cx d i_Tr_hasBit [.int (t.2.1 (ad 19) (a1 : Int32).toNatClampNeg), .int a2] t (fun r u1 => ∃ y2 : Int32, r = some (.int y2) ∧ Lay u1 ad ∧ ((¬ y2 = 0 → post none u1) ∧ (¬ (¬ y2 = 0) → vp_in a1 24 ∧ ((24 ≤ (u1.2.1 (ad 46) (a1 : Int32).toNatClampNeg) → post none u1) ∧ (¬ (24 ≤ (u1.2.1 (ad 46) (a1 : Int32).toNatClampNeg)) → vp_in a1 24 ∧ (vp_in a1 24 ∧ (∀ t3, t3 = g_si u1 (ad 19) (a1 : Int32).toNatClampNeg ((u1.2.1 (ad 19) (a1 : Int32).toNatClampNeg) ||| (1 <<< (a2 &&& 31))) → vp_in a1 24 ∧ (vp_in a1 24 ∧ (vp_in (t3.2.1 (ad 46) (a1 : Int32).toNatClampNeg) 24 ∧ (∀ t4, t4 = g_si t3 (ad (22 + (a1 : Int32).toNatClampNeg)) ((t3.2.1 (ad 46) (a1 : Int32).toNatClampNeg) : Int32).toNatClampNeg a2 → vp_in a1 24 ∧ (vp_in a1 24 ∧ (∀ t5, t5 = g_si t4 (ad 46) (a1 : Int32).toNatClampNeg ((t4.2.1 (ad 46) (a1 : Int32).toNatClampNeg) + 1) → post none t5)))))))))))))) : g_E cx (d + 1) i_Graph_addCallee [.ref (ad 11), .int a1, .int a2] t post := by
  refine g_call mt_Graph_addCallee rfl (by decide) (Nat.le_of_ble_eq_true rfl) ?_
  refine g_run [] 400 (fun P hP => ?_)
  refine And.intro (hL.k 11 (by decide)) (Or.inl ⟨_, (hL.r 11 2 19 (by decide)), ?_⟩)
  refine Or.inl (And.intro (hL.k 19 (by decide)) (And.intro (hL.v 19 (by decide) h.1) ?_))
  have h := h.2
  refine g_Em h (fun r u h => ?_)
  obtain ⟨y2, rfl, hL, h⟩ := h
  refine And.intro (fun c => ?_) (fun c => ?_)
  · have h := h.1 c
    exact And.intro rfl (And.intro rfl h)
  · have h := h.2 c
    refine And.intro (hL.k 11 (by decide)) (Or.inl ⟨_, (hL.r 11 5 46 (by decide)), ?_⟩)
    refine Or.inl (And.intro (hL.k 46 (by decide)) (And.intro (hL.v 46 (by decide) h.1) ?_))
    have h := h.2
    refine And.intro (fun c => ?_) (fun c => ?_)
    · have h := h.1 c
      exact And.intro rfl (And.intro rfl h)
    · have h := h.2 c
      refine And.intro (hL.k 11 (by decide)) (Or.inl ⟨_, (hL.r 11 2 19 (by decide)), ?_⟩)
      refine Or.inl (And.intro (hL.k 19 (by decide)) (And.intro (hL.v 19 (by decide) h.1) ?_))
      have h := h.2
      refine And.intro (hL.k 19 (by decide)) (And.intro (hL.v 19 (by decide) h.1) ?_)
      have h := h.2 _ rfl
      refine And.intro (hL.k 11 (by decide)) (Or.inl ⟨_, (hL.r 11 4 21 (by decide)), ?_⟩)
      have hz1 := h.1
      refine And.intro (hL.k 21 (by decide)) (And.intro (hL.v 21 (by decide) h.1) (Or.inl ⟨_, (hL.zr hz1), ?_⟩))
      have h := h.2
      refine And.intro (hL.k 11 (by decide)) (Or.inl ⟨_, (hL.r 11 5 46 (by decide)), ?_⟩)
      refine Or.inl (And.intro (hL.k 46 (by decide)) (And.intro (hL.v 46 (by decide) h.1) ?_))
      have h := h.2
      refine And.intro (hL.zk hz1) (And.intro (hL.zv hz1 h.1) ?_)
      have h := h.2 _ rfl
      refine And.intro (hL.k 11 (by decide)) (Or.inl ⟨_, (hL.r 11 5 46 (by decide)), ?_⟩)
      refine Or.inl (And.intro (hL.k 46 (by decide)) (And.intro (hL.v 46 (by decide) h.1) ?_))
      have h := h.2
      refine And.intro (hL.k 46 (by decide)) (And.intro (hL.v 46 (by decide) h.1) ?_)
      have h := h.2 _ rfl
      exact And.intro rfl (And.intro rfl h)
theorem x_Graph_look {cx : gCx} {d : Nat} {ad : Nat → Nat} {a1 a2 : Int32} {t : gSt} {post : Option Value → gSt → Prop} (hL : Lay t ad) (h : g_E cx d i_Tr_hasBit [.int (t.2.1 (ad 11) 6), .int a1] t (fun r u1 => ∃ y2 : Int32, r = some (.int y2) ∧ Lay u1 ad ∧ ((¬ y2 = 0 → post none u1) ∧ (¬ (¬ y2 = 0) → (a2 < 24 → ∀ t3, t3 = g_si u1 (ad 11) 6 ((u1.2.1 (ad 11) 6) ||| (1 <<< (a1 &&& 31))) → g_W cx (g_E cx d) mt_Graph_look post (32, [some (.ref (ad 11)), some (.int a1), some (.int a2), some (.int 0)], [], t3, 0, 0)) ∧ (¬ (a2 < 24) → post none u1))))) : g_E cx (d + 1) i_Graph_look [.ref (ad 11), .int a1, .int a2] t post := by
  refine g_call mt_Graph_look rfl (by decide) (Nat.le_of_ble_eq_true rfl) ?_
  refine g_run [32] 400 (fun P hP => ?_)
  refine And.intro (hL.k 11 (by decide)) ?_
  refine g_Em h (fun r u h => ?_)
  obtain ⟨y2, rfl, hL, h⟩ := h
  refine And.intro (fun c => ?_) (fun c => ?_)
  · have h := h.1 c
    exact And.intro rfl (And.intro rfl h)
  · have h := h.2 c
    refine And.intro (fun c => ?_) (fun c => ?_)
    · have h := h.1 c
      refine And.intro (hL.k 11 (by decide)) ?_
      refine And.intro (hL.k 11 (by decide)) ?_
      have h := h _ rfl
      exact hP _ h
    · have h := h.2 c
      exact And.intro rfl (And.intro rfl h)
theorem x_Graph_look_32 {cx : gCx} {d : Nat} {ad : Nat → Nat} {l1 l2 l3 : Int32} {t : gSt} {post : Option Value → gSt → Prop} (hL : Lay t ad) (h : vp_in l1 24 ∧ (((t.2.1 (ad 46) (l1 : Int32).toNatClampNeg) ≤ l3 → vp_in (t.2.1 (ad 11) 7) 24 ∧ (∀ t1, t1 = g_si t (ad 18) ((t.2.1 (ad 11) 7) : Int32).toNatClampNeg l1 → ∀ t2, t2 = g_si t1 (ad 11) 7 ((t1.2.1 (ad 11) 7) + 1) → post none t2)) ∧ (¬ ((t.2.1 (ad 46) (l1 : Int32).toNatClampNeg) ≤ l3) → vp_in l1 24 ∧ (vp_in l3 24 ∧ (g_E cx d i_Graph_look [.ref (ad 11), .int (t.2.1 (ad (22 + (l1 : Int32).toNatClampNeg)) (l3 : Int32).toNatClampNeg), .int (l2 + 1)] t (fun r u3 => r = none ∧ Lay u3 ad ∧ (g_W cx (g_E cx d) mt_Graph_look post (32, [some (.ref (ad 11)), some (.int l1), some (.int l2), some (.int (l3 + 1))], [], u3, 0, 0)))))))) : g_W cx (g_E cx d) mt_Graph_look post (32, [some (.ref (ad 11)), some (.int l1), some (.int l2), some (.int l3)], [], t, 0, 0) := by
  refine g_run [32] 400 (fun P hP => ?_)
  refine And.intro (hL.k 11 (by decide)) (Or.inl ⟨_, (hL.r 11 5 46 (by decide)), ?_⟩)
  refine Or.inl (And.intro (hL.k 46 (by decide)) (And.intro (hL.v 46 (by decide) h.1) ?_))
  have h := h.2
  refine And.intro (fun c => ?_) (fun c => ?_)
  · have h := h.1 c
    refine And.intro (hL.k 11 (by decide)) (Or.inl ⟨_, (hL.r 11 1 18 (by decide)), ?_⟩)
    refine And.intro (hL.k 11 (by decide)) ?_
    refine And.intro (hL.k 18 (by decide)) (And.intro (hL.v 18 (by decide) h.1) ?_)
    have h := h.2 _ rfl
    refine And.intro (hL.k 11 (by decide)) ?_
    refine And.intro (hL.k 11 (by decide)) ?_
    have h := h _ rfl
    exact And.intro rfl (And.intro rfl h)
  · have h := h.2 c
    refine And.intro (hL.k 11 (by decide)) (Or.inl ⟨_, (hL.r 11 4 21 (by decide)), ?_⟩)
    have hz1 := h.1
    refine And.intro (hL.k 21 (by decide)) (And.intro (hL.v 21 (by decide) h.1) (Or.inl ⟨_, (hL.zr hz1), ?_⟩))
    have h := h.2
    refine Or.inl (And.intro (hL.zk hz1) (And.intro (hL.zv hz1 h.1) ?_))
    have h := h.2
    refine And.intro (hL.k 11 (by decide)) ?_
    refine g_Em h (fun r u h => ?_)
    obtain ⟨rfl, hL, h⟩ := h
    exact hP _ h
theorem x_Bounds_find {cx : gCx} {d : Nat} {ad : Nat → Nat} {p : Nat} (hp : isP p) {t : gSt} {post : Option Value → gSt → Prop} (hL : Lay t ad) (h : g_W cx (g_E cx d) mt_Bounds_find post (2, [some (.ref (ad 79)), some (.ref (ad p)), some (.int 0), none, none, none], [], t, 0, 0)) : g_E cx (d + 1) i_Bounds_find [.ref (ad 79), .ref (ad p)] t post := by
  refine g_call mt_Bounds_find rfl (by decide) (Nat.le_of_ble_eq_true rfl) ?_
  refine g_run [2, 63, 128, 146] 400 (fun P hP => ?_)
  exact hP _ h
theorem x_Bounds_find_2 {cx : gCx} {d : Nat} {ad : Nat → Nat} {p : Nat} (hp : isP p) {l2 : Int32} {t : gSt} {post : Option Value → gSt → Prop} (hL : Lay t ad) (h : ((t.2.1 (ad p) 15) ≤ l2 → g_E cx d i_Tr_closeOver [.ref (ad 82), .int (t.2.1 (ad p) 15)] t (fun r u1 => r = none ∧ Lay u1 ad ∧ (g_E cx d i_Bounds_findEndless [.ref (ad 79), .int (u1.2.1 (ad p) 15)] u1 (fun r u3 => ∃ y4 : Int32, r = some (.int y4) ∧ Lay u3 ad ∧ (g_W cx (g_E cx d) mt_Bounds_find post (63, [some (.ref (ad 79)), some (.ref (ad p)), some (.int y4), some (.int 0), none, none], [], u3, 0, 0)))))) ∧ (¬ ((t.2.1 (ad p) 15) ≤ l2) → g_E cx d i_Bounds_gather [.ref (ad 79), .ref (ad p), .int l2] t (fun r u5 => r = none ∧ Lay u5 ad ∧ (vp_in l2 24 ∧ (vp_in l2 24 ∧ (vp_in l2 24 ∧ (∀ t7, t7 = g_si u5 (ad 82) (l2 : Int32).toNatClampNeg ((u5.2.1 (ad 80) (l2 : Int32).toNatClampNeg) ||| (u5.2.1 (ad 81) (l2 : Int32).toNatClampNeg)) → g_W cx (g_E cx d) mt_Bounds_find post (2, [some (.ref (ad 79)), some (.ref (ad p)), some (.int (l2 + 1)), none, none, none], [], t7, 0, 0)))))))) : g_W cx (g_E cx d) mt_Bounds_find post (2, [some (.ref (ad 79)), some (.ref (ad p)), some (.int l2), none, none, none], [], t, 0, 0) := by
  refine g_run [2, 63, 128, 146] 400 (fun P hP => ?_)
  refine And.intro (hL.pk hp 0 (by decide)) ?_
  refine And.intro (fun c => ?_) (fun c => ?_)
  · have h := h.1 c
    refine And.intro (hL.k 79 (by decide)) (Or.inl ⟨_, (hL.r 79 2 82 (by decide)), ?_⟩)
    refine And.intro (hL.pk hp 0 (by decide)) ?_
    refine g_Em h (fun r u h => ?_)
    obtain ⟨rfl, hL, h⟩ := h
    refine And.intro (hL.pk hp 0 (by decide)) ?_
    refine And.intro (hL.k 79 (by decide)) ?_
    refine g_Em h (fun r u h => ?_)
    obtain ⟨y4, rfl, hL, h⟩ := h
    exact hP _ h
  · have h := h.2 c
    refine And.intro (hL.k 79 (by decide)) ?_
    refine g_Em h (fun r u h => ?_)
    obtain ⟨rfl, hL, h⟩ := h
    refine And.intro (hL.k 79 (by decide)) (Or.inl ⟨_, (hL.r 79 2 82 (by decide)), ?_⟩)
    refine And.intro (hL.k 79 (by decide)) (Or.inl ⟨_, (hL.r 79 0 80 (by decide)), ?_⟩)
    refine Or.inl (And.intro (hL.k 80 (by decide)) (And.intro (hL.v 80 (by decide) h.1) ?_))
    have h := h.2
    refine And.intro (hL.k 79 (by decide)) (Or.inl ⟨_, (hL.r 79 1 81 (by decide)), ?_⟩)
    refine Or.inl (And.intro (hL.k 81 (by decide)) (And.intro (hL.v 81 (by decide) h.1) ?_))
    have h := h.2
    refine And.intro (hL.k 82 (by decide)) (And.intro (hL.v 82 (by decide) h.1) ?_)
    have h := h.2 _ rfl
    exact hP _ h
theorem x_Bounds_find_63 {cx : gCx} {d : Nat} {ad : Nat → Nat} {p : Nat} (hp : isP p) {l2 l3 : Int32} {o4 : Option Value} {t : gSt} {post : Option Value → gSt → Prop} (hL : Lay t ad) (h : ((t.2.1 (ad p) 15) ≤ l3 → g_W cx (g_E cx d) mt_Bounds_find post (128, [some (.ref (ad 79)), some (.ref (ad p)), some (.int l2), some (.int 1), some (.int 0), none], [], t, 0, 0)) ∧ (¬ ((t.2.1 (ad p) 15) ≤ l3) → g_E cx d i_Tr_hasBit [.int l2, .int l3] t (fun r u1 => ∃ y2 : Int32, r = some (.int y2) ∧ Lay u1 ad ∧ ((¬ y2 = 0 → vp_in l3 24 ∧ (∀ t3, t3 = g_si u1 (ad (p + 11)) (l3 : Int32).toNatClampNeg (-1) → g_W cx (g_E cx d) mt_Bounds_find post (63, [some (.ref (ad 79)), some (.ref (ad p)), some (.int l2), some (.int (l3 + 1)), some (.int 1), none], [], t3, 0, 0))) ∧ (¬ (¬ y2 = 0) → vp_in l3 24 ∧ ((((u1.2.1 (ad 82) (l3 : Int32).toNatClampNeg) &&& l2) = 0 → g_E cx d i_Program_frame [.ref (ad p), .int l3] u1 (fun r u4 => ∃ y5 : Int32, r = some (.int y5) ∧ Lay u4 ad ∧ (vp_in l3 24 ∧ (∀ t6, t6 = g_si u4 (ad (p + 11)) (l3 : Int32).toNatClampNeg y5 → g_W cx (g_E cx d) mt_Bounds_find post (63, [some (.ref (ad 79)), some (.ref (ad p)), some (.int l2), some (.int (l3 + 1)), some (.int 0), none], [], t6, 0, 0))))) ∧ (¬ (((u1.2.1 (ad 82) (l3 : Int32).toNatClampNeg) &&& l2) = 0) → vp_in l3 24 ∧ (∀ t7, t7 = g_si u1 (ad (p + 11)) (l3 : Int32).toNatClampNeg (-1) → g_W cx (g_E cx d) mt_Bounds_find post (63, [some (.ref (ad 79)), some (.ref (ad p)), some (.int l2), some (.int (l3 + 1)), some (.int 1), none], [], t7, 0, 0))))))))) : g_W cx (g_E cx d) mt_Bounds_find post (63, [some (.ref (ad 79)), some (.ref (ad p)), some (.int l2), some (.int l3), o4, none], [], t, 0, 0) := by
  refine g_run [2, 63, 128, 146] 400 (fun P hP => ?_)
  refine And.intro (hL.pk hp 0 (by decide)) ?_
  refine And.intro (fun c => ?_) (fun c => ?_)
  · have h := h.1 c
    exact hP _ h
  · have h := h.2 c
    refine g_Em h (fun r u h => ?_)
    obtain ⟨y2, rfl, hL, h⟩ := h
    refine And.intro (fun c => ?_) (fun c => ?_)
    · have h := h.1 c
      refine And.intro (hL.pk hp 0 (by decide)) (Or.inl ⟨_, (hL.pr hp 14 (by decide)), ?_⟩)
      refine And.intro (fun c => absurd (show (1 : Int32) = (0 : Int32) from c) (by decide)) (fun c => ?_)
      refine And.intro (hL.pk hp 11 (by decide)) (And.intro (hL.pv hp 11 (by decide) (by decide) h.1) ?_)
      have h := h.2 _ rfl
      exact hP _ h
    · have h := h.2 c
      refine And.intro (hL.k 79 (by decide)) (Or.inl ⟨_, (hL.r 79 2 82 (by decide)), ?_⟩)
      refine Or.inl (And.intro (hL.k 82 (by decide)) (And.intro (hL.v 82 (by decide) h.1) ?_))
      have h := h.2
      refine And.intro (fun c => ?_) (fun c => ?_)
      · have h := h.1 c
        refine And.intro (hL.pk hp 0 (by decide)) (Or.inl ⟨_, (hL.pr hp 14 (by decide)), ?_⟩)
        refine And.intro (fun c => ?_) (fun c => (c (show (0 : Int32) = (0 : Int32) by decide)).elim)
        refine And.intro (hL.pk hp 0 (by decide)) ?_
        refine g_Em h (fun r u h => ?_)
        obtain ⟨y5, rfl, hL, h⟩ := h
        refine And.intro (hL.pk hp 11 (by decide)) (And.intro (hL.pv hp 11 (by decide) (by decide) h.1) ?_)
        have h := h.2 _ rfl
        exact hP _ h
      · have h := h.2 c
        refine And.intro (hL.pk hp 0 (by decide)) (Or.inl ⟨_, (hL.pr hp 14 (by decide)), ?_⟩)
        refine And.intro (fun c => absurd (show (1 : Int32) = (0 : Int32) from c) (by decide)) (fun c => ?_)
        refine And.intro (hL.pk hp 11 (by decide)) (And.intro (hL.pv hp 11 (by decide) (by decide) h.1) ?_)
        have h := h.2 _ rfl
        exact hP _ h
theorem x_Bounds_find_128 {cx : gCx} {d : Nat} {ad : Nat → Nat} {p : Nat} (hp : isP p) {l2 l3 l4 : Int32} {o5 : Option Value} {t : gSt} {post : Option Value → gSt → Prop} (hL : Lay t ad) (h : ((t.2.1 (ad p) 15) ≤ l4 → post none t) ∧ (¬ ((t.2.1 (ad p) 15) ≤ l4) → (l3 = 0 → post none t) ∧ (¬ (l3 = 0) → g_W cx (g_E cx d) mt_Bounds_find post (146, [some (.ref (ad 79)), some (.ref (ad p)), some (.int l2), some (.int 0), some (.int l4), some (.int 0)], [], t, 0, 0)))) : g_W cx (g_E cx d) mt_Bounds_find post (128, [some (.ref (ad 79)), some (.ref (ad p)), some (.int l2), some (.int l3), some (.int l4), o5], [], t, 0, 0) := by
  refine g_run [2, 63, 128, 146] 400 (fun P hP => ?_)
  refine And.intro (hL.pk hp 0 (by decide)) ?_
  refine And.intro (fun c => ?_) (fun c => ?_)
  · have h := h.1 c
    exact And.intro rfl (And.intro rfl h)
  · have h := h.2 c
    refine And.intro (fun c => ?_) (fun c => ?_)
    · have h := h.1 c
      exact And.intro rfl (And.intro rfl h)
    · have h := h.2 c
      exact hP _ h
theorem x_Bounds_find_146 {cx : gCx} {d : Nat} {ad : Nat → Nat} {p : Nat} (hp : isP p) {l2 l3 l4 l5 : Int32} {t : gSt} {post : Option Value → gSt → Prop} (hL : Lay t ad) (h : ((t.2.1 (ad p) 15) ≤ l5 → g_W cx (g_E cx d) mt_Bounds_find post (128, [some (.ref (ad 79)), some (.ref (ad p)), some (.int l2), some (.int l3), some (.int (l4 + 1)), some (.int l5)], [], t, 0, 0)) ∧ (¬ ((t.2.1 (ad p) 15) ≤ l5) → g_E cx d i_Bounds_raise [.ref (ad 79), .ref (ad p), .int l5] t (fun r u1 => ∃ y2 : Int32, r = some (.int y2) ∧ Lay u1 ad ∧ (∀ x3 : Int32, x3 = (l3 ||| y2) → g_W cx (g_E cx d) mt_Bounds_find post (146, [some (.ref (ad 79)), some (.ref (ad p)), some (.int l2), some (.int x3), some (.int l4), some (.int (l5 + 1))], [], u1, 0, 0))))) : g_W cx (g_E cx d) mt_Bounds_find post (146, [some (.ref (ad 79)), some (.ref (ad p)), some (.int l2), some (.int l3), some (.int l4), some (.int l5)], [], t, 0, 0) := by
  refine g_run [2, 63, 128, 146] 400 (fun P hP => ?_)
  refine And.intro (hL.pk hp 0 (by decide)) ?_
  refine And.intro (fun c => ?_) (fun c => ?_)
  · have h := h.1 c
    exact hP _ h
  · have h := h.2 c
    refine And.intro (hL.k 79 (by decide)) ?_
    refine g_Em h (fun r u h => ?_)
    obtain ⟨y2, rfl, hL, h⟩ := h
    have h := h _ rfl
    exact hP _ h
theorem x_Bounds_gather {cx : gCx} {d : Nat} {ad : Nat → Nat} {p : Nat} (hp : isP p) {a2 : Int32} {t : gSt} {post : Option Value → gSt → Prop} (hL : Lay t ad) (h : vp_in a2 24 ∧ (∀ t1, t1 = g_si t (ad 80) (a2 : Int32).toNatClampNeg 0 → vp_in a2 24 ∧ (∀ t2, t2 = g_si t1 (ad 81) (a2 : Int32).toNatClampNeg 0 → vp_in a2 24 ∧ (∀ x3 : Int32, x3 = (t2.2.1 (ad (p + 7)) (a2 : Int32).toNatClampNeg) → g_W cx (g_E cx d) mt_Bounds_gather post (21, [some (.ref (ad 79)), some (.ref (ad p)), some (.int a2), some (.int x3)], [], t2, 0, 0))))) : g_E cx (d + 1) i_Bounds_gather [.ref (ad 79), .ref (ad p), .int a2] t post := by
  refine g_call mt_Bounds_gather rfl (by decide) (Nat.le_of_ble_eq_true rfl) ?_
  refine g_run [21] 400 (fun P hP => ?_)
  refine And.intro (hL.k 79 (by decide)) (Or.inl ⟨_, (hL.r 79 0 80 (by decide)), ?_⟩)
  refine And.intro (hL.k 80 (by decide)) (And.intro (hL.v 80 (by decide) h.1) ?_)
  have h := h.2 _ rfl
  refine And.intro (hL.k 79 (by decide)) (Or.inl ⟨_, (hL.r 79 1 81 (by decide)), ?_⟩)
  refine And.intro (hL.k 81 (by decide)) (And.intro (hL.v 81 (by decide) h.1) ?_)
  have h := h.2 _ rfl
  refine And.intro (hL.pk hp 0 (by decide)) (Or.inl ⟨_, (hL.pr hp 10 (by decide)), ?_⟩)
  refine Or.inl (And.intro (hL.pk hp 7 (by decide)) (And.intro (hL.pv hp 7 (by decide) (by decide) h.1) ?_))
  have h := h.2
  have h := h _ rfl
  exact hP _ h
theorem x_Bounds_gather_21 {cx : gCx} {d : Nat} {ad : Nat → Nat} {p : Nat} (hp : isP p) {l2 l3 : Int32} {t : gSt} {post : Option Value → gSt → Prop} (hL : Lay t ad) (h : vp_in l2 24 ∧ (vp_in l2 24 ∧ ((((t.2.1 (ad (p + 7)) (l2 : Int32).toNatClampNeg) + (t.2.1 (ad (p + 8)) (l2 : Int32).toNatClampNeg)) ≤ l3 → post none t) ∧ (¬ (((t.2.1 (ad (p + 7)) (l2 : Int32).toNatClampNeg) + (t.2.1 (ad (p + 8)) (l2 : Int32).toNatClampNeg)) ≤ l3) → vp_in l3 (c_len (p + 14)) ∧ ((¬ (t.2.1 (ad (p + 14)) (l3 : Int32).toNatClampNeg) = 16 → vp_in l3 (c_len (p + 14)) ∧ ((¬ (t.2.1 (ad (p + 14)) (l3 : Int32).toNatClampNeg) = 19 → g_W cx (g_E cx d) mt_Bounds_gather post (21, [some (.ref (ad 79)), some (.ref (ad p)), some (.int l2), some (.int (l3 + 1))], [], t, 0, 0)) ∧ (¬ (¬ (t.2.1 (ad (p + 14)) (l3 : Int32).toNatClampNeg) = 19) → vp_in l2 24 ∧ (vp_in l3 (c_len (p + 15)) ∧ (vp_in l2 24 ∧ (∀ t1, t1 = g_si t (ad 81) (l2 : Int32).toNatClampNeg ((t.2.1 (ad 81) (l2 : Int32).toNatClampNeg) ||| (1 <<< ((t.2.1 (ad (p + 15)) (l3 : Int32).toNatClampNeg) &&& 31))) → g_W cx (g_E cx d) mt_Bounds_gather post (21, [some (.ref (ad 79)), some (.ref (ad p)), some (.int l2), some (.int (l3 + 1))], [], t1, 0, 0))))))) ∧ (¬ (¬ (t.2.1 (ad (p + 14)) (l3 : Int32).toNatClampNeg) = 16) → vp_in l2 24 ∧ (vp_in l3 (c_len (p + 15)) ∧ (vp_in l2 24 ∧ (∀ t2, t2 = g_si t (ad 80) (l2 : Int32).toNatClampNeg ((t.2.1 (ad 80) (l2 : Int32).toNatClampNeg) ||| (1 <<< ((t.2.1 (ad (p + 15)) (l3 : Int32).toNatClampNeg) &&& 31))) → g_W cx (g_E cx d) mt_Bounds_gather post (21, [some (.ref (ad 79)), some (.ref (ad p)), some (.int l2), some (.int (l3 + 1))], [], t2, 0, 0)))))))))) : g_W cx (g_E cx d) mt_Bounds_gather post (21, [some (.ref (ad 79)), some (.ref (ad p)), some (.int l2), some (.int l3)], [], t, 0, 0) := by
  refine g_run [21] 400 (fun P hP => ?_)
  refine And.intro (hL.pk hp 0 (by decide)) (Or.inl ⟨_, (hL.pr hp 10 (by decide)), ?_⟩)
  refine Or.inl (And.intro (hL.pk hp 7 (by decide)) (And.intro (hL.pv hp 7 (by decide) (by decide) h.1) ?_))
  have h := h.2
  refine And.intro (hL.pk hp 0 (by decide)) (Or.inl ⟨_, (hL.pr hp 11 (by decide)), ?_⟩)
  refine Or.inl (And.intro (hL.pk hp 8 (by decide)) (And.intro (hL.pv hp 8 (by decide) (by decide) h.1) ?_))
  have h := h.2
  refine And.intro (fun c => ?_) (fun c => ?_)
  · have h := h.1 c
    exact And.intro rfl (And.intro rfl h)
  · have h := h.2 c
    refine And.intro (hL.pk hp 0 (by decide)) (Or.inl ⟨_, (hL.pr hp 8 (by decide)), ?_⟩)
    refine Or.inl (And.intro (hL.pk hp 14 (by decide)) (And.intro (hL.pv2 hp 14 (by decide) h.1) ?_))
    have h := h.2
    refine And.intro (fun c => ?_) (fun c => ?_)
    · have h := h.1 c
      refine And.intro (hL.pk hp 0 (by decide)) (Or.inl ⟨_, (hL.pr hp 8 (by decide)), ?_⟩)
      refine Or.inl (And.intro (hL.pk hp 14 (by decide)) (And.intro (hL.pv2 hp 14 (by decide) h.1) ?_))
      have h := h.2
      refine And.intro (fun c => ?_) (fun c => ?_)
      · have h := h.1 c
        exact hP _ h
      · have h := h.2 c
        refine And.intro (hL.k 79 (by decide)) (Or.inl ⟨_, (hL.r 79 1 81 (by decide)), ?_⟩)
        refine Or.inl (And.intro (hL.k 81 (by decide)) (And.intro (hL.v 81 (by decide) h.1) ?_))
        have h := h.2
        refine And.intro (hL.pk hp 0 (by decide)) (Or.inl ⟨_, (hL.pr hp 9 (by decide)), ?_⟩)
        refine Or.inl (And.intro (hL.pk hp 15 (by decide)) (And.intro (hL.pv2 hp 15 (by decide) h.1) ?_))
        have h := h.2
        refine And.intro (hL.k 81 (by decide)) (And.intro (hL.v 81 (by decide) h.1) ?_)
        have h := h.2 _ rfl
        exact hP _ h
    · have h := h.2 c
      refine And.intro (hL.k 79 (by decide)) (Or.inl ⟨_, (hL.r 79 0 80 (by decide)), ?_⟩)
      refine Or.inl (And.intro (hL.k 80 (by decide)) (And.intro (hL.v 80 (by decide) h.1) ?_))
      have h := h.2
      refine And.intro (hL.pk hp 0 (by decide)) (Or.inl ⟨_, (hL.pr hp 9 (by decide)), ?_⟩)
      refine Or.inl (And.intro (hL.pk hp 15 (by decide)) (And.intro (hL.pv2 hp 15 (by decide) h.1) ?_))
      have h := h.2
      refine And.intro (hL.k 80 (by decide)) (And.intro (hL.v 80 (by decide) h.1) ?_)
      have h := h.2 _ rfl
      exact hP _ h
theorem x_Bounds_findEndless {cx : gCx} {d : Nat} {ad : Nat → Nat} {a1 : Int32} {t : gSt} {post : Option Value → gSt → Prop} (hL : Lay t ad) (h : g_W cx (g_E cx d) mt_Bounds_findEndless post (4, [some (.ref (ad 79)), some (.int a1), some (.int 0), some (.int 0), none], [], t, 0, 0)) : g_E cx (d + 1) i_Bounds_findEndless [.ref (ad 79), .int a1] t post := by
  refine g_call mt_Bounds_findEndless rfl (by decide) (Nat.le_of_ble_eq_true rfl) ?_
  refine g_run [4, 12] 400 (fun P hP => ?_)
  exact hP _ h
theorem x_Bounds_findEndless_4 {cx : gCx} {d : Nat} {ad : Nat → Nat} {l1 l2 l3 : Int32} {o4 : Option Value} {t : gSt} {post : Option Value → gSt → Prop} (hL : Lay t ad) (h : (l1 ≤ l3 → post (some (.int l2)) t) ∧ (¬ (l1 ≤ l3) → g_W cx (g_E cx d) mt_Bounds_findEndless post (12, [some (.ref (ad 79)), some (.int l1), some (.int l2), some (.int l3), some (.int 0)], [], t, 0, 0))) : g_W cx (g_E cx d) mt_Bounds_findEndless post (4, [some (.ref (ad 79)), some (.int l1), some (.int l2), some (.int l3), o4], [], t, 0, 0) := by
  refine g_run [4, 12] 400 (fun P hP => ?_)
  refine And.intro (fun c => ?_) (fun c => ?_)
  · have h := h.1 c
    exact And.intro rfl (And.intro rfl h)
  · have h := h.2 c
    exact hP _ h
theorem x_Bounds_findEndless_12 {cx : gCx} {d : Nat} {ad : Nat → Nat} {l1 l2 l3 l4 : Int32} {t : gSt} {post : Option Value → gSt → Prop} (hL : Lay t ad) (h : (l1 ≤ l4 → g_W cx (g_E cx d) mt_Bounds_findEndless post (4, [some (.ref (ad 79)), some (.int l1), some (.int l2), some (.int (l3 + 1)), some (.int l4)], [], t, 0, 0)) ∧ (¬ (l1 ≤ l4) → vp_in l3 24 ∧ (g_E cx d i_Tr_hasBit [.int (t.2.1 (ad 80) (l3 : Int32).toNatClampNeg), .int l4] t (fun r u1 => ∃ y2 : Int32, r = some (.int y2) ∧ Lay u1 ad ∧ ((y2 = 0 → g_W cx (g_E cx d) mt_Bounds_findEndless post (12, [some (.ref (ad 79)), some (.int l1), some (.int l2), some (.int l3), some (.int (l4 + 1))], [], u1, 0, 0)) ∧ (¬ (y2 = 0) → (l4 = l3 → ∀ x3 : Int32, x3 = (l2 ||| (1 <<< (l3 &&& 31))) → g_W cx (g_E cx d) mt_Bounds_findEndless post (12, [some (.ref (ad 79)), some (.int l1), some (.int x3), some (.int l3), some (.int (l4 + 1))], [], u1, 0, 0)) ∧ (¬ (l4 = l3) → vp_in l4 24 ∧ (g_E cx d i_Tr_hasBit [.int (u1.2.1 (ad 82) (l4 : Int32).toNatClampNeg), .int l3] u1 (fun r u4 => ∃ y5 : Int32, r = some (.int y5) ∧ Lay u4 ad ∧ ((y5 = 0 → g_W cx (g_E cx d) mt_Bounds_findEndless post (12, [some (.ref (ad 79)), some (.int l1), some (.int l2), some (.int l3), some (.int (l4 + 1))], [], u4, 0, 0)) ∧ (¬ (y5 = 0) → ∀ x6 : Int32, x6 = (l2 ||| (1 <<< (l3 &&& 31))) → g_W cx (g_E cx d) mt_Bounds_findEndless post (12, [some (.ref (ad 79)), some (.int l1), some (.int x6), some (.int l3), some (.int (l4 + 1))], [], u4, 0, 0)))))))))))) : g_W cx (g_E cx d) mt_Bounds_findEndless post (12, [some (.ref (ad 79)), some (.int l1), some (.int l2), some (.int l3), some (.int l4)], [], t, 0, 0) := by
  refine g_run [4, 12] 400 (fun P hP => ?_)
  refine And.intro (fun c => ?_) (fun c => ?_)
  · have h := h.1 c
    exact hP _ h
  · have h := h.2 c
    refine And.intro (hL.k 79 (by decide)) (Or.inl ⟨_, (hL.r 79 0 80 (by decide)), ?_⟩)
    refine Or.inl (And.intro (hL.k 80 (by decide)) (And.intro (hL.v 80 (by decide) h.1) ?_))
    have h := h.2
    refine g_Em h (fun r u h => ?_)
    obtain ⟨y2, rfl, hL, h⟩ := h
    refine And.intro (fun c => ?_) (fun c => ?_)
    · have h := h.1 c
      exact hP _ h
    · have h := h.2 c
      refine And.intro (fun c => ?_) (fun c => ?_)
      · have h := h.1 c
        have h := h _ rfl
        exact hP _ h
      · have h := h.2 c
        refine And.intro (hL.k 79 (by decide)) (Or.inl ⟨_, (hL.r 79 2 82 (by decide)), ?_⟩)
        refine Or.inl (And.intro (hL.k 82 (by decide)) (And.intro (hL.v 82 (by decide) h.1) ?_))
        have h := h.2
        refine g_Em h (fun r u h => ?_)
        obtain ⟨y5, rfl, hL, h⟩ := h
        refine And.intro (fun c => ?_) (fun c => ?_)
        · have h := h.1 c
          exact hP _ h
        · have h := h.2 c
          have h := h _ rfl
          exact hP _ h
theorem x_Bounds_raise {cx : gCx} {d : Nat} {ad : Nat → Nat} {p : Nat} (hp : isP p) {a2 : Int32} {t : gSt} {post : Option Value → gSt → Prop} (hL : Lay t ad) (h : vp_in a2 24 ∧ (∀ x1 : Int32, x1 = (t.2.1 (ad (p + 11)) (a2 : Int32).toNatClampNeg) → (¬ x1 = (-1) → g_W cx (g_E cx d) mt_Bounds_raise post (17, [some (.ref (ad 79)), some (.ref (ad p)), some (.int a2), some (.int x1), some (.int 0)], [], t, 0, 0)) ∧ (¬ (¬ x1 = (-1)) → post (some (.int 0)) t))) : g_E cx (d + 1) i_Bounds_raise [.ref (ad 79), .ref (ad p), .int a2] t post := by
  refine g_call mt_Bounds_raise rfl (by decide) (Nat.le_of_ble_eq_true rfl) ?_
  refine g_run [17] 400 (fun P hP => ?_)
  refine And.intro (hL.pk hp 0 (by decide)) (Or.inl ⟨_, (hL.pr hp 14 (by decide)), ?_⟩)
  refine Or.inl (And.intro (hL.pk hp 11 (by decide)) (And.intro (hL.pv hp 11 (by decide) (by decide) h.1) ?_))
  have h := h.2
  have h := h _ rfl
  refine And.intro (fun c => ?_) (fun c => ?_)
  · have h := h.1 c
    exact hP _ h
  · have h := h.2 c
    exact And.intro rfl (And.intro rfl h)
theorem x_Bounds_raise_17 {cx : gCx} {d : Nat} {ad : Nat → Nat} {p : Nat} (hp : isP p) {l2 l3 l4 : Int32} {t : gSt} {post : Option Value → gSt → Prop} (hL : Lay t ad) (h : ((t.2.1 (ad p) 15) ≤ l4 → vp_in l2 24 ∧ (((t.2.1 (ad (p + 11)) (l2 : Int32).toNatClampNeg) = l3 → post (some (.int 0)) t) ∧ (¬ ((t.2.1 (ad (p + 11)) (l2 : Int32).toNatClampNeg) = l3) → post (some (.int 1)) t))) ∧ (¬ ((t.2.1 (ad p) 15) ≤ l4) → vp_in l2 24 ∧ (g_E cx d i_Tr_hasBit [.int (t.2.1 (ad 80) (l2 : Int32).toNatClampNeg), .int l4] t (fun r u1 => ∃ y2 : Int32, r = some (.int y2) ∧ Lay u1 ad ∧ ((y2 = 0 → vp_in l2 24 ∧ (g_E cx d i_Tr_hasBit [.int (u1.2.1 (ad 81) (l2 : Int32).toNatClampNeg), .int l4] u1 (fun r u3 => ∃ y4 : Int32, r = some (.int y4) ∧ Lay u3 ad ∧ ((y4 = 0 → g_W cx (g_E cx d) mt_Bounds_raise post (17, [some (.ref (ad 79)), some (.ref (ad p)), some (.int l2), some (.int l3), some (.int (l4 + 1))], [], u3, 0, 0)) ∧ (¬ (y4 = 0) → vp_in l2 24 ∧ (vp_in l4 24 ∧ (vp_in l2 24 ∧ (∀ t5, t5 = g_si u3 (ad (p + 11)) (l2 : Int32).toNatClampNeg (if (u3.2.1 (ad (p + 11)) (l2 : Int32).toNatClampNeg) < (u3.2.1 (ad (p + 11)) (l4 : Int32).toNatClampNeg) then (u3.2.1 (ad (p + 11)) (l4 : Int32).toNatClampNeg) else (u3.2.1 (ad (p + 11)) (l2 : Int32).toNatClampNeg)) → g_W cx (g_E cx d) mt_Bounds_raise post (17, [some (.ref (ad 79)), some (.ref (ad p)), some (.int l2), some (.int l3), some (.int (l4 + 1))], [], t5, 0, 0))))))))) ∧ (¬ (y2 = 0) → vp_in l2 24 ∧ (g_E cx d i_Program_frame [.ref (ad p), .int l2] u1 (fun r u6 => ∃ y7 : Int32, r = some (.int y7) ∧ Lay u6 ad ∧ (vp_in l4 24 ∧ (vp_in l2 24 ∧ (∀ t8, t8 = g_si u6 (ad (p + 11)) (l2 : Int32).toNatClampNeg (if (u1.2.1 (ad (p + 11)) (l2 : Int32).toNatClampNeg) < (y7 + (u6.2.1 (ad (p + 11)) (l4 : Int32).toNatClampNeg)) then (y7 + (u6.2.1 (ad (p + 11)) (l4 : Int32).toNatClampNeg)) else (u1.2.1 (ad (p + 11)) (l2 : Int32).toNatClampNeg)) → vp_in l2 24 ∧ (g_E cx d i_Tr_hasBit [.int (t8.2.1 (ad 81) (l2 : Int32).toNatClampNeg), .int l4] t8 (fun r u9 => ∃ y10 : Int32, r = some (.int y10) ∧ Lay u9 ad ∧ ((y10 = 0 → g_W cx (g_E cx d) mt_Bounds_raise post (17, [some (.ref (ad 79)), some (.ref (ad p)), some (.int l2), some (.int l3), some (.int (l4 + 1))], [], u9, 0, 0)) ∧ (¬ (y10 = 0) → vp_in l2 24 ∧ (vp_in l4 24 ∧ (vp_in l2 24 ∧ (∀ t11, t11 = g_si u9 (ad (p + 11)) (l2 : Int32).toNatClampNeg (if (u9.2.1 (ad (p + 11)) (l2 : Int32).toNatClampNeg) < (u9.2.1 (ad (p + 11)) (l4 : Int32).toNatClampNeg) then (u9.2.1 (ad (p + 11)) (l4 : Int32).toNatClampNeg) else (u9.2.1 (ad (p + 11)) (l2 : Int32).toNatClampNeg)) → g_W cx (g_E cx d) mt_Bounds_raise post (17, [some (.ref (ad 79)), some (.ref (ad p)), some (.int l2), some (.int l3), some (.int (l4 + 1))], [], t11, 0, 0))))))))))))))))))) : g_W cx (g_E cx d) mt_Bounds_raise post (17, [some (.ref (ad 79)), some (.ref (ad p)), some (.int l2), some (.int l3), some (.int l4)], [], t, 0, 0) := by
  refine g_run [17] 400 (fun P hP => ?_)
  refine And.intro (hL.pk hp 0 (by decide)) ?_
  refine And.intro (fun c => ?_) (fun c => ?_)
  · have h := h.1 c
    refine And.intro (hL.pk hp 0 (by decide)) (Or.inl ⟨_, (hL.pr hp 14 (by decide)), ?_⟩)
    refine Or.inl (And.intro (hL.pk hp 11 (by decide)) (And.intro (hL.pv hp 11 (by decide) (by decide) h.1) ?_))
    have h := h.2
    refine And.intro (fun c => ?_) (fun c => ?_)
    · have h := h.1 c
      exact And.intro rfl (And.intro rfl h)
    · have h := h.2 c
      exact And.intro rfl (And.intro rfl h)
  · have h := h.2 c
    refine And.intro (hL.k 79 (by decide)) (Or.inl ⟨_, (hL.r 79 0 80 (by decide)), ?_⟩)
    refine Or.inl (And.intro (hL.k 80 (by decide)) (And.intro (hL.v 80 (by decide) h.1) ?_))
    have h := h.2
    refine g_Em h (fun r u h => ?_)
    obtain ⟨y2, rfl, hL, h⟩ := h
    refine And.intro (fun c => ?_) (fun c => ?_)
    · have h := h.1 c
      refine And.intro (hL.k 79 (by decide)) (Or.inl ⟨_, (hL.r 79 1 81 (by decide)), ?_⟩)
      refine Or.inl (And.intro (hL.k 81 (by decide)) (And.intro (hL.v 81 (by decide) h.1) ?_))
      have h := h.2
      refine g_Em h (fun r u h => ?_)
      obtain ⟨y4, rfl, hL, h⟩ := h
      refine And.intro (fun c => ?_) (fun c => ?_)
      · have h := h.1 c
        exact hP _ h
      · have h := h.2 c
        refine And.intro (hL.pk hp 0 (by decide)) (Or.inl ⟨_, (hL.pr hp 14 (by decide)), ?_⟩)
        refine And.intro (hL.pk hp 0 (by decide)) (Or.inl ⟨_, (hL.pr hp 14 (by decide)), ?_⟩)
        refine Or.inl (And.intro (hL.pk hp 11 (by decide)) (And.intro (hL.pv hp 11 (by decide) (by decide) h.1) ?_))
        have h := h.2
        refine And.intro (hL.pk hp 0 (by decide)) (Or.inl ⟨_, (hL.pr hp 14 (by decide)), ?_⟩)
        refine Or.inl (And.intro (hL.pk hp 11 (by decide)) (And.intro (hL.pv hp 11 (by decide) (by decide) h.1) ?_))
        have h := h.2
        refine And.intro (hL.pk hp 11 (by decide)) (And.intro (hL.pv hp 11 (by decide) (by decide) h.1) ?_)
        have h := h.2 _ rfl
        exact hP _ h
    · have h := h.2 c
      refine And.intro (hL.pk hp 0 (by decide)) (Or.inl ⟨_, (hL.pr hp 14 (by decide)), ?_⟩)
      refine And.intro (hL.pk hp 0 (by decide)) (Or.inl ⟨_, (hL.pr hp 14 (by decide)), ?_⟩)
      refine Or.inl (And.intro (hL.pk hp 11 (by decide)) (And.intro (hL.pv hp 11 (by decide) (by decide) h.1) ?_))
      have h := h.2
      refine And.intro (hL.pk hp 0 (by decide)) ?_
      refine g_Em h (fun r u h => ?_)
      obtain ⟨y7, rfl, hL, h⟩ := h
      refine And.intro (hL.pk hp 0 (by decide)) (Or.inl ⟨_, (hL.pr hp 14 (by decide)), ?_⟩)
      refine Or.inl (And.intro (hL.pk hp 11 (by decide)) (And.intro (hL.pv hp 11 (by decide) (by decide) h.1) ?_))
      have h := h.2
      refine And.intro (hL.pk hp 11 (by decide)) (And.intro (hL.pv hp 11 (by decide) (by decide) h.1) ?_)
      have h := h.2 _ rfl
      refine And.intro (hL.k 79 (by decide)) (Or.inl ⟨_, (hL.r 79 1 81 (by decide)), ?_⟩)
      refine Or.inl (And.intro (hL.k 81 (by decide)) (And.intro (hL.v 81 (by decide) h.1) ?_))
      have h := h.2
      refine g_Em h (fun r u h => ?_)
      obtain ⟨y10, rfl, hL, h⟩ := h
      refine And.intro (fun c => ?_) (fun c => ?_)
      · have h := h.1 c
        exact hP _ h
      · have h := h.2 c
        refine And.intro (hL.pk hp 0 (by decide)) (Or.inl ⟨_, (hL.pr hp 14 (by decide)), ?_⟩)
        refine And.intro (hL.pk hp 0 (by decide)) (Or.inl ⟨_, (hL.pr hp 14 (by decide)), ?_⟩)
        refine Or.inl (And.intro (hL.pk hp 11 (by decide)) (And.intro (hL.pv hp 11 (by decide) (by decide) h.1) ?_))
        have h := h.2
        refine And.intro (hL.pk hp 0 (by decide)) (Or.inl ⟨_, (hL.pr hp 14 (by decide)), ?_⟩)
        refine Or.inl (And.intro (hL.pk hp 11 (by decide)) (And.intro (hL.pv hp 11 (by decide) (by decide) h.1) ?_))
        have h := h.2
        refine And.intro (hL.pk hp 11 (by decide)) (And.intro (hL.pv hp 11 (by decide) (by decide) h.1) ?_)
        have h := h.2 _ rfl
        exact hP _ h
