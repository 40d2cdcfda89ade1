/-! PRINTED by wip/gen/xparts.py: symbolic execution, method by method -/
theorem x_Walk_begin {cx : gCx} {d : Nat} {ad : Nat → Nat} {p : Nat} (hp : isP p) {w : Nat} (hw : isW w) {a2 : Int32} {t : gSt} {post : Option Value → gSt → Prop} (hL : Lay t ad) (h : ∀ t1, t1 = g_sr t (ad w) 8 (some (ad p)) → vp_in a2 24 ∧ (∀ t3, t3 = g_si t1 (ad w) 9 (t1.2.1 (ad (p + 4)) (a2 : Int32).toNatClampNeg) → ∀ t4, t4 = g_si t3 (ad w) 10 0 → ∀ t5, t5 = g_si t4 (ad w) 5 0 → post none t5)) : g_E cx (d + 1) i_Walk_begin [.ref (ad w), .ref (ad p), .int a2] t post := by
  refine g_call mt_Walk_begin rfl (by decide) (Nat.le_of_ble_eq_true rfl) ?_
  refine g_run [] 400 (fun P hP => ?_)
  refine And.intro (hL.wk hw 0 (by decide)) ?_
  have h := h _ rfl
  have hL := hL.sr w 8 (some (ad p)) (g_srow hw (by decide))
  refine And.intro (hL.pk hp 0 (by decide)) (Or.inl ⟨_, (hL.pr hp 5 (by decide)), ?_⟩)
  refine Or.inl (And.intro (hL.pk hp 4 (by decide)) (And.intro (hL.pv hp 4 (by decide) (by decide) h.1) ?_))
  have h := h.2
  refine And.intro (hL.wk hw 0 (by decide)) ?_
  have h := h _ rfl
  refine And.intro (hL.wk hw 0 (by decide)) ?_
  have h := h _ rfl
  refine And.intro (hL.wk hw 0 (by decide)) ?_
  have h := h _ rfl
  exact And.intro rfl (And.intro rfl h)
theorem x_Walk_advance {cx : gCx} {d : Nat} {ad : Nat → Nat} {w : Nat} (hw : isW w) {t : gSt} {post : Option Value → gSt → Prop} (hL : Lay t ad) (h : (¬ (t.2.1 (ad w) 5) = 3 → ((t.2.1 (ad w) 10) ≤ 0 → g_E cx d i_Walk_enterNext [.ref (ad w)] t (fun r u1 => ∃ y2 : Int32, r = some (.int y2) ∧ Lay u1 ad ∧ (narrow .boolean (.int y2) = .int y2 ∧ post (some (.int y2)) u1))) ∧ (¬ ((t.2.1 (ad w) 10) ≤ 0) → vp_in ((t.2.1 (ad w) 10) - 1) 500 ∧ (vp_in ((t.2.1 (ad w) 10) - 1) 500 ∧ (((t.2.1 (ad (w + 4)) (((t.2.1 (ad w) 10) - 1) : Int32).toNatClampNeg) < (t.2.1 (ad (w + 5)) (((t.2.1 (ad w) 10) - 1) : Int32).toNatClampNeg) → g_E cx d i_Walk_enterNext [.ref (ad w)] t (fun r u3 => ∃ y4 : Int32, r = some (.int y4) ∧ Lay u3 ad ∧ (narrow .boolean (.int y4) = .int y4 ∧ post (some (.int y4)) u3))) ∧ (¬ ((t.2.1 (ad (w + 4)) (((t.2.1 (ad w) 10) - 1) : Int32).toNatClampNeg) < (t.2.1 (ad (w + 5)) (((t.2.1 (ad w) 10) - 1) : Int32).toNatClampNeg)) → ∀ t5, t5 = g_si t (ad w) 5 3 → ∀ t6, t6 = g_si t5 (ad w) 6 ((t5.2.1 (ad w) 10) - 1) → post (some (.int 1)) t6))))) ∧ (¬ (¬ (t.2.1 (ad w) 5) = 3) → ∀ t7, t7 = g_si t (ad w) 10 ((t.2.1 (ad w) 10) - 1) → (0 < (t7.2.1 (ad w) 10) → ∀ t8, t8 = g_si t7 (ad w) 5 2 → ∀ t9, t9 = g_si t8 (ad w) 6 ((t8.2.1 (ad w) 10) - 1) → vp_in (t9.2.1 (ad w) 6) 500 ∧ (∀ t10, t10 = g_si t9 (ad w) 7 (t9.2.1 (ad (w + 4)) ((t9.2.1 (ad w) 6) : Int32).toNatClampNeg) → vp_in (t10.2.1 (ad w) 6) 500 ∧ (vp_in (t10.2.1 (ad w) 6) 500 ∧ (∀ t11, t11 = g_si t10 (ad (w + 4)) ((t10.2.1 (ad w) 6) : Int32).toNatClampNeg ((t10.2.1 (ad (w + 4)) ((t10.2.1 (ad w) 6) : Int32).toNatClampNeg) + 1) → post (some (.int 1)) t11)))) ∧ (¬ (0 < (t7.2.1 (ad w) 10)) → post (some (.int 0)) t7))) : g_E cx (d + 1) i_Walk_advance [.ref (ad w)] t post := by
  refine g_call mt_Walk_advance rfl (by decide) (Nat.le_of_ble_eq_true rfl) ?_
  refine g_run [] 400 (fun P hP => ?_)
  refine And.intro (hL.wk hw 0 (by decide)) ?_
  refine And.intro (fun c => ?_) (fun c => ?_)
  · have h := h.1 c
    refine And.intro (hL.wk hw 0 (by decide)) ?_
    refine And.intro (fun c => ?_) (fun c => ?_)
    · have h := h.1 c
      refine And.intro (hL.wk hw 0 (by decide)) ?_
      refine g_Em h (fun r u h => ?_)
      obtain ⟨y2, rfl, hL, h⟩ := h
      exact And.intro rfl h
    · have h := h.2 c
      refine And.intro (hL.wk hw 0 (by decide)) (Or.inl ⟨_, (hL.wr hw 3 (by decide)), ?_⟩)
      refine And.intro (hL.wk hw 0 (by decide)) ?_
      refine Or.inl (And.intro (hL.wk hw 4 (by decide)) (And.intro (hL.wv hw 4 (by decide) (by decide) h.1) ?_))
      have h := h.2
      refine And.intro (hL.wk hw 0 (by decide)) (Or.inl ⟨_, (hL.wr hw 4 (by decide)), ?_⟩)
      refine And.intro (hL.wk hw 0 (by decide)) ?_
      refine Or.inl (And.intro (hL.wk hw 5 (by decide)) (And.intro (hL.wv hw 5 (by decide) (by decide) h.1) ?_))
      have h := h.2
      refine And.intro (fun c => ?_) (fun c => ?_)
      · have h := h.1 c
        refine And.intro (hL.wk hw 0 (by decide)) ?_
        refine g_Em h (fun r u h => ?_)
        obtain ⟨y4, rfl, hL, h⟩ := h
        exact And.intro rfl h
      · have h := h.2 c
        refine And.intro (hL.wk hw 0 (by decide)) ?_
        have h := h _ rfl
        refine And.intro (hL.wk hw 0 (by decide)) ?_
        refine And.intro (hL.wk hw 0 (by decide)) ?_
        have h := h _ rfl
        exact And.intro rfl (And.intro rfl h)
  · have h := h.2 c
    refine And.intro (hL.wk hw 0 (by decide)) ?_
    refine And.intro (hL.wk hw 0 (by decide)) ?_
    have h := h _ rfl
    refine And.intro (hL.wk hw 0 (by decide)) ?_
    refine And.intro (fun c => ?_) (fun c => ?_)
    · have h := h.1 c
      refine And.intro (hL.wk hw 0 (by decide)) ?_
      have h := h _ rfl
      refine And.intro (hL.wk hw 0 (by decide)) ?_
      refine And.intro (hL.wk hw 0 (by decide)) ?_
      have h := h _ rfl
      refine And.intro (hL.wk hw 0 (by decide)) (Or.inl ⟨_, (hL.wr hw 3 (by decide)), ?_⟩)
      refine And.intro (hL.wk hw 0 (by decide)) ?_
      refine Or.inl (And.intro (hL.wk hw 4 (by decide)) (And.intro (hL.wv hw 4 (by decide) (by decide) h.1) ?_))
      have h := h.2
      refine And.intro (hL.wk hw 0 (by decide)) ?_
      have h := h _ rfl
      refine And.intro (hL.wk hw 0 (by decide)) (Or.inl ⟨_, (hL.wr hw 3 (by decide)), ?_⟩)
      refine And.intro (hL.wk hw 0 (by decide)) ?_
      refine Or.inl (And.intro (hL.wk hw 4 (by decide)) (And.intro (hL.wv hw 4 (by decide) (by decide) h.1) ?_))
      have h := h.2
      refine And.intro (hL.wk hw 4 (by decide)) (And.intro (hL.wv hw 4 (by decide) (by decide) h.1) ?_)
      have h := h.2 _ rfl
      exact And.intro rfl (And.intro rfl h)
    · have h := h.2 c
      exact And.intro rfl (And.intro rfl h)
theorem x_Walk_enterNext {cx : gCx} {d : Nat} {ad : Nat → Nat} {p : Nat} (hp : isP p) {w : Nat} (hw : isW w) {t : gSt} {post : Option Value → gSt → Prop} (hL : Lay t ad) (hr_w_8 : t.2.2.2 (ad w) 8 = some (ad p)) (h : (500 ≤ (t.2.1 (ad w) 10) → post (some (.int 0)) t) ∧ (¬ (500 ≤ (t.2.1 (ad w) 10)) → ((t.2.1 (ad w) 9) < (Int32.ofNat (t.1.2.2 (ad (p + 12)))) → ∀ t1, t1 = g_si t (ad w) 5 1 → ∀ t2, t2 = g_si t1 (ad w) 6 (t1.2.1 (ad w) 10) → vp_in (t2.2.1 (ad w) 6) 500 ∧ (∀ t3, t3 = g_si t2 (ad (w + 1)) ((t2.2.1 (ad w) 6) : Int32).toNatClampNeg (t2.2.1 (ad w) 9) → vp_in (t3.2.1 (ad w) 9) (c_len (p + 12)) ∧ (vp_in (t3.2.1 (ad w) 6) 500 ∧ (∀ t4, t4 = g_si t3 (ad (w + 2)) ((t3.2.1 (ad w) 6) : Int32).toNatClampNeg (t3.2.1 (ad (p + 12)) ((t3.2.1 (ad w) 9) : Int32).toNatClampNeg) → vp_in (t4.2.1 (ad w) 9) (c_len (p + 13)) ∧ (vp_in (t4.2.1 (ad w) 6) 500 ∧ (∀ t5, t5 = g_si t4 (ad (w + 3)) ((t4.2.1 (ad w) 6) : Int32).toNatClampNeg (t4.2.1 (ad (p + 13)) ((t4.2.1 (ad w) 9) : Int32).toNatClampNeg) → vp_in (t5.2.1 (ad w) 6) 500 ∧ (vp_in (t5.2.1 (ad w) 6) 500 ∧ (g_E cx d i_Program_kids [.ref (ad p), .int (t5.2.1 (ad (w + 2)) ((t5.2.1 (ad w) 6) : Int32).toNatClampNeg), .int (t5.2.1 (ad (w + 3)) ((t5.2.1 (ad w) 6) : Int32).toNatClampNeg)] t5 (fun r u6 => ∃ y7 : Int32, r = some (.int y7) ∧ Lay u6 ad ∧ (vp_in (t5.2.1 (ad w) 6) 500 ∧ (∀ t8, t8 = g_si u6 (ad (w + 5)) ((t5.2.1 (ad w) 6) : Int32).toNatClampNeg y7 → vp_in (t8.2.1 (ad w) 6) 500 ∧ (∀ t9, t9 = g_si t8 (ad (w + 4)) ((t8.2.1 (ad w) 6) : Int32).toNatClampNeg 0 → ∀ t10, t10 = g_si t9 (ad w) 10 ((t9.2.1 (ad w) 10) + 1) → ∀ t11, t11 = g_si t10 (ad w) 9 ((t10.2.1 (ad w) 9) + 1) → post (some (.int 1)) t11)))))))))))) ∧ (¬ ((t.2.1 (ad w) 9) < (Int32.ofNat (t.1.2.2 (ad (p + 12))))) → post (some (.int 0)) t))) : g_E cx (d + 1) i_Walk_enterNext [.ref (ad w)] t post := by
  refine g_call mt_Walk_enterNext rfl (by decide) (Nat.le_of_ble_eq_true rfl) ?_
  refine g_run [] 400 (fun P hP => ?_)
  refine And.intro (hL.wk hw 0 (by decide)) ?_
  refine And.intro (fun c => ?_) (fun c => ?_)
  · have h := h.1 c
    exact And.intro rfl (And.intro rfl h)
  · have h := h.2 c
    refine And.intro (hL.wk hw 0 (by decide)) ?_
    refine And.intro (hL.wk hw 0 (by decide)) (Or.inl ⟨_, hr_w_8, ?_⟩)
    refine And.intro (hL.pk hp 0 (by decide)) (Or.inl ⟨_, (hL.pr hp 0 (by decide)), ?_⟩)
    refine Or.inl (And.intro (hL.pk hp 12 (by decide)).1 (And.intro (g_karr (hL.pk hp 12 (by decide)) (by decide) (by decide)) ?_))
    refine And.intro (fun c => ?_) (fun c => ?_)
    · have h := h.1 c
      refine And.intro (hL.wk hw 0 (by decide)) ?_
      have h := h _ rfl
      refine And.intro (hL.wk hw 0 (by decide)) ?_
      refine And.intro (hL.wk hw 0 (by decide)) ?_
      have h := h _ rfl
      refine And.intro (hL.wk hw 0 (by decide)) (Or.inl ⟨_, (hL.wr hw 0 (by decide)), ?_⟩)
      refine And.intro (hL.wk hw 0 (by decide)) ?_
      refine And.intro (hL.wk hw 0 (by decide)) ?_
      refine And.intro (hL.wk hw 1 (by decide)) (And.intro (hL.wv hw 1 (by decide) (by decide) h.1) ?_)
      have h := h.2 _ rfl
      refine And.intro (hL.wk hw 0 (by decide)) (Or.inl ⟨_, (hL.wr hw 1 (by decide)), ?_⟩)
      refine And.intro (hL.wk hw 0 (by decide)) ?_
      refine And.intro (hL.wk hw 0 (by decide)) (Or.inl ⟨_, hr_w_8, ?_⟩)
      refine And.intro (hL.pk hp 0 (by decide)) (Or.inl ⟨_, (hL.pr hp 0 (by decide)), ?_⟩)
      refine And.intro (hL.wk hw 0 (by decide)) ?_
      refine Or.inl (And.intro (hL.pk hp 12 (by decide)) (And.intro (hL.pv2 hp 12 (by decide) h.1) ?_))
      have h := h.2
      refine And.intro (hL.wk hw 2 (by decide)) (And.intro (hL.wv hw 2 (by decide) (by decide) h.1) ?_)
      have h := h.2 _ rfl
      refine And.intro (hL.wk hw 0 (by decide)) (Or.inl ⟨_, (hL.wr hw 2 (by decide)), ?_⟩)
      refine And.intro (hL.wk hw 0 (by decide)) ?_
      refine And.intro (hL.wk hw 0 (by decide)) (Or.inl ⟨_, hr_w_8, ?_⟩)
      refine And.intro (hL.pk hp 0 (by decide)) (Or.inl ⟨_, (hL.pr hp 1 (by decide)), ?_⟩)
      refine And.intro (hL.wk hw 0 (by decide)) ?_
      refine Or.inl (And.intro (hL.pk hp 13 (by decide)) (And.intro (hL.pv2 hp 13 (by decide) h.1) ?_))
      have h := h.2
      refine And.intro (hL.wk hw 3 (by decide)) (And.intro (hL.wv hw 3 (by decide) (by decide) h.1) ?_)
      have h := h.2 _ rfl
      refine And.intro (hL.wk hw 0 (by decide)) (Or.inl ⟨_, (hL.wr hw 4 (by decide)), ?_⟩)
      refine And.intro (hL.wk hw 0 (by decide)) ?_
      refine And.intro (hL.wk hw 0 (by decide)) (Or.inl ⟨_, hr_w_8, ?_⟩)
      refine And.intro (hL.wk hw 0 (by decide)) (Or.inl ⟨_, (hL.wr hw 1 (by decide)), ?_⟩)
      refine And.intro (hL.wk hw 0 (by decide)) ?_
      refine Or.inl (And.intro (hL.wk hw 2 (by decide)) (And.intro (hL.wv hw 2 (by decide) (by decide) h.1) ?_))
      have h := h.2
      refine And.intro (hL.wk hw 0 (by decide)) (Or.inl ⟨_, (hL.wr hw 2 (by decide)), ?_⟩)
      refine And.intro (hL.wk hw 0 (by decide)) ?_
      refine Or.inl (And.intro (hL.wk hw 3 (by decide)) (And.intro (hL.wv hw 3 (by decide) (by decide) h.1) ?_))
      have h := h.2
      refine And.intro (hL.pk hp 0 (by decide)) ?_
      refine g_Em h (fun r u h => ?_)
      obtain ⟨y7, rfl, hL, h⟩ := h
      refine And.intro (hL.wk hw 5 (by decide)) (And.intro (hL.wv hw 5 (by decide) (by decide) h.1) ?_)
      have h := h.2 _ rfl
      refine And.intro (hL.wk hw 0 (by decide)) (Or.inl ⟨_, (hL.wr hw 3 (by decide)), ?_⟩)
      refine And.intro (hL.wk hw 0 (by decide)) ?_
      refine And.intro (hL.wk hw 4 (by decide)) (And.intro (hL.wv hw 4 (by decide) (by decide) h.1) ?_)
      have h := h.2 _ rfl
      refine And.intro (hL.wk hw 0 (by decide)) ?_
      refine And.intro (hL.wk hw 0 (by decide)) ?_
      have h := h _ rfl
      refine And.intro (hL.wk hw 0 (by decide)) ?_
      refine And.intro (hL.wk hw 0 (by decide)) ?_
      have h := h _ rfl
      exact And.intro rfl (And.intro rfl h)
    · have h := h.2 c
      exact And.intro rfl (And.intro rfl h)
theorem x_Walk_skipKid {cx : gCx} {d : Nat} {ad : Nat → Nat} {w : Nat} (hw : isW w) {t : gSt} {post : Option Value → gSt → Prop} (hL : Lay t ad) (h : g_W cx (g_E cx d) mt_Walk_skipKid post (2, [some (.ref (ad w)), some (.int 1)], [], t, 0, 0)) : g_E cx (d + 1) i_Walk_skipKid [.ref (ad w)] t post := by
  refine g_call mt_Walk_skipKid rfl (by decide) (Nat.le_of_ble_eq_true rfl) ?_
  refine g_run [2] 400 (fun P hP => ?_)
  exact hP _ h
theorem x_Walk_skipKid_2 {cx : gCx} {d : Nat} {ad : Nat → Nat} {p : Nat} (hp : isP p) {w : Nat} (hw : isW w) {l1 : Int32} {t : gSt} {post : Option Value → gSt → Prop} (hL : Lay t ad) (hr_w_8 : t.2.2.2 (ad w) 8 = some (ad p)) (h : ((Int32.ofNat (t.1.2.2 (ad (p + 12)))) ≤ (t.2.1 (ad w) 9) → vp_in (t.2.1 (ad w) 6) 500 ∧ (vp_in (t.2.1 (ad w) 6) 500 ∧ (∀ t1, t1 = g_si t (ad (w + 4)) ((t.2.1 (ad w) 6) : Int32).toNatClampNeg ((t.2.1 (ad (w + 4)) ((t.2.1 (ad w) 6) : Int32).toNatClampNeg) + 1) → post none t1))) ∧ (¬ ((Int32.ofNat (t.1.2.2 (ad (p + 12)))) ≤ (t.2.1 (ad w) 9)) → (l1 ≤ 0 → vp_in (t.2.1 (ad w) 6) 500 ∧ (vp_in (t.2.1 (ad w) 6) 500 ∧ (∀ t2, t2 = g_si t (ad (w + 4)) ((t.2.1 (ad w) 6) : Int32).toNatClampNeg ((t.2.1 (ad (w + 4)) ((t.2.1 (ad w) 6) : Int32).toNatClampNeg) + 1) → post none t2))) ∧ (¬ (l1 ≤ 0) → vp_in (t.2.1 (ad w) 9) (c_len (p + 12)) ∧ (vp_in (t.2.1 (ad w) 9) (c_len (p + 13)) ∧ (g_E cx d i_Program_kids [.ref (ad p), .int (t.2.1 (ad (p + 12)) ((t.2.1 (ad w) 9) : Int32).toNatClampNeg), .int (t.2.1 (ad (p + 13)) ((t.2.1 (ad w) 9) : Int32).toNatClampNeg)] t (fun r u3 => ∃ y4 : Int32, r = some (.int y4) ∧ Lay u3 ad ∧ (∀ x5 : Int32, x5 = (l1 + (y4 - 1)) → ∀ t6, t6 = g_si u3 (ad w) 9 ((u3.2.1 (ad w) 9) + 1) → g_W cx (g_E cx d) mt_Walk_skipKid post (2, [some (.ref (ad w)), some (.int x5)], [], t6, 0, 0)))))))) : g_W cx (g_E cx d) mt_Walk_skipKid post (2, [some (.ref (ad w)), some (.int l1)], [], t, 0, 0) := by
  refine g_run [2] 400 (fun P hP => ?_)
  refine And.intro (hL.wk hw 0 (by decide)) ?_
  refine And.intro (hL.wk hw 0 (by decide)) (Or.inl ⟨_, hr_w_8, ?_⟩)
  refine And.intro (hL.pk hp 0 (by decide)) (Or.inl ⟨_, (hL.pr hp 0 (by decide)), ?_⟩)
  refine Or.inl (And.intro (hL.pk hp 12 (by decide)).1 (And.intro (g_karr (hL.pk hp 12 (by decide)) (by decide) (by decide)) ?_))
  refine And.intro (fun c => ?_) (fun c => ?_)
  · have h := h.1 c
    refine And.intro (hL.wk hw 0 (by decide)) (Or.inl ⟨_, (hL.wr hw 3 (by decide)), ?_⟩)
    refine And.intro (hL.wk hw 0 (by decide)) ?_
    refine Or.inl (And.intro (hL.wk hw 4 (by decide)) (And.intro (hL.wv hw 4 (by decide) (by decide) h.1) ?_))
    have h := h.2
    refine And.intro (hL.wk hw 4 (by decide)) (And.intro (hL.wv hw 4 (by decide) (by decide) h.1) ?_)
    have h := h.2 _ rfl
    exact And.intro rfl (And.intro rfl h)
  · have h := h.2 c
    refine And.intro (fun c => ?_) (fun c => ?_)
    · have h := h.1 c
      refine And.intro (hL.wk hw 0 (by decide)) (Or.inl ⟨_, (hL.wr hw 3 (by decide)), ?_⟩)
      refine And.intro (hL.wk hw 0 (by decide)) ?_
      refine Or.inl (And.intro (hL.wk hw 4 (by decide)) (And.intro (hL.wv hw 4 (by decide) (by decide) h.1) ?_))
      have h := h.2
      refine And.intro (hL.wk hw 4 (by decide)) (And.intro (hL.wv hw 4 (by decide) (by decide) h.1) ?_)
      have h := h.2 _ rfl
      exact And.intro rfl (And.intro rfl h)
    · have h := h.2 c
      refine And.intro (hL.wk hw 0 (by decide)) (Or.inl ⟨_, hr_w_8, ?_⟩)
      refine And.intro (hL.wk hw 0 (by decide)) (Or.inl ⟨_, hr_w_8, ?_⟩)
      refine And.intro (hL.pk hp 0 (by decide)) (Or.inl ⟨_, (hL.pr hp 0 (by decide)), ?_⟩)
      refine And.intro (hL.wk hw 0 (by decide)) ?_
      refine Or.inl (And.intro (hL.pk hp 12 (by decide)) (And.intro (hL.pv2 hp 12 (by decide) h.1) ?_))
      have h := h.2
      refine And.intro (hL.wk hw 0 (by decide)) (Or.inl ⟨_, hr_w_8, ?_⟩)
      refine And.intro (hL.pk hp 0 (by decide)) (Or.inl ⟨_, (hL.pr hp 1 (by decide)), ?_⟩)
      refine And.intro (hL.wk hw 0 (by decide)) ?_
      refine Or.inl (And.intro (hL.pk hp 13 (by decide)) (And.intro (hL.pv2 hp 13 (by decide) h.1) ?_))
      have h := h.2
      refine And.intro (hL.pk hp 0 (by decide)) ?_
      refine g_Em h (fun r u h => ?_)
      obtain ⟨y4, rfl, hL, h⟩ := h
      have h := h _ rfl
      refine And.intro (hL.wk hw 0 (by decide)) ?_
      refine And.intro (hL.wk hw 0 (by decide)) ?_
      have h := h _ rfl
      exact hP _ h
theorem x_Program_kids {cx : gCx} {d : Nat} {ad : Nat → Nat} {p : Nat} (hp : isP p) {a1 a2 : Int32} {t : gSt} {post : Option Value → gSt → Prop} (hL : Lay t ad) (h : (a1 = 1 ∨ a1 = 2 → g_W cx (g_E cx d) mt_Program_kids post (76, [some (.ref (ad p)), some (.int a1), some (.int a2)], [], t, 0, 0)) ∧ (a1 = 10 ∨ a1 = 11 → g_W cx (g_E cx d) mt_Program_kids post (78, [some (.ref (ad p)), some (.int a1), some (.int a2)], [], t, 0, 0)) ∧ (a1 = 13 → g_W cx (g_E cx d) mt_Program_kids post (80, [some (.ref (ad p)), some (.int a1), some (.int a2)], [], t, 0, 0)) ∧ (a1 = 15 → g_W cx (g_E cx d) mt_Program_kids post (82, [some (.ref (ad p)), some (.int a1), some (.int a2)], [], t, 0, 0)) ∧ (a1 < 1 ∨ 15 < a1 ∨ a1 = 3 ∨ a1 = 4 ∨ a1 = 5 ∨ a1 = 6 ∨ a1 = 7 ∨ a1 = 8 ∨ a1 = 9 ∨ a1 = 12 ∨ a1 = 14 → g_W cx (g_E cx d) mt_Program_kids post (105, [some (.ref (ad p)), some (.int a1), some (.int a2)], [], t, 0, 0))) : g_E cx (d + 1) i_Program_kids [.ref (ad p), .int a1, .int a2] t post := by
  refine g_call mt_Program_kids rfl (by decide) (Nat.le_of_ble_eq_true rfl) ?_
  refine g_run [1, 76, 78, 80, 82, 105] 400 (fun P hP => ?_)
  refine hP _ ?_
  rcases g_swc _ 1 15 (by decide) (by decide) (by decide) with c | c | ⟨j, hj, c⟩
  · exact g_sw (tgt := 105) rfl (g_swlo c) (h.2.2.2.2 (Or.inl c))
  · exact g_sw (tgt := 105) rfl (g_swhi c) (h.2.2.2.2 (Or.inr (Or.inl c)))
  · match j, hj with
    | 0, _ => exact g_sw (tgt := 76) rfl (by rw [c]; decide) (h.1 (Or.inl c))
    | 1, _ => exact g_sw (tgt := 76) rfl (by rw [c]; decide) (h.1 (Or.inr c))
    | 2, _ => exact g_sw (tgt := 105) rfl (by rw [c]; decide) (h.2.2.2.2 (Or.inr (Or.inr (Or.inl c))))
    | 3, _ => exact g_sw (tgt := 105) rfl (by rw [c]; decide) (h.2.2.2.2 (Or.inr (Or.inr (Or.inr (Or.inl c)))))
    | 4, _ => exact g_sw (tgt := 105) rfl (by rw [c]; decide) (h.2.2.2.2 (Or.inr (Or.inr (Or.inr (Or.inr (Or.inl c))))))
    | 5, _ => exact g_sw (tgt := 105) rfl (by rw [c]; decide) (h.2.2.2.2 (Or.inr (Or.inr (Or.inr (Or.inr (Or.inr (Or.inl c)))))))
    | 6, _ => exact g_sw (tgt := 105) rfl (by rw [c]; decide) (h.2.2.2.2 (Or.inr (Or.inr (Or.inr (Or.inr (Or.inr (Or.inr (Or.inl c))))))))
    | 7, _ => exact g_sw (tgt := 105) rfl (by rw [c]; decide) (h.2.2.2.2 (Or.inr (Or.inr (Or.inr (Or.inr (Or.inr (Or.inr (Or.inr (Or.inl c)))))))))
    | 8, _ => exact g_sw (tgt := 105) rfl (by rw [c]; decide) (h.2.2.2.2 (Or.inr (Or.inr (Or.inr (Or.inr (Or.inr (Or.inr (Or.inr (Or.inr (Or.inl c))))))))))
    | 9, _ => exact g_sw (tgt := 78) rfl (by rw [c]; decide) (h.2.1 (Or.inl c))
    | 10, _ => exact g_sw (tgt := 78) rfl (by rw [c]; decide) (h.2.1 (Or.inr c))
    | 11, _ => exact g_sw (tgt := 105) rfl (by rw [c]; decide) (h.2.2.2.2 (Or.inr (Or.inr (Or.inr (Or.inr (Or.inr (Or.inr (Or.inr (Or.inr (Or.inr (Or.inl c)))))))))))
    | 12, _ => exact g_sw (tgt := 80) rfl (by rw [c]; decide) (h.2.2.1 c)
    | 13, _ => exact g_sw (tgt := 105) rfl (by rw [c]; decide) (h.2.2.2.2 (Or.inr (Or.inr (Or.inr (Or.inr (Or.inr (Or.inr (Or.inr (Or.inr (Or.inr (Or.inr c)))))))))))
    | 14, _ => exact g_sw (tgt := 82) rfl (by rw [c]; decide) (h.2.2.2.1 c)
    | j + 15, hj => exact absurd hj (by omega)
theorem x_Program_kids_76 {cx : gCx} {d : Nat} {ad : Nat → Nat} {p : Nat} (hp : isP p) {l1 l2 : Int32} {t : gSt} {post : Option Value → gSt → Prop} (hL : Lay t ad) (h : post (some (.int 0)) t) : g_W cx (g_E cx d) mt_Program_kids post (76, [some (.ref (ad p)), some (.int l1), some (.int l2)], [], t, 0, 0) := by
  refine g_run [1, 76, 78, 80, 82, 105] 400 (fun P hP => ?_)
  exact And.intro rfl (And.intro rfl h)
theorem x_Program_kids_78 {cx : gCx} {d : Nat} {ad : Nat → Nat} {p : Nat} (hp : isP p) {l1 l2 : Int32} {t : gSt} {post : Option Value → gSt → Prop} (hL : Lay t ad) (h : post (some (.int 1)) t) : g_W cx (g_E cx d) mt_Program_kids post (78, [some (.ref (ad p)), some (.int l1), some (.int l2)], [], t, 0, 0) := by
  refine g_run [1, 76, 78, 80, 82, 105] 400 (fun P hP => ?_)
  exact And.intro rfl (And.intro rfl h)
theorem x_Program_kids_80 {cx : gCx} {d : Nat} {ad : Nat → Nat} {p : Nat} (hp : isP p) {l1 l2 : Int32} {t : gSt} {post : Option Value → gSt → Prop} (hL : Lay t ad) (h : post (some (.int 3)) t) : g_W cx (g_E cx d) mt_Program_kids post (80, [some (.ref (ad p)), some (.int l1), some (.int l2)], [], t, 0, 0) := by
  refine g_run [1, 76, 78, 80, 82, 105] 400 (fun P hP => ?_)
  exact And.intro rfl (And.intro rfl h)
theorem x_Program_kids_82 {cx : gCx} {d : Nat} {ad : Nat → Nat} {p : Nat} (hp : isP p) {l1 l2 : Int32} {t : gSt} {post : Option Value → gSt → Prop} (hL : Lay t ad) (h : (l2 < 0 → post (some (.int 0)) t) ∧ (¬ (l2 < 0) → ((t.2.1 (ad p) 15) ≤ l2 → post (some (.int 0)) t) ∧ (¬ ((t.2.1 (ad p) 15) ≤ l2) → vp_in l2 24 ∧ (post (some (.int (t.2.1 (ad (p + 2)) (l2 : Int32).toNatClampNeg))) t)))) : g_W cx (g_E cx d) mt_Program_kids post (82, [some (.ref (ad p)), some (.int l1), some (.int l2)], [], t, 0, 0) := by
  refine g_run [1, 76, 78, 80, 82, 105] 400 (fun P hP => ?_)
  refine And.intro (fun c => ?_) (fun c => ?_)
  · have h := h.1 c
    exact And.intro rfl (And.intro rfl h)
  · have h := h.2 c
    refine And.intro (hL.pk hp 0 (by decide)) ?_
    refine And.intro (fun c => ?_) (fun c => ?_)
    · have h := h.1 c
      exact And.intro rfl (And.intro rfl h)
    · have h := h.2 c
      refine And.intro (hL.pk hp 0 (by decide)) (Or.inl ⟨_, (hL.pr hp 3 (by decide)), ?_⟩)
      refine Or.inl (And.intro (hL.pk hp 2 (by decide)) (And.intro (hL.pv hp 2 (by decide) (by decide) h.1) ?_))
      have h := h.2
      exact And.intro rfl (And.intro rfl h)
theorem x_Program_kids_105 {cx : gCx} {d : Nat} {ad : Nat → Nat} {p : Nat} (hp : isP p) {l1 l2 : Int32} {t : gSt} {post : Option Value → gSt → Prop} (hL : Lay t ad) (h : post (some (.int 2)) t) : g_W cx (g_E cx d) mt_Program_kids post (105, [some (.ref (ad p)), some (.int l1), some (.int l2)], [], t, 0, 0) := by
  refine g_run [1, 76, 78, 80, 82, 105] 400 (fun P hP => ?_)
  exact And.intro rfl (And.intro rfl h)
theorem x_Program_countCalls {cx : gCx} {d : Nat} {ad : Nat → Nat} {p : Nat} (hp : isP p) {a1 : Int32} {t : gSt} {post : Option Value → gSt → Prop} (hL : Lay t ad) (h : vp_in a1 24 ∧ (∀ x1 : Int32, x1 = (t.2.1 (ad (p + 4)) (a1 : Int32).toNatClampNeg) → g_W cx (g_E cx d) mt_Program_countCalls post (9, [some (.ref (ad p)), some (.int a1), some (.int 0), some (.int x1)], [], t, 0, 0))) : g_E cx (d + 1) i_Program_countCalls [.ref (ad p), .int a1] t post := by
  refine g_call mt_Program_countCalls rfl (by decide) (Nat.le_of_ble_eq_true rfl) ?_
  refine g_run [9] 400 (fun P hP => ?_)
  refine And.intro (hL.pk hp 0 (by decide)) (Or.inl ⟨_, (hL.pr hp 5 (by decide)), ?_⟩)
  refine Or.inl (And.intro (hL.pk hp 4 (by decide)) (And.intro (hL.pv hp 4 (by decide) (by decide) h.1) ?_))
  have h := h.2
  have h := h _ rfl
  exact hP _ h
theorem x_Program_countCalls_9 {cx : gCx} {d : Nat} {ad : Nat → Nat} {p : Nat} (hp : isP p) {l1 l2 l3 : Int32} {t : gSt} {post : Option Value → gSt → Prop} (hL : Lay t ad) (h : vp_in l1 24 ∧ (vp_in l1 24 ∧ ((((t.2.1 (ad (p + 4)) (l1 : Int32).toNatClampNeg) + (t.2.1 (ad (p + 5)) (l1 : Int32).toNatClampNeg)) ≤ l3 → post (some (.int l2)) t) ∧ (¬ (((t.2.1 (ad (p + 4)) (l1 : Int32).toNatClampNeg) + (t.2.1 (ad (p + 5)) (l1 : Int32).toNatClampNeg)) ≤ l3) → vp_in l3 (c_len (p + 12)) ∧ ((¬ (t.2.1 (ad (p + 12)) (l3 : Int32).toNatClampNeg) = 15 → g_W cx (g_E cx d) mt_Program_countCalls post (9, [some (.ref (ad p)), some (.int l1), some (.int l2), some (.int (l3 + 1))], [], t, 0, 0)) ∧ (¬ (¬ (t.2.1 (ad (p + 12)) (l3 : Int32).toNatClampNeg) = 15) → g_W cx (g_E cx d) mt_Program_countCalls post (9, [some (.ref (ad p)), some (.int l1), some (.int (l2 + 1)), some (.int (l3 + 1))], [], t, 0, 0))))))) : g_W cx (g_E cx d) mt_Program_countCalls post (9, [some (.ref (ad p)), some (.int l1), some (.int l2), some (.int l3)], [], t, 0, 0) := by
  refine g_run [9] 400 (fun P hP => ?_)
  refine And.intro (hL.pk hp 0 (by decide)) (Or.inl ⟨_, (hL.pr hp 5 (by decide)), ?_⟩)
  refine Or.inl (And.intro (hL.pk hp 4 (by decide)) (And.intro (hL.pv hp 4 (by decide) (by decide) h.1) ?_))
  have h := h.2
  refine And.intro (hL.pk hp 0 (by decide)) (Or.inl ⟨_, (hL.pr hp 6 (by decide)), ?_⟩)
  refine Or.inl (And.intro (hL.pk hp 5 (by decide)) (And.intro (hL.pv hp 5 (by decide) (by decide) h.1) ?_))
  have h := h.2
  refine And.intro (fun c => ?_) (fun c => ?_)
  · have h := h.1 c
    exact And.intro rfl (And.intro rfl h)
  · have h := h.2 c
    refine And.intro (hL.pk hp 0 (by decide)) (Or.inl ⟨_, (hL.pr hp 0 (by decide)), ?_⟩)
    refine Or.inl (And.intro (hL.pk hp 12 (by decide)) (And.intro (hL.pv2 hp 12 (by decide) h.1) ?_))
    have h := h.2
    refine And.intro (fun c => ?_) (fun c => ?_)
    · have h := h.1 c
      exact hP _ h
    · have h := h.2 c
      exact hP _ h
theorem x_Program_frame {cx : gCx} {d : Nat} {ad : Nat → Nat} {p : Nat} (hp : isP p) {a1 : Int32} {t : gSt} {post : Option Value → gSt → Prop} (hL : Lay t ad) (h : vp_in a1 24 ∧ (vp_in a1 24 ∧ (post (some (.int ((2 + (t.2.1 (ad (p + 9)) (a1 : Int32).toNatClampNeg)) + (t.2.1 (ad (p + 10)) (a1 : Int32).toNatClampNeg)))) t))) : g_E cx (d + 1) i_Program_frame [.ref (ad p), .int a1] t post := by
  refine g_call mt_Program_frame rfl (by decide) (Nat.le_of_ble_eq_true rfl) ?_
  refine g_run [] 400 (fun P hP => ?_)
  refine And.intro (hL.pk hp 0 (by decide)) (Or.inl ⟨_, (hL.pr hp 12 (by decide)), ?_⟩)
  refine Or.inl (And.intro (hL.pk hp 9 (by decide)) (And.intro (hL.pv hp 9 (by decide) (by decide) h.1) ?_))
  have h := h.2
  refine And.intro (hL.pk hp 0 (by decide)) (Or.inl ⟨_, (hL.pr hp 13 (by decide)), ?_⟩)
  refine Or.inl (And.intro (hL.pk hp 10 (by decide)) (And.intro (hL.pv hp 10 (by decide) (by decide) h.1) ?_))
  have h := h.2
  exact And.intro rfl (And.intro rfl h)
