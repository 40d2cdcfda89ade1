/-! PRINTED by wip/gen/xparts.py: symbolic execution, method by method -/
theorem x_Reader_faultPlace {cx : gCx} {d : Nat} {ad : Nat → Nat} {t : gSt} {post : Option Value → gSt → Prop} (hL : Lay t ad) (h : post (some (.int (t.2.1 (ad 4) 9))) t) : g_E cx (d + 1) i_Reader_faultPlace [.ref (ad 3)] t post := by
  refine g_call mt_Reader_faultPlace rfl (by decide) (Nat.le_of_ble_eq_true rfl) ?_
  refine g_run [] 400 (fun P hP => ?_)
  refine And.intro (hL.k 3 (by decide)) (Or.inl ⟨_, (hL.r 3 0 4 (by decide)), ?_⟩)
  refine And.intro (hL.k 4 (by decide)) ?_
  exact And.intro rfl (And.intro rfl h)
theorem x_Reader_readInto {cx : gCx} {d : Nat} {ad : Nat → Nat} {p : Nat} (hp : isP p) {a3 : Int32} {t : gSt} {post : Option Value → gSt → Prop} (hL : Lay t ad) (h : g_E cx d i_Tokens_begin [.ref (ad 4), .ref (ad 1), .int a3] t (fun r u1 => r = none ∧ Lay u1 ad ∧ (∀ t3, t3 = g_sr u1 (ad 3) 7 (some (ad p)) → ∀ t5, t5 = g_si t3 (ad p) 15 0 → ∀ t6, t6 = g_si t5 (ad 3) 8 0 → ∀ t7, t7 = g_si t6 (ad 3) 11 0 → g_W cx (g_E cx d) mt_Reader_readInto post (32, [some (.ref (ad 3)), some (.ref (ad p)), some (.ref (ad 1)), some (.int a3), some (.int 0)], [], t7, 0, 0)))) : g_E cx (d + 1) i_Reader_readInto [.ref (ad 3), .ref (ad p), .ref (ad 1), .int a3] t post := by
  refine g_call mt_Reader_readInto rfl (by decide) (Nat.le_of_ble_eq_true rfl) ?_
  refine g_run [32, 71, 85, 99] 400 (fun P hP => ?_)
  refine And.intro (hL.k 3 (by decide)) (Or.inl ⟨_, (hL.r 3 0 4 (by decide)), ?_⟩)
  refine And.intro (hL.k 4 (by decide)) ?_
  refine g_Em h (fun r u h => ?_)
  obtain ⟨rfl, hL, h⟩ := h
  refine And.intro (hL.k 3 (by decide)) ?_
  have h := h _ rfl
  have hL := hL.sr 3 7 (some (ad p)) (by decide +kernel)
  refine And.intro (hL.pk hp 0 (by decide)) ?_
  have h := h _ rfl
  refine And.intro (hL.k 3 (by decide)) ?_
  have h := h _ rfl
  refine And.intro (hL.k 3 (by decide)) ?_
  have h := h _ rfl
  exact hP _ h
theorem x_Reader_readInto_32 {cx : gCx} {d : Nat} {ad : Nat → Nat} {p : Nat} (hp : isP p) {l3 l4 : Int32} {t : gSt} {post : Option Value → gSt → Prop} (hL : Lay t ad) (h : (3000 < l4 → g_W cx (g_E cx d) mt_Reader_readInto post (71, [some (.ref (ad 3)), some (.ref (ad p)), some (.ref (ad 1)), some (.int l3), some (.int l4)], [], t, 0, 0)) ∧ (¬ (3000 < l4) → (¬ (t.2.1 (ad 4) 8) = 0 → g_W cx (g_E cx d) mt_Reader_readInto post (71, [some (.ref (ad 3)), some (.ref (ad p)), some (.ref (ad 1)), some (.int l3), some (.int l4)], [], t, 0, 0)) ∧ (¬ (¬ (t.2.1 (ad 4) 8) = 0) → g_E cx d i_Tokens_isAt [.ref (ad 4), .int 0] t (fun r u1 => ∃ y2 : Int32, r = some (.int y2) ∧ Lay u1 ad ∧ ((¬ y2 = 0 → g_W cx (g_E cx d) mt_Reader_readInto post (71, [some (.ref (ad 3)), some (.ref (ad p)), some (.ref (ad 1)), some (.int l3), some (.int l4)], [], u1, 0, 0)) ∧ (¬ (¬ y2 = 0) → g_E cx d i_Reader_readDefinition [.ref (ad 3)] u1 (fun r u3 => r = none ∧ Lay u3 ad ∧ (g_W cx (g_E cx d) mt_Reader_readInto post (32, [some (.ref (ad 3)), some (.ref (ad p)), some (.ref (ad 1)), some (.int l3), some (.int (l4 + 1))], [], u3, 0, 0))))))))) : g_W cx (g_E cx d) mt_Reader_readInto post (32, [some (.ref (ad 3)), some (.ref (ad p)), some (.ref (ad 1)), some (.int l3), some (.int l4)], [], t, 0, 0) := by
  refine g_run [32, 71, 85, 99] 400 (fun P hP => ?_)
  refine And.intro (fun c => ?_) (fun c => ?_)
  · have h := h.1 c
    exact hP _ h
  · have h := h.2 c
    refine And.intro (hL.k 3 (by decide)) (Or.inl ⟨_, (hL.r 3 0 4 (by decide)), ?_⟩)
    refine And.intro (hL.k 4 (by decide)) ?_
    refine And.intro (fun c => ?_) (fun c => ?_)
    · have h := h.1 c
      exact hP _ h
    · have h := h.2 c
      refine And.intro (hL.k 3 (by decide)) (Or.inl ⟨_, (hL.r 3 0 4 (by decide)), ?_⟩)
      refine And.intro (hL.k 4 (by decide)) ?_
      refine g_Em h (fun r u h => ?_)
      obtain ⟨y2, rfl, hL, h⟩ := h
      refine And.intro (fun c => ?_) (fun c => ?_)
      · have h := h.1 c
        exact hP _ h
      · have h := h.2 c
        refine And.intro (hL.k 3 (by decide)) ?_
        refine g_Em h (fun r u h => ?_)
        obtain ⟨rfl, hL, h⟩ := h
        exact hP _ h
theorem x_Reader_readInto_71 {cx : gCx} {d : Nat} {ad : Nat → Nat} {p : Nat} (hp : isP p) {l3 l4 : Int32} {t : gSt} {post : Option Value → gSt → Prop} (hL : Lay t ad) (h : (¬ (t.2.1 (ad 4) 8) = 0 → g_W cx (g_E cx d) mt_Reader_readInto post (85, [some (.ref (ad 3)), some (.ref (ad p)), some (.ref (ad 1)), some (.int l3), some (.int l4)], [], t, 0, 0)) ∧ (¬ (¬ (t.2.1 (ad 4) 8) = 0) → g_E cx d i_Reader_findTargets [.ref (ad 3)] t (fun r u1 => r = none ∧ Lay u1 ad ∧ (g_W cx (g_E cx d) mt_Reader_readInto post (85, [some (.ref (ad 3)), some (.ref (ad p)), some (.ref (ad 1)), some (.int l3), some (.int l4)], [], u1, 0, 0))))) : g_W cx (g_E cx d) mt_Reader_readInto post (71, [some (.ref (ad 3)), some (.ref (ad p)), some (.ref (ad 1)), some (.int l3), some (.int l4)], [], t, 0, 0) := by
  refine g_run [32, 71, 85, 99] 400 (fun P hP => ?_)
  refine And.intro (hL.k 3 (by decide)) (Or.inl ⟨_, (hL.r 3 0 4 (by decide)), ?_⟩)
  refine And.intro (hL.k 4 (by decide)) ?_
  refine And.intro (fun c => ?_) (fun c => ?_)
  · have h := h.1 c
    exact hP _ h
  · have h := h.2 c
    refine And.intro (hL.k 3 (by decide)) ?_
    refine g_Em h (fun r u h => ?_)
    obtain ⟨rfl, hL, h⟩ := h
    exact hP _ h
theorem x_Reader_readInto_85 {cx : gCx} {d : Nat} {ad : Nat → Nat} {p : Nat} (hp : isP p) {l3 l4 : Int32} {t : gSt} {post : Option Value → gSt → Prop} (hL : Lay t ad) (h : (¬ (t.2.1 (ad 4) 8) = 0 → g_W cx (g_E cx d) mt_Reader_readInto post (99, [some (.ref (ad 3)), some (.ref (ad p)), some (.ref (ad 1)), some (.int l3), some (.int l4)], [], t, 0, 0)) ∧ (¬ (¬ (t.2.1 (ad 4) 8) = 0) → g_E cx d i_Reader_setTargets [.ref (ad 3)] t (fun r u1 => r = none ∧ Lay u1 ad ∧ (g_W cx (g_E cx d) mt_Reader_readInto post (99, [some (.ref (ad 3)), some (.ref (ad p)), some (.ref (ad 1)), some (.int l3), some (.int l4)], [], u1, 0, 0))))) : g_W cx (g_E cx d) mt_Reader_readInto post (85, [some (.ref (ad 3)), some (.ref (ad p)), some (.ref (ad 1)), some (.int l3), some (.int l4)], [], t, 0, 0) := by
  refine g_run [32, 71, 85, 99] 400 (fun P hP => ?_)
  refine And.intro (hL.k 3 (by decide)) (Or.inl ⟨_, (hL.r 3 0 4 (by decide)), ?_⟩)
  refine And.intro (hL.k 4 (by decide)) ?_
  refine And.intro (fun c => ?_) (fun c => ?_)
  · have h := h.1 c
    exact hP _ h
  · have h := h.2 c
    refine And.intro (hL.k 3 (by decide)) ?_
    refine g_Em h (fun r u h => ?_)
    obtain ⟨rfl, hL, h⟩ := h
    exact hP _ h
theorem x_Reader_readInto_99 {cx : gCx} {d : Nat} {ad : Nat → Nat} {p : Nat} (hp : isP p) {l3 l4 : Int32} {t : gSt} {post : Option Value → gSt → Prop} (hL : Lay t ad) (h : post (some (.int (t.2.1 (ad 4) 8))) t) : g_W cx (g_E cx d) mt_Reader_readInto post (99, [some (.ref (ad 3)), some (.ref (ad p)), some (.ref (ad 1)), some (.int l3), some (.int l4)], [], t, 0, 0) := by
  refine g_run [32, 71, 85, 99] 400 (fun P hP => ?_)
  refine And.intro (hL.k 3 (by decide)) (Or.inl ⟨_, (hL.r 3 0 4 (by decide)), ?_⟩)
  refine And.intro (hL.k 4 (by decide)) ?_
  exact And.intro rfl (And.intro rfl h)
theorem x_Reader_readDefinition {cx : gCx} {d : Nat} {ad : Nat → Nat} {p : Nat} (hp : isP p) {t : gSt} {post : Option Value → gSt → Prop} (hL : Lay t ad) (hr_3_7 : t.2.2.2 (ad 3) 7 = some (ad p)) (h : ∀ x1 : Int32, x1 = (t.2.1 (ad p) 15) → ∀ t2, t2 = g_si t (ad 3) 9 0 → ∀ t3, t3 = g_si t2 (ad 3) 10 0 → ∀ t4, t4 = g_si t3 (ad 3) 12 0 → ∀ t5, t5 = g_si t4 (ad 3) 13 0 → ∀ t6, t6 = g_si t5 (ad 3) 14 0 → g_E cx d i_Reader_readFunctionName [.ref (ad 3)] t6 (fun r u7 => ∃ y8 : Int32, r = some (.int y8) ∧ Lay u7 ad ∧ ((y8 = 0 → g_W cx (g_E cx d) mt_Reader_readDefinition post (59, [some (.ref (ad 3)), some (.int x1)], [], u7, 0, 0)) ∧ (¬ (y8 = 0) → g_E cx d i_Reader_readParameters [.ref (ad 3)] u7 (fun r u9 => ∃ y10 : Int32, r = some (.int y10) ∧ Lay u9 ad ∧ ((y10 = 0 → g_W cx (g_E cx d) mt_Reader_readDefinition post (59, [some (.ref (ad 3)), some (.int x1)], [], u9, 0, 0)) ∧ (¬ (y10 = 0) → g_E cx d i_Tokens_need [.ref (ad 4), .int 61] u9 (fun r u11 => ∃ y12 : Int32, r = some (.int y12) ∧ Lay u11 ad ∧ u11.2.2.2 (ad 3) 7 = some (ad p) ∧ ((¬ y12 = 0 → vp_in x1 24 ∧ (∀ t13, t13 = g_si u11 (ad (p + 2)) (x1 : Int32).toNatClampNeg (u11.2.1 (ad 3) 13) → vp_in x1 24 ∧ (∀ t14, t14 = g_si t13 (ad (p + 6)) (x1 : Int32).toNatClampNeg 0 → vp_in x1 24 ∧ (∀ t15, t15 = g_si t14 (ad (p + 4)) (x1 : Int32).toNatClampNeg (t14.2.1 (ad 3) 11) → g_E cx d i_Reader_readExpression [.ref (ad 3)] t15 (fun r u16 => r = none ∧ Lay u16 ad ∧ (g_E cx d i_Tokens_isAt [.ref (ad 4), .int 46] u16 (fun r u18 => ∃ y19 : Int32, r = some (.int y19) ∧ Lay u18 ad ∧ ((y19 = 0 → g_W cx (g_E cx d) mt_Reader_readDefinition post (130, [some (.ref (ad 3)), some (.int x1)], [], u18, 0, 0)) ∧ (¬ (y19 = 0) → ((u18.2.1 (ad 3) 12) ≤ 400 → g_W cx (g_E cx d) mt_Reader_readDefinition post (130, [some (.ref (ad 3)), some (.int x1)], [], u18, 0, 0)) ∧ (¬ ((u18.2.1 (ad 3) 12) ≤ 400) → g_E cx d i_Tokens_failHere [.ref (ad 4), .int 5] u18 (fun r u20 => r = none ∧ Lay u20 ad ∧ (g_W cx (g_E cx d) mt_Reader_readDefinition post (130, [some (.ref (ad 3)), some (.int x1)], [], u20, 0, 0))))))))))))) ∧ (¬ (¬ y12 = 0) → g_W cx (g_E cx d) mt_Reader_readDefinition post (59, [some (.ref (ad 3)), some (.int x1)], [], u11, 0, 0))))))))))) : g_E cx (d + 1) i_Reader_readDefinition [.ref (ad 3)] t post := by
  refine g_call mt_Reader_readDefinition rfl (by decide) (Nat.le_of_ble_eq_true rfl) ?_
  refine g_run [59, 130] 400 (fun P hP => ?_)
  refine And.intro (hL.k 3 (by decide)) (Or.inl ⟨_, hr_3_7, ?_⟩)
  refine And.intro (hL.pk hp 0 (by decide)) ?_
  have h := h _ rfl
  refine And.intro (hL.k 3 (by decide)) ?_
  have h := h _ rfl
  refine And.intro (hL.k 3 (by decide)) ?_
  have h := h _ rfl
  refine And.intro (hL.k 3 (by decide)) ?_
  have h := h _ rfl
  refine And.intro (hL.k 3 (by decide)) ?_
  have h := h _ rfl
  refine And.intro (hL.k 3 (by decide)) ?_
  have h := h _ rfl
  refine And.intro (hL.k 3 (by decide)) ?_
  refine g_Em h (fun r u h => ?_)
  obtain ⟨y8, rfl, hL, h⟩ := h
  refine And.intro (fun c => ?_) (fun c => ?_)
  · have h := h.1 c
    exact hP _ h
  · have h := h.2 c
    refine And.intro (hL.k 3 (by decide)) ?_
    refine g_Em h (fun r u h => ?_)
    obtain ⟨y10, rfl, hL, h⟩ := h
    refine And.intro (fun c => ?_) (fun c => ?_)
    · have h := h.1 c
      exact hP _ h
    · have h := h.2 c
      refine And.intro (hL.k 3 (by decide)) (Or.inl ⟨_, (hL.r 3 0 4 (by decide)), ?_⟩)
      refine And.intro (hL.k 4 (by decide)) ?_
      refine g_Em h (fun r u h => ?_)
      obtain ⟨y12, rfl, hL, hr_3_7, h⟩ := h
      refine And.intro (fun c => ?_) (fun c => ?_)
      · have h := h.1 c
        refine And.intro (hL.k 3 (by decide)) (Or.inl ⟨_, hr_3_7, ?_⟩)
        refine And.intro (hL.pk hp 0 (by decide)) (Or.inl ⟨_, (hL.pr hp 3 (by decide)), ?_⟩)
        refine And.intro (hL.k 3 (by decide)) ?_
        refine And.intro (hL.pk hp 2 (by decide)) (And.intro (hL.pv hp 2 (by decide) (by decide) h.1) ?_)
        have h := h.2 _ rfl
        refine And.intro (hL.k 3 (by decide)) (Or.inl ⟨_, hr_3_7, ?_⟩)
        refine And.intro (hL.pk hp 0 (by decide)) (Or.inl ⟨_, (hL.pr hp 7 (by decide)), ?_⟩)
        refine And.intro (hL.pk hp 6 (by decide)) (And.intro (hL.pv hp 6 (by decide) (by decide) h.1) ?_)
        have h := h.2 _ rfl
        refine And.intro (hL.k 3 (by decide)) (Or.inl ⟨_, hr_3_7, ?_⟩)
        refine And.intro (hL.pk hp 0 (by decide)) (Or.inl ⟨_, (hL.pr hp 5 (by decide)), ?_⟩)
        refine And.intro (hL.k 3 (by decide)) ?_
        refine And.intro (hL.pk hp 4 (by decide)) (And.intro (hL.pv hp 4 (by decide) (by decide) h.1) ?_)
        have h := h.2 _ rfl
        refine And.intro (hL.k 3 (by decide)) ?_
        refine g_Em h (fun r u h => ?_)
        obtain ⟨rfl, hL, h⟩ := h
        refine And.intro (hL.k 3 (by decide)) (Or.inl ⟨_, (hL.r 3 0 4 (by decide)), ?_⟩)
        refine And.intro (hL.k 4 (by decide)) ?_
        refine g_Em h (fun r u h => ?_)
        obtain ⟨y19, rfl, hL, h⟩ := h
        refine And.intro (fun c => ?_) (fun c => ?_)
        · have h := h.1 c
          exact hP _ h
        · have h := h.2 c
          refine And.intro (hL.k 3 (by decide)) ?_
          refine And.intro (fun c => ?_) (fun c => ?_)
          · have h := h.1 c
            exact hP _ h
          · have h := h.2 c
            refine And.intro (hL.k 3 (by decide)) (Or.inl ⟨_, (hL.r 3 0 4 (by decide)), ?_⟩)
            refine And.intro (hL.k 4 (by decide)) ?_
            refine g_Em h (fun r u h => ?_)
            obtain ⟨rfl, hL, h⟩ := h
            exact hP _ h
      · have h := h.2 c
        exact hP _ h
theorem x_Reader_readDefinition_59 {cx : gCx} {d : Nat} {ad : Nat → Nat} {l1 : Int32} {t : gSt} {post : Option Value → gSt → Prop} (hL : Lay t ad) (h : post none t) : g_W cx (g_E cx d) mt_Reader_readDefinition post (59, [some (.ref (ad 3)), some (.int l1)], [], t, 0, 0) := by
  refine g_run [59, 130] 400 (fun P hP => ?_)
  exact And.intro rfl (And.intro rfl h)
theorem x_Reader_readDefinition_130 {cx : gCx} {d : Nat} {ad : Nat → Nat} {p : Nat} (hp : isP p) {l1 : Int32} {t : gSt} {post : Option Value → gSt → Prop} (hL : Lay t ad) (h : g_E cx d i_Tokens_need [.ref (ad 4), .int 46] t (fun r u1 => ∃ y2 : Int32, r = some (.int y2) ∧ Lay u1 ad ∧ u1.2.2.2 (ad 3) 7 = some (ad p) ∧ (vp_in l1 24 ∧ (vp_in l1 24 ∧ (∀ t3, t3 = g_si u1 (ad (p + 5)) (l1 : Int32).toNatClampNeg ((u1.2.1 (ad 3) 11) - (u1.2.1 (ad (p + 4)) (l1 : Int32).toNatClampNeg)) → vp_in l1 24 ∧ (∀ t4, t4 = g_si t3 (ad (p + 3)) (l1 : Int32).toNatClampNeg (t3.2.1 (ad 3) 13) → post none t4)))))) : g_W cx (g_E cx d) mt_Reader_readDefinition post (130, [some (.ref (ad 3)), some (.int l1)], [], t, 0, 0) := by
  refine g_run [59, 130] 400 (fun P hP => ?_)
  refine And.intro (hL.k 3 (by decide)) (Or.inl ⟨_, (hL.r 3 0 4 (by decide)), ?_⟩)
  refine And.intro (hL.k 4 (by decide)) ?_
  refine g_Em h (fun r u h => ?_)
  obtain ⟨y2, rfl, hL, hr_3_7, h⟩ := h
  refine And.intro (hL.k 3 (by decide)) (Or.inl ⟨_, hr_3_7, ?_⟩)
  refine And.intro (hL.pk hp 0 (by decide)) (Or.inl ⟨_, (hL.pr hp 6 (by decide)), ?_⟩)
  refine And.intro (hL.k 3 (by decide)) ?_
  refine And.intro (hL.k 3 (by decide)) (Or.inl ⟨_, hr_3_7, ?_⟩)
  refine And.intro (hL.pk hp 0 (by decide)) (Or.inl ⟨_, (hL.pr hp 5 (by decide)), ?_⟩)
  refine Or.inl (And.intro (hL.pk hp 4 (by decide)) (And.intro (hL.pv hp 4 (by decide) (by decide) h.1) ?_))
  have h := h.2
  refine And.intro (hL.pk hp 5 (by decide)) (And.intro (hL.pv hp 5 (by decide) (by decide) h.1) ?_)
  have h := h.2 _ rfl
  refine And.intro (hL.k 3 (by decide)) (Or.inl ⟨_, hr_3_7, ?_⟩)
  refine And.intro (hL.pk hp 0 (by decide)) (Or.inl ⟨_, (hL.pr hp 4 (by decide)), ?_⟩)
  refine And.intro (hL.k 3 (by decide)) ?_
  refine And.intro (hL.pk hp 3 (by decide)) (And.intro (hL.pv hp 3 (by decide) (by decide) h.1) ?_)
  have h := h.2 _ rfl
  exact And.intro rfl (And.intro rfl h)
theorem x_Reader_readFunctionName {cx : gCx} {d : Nat} {ad : Nat → Nat} {p : Nat} (hp : isP p) {t : gSt} {post : Option Value → gSt → Prop} (hL : Lay t ad) (h : g_E cx d i_Tokens_need [.ref (ad 4), .int 3] t (fun r u1 => ∃ y2 : Int32, r = some (.int y2) ∧ Lay u1 ad ∧ ((¬ y2 = 0 → g_E cx d i_Tokens_isAt [.ref (ad 4), .int 1] u1 (fun r u3 => ∃ y4 : Int32, r = some (.int y4) ∧ Lay u3 ad ∧ u3.2.2.2 (ad 3) 7 = some (ad p) ∧ ((y4 = 0 → g_W cx (g_E cx d) mt_Reader_readFunctionName post (73, [some (.ref (ad 3))], [], u3, 0, 0)) ∧ (¬ (y4 = 0) → g_E cx d i_Program_find [.ref (ad p), .long (u3.2.2.1 (ad 4) 7)] u3 (fun r u5 => ∃ y6 : Int32, r = some (.int y6) ∧ Lay u5 ad ∧ u5.2.2.2 (ad 3) 7 = some (ad p) ∧ ((y6 = (-1) → ((u5.2.1 (ad p) 15) < 24 → g_W cx (g_E cx d) mt_Reader_readFunctionName post (73, [some (.ref (ad 3))], [], u5, 0, 0)) ∧ (¬ ((u5.2.1 (ad p) 15) < 24) → g_E cx d i_Tokens_failHere [.ref (ad 4), .int 5] u5 (fun r u7 => r = none ∧ Lay u7 ad ∧ (g_W cx (g_E cx d) mt_Reader_readFunctionName post (73, [some (.ref (ad 3))], [], u7, 0, 0))))) ∧ (¬ (y6 = (-1)) → g_E cx d i_Tokens_failHere [.ref (ad 4), .int 3] u5 (fun r u9 => r = none ∧ Lay u9 ad ∧ (g_W cx (g_E cx d) mt_Reader_readFunctionName post (73, [some (.ref (ad 3))], [], u9, 0, 0)))))))))) ∧ (¬ (¬ y2 = 0) → post (some (.int 0)) u1)))) : g_E cx (d + 1) i_Reader_readFunctionName [.ref (ad 3)] t post := by
  refine g_call mt_Reader_readFunctionName rfl (by decide) (Nat.le_of_ble_eq_true rfl) ?_
  refine g_run [73] 400 (fun P hP => ?_)
  refine And.intro (hL.k 3 (by decide)) (Or.inl ⟨_, (hL.r 3 0 4 (by decide)), ?_⟩)
  refine And.intro (hL.k 4 (by decide)) ?_
  refine g_Em h (fun r u h => ?_)
  obtain ⟨y2, rfl, hL, h⟩ := h
  refine And.intro (fun c => ?_) (fun c => ?_)
  · have h := h.1 c
    refine And.intro (hL.k 3 (by decide)) (Or.inl ⟨_, (hL.r 3 0 4 (by decide)), ?_⟩)
    refine And.intro (hL.k 4 (by decide)) ?_
    refine g_Em h (fun r u h => ?_)
    obtain ⟨y4, rfl, hL, hr_3_7, h⟩ := h
    refine And.intro (fun c => ?_) (fun c => ?_)
    · have h := h.1 c
      exact hP _ h
    · have h := h.2 c
      refine And.intro (hL.k 3 (by decide)) (Or.inl ⟨_, hr_3_7, ?_⟩)
      refine And.intro (hL.k 3 (by decide)) (Or.inl ⟨_, (hL.r 3 0 4 (by decide)), ?_⟩)
      refine And.intro (hL.k 4 (by decide)) ?_
      refine And.intro (hL.pk hp 0 (by decide)) ?_
      refine g_Em h (fun r u h => ?_)
      obtain ⟨y6, rfl, hL, hr_3_7, h⟩ := h
      refine And.intro (fun c => ?_) (fun c => ?_)
      · have h := h.1 c
        refine And.intro (hL.k 3 (by decide)) (Or.inl ⟨_, hr_3_7, ?_⟩)
        refine And.intro (hL.pk hp 0 (by decide)) ?_
        refine And.intro (fun c => ?_) (fun c => ?_)
        · have h := h.1 c
          exact hP _ h
        · have h := h.2 c
          refine And.intro (hL.k 3 (by decide)) (Or.inl ⟨_, (hL.r 3 0 4 (by decide)), ?_⟩)
          refine And.intro (hL.k 4 (by decide)) ?_
          refine g_Em h (fun r u h => ?_)
          obtain ⟨rfl, hL, h⟩ := h
          exact hP _ h
      · have h := h.2 c
        refine And.intro (hL.k 3 (by decide)) (Or.inl ⟨_, (hL.r 3 0 4 (by decide)), ?_⟩)
        refine And.intro (hL.k 4 (by decide)) ?_
        refine g_Em h (fun r u h => ?_)
        obtain ⟨rfl, hL, h⟩ := h
        exact hP _ h
  · have h := h.2 c
    exact And.intro rfl (And.intro rfl h)
theorem x_Reader_readFunctionName_73 {cx : gCx} {d : Nat} {ad : Nat → Nat} {p : Nat} (hp : isP p) {t : gSt} {post : Option Value → gSt → Prop} (hL : Lay t ad) (h : g_E cx d i_Tokens_need [.ref (ad 4), .int 1] t (fun r u1 => ∃ y2 : Int32, r = some (.int y2) ∧ Lay u1 ad ∧ u1.2.2.2 (ad 3) 7 = some (ad p) ∧ ((¬ y2 = 0 → vp_in (u1.2.1 (ad p) 15) 24 ∧ (∀ t3, t3 = g_sj u1 (ad (p + 1)) ((u1.2.1 (ad p) 15) : Int32).toNatClampNeg (u1.2.2.1 (ad 4) 7) → ∀ t4, t4 = g_si t3 (ad p) 15 ((t3.2.1 (ad p) 15) + 1) → post (some (.int 1)) t4)) ∧ (¬ (¬ y2 = 0) → post (some (.int 0)) u1)))) : g_W cx (g_E cx d) mt_Reader_readFunctionName post (73, [some (.ref (ad 3))], [], t, 0, 0) := by
  refine g_run [73] 400 (fun P hP => ?_)
  refine And.intro (hL.k 3 (by decide)) (Or.inl ⟨_, (hL.r 3 0 4 (by decide)), ?_⟩)
  refine And.intro (hL.k 4 (by decide)) ?_
  refine g_Em h (fun r u h => ?_)
  obtain ⟨y2, rfl, hL, hr_3_7, h⟩ := h
  refine And.intro (fun c => ?_) (fun c => ?_)
  · have h := h.1 c
    refine And.intro (hL.k 3 (by decide)) (Or.inl ⟨_, hr_3_7, ?_⟩)
    refine And.intro (hL.pk hp 0 (by decide)) (Or.inl ⟨_, (hL.pr hp 2 (by decide)), ?_⟩)
    refine And.intro (hL.k 3 (by decide)) (Or.inl ⟨_, hr_3_7, ?_⟩)
    refine And.intro (hL.pk hp 0 (by decide)) ?_
    refine And.intro (hL.k 3 (by decide)) (Or.inl ⟨_, (hL.r 3 0 4 (by decide)), ?_⟩)
    refine And.intro (hL.k 4 (by decide)) ?_
    refine And.intro (hL.pk hp 1 (by decide)) (And.intro (hL.pv hp 1 (by decide) (by decide) h.1) ?_)
    have h := h.2 _ rfl
    refine And.intro (hL.k 3 (by decide)) (Or.inl ⟨_, hr_3_7, ?_⟩)
    refine And.intro (hL.pk hp 0 (by decide)) ?_
    refine And.intro (hL.pk hp 0 (by decide)) ?_
    have h := h _ rfl
    exact And.intro rfl (And.intro rfl h)
  · have h := h.2 c
    exact And.intro rfl (And.intro rfl h)
theorem x_Reader_readParameters {cx : gCx} {d : Nat} {ad : Nat → Nat} {t : gSt} {post : Option Value → gSt → Prop} (hL : Lay t ad) (h : g_E cx d i_Tokens_need [.ref (ad 4), .int 40] t (fun r u1 => ∃ y2 : Int32, r = some (.int y2) ∧ Lay u1 ad ∧ ((¬ y2 = 0 → g_E cx d i_Tokens_isAt [.ref (ad 4), .int 41] u1 (fun r u3 => ∃ y4 : Int32, r = some (.int y4) ∧ Lay u3 ad ∧ ((¬ y4 = 0 → g_W cx (g_E cx d) mt_Reader_readParameters post (34, [some (.ref (ad 3)), some (.int 0), some (.int 0)], [], u3, 0, 0)) ∧ (¬ (¬ y4 = 0) → g_W cx (g_E cx d) mt_Reader_readParameters post (34, [some (.ref (ad 3)), some (.int 1), some (.int 0)], [], u3, 0, 0))))) ∧ (¬ (¬ y2 = 0) → post (some (.int 0)) u1)))) : g_E cx (d + 1) i_Reader_readParameters [.ref (ad 3)] t post := by
  refine g_call mt_Reader_readParameters rfl (by decide) (Nat.le_of_ble_eq_true rfl) ?_
  refine g_run [34] 400 (fun P hP => ?_)
  refine And.intro (hL.k 3 (by decide)) (Or.inl ⟨_, (hL.r 3 0 4 (by decide)), ?_⟩)
  refine And.intro (hL.k 4 (by decide)) ?_
  refine g_Em h (fun r u h => ?_)
  obtain ⟨y2, rfl, hL, h⟩ := h
  refine And.intro (fun c => ?_) (fun c => ?_)
  · have h := h.1 c
    refine And.intro (hL.k 3 (by decide)) (Or.inl ⟨_, (hL.r 3 0 4 (by decide)), ?_⟩)
    refine And.intro (hL.k 4 (by decide)) ?_
    refine g_Em h (fun r u h => ?_)
    obtain ⟨y4, rfl, hL, h⟩ := h
    refine And.intro (fun c => ?_) (fun c => ?_)
    · have h := h.1 c
      exact hP _ h
    · have h := h.2 c
      exact hP _ h
  · have h := h.2 c
    exact And.intro rfl (And.intro rfl h)
theorem x_Reader_readParameters_34 {cx : gCx} {d : Nat} {ad : Nat → Nat} {l1 l2 : Int32} {t : gSt} {post : Option Value → gSt → Prop} (hL : Lay t ad) (h : (6 < l2 → g_E cx d i_Tokens_need [.ref (ad 4), .int 41] t (fun r u1 => ∃ y2 : Int32, r = some (.int y2) ∧ Lay u1 ad ∧ (narrow .boolean (.int y2) = .int y2 ∧ post (some (.int y2)) u1))) ∧ (¬ (6 < l2) → (l1 = 0 → g_E cx d i_Tokens_need [.ref (ad 4), .int 41] t (fun r u3 => ∃ y4 : Int32, r = some (.int y4) ∧ Lay u3 ad ∧ (narrow .boolean (.int y4) = .int y4 ∧ post (some (.int y4)) u3))) ∧ (¬ (l1 = 0) → g_E cx d i_Tokens_isAt [.ref (ad 4), .int 1] t (fun r u5 => ∃ y6 : Int32, r = some (.int y6) ∧ Lay u5 ad ∧ ((y6 = 0 → g_E cx d i_Tokens_need [.ref (ad 4), .int 1] u5 (fun r u7 => ∃ y8 : Int32, r = some (.int y8) ∧ Lay u7 ad ∧ ((¬ y8 = 0 → g_E cx d i_Reader_see [.ref (ad 3), .long (u7.2.2.1 (ad 4) 7), .int (u7.2.1 (ad 3) 13)] u7 (fun r u9 => r = none ∧ Lay u9 ad ∧ (∀ t11, t11 = g_si u9 (ad 3) 13 ((u9.2.1 (ad 3) 13) + 1) → g_E cx d i_Tokens_isAt [.ref (ad 4), .int 44] t11 (fun r u12 => ∃ y13 : Int32, r = some (.int y13) ∧ Lay u12 ad ∧ ((y13 = 0 → g_W cx (g_E cx d) mt_Reader_readParameters post (34, [some (.ref (ad 3)), some (.int y13), some (.int (l2 + 1))], [], u12, 0, 0)) ∧ (¬ (y13 = 0) → g_E cx d i_Tokens_take [.ref (ad 4)] u12 (fun r u14 => r = none ∧ Lay u14 ad ∧ (g_W cx (g_E cx d) mt_Reader_readParameters post (34, [some (.ref (ad 3)), some (.int y13), some (.int (l2 + 1))], [], u14, 0, 0))))))))) ∧ (¬ (¬ y8 = 0) → post (some (.int 0)) u7)))) ∧ (¬ (y6 = 0) → g_E cx d i_Reader_checkParameterName [.ref (ad 3)] u5 (fun r u16 => r = none ∧ Lay u16 ad ∧ (g_E cx d i_Tokens_need [.ref (ad 4), .int 1] u16 (fun r u18 => ∃ y19 : Int32, r = some (.int y19) ∧ Lay u18 ad ∧ ((¬ y19 = 0 → g_E cx d i_Reader_see [.ref (ad 3), .long (u18.2.2.1 (ad 4) 7), .int (u18.2.1 (ad 3) 13)] u18 (fun r u20 => r = none ∧ Lay u20 ad ∧ (∀ t22, t22 = g_si u20 (ad 3) 13 ((u20.2.1 (ad 3) 13) + 1) → g_E cx d i_Tokens_isAt [.ref (ad 4), .int 44] t22 (fun r u23 => ∃ y24 : Int32, r = some (.int y24) ∧ Lay u23 ad ∧ ((y24 = 0 → g_W cx (g_E cx d) mt_Reader_readParameters post (34, [some (.ref (ad 3)), some (.int y24), some (.int (l2 + 1))], [], u23, 0, 0)) ∧ (¬ (y24 = 0) → g_E cx d i_Tokens_take [.ref (ad 4)] u23 (fun r u25 => r = none ∧ Lay u25 ad ∧ (g_W cx (g_E cx d) mt_Reader_readParameters post (34, [some (.ref (ad 3)), some (.int y24), some (.int (l2 + 1))], [], u25, 0, 0))))))))) ∧ (¬ (¬ y19 = 0) → post (some (.int 0)) u18))))))))))) : g_W cx (g_E cx d) mt_Reader_readParameters post (34, [some (.ref (ad 3)), some (.int l1), some (.int l2)], [], t, 0, 0) := by
  refine g_run [34] 400 (fun P hP => ?_)
  refine And.intro (fun c => ?_) (fun c => ?_)
  · have h := h.1 c
    refine And.intro (hL.k 3 (by decide)) (Or.inl ⟨_, (hL.r 3 0 4 (by decide)), ?_⟩)
    refine And.intro (hL.k 4 (by decide)) ?_
    refine g_Em h (fun r u h => ?_)
    obtain ⟨y2, rfl, hL, h⟩ := h
    exact And.intro rfl h
  · have h := h.2 c
    refine And.intro (fun c => ?_) (fun c => ?_)
    · have h := h.1 c
      refine And.intro (hL.k 3 (by decide)) (Or.inl ⟨_, (hL.r 3 0 4 (by decide)), ?_⟩)
      refine And.intro (hL.k 4 (by decide)) ?_
      refine g_Em h (fun r u h => ?_)
      obtain ⟨y4, rfl, hL, h⟩ := h
      exact And.intro rfl h
    · have h := h.2 c
      refine And.intro (hL.k 3 (by decide)) (Or.inl ⟨_, (hL.r 3 0 4 (by decide)), ?_⟩)
      refine And.intro (hL.k 4 (by decide)) ?_
      refine g_Em h (fun r u h => ?_)
      obtain ⟨y6, rfl, hL, h⟩ := h
      refine And.intro (fun c => ?_) (fun c => ?_)
      · have h := h.1 c
        refine And.intro (hL.k 3 (by decide)) (Or.inl ⟨_, (hL.r 3 0 4 (by decide)), ?_⟩)
        refine And.intro (hL.k 4 (by decide)) ?_
        refine g_Em h (fun r u h => ?_)
        obtain ⟨y8, rfl, hL, h⟩ := h
        refine And.intro (fun c => ?_) (fun c => ?_)
        · have h := h.1 c
          refine And.intro (hL.k 3 (by decide)) (Or.inl ⟨_, (hL.r 3 0 4 (by decide)), ?_⟩)
          refine And.intro (hL.k 4 (by decide)) ?_
          refine And.intro (hL.k 3 (by decide)) ?_
          refine And.intro (hL.k 3 (by decide)) ?_
          refine g_Em h (fun r u h => ?_)
          obtain ⟨rfl, hL, h⟩ := h
          refine And.intro (hL.k 3 (by decide)) ?_
          refine And.intro (hL.k 3 (by decide)) ?_
          have h := h _ rfl
          refine And.intro (hL.k 3 (by decide)) (Or.inl ⟨_, (hL.r 3 0 4 (by decide)), ?_⟩)
          refine And.intro (hL.k 4 (by decide)) ?_
          refine g_Em h (fun r u h => ?_)
          obtain ⟨y13, rfl, hL, h⟩ := h
          refine And.intro (fun c => ?_) (fun c => ?_)
          · have h := h.1 c
            exact hP _ h
          · have h := h.2 c
            refine And.intro (hL.k 3 (by decide)) (Or.inl ⟨_, (hL.r 3 0 4 (by decide)), ?_⟩)
            refine And.intro (hL.k 4 (by decide)) ?_
            refine g_Em h (fun r u h => ?_)
            obtain ⟨rfl, hL, h⟩ := h
            exact hP _ h
        · have h := h.2 c
          exact And.intro rfl (And.intro rfl h)
      · have h := h.2 c
        refine And.intro (hL.k 3 (by decide)) ?_
        refine g_Em h (fun r u h => ?_)
        obtain ⟨rfl, hL, h⟩ := h
        refine And.intro (hL.k 3 (by decide)) (Or.inl ⟨_, (hL.r 3 0 4 (by decide)), ?_⟩)
        refine And.intro (hL.k 4 (by decide)) ?_
        refine g_Em h (fun r u h => ?_)
        obtain ⟨y19, rfl, hL, h⟩ := h
        refine And.intro (fun c => ?_) (fun c => ?_)
        · have h := h.1 c
          refine And.intro (hL.k 3 (by decide)) (Or.inl ⟨_, (hL.r 3 0 4 (by decide)), ?_⟩)
          refine And.intro (hL.k 4 (by decide)) ?_
          refine And.intro (hL.k 3 (by decide)) ?_
          refine And.intro (hL.k 3 (by decide)) ?_
          refine g_Em h (fun r u h => ?_)
          obtain ⟨rfl, hL, h⟩ := h
          refine And.intro (hL.k 3 (by decide)) ?_
          refine And.intro (hL.k 3 (by decide)) ?_
          have h := h _ rfl
          refine And.intro (hL.k 3 (by decide)) (Or.inl ⟨_, (hL.r 3 0 4 (by decide)), ?_⟩)
          refine And.intro (hL.k 4 (by decide)) ?_
          refine g_Em h (fun r u h => ?_)
          obtain ⟨y24, rfl, hL, h⟩ := h
          refine And.intro (fun c => ?_) (fun c => ?_)
          · have h := h.1 c
            exact hP _ h
          · have h := h.2 c
            refine And.intro (hL.k 3 (by decide)) (Or.inl ⟨_, (hL.r 3 0 4 (by decide)), ?_⟩)
            refine And.intro (hL.k 4 (by decide)) ?_
            refine g_Em h (fun r u h => ?_)
            obtain ⟨rfl, hL, h⟩ := h
            exact hP _ h
        · have h := h.2 c
          exact And.intro rfl (And.intro rfl h)
theorem x_Reader_checkParameterName {cx : gCx} {d : Nat} {ad : Nat → Nat} {t : gSt} {post : Option Value → gSt → Prop} (hL : Lay t ad) (h : g_E cx d i_Reader_findVariable [.ref (ad 3), .long (t.2.2.1 (ad 4) 7)] t (fun r u1 => ∃ y2 : Int32, r = some (.int y2) ∧ Lay u1 ad ∧ ((y2 = (-1) → ((u1.2.1 (ad 3) 13) < 6 → post none u1) ∧ (¬ ((u1.2.1 (ad 3) 13) < 6) → g_E cx d i_Tokens_failHere [.ref (ad 4), .int 5] u1 (fun r u3 => r = none ∧ Lay u3 ad ∧ (post none u3)))) ∧ (¬ (y2 = (-1)) → g_E cx d i_Tokens_failHere [.ref (ad 4), .int 3] u1 (fun r u5 => r = none ∧ Lay u5 ad ∧ (post none u5)))))) : g_E cx (d + 1) i_Reader_checkParameterName [.ref (ad 3)] t post := by
  refine g_call mt_Reader_checkParameterName rfl (by decide) (Nat.le_of_ble_eq_true rfl) ?_
  refine g_run [] 400 (fun P hP => ?_)
  refine And.intro (hL.k 3 (by decide)) (Or.inl ⟨_, (hL.r 3 0 4 (by decide)), ?_⟩)
  refine And.intro (hL.k 4 (by decide)) ?_
  refine And.intro (hL.k 3 (by decide)) ?_
  refine g_Em h (fun r u h => ?_)
  obtain ⟨y2, rfl, hL, h⟩ := h
  refine And.intro (fun c => ?_) (fun c => ?_)
  · have h := h.1 c
    refine And.intro (hL.k 3 (by decide)) ?_
    refine And.intro (fun c => ?_) (fun c => ?_)
    · have h := h.1 c
      exact And.intro rfl (And.intro rfl h)
    · have h := h.2 c
      refine And.intro (hL.k 3 (by decide)) (Or.inl ⟨_, (hL.r 3 0 4 (by decide)), ?_⟩)
      refine And.intro (hL.k 4 (by decide)) ?_
      refine g_Em h (fun r u h => ?_)
      obtain ⟨rfl, hL, h⟩ := h
      exact And.intro rfl (And.intro rfl h)
  · have h := h.2 c
    refine And.intro (hL.k 3 (by decide)) (Or.inl ⟨_, (hL.r 3 0 4 (by decide)), ?_⟩)
    refine And.intro (hL.k 4 (by decide)) ?_
    refine g_Em h (fun r u h => ?_)
    obtain ⟨rfl, hL, h⟩ := h
    exact And.intro rfl (And.intro rfl h)
theorem x_Reader_see {cx : gCx} {d : Nat} {ad : Nat → Nat} {a2 : Int32} {a1 : Int64} {t : gSt} {post : Option Value → gSt → Prop} (hL : Lay t ad) (h : ((Int32.ofNat (t.1.2.2 (ad 9))) ≤ (t.2.1 (ad 3) 9) → post none t) ∧ (¬ ((Int32.ofNat (t.1.2.2 (ad 9))) ≤ (t.2.1 (ad 3) 9)) → vp_in (t.2.1 (ad 3) 9) 46 ∧ (∀ t1, t1 = g_sj t (ad 9) ((t.2.1 (ad 3) 9) : Int32).toNatClampNeg a1 → vp_in (t1.2.1 (ad 3) 9) 46 ∧ (∀ t2, t2 = g_si t1 (ad 10) ((t1.2.1 (ad 3) 9) : Int32).toNatClampNeg a2 → ∀ t3, t3 = g_si t2 (ad 3) 9 ((t2.2.1 (ad 3) 9) + 1) → post none t3)))) : g_E cx (d + 1) i_Reader_see [.ref (ad 3), .long a1, .int a2] t post := by
  refine g_call mt_Reader_see rfl (by decide) (Nat.le_of_ble_eq_true rfl) ?_
  refine g_run [] 400 (fun P hP => ?_)
  refine And.intro (hL.k 3 (by decide)) ?_
  refine And.intro (hL.k 3 (by decide)) (Or.inl ⟨_, (hL.r 3 5 9 (by decide)), ?_⟩)
  refine Or.inl (And.intro (hL.k 9 (by decide)).1 (And.intro (g_karr (hL.k 9 (by decide)) (by decide) (by decide)) ?_))
  refine And.intro (fun c => ?_) (fun c => ?_)
  · have h := h.1 c
    exact And.intro rfl (And.intro rfl h)
  · have h := h.2 c
    refine And.intro (hL.k 3 (by decide)) (Or.inl ⟨_, (hL.r 3 5 9 (by decide)), ?_⟩)
    refine And.intro (hL.k 3 (by decide)) ?_
    refine And.intro (hL.k 9 (by decide)) (And.intro (hL.v 9 (by decide) h.1) ?_)
    have h := h.2 _ rfl
    refine And.intro (hL.k 3 (by decide)) (Or.inl ⟨_, (hL.r 3 6 10 (by decide)), ?_⟩)
    refine And.intro (hL.k 3 (by decide)) ?_
    refine And.intro (hL.k 10 (by decide)) (And.intro (hL.v 10 (by decide) h.1) ?_)
    have h := h.2 _ rfl
    refine And.intro (hL.k 3 (by decide)) ?_
    refine And.intro (hL.k 3 (by decide)) ?_
    have h := h _ rfl
    exact And.intro rfl (And.intro rfl h)
theorem x_Reader_findVariable {cx : gCx} {d : Nat} {ad : Nat → Nat} {a1 : Int64} {t : gSt} {post : Option Value → gSt → Prop} (hL : Lay t ad) (h : ∀ x1 : Int32, x1 = ((t.2.1 (ad 3) 9) - 1) → g_W cx (g_E cx d) mt_Reader_findVariable post (7, [some (.ref (ad 3)), some (.long a1), none, some (.int x1)], [], t, 0, 0)) : g_E cx (d + 1) i_Reader_findVariable [.ref (ad 3), .long a1] t post := by
  refine g_call mt_Reader_findVariable rfl (by decide) (Nat.le_of_ble_eq_true rfl) ?_
  refine g_run [7] 400 (fun P hP => ?_)
  refine And.intro (hL.k 3 (by decide)) ?_
  have h := h _ rfl
  exact hP _ h
theorem x_Reader_findVariable_7 {cx : gCx} {d : Nat} {ad : Nat → Nat} {l3 : Int32} {l1 : Int64} {t : gSt} {post : Option Value → gSt → Prop} (hL : Lay t ad) (h : (l3 < 0 → post (some (.int (-1))) t) ∧ (¬ (l3 < 0) → vp_in l3 46 ∧ ((¬ (lg_cmp (t.2.2.1 (ad 9) (l3 : Int32).toNatClampNeg) l1) = 0 → g_W cx (g_E cx d) mt_Reader_findVariable post (7, [some (.ref (ad 3)), some (.long l1), none, some (.int (l3 + (-1)))], [], t, 0, 0)) ∧ (¬ (¬ (lg_cmp (t.2.2.1 (ad 9) (l3 : Int32).toNatClampNeg) l1) = 0) → vp_in l3 46 ∧ (post (some (.int (t.2.1 (ad 10) (l3 : Int32).toNatClampNeg))) t))))) : g_W cx (g_E cx d) mt_Reader_findVariable post (7, [some (.ref (ad 3)), some (.long l1), none, some (.int l3)], [], t, 0, 0) := by
  refine g_run [7] 400 (fun P hP => ?_)
  refine And.intro (fun c => ?_) (fun c => ?_)
  · have h := h.1 c
    exact And.intro rfl (And.intro rfl h)
  · have h := h.2 c
    refine And.intro (hL.k 3 (by decide)) (Or.inl ⟨_, (hL.r 3 5 9 (by decide)), ?_⟩)
    refine Or.inl (And.intro (hL.k 9 (by decide)) (And.intro (hL.v 9 (by decide) h.1) ?_))
    have h := h.2
    refine And.intro (fun c => ?_) (fun c => ?_)
    · have h := h.1 c
      exact hP _ h
    · have h := h.2 c
      refine And.intro (hL.k 3 (by decide)) (Or.inl ⟨_, (hL.r 3 6 10 (by decide)), ?_⟩)
      refine Or.inl (And.intro (hL.k 10 (by decide)) (And.intro (hL.v 10 (by decide) h.1) ?_))
      have h := h.2
      exact And.intro rfl (And.intro rfl h)
theorem x_Reader_opens {cx : gCx} {d : Nat} {ad : Nat → Nat} {t : gSt} {post : Option Value → gSt → Prop} (hL : Lay t ad) (h : ((t.2.1 (ad 3) 10) < 30 → ∀ t1, t1 = g_si t (ad 3) 10 ((t.2.1 (ad 3) 10) + 1) → post (some (.int 1)) t1) ∧ (¬ ((t.2.1 (ad 3) 10) < 30) → g_E cx d i_Tokens_failHere [.ref (ad 4), .int 5] t (fun r u2 => r = none ∧ Lay u2 ad ∧ (post (some (.int 0)) u2)))) : g_E cx (d + 1) i_Reader_opens [.ref (ad 3)] t post := by
  refine g_call mt_Reader_opens rfl (by decide) (Nat.le_of_ble_eq_true rfl) ?_
  refine g_run [] 400 (fun P hP => ?_)
  refine And.intro (hL.k 3 (by decide)) ?_
  refine And.intro (fun c => ?_) (fun c => ?_)
  · have h := h.1 c
    refine And.intro (hL.k 3 (by decide)) ?_
    refine And.intro (hL.k 3 (by decide)) ?_
    have h := h _ rfl
    exact And.intro rfl (And.intro rfl h)
  · have h := h.2 c
    refine And.intro (hL.k 3 (by decide)) (Or.inl ⟨_, (hL.r 3 0 4 (by decide)), ?_⟩)
    refine And.intro (hL.k 4 (by decide)) ?_
    refine g_Em h (fun r u h => ?_)
    obtain ⟨rfl, hL, h⟩ := h
    exact And.intro rfl (And.intro rfl h)
theorem x_Reader_addNode {cx : gCx} {d : Nat} {ad : Nat → Nat} {a1 a2 : Int32} {t : gSt} {post : Option Value → gSt → Prop} (hL : Lay t ad) (h : g_E cx d i_Reader_insertNode [.ref (ad 3), .int (t.2.1 (ad 3) 11), .int a1, .int a2] t (fun r u1 => r = none ∧ Lay u1 ad ∧ (post none u1))) : g_E cx (d + 1) i_Reader_addNode [.ref (ad 3), .int a1, .int a2] t post := by
  refine g_call mt_Reader_addNode rfl (by decide) (Nat.le_of_ble_eq_true rfl) ?_
  refine g_run [] 400 (fun P hP => ?_)
  refine And.intro (hL.k 3 (by decide)) ?_
  refine And.intro (hL.k 3 (by decide)) ?_
  refine g_Em h (fun r u h => ?_)
  obtain ⟨rfl, hL, h⟩ := h
  exact And.intro rfl (And.intro rfl h)
theorem x_Reader_insertNode {cx : gCx} {d : Nat} {ad : Nat → Nat} {p : Nat} (hp : isP p) {a1 a2 a3 : Int32} {t : gSt} {post : Option Value → gSt → Prop} (hL : Lay t ad) (hr_3_7 : t.2.2.2 (ad 3) 7 = some (ad p)) (h : ∀ t1, t1 = g_si t (ad 3) 12 ((t.2.1 (ad 3) 12) + 1) → (400 < (t1.2.1 (ad 3) 12) → post none t1) ∧ (¬ (400 < (t1.2.1 (ad 3) 12)) → ((Int32.ofNat (t1.1.2.2 (ad (p + 12)))) ≤ (t1.2.1 (ad 3) 11) → post none t1) ∧ (¬ ((Int32.ofNat (t1.1.2.2 (ad (p + 12)))) ≤ (t1.2.1 (ad 3) 11)) → (a1 < 0 → post none t1) ∧ (¬ (a1 < 0) → (a1 ≤ (t1.2.1 (ad 3) 11) → (¬ a1 < 0 ∧ ¬ (a1 + 1) < 0 ∧ ¬ ((t1.2.1 (ad 3) 11) - a1) < 0 ∧ (a1 : Int32).toNatClampNeg + (((t1.2.1 (ad 3) 11) - a1) : Int32).toNatClampNeg ≤ (c_len (p + 12)) ∧ ((a1 + 1) : Int32).toNatClampNeg + (((t1.2.1 (ad 3) 11) - a1) : Int32).toNatClampNeg ≤ (c_len (p + 12))) ∧ (∀ t2, t2 = g_row t1 (ad (p + 12)) (va_cpy (t1.2.1 (ad (p + 12))) (t1.2.1 (ad (p + 12))) (a1 : Int32).toNatClampNeg ((a1 + 1) : Int32).toNatClampNeg (((t1.2.1 (ad 3) 11) - a1) : Int32).toNatClampNeg) → (¬ a1 < 0 ∧ ¬ (a1 + 1) < 0 ∧ ¬ ((t2.2.1 (ad 3) 11) - a1) < 0 ∧ (a1 : Int32).toNatClampNeg + (((t2.2.1 (ad 3) 11) - a1) : Int32).toNatClampNeg ≤ (c_len (p + 13)) ∧ ((a1 + 1) : Int32).toNatClampNeg + (((t2.2.1 (ad 3) 11) - a1) : Int32).toNatClampNeg ≤ (c_len (p + 13))) ∧ (∀ t3, t3 = g_row t2 (ad (p + 13)) (va_cpy (t2.2.1 (ad (p + 13))) (t2.2.1 (ad (p + 13))) (a1 : Int32).toNatClampNeg ((a1 + 1) : Int32).toNatClampNeg (((t2.2.1 (ad 3) 11) - a1) : Int32).toNatClampNeg) → vp_in a1 (c_len (p + 12)) ∧ (∀ t4, t4 = g_si t3 (ad (p + 12)) (a1 : Int32).toNatClampNeg a2 → vp_in a1 (c_len (p + 13)) ∧ (∀ t5, t5 = g_si t4 (ad (p + 13)) (a1 : Int32).toNatClampNeg a3 → ∀ t6, t6 = g_si t5 (ad 3) 11 ((t5.2.1 (ad 3) 11) + 1) → post none t6))))) ∧ (¬ (a1 ≤ (t1.2.1 (ad 3) 11)) → post none t1))))) : g_E cx (d + 1) i_Reader_insertNode [.ref (ad 3), .int a1, .int a2, .int a3] t post := by
  refine g_call mt_Reader_insertNode rfl (by decide) (Nat.le_of_ble_eq_true rfl) ?_
  refine g_run [] 400 (fun P hP => ?_)
  refine And.intro (hL.k 3 (by decide)) ?_
  refine And.intro (hL.k 3 (by decide)) ?_
  have h := h _ rfl
  refine And.intro (hL.k 3 (by decide)) ?_
  refine And.intro (fun c => ?_) (fun c => ?_)
  · have h := h.1 c
    exact And.intro rfl (And.intro rfl h)
  · have h := h.2 c
    refine And.intro (hL.k 3 (by decide)) ?_
    refine And.intro (hL.k 3 (by decide)) (Or.inl ⟨_, hr_3_7, ?_⟩)
    refine And.intro (hL.pk hp 0 (by decide)) (Or.inl ⟨_, (hL.pr hp 0 (by decide)), ?_⟩)
    refine Or.inl (And.intro (hL.pk hp 12 (by decide)).1 (And.intro (g_karr (hL.pk hp 12 (by decide)) (by decide) (by decide)) ?_))
    refine And.intro (fun c => ?_) (fun c => ?_)
    · have h := h.1 c
      exact And.intro rfl (And.intro rfl h)
    · have h := h.2 c
      refine And.intro (fun c => ?_) (fun c => ?_)
      · have h := h.1 c
        exact And.intro rfl (And.intro rfl h)
      · have h := h.2 c
        refine And.intro (hL.k 3 (by decide)) ?_
        refine And.intro (fun c => ?_) (fun c => ?_)
        · have h := h.1 c
          refine And.intro (hL.k 3 (by decide)) (Or.inl ⟨_, hr_3_7, ?_⟩)
          refine And.intro (hL.pk hp 0 (by decide)) (Or.inl ⟨_, (hL.pr hp 0 (by decide)), ?_⟩)
          refine And.intro (hL.k 3 (by decide)) (Or.inl ⟨_, hr_3_7, ?_⟩)
          refine And.intro (hL.pk hp 0 (by decide)) (Or.inl ⟨_, (hL.pr hp 0 (by decide)), ?_⟩)
          refine And.intro (hL.k 3 (by decide)) ?_
          refine And.intro (hL.pk hp 12 (by decide)) (And.intro (hL.pk hp 12 (by decide)) (And.intro ⟨h.1.1, h.1.2.1, h.1.2.2.1, (hL.pla2 hp 12 (by decide) h.1.2.2.2.1), (hL.pla2 hp 12 (by decide) h.1.2.2.2.2)⟩ ?_))
          have h := h.2 _ rfl
          refine And.intro (hL.k 3 (by decide)) (Or.inl ⟨_, hr_3_7, ?_⟩)
          refine And.intro (hL.pk hp 0 (by decide)) (Or.inl ⟨_, (hL.pr hp 1 (by decide)), ?_⟩)
          refine And.intro (hL.k 3 (by decide)) (Or.inl ⟨_, hr_3_7, ?_⟩)
          refine And.intro (hL.pk hp 0 (by decide)) (Or.inl ⟨_, (hL.pr hp 1 (by decide)), ?_⟩)
          refine And.intro (hL.k 3 (by decide)) ?_
          refine And.intro (hL.pk hp 13 (by decide)) (And.intro (hL.pk hp 13 (by decide)) (And.intro ⟨h.1.1, h.1.2.1, h.1.2.2.1, (hL.pla2 hp 13 (by decide) h.1.2.2.2.1), (hL.pla2 hp 13 (by decide) h.1.2.2.2.2)⟩ ?_))
          have h := h.2 _ rfl
          refine And.intro (hL.k 3 (by decide)) (Or.inl ⟨_, hr_3_7, ?_⟩)
          refine And.intro (hL.pk hp 0 (by decide)) (Or.inl ⟨_, (hL.pr hp 0 (by decide)), ?_⟩)
          refine And.intro (hL.pk hp 12 (by decide)) (And.intro (hL.pv2 hp 12 (by decide) h.1) ?_)
          have h := h.2 _ rfl
          refine And.intro (hL.k 3 (by decide)) (Or.inl ⟨_, hr_3_7, ?_⟩)
          refine And.intro (hL.pk hp 0 (by decide)) (Or.inl ⟨_, (hL.pr hp 1 (by decide)), ?_⟩)
          refine And.intro (hL.pk hp 13 (by decide)) (And.intro (hL.pv2 hp 13 (by decide) h.1) ?_)
          have h := h.2 _ rfl
          refine And.intro (hL.k 3 (by decide)) ?_
          refine And.intro (hL.k 3 (by decide)) ?_
          have h := h _ rfl
          exact And.intro rfl (And.intro rfl h)
        · have h := h.2 c
          exact And.intro rfl (And.intro rfl h)
theorem x_Reader_readExpression {cx : gCx} {d : Nat} {ad : Nat → Nat} {t : gSt} {post : Option Value → gSt → Prop} (hL : Lay t ad) (h : g_W cx (g_E cx d) mt_Reader_readExpression post (2, [some (.ref (ad 3)), some (.int 0), none], [], t, 0, 0)) : g_E cx (d + 1) i_Reader_readExpression [.ref (ad 3)] t post := by
  refine g_call mt_Reader_readExpression rfl (by decide) (Nat.le_of_ble_eq_true rfl) ?_
  refine g_run [2] 400 (fun P hP => ?_)
  exact hP _ h
theorem x_Reader_readExpression_2 {cx : gCx} {d : Nat} {ad : Nat → Nat} {l1 : Int32} {o2 : Option Value} {t : gSt} {post : Option Value → gSt → Prop} (hL : Lay t ad) (h : (3000 < l1 → post none t) ∧ (¬ (3000 < l1) → g_E cx d i_Tokens_isAt [.ref (ad 4), .int 4] t (fun r u1 => ∃ y2 : Int32, r = some (.int y2) ∧ Lay u1 ad ∧ ((y2 = 0 → g_E cx d i_Tokens_isAt [.ref (ad 4), .int 6] u1 (fun r u3 => ∃ y4 : Int32, r = some (.int y4) ∧ Lay u3 ad ∧ ((y4 = 0 → ∀ x5 : Int32, x5 = (u3.2.1 (ad 3) 11) → g_E cx d i_Reader_readComparison [.ref (ad 3)] u3 (fun r u6 => r = none ∧ Lay u6 ad ∧ (g_E cx d i_Tokens_isAt [.ref (ad 4), .int 59] u6 (fun r u8 => ∃ y9 : Int32, r = some (.int y9) ∧ Lay u8 ad ∧ ((¬ y9 = 0 → g_E cx d i_Tokens_take [.ref (ad 4)] u8 (fun r u10 => r = none ∧ Lay u10 ad ∧ (g_E cx d i_Reader_insertNode [.ref (ad 3), .int x5, .int 12, .int 0] u10 (fun r u12 => r = none ∧ Lay u12 ad ∧ (g_W cx (g_E cx d) mt_Reader_readExpression post (2, [some (.ref (ad 3)), some (.int (l1 + 1)), some (.int x5)], [], u12, 0, 0)))))) ∧ (¬ (¬ y9 = 0) → post none u8)))))) ∧ (¬ (y4 = 0) → g_E cx d i_Reader_readIf [.ref (ad 3)] u3 (fun r u14 => r = none ∧ Lay u14 ad ∧ (post none u14)))))) ∧ (¬ (y2 = 0) → g_E cx d i_Reader_readLet [.ref (ad 3)] u1 (fun r u16 => r = none ∧ Lay u16 ad ∧ (post none u16))))))) : g_W cx (g_E cx d) mt_Reader_readExpression post (2, [some (.ref (ad 3)), some (.int l1), o2], [], t, 0, 0) := by
  refine g_run [2] 400 (fun P hP => ?_)
  refine And.intro (fun c => ?_) (fun c => ?_)
  · have h := h.1 c
    exact And.intro rfl (And.intro rfl h)
  · have h := h.2 c
    refine And.intro (hL.k 3 (by decide)) (Or.inl ⟨_, (hL.r 3 0 4 (by decide)), ?_⟩)
    refine And.intro (hL.k 4 (by decide)) ?_
    refine g_Em h (fun r u h => ?_)
    obtain ⟨y2, rfl, hL, h⟩ := h
    refine And.intro (fun c => ?_) (fun c => ?_)
    · have h := h.1 c
      refine And.intro (hL.k 3 (by decide)) (Or.inl ⟨_, (hL.r 3 0 4 (by decide)), ?_⟩)
      refine And.intro (hL.k 4 (by decide)) ?_
      refine g_Em h (fun r u h => ?_)
      obtain ⟨y4, rfl, hL, h⟩ := h
      refine And.intro (fun c => ?_) (fun c => ?_)
      · have h := h.1 c
        refine And.intro (hL.k 3 (by decide)) ?_
        have h := h _ rfl
        refine And.intro (hL.k 3 (by decide)) ?_
        refine g_Em h (fun r u h => ?_)
        obtain ⟨rfl, hL, h⟩ := h
        refine And.intro (hL.k 3 (by decide)) (Or.inl ⟨_, (hL.r 3 0 4 (by decide)), ?_⟩)
        refine And.intro (hL.k 4 (by decide)) ?_
        refine g_Em h (fun r u h => ?_)
        obtain ⟨y9, rfl, hL, h⟩ := h
        refine And.intro (fun c => ?_) (fun c => ?_)
        · have h := h.1 c
          refine And.intro (hL.k 3 (by decide)) (Or.inl ⟨_, (hL.r 3 0 4 (by decide)), ?_⟩)
          refine And.intro (hL.k 4 (by decide)) ?_
          refine g_Em h (fun r u h => ?_)
          obtain ⟨rfl, hL, h⟩ := h
          refine And.intro (hL.k 3 (by decide)) ?_
          refine g_Em h (fun r u h => ?_)
          obtain ⟨rfl, hL, h⟩ := h
          exact hP _ h
        · have h := h.2 c
          exact And.intro rfl (And.intro rfl h)
      · have h := h.2 c
        refine And.intro (hL.k 3 (by decide)) ?_
        refine g_Em h (fun r u h => ?_)
        obtain ⟨rfl, hL, h⟩ := h
        exact And.intro rfl (And.intro rfl h)
    · have h := h.2 c
      refine And.intro (hL.k 3 (by decide)) ?_
      refine g_Em h (fun r u h => ?_)
      obtain ⟨rfl, hL, h⟩ := h
      exact And.intro rfl (And.intro rfl h)
theorem x_Reader_readLet {cx : gCx} {d : Nat} {ad : Nat → Nat} {t : gSt} {post : Option Value → gSt → Prop} (hL : Lay t ad) (h : g_E cx d i_Reader_opens [.ref (ad 3)] t (fun r u1 => ∃ y2 : Int32, r = some (.int y2) ∧ Lay u1 ad ∧ ((¬ y2 = 0 → g_E cx d i_Tokens_take [.ref (ad 4)] u1 (fun r u3 => r = none ∧ Lay u3 ad ∧ (g_E cx d i_Tokens_isAt [.ref (ad 4), .int 1] u3 (fun r u5 => ∃ y6 : Int32, r = some (.int y6) ∧ Lay u5 ad ∧ ((y6 = 0 → g_W cx (g_E cx d) mt_Reader_readLet post (43, [some (.ref (ad 3)), none, none, none, none], [], u5, 0, 0)) ∧ (¬ (y6 = 0) → ((u5.2.1 (ad 3) 14) < 40 → g_W cx (g_E cx d) mt_Reader_readLet post (43, [some (.ref (ad 3)), none, none, none, none], [], u5, 0, 0)) ∧ (¬ ((u5.2.1 (ad 3) 14) < 40) → g_E cx d i_Tokens_failHere [.ref (ad 4), .int 5] u5 (fun r u7 => r = none ∧ Lay u7 ad ∧ (g_W cx (g_E cx d) mt_Reader_readLet post (43, [some (.ref (ad 3)), none, none, none, none], [], u7, 0, 0)))))))))) ∧ (¬ (¬ y2 = 0) → post none u1)))) : g_E cx (d + 1) i_Reader_readLet [.ref (ad 3)] t post := by
  refine g_call mt_Reader_readLet rfl (by decide) (Nat.le_of_ble_eq_true rfl) ?_
  refine g_run [43] 400 (fun P hP => ?_)
  refine And.intro (hL.k 3 (by decide)) ?_
  refine g_Em h (fun r u h => ?_)
  obtain ⟨y2, rfl, hL, h⟩ := h
  refine And.intro (fun c => ?_) (fun c => ?_)
  · have h := h.1 c
    refine And.intro (hL.k 3 (by decide)) (Or.inl ⟨_, (hL.r 3 0 4 (by decide)), ?_⟩)
    refine And.intro (hL.k 4 (by decide)) ?_
    refine g_Em h (fun r u h => ?_)
    obtain ⟨rfl, hL, h⟩ := h
    refine And.intro (hL.k 3 (by decide)) (Or.inl ⟨_, (hL.r 3 0 4 (by decide)), ?_⟩)
    refine And.intro (hL.k 4 (by decide)) ?_
    refine g_Em h (fun r u h => ?_)
    obtain ⟨y6, rfl, hL, h⟩ := h
    refine And.intro (fun c => ?_) (fun c => ?_)
    · have h := h.1 c
      exact hP _ h
    · have h := h.2 c
      refine And.intro (hL.k 3 (by decide)) ?_
      refine And.intro (fun c => ?_) (fun c => ?_)
      · have h := h.1 c
        exact hP _ h
      · have h := h.2 c
        refine And.intro (hL.k 3 (by decide)) (Or.inl ⟨_, (hL.r 3 0 4 (by decide)), ?_⟩)
        refine And.intro (hL.k 4 (by decide)) ?_
        refine g_Em h (fun r u h => ?_)
        obtain ⟨rfl, hL, h⟩ := h
        exact hP _ h
  · have h := h.2 c
    exact And.intro rfl (And.intro rfl h)
theorem x_Reader_readLet_43 {cx : gCx} {d : Nat} {ad : Nat → Nat} {t : gSt} {post : Option Value → gSt → Prop} (hL : Lay t ad) (h : g_E cx d i_Tokens_need [.ref (ad 4), .int 1] t (fun r u1 => ∃ y2 : Int32, r = some (.int y2) ∧ Lay u1 ad ∧ ((¬ y2 = 0 → ∀ x3 : Int64, x3 = (u1.2.2.1 (ad 4) 7) → ∀ x4 : Int32, x4 = (u1.2.1 (ad 3) 13) → ∀ t5, t5 = g_si u1 (ad 3) 13 ((u1.2.1 (ad 3) 13) + 1) → ∀ t6, t6 = g_si t5 (ad 3) 14 ((t5.2.1 (ad 3) 14) + 1) → g_E cx d i_Reader_addNode [.ref (ad 3), .int 14, .int x4] t6 (fun r u7 => r = none ∧ Lay u7 ad ∧ (g_E cx d i_Tokens_need [.ref (ad 4), .int 61] u7 (fun r u9 => ∃ y10 : Int32, r = some (.int y10) ∧ Lay u9 ad ∧ ((¬ y10 = 0 → g_E cx d i_Reader_readExpression [.ref (ad 3)] u9 (fun r u11 => r = none ∧ Lay u11 ad ∧ (g_E cx d i_Tokens_need [.ref (ad 4), .int 5] u11 (fun r u13 => ∃ y14 : Int32, r = some (.int y14) ∧ Lay u13 ad ∧ ((¬ y14 = 0 → ∀ x15 : Int32, x15 = (u13.2.1 (ad 3) 9) → g_E cx d i_Reader_see [.ref (ad 3), .long x3, .int x4] u13 (fun r u16 => r = none ∧ Lay u16 ad ∧ (g_E cx d i_Reader_readExpression [.ref (ad 3)] u16 (fun r u18 => r = none ∧ Lay u18 ad ∧ (∀ t20, t20 = g_si u18 (ad 3) 9 x15 → ∀ t21, t21 = g_si t20 (ad 3) 10 ((t20.2.1 (ad 3) 10) - 1) → post none t21))))) ∧ (¬ (¬ y14 = 0) → post none u13)))))) ∧ (¬ (¬ y10 = 0) → post none u9)))))) ∧ (¬ (¬ y2 = 0) → post none u1)))) : g_W cx (g_E cx d) mt_Reader_readLet post (43, [some (.ref (ad 3)), none, none, none, none], [], t, 0, 0) := by
  refine g_run [43] 400 (fun P hP => ?_)
  refine And.intro (hL.k 3 (by decide)) (Or.inl ⟨_, (hL.r 3 0 4 (by decide)), ?_⟩)
  refine And.intro (hL.k 4 (by decide)) ?_
  refine g_Em h (fun r u h => ?_)
  obtain ⟨y2, rfl, hL, h⟩ := h
  refine And.intro (fun c => ?_) (fun c => ?_)
  · have h := h.1 c
    refine And.intro (hL.k 3 (by decide)) (Or.inl ⟨_, (hL.r 3 0 4 (by decide)), ?_⟩)
    refine And.intro (hL.k 4 (by decide)) ?_
    have h := h _ rfl
    refine And.intro (hL.k 3 (by decide)) ?_
    have h := h _ rfl
    refine And.intro (hL.k 3 (by decide)) ?_
    refine And.intro (hL.k 3 (by decide)) ?_
    have h := h _ rfl
    refine And.intro (hL.k 3 (by decide)) ?_
    refine And.intro (hL.k 3 (by decide)) ?_
    have h := h _ rfl
    refine And.intro (hL.k 3 (by decide)) ?_
    refine g_Em h (fun r u h => ?_)
    obtain ⟨rfl, hL, h⟩ := h
    refine And.intro (hL.k 3 (by decide)) (Or.inl ⟨_, (hL.r 3 0 4 (by decide)), ?_⟩)
    refine And.intro (hL.k 4 (by decide)) ?_
    refine g_Em h (fun r u h => ?_)
    obtain ⟨y10, rfl, hL, h⟩ := h
    refine And.intro (fun c => ?_) (fun c => ?_)
    · have h := h.1 c
      refine And.intro (hL.k 3 (by decide)) ?_
      refine g_Em h (fun r u h => ?_)
      obtain ⟨rfl, hL, h⟩ := h
      refine And.intro (hL.k 3 (by decide)) (Or.inl ⟨_, (hL.r 3 0 4 (by decide)), ?_⟩)
      refine And.intro (hL.k 4 (by decide)) ?_
      refine g_Em h (fun r u h => ?_)
      obtain ⟨y14, rfl, hL, h⟩ := h
      refine And.intro (fun c => ?_) (fun c => ?_)
      · have h := h.1 c
        refine And.intro (hL.k 3 (by decide)) ?_
        have h := h _ rfl
        refine And.intro (hL.k 3 (by decide)) ?_
        refine g_Em h (fun r u h => ?_)
        obtain ⟨rfl, hL, h⟩ := h
        refine And.intro (hL.k 3 (by decide)) ?_
        refine g_Em h (fun r u h => ?_)
        obtain ⟨rfl, hL, h⟩ := h
        refine And.intro (hL.k 3 (by decide)) ?_
        have h := h _ rfl
        refine And.intro (hL.k 3 (by decide)) ?_
        refine And.intro (hL.k 3 (by decide)) ?_
        have h := h _ rfl
        exact And.intro rfl (And.intro rfl h)
      · have h := h.2 c
        exact And.intro rfl (And.intro rfl h)
    · have h := h.2 c
      exact And.intro rfl (And.intro rfl h)
  · have h := h.2 c
    exact And.intro rfl (And.intro rfl h)
theorem x_Reader_readIf {cx : gCx} {d : Nat} {ad : Nat → Nat} {t : gSt} {post : Option Value → gSt → Prop} (hL : Lay t ad) (h : g_E cx d i_Reader_opens [.ref (ad 3)] t (fun r u1 => ∃ y2 : Int32, r = some (.int y2) ∧ Lay u1 ad ∧ ((¬ y2 = 0 → g_E cx d i_Tokens_take [.ref (ad 4)] u1 (fun r u3 => r = none ∧ Lay u3 ad ∧ (g_E cx d i_Reader_addNode [.ref (ad 3), .int 13, .int 0] u3 (fun r u5 => r = none ∧ Lay u5 ad ∧ (g_E cx d i_Reader_readExpression [.ref (ad 3)] u5 (fun r u7 => r = none ∧ Lay u7 ad ∧ (g_E cx d i_Tokens_need [.ref (ad 4), .int 7] u7 (fun r u9 => ∃ y10 : Int32, r = some (.int y10) ∧ Lay u9 ad ∧ ((¬ y10 = 0 → g_E cx d i_Reader_readExpression [.ref (ad 3)] u9 (fun r u11 => r = none ∧ Lay u11 ad ∧ (g_E cx d i_Tokens_need [.ref (ad 4), .int 8] u11 (fun r u13 => ∃ y14 : Int32, r = some (.int y14) ∧ Lay u13 ad ∧ ((¬ y14 = 0 → g_E cx d i_Reader_readExpression [.ref (ad 3)] u13 (fun r u15 => r = none ∧ Lay u15 ad ∧ (∀ t17, t17 = g_si u15 (ad 3) 10 ((u15.2.1 (ad 3) 10) - 1) → post none t17))) ∧ (¬ (¬ y14 = 0) → post none u13)))))) ∧ (¬ (¬ y10 = 0) → post none u9)))))))))) ∧ (¬ (¬ y2 = 0) → post none u1)))) : g_E cx (d + 1) i_Reader_readIf [.ref (ad 3)] t post := by
  refine g_call mt_Reader_readIf rfl (by decide) (Nat.le_of_ble_eq_true rfl) ?_
  refine g_run [] 400 (fun P hP => ?_)
  refine And.intro (hL.k 3 (by decide)) ?_
  refine g_Em h (fun r u h => ?_)
  obtain ⟨y2, rfl, hL, h⟩ := h
  refine And.intro (fun c => ?_) (fun c => ?_)
  · have h := h.1 c
    refine And.intro (hL.k 3 (by decide)) (Or.inl ⟨_, (hL.r 3 0 4 (by decide)), ?_⟩)
    refine And.intro (hL.k 4 (by decide)) ?_
    refine g_Em h (fun r u h => ?_)
    obtain ⟨rfl, hL, h⟩ := h
    refine And.intro (hL.k 3 (by decide)) ?_
    refine g_Em h (fun r u h => ?_)
    obtain ⟨rfl, hL, h⟩ := h
    refine And.intro (hL.k 3 (by decide)) ?_
    refine g_Em h (fun r u h => ?_)
    obtain ⟨rfl, hL, h⟩ := h
    refine And.intro (hL.k 3 (by decide)) (Or.inl ⟨_, (hL.r 3 0 4 (by decide)), ?_⟩)
    refine And.intro (hL.k 4 (by decide)) ?_
    refine g_Em h (fun r u h => ?_)
    obtain ⟨y10, rfl, hL, h⟩ := h
    refine And.intro (fun c => ?_) (fun c => ?_)
    · have h := h.1 c
      refine And.intro (hL.k 3 (by decide)) ?_
      refine g_Em h (fun r u h => ?_)
      obtain ⟨rfl, hL, h⟩ := h
      refine And.intro (hL.k 3 (by decide)) (Or.inl ⟨_, (hL.r 3 0 4 (by decide)), ?_⟩)
      refine And.intro (hL.k 4 (by decide)) ?_
      refine g_Em h (fun r u h => ?_)
      obtain ⟨y14, rfl, hL, h⟩ := h
      refine And.intro (fun c => ?_) (fun c => ?_)
      · have h := h.1 c
        refine And.intro (hL.k 3 (by decide)) ?_
        refine g_Em h (fun r u h => ?_)
        obtain ⟨rfl, hL, h⟩ := h
        refine And.intro (hL.k 3 (by decide)) ?_
        refine And.intro (hL.k 3 (by decide)) ?_
        have h := h _ rfl
        exact And.intro rfl (And.intro rfl h)
      · have h := h.2 c
        exact And.intro rfl (And.intro rfl h)
    · have h := h.2 c
      exact And.intro rfl (And.intro rfl h)
  · have h := h.2 c
    exact And.intro rfl (And.intro rfl h)
theorem x_Reader_readComparison {cx : gCx} {d : Nat} {ad : Nat → Nat} {t : gSt} {post : Option Value → gSt → Prop} (hL : Lay t ad) (h : ∀ x1 : Int32, x1 = (t.2.1 (ad 3) 11) → g_E cx d i_Reader_readSum [.ref (ad 3)] t (fun r u2 => r = none ∧ Lay u2 ad ∧ (g_E cx d i_Tokens_isAt [.ref (ad 4), .int 60] u2 (fun r u4 => ∃ y5 : Int32, r = some (.int y5) ∧ Lay u4 ad ∧ ((¬ y5 = 0 → g_E cx d i_Tokens_isAt [.ref (ad 4), .int 60] u4 (fun r u6 => ∃ y7 : Int32, r = some (.int y7) ∧ Lay u6 ad ∧ ((y7 = 0 → g_E cx d i_Reader_insertNode [.ref (ad 3), .int x1, .int 9, .int 0] u6 (fun r u8 => r = none ∧ Lay u8 ad ∧ (g_E cx d i_Tokens_take [.ref (ad 4)] u8 (fun r u10 => r = none ∧ Lay u10 ad ∧ (g_E cx d i_Reader_readSum [.ref (ad 3)] u10 (fun r u12 => r = none ∧ Lay u12 ad ∧ (post none u12))))))) ∧ (¬ (y7 = 0) → g_E cx d i_Reader_insertNode [.ref (ad 3), .int x1, .int 8, .int 0] u6 (fun r u14 => r = none ∧ Lay u14 ad ∧ (g_E cx d i_Tokens_take [.ref (ad 4)] u14 (fun r u16 => r = none ∧ Lay u16 ad ∧ (g_E cx d i_Reader_readSum [.ref (ad 3)] u16 (fun r u18 => r = none ∧ Lay u18 ad ∧ (post none u18)))))))))) ∧ (¬ (¬ y5 = 0) → g_E cx d i_Tokens_isAt [.ref (ad 4), .int 10] u4 (fun r u20 => ∃ y21 : Int32, r = some (.int y21) ∧ Lay u20 ad ∧ ((y21 = 0 → post none u20) ∧ (¬ (y21 = 0) → g_E cx d i_Tokens_isAt [.ref (ad 4), .int 60] u20 (fun r u22 => ∃ y23 : Int32, r = some (.int y23) ∧ Lay u22 ad ∧ ((y23 = 0 → g_E cx d i_Reader_insertNode [.ref (ad 3), .int x1, .int 9, .int 0] u22 (fun r u24 => r = none ∧ Lay u24 ad ∧ (g_E cx d i_Tokens_take [.ref (ad 4)] u24 (fun r u26 => r = none ∧ Lay u26 ad ∧ (g_E cx d i_Reader_readSum [.ref (ad 3)] u26 (fun r u28 => r = none ∧ Lay u28 ad ∧ (post none u28))))))) ∧ (¬ (y23 = 0) → g_E cx d i_Reader_insertNode [.ref (ad 3), .int x1, .int 8, .int 0] u22 (fun r u30 => r = none ∧ Lay u30 ad ∧ (g_E cx d i_Tokens_take [.ref (ad 4)] u30 (fun r u32 => r = none ∧ Lay u32 ad ∧ (g_E cx d i_Reader_readSum [.ref (ad 3)] u32 (fun r u34 => r = none ∧ Lay u34 ad ∧ (post none u34)))))))))))))))))) : g_E cx (d + 1) i_Reader_readComparison [.ref (ad 3)] t post := by
  refine g_call mt_Reader_readComparison rfl (by decide) (Nat.le_of_ble_eq_true rfl) ?_
  refine g_run [] 400 (fun P hP => ?_)
  refine And.intro (hL.k 3 (by decide)) ?_
  have h := h _ rfl
  refine And.intro (hL.k 3 (by decide)) ?_
  refine g_Em h (fun r u h => ?_)
  obtain ⟨rfl, hL, h⟩ := h
  refine And.intro (hL.k 3 (by decide)) (Or.inl ⟨_, (hL.r 3 0 4 (by decide)), ?_⟩)
  refine And.intro (hL.k 4 (by decide)) ?_
  refine g_Em h (fun r u h => ?_)
  obtain ⟨y5, rfl, hL, h⟩ := h
  refine And.intro (fun c => ?_) (fun c => ?_)
  · have h := h.1 c
    refine And.intro (hL.k 3 (by decide)) (Or.inl ⟨_, (hL.r 3 0 4 (by decide)), ?_⟩)
    refine And.intro (hL.k 4 (by decide)) ?_
    refine g_Em h (fun r u h => ?_)
    obtain ⟨y7, rfl, hL, h⟩ := h
    refine And.intro (fun c => ?_) (fun c => ?_)
    · have h := h.1 c
      refine And.intro (hL.k 3 (by decide)) ?_
      refine g_Em h (fun r u h => ?_)
      obtain ⟨rfl, hL, h⟩ := h
      refine And.intro (hL.k 3 (by decide)) (Or.inl ⟨_, (hL.r 3 0 4 (by decide)), ?_⟩)
      refine And.intro (hL.k 4 (by decide)) ?_
      refine g_Em h (fun r u h => ?_)
      obtain ⟨rfl, hL, h⟩ := h
      refine And.intro (hL.k 3 (by decide)) ?_
      refine g_Em h (fun r u h => ?_)
      obtain ⟨rfl, hL, h⟩ := h
      exact And.intro rfl (And.intro rfl h)
    · have h := h.2 c
      refine And.intro (hL.k 3 (by decide)) ?_
      refine g_Em h (fun r u h => ?_)
      obtain ⟨rfl, hL, h⟩ := h
      refine And.intro (hL.k 3 (by decide)) (Or.inl ⟨_, (hL.r 3 0 4 (by decide)), ?_⟩)
      refine And.intro (hL.k 4 (by decide)) ?_
      refine g_Em h (fun r u h => ?_)
      obtain ⟨rfl, hL, h⟩ := h
      refine And.intro (hL.k 3 (by decide)) ?_
      refine g_Em h (fun r u h => ?_)
      obtain ⟨rfl, hL, h⟩ := h
      exact And.intro rfl (And.intro rfl h)
  · have h := h.2 c
    refine And.intro (hL.k 3 (by decide)) (Or.inl ⟨_, (hL.r 3 0 4 (by decide)), ?_⟩)
    refine And.intro (hL.k 4 (by decide)) ?_
    refine g_Em h (fun r u h => ?_)
    obtain ⟨y21, rfl, hL, h⟩ := h
    refine And.intro (fun c => ?_) (fun c => ?_)
    · have h := h.1 c
      exact And.intro rfl (And.intro rfl h)
    · have h := h.2 c
      refine And.intro (hL.k 3 (by decide)) (Or.inl ⟨_, (hL.r 3 0 4 (by decide)), ?_⟩)
      refine And.intro (hL.k 4 (by decide)) ?_
      refine g_Em h (fun r u h => ?_)
      obtain ⟨y23, rfl, hL, h⟩ := h
      refine And.intro (fun c => ?_) (fun c => ?_)
      · have h := h.1 c
        refine And.intro (hL.k 3 (by decide)) ?_
        refine g_Em h (fun r u h => ?_)
        obtain ⟨rfl, hL, h⟩ := h
        refine And.intro (hL.k 3 (by decide)) (Or.inl ⟨_, (hL.r 3 0 4 (by decide)), ?_⟩)
        refine And.intro (hL.k 4 (by decide)) ?_
        refine g_Em h (fun r u h => ?_)
        obtain ⟨rfl, hL, h⟩ := h
        refine And.intro (hL.k 3 (by decide)) ?_
        refine g_Em h (fun r u h => ?_)
        obtain ⟨rfl, hL, h⟩ := h
        exact And.intro rfl (And.intro rfl h)
      · have h := h.2 c
        refine And.intro (hL.k 3 (by decide)) ?_
        refine g_Em h (fun r u h => ?_)
        obtain ⟨rfl, hL, h⟩ := h
        refine And.intro (hL.k 3 (by decide)) (Or.inl ⟨_, (hL.r 3 0 4 (by decide)), ?_⟩)
        refine And.intro (hL.k 4 (by decide)) ?_
        refine g_Em h (fun r u h => ?_)
        obtain ⟨rfl, hL, h⟩ := h
        refine And.intro (hL.k 3 (by decide)) ?_
        refine g_Em h (fun r u h => ?_)
        obtain ⟨rfl, hL, h⟩ := h
        exact And.intro rfl (And.intro rfl h)
theorem x_Reader_readSum {cx : gCx} {d : Nat} {ad : Nat → Nat} {t : gSt} {post : Option Value → gSt → Prop} (hL : Lay t ad) (h : ∀ x1 : Int32, x1 = (t.2.1 (ad 3) 11) → g_E cx d i_Reader_readProduct [.ref (ad 3)] t (fun r u2 => r = none ∧ Lay u2 ad ∧ (g_W cx (g_E cx d) mt_Reader_readSum post (11, [some (.ref (ad 3)), some (.int x1), some (.int 0)], [], u2, 0, 0)))) : g_E cx (d + 1) i_Reader_readSum [.ref (ad 3)] t post := by
  refine g_call mt_Reader_readSum rfl (by decide) (Nat.le_of_ble_eq_true rfl) ?_
  refine g_run [11] 400 (fun P hP => ?_)
  refine And.intro (hL.k 3 (by decide)) ?_
  have h := h _ rfl
  refine And.intro (hL.k 3 (by decide)) ?_
  refine g_Em h (fun r u h => ?_)
  obtain ⟨rfl, hL, h⟩ := h
  exact hP _ h
theorem x_Reader_readSum_11 {cx : gCx} {d : Nat} {ad : Nat → Nat} {l1 l2 : Int32} {t : gSt} {post : Option Value → gSt → Prop} (hL : Lay t ad) (h : (3000 ≤ l2 → post none t) ∧ (¬ (3000 ≤ l2) → g_E cx d i_Tokens_isAt [.ref (ad 4), .int 43] t (fun r u1 => ∃ y2 : Int32, r = some (.int y2) ∧ Lay u1 ad ∧ ((¬ y2 = 0 → g_E cx d i_Tokens_isAt [.ref (ad 4), .int 43] u1 (fun r u3 => ∃ y4 : Int32, r = some (.int y4) ∧ Lay u3 ad ∧ ((y4 = 0 → g_E cx d i_Reader_insertNode [.ref (ad 3), .int l1, .int 4, .int 0] u3 (fun r u5 => r = none ∧ Lay u5 ad ∧ (g_E cx d i_Tokens_take [.ref (ad 4)] u5 (fun r u7 => r = none ∧ Lay u7 ad ∧ (g_E cx d i_Reader_readProduct [.ref (ad 3)] u7 (fun r u9 => r = none ∧ Lay u9 ad ∧ (g_W cx (g_E cx d) mt_Reader_readSum post (11, [some (.ref (ad 3)), some (.int l1), some (.int (l2 + 1))], [], u9, 0, 0)))))))) ∧ (¬ (y4 = 0) → g_E cx d i_Reader_insertNode [.ref (ad 3), .int l1, .int 3, .int 0] u3 (fun r u11 => r = none ∧ Lay u11 ad ∧ (g_E cx d i_Tokens_take [.ref (ad 4)] u11 (fun r u13 => r = none ∧ Lay u13 ad ∧ (g_E cx d i_Reader_readProduct [.ref (ad 3)] u13 (fun r u15 => r = none ∧ Lay u15 ad ∧ (g_W cx (g_E cx d) mt_Reader_readSum post (11, [some (.ref (ad 3)), some (.int l1), some (.int (l2 + 1))], [], u15, 0, 0))))))))))) ∧ (¬ (¬ y2 = 0) → g_E cx d i_Tokens_isAt [.ref (ad 4), .int 45] u1 (fun r u17 => ∃ y18 : Int32, r = some (.int y18) ∧ Lay u17 ad ∧ ((y18 = 0 → post none u17) ∧ (¬ (y18 = 0) → g_E cx d i_Tokens_isAt [.ref (ad 4), .int 43] u17 (fun r u19 => ∃ y20 : Int32, r = some (.int y20) ∧ Lay u19 ad ∧ ((y20 = 0 → g_E cx d i_Reader_insertNode [.ref (ad 3), .int l1, .int 4, .int 0] u19 (fun r u21 => r = none ∧ Lay u21 ad ∧ (g_E cx d i_Tokens_take [.ref (ad 4)] u21 (fun r u23 => r = none ∧ Lay u23 ad ∧ (g_E cx d i_Reader_readProduct [.ref (ad 3)] u23 (fun r u25 => r = none ∧ Lay u25 ad ∧ (g_W cx (g_E cx d) mt_Reader_readSum post (11, [some (.ref (ad 3)), some (.int l1), some (.int (l2 + 1))], [], u25, 0, 0)))))))) ∧ (¬ (y20 = 0) → g_E cx d i_Reader_insertNode [.ref (ad 3), .int l1, .int 3, .int 0] u19 (fun r u27 => r = none ∧ Lay u27 ad ∧ (g_E cx d i_Tokens_take [.ref (ad 4)] u27 (fun r u29 => r = none ∧ Lay u29 ad ∧ (g_E cx d i_Reader_readProduct [.ref (ad 3)] u29 (fun r u31 => r = none ∧ Lay u31 ad ∧ (g_W cx (g_E cx d) mt_Reader_readSum post (11, [some (.ref (ad 3)), some (.int l1), some (.int (l2 + 1))], [], u31, 0, 0)))))))))))))))))) : g_W cx (g_E cx d) mt_Reader_readSum post (11, [some (.ref (ad 3)), some (.int l1), some (.int l2)], [], t, 0, 0) := by
  refine g_run [11] 400 (fun P hP => ?_)
  refine And.intro (fun c => ?_) (fun c => ?_)
  · have h := h.1 c
    exact And.intro rfl (And.intro rfl h)
  · have h := h.2 c
    refine And.intro (hL.k 3 (by decide)) (Or.inl ⟨_, (hL.r 3 0 4 (by decide)), ?_⟩)
    refine And.intro (hL.k 4 (by decide)) ?_
    refine g_Em h (fun r u h => ?_)
    obtain ⟨y2, rfl, hL, h⟩ := h
    refine And.intro (fun c => ?_) (fun c => ?_)
    · have h := h.1 c
      refine And.intro (hL.k 3 (by decide)) (Or.inl ⟨_, (hL.r 3 0 4 (by decide)), ?_⟩)
      refine And.intro (hL.k 4 (by decide)) ?_
      refine g_Em h (fun r u h => ?_)
      obtain ⟨y4, rfl, hL, h⟩ := h
      refine And.intro (fun c => ?_) (fun c => ?_)
      · have h := h.1 c
        refine And.intro (hL.k 3 (by decide)) ?_
        refine g_Em h (fun r u h => ?_)
        obtain ⟨rfl, hL, h⟩ := h
        refine And.intro (hL.k 3 (by decide)) (Or.inl ⟨_, (hL.r 3 0 4 (by decide)), ?_⟩)
        refine And.intro (hL.k 4 (by decide)) ?_
        refine g_Em h (fun r u h => ?_)
        obtain ⟨rfl, hL, h⟩ := h
        refine And.intro (hL.k 3 (by decide)) ?_
        refine g_Em h (fun r u h => ?_)
        obtain ⟨rfl, hL, h⟩ := h
        exact hP _ h
      · have h := h.2 c
        refine And.intro (hL.k 3 (by decide)) ?_
        refine g_Em h (fun r u h => ?_)
        obtain ⟨rfl, hL, h⟩ := h
        refine And.intro (hL.k 3 (by decide)) (Or.inl ⟨_, (hL.r 3 0 4 (by decide)), ?_⟩)
        refine And.intro (hL.k 4 (by decide)) ?_
        refine g_Em h (fun r u h => ?_)
        obtain ⟨rfl, hL, h⟩ := h
        refine And.intro (hL.k 3 (by decide)) ?_
        refine g_Em h (fun r u h => ?_)
        obtain ⟨rfl, hL, h⟩ := h
        exact hP _ h
    · have h := h.2 c
      refine And.intro (hL.k 3 (by decide)) (Or.inl ⟨_, (hL.r 3 0 4 (by decide)), ?_⟩)
      refine And.intro (hL.k 4 (by decide)) ?_
      refine g_Em h (fun r u h => ?_)
      obtain ⟨y18, rfl, hL, h⟩ := h
      refine And.intro (fun c => ?_) (fun c => ?_)
      · have h := h.1 c
        exact And.intro rfl (And.intro rfl h)
      · have h := h.2 c
        refine And.intro (hL.k 3 (by decide)) (Or.inl ⟨_, (hL.r 3 0 4 (by decide)), ?_⟩)
        refine And.intro (hL.k 4 (by decide)) ?_
        refine g_Em h (fun r u h => ?_)
        obtain ⟨y20, rfl, hL, h⟩ := h
        refine And.intro (fun c => ?_) (fun c => ?_)
        · have h := h.1 c
          refine And.intro (hL.k 3 (by decide)) ?_
          refine g_Em h (fun r u h => ?_)
          obtain ⟨rfl, hL, h⟩ := h
          refine And.intro (hL.k 3 (by decide)) (Or.inl ⟨_, (hL.r 3 0 4 (by decide)), ?_⟩)
          refine And.intro (hL.k 4 (by decide)) ?_
          refine g_Em h (fun r u h => ?_)
          obtain ⟨rfl, hL, h⟩ := h
          refine And.intro (hL.k 3 (by decide)) ?_
          refine g_Em h (fun r u h => ?_)
          obtain ⟨rfl, hL, h⟩ := h
          exact hP _ h
        · have h := h.2 c
          refine And.intro (hL.k 3 (by decide)) ?_
          refine g_Em h (fun r u h => ?_)
          obtain ⟨rfl, hL, h⟩ := h
          refine And.intro (hL.k 3 (by decide)) (Or.inl ⟨_, (hL.r 3 0 4 (by decide)), ?_⟩)
          refine And.intro (hL.k 4 (by decide)) ?_
          refine g_Em h (fun r u h => ?_)
          obtain ⟨rfl, hL, h⟩ := h
          refine And.intro (hL.k 3 (by decide)) ?_
          refine g_Em h (fun r u h => ?_)
          obtain ⟨rfl, hL, h⟩ := h
          exact hP _ h
theorem x_Reader_readProduct {cx : gCx} {d : Nat} {ad : Nat → Nat} {t : gSt} {post : Option Value → gSt → Prop} (hL : Lay t ad) (h : ∀ x1 : Int32, x1 = (t.2.1 (ad 3) 11) → g_E cx d i_Reader_readUnary [.ref (ad 3)] t (fun r u2 => r = none ∧ Lay u2 ad ∧ (g_W cx (g_E cx d) mt_Reader_readProduct post (11, [some (.ref (ad 3)), some (.int x1), some (.int 0), none], [], u2, 0, 0)))) : g_E cx (d + 1) i_Reader_readProduct [.ref (ad 3)] t post := by
  refine g_call mt_Reader_readProduct rfl (by decide) (Nat.le_of_ble_eq_true rfl) ?_
  refine g_run [11] 400 (fun P hP => ?_)
  refine And.intro (hL.k 3 (by decide)) ?_
  have h := h _ rfl
  refine And.intro (hL.k 3 (by decide)) ?_
  refine g_Em h (fun r u h => ?_)
  obtain ⟨rfl, hL, h⟩ := h
  exact hP _ h
theorem x_Reader_readProduct_11 {cx : gCx} {d : Nat} {ad : Nat → Nat} {l1 l2 : Int32} {o3 : Option Value} {t : gSt} {post : Option Value → gSt → Prop} (hL : Lay t ad) (h : (3000 ≤ l2 → post none t) ∧ (¬ (3000 ≤ l2) → g_E cx d i_Tokens_peek [.ref (ad 4)] t (fun r u1 => ∃ y2 : Int32, r = some (.int y2) ∧ Lay u1 ad ∧ (g_E cx d i_Reader_isProductSign [.int y2] u1 (fun r u3 => ∃ y4 : Int32, r = some (.int y4) ∧ Lay u3 ad ∧ ((y4 = 0 → post none u3) ∧ (¬ (y4 = 0) → g_E cx d i_Tokens_peek [.ref (ad 4)] u3 (fun r u5 => ∃ y6 : Int32, r = some (.int y6) ∧ Lay u5 ad ∧ ((¬ y6 = 42 → (¬ y6 = 47 → g_E cx d i_Reader_insertNode [.ref (ad 3), .int l1, .int 7, .int 0] u5 (fun r u7 => r = none ∧ Lay u7 ad ∧ (g_E cx d i_Tokens_take [.ref (ad 4)] u7 (fun r u9 => r = none ∧ Lay u9 ad ∧ (g_E cx d i_Reader_readUnary [.ref (ad 3)] u9 (fun r u11 => r = none ∧ Lay u11 ad ∧ (g_W cx (g_E cx d) mt_Reader_readProduct post (11, [some (.ref (ad 3)), some (.int l1), some (.int (l2 + 1)), some (.int y6)], [], u11, 0, 0)))))))) ∧ (¬ (¬ y6 = 47) → g_E cx d i_Reader_insertNode [.ref (ad 3), .int l1, .int 6, .int 0] u5 (fun r u13 => r = none ∧ Lay u13 ad ∧ (g_E cx d i_Tokens_take [.ref (ad 4)] u13 (fun r u15 => r = none ∧ Lay u15 ad ∧ (g_E cx d i_Reader_readUnary [.ref (ad 3)] u15 (fun r u17 => r = none ∧ Lay u17 ad ∧ (g_W cx (g_E cx d) mt_Reader_readProduct post (11, [some (.ref (ad 3)), some (.int l1), some (.int (l2 + 1)), some (.int y6)], [], u17, 0, 0))))))))) ∧ (¬ (¬ y6 = 42) → g_E cx d i_Reader_insertNode [.ref (ad 3), .int l1, .int 5, .int 0] u5 (fun r u19 => r = none ∧ Lay u19 ad ∧ (g_E cx d i_Tokens_take [.ref (ad 4)] u19 (fun r u21 => r = none ∧ Lay u21 ad ∧ (g_E cx d i_Reader_readUnary [.ref (ad 3)] u21 (fun r u23 => r = none ∧ Lay u23 ad ∧ (g_W cx (g_E cx d) mt_Reader_readProduct post (11, [some (.ref (ad 3)), some (.int l1), some (.int (l2 + 1)), some (.int y6)], [], u23, 0, 0))))))))))))))))) : g_W cx (g_E cx d) mt_Reader_readProduct post (11, [some (.ref (ad 3)), some (.int l1), some (.int l2), o3], [], t, 0, 0) := by
  refine g_run [11] 400 (fun P hP => ?_)
  refine And.intro (fun c => ?_) (fun c => ?_)
  · have h := h.1 c
    exact And.intro rfl (And.intro rfl h)
  · have h := h.2 c
    refine And.intro (hL.k 3 (by decide)) (Or.inl ⟨_, (hL.r 3 0 4 (by decide)), ?_⟩)
    refine And.intro (hL.k 4 (by decide)) ?_
    refine g_Em h (fun r u h => ?_)
    obtain ⟨y2, rfl, hL, h⟩ := h
    refine g_Em h (fun r u h => ?_)
    obtain ⟨y4, rfl, hL, h⟩ := h
    refine And.intro (fun c => ?_) (fun c => ?_)
    · have h := h.1 c
      exact And.intro rfl (And.intro rfl h)
    · have h := h.2 c
      refine And.intro (hL.k 3 (by decide)) (Or.inl ⟨_, (hL.r 3 0 4 (by decide)), ?_⟩)
      refine And.intro (hL.k 4 (by decide)) ?_
      refine g_Em h (fun r u h => ?_)
      obtain ⟨y6, rfl, hL, h⟩ := h
      refine And.intro (fun c => ?_) (fun c => ?_)
      · have h := h.1 c
        refine And.intro (fun c => ?_) (fun c => ?_)
        · have h := h.1 c
          refine And.intro (hL.k 3 (by decide)) ?_
          refine g_Em h (fun r u h => ?_)
          obtain ⟨rfl, hL, h⟩ := h
          refine And.intro (hL.k 3 (by decide)) (Or.inl ⟨_, (hL.r 3 0 4 (by decide)), ?_⟩)
          refine And.intro (hL.k 4 (by decide)) ?_
          refine g_Em h (fun r u h => ?_)
          obtain ⟨rfl, hL, h⟩ := h
          refine And.intro (hL.k 3 (by decide)) ?_
          refine g_Em h (fun r u h => ?_)
          obtain ⟨rfl, hL, h⟩ := h
          exact hP _ h
        · have h := h.2 c
          refine And.intro (hL.k 3 (by decide)) ?_
          refine g_Em h (fun r u h => ?_)
          obtain ⟨rfl, hL, h⟩ := h
          refine And.intro (hL.k 3 (by decide)) (Or.inl ⟨_, (hL.r 3 0 4 (by decide)), ?_⟩)
          refine And.intro (hL.k 4 (by decide)) ?_
          refine g_Em h (fun r u h => ?_)
          obtain ⟨rfl, hL, h⟩ := h
          refine And.intro (hL.k 3 (by decide)) ?_
          refine g_Em h (fun r u h => ?_)
          obtain ⟨rfl, hL, h⟩ := h
          exact hP _ h
      · have h := h.2 c
        refine And.intro (hL.k 3 (by decide)) ?_
        refine g_Em h (fun r u h => ?_)
        obtain ⟨rfl, hL, h⟩ := h
        refine And.intro (hL.k 3 (by decide)) (Or.inl ⟨_, (hL.r 3 0 4 (by decide)), ?_⟩)
        refine And.intro (hL.k 4 (by decide)) ?_
        refine g_Em h (fun r u h => ?_)
        obtain ⟨rfl, hL, h⟩ := h
        refine And.intro (hL.k 3 (by decide)) ?_
        refine g_Em h (fun r u h => ?_)
        obtain ⟨rfl, hL, h⟩ := h
        exact hP _ h
theorem x_Reader_isProductSign {cx : gCx} {d : Nat} {ad : Nat → Nat} {a1 : Int32} {t : gSt} {post : Option Value → gSt → Prop} (hL : Lay t ad) (h : (a1 = 42 → post (some (.int 1)) t) ∧ (¬ (a1 = 42) → (a1 = 47 → post (some (.int 1)) t) ∧ (¬ (a1 = 47) → (¬ a1 = 37 → post (some (.int 0)) t) ∧ (¬ (¬ a1 = 37) → post (some (.int 1)) t)))) : g_E cx (d + 1) i_Reader_isProductSign [.int a1] t post := by
  refine g_call mt_Reader_isProductSign rfl (by decide) (Nat.le_of_ble_eq_true rfl) ?_
  refine g_run [] 400 (fun P hP => ?_)
  refine And.intro (fun c => ?_) (fun c => ?_)
  · have h := h.1 c
    exact And.intro rfl (And.intro rfl h)
  · have h := h.2 c
    refine And.intro (fun c => ?_) (fun c => ?_)
    · have h := h.1 c
      exact And.intro rfl (And.intro rfl h)
    · have h := h.2 c
      refine And.intro (fun c => ?_) (fun c => ?_)
      · have h := h.1 c
        exact And.intro rfl (And.intro rfl h)
      · have h := h.2 c
        exact And.intro rfl (And.intro rfl h)
theorem x_Reader_readUnary {cx : gCx} {d : Nat} {ad : Nat → Nat} {t : gSt} {post : Option Value → gSt → Prop} (hL : Lay t ad) (h : g_E cx d i_Tokens_isAt [.ref (ad 4), .int 45] t (fun r u1 => ∃ y2 : Int32, r = some (.int y2) ∧ Lay u1 ad ∧ ((¬ y2 = 0 → g_E cx d i_Reader_opens [.ref (ad 3)] u1 (fun r u3 => ∃ y4 : Int32, r = some (.int y4) ∧ Lay u3 ad ∧ ((y4 = 0 → post none u3) ∧ (¬ (y4 = 0) → g_E cx d i_Tokens_take [.ref (ad 4)] u3 (fun r u5 => r = none ∧ Lay u5 ad ∧ (g_E cx d i_Reader_addNode [.ref (ad 3), .int 10, .int 0] u5 (fun r u7 => r = none ∧ Lay u7 ad ∧ (g_E cx d i_Reader_readUnary [.ref (ad 3)] u7 (fun r u9 => r = none ∧ Lay u9 ad ∧ (∀ t11, t11 = g_si u9 (ad 3) 10 ((u9.2.1 (ad 3) 10) - 1) → post none t11)))))))))) ∧ (¬ (¬ y2 = 0) → g_E cx d i_Reader_readPart [.ref (ad 3)] u1 (fun r u12 => r = none ∧ Lay u12 ad ∧ (post none u12)))))) : g_E cx (d + 1) i_Reader_readUnary [.ref (ad 3)] t post := by
  refine g_call mt_Reader_readUnary rfl (by decide) (Nat.le_of_ble_eq_true rfl) ?_
  refine g_run [] 400 (fun P hP => ?_)
  refine And.intro (hL.k 3 (by decide)) (Or.inl ⟨_, (hL.r 3 0 4 (by decide)), ?_⟩)
  refine And.intro (hL.k 4 (by decide)) ?_
  refine g_Em h (fun r u h => ?_)
  obtain ⟨y2, rfl, hL, h⟩ := h
  refine And.intro (fun c => ?_) (fun c => ?_)
  · have h := h.1 c
    refine And.intro (hL.k 3 (by decide)) ?_
    refine g_Em h (fun r u h => ?_)
    obtain ⟨y4, rfl, hL, h⟩ := h
    refine And.intro (fun c => ?_) (fun c => ?_)
    · have h := h.1 c
      exact And.intro rfl (And.intro rfl h)
    · have h := h.2 c
      refine And.intro (hL.k 3 (by decide)) (Or.inl ⟨_, (hL.r 3 0 4 (by decide)), ?_⟩)
      refine And.intro (hL.k 4 (by decide)) ?_
      refine g_Em h (fun r u h => ?_)
      obtain ⟨rfl, hL, h⟩ := h
      refine And.intro (hL.k 3 (by decide)) ?_
      refine g_Em h (fun r u h => ?_)
      obtain ⟨rfl, hL, h⟩ := h
      refine And.intro (hL.k 3 (by decide)) ?_
      refine g_Em h (fun r u h => ?_)
      obtain ⟨rfl, hL, h⟩ := h
      refine And.intro (hL.k 3 (by decide)) ?_
      refine And.intro (hL.k 3 (by decide)) ?_
      have h := h _ rfl
      exact And.intro rfl (And.intro rfl h)
  · have h := h.2 c
    refine And.intro (hL.k 3 (by decide)) ?_
    refine g_Em h (fun r u h => ?_)
    obtain ⟨rfl, hL, h⟩ := h
    exact And.intro rfl (And.intro rfl h)
theorem x_Reader_readPart {cx : gCx} {d : Nat} {ad : Nat → Nat} {t : gSt} {post : Option Value → gSt → Prop} (hL : Lay t ad) (h : g_E cx d i_Tokens_peek [.ref (ad 4)] t (fun r u1 => ∃ y2 : Int32, r = some (.int y2) ∧ Lay u1 ad ∧ ((y2 = 1 → g_W cx (g_E cx d) mt_Reader_readPart post (60, [some (.ref (ad 3))], [], u1, 0, 0)) ∧ (y2 = 2 → g_W cx (g_E cx d) mt_Reader_readPart post (40, [some (.ref (ad 3))], [], u1, 0, 0)) ∧ (y2 = 9 → g_W cx (g_E cx d) mt_Reader_readPart post (65, [some (.ref (ad 3))], [], u1, 0, 0)) ∧ (¬ y2 = 1 → ¬ y2 = 2 → ¬ y2 = 9 → g_W cx (g_E cx d) mt_Reader_readPart post (84, [some (.ref (ad 3))], [], u1, 0, 0))))) : g_E cx (d + 1) i_Reader_readPart [.ref (ad 3)] t post := by
  refine g_call mt_Reader_readPart rfl (by decide) (Nat.le_of_ble_eq_true rfl) ?_
  refine g_run [7, 40, 60, 65, 84] 400 (fun P hP => ?_)
  refine And.intro (hL.k 3 (by decide)) (Or.inl ⟨_, (hL.r 3 0 4 (by decide)), ?_⟩)
  refine And.intro (hL.k 4 (by decide)) ?_
  refine g_Em h (fun r u h => ?_)
  obtain ⟨y2, rfl, hL, h⟩ := h
  refine hP _ ?_
  by_cases c0 : y2 = (1 : Int32)
  · exact g_swl (tgt := 60) rfl (by rw [c0]; decide) (h.1 c0)
  by_cases c1 : y2 = (2 : Int32)
  · exact g_swl (tgt := 40) rfl (by rw [c1]; decide) (h.2.1 c1)
  by_cases c2 : y2 = (9 : Int32)
  · exact g_swl (tgt := 65) rfl (by rw [c2]; decide) (h.2.2.1 c2)
  exact g_swl (tgt := 84) rfl (g_swld (by simp only [List.mem_cons, List.not_mem_nil, or_false]; rintro q (rfl | rfl | rfl) <;> assumption)) (h.2.2.2 c0 c1 c2)
theorem x_Reader_readPart_40 {cx : gCx} {d : Nat} {ad : Nat → Nat} {t : gSt} {post : Option Value → gSt → Prop} (hL : Lay t ad) (h : g_E cx d i_Reader_addNode [.ref (ad 3), .int 1, .int (t.2.1 (ad 4) 6)] t (fun r u1 => r = none ∧ Lay u1 ad ∧ (g_E cx d i_Tokens_take [.ref (ad 4)] u1 (fun r u3 => r = none ∧ Lay u3 ad ∧ (post none u3))))) : g_W cx (g_E cx d) mt_Reader_readPart post (40, [some (.ref (ad 3))], [], t, 0, 0) := by
  refine g_run [7, 40, 60, 65, 84] 400 (fun P hP => ?_)
  refine And.intro (hL.k 3 (by decide)) (Or.inl ⟨_, (hL.r 3 0 4 (by decide)), ?_⟩)
  refine And.intro (hL.k 4 (by decide)) ?_
  refine And.intro (hL.k 3 (by decide)) ?_
  refine g_Em h (fun r u h => ?_)
  obtain ⟨rfl, hL, h⟩ := h
  refine And.intro (hL.k 3 (by decide)) (Or.inl ⟨_, (hL.r 3 0 4 (by decide)), ?_⟩)
  refine And.intro (hL.k 4 (by decide)) ?_
  refine g_Em h (fun r u h => ?_)
  obtain ⟨rfl, hL, h⟩ := h
  exact And.intro rfl (And.intro rfl h)
theorem x_Reader_readPart_60 {cx : gCx} {d : Nat} {ad : Nat → Nat} {t : gSt} {post : Option Value → gSt → Prop} (hL : Lay t ad) (h : g_E cx d i_Reader_readName [.ref (ad 3)] t (fun r u1 => r = none ∧ Lay u1 ad ∧ (post none u1))) : g_W cx (g_E cx d) mt_Reader_readPart post (60, [some (.ref (ad 3))], [], t, 0, 0) := by
  refine g_run [7, 40, 60, 65, 84] 400 (fun P hP => ?_)
  refine And.intro (hL.k 3 (by decide)) ?_
  refine g_Em h (fun r u h => ?_)
  obtain ⟨rfl, hL, h⟩ := h
  exact And.intro rfl (And.intro rfl h)
theorem x_Reader_readPart_65 {cx : gCx} {d : Nat} {ad : Nat → Nat} {t : gSt} {post : Option Value → gSt → Prop} (hL : Lay t ad) (h : g_E cx d i_Tokens_take [.ref (ad 4)] t (fun r u1 => r = none ∧ Lay u1 ad ∧ (g_E cx d i_Reader_addNode [.ref (ad 3), .int 11, .int 0] u1 (fun r u3 => r = none ∧ Lay u3 ad ∧ (g_E cx d i_Reader_readBracketed [.ref (ad 3)] u3 (fun r u5 => r = none ∧ Lay u5 ad ∧ (post none u5))))))) : g_W cx (g_E cx d) mt_Reader_readPart post (65, [some (.ref (ad 3))], [], t, 0, 0) := by
  refine g_run [7, 40, 60, 65, 84] 400 (fun P hP => ?_)
  refine And.intro (hL.k 3 (by decide)) (Or.inl ⟨_, (hL.r 3 0 4 (by decide)), ?_⟩)
  refine And.intro (hL.k 4 (by decide)) ?_
  refine g_Em h (fun r u h => ?_)
  obtain ⟨rfl, hL, h⟩ := h
  refine And.intro (hL.k 3 (by decide)) ?_
  refine g_Em h (fun r u h => ?_)
  obtain ⟨rfl, hL, h⟩ := h
  refine And.intro (hL.k 3 (by decide)) ?_
  refine g_Em h (fun r u h => ?_)
  obtain ⟨rfl, hL, h⟩ := h
  exact And.intro rfl (And.intro rfl h)
theorem x_Reader_readPart_84 {cx : gCx} {d : Nat} {ad : Nat → Nat} {t : gSt} {post : Option Value → gSt → Prop} (hL : Lay t ad) (h : g_E cx d i_Reader_readBracketed [.ref (ad 3)] t (fun r u1 => r = none ∧ Lay u1 ad ∧ (post none u1))) : g_W cx (g_E cx d) mt_Reader_readPart post (84, [some (.ref (ad 3))], [], t, 0, 0) := by
  refine g_run [7, 40, 60, 65, 84] 400 (fun P hP => ?_)
  refine And.intro (hL.k 3 (by decide)) ?_
  refine g_Em h (fun r u h => ?_)
  obtain ⟨rfl, hL, h⟩ := h
  exact And.intro rfl (And.intro rfl h)
theorem x_Reader_readBracketed {cx : gCx} {d : Nat} {ad : Nat → Nat} {t : gSt} {post : Option Value → gSt → Prop} (hL : Lay t ad) (h : g_E cx d i_Reader_openBracket [.ref (ad 3)] t (fun r u1 => ∃ y2 : Int32, r = some (.int y2) ∧ Lay u1 ad ∧ ((¬ y2 = 0 → g_E cx d i_Reader_readExpression [.ref (ad 3)] u1 (fun r u3 => r = none ∧ Lay u3 ad ∧ (g_E cx d i_Tokens_need [.ref (ad 4), .int 41] u3 (fun r u5 => ∃ y6 : Int32, r = some (.int y6) ∧ Lay u5 ad ∧ (∀ t7, t7 = g_si u5 (ad 3) 10 ((u5.2.1 (ad 3) 10) - 1) → post none t7))))) ∧ (¬ (¬ y2 = 0) → post none u1)))) : g_E cx (d + 1) i_Reader_readBracketed [.ref (ad 3)] t post := by
  refine g_call mt_Reader_readBracketed rfl (by decide) (Nat.le_of_ble_eq_true rfl) ?_
  refine g_run [] 400 (fun P hP => ?_)
  refine And.intro (hL.k 3 (by decide)) ?_
  refine g_Em h (fun r u h => ?_)
  obtain ⟨y2, rfl, hL, h⟩ := h
  refine And.intro (fun c => ?_) (fun c => ?_)
  · have h := h.1 c
    refine And.intro (hL.k 3 (by decide)) ?_
    refine g_Em h (fun r u h => ?_)
    obtain ⟨rfl, hL, h⟩ := h
    refine And.intro (hL.k 3 (by decide)) (Or.inl ⟨_, (hL.r 3 0 4 (by decide)), ?_⟩)
    refine And.intro (hL.k 4 (by decide)) ?_
    refine g_Em h (fun r u h => ?_)
    obtain ⟨y6, rfl, hL, h⟩ := h
    refine And.intro (hL.k 3 (by decide)) ?_
    refine And.intro (hL.k 3 (by decide)) ?_
    have h := h _ rfl
    exact And.intro rfl (And.intro rfl h)
  · have h := h.2 c
    exact And.intro rfl (And.intro rfl h)
theorem x_Reader_openBracket {cx : gCx} {d : Nat} {ad : Nat → Nat} {t : gSt} {post : Option Value → gSt → Prop} (hL : Lay t ad) (h : g_E cx d i_Tokens_isAt [.ref (ad 4), .int 40] t (fun r u1 => ∃ y2 : Int32, r = some (.int y2) ∧ Lay u1 ad ∧ ((y2 = 0 → g_E cx d i_Tokens_need [.ref (ad 4), .int 40] u1 (fun r u3 => ∃ y4 : Int32, r = some (.int y4) ∧ Lay u3 ad ∧ (narrow .boolean (.int y4) = .int y4 ∧ post (some (.int y4)) u3))) ∧ (¬ (y2 = 0) → g_E cx d i_Reader_opens [.ref (ad 3)] u1 (fun r u5 => ∃ y6 : Int32, r = some (.int y6) ∧ Lay u5 ad ∧ ((¬ y6 = 0 → g_E cx d i_Tokens_need [.ref (ad 4), .int 40] u5 (fun r u7 => ∃ y8 : Int32, r = some (.int y8) ∧ Lay u7 ad ∧ (narrow .boolean (.int y8) = .int y8 ∧ post (some (.int y8)) u7))) ∧ (¬ (¬ y6 = 0) → post (some (.int 0)) u5))))))) : g_E cx (d + 1) i_Reader_openBracket [.ref (ad 3)] t post := by
  refine g_call mt_Reader_openBracket rfl (by decide) (Nat.le_of_ble_eq_true rfl) ?_
  refine g_run [] 400 (fun P hP => ?_)
  refine And.intro (hL.k 3 (by decide)) (Or.inl ⟨_, (hL.r 3 0 4 (by decide)), ?_⟩)
  refine And.intro (hL.k 4 (by decide)) ?_
  refine g_Em h (fun r u h => ?_)
  obtain ⟨y2, rfl, hL, h⟩ := h
  refine And.intro (fun c => ?_) (fun c => ?_)
  · have h := h.1 c
    refine And.intro (hL.k 3 (by decide)) (Or.inl ⟨_, (hL.r 3 0 4 (by decide)), ?_⟩)
    refine And.intro (hL.k 4 (by decide)) ?_
    refine g_Em h (fun r u h => ?_)
    obtain ⟨y4, rfl, hL, h⟩ := h
    exact And.intro rfl h
  · have h := h.2 c
    refine And.intro (hL.k 3 (by decide)) ?_
    refine g_Em h (fun r u h => ?_)
    obtain ⟨y6, rfl, hL, h⟩ := h
    refine And.intro (fun c => ?_) (fun c => ?_)
    · have h := h.1 c
      refine And.intro (hL.k 3 (by decide)) (Or.inl ⟨_, (hL.r 3 0 4 (by decide)), ?_⟩)
      refine And.intro (hL.k 4 (by decide)) ?_
      refine g_Em h (fun r u h => ?_)
      obtain ⟨y8, rfl, hL, h⟩ := h
      exact And.intro rfl h
    · have h := h.2 c
      exact And.intro rfl (And.intro rfl h)
theorem x_Reader_readName {cx : gCx} {d : Nat} {ad : Nat → Nat} {t : gSt} {post : Option Value → gSt → Prop} (hL : Lay t ad) (h : ∀ x1 : Int64, x1 = (t.2.2.1 (ad 4) 7) → ∀ x2 : Int32, x2 = (t.2.1 (ad 4) 5) → g_E cx d i_Tokens_take [.ref (ad 4)] t (fun r u3 => r = none ∧ Lay u3 ad ∧ (g_E cx d i_Tokens_isAt [.ref (ad 4), .int 40] u3 (fun r u5 => ∃ y6 : Int32, r = some (.int y6) ∧ Lay u5 ad ∧ ((¬ y6 = 0 → g_E cx d i_Reader_beginCall [.ref (ad 3), .long x1, .int x2] u5 (fun r u7 => ∃ y8 : Int32, r = some (.int y8) ∧ Lay u7 ad ∧ ((¬ y8 = (-1) → g_E cx d i_Tokens_isAt [.ref (ad 4), .int 41] u7 (fun r u9 => ∃ y10 : Int32, r = some (.int y10) ∧ Lay u9 ad ∧ ((¬ y10 = 0 → g_W cx (g_E cx d) mt_Reader_readName post (77, [some (.ref (ad 3)), some (.long x1), none, some (.int x2), some (.int y8), some (.int 0), none, none], [.int 0], u9, 0, 0)) ∧ (¬ (¬ y10 = 0) → g_W cx (g_E cx d) mt_Reader_readName post (77, [some (.ref (ad 3)), some (.long x1), none, some (.int x2), some (.int y8), some (.int 0), none, none], [.int 1], u9, 0, 0))))) ∧ (¬ (¬ y8 = (-1)) → post none u7)))) ∧ (¬ (¬ y6 = 0) → g_E cx d i_Reader_addVariable [.ref (ad 3), .long x1, .int x2] u5 (fun r u11 => r = none ∧ Lay u11 ad ∧ (post none u11)))))))) : g_E cx (d + 1) i_Reader_readName [.ref (ad 3)] t post := by
  refine g_call mt_Reader_readName rfl (by decide) (Nat.le_of_ble_eq_true rfl) ?_
  refine g_run [77, 82, 125, 131] 400 (fun P hP => ?_)
  refine And.intro (hL.k 3 (by decide)) (Or.inl ⟨_, (hL.r 3 0 4 (by decide)), ?_⟩)
  refine And.intro (hL.k 4 (by decide)) ?_
  have h := h _ rfl
  refine And.intro (hL.k 3 (by decide)) (Or.inl ⟨_, (hL.r 3 0 4 (by decide)), ?_⟩)
  refine And.intro (hL.k 4 (by decide)) ?_
  have h := h _ rfl
  refine And.intro (hL.k 3 (by decide)) (Or.inl ⟨_, (hL.r 3 0 4 (by decide)), ?_⟩)
  refine And.intro (hL.k 4 (by decide)) ?_
  refine g_Em h (fun r u h => ?_)
  obtain ⟨rfl, hL, h⟩ := h
  refine And.intro (hL.k 3 (by decide)) (Or.inl ⟨_, (hL.r 3 0 4 (by decide)), ?_⟩)
  refine And.intro (hL.k 4 (by decide)) ?_
  refine g_Em h (fun r u h => ?_)
  obtain ⟨y6, rfl, hL, h⟩ := h
  refine And.intro (fun c => ?_) (fun c => ?_)
  · have h := h.1 c
    refine And.intro (hL.k 3 (by decide)) ?_
    refine g_Em h (fun r u h => ?_)
    obtain ⟨y8, rfl, hL, h⟩ := h
    refine And.intro (fun c => ?_) (fun c => ?_)
    · have h := h.1 c
      refine And.intro (hL.k 3 (by decide)) (Or.inl ⟨_, (hL.r 3 0 4 (by decide)), ?_⟩)
      refine And.intro (hL.k 4 (by decide)) ?_
      refine g_Em h (fun r u h => ?_)
      obtain ⟨y10, rfl, hL, h⟩ := h
      refine And.intro (fun c => ?_) (fun c => ?_)
      · have h := h.1 c
        exact hP _ h
      · have h := h.2 c
        exact hP _ h
    · have h := h.2 c
      exact And.intro rfl (And.intro rfl h)
  · have h := h.2 c
    refine And.intro (hL.k 3 (by decide)) ?_
    refine g_Em h (fun r u h => ?_)
    obtain ⟨rfl, hL, h⟩ := h
    exact And.intro rfl (And.intro rfl h)
theorem x_Reader_readName_77 {cx : gCx} {d : Nat} {ad : Nat → Nat} {l3 l4 l5 s0 : Int32} {l1 : Int64} {t : gSt} {post : Option Value → gSt → Prop} (hL : Lay t ad) (h : g_W cx (g_E cx d) mt_Reader_readName post (82, [some (.ref (ad 3)), some (.long l1), none, some (.int l3), some (.int l4), some (.int l5), some (.int s0), some (.int 0)], [], t, 0, 0)) : g_W cx (g_E cx d) mt_Reader_readName post (77, [some (.ref (ad 3)), some (.long l1), none, some (.int l3), some (.int l4), some (.int l5), none, none], [.int s0], t, 0, 0) := by
  refine g_run [77, 82, 125, 131] 400 (fun P hP => ?_)
  exact hP _ h
theorem x_Reader_readName_82 {cx : gCx} {d : Nat} {ad : Nat → Nat} {l3 l4 l5 l6 l7 : Int32} {l1 : Int64} {t : gSt} {post : Option Value → gSt → Prop} (hL : Lay t ad) (h : (3000 ≤ l7 → g_W cx (g_E cx d) mt_Reader_readName post (131, [some (.ref (ad 3)), some (.long l1), none, some (.int l3), some (.int l4), some (.int l5), some (.int l6), some (.int l7)], [], t, 0, 0)) ∧ (¬ (3000 ≤ l7) → (l6 = 0 → g_W cx (g_E cx d) mt_Reader_readName post (131, [some (.ref (ad 3)), some (.long l1), none, some (.int l3), some (.int l4), some (.int l5), some (.int l6), some (.int l7)], [], t, 0, 0)) ∧ (¬ (l6 = 0) → g_E cx d i_Reader_readExpression [.ref (ad 3)] t (fun r u1 => r = none ∧ Lay u1 ad ∧ (g_E cx d i_Tokens_isAt [.ref (ad 4), .int 44] u1 (fun r u3 => ∃ y4 : Int32, r = some (.int y4) ∧ Lay u3 ad ∧ ((y4 = 0 → g_W cx (g_E cx d) mt_Reader_readName post (125, [some (.ref (ad 3)), some (.long l1), none, some (.int l3), some (.int l4), some (.int (l5 + 1)), some (.int y4), some (.int l7)], [], u3, 0, 0)) ∧ (¬ (y4 = 0) → g_E cx d i_Tokens_take [.ref (ad 4)] u3 (fun r u5 => r = none ∧ Lay u5 ad ∧ (g_W cx (g_E cx d) mt_Reader_readName post (125, [some (.ref (ad 3)), some (.long l1), none, some (.int l3), some (.int l4), some (.int (l5 + 1)), some (.int y4), some (.int l7)], [], u5, 0, 0))))))))))) : g_W cx (g_E cx d) mt_Reader_readName post (82, [some (.ref (ad 3)), some (.long l1), none, some (.int l3), some (.int l4), some (.int l5), some (.int l6), some (.int l7)], [], t, 0, 0) := by
  refine g_run [77, 82, 125, 131] 400 (fun P hP => ?_)
  refine And.intro (fun c => ?_) (fun c => ?_)
  · have h := h.1 c
    exact hP _ h
  · have h := h.2 c
    refine And.intro (fun c => ?_) (fun c => ?_)
    · have h := h.1 c
      exact hP _ h
    · have h := h.2 c
      refine And.intro (hL.k 3 (by decide)) ?_
      refine g_Em h (fun r u h => ?_)
      obtain ⟨rfl, hL, h⟩ := h
      refine And.intro (hL.k 3 (by decide)) (Or.inl ⟨_, (hL.r 3 0 4 (by decide)), ?_⟩)
      refine And.intro (hL.k 4 (by decide)) ?_
      refine g_Em h (fun r u h => ?_)
      obtain ⟨y4, rfl, hL, h⟩ := h
      refine And.intro (fun c => ?_) (fun c => ?_)
      · have h := h.1 c
        exact hP _ h
      · have h := h.2 c
        refine And.intro (hL.k 3 (by decide)) (Or.inl ⟨_, (hL.r 3 0 4 (by decide)), ?_⟩)
        refine And.intro (hL.k 4 (by decide)) ?_
        refine g_Em h (fun r u h => ?_)
        obtain ⟨rfl, hL, h⟩ := h
        exact hP _ h
theorem x_Reader_readName_125 {cx : gCx} {d : Nat} {ad : Nat → Nat} {l3 l4 l5 l6 l7 : Int32} {l1 : Int64} {t : gSt} {post : Option Value → gSt → Prop} (hL : Lay t ad) (h : g_W cx (g_E cx d) mt_Reader_readName post (82, [some (.ref (ad 3)), some (.long l1), none, some (.int l3), some (.int l4), some (.int l5), some (.int l6), some (.int (l7 + 1))], [], t, 0, 0)) : g_W cx (g_E cx d) mt_Reader_readName post (125, [some (.ref (ad 3)), some (.long l1), none, some (.int l3), some (.int l4), some (.int l5), some (.int l6), some (.int l7)], [], t, 0, 0) := by
  refine g_run [77, 82, 125, 131] 400 (fun P hP => ?_)
  exact hP _ h
theorem x_Reader_readName_131 {cx : gCx} {d : Nat} {ad : Nat → Nat} {l3 l4 l5 l6 l7 : Int32} {l1 : Int64} {t : gSt} {post : Option Value → gSt → Prop} (hL : Lay t ad) (h : vp_in l4 1000 ∧ (∀ t1, t1 = g_si t (ad 7) (l4 : Int32).toNatClampNeg l5 → g_E cx d i_Tokens_need [.ref (ad 4), .int 41] t1 (fun r u2 => ∃ y3 : Int32, r = some (.int y3) ∧ Lay u2 ad ∧ (∀ t4, t4 = g_si u2 (ad 3) 10 ((u2.2.1 (ad 3) 10) - 1) → post none t4)))) : g_W cx (g_E cx d) mt_Reader_readName post (131, [some (.ref (ad 3)), some (.long l1), none, some (.int l3), some (.int l4), some (.int l5), some (.int l6), some (.int l7)], [], t, 0, 0) := by
  refine g_run [77, 82, 125, 131] 400 (fun P hP => ?_)
  refine And.intro (hL.k 3 (by decide)) (Or.inl ⟨_, (hL.r 3 3 7 (by decide)), ?_⟩)
  refine And.intro (hL.k 7 (by decide)) (And.intro (hL.v 7 (by decide) h.1) ?_)
  have h := h.2 _ rfl
  refine And.intro (hL.k 3 (by decide)) (Or.inl ⟨_, (hL.r 3 0 4 (by decide)), ?_⟩)
  refine And.intro (hL.k 4 (by decide)) ?_
  refine g_Em h (fun r u h => ?_)
  obtain ⟨y3, rfl, hL, h⟩ := h
  refine And.intro (hL.k 3 (by decide)) ?_
  refine And.intro (hL.k 3 (by decide)) ?_
  have h := h _ rfl
  exact And.intro rfl (And.intro rfl h)
theorem x_Reader_addVariable {cx : gCx} {d : Nat} {ad : Nat → Nat} {a2 : Int32} {a1 : Int64} {t : gSt} {post : Option Value → gSt → Prop} (hL : Lay t ad) (h : g_E cx d i_Reader_findVariable [.ref (ad 3), .long a1] t (fun r u1 => ∃ y2 : Int32, r = some (.int y2) ∧ Lay u1 ad ∧ ((¬ y2 = (-1) → g_E cx d i_Reader_addNode [.ref (ad 3), .int 2, .int y2] u1 (fun r u3 => r = none ∧ Lay u3 ad ∧ (post none u3))) ∧ (¬ (¬ y2 = (-1)) → g_E cx d i_Tokens_failAt [.ref (ad 4), .int 4, .int a2] u1 (fun r u5 => r = none ∧ Lay u5 ad ∧ (g_E cx d i_Reader_addNode [.ref (ad 3), .int 2, .int y2] u5 (fun r u7 => r = none ∧ Lay u7 ad ∧ (post none u7)))))))) : g_E cx (d + 1) i_Reader_addVariable [.ref (ad 3), .long a1, .int a2] t post := by
  refine g_call mt_Reader_addVariable rfl (by decide) (Nat.le_of_ble_eq_true rfl) ?_
  refine g_run [] 400 (fun P hP => ?_)
  refine And.intro (hL.k 3 (by decide)) ?_
  refine g_Em h (fun r u h => ?_)
  obtain ⟨y2, rfl, hL, h⟩ := h
  refine And.intro (fun c => ?_) (fun c => ?_)
  · have h := h.1 c
    refine And.intro (hL.k 3 (by decide)) ?_
    refine g_Em h (fun r u h => ?_)
    obtain ⟨rfl, hL, h⟩ := h
    exact And.intro rfl (And.intro rfl h)
  · have h := h.2 c
    refine And.intro (hL.k 3 (by decide)) (Or.inl ⟨_, (hL.r 3 0 4 (by decide)), ?_⟩)
    refine And.intro (hL.k 4 (by decide)) ?_
    refine g_Em h (fun r u h => ?_)
    obtain ⟨rfl, hL, h⟩ := h
    refine And.intro (hL.k 3 (by decide)) ?_
    refine g_Em h (fun r u h => ?_)
    obtain ⟨rfl, hL, h⟩ := h
    exact And.intro rfl (And.intro rfl h)
theorem x_Reader_beginCall {cx : gCx} {d : Nat} {ad : Nat → Nat} {a2 : Int32} {a1 : Int64} {t : gSt} {post : Option Value → gSt → Prop} (hL : Lay t ad) (h : ∀ x1 : Int32, x1 = (t.2.1 (ad 3) 8) → g_E cx d i_Reader_openBracket [.ref (ad 3)] t (fun r u2 => ∃ y3 : Int32, r = some (.int y3) ∧ Lay u2 ad ∧ ((y3 = 0 → post (some (.int (-1))) u2) ∧ (¬ (y3 = 0) → (x1 < 1000 → ∀ t4, t4 = g_si u2 (ad 3) 8 ((u2.2.1 (ad 3) 8) + 1) → vp_in x1 1000 ∧ (∀ t5, t5 = g_sj t4 (ad 5) (x1 : Int32).toNatClampNeg a1 → vp_in x1 1000 ∧ (∀ t6, t6 = g_si t5 (ad 6) (x1 : Int32).toNatClampNeg a2 → g_E cx d i_Reader_addNode [.ref (ad 3), .int 15, .int x1] t6 (fun r u7 => r = none ∧ Lay u7 ad ∧ (post (some (.int x1)) u7))))) ∧ (¬ (x1 < 1000) → post (some (.int (-1))) u2))))) : g_E cx (d + 1) i_Reader_beginCall [.ref (ad 3), .long a1, .int a2] t post := by
  refine g_call mt_Reader_beginCall rfl (by decide) (Nat.le_of_ble_eq_true rfl) ?_
  refine g_run [] 400 (fun P hP => ?_)
  refine And.intro (hL.k 3 (by decide)) ?_
  have h := h _ rfl
  refine And.intro (hL.k 3 (by decide)) ?_
  refine g_Em h (fun r u h => ?_)
  obtain ⟨y3, rfl, hL, h⟩ := h
  refine And.intro (fun c => ?_) (fun c => ?_)
  · have h := h.1 c
    exact And.intro rfl (And.intro rfl h)
  · have h := h.2 c
    refine And.intro (fun c => ?_) (fun c => ?_)
    · have h := h.1 c
      refine And.intro (hL.k 3 (by decide)) ?_
      refine And.intro (hL.k 3 (by decide)) ?_
      have h := h _ rfl
      refine And.intro (hL.k 3 (by decide)) (Or.inl ⟨_, (hL.r 3 1 5 (by decide)), ?_⟩)
      refine And.intro (hL.k 5 (by decide)) (And.intro (hL.v 5 (by decide) h.1) ?_)
      have h := h.2 _ rfl
      refine And.intro (hL.k 3 (by decide)) (Or.inl ⟨_, (hL.r 3 2 6 (by decide)), ?_⟩)
      refine And.intro (hL.k 6 (by decide)) (And.intro (hL.v 6 (by decide) h.1) ?_)
      have h := h.2 _ rfl
      refine And.intro (hL.k 3 (by decide)) ?_
      refine g_Em h (fun r u h => ?_)
      obtain ⟨rfl, hL, h⟩ := h
      exact And.intro rfl (And.intro rfl h)
    · have h := h.2 c
      exact And.intro rfl (And.intro rfl h)
theorem x_Reader_findTargets {cx : gCx} {d : Nat} {ad : Nat → Nat} {t : gSt} {post : Option Value → gSt → Prop} (hL : Lay t ad) (h : g_W cx (g_E cx d) mt_Reader_findTargets post (2, [some (.ref (ad 3)), some (.int 0), none], [], t, 0, 0)) : g_E cx (d + 1) i_Reader_findTargets [.ref (ad 3)] t post := by
  refine g_call mt_Reader_findTargets rfl (by decide) (Nat.le_of_ble_eq_true rfl) ?_
  refine g_run [2] 400 (fun P hP => ?_)
  exact hP _ h
theorem x_Reader_findTargets_2 {cx : gCx} {d : Nat} {ad : Nat → Nat} {p : Nat} (hp : isP p) {l1 : Int32} {o2 : Option Value} {t : gSt} {post : Option Value → gSt → Prop} (hL : Lay t ad) (hr_3_7 : t.2.2.2 (ad 3) 7 = some (ad p)) (h : ((t.2.1 (ad 3) 8) ≤ l1 → post none t) ∧ (¬ ((t.2.1 (ad 3) 8) ≤ l1) → vp_in l1 1000 ∧ (g_E cx d i_Program_find [.ref (ad p), .long (t.2.2.1 (ad 5) (l1 : Int32).toNatClampNeg)] t (fun r u1 => ∃ y2 : Int32, r = some (.int y2) ∧ Lay u1 ad ∧ u1.2.2.2 (ad 3) 7 = some (ad p) ∧ (vp_in l1 1000 ∧ (∀ t3, t3 = g_si u1 (ad 8) (l1 : Int32).toNatClampNeg y2 → (¬ y2 = (-1) → vp_in y2 24 ∧ (vp_in l1 1000 ∧ (((t3.2.1 (ad (p + 2)) (y2 : Int32).toNatClampNeg) = (t3.2.1 (ad 7) (l1 : Int32).toNatClampNeg) → g_W cx (g_E cx d) mt_Reader_findTargets post (2, [some (.ref (ad 3)), some (.int (l1 + 1)), some (.int y2)], [], t3, 0, 0)) ∧ (¬ ((t3.2.1 (ad (p + 2)) (y2 : Int32).toNatClampNeg) = (t3.2.1 (ad 7) (l1 : Int32).toNatClampNeg)) → vp_in l1 1000 ∧ (g_E cx d i_Tokens_failAt [.ref (ad 4), .int 7, .int (t3.2.1 (ad 6) (l1 : Int32).toNatClampNeg)] t3 (fun r u4 => r = none ∧ Lay u4 ad ∧ (g_W cx (g_E cx d) mt_Reader_findTargets post (2, [some (.ref (ad 3)), some (.int (l1 + 1)), some (.int y2)], [], u4, 0, 0)))))))) ∧ (¬ (¬ y2 = (-1)) → vp_in l1 1000 ∧ (g_E cx d i_Tokens_failAt [.ref (ad 4), .int 6, .int (t3.2.1 (ad 6) (l1 : Int32).toNatClampNeg)] t3 (fun r u6 => r = none ∧ Lay u6 ad ∧ (g_W cx (g_E cx d) mt_Reader_findTargets post (2, [some (.ref (ad 3)), some (.int (l1 + 1)), some (.int y2)], [], u6, 0, 0))))))))))) : g_W cx (g_E cx d) mt_Reader_findTargets post (2, [some (.ref (ad 3)), some (.int l1), o2], [], t, 0, 0) := by
  refine g_run [2] 400 (fun P hP => ?_)
  refine And.intro (hL.k 3 (by decide)) ?_
  refine And.intro (fun c => ?_) (fun c => ?_)
  · have h := h.1 c
    exact And.intro rfl (And.intro rfl h)
  · have h := h.2 c
    refine And.intro (hL.k 3 (by decide)) (Or.inl ⟨_, hr_3_7, ?_⟩)
    refine And.intro (hL.k 3 (by decide)) (Or.inl ⟨_, (hL.r 3 1 5 (by decide)), ?_⟩)
    refine Or.inl (And.intro (hL.k 5 (by decide)) (And.intro (hL.v 5 (by decide) h.1) ?_))
    have h := h.2
    refine And.intro (hL.pk hp 0 (by decide)) ?_
    refine g_Em h (fun r u h => ?_)
    obtain ⟨y2, rfl, hL, hr_3_7, h⟩ := h
    refine And.intro (hL.k 3 (by decide)) (Or.inl ⟨_, (hL.r 3 4 8 (by decide)), ?_⟩)
    refine And.intro (hL.k 8 (by decide)) (And.intro (hL.v 8 (by decide) h.1) ?_)
    have h := h.2 _ rfl
    refine And.intro (fun c => ?_) (fun c => ?_)
    · have h := h.1 c
      refine And.intro (hL.k 3 (by decide)) (Or.inl ⟨_, hr_3_7, ?_⟩)
      refine And.intro (hL.pk hp 0 (by decide)) (Or.inl ⟨_, (hL.pr hp 3 (by decide)), ?_⟩)
      refine Or.inl (And.intro (hL.pk hp 2 (by decide)) (And.intro (hL.pv hp 2 (by decide) (by decide) h.1) ?_))
      have h := h.2
      refine And.intro (hL.k 3 (by decide)) (Or.inl ⟨_, (hL.r 3 3 7 (by decide)), ?_⟩)
      refine Or.inl (And.intro (hL.k 7 (by decide)) (And.intro (hL.v 7 (by decide) h.1) ?_))
      have h := h.2
      refine And.intro (fun c => ?_) (fun c => ?_)
      · have h := h.1 c
        exact hP _ h
      · have h := h.2 c
        refine And.intro (hL.k 3 (by decide)) (Or.inl ⟨_, (hL.r 3 0 4 (by decide)), ?_⟩)
        refine And.intro (hL.k 3 (by decide)) (Or.inl ⟨_, (hL.r 3 2 6 (by decide)), ?_⟩)
        refine Or.inl (And.intro (hL.k 6 (by decide)) (And.intro (hL.v 6 (by decide) h.1) ?_))
        have h := h.2
        refine And.intro (hL.k 4 (by decide)) ?_
        refine g_Em h (fun r u h => ?_)
        obtain ⟨rfl, hL, h⟩ := h
        exact hP _ h
    · have h := h.2 c
      refine And.intro (hL.k 3 (by decide)) (Or.inl ⟨_, (hL.r 3 0 4 (by decide)), ?_⟩)
      refine And.intro (hL.k 3 (by decide)) (Or.inl ⟨_, (hL.r 3 2 6 (by decide)), ?_⟩)
      refine Or.inl (And.intro (hL.k 6 (by decide)) (And.intro (hL.v 6 (by decide) h.1) ?_))
      have h := h.2
      refine And.intro (hL.k 4 (by decide)) ?_
      refine g_Em h (fun r u h => ?_)
      obtain ⟨rfl, hL, h⟩ := h
      exact hP _ h
theorem x_Reader_setTargets {cx : gCx} {d : Nat} {ad : Nat → Nat} {t : gSt} {post : Option Value → gSt → Prop} (hL : Lay t ad) (h : g_W cx (g_E cx d) mt_Reader_setTargets post (2, [some (.ref (ad 3)), some (.int 0)], [], t, 0, 0)) : g_E cx (d + 1) i_Reader_setTargets [.ref (ad 3)] t post := by
  refine g_call mt_Reader_setTargets rfl (by decide) (Nat.le_of_ble_eq_true rfl) ?_
  refine g_run [2] 400 (fun P hP => ?_)
  exact hP _ h
theorem x_Reader_setTargets_2 {cx : gCx} {d : Nat} {ad : Nat → Nat} {p : Nat} (hp : isP p) {l1 : Int32} {t : gSt} {post : Option Value → gSt → Prop} (hL : Lay t ad) (hr_3_7 : t.2.2.2 (ad 3) 7 = some (ad p)) (h : ((t.2.1 (ad 3) 11) ≤ l1 → post none t) ∧ (¬ ((t.2.1 (ad 3) 11) ≤ l1) → vp_in l1 (c_len (p + 12)) ∧ ((¬ (t.2.1 (ad (p + 12)) (l1 : Int32).toNatClampNeg) = 15 → g_W cx (g_E cx d) mt_Reader_setTargets post (2, [some (.ref (ad 3)), some (.int (l1 + 1))], [], t, 0, 0)) ∧ (¬ (¬ (t.2.1 (ad (p + 12)) (l1 : Int32).toNatClampNeg) = 15) → vp_in l1 (c_len (p + 13)) ∧ (((t.2.1 (ad 3) 8) ≤ (t.2.1 (ad (p + 13)) (l1 : Int32).toNatClampNeg) → g_W cx (g_E cx d) mt_Reader_setTargets post (2, [some (.ref (ad 3)), some (.int (l1 + 1))], [], t, 0, 0)) ∧ (¬ ((t.2.1 (ad 3) 8) ≤ (t.2.1 (ad (p + 13)) (l1 : Int32).toNatClampNeg)) → vp_in l1 (c_len (p + 13)) ∧ (vp_in (t.2.1 (ad (p + 13)) (l1 : Int32).toNatClampNeg) 1000 ∧ (vp_in l1 (c_len (p + 13)) ∧ (∀ t1, t1 = g_si t (ad (p + 13)) (l1 : Int32).toNatClampNeg (t.2.1 (ad 8) ((t.2.1 (ad (p + 13)) (l1 : Int32).toNatClampNeg) : Int32).toNatClampNeg) → g_W cx (g_E cx d) mt_Reader_setTargets post (2, [some (.ref (ad 3)), some (.int (l1 + 1))], [], t1, 0, 0)))))))))) : g_W cx (g_E cx d) mt_Reader_setTargets post (2, [some (.ref (ad 3)), some (.int l1)], [], t, 0, 0) := by
  refine g_run [2] 400 (fun P hP => ?_)
  refine And.intro (hL.k 3 (by decide)) ?_
  refine And.intro (fun c => ?_) (fun c => ?_)
  · have h := h.1 c
    exact And.intro rfl (And.intro rfl h)
  · have h := h.2 c
    refine And.intro (hL.k 3 (by decide)) (Or.inl ⟨_, hr_3_7, ?_⟩)
    refine And.intro (hL.pk hp 0 (by decide)) (Or.inl ⟨_, (hL.pr hp 0 (by decide)), ?_⟩)
    refine Or.inl (And.intro (hL.pk hp 12 (by decide)) (And.intro (hL.pv2 hp 12 (by decide) h.1) ?_))
    have h := h.2
    refine And.intro (fun c => ?_) (fun c => ?_)
    · have h := h.1 c
      exact hP _ h
    · have h := h.2 c
      refine And.intro (hL.k 3 (by decide)) (Or.inl ⟨_, hr_3_7, ?_⟩)
      refine And.intro (hL.pk hp 0 (by decide)) (Or.inl ⟨_, (hL.pr hp 1 (by decide)), ?_⟩)
      refine Or.inl (And.intro (hL.pk hp 13 (by decide)) (And.intro (hL.pv2 hp 13 (by decide) h.1) ?_))
      have h := h.2
      refine And.intro (hL.k 3 (by decide)) ?_
      refine And.intro (fun c => ?_) (fun c => ?_)
      · have h := h.1 c
        exact hP _ h
      · have h := h.2 c
        refine And.intro (hL.k 3 (by decide)) (Or.inl ⟨_, hr_3_7, ?_⟩)
        refine And.intro (hL.pk hp 0 (by decide)) (Or.inl ⟨_, (hL.pr hp 1 (by decide)), ?_⟩)
        refine And.intro (hL.k 3 (by decide)) (Or.inl ⟨_, (hL.r 3 4 8 (by decide)), ?_⟩)
        refine And.intro (hL.k 3 (by decide)) (Or.inl ⟨_, hr_3_7, ?_⟩)
        refine And.intro (hL.pk hp 0 (by decide)) (Or.inl ⟨_, (hL.pr hp 1 (by decide)), ?_⟩)
        refine Or.inl (And.intro (hL.pk hp 13 (by decide)) (And.intro (hL.pv2 hp 13 (by decide) h.1) ?_))
        have h := h.2
        refine Or.inl (And.intro (hL.k 8 (by decide)) (And.intro (hL.v 8 (by decide) h.1) ?_))
        have h := h.2
        refine And.intro (hL.pk hp 13 (by decide)) (And.intro (hL.pv2 hp 13 (by decide) h.1) ?_)
        have h := h.2 _ rfl
        exact hP _ h
