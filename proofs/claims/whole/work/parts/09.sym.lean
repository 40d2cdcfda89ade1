/-! SYMBOLIC STEPS: n of them, but no further than the places S -/
def g_rs (cx : gCx) (E : gE) (mt : gMt) (post : Option Value → gSt → Prop) (S : List Nat) (P : gY → Prop) : Nat → gY → Prop
  | 0 => P
  | n + 1 => fun y => match S.contains y.1 with
    | true => P y
    | false => g_step cx E (g_rs cx E mt post S P n) mt post y
theorem g_rs_ok {cx : gCx} {E : gE} {mt : gMt} {post : Option Value → gSt → Prop} {S : List Nat} : ∀ (n : Nat) {y : gY}, g_rs cx E mt post S (g_W cx E mt post) n y → g_W cx E mt post y
  | 0, _, h => h
  | n + 1, y, h => by
    unfold g_rs at h
    split at h
    · exact h
    · exact fun P hP => hP _ _ (fun _ hw => g_rs_ok n hw P hP) h
theorem g_run {cx : gCx} {E : gE} {mt : gMt} {post : Option Value → gSt → Prop} (S : List Nat) (n : Nat) {y : gY} (h : ∀ P : gY → Prop, (∀ z, g_W cx E mt post z → P z) → g_step cx E (g_rs cx E mt post S P n) mt post y) : g_W cx E mt post y := fun P hP => hP _ _ (fun _ hw => g_rs_ok n hw P hP) (h _ (fun _ h => h))
theorem g_call {cx : gCx} {d id : Nat} {vs : List Value} {t : gSt} {post : Option Value → gSt → Prop} (mt : gMt) (hmt : g_mt id = mt) (hid : id < 233) (hl : (g_en vs).length ≤ mt.2.1) (h : g_W cx (g_E cx d) mt post (0, g_l0 vs mt.2.1, [], t, 0, 0)) : g_E cx (d + 1) id vs t post := by
  subst hmt
  exact ⟨⟨hid, hl⟩, h⟩
theorem m_Program_has {cx : gCx} {d a : Nat} {f : Int32} {t : gSt} {post : Option Value → gSt → Prop} (hk : g_k t a k_Program) (h : post (some (.int (if f < 0 ∨ t.2.1 a f_Program_count ≤ f then 0 else 1))) t) : g_E cx (d + 1) i_Program_has [.ref a, .int f] t post := by
  refine g_call mt_Program_has rfl (by decide) (Nat.le_refl 2) ?_
  refine g_run [] 20 (fun P hP => ?_)
  refine And.intro (fun c1 => ?_) (fun c1 => ?_)
  · refine And.intro rfl (And.intro rfl ?_)
    have c1 : f < 0 := c1
    rw [if_pos (Or.inl c1)] at h
    exact h
  · refine And.intro hk ?_
    have c1 : ¬ f < 0 := c1
    refine And.intro (fun c2 => ?_) (fun c2 => ?_)
    · have c2 : t.2.1 a f_Program_count ≤ f := c2
      refine And.intro rfl (And.intro rfl ?_)
      rw [if_pos (Or.inr c2)] at h
      exact h
    · have c2 : ¬ t.2.1 a f_Program_count ≤ f := c2
      refine And.intro rfl (And.intro rfl ?_)
      rw [if_neg (fun q => q.elim c1 c2)] at h
      exact h
