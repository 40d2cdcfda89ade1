/-! LEAVES OF THE MODEL -/
/-- reading a place that was not written -/
theorem g_rd_ne {u : gSt} {a k b j : Nat} {v : Int32} (h : b ≠ a) : (g_si u a k v).2.1 b j = u.2.1 b j := congrFun (g_si_ne h) j
theorem g_rd_k {u : gSt} {a k j : Nat} {v : Int32} (h : j ≠ k) : (g_si u a k v).2.1 a j = u.2.1 a j := by rw [g_si_at, va_up_ne _ _ h]
theorem g_rd_at {u : gSt} {a k : Nat} {v : Int32} : (g_si u a k v).2.1 a k = v := by rw [g_si_at, va_up_self]
theorem m_Mo_take {cx : gCx} {d m : Nat} {t : gSt} {post : Option Value → gSt → Prop} (hk : g_k t m k_Mo) (h : post none (g_si t m f_Mo_seen 0)) : g_E cx (d + 1) i_Mo_take [.ref m] t post := by
  refine g_call mt_Mo_take rfl (by decide) (Nat.le_of_ble_eq_true rfl) ?_
  exact g_run [] 10 (fun P hP => And.intro hk (And.intro ⟨rfl, rfl⟩ (And.intro rfl (And.intro rfl h))))
theorem m_Mo_fail {cx : gCx} {d m : Nat} {f p : Int32} {t : gSt} {post : Option Value → gSt → Prop} (hk : g_k t m k_Mo) (h1 : t.2.1 m f_Mo_fault = 0 → post none (g_si (g_si t m f_Mo_fault f) m f_Mo_place p)) (h2 : ¬ t.2.1 m f_Mo_fault = 0 → post none t) : g_E cx (d + 1) i_Mo_fail [.ref m, .int f, .int p] t post := by
  refine g_call mt_Mo_fail rfl (by decide) (Nat.le_of_ble_eq_true rfl) ?_
  refine g_run [] 20 (fun P hP => And.intro hk (And.intro (fun c => ?_) (fun c => ?_)))
  · exact And.intro rfl (And.intro rfl (h2 c))
  · exact And.intro hk (And.intro hk (And.intro rfl (And.intro rfl (h1 (Decidable.not_not.mp c)))))
/-- a task is laid on the stack of tasks -/
def mo_push (t : gSt) (ad : Nat → Nat) (k a b : Int32) : gSt := g_si (g_si (g_si (g_si t (ad c_Mo_task) (t.2.1 (ad c_Mo) f_Mo_tasks).toNatClampNeg k) (ad c_Mo_taskA) (t.2.1 (ad c_Mo) f_Mo_tasks).toNatClampNeg a) (ad c_Mo_taskB) (t.2.1 (ad c_Mo) f_Mo_tasks).toNatClampNeg b) (ad c_Mo) f_Mo_tasks (t.2.1 (ad c_Mo) f_Mo_tasks + 1)
theorem m_Mo_push {cx : gCx} {d : Nat} {ad : Nat → Nat} {k a b : Int32} {t : gSt} {post : Option Value → gSt → Prop} (hL : Lay t ad) (hi : vp_in (t.2.1 (ad c_Mo) f_Mo_tasks) 20000) (h : post none (mo_push t ad k a b)) : g_E cx (d + 1) i_Mo_push [.ref (ad c_Mo), .int k, .int a, .int b] t post := by
  refine g_call mt_Mo_push rfl (by decide) (Nat.le_of_ble_eq_true rfl) ?_
  have hk : g_k t (ad c_Mo) k_Mo := hL.k c_Mo (by decide)
  have n1 : ad c_Mo ≠ ad c_Mo_task := hL.ne _ _ (by decide) (by decide) (by decide)
  have n2 : ad c_Mo ≠ ad c_Mo_taskA := hL.ne _ _ (by decide) (by decide) (by decide)
  have n3 : ad c_Mo ≠ ad c_Mo_taskB := hL.ne _ _ (by decide) (by decide) (by decide)
  have i1 : vp_in (t.2.1 (ad c_Mo) f_Mo_tasks) (t.1.2.2 (ad c_Mo_task)) := by rw [hL.l c_Mo_task (by decide)]; exact hi
  have i2 : vp_in ((g_si t (ad c_Mo_task) (t.2.1 (ad c_Mo) f_Mo_tasks).toNatClampNeg k).2.1 (ad c_Mo) f_Mo_tasks) (t.1.2.2 (ad c_Mo_taskA)) := by rw [g_rd_ne n1, hL.l c_Mo_taskA (by decide)]; exact hi
  have i3 : vp_in ((g_si (g_si t (ad c_Mo_task) (t.2.1 (ad c_Mo) f_Mo_tasks).toNatClampNeg k) (ad c_Mo_taskA) ((g_si t (ad c_Mo_task) (t.2.1 (ad c_Mo) f_Mo_tasks).toNatClampNeg k).2.1 (ad c_Mo) f_Mo_tasks).toNatClampNeg a).2.1 (ad c_Mo) f_Mo_tasks) (t.1.2.2 (ad c_Mo_taskB)) := by rw [g_rd_ne n2, g_rd_ne n1, hL.l c_Mo_taskB (by decide)]; exact hi
  refine g_run [] 40 (fun P hP => ?_)
  refine And.intro hk (Or.inl ⟨_, hL.r c_Mo f_Mo_task c_Mo_task (by decide), And.intro hk ?_⟩)
  refine And.intro (hL.k c_Mo_task (by decide)) (And.intro i1 ?_)
  refine And.intro hk (Or.inl ⟨_, hL.r c_Mo f_Mo_taskA c_Mo_taskA (by decide), And.intro hk ?_⟩)
  refine And.intro (hL.k c_Mo_taskA (by decide)) (And.intro i2 ?_)
  refine And.intro hk (Or.inl ⟨_, hL.r c_Mo f_Mo_taskB c_Mo_taskB (by decide), And.intro hk ?_⟩)
  refine And.intro (hL.k c_Mo_taskB (by decide)) (And.intro i3 ?_)
  refine And.intro hk (And.intro hk ?_)
  refine And.intro rfl (And.intro rfl ?_)
  rw [g_rd_ne n3, g_rd_ne n2, g_rd_ne n1]
  exact h
