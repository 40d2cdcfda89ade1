/-! THE START once more, with what the passes use of it -/
set_option maxHeartbeats 4000000 in
theorem g_start2 {p : Program} {s : State} {m : MethodId} {meth : Method} {c : Code} {b L : Nat} {xs : Nat → Int32} (hL : L ≤ 2560) (C0 : lw_At p s m meth c b L xs) : ∃ cx : gCx, g_CX cx b L xs ∧ g_CS cx ∧ g_RO cx (fun q => s.heap.size ≤ q) s s.heap ∧ g_ST cx s := by
  obtain ⟨hx, hb, hr, hml, hown, hts0, hX, hbl, hlocks, hgv⟩ := C0
  have hs : ∀ w ∈ g_fl1, w.before #[Value.ref b] s = true := flat_of_before _ hgv
  have hA : ∀ a : Nat, a < s.heap.size → ¬ (fun q : Nat => s.heap.size ≤ q) a := fun a h q => absurd h (Nat.not_lt.mpr q)
  have ha : ∀ i, i < 16 → _ := fun i hi => List.all_eq_true.mp st_a i (List.mem_range.mpr hi)
  simp only [Bool.and_eq_true, decide_eq_true_eq] at ha
  have h0 : ∀ i : Nat, ∃ q : Nat × Nat, i < 16 → (g_tm i).eval #[Value.ref b] s none [] s = some (.ref q.1) ∧ va_O "java/lang/String" q.1 (fun q => s.heap.size ≤ q) s s.heap ∧ va_OF "java/lang/String" "coder" "B" (.int 0) q.1 (fun q => s.heap.size ≤ q) s s.heap ∧ va_OF "java/lang/String" "value" "[B" (.ref q.2) q.1 (fun q => s.heap.size ≤ q) s s.heap ∧ va_T .byte q.2 (g_stl.getD i 0) (fun j => .int ((g_stb.getD i []).getD j 0)) (fun q => s.heap.size ≤ q) s s.heap := by
    intro i
    by_cases hi : i < 16
    · obtain ⟨k, v, hS, hev⟩ := vk_Sof (args := #[Value.ref b]) (s := s) (N := 1) (tm := fun _ => g_tm i) (len := [g_stl.getD i 0]) (byt := [g_stb.getD i []]) (A := fun q => s.heap.size ≤ q) (fun z hz => by rw [show z = 0 by omega]; exact (ha i hi).2) (fun _ _ => hs _ (ha i hi).1.1.1.1) (fun _ _ => hs _ (ha i hi).1.1.1.2) (fun _ _ => hs _ (ha i hi).1.1.2) (fun z hz => by rw [show z = 0 by omega]; exact hs _ (ha i hi).1.2)
        (fun z hz j hj => by
          rw [show z = 0 by omega] at hj ⊢
          have h1 := List.all_eq_true.mp (List.all_eq_true.mp st_b i (List.mem_range.mpr hi)) j (List.mem_range.mpr hj)
          exact hs _ (of_decide_eq_true h1))
        (fun z y hz hy hzy => absurd (show z = y by omega) hzy) hA
      exact ⟨(k 0, v 0), fun _ => ⟨hev 0 (by decide), hS.1 0 (by decide)⟩⟩
    · exact ⟨(0, 0), fun z => absurd z hi⟩
  obtain ⟨ad, had⟩ := Classical.axiomOfChoice h0
  have hev : ∀ i, i < 16 → (g_tm i).eval #[Value.ref b] s none [] s = some (.ref (ad i).1) := fun i hi => (had i hi).1
  obtain ⟨wd, hwd, hT⟩ := va_Tof (args := #[Value.ref b]) (s := s) (tm := g_tW) (ty := .long) (N := 7) (f := fun j => .long (g_wds.getD j 0)) (A := fun q => s.heap.size ≤ q) (by decide) (hs _ st_d.1) (va_eqt (hs _ st_d.2.1)) (fun j hj => st_eqL (hs _ (of_decide_eq_true (List.all_eq_true.mp st_e j (List.mem_range.mpr hj))))) hA
  obtain ⟨v, hv, hvr⟩ := Cond.isRef_spec (hs _ st_d.2.2.2)
  have hvc : ¬ v.category = 2 := by
    cases v <;> first | (intro q; cases q; done) | (cases hvr; done)
  have hz : ∀ k, k < 3 → ∀ v, (Term.static (g_gsn k).1 (g_gsn k).2.1 (g_gsn k).2.2).eval #[Value.ref b] s none [] s = some v → va_Z (g_gsn k).1 (g_gsn k).2.1 (g_gsn k).2.2 v (fun q => s.heap.size ≤ q) s s.heap := by
    intro k hk v hv
    have h1 := List.all_eq_true.mp st_f k (List.mem_range.mpr hk)
    simp only [Bool.and_eq_true, decide_eq_true_eq] at h1
    exact va_Zof (hts0 _ h1.1) (hts0 _ h1.2) hv hA
  refine ⟨(wd, fun a q => (a = b ∧ q = (15, L, xs, fun _ => 0)) ∨ (a = wd ∧ q = (16, 7, fun _ => 0, fun j => g_wds.getD j 0)) ∨ ∃ i, i < 16 ∧ ((a = (ad i).1 ∧ q = (20, (ad i).2, fun _ => 0, fun _ => 0)) ∨ (a = (ad i).2 ∧ q = (13, g_stl.getD i 0, fun j => (g_stb.getD i []).getD j 0, fun _ => 0))), fun i => (ad i).1, v), ⟨Or.inl ⟨rfl, rfl⟩, Or.inr (Or.inl ⟨rfl, rfl⟩), fun i hi => ⟨(ad i).2, Or.inr (Or.inr ⟨i, hi, Or.inl ⟨rfl, rfl⟩⟩), Or.inr (Or.inr ⟨i, hi, Or.inr ⟨rfl, rfl⟩⟩)⟩⟩, ⟨hvc, Or.inr (Or.inl ⟨rfl, rfl⟩), fun i hi => ⟨(ad i).2, Or.inr (Or.inr ⟨i, hi, Or.inl ⟨rfl, rfl⟩⟩), Or.inr (Or.inr ⟨i, hi, Or.inr ⟨rfl, rfl⟩⟩)⟩⟩, ⟨fun k hk => ?_, fun a q hq => ?_⟩, ?_⟩
  · match k, hk with
    | 0, _ => exact hz 0 (by decide) _ hwd
    | 1, _ => exact hz 1 (by decide) _ (va_eqi (hs _ st_d.2.2.1))
    | 2, _ => exact hz 2 (by decide) _ hv
    | k + 3, h => exact absurd h (by omega)
  · rcases hq with ⟨rfl, rfl⟩ | ⟨rfl, rfl⟩ | ⟨i, hi, ⟨rfl, rfl⟩ | ⟨rfl, rfl⟩⟩
    · refine ⟨(fun z => by cases z), fun _ => ?_, (fun z => by cases z), (fun z => by cases z)⟩
      obtain ⟨scr, x1, x2, x3, x4, x5⟩ := hX
      exact ⟨scr, x1, x2, x3, Nat.le_of_eq x4.symm, by rw [x4], x5, hA _ hbl⟩
    · exact ⟨(fun z => by cases z), (fun z => by cases z), fun _ => hT, (fun z => by cases z)⟩
    · exact ⟨(fun z => by cases z), (fun z => by cases z), (fun z => by cases z), fun _ => ⟨(had i hi).2.1, (had i hi).2.2.2.1, (had i hi).2.2.1⟩⟩
    · exact ⟨fun _ => (had i hi).2.2.2.2, (fun z => by cases z), (fun z => by cases z), (fun z => by cases z)⟩
  · intro o x q hq
    by_cases ho : o < 17
    · have h1 := List.all_eq_true.mp (List.all_eq_true.mp st_h o (List.mem_range.mpr ho)) (x, q) (g_lk_mem hq)
      simp only [Bool.and_eq_true, decide_eq_true_eq] at h1
      have h2 := of_decide_eq_true (List.all_eq_true.mp st_g q (List.mem_range.mpr h1.1))
      have h3 := hev q h1.1
      unfold g_tm at h3
      rw [h1.2] at h2 h3
      exact vk_R.of (hts0 _ h2) h3
    · unfold g_sl at hq
      rw [List.getD_eq_getElem?_getD, List.getElem?_eq_none (show g_slT.length ≤ o by show 17 ≤ o; omega)] at hq
      cases hq
