/-! PAIR: run, both sides -/
section PQ
variable {A L : List Fn} {al : Nat} {cx : gCx} {d : Nat} {ad : Nat → Nat}
theorem mstep_ps {m : MSt} (h : m.2.1.length ≤ 200) : (mstep L al m).2.2.2.1.length ≤ 200 := by
  obtain ⟨ms, ps, mo⟩ := m
  unfold mstep
  repeat' split
  all_goals first | exact h | (simp_all; done) | (simp_all; omega) | (simp_all; split <;> simp_all; done)
theorem mrun_ps : ∀ (k : Nat) (m : MSt), m.2.1.length ≤ 200 → (mrun L al k m).2.2.2.2.1.length ≤ 200
  | 0, m, h => h
  | k + 1, m, h => by
    unfold mrun
    split
    · exact mrun_ps k _ (mstep_ps h)
    · exact mstep_ps h
theorem mall_ps {lim f : Nat} {g : Nat → Int32} : (mall L al lim g f).2.2.2.2.1.length ≤ 200 := by
  unfold mall
  split
  · exact Nat.zero_le _
  · exact mrun_ps lim _ (Nat.zero_le _)
theorem mall_cg {lim f : Nat} {g g' : Nat → Int32} (h : ∀ j, j < fnP (fAt L f) → g' j = g j) : mall L al lim g' f = mall L al lim g f := by
  unfold mall m0
  rw [List.map_congr_left (fun j hj => h j (List.mem_range.mp hj))]
theorem mc_of (hl : L.length = A.length) (hA : A.length ≤ 24) (hF : ∀ (f : Nat) (F : Fn), L[f]? = some F → cd_ok A f F ∧ fnP F ≤ 6 ∧ ∃ G, A[f]? = some G ∧ fnP F = fnP G) : ∃ H, mcOk A L H := by
  have hx : ∀ f : Nat, ∃ H : Nat → Nat × Nat, f < L.length → (H 0).1 = 0 ∧ (H 0).2 ≤ fnP (fAt L f) ∧ ∀ pc q, (fnC (fAt L f))[pc]? = some q → cd_at A f (fnS (fAt L f)) (fnT (fAt L f)) (fnC (fAt L f)).length H pc q := by
    intro f
    by_cases hf : f < L.length
    · have e := List.getElem?_eq_getElem hf
      obtain ⟨-, -, -, -, -, -, H, h1, h2, h3⟩ := (hF f _ e).1
      rw [← fAt_e e] at h2 h3
      exact ⟨H, fun _ => ⟨h1, h2, h3⟩⟩
    · exact ⟨fun _ => (0, 0), fun z => absurd z hf⟩
  obtain ⟨H, hH⟩ := Classical.axiomOfChoice hx
  refine ⟨H, hl, by omega, fun f hf => ?_⟩
  have e := List.getElem?_eq_getElem hf
  obtain ⟨⟨c1, c2, c3, c4, c5, c6, -⟩, h6, G, eG, eP⟩ := hF f _ e
  rw [← fAt_e e] at c1 c2 c3 c4 c5 c6 h6 eP
  obtain ⟨k1, k2, k3⟩ := hH f hf
  exact ⟨by rw [eP]; exact (at_nI eG (by omega)).1.symm, h6, c1, c2, c3, c4, c5, c6, k1, k2, k3⟩
def rnA (c k : Nat) : Bool := mcP c k || moP c k
theorem rnA_in {c k : Nat} (h : rnA c k = true) : (93 ≤ c ∧ c ≤ 95) ∨ (193 ≤ c ∧ c ≤ 198) ∨ (c = 144 ∧ (k = 0 ∨ (80 ≤ k ∧ k ≤ 85))) := by
  unfold rnA mcP moP at h
  simp only [Bool.or_eq_true, Bool.and_eq_true, Nat.ble_eq, Nat.beq_eq] at h
  omega
theorem rnA_f {c k : Nat} (h : ¬ ((93 ≤ c ∧ c ≤ 95) ∨ (193 ≤ c ∧ c ≤ 198) ∨ (c = 144 ∧ (k = 0 ∨ (80 ≤ k ∧ k ≤ 85))))) : rnA c k = false := by
  cases e : rnA c k with
  | false => rfl
  | true => exact absurd (rnA_in e) h
theorem rnA_rp {c k : Nat} (h : rp c k = true) : rnA c k = false := by
  refine rnA_f (fun q => ?_)
  have h2 := rp_in h
  omega
theorem g_sim.rn {t w : gSt} (hF : gFr ad rnA t w) (h : g_sim t ad) (hw : (w.2.1 (ad c_Machine) f_Machine_outcome = w.2.1 (ad c_Mo) f_Mo_result ∧ w.2.1 (ad c_Machine) f_Machine_steps = w.2.1 (ad c_Mo) f_Mo_steps ∧ w.2.1 (ad c_Machine) f_Machine_mostWords = w.2.1 (ad c_Mo) f_Mo_most) ∧ ∃ n, n ≤ 200 ∧ w.2.1 (ad c_Machine) f_Machine_putCount = nI n ∧ w.2.1 (ad c_Mo) f_Mo_puts = nI n ∧ ∀ j, j < n → w.2.1 (ad c_Machine_puts) j = w.2.1 (ad c_Mo_putRow) j) : g_sim w ad := by
  obtain ⟨⟨n, a1, a2, a3, a4⟩, b, c, e, -, n3, v, w1, w2, w3, w4, w5, w6⟩ := h
  have I : ∀ c k, c < 199 → ¬ ((93 ≤ c ∧ c ≤ 95) ∨ (193 ≤ c ∧ c ≤ 198) ∨ (c = 144 ∧ (k = 0 ∨ (80 ≤ k ∧ k ≤ 85)))) → w.2.1 (ad c) k = t.2.1 (ad c) k := fun c k hc h => hF.i c k (rnA_f h) hc
  have hv : v = 90 ∨ v = 91 := w2
  refine ⟨⟨n, a1, ?_, ?_, fun j hj => ?_⟩, ?_, ?_, fun j hj => ?_, hw, n3, v, w1, w2, ?_, ?_, ?_, fun j hj => ?_⟩
  · rw [I _ _ (by decide) (by decide)]; exact a2
  · rw [I _ _ (by decide) (by decide)]; exact a3
  · rw [I 1 j (by decide) (by omega), I 145 j (by decide) (by omega)]; exact a4 j hj
  · rw [I _ _ (by decide) (by decide), I _ _ (by decide) (by decide)]; exact b
  · rw [I _ _ (by decide) (by decide), I _ _ (by decide) (by decide)]; exact c
  · rw [I 2 j (by decide) (by omega), I 192 j (by decide) (by omega)]; exact e j hj
  · rw [hF.r 83 1 (rnA_f (by decide))]; exact w3
  · rw [I _ _ (by decide) (by decide)]; exact w4
  · rw [I _ _ (by decide) (by decide)]; exact w5
  · rw [I v j (by omega) (by omega), I 190 j (by decide) (by omega)]; exact w6 j hj
theorem p_run (hi : ∀ i j, i < 199 → j < 199 → ad i = ad j → i = j) (w a words steps : Int32) : g_pair cx (d + 7) (g_Inv ad (gRst ad)) (ad c_Tr) (ad c_Mo) i_Tr_run i_Mo_run [.int w, .int a, .int words, .int steps] := by
  intro t hI post hp
  have hL := hI.1
  have hr := gRst.ag hi
  obtain ⟨p, p2, A, B, dir, com, ord, hX⟩ := gRest_iff.mp hI.2.2.1
  have hP := hX.hP
  have hW := hX.which2
  have hX' := hX
  obtain ⟨h1, h2, h3, h4, h5, h6, h7, h8, h9, h10, h11, h12, h13⟩ := hX
  have hn : A.length < 2 ^ 31 := by omega
  have hc2 : t.2.1 (ad c_Mo) 11 = nI A.length := h8.1
  have hL1 : Lay (g_si t (ad c_Mo) 0 0) ad := hL.si
  have hc3 : (g_si t (ad c_Mo) 0 0).2.1 (ad 144) 11 = nI A.length := by rw [g_rd_k (by decide)]; exact hc2
  have hN := hI.code (v := 0) hr
  have nok : ∀ r : Int32, r = -1 → ((w < 0 ∨ nI 1 < w) ∨ (a < 0 ∨ nI A.length ≤ a)) → post (some (.int r)) t := by
    intro r er c
    refine hp r t (hL.k c_Mo (by decide)) (fun post2 h2 => ?_)
    refine x_Mo_run hL (fun t1 e1 => ?_)
    subst e1
    refine m_noFunction hn hL1 hc3 ?_
    rw [if_pos c]
    refine ⟨_, rfl, hL1, fun q => absurd q (by decide), fun _ => ?_⟩
    rw [← er]
    exact h2 _ hN
  refine x_Tr_run hP hL ?_
  refine m_programOf hP hL h2 (fun j hj ew => ?_) (fun c => ⟨hL, Or.inr ⟨rfl, nok (-1) rfl (Or.inl c)⟩⟩)
  obtain ⟨q, L, hq, eq, hR, hl, hF⟩ := hW j hj
  rw [← eq]
  have hww : ¬ (w < 0 ∨ nI 1 < w) := by
    rw [ew]
    match j, hj with
    | 0, _ => decide
    | 1, _ => decide
  refine ⟨hL, Or.inl ⟨q, hq, rfl, ?_⟩⟩
  refine m_Program_has (hL.pk hq 0 (by decide)) ?_
  have hcq : t.2.1 (ad q) 15 = nI A.length := by rw [← hl]; exact hR.1
  rw [hcq]
  by_cases ca : a < 0 ∨ nI A.length ≤ a
  · rw [if_pos ca]
    exact ⟨_, rfl, hL, fun q => absurd rfl q, fun _ => nok (-1) rfl (Or.inr ca)⟩
  · rw [if_neg ca]
    have hok : ¬ ((w < 0 ∨ nI 1 < w) ∨ (a < 0 ∨ nI A.length ≤ a)) := fun z => z.elim hww ca
    -- the model says -2 too
    have bad : ∀ r : Int32, r = -2 → ((words < 0 ∨ nI 20000 < words) ∨ (steps < 0 ∨ nI 20000 < steps)) → post (some (.int r)) t := by
      intro r er c
      refine hp r t (hL.k c_Mo (by decide)) (fun post2 h2 => ?_)
      refine x_Mo_run hL (fun t1 e1 => ?_)
      subst e1
      refine m_noFunction hn hL1 hc3 ?_
      rw [if_neg hok]
      refine ⟨_, rfl, hL1, fun _ => ?_, fun q => absurd rfl q⟩
      have h2 := h2 _ hN
      rw [er] at h2
      refine x_Mo_run_16 hL1 (m_Mo_in ?_)
      by_cases c1 : words < 0 ∨ nI 20000 < words
      · rw [if_neg (fun z => in20.mp z c1)]
        exact ⟨_, rfl, hL1, fun _ => x_Mo_run_41 hL1 h2, fun q => absurd rfl q⟩
      · rw [if_pos (in20.mpr c1)]
        refine ⟨_, rfl, hL1, fun q => absurd q (by decide), fun _ => x_Mo_run_28 hL1 (m_Mo_in ?_)⟩
        rw [if_neg (fun z => in20.mp z (c.resolve_left c1))]
        exact ⟨_, rfl, hL1, fun q => absurd rfl q, fun _ => x_Mo_run_41 hL1 h2⟩
    refine ⟨_, rfl, hL, fun _ => ⟨fun c1 => bad _ rfl (Or.inl (Or.inl c1)), fun c1 => ⟨fun c2 => bad _ rfl (Or.inl (Or.inr c2)), fun c2 => ⟨fun c3 => bad _ rfl (Or.inr (Or.inl c3)), fun c3 => ⟨fun c4 => ?_, fun c4 => bad _ rfl (Or.inr (Or.inr (Int32.not_le.mp c4)))⟩⟩⟩⟩, fun q => absurd (by decide) q⟩
    have gw : ¬ (words < 0 ∨ nI 20000 < words) := fun z => z.elim c1 c2
    have gs : ¬ (steps < 0 ∨ nI 20000 < steps) := fun z => z.elim c3 (Int32.not_lt.mpr c4)
    obtain ⟨f, hf, ef⟩ := has_of hn ca
    obtain ⟨al, hal, eal⟩ : ∃ al, al ≤ 20000 ∧ words = nI al := by
      obtain ⟨x, hx, e⟩ := nI_of c1
      exact ⟨x, Nat.le_of_not_lt (fun z => c2 (by rw [e]; exact nI_lt z hx)), e⟩
    obtain ⟨lim, hlim, elim⟩ : ∃ al, al ≤ 20000 ∧ steps = nI al := by
      obtain ⟨x, hx, e⟩ := nI_of c3
      refine ⟨x, ?_, e⟩
      rw [e, show (20000 : Int32) = nI 20000 from rfl, nI_leI hx (by decide)] at c4
      exact c4
    subst ef eal elim
    obtain ⟨H, hm⟩ := mc_of hl h4 (fun f F e => ⟨(hF f F e).2.1, (hF f F e).2.2.1.2.1, by obtain ⟨G, e1, -, e2⟩ := (hF f F e).2.2.2; exact ⟨G, e1, e2⟩⟩)
    have hfL : f < L.length := by omega
    have mt : mTab t ad q L := fun f hf => by
      have e := List.getElem?_eq_getElem hf
      rw [fAt_e e]
      obtain ⟨x1, x2, x3, x4, x5, x6, x7, -, s, y1, y2, y3, y4⟩ := hR.2 f _ e
      exact ⟨x2, x5, x6, s, y1, y2, y4⟩
    have nt : nTab t ad j L := fun f hf => by
      have e := List.getElem?_eq_getElem hf
      rw [fAt_e e]
      obtain ⟨m1, m2, m3, G, eG, e1, e2⟩ := hF f _ e
      exact ⟨by rw [e2]; exact (h8.2.1 f G eG).2.1, m1.2.2.2.2.1, m1.2.2.2.2.2.1, m1.2.2.2.1⟩
    have hargs := hI.2.1.2.2.2.1
    have hP6 := (hm.2.2 f hfL).2.1
    have ecg : mall L al lim (t.2.1 (ad 192)) f = mall L al lim (t.2.1 (ad 2)) f := mall_cg (fun j hj => (hargs j (by omega)).symm)
    obtain ⟨M, eM⟩ : ∃ M, mall L al lim (t.2.1 (ad 2)) f = M := ⟨_, rfl⟩
    have hMp : M.2.2.2.2.1.length ≤ 200 := by rw [← eM]; exact mall_ps
    refine c_run hq hm hal mt hlim hfL hL (fun u hu => ⟨_, rfl, hu.1.L, ?_⟩)
    rw [eM] at hu ⊢
    obtain ⟨u1, u2, u3, u4, u5, u6⟩ := hu
    refine hp _ u (u1.L.k c_Mo (by decide)) (fun post2 h2 => ?_)
    have iu : ∀ c k, c < 199 → (c < 93 ∨ 95 < c) → u.2.1 (ad c) k = t.2.1 (ad c) k := fun c k hc h => u1.i c k (mcP_r h) hc
    have hLu : Lay (g_si u (ad 144) 0 0) ad := u1.L.si
    have Fc : gFr ad moP u (g_si u (ad 144) 0 0) := (gFr.rf u1.L).si rfl
    refine x_Mo_run u1.L (fun t1 e1 => ?_)
    subst e1
    refine m_noFunction hn hLu (by rw [g_rd_k (by decide), iu _ _ (by decide) (by decide)]; exact hc2) ?_
    rw [if_neg hok]
    refine ⟨_, rfl, hLu, fun _ => ?_, fun q => absurd rfl q⟩
    refine x_Mo_run_16 hLu (m_Mo_in ?_)
    rw [if_pos (in20.mpr gw)]
    refine ⟨_, rfl, hLu, fun q => absurd q (by decide), fun _ => x_Mo_run_28 hLu (m_Mo_in ?_)⟩
    rw [if_pos (in20.mpr gs)]
    refine ⟨_, rfl, hLu, fun _ => ?_, fun q => absurd (by decide) q⟩
    have nu : nTab u ad j L := fun f hf => by
      obtain ⟨x1, x2, x3, x4⟩ := nt f hf
      refine ⟨by rw [iu _ _ (by decide) (by decide)]; exact x1, by rw [iu _ _ (by decide) (by decide)]; exact x2, by rw [iu _ _ (by decide) (by decide)]; exact x3, fun i q hq => ?_⟩
      rw [iu 182 _ (by decide) (by decide), iu 183 _ (by decide) (by decide)]
      exact x4 i q hq
    have e192 : mall L al lim ((g_si u (ad 144) 0 0).2.1 (ad 192)) f = mall L al lim (t.2.1 (ad 2)) f := by
      rw [← ecg]
      refine mall_cg (fun j hj => ?_)
      rw [g_rd_ne (u1.L.ne 192 144 (by decide) (by decide) (by decide)), iu 192 j (by decide) (by decide)]
    refine k_run hm hal (nu.fr Fc) hj hlim hfL ew hLu (fun y hy => ?_)
    rw [e192, eM] at hy ⊢
    obtain ⟨y1, y2, y3, y4, y5, y6⟩ := hy
    have FA : gFr ad rnA t y := (u1.mo (fun c k q => by unfold rnA; rw [q]; rfl)).tr ((Fc.tr y1).mo (fun c k q => by unfold rnA; rw [q, Bool.or_true]))
    have yu : ∀ c k, c < 144 → y.2.1 (ad c) k = u.2.1 (ad c) k := fun c k hc => by rw [y1.i c k (moP_r (by omega)) (by omega), g_rd_ne (u1.L.ne c 144 (by omega) (by decide) (by omega))]
    refine h2 y ⟨y1.L, hI.2.1.rn FA ⟨⟨?_, ?_, ?_⟩, _, hMp, ?_, y5, fun j hj => ?_⟩, hI.2.2.1.fr FA (fun c k hc => rnA_rp hc), ?_, fun j => by rw [FA.i 76 j (rnA_f (by omega))]; exact hI.2.2.2.2 j⟩
    · exact (yu 93 1 (by decide)).trans (u2.trans y2.symm)
    · exact (yu 93 2 (by decide)).trans (u3.trans y3.symm)
    · exact (yu 93 3 (by decide)).trans (u4.trans y4.symm)
    · exact (yu 93 4 (by decide)).trans u5
    · have ej := List.getElem?_eq_getElem hj
      exact (yu 94 j (by decide)).trans ((u6 j _ ej).trans (y6 j _ ej).symm)
    · obtain ⟨z1, z2, zz1, zz2, zn, y1', y2'⟩ := hI.2.2.2.1
      exact ⟨z1, z2, zz1, zz2, zn, by rw [FA.r 83 1 (rnA_f (by decide))]; exact y1', by rw [FA.r 83 2 (rnA_f (by decide))]; exact y2'⟩
end PQ
