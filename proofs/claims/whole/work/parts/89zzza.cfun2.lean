/-! THE CLASS READS FUNCTIONS: a whole one -/
def cFn (ad : Nat → Nat) (p f : Nat) (q : FD) (s : Nat) (t : gSt) : Prop := t.2.2.1 (ad (p + 1)) f = pk8 q.1 ∧ t.2.1 (ad (p + 2)) f = nI q.2.1 ∧ t.2.1 (ad (p + 3)) f = nI q.2.2.1 ∧ t.2.1 (ad (p + 6)) f = 0 ∧ t.2.1 (ad (p + 4)) f = nI s ∧ t.2.1 (ad (p + 5)) f = nI (fo_n q.2.2.2) ∧ rowC ad p s (fo_p q.2.2.2) t
def CFR (ad : Nat → Nat) (T : Nat → Nat) (n p a : Nat) (FS : List FD) (cl : CL) (ac : Nat → Nat) (t : gSt) : Prop := txC ad T n t ∧ cuC ad T n a t ∧ t.2.2.2 (ad 3) 7 = some (ad p) ∧ t.2.1 (ad p) 15 = nI FS.length ∧ t.2.1 (ad 3) 8 = nI cl.length ∧ t.2.1 (ad 3) 11 = nI (fdsz FS) ∧ callC ad 0 cl ac t ∧ ∀ f q, FS[f]? = some q → cFn ad p f q (fdsz (FS.take f)) t
def fdOk (cl : CL) (ac : Nat → Nat) (q : FD) : Prop := nm_ok q.1 ∧ (q.2.1 ≤ 6 ∧ q.2.1 ≤ q.2.2.1 ∧ q.2.2.1 ≤ 46) ∧ fo_l q.2.2.2 = 1 ∧ fo_n q.2.2.2 ≤ 400 ∧ fo_w cl.length (fun v => ac v.toNatClampNeg) q.2.2.2 (fun _ => (List.range q.2.1).map nI) ∧ fo_b q.2.2.2 = (List.range' q.2.1 (q.2.2.1 - q.2.1)).map nI
/-- what holds of functions that were read -/
def FOK (FS : List FD) (cl : CL) (ac : Nat → Nat) (a : Nat) : Prop := (FS.length ≤ 24 ∧ fdsz FS ≤ a ∧ 91 * cl.length ≤ 30 * a) ∧ clOk cl a ∧ FS.Pairwise (fun q r => q.1 ≠ r.1) ∧ (∀ q ∈ FS, fdOk cl ac q) ∧ (FS.map (fun q => pcl q.2.2.2)).flatten = List.range cl.length ∧ ∀ f q, FS[f]? = some q → ∀ c ∈ pcl q.2.2.2, ∀ z, cl[c]? = some z → z.2.2 = 48 + f
def rdP (p c k : Nat) : Bool := (Nat.beq c 3 && (Nat.ble 7 k && Nat.ble k 14)) || (Nat.beq c 4) || (Nat.ble 5 c && Nat.ble c 10) || (Nat.ble p c && Nat.ble c (p + 15))
theorem rdP_i {p c k : Nat} : rdP p c k = true ↔ (c = 3 ∧ 7 ≤ k ∧ k ≤ 14) ∨ c = 4 ∨ (5 ≤ c ∧ c ≤ 10) ∨ (p ≤ c ∧ c ≤ p + 15) := by
  unfold rdP
  simp only [Bool.or_eq_true, Bool.and_eq_true, Nat.beq_eq, Nat.ble_eq]
  omega
section CO
variable {cx : gCx} {d dm : Nat} {ad : Nat → Nat} {T : Nat → Nat} {n p a : Nat} {FS : List FD} {cl : CL} {ac : Nat → Nat} {t u : gSt} {post : Option Value → gSt → Prop} {P : Nat → Nat → Bool}
theorem FOK.s (h : FOK FS cl ac a) : ∀ q ∈ FS, fdS q := fun q hq => ⟨(h.2.2.2.1 q hq).2.2.2.1, (h.2.2.2.1 q hq).2.1.1, (h.2.2.2.1 q hq).2.1.2.2⟩
theorem FOK.ok (h : FOK FS cl ac a) : ∀ q ∈ FS, nm_ok q.1 := fun q hq => (h.2.2.2.1 q hq).1
theorem FOK.pc (h : FOK FS cl ac a) : ∀ q ∈ FS, ∀ c ∈ pcl q.2.2.2, c < cl.length := fun q hq c hc => by
  have : c ∈ (FS.map (fun q => pcl q.2.2.2)).flatten := List.mem_flatten.mpr ⟨_, List.mem_map.mpr ⟨q, hq, rfl⟩, hc⟩
  rw [h.2.2.2.2.1] at this
  exact List.mem_range.mp this
theorem rd_hd {e c k : Nat} (h : hdP p e c k = true) : rdP p c k = true := by
  rw [hdP_i] at h
  rw [rdP_i]
  omega
theorem rd_cr {c k : Nat} (h : crxP p c k = true) : rdP p c k = true := by
  rw [crxP_i] at h
  rw [rdP_i]
  omega
theorem take_ap {q : FD} {f : Nat} (hf : f ≤ FS.length) : (FS ++ [q]).take f = FS.take f := List.take_append_of_le_length hf
theorem fdsz_le {f : Nat} : ∀ FS : List FD, ∀ f q, FS[f]? = some q → fdsz (FS.take f) + fo_n q.2.2.2 ≤ fdsz FS
  | [], f, q, h => by cases h
  | r :: FS, 0, q, h => by
    have h : r = q := by simpa using h
    subst h
    unfold fdsz
    simp
  | r :: FS, f + 1, q, h => by
    rw [List.getElem?_cons_succ] at h
    have := fdsz_le (f := f) FS f q h
    unfold fdsz at this ⊢
    rw [List.take_succ_cons, List.map_cons, List.map_cons, List.sum_cons, List.sum_cons]
    omega
theorem cFn.fr {f s : Nat} {q : FD} (h : cFn ad p f q s t) (hp : isQ p) (hF : gFr ad P t u) (hP : ∀ c k, (p + 1 ≤ c ∧ c ≤ p + 6 ∧ k = f) → P c k = false) (hb : bel ad p (s + fo_n q.2.2.2) t u) : cFn ad p f q s u := by
  have hpg := hp.ge
  obtain ⟨h1, h2, h3, h4, h5, h6, h7⟩ := h
  refine ⟨?_, ?_, ?_, ?_, ?_, ?_, h7.be hb (by rw [fo_pn]; omega)⟩
  · rw [hF.j (p + 1) f (hP _ _ (by omega)) (by omega)]; exact h1
  · rw [hF.i (p + 2) f (hP _ _ (by omega)) (by omega)]; exact h2
  · rw [hF.i (p + 3) f (hP _ _ (by omega)) (by omega)]; exact h3
  · rw [hF.i (p + 6) f (hP _ _ (by omega)) (by omega)]; exact h4
  · rw [hF.i (p + 4) f (hP _ _ (by omega)) (by omega)]; exact h5
  · rw [hF.i (p + 5) f (hP _ _ (by omega)) (by omega)]; exact h6
/-- functions, with one more -/
theorem FOK.ap {a2 a' l' : Nat} {ps : SC} {cl' : CL} {ac' : Nat → Nat} {F : Fo} {nm : List Nat} {b : Nat} (h : FOK FS cl ac a) (hl : FS.length < 24) (hnm : nm_ok nm) (hno : ∀ q ∈ FS, q.1 ≠ nm) (hps : psOk ps) (hF : fo_l F = 1) (hF4 : fo_n F ≤ 400) (hg : PG ps.length (48 + FS.length) 0 cl.length a2 0 ps cl ac a' l' cl' ac' F) (h2 : a + 3 ≤ a2) (hb : a' < b) : FOK (FS ++ [(nm, ps.length, ps.length + l', F)]) cl' ac' b := by
  have gle := hg.le
  have hpc := h.pc
  obtain ⟨⟨g1, g2, g3⟩, g4, g5, g6, g7, g8⟩ := h
  obtain ⟨p1, p2, ⟨w, p3, p3x⟩, p4, p5, p6, p7, p8, p9⟩ := hg
  have hsc : scV ps = (List.range ps.length).map nI := by
    unfold scV
    rw [← hps.2.1, List.map_map]
    rfl
  refine ⟨⟨by rw [List.length_append]; simp only [List.length_cons, List.length_nil]; omega, by rw [fdsz_ap]; show fdsz FS + fo_n F ≤ b; omega, by omega⟩, p9.mo (by omega), ?_, fun q hq => ?_, ?_, fun f q hq c hc z hz => ?_⟩
  · refine List.pairwise_append.mpr ⟨g5, List.pairwise_singleton _ _, fun q hq r hr => ?_⟩
    rw [List.mem_singleton.mp hr]
    exact hno q hq
  · rcases List.mem_append.mp hq with hq | hq
    · obtain ⟨k1, k2, k3, k4, k5, k6⟩ := g6 q hq
      refine ⟨k1, k2, k3, k4, fo_w_pcg _ _ k5 (fun v hv => ?_) gle, k6⟩
      have := hpc q hq _ hv
      exact p5 _ this (by omega)
    · rw [List.mem_singleton.mp hq]
      refine ⟨hnm, ⟨hps.2.2, Nat.le_add_right _ _, ?_⟩, hF, hF4, ?_, ?_⟩
      · have := hps.2.2
        show ps.length + l' ≤ 46
        omega
      · show fo_w cl'.length (fun v => ac' v.toNatClampNeg) F (fun _ => (List.range ps.length).map nI)
        rw [← hsc]
        exact p8
      · show fo_b F = (List.range' ps.length (ps.length + l' - ps.length)).map nI
        rw [p7, Nat.add_zero, show ps.length + l' - ps.length = l' - 0 by omega]
  · rw [List.map_append, List.flatten_append, g7]
    simp only [List.map_cons, List.map_nil, List.flatten_cons, List.flatten_nil, List.append_nil]
    rw [p6, List.range_eq_range', List.range_eq_range']
    have := rg_ap (s := 0) (m := cl.length) (k := cl'.length) (Nat.zero_le _) gle
    rw [Nat.sub_zero, Nat.sub_zero] at this
    exact this
  · by_cases hf : f < FS.length
    · rw [List.getElem?_append_left hf] at hq
      have hcl := hpc q (List.mem_of_getElem? hq) c hc
      rw [p3, List.getElem?_append_left hcl] at hz
      exact g8 f q hq c hc z hz
    · rw [List.getElem?_append_right (by omega)] at hq
      have hi0 : f - FS.length = 0 := by
        by_cases y : f - FS.length = 0
        · exact y
        · rw [List.getElem?_eq_none (by simp; omega)] at hq; cases hq
      rw [hi0] at hq
      have hq : (nm, ps.length, ps.length + l', F) = q := by simpa using hq
      rw [← hq] at hc
      have hc : c ∈ pcl F := hc
      rw [p6] at hc
      have hc2 := List.mem_range'_1.mp hc
      rw [p3, List.getElem?_append_right (by omega)] at hz
      rw [p3x z (List.mem_of_getElem? hz)]
      omega
/-- a function is read -/
theorem m_def (hcs : g_CS cx) (hp : isQ p) (hT : txt T n) (hL : Lay t ad) (hC : CFR ad T n p a FS cl ac t) (hO : FOK FS cl ac a) (ha : a ≤ n) (k0 : tkK T n a ≠ 0)
    (kl : ∀ a' FS' cl' ac' u, gFr ad (rdP p) t u → CFR ad T n p a' FS' cl' ac' u → FOK FS' cl' ac' a' → a < a' → a' ≤ n → RcF cx dm ad T n a FS cl ac a' FS' cl' ac' → post none u)
    (kd : ∀ c q u, gFr ad (rdP p) t u → ddC ad c q u → RfF cx dm ad T n a FS cl ac c q → post none u) : g_E cx (d + 7 * 30 + 31) i_Reader_readDefinition [.ref (ad 3)] t post := by
  have hpg := hp.ge
  have hn := hT.1
  have hs := hO.s
  have hok := hO.ok
  have hpc := hO.pc
  obtain ⟨h1, h2, h3, h4, h5, h6, h7, h8⟩ := hC
  obtain ⟨⟨g1, g2, g3⟩, g4, g5, g6, g7, g8⟩ := id hO
  refine x_Reader_readDefinition hp.P hL h3 (fun x1 e1 t2 e2 t3 e3 t4 e4 t5 e5 t6 e6 => ?_)
  rw [h4] at e1
  rw [e1]
  have F6 : gFr ad (fun c k => Nat.beq c 3 && (Nat.beq k 9 || Nat.beq k 10 || Nat.beq k 12 || Nat.beq k 13 || Nat.beq k 14)) t t6 := by rw [e6, e5, e4, e3, e2]; exact (((((gFr.rf hL).si rfl).si rfl).si rfl).si rfl).si rfl
  have hF6 : ∀ c k, ¬ (c = 3 ∧ (k = 9 ∨ k = 10 ∨ k = 12 ∨ k = 13 ∨ k = 14)) → (Nat.beq c 3 && (Nat.beq k 9 || Nat.beq k 10 || Nat.beq k 12 || Nat.beq k 13 || Nat.beq k 14)) = false := fun c k z => Bool.eq_false_iff.mpr (fun q => z (by
    simp only [Bool.or_eq_true, Bool.and_eq_true, Nat.beq_eq] at q
    omega))
  have G6 : gFr ad (hdP p FS.length) t t6 := F6.mo (fun c k z => by
    simp only [Bool.or_eq_true, Bool.and_eq_true, Nat.beq_eq] at z
    rw [hdP_i]
    omega)
  have cr6 : CR ad T n p 0 (fdsz FS) 0 0 [] cl.length 0 t6 := by
    refine ⟨h1.fr F6 (hF6 _ _ (by omega)) (hF6 _ _ (by omega)) (fun k => hF6 _ _ (by omega)), ?_, ?_, ⟨?_, fun i q hq => (by cases hq)⟩, ?_, ?_, ?_, ?_, ?_⟩
    · rw [F6.r 3 7 (hF6 _ _ (by omega))]; exact h3
    · rw [F6.i 3 8 (hF6 _ _ (by omega))]; exact h5
    · rw [e6, g_rd_k (by decide), e5, g_rd_k (by decide), e4, g_rd_k (by decide), e3, g_rd_k (by decide), e2, g_rd_at]; rfl
    · rw [e6, g_rd_k (by decide), e5, g_rd_k (by decide), e4, g_rd_k (by decide), e3, g_rd_at]; rfl
    · rw [F6.i 3 11 (hF6 _ _ (by omega))]; exact h6
    · rw [e6, g_rd_k (by decide), e5, g_rd_k (by decide), e4, g_rd_at]; rfl
    · rw [e6, g_rd_k (by decide), e5, g_rd_at]; rfl
    · rw [e6, g_rd_at]; rfl
  refine m_fname (FS := FS) (cl := cl) (ac := ac) (dm := dm) hcs hp hT F6.L cr6 (h2.fr F6 (fun k => hF6 _ _ (by omega))) ha k0 hs hok g1 (by rw [F6.i p 15 (hF6 _ _ (by omega)) (by omega)]; exact h4) (fun f q hq => by rw [F6.j (p + 1) f (hF6 _ _ (by omega)) (by omega)]; exact (h8 f q hq).1) (fun k3 k2 hno h24 u7 F7 cr7 cu7 c15 n7 => ⟨_, rfl, F7.L, fun z => absurd z (by decide), fun _ => ?_⟩) (fun c q u Fu hd hr => ⟨_, rfl, Fu.L, fun _ => x_Reader_readDefinition_59 Fu.L (kd c q u ((G6.tr Fu).mo (fun c k z => rd_hd z)) hd hr), fun z => absurd rfl z⟩)
  have hE1 := tkE_gt hT ha (by omega)
  have hE1l := tkE_le hT ha
  have hE2 := tkE_gt hT hE1l (by omega)
  have hE2l := tkE_le hT hE1l
  have nex : ¬ ∃ q ∈ FS, q.1 = tkN T n (tkE T n a) := fun ⟨q, hq, e⟩ => hno q hq e
  have G7 := G6.tr F7
  refine m_params (a := a) (nm := tkN T n (tkE T n a)) (cl := cl) (ac := ac) (dm := dm) (FS := FS) (a2 := tkE T n (tkE T n a)) hcs hp hT F7.L cr7 hs h24 hpc hE2l cu7 (fun k10 t0 post t h k => f_go hT h ha hs hok g1 k0 (fun z => absurd k3 z) (fun _ z => absurd k2 z) (fun _ _ z => absurd z nex) (fun _ _ _ z => by omega) (fun _ _ _ _ _ u hu => k u hu) (fun _ _ _ _ z => absurd z k10) (fun _ _ _ _ z => absurd z k10)) (fun k10 k23 t0 post t h k => f_go hT h ha hs hok g1 k0 (fun z => absurd k3 z) (fun _ z => absurd k2 z) (fun _ _ z => absurd z nex) (fun _ _ _ z => by omega) (fun _ _ _ _ z => absurd k10 z) (fun _ _ _ _ _ _ u hu => k u hu) (fun _ _ _ _ _ z => absurd k23 z)) (fun k10 k23 t0 post t h k => f_go hT h ha hs hok g1 k0 (fun z => absurd k3 z) (fun _ z => absurd k2 z) (fun _ _ z => absurd z nex) (fun _ _ _ z => by omega) (fun _ _ _ _ z => absurd k10 z) (fun _ _ _ _ _ z => absurd z k23) (fun _ _ _ _ _ _ u hu => k u _ hu)) (fun b ps u9 F9 cr9 cu9 hb1 hb k11 rH hps => ⟨_, rfl, F9.L, fun z => absurd z (by decide), fun _ => ?_⟩) (fun c q u Fu hd hr => ⟨_, rfl, Fu.L, fun _ => x_Reader_readDefinition_59 Fu.L (kd c q u ((G7.tr (Fu.mo (fun c k z => hd_ha z))).mo (fun c k z => rd_hd z)) hd hr), fun z => absurd rfl z⟩)
  have hE3 := tkE_p hT hE2l
  have hE3' := tkS_ge (T := T) (n := n) (a := tkE T n (tkE T n a))
  have hEb := tkE_gt hT hb (by omega)
  have hEbl := tkE_le hT hb
  have G9 := G7.tr (F9.mo (fun c k z => hd_ha (p := p) (e := FS.length) z))
  -- the sign behind the brackets
  refine m_needC (kk := 14) (by decide) rfl hcs F9.L cr9.1 hEbl cu9 (fun k14 u11 F11 cu11 _ => ⟨_, rfl, F11.L, (cr9.tc F11).2.1, fun _ => ?_, fun z => absurd (show ¬ (1 : Int32) = 0 by decide) z⟩) (fun k14 u11 F11 hd => ⟨_, rfl, F11.L, by rw [F11.r 3 7 rfl]; exact cr9.2.1, fun z => absurd rfl z, fun _ => x_Reader_readDefinition_59 F11.L (kd _ _ u11 ((G9.tr (F11.mo (fun c k z => hd_tc z))).mo (fun c k z => rd_hd z)) hd (fun t0 post t h k => rH t0 post t h (fun u o3 hu => ?_)))⟩)
  rotate_left
  · exact x_Mo_readFunction_120 hu.1.L ⟨fun _ => e_go hT hu hb hs h24 hps.2.2 hpc (fun z => absurd k11 z) (fun _ _ v hv => k v hv) (fun _ z => absurd z k14), fun z => absurd rfl z⟩
  have hE4 := tkE_gt hT hEbl (by omega)
  have hE4l := tkE_le hT hEbl
  have cr11 := cr9.tc F11
  have G11 := G9.tr (F11.mo (fun c k z => hd_tc (p := p) (e := FS.length) z))
  have hp6 := hps.2.2
  rw [nI_clamp (by omega), cr11.2.2.2.2.2.2.2.1]
  have hvp : vp_in (nI FS.length) 24 := vp_in_nI h24 (by omega)
  refine ⟨hvp, fun t13 e13 => ⟨hvp, fun t14 e14 => ⟨hvp, fun t15 e15 => ?_⟩⟩⟩
  have ne : ∀ c c', c < 199 → c' < 199 → c ≠ c' → ad c ≠ ad c' := fun c c' h1 h2 h3 => hL.ne c c' h1 h2 h3
  have q11 : t14.2.1 (ad 3) 11 = nI (fdsz FS) := by rw [e14, g_rd_ne (ne 3 (p + 6) (by decide) (by omega) (by omega)), e13, g_rd_ne (ne 3 (p + 2) (by decide) (by omega) (by omega))]; exact cr11.2.2.2.2.2.1
  rw [q11] at e15
  have F15 : gFr ad (fun c k => (Nat.ble (p + 2) c && Nat.ble c (p + 6)) && Nat.beq k FS.length) u11 t15 := by rw [e15, e14, e13]; exact (((gFr.rf F11.L).si (by simp) (by omega)).si (by simp) (by omega)).si (by simp) (by omega)
  have hF15 : ∀ c k, ¬ (p + 2 ≤ c ∧ c ≤ p + 6 ∧ k = FS.length) → ((Nat.ble (p + 2) c && Nat.ble c (p + 6)) && Nat.beq k FS.length) = false := fun c k z => Bool.eq_false_iff.mpr (fun q => z (by
    simp only [Bool.and_eq_true, Nat.beq_eq, Nat.ble_eq] at q
    omega))
  have cr15 : CR ad T n p ps.length (fdsz FS) 0 0 ps cl.length 0 t15 := cr11.fr F15 (fun c k z => hF15 _ _ (by omega))
  have G15 : gFr ad (hdP p FS.length) t t15 := G11.tr (F15.mo (fun c k z => by
    simp only [Bool.and_eq_true, Nat.beq_eq, Nat.ble_eq] at z
    rw [hdP_i]
    omega))
  have cu15 := cu11.fr F15 (fun k => hF15 _ _ (by omega))
  have f2 : t15.2.1 (ad (p + 2)) FS.length = nI ps.length := by rw [e15, g_rd_ne (ne (p + 2) (p + 4) (by omega) (by omega) (by omega)), e14, g_rd_ne (ne (p + 2) (p + 6) (by omega) (by omega) (by omega)), e13, g_rd_at]; rfl
  have f6 : t15.2.1 (ad (p + 6)) FS.length = 0 := by rw [e15, g_rd_ne (ne (p + 6) (p + 4) (by omega) (by omega) (by omega)), e14, g_rd_at]
  have f4 : t15.2.1 (ad (p + 4)) FS.length = nI (fdsz FS) := by rw [e15, g_rd_at]
  have f1 : t15.2.2.1 (ad (p + 1)) FS.length = pk8 (tkN T n (tkE T n a)) := by
    rw [F15.j (p + 1) _ (hF15 _ _ (by omega)) (by omega), F11.j (p + 1) _ (bool_r tcP_i (by omega)) (by omega)]
    rw [F9.j (p + 1) _ (bool_r haaP_i (by omega)) (by omega)]
    exact n7
  have f15 : t15.2.1 (ad p) 15 = nI (FS.length + 1) := by
    rw [F15.i p 15 (hF15 _ _ (by omega)) (by omega), F11.i p 15 (bool_r tcP_i (by omega)) (by omega), F9.i p 15 (bool_r haaP_i (by omega)) (by omega)]
    exact c15
  -- behind a fault
  have d130 : ∀ (w : gSt) (c q : Nat), gFr ad (rdP p) t w → w.2.2.2 (ad 3) 7 = some (ad p) → ddC ad c q w → RfF cx dm ad T n a FS cl ac c q → g_W cx (g_E cx (d + 7 * 30 + 30)) mt_Reader_readDefinition post (130, [some (.ref (ad 3)), some (.int (nI FS.length))], [], w, 0, 0) := fun w c q Fw h37 hd hr => by
    refine x_Reader_readDefinition_130 hp.P Fw.L (m_needD Fw.L hd.ne (by decide) ⟨_, rfl, Fw.L, h37, hvp, hvp, fun t3 e3 => ⟨hvp, fun t4 e4 => ?_⟩⟩)
    have F4 : gFr ad (fun c _ => Nat.ble (p + 3) c && Nat.ble c (p + 5)) w t4 := by rw [e4, e3]; exact ((gFr.rf Fw.L).si (by simp) (by omega)).si (by simp) (by omega)
    have hF4 : ∀ c k : Nat, ¬ (p + 3 ≤ c ∧ c ≤ p + 5) → (Nat.ble (p + 3) c && Nat.ble c (p + 5)) = false := fun c k z => Bool.eq_false_iff.mpr (fun q => z (by simpa using q))
    exact kd c q t4 (Fw.tr (F4.mo (fun c k z => by
      simp only [Bool.and_eq_true, Nat.ble_eq] at z
      rw [rdP_i]
      omega))) (hd.fr F4 (fun k => hF4 4 k (by omega))) hr
  have hx : 48 + FS.length < 72 := by omega
  have hpsb : ∀ q ∈ ps, nm_ok q.1 ∧ q.2 < 50 := fun q hq => ⟨hps.1 q hq, by
    have h2 : q.2 ∈ ps.map (fun q => q.2) := List.mem_map.mpr ⟨q, hq, rfl⟩
    rw [hps.2.1] at h2
    have := List.mem_range.mp h2
    omega⟩
  have hVK : VK .leaf [] (tkE T n (tkE T n b)) 0 cl.length := ⟨⟨Nat.zero_le _, Nat.zero_le _⟩, fun q hq => (by cases hq), Nat.zero_le _⟩
  have a5 : a + 3 ≤ tkE T n (tkE T n b) := by omega
  refine (sp_all (Pm := ps.length) (st := fdsz FS) (c0 := cl.length) (x := 48 + FS.length) (dm := dm) hcs hp hT hx 30 0 rfl d).1 (tkE T n (tkE T n b)) 0 0 ps cl ac t15 _ F15.L cr15 cu15 ⟨⟨hE4l, by omega, by omega, by omega, hp6, by omega, by omega, Nat.le_refl _⟩, hpsb, g4.mo (by omega)⟩ (fun a' l' cl' ac' F u16 hF hLV hRc => ⟨rfl, hLV.1.L, ?_⟩) (fun c q u16 Fu hd hRf => ⟨rfl, Fu.L, m_isAtD Fu.L hd.ne (by decide) ⟨_, rfl, Fu.L, fun _ => ?_, fun z => absurd rfl z⟩⟩)
  rotate_left
  · refine d130 u16 c q ((G15.mo (fun c k z => rd_hd z)).tr (Fu.mo (fun c k z => rd_cr z))) (by rw [Fu.r 3 7 (bool_r crxP_i (by omega))]; exact cr15.2.1) hd (fun t0 post t h k => rH t0 post t h (fun u o3 hu => ?_))
    exact x_Mo_readFunction_120 hu.1.L ⟨fun _ => e_go hT hu hb hs h24 hp6 hpc (fun z => absurd k11 z) (fun _ z => absurd k14 z) (fun _ _ => Or.inl ⟨c, q, hRf .leaf [] hVK, k⟩), fun z => absurd rfl z⟩
  have hRc0 : RcT cx dm ad T n (48 + FS.length) ps.length cl.length (tkE T n (tkE T n b), 0, 0, ps, cl, ac, .leaf, [(1, 0, [])]) (a', l', 0, ps, cl', ac', F, []) := hRc .leaf [] hVK
  have ha' := hLV.2.2.2.2.1
  have gF := hLV.2.1
  have gF1 := gF.1
  have gle := gF.le
  have hFn : fo_n F < 2 ^ 20 := by omega
  have G16 : gFr ad (rdP p) t u16 := (G15.mo (fun c k z => rd_hd z)).tr (hLV.1.mo (fun c k z => rd_cr z))
  have rdot : tkK T n a' ≠ 22 → RfF cx dm ad T n a FS cl ac (fcd T n a') (tkS T n a') := fun k22 t0 post t h k => rH t0 post t h (fun u o3 hu => x_Mo_readFunction_120 hu.1.L ⟨fun _ => e_go hT hu hb hs h24 hp6 hpc (fun z => absurd k11 z) (fun _ z => absurd k14 z) (fun _ _ => Or.inr ⟨a', l', cl', ac', F, hRc0, ha', gF.2.1.2, hFn, fun _ v hv => k v hv, fun z => absurd z k22, fun z => absurd z k22⟩), fun z => absurd rfl z⟩)
  have cr16 := hLV.2.2.1
  rw [Nat.zero_add] at cr16
  refine m_isAtC (kk := 22) (by decide) rfl hcs hLV.1.L cr16.1 ha' hLV.2.2.2.1 (fun u18 F18 h18 => ⟨_, rfl, F18.L, fun z => ?_, fun z => ?_⟩) (fun h23 u18 F18 h18 => ⟨_, rfl, F18.L, fun _ => ?_, fun z => absurd rfl z⟩)
  · have k22 : ¬ tkK T n a' = 22 := b32_d.mp z
    have cr18 := cr16.tc F18
    refine x_Reader_readDefinition_130 hp.P F18.L (m_needC (kk := 22) (by decide) rfl hcs F18.L cr18.1 ha' h18.cu (fun y => absurd y k22) (fun _ w Fw hd => ⟨_, rfl, Fw.L, (cr18.tc Fw).2.1, hvp, hvp, fun t3 e3 => ⟨hvp, fun t4 e4 => ?_⟩⟩))
    have F4 : gFr ad (fun c _ => Nat.ble (p + 3) c && Nat.ble c (p + 5)) w t4 := by rw [e4, e3]; exact ((gFr.rf Fw.L).si (by simp) (by omega)).si (by simp) (by omega)
    have hF4 : ∀ c k : Nat, ¬ (p + 3 ≤ c ∧ c ≤ p + 5) → (Nat.ble (p + 3) c && Nat.ble c (p + 5)) = false := fun c k z => Bool.eq_false_iff.mpr (fun q => z (by simpa using q))
    exact kd _ _ t4 (((G16.tr ((F18.tr Fw).mo (fun c k z => rd_hd (e := 0) (hd_tc z))))).tr (F4.mo (fun c k z => by
      simp only [Bool.and_eq_true, Nat.ble_eq] at z
      rw [rdP_i]
      omega))) (hd.fr F4 (fun k => hF4 4 k (by omega))) (rdot k22)
  rotate_left
  · have := rdot (by omega)
    rw [show fcd T n a' = 1 from if_pos h23] at this
    exact d130 u18 1 _ (G16.tr (F18.mo (fun c k z => rd_hd (e := 0) (hd_tc z)))) (by rw [F18.r 3 7 rfl]; exact cr16.2.1) h18 this
  have k22 : tkK T n a' = 22 := Classical.byContradiction (fun y => z (b32_f y))
  have cr18 := cr16.tc F18
  rw [cr18.2.2.2.2.2.2.1, show (400 : Int32) = nI 400 from rfl, nI_leI (by omega) (by decide)]
  refine ⟨fun h400 => ?_, fun h400 => m_failHere (c := 5) (by decide) F18.L h18 (fun w Fw hd => ⟨rfl, Fw.L, d130 w 5 _ (G16.tr ((F18.tr Fw).mo (fun c k z => rd_hd (e := 0) (hd_tc z)))) (by rw [Fw.r 3 7 rfl]; exact cr18.2.1) hd (fun t0 post t h k => rH t0 post t h (fun u o3 hu => x_Mo_readFunction_120 hu.1.L ⟨fun _ => e_go hT hu hb hs h24 hp6 hpc (fun z => absurd k11 z) (fun _ z => absurd k14 z) (fun _ _ => Or.inr ⟨a', l', cl', ac', F, hRc0, ha', gF.2.1.2, hFn, fun z => absurd k22 z, fun _ _ v hv => k v hv, fun _ z => absurd z (by omega)⟩), fun z => absurd rfl z⟩))⟩)⟩
  -- the function stands
  have hEa := tkE_gt hT ha' (by omega)
  have hEal := tkE_le hT ha'
  have hnmo := tkN_ok hT hE1l k2
  refine x_Reader_readDefinition_130 hp.P F18.L (m_needC (kk := 22) (by decide) rfl hcs F18.L cr18.1 ha' h18.cu (fun _ w Fw cw _ => ⟨_, rfl, Fw.L, (cr18.tc Fw).2.1, hvp, hvp, fun t3 e3 => ⟨hvp, fun t4 e4 => ?_⟩⟩) (fun y => absurd k22 y))
  have F16w : gFr ad tcP u16 w := F18.tr Fw
  have crw := cr16.tc F16w
  rw [nI_clamp (by omega)] at e3 e4
  have w4 : w.2.1 (ad (p + 4)) FS.length = nI (fdsz FS) := by rw [F16w.i (p + 4) _ (bool_r tcP_i (by omega)) (by omega), hLV.1.i (p + 4) _ (bool_r crxP_i (by omega)) (by omega)]; exact f4
  rw [crw.2.2.2.2.2.1, w4, nI_sub (by omega), show fdsz FS + min (fo_n F) 400 - fdsz FS = fo_n F by omega] at e3
  have w13 : t3.2.1 (ad 3) 13 = nI (ps.length + l') := by rw [e3, g_rd_ne (ne 3 (p + 5) (by decide) (by omega) (by omega))]; exact crw.2.2.2.2.2.2.2.1
  rw [w13] at e4
  have F4 : gFr ad (fun c k => (Nat.ble (p + 3) c && Nat.ble c (p + 5)) && Nat.beq k FS.length) w t4 := by rw [e4, e3]; exact ((gFr.rf Fw.L).si (by simp) (by omega)).si (by simp) (by omega)
  have hF4 : ∀ c k : Nat, ¬ (p + 3 ≤ c ∧ c ≤ p + 5 ∧ k = FS.length) → ((Nat.ble (p + 3) c && Nat.ble c (p + 5)) && Nat.beq k FS.length) = false := fun c k z => Bool.eq_false_iff.mpr (fun q => z (by
    simp only [Bool.and_eq_true, Nat.beq_eq, Nat.ble_eq] at q
    omega))
  have cr4 := crw.fr F4 (fun c k z => hF4 _ _ (by omega))
  have bt15 : ∀ U, bel ad p U t t15 := fun U => bel.fr (by omega) G15 (fun c k z => bool_r hdP_i (by omega))
  have b16w : ∀ U, bel ad p U u16 t4 := fun U => ((bt hp F16w) U).tr (bel.fr (by omega) F4 (fun c k z => hF4 _ _ (by omega)))
  have bc15 : ∀ c, belC ad c t t15 := fun c => belC.fr G15 (fun c k z => bool_r hdP_i (by omega))
  have bc16 : ∀ c, belC ad c u16 t4 := fun c => (bc F16w c).tr (belC.fr F4 (fun c k z => hF4 _ _ (by omega)))
  have hb16 := hLV.2.2.2.2.2.1
  rw [show fdsz FS + min 0 400 = fdsz FS by omega] at hb16
  refine kl (tkE T n a') (FS ++ [(tkN T n (tkE T n a), ps.length, ps.length + l', F)]) cl' ac' t4 ((G16.tr (F16w.mo (fun c k z => rd_hd (e := 0) (hd_tc z)))).tr (F4.mo (fun c k z => ?_))) ⟨cr4.1, cw.fr F4 (fun k => hF4 _ _ (by omega)), cr4.2.1, ?_, cr4.2.2.1, ?_, fun i q hi hq => ?_, fun f q hq => ?_⟩ (hO.ap h24 hnmo hno hps hF h400 gF a5 hEa) (by omega) hEal (fun t0 post t h k => rH t0 post t h (fun u o3 hu => x_Mo_readFunction_120 hu.1.L ⟨fun _ => e_go hT hu hb hs h24 hp6 hpc (fun z => absurd k11 z) (fun _ z => absurd k14 z) (fun _ _ => Or.inr ⟨a', l', cl', ac', F, hRc0, ha', gF.2.1.2, hFn, fun z => absurd k22 z, fun _ z => absurd z (by omega), fun _ _ v hv => k v hv⟩), fun z => absurd rfl z⟩))
  · simp only [Bool.and_eq_true, Nat.beq_eq, Nat.ble_eq] at z
    rw [rdP_i]
    omega
  · rw [F4.i p 15 (hF4 _ _ (by omega)) (by omega), F16w.i p 15 (bool_r tcP_i (by omega)) (by omega), hLV.1.i p 15 (bool_r crxP_i (by omega)) (by omega), f15, List.length_append]
    rfl
  · rw [cr4.2.2.2.2.2.1, fdsz_ap, show min (fo_n F) 400 = fo_n F by omega]
  · by_cases hic : i < cl.length
    · have x1 := bc15 (i + 1) i (by omega)
      have x2 := hLV.2.2.2.2.2.2.2.1 i hic
      have x3 := bc16 (i + 1) i (by omega)
      have hq0 := cl_pre gF hic hq
      rw [x3.1, x3.2.1, x3.2.2, x2.1, x2.2.1, x2.2.2, x1.1, x1.2.1, x1.2.2, gF.2.2.2.2.1 i hic (by omega)]
      exact h7 i q hi hq0
    · have x3 := bc16 (i + 1) i (by omega)
      rw [x3.1, x3.2.1, x3.2.2]
      exact hLV.2.2.2.2.2.2.2.2 i q (by omega) hq
  · by_cases hf : f < FS.length
    · rw [List.getElem?_append_left hf] at hq
      rw [take_ap (by omega)]
      have hle := fdsz_le (f := f) FS f q hq
      have g0 := (h8 f q hq).fr hp G15 (fun c k z => bool_r hdP_i (by omega)) (bt15 _)
      have g1 := g0.fr hp hLV.1 (fun c k z => bool_r crxP_i (by omega)) (hb16.mo hle)
      exact g1.fr hp ((F16w.mo (fun c k z => by
        show (tcP c k || ((Nat.ble (p + 3) c && Nat.ble c (p + 5)) && Nat.beq k FS.length)) = true
        rw [z]; rfl)).tr (F4.mo (fun c k z => by rw [z, Bool.or_true]))) (fun c k z => by
        rw [bool_r tcP_i (by omega), hF4 c k (by omega)]; rfl) (b16w _)
    · rw [List.getElem?_append_right (by omega)] at hq
      have hi0 : f - FS.length = 0 := by
        by_cases y : f - FS.length = 0
        · exact y
        · rw [List.getElem?_eq_none (by simp; omega)] at hq; cases hq
      rw [hi0] at hq
      have hq : (tkN T n (tkE T n a), ps.length, ps.length + l', F) = q := by simpa using hq
      have hf1 : f = FS.length := by omega
      rw [← hq, hf1, take_ap (Nat.le_refl _), List.take_length]
      have wi : ∀ c k, c < 199 → ¬ (c = 4) → ¬ (p + 3 ≤ c ∧ c ≤ p + 5 ∧ k = FS.length) → t4.2.1 (ad c) k = u16.2.1 (ad c) k := fun c k hc hn hn2 => by rw [F4.i c k (hF4 _ _ (by omega)) hc, F16w.i c k (bool_r tcP_i (by omega)) hc]
      refine ⟨?_, ?_, ?_, ?_, ?_, ?_, ?_⟩
      · rw [F4.j (p + 1) _ (hF4 _ _ (by omega)) (by omega), F16w.j (p + 1) _ (bool_r tcP_i (by omega)) (by omega), hLV.1.j (p + 1) _ (bool_r crxP_i (by omega)) (by omega)]; exact f1
      · rw [wi (p + 2) _ (by omega) (by omega) (by omega), hLV.1.i (p + 2) _ (bool_r crxP_i (by omega)) (by omega)]; exact f2
      · rw [e4, g_rd_at]
      · rw [wi (p + 6) _ (by omega) (by omega) (by omega), hLV.1.i (p + 6) _ (bool_r crxP_i (by omega)) (by omega)]; exact f6
      · rw [e4, g_rd_ne (ne (p + 4) (p + 3) (by omega) (by omega) (by omega)), e3, g_rd_ne (ne (p + 4) (p + 5) (by omega) (by omega) (by omega))]; exact w4
      · rw [e4, g_rd_ne (ne (p + 5) (p + 3) (by omega) (by omega) (by omega)), e3, g_rd_at]
      · have := (hLV.2.2.2.2.2.2.1 (by omega)).be (b16w _) (Nat.le_refl _)
        rw [Nat.add_zero] at this
        exact this
end CO
