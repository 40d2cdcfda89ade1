/-! THE CLASS READS FUNCTIONS: heads -/
def fdsz (FS : List FD) : Nat := (FS.map (fun q => fo_n q.2.2.2)).sum
theorem fdsz_ap (FS : List FD) (q : FD) : fdsz (FS ++ [q]) = fdsz FS + fo_n q.2.2.2 := by
  unfold fdsz
  rw [List.map_append, List.sum_append]
  simp
/-- from one state the model comes to another one, function by function -/
def RcF (cx : gCx) (d : Nat) (ad : Nat → Nat) (T : Nat → Nat) (n a : Nat) (FS : List FD) (cl : CL) (ac : Nat → Nat) (a' : Nat) (FS' : List FD) (cl' : CL) (ac' : Nat → Nat) : Prop := ∀ (t0 : gSt) (post : Option Value → gSt → Prop) (t : gSt), MFR ad T n t0 a FS cl ac t → (∀ u, MFR ad T n t0 a' FS' cl' ac' u → HdR cx d ad post u) → HdR cx d ad post t
def RfF (cx : gCx) (d : Nat) (ad : Nat → Nat) (T : Nat → Nat) (n a : Nat) (FS : List FD) (cl : CL) (ac : Nat → Nat) (c q : Nat) : Prop := ∀ (t0 : gSt) (post : Option Value → gSt → Prop) (t : gSt), MFR ad T n t0 a FS cl ac t → (∀ u, DF ad t0 c q u → HdR cx d ad post u) → HdR cx d ad post t
/-- to a place in a function's head -/
def RcH (cx : gCx) (d : Nat) (ad : Nat → Nat) (T : Nat → Nat) (n a : Nat) (FS : List FD) (cl : CL) (ac : Nat → Nat) (b : Nat) (nm : List Nat) (ps : SC) (m : Int32) : Prop := ∀ (t0 : gSt) (post : Option Value → gSt → Prop) (t : gSt), MFR ad T n t0 a FS cl ac t → (∀ u o3, MHR ad T n t0 b FS cl ac nm ps u → WF cx d ad post 120 [some (.int (nI ps.length)), some (.int m), o3] [] u) → HdR cx d ad post t
def hdP (p e c k : Nat) : Bool := (Nat.beq c 3 && (Nat.ble 8 k && Nat.ble k 14)) || (Nat.beq c 4 && Nat.ble 2 k) || Nat.beq c 9 || Nat.beq c 10 || (Nat.beq c p && Nat.beq k 15) || (Nat.ble (p + 1) c && Nat.ble c (p + 6) && Nat.beq k e)
theorem hdP_i {p e c k : Nat} : hdP p e c k = true ↔ (c = 3 ∧ 8 ≤ k ∧ k ≤ 14) ∨ (c = 4 ∧ 2 ≤ k) ∨ c = 9 ∨ c = 10 ∨ (c = p ∧ k = 15) ∨ (p + 1 ≤ c ∧ c ≤ p + 6 ∧ k = e) := by
  unfold hdP
  simp only [Bool.or_eq_true, Bool.and_eq_true, Nat.beq_eq, Nat.ble_eq]
  omega
def haaP (c k : Nat) : Bool := (Nat.beq c 3 && (Nat.ble 8 k && Nat.ble k 14)) || (Nat.beq c 4 && Nat.ble 2 k) || Nat.beq c 9 || Nat.beq c 10
theorem haaP_i {c k : Nat} : haaP c k = true ↔ (c = 3 ∧ 8 ≤ k ∧ k ≤ 14) ∨ (c = 4 ∧ 2 ≤ k) ∨ c = 9 ∨ c = 10 := by
  unfold haaP
  simp only [Bool.or_eq_true, Bool.and_eq_true, Nat.beq_eq, Nat.ble_eq]
  omega
theorem ha_tc {c k : Nat} (h : tcP c k = true) : haaP c k = true := by
  rw [tcP_i] at h
  rw [haaP_i]
  omega
theorem ha_se {c k : Nat} (h : seP c k = true) : haaP c k = true := by
  rw [seP_i] at h
  rw [haaP_i]
  omega
theorem hd_ha {p e c k : Nat} (h : haaP c k = true) : hdP p e c k = true := by
  rw [haaP_i] at h
  rw [hdP_i]
  omega
section CN
variable {cx : gCx} {d dm : Nat} {ad : Nat → Nat} {T : Nat → Nat} {n p a st cn : Nat} {FS : List FD} {cl : CL} {ac : Nat → Nat} {t u : gSt} {post : Option Value → gSt → Prop} {nm : List Nat} {ps : SC}
theorem hd_tc {e c k : Nat} (h : tcP c k = true) : hdP p e c k = true := by
  rw [tcP_i] at h
  rw [hdP_i]
  omega
theorem hd_se {e c k : Nat} (h : seP c k = true) : hdP p e c k = true := by
  rw [seP_i] at h
  rw [hdP_i]
  omega
theorem fnd_none : ∀ (k i : Nat) (J : Nat → Int64) (w : Int64), i + k < 2 ^ 31 → (g_fnd J w i k = -1 ↔ ∀ j, i ≤ j → j < i + k → J j ≠ w)
  | 0, i, J, w, _ => ⟨fun _ j h1 h2 => by omega, fun _ => rfl⟩
  | k + 1, i, J, w, hk => by
    unfold g_fnd
    split
    · rename_i e
      refine ⟨fun z => ?_, fun z => absurd e (z i (Nat.le_refl _) (by omega))⟩
      have : (-1 : Int32) < 0 := by decide
      rw [← z] at this
      exact absurd this (nI_pos (by omega))
    · rename_i e
      rw [fnd_none k (i + 1) J w (by omega)]
      refine ⟨fun z j h1 h2 => ?_, fun z j h1 h2 => z j (by omega) (by omega)⟩
      by_cases y : j = i
      · rw [y]; exact e
      · exact z j (by omega) (by omega)
theorem m_findP {w : Int64} {e : Nat} (hp : isQ p) (hL : Lay t ad) (hn : t.2.1 (ad p) 15 = nI e) (he : e ≤ 24) (h : post (some (.int (g_fnd (t.2.2.1 (ad (p + 1))) w 0 e))) t) : g_E cx (d + 1) i_Program_find [.ref (ad p), .long w] t post :=
  m_find (nm := ad (p + 1)) (hL.pk hp.P 0 (by decide)) hn he (hL.pr hp.P 2 (by decide)) (hL.pk hp.P 1 (by decide)) (hL.pl hp.P 1 (by decide) (by decide)) h
/-- the function's name -/
theorem m_fname (hcs : g_CS cx) (hp : isQ p) (hT : txt T n) (hL : Lay t ad) (hR : CR ad T n p 0 st 0 0 [] cn 0 t) (hC : cuC ad T n a t) (ha : a ≤ n) (k0 : tkK T n a ≠ 0) (hs : ∀ q ∈ FS, fdS q) (hok : ∀ q ∈ FS, nm_ok q.1) (hl : FS.length ≤ 24) (hcnt : t.2.1 (ad p) 15 = nI FS.length) (hnm : ∀ f q, FS[f]? = some q → t.2.2.1 (ad (p + 1)) f = pk8 q.1)
    (kl : tkK T n a = 3 → tkK T n (tkE T n a) = 2 → (∀ q ∈ FS, q.1 ≠ tkN T n (tkE T n a)) → FS.length < 24 → ∀ u, gFr ad (hdP p FS.length) t u → CR ad T n p 0 st 0 0 [] cn 0 u → cuC ad T n (tkE T n (tkE T n a)) u → u.2.1 (ad p) 15 = nI (FS.length + 1) → u.2.2.1 (ad (p + 1)) FS.length = pk8 (tkN T n (tkE T n a)) → post (some (.int 1)) u)
    (kd : ∀ c q u, gFr ad (hdP p FS.length) t u → ddC ad c q u → RfF cx dm ad T n a FS cl ac c q → post (some (.int 0)) u) : g_E cx (d + 8) i_Reader_readFunctionName [.ref (ad 3)] t post := by
  have hpg := hp.ge
  have hE1 := tkE_le hT ha
  refine x_Reader_readFunctionName hp.P hL (m_needC (kk := 3) (by decide) rfl hcs hL hR.1 ha hC (fun k3 u1 F1 c1 _ => ⟨_, rfl, F1.L, fun _ => ?_, fun z => absurd (show ¬ (1 : Int32) = 0 by decide) z⟩) (fun k3 u1 F1 h1 => ⟨_, rfl, F1.L, fun z => absurd rfl z, fun _ => kd _ _ u1 (F1.mo (fun c k z => hd_tc z)) h1 (fun t0 post t h k => f_go hT h ha hs hok hl k0 (fun _ u hu => k u hu) (fun z => absurd z k3) (fun z => absurd z k3) (fun z => absurd z k3) (fun z => absurd z k3) (fun z => absurd z k3) (fun z => absurd z k3))⟩))
  have cr1 := hR.tc F1
  have d73 : ∀ (w : gSt) (c q : Nat), gFr ad tcP t w → ddC ad c q w → RfF cx dm ad T n a FS cl ac c q → g_W cx (g_E cx (d + 7)) mt_Reader_readFunctionName post (73, [some (.ref (ad 3))], [], w, 0, 0) := fun w c q Fw hd hr => x_Reader_readFunctionName_73 hp.P Fw.L (m_needD Fw.L hd.ne (by decide) ⟨_, rfl, Fw.L, by rw [Fw.r 3 7 rfl]; exact hR.2.1, fun z => absurd rfl z, fun _ => kd c q w (Fw.mo (fun c k z => hd_tc z)) hd hr⟩)
  have rB : tkK T n (tkE T n a) ≠ 2 → RfF cx dm ad T n a FS cl ac (fcd T n (tkE T n a)) (tkS T n (tkE T n a)) := fun k2 t0 post t h k => f_go hT h ha hs hok hl k0 (fun z => absurd k3 z) (fun _ _ u hu => k u hu) (fun _ z => absurd z k2) (fun _ z => absurd z k2) (fun _ z => absurd z k2) (fun _ z => absurd z k2) (fun _ z => absurd z k2)
  refine m_isAtC (kk := 2) (by decide) rfl hcs F1.L cr1.1 hE1 c1 (fun u3 F3 h3 => ⟨_, rfl, F3.L, by rw [F3.r 3 7 rfl]; exact cr1.2.1, fun z => ?_, fun z => ?_⟩) (fun h23 u3 F3 h3 => ⟨_, rfl, F3.L, by rw [F3.r 3 7 rfl]; exact cr1.2.1, fun _ => ?_, fun z => absurd rfl z⟩)
  · have k2 : ¬ tkK T n (tkE T n a) = 2 := b32_d.mp z
    exact x_Reader_readFunctionName_73 hp.P F3.L (m_needC (kk := 2) (by decide) rfl hcs F3.L (cr1.tc F3).1 hE1 h3.cu (fun y => absurd y k2) (fun _ w Fw hd => ⟨_, rfl, Fw.L, by rw [Fw.r 3 7 rfl]; exact (cr1.tc F3).2.1, fun z => absurd rfl z, fun _ => kd _ _ w (((F1.tr F3).tr Fw).mo (fun c k z => hd_tc z)) hd (rB k2)⟩))
  rotate_left
  · have := rB (by omega)
    rw [show fcd T n (tkE T n a) = 1 from if_pos h23] at this
    exact d73 u3 1 _ (F1.tr F3) h3 this
  have k2 : tkK T n (tkE T n a) = 2 := Classical.byContradiction (fun y => z (b32_f y))
  have hnmo := tkN_ok hT hE1 k2
  have F13 := F1.tr F3
  have cr3 := cr1.tc F3
  have c15 : u3.2.1 (ad p) 15 = nI FS.length := by rw [F13.i p 15 (bool_r tcP_i (by omega)) (by omega)]; exact hcnt
  have nm3 : ∀ f q, FS[f]? = some q → u3.2.2.1 (ad (p + 1)) f = pk8 q.1 := fun f q hq => by rw [F13.j (p + 1) f (bool_r tcP_i (by omega)) (by omega)]; exact hnm f q hq
  rw [h3.2.2.2.2.2.2.2 k2]
  have hfn := fnd_none FS.length 0 (u3.2.2.1 (ad (p + 1))) (pk8 (tkN T n (tkE T n a))) (by omega)
  have hfn2 : g_fnd (u3.2.2.1 (ad (p + 1))) (pk8 (tkN T n (tkE T n a))) 0 FS.length = -1 ↔ ∀ q ∈ FS, q.1 ≠ tkN T n (tkE T n a) := by
    rw [hfn]
    refine ⟨fun z q hq e => ?_, fun z j _ hj e => ?_⟩
    · obtain ⟨j, hj⟩ := List.getElem?_of_mem hq
      have hjl := (List.getElem?_eq_some_iff.mp hj).1
      exact z j (by omega) (by omega) (by rw [nm3 j q hj, e])
    · obtain ⟨q, hq⟩ : ∃ q, FS[j]? = some q := ⟨_, List.getElem?_eq_getElem (by omega)⟩
      rw [nm3 j q hq, pk8_inj (hok q (List.mem_of_getElem? hq)) hnmo] at e
      exact z q (List.mem_of_getElem? hq) e
  refine m_findP hp F3.L c15 hl ⟨_, rfl, F3.L, cr3.2.1, fun z => ?_, fun z => ?_⟩
  rotate_left
  · have hex : ∃ q ∈ FS, q.1 = tkN T n (tkE T n a) := Classical.byContradiction (fun y => z (hfn2.mpr (fun q hq e => y ⟨q, hq, e⟩)))
    refine m_failHere (c := 3) (by decide) F3.L h3 (fun w Fw hd => ⟨rfl, Fw.L, d73 w 3 _ (F13.tr Fw) hd (fun t0 post t h k => ?_)⟩)
    obtain ⟨q, hq, e⟩ := hex
    exact f_go hT h ha hs hok hl k0 (fun z => absurd k3 z) (fun _ z => absurd k2 z) (fun _ _ _ u hu => k u hu) (fun _ _ z => absurd e (z q hq)) (fun _ _ z => absurd e (z q hq)) (fun _ _ z => absurd e (z q hq)) (fun _ _ z => absurd e (z q hq))
  have hno := hfn2.mp z
  have nex : ¬ ∃ q ∈ FS, q.1 = tkN T n (tkE T n a) := fun ⟨q, hq, e⟩ => hno q hq e
  rw [c15, show (24 : Int32) = nI 24 from rfl, nI_ltI (by omega) (by decide)]
  refine ⟨fun h24 => ?_, fun h24 => m_failHere (c := 5) (by decide) F3.L h3 (fun w Fw hd => ⟨rfl, Fw.L, d73 w 5 _ (F13.tr Fw) hd (fun t0 post t h k => f_go hT h ha hs hok hl k0 (fun z => absurd k3 z) (fun _ z => absurd k2 z) (fun _ _ z => absurd z nex) (fun _ _ _ _ u hu => k u hu) (fun _ _ _ z => absurd z h24) (fun _ _ _ z => absurd z h24) (fun _ _ _ z => absurd z h24))⟩)⟩
  refine x_Reader_readFunctionName_73 hp.P F3.L (m_needC (kk := 2) (by decide) rfl hcs F3.L cr3.1 hE1 h3.cu (fun _ w Fw cw jw => ⟨_, rfl, Fw.L, (cr3.tc Fw).2.1, fun _ => ?_, fun z => absurd (show ¬ (1 : Int32) = 0 by decide) z⟩) (fun y => absurd k2 y))
  have w15 : w.2.1 (ad p) 15 = nI FS.length := by rw [Fw.i p 15 (bool_r tcP_i (by omega)) (by omega)]; exact c15
  rw [w15, nI_clamp (by omega), jw k2]
  refine ⟨vp_in_nI (by omega) (by omega), fun t3 e3 t4 e4 => ?_⟩
  have q15 : t3.2.1 (ad p) 15 = nI FS.length := by rw [e3, g_sj_i]; exact w15
  rw [q15, nI_1] at e4
  have F4 : gFr ad (hdP p FS.length) w t4 := by rw [e4, e3]; exact ((gFr.rf Fw.L).sj (hdP_i.mpr (by omega)) (by omega)).si (hdP_i.mpr (by omega)) (by omega)
  have F4' : gFr ad (fun c k => Nat.beq c p || Nat.beq c (p + 1)) w t4 := by rw [e4, e3]; exact ((gFr.rf Fw.L).sj (by simp) (by omega)).si (by simp) (by omega)
  have hF4 : ∀ c k : Nat, ¬ (c = p ∨ c = p + 1) → (Nat.beq c p || Nat.beq c (p + 1)) = false := fun c k z => Bool.eq_false_iff.mpr (fun q => z (by simpa using q))
  refine kl k3 k2 hno h24 t4 (((F13.tr Fw).mo (fun c k z => hd_tc z)).tr F4) ((cr3.tc Fw).fr F4' (fun c k z => hF4 c k (by omega))) (cw.fr F4' (fun k => hF4 4 k (by omega))) (by rw [e4, g_rd_at]) ?_
  rw [e4, g_si_j, e3, g_rdj, if_pos ⟨rfl, rfl⟩]
theorem scl_none {nm : List Nat} : ∀ i, i ≤ ps.length → (scl ps nm i = none ↔ ∀ j q, j < i → ps[j]? = some q → q.1 ≠ nm)
  | 0, _ => ⟨fun _ j q hj => by omega, fun _ => rfl⟩
  | i + 1, hi => by
    unfold scl
    have hg := sc_get (sc := ps) (i := i) (by omega)
    split
    · rename_i e
      exact ⟨fun z => (by cases z), fun z => absurd e (z i _ (by omega) hg)⟩
    · rename_i e
      rw [scl_none i (by omega)]
      refine ⟨fun z j q hj hq => ?_, fun z j q hj hq => z j q (by omega) hq⟩
      by_cases y : j = i
      · subst y
        rw [hg] at hq
        rw [← Option.some.inj hq]
        exact e
      · exact z j q (by omega) hq
theorem scl_none' {nm : List Nat} : scl ps nm ps.length = none ↔ ∀ q ∈ ps, q.1 ≠ nm := by
  rw [scl_none ps.length (Nat.le_refl _)]
  refine ⟨fun z q hq => ?_, fun z j q _ hq => z q (List.mem_of_getElem? hq)⟩
  obtain ⟨j, hj⟩ := List.getElem?_of_mem hq
  exact z j q (List.getElem?_eq_some_iff.mp hj).1 hj
theorem CR.pm {Pm l o N : Nat} {sc : SC} (h : CR ad T n p Pm st 0 o sc cn N t) (hL : Lay t ad) (e : u = g_si t (ad 3) 13 (nI (Pm + 1))) : CR ad T n p (Pm + 1) st 0 o sc cn N u ∧ gFr ad (c3P 13) t u := by
  have F : gFr ad (c3P 13) t u := by rw [e]; exact (gFr.rf hL).si rfl
  obtain ⟨h1, h2, h3, ⟨h4, h5⟩, h6, h7, h8, h9, h10⟩ := h
  refine ⟨⟨h1.fr F rfl rfl (fun k => rfl), ?_, ?_, ⟨?_, fun i q hq => ?_⟩, ?_, ?_, ?_, by rw [e, g_rd_at], ?_⟩, F⟩
  · rw [F.r 3 7 rfl]; exact h2
  · rw [F.i 3 8 rfl]; exact h3
  · rw [F.i 3 9 rfl]; exact h4
  · rw [F.j 9 i rfl, F.i 10 i rfl]; exact h5 i q hq
  · rw [F.i 3 10 rfl]; exact h6
  · rw [F.i 3 11 rfl]; exact h7
  · rw [F.i 3 12 rfl]; exact h8
  · rw [F.i 3 14 rfl]; exact h10
/-- parameters -/
def psOk (ps : SC) : Prop := (∀ q ∈ ps, nm_ok q.1) ∧ ps.map (fun q => q.2) = List.range ps.length ∧ ps.length ≤ 6
theorem m_params (hcs : g_CS cx) (hp : isQ p) (hT : txt T n) (hL : Lay t ad) (hR : CR ad T n p 0 st 0 0 [] cn 0 t) (hs : ∀ q ∈ FS, fdS q) (hl : FS.length < 24) (hpc : ∀ q ∈ FS, ∀ c ∈ pcl q.2.2.2, c < cl.length) {a2 : Nat} (ha2 : a2 ≤ n) (hC : cuC ad T n a2 t)
    (rE : tkK T n a2 ≠ 10 → RfF cx dm ad T n a FS cl ac (fcd T n a2) (tkS T n a2))
    (rP : tkK T n a2 = 10 → tkK T n (tkE T n a2) = 23 → RfF cx dm ad T n a FS cl ac 1 (tkS T n (tkE T n a2)))
    (rG : tkK T n a2 = 10 → tkK T n (tkE T n a2) ≠ 23 → RcH cx dm ad T n a FS cl ac (tkE T n a2) nm [] (if tkK T n (tkE T n a2) = 11 then 0 else 1))
    (kl : ∀ b ps u, gFr ad (haaP) t u → CR ad T n p ps.length st 0 0 ps cn 0 u → cuC ad T n (tkE T n b) u → tkE T n a2 ≤ b → b ≤ n → tkK T n b = 11 → RcH cx dm ad T n a FS cl ac b nm ps 0 → psOk ps → post (some (.int 1)) u)
    (kd : ∀ c q u, gFr ad (haaP) t u → ddC ad c q u → RfF cx dm ad T n a FS cl ac c q → post (some (.int 0)) u) : g_E cx (d + 8) i_Reader_readParameters [.ref (ad 3)] t post := by
  have hpg := hp.ge
  have hE3 := tkE_le hT ha2
  have nar : ∀ y : Int32, y = 0 ∨ y = 1 → narrow .boolean (.int y) = .int y := by
    intro y hy
    rcases hy with rfl | rfl <;> rfl
  -- no more parameters
  have exit0 : ∀ (b : Nat) (ps : SC) (u : gSt), gFr ad (haaP) t u → CR ad T n p ps.length st 0 0 ps cn 0 u → cuC ad T n b u → tkE T n a2 ≤ b → b ≤ n → RcH cx dm ad T n a FS cl ac b nm ps 0 → psOk ps → g_E cx (d + 7) i_Tokens_need [.ref (ad 4), .int 41] u (fun r u3 => ∃ y4 : Int32, r = some (.int y4) ∧ Lay u3 ad ∧ (narrow .boolean (.int y4) = .int y4 ∧ post (some (.int y4)) u3)) := by
    intro b ps u Fu cu cuu h1 hb hr hps
    refine m_needC (kk := 11) (by decide) rfl hcs Fu.L cu.1 hb cuu (fun k11 w Fw cw _ => ⟨_, rfl, Fw.L, nar 1 (Or.inr rfl), kl b ps w (Fu.tr (Fw.mo (fun c k z => ha_tc z))) (cu.tc Fw) cw h1 hb k11 hr hps⟩) (fun k11 w Fw hd => ⟨_, rfl, Fw.L, nar 0 (Or.inl rfl), kd _ _ w (Fu.tr (Fw.mo (fun c k z => ha_tc z))) hd (fun t0 post t h k => hr t0 post t h (fun u o3 hu => ?_))⟩)
    exact x_Mo_readFunction_120 hu.1.L ⟨fun _ => e_go hT hu hb hs hl hps.2.2 hpc (fun _ v hv => k v hv) (fun z => absurd z k11) (fun z => absurd z k11), fun z => absurd rfl z⟩
  have deadN : ∀ (w : gSt) (l2 : Int32) (c q : Nat), gFr ad (haaP) t w → ddC ad c q w → RfF cx dm ad T n a FS cl ac c q → g_W cx (g_E cx (d + 7)) mt_Reader_readParameters post (34, [some (.ref (ad 3)), some (.int 0), some (.int l2)], [], w, 0, 0) := fun w l2 c q Fw hd hr => by
    have e : g_E cx (d + 7) i_Tokens_need [.ref (ad 4), .int 41] w (fun r u3 => ∃ y4 : Int32, r = some (.int y4) ∧ Lay u3 ad ∧ (narrow .boolean (.int y4) = .int y4 ∧ post (some (.int y4)) u3)) := m_needD Fw.L hd.ne (by decide) ⟨_, rfl, Fw.L, nar 0 (Or.inl rfl), kd c q w Fw hd hr⟩
    exact x_Reader_readParameters_34 Fw.L ⟨fun _ => e, fun _ => ⟨fun _ => e, fun z => absurd rfl z⟩⟩
  have loop : ∀ (m : Nat) (b : Nat) (ps : SC) (u : gSt), 7 - ps.length = m → gFr ad (haaP) t u → CR ad T n p ps.length st 0 0 ps cn 0 u → cuC ad T n b u → tkE T n a2 ≤ b → b ≤ n → RcH cx dm ad T n a FS cl ac b nm ps 1 → psOk ps → g_W cx (g_E cx (d + 7)) mt_Reader_readParameters post (34, [some (.ref (ad 3)), some (.int 1), some (.int (nI ps.length))], [], u, 0, 0) := by
    intro m
    induction m with
    | zero =>
      intro b ps u hm _ _ _ _ _ _ hps
      have := hps.2.2
      omega
    | succ m ih =>
      intro b ps u hm Fu cu cuu h1 hb hr hps
      have hp6 := hps.2.2
      have hEb := tkE_le hT hb
      have rN : tkK T n b ≠ 2 → RfF cx dm ad T n a FS cl ac (fcd T n b) (tkS T n b) := fun k2 t0 post t h k => hr t0 post t h (fun u o3 hu => p_go hT hu hb hs hps.1 hp6 (fun _ v hv => k v hv) (fun z => absurd z k2) (fun z => absurd z k2) (fun z => absurd z k2) (fun z => absurd z k2) (fun z => absurd z k2))
      refine x_Reader_readParameters_34 Fu.L ⟨fun z => ?_, fun _ => ⟨fun z => absurd z (by decide), fun _ => ?_⟩⟩
      · rw [show (6 : Int32) = nI 6 from rfl, nI_ltI (by decide) (by omega)] at z
        omega
      refine m_isAtC (kk := 2) (by decide) rfl hcs Fu.L cu.1 hb cuu (fun u5 F5 h5 => ⟨_, rfl, F5.L, fun z => ?_, fun z => ?_⟩) (fun h23 u5 F5 h5 => ⟨_, rfl, F5.L, fun _ => ?_, fun z => absurd rfl z⟩)
      · have k2 : ¬ tkK T n b = 2 := b32_d.mp z
        exact m_needC (kk := 2) (by decide) rfl hcs F5.L (cu.tc F5).1 hb h5.cu (fun y => absurd y k2) (fun _ w Fw hd => ⟨_, rfl, Fw.L, fun z => absurd rfl z, fun _ => kd _ _ w (Fu.tr ((F5.tr Fw).mo (fun c k z => ha_tc z))) hd (rN k2)⟩)
      rotate_left
      · have := rN (by omega)
        rw [show fcd T n b = 1 from if_pos h23] at this
        exact m_needD F5.L h5.ne (by decide) ⟨_, rfl, F5.L, fun z => absurd rfl z, fun _ => kd 1 _ u5 (Fu.tr (F5.mo (fun c k z => ha_tc z))) h5 this⟩
      have k2 : tkK T n b = 2 := Classical.byContradiction (fun y => z (b32_f y))
      have hnmb := tkN_ok hT hb k2
      have cr5 := cu.tc F5
      have G5 := Fu.tr (F5.mo (fun c k z => ha_tc z))
      -- a fault at the name
      have bad : ∀ (w : gSt) (c q : Nat), gFr ad tcP u5 w → ddC ad c q w → RfF cx dm ad T n a FS cl ac c q → g_E cx (d + 7) i_Tokens_need [.ref (ad 4), .int 1] w (fun r u18 => ∃ y19 : Int32, r = some (.int y19) ∧ Lay u18 ad ∧ ((¬ y19 = 0 → g_E cx (d + 7) i_Reader_see [.ref (ad 3), .long (u18.2.2.1 (ad 4) 7), .int (u18.2.1 (ad 3) 13)] u18 (fun r u20 => r = none ∧ Lay u20 ad ∧ (∀ t22, t22 = g_si u20 (ad 3) 13 ((u20.2.1 (ad 3) 13) + 1) → g_E cx (d + 7) i_Tokens_isAt [.ref (ad 4), .int 44] t22 (fun r u23 => ∃ y24 : Int32, r = some (.int y24) ∧ Lay u23 ad ∧ ((y24 = 0 → g_W cx (g_E cx (d + 7)) mt_Reader_readParameters post (34, [some (.ref (ad 3)), some (.int y24), some (.int (nI ps.length + 1))], [], u23, 0, 0)) ∧ (¬ (y24 = 0) → g_E cx (d + 7) i_Tokens_take [.ref (ad 4)] u23 (fun r u25 => r = none ∧ Lay u25 ad ∧ (g_W cx (g_E cx (d + 7)) mt_Reader_readParameters post (34, [some (.ref (ad 3)), some (.int y24), some (.int (nI ps.length + 1))], [], u25, 0, 0))))))))) ∧ (¬ (¬ y19 = 0) → post (some (.int 0)) u18))) := fun w c q Fw hd hr => m_needD Fw.L hd.ne (by decide) ⟨_, rfl, Fw.L, fun z => absurd rfl z, fun _ => kd c q w (G5.tr (Fw.mo (fun c k z => ha_tc z))) hd hr⟩
      refine x_Reader_checkParameterName F5.L ?_
      rw [h5.2.2.2.2.2.2.2 k2]
      refine m_findVar F5.L cr5 (by omega) hnmb hps.1 ?_
      cases e : scl ps (tkN T n b) ps.length with
      | some v =>
        have hv := scl_in (sc := ps) (nm := tkN T n b) ps.length (Nat.le_refl _) e
        have hex : ∃ q ∈ ps, q.1 = tkN T n b := Classical.byContradiction (fun y => by
          rw [scl_none'.mpr (fun q hq e => y ⟨q, hq, e⟩)] at e
          cases e)
        have hvl : v < 6 := by
          obtain ⟨q', hq', e'⟩ := List.mem_map.mp hv
          have hq2 : q'.2 ∈ ps.map (fun q => q.2) := List.mem_map.mpr ⟨q', hq', rfl⟩
          rw [hps.2.1] at hq2
          have := List.mem_range.mp hq2
          rw [nI_eq (by omega) (by
            obtain ⟨q3, hq3, e3⟩ : ∃ q3 ∈ ps, q3.2 = v := by
              have aux : ∀ i, i ≤ ps.length → scl ps (tkN T n b) i = some v → ∃ q3 ∈ ps, q3.2 = v := by
                intro i
                induction i with
                | zero => intro _ h; cases h
                | succ i ih2 =>
                  intro hi h
                  unfold scl at h
                  split at h
                  · exact ⟨_, List.mem_of_getElem? (sc_get (by omega)), Option.some.inj h⟩
                  · exact ih2 (by omega) h
              exact aux ps.length (Nat.le_refl _) e
            have hq4 : q3.2 ∈ ps.map (fun q => q.2) := List.mem_map.mpr ⟨q3, hq3, rfl⟩
            rw [hps.2.1] at hq4
            have := List.mem_range.mp hq4
            omega)] at e'
          omega
        refine ⟨_, rfl, F5.L, fun z => ?_, fun _ => m_failHere (c := 3) (by decide) F5.L h5 (fun w Fw hd => ⟨rfl, Fw.L, rfl, Fw.L, bad w 3 _ Fw hd (fun t0 post t h k => hr t0 post t h (fun u o3 hu => ?_))⟩)⟩
        · have : (-1 : Int32) < 0 := by decide
          rw [← z] at this
          exact absurd this (nI_pos (by omega))
        · obtain ⟨q, hq, eq⟩ := hex
          exact p_go hT hu hb hs hps.1 hp6 (fun z => absurd k2 z) (fun _ _ v hv => k v hv) (fun _ z => absurd eq (z q hq)) (fun _ z => absurd eq (z q hq)) (fun _ z => absurd eq (z q hq)) (fun _ z => absurd eq (z q hq))
      | none =>
        have hno := scl_none'.mp e
        have nex : ¬ ∃ q ∈ ps, q.1 = tkN T n b := fun ⟨q, hq, e⟩ => hno q hq e
        refine ⟨_, rfl, F5.L, fun _ => ?_, fun z => absurd rfl z⟩
        rw [cr5.2.2.2.2.2.2.2.1, show (6 : Int32) = nI 6 from rfl, nI_ltI (by omega) (by decide)]
        refine ⟨fun h6 => ⟨rfl, F5.L, ?_⟩, fun h6 => m_failHere (c := 5) (by decide) F5.L h5 (fun w Fw hd => ⟨rfl, Fw.L, rfl, Fw.L, bad w 5 _ Fw hd (fun t0 post t h k => hr t0 post t h (fun u o3 hu => p_go hT hu hb hs hps.1 hp6 (fun z => absurd k2 z) (fun _ z => absurd z nex) (fun _ _ _ v hv => k v hv) (fun _ _ z => by omega) (fun _ _ z => by omega) (fun _ _ z => by omega)))⟩)⟩
        refine m_needC (kk := 2) (by decide) rfl hcs F5.L cr5.1 hb h5.cu (fun _ w Fw cw jw => ⟨_, rfl, Fw.L, fun _ => ?_, fun z => absurd (show ¬ (1 : Int32) = 0 by decide) z⟩) (fun y => absurd k2 y)
        have crw := cr5.tc Fw
        rw [jw k2, crw.2.2.2.2.2.2.2.1]
        refine m_seeC Fw.L crw (by omega) (fun u20 F20 c20 => ⟨rfl, F20.L, fun t22 e22 => ?_⟩)
        rw [c20.2.2.2.2.2.2.2.1, Nat.add_zero, nI_1] at e22
        obtain ⟨c22, F22⟩ := CR.pm (l := 0) c20 F20.L e22
        have G22 : gFr ad (haaP) t t22 := ((G5.tr (Fw.mo (fun c k z => ha_tc z))).tr (F20.mo (fun c k z => ha_se z))).tr (F22.mo (fun c k z => by rw [c3P_i] at z; rw [haaP_i]; omega))
        have cu22 : cuC ad T n (tkE T n b) t22 := (cw.fr F20 (fun k => rfl)).fr F22 (fun k => rfl)
        have hEg := tkE_gt hT hb (by omega)
        have hps' : psOk (ps ++ [(tkN T n b, ps.length)]) := by
          refine ⟨fun q hq => ?_, ?_, ?_⟩
          · rcases List.mem_append.mp hq with hq | hq
            · exact hps.1 q hq
            · rw [List.mem_singleton.mp hq]; exact hnmb
          · rw [List.map_append, hps.2.1, List.length_append]
            simp only [List.map_cons, List.map_nil, List.length_cons, List.length_nil]
            rw [List.range_succ]
          · rw [List.length_append]; simp only [List.length_cons, List.length_nil]; omega
        have el : (ps ++ [(tkN T n b, ps.length)]).length = ps.length + 1 := by rw [List.length_append]; rfl
        have c22' : CR ad T n p (ps ++ [(tkN T n b, ps.length)]).length st 0 0 (ps ++ [(tkN T n b, ps.length)]) cn 0 t22 := by rw [el]; exact c22
        refine m_isAtC (kk := 12) (by decide) rfl hcs G22.L c22.1 hEb cu22 (fun u23 F23 h23 => ⟨_, rfl, F23.L, fun z => ?_, fun z => ?_⟩) (fun h23 u23 F23 hd => ⟨_, rfl, F23.L, fun _ => ?_, fun z => absurd rfl z⟩)
        · have k12 : ¬ tkK T n (tkE T n b) = 12 := b32_d.mp z
          rw [b32_f k12]
          have ex := exit0 (tkE T n b) _ u23 (G22.tr (F23.mo (fun c k z => ha_tc z))) (c22'.tc F23) h23.cu (by omega) hEb (fun t0 post t h k => hr t0 post t h (fun u o3 hu => p_go hT hu hb hs hps.1 hp6 (fun z => absurd k2 z) (fun _ z => absurd z nex) (fun _ _ z => by omega) (fun _ _ _ z => absurd z h23.2.2.1) (fun _ _ _ z => absurd z k12) (fun _ _ _ _ _ v o3 hv => by
            have := k v o3 hv
            rw [el] at this
            exact this))) hps'
          exact x_Reader_readParameters_34 F23.L ⟨fun _ => ex, fun _ => ⟨fun _ => ex, fun z => absurd rfl z⟩⟩
        · have k12 : tkK T n (tkE T n b) = 12 := Classical.byContradiction (fun y => z (b32_f y))
          have hEg2 := tkE_gt hT hEb (by omega)
          rw [b32_t k12]
          refine m_takeC F23.L h23 (fun u25 F25 c25 _ => ⟨rfl, F25.L, ?_⟩)
          rw [nI_1, ← el]
          refine ih (tkE T n (tkE T n b)) (ps ++ [(tkN T n b, ps.length)]) u25 (by rw [el]; omega) (G22.tr ((F23.tr F25).mo (fun c k z => ha_tc z))) (c22'.tc (F23.tr F25)) c25 (by omega) (tkE_le hT hEb) (fun t0 post t h k => hr t0 post t h (fun u o3 hu => p_go hT hu hb hs hps.1 hp6 (fun z => absurd k2 z) (fun _ z => absurd z nex) (fun _ _ z => by omega) (fun _ _ _ z => by omega) (fun _ _ _ _ v o3 hv => ?_) (fun _ _ _ z => absurd k12 z))) hps'
          have := k v o3 hv
          rw [el] at this
          exact this
        · exact deadN u23 _ 1 _ (G22.tr (F23.mo (fun c k z => ha_tc z))) hd (fun t0 post t h k => hr t0 post t h (fun u o3 hu => p_go hT hu hb hs hps.1 hp6 (fun z => absurd k2 z) (fun _ z => absurd z nex) (fun _ _ z => by omega) (fun _ _ _ _ v hv => k v hv) (fun _ _ _ z => by omega) (fun _ _ _ _ z => absurd h23 z)))
  have hps0 : psOk [] := ⟨fun q hq => (by cases hq), rfl, by decide⟩
  refine x_Reader_readParameters hL (m_needC (kk := 10) (by decide) rfl hcs hL hR.1 ha2 hC (fun k10 u1 F1 c1 _ => ⟨_, rfl, F1.L, fun _ => ?_, fun z => absurd (show ¬ (1 : Int32) = 0 by decide) z⟩) (fun k10 u1 F1 hd => ⟨_, rfl, F1.L, fun z => absurd rfl z, fun _ => kd _ _ u1 (F1.mo (fun c k z => ha_tc z)) hd (rE k10)⟩))
  refine m_isAtC (kk := 11) (by decide) rfl hcs F1.L (hR.tc F1).1 hE3 c1 (fun u3 F3 h3 => ⟨_, rfl, F3.L, fun z => ?_, fun z => ?_⟩) (fun h23 u3 F3 h3 => ⟨_, rfl, F3.L, fun z => absurd rfl z, fun _ => ?_⟩)
  · have k11 : tkK T n (tkE T n a2) = 11 := Classical.byContradiction (fun y => z (b32_f y))
    have hr := rG k10 h3.2.2.1
    rw [if_pos k11] at hr
    have ex := exit0 (tkE T n a2) [] u3 ((F1.tr F3).mo (fun c k z => ha_tc z)) ((hR.tc F1).tc F3) h3.cu (Nat.le_refl _) hE3 hr hps0
    exact x_Reader_readParameters_34 F3.L ⟨fun _ => ex, fun _ => ⟨fun _ => ex, fun z => absurd rfl z⟩⟩
  · have k11 : ¬ tkK T n (tkE T n a2) = 11 := b32_d.mp (Classical.not_not.mp z)
    have hr := rG k10 h3.2.2.1
    rw [if_neg k11] at hr
    exact loop 7 (tkE T n a2) [] u3 rfl ((F1.tr F3).mo (fun c k z => ha_tc z)) ((hR.tc F1).tc F3) h3.cu (Nat.le_refl _) hE3 hr hps0
  · have G3 := (F1.tr F3).mo (fun c k z => ha_tc z)
    have e : g_E cx (d + 7) i_Tokens_need [.ref (ad 4), .int 41] u3 (fun r u3 => ∃ y4 : Int32, r = some (.int y4) ∧ Lay u3 ad ∧ (narrow .boolean (.int y4) = .int y4 ∧ post (some (.int y4)) u3)) := m_needD F3.L h3.ne (by decide) ⟨_, rfl, F3.L, nar 0 (Or.inl rfl), kd 1 _ u3 G3 h3 (rP k10 h23)⟩
    refine x_Reader_readParameters_34 F3.L ⟨fun _ => e, fun _ => ⟨fun z => absurd z (by decide), fun _ => m_isAtD F3.L h3.ne (by decide) ⟨_, rfl, F3.L, fun _ => m_needD F3.L h3.ne (by decide) ⟨_, rfl, F3.L, fun z => absurd rfl z, fun _ => kd 1 _ u3 G3 h3 (rP k10 h23)⟩, fun z => absurd rfl z⟩⟩⟩
end CN
