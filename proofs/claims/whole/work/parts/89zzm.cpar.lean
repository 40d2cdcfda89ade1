/-! THE CLASS READS AN EXPRESSION: its state -/
/-- what reading an expression may change -/
def crxP (p c k : Nat) : Bool := (Nat.beq c 3 && (Nat.ble 8 k && Nat.ble k 14)) || (Nat.beq c 4 && Nat.ble 2 k) || Nat.beq c 5 || Nat.beq c 6 || Nat.beq c 7 || Nat.beq c 9 || Nat.beq c 10 || Nat.beq c (p + 12) || Nat.beq c (p + 13)
theorem crxP_i {p c k : Nat} : crxP p c k = true ↔ (c = 3 ∧ 8 ≤ k ∧ k ≤ 14) ∨ (c = 4 ∧ 2 ≤ k) ∨ c = 5 ∨ c = 6 ∨ c = 7 ∨ c = 9 ∨ c = 10 ∨ c = p + 12 ∨ c = p + 13 := by
  unfold crxP
  simp only [Bool.or_eq_true, Bool.and_eq_true, Nat.beq_eq, Nat.ble_eq]
  omega
theorem tcP_i {c k : Nat} : tcP c k = true ↔ c = 4 ∧ 2 ≤ k := by
  unfold tcP
  simp only [Bool.and_eq_true, Nat.beq_eq, Nat.ble_eq]
/-- fields and scopes -/
def CR (ad : Nat → Nat) (T : Nat → Nat) (n p Pm st l o : Nat) (sc : SC) (cn N : Nat) (t : gSt) : Prop :=
  txC ad T n t ∧ t.2.2.2 (ad 3) 7 = some (ad p) ∧ t.2.1 (ad 3) 8 = nI cn ∧ (t.2.1 (ad 3) 9 = nI sc.length ∧ ∀ i q, sc[i]? = some q → t.2.2.1 (ad 9) i = pk8 q.1 ∧ t.2.1 (ad 10) i = nI q.2) ∧
  t.2.1 (ad 3) 10 = nI o ∧ t.2.1 (ad 3) 11 = nI (st + min N 400) ∧ t.2.1 (ad 3) 12 = nI N ∧ t.2.1 (ad 3) 13 = nI (Pm + l) ∧ t.2.1 (ad 3) 14 = nI l
/-- rows below a place stand -/
def bel (ad : Nat → Nat) (p U : Nat) (t u : gSt) : Prop := ∀ i, i < U → u.2.1 (ad (p + 12)) i = t.2.1 (ad (p + 12)) i ∧ u.2.1 (ad (p + 13)) i = t.2.1 (ad (p + 13)) i
def rowC (ad : Nat → Nat) (p U : Nat) (L : List (Int32 × Int32)) (t : gSt) : Prop := rows (fun i => t.2.1 (ad (p + 12)) i) (fun i => t.2.1 (ad (p + 13)) i) U L
/-- calls below a number stand -/
def belC (ad : Nat → Nat) (c : Nat) (t u : gSt) : Prop := ∀ i, i < c → u.2.2.1 (ad 5) i = t.2.2.1 (ad 5) i ∧ u.2.1 (ad 6) i = t.2.1 (ad 6) i ∧ u.2.1 (ad 7) i = t.2.1 (ad 7) i
def callC (ad : Nat → Nat) (c : Nat) (cl : CL) (ac : Nat → Nat) (t : gSt) : Prop := ∀ i q, c ≤ i → cl[i]? = some q → t.2.2.1 (ad 5) i = pk8 q.1 ∧ t.2.1 (ad 6) i = nI q.2.1 ∧ t.2.1 (ad 7) i = nI (ac i)
section CP
variable {cx : gCx} {d : Nat} {ad : Nat → Nat} {T : Nat → Nat} {n a p Pm st l o cn N : Nat} {sc : SC} {t u w : gSt} {post : Option Value → gSt → Prop} {P : Nat → Nat → Bool}
theorem ce_tc {c k : Nat} (h : tcP c k = true) : crxP p c k = true := by
  rw [tcP_i] at h
  rw [crxP_i]
  omega
theorem CR.fr (h : CR ad T n p Pm st l o sc cn N t) (hF : gFr ad P t u) (hP : ∀ c k, (c = 3 ∧ 7 ≤ k ∧ k ≤ 14) ∨ (c = 4 ∧ k ≤ 1) ∨ c = 1 ∨ c = 9 ∨ c = 10 → P c k = false) : CR ad T n p Pm st l o sc cn N u := by
  obtain ⟨h1, h2, h3, ⟨h4, h5⟩, h6, h7, h8, h9, h10⟩ := h
  refine ⟨h1.fr hF (hP _ _ (by omega)) (hP _ _ (by omega)) (fun k => hP _ _ (by omega)), ?_, ?_, ⟨?_, fun i q hq => ?_⟩, ?_, ?_, ?_, ?_, ?_⟩
  · rw [hF.r 3 7 (hP _ _ (by omega))]; exact h2
  · rw [hF.i 3 8 (hP _ _ (by omega))]; exact h3
  · rw [hF.i 3 9 (hP _ _ (by omega))]; exact h4
  · rw [hF.j 9 i (hP _ _ (by omega)), hF.i 10 i (hP _ _ (by omega))]; exact h5 i q hq
  · rw [hF.i 3 10 (hP _ _ (by omega))]; exact h6
  · rw [hF.i 3 11 (hP _ _ (by omega))]; exact h7
  · rw [hF.i 3 12 (hP _ _ (by omega))]; exact h8
  · rw [hF.i 3 13 (hP _ _ (by omega))]; exact h9
  · rw [hF.i 3 14 (hP _ _ (by omega))]; exact h10
theorem CR.tc (h : CR ad T n p Pm st l o sc cn N t) (hF : gFr ad tcP t u) : CR ad T n p Pm st l o sc cn N u := h.fr hF (fun c k z => bool_r tcP_i (by omega))
theorem bel.rf {U : Nat} : bel ad p U t t := fun i _ => ⟨rfl, rfl⟩
theorem bel.tr {U : Nat} (h1 : bel ad p U t u) (h2 : bel ad p U u w) : bel ad p U t w := fun i hi => ⟨(h2 i hi).1.trans (h1 i hi).1, (h2 i hi).2.trans (h1 i hi).2⟩
theorem bel.mo {U U' : Nat} (h : bel ad p U t u) (hU : U' ≤ U) : bel ad p U' t u := fun i hi => h i (by omega)
theorem bel.fr {U : Nat} (hp : p + 13 < 199) (hF : gFr ad P t u) (hP : ∀ c k, c = p + 12 ∨ c = p + 13 → P c k = false) : bel ad p U t u := fun i _ => ⟨hF.i (p + 12) i (hP _ _ (by omega)) (by omega), hF.i (p + 13) i (hP _ _ (by omega)) (by omega)⟩
theorem belC.rf {c : Nat} : belC ad c t t := fun i _ => ⟨rfl, rfl, rfl⟩
theorem belC.tr {c : Nat} (h1 : belC ad c t u) (h2 : belC ad c u w) : belC ad c t w := fun i hi => ⟨(h2 i hi).1.trans (h1 i hi).1, (h2 i hi).2.1.trans (h1 i hi).2.1, (h2 i hi).2.2.trans (h1 i hi).2.2⟩
theorem belC.mo {c c' : Nat} (h : belC ad c t u) (hc : c' ≤ c) : belC ad c' t u := fun i hi => h i (by omega)
theorem belC.fr {c : Nat} (hF : gFr ad P t u) (hP : ∀ c k, c = 5 ∨ c = 6 ∨ c = 7 → P c k = false) : belC ad c t u := fun i _ => ⟨hF.j 5 i (hP _ _ (by omega)), hF.i 6 i (hP _ _ (by omega)), hF.i 7 i (hP _ _ (by omega))⟩
theorem rowC.be {U V : Nat} {L : List (Int32 × Int32)} (h : rowC ad p U L t) (hb : bel ad p V t u) (hV : U + L.length ≤ V) : rowC ad p U L u := fun i q hq => by
  have hi := (List.getElem?_eq_some_iff.mp hq).1
  have := hb (U + i) (by omega)
  show u.2.1 (ad (p + 12)) (U + i) = q.1 ∧ u.2.1 (ad (p + 13)) (U + i) = q.2
  rw [this.1, this.2]
  exact h i q hq
theorem rowC.ap {U : Nat} {L M : List (Int32 × Int32)} (h : rowC ad p U L t) (h2 : rowC ad p (U + L.length) M t) : rowC ad p U (L ++ M) t := fun i q hq => by
  by_cases hi : i < L.length
  · rw [List.getElem?_append_left hi] at hq
    exact h i q hq
  · rw [List.getElem?_append_right (by omega)] at hq
    have := h2 (i - L.length) q hq
    rw [show U + L.length + (i - L.length) = U + i by omega] at this
    exact this
theorem callC.be {c c' : Nat} {cl : CL} {ac : Nat → Nat} (h : callC ad c cl ac t) (hb : belC ad c' t u) (hc : cl.length ≤ c') : callC ad c cl ac u := fun i q hi hq => by
  have hl := (List.getElem?_eq_some_iff.mp hq).1
  have := hb i (by omega)
  rw [this.1, this.2.1, this.2.2]
  exact h i q hi hq
/-- tokens -/
theorem m_isAtC {kk : Nat} {c : Int32} (hkk : kk < 23) (hc : c = cK kk) (hcs : g_CS cx) (hL : Lay t ad) (hX : txC ad T n t) (ha : a ≤ n) (hC : cuC ad T n a t) (k1 : ∀ u, gFr ad tcP t u → hcC ad T n a u → post (some (.int (b32 (decide (tkK T n a = kk))))) u) (k2 : tkK T n a = 23 → ∀ u, gFr ad tcP t u → ddC ad 1 (tkS T n a) u → post (some (.int 0)) u) : g_E cx (d + 7) i_Tokens_isAt [.ref (ad 4), .int c] t post := by
  subst hc
  refine x_Tokens_isAt hL (m_peek hcs hL hX ha hC (fun u F H => ⟨_, rfl, F.L, fun q => ?_, fun q => ?_⟩) (fun u F hk H => ⟨_, rfl, F.L, fun _ => k2 hk u F H, fun q => ?_⟩))
  · have : decide (tkK T n a = kk) = false := decide_eq_false (fun z => q (by rw [z]))
    have := k1 u F H
    rw [decide_eq_false (fun z => q (by rw [z]))] at this
    exact this
  · have e := (cK_iff tkK_le (by omega)).mp (Classical.not_not.mp q)
    have := k1 u F H
    rw [decide_eq_true e] at this
    exact this
  · have e := (cK_iff (i := 23) (by omega) (by omega)).mp (Classical.not_not.mp q)
    omega
theorem m_isAtD {c : Int32} (hL : Lay t ad) (h0 : ¬ t.2.1 (ad 4) 8 = 0) (hc : c ≠ 11) (k1 : post (some (.int 0)) t) : g_E cx (d + 2) i_Tokens_isAt [.ref (ad 4), .int c] t post :=
  x_Tokens_isAt hL (m_peekD hL h0 ⟨_, rfl, hL, fun _ => k1, fun q => absurd (Classical.not_not.mp q).symm hc⟩)
theorem m_takeC (hL : Lay t ad) (h : hcC ad T n a t) (k1 : ∀ u, gFr ad tcP t u → cuC ad T n (tkE T n a) u → (tkK T n a = 2 → u.2.2.1 (ad 4) 7 = pk8 (tkN T n a)) → post none u) : g_E cx (d + 1) i_Tokens_take [.ref (ad 4)] t post := by
  refine x_Tokens_take hL (fun t1 e1 => ?_)
  have F : gFr ad tcP t t1 := by rw [e1]; exact (gFr.rf hL).si rfl
  refine k1 t1 F ⟨?_, Or.inl ⟨by rw [e1, g_rd_at], ?_⟩⟩ (fun e => ?_)
  · rw [e1, g_rd_k (by decide)]; exact h.1
  · rw [e1, g_rd_k (by decide)]; exact h.2.2.2.1
  · rw [e1, g_si_j]; exact h.2.2.2.2.2.2.2 e
theorem m_needC {kk : Nat} {c : Int32} (hkk : kk < 23) (hc : c = cK kk) (hcs : g_CS cx) (hL : Lay t ad) (hX : txC ad T n t) (ha : a ≤ n) (hC : cuC ad T n a t) (k1 : tkK T n a = kk → ∀ u, gFr ad tcP t u → cuC ad T n (tkE T n a) u → (tkK T n a = 2 → u.2.2.1 (ad 4) 7 = pk8 (tkN T n a)) → post (some (.int 1)) u) (k2 : tkK T n a ≠ kk → ∀ u, gFr ad tcP t u → ddC ad (fcd T n a) (tkS T n a) u → post (some (.int 0)) u) : g_E cx (d + 7) i_Tokens_need [.ref (ad 4), .int c] t post := by
  subst hc
  refine x_Tokens_need hL (m_peek hcs hL hX ha hC (fun u F H => ⟨_, rfl, F.L, fun q => ?_, fun q => ?_⟩) (fun u F hk H => ⟨_, rfl, F.L, fun q => ?_, fun _ => ?_⟩))
  · have e := (cK_iff tkK_le (by omega)).mp q
    exact m_takeC F.L H (fun w Fw hw hj => ⟨rfl, Fw.L, k1 e w (F.tr Fw) hw hj⟩)
  · rw [H.2.2.2.2.2.1]
    have ef : fcd T n a = 2 := if_neg H.2.2.1
    exact m_failAt (c := 2) F.L (by decide) H.1 (fun w Fw hw _ => ⟨rfl, Fw.L, k2 (fun z => q (by rw [z])) w (F.tr Fw) (by rw [ef]; exact hw)⟩)
  · have e := (cK_iff (i := 23) (by omega) (by omega)).mp q
    omega
  · have ef : fcd T n a = 1 := if_pos hk
    exact m_failD F.L H.ne ⟨rfl, F.L, k2 (by omega) u F (by rw [ef]; exact H)⟩
theorem m_needD {c : Int32} (hL : Lay t ad) (h0 : ¬ t.2.1 (ad 4) 8 = 0) (hc : c ≠ 11) (k1 : post (some (.int 0)) t) : g_E cx (d + 2) i_Tokens_need [.ref (ad 4), .int c] t post :=
  x_Tokens_need hL (m_peekD hL h0 ⟨_, rfl, hL, fun q => absurd q.symm hc, fun _ => m_failD hL h0 ⟨rfl, hL, k1⟩⟩)
theorem m_failHere {c : Nat} (hc : 1 ≤ c ∧ c ≤ 7) (hL : Lay t ad) (h : hcC ad T n a t) (k1 : ∀ u, gFr ad tcP t u → ddC ad c (tkS T n a) u → post none u) : g_E cx (d + 2) i_Tokens_failHere [.ref (ad 4), .int (nI c)] t post := by
  refine x_Tokens_failHere hL ?_
  rw [h.2.2.2.2.2.1]
  exact m_failAt hL hc h.1 (fun u F H _ => ⟨rfl, F.L, k1 u F H⟩)
def c3P (j c k : Nat) : Bool := Nat.beq c 3 && Nat.beq k j
theorem c3P_i {j c k : Nat} : c3P j c k = true ↔ c = 3 ∧ k = j := by
  unfold c3P
  rw [Bool.and_eq_true, Nat.beq_eq, Nat.beq_eq]
theorem cuC.fr (h : cuC ad T n a t) (hF : gFr ad P t u) (hP : ∀ k, P 4 k = false) : cuC ad T n a u := by
  have e : ∀ k, u.2.1 (ad 4) k = t.2.1 (ad 4) k := fun k => hF.i 4 k (hP k)
  have ej : ∀ k, u.2.2.1 (ad 4) k = t.2.2.1 (ad 4) k := fun k => hF.j 4 k (hP k)
  unfold cuC hdC at h ⊢
  rw [e 2, e 3, e 4, e 5, e 6, e 8, ej 7]
  exact h
theorem hcC.fr (h : hcC ad T n a t) (hF : gFr ad P t u) (hP : ∀ k, P 4 k = false) : hcC ad T n a u := by
  have e : ∀ k, u.2.1 (ad 4) k = t.2.1 (ad 4) k := fun k => hF.i 4 k (hP k)
  have ej : ∀ k, u.2.2.1 (ad 4) k = t.2.2.1 (ad 4) k := fun k => hF.j 4 k (hP k)
  unfold hcC hdC at h ⊢
  rw [e 2, e 3, e 4, e 5, e 6, e 8, ej 7]
  exact h
theorem ddC.fr {c q : Nat} (h : ddC ad c q t) (hF : gFr ad P t u) (hP : ∀ k, P 4 k = false) : ddC ad c q u := ⟨h.1, by rw [hF.i 4 8 (hP 8)]; exact h.2.1, by rw [hF.i 4 9 (hP 9)]; exact h.2.2⟩
theorem CR.op {o' : Nat} (h : CR ad T n p Pm st l o sc cn N t) (hL : Lay t ad) (e : u = g_si t (ad 3) 10 (nI o')) : CR ad T n p Pm st l o' sc cn N u ∧ gFr ad (c3P 10) t u := by
  have F : gFr ad (c3P 10) t u := by rw [e]; exact (gFr.rf hL).si rfl
  obtain ⟨h1, h2, h3, ⟨h4, h5⟩, h6, h7, h8, h9, h10⟩ := h
  refine ⟨⟨h1.fr F rfl rfl (fun k => rfl), ?_, ?_, ⟨?_, fun i q hq => ?_⟩, by rw [e, g_rd_at], ?_, ?_, ?_, ?_⟩, F⟩
  · rw [F.r 3 7 rfl]; exact h2
  · rw [F.i 3 8 rfl]; exact h3
  · rw [F.i 3 9 rfl]; exact h4
  · rw [F.j 9 i rfl, F.i 10 i rfl]; exact h5 i q hq
  · rw [F.i 3 11 rfl]; exact h7
  · rw [F.i 3 12 rfl]; exact h8
  · rw [F.i 3 13 rfl]; exact h9
  · rw [F.i 3 14 rfl]; exact h10
theorem m_opensC (hL : Lay t ad) (h : CR ad T n p Pm st l o sc cn N t) (hC : hcC ad T n a t) (ho : o ≤ 30) (k1 : o < 30 → ∀ u, gFr ad (c3P 10) t u → CR ad T n p Pm st l (o + 1) sc cn N u → hcC ad T n a u → post (some (.int 1)) u) (k2 : o = 30 → ∀ u, gFr ad tcP t u → ddC ad 5 (tkS T n a) u → post (some (.int 0)) u) : g_E cx (d + 3) i_Reader_opens [.ref (ad 3)] t post := by
  have e10 : t.2.1 (ad 3) 10 = nI o := h.2.2.2.2.1
  refine x_Reader_opens hL ?_
  rw [e10, show (30 : Int32) = nI 30 from rfl, nI_ltI (by omega) (by decide)]
  refine ⟨fun q t1 e1 => ?_, fun q => m_failHere (c := 5) (by decide) hL hC (fun u F H => ⟨rfl, F.L, k2 (by omega) u F H⟩)⟩
  rw [nI_1] at e1
  obtain ⟨g1, F⟩ := h.op hL e1
  exact k1 q t1 F g1 (hC.fr F (fun k => rfl))
end CP
