/-! THE MODEL'S COMPILER: its state; what its small methods do -/
def cmP (x c k : Nat) : Bool := (Nat.ble 159 c && Nat.ble c 162) || (Nat.ble 182 c && Nat.ble c 183) || (Nat.beq k x && (Nat.ble 184 c && Nat.ble c 186)) || Nat.beq c 187 || (Nat.beq c 144 && (Nat.beq k 29 || Nat.beq k 33 || Nat.beq k 66))
theorem cmP_in {x c k : Nat} (h : cmP x c k = true) : (159 ≤ c ∧ c ≤ 162) ∨ (182 ≤ c ∧ c ≤ 183) ∨ (k = x ∧ 184 ≤ c ∧ c ≤ 186) ∨ c = 187 ∨ (c = 144 ∧ (k = 29 ∨ k = 33 ∨ k = 66)) := by
  unfold cmP at h
  simp only [Bool.or_eq_true, Bool.and_eq_true, Nat.ble_eq, Nat.beq_eq] at h
  omega
theorem cmP_r {x c k : Nat} (h : ¬ ((159 ≤ c ∧ c ≤ 162) ∨ (182 ≤ c ∧ c ≤ 183) ∨ (k = x ∧ 184 ≤ c ∧ c ≤ 186) ∨ c = 187 ∨ (c = 144 ∧ (k = 29 ∨ k = 33 ∨ k = 66)))) : cmP x c k = false := by
  cases e : cmP x c k with
  | false => rfl
  | true => exact absurd (cmP_in e) h
theorem cmP_t {x c k : Nat} (h : (159 ≤ c ∧ c ≤ 162) ∨ (182 ≤ c ∧ c ≤ 183) ∨ (k = x ∧ 184 ≤ c ∧ c ≤ 186) ∨ c = 187 ∨ (c = 144 ∧ (k = 29 ∨ k = 33 ∨ k = 66))) : cmP x c k = true := by
  unfold cmP
  simp only [Bool.or_eq_true, Bool.and_eq_true, Nat.ble_eq, Nat.beq_eq]
  omega
/-- what stands of s in t: rows, numbers -/
def QS (ad : Nat → Nat) (x vn : Nat) (s : KS) (t : gSt) : Prop :=
  t.2.1 (ad 182) = ks_op s ∧ t.2.1 (ad 183) = ks_od s ∧ (t.2.1 (ad 184) x = nI (ks_us s - 1600 * x) ∧ 1600 * x ≤ ks_us s) ∧ t.2.1 (ad 185) x = ks_sl s ∧ t.2.1 (ad 186) x = ks_mh s ∧ t.2.1 (ad 144) 66 = ks_h s ∧ t.2.1 (ad 187) = ks_so s ∧ t.2.1 (ad 162) = ks_ho s ∧ t.2.1 (ad 144) 33 = nI vn
/-- the compiler holds s, with tasks T and vn pending places -/
def QC (t0 : gSt) (ad : Nat → Nat) (x vn : Nat) (T : TK) (s : KS) (t : gSt) : Prop := gFr ad (cmP x) t0 t ∧ RT ad T t ∧ QS ad x vn s t
def kUseN (y : Int32) (s : KS) : KS := (s.1, s.2.1, s.2.2.1, s.2.2.2.1, s.2.2.2.2.1, (if ks_sl s < y + 1 then y + 1 else ks_sl s), s.2.2.2.2.2.2)
section MC
variable {cx : gCx} {d : Nat} {ad : Nat → Nat} {t0 t : gSt} {post : Option Value → gSt → Prop} {x vn : Nat} {T : TK} {s : KS}
/-- one number of the model is written -/
theorem QC.f144 (h : QC t0 ad x vn T s t) {k : Nat} {w : Int32} {s' : KS} {vn' : Nat} (hk : k = 33 ∨ k = 66) (e1 : (s'.1, s'.2.1, s'.2.2.1, s'.2.2.2.2) = (s.1, s.2.1, s.2.2.1, s.2.2.2.2)) (e2 : (if k = 66 then w else ks_h s) = ks_h s') (e3 : (if k = 33 then w else nI vn) = nI vn') : QC t0 ad x vn' T s' (g_si t (ad 144) k w) := by
  obtain ⟨h1, h2, q1, q2, ⟨q3, q4⟩, q5, q6, q7, q8, q9, q10⟩ := h
  have hL := h1.L
  simp only [Prod.mk.injEq] at e1
  obtain ⟨a1, a2, a3, a4⟩ := e1
  have o : ∀ c, c ≠ 144 → c < 199 → (g_si t (ad 144) k w).2.1 (ad c) = t.2.1 (ad c) := fun c hc hl => g_si_ne (hL.ne c 144 hl (by decide) hc)
  have rk : ∀ j, (g_si t (ad 144) k w).2.1 (ad 144) j = if k = j then w else t.2.1 (ad 144) j := fun j => by
    by_cases z : k = j
    · rw [if_pos z, ← z, g_rd_at]
    · rw [if_neg z, g_rd_k (Ne.symm z)]
  refine ⟨h1.si (cmP_t (by omega)), h2.fr (P := fun c j => Nat.beq c 144 && Nat.beq j k) ((gFr.rf hL).si (by simp)) ?_ (fun _ => rfl) (fun _ => rfl) (fun _ => rfl), ?_, ?_, ⟨?_, ?_⟩, ?_, ?_, ?_, ?_, ?_, ?_⟩
  · rcases hk with rfl | rfl <;> rfl
  · rw [o 182 (by decide) (by decide), q1]; exact a1.symm
  · rw [o 183 (by decide) (by decide), q2]; exact a2.symm
  · rw [o 184 (by decide) (by decide), q3]; exact congrArg (fun z => nI (z - 1600 * x)) a3.symm
  · show 1600 * x ≤ s'.2.2.1
    rw [a3]; exact q4
  · rw [o 185 (by decide) (by decide), q5]; exact congrArg (·.2.1) a4.symm
  · rw [o 186 (by decide) (by decide), q6]; exact congrArg (·.1) a4.symm
  · rw [rk, ← e2, q7]
  · rw [o 187 (by decide) (by decide), q8]; exact congrArg (·.2.2.2.2.2.2) a4.symm
  · rw [o 162 (by decide) (by decide), q9]; exact congrArg (·.2.2.2.2.1) a4.symm
  · rw [rk, ← e3, q10]
/-- a row of the model is written -/
theorem QC.frow (h : QC t0 ad x vn T s t) {c j : Nat} {w : Int32} {s' : KS} (hc : c = 182 ∨ c = 183 ∨ (j = x ∧ c = 184) ∨ (j = x ∧ c = 185) ∨ (j = x ∧ c = 186) ∨ c = 187 ∨ c = 162) (e1 : ks_op s' = if c = 182 then va_up (ks_op s) j w else ks_op s) (e2 : ks_od s' = if c = 183 then va_up (ks_od s) j w else ks_od s) (e3 : (if c = 184 then w else nI (ks_us s - 1600 * x)) = nI (ks_us s' - 1600 * x)) (e4 : 1600 * x ≤ ks_us s') (e5 : ks_sl s' = if c = 185 then w else ks_sl s) (e6 : ks_mh s' = if c = 186 then w else ks_mh s) (e7 : ks_h s' = ks_h s) (e8 : ks_so s' = if c = 187 then va_up (ks_so s) j w else ks_so s) (e9 : ks_ho s' = if c = 162 then va_up (ks_ho s) j w else ks_ho s) : QC t0 ad x vn T s' (g_si t (ad c) j w) := by
  obtain ⟨h1, h2, q1, q2, ⟨q3, q4⟩, q5, q6, q7, q8, q9, q10⟩ := h
  have hL := h1.L
  have hcl : c < 199 := by omega
  have rw1 : ∀ c', c' < 199 → (g_si t (ad c) j w).2.1 (ad c') = if c = c' then va_up (t.2.1 (ad c')) j w else t.2.1 (ad c') := fun c' hl => by
    by_cases z : c = c'
    · subst z; rw [if_pos rfl]; exact g_si_at
    · rw [if_neg z]; exact g_si_ne (hL.ne c' c hl hcl (Ne.symm z))
  have o : ∀ c', c ≠ c' → c' < 199 → (g_si t (ad c) j w).2.1 (ad c') = t.2.1 (ad c') := fun c' hc hl => by rw [rw1 c' hl, if_neg hc]
  refine ⟨h1.si (cmP_t (by omega)) hcl, h2.fr (P := fun a b => Nat.beq a c) ((gFr.rf hL).si (by simp) hcl) ?_ (fun _ => ?_) (fun _ => ?_) (fun _ => ?_), ?_, ?_, ⟨?_, e4⟩, ?_, ?_, ?_, ?_, ?_, ?_⟩
  · rcases hc with rfl | rfl | ⟨_, rfl⟩ | ⟨_, rfl⟩ | ⟨_, rfl⟩ | rfl | rfl <;> rfl
  · rcases hc with rfl | rfl | ⟨_, rfl⟩ | ⟨_, rfl⟩ | ⟨_, rfl⟩ | rfl | rfl <;> rfl
  · rcases hc with rfl | rfl | ⟨_, rfl⟩ | ⟨_, rfl⟩ | ⟨_, rfl⟩ | rfl | rfl <;> rfl
  · rcases hc with rfl | rfl | ⟨_, rfl⟩ | ⟨_, rfl⟩ | ⟨_, rfl⟩ | rfl | rfl <;> rfl
  · rw [rw1 182 (by decide), q1, e1]
  · rw [rw1 183 (by decide), q2, e2]
  · rw [rw1 184 (by decide), ← e3]
    by_cases z : c = 184
    · rw [if_pos z, if_pos z, show x = j by omega, va_up_self]
    · rw [if_neg z, if_neg z, q3]
  · rw [rw1 185 (by decide), e5]
    by_cases z : c = 185
    · rw [if_pos z, if_pos z, show x = j by omega, va_up_self]
    · rw [if_neg z, if_neg z, q5]
  · rw [rw1 186 (by decide), e6]
    by_cases z : c = 186
    · rw [if_pos z, if_pos z, show x = j by omega, va_up_self]
    · rw [if_neg z, if_neg z, q6]
  · rw [o 144 (by omega) (by decide), q7, e7]
  · rw [rw1 187 (by decide), q8, e8]
  · rw [rw1 162 (by decide), q9, e9]
  · rw [o 144 (by omega) (by decide), q10]
theorem QC.push (h : QC t0 ad x vn T s t) {T' : TK} {u : gSt} (hF : gFr ad tkP t u) (hR : RT ad T' u) : QC t0 ad x vn T' s u := by
  obtain ⟨h1, h2, q1, q2, ⟨q3, q4⟩, q5, q6, q7, q8, q9, q10⟩ := h
  have o : ∀ c, (c < 159 ∨ 161 < c) → c ≠ 144 → c < 199 → u.2.1 (ad c) = t.2.1 (ad c) := fun c h1 h2 hl => funext (fun k => hF.i c k (tkP_r (by omega)) hl)
  refine ⟨h1.tr (hF.mo (fun c k q => ?_)), hR, ?_, ?_, ⟨?_, q4⟩, ?_, ?_, ?_, ?_, ?_, ?_⟩
  · refine cmP_t ?_
    unfold tkP at q
    simp only [Bool.or_eq_true, Bool.and_eq_true, Nat.ble_eq, Nat.beq_eq] at q
    omega
  · rw [o 182 (by decide) (by decide) (by decide)]; exact q1
  · rw [o 183 (by decide) (by decide) (by decide)]; exact q2
  · rw [o 184 (by decide) (by decide) (by decide)]; exact q3
  · rw [o 185 (by decide) (by decide) (by decide)]; exact q5
  · rw [o 186 (by decide) (by decide) (by decide)]; exact q6
  · rw [hF.i 144 66 (tkP_r (by decide))]; exact q7
  · rw [o 187 (by decide) (by decide) (by decide)]; exact q8
  · rw [o 162 (by decide) (by decide) (by decide)]; exact q9
  · rw [hF.i 144 33 (tkP_r (by decide))]; exact q10
theorem m_cpush {k a b : Int32} (h : QC t0 ad x vn T s t) (hl : T.length < 20000) (hK : ∀ u, QC t0 ad x vn (T ++ [(k, a, b)]) s u → post none u) : g_E cx (d + 1) i_Mo_push [.ref (ad 144), .int k, .int a, .int b] t post := m_pushT h.1.L h.2.1 hl (fun u F R => hK u (h.push F R))
theorem QC.e65 (h : QC t0 ad x vn T s t) (h65 : t0.2.1 (ad 144) 65 = nI x) : t.2.1 (ad 144) 65 = nI x := by rw [h.1.i 144 65 (cmP_r (by omega))]; exact h65
theorem m_cinst {k n : Int32} (hx : x < 48) (h65 : t0.2.1 (ad 144) 65 = nI x) (h : QC t0 ad x vn T s t) (hu : ks_us s < 1600 * x + 1600) (hK : ∀ u, QC t0 ad x vn T (kEmit (1600 * x + 1600) k n s) u → post none u) : g_E cx (d + 1) i_Mo_instruction [.ref (ad 144), .int k, .int n] t post := by
  have hL := h.1.L
  have q3 := h.2.2.2.2.1
  have hv := vp_in_nI (N := 48) hx (by omega)
  have ix : (1600 : Int32) * nI x + nI (ks_us s - 1600 * x) = nI (ks_us s) := by rw [show (1600 : Int32) = nI 1600 from rfl, nI_mul, nI_add, show 1600 * x + (ks_us s - 1600 * x) = ks_us s by have := q3.2; omega]
  have he : kEmit (1600 * x + 1600) k n s = (va_up (ks_op s) (ks_us s) k, va_up (ks_od s) (ks_us s) n, ks_us s + 1, s.2.2.2) := if_pos hu
  refine x_Mo_instruction hL ?_
  rw [h.e65 h65, nI_clamp (n := x) (by omega), q3.1, ix]
  refine ⟨hv, vp_in_nI (by omega) (by omega), fun t1 e1 => ?_⟩
  rw [nI_clamp (by omega)] at e1
  have Q1 : QC t0 ad x vn T (va_up (ks_op s) (ks_us s) k, s.2) t1 := by
    rw [e1]
    exact h.frow (Or.inl rfl) rfl rfl rfl q3.2 rfl rfl rfl rfl rfl
  rw [Q1.e65 h65, nI_clamp (n := x) (by omega), Q1.2.2.2.2.1.1]
  show vp_in (nI x) 48 ∧ (vp_in ((1600 : Int32) * nI x + nI (ks_us s - 1600 * x)) 76800 ∧ _)
  rw [ix]
  refine ⟨hv, vp_in_nI (by omega) (by omega), fun t2 e2 => ?_⟩
  rw [nI_clamp (by omega)] at e2
  have Q2 : QC t0 ad x vn T (va_up (ks_op s) (ks_us s) k, va_up (ks_od s) (ks_us s) n, s.2.2) t2 := by
    rw [e2]
    exact Q1.frow (Or.inr (Or.inl rfl)) rfl rfl rfl q3.2 rfl rfl rfl rfl rfl
  rw [Q2.e65 h65, nI_clamp (n := x) (by omega), Q2.2.2.2.2.1.1]
  refine ⟨hv, hv, fun t3 e3 => hK t3 ?_⟩
  rw [he, e3]
  refine Q2.frow (Or.inr (Or.inr (Or.inl ⟨rfl, rfl⟩))) rfl rfl ?_ (by show 1600 * x ≤ ks_us s + 1; omega) rfl rfl rfl rfl rfl
  rw [if_pos rfl]
  show nI (ks_us s - 1600 * x) + 1 = nI (ks_us s + 1 - 1600 * x)
  rw [nI_1, show ks_us s - 1600 * x + 1 = ks_us s + 1 - 1600 * x by have := q3.2; omega]
theorem m_clays {a : Int32} (hx : x < 48) (h65 : t0.2.1 (ad 144) 65 = nI x) (h : QC t0 ad x vn T s t) (hK : ∀ u, QC t0 ad x vn T (kRise a s) u → post none u) : g_E cx (d + 1) i_Mo_lays [.ref (ad 144), .int a] t post := by
  have hv := vp_in_nI (N := 48) hx (by omega)
  have hr : kRise a s = (s.1, s.2.1, s.2.2.1, ks_h s + a, (if ks_mh s < ks_h s + a then ks_h s + a else ks_mh s), s.2.2.2.2.2) := rfl
  refine x_Mo_lays h.1.L (fun t1 e1 => ?_)
  have Q1 : QC t0 ad x vn T (s.1, s.2.1, s.2.2.1, ks_h s + a, s.2.2.2.2) t1 := by
    rw [e1]
    exact h.f144 (Or.inr rfl) rfl (by rw [if_pos rfl, h.2.2.2.2.2.2.2.1]) (by rw [if_neg (by decide)])
  rw [Q1.e65 h65, nI_clamp (n := x) (by omega), Q1.2.2.2.2.2.2.2.1, Q1.2.2.2.2.2.2.1]
  refine ⟨hv, fun c => ⟨hv, hv, fun t2 e2 => hK t2 ?_⟩, fun c => ⟨hv, fun t2 e2 => hK t2 ?_⟩⟩
  · rw [hr, e2, if_neg (show ¬ ks_mh s < ks_h s + a from Int32.not_lt.mpr c)]
    exact Q1.frow (Or.inr (Or.inr (Or.inr (Or.inr (Or.inl ⟨rfl, rfl⟩))))) rfl rfl rfl h.2.2.2.2.1.2 rfl rfl rfl rfl rfl
  · rw [hr, e2, if_pos (show ks_mh s < ks_h s + a from Int32.not_le.mp c)]
    exact Q1.frow (Or.inr (Or.inr (Or.inr (Or.inr (Or.inl ⟨rfl, rfl⟩))))) rfl rfl rfl h.2.2.2.2.1.2 rfl rfl rfl rfl rfl
theorem m_cslot {a : Int32} (hx : x < 48) (h65 : t0.2.1 (ad 144) 65 = nI x) (h : QC t0 ad x vn T s t) (hK : ∀ u, QC t0 ad x vn T (kUseN a s) u → post none u) : g_E cx (d + 1) i_Mo_slot [.ref (ad 144), .int a] t post := by
  have hv := vp_in_nI (N := 48) hx (by omega)
  have hr : kUseN a s = (s.1, s.2.1, s.2.2.1, s.2.2.2.1, s.2.2.2.2.1, (if ks_sl s < a + 1 then a + 1 else ks_sl s), s.2.2.2.2.2.2) := rfl
  refine x_Mo_slot h.1.L ?_
  rw [h.e65 h65, nI_clamp (n := x) (by omega), h.2.2.2.2.2.1]
  refine ⟨hv, fun c => ⟨hv, hv, fun t2 e2 => hK t2 ?_⟩, fun c => ⟨hv, fun t2 e2 => hK t2 ?_⟩⟩
  · rw [hr, e2, if_neg (Int32.not_lt.mpr c)]
    exact h.frow (Or.inr (Or.inr (Or.inr (Or.inl ⟨rfl, rfl⟩)))) rfl rfl rfl h.2.2.2.2.1.2 rfl rfl rfl rfl rfl
  · rw [hr, e2, if_pos (Int32.not_le.mp c)]
    exact h.frow (Or.inr (Or.inr (Or.inr (Or.inl ⟨rfl, rfl⟩)))) rfl rfl rfl h.2.2.2.2.1.2 rfl rfl rfl rfl rfl
theorem m_cgive {a : Int32} (hv : vn < 3100) (h : QC t0 ad x vn T s t) (hK : ∀ u, QC t0 ad x (vn + 1) T (kSetHo vn a s) u → post none u) : g_E cx (d + 1) i_Mo_give [.ref (ad 144), .int a] t post := by
  have e33 : t.2.1 (ad 144) 33 = nI vn := h.2.2.2.2.2.2.2.2.2.2
  refine x_Mo_give h.1.L ?_
  rw [e33]
  refine ⟨vp_in_nI hv (by omega), fun t1 e1 t2 e2 => hK t2 ?_⟩
  rw [nI_clamp (by omega)] at e1
  have Q1 : QC t0 ad x vn T (kSetHo vn a s) t1 := by
    rw [e1]
    exact h.frow (Or.inr (Or.inr (Or.inr (Or.inr (Or.inr (Or.inr rfl)))))) rfl rfl rfl h.2.2.2.2.1.2 rfl rfl rfl rfl rfl
  have e33' : t1.2.1 (ad 144) 33 = nI vn := Q1.2.2.2.2.2.2.2.2.2.2
  rw [e33', nI_1] at e2
  rw [e2]
  exact Q1.f144 (Or.inl rfl) rfl (by rw [if_neg (by decide)]) (by rw [if_pos rfl])
theorem m_cgot (hv : vn < 3100) (h : QC t0 ad x (vn + 1) T s t) (hK : ∀ u, QC t0 ad x vn T s u → post (some (.int (ks_ho s vn))) u) : g_E cx (d + 1) i_Mo_got [.ref (ad 144)] t post := by
  have e33 : t.2.1 (ad 144) 33 = nI (vn + 1) := h.2.2.2.2.2.2.2.2.2.2
  refine x_Mo_got h.1.L (fun t1 e1 => ?_)
  rw [e33, nI_pred] at e1
  have Q1 : QC t0 ad x vn T s t1 := by
    rw [e1]
    exact h.f144 (Or.inl rfl) rfl (by rw [if_neg (by decide)]) (by rw [if_pos rfl])
  have e33' : t1.2.1 (ad 144) 33 = nI vn := Q1.2.2.2.2.2.2.2.2.2.2
  rw [e33', nI_clamp (by omega), Q1.2.2.2.2.2.2.2.2.2.1]
  exact ⟨vp_in_nI hv (by omega), hK t1 Q1⟩
end MC
