/-! THE CLASS'S CODER: its rows as a state; what its small methods do to it -/
/-- operation, operand, used, height, most height, slots, atEnd, around, hole, below, slotOf -/
abbrev KS : Type := (Nat → Int32) × (Nat → Int32) × Nat × Int32 × Int32 × Int32 × (Nat → Int32) × (Nat → Int32) × (Nat → Int32) × (Nat → Int32) × (Nat → Int32)
abbrev ks_op (s : KS) : Nat → Int32 := s.1
abbrev ks_od (s : KS) : Nat → Int32 := s.2.1
abbrev ks_us (s : KS) : Nat := s.2.2.1
abbrev ks_h (s : KS) : Int32 := s.2.2.2.1
abbrev ks_mh (s : KS) : Int32 := s.2.2.2.2.1
abbrev ks_sl (s : KS) : Int32 := s.2.2.2.2.2.1
abbrev ks_ae (s : KS) : Nat → Int32 := s.2.2.2.2.2.2.1
abbrev ks_ar (s : KS) : Nat → Int32 := s.2.2.2.2.2.2.2.1
abbrev ks_ho (s : KS) : Nat → Int32 := s.2.2.2.2.2.2.2.2.1
abbrev ks_be (s : KS) : Nat → Int32 := s.2.2.2.2.2.2.2.2.2.1
abbrev ks_so (s : KS) : Nat → Int32 := s.2.2.2.2.2.2.2.2.2.2
def kEmit (cap : Nat) (k n : Int32) (s : KS) : KS := if ks_us s < cap then (va_up (ks_op s) (ks_us s) k, va_up (ks_od s) (ks_us s) n, ks_us s + 1, s.2.2.2) else s
def kRise (x : Int32) (s : KS) : KS := (s.1, s.2.1, s.2.2.1, ks_h s + x, (if ks_mh s < ks_h s + x then ks_h s + x else ks_mh s), s.2.2.2.2.2)
def kUse (v : Nat) (s : KS) : KS := (s.1, s.2.1, s.2.2.1, s.2.2.2.1, s.2.2.2.2.1, (if ks_sl s < ks_so s v + 1 then ks_so s v + 1 else ks_sl s), s.2.2.2.2.2.2)
def kFill (cap base : Nat) (a : Int32) (s : KS) : KS := if nI cap ≤ a then s else (s.1, va_up (ks_od s) a.toNatClampNeg (nI (ks_us s) - nI base), s.2.2)
def kSetH (x : Int32) (s : KS) : KS := (s.1, s.2.1, s.2.2.1, x, s.2.2.2.2)
def kSetAe (j : Nat) (x : Int32) (s : KS) : KS := (s.1, s.2.1, s.2.2.1, s.2.2.2.1, s.2.2.2.2.1, s.2.2.2.2.2.1, va_up (ks_ae s) j x, s.2.2.2.2.2.2.2)
def kSetAr (j : Nat) (x : Int32) (s : KS) : KS := (s.1, s.2.1, s.2.2.1, s.2.2.2.1, s.2.2.2.2.1, s.2.2.2.2.2.1, s.2.2.2.2.2.2.1, va_up (ks_ar s) j x, s.2.2.2.2.2.2.2.2)
def kSetHo (j : Nat) (x : Int32) (s : KS) : KS := (s.1, s.2.1, s.2.2.1, s.2.2.2.1, s.2.2.2.2.1, s.2.2.2.2.2.1, s.2.2.2.2.2.2.1, s.2.2.2.2.2.2.2.1, va_up (ks_ho s) j x, s.2.2.2.2.2.2.2.2.2)
def kSetBe (j : Nat) (x : Int32) (s : KS) : KS := (s.1, s.2.1, s.2.2.1, s.2.2.2.1, s.2.2.2.2.1, s.2.2.2.2.2.1, s.2.2.2.2.2.2.1, s.2.2.2.2.2.2.2.1, s.2.2.2.2.2.2.2.2.1, va_up (ks_be s) j x, s.2.2.2.2.2.2.2.2.2.2)
def kSetSo (j : Nat) (x : Int32) (s : KS) : KS := (s.1, s.2.1, s.2.2.1, s.2.2.2.1, s.2.2.2.2.1, s.2.2.2.2.2.1, s.2.2.2.2.2.2.1, s.2.2.2.2.2.2.2.1, s.2.2.2.2.2.2.2.2.1, s.2.2.2.2.2.2.2.2.2.1, va_up (ks_so s) j x)
/-- places of the coder that change in a function's walk -/
def ckP (p c k : Nat) : Bool := (Nat.ble 68 c && Nat.ble c 78) || Nat.beq c (p + 14) || Nat.beq c (p + 15) || (Nat.beq c 67 && (Nat.ble 9 k && Nat.ble k 12))
theorem ckP_in {p c k : Nat} (h : ckP p c k = true) : (68 ≤ c ∧ c ≤ 78) ∨ c = p + 14 ∨ c = p + 15 ∨ (c = 67 ∧ 9 ≤ k ∧ k ≤ 12) := by
  unfold ckP at h
  simp only [Bool.or_eq_true, Bool.and_eq_true, Nat.ble_eq, Nat.beq_eq] at h
  omega
theorem ckP_r {p c k : Nat} (h : ¬ ((68 ≤ c ∧ c ≤ 78) ∨ c = p + 14 ∨ c = p + 15 ∨ (c = 67 ∧ 9 ≤ k ∧ k ≤ 12))) : ckP p c k = false := by
  cases e : ckP p c k with
  | false => rfl
  | true => exact absurd (ckP_in e) h
theorem ckP_t {p c k : Nat} (h : (68 ≤ c ∧ c ≤ 78) ∨ c = p + 14 ∨ c = p + 15 ∨ (c = 67 ∧ 9 ≤ k ∧ k ≤ 12)) : ckP p c k = true := by
  unfold ckP
  simp only [Bool.or_eq_true, Bool.and_eq_true, Nat.ble_eq, Nat.beq_eq]
  omega
/-- the same without the walk -/
def khP (p c k : Nat) : Bool := (Nat.ble 74 c && Nat.ble c 78) || Nat.beq c (p + 14) || Nat.beq c (p + 15) || (Nat.beq c 67 && (Nat.ble 9 k && Nat.ble k 12))
theorem khP_in {p c k : Nat} (h : khP p c k = true) : (74 ≤ c ∧ c ≤ 78) ∨ c = p + 14 ∨ c = p + 15 ∨ (c = 67 ∧ 9 ≤ k ∧ k ≤ 12) := by
  unfold khP at h
  simp only [Bool.or_eq_true, Bool.and_eq_true, Nat.ble_eq, Nat.beq_eq] at h
  omega
theorem khP_r {p c k : Nat} (h : ¬ ((74 ≤ c ∧ c ≤ 78) ∨ c = p + 14 ∨ c = p + 15 ∨ (c = 67 ∧ 9 ≤ k ∧ k ≤ 12))) : khP p c k = false := by
  cases e : khP p c k with
  | false => rfl
  | true => exact absurd (khP_in e) h
theorem khP_t {p c k : Nat} (h : (74 ≤ c ∧ c ≤ 78) ∨ c = p + 14 ∨ c = p + 15 ∨ (c = 67 ∧ 9 ≤ k ∧ k ≤ 12)) : khP p c k = true := by
  unfold khP
  simp only [Bool.or_eq_true, Bool.and_eq_true, Nat.ble_eq, Nat.beq_eq]
  omega
/-- the coder holds s -/
def QK (t0 : gSt) (ad : Nat → Nat) (p : Nat) (s : KS) (t : gSt) : Prop :=
  gFr ad (ckP p) t0 t ∧ (t.2.1 (ad (p + 14)) = ks_op s ∧ t.2.1 (ad (p + 15)) = ks_od s) ∧ (t.2.1 (ad 67) 9 = nI (ks_us s) ∧ ks_us s ≤ c_len (p + 14)) ∧ (t.2.1 (ad 67) 10 = ks_h s ∧ t.2.1 (ad 67) 11 = ks_mh s ∧ t.2.1 (ad 67) 12 = ks_sl s) ∧ (t.2.1 (ad 74) = ks_ae s ∧ t.2.1 (ad 75) = ks_ar s ∧ t.2.1 (ad 76) = ks_ho s ∧ t.2.1 (ad 77) = ks_be s ∧ t.2.1 (ad 78) = ks_so s) ∧ ∀ j, ¬ ks_ho s j < 0
section CD
variable {cx : gCx} {d : Nat} {ad : Nat → Nat} {t0 t : gSt} {post : Option Value → gSt → Prop} {p : Nat} {s : KS}
theorem capL (hp : isP p) : c_len (p + 14) < 2 ^ 30 ∧ c_len (p + 15) = c_len (p + 14) := by rcases hp with rfl | rfl | rfl <;> decide
/-- one field of the coder is written -/
theorem QK.f67 (h : QK t0 ad p s t) {k : Nat} {x : Int32} {s' : KS} (hk : 9 ≤ k ∧ k ≤ 12) (e1 : ks_op s' = ks_op s ∧ ks_od s' = ks_od s) (e2 : ks_us s' ≤ c_len (p + 14) ∧ (if k = 9 then x else t.2.1 (ad 67) 9) = nI (ks_us s')) (e3 : (if k = 10 then x else t.2.1 (ad 67) 10) = ks_h s' ∧ (if k = 11 then x else t.2.1 (ad 67) 11) = ks_mh s' ∧ (if k = 12 then x else t.2.1 (ad 67) 12) = ks_sl s') (e4 : ks_ae s' = ks_ae s ∧ ks_ar s' = ks_ar s ∧ ks_ho s' = ks_ho s ∧ ks_be s' = ks_be s ∧ ks_so s' = ks_so s) (hp : isP p) : QK t0 ad p s' (g_si t (ad 67) k x) := by
  obtain ⟨h1, ⟨h2, h3⟩, ⟨h4, h5⟩, ⟨h6, h7, h8⟩, ⟨h9, h10, h11, h12, h13⟩, h14⟩ := h
  have hpg := hp.ge
  have hpl := hp.lt
  have o : ∀ c, c ≠ 67 → c < 199 → (g_si t (ad 67) k x).2.1 (ad c) = t.2.1 (ad c) := fun c hc hl => g_si_ne (h1.L.ne c 67 hl (by decide) hc)
  have rk : ∀ j, (g_si t (ad 67) k x).2.1 (ad 67) j = if k = j then x else t.2.1 (ad 67) j := fun j => by
    by_cases z : k = j
    · rw [if_pos z, ← z, g_rd_at]
    · rw [if_neg z, g_rd_k (Ne.symm z)]
  refine ⟨h1.si (ckP_t (by omega)), ⟨?_, ?_⟩, ⟨?_, e2.1⟩, ⟨?_, ?_, ?_⟩, ⟨?_, ?_, ?_, ?_, ?_⟩, ?_⟩
  · rw [o _ (by omega) (by omega), h2, e1.1]
  · rw [o _ (by omega) (by omega), h3, e1.2]
  · rw [rk]; exact e2.2
  · rw [rk]; exact e3.1
  · rw [rk]; exact e3.2.1
  · rw [rk]; exact e3.2.2
  · rw [o _ (by decide) (by decide), h9, e4.1]
  · rw [o _ (by decide) (by decide), h10, e4.2.1]
  · rw [o _ (by decide) (by decide), h11, e4.2.2.1]
  · rw [o _ (by decide) (by decide), h12, e4.2.2.2.1]
  · rw [o _ (by decide) (by decide), h13, e4.2.2.2.2]
  · rw [e4.2.2.1]; exact h14
theorem m_krise {x : Int32} (hp : isP p) (hQ : QK t0 ad p s t) (h : ∀ u, QK t0 ad p (kRise x s) u → gFr ad (khP p) t u → post none u) : g_E cx (d + 1) i_Coder_rise [.ref (ad 67), .int x] t post := by
  have hL := hQ.1.L
  refine x_Coder_rise hL (fun t1 e1 t2 e2 => ?_)
  obtain ⟨h6, h7, h8⟩ := hQ.2.2.2.1
  have Q1 : QK t0 ad p (kSetH (ks_h s + x) s) t1 := by
    rw [e1]
    exact hQ.f67 (by decide) ⟨rfl, rfl⟩ ⟨hQ.2.2.1.2, hQ.2.2.1.1⟩ ⟨by rw [if_pos rfl, h6]; rfl, h7, h8⟩ ⟨rfl, rfl, rfl, rfl, rfl⟩ hp
  obtain ⟨k6, k7, k8⟩ := Q1.2.2.2.1
  refine h t2 ?_ (by rw [e2, e1]; exact ((gFr.rf hL).si (khP_t (by omega))).si (khP_t (by omega)))
  rw [k6, k7] at e2
  rw [e2]
  exact Q1.f67 (by decide) ⟨rfl, rfl⟩ ⟨Q1.2.2.1.2, Q1.2.2.1.1⟩ ⟨k6, by rw [if_pos rfl]; rfl, k8⟩ ⟨rfl, rfl, rfl, rfl, rfl⟩ hp
theorem m_kuse {v : Nat} (hp : isP p) (hv : v < 120) (hQ : QK t0 ad p s t) (h : ∀ u, QK t0 ad p (kUse v s) u → gFr ad (khP p) t u → post (some (.int (ks_so s v))) u) : g_E cx (d + 1) i_Coder_useSlot [.ref (ad 67), .int (nI v)] t post := by
  have hL := hQ.1.L
  refine x_Coder_useSlot hL ⟨vp_in_nI hv (by omega), fun x1 e1 t2 e2 => ?_⟩
  obtain ⟨h6, h7, h8⟩ := hQ.2.2.2.1
  have h13 := hQ.2.2.2.2.1.2.2.2.2
  rw [nI_clamp (by omega), h13] at e1
  subst e1
  refine h t2 ?_ (by rw [e2]; exact (gFr.rf hL).si (khP_t (by omega)))
  rw [h8] at e2
  rw [e2]
  exact hQ.f67 (by decide) ⟨rfl, rfl⟩ ⟨hQ.2.2.1.2, hQ.2.2.1.1⟩ ⟨h6, h7, by rw [if_pos rfl]; rfl⟩ ⟨rfl, rfl, rfl, rfl, rfl⟩ hp
theorem m_kemit {k n : Int32} (hp : isP p) (hr : t.2.2.2 (ad 67) 6 = some (ad p)) (hQ : QK t0 ad p s t) (h : ∀ u, QK t0 ad p (kEmit (c_len (p + 14)) k n s) u → gFr ad (khP p) t u → post (some (.int (nI (ks_us s)))) u) : g_E cx (d + 1) i_Coder_emit [.ref (ad 67), .int k, .int n] t post := by
  have hL := hQ.1.L
  have hpg := hp.ge
  have hpl := hp.lt
  have hc := capL hp
  obtain ⟨h1, ⟨h2, h3⟩, ⟨h4, h5⟩, ⟨h6, h7, h8⟩, ⟨h9, h10, h11, h12, h13⟩, h14⟩ := hQ
  have hlen : (Int32.ofNat (t.1.2.2 (ad (p + 14)))) = nI (c_len (p + 14)) := by rw [hL.pl2 hp 14 (by decide)]; rfl
  refine x_Coder_emit hp hL hr (fun x1 e1 => ?_)
  rw [h4] at e1
  subst e1
  rw [hlen, nI_leI (by omega) (by omega)]
  refine ⟨fun c => h t ?_ (gFr.rf hL), fun c => ⟨vp_in_nI (by omega) (by omega), fun t2 e2 => ⟨vp_in_nI (by omega) (by omega), fun t3 e3 t4 e4 => h t4 ?_ ?_⟩⟩⟩
  · have e : kEmit (c_len (p + 14)) k n s = s := if_neg (by omega)
    rw [e]
    exact ⟨h1, ⟨h2, h3⟩, ⟨h4, h5⟩, ⟨h6, h7, h8⟩, ⟨h9, h10, h11, h12, h13⟩, h14⟩
  · rw [nI_clamp (by omega)] at e2 e3
    have n1 : ∀ c, c ≠ p + 14 → c < 199 → t2.2.1 (ad c) = t.2.1 (ad c) := fun c hc hl => by rw [e2]; exact g_si_ne (hL.ne c _ hl (by omega) hc)
    have n2 : ∀ c, c ≠ p + 14 → c ≠ p + 15 → c < 199 → t3.2.1 (ad c) = t.2.1 (ad c) := fun c hc hc2 hl => by rw [e3, g_si_ne (hL.ne c _ hl (by omega) hc2), n1 c hc hl]
    rw [n2 67 (by omega) (by omega) (by decide), h4, nI_1] at e4
    have n3 : ∀ c, c ≠ p + 14 → c ≠ p + 15 → c ≠ 67 → c < 199 → t4.2.1 (ad c) = t.2.1 (ad c) := fun c hc hc2 hc3 hl => by rw [e4, g_si_ne (hL.ne c _ hl (by decide) hc3), n2 c hc hc2 hl]
    have k4 : ∀ j, j ≠ 9 → t4.2.1 (ad 67) j = t.2.1 (ad 67) j := fun j hj => by rw [e4, g_rd_k hj, n2 67 (by omega) (by omega) (by decide)]
    have e : kEmit (c_len (p + 14)) k n s = (va_up (ks_op s) (ks_us s) k, va_up (ks_od s) (ks_us s) n, ks_us s + 1, s.2.2.2) := if_pos (by omega)
    rw [e]
    refine ⟨?_, ⟨?_, ?_⟩, ⟨by rw [e4, g_rd_at], by show ks_us s + 1 ≤ _; omega⟩, ⟨?_, ?_, ?_⟩, ⟨?_, ?_, ?_, ?_, ?_⟩, h14⟩
    · rw [e4, e3, e2]
      exact ((h1.si (ckP_t (by omega)) (by omega)).si (ckP_t (by omega)) (by omega)).si (ckP_t (by omega))
    · rw [e4, g_si_ne (hL.ne _ _ (by omega) (by decide) (by omega)), e3, g_si_ne (hL.ne _ _ (by omega) (by omega) (by omega)), e2, g_si_at, h2]
    · rw [e4, g_si_ne (hL.ne _ _ (by omega) (by decide) (by omega)), e3, g_si_at, n1 _ (by omega) (by omega), h3]
    · rw [k4 10 (by decide)]; exact h6
    · rw [k4 11 (by decide)]; exact h7
    · rw [k4 12 (by decide)]; exact h8
    · rw [n3 74 (by omega) (by omega) (by decide) (by decide)]; exact h9
    · rw [n3 75 (by omega) (by omega) (by decide) (by decide)]; exact h10
    · rw [n3 76 (by omega) (by omega) (by decide) (by decide)]; exact h11
    · rw [n3 77 (by omega) (by omega) (by decide) (by decide)]; exact h12
    · rw [n3 78 (by omega) (by omega) (by decide) (by decide)]; exact h13
  · rw [e4, e3, e2]
    exact (((gFr.rf hL).si (khP_t (by omega)) (by omega)).si (khP_t (by omega)) (by omega)).si (khP_t (by omega))
theorem m_kfill {a : Int32} {f base : Nat} (hp : isP p) (hr : t.2.2.2 (ad 67) 6 = some (ad p)) (hf : f < 24) (h8 : t.2.1 (ad 67) 8 = nI f) (hb : t.2.1 (ad (p + 7)) f = nI base) (ha : ¬ a < 0) (hQ : QK t0 ad p s t) (h : ∀ u, QK t0 ad p (kFill (c_len (p + 15)) base a s) u → gFr ad (khP p) t u → post none u) : g_E cx (d + 1) i_Coder_fillWithHere [.ref (ad 67), .int a] t post := by
  have hL := hQ.1.L
  have hpg := hp.ge
  have hpl := hp.lt
  have hc := capL hp
  obtain ⟨h1, ⟨h2, h3⟩, ⟨h4, h5⟩, ⟨h6, h7, h8'⟩, ⟨h9, h10, h11, h12, h13⟩, h14⟩ := hQ
  have hlen : (Int32.ofNat (t.1.2.2 (ad (p + 15)))) = nI (c_len (p + 15)) := by rw [hL.pl2 hp 15 (by decide)]; rfl
  obtain ⟨x, hx, ex⟩ := nI_of ha
  subst ex
  refine x_Coder_fillWithHere hp hL hr ?_
  rw [hlen, h8, nI_clamp (n := f) (by omega), hb, h4]
  refine ⟨fun c => h t ?_ (gFr.rf hL), fun c => ⟨vp_in_nI hf (by omega), ?_, fun t1 e1 => h t1 ?_ (by rw [e1]; exact (gFr.rf hL).si (khP_t (by omega)) (by omega))⟩⟩
  · have e : kFill (c_len (p + 15)) base (nI x) s = s := if_pos c
    rw [e]
    exact ⟨h1, ⟨h2, h3⟩, ⟨h4, h5⟩, ⟨h6, h7, h8'⟩, ⟨h9, h10, h11, h12, h13⟩, h14⟩
  · rw [nI_leI (by omega) (by omega)] at c
    exact vp_in_nI (by omega) (by omega)
  · have e : kFill (c_len (p + 15)) base (nI x) s = (s.1, va_up (ks_od s) (nI x).toNatClampNeg (nI (ks_us s) - nI base), s.2.2) := if_neg c
    rw [e]
    have n1 : ∀ c, c ≠ p + 15 → c < 199 → t1.2.1 (ad c) = t.2.1 (ad c) := fun c hc hl => by rw [e1]; exact g_si_ne (hL.ne c _ hl (by omega) hc)
    refine ⟨?_, ⟨?_, ?_⟩, ⟨by rw [n1 67 (by omega) (by decide)]; exact h4, h5⟩, ⟨?_, ?_, ?_⟩, ⟨?_, ?_, ?_, ?_, ?_⟩, h14⟩
    · rw [e1]; exact h1.si (ckP_t (by omega)) (by omega)
    · rw [n1 _ (by omega) (by omega)]; exact h2
    · rw [e1, g_si_at, h3]
    · rw [n1 67 (by omega) (by decide)]; exact h6
    · rw [n1 67 (by omega) (by decide)]; exact h7
    · rw [n1 67 (by omega) (by decide)]; exact h8'
    · rw [n1 74 (by omega) (by decide)]; exact h9
    · rw [n1 75 (by omega) (by decide)]; exact h10
    · rw [n1 76 (by omega) (by decide)]; exact h11
    · rw [n1 77 (by omega) (by decide)]; exact h12
    · rw [n1 78 (by omega) (by decide)]; exact h13
/-- a row of the coder is written -/
theorem QK.rw (hp : isP p) (hQ : QK t0 ad p s t) {c j : Nat} {x : Int32} {s' : KS} (hc : 74 ≤ c ∧ c ≤ 78) (e0 : (s'.1, s'.2.1, s'.2.2.1, s'.2.2.2.1, s'.2.2.2.2.1, s'.2.2.2.2.2.1) = (s.1, s.2.1, s.2.2.1, s.2.2.2.1, s.2.2.2.2.1, s.2.2.2.2.2.1)) (e1 : ks_ae s' = if c = 74 then va_up (ks_ae s) j x else ks_ae s) (e2 : ks_ar s' = if c = 75 then va_up (ks_ar s) j x else ks_ar s) (e3 : ks_ho s' = if c = 76 then va_up (ks_ho s) j x else ks_ho s) (e4 : ks_be s' = if c = 77 then va_up (ks_be s) j x else ks_be s) (e5 : ks_so s' = if c = 78 then va_up (ks_so s) j x else ks_so s) (hx : c = 76 → ¬ x < 0) : QK t0 ad p s' (g_si t (ad c) j x) ∧ gFr ad (khP p) t (g_si t (ad c) j x) := by
  have hL := hQ.1.L
  have hpg := hp.ge
  have hpl := hp.lt
  obtain ⟨h1, ⟨h2, h3⟩, ⟨h4, h5⟩, ⟨h6, h7, h8'⟩, ⟨h9, h10, h11, h12, h13⟩, h14⟩ := hQ
  simp only [Prod.mk.injEq] at e0
  obtain ⟨a1, a2, a3, a4, a5, a6⟩ := e0
  have n1 : ∀ c', c' ≠ c → c' < 199 → (g_si t (ad c) j x).2.1 (ad c') = t.2.1 (ad c') := fun c' hc' hl => g_si_ne (hL.ne c' c hl (by omega) hc')
  have rw1 : ∀ c', c' < 199 → (g_si t (ad c) j x).2.1 (ad c') = if c = c' then va_up (t.2.1 (ad c')) j x else t.2.1 (ad c') := fun c' hl => by
    by_cases z : c = c'
    · subst z; rw [if_pos rfl]; exact g_si_at
    · rw [if_neg z, n1 c' (Ne.symm z) hl]
  refine ⟨⟨h1.si (ckP_t (by omega)) (by omega), ⟨?_, ?_⟩, ⟨?_, by show s'.2.2.1 ≤ _; rw [a3]; exact h5⟩, ⟨?_, ?_, ?_⟩, ⟨?_, ?_, ?_, ?_, ?_⟩, ?_⟩, (gFr.rf hL).si (khP_t (by omega)) (by omega)⟩
  · rw [n1 _ (by omega) (by omega), h2]; exact a1.symm
  · rw [n1 _ (by omega) (by omega), h3]; exact a2.symm
  · rw [n1 67 (by omega) (by decide), h4]; exact congrArg nI a3.symm
  · rw [n1 67 (by omega) (by decide), h6]; exact a4.symm
  · rw [n1 67 (by omega) (by decide), h7]; exact a5.symm
  · rw [n1 67 (by omega) (by decide), h8']; exact a6.symm
  · rw [rw1 74 (by decide), h9, e1]
  · rw [rw1 75 (by decide), h10, e2]
  · rw [rw1 76 (by decide), h11, e3]
  · rw [rw1 77 (by decide), h12, e4]
  · rw [rw1 78 (by decide), h13, e5]
  · rw [e3]
    intro i
    split
    · rename_i z
      unfold va_up
      split
      · exact hx z
      · exact h14 i
    · exact h14 i
end CD
