/-! THE CLASS'S CODER, PURE: heights, slots, scopes -/
section K9
variable {cap base D : Nat} {k n x : Int32} {s : KS} {v : Nat}
theorem kE_h : ks_h (kEmit cap k n s) = ks_h s := congrArg (·.1) kE_ae
theorem kE_mh : ks_mh (kEmit cap k n s) = ks_mh s := congrArg (·.2.1) kE_ae
theorem kE_sl : ks_sl (kEmit cap k n s) = ks_sl s := congrArg (·.2.2.1) kE_ae
theorem kE_at : ks_ae (kEmit cap k n s) = ks_ae s := congrArg (·.2.2.2.1) kE_ae
theorem kE_ho : ks_ho (kEmit cap k n s) = ks_ho s := congrArg (·.2.2.2.2.2.1) kE_ae
theorem kE_be : ks_be (kEmit cap k n s) = ks_be s := congrArg (·.2.2.2.2.2.2.1) kE_ae
theorem kE_so : ks_so (kEmit cap k n s) = ks_so s := congrArg (·.2.2.2.2.2.2.2) kE_ae
theorem kE_us (h : ks_us s < cap) : ks_us (kEmit cap k n s) = ks_us s + 1 := by
  unfold kEmit
  rw [if_pos h]
theorem kF_rs : (kFill cap base x s).2.2 = s.2.2 := by
  unfold kFill
  split <;> rfl
theorem kF_h : ks_h (kFill cap base x s) = ks_h s := congrArg (·.2.1) kF_rs
theorem kF_mh : ks_mh (kFill cap base x s) = ks_mh s := congrArg (·.2.2.1) kF_rs
theorem kF_sl : ks_sl (kFill cap base x s) = ks_sl s := congrArg (·.2.2.2.1) kF_rs
theorem kF_so : ks_so (kFill cap base x s) = ks_so s := congrArg (·.2.2.2.2.2.2.2.2) kF_rs
theorem kF_us : ks_us (kFill cap base x s) = ks_us s := congrArg (·.1) kF_rs
theorem kF_be : ks_be (kFill cap base x s) = ks_be s := congrArg (·.2.2.2.2.2.2.2.1) kF_rs
theorem kR_h : ks_h (kRise x s) = ks_h s + x := rfl
theorem kR_mh : ks_mh (kRise x s) = if ks_mh s < ks_h s + x then ks_h s + x else ks_mh s := rfl
theorem kR_sl : ks_sl (kRise x s) = ks_sl s := rfl
theorem kR_us : ks_us (kRise x s) = ks_us s := rfl
theorem kR_so : ks_so (kRise x s) = ks_so s := rfl
theorem kR_ae : ks_ae (kRise x s) = ks_ae s := rfl
theorem kR_ho : ks_ho (kRise x s) = ks_ho s := rfl
theorem kR_be : ks_be (kRise x s) = ks_be s := rfl
theorem kU_h : ks_h (kUse v s) = ks_h s := rfl
theorem kU_mh : ks_mh (kUse v s) = ks_mh s := rfl
theorem kU_sl : ks_sl (kUse v s) = if ks_sl s < ks_so s v + 1 then ks_so s v + 1 else ks_sl s := rfl
theorem kU_so : ks_so (kUse v s) = ks_so s := rfl
theorem kU_us : ks_us (kUse v s) = ks_us s := rfl
theorem kU_ae : ks_ae (kUse v s) = ks_ae s := rfl
end K9
def KM (s : KS) (m z : Nat) : Prop := ks_mh s = nI m ∧ ks_sl s = nI z ∧ m ≤ 100000 ∧ z ≤ 100000
def KQ (s : KS) (h m z : Nat) : Prop := ks_h s = nI h ∧ h ≤ m ∧ KM s m z
theorem nI_mx {a b : Nat} (ha : a < 2 ^ 31) (hb : b < 2 ^ 31) : (if nI a < nI b then nI b else nI a) = nI (max a b) := by
  by_cases h : a < b
  · rw [if_pos (nI_lt h hb), Nat.max_eq_right (by omega)]
  · rw [if_neg (nI_nlt (by omega) ha), Nat.max_eq_left (by omega)]
theorem nI_dn (a b : Nat) : nI (a + b) + -(nI b) = nI a := by
  have := nI_sub (a := a + b) (b := b) (by omega)
  rw [Nat.add_sub_cancel] at this
  rw [← this, Int32.sub_eq_add_neg]
theorem nI_ch (a b : Nat) : nI (a + b) + (1 - nI b) = nI (a + 1) := by
  rw [Int32.sub_eq_add_neg, Int32.add_comm 1, ← Int32.add_assoc, nI_dn, nI_1]
section K9b
variable {cap base D h m z y x : Nat} {k n w : Int32} {s : KS} {v : Nat}
theorem KM.emit (q : KM s m z) : KM (kEmit cap k n s) m z := by
  unfold KM at q ⊢
  rw [kE_mh, kE_sl]
  exact q
theorem KM.fill (q : KM s m z) : KM (kFill cap base w s) m z := by
  unfold KM at q ⊢
  rw [kF_mh, kF_sl]
  exact q
theorem KM.seth (q : KM s m z) (hh : h ≤ m) : KQ (kSetH (nI h) s) h m z := ⟨rfl, hh, q⟩
theorem KQ.emit (q : KQ s h m z) : KQ (kEmit cap k n s) h m z := ⟨kE_h.trans q.1, q.2.1, q.2.2.emit⟩
theorem KQ.ho (q : KQ s h m z) : KQ (kSetHo D w s) h m z := q
theorem KQ.be (q : KQ s h m z) : KQ (kSetBe D w s) h m z := q
theorem KQ.rs (q : KQ s h m z) {h' : Nat} {x : Int32} (e : nI h + x = nI h') (hh : h' ≤ 100000) : KQ (kRise x s) h' (max m h') z := by
  obtain ⟨q1, q2, q3, q4, q5, q6⟩ := q
  have e' : ks_h s + x = nI h' := by rw [q1]; exact e
  refine ⟨kR_h.trans e', by omega, ?_, q4, by omega, q6⟩
  rw [kR_mh, e', q3]
  exact nI_mx (by omega) (by omega)
theorem KQ.up (q : KQ s h m z) (hh : h + 1 ≤ 100000) : KQ (kRise 1 s) (h + 1) (max m (h + 1)) z := q.rs (nI_1 h) hh
theorem KQ.dn (q : KQ s (h + x) m z) : KQ (kRise (-(nI x)) s) h m z := by
  have := q.2.1
  have h5 := q.2.2.2.2.1
  have e := q.rs (nI_dn h x) (by omega)
  rwa [Nat.max_eq_left (by omega)] at e
theorem KQ.dn1 (q : KQ s (h + 1) m z) : KQ (kRise (-1) s) h m z := q.dn (x := 1)
theorem KQ.ch (q : KQ s (h + x) m z) (hh : h + 1 ≤ 100000) : KQ (kRise (1 - nI x) s) (h + 1) (max m (h + 1)) z := q.rs (nI_ch h x) hh
theorem KQ.use (q : KQ s h m z) (e : ks_so s v = nI y) (hy : y + 1 ≤ 100000) : KQ (kUse v s) h m (max z (y + 1)) := by
  obtain ⟨q1, q2, q3, q4, q5, q6⟩ := q
  refine ⟨q1, q2, q3, ?_, q5, by omega⟩
  rw [kU_sl, e, nI_1, q4]
  exact nI_mx (by omega) (by omega)
end K9b
/-- one tree's greatest height and slots -/
def tM (tl : Bool) (k : Int32) (a : Fo) (e : Bool) (h m : Nat) : Nat := if k = 12 ∨ k = 14 ∨ k = 13 ∨ (k = 15 ∧ e = true ∧ tl = true) then eM tl a e k 0 h m else max (eM tl a e k 0 h m) (h + 1)
def tZ (k v : Int32) (a : Fo) (n : Nat) (σ : Int32 → Nat) (z : Nat) : Nat := if k = 2 then max (eZ a n σ k v 0 z) (σ v + 1) else eZ a n σ k v 0 z
theorem eM_in {tl : Bool} {y : Nat} {k v : Int32} {a b : Fo} {e : Bool} {pk : Int32} {i h m : Nat} : eM tl (.inner y k v a b) e pk i h m = eM tl b e pk (i + 1) h (tM tl k a (e && kLast pk i) (if pk = 12 ∨ pk = 14 ∨ pk = 13 then h else h + i) m) := rfl
theorem eZ_in {y : Nat} {k v : Int32} {a b : Fo} {n : Nat} {σ : Int32 → Nat} {pk pv : Int32} {i z : Nat} : eZ (.inner y k v a b) n σ pk pv i z = eZ b n σ pk pv (i + 1) (if pk = 14 ∧ i = 0 then max (tZ k v a (eD pk i n) (eV pk pv i n σ) z) (n + 1) else tZ k v a (eD pk i n) (eV pk pv i n σ) z) := rfl
theorem eF_in {tl : Bool} {own y : Nat} {k v : Int32} {a b : Fo} {e : Bool} {n : Nat} {σ : Int32 → Nat} {pk pv : Int32} {i o : Nat} : eF tl own (.inner y k v a b) e n σ pk pv i o = eX tl own k v a (e && kLast pk i) (eD pk i n) (eV pk pv i n σ) o ++ eS pk i e n (o + eH tl own (.inner y k v a b) e pk i + (if i = 0 then eH tl own b e pk 1 else eN tl own b e pk (i + 1))) ++ eF tl own b e n σ pk pv (i + 1) (o + eH tl own (.inner y k v a b) e pk i) := rfl
theorem eH_in {tl : Bool} {own y : Nat} {k v : Int32} {a b : Fo} {e : Bool} {pk : Int32} {i : Nat} : eH tl own (.inner y k v a b) e pk i = eXn tl own k v a (e && kLast pk i) + (eS pk i e 0 0).length := rfl
theorem eN_in {tl : Bool} {own y : Nat} {k v : Int32} {a b : Fo} {e : Bool} {pk : Int32} {i : Nat} : eN tl own (.inner y k v a b) e pk i = eXn tl own k v a (e && kLast pk i) + (eS pk i e 0 0).length + eN tl own b e pk (i + 1) := rfl
/-- the variables of a scope have their slots -/
def sC (S : List Int32) (σ : Int32 → Nat) (s : KS) : Prop := ∀ w ∈ S, ∃ j, w = nI j ∧ j < 120 ∧ ks_so s j = nI (σ w) ∧ σ w < 10000
def tB (k v : Int32) (a : Fo) : List Int32 := (if k = 14 then [v] else []) ++ fo_b a
theorem fo_b_in {y : Nat} {k v : Int32} {a b : Fo} : fo_b (.inner y k v a b) = tB k v a ++ fo_b b := rfl
/-- a tree is well formed, its variables told once -/
def tW (N : Nat) (par : Int32 → Nat) (k v : Int32) (a : Fo) (S : List Int32) : Prop :=
  (∃ j, 1 ≤ j ∧ j ≤ 15 ∧ k = nI j) ∧ fo_l a = k_ar par k v ∧ (k = 2 → v ∈ S) ∧ fo_w N par a (k_sc k v S) ∧ (tB k v a).Nodup ∧ ∀ w ∈ tB k v a, w ∉ S ∧ ∃ j, w = nI j ∧ j < 120
/-- what a tree's pass does -/
def KD (D : Nat) (e : Bool) (h m m' z' : Nat) (B : List Int32) (L : List (Int32 × Int32)) (s s' : KS) : Prop :=
  KR D s s' L ∧ KM s' m' z' ∧ m ≤ m' ∧ (e = false → ks_h s' = nI (h + 1) ∧ h + 1 ≤ m') ∧ ∀ j, j < 120 → nI j ∉ B → ks_so s' j = ks_so s j
def KT (cap base : Nat) (tl : Bool) (own : Nat) (par : Int32 → Nat) (N : Nat) (k v : Int32) (a : Fo) : Prop :=
  ∀ (D : Nat) (e : Bool) (n : Nat) (σ : Int32 → Nat) (S : List Int32) (h m z : Nat) (s : KS), ks_ae s D = b32 e → ks_ar s D = nI n → (k = 14 → ks_so s v.toNatClampNeg = nI n) → KQ s h m z → sC S σ s → tW N par k v a S → base ≤ ks_us s → ks_us s + eXn tl own k v a e ≤ cap → h + fo_n a + 1 ≤ 10000 → n + fo_n a + 1 ≤ 10000 →
    KD D e h m (tM tl k a e h m) (tZ k v a n σ z) (fo_b a) (eX tl own k v a e n σ (ks_us s - base)) s (kLv cap base D tl own par k v (kv cap base tl own par a D k v 0 s))
def KTs (cap base : Nat) (tl : Bool) (own : Nat) (par : Int32 → Nat) (N : Nat) : Fo → Prop
  | .inner _ k v a b => KT cap base tl own par N k v a ∧ KTs cap base tl own par N b
  | .leaf => True
section KE
variable {D : Nat} {pk k v : Int32} {i : Nat} {s : KS}
theorem kLet_f {D : Nat} : ((kLet k v D s).1, (kLet k v D s).2.1, (kLet k v D s).2.2.1, (kLet k v D s).2.2.2.1, (kLet k v D s).2.2.2.2.1, (kLet k v D s).2.2.2.2.2.1) = (s.1, s.2.1, s.2.2.1, s.2.2.2.1, s.2.2.2.2.1, s.2.2.2.2.2.1) ∧ ks_ae (kLet k v D s) = ks_ae s ∧ ks_ar (kLet k v D s) = ks_ar s ∧ ks_ho (kLet k v D s) = ks_ho s ∧ ks_be (kLet k v D s) = ks_be s ∧ ks_so (kLet k v D s) = if k = 14 then va_up (ks_so s) v.toNatClampNeg (ks_ar s D) else ks_so s := by
  unfold kLet
  split
  · exact ⟨rfl, rfl, rfl, rfl, rfl, rfl⟩
  · exact ⟨rfl, rfl, rfl, rfl, rfl, rfl⟩
theorem kEn1_f {h m z : Nat} {e : Bool} {n : Nat} (hae : ks_ae s D = b32 e) (har : ks_ar s D = nI n) (hq : KQ s h m z) : KR (D + 1) s (kEn1 (D + 1) pk i k v s) [] ∧ KQ (kEn1 (D + 1) pk i k v s) h m z ∧ ks_ae (kEn1 (D + 1) pk i k v s) (D + 1) = b32 (e && kLast pk i) ∧ ks_ar (kEn1 (D + 1) pk i k v s) (D + 1) = nI (eD pk i n) ∧ ks_so (kEn1 (D + 1) pk i k v s) = if k = 14 then va_up (ks_so s) v.toNatClampNeg (nI (eD pk i n)) else ks_so s := by
  obtain ⟨s1, e1⟩ : ∃ s1, kSetAr (D + 1) (ks_ar s D + b32 (decide (pk = 14) && decide (i = 1))) (kSetAe (D + 1) (b32 (decide (¬ ks_ae s D = 0) && kLast pk i)) s) = s1 := ⟨_, rfl⟩
  have er : kEn1 (D + 1) pk i k v s = kLet k v (D + 1) s1 := by rw [← e1]; rfl
  rw [er]
  obtain ⟨f1, f2, f3, f4, f5, f6⟩ := kLet_f (k := k) (v := v) (s := s1) (D := D + 1)
  simp only [Prod.mk.injEq] at f1
  obtain ⟨g1, g2, g3, g4, g5, g6⟩ := f1
  have x1 : ks_us s1 = ks_us s ∧ ks_op s1 = ks_op s ∧ ks_od s1 = ks_od s ∧ ks_h s1 = ks_h s ∧ ks_mh s1 = ks_mh s ∧ ks_sl s1 = ks_sl s ∧ ks_ho s1 = ks_ho s ∧ ks_be s1 = ks_be s ∧ ks_so s1 = ks_so s := by rw [← e1]; exact ⟨rfl, rfl, rfl, rfl, rfl, rfl, rfl, rfl, rfl⟩
  have x2 : ks_ae s1 = va_up (ks_ae s) (D + 1) (b32 (decide (¬ ks_ae s D = 0) && kLast pk i)) := by rw [← e1]; rfl
  have x3 : ks_ar s1 = va_up (ks_ar s) (D + 1) (ks_ar s D + b32 (decide (pk = 14) && decide (i = 1))) := by rw [← e1]; rfl
  obtain ⟨y1, y2, y3, y4, y5, y6, y7, y8, y9⟩ := x1
  have ee : decide (¬ ks_ae s D = 0) = e := by rw [hae]; cases e <;> rfl
  have en : ks_ar s D + b32 (decide (pk = 14) && decide (i = 1)) = nI (eD pk i n) := by
    rw [har]
    unfold eD
    by_cases c : pk = 14 ∧ i = 1
    · rw [if_pos c, decide_eq_true c.1, decide_eq_true c.2]
      exact nI_1 n
    · rw [if_neg c]
      have : (decide (pk = 14) && decide (i = 1)) = false := by
        rw [← Bool.decide_and]
        exact decide_eq_false c
      rw [this]
      exact Int32.add_zero _
  rw [ee] at x2
  rw [en] at x3
  refine ⟨.kp (g3.trans y1) (g1.trans y2) (g2.trans y3) (fun j hj => ⟨?_, ?_, ?_, ?_⟩), ⟨(g4.trans y4).trans hq.1, hq.2.1, (g5.trans y5).trans hq.2.2.1, (g6.trans y6).trans hq.2.2.2.1, hq.2.2.2.2⟩, ?_, ?_, ?_⟩
  · rw [f2, x2, va_up_ne _ _ (by omega)]
  · rw [f3, x3, va_up_ne _ _ (by omega)]
  · rw [f4, y7]
  · rw [f5, y8]
  · rw [f2, x2, va_up_self]
  · rw [f3, x3, va_up_self]
  · rw [f6, x3, va_up_self, y9]
end KE
section KI
variable {cap base : Nat} {tl : Bool} {own : Nat} {par : Int32 → Nat} {N : Nat}
/-- a kid, from its parent's state -/
theorem kid_ok {k v : Int32} {a : Fo} (T : KT cap base tl own par N k v a) {D : Nat} {e : Bool} {n : Nat} {σ : Int32 → Nat} {S : List Int32} {h m z : Nat} {s : KS} {pk : Int32} {i n' : Nat} {e' : Bool} (hae : ks_ae s D = b32 e) (har : ks_ar s D = nI n) (hq : KQ s h m z) (hS : sC S σ s) (hW : tW N par k v a S) (hb : base ≤ ks_us s) (he : e' = (e && kLast pk i)) (hn : n' = eD pk i n) (hc : ks_us s + eXn tl own k v a e' ≤ cap) (h1 : h + fo_n a + 1 ≤ 10000) (h2 : n' + fo_n a + 1 ≤ 10000) :
    KD (D + 1) e' h m (tM tl k a e' h m) (tZ k v a n' σ z) (tB k v a) (eX tl own k v a e' n' σ (ks_us s - base)) s (kLv cap base (D + 1) tl own par k v (kv cap base tl own par a (D + 1) k v 0 (kEn1 (D + 1) pk i k v s))) := by
  subst he hn
  obtain ⟨f1, f2, f3, f4, f5⟩ := kEn1_f (pk := pk) (i := i) (k := k) (v := v) hae har hq
  have hus : ks_us (kEn1 (D + 1) pk i k v s) = ks_us s := f1.1
  have hv : k = 14 → ∃ j, v = nI j ∧ j < 120 ∧ v ∉ S := fun c => by
    obtain ⟨q1, j, q2, q3⟩ := hW.2.2.2.2.2 v (by unfold tB; rw [if_pos c]; simp)
    exact ⟨j, q2, q3, q1⟩
  obtain ⟨g1, g2, g3, g4, g5⟩ := T (D + 1) (e && kLast pk i) (eD pk i n) σ S h m z (kEn1 (D + 1) pk i k v s) f3 f4 (fun c => by rw [f5, if_pos c, va_up_self]) f2 (fun w hw => by
      obtain ⟨j, q1, q2, q3, q4⟩ := hS w hw
      refine ⟨j, q1, q2, ?_, q4⟩
      rw [f5]
      by_cases c : k = 14
      · obtain ⟨j2, r1, r2, r3⟩ := hv c
        rw [if_pos c, va_up_ne, q3]
        intro c2
        rw [r1, nI_clamp (by omega)] at c2
        exact r3 (by rw [r1, ← c2, ← q1]; exact hw)
      · rw [if_neg c, q3]) hW (by rw [hus]; exact hb) (by rw [hus]; exact hc) h1 h2
  rw [hus] at g1
  refine ⟨?_, g2, g3, g4, fun j hj hB => ?_⟩
  · exact f1.tr g1
  · unfold tB at hB
    rw [List.mem_append] at hB
    rw [g5 j hj (fun q => hB (Or.inr q)), f5]
    by_cases c : k = 14
    · obtain ⟨j2, r1, r2, r3⟩ := hv c
      rw [if_pos c, va_up_ne]
      intro c2
      rw [r1, nI_clamp (by omega)] at c2
      exact hB (Or.inl (by rw [if_pos c, r1, c2]; simp))
    · rw [if_neg c]
end KI
