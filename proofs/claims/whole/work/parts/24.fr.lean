/-! FRAMES: what a stretch of a run may have changed, by cell number and place -/
theorem g_rdi {t : gSt} {a k b j : Nat} {v : Int32} : (g_si t a k v).2.1 b j = if b = a ∧ j = k then v else t.2.1 b j := by
  show g_up t.2.1 a k v b j = _
  unfold g_up
  by_cases h : b = a <;> by_cases h2 : j = k <;> simp [h, h2]
theorem g_rdj {t : gSt} {a k b j : Nat} {v : Int64} : (g_sj t a k v).2.2.1 b j = if b = a ∧ j = k then v else t.2.2.1 b j := by
  show g_up t.2.2.1 a k v b j = _
  unfold g_up
  by_cases h : b = a <;> by_cases h2 : j = k <;> simp [h, h2]
theorem g_rdr {t : gSt} {a k b j : Nat} {v : Option Nat} : (g_sr t a k v).2.2.2 b j = if b = a ∧ j = k then v else t.2.2.2 b j := by
  show g_up t.2.2.2 a k v b j = _
  unfold g_up
  by_cases h : b = a <;> by_cases h2 : j = k <;> simp [h, h2]
theorem g_rdw {t : gSt} {a b j : Nat} {f : Nat → Int32} : (g_row t a f).2.1 b j = if b = a then f j else t.2.1 b j := by
  show va_up t.2.1 a f b j = _
  unfold va_up
  by_cases h : b = a <;> simp [h]
theorem g_si_j {t : gSt} {a k : Nat} {v : Int32} : (g_si t a k v).2.2.1 = t.2.2.1 := rfl
theorem g_si_r {t : gSt} {a k : Nat} {v : Int32} : (g_si t a k v).2.2.2 = t.2.2.2 := rfl
theorem g_sj_i {t : gSt} {a k : Nat} {v : Int64} : (g_sj t a k v).2.1 = t.2.1 := rfl
theorem g_sj_r {t : gSt} {a k : Nat} {v : Int64} : (g_sj t a k v).2.2.2 = t.2.2.2 := rfl
theorem g_sr_i {t : gSt} {a k : Nat} {v : Option Nat} : (g_sr t a k v).2.1 = t.2.1 := rfl
theorem g_sr_j {t : gSt} {a k : Nat} {v : Option Nat} : (g_sr t a k v).2.2.1 = t.2.2.1 := rfl
theorem g_row_j {t : gSt} {a : Nat} {f : Nat → Int32} : (g_row t a f).2.2.1 = t.2.2.1 := rfl
theorem g_row_r {t : gSt} {a : Nat} {f : Nat → Int32} : (g_row t a f).2.2.2 = t.2.2.2 := rfl
/-- from t to u only places of P have changed, and the layout stands -/
def gFr (ad : Nat → Nat) (P : Nat → Nat → Bool) (t u : gSt) : Prop := Lay u ad ∧ u.1 = t.1 ∧ ∀ c k, c < 199 → P c k = false → u.2.1 (ad c) k = t.2.1 (ad c) k ∧ u.2.2.1 (ad c) k = t.2.2.1 (ad c) k ∧ u.2.2.2 (ad c) k = t.2.2.2 (ad c) k
section FR
variable {ad : Nat → Nat} {P Q : Nat → Nat → Bool} {t u w : gSt}
theorem gFr.rf (h : Lay t ad) : gFr ad P t t := ⟨h, rfl, fun _ _ _ _ => ⟨rfl, rfl, rfl⟩⟩
theorem gFr.L (h : gFr ad P t u) : Lay u ad := h.1
theorem gFr.i (h : gFr ad P t u) (c k : Nat) (hp : P c k = false) (hc : c < 199 := by decide) : u.2.1 (ad c) k = t.2.1 (ad c) k := (h.2.2 c k hc hp).1
theorem gFr.j (h : gFr ad P t u) (c k : Nat) (hp : P c k = false) (hc : c < 199 := by decide) : u.2.2.1 (ad c) k = t.2.2.1 (ad c) k := (h.2.2 c k hc hp).2.1
theorem gFr.r (h : gFr ad P t u) (c k : Nat) (hp : P c k = false) (hc : c < 199 := by decide) : u.2.2.2 (ad c) k = t.2.2.2 (ad c) k := (h.2.2 c k hc hp).2.2
theorem gFr.tr (h : gFr ad P t u) (h2 : gFr ad P u w) : gFr ad P t w := ⟨h2.1, h2.2.1.trans h.2.1, fun c k hc hp => ⟨(h2.2.2 c k hc hp).1.trans (h.2.2 c k hc hp).1, (h2.2.2 c k hc hp).2.1.trans (h.2.2 c k hc hp).2.1, (h2.2.2 c k hc hp).2.2.trans (h.2.2 c k hc hp).2.2⟩⟩
theorem gFr.mo (h : gFr ad P t u) (hq : ∀ c k, P c k = true → Q c k = true) : gFr ad Q t u := ⟨h.1, h.2.1, fun c k hc hp => h.2.2 c k hc (by cases e : P c k; rfl; rw [hq c k e] at hp; exact hp)⟩
theorem gFr.si (h : gFr ad P t u) {c k : Nat} {v : Int32} (hp : P c k = true) (hc : c < 199 := by decide) : gFr ad P t (g_si u (ad c) k v) := by
  refine ⟨h.1.si, h.2.1, fun c2 k2 hc2 hp2 => ⟨?_, (h.2.2 c2 k2 hc2 hp2).2.1, (h.2.2 c2 k2 hc2 hp2).2.2⟩⟩
  rw [g_rdi, if_neg, (h.2.2 c2 k2 hc2 hp2).1]
  rintro ⟨e, rfl⟩
  rw [h.1.1 _ _ hc2 hc e, hp] at hp2
  cases hp2
theorem gFr.sj (h : gFr ad P t u) {c k : Nat} {v : Int64} (hp : P c k = true) (hc : c < 199 := by decide) : gFr ad P t (g_sj u (ad c) k v) := by
  refine ⟨h.1.sj, h.2.1, fun c2 k2 hc2 hp2 => ⟨(h.2.2 c2 k2 hc2 hp2).1, ?_, (h.2.2 c2 k2 hc2 hp2).2.2⟩⟩
  rw [g_rdj, if_neg, (h.2.2 c2 k2 hc2 hp2).2.1]
  rintro ⟨e, rfl⟩
  rw [h.1.1 _ _ hc2 hc e, hp] at hp2
  cases hp2
theorem gFr.sr (h : gFr ad P t u) {c k : Nat} {v : Option Nat} (hp : P c k = true) (hn : c < 199 ∧ ∀ q ∈ g_refs, ¬ (q.1 = c ∧ q.2.1 = k)) : gFr ad P t (g_sr u (ad c) k v) := by
  refine ⟨h.1.sr c k v hn, h.2.1, fun c2 k2 hc2 hp2 => ⟨(h.2.2 c2 k2 hc2 hp2).1, (h.2.2 c2 k2 hc2 hp2).2.1, ?_⟩⟩
  rw [g_rdr, if_neg, (h.2.2 c2 k2 hc2 hp2).2.2]
  rintro ⟨e, rfl⟩
  rw [h.1.1 _ _ hc2 hn.1 e, hp] at hp2
  cases hp2
theorem gFr.row (h : gFr ad P t u) {c : Nat} {f : Nat → Int32} (hp : ∀ k, P c k = false → f k = u.2.1 (ad c) k) (hc : c < 199 := by decide) : gFr ad P t (g_row u (ad c) f) := by
  refine ⟨h.1.row, h.2.1, fun c2 k2 hc2 hp2 => ⟨?_, (h.2.2 c2 k2 hc2 hp2).2.1, (h.2.2 c2 k2 hc2 hp2).2.2⟩⟩
  rw [g_rdw]
  split
  · rename_i e
    rw [h.1.1 _ _ hc2 hc e] at hp2 ⊢
    rw [hp k2 hp2]
    exact (h.2.2 c k2 hc hp2).1
  · exact (h.2.2 c2 k2 hc2 hp2).1
end FR
theorem nI_sub {a b : Nat} (h : b ≤ a) : nI a - nI b = nI (a - b) := by
  have := nI_add (a - b) b
  rw [Nat.sub_add_cancel h] at this
  rw [← this, Int32.add_sub_cancel]
theorem nI_mul (a b : Nat) : nI a * nI b = nI (a * b) := (Int32.ofNat_mul a b).symm
theorem vp_in_lt {n N : Nat} (hn : n < 2 ^ 31) (h : vp_in (nI n) N) : n < N := by
  have := Nat.lt_of_not_le (fun q => h (Or.inr q))
  rwa [nI_clamp hn] at this
