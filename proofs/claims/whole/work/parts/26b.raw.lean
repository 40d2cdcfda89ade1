/-! THE REST, WITHOUT THE MASK -/
abbrev rI (t : gSt) (ad : Nat → Nat) (c k : Nat) : Int32 := t.2.1 (ad c) k
abbrev rJ (t : gSt) (ad : Nat → Nat) (c k : Nat) : Int64 := t.2.2.1 (ad c) k
abbrev rR (t : gSt) (ad : Nat → Nat) (c k : Nat) : Option Nat := t.2.2.2 (ad c) k
section RW
variable {t : gSt} {ad : Nat → Nat} {I I' : Nat → Nat → Int32} {J J' : Nat → Nat → Int64}
theorem RP.cg {p : Nat} {A : List Fn} (h : ∀ j, j < 16 → I' (p + j) = I (p + j)) (hj : J' (p + 1) = J (p + 1)) (hr : RP I J p A) : RP I' J' p A := by
  have h0 : I' p = I p := h 0 (by decide)
  unfold RP RPf at hr ⊢
  rw [h0, h 2 (by decide), h 3 (by decide), h 4 (by decide), h 5 (by decide), h 6 (by decide), h 7 (by decide), h 8 (by decide), h 9 (by decide), h 10 (by decide), h 11 (by decide), h 12 (by decide), h 13 (by decide), h 14 (by decide), h 15 (by decide), hj]
  exact hr
theorem RMb.cg {x : Nat} {b : Fo} (h148 : I' 148 = I 148) (h : ∀ c, 151 ≤ c → c ≤ 156 → I' c = I c) (hr : RMb I x b) : RMb I' x b := by
  unfold RMb at hr ⊢
  rw [h148, h 151 (by decide) (by decide), h 152 (by decide) (by decide), h 153 (by decide) (by decide), h 154 (by decide) (by decide), h 155 (by decide) (by decide), h 156 (by decide) (by decide)]
  exact hr
theorem RMf.cg {x : Nat} {F : Fn} (h : ∀ c, (148 ≤ c ∧ c ≤ 156) ∨ (182 ≤ c ∧ c ≤ 188) → c ≠ 187 → I' c = I c) (hr : RMf I x F) : RMf I' x F := by
  obtain ⟨h1, h2, h3, h4, h5, h6, h7⟩ := hr
  refine ⟨h1.cg (h 148 (by decide) (by decide)) (fun c h1 h2 => h c (Or.inl ⟨by omega, h2⟩) (by omega)), ?_, ?_, ?_, ?_, ?_, ?_⟩
  · rw [h 149 (by decide) (by decide)]; exact h2
  · rw [h 184 (by decide) (by decide)]; exact h3
  · rw [h 182 (by decide) (by decide), h 183 (by decide) (by decide)]; exact h4
  · rw [h 185 (by decide) (by decide)]; exact h5
  · rw [h 186 (by decide) (by decide)]; exact h6
  · rw [h 188 (by decide) (by decide)]; exact h7
theorem RM.cg {A B : List Fn} (h0 : I' 144 11 = I 144 11) (hj : J' 146 = J 146) (h : ∀ c, (147 ≤ c ∧ c ≤ 156) ∨ (182 ≤ c ∧ c ≤ 188) → c ≠ 187 → I' c = I c) (hr : RM I J A B) : RM I' J' A B := by
  obtain ⟨h1, h2, h3⟩ := hr
  refine ⟨by rw [h0]; exact h1, fun f F hF => ⟨by rw [hj]; exact (h2 f F hF).1, by rw [h 147 (by decide) (by decide)]; exact (h2 f F hF).2.1, (h2 f F hF).2.2.cg (fun c hc => h c (by omega))⟩, fun f F hF => ⟨by rw [h 150 (by decide) (by decide)]; exact (h3 f F hF).1, (h3 f F hF).2.cg (fun c hc => h c (by omega))⟩⟩
theorem RG.cg {n : Nat} {dir com : Nat → Nat → Bool} {ord : Nat → Nat} (h : ∀ c, (18 ≤ c ∧ c ≤ 20) ∨ (171 ≤ c ∧ c ≤ 173) → I' c = I c) (hr : RG I n dir com ord) : RG I' n dir com ord := by
  unfold RG at hr ⊢
  rw [h 18 (by decide), h 19 (by decide), h 20 (by decide), h 171 (by decide), h 172 (by decide), h 173 (by decide)]
  exact hr
theorem RX.cg {R R' : Nat → Nat → Option Nat} {p p2 : Nat} {A B : List Fn} {dir com : Nat → Nat → Bool} {ord : Nat → Nat}
    (hI : ∀ c k, c < 199 → rp c k = true → I' c k = I c k) (hJ : ∀ c k, c < 199 → rp c k = true → J' c k = J c k) (hR : ∀ c k, c < 199 → rp c k = true → R' c k = R c k) (h : RX I J R ad p p2 A B dir com ord) : RX I' J' R' ad p p2 A B dir com ord := by
  obtain ⟨h1, h2, h3, h4, h5, h6, h7, h8, h9, h10, h11, h12⟩ := h
  have hp : isP p := by rcases h1 with ⟨rfl, -⟩ | ⟨rfl, -⟩ <;> simp [isP]
  have hp9 : isP 96 := Or.inl rfl
  have e : ∀ c, (∀ k, rp c k = true) → c < 199 → I' c = I c := fun c h1 h2 => funext (fun k => hI c k h2 (h1 k))
  have eP : ∀ p, isP p → ∀ j, j < 16 → I' (p + j) = I (p + j) := fun p hp j hj => e _ (fun k => rp_p hp hj) (by have := hp.lt; omega)
  have eJ : ∀ p, isP p → J' (p + 1) = J (p + 1) := fun p hp => funext (fun k => hJ _ k (by have := hp.lt; omega) (rp_p hp (by decide)))
  refine ⟨h1, ?_, ?_, h4, h5, h6.cg (eP p hp) (eJ p hp), h7.cg (eP 96 hp9) (eJ 96 hp9), h8.cg (hI 144 11 (by decide) rfl) (funext (fun k => hJ _ k (by decide) rfl)) (fun c hc hc2 => e c (fun k => ?_) (by omega)), h9.cg (fun c hc => e c (fun k => ?_) (by omega)), h10, ?_, h12⟩
  · rw [hR _ _ (by decide) rfl]; exact h2
  · rw [hR _ _ (by decide) rfl]; exact h3
  · have hx : ∀ c, (147 ≤ c ∧ c ≤ 156) ∨ (182 ≤ c ∧ c ≤ 186) ∨ c = 188 → rp c k = true := by
      intro c hc
      rcases hc with hc | hc | rfl
      · have a : Nat.ble 146 c = true := Nat.ble_eq.mpr (by omega)
        have b : Nat.ble c 156 = true := Nat.ble_eq.mpr (by omega)
        simp only [rp, a, b, Bool.true_and, Bool.true_or, Bool.or_true]
      · have a : Nat.ble 182 c = true := Nat.ble_eq.mpr (by omega)
        have b : Nat.ble c 186 = true := Nat.ble_eq.mpr (by omega)
        simp only [rp, a, b, Bool.true_and, Bool.true_or, Bool.or_true]
      · rfl
    exact hx c (by omega)
  · rcases hc with hc | hc
    · have a : Nat.ble 18 c = true := Nat.ble_eq.mpr (by omega)
      have b : Nat.ble c 20 = true := Nat.ble_eq.mpr (by omega)
      simp only [rp, a, b, Bool.true_and, Bool.true_or, Bool.or_true]
    · have a : Nat.ble 171 c = true := Nat.ble_eq.mpr (by omega)
      have b : Nat.ble c 173 = true := Nat.ble_eq.mpr (by omega)
      simp only [rp, a, b, Bool.true_and, Bool.true_or, Bool.or_true]
  · rw [hI _ _ (by decide) rfl]; exact h11
theorem gRest_iff : gRest ad t ↔ ∃ p p2 A B dir com ord, RX (rI t ad) (rJ t ad) (rR t ad) ad p p2 A B dir com ord := by
  constructor
  · rintro ⟨p, p2, A, B, dir, com, ord, h⟩
    exact ⟨p, p2, A, B, dir, com, ord, h.cg (fun c k hc hr => (mI_e hr hc).symm) (fun c k hc hr => (mJ_e hr hc).symm) (fun c k hc hr => (mR_e hr hc).symm)⟩
  · rintro ⟨p, p2, A, B, dir, com, ord, h⟩
    exact ⟨p, p2, A, B, dir, com, ord, h.cg (fun c k hc hr => mI_e hr hc) (fun c k hc hr => mJ_e hr hc) (fun c k hc hr => mR_e hr hc)⟩
theorem RX.hP {R : Nat → Nat → Option Nat} {p p2 : Nat} {A B : List Fn} {dir com : Nat → Nat → Bool} {ord : Nat → Nat} (h : RX I J R ad p p2 A B dir com ord) : isP p := by
  rcases h.1 with ⟨rfl, -⟩ | ⟨rfl, -⟩
  · exact Or.inr (Or.inl rfl)
  · exact Or.inr (Or.inr rfl)
end RW
/-- the writer's two rows -/
def gWR (ad : Nat → Nat) (t : gSt) : Prop := ∃ v1 v2, isV v1 ∧ isV v2 ∧ v1 ≠ v2 ∧ t.2.2.2 (ad 83) 1 = some (ad v1) ∧ t.2.2.2 (ad 83) 2 = some (ad v2)
/-- the whole rest of the invariant -/
def gRst (ad : Nat → Nat) (t : gSt) : Prop := gRest ad t ∧ gWR ad t ∧ ∀ j, ¬ t.2.1 (ad 76) j < 0
theorem gRst.ag {ad : Nat → Nat} (hi : ∀ i j, i < 199 → j < 199 → ad i = ad j → i = j) : ∀ t u, g_ag ad t u → gRst ad t → gRst ad u := fun t u hf h => ⟨h.1.ag hi hf, by
  obtain ⟨v1, v2, a, b, c, e1, e2⟩ := h.2.1
  exact ⟨v1, v2, a, b, c, by rw [hf.2.1]; exact e1, by rw [hf.2.1]; exact e2⟩, fun j => by
  have x : ∀ c, c < 199 → c ≠ 76 → ¬ ad 76 = ad c := fun c hc h e => h (hi _ _ (by decide) hc e).symm
  rw [hf.2.2 (ad 76) j (x _ (by decide) (by decide)) (x _ (by decide) (by decide)) (x _ (by decide) (by decide)) (x _ (by decide) (by decide)) (fun z => x _ (by decide) (by decide) z.1) (fun z => x _ (by decide) (by decide) z.1)]
  exact h.2.2 j⟩
