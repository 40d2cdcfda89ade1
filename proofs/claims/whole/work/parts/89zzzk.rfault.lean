/-! READ: the text; what stays where reading changes little -/
theorem bx8 : ∀ m : Fin 256, (((Int8.ofBitVec (BitVec.ofFin m)).toInt32 &&& 255).toNatClampNeg < 256 ∧ (((Int8.ofBitVec (BitVec.ofFin m)).toInt32 &&& 255).toNatClampNeg < 128 → (Int8.ofBitVec (BitVec.ofFin m)).toInt32 = nI ((Int8.ofBitVec (BitVec.ofFin m)).toInt32 &&& 255).toNatClampNeg) ∧ (128 ≤ ((Int8.ofBitVec (BitVec.ofFin m)).toInt32 &&& 255).toNatClampNeg → (Int8.ofBitVec (BitVec.ofFin m)).toInt32 < 0)) ∧ (Int8.ofBitVec (BitVec.ofFin m)).toInt32 &&& 255 = nI ((Int8.ofBitVec (BitVec.ofFin m)).toInt32 &&& 255).toNatClampNeg := by decide +kernel
theorem bx_of {x : Int32} (h : x.toInt8.toInt32 = x) : bx x (x &&& 255).toNatClampNeg ∧ x &&& 255 = nI (x &&& 255).toNatClampNeg := by
  have := bx8 x.toInt8.toBitVec.toFin
  have e : (Int8.ofBitVec (BitVec.ofFin x.toInt8.toBitVec.toFin)).toInt32 = x := h
  rw [e] at this
  exact this
/-- the text as a list of bytes -/
theorem txt_of {t : gSt} {ad : Nat → Nat} (h : g_sim t ad) : ∃ T n, txt T n ∧ t.2.1 (ad 0) 13 = nI n ∧ t.2.1 (ad 144) 2 = nI n ∧ (∀ j, j < n → bx (t.2.1 (ad 1) j) (T j)) ∧ ∀ j, j < n → t.2.1 (ad 145) j &&& 255 = nI (T j) := by
  obtain ⟨⟨n, a1, a2, a3, a4⟩, _⟩ := h
  refine ⟨fun j => if j < n then (t.2.1 (ad 145) j &&& 255).toNatClampNeg else 256, n, ⟨a1, fun j hj => ?_, fun j hj => if_neg (by omega)⟩, a2, a3, fun j hj => ?_, fun j hj => ?_⟩
  · show (if j < n then _ else 256) < 256
    rw [if_pos hj]
    exact (bx_of (a4 j hj).2).1.1
  · show bx _ (if j < n then _ else 256)
    rw [if_pos hj, show t.2.1 (ad 1) j = t.2.1 (ad 145) j from (a4 j hj).1]
    exact (bx_of (a4 j hj).2).1
  · show _ = nI (if j < n then _ else 256)
    rw [if_pos hj]
    exact (bx_of (a4 j hj).2).2
section RF
variable {ad : Nat → Nat} {t u : gSt} {P : Nat → Nat → Bool}
/-- the simple things, with a new place -/
theorem g_sim.frQ (hF : gFr ad P t u) (h : g_sim t ad) (h0 : ∀ c k, ((c = 0 ∧ (k = 13 ∨ k = 15)) ∨ c = 1 ∨ c = 2 ∨ c = 145 ∨ c = 192 ∨ c = 93 ∨ c = 94 ∨ c = 198 ∨ c = 83 ∨ c = 190 ∨ (90 ≤ c ∧ c ≤ 92)) → P c k = false) (h1 : ∀ k, (k = 2 ∨ k = 46 ∨ k = 71 ∨ (82 ≤ k ∧ k ≤ 85)) → P 144 k = false) (hpl : u.2.1 (ad 0) 14 = u.2.1 (ad 144) 4) : g_sim u ad := by
  obtain ⟨⟨n, a1, a2, a3, a4⟩, b, c, e, ⟨f1, n2, g1, g2, g3, g4⟩, ⟨n3, w, w1, w2, w3, w4, w5, w6⟩⟩ := h
  have I : ∀ c k, c < 199 → ((c = 0 ∧ (k = 13 ∨ k = 15)) ∨ c = 1 ∨ c = 2 ∨ c = 145 ∨ c = 192 ∨ c = 93 ∨ c = 94 ∨ c = 198 ∨ c = 83 ∨ c = 190 ∨ (90 ≤ c ∧ c ≤ 92)) → u.2.1 (ad c) k = t.2.1 (ad c) k := fun c k hc h => hF.i c k (h0 c k h) hc
  have I1 : ∀ k, (k = 2 ∨ k = 46 ∨ k = 71 ∨ (82 ≤ k ∧ k ≤ 85)) → u.2.1 (ad 144) k = t.2.1 (ad 144) k := fun k h => hF.i 144 k (h1 k h)
  have hw : w < 199 ∧ 90 ≤ w ∧ w ≤ 92 := by rcases w2 with rfl | rfl <;> decide
  refine ⟨⟨n, a1, ?_, ?_, fun j hj => ?_⟩, hpl, ?_, fun j hj => ?_, ⟨⟨?_, ?_, ?_⟩, n2, g1, ?_, ?_, fun j hj => ?_⟩, ⟨n3, w, w1, w2, ?_, ?_, ?_, fun j hj => ?_⟩⟩
  · rw [I 0 _ (by decide) (by decide)]; exact a2
  · rw [I1 _ (by decide)]; exact a3
  · rw [I 1 _ (by decide) (Or.inr (Or.inl rfl)), I 145 _ (by decide) (by omega)]; exact a4 j hj
  · rw [I 0 _ (by decide) (by decide), I1 _ (by decide)]; exact c
  · rw [I 2 _ (by decide) (by omega), I 192 _ (by decide) (by omega)]; exact e j hj
  · rw [I 93 _ (by decide) (by decide), I1 _ (by decide)]; exact f1.1
  · rw [I 93 _ (by decide) (by decide), I1 _ (by decide)]; exact f1.2.1
  · rw [I 93 _ (by decide) (by decide), I1 _ (by decide)]; exact f1.2.2
  · rw [I 93 _ (by decide) (by decide)]; exact g2
  · rw [I1 _ (by decide)]; exact g3
  · rw [I 94 _ (by decide) (by omega), I 198 _ (by decide) (by omega)]; exact g4 j hj
  · rw [hF.r 83 1 (h0 83 1 (by decide))]; exact w3
  · rw [I 83 _ (by decide) (by decide)]; exact w4
  · rw [I1 _ (by decide)]; exact w5
  · rw [I w _ hw.1 (by omega), I 190 _ (by decide) (by omega)]; exact w6 j hj
theorem RMf.fr {x : Nat} {F : Fn} (hx : x < 48) (h : RMf (rI t ad) x F) (h5 : fo_n (fnB F) ≤ 1300) (hF : gFr ad P t u) (hP : ∀ c k, ((c = 148 ∨ c = 149 ∨ c = 156) ∧ k < 48) ∨ (151 ≤ c ∧ c ≤ 155 ∧ k < 62400) ∨ (182 ≤ c ∧ c ≤ 188) → P c k = false) : RMf (rI u ad) x F := by
  obtain ⟨a1, a2, a3, a4, a5, a6, a7⟩ := h
  have b : mBd t ad x (fnB F) (fnV F) := ⟨a1.1, a2, a1.2⟩
  have b' := b.fr h5 hF (fun c hc => hP _ _ (by omega)) (fun c k h1 h2 h3 h4 => hP _ _ (by omega))
  refine ⟨⟨b'.1, b'.2.2⟩, b'.2.1, ?_, fun i q hq => ?_, ?_, ?_, ?_⟩
  · show u.2.1 (ad 184) x = _
    rw [hF.i 184 x (hP _ _ (by omega))]; exact a3
  · show u.2.1 (ad 182) _ = _ ∧ u.2.1 (ad 183) _ = _
    rw [hF.i 182 _ (hP _ _ (by omega)), hF.i 183 _ (hP _ _ (by omega))]; exact a4 i q hq
  · show u.2.1 (ad 185) x = _
    rw [hF.i 185 x (hP _ _ (by omega))]; exact a5
  · show u.2.1 (ad 186) x = _
    rw [hF.i 186 x (hP _ _ (by omega))]; exact a6
  · show u.2.1 (ad 188) x = _
    rw [hF.i 188 x (hP _ _ (by omega))]; exact a7
/-- all of the rest, where only reading's places change -/
theorem RX.frR {p p2 : Nat} {A B : List Fn} {dir com : Nat → Nat → Bool} {ord : Nat → Nat} (h : RX (rI t ad) (rJ t ad) (rR t ad) ad p p2 A B dir com ord) (hF : gFr ad P t u)
    (hP : ∀ c k, (c = 0 ∧ (k = 11 ∨ k = 12)) ∨ (18 ≤ c ∧ c ≤ 20) ∨ (96 ≤ c ∧ c ≤ 111) ∨ (p ≤ c ∧ c ≤ p + 15) ∨ (c = 144 ∧ k = 11) ∨ c = 146 ∨ c = 147 ∨ c = 150 ∨ ((c = 148 ∨ c = 149 ∨ c = 156) ∧ k < 48) ∨ (151 ≤ c ∧ c ≤ 155 ∧ k < 62400) ∨ (171 ≤ c ∧ c ≤ 173) ∨ (182 ≤ c ∧ c ≤ 188) → P c k = false) (hv : vB ad u) : RX (rI u ad) (rJ u ad) (rR u ad) ad p p2 A B dir com ord := by
  obtain ⟨h1, h2, h3, h4, h5, h6, h7, ⟨m1, m2, m3⟩, h9, h10, h11, h12, h13⟩ := h
  have hp : 112 ≤ p ∧ p ≤ 128 := by rcases h1 with ⟨rfl, -⟩ | ⟨rfl, -⟩ <;> decide
  refine ⟨h1, ?_, ?_, h4, h5, h6.fr (by omega) hF (fun j k hj => hP _ _ (by omega)), h7.fr (by omega) hF (fun j k hj => hP _ _ (by omega)), ⟨?_, fun f F hf => ⟨?_, ?_, ?_⟩, fun f F hf => ⟨?_, ?_⟩⟩, h9.fr hF (fun c k hc => hP _ _ (by omega)), h10, hv, h12, h13⟩
  · show u.2.2.2 (ad 0) 11 = _
    rw [hF.r 0 11 (hP _ _ (by omega))]; exact h2
  · show u.2.2.2 (ad 0) 12 = _
    rw [hF.r 0 12 (hP _ _ (by omega))]; exact h3
  · show u.2.1 (ad 144) 11 = _
    rw [hF.i 144 11 (hP _ _ (by omega))]; exact m1
  · show u.2.2.1 (ad 146) f = _
    rw [hF.j 146 f (hP _ _ (by omega))]; exact (m2 f F hf).1
  · show u.2.1 (ad 147) f = _
    rw [hF.i 147 f (hP _ _ (by omega))]; exact (m2 f F hf).2.1
  · have := (at_A hf h4).2.2
    exact RMf.fr (by omega) (m2 f F hf).2.2 (by have := (h12 f F hf).1.2.2.2.2.2.1; omega) hF (fun c k hc => hP _ _ (by omega))
  · show u.2.1 (ad 150) f = _
    rw [hF.i 150 f (hP _ _ (by omega))]; exact (m3 f F hf).1
  · have : f < B.length := (List.getElem?_eq_some_iff.mp hf).1
    exact RMf.fr (by omega) (m3 f F hf).2 (by have := (h13 f F hf).1.2.2.2.2.2.1; omega) hF (fun c k hc => hP _ _ (by omega))
end RF
