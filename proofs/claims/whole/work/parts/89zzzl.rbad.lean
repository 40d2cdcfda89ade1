/-! READ: a fault -/
def fauP (p c k : Nat) : Bool := rdP p c k || (Nat.beq c 0 && Nat.beq k 14) || (Nat.beq c 144 && Nat.beq k 0) || mfuP c k
theorem fauP_i {p c k : Nat} : fauP p c k = true ↔ ((c = 3 ∧ 7 ≤ k ∧ k ≤ 14) ∨ c = 4 ∨ (5 ≤ c ∧ c ≤ 10) ∨ (p ≤ c ∧ c ≤ p + 15)) ∨ (c = 0 ∧ k = 14) ∨ (c = 144 ∧ k = 0) ∨ (c = 144 ∧ ((3 ≤ k ∧ k ≤ 10) ∨ (23 ≤ k ∧ k ≤ 35) ∨ k = 41 ∨ k = 45)) ∨ (157 ≤ c ∧ c ≤ 170) ∨ ((c = 148 ∨ c = 149 ∨ c = 156) ∧ 48 ≤ k) ∨ (151 ≤ c ∧ c ≤ 155 ∧ 62400 ≤ k) := by
  unfold fauP
  rw [Bool.or_eq_true, Bool.or_eq_true, Bool.or_eq_true, rdP_i, mfuP_i, Bool.and_eq_true, Bool.and_eq_true, Nat.beq_eq, Nat.beq_eq, Nat.beq_eq, Nat.beq_eq]
  omega
section PR
variable {cx : gCx} {d : Nat} {ad : Nat → Nat}
/-- the model's read begins -/
theorem m_read0 {t : gSt} {T : Nat → Nat} {n : Nat} {post : Option Value → gSt → Prop} (hL : Lay t ad) (hX : txM ad T n t) (hv : vB ad t) (k : ∀ u, gFr ad (fun c k => Nat.beq c 144 && (Nat.beq k 0 || Nat.beq k 3 || Nat.beq k 4 || Nat.beq k 5 || Nat.beq k 6 || Nat.beq k 35 || Nat.beq k 23)) t u → MFR ad T n u 0 [] [] (fun _ => 0) u → HdR cx d ad post u) : g_E cx (d + 12) i_Mo_read [.ref (ad 144)] t post := by
  refine x_Mo_read hL (fun t1 e1 t2 e2 t3 e3 t4 e4 t5 e5 t6 e6 t7 e7 => ?_)
  have F7 : gFr ad (fun c k => Nat.beq c 144 && (Nat.beq k 0 || Nat.beq k 3 || Nat.beq k 4 || Nat.beq k 5 || Nat.beq k 6 || Nat.beq k 35 || Nat.beq k 23)) t t7 := by
    rw [e7, e6, e5, e4, e3, e2, e1]
    exact (((((((gFr.rf hL).si rfl).si rfl).si rfl).si rfl).si rfl).si rfl).si rfl
  refine k t7 F7 ⟨gFr.rf F7.L, ⟨hX.1, by rw [F7.i 144 2 rfl]; exact hX.2.1, fun j hj => by rw [F7.i 145 j rfl]; exact hX.2.2 j hj⟩, ⟨⟨?_, ?_, hv.fr F7 rfl⟩, Or.inl ⟨?_, ?_⟩⟩, ?_, ⟨?_, fun i q hq => (by cases hq)⟩, fun f q hq => (by cases hq)⟩
  · rw [e7, g_rd_k (by decide), e6, g_rd_k (by decide), e5, g_rd_k (by decide), e4, g_rd_k (by decide), e3, g_rd_k (by decide), e2, g_rd_at]
  · rw [e7, g_rd_k (by decide), e6, g_rd_k (by decide), e5, g_rd_k (by decide), e4, g_rd_k (by decide), e3, g_rd_at]
  · rw [e7, g_rd_k (by decide), e6, g_rd_k (by decide), e5, g_rd_at]
  · rw [e7, g_rd_k (by decide), e6, g_rd_k (by decide), e5, g_rd_k (by decide), e4, g_rd_at]; rfl
  · rw [e7, g_rd_at]; rfl
  · rw [e7, g_rd_k (by decide), e6, g_rd_at]; rfl
theorem f_read {t u : gSt} {post : Option Value → gSt → Prop} {T : Nat → Nat} {n p p2 c q : Nat} {A0 B0 : List Fn} {dir com : Nat → Nat → Bool} {ord : Nat → Nat} (hI : g_Inv ad (gRst ad) t) (hX : RX (rI t ad) (rJ t ad) (rR t ad) ad p p2 A0 B0 dir com ord) (g1 : 112 ≤ p ∧ p ≤ 128) (g2 : 112 ≤ p2 ∧ p2 ≤ 128) (hpp : p + 16 ≤ p2 ∨ p2 + 16 ≤ p) (hT : txt T n) (t2 : t.2.1 (ad 144) 2 = nI n) (htm : ∀ j, j < n → t.2.1 (ad 145) j &&& 255 = nI (T j))
    (hp : ∀ (r : Int32) (u : gSt), g_k u (ad c_Mo) k_Mo → (∀ post2 : Option Value → gSt → Prop, (∀ w, g_Inv ad (gRst ad) w → post2 (some (.int r)) w) → g_E cx (d + 12) i_Mo_read [.ref (ad c_Mo)] u post2) → post (some (.int r)) u) (Fu : gFr ad (rdP p2) t u) (u49 : u.2.1 (ad 4) 9 = nI q) (hsem : SemB cx d ad T n c q) {d' : Nat} :
    g_E cx (d' + 1) i_Reader_faultPlace [.ref (ad 3)] u (fun r u16 => ∃ y17 : Int32, r = some (.int y17) ∧ Lay u16 ad ∧ (∀ t18, t18 = g_si u16 (ad 0) 14 y17 → post (some (.int ((-10) - nI c))) t18)) := by
  have hL := hI.1
  have hv : vB ad t := hX.2.2.2.2.2.2.2.2.2.2.1
  have fr : ∀ c k, ¬ (((c = 3 ∧ 7 ≤ k ∧ k ≤ 14) ∨ c = 4 ∨ (5 ≤ c ∧ c ≤ 10) ∨ (p2 ≤ c ∧ c ≤ p2 + 15)) ∨ (c = 0 ∧ k = 14) ∨ (c = 144 ∧ k = 0) ∨ (c = 144 ∧ ((3 ≤ k ∧ k ≤ 10) ∨ (23 ≤ k ∧ k ≤ 35) ∨ k = 41 ∨ k = 45)) ∨ (157 ≤ c ∧ c ≤ 170) ∨ ((c = 148 ∨ c = 149 ∨ c = 156) ∧ 48 ≤ k) ∨ (151 ≤ c ∧ c ≤ 155 ∧ 62400 ≤ k)) → fauP p2 c k = false := fun c k z => bool_r fauP_i z
  refine x_Reader_faultPlace Fu.L ⟨_, rfl, Fu.L, fun t18 e18 => ?_⟩
  have F18 : gFr ad (fauP p2) t t18 := by
    rw [e18]
    exact (Fu.mo (fun c k z => fauP_i.mpr (Or.inl (rdP_i.mp z)))).si (fauP_i.mpr (by omega))
  have y14 : t18.2.1 (ad 0) 14 = nI q := by rw [e18, g_rd_at]; exact u49
  have b18 : ∀ c k, c < 199 → ¬ (((c = 3 ∧ 7 ≤ k ∧ k ≤ 14) ∨ c = 4 ∨ (5 ≤ c ∧ c ≤ 10) ∨ (p2 ≤ c ∧ c ≤ p2 + 15)) ∨ (c = 0 ∧ k = 14)) → t18.2.1 (ad c) k = t.2.1 (ad c) k := fun c k hc hn => by
    rw [e18]
    have : (g_si u (ad 0) 14 (u.2.1 (ad 4) 9)).2.1 (ad c) k = u.2.1 (ad c) k := by
      by_cases z : c = 0
      · rw [z, g_rd_k (by omega)]
      · rw [g_rd_ne (hL.ne c 0 hc (by decide) z)]
    rw [this, Fu.i c k (bool_r rdP_i (by omega)) hc]
  refine hp _ t18 (F18.L.k c_Mo (by decide)) (fun post2 hpost => ?_)
  refine m_read0 (d := d) (T := T) (n := n) F18.L ⟨hT, by rw [b18 144 2 (by decide) (by omega)]; exact t2, fun j hj => by rw [b18 145 j (by decide) (by omega)]; exact htm j hj⟩ ?_ (fun v Fv hm => hsem v post2 v hm (fun w hw => hpost w ?_))
  · obtain ⟨q0, q1, q2⟩ := hv
    exact ⟨q0, by rw [b18 144 33 (by decide) (by omega)]; exact q1, q2⟩
  have Fw : gFr ad (fauP p2) t w := (F18.tr (Fv.mo (fun c k z => by
    simp only [Bool.and_eq_true, Bool.or_eq_true, Nat.beq_eq] at z
    rw [fauP_i]
    omega))).tr (hw.1.mo (fun c k z => by
    rw [mfuP_i] at z
    rw [fauP_i]
    omega))
  have w14 : w.2.1 (ad 0) 14 = nI q := by rw [hw.1.i 0 14 (bool_r mfuP_i (by omega)), Fv.i 0 14 rfl]; exact y14
  refine ⟨Fw.L, hI.2.1.frQ Fw (fun c k hc => by rcases hc with hc | hc | hc | hc | hc | hc | hc | hc | hc | hc | hc <;> exact fr c k (by omega)) (fun k hk => fr 144 k (by omega)) (by rw [w14, hw.2.2.2]), gRest_iff.mpr ⟨p, p2, A0, B0, dir, com, ord, hX.frR Fw (fun c k hc => by rcases hc with hc | hc | hc | hc | hc | hc | hc | hc | hc | hc | hc | hc <;> exact fr c k (by omega)) hw.2.1.2⟩, ?_, fun j => ?_⟩
  · obtain ⟨v1, v2, a1, a2, a3, e1', e2'⟩ := hI.2.2.2.1
    exact ⟨v1, v2, a1, a2, a3, by rw [Fw.r 83 1 (fr _ _ (by omega))]; exact e1', by rw [Fw.r 83 2 (fr _ _ (by omega))]; exact e2'⟩
  · rw [Fw.i 76 j (fr _ _ (by omega))]
    exact hI.2.2.2.2 j
end PR
