/-! PAIR: write, both sides -/
theorem fo_wD {n : Nat} {par : Int32 → Nat} {D : Int32 → Prop} : ∀ (F : Fo) (S : Nat → List Int32), fo_w n par F S → (∀ i, ∀ x ∈ S i, D x) → (∀ v ∈ fo_b F, D v) → fo_v n par (fun k v => k = 2 ∨ k = 14 → D v) F
  | .inner _ k v a b, S, h, hS, hb => by
    obtain ⟨h1, h2, h3, h4, h5, h6⟩ := h
    have hba : ∀ v ∈ fo_b a, D v := fun x hx => hb x (by simp only [fo_b, List.mem_append]; exact Or.inl (Or.inr hx))
    have hbb : ∀ v ∈ fo_b b, D v := fun x hx => hb x (by simp only [fo_b, List.mem_append]; exact Or.inr hx)
    have hv : k = 14 → D v := fun e => hb v (by simp only [fo_b, List.mem_append]; exact Or.inl (Or.inl (by rw [if_pos e]; exact List.mem_cons_self)))
    refine ⟨⟨h1, h2, h4, fun e => e.elim (fun e => hS 0 v (h3 e)) hv⟩, fo_wD a _ h5 (fun i x hx => ?_) hba, fo_wD b _ h6 (fun i x hx => hS (i + 1) x hx) hbb⟩
    unfold k_sc at hx
    split at hx
    · rename_i e
      rcases List.mem_cons.mp hx with rfl | hx
      · exact hv e.1
      · exact hS 0 x hx
    · exact hS 0 x hx
  | .leaf, _, _, _, _ => trivial
theorem fn_ok.vC {A : List Fn} {M V : Nat} {F : Fn} (h : fn_ok A M V F) (hV : V < 1000) : fo_v A.length (parOf A) vC (fnB F) := by
  obtain ⟨_, h2, h3, h4, _, _, h7, _, h9⟩ := h
  refine fo_wD (D := fun v => ¬ v < 0) _ _ h7 (fun i x hx => ?_) (fun v hv => ?_)
  · obtain ⟨j, hj, rfl⟩ := List.mem_map.mp hx
    have := List.mem_range.mp hj
    exact nI_pos (by omega)
  · obtain ⟨j, rfl, _, hj⟩ := h9 v hv
    exact nI_pos (by omega)
def nmOf (A : List Fn) (v : Int32) : List Nat := ((A[v.toNatClampNeg]?).map fnN).getD []
theorem at_nI {A : List Fn} {g : Nat} {G : Fn} (h : A[g]? = some G) (hg : g < 2 ^ 31) : parOf A (nI g) = fnP G ∧ nmOf A (nI g) = fnN G := by
  unfold parOf nmOf
  rw [nI_clamp hg, h]
  exact ⟨rfl, rfl⟩
section P8
variable {cx : gCx} {d : Nat} {ad : Nat → Nat}
theorem RX.which2 {I : Nat → Nat → Int32} {J : Nat → Nat → Int64} {R : Nat → Nat → Option Nat} {p p2 : Nat} {A B : List Fn} {dir com : Nat → Nat → Bool} {ord : Nat → Nat} (h : RX I J R ad p p2 A B dir com ord) (w : Nat) (hw : w ≤ 1) : ∃ q L, isP q ∧ (q = if w = 0 then p else 96) ∧ RP I J q L ∧ L.length = A.length ∧ ∀ f F, L[f]? = some F → RMf I (24 * w + f) F ∧ cd_ok A f F ∧ fn_ok A 500 120 F ∧ ∃ G, A[f]? = some G ∧ fnN F = fnN G ∧ fnP F = fnP G := by
  have hP := h.hP
  obtain ⟨h1, h2, h3, h4, h5, h6, h7, h8, h9, h10, h11, h12, h13⟩ := h
  match w, hw with
  | 0, _ =>
    refine ⟨p, A, hP, rfl, h6, rfl, fun f F hF => ⟨?_, (h12 f F hF).2.1, ?_, F, hF, rfl, rfl⟩⟩
    · rw [Nat.mul_zero, Nat.zero_add]; exact (h8.2.1 f F hF).2.2
    · obtain ⟨a1, a2, a3, a4, a5, a6, a7⟩ := (h12 f F hF).1
      exact ⟨a1, a2, a3, by omega, a5, by omega, a7⟩
  | 1, _ => exact ⟨96, B, Or.inl rfl, rfl, h7, h5, fun f F hF => ⟨(h8.2.2 f F hF).2, (h13 f F hF).2.1, (h13 f F hF).1, (h13 f F hF).2.2⟩⟩
/-- facts on the functions of a program that all its walks use -/
theorem RX.facts {I : Nat → Nat → Int32} {J : Nat → Nat → Int64} {R : Nat → Nat → Option Nat} {p p2 : Nat} {A B : List Fn} {dir com : Nat → Nat → Bool} {ord : Nat → Nat} (h : RX I J R ad p p2 A B dir com ord) : (∀ v, parOf A v ≤ 6) ∧ (∀ v, (nmOf A v).length ≤ 8) ∧ (∀ v, ∀ c ∈ nmOf A v, c < 128) ∧ ∀ g, g < A.length → J 146 g = pk6 (nmOf A (nI g)) ∧ nm_ok (nmOf A (nI g)) := by
  obtain ⟨h1, h2, h3, h4, h5, h6, h7, h8, h9, h10, h11, h12, h13⟩ := h
  refine ⟨fun v => ?_, fun v => ?_, fun v c hc => ?_, fun g hg => ?_⟩
  · unfold parOf
    cases e : A[v.toNatClampNeg]? with
    | none => exact Nat.zero_le _
    | some F => exact (h12 _ F e).1.2.1
  · unfold nmOf
    cases e : A[v.toNatClampNeg]? with
    | none => exact Nat.zero_le _
    | some F => exact (h12 _ F e).1.1.2.1
  · unfold nmOf at hc
    cases e : A[v.toNatClampNeg]? with
    | none => rw [e] at hc; cases hc
    | some F =>
      rw [e] at hc
      exact ((nB8_name (h12 _ F e).1.1).2.2 c hc).2
  · obtain ⟨G, eG⟩ : ∃ G, A[g]? = some G := ⟨_, List.getElem?_eq_getElem hg⟩
    rw [(at_nI eG (by omega)).2]
    exact ⟨(h8.2.1 g G eG).1, (h12 g G eG).1.1⟩
theorem RX.tabs {t : gSt} {R : Nat → Nat → Option Nat} {p p2 : Nat} {A B : List Fn} {dir com : Nat → Nat → Bool} {ord : Nat → Nat} (h : RX (rI t ad) (rJ t ad) R ad p p2 A B dir com ord) {q : Nat} {L : List Fn} (hR : RP (rI t ad) (rJ t ad) q L) (hl : L.length = A.length) (hF : ∀ (f : Nat) (F : Fn), L[f]? = some F → ∃ G, A[f]? = some G ∧ fnN F = fnN G ∧ fnP F = fnP G) : RPar t ad q A.length (parOf A) ∧ RNm t ad q A.length (nmOf A) := by
  have hfa := h.facts
  obtain ⟨h1, h2, h3, h4, h5, h6, h7, h8, h9, h10, h11, h12, h13⟩ := h
  refine ⟨⟨h4, by rw [← hl]; exact hR.1, fun g hg => ?_⟩, fun g hg => ⟨?_, (hfa.2.2.2 g hg).2⟩⟩
  · obtain ⟨F, eF⟩ : ∃ F, L[g]? = some F := ⟨_, List.getElem?_eq_getElem (by omega)⟩
    obtain ⟨G, eG, e1, e2⟩ := hF g F eF
    rw [(at_nI eG (by omega)).1, ← e2]
    exact (hR.2 g F eF).2.1
  · obtain ⟨F, eF⟩ : ∃ F, L[g]? = some F := ⟨_, List.getElem?_eq_getElem (by omega)⟩
    obtain ⟨G, eG, e1, e2⟩ := hF g F eF
    rw [(at_nI eG (by omega)).2, ← e1]
    exact (hR.2 g F eF).1
def wrA (c k : Nat) : Bool := (Nat.ble 83 c && Nat.ble c 92) || moW c k
theorem wrA_in {c k : Nat} (h : wrA c k = true) : (83 ≤ c ∧ c ≤ 92) ∨ (159 ≤ c ∧ c ≤ 161) ∨ c = 190 ∨ c = 191 ∨ (c = 144 ∧ (k = 0 ∨ k = 29 ∨ k = 73 ∨ k = 71)) := by
  unfold wrA moW at h
  simp only [Bool.or_eq_true, Bool.and_eq_true, Nat.ble_eq, Nat.beq_eq] at h
  omega
theorem rp_in {c k : Nat} (h : rp c k = true) : (96 ≤ c ∧ c ≤ 143) ∨ (18 ≤ c ∧ c ≤ 20) ∨ (146 ≤ c ∧ c ≤ 156) ∨ (171 ≤ c ∧ c ≤ 173) ∨ (182 ≤ c ∧ c ≤ 186) ∨ c = 188 ∨ (c = 0 ∧ (k = 11 ∨ k = 12)) ∨ (c = 144 ∧ (k = 11 ∨ k = 33)) := by
  unfold rp at h
  simp only [Bool.or_eq_true, Bool.and_eq_true, Nat.ble_eq, Nat.beq_eq] at h
  omega
theorem wrA_rp {c k : Nat} (h : rp c k = true) : wrA c k = false := by
  cases e : wrA c k with
  | false => rfl
  | true =>
    have h1 := wrA_in e
    have h2 := rp_in h
    omega
theorem wrA_f {c k : Nat} (h : ¬ ((83 ≤ c ∧ c ≤ 92) ∨ (159 ≤ c ∧ c ≤ 161) ∨ c = 190 ∨ c = 191 ∨ (c = 144 ∧ (k = 0 ∨ k = 29 ∨ k = 73 ∨ k = 71)))) : wrA c k = false := by
  cases e : wrA c k with
  | false => rfl
  | true => exact absurd (wrA_in e) h
theorem g_sim.wr {t w : gSt} (hF : gFr ad wrA t w) (h : g_sim t ad) (hw : ∃ n v, n ≤ 6000 ∧ (v = c_Writer_written ∨ v = c_Writer_draft) ∧ w.2.2.2 (ad c_Writer) f_Writer_written = some (ad v) ∧ w.2.1 (ad c_Writer) f_Writer_length = nI n ∧ w.2.1 (ad c_Mo) f_Mo_outSize = nI n ∧ ∀ j, j < n → w.2.1 (ad v) j = w.2.1 (ad c_Mo_out) j ∧ w.2.1 (ad c_Mo_out) j &&& 255 = w.2.1 (ad c_Mo_out) j) : g_sim w ad := by
  obtain ⟨⟨n, a1, a2, a3, a4⟩, b, c, e, ⟨⟨f1, f2, f3⟩, n2, g1, g2, g3, g4⟩, -⟩ := h
  have I : ∀ c k, c < 199 → ¬ ((83 ≤ c ∧ c ≤ 92) ∨ (159 ≤ c ∧ c ≤ 161) ∨ c = 190 ∨ c = 191 ∨ (c = 144 ∧ (k = 0 ∨ k = 29 ∨ k = 73 ∨ k = 71))) → w.2.1 (ad c) k = t.2.1 (ad c) k := fun c k hc h => hF.i c k (wrA_f h) hc
  refine ⟨⟨n, a1, ?_, ?_, fun j hj => ?_⟩, ?_, ?_, fun j hj => ?_, ⟨⟨?_, ?_, ?_⟩, n2, g1, ?_, ?_, fun j hj => ?_⟩, hw⟩
  · rw [I _ _ (by decide) (by decide)]; exact a2
  · rw [I _ _ (by decide) (by decide)]; exact a3
  · rw [I 1 j (by decide) (by omega), I 145 j (by decide) (by omega)]; exact a4 j hj
  · rw [I _ _ (by decide) (by decide), I _ _ (by decide) (by decide)]; exact b
  · rw [I _ _ (by decide) (by decide), I _ _ (by decide) (by decide)]; exact c
  · rw [I 2 j (by decide) (by omega), I 192 j (by decide) (by omega)]; exact e j hj
  · rw [I _ _ (by decide) (by decide), I _ _ (by decide) (by decide)]; exact f1
  · rw [I _ _ (by decide) (by decide), I _ _ (by decide) (by decide)]; exact f2
  · rw [I _ _ (by decide) (by decide), I _ _ (by decide) (by decide)]; exact f3
  · rw [I _ _ (by decide) (by decide)]; exact g2
  · rw [I _ _ (by decide) (by decide)]; exact g3
  · rw [I 94 j (by decide) (by omega), I 198 j (by decide) (by omega)]; exact g4 j hj
theorem p_write (hi : ∀ i j, i < 199 → j < 199 → ad i = ad j → i = j) (hcs : g_CS cx) (w a : Int32) : g_pair cx (d + 10) (g_Inv ad (gRst ad)) (ad c_Tr) (ad c_Mo) i_Tr_write i_Mo_write [.int w, .int a] := by
  intro t hI post hp
  have hL := hI.1
  have hr := gRst.ag hi
  obtain ⟨p, p2, A, B, dir, com, ord, hX⟩ := gRest_iff.mp hI.2.2.1
  obtain ⟨v1, v2, hv1, hv2, hvn, e1, e2⟩ := hI.2.2.2.1
  have hP := hX.hP
  have hW := hX.which2
  have hfa := hX.facts
  have hX' := hX
  obtain ⟨h1, h2, h3, h4, h5, h6, h7, h8, h9, h10, h11, h12, h13⟩ := hX
  have hn : A.length < 2 ^ 31 := by omega
  have hc2 : t.2.1 (ad c_Mo) 11 = nI A.length := h8.1
  have hL1 : Lay (g_si t (ad c_Mo) 0 0) ad := hL.si
  have hc3 : (g_si t (ad c_Mo) 0 0).2.1 (ad 144) 11 = nI A.length := by rw [g_rd_k (by decide)]; exact hc2
  have hN := hI.code (v := 0) hr
  have nok : ∀ r : Int32, r = -1 → ((w < 0 ∨ nI 1 < w) ∨ (a < 0 ∨ nI A.length ≤ a)) → post (some (.int r)) t := by
    intro r er c
    refine hp r t (hL.k c_Mo (by decide)) (fun post2 h2 => ?_)
    refine x_Mo_write hL (fun t1 e1 => ?_)
    subst e1
    refine m_noFunction hn hL1 hc3 ?_
    rw [if_pos c]
    refine ⟨_, rfl, hL1, fun q => absurd q (by decide), fun _ => ?_⟩
    rw [← er]
    exact h2 _ hN
  refine x_Tr_write hP hL ?_
  refine m_programOf hP hL h2 (fun j hj ew => ?_) (fun c => ⟨hL, Or.inr ⟨rfl, nok (-1) rfl (Or.inl c)⟩⟩)
  obtain ⟨q, L, hq, eq, hR, hl, hF⟩ := hW j hj
  rw [← eq]
  have hww : ¬ (w < 0 ∨ nI 1 < w) := by
    rw [ew]
    match j, hj with
    | 0, _ => decide
    | 1, _ => decide
  refine ⟨hL, Or.inl ⟨q, hq, rfl, ?_⟩⟩
  refine m_Program_has (hL.pk hq 0 (by decide)) ?_
  have hcq : t.2.1 (ad q) 15 = nI A.length := by rw [← hl]; exact hR.1
  rw [hcq]
  by_cases ca : a < 0 ∨ nI A.length ≤ a
  · rw [if_pos ca]
    exact ⟨_, rfl, hL, fun q => absurd rfl q, fun _ => nok (-1) rfl (Or.inr ca)⟩
  · rw [if_neg ca]
    obtain ⟨f, hf, ef⟩ := has_of hn ca
    obtain ⟨F, eF⟩ : ∃ F, L[f]? = some F := ⟨_, List.getElem?_eq_getElem (by omega)⟩
    obtain ⟨m1, m2, m3, G, m4, m5, m6⟩ := hF f F eF
    obtain ⟨r1, r2, r3, r4, r5, r6, r7, ⟨s, u1, u2, u3, u4⟩, -⟩ := hR.2 f F eF
    obtain ⟨tp, tn⟩ := hX'.tabs hR hl (fun f F h => (hF f F h).2.2.2)
    have hvc := m3.vC (by decide)
    obtain ⟨-, -, -, -, k1, k2, -⟩ := m3
    obtain ⟨N, n1, n2, n3⟩ := m1.1.2
    subst ef
    have ex : (24 : Int32) * w + nI f = nI (24 * j + f) := by rw [show (24 : Int32) = nI 24 from rfl, ew, nI_mul, nI_add]
    have bl : ∀ c, 83 ≤ c → c ≤ 92 → (Nat.ble 83 c && Nat.ble c 92) = true := fun c h1 h2 => by rw [Nat.ble_eq_true_of_le h1, Nat.ble_eq_true_of_le h2]; rfl
    have bf : ∀ c, c < 83 ∨ 92 < c → (Nat.ble 83 c && Nat.ble c 92) = false := fun c h => by
      cases e : (Nat.ble 83 c && Nat.ble c 92) with
      | false => rfl
      | true =>
        simp only [Bool.and_eq_true, Nat.ble_eq] at e
        omega
    -- the model's write in a world u that the class's write left
    have mo : ∀ (u : gSt) (r : Int32), gFr ad (fun c _ => (Nat.ble 83 c && Nat.ble c 92)) t u → gWR ad u → (6000 < (tr_t (nmOf A) (fnB F)).length → r = -4 ∧ u.2.2.2 (ad 83) 1 = some (ad v1) ∧ u.2.1 (ad 83) 7 = t.2.1 (ad 83) 7 ∧ ∀ j, u.2.1 (ad v1) j = t.2.1 (ad v1) j) → ((tr_t (nmOf A) (fnB F)).length ≤ 6000 → r = nI (tr_t (nmOf A) (fnB F)).length ∧ u.2.2.2 (ad 83) 1 = some (ad v2) ∧ u.2.1 (ad 83) 7 = nI (tr_t (nmOf A) (fnB F)).length ∧ ∀ j c, (tr_t (nmOf A) (fnB F))[j]? = some c → u.2.1 (ad v2) j = nI c) → post (some (.int r)) u := by
      intro u r hFu hwr ra rb
      have iu : ∀ c k, c < 199 → (c < 83 ∨ 92 < c) → u.2.1 (ad c) k = t.2.1 (ad c) k := fun c k hc h => hFu.i c k (bf c h) hc
      have hFA : ∀ {w : gSt}, gFr ad moW u w → gFr ad wrA t w := fun h => (hFu.mo (fun c k q => by unfold wrA; rw [q]; rfl)).tr (h.mo (fun c k q => by unfold wrA; rw [q, Bool.or_true]))
      have keep : ∀ {w : gSt}, gFr ad moW u w → gRst ad w := fun {w} h => ⟨hI.2.2.1.fr (hFA h) (fun c k hc => wrA_rp hc), by
        obtain ⟨z1, z2, zz1, zz2, zn, y1, y2⟩ := hwr
        have mf : ∀ k, moW 83 k = false := fun k => rfl
        exact ⟨z1, z2, zz1, zz2, zn, by rw [h.r 83 1 (mf 1)]; exact y1, by rw [h.r 83 2 (mf 2)]; exact y2⟩, fun j => by rw [h.i 76 j rfl, hFu.i 76 j (bf 76 (by decide))]; exact hI.2.2.2.2 j⟩
      refine hp r u (hFu.L.k c_Mo (by decide)) (fun post2 h2 => ?_)
      refine m_Mo_write (nm := nmOf A) (par := parOf A) (n := A.length) (N := N) (F := fnB F) (fN := A.length) hFu.L (by rw [iu _ _ (by decide) (by decide)]; exact hc2) h4 (fun z => z.elim hww ca) ex (by omega) (by rw [iu _ _ (by decide) (by decide)]; exact m1.1.1) (by omega) (fun v => by have := hfa.1 v; omega) hfa.2.1 hfa.2.2.1 (fun g hg => ⟨by omega, by rw [hFu.j 146 g (bf _ (by decide))]; exact (hfa.2.2.2 g hg).1, (hfa.2.2.2 g hg).2⟩) ?_ hvc k1 k2 (fun y hF2 hle e71 e190 => ?_) (fun y hF2 hle e71 e190 => ?_)
      · have e : ∀ c, 151 ≤ c → c ≤ 155 → (fun i => u.2.1 (ad c) (1300 * (24 * j + f) + i)) = (fun i => t.2.1 (ad c) (1300 * (24 * j + f) + i)) := fun c h1 h2 => funext (fun i => iu c _ (by omega) (by omega))
        rw [e 151 (by decide) (by decide), e 152 (by decide) (by decide), e 153 (by decide) (by decide), e 154 (by decide) (by decide), e 155 (by decide) (by decide)]
        exact n3
      · obtain ⟨x1, x2, x3, x4⟩ := ra hle
        have h2 := h2 y ⟨hF2.L, ?_, keep hF2⟩
        · rw [x1] at h2; exact h2
        · refine hI.2.1.wr (hFA hF2) ?_
          obtain ⟨-, -, -, -, -, nn, ww, w1, w2, w3, w4, w5, w6⟩ := hI.2.1
          have eww : ww = v1 := hi ww v1 (by rcases w2 with rfl | rfl <;> decide) (by rcases hv1 with rfl | rfl <;> decide) (Option.some.inj (w3.symm.trans e1))
          subst eww
          have hwl : ww < 199 := by rcases hv1 with rfl | rfl <;> decide
          have mfw : ∀ k, moW ww k = false := by rcases hv1 with rfl | rfl <;> exact fun k => rfl
          refine ⟨nn, ww, w1, w2, ?_, ?_, ?_, fun j hj => ?_⟩
          · rw [hF2.r 83 1 rfl]; exact x2
          · rw [hF2.i 83 7 rfl, x3]; exact w4
          · rw [e71, iu 144 71 (by decide) (by decide)]; exact w5
          · rw [hF2.i ww j (mfw j) hwl, x4 j, e190, iu 190 _ (by decide) (by decide)]
            exact w6 j hj
      · obtain ⟨x1, x2, x3, x4⟩ := rb hle
        have h2 := h2 y ⟨hF2.L, ?_, keep hF2⟩
        · rw [x1] at h2; exact h2
        · refine hI.2.1.wr (hFA hF2) ?_
          have hwl : v2 < 199 := by rcases hv2 with rfl | rfl <;> decide
          have mfw : ∀ k, moW v2 k = false := by rcases hv2 with rfl | rfl <;> exact fun k => rfl
          have hw2 : v2 = c_Writer_written ∨ v2 = c_Writer_draft := hv2
          refine ⟨(tr_t (nmOf A) (fnB F)).length, v2, hle, hw2, ?_, ?_, e71, fun j hj => ?_⟩
          · rw [hF2.r 83 1 rfl]; exact x2
          · rw [hF2.i 83 7 rfl]; exact x3
          · have ec := List.getElem?_eq_getElem hj
            rw [hF2.i v2 j (mfw j) hwl, x4 j _ ec, show y.2.1 (ad c_Mo_out) j = _ from e190 j _ ec]
            refine ⟨rfl, (by2_nar _ ?_).2⟩
            have hall : ∀ c ∈ tr_t (nmOf A) (fnB F), c < 128 := by
              rw [← (tr_fo (nm := nmOf A) k1).1]
              exact fo_tc hfa.2.2.1 _ _ _ _
            exact hall _ (List.getElem_mem hj)
    refine ⟨_, rfl, hL, fun _ => ?_, fun q => absurd (by decide) q⟩
    refine m_writeOut (nm := nmOf A) (par := parOf A) (n := A.length) (F := fnB F) (d := d) hq hcs hv1 hv2 hvn hL e1 e2 (fun v => by have := hfa.1 v; omega) tp tn (by omega) u1 u2 u4 k1 hvc k2 (fun u hFu hle y1 y2 y3 y4 => ?_) (fun u hFu hle y1 y2 y3 y4 => ?_)
    · refine ⟨_, rfl, hFu.L, fun _ => mo u (-4) hFu ⟨v1, v2, hv1, hv2, hvn, y1, y2⟩ (fun _ => ⟨rfl, y1, y3, y4⟩) (fun z => absurd z (by omega)), fun q => absurd rfl q⟩
    · refine ⟨_, rfl, hFu.L, fun q => absurd q (by decide), fun _ => ?_⟩
      rw [y3]
      exact mo u _ hFu ⟨v2, v1, hv2, hv1, Ne.symm hvn, y1, y2⟩ (fun z => absurd z (by omega)) (fun _ => ⟨rfl, y1, y3, y4⟩)
end P8
