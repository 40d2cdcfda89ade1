/-! WHAT IS READ: trees, lets, calls -/
/-- the calls' numbers, as they stand in the text -/
def pcl : Fo → List Nat
  | .inner _ k v a b => (if k = 15 then [v.toNatClampNeg] else []) ++ pcl a ++ pcl b
  | .leaf => []
theorem pcl_ap : ∀ A B : Fo, pcl (fo_ap A B) = pcl A ++ pcl B
  | .inner _ _ _ a r, B => by simp only [fo_ap, pcl, pcl_ap r B, List.append_assoc]
  | .leaf, B => by simp [fo_ap, pcl]
theorem pcl_p : ∀ (F : Fo) (q : Int32 × Int32), q ∈ fo_p F → q.1 = 15 → q.2.toNatClampNeg ∈ pcl F
  | .inner _ k v a b, q, h, e => by
    unfold fo_p at h
    unfold pcl
    rcases List.mem_cons.mp h with h | h
    · rw [h] at e ⊢
      rw [if_pos e]
      exact List.mem_append_left _ (List.mem_append_left _ (List.mem_singleton.mpr rfl))
    · rcases List.mem_append.mp h with h | h
      · exact List.mem_append_left _ (List.mem_append_right _ (pcl_p a q h e))
      · exact List.mem_append_right _ (pcl_p b q h e)
  | .leaf, q, h, _ => by cases h
/-- where numbers of parameters agree -/
theorem fo_w_pcg {N N' : Nat} {par par' : Int32 → Nat} : ∀ (F : Fo) (S : Nat → List Int32), fo_w N par F S → (∀ v : Int32, v.toNatClampNeg ∈ pcl F → par' v = par v) → N ≤ N' → fo_w N' par' F S
  | .inner z k v a b, S, h, hp, hN => by
    obtain ⟨h1, h2, h3, h4, h5, h6⟩ := h
    refine ⟨h1, ?_, h3, fun e => ?_, fo_w_pcg a _ h5 (fun w hw => hp w (by unfold pcl; exact List.mem_append_left _ (List.mem_append_right _ hw))) hN, fo_w_pcg b _ h6 (fun w hw => hp w (by unfold pcl; exact List.mem_append_right _ hw)) hN⟩
    · rw [h2]
      unfold k_ar
      by_cases e : k = 15
      · have := hp v (by unfold pcl; rw [if_pos e]; exact List.mem_append_left _ (List.mem_append_left _ (List.mem_singleton.mpr rfl)))
        rw [this]
      · simp only [if_neg e]
    · obtain ⟨g, g1, g2⟩ := h4 e
      exact ⟨g, g1, by omega⟩
  | .leaf, _, _, _, _ => trivial
/-- calls by their places -/
def clOk (cl : CL) (a : Nat) : Prop := cl.Pairwise (fun q r => q.2.1 < r.2.1) ∧ ∀ q ∈ cl, q.2.1 < a ∧ nm_ok q.1
theorem clOk.mo {cl : CL} {a b : Nat} (h : clOk cl a) (hab : a ≤ b) : clOk cl b := ⟨h.1, fun q hq => ⟨by have := (h.2 q hq).1; omega, (h.2 q hq).2⟩⟩
theorem clOk.ap {cl : CL} {a b p x : Nat} {nm : List Nat} (h : clOk cl a) (hp : a ≤ p) (hb : p < b) (hn : nm_ok nm) : clOk (cl ++ [(nm, p, x)]) b := by
  refine ⟨List.pairwise_append.mpr ⟨h.1, List.pairwise_singleton _ _, fun q hq r hr => ?_⟩, fun q hq => ?_⟩
  · rw [List.mem_singleton.mp hr]
    have := (h.2 q hq).1
    show q.2.1 < p
    omega
  · rcases List.mem_append.mp hq with hq | hq
    · exact ⟨by have := (h.2 q hq).1; omega, (h.2 q hq).2⟩
    · rw [List.mem_singleton.mp hq]
      exact ⟨hb, hn⟩
abbrev scV (sc : SC) : List Int32 := sc.map (fun q => nI q.2)
/-- trees that were read from a to a' -/
def PG (Pm x o e a l : Nat) (sc : SC) (cl : CL) (ac : Nat → Nat) (a' l' : Nat) (cl' : CL) (ac' : Nat → Nat) (F : Fo) : Prop :=
  a + fo_n F ≤ a' ∧ (l ≤ l' ∧ l' ≤ 40) ∧ (∃ w, cl' = cl ++ w ∧ ∀ q ∈ w, q.2.2 = x) ∧ 91 * cl'.length ≤ 91 * cl.length + 30 * (a' - a) + (30 - o) ∧ (∀ i, i < cl.length → i ≠ e → ac' i = ac i) ∧
  pcl F = List.range' cl.length (cl'.length - cl.length) ∧ fo_b F = (List.range' (Pm + l) (l' - l)).map nI ∧ fo_w cl'.length (fun v => ac' v.toNatClampNeg) F (fun _ => scV sc) ∧ clOk cl' a'
abbrev PF (Pm x o a l : Nat) (sc : SC) (cl : CL) (ac : Nat → Nat) (a' l' : Nat) (cl' : CL) (ac' : Nat → Nat) (F : Fo) : Prop := fo_l F = 1 ∧ PG Pm x o cl.length a l sc cl ac a' l' cl' ac' F
theorem rg_ap {s m k : Nat} (h1 : s ≤ m) (h2 : m ≤ k) : List.range' s (m - s) ++ List.range' m (k - m) = List.range' s (k - s) := by
  have := List.range'_append (s := s) (m := m - s) (n := k - m) (step := 1)
  rw [show s + 1 * (m - s) = m by omega, show m - s + (k - m) = k - s by omega] at this
  exact this
section PGS
variable {Pm x o e a l a1 l1 a2 a3 l3 a4 l4 a5 l5 : Nat} {sc : SC} {cl cl1 cl3 cl5 : CL} {ac ac1 ac3 ac5 : Nat → Nat} {A B C F W : Fo}
theorem PG.le (h : PG Pm x o e a l sc cl ac a1 l1 cl1 ac1 F) : cl.length ≤ cl1.length := by
  obtain ⟨w, hw, _⟩ := h.2.2.1
  rw [hw, List.length_append]
  omega
theorem PG.in (h : PG Pm x o e a l sc cl ac a1 l1 cl1 ac1 F) {c : Nat} (hc : c ∈ pcl F) : cl.length ≤ c ∧ c < cl1.length := by
  have := h.le
  rw [h.2.2.2.2.2.1] at hc
  have := List.mem_range'_1.mp hc
  omega
/-- nothing -/
theorem PG.z (ha : a ≤ a1) (hl : l ≤ 40) (hc : clOk cl a1) : PG Pm x o e a l sc cl ac a1 l cl ac .leaf :=
  ⟨by simp only [fo_n]; omega, ⟨Nat.le_refl _, hl⟩, ⟨[], (List.append_nil _).symm, fun q hq => (by cases hq)⟩, by omega, fun i _ _ => rfl, by rw [Nat.sub_self]; rfl, by rw [Nat.sub_self]; rfl, trivial, hc⟩
/-- one forest behind another, with a token between, the exception being the first one's -/
theorem PG.ap (h1 : PG Pm x o e a l sc cl ac a1 l1 cl1 ac1 A) (h2 : PG Pm x o cl1.length a2 l1 sc cl1 ac1 a3 l3 cl3 ac3 B) (h12 : a1 < a2 ∨ (a1 ≤ a2 ∧ A = .leaf ∧ cl1 = cl)) : PG Pm x o e a l sc cl ac a3 l3 cl3 ac3 (fo_ap A B) := by
  have g1 := h1.le
  have g2 := h2.le
  have i1 := fun c => h1.in (c := c)
  obtain ⟨p1, p2, ⟨w1, p3, p3x⟩, p4, p5, p6, p7, p8, p9⟩ := h1
  obtain ⟨q1, q2, ⟨w2, q3, q3x⟩, q4, q5, q6, q7, q8, q9⟩ := h2
  refine ⟨?_, by omega, ⟨w1 ++ w2, by rw [q3, p3, List.append_assoc], fun q hq => (List.mem_append.mp hq).elim (p3x q) (q3x q)⟩, ?_, fun i hi he => ?_, ?_, ?_, ?_, q9⟩
  · rw [fo_n_ap]
    rcases h12 with h | ⟨h, hA, _⟩
    · omega
    · omega
  · rcases h12 with h | ⟨h, hA, hc⟩
    · omega
    · have : cl1.length = cl.length := by rw [hc]
      omega
  · rw [q5 i (by omega) (by omega)]
    exact p5 i hi he
  · rw [pcl_ap, p6, q6, rg_ap g1 g2]
  · rw [fo_b_ap, p7, q7, ← List.map_append]
    have := rg_ap (s := Pm + l) (m := Pm + l1) (k := Pm + l3) (by omega) (by omega)
    rw [show Pm + l1 - (Pm + l) = l1 - l by omega, show Pm + l3 - (Pm + l1) = l3 - l1 by omega, show Pm + l3 - (Pm + l) = l3 - l by omega] at this
    rw [this]
  · refine fo_w_ap A B _ (fo_w_pcg A _ p8 (fun v hv => ?_) g2) q8
    have := i1 _ hv
    exact q5 _ this.2 (by omega)
/-- a node over operands (not let, not call, no leaf) -/
theorem PG.nd {k : Int32} {j : Nat} (hj : 3 ≤ j ∧ j ≤ 13) (hk : k = nI j) (h : PG Pm x o e a l sc cl ac a1 l1 cl1 ac1 W) (hW : fo_l W = if j = 10 ∨ j = 11 then 1 else if j = 13 then 3 else 2) {a0 : Nat} (h0 : a0 < a ∨ a1 < a2) (h0' : a0 ≤ a) (h12 : a1 ≤ a2) : PG Pm x o e a0 l sc cl ac a2 l1 cl1 ac1 (.inner 0 k 0 W .leaf) := by
  obtain ⟨p1, p2, p3, p4, p5, p6, p7, p8, p9⟩ := h
  have kn : ∀ m : Nat, m < 100 → m ≠ j → k ≠ nI m := fun m hm hmj e => by
    rw [hk, nI_eq (by omega) (by omega)] at e
    omega
  have k15 : ¬ k = 15 := kn 15 (by decide) (by omega)
  have k14 : ¬ k = 14 := kn 14 (by decide) (by omega)
  have k1 : ¬ k = 1 := kn 1 (by decide) (by omega)
  have k2 : ¬ k = 2 := kn 2 (by decide) (by omega)
  refine ⟨by simp only [fo_n]; omega, p2, p3, by omega, p5, ?_, ?_, ⟨⟨j, by omega, by omega, hk⟩, ?_, fun z => absurd z k2, fun z => absurd z k15, ?_, trivial⟩, p9.mo h12⟩
  · simp only [pcl, if_neg k15, List.nil_append, List.append_nil]
    exact p6
  · simp only [fo_b, if_neg k14, List.nil_append, List.append_nil]
    exact p7
  · rw [hW]
    unfold k_ar
    have e10 : k = 10 ↔ j = 10 := by rw [hk]; exact nI_eq (b := 10) (by omega) (by decide)
    have e11 : k = 11 ↔ j = 11 := by rw [hk]; exact nI_eq (b := 11) (by omega) (by decide)
    have e13 : k = 13 ↔ j = 13 := by rw [hk]; exact nI_eq (b := 13) (by omega) (by decide)
    simp only [k1, k2, k15, or_self, if_false, e10, e11, e13]
  · refine fo_w_mo W _ _ p8 (fun i w hw => ?_)
    unfold k_sc
    rw [if_neg (fun z => k14 z.1)]
    exact hw
/-- a leaf -/
theorem PG.lf {k v : Int32} (hk : (k = 1) ∨ (k = 2 ∧ v ∈ scV sc)) (ha : a < a1) (hl : l ≤ 40) (hc : clOk cl a1) : PG Pm x o e a l sc cl ac a1 l cl ac (.inner 0 k v .leaf .leaf) := by
  have k15 : ¬ k = 15 := by rcases hk with rfl | ⟨rfl, -⟩ <;> decide
  have k14 : ¬ k = 14 := by rcases hk with rfl | ⟨rfl, -⟩ <;> decide
  refine ⟨by simp only [fo_n]; omega, ⟨Nat.le_refl _, hl⟩, ⟨[], (List.append_nil _).symm, fun q hq => (by cases hq)⟩, by omega, fun i _ _ => rfl, ?_, ?_, ⟨?_, ?_, fun z => ?_, fun z => absurd z k15, trivial, trivial⟩, hc⟩
  · simp only [pcl, if_neg k15, Nat.sub_self]; rfl
  · simp only [fo_b, if_neg k14, Nat.sub_self]; rfl
  · rcases hk with rfl | ⟨rfl, -⟩
    · exact ⟨1, by decide, by decide, rfl⟩
    · exact ⟨2, by decide, by decide, rfl⟩
  · rcases hk with rfl | ⟨rfl, -⟩ <;> rfl
  · rcases hk with rfl | ⟨-, h⟩
    · exact absurd z (by decide)
    · exact h
/-- within something that is open -/
theorem PG.op (h : PG Pm x (o + 1) e a l sc cl ac a1 l1 cl1 ac1 F) {a0 : Nat} (h0 : a0 ≤ a) (h1 : a1 ≤ a2) : PG Pm x o e a0 l sc cl ac a2 l1 cl1 ac1 F := by
  obtain ⟨p1, p2, p3, p4, p5, p6, p7, p8, p9⟩ := h
  exact ⟨by omega, p2, p3, by omega, p5, p6, p7, p8, p9.mo h1⟩
/-- a let -/
theorem PG.lt {nm : List Nat} (hA : fo_l A = 1) (hB : fo_l B = 1) (h1 : PG Pm x (o + 1) cl.length a1 (l + 1) sc cl ac a2 l3 cl1 ac1 A) (h2 : PG Pm x (o + 1) cl1.length a3 l3 (sc ++ [(nm, Pm + l)]) cl1 ac1 a4 l4 cl3 ac3 B) (h01 : a < a1) (h23 : a2 < a3) : PG Pm x o cl.length a l sc cl ac a4 l4 cl3 ac3 (.inner 0 14 (nI (Pm + l)) (fo_ap A B) .leaf) := by
  have g1 := h1.le
  have g2 := h2.le
  have i1 := fun c => h1.in (c := c)
  obtain ⟨p1, p2, ⟨w1, p3, p3x⟩, p4, p5, p6, p7, p8, p9⟩ := h1
  obtain ⟨q1, q2, ⟨w2, q3, q3x⟩, q4, q5, q6, q7, q8, q9⟩ := h2
  refine ⟨?_, by omega, ⟨w1 ++ w2, by rw [q3, p3, List.append_assoc], fun q hq => (List.mem_append.mp hq).elim (p3x q) (q3x q)⟩, by omega, fun i hi he => ?_, ?_, ?_, ⟨⟨14, by decide, by decide, rfl⟩, ?_, fun z => absurd z (by decide), fun z => absurd z (by decide), ?_, trivial⟩, q9⟩
  · simp only [fo_n, fo_n_ap]
    omega
  · rw [q5 i (by omega) (by omega)]
    exact p5 i hi he
  · simp only [pcl, show ¬ (14 : Int32) = 15 by decide, if_false, List.nil_append, List.append_nil]
    rw [pcl_ap, p6, q6, rg_ap g1 g2]
  · simp only [fo_b, if_true, List.append_nil]
    rw [fo_b_ap, p7, q7, ← List.map_append]
    have := rg_ap (s := Pm + (l + 1)) (m := Pm + l3) (k := Pm + l4) (by omega) (by omega)
    rw [show Pm + l3 - (Pm + (l + 1)) = l3 - (l + 1) by omega, show Pm + l4 - (Pm + l3) = l4 - l3 by omega, show Pm + l4 - (Pm + (l + 1)) = l4 - (l + 1) by omega] at this
    rw [this, show l4 - l = (l4 - (l + 1)) + 1 by omega, List.range'_succ]
    rfl
  · rw [fo_l_ap, hA, hB]; rfl
  · refine fo_w_ap A B _ (fo_w_at0 A hA ?_) (fo_w_at0 B hB ?_)
    · refine fo_w_pcg A _ p8 (fun v hv => ?_) g2
      have := i1 _ hv
      exact q5 _ this.2 (by omega)
    · refine fo_w_mo B _ _ q8 (fun i w hw => ?_)
      rw [hA]
      show w ∈ nI (Pm + l) :: scV sc
      rw [show scV (sc ++ [(nm, Pm + l)]) = scV sc ++ [nI (Pm + l)] by simp [scV]] at hw
      rcases List.mem_append.mp hw with hw | hw
      · exact List.mem_cons_of_mem _ hw
      · rw [List.mem_singleton.mp hw]
        exact List.mem_cons_self
/-- a call -/
theorem PG.ca {nm : List Nat} {p : Nat} (h : PG Pm x (o + 1) cl.length a2 l sc (cl ++ [(nm, p, x)]) (fup ac cl.length 0) a3 l3 cl3 ac3 W) (hW : fo_l W = ac3 cl.length) (h02 : a + 2 ≤ a2) (h34 : a3 < a4) (hlen : cl.length < 2 ^ 31) (ho : o < 30) : PG Pm x o cl.length a l sc cl ac a4 l3 cl3 ac3 (.inner 0 15 (nI cl.length) W .leaf) := by
  have g := h.le
  obtain ⟨p1, p2, ⟨w, p3, p3x⟩, p4, p5, p6, p7, p8, p9⟩ := h
  have e1 : (cl ++ [(nm, p, x)]).length = cl.length + 1 := by rw [List.length_append]; rfl
  rw [e1] at g p4 p5 p6
  refine ⟨by simp only [fo_n]; omega, p2, ⟨[(nm, p, x)] ++ w, by rw [p3, List.append_assoc], fun q hq => (List.mem_append.mp hq).elim (fun z => by rw [List.mem_singleton.mp z]) (p3x q)⟩, by omega, fun i hi he => ?_, ?_, ?_, ⟨⟨15, by decide, by decide, rfl⟩, ?_, fun z => absurd z (by decide), fun _ => ⟨cl.length, rfl, by omega⟩, ?_, trivial⟩, p9.mo (by omega)⟩
  · rw [p5 i (by omega) he]
    unfold fup
    rw [if_neg (by omega)]
  · simp only [pcl, if_true, List.append_nil]
    rw [p6, nI_clamp hlen, show cl3.length - cl.length = (cl3.length - (cl.length + 1)) + 1 by omega, List.range'_succ]
    rfl
  · simp only [fo_b, show ¬ (15 : Int32) = 14 by decide, if_false, List.nil_append, List.append_nil]
    exact p7
  · show fo_l W = ac3 (nI cl.length).toNatClampNeg
    rw [nI_clamp hlen]
    exact hW
  · refine fo_w_mo W _ _ p8 (fun i w hw => ?_)
    unfold k_sc
    rw [if_neg (fun z => absurd z.1 (by decide))]
    exact hw
/-- an argument more -/
theorem PG.ar {c : Nat} (h1 : PG Pm x o c a l sc cl ac a1 l1 cl1 ac1 W) (h2 : PG Pm x o cl1.length a2 l1 sc cl1 ac1 a3 l3 cl3 ac3 F) (h12 : a1 < a2 ∨ (a1 ≤ a2 ∧ W = .leaf ∧ cl1 = cl)) (hc : c < cl.length) : PG Pm x o c a l sc cl ac a3 l3 cl3 (fup ac3 c (ac3 c + 1)) (fo_ap W F) := by
  have h := h1.ap h2 h12
  have i1 := fun c => h.in (c := c)
  obtain ⟨p1, p2, p3, p4, p5, p6, p7, p8, p9⟩ := h
  refine ⟨p1, p2, p3, p4, fun i hi he => ?_, p6, p7, fo_w_pcg _ _ p8 (fun v hv => ?_) (Nat.le_refl _), p9⟩
  · unfold fup
    rw [if_neg he]
    exact p5 i hi he
  · have := i1 _ hv
    unfold fup
    rw [if_neg (by omega)]
end PGS
theorem scl_in {sc : SC} {nm : List Nat} {v : Nat} : ∀ i, i ≤ sc.length → scl sc nm i = some v → nI v ∈ scV sc
  | 0, _, h => by cases h
  | i + 1, hi, h => by
    unfold scl at h
    split at h
    · rw [← Option.some.inj h]
      exact List.mem_map.mpr ⟨_, List.mem_of_getElem? (sc_get (by omega)), rfl⟩
    · exact scl_in i (by omega) h
