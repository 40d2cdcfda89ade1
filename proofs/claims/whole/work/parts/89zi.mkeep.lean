/-! FOLDING, the model: which nodes of row 48 an expression has -/
def mkP (c k : Nat) : Bool := Nat.beq c 179
theorem mkP_r {c k : Nat} (h : c ≠ 179) : mkP c k = false := by
  cases e : mkP c k with
  | false => rfl
  | true =>
    unfold mkP at e
    exact absurd (Nat.beq_eq.mp e) h
theorem mkP_t {k : Nat} : mkP 179 k = true := rfl
section MK
variable {cx : gCx} {d : Nat} {ad : Nat → Nat} {t : gSt} {post : Option Value → gSt → Prop} {L : List ND} {G : List Int32} {n : Nat} {par : Int32 → Nat}
abbrev kHd (cx : gCx) (d : Nat) (ad : Nat → Nat) (post : Option Value → gSt → Prop) (a2 : Int32) (hi : Nat) (t : gSt) : Prop := ∀ o4 o5, g_W cx (g_E cx d) mt_Mo_keepParts post (2, [some (.ref (ad 144)), some (.int (nI 48)), some (.int a2), some (.int (nI hi + -1)), o4, o5], [], t, 0, 0)
theorem nI_m1 (n : Nat) : nI (n + 1) + -1 = nI n := nI_dn n 1
/-- no node between lo and hi is kept: they are passed by -/
theorem k_skip {a2 : Int32} {lo : Nat} : ∀ (j hi : Nat) (t : gSt), Lay t ad → hi = lo + j → hi ≤ 1300 → (∀ i, lo ≤ i → i < hi → t.2.1 (ad 179) i = 0) → kHd cx d ad post a2 lo t → kHd cx d ad post a2 hi t
  | 0, hi, t, _, e, _, _, h => by
    rw [e]
    exact h
  | j + 1, hi, t, hL, e, h13, hz, h => by
    intro o4 o5
    have e1 : hi = (lo + j) + 1 := by omega
    have ih := k_skip j (lo + j) t hL rfl (by omega) (fun i h1 h2 => hz i h1 (by omega)) h
    rw [e1, nI_m1]
    refine x_Mo_keepParts_2 hL ⟨fun c => absurd c (nI_pos (by omega)), fun _ x1 _ => ⟨vp_in_nI (by omega) (by omega), fun _ => x_Mo_keepParts_176 hL (ih _ _), fun c => ?_⟩⟩
    rw [nI_clamp (by omega)] at c
    exact absurd (hz (lo + j) (by omega) (by omega)) c
theorem k_args {a2 x1 : Int32} {m : Nat} {rs : List Nat} {q0 : Nat} (hm : m < 1300) (hx1 : x1 = nI (1300 * 48 + m)) (hq : q0 + rs.length ≤ 1300) (hrs : ∀ r ∈ rs, r < 1300) : ∀ (j i : Nat) (u : gSt), i + j = rs.length → Lay u ad → u.2.1 (ad 152) (1300 * 48 + m) = nI q0 → u.2.1 (ad 153) (1300 * 48 + m) = nI rs.length → (∀ i r, rs[i]? = some r → u.2.1 (ad 155) (1300 * 48 + (q0 + i)) = nI r) → (∀ w, gFr ad mkP u w → (∀ c, w.2.1 (ad 179) c = if c ∈ rs.drop i then 1 else u.2.1 (ad 179) c) → kHd cx d ad post a2 m w) → g_W cx (g_E cx d) mt_Mo_keepParts post (53, [some (.ref (ad 144)), some (.int (nI 48)), some (.int a2), some (.int (nI m)), some (.int x1), some (.int (nI i))], [], u, 0, 0)
  | 0, i, u, e, hL, h152, h153, h155, h => by
    subst hx1
    refine x_Mo_keepParts_53 hL ?_
    rw [nI_clamp (by omega), h153]
    refine ⟨vp_in_nI (by omega) (by omega), fun _ => x_Mo_keepParts_176 hL (h u (gFr.rf hL) (fun c => ?_) _ _), fun c => absurd (nI_le (by omega) (by omega)) c⟩
    rw [List.drop_eq_nil_of_le (by omega), if_neg (fun z => by cases z)]
  | j + 1, i, u, e, hL, h152, h153, h155, h => by
    have hil : i < rs.length := by omega
    have hri : rs[i]? = some rs[i] := List.getElem?_eq_getElem hil
    have hr := hrs rs[i] (List.mem_of_getElem? hri)
    have ixq : (1300 : Int32) * nI 48 + nI q0 + nI i = nI (1300 * 48 + (q0 + i)) := by rw [show (1300 : Int32) = nI 1300 from rfl, nI_mul, nI_add, nI_add, Nat.add_assoc]
    have hx1' := hx1
    subst hx1'
    refine x_Mo_keepParts_53 hL ?_
    rw [nI_clamp (n := 1300 * 48 + m) (by omega), h153, h152, ixq, nI_clamp (n := 1300 * 48 + (q0 + i)) (by omega), h155 i _ hri]
    refine ⟨vp_in_nI (by omega) (by omega), fun c => absurd c (nI_ge (by omega) (by omega)), fun _ => ⟨vp_in_nI (by omega) (by omega), vp_in_nI (by omega) (by omega), vp_in_nI hr (by omega), fun t1 e1 => ?_⟩⟩
    rw [nI_clamp (by omega)] at e1
    rw [nI_1]
    have n1 : ∀ c k, c ≠ 179 → c < 199 → t1.2.1 (ad c) k = u.2.1 (ad c) k := fun c k hc hl => by rw [e1, g_rd_ne (hL.ne c 179 hl (by decide) hc)]
    have F1 : gFr ad mkP u t1 := by rw [e1]; exact (gFr.rf hL).si mkP_t
    refine k_args hm hx1 hq hrs j (i + 1) t1 (by omega) F1.L (by rw [n1 _ _ (by decide) (by decide)]; exact h152) (by rw [n1 _ _ (by decide) (by decide)]; exact h153) (fun i r hr => by rw [n1 _ _ (by decide) (by decide)]; exact h155 i r hr) (fun w Fw hw => h w (F1.tr Fw) (fun c => ?_))
    rw [hw c]
    rw [List.drop_eq_getElem_cons hil]
    by_cases c1 : c ∈ rs.drop (i + 1)
    · rw [if_pos c1, if_pos (List.mem_cons_of_mem _ c1)]
    · rw [if_neg c1, e1]
      by_cases c2 : c = rs[i]
      · rw [if_pos (by rw [c2]; exact List.mem_cons_self ..), c2, g_rd_at]
        rfl
      · rw [g_rd_k c2, if_neg (fun z => (List.mem_cons.mp z).elim c2 c1)]
/-- a kept node: its operands are kept -/
theorem k_node {a2 : Int32} {m : Nat} {k v : Int32} {rs : List Nat} {u : gSt} (hm : m < 1300) (hL : Lay u ad) (hE : REy ad 48 L G u) (hml : m < L.length) (hG : G.length ≤ 1300) (hk : ∃ j, 1 ≤ j ∧ j ≤ 15 ∧ k = nI j) (har : rs.length = k_ar par k v) (hN : fo_k (nK L) (nA L) (nBb L) (nC L) (aG G) G.length id m k v rs) (hrs : ∀ r ∈ rs, r < 1300) (h179 : u.2.1 (ad 179) m = 1) (h : ∀ w, gFr ad mkP u w → (∀ c, w.2.1 (ad 179) c = if c ∈ rs then 1 else u.2.1 (ad 179) c) → kHd cx d ad post a2 m w) : kHd cx d ad post a2 (m + 1) u := by
  intro o4 o5
  obtain ⟨q, hq⟩ : ∃ q, L[m]? = some q := ⟨_, List.getElem?_eq_getElem hml⟩
  obtain ⟨E1, E2, E3, E4⟩ := hE
  obtain ⟨p1, p2, p3, p4⟩ := E3 m q hq
  have k1 : nK L m = q.1 := by unfold nK; rw [hq]; rfl
  have k2 : nA L m = q.2.1 := by unfold nA; rw [hq]; rfl
  have k3 : nBb L m = q.2.2.1 := by unfold nBb; rw [hq]; rfl
  have k4 : nC L m = q.2.2.2 := by unfold nC; rw [hq]; rfl
  obtain ⟨m1, m2, m3, m4⟩ := hN
  simp only [id] at m1 m2 m3 m4
  rw [k1] at m1
  rw [k2] at m2 m3 m4
  rw [k3] at m3 m4
  rw [k4] at m3 m4
  rw [m1] at p1
  obtain ⟨j, j1, j2, ej⟩ := hk
  have kk : ∀ i, i < 100 → (k = nI i ↔ j = i) := fun i hi => by rw [ej, nI_eq (by omega) (by omega)]
  have rt : ∀ i q, rs[i]? = some q → q ∈ rs := fun i q h => List.mem_of_getElem? h
  have hvm : vp_in (nI (1300 * 48 + m)) 93600 := vp_in_nI (by omega) (by omega)
  rw [nI_m1]
  refine x_Mo_keepParts_2 hL ⟨fun c => absurd c (nI_pos (by omega)), fun _ x1 e1 => ⟨vp_in_nI hm (by omega), fun c => ?_, fun _ => ?_⟩⟩
  · rw [nI_clamp (by omega), h179] at c
    exact absurd c (by decide)
  rw [ix13] at e1
  have ex1 := e1
  subst e1
  rw [nI_clamp (by omega), p1, p2]
  have none2 : rs = [] → g_W cx (g_E cx d) mt_Mo_keepParts post (176, [some (.ref (ad 144)), some (.int (nI 48)), some (.int a2), some (.int (nI m)), some (.int (nI (1300 * 48 + m))), o5], [], u, 0, 0) := fun e => x_Mo_keepParts_176 hL (h u (gFr.rf hL) (fun c => by rw [e, if_neg (fun z => by cases z)]) _ _)
  refine ⟨hvm, fun c2 => ⟨hvm, fun c15 => ⟨hvm, ?_⟩, fun c15 => ?_⟩, fun c2 => ?_⟩
  · -- operands
    have j2' : 2 < j := by rw [ej, show (2 : Int32) = nI 2 from rfl, nI_ltI (by omega) (by omega)] at c2; exact c2
    have n15 : j ≠ 15 := fun c => c15 ((kk 15 (by omega)).mpr c)
    obtain ⟨o1, o2, o3, _⟩ := m4 (fun z => by
      rcases z with z | z | z
      · have := (kk 1 (by omega)).mp z; omega
      · have := (kk 2 (by omega)).mp z; omega
      · exact c15 z)
    have hl0 : 0 < rs.length := by
      rw [har]
      unfold k_ar
      rw [if_neg (fun z => by
        rcases z with z | z
        · have := (kk 1 (by omega)).mp z; omega
        · have := (kk 2 (by omega)).mp z; omega)]
      split
      · omega
      · split
        · omega
        · first | omega | (rw [if_neg c15]; omega)
    obtain ⟨r0, e0⟩ : ∃ r0, rs[0]? = some r0 := ⟨_, List.getElem?_eq_getElem hl0⟩
    have b0 := hrs r0 (rt 0 r0 e0)
    rw [o1 r0 e0]
    refine ⟨vp_in_nI b0 (by omega), fun t2 e2 => ⟨hvm, ?_⟩⟩
    rw [nI_clamp (by omega)] at e2
    have n2 : ∀ c k, c ≠ 179 → c < 199 → t2.2.1 (ad c) k = u.2.1 (ad c) k := fun c k hc hl => by rw [e2, g_rd_ne (hL.ne c 179 hl (by decide) hc)]
    have F2 : gFr ad mkP u t2 := by rw [e2]; exact (gFr.rf hL).si mkP_t
    have v2 : ∀ c, t2.2.1 (ad 179) c = if c = r0 then 1 else u.2.1 (ad 179) c := fun c => by
      rw [e2]
      by_cases z : c = r0
      · rw [if_pos z, z, g_rd_at]; rfl
      · rw [if_neg z, g_rd_k z]
    rw [n2 151 _ (by decide) (by decide), p1, n2 153 _ (by decide) (by decide), p3]
    have one : (j = 10 ∨ j = 11) → rs = [r0] := fun hj => by
      have : rs.length = 1 := by
        rw [har]
        unfold k_ar
        rw [if_neg (fun z => by
          rcases z with z | z
          · have := (kk 1 (by omega)).mp z; omega
          · have := (kk 2 (by omega)).mp z; omega), if_pos (by
          rcases hj with z | z
          · exact Or.inl ((kk 10 (by omega)).mpr z)
          · exact Or.inr ((kk 11 (by omega)).mpr z))]
      match rs, this, e0 with
      | [a], _, e0 => rw [show a = r0 by simpa using e0]
    have go1 : (j = 10 ∨ j = 11) → g_W cx (g_E cx d) mt_Mo_keepParts post (151, [some (.ref (ad 144)), some (.int (nI 48)), some (.int a2), some (.int (nI m)), some (.int (nI (1300 * 48 + m))), o5], [], t2, 0, 0) := fun hj => by
      refine x_Mo_keepParts_151 F2.L ?_
      rw [nI_clamp (by omega), n2 151 _ (by decide) (by decide), p1]
      refine ⟨hvm, fun _ => x_Mo_keepParts_176 F2.L (h t2 F2 (fun c => ?_) _ _), fun c => ?_⟩
      · rw [v2, one hj]
        simp only [List.mem_singleton]
      · have := (kk 13 (by omega)).mp (Classical.not_not.mp c)
        omega
    refine ⟨fun c => go1 (Or.inl ((kk 10 (by omega)).mp c)), fun c10 => ⟨hvm, fun c => go1 (Or.inr ((kk 11 (by omega)).mp c)), fun c11 => ⟨hvm, ?_⟩⟩⟩
    have hl2 : rs.length = if k = 13 then 3 else 2 := by
      rw [har]
      unfold k_ar
      rw [if_neg (fun z => by
        rcases z with z | z
        · have := (kk 1 (by omega)).mp z; omega
        · have := (kk 2 (by omega)).mp z; omega), if_neg (fun z => z.elim c10 c11), if_neg c15]
    obtain ⟨r1, e1⟩ : ∃ r1, rs[1]? = some r1 := ⟨_, List.getElem?_eq_getElem (by rw [hl2]; split <;> omega)⟩
    have b1 := hrs r1 (rt 1 r1 e1)
    rw [o2 r1 e1]
    refine ⟨vp_in_nI b1 (by omega), fun t3 e3 => ?_⟩
    rw [nI_clamp (by omega)] at e3
    have n3 : ∀ c k, c ≠ 179 → c < 199 → t3.2.1 (ad c) k = u.2.1 (ad c) k := fun c k hc hl => by rw [e3, g_rd_ne (hL.ne c 179 hl (by decide) hc), n2 c k hc hl]
    have F3 : gFr ad mkP u t3 := by rw [e3]; exact F2.si mkP_t
    have v3 : ∀ c, t3.2.1 (ad 179) c = if c = r1 ∨ c = r0 then 1 else u.2.1 (ad 179) c := fun c => by
      rw [e3]
      by_cases z : c = r1
      · rw [if_pos (Or.inl z), z, g_rd_at]; rfl
      · rw [g_rd_k z, v2]
        by_cases z0 : c = r0
        · rw [if_pos z0, if_pos (Or.inr z0)]
        · rw [if_neg z0, if_neg (fun q => q.elim z z0)]
    refine x_Mo_keepParts_151 F3.L ?_
    rw [nI_clamp (by omega), n3 151 _ (by decide) (by decide), p1, n3 154 _ (by decide) (by decide), p4]
    refine ⟨hvm, fun c13 => x_Mo_keepParts_176 F3.L (h t3 F3 (fun c => ?_) _ _), fun c13 => ⟨hvm, ?_⟩⟩
    · rw [if_neg c13] at hl2
      have : rs = [r0, r1] := by
        match rs, hl2, e0, e1 with
        | [a, b], _, e0, e1 => rw [show a = r0 by simpa using e0, show b = r1 by simpa using e1]
      rw [v3, this]
      simp only [List.mem_cons, List.not_mem_nil, or_false]
      by_cases z : c = r1 ∨ c = r0
      · rw [if_pos z, if_pos (by omega)]
      · rw [if_neg z, if_neg (by omega)]
    · have c13 := Classical.not_not.mp c13
      rw [if_pos c13] at hl2
      obtain ⟨r2, e2'⟩ : ∃ r2, rs[2]? = some r2 := ⟨_, List.getElem?_eq_getElem (by omega)⟩
      have b2 := hrs r2 (rt 2 r2 e2')
      rw [o3 r2 e2']
      refine ⟨vp_in_nI b2 (by omega), fun t4 e4 => ?_⟩
      rw [nI_clamp (by omega)] at e4
      have F4 : gFr ad mkP u t4 := by rw [e4]; exact F3.si mkP_t
      refine x_Mo_keepParts_176 F4.L (h t4 F4 (fun c => ?_) _ _)
      have : rs = [r0, r1, r2] := by
        match rs, hl2, e0, e1, e2' with
        | [a, b, c], _, e0, e1, e2' => rw [show a = r0 by simpa using e0, show b = r1 by simpa using e1, show c = r2 by simpa using e2']
      rw [e4, this]
      simp only [List.mem_cons, List.not_mem_nil, or_false]
      by_cases z : c = r2
      · rw [z, g_rd_at, if_pos (by omega)]; rfl
      · rw [g_rd_k z, v3]
        by_cases z0 : c = r1 ∨ c = r0
        · rw [if_pos z0, if_pos (by omega)]
        · rw [if_neg z0, if_neg (by omega)]
  · -- a call
    have c15 := Classical.not_not.mp c15
    obtain ⟨b1, b2, q0, b3, b4, b5⟩ := m3 c15
    refine k_args (q0 := q0) hm rfl (by omega) hrs rs.length 0 u (by omega) hL (by rw [p2]; exact b3) (by rw [p3]; exact b2) (fun i r hr => ?_) (fun w Fw hw => h w Fw (fun c => ?_))
    · have := b5 i r hr
      have hlt := (List.getElem?_eq_some_iff.mp hr).1
      obtain ⟨a, ha⟩ : ∃ a, G[q0 + i]? = some a := ⟨_, List.getElem?_eq_getElem (by omega)⟩
      have e : aG G (q0 + i) = a := by unfold aG; rw [ha]; rfl
      rw [E4 _ a ha, ← e]
      exact this
    · rw [hw c, List.drop_zero]
  · -- no operands
    have : j ≤ 2 := by rw [ej, show (2 : Int32) = nI 2 from rfl, nI_ltI (by omega) (by omega)] at c2; omega
    refine none2 (List.length_eq_zero_iff.mp ?_)
    rw [har]
    unfold k_ar
    rw [if_pos]
    rcases (show j = 1 ∨ j = 2 by omega) with z | z
    · exact Or.inl ((kk 1 (by omega)).mpr z)
    · exact Or.inr ((kk 2 (by omega)).mpr z)
end MK
