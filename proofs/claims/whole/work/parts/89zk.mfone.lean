/-! FOLDING, the model: one node -/
def mfP (c k : Nat) : Bool := meY 48 c k || (Nat.ble 177 c && Nat.ble c 179)
theorem mfP_in {c k : Nat} (h : mfP c k = true) : (151 ≤ c ∧ c ≤ 155 ∧ 62400 ≤ k ∧ k ≤ 63699) ∨ ((c = 148 ∨ c = 156) ∧ k = 48) ∨ (177 ≤ c ∧ c ≤ 179) := by
  unfold mfP at h
  rw [Bool.or_eq_true] at h
  rcases h with h | h
  · have := meY_in h
    omega
  · simp only [Bool.and_eq_true, Nat.ble_eq] at h
    omega
theorem mfP_t {c k : Nat} (h : (151 ≤ c ∧ c ≤ 155 ∧ 62400 ≤ k ∧ k ≤ 63699) ∨ ((c = 148 ∨ c = 156) ∧ k = 48) ∨ (177 ≤ c ∧ c ≤ 179)) : mfP c k = true := by
  unfold mfP
  rw [Bool.or_eq_true]
  by_cases c1 : 177 ≤ c ∧ c ≤ 179
  · right
    simp only [Bool.and_eq_true, Nat.ble_eq]
    exact c1
  · exact Or.inl (meY_t (by omega))
theorem mfP_r {c k : Nat} (h : ¬ ((151 ≤ c ∧ c ≤ 155 ∧ 62400 ≤ k ∧ k ≤ 63699) ∨ ((c = 148 ∨ c = 156) ∧ k = 48) ∨ (177 ≤ c ∧ c ≤ 179))) : mfP c k = false := by
  cases e : mfP c k with
  | false => rfl
  | true => exact absurd (mfP_in e) h
def QD (t0 : gSt) (ad : Nat → Nat) (L : List ND) (G : List Int32) (M : Nat → Int32) (cm : Nat → Bool) (t : gSt) : Prop := gFr ad mfP t0 t ∧ REy ad 48 L G t ∧ t.2.1 (ad 177) = M ∧ ∀ i, i < L.length → t.2.1 (ad 178) i = b32 (cm i)
def FRes (t0 : gSt) (ad : Nat → Nat) (L : List ND) (G : List Int32) (M : Nat → Int32) (cm : Nat → Bool) (lo : Nat) (ρ : RHO) (k v : Int32) (K : Fo) (u : gSt) (y : Nat) (X : List ND) (Y : List Int32) (T : Fo) (cm' : Nat → Bool) : Prop := (QD t0 ad (L ++ X) (G ++ Y) M cm' u) ∧ (fz T = fz (cmb ρ L.length k v K)) ∧ (rpd (L ++ X) (G ++ Y) T) ∧ (zr T = [y]) ∧ ((zq T).Pairwise (· < ·)) ∧ (∀ q ∈ zq T, lo ≤ q ∧ q < (L ++ X).length) ∧ (cmo cm' T) ∧ (∀ i, i < L.length → cm' i = cm i) ∧ (X.length ≤ 1) ∧ (Y.length ≤ (if k = 15 then fo_l K else 0))
theorem FRes.q {t0 : gSt} {ad : Nat → Nat} {L : List ND} {G : List Int32} {M : Nat → Int32} {cm : Nat → Bool} {lo : Nat} {ρ : RHO} {k v : Int32} {K : Fo} {u : gSt} {y : Nat} {X : List ND} {Y : List Int32} {T : Fo} {cm' : Nat → Bool} (h : FRes t0 ad L G M cm lo ρ k v K u y X Y T cm') : QD t0 ad (L ++ X) (G ++ Y) M cm' u := h.1
theorem FRes.z {t0 : gSt} {ad : Nat → Nat} {L : List ND} {G : List Int32} {M : Nat → Int32} {cm : Nat → Bool} {lo : Nat} {ρ : RHO} {k v : Int32} {K : Fo} {u : gSt} {y : Nat} {X : List ND} {Y : List Int32} {T : Fo} {cm' : Nat → Bool} (h : FRes t0 ad L G M cm lo ρ k v K u y X Y T cm') : fz T = fz (cmb ρ L.length k v K) := h.2.1
theorem FRes.r {t0 : gSt} {ad : Nat → Nat} {L : List ND} {G : List Int32} {M : Nat → Int32} {cm : Nat → Bool} {lo : Nat} {ρ : RHO} {k v : Int32} {K : Fo} {u : gSt} {y : Nat} {X : List ND} {Y : List Int32} {T : Fo} {cm' : Nat → Bool} (h : FRes t0 ad L G M cm lo ρ k v K u y X Y T cm') : rpd (L ++ X) (G ++ Y) T := h.2.2.1
theorem FRes.zr' {t0 : gSt} {ad : Nat → Nat} {L : List ND} {G : List Int32} {M : Nat → Int32} {cm : Nat → Bool} {lo : Nat} {ρ : RHO} {k v : Int32} {K : Fo} {u : gSt} {y : Nat} {X : List ND} {Y : List Int32} {T : Fo} {cm' : Nat → Bool} (h : FRes t0 ad L G M cm lo ρ k v K u y X Y T cm') : zr T = [y] := h.2.2.2.1
theorem FRes.p {t0 : gSt} {ad : Nat → Nat} {L : List ND} {G : List Int32} {M : Nat → Int32} {cm : Nat → Bool} {lo : Nat} {ρ : RHO} {k v : Int32} {K : Fo} {u : gSt} {y : Nat} {X : List ND} {Y : List Int32} {T : Fo} {cm' : Nat → Bool} (h : FRes t0 ad L G M cm lo ρ k v K u y X Y T cm') : (zq T).Pairwise (· < ·) := h.2.2.2.2.1
theorem FRes.b {t0 : gSt} {ad : Nat → Nat} {L : List ND} {G : List Int32} {M : Nat → Int32} {cm : Nat → Bool} {lo : Nat} {ρ : RHO} {k v : Int32} {K : Fo} {u : gSt} {y : Nat} {X : List ND} {Y : List Int32} {T : Fo} {cm' : Nat → Bool} (h : FRes t0 ad L G M cm lo ρ k v K u y X Y T cm') : ∀ q ∈ zq T, lo ≤ q ∧ q < (L ++ X).length := h.2.2.2.2.2.1
theorem FRes.c {t0 : gSt} {ad : Nat → Nat} {L : List ND} {G : List Int32} {M : Nat → Int32} {cm : Nat → Bool} {lo : Nat} {ρ : RHO} {k v : Int32} {K : Fo} {u : gSt} {y : Nat} {X : List ND} {Y : List Int32} {T : Fo} {cm' : Nat → Bool} (h : FRes t0 ad L G M cm lo ρ k v K u y X Y T cm') : cmo cm' T := h.2.2.2.2.2.2.1
theorem FRes.c0 {t0 : gSt} {ad : Nat → Nat} {L : List ND} {G : List Int32} {M : Nat → Int32} {cm : Nat → Bool} {lo : Nat} {ρ : RHO} {k v : Int32} {K : Fo} {u : gSt} {y : Nat} {X : List ND} {Y : List Int32} {T : Fo} {cm' : Nat → Bool} (h : FRes t0 ad L G M cm lo ρ k v K u y X Y T cm') : ∀ i, i < L.length → cm' i = cm i := h.2.2.2.2.2.2.2.1
theorem FRes.x {t0 : gSt} {ad : Nat → Nat} {L : List ND} {G : List Int32} {M : Nat → Int32} {cm : Nat → Bool} {lo : Nat} {ρ : RHO} {k v : Int32} {K : Fo} {u : gSt} {y : Nat} {X : List ND} {Y : List Int32} {T : Fo} {cm' : Nat → Bool} (h : FRes t0 ad L G M cm lo ρ k v K u y X Y T cm') : X.length ≤ 1 := h.2.2.2.2.2.2.2.2.1
theorem FRes.y' {t0 : gSt} {ad : Nat → Nat} {L : List ND} {G : List Int32} {M : Nat → Int32} {cm : Nat → Bool} {lo : Nat} {ρ : RHO} {k v : Int32} {K : Fo} {u : gSt} {y : Nat} {X : List ND} {Y : List Int32} {T : Fo} {cm' : Nat → Bool} (h : FRes t0 ad L G M cm lo ρ k v K u y X Y T cm') : Y.length ≤ (if k = 15 then fo_l K else 0) := h.2.2.2.2.2.2.2.2.2
theorem fcalm_in {z : Nat} {k v : Int32} {a b : Fo} : fcalm (.inner z k v a b) = (fclm k && (fcalm a && fcalm b)) := by
  unfold fcalm
  show ((k, v) :: (fo_p a ++ fo_p b)).all _ = _
  rw [List.all_cons, List.all_append]
section MO
variable {cx : gCx} {d : Nat} {ad : Nat → Nat} {t0 t : gSt} {post : Option Value → gSt → Prop} {L : List ND} {G : List Int32} {M : Nat → Int32} {cm : Nat → Bool} {lo : Nat} {ρ : RHO} {k v : Int32} {K : Fo}
theorem m_isNum48 {z : Nat} (hL13 : L.length ≤ 1300) (hL : Lay t ad) (hE : REy ad 48 L G t) (hz : z < L.length) (h : post (some (.int (b32 (decide (nK L z = 1))))) t) : g_E cx (d + 1) i_Mo_isNumber [.ref (ad 144), .int (nI 48), .int (nI z)] t post := by
  obtain ⟨q, hq⟩ : ∃ q, L[z]? = some q := ⟨_, List.getElem?_eq_getElem hz⟩
  have p1 := (hE.2.2.1 z q hq).1
  have k1 : nK L z = q.1 := by unfold nK; rw [hq]; rfl
  refine x_Mo_isNumber hL ?_
  rw [ix13, nI_clamp (by omega), p1, ← k1]
  refine ⟨vp_in_nI (by omega) (by omega), fun c => ?_, fun c => ?_⟩
  · rw [decide_eq_false c] at h; exact h
  · rw [decide_eq_true (Classical.not_not.mp c)] at h; exact h
theorem m_numOf48 {z : Nat} (hL13 : L.length ≤ 1300) (hL : Lay t ad) (hE : REy ad 48 L G t) (hz : z < L.length) (h : post (some (.int (nA L z))) t) : g_E cx (d + 1) i_Mo_numberOf [.ref (ad 144), .int (nI 48), .int (nI z)] t post := by
  obtain ⟨q, hq⟩ : ∃ q, L[z]? = some q := ⟨_, List.getElem?_eq_getElem hz⟩
  have p1 := (hE.2.2.1 z q hq).2.1
  have k1 : nA L z = q.2.1 := by unfold nA; rw [hq]; rfl
  refine x_Mo_numberOf hL ?_
  rw [ix13, nI_clamp (by omega), p1, ← k1]
  exact ⟨vp_in_nI (by omega) (by omega), h⟩
theorem QD.me {u : gSt} {L' : List ND} {G' : List Int32} {cm' : Nat → Bool} {b : Bool} (hQ : QD t0 ad L G M cm t) (hF : gFr ad (meY 48) t u) (hE : REy ad 48 L' G' u) (hl : L'.length = L.length + 1) {t1 : gSt} (e1 : t1 = g_si u (ad 178) L.length (b32 b)) (h1 : cm' L.length = b) (h2 : ∀ i, i < L.length → cm' i = cm i) : QD t0 ad L' G' M cm' t1 := by
  obtain ⟨F, E, m, c⟩ := hQ
  have n1 : ∀ c k, c ≠ 178 → c < 199 → t1.2.1 (ad c) k = u.2.1 (ad c) k := fun c k hc hl => by rw [e1, g_rd_ne (hF.L.ne c 178 hl (by decide) hc)]
  have F1 : gFr ad mfP t t1 := by
    rw [e1]
    exact (hF.mo (fun c k q => mfP_t (by have := meY_in q; omega))).si (mfP_t (by omega))
  refine ⟨F.tr F1, ?_, ?_, fun i hi => ?_⟩
  · obtain ⟨a1, a2, a3, a4⟩ := hE
    refine ⟨by rw [n1 148 48 (by decide) (by decide)]; exact a1, by rw [n1 156 48 (by decide) (by decide)]; exact a2, fun i q hq => ?_, fun i a ha => by rw [n1 155 _ (by decide) (by decide)]; exact a4 i a ha⟩
    rw [n1 151 _ (by decide) (by decide), n1 152 _ (by decide) (by decide), n1 153 _ (by decide) (by decide), n1 154 _ (by decide) (by decide)]
    exact a3 i q hq
  · rw [← m]
    exact funext (fun j => by rw [n1 177 j (by decide) (by decide), hF.i 177 j (meY_r (by omega))])
  · rw [e1]
    by_cases ci : i = L.length
    · rw [ci, g_rd_at, h1]
    · rw [g_rd_k ci, hF.i 178 i (meY_r (by omega)), h2 i (by omega)]
      exact c i (by omega)
theorem QD.mk {u : gSt} (hQ : QD t0 ad L G M cm t) (hF : gFr ad mkP t u) : QD t0 ad L G M cm u := by
  obtain ⟨F, E, m, c⟩ := hQ
  refine ⟨F.tr (hF.mo (fun c k q => mfP_t (by
    unfold mkP at q
    have := Nat.beq_eq.mp q
    omega))), E.mk hF, ?_, fun i hi => ?_⟩
  · rw [← m]
    exact funext (fun j => hF.i 177 j (mkP_r (by decide)))
  · rw [hF.i 178 i (mkP_r (by decide))]
    exact c i hi
/-- a new node that stays -/
theorem fr_new {u t1 : gSt} {q : ND} {G' : List Int32} {b : Bool} (hQ : QD t0 ad L G M cm t) (hF : gFr ad (meY 48) t u) (hE : REy ad 48 (L ++ [q]) (G ++ G') u) (hk : fo_k (nK (L ++ [q])) (nA (L ++ [q])) (nBb (L ++ [q])) (nC (L ++ [q])) (aG (G ++ G')) (G ++ G').length id L.length k v (zr K)) (hg : G'.length = if k = 15 then fo_l K else 0) (e1 : t1 = g_si u (ad 178) L.length (b32 b)) (hr : rpd L G K) (hp : (zq K).Pairwise (· < ·)) (hb' : ∀ q ∈ zq K, lo ≤ q ∧ q < L.length) (hlo : lo ≤ L.length) (hcm : cmb ρ L.length k v K = .inner L.length k v K .leaf) (hb2 : b = fcalm (.inner L.length k v K .leaf)) : FRes t0 ad L G M cm lo ρ k v K t1 L.length [q] G' (.inner L.length k v K .leaf) (fun i => if i = L.length then b else cm i) := by
  refine ⟨hQ.me hF hE (by simp) e1 (if_pos rfl) (fun i hi => if_neg (by omega)), by rw [hcm], ⟨rpd_mo K hr (fun q hq => (hb' q hq).2), hk, trivial⟩, rfl, ?_, fun q hq => ?_, ⟨?_, trivial⟩, fun i hi => if_neg (by omega), by simp, by rw [hg]; exact Nat.le_refl _⟩
  · show (zq K ++ [L.length]).Pairwise (· < ·)
    refine List.pairwise_append.mpr ⟨hp, List.pairwise_singleton .., fun a ha b hb => ?_⟩
    rw [List.mem_singleton.mp hb]
    exact (hb' a ha).2
  · have hq : q ∈ zq K ++ [L.length] := hq
    rw [List.length_append]
    rcases List.mem_append.mp hq with hq | hq
    · have := hb' q hq
      simp only [List.length_cons, List.length_nil]
      omega
    · rw [List.mem_singleton.mp hq]
      simp only [List.length_cons, List.length_nil]
      omega
  · dsimp only
    rw [if_pos rfl, hb2]
/-- a new number -/
theorem fr_num {u t1 : gSt} {x : Int32} (hQ : QD t0 ad L G M cm t) (hF : gFr ad (meY 48) t u) (hE : REy ad 48 (L ++ [(1, x, 0, 0)]) G u) (e1 : t1 = g_si u (ad 178) L.length (b32 true)) (hlo : lo ≤ L.length) (hcm : cmb ρ L.length k v K = fnd x) : FRes t0 ad L G M cm lo ρ k v K t1 L.length [(1, x, 0, 0)] [] (.inner L.length 1 x .leaf .leaf) (fun i => if i = L.length then true else cm i) := by
  refine ⟨by rw [List.append_nil]; exact hQ.me hF hE (by simp) e1 (if_pos rfl) (fun i hi => if_neg (by omega)), by rw [hcm]; rfl, ⟨trivial, ?_, trivial⟩, rfl, List.pairwise_singleton .., fun q hq => ?_, ⟨?_, trivial⟩, fun i hi => if_neg (by omega), by simp, by simp⟩
  · rw [List.append_nil]
    exact fo_kL rfl (fun _ => rfl) (fun c => absurd c (by decide)) (fun c => absurd (Or.inl rfl) c)
  · have hq : q ∈ [L.length] := hq
    rw [List.mem_singleton.mp hq, List.length_append]
    simp only [List.length_cons, List.length_nil]
    omega
  · dsimp only
    rw [if_pos rfl]
    rfl
/-- an operand in its place -/
theorem fr_kid {T : Fo} {y : Nat} (hQ : QD t0 ad L G M cm t) (hr : rpd L G T) (hz : zr T = [y]) (hp : (zq T).Pairwise (· < ·)) (hb' : ∀ q ∈ zq T, lo ≤ q ∧ q < L.length) (hc : cmo cm T) (hcm : cmb ρ L.length k v K = T) : FRes t0 ad L G M cm lo ρ k v K t y [] [] T cm := by
  refine ⟨by rw [List.append_nil, List.append_nil]; exact hQ, by rw [hcm], by rw [List.append_nil, List.append_nil]; exact hr, hz, hp, by rw [List.append_nil]; exact hb', hc, fun _ _ => rfl, by simp, by simp⟩
end MO
