/-! FOLDING, the model: one node, by kind -/
def FOH (t0 : gSt) (ad : Nat → Nat) (n : Nat) (par : Int32 → Nat) (x N r : Nat) (k v : Int32) (rs : List Nat) (K : Fo) (L : List ND) (G : List Int32) (M : Nat → Int32) (cm : Nat → Bool) (lo : Nat) (t : gSt) : Prop := (x < 48) ∧ (r < 1300) ∧ (N ≤ 1300) ∧ (rowK t0 ad x N r k v rs) ∧ (rs.length = k_ar par k v) ∧ (∃ j, 1 ≤ j ∧ j ≤ 15 ∧ k = nI j) ∧ (∀ q ∈ rs, q < 1300) ∧ (fo_l K = rs.length) ∧ (∀ (j y z : Nat), rs[j]? = some y → (zr K)[j]? = some z → M y = nI z) ∧ (QD t0 ad L G M cm t) ∧ (L.length < 1300) ∧ (G.length + rs.length ≤ 1300) ∧ (rpd L G K) ∧ (fo_v n par (fun _ _ => True) K) ∧ ((zq K).Pairwise (· < ·)) ∧ (∀ q ∈ zq K, lo ≤ q ∧ q < L.length) ∧ (cmo cm K) ∧ (lo ≤ L.length)
theorem FOH.hx {t0 : gSt} {ad : Nat → Nat} {n : Nat} {par : Int32 → Nat} {x N r : Nat} {k v : Int32} {rs : List Nat} {K : Fo} {L : List ND} {G : List Int32} {M : Nat → Int32} {cm : Nat → Bool} {lo : Nat} {t : gSt} (h : FOH t0 ad n par x N r k v rs K L G M cm lo t) : x < 48 := h.1
theorem FOH.hr {t0 : gSt} {ad : Nat → Nat} {n : Nat} {par : Int32 → Nat} {x N r : Nat} {k v : Int32} {rs : List Nat} {K : Fo} {L : List ND} {G : List Int32} {M : Nat → Int32} {cm : Nat → Bool} {lo : Nat} {t : gSt} (h : FOH t0 ad n par x N r k v rs K L G M cm lo t) : r < 1300 := h.2.1
theorem FOH.hN {t0 : gSt} {ad : Nat → Nat} {n : Nat} {par : Int32 → Nat} {x N r : Nat} {k v : Int32} {rs : List Nat} {K : Fo} {L : List ND} {G : List Int32} {M : Nat → Int32} {cm : Nat → Bool} {lo : Nat} {t : gSt} (h : FOH t0 ad n par x N r k v rs K L G M cm lo t) : N ≤ 1300 := h.2.2.1
theorem FOH.row {t0 : gSt} {ad : Nat → Nat} {n : Nat} {par : Int32 → Nat} {x N r : Nat} {k v : Int32} {rs : List Nat} {K : Fo} {L : List ND} {G : List Int32} {M : Nat → Int32} {cm : Nat → Bool} {lo : Nat} {t : gSt} (h : FOH t0 ad n par x N r k v rs K L G M cm lo t) : rowK t0 ad x N r k v rs := h.2.2.2.1
theorem FOH.ar {t0 : gSt} {ad : Nat → Nat} {n : Nat} {par : Int32 → Nat} {x N r : Nat} {k v : Int32} {rs : List Nat} {K : Fo} {L : List ND} {G : List Int32} {M : Nat → Int32} {cm : Nat → Bool} {lo : Nat} {t : gSt} (h : FOH t0 ad n par x N r k v rs K L G M cm lo t) : rs.length = k_ar par k v := h.2.2.2.2.1
theorem FOH.hk {t0 : gSt} {ad : Nat → Nat} {n : Nat} {par : Int32 → Nat} {x N r : Nat} {k v : Int32} {rs : List Nat} {K : Fo} {L : List ND} {G : List Int32} {M : Nat → Int32} {cm : Nat → Bool} {lo : Nat} {t : gSt} (h : FOH t0 ad n par x N r k v rs K L G M cm lo t) : ∃ j, 1 ≤ j ∧ j ≤ 15 ∧ k = nI j := h.2.2.2.2.2.1
theorem FOH.hrs {t0 : gSt} {ad : Nat → Nat} {n : Nat} {par : Int32 → Nat} {x N r : Nat} {k v : Int32} {rs : List Nat} {K : Fo} {L : List ND} {G : List Int32} {M : Nat → Int32} {cm : Nat → Bool} {lo : Nat} {t : gSt} (h : FOH t0 ad n par x N r k v rs K L G M cm lo t) : ∀ q ∈ rs, q < 1300 := h.2.2.2.2.2.2.1
theorem FOH.hl {t0 : gSt} {ad : Nat → Nat} {n : Nat} {par : Int32 → Nat} {x N r : Nat} {k v : Int32} {rs : List Nat} {K : Fo} {L : List ND} {G : List Int32} {M : Nat → Int32} {cm : Nat → Bool} {lo : Nat} {t : gSt} (h : FOH t0 ad n par x N r k v rs K L G M cm lo t) : fo_l K = rs.length := h.2.2.2.2.2.2.2.1
theorem FOH.map {t0 : gSt} {ad : Nat → Nat} {n : Nat} {par : Int32 → Nat} {x N r : Nat} {k v : Int32} {rs : List Nat} {K : Fo} {L : List ND} {G : List Int32} {M : Nat → Int32} {cm : Nat → Bool} {lo : Nat} {t : gSt} (h : FOH t0 ad n par x N r k v rs K L G M cm lo t) : ∀ (j y z : Nat), rs[j]? = some y → (zr K)[j]? = some z → M y = nI z := h.2.2.2.2.2.2.2.2.1
theorem FOH.Q {t0 : gSt} {ad : Nat → Nat} {n : Nat} {par : Int32 → Nat} {x N r : Nat} {k v : Int32} {rs : List Nat} {K : Fo} {L : List ND} {G : List Int32} {M : Nat → Int32} {cm : Nat → Bool} {lo : Nat} {t : gSt} (h : FOH t0 ad n par x N r k v rs K L G M cm lo t) : QD t0 ad L G M cm t := h.2.2.2.2.2.2.2.2.2.1
theorem FOH.hL {t0 : gSt} {ad : Nat → Nat} {n : Nat} {par : Int32 → Nat} {x N r : Nat} {k v : Int32} {rs : List Nat} {K : Fo} {L : List ND} {G : List Int32} {M : Nat → Int32} {cm : Nat → Bool} {lo : Nat} {t : gSt} (h : FOH t0 ad n par x N r k v rs K L G M cm lo t) : L.length < 1300 := h.2.2.2.2.2.2.2.2.2.2.1
theorem FOH.hG {t0 : gSt} {ad : Nat → Nat} {n : Nat} {par : Int32 → Nat} {x N r : Nat} {k v : Int32} {rs : List Nat} {K : Fo} {L : List ND} {G : List Int32} {M : Nat → Int32} {cm : Nat → Bool} {lo : Nat} {t : gSt} (h : FOH t0 ad n par x N r k v rs K L G M cm lo t) : G.length + rs.length ≤ 1300 := h.2.2.2.2.2.2.2.2.2.2.2.1
theorem FOH.rK {t0 : gSt} {ad : Nat → Nat} {n : Nat} {par : Int32 → Nat} {x N r : Nat} {k v : Int32} {rs : List Nat} {K : Fo} {L : List ND} {G : List Int32} {M : Nat → Int32} {cm : Nat → Bool} {lo : Nat} {t : gSt} (h : FOH t0 ad n par x N r k v rs K L G M cm lo t) : rpd L G K := h.2.2.2.2.2.2.2.2.2.2.2.2.1
theorem FOH.vK {t0 : gSt} {ad : Nat → Nat} {n : Nat} {par : Int32 → Nat} {x N r : Nat} {k v : Int32} {rs : List Nat} {K : Fo} {L : List ND} {G : List Int32} {M : Nat → Int32} {cm : Nat → Bool} {lo : Nat} {t : gSt} (h : FOH t0 ad n par x N r k v rs K L G M cm lo t) : fo_v n par (fun _ _ => True) K := h.2.2.2.2.2.2.2.2.2.2.2.2.2.1
theorem FOH.pK {t0 : gSt} {ad : Nat → Nat} {n : Nat} {par : Int32 → Nat} {x N r : Nat} {k v : Int32} {rs : List Nat} {K : Fo} {L : List ND} {G : List Int32} {M : Nat → Int32} {cm : Nat → Bool} {lo : Nat} {t : gSt} (h : FOH t0 ad n par x N r k v rs K L G M cm lo t) : (zq K).Pairwise (· < ·) := h.2.2.2.2.2.2.2.2.2.2.2.2.2.2.1
theorem FOH.bK {t0 : gSt} {ad : Nat → Nat} {n : Nat} {par : Int32 → Nat} {x N r : Nat} {k v : Int32} {rs : List Nat} {K : Fo} {L : List ND} {G : List Int32} {M : Nat → Int32} {cm : Nat → Bool} {lo : Nat} {t : gSt} (h : FOH t0 ad n par x N r k v rs K L G M cm lo t) : ∀ q ∈ zq K, lo ≤ q ∧ q < L.length := h.2.2.2.2.2.2.2.2.2.2.2.2.2.2.2.1
theorem FOH.cK {t0 : gSt} {ad : Nat → Nat} {n : Nat} {par : Int32 → Nat} {x N r : Nat} {k v : Int32} {rs : List Nat} {K : Fo} {L : List ND} {G : List Int32} {M : Nat → Int32} {cm : Nat → Bool} {lo : Nat} {t : gSt} (h : FOH t0 ad n par x N r k v rs K L G M cm lo t) : cmo cm K := h.2.2.2.2.2.2.2.2.2.2.2.2.2.2.2.2.1
theorem FOH.lo' {t0 : gSt} {ad : Nat → Nat} {n : Nat} {par : Int32 → Nat} {x N r : Nat} {k v : Int32} {rs : List Nat} {K : Fo} {L : List ND} {G : List Int32} {M : Nat → Int32} {cm : Nat → Bool} {lo : Nat} {t : gSt} (h : FOH t0 ad n par x N r k v rs K L G M cm lo t) : lo ≤ L.length := h.2.2.2.2.2.2.2.2.2.2.2.2.2.2.2.2.2
section MP
variable {cx : gCx} {d : Nat} {ad : Nat → Nat} {t0 t : gSt} {post : Option Value → gSt → Prop} {L : List ND} {G : List Int32} {M : Nat → Int32} {cm : Nat → Bool} {lo : Nat} {ρ : RHO} {k v : Int32} {K : Fo} {n : Nat} {par : Int32 → Nat} {x N r : Nat} {rs : List Nat}
theorem FOH.rowt (H : FOH t0 ad n par x N r k v rs K L G M cm lo t) : rowK t ad x N r k v rs := by
  have conv : ∀ c, 151 ≤ c → c ≤ 155 → ∀ i, i < 1300 → t.2.1 (ad c) (1300 * x + i) = t0.2.1 (ad c) (1300 * x + i) := fun c h1 h2 i hi => H.Q.1.i c _ (mfP_r (by have := H.hx; omega)) (by omega)
  have h13 := H.hr
  have hN := H.hN
  exact fo_k_cg H.row ⟨conv 151 (by decide) (by decide) _ (by omega), conv 152 (by decide) (by decide) _ (by omega), conv 153 (by decide) (by decide) _ (by omega), conv 154 (by decide) (by decide) _ (by omega)⟩ (fun i hi => conv 155 (by decide) (by decide) i (by omega)) (Nat.le_refl _)
theorem FOH.mp (H : FOH t0 ad n par x N r k v rs K L G M cm lo t) : rs.map (fun y => (M y).toNatClampNeg) = zr K ∧ ∀ q ∈ rs, t.2.1 (ad 177) q = nI ((M q).toNatClampNeg) := by
  have hll : (zr K).length = rs.length := by rw [zr_l, H.hl]
  have hz : ∀ z ∈ zr K, z < 1300 := fun z hz => by have := H.bK z (zr_sub K z hz); have := H.hL; omega
  constructor
  · refine List.ext_getElem? (fun i => ?_)
    rw [List.getElem?_map]
    by_cases hi : i < rs.length
    · have e1 : rs[i]? = some rs[i] := List.getElem?_eq_getElem hi
      have e2 : (zr K)[i]? = some ((zr K)[i]'(by omega)) := List.getElem?_eq_getElem (by omega)
      have := H.map i _ _ e1 e2
      have hzi := hz _ (List.mem_of_getElem? e2)
      rw [e1, e2]
      show some _ = some _
      dsimp only
      rw [this, nI_clamp (by omega)]
    · rw [List.getElem?_eq_none (by omega), List.getElem?_eq_none (by omega)]
      rfl
  · intro q hq
    obtain ⟨i, hi⟩ := List.getElem?_of_mem hq
    have hil := (List.getElem?_eq_some_iff.mp hi).1
    have e2 : (zr K)[i]? = some ((zr K)[i]'(by omega)) := List.getElem?_eq_getElem (by omega)
    have := H.map i _ _ hi e2
    have hzi := hz _ (List.mem_of_getElem? e2)
    rw [H.Q.2.2.1, this, nI_clamp (by omega)]
theorem f_again (H : FOH t0 ad n par x N r k v rs K L G M cm lo t) (h : ∀ u q G', gFr ad (meY 48) t u → REy ad 48 (L ++ [q]) (G ++ G') u → fo_k (nK (L ++ [q])) (nA (L ++ [q])) (nBb (L ++ [q])) (nC (L ++ [q])) (aG (G ++ G')) (G ++ G').length id L.length k v (zr K) → G'.length = (if k = 15 then fo_l K else 0) → post (some (.int (nI L.length))) u) : g_E cx (d + 2) i_Mo_again [.ref (ad 144), .int (nI x), .int (nI r), .int (nI 48)] t post := by
  have hm := H.mp
  refine m_againY (par := par) (mp := fun y => (M y).toNatClampNeg) (by have := H.hx; omega) (by decide) (by have := H.hx; omega) H.hr H.hN H.Q.1.L H.Q.2.1 H.hL H.hG H.hk H.ar H.rowt H.hrs hm.2 (fun u q G' F E hk hg => h u q G' F E ?_ (by rw [hg, H.hl]))
  rw [hm.1] at hk
  exact hk
abbrev FPost (t0 : gSt) (ad : Nat → Nat) (L : List ND) (G : List Int32) (M : Nat → Int32) (cm : Nat → Bool) (lo : Nat) (ρ : RHO) (k v : Int32) (K : Fo) (post : Option Value → gSt → Prop) : Prop := ∀ u y X Y T cm', FRes t0 ad L G M cm lo ρ k v K u y X Y T cm' → post (some (.int (nI y))) u
theorem fo_start (H : FOH t0 ad n par x N r k v rs K L G M cm lo t) (h1 : k = 1 ∨ k = 15 → g_W cx (g_E cx d) mt_Mo_foldOne post (31, [some (.ref (ad 144)), some (.int (nI x)), some (.int (nI r)), some (.int (nI 48)), some (.int (nI (1300 * x + r))), some (.int k), none, none, none], [], t, 0, 0)) (h2 : k = 2 → g_W cx (g_E cx d) mt_Mo_foldOne post (61, [some (.ref (ad 144)), some (.int (nI x)), some (.int (nI r)), some (.int (nI 48)), some (.int (nI (1300 * x + r))), some (.int k), none, none, none], [], t, 0, 0)) (h3 : k ≠ 1 → k ≠ 2 → k ≠ 15 → g_W cx (g_E cx d) mt_Mo_foldOne post (144, [some (.ref (ad 144)), some (.int (nI x)), some (.int (nI r)), some (.int (nI 48)), some (.int (nI (1300 * x + r))), some (.int k), none, none, none], [], t, 0, 0)) : g_E cx (d + 1) i_Mo_foldOne [.ref (ad 144), .int (nI x), .int (nI r), .int (nI 48)] t post := by
  have hx := H.hx
  have hr := H.hr
  have hrow : t.2.1 (ad 151) (1300 * x + r) = k := H.rowt.1
  have hL := H.Q.1.L
  refine x_Mo_foldOne hL (fun x1 e1 => ?_)
  rw [ix13] at e1
  subst e1
  refine ⟨vp_in_nI (by omega) (by omega), fun x2 e2 => ?_⟩
  rw [nI_clamp (by omega), hrow] at e2
  subst e2
  refine ⟨fun c => h1 (Or.inl c), fun c1 => ⟨fun c15 => ?_, fun c => h1 (Or.inr (Classical.not_not.mp c))⟩⟩
  by_cases c2 : x2 = 2
  · exact h2 c2
  · exact x_Mo_foldOne_61 hL ⟨fun _ => h3 c1 c2 c15, fun c => absurd (Classical.not_not.mp c) c2⟩
/-- numbers and calls -/
theorem fo_1_15 (H : FOH t0 ad n par x N r k v rs K L G M cm lo t) (hk : k = 1 ∨ k = 15) (h : FPost t0 ad L G M cm lo ρ k v K post) : g_E cx (d + 3) i_Mo_foldOne [.ref (ad 144), .int (nI x), .int (nI r), .int (nI 48)] t post := by
  have hL13 := H.hL
  refine fo_start H (fun _ => ?_) (fun c => ?_) (fun c1 _ c15 => absurd hk (fun z => z.elim c1 c15))
  · refine x_Mo_foldOne_31 H.Q.1.L (f_again H (fun u q G' F E hk' hg => ⟨_, rfl, F.L, ?_⟩))
    have hcm : cmb ρ L.length k v K = .inner L.length k v K .leaf := if_pos (by rcases hk with c | c; exact Or.inl c; exact Or.inr (Or.inr c))
    refine ⟨fun c => ?_, fun c => ?_⟩
    · have c15 : k = 15 := hk.resolve_left c
      refine x_Mo_foldOne_57 F.L ⟨vp_in_nI (by omega) (by omega), fun t1 e1 => ?_⟩
      rw [nI_clamp (by omega)] at e1
      exact h t1 _ _ _ _ _ (fr_new (b := false) H.Q F E hk' hg e1 H.rK H.pK H.bK H.lo' hcm (by rw [fcalm_in, c15]; rfl))
    · have c1 := Classical.not_not.mp c
      refine x_Mo_foldOne_57 F.L ⟨vp_in_nI (by omega) (by omega), fun t1 e1 => ?_⟩
      rw [nI_clamp (by omega)] at e1
      refine h t1 _ _ _ _ _ (fr_new (b := true) H.Q F E hk' hg e1 H.rK H.pK H.bK H.lo' hcm ?_)
      have h0 : fo_l K = 0 := by rw [H.hl, H.ar, c1]; rfl
      match K, h0 with
      | .leaf, _ => rw [fcalm_in, c1]; rfl
  · rcases hk with z | z <;> rw [z] at c <;> exact absurd c (by decide)
/-- what is told of a variable -/
def EVO (t0 : gSt) (ad : Nat → Nat) (L : List ND) (M : Nat → Int32) (o : Nat) (ρ : RHO) (w : Int32) : Prop := ∃ i, i < 120 ∧ w = nI i ∧ ((t0.2.1 (ad 181) i = -1 ∧ ρ w = none) ∨ ∃ y z, t0.2.1 (ad 181) i = nI y ∧ y < o ∧ y < 1300 ∧ M y = nI z ∧ z < L.length ∧ ρ w = if nK L z = 1 then some (nA L z) else none)
theorem fo_2 {o : Nat} (H : FOH t0 ad n par x N r 2 v rs K L G M cm lo t) (hv : EVO t0 ad L M o ρ v) (h : FPost t0 ad L G M cm lo ρ 2 v K post) : g_E cx (d + 3) i_Mo_foldOne [.ref (ad 144), .int (nI x), .int (nI r), .int (nI 48)] t post := by
  have hL13 := H.hL
  have hx := H.hx
  have hr := H.hr
  have hL := H.Q.1.L
  have hrow : t.2.1 (ad 152) (1300 * x + r) = v := H.rowt.2.1 (Or.inr rfl)
  refine fo_start H (fun c => ?_) (fun _ => ?_) (fun _ c2 _ => absurd rfl c2)
  · rcases c with c | c <;> exact absurd c (by decide)
  obtain ⟨i, hi, ei, hcase⟩ := hv
  have e181 : t.2.1 (ad 181) i = t0.2.1 (ad 181) i := H.Q.1.i 181 i (mfP_r (by omega))
  have h0 : fo_l K = 0 := by rw [H.hl, H.ar]; rfl
  have hKl : K = .leaf := by
    match K, h0 with
    | .leaf, _ => rfl
  have ag : ρ v = none → ∀ (l6 : Int32), g_W cx (g_E cx (d + 2)) mt_Mo_foldOne post (124, [some (.ref (ad 144)), some (.int (nI x)), some (.int (nI r)), some (.int (nI 48)), some (.int (nI (1300 * x + r))), some (.int 2), some (.int l6), none, none], [], t, 0, 0) := fun hn l6 => by
    refine x_Mo_foldOne_124 hL (f_again H (fun u q G' F E hk' hg => ⟨_, rfl, F.L, x_Mo_foldOne_131 F.L ⟨vp_in_nI (by omega) (by omega), fun t1 e1 => ?_⟩⟩))
    rw [nI_clamp (by omega)] at e1
    refine h t1 _ _ _ _ _ (fr_new (b := true) H.Q F E hk' hg e1 H.rK H.pK H.bK H.lo' ?_ ?_)
    · unfold cmb
      rw [if_neg (by decide), if_pos rfl, hn]
    · rw [fcalm_in, hKl]; rfl
  refine x_Mo_foldOne_61 hL ⟨fun c => absurd rfl c, fun _ => ⟨vp_in_nI (by omega) (by omega), ?_⟩⟩
  rw [nI_clamp (by omega), hrow, ei, nI_clamp (by omega), e181]
  refine ⟨vp_in_nI (by omega) (by omega), fun x1 e1 => ?_⟩
  subst e1
  rcases hcase with ⟨c1, c2⟩ | ⟨y, z, c1, c2, c3, c4, c5, c6⟩
  · rw [c1]
    exact ⟨fun _ => ag c2 _, fun c => absurd (by decide) c⟩
  · rw [c1, nI_clamp (by omega), H.Q.2.2.1, c4]
    refine ⟨fun c => absurd c (nI_pos (by omega)), fun _ => ⟨vp_in_nI (by omega) (by omega), ?_⟩⟩
    refine m_isNum48 (d := d + 1) (by omega) hL H.Q.2.1 c5 ⟨_, rfl, hL, fun z0 => ?_, fun z1 => ⟨vp_in_nI (by omega) (by omega), ?_⟩⟩
    · have : ¬ nK L z = 1 := fun q => by
        rw [decide_eq_true q] at z0
        exact absurd z0 (by decide)
      rw [if_neg this] at c6
      exact ag c6 _
    · have hn1 : nK L z = 1 := by
        by_cases q : nK L z = 1
        · exact q
        · rw [decide_eq_false q] at z1
          exact absurd rfl z1
      rw [if_pos hn1] at c6
      rw [H.Q.2.2.1, c4]
      refine m_numOf48 (d := d + 1) (by omega) hL H.Q.2.1 c5 ⟨_, rfl, hL, ?_⟩
      refine m_enodeY (d := d + 1) (by decide) hL H.Q.2.1 (by omega) (fun u F E => ⟨_, rfl, F.L, x_Mo_foldOne_131 F.L ⟨vp_in_nI (by omega) (by omega), fun t1 e1 => ?_⟩⟩)
      rw [nI_clamp (by omega)] at e1
      refine h t1 _ _ _ _ _ (fr_num H.Q F E e1 H.lo' ?_)
      unfold cmb
      rw [if_neg (by decide), if_pos rfl, c6]
end MP
