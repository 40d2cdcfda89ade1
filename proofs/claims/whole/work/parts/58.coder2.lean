/-! THE CLASS'S CODER: a node is met -/
/-- behind what is said of a node's end and surroundings -/
def kLet (k v : Int32) (D : Nat) (s : KS) : KS := if k = 14 then kSetSo v.toNatClampNeg (ks_ar s D) s else s
def kEn0 (P : Nat) (k v : Int32) (s : KS) : KS := kLet k v 0 (kSetAr 0 (nI P) (kSetAe 0 1 s))
def kEn1 (D : Nat) (pk : Int32) (dn : Nat) (k v : Int32) (s : KS) : KS := kLet k v D (kSetAr D (ks_ar s (D - 1) + b32 (decide (pk = 14) && decide (dn = 1))) (kSetAe D (b32 (decide (¬ ks_ae s (D - 1) = 0) && kLast pk dn)) s))
section CE
variable {cx : gCx} {d : Nat} {ad : Nat → Nat} {t0 t : gSt} {post : Option Value → gSt → Prop} {p : Nat} {s : KS} {k v : Int32}
/-- variables are below 120 -/
def vK (k v : Int32) : Prop := k = 2 ∨ k = 14 → ∃ j, v = nI j ∧ j < 120
theorem m_kenter156 {D : Nat} {o2 o3 o4 : Option Value} (hp : isP p) (hD : D < 500) (ek : t.2.1 (ad 70) D = k) (ev : t.2.1 (ad 71) D = v) (hv : vK k v) (hQ : QK t0 ad p s t) (h : ∀ u, QK t0 ad p (kLet k v D s) u → gFr ad (khP p) t u → post none u) : g_W cx (g_E cx d) mt_Coder_enter post (156, [some (.ref (ad 67)), some (.int (nI D)), o2, o3, o4], [], t, 0, 0) := by
  have hL := hQ.1.L
  have hvp := vp_in_nI (N := 500) hD (by omega)
  refine x_Coder_enter_156 hL ⟨hvp, ?_⟩
  rw [nI_clamp (by omega), ek, ev]
  refine ⟨fun c => x_Coder_enter_190 hL (h t ?_ (gFr.rf hL)), fun c => ?_⟩
  · rw [show kLet k v D s = s from if_neg c]; exact hQ
  · have c := Classical.not_not.mp c
    obtain ⟨j, ej, hj⟩ := hv (Or.inr c)
    subst ej
    refine ⟨hvp, hvp, vp_in_nI hj (by omega), fun t1 e1 => ?_⟩
    have hl : kLet k (nI j) D s = kSetSo j (ks_ar s D) s := by
      unfold kLet
      rw [if_pos c, nI_clamp (by omega)]
    have har : t.2.1 (ad 75) D = ks_ar s D := by rw [hQ.2.2.2.2.1.2.1]
    rw [nI_clamp (by omega), har] at e1
    obtain ⟨q1, q2⟩ := hQ.rw hp (c := 78) (j := j) (x := ks_ar s D) (s' := kSetSo j (ks_ar s D) s) (by decide) rfl rfl rfl rfl rfl rfl (fun z => absurd z (by decide))
    rw [← e1] at q1 q2
    refine x_Coder_enter_190 q1.1.L (h t1 ?_ q2)
    rw [hl]
    exact q1
theorem m_kenter0 {f P : Nat} (hp : isP p) (hr : t.2.2.2 (ad 67) 6 = some (ad p)) (hf : f < 24) (h8 : t.2.1 (ad 67) 8 = nI f) (hP : t.2.1 (ad (p + 2)) f = nI P) (ek : t.2.1 (ad 70) 0 = k) (ev : t.2.1 (ad 71) 0 = v) (hv : vK k v) (hQ : QK t0 ad p s t) (h : ∀ u, QK t0 ad p (kEn0 P k v s) u → gFr ad (khP p) t u → post none u) : g_E cx (d + 1) i_Coder_enter [.ref (ad 67), .int (nI 0)] t post := by
  have hL := hQ.1.L
  have hpg := hp.ge
  have hpl := hp.lt
  have v0 : vp_in 0 500 := vp_in_nI (n := 0) (by decide) (by decide)
  refine x_Coder_enter hp hL hr ⟨fun c => absurd rfl c, fun _ => ⟨v0, fun t3 e3 => ?_⟩⟩
  rw [show (0 : Int32).toNatClampNeg = 0 from by decide, show vp_nar .boolean 1 = 1 from by decide] at e3
  obtain ⟨q1, q2⟩ := hQ.rw hp (c := 74) (j := 0) (x := 1) (s' := kSetAe 0 1 s) (by decide) rfl rfl rfl rfl rfl rfl (fun z => absurd z (by decide))
  rw [← e3] at q1 q2
  have k8 : t3.2.1 (ad 67) 8 = nI f := by rw [q2.i 67 8 (khP_r (by omega))]; exact h8
  have kP : t3.2.1 (ad (p + 2)) f = nI P := by rw [q2.i _ _ (khP_r (by omega)) (by omega)]; exact hP
  rw [k8, nI_clamp (by omega), kP, show (0 : Int32).toNatClampNeg = 0 from by decide]
  refine ⟨vp_in_nI hf (by omega), v0, fun t4 e4 => ?_⟩
  obtain ⟨q3, q4⟩ := q1.rw hp (c := 75) (j := 0) (x := nI P) (s' := kSetAr 0 (nI P) (kSetAe 0 1 s)) (by decide) rfl rfl rfl rfl rfl rfl (fun z => absurd z (by decide))
  rw [← e4] at q3 q4
  refine m_kenter156 (D := 0) hp (by decide) ?_ ?_ hv q3 (fun u hu hF => h u hu ((q2.tr q4).tr hF))
  · rw [q4.i 70 0 (khP_r (by omega)), q2.i 70 0 (khP_r (by omega))]; exact ek
  · rw [q4.i 71 0 (khP_r (by omega)), q2.i 71 0 (khP_r (by omega))]; exact ev
theorem m_kenter1 {D dn : Nat} {pk : Int32} (hp : isP p) (hr : t.2.2.2 (ad 67) 6 = some (ad p)) (hD : D + 1 < 500) (hdn : dn < 1000) (epk : t.2.1 (ad 70) D = pk) (edn : t.2.1 (ad 72) D = nI dn) (ek : t.2.1 (ad 70) (D + 1) = k) (ev : t.2.1 (ad 71) (D + 1) = v) (hv : vK k v) (hQ : QK t0 ad p s t) (h : ∀ u, QK t0 ad p (kEn1 (D + 1) pk dn k v s) u → gFr ad (khP p) t u → post none u) : g_E cx (d + 1) i_Coder_enter [.ref (ad 67), .int (nI (D + 1))] t post := by
  have hL := hQ.1.L
  have hpg := hp.ge
  have hpl := hp.lt
  have hvD := vp_in_nI (n := D) (N := 500) (by omega) (by omega)
  have hvD1 := vp_in_nI (n := D + 1) (N := 500) (by omega) (by omega)
  have hae : t.2.1 (ad 74) D = ks_ae s D := by rw [hQ.2.2.2.2.1.1]
  -- the end's flag is known: the rest
  have rest : ∀ (b : Bool) (l4 : Int32), g_W cx (g_E cx d) mt_Coder_enter post (124, [some (.ref (ad 67)), some (.int (nI (D + 1))), some (.int pk), some (.int (nI dn)), some (.int l4)], [.int (b32 b), .int (nI (D + 1)), .ref (ad 74)], t, 0, 0) ∨ ¬ (b = (decide (¬ ks_ae s D = 0) && kLast pk dn)) := by
    intro b l4
    by_cases hb : b = (decide (¬ ks_ae s D = 0) && kLast pk dn)
    · refine Or.inl ?_
      refine x_Coder_enter_124 hL ⟨hvD1, fun t1 e1 => ?_⟩
      have hnar : vp_nar .boolean (b32 b) = b32 b := by cases b <;> decide
      rw [nI_clamp (by omega), hnar] at e1
      obtain ⟨q1, q2⟩ := hQ.rw hp (c := 74) (j := D + 1) (x := b32 b) (s' := kSetAe (D + 1) (b32 b) s) (by decide) rfl rfl rfl rfl rfl rfl (fun z => absurd z (by decide))
      rw [← e1] at q1 q2
      have har : t1.2.1 (ad 75) D = ks_ar s D := by rw [q1.2.2.2.2.1.2.1]; rfl
      rw [nI_pred, nI_clamp (by omega), har]
      have fin : ∀ (x : Int32), x = ks_ar s D + b32 (decide (pk = 14) && decide (dn = 1)) → ∀ t2, t2 = g_si t1 (ad 75) (nI (D + 1)).toNatClampNeg x → g_W cx (g_E cx d) mt_Coder_enter post (156, [some (.ref (ad 67)), some (.int (nI (D + 1))), some (.int pk), some (.int (nI dn)), some (.int l4)], [], t2, 0, 0) := by
        intro x ex t2 e2
        rw [nI_clamp (by omega)] at e2
        obtain ⟨q3, q4⟩ := q1.rw hp (c := 75) (j := D + 1) (x := x) (s' := kSetAr (D + 1) x (kSetAe (D + 1) (b32 b) s)) (by decide) rfl rfl rfl rfl rfl rfl (fun z => absurd z (by decide))
        rw [← e2] at q3 q4
        refine m_kenter156 (D := D + 1) hp (by omega) ?_ ?_ hv q3 (fun u hu hF => h u ?_ ((q2.tr q4).tr hF))
        · rw [q4.i 70 _ (khP_r (by omega)), q2.i 70 _ (khP_r (by omega))]; exact ek
        · rw [q4.i 71 _ (khP_r (by omega)), q2.i 71 _ (khP_r (by omega))]; exact ev
        · rw [ex, hb] at hu
          exact hu
      refine ⟨hvD, fun c => x_Coder_enter_153 q1.1.L (x_Coder_enter_154 q1.1.L ⟨hvD1, fin _ ?_⟩), fun c => ⟨fun c2 => x_Coder_enter_153 q1.1.L (x_Coder_enter_154 q1.1.L ⟨hvD1, fin _ ?_⟩), fun c2 => x_Coder_enter_154 q1.1.L ⟨hvD1, fin _ ?_⟩⟩⟩
      · rw [show decide (pk = 14) = false from decide_eq_false c]; rfl
      · have : ¬ dn = 1 := fun z => c2 (by rw [z]; rfl)
        rw [show decide (dn = 1) = false from decide_eq_false this, Bool.and_false]; rfl
      · have z1 : dn = 1 := by
          have := Classical.not_not.mp c2
          rwa [show (1 : Int32) = nI 1 from rfl, nI_eq (by omega) (by omega)] at this
        rw [show decide (pk = 14) = true from decide_eq_true (Classical.not_not.mp c), show decide (dn = 1) = true from decide_eq_true z1]; rfl
    · exact Or.inr hb
  have rest' : ∀ (b : Bool) (l4 : Int32), b = (decide (¬ ks_ae s D = 0) && kLast pk dn) → g_W cx (g_E cx d) mt_Coder_enter post (124, [some (.ref (ad 67)), some (.int (nI (D + 1))), some (.int pk), some (.int (nI dn)), some (.int l4)], [.int (b32 b), .int (nI (D + 1)), .ref (ad 74)], t, 0, 0) := fun b l4 e => (rest b l4).resolve_right (fun q => q e)
  have at96 : ∀ (b : Bool), b = kLast pk dn → g_W cx (g_E cx d) mt_Coder_enter post (96, [some (.ref (ad 67)), some (.int (nI (D + 1))), some (.int pk), some (.int (nI dn)), none], [.int (b32 b)], t, 0, 0) := by
    intro b hb
    refine x_Coder_enter_96 hL ?_
    rw [nI_pred, nI_clamp (by omega), hae]
    refine ⟨hvD, fun c => x_Coder_enter_123 hL (rest' false _ ?_), fun c => ⟨fun c2 => x_Coder_enter_123 hL (rest' false _ ?_), fun c2 => ?_⟩⟩
    · rw [show decide (¬ ks_ae s D = 0) = false from decide_eq_false (fun q => q c)]; rfl
    · rw [← hb, b32_0.mp c2, Bool.and_false]
    · have z : b = true := by cases b; exact absurd rfl c2; rfl
      have := rest' true (b32 b) (by rw [← hb, z, show decide (¬ ks_ae s D = 0) = true from decide_eq_true c]; rfl)
      exact this
  refine x_Coder_enter hp hL hr ⟨fun _ => ?_, fun c => absurd (nI_ne0 (by omega) (by omega)) c⟩
  rw [nI_pred, nI_clamp (by omega), epk, edn]
  refine ⟨hvD, fun x1 e1 => ⟨hvD, fun x2 e2 => ?_⟩⟩
  subst e1 e2
  have l0 : ¬ x1 = 13 → ¬ x1 = 14 → ¬ x1 = 12 → kLast x1 dn = false := fun h1 h2 h3 => by
    unfold kLast
    rw [if_neg h1, show decide (x1 = 14) = false from decide_eq_false h2, show decide (x1 = 12) = false from decide_eq_false h3]; rfl
  have l86 : ¬ x1 = 13 → (x1 = 14 ∨ x1 = 12) → g_W cx (g_E cx d) mt_Coder_enter post (86, [some (.ref (ad 67)), some (.int (nI (D + 1))), some (.int x1), some (.int (nI dn)), none], [], t, 0, 0) := fun h1 h2 => by
    have hor : (decide (x1 = 14) || decide (x1 = 12)) = true := by
      rcases h2 with h2 | h2
      · rw [show decide (x1 = 14) = true from decide_eq_true h2]; rfl
      · rw [show decide (x1 = 12) = true from decide_eq_true h2, Bool.or_true]
    refine x_Coder_enter_86 hL ⟨fun c => x_Coder_enter_95 hL (at96 false ?_), fun c => at96 true ?_⟩
    · have : ¬ dn = 1 := fun z => c (by rw [z]; rfl)
      unfold kLast
      rw [if_neg h1, hor, show decide (dn = 1) = false from decide_eq_false this]; rfl
    · have z1 : dn = 1 := by
        have := Classical.not_not.mp c
        rwa [show (1 : Int32) = nI 1 from rfl, nI_eq (by omega) (by omega)] at this
      unfold kLast
      rw [if_neg h1, hor, show decide (dn = 1) = true from decide_eq_true z1]; rfl
  refine ⟨fun c13 => ⟨fun c14 => l86 c13 (Or.inl c14), fun c14 => ⟨fun c12 => x_Coder_enter_95 hL (at96 false (l0 c13 c14 c12).symm), fun c12 => l86 c13 (Or.inr (Classical.not_not.mp c12))⟩⟩, fun c13 => ⟨fun c0 => at96 false ?_, fun c0 => at96 true ?_⟩⟩
  · rw [show (0 : Int32) = nI 0 from rfl, nI_leI (by omega) (by omega)] at c0
    unfold kLast
    rw [if_pos (Classical.not_not.mp c13), decide_eq_false (by omega)]
  · rw [show (0 : Int32) = nI 0 from rfl, nI_leI (by omega) (by omega)] at c0
    unfold kLast
    rw [if_pos (Classical.not_not.mp c13), decide_eq_true (by omega)]
end CE
