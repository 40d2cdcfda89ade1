/-! THE CLASS'S BOUNDS -/
theorem bSum_M {fr : Nat → Nat} {p : Nat → Bool} {M : Nat} : ∀ n, (∀ f, f < n → fr f ≤ M) → bSum fr p n ≤ n * M
  | 0, _ => Nat.zero_le _
  | n + 1, h => by
    have h1 := bSum_M (p := p) n (fun f hf => h f (by omega))
    have h2 := h n (by omega)
    simp only [bSum]
    rw [Nat.succ_mul]
    split <;> omega
theorem isBd.le {n : Nat} {cl tb : Nat → Nat → Bool} {fr b : Nat → Nat} {M : Nat} (h : isBd n cl tb fr b) (hM : ∀ f, f < n → fr f ≤ M) {f : Nat} (hf : f < n) (hn : bNon n cl tb f = false) : b f ≤ n * M := Nat.le_trans (h.2 _ bPre_ex f hf hn) (bSum_M n hM)
theorem hb_1' : ∀ g, g < 24 → ∀ h, h < 32 → hb (1 <<< (nI g &&& 31)) h = decide (g = h) := by decide +kernel
theorem hb_and {x y : Int32} {g : Nat} : hb (x &&& y) g = (hb x g && hb y g) := by
  unfold hb
  rw [Int32.toBitVec_and, BitVec.getLsbD_and]
theorem hb_0 {x : Int32} (h : ∀ g, g < 32 → hb x g = false) : x = 0 := by
  rw [← Int32.toBitVec_inj]
  refine BitVec.eq_of_getLsbD_eq (fun i hi => ?_)
  have := h i hi
  unfold hb at this
  rw [this]
  show false = (0#32).getLsbD i
  simp
def bdP (p c _k : Nat) : Bool := (Nat.ble 80 c && Nat.ble c 82) || Nat.beq c (p + 11)
theorem bdP_in {p c k : Nat} (h : bdP p c k = true) : (80 ≤ c ∧ c ≤ 82) ∨ c = p + 11 := by
  unfold bdP at h
  simp only [Bool.or_eq_true, Bool.and_eq_true, Nat.ble_eq, Nat.beq_eq] at h
  omega
theorem bdP_r {p c k : Nat} (h : ¬ ((80 ≤ c ∧ c ≤ 82) ∨ c = p + 11)) : bdP p c k = false := by
  cases e : bdP p c k with
  | false => rfl
  | true => exact absurd (bdP_in e) h
theorem bdP_t {p c k : Nat} (h : (80 ≤ c ∧ c ≤ 82) ∨ c = p + 11) : bdP p c k = true := by
  unfold bdP
  simp only [Bool.or_eq_true, Bool.and_eq_true, Nat.ble_eq, Nat.beq_eq]
  omega
/-- function f's code in the class's program p -/
def RCf (t : gSt) (ad : Nat → Nat) (p f : Nat) (C : List (Int32 × Int32)) : Prop := ∃ s, t.2.1 (ad (p + 7)) f = nI s ∧ s + C.length ≤ c_len (p + 14) ∧ t.2.1 (ad (p + 8)) f = nI C.length ∧ rows (t.2.1 (ad (p + 14))) (t.2.1 (ad (p + 15))) s C
/-- calls are of functions -/
def cdG (n : Nat) (C : List (Int32 × Int32)) : Prop := ∀ q ∈ C, q.1 = 16 ∨ q.1 = 19 → ∃ g, g < n ∧ q.2 = nI g
section BC
variable {cx : gCx} {d : Nat} {ad : Nat → Nat} {t : gSt} {post : Option Value → gSt → Prop} {p n : Nat} {fc : Nat → List (Int32 × Int32)}
def bgP (f c k : Nat) : Bool := (Nat.beq c 80 || Nat.beq c 81) && Nat.beq k f
theorem bgP_r {f c k : Nat} (h : ¬ ((c = 80 ∨ c = 81) ∧ k = f)) : bgP f c k = false := by
  cases e : bgP f c k with
  | false => rfl
  | true =>
    unfold bgP at e
    simp only [Bool.and_eq_true, Bool.or_eq_true, Nat.beq_eq] at e
    exact absurd e h
theorem bgP_t {f c : Nat} (h : c = 80 ∨ c = 81) : bgP f c f = true := by
  unfold bgP
  simp only [Bool.and_eq_true, Bool.or_eq_true, Nat.beq_eq, and_true]
  exact h
theorem mem_take_s {C : List (Int32 × Int32)} {i : Nat} {q x : Int32 × Int32} (h : C[i]? = some q) : x ∈ C.take (i + 1) ↔ x ∈ C.take i ∨ x = q := by
  rw [List.take_add_one, h]
  simp
theorem m_bgather {f : Nat} {C : List (Int32 × Int32)} (hp : isP p) (hL : Lay t ad) (hf : f < 24) (hn : n ≤ 24) (hC : RCf t ad p f C) (hG : cdG n C) (h : ∀ u, gFr ad (bgP f) t u → (∀ g, g < 24 → hb (u.2.1 (ad 80) f) g = cCal C g ∧ hb (u.2.1 (ad 81) f) g = cTal C g) → post none u) : g_E cx (d + 1) i_Bounds_gather [.ref (ad 79), .ref (ad p), .int (nI f)] t post := by
  have hpg := hp.ge
  have hpl := hp.lt
  obtain ⟨s, c1, c2, c3, c4⟩ := hC
  have hcl := capL hp
  have hvf := vp_in_nI (N := 24) hf (by omega)
  refine x_Bounds_gather hp hL ⟨hvf, fun t1 e1 => ⟨hvf, fun t2 e2 => ⟨hvf, fun x3 e3 => ?_⟩⟩⟩
  rw [nI_clamp (by omega)] at e1 e2 e3
  have F2 : gFr ad (bgP f) t t2 := by rw [e2, e1]; exact ((gFr.rf hL).si (bgP_t (Or.inl rfl))).si (bgP_t (Or.inr rfl))
  rw [F2.i _ _ (bgP_r (by omega)) (by omega), c1] at e3
  subst e3
  have loop : ∀ m i (u : gSt), m + i = C.length → gFr ad (bgP f) t u → (∀ g, g < 24 → hb (u.2.1 (ad 80) f) g = decide ((16, nI g) ∈ C.take i) ∧ hb (u.2.1 (ad 81) f) g = decide ((19, nI g) ∈ C.take i)) → g_W cx (g_E cx d) mt_Bounds_gather post (21, [some (.ref (ad 79)), some (.ref (ad p)), some (.int (nI f)), some (.int (nI (s + i)))], [], u, 0, 0) := by
    intro m
    induction m with
    | zero =>
      intro i u hi hF hu
      refine x_Bounds_gather_21 hp hF.L ?_
      rw [nI_clamp (by omega), hF.i _ _ (bgP_r (by omega)) (by omega), hF.i _ _ (bgP_r (by omega)) (by omega), c1, c3, nI_add]
      refine ⟨hvf, hvf, fun _ => h u hF (fun g hg => ?_), fun q => absurd (nI_le (by omega) (by omega)) q⟩
      have := hu g hg
      rw [List.take_of_length_le (by omega)] at this
      exact this
    | succ m ih =>
      intro i u hi hF hu
      have hil : i < C.length := by omega
      obtain ⟨q, hq⟩ : ∃ q, C[i]? = some q := ⟨_, List.getElem?_eq_getElem hil⟩
      obtain ⟨r1, r2⟩ := c4 i q hq
      have hmem : q ∈ C := List.mem_of_getElem? hq
      refine x_Bounds_gather_21 hp hF.L ?_
      rw [nI_clamp (n := f) (by omega), nI_clamp (n := s + i) (by omega), hF.i (p + 7) _ (bgP_r (by omega)) (by omega), hF.i (p + 8) _ (bgP_r (by omega)) (by omega), hF.i (p + 14) _ (bgP_r (by omega)) (by omega), hF.i (p + 15) _ (bgP_r (by omega)) (by omega), c1, c3, nI_add, r1, r2, nI_1]
      have hv14 : vp_in (nI (s + i)) (c_len (p + 14)) := vp_in_nI (by omega) (by omega)
      have hv15 : vp_in (nI (s + i)) (c_len (p + 15)) := vp_in_nI (by omega) (by omega)
      refine ⟨hvf, hvf, fun z => absurd z (nI_ge (by omega) (by omega)), fun _ => ⟨hv14, fun c16 => ⟨hv14, fun c19 => ?_, fun c19 => ⟨hvf, hv15, hvf, fun t1 e1 => ?_⟩⟩, fun c16 => ⟨hvf, hv15, hvf, fun t1 e1 => ?_⟩⟩⟩
      · refine ih (i + 1) u (by omega) hF (fun g hg => ?_)
        obtain ⟨u1, u2⟩ := hu g hg
        rw [u1, u2, decide_eq_decide, decide_eq_decide, mem_take_s hq, mem_take_s hq]
        exact ⟨⟨Or.inl, fun z => z.resolve_right (fun z => c16 (by rw [← z]))⟩, ⟨Or.inl, fun z => z.resolve_right (fun z => c19 (by rw [← z]))⟩⟩
      · have c19 := Classical.not_not.mp c19
        obtain ⟨g0, hg0, eg0⟩ := hG q hmem (Or.inr c19)
        rw [eg0] at e1
        refine ih (i + 1) t1 (by omega) (by rw [e1]; exact hF.si (bgP_t (Or.inr rfl))) (fun g hg => ?_)
        obtain ⟨u1, u2⟩ := hu g hg
        refine ⟨?_, ?_⟩
        · rw [e1, g_rd_ne (hL.ne 80 81 (by decide) (by decide) (by decide)), u1, decide_eq_decide, mem_take_s hq]
          exact ⟨Or.inl, fun z => z.resolve_right (fun z => c16 (by rw [← z]))⟩
        · rw [e1, g_rd_at, hb_or, u2, hb_1 g0 (by omega) g hg, ← Bool.decide_or, decide_eq_decide, mem_take_s hq]
          refine or_congr Iff.rfl ⟨fun z => ?_, fun z => ?_⟩
          · rw [← z, ← c19, ← eg0]
          · have := congrArg (·.2) z
            rw [eg0] at this
            exact ((nI_eq (by omega) (by omega)).mp this).symm
      · have c16 := Classical.not_not.mp c16
        obtain ⟨g0, hg0, eg0⟩ := hG q hmem (Or.inl c16)
        rw [eg0] at e1
        refine ih (i + 1) t1 (by omega) (by rw [e1]; exact hF.si (bgP_t (Or.inl rfl))) (fun g hg => ?_)
        obtain ⟨u1, u2⟩ := hu g hg
        refine ⟨?_, ?_⟩
        · rw [e1, g_rd_at, hb_or, u1, hb_1 g0 (by omega) g hg, ← Bool.decide_or, decide_eq_decide, mem_take_s hq]
          refine or_congr Iff.rfl ⟨fun z => ?_, fun z => ?_⟩
          · rw [← z, ← c16, ← eg0]
          · have := congrArg (·.2) z
            rw [eg0] at this
            exact ((nI_eq (by omega) (by omega)).mp this).symm
        · rw [e1, g_rd_ne (hL.ne 81 80 (by decide) (by decide) (by decide)), u2, decide_eq_decide, mem_take_s hq]
          exact ⟨Or.inl, fun z => z.resolve_right (fun z => by have := congrArg (·.1) z; rw [c16] at this; exact absurd (show (19 : Int32) = 16 from this) (by decide))⟩
  refine loop C.length 0 t2 (by omega) F2 (fun g hg => ?_)
  rw [List.take_zero]
  refine ⟨?_, ?_⟩
  · rw [e2, g_rd_ne (hL.ne 80 81 (by decide) (by decide) (by decide)), e1, g_rd_at, hb_z]
    rfl
  · rw [e2, g_rd_at, hb_z]
    rfl
/-- the endless ones as bits -/
theorem m_bendless {cl R : Nat → Nat → Bool} (hL : Lay t ad) (hn : n ≤ 24) (hc : ∀ f g, f < n → g < 24 → hb (t.2.1 (ad 80) f) g = cl f g) (hr : ∀ f g, f < n → g < 24 → hb (t.2.1 (ad 82) f) g = R f g) (h : ∀ y : Int32, (∀ f, f < 32 → hb y f = (decide (f < n) && bEnd n cl R f)) → post (some (.int y)) t) : g_E cx (d + 2) i_Bounds_findEndless [.ref (ad 79), .int (nI n)] t post := by
  refine x_Bounds_findEndless hL ?_
  have outer : ∀ k f (y : Int32) (o : Option Value), k + f = n → (∀ e, e < 32 → hb y e = (decide (e < f) && bEnd n cl R e)) → g_W cx (g_E cx (d + 1)) mt_Bounds_findEndless post (4, [some (.ref (ad 79)), some (.int (nI n)), some (.int y), some (.int (nI f)), o], [], t, 0, 0) := by
    intro k
    induction k with
    | zero =>
      intro f y o hk hy
      have hf : f = n := by omega
      subst hf
      exact x_Bounds_findEndless_4 hL ⟨fun _ => h y hy, fun z => absurd (nI_le (Nat.le_refl _) (by omega)) z⟩
    | succ k ih =>
      intro f y o hk hy
      refine x_Bounds_findEndless_4 hL ⟨fun z => absurd z (nI_ge (by omega) (by omega)), fun _ => ?_⟩
      have hvf := vp_in_nI (n := f) (N := 24) (by omega) (by omega)
      have inner : ∀ j i (w : Int32), j + i = n → (∀ e, e < 32 → hb w e = (hb y e || (decide (e = f) && (List.range i).any (fun g => cl f g && (decide (g = f) || R g f))))) → g_W cx (g_E cx (d + 1)) mt_Bounds_findEndless post (12, [some (.ref (ad 79)), some (.int (nI n)), some (.int w), some (.int (nI f)), some (.int (nI i))], [], t, 0, 0) := by
        intro j
        induction j with
        | zero =>
          intro i w hj hw
          have hi : i = n := by omega
          subst hi
          refine x_Bounds_findEndless_12 hL ⟨fun _ => ?_, fun z => absurd (nI_le (Nat.le_refl _) (by omega)) z⟩
          rw [nI_1]
          refine ih (f + 1) w _ (by omega) (fun e he => ?_)
          rw [hw e he, hy e he]
          by_cases c : e = f
          · subst c
            rw [decide_eq_true rfl, decide_eq_false (Nat.lt_irrefl e), decide_eq_true (Nat.lt_succ_self e)]
            rfl
          · rw [decide_eq_false c, Bool.false_and, Bool.or_false]
            by_cases c2 : e < f
            · rw [decide_eq_true c2, decide_eq_true (show e < f + 1 by omega)]
            · rw [decide_eq_false c2, decide_eq_false (show ¬ e < f + 1 by omega)]
        | succ j ihj =>
          intro i w hj hw
          have hvi := vp_in_nI (n := i) (N := 24) (by omega) (by omega)
          have step : ∀ (b : Bool) (w' : Int32), b = (cl f i && (decide (i = f) || R i f)) → (∀ e, e < 32 → hb w' e = (hb w e || (decide (e = f) && b))) → g_W cx (g_E cx (d + 1)) mt_Bounds_findEndless post (12, [some (.ref (ad 79)), some (.int (nI n)), some (.int w'), some (.int (nI f)), some (.int (nI (i + 1)))], [], t, 0, 0) := by
            intro b w' hb1 hw'
            refine ihj (i + 1) w' (by omega) (fun e he => ?_)
            rw [hw' e he, hw e he, hb1, List.range_succ, List.any_append]
            simp only [List.any_cons, List.any_nil, Bool.or_false]
            cases hb y e <;> cases decide (e = f) <;> simp
          have set : ∀ e, e < 32 → hb (w ||| (1 <<< (nI f &&& 31))) e = (hb w e || (decide (e = f) && true)) := fun e he => by
            rw [hb_or, hb_1' f (by omega) e he, Bool.and_true]
            congr 1
            exact decide_eq_decide.mpr ⟨Eq.symm, Eq.symm⟩
          have keep : ∀ e, e < 32 → hb w e = (hb w e || (decide (e = f) && false)) := fun e he => by rw [Bool.and_false, Bool.or_false]
          refine x_Bounds_findEndless_12 hL ⟨fun z => absurd z (nI_ge (by omega) (by omega)), fun _ => ⟨hvf, ?_⟩⟩
          rw [nI_clamp (n := f) (by omega), nI_1 i]
          refine m_hasBit hL (by omega) ⟨_, rfl, hL, fun z => ?_, fun z => ?_⟩
          · rw [hc f i (by omega) (by omega)] at z
            refine step false w ?_ keep
            rw [b32_0.mp z, Bool.false_and]
          · have hcl : cl f i = true := by
              rw [hc f i (by omega) (by omega)] at z
              cases e : cl f i with
              | true => rfl
              | false => rw [e] at z; exact absurd rfl z
            refine ⟨fun q x3 e3 => ?_, fun q => ⟨hvi, ?_⟩⟩
            · subst e3
              refine step true _ ?_ set
              rw [hcl, decide_eq_true ((nI_eq (by omega) (by omega)).mp q)]
              rfl
            · have hne : ¬ i = f := fun c => q (by rw [c])
              rw [nI_clamp (n := i) (by omega)]
              refine m_hasBit hL (by omega) ⟨_, rfl, hL, fun z2 => ?_, fun z2 x6 e6 => ?_⟩
              · rw [hr i f (by omega) (by omega)] at z2
                refine step false w ?_ keep
                rw [hcl, decide_eq_false hne, b32_0.mp z2]
                rfl
              · rw [hr i f (by omega) (by omega)] at z2
                subst e6
                refine step true _ ?_ set
                have : R i f = true := by
                  cases e : R i f with
                  | true => rfl
                  | false => rw [e] at z2; exact absurd rfl z2
                rw [hcl, this, Bool.or_true]
                rfl
      refine inner n 0 y (by omega) (fun e he => ?_)
      rw [show (List.range 0).any (fun g => cl f g && (decide (g = f) || R g f)) = false from rfl, Bool.and_false, Bool.or_false]
  exact outer n 0 0 none (by omega) (fun e he => by rw [hb_z, decide_eq_false (by omega)]; rfl)
end BC
