/-! THE CLASS'S CODER: all functions -/
/-- the code of the first f functions, one behind the other -/
def catC (fc : Nat → List (Int32 × Int32)) (f : Nat) : List (Int32 × Int32) := ((List.range f).map fc).flatten
theorem catC_s (fc : Nat → List (Int32 × Int32)) (f : Nat) : catC fc (f + 1) = catC fc f ++ fc f := by
  unfold catC
  rw [List.range_succ, List.map_append, List.flatten_append]
  simp
theorem catC_le (fc : Nat → List (Int32 × Int32)) {f g : Nat} (h : f ≤ g) : (catC fc f).length ≤ (catC fc g).length := by
  induction g with
  | zero => rw [show f = 0 by omega]; exact Nat.le_refl _
  | succ g ih =>
    by_cases e : f = g + 1
    · rw [e]; exact Nat.le_refl _
    · have := ih (by omega)
      rw [catC_s, List.length_append]
      omega
theorem rows_wr {X Y : Nat → Int32} {a b : List (Int32 × Int32)} (h : rows X Y 0 a) : rows (wr X a.length (b.map (·.1))) (wr Y a.length (b.map (·.2))) 0 (a ++ b) := by
  intro i q hq
  rw [Nat.zero_add]
  by_cases hi : i < a.length
  · rw [List.getElem?_append_left hi] at hq
    have := h i q hq
    rw [Nat.zero_add] at this
    rw [wr_lo hi, wr_lo hi]
    exact this
  · rw [List.getElem?_append_right (by omega)] at hq
    obtain ⟨j, hj⟩ : ∃ j, i = a.length + j := ⟨i - a.length, by omega⟩
    rw [hj, Nat.add_sub_cancel_left] at hq
    rw [hj]
    exact ⟨wr_at (by rw [List.getElem?_map, hq]; rfl), wr_at (by rw [List.getElem?_map, hq]; rfl)⟩
theorem rows_mid {X Y : Nat → Int32} {a b c : List (Int32 × Int32)} (h : rows X Y 0 (a ++ b ++ c)) : rows X Y a.length b := by
  intro i q hq
  have hi := (List.getElem?_eq_some_iff.mp hq).1
  have := h (a.length + i) q (by rw [List.getElem?_append_left (by rw [List.length_append]; omega), List.getElem?_append_right (by omega), Nat.add_sub_cancel_left]; exact hq)
  rwa [Nat.zero_add] at this
theorem rows_pre {X Y : Nat → Int32} {s : Nat} {a b : List (Int32 × Int32)} (h : rows X Y s (a ++ b)) : rows X Y s a := fun i q hq => h i q (by rw [List.getElem?_append_left (List.getElem?_eq_some_iff.mp hq).1]; exact hq)
def cEP (p c k : Nat) : Bool := ceP p c k || (Nat.beq c 67 && (Nat.beq k 6 || Nat.beq k 7))
theorem cEP_in {p c k : Nat} (h : cEP p c k = true) : (68 ≤ c ∧ c ≤ 78) ∨ (p + 7 ≤ c ∧ c ≤ p + 10) ∨ c = p + 14 ∨ c = p + 15 ∨ (c = 67 ∧ 6 ≤ k ∧ k ≤ 12) := by
  unfold cEP at h
  rw [Bool.or_eq_true] at h
  rcases h with h | h
  · have := ceP_in h
    omega
  · simp only [Bool.and_eq_true, Bool.or_eq_true, Nat.beq_eq] at h
    omega
theorem cEP_r {p c k : Nat} (h : ¬ ((68 ≤ c ∧ c ≤ 78) ∨ (p + 7 ≤ c ∧ c ≤ p + 10) ∨ c = p + 14 ∨ c = p + 15 ∨ (c = 67 ∧ 6 ≤ k ∧ k ≤ 12))) : cEP p c k = false := by
  cases e : cEP p c k with
  | false => rfl
  | true => exact absurd (cEP_in e) h
theorem cEP_t {p c k : Nat} (h : (68 ≤ c ∧ c ≤ 78) ∨ (p + 7 ≤ c ∧ c ≤ p + 10) ∨ c = p + 14 ∨ c = p + 15 ∨ (c = 67 ∧ 6 ≤ k ∧ k ≤ 12)) : cEP p c k = true := by
  unfold cEP
  by_cases q : (68 ≤ c ∧ c ≤ 78) ∨ (p + 7 ≤ c ∧ c ≤ p + 10) ∨ c = p + 14 ∨ c = p + 15 ∨ (c = 67 ∧ 8 ≤ k ∧ k ≤ 12)
  · rw [ceP_t q]; rfl
  · simp only [Bool.or_eq_true, Bool.and_eq_true, Nat.beq_eq]
    omega
/-- a body with its variables, as the coder wants it -/
def bodyC (n : Nat) (par : Int32 → Nat) (P : Nat) (F : Fo) : Prop := fo_l F = 1 ∧ fo_n F ≤ 500 ∧ P ≤ 6 ∧ fo_w n par F (fun _ => (List.range P).map nI) ∧ ((List.range P).map nI ++ fo_b F).Nodup ∧ ∀ w ∈ fo_b F, ∃ j, w = nI j ∧ j < 120
theorem bodyC.vK {n : Nat} {par : Int32 → Nat} {P : Nat} {F : Fo} (h : bodyC n par P F) : fo_v n par vK F := by
  obtain ⟨h1, h2, h3, h4, h5, h6⟩ := h
  refine fo_wD (D := fun v => ∃ j, v = nI j ∧ j < 120) F _ h4 (fun i x hx => ?_) h6
  obtain ⟨j, hj, rfl⟩ := List.mem_map.mp hx
  have := List.mem_range.mp hj
  exact ⟨j, rfl, by omega⟩
section EN
variable {cx : gCx} {d : Nat} {ad : Nat → Nat} {t : gSt} {post : Option Value → gSt → Prop} {p n : Nat} {par : Int32 → Nat} {bo : Nat → Fo} {tl : Bool}
/-- function f's code, slots, temps in program p -/
def codeAt (t : gSt) (ad : Nat → Nat) (p : Nat) (tl : Bool) (par : Int32 → Nat) (bo : Nat → Fo) (f : Nat) : Prop :=
  ∃ s, t.2.1 (ad (p + 7)) f = nI s ∧ s + (eTC tl f (par (nI f)) (bo f)).length ≤ c_len (p + 14) ∧ t.2.1 (ad (p + 8)) f = nI (eTC tl f (par (nI f)) (bo f)).length ∧ rows (t.2.1 (ad (p + 14))) (t.2.1 (ad (p + 15))) s (eTC tl f (par (nI f)) (bo f)) ∧ t.2.1 (ad (p + 9)) f = nI (eTZ (par (nI f)) (bo f)) ∧ t.2.1 (ad (p + 10)) f = nI (eTM tl (bo f))
theorem m_encode (hp : isP p) (hL : Lay t ad) (hn24 : n ≤ 24) (hRp : RPar t ad p n par) (hpar : ∀ v, par v ≤ 6) (hB : ∀ f, f < n → RB t ad p f (bo f) ∧ bodyC n par (par (nI f)) (bo f)) (hcap : (catC (fun f => eTC tl f (par (nI f)) (bo f)) n).length ≤ c_len (p + 14)) (hho : ∀ j, ¬ t.2.1 (ad 76) j < 0)
    (h : ∀ u, gFr ad (cEP p) t u → (∀ f, f < n → codeAt u ad p tl par bo f) → (∀ j, ¬ u.2.1 (ad 76) j < 0) → post none u) : g_E cx (d + 5) i_Coder_encode [.ref (ad 67), .ref (ad p), .int (b32 tl)] t post := by
  have hpg := hp.ge
  have hpl := hp.lt
  have hcl : c_len (p + 14) < 2 ^ 30 := (capL hp).1
  refine x_Coder_encode hp hL (fun t1 e1 => ⟨by cases tl <;> exact ⟨by decide, by decide⟩, fun t3 e3 t4 e4 => ?_⟩)
  have F4 : gFr ad (cEP p) t t4 := by rw [e4, e3, e1]; exact (((gFr.rf hL).sr (c := 67) (k := 6) (cEP_t (by omega)) (by decide +kernel)).si (cEP_t (by omega))).si (cEP_t (by omega))
  have o4 : ∀ c, c ≠ 67 → c < 199 → t4.2.1 (ad c) = t.2.1 (ad c) := fun c hc hl => by rw [e4, g_si_ne (hL.ne c 67 hl (by decide) hc), e3, g_si_ne (hL.ne c 67 hl (by decide) hc), e1]; rfl
  have r6 : t4.2.2.2 (ad 67) 6 = some (ad p) := by rw [e4, e3, e1]; exact g_rr_at
  have k7 : t4.2.1 (ad 67) 7 = b32 tl := by rw [e4, g_rd_k (by decide), e3, g_rd_at]
  have k9 : t4.2.1 (ad 67) 9 = nI 0 := by rw [e4, g_rd_at]; rfl
  obtain ⟨fc, efc⟩ : ∃ fc, (fun f => eTC tl f (par (nI f)) (bo f)) = fc := ⟨_, rfl⟩
  have efc' : ∀ f, eTC tl f (par (nI f)) (bo f) = fc f := fun f => congrFun efc f
  rw [efc] at hcap
  have loop : ∀ mm f (u : gSt), mm + f = n → gFr ad (cEP p) t u → u.2.2.2 (ad 67) 6 = some (ad p) → u.2.1 (ad 67) 7 = b32 tl → u.2.1 (ad 67) 9 = nI (catC fc f).length → rows (u.2.1 (ad (p + 14))) (u.2.1 (ad (p + 15))) 0 (catC fc f) → (∀ g, g < f → u.2.1 (ad (p + 7)) g = nI (catC fc g).length ∧ u.2.1 (ad (p + 8)) g = nI (fc g).length ∧ u.2.1 (ad (p + 9)) g = nI (eTZ (par (nI g)) (bo g)) ∧ u.2.1 (ad (p + 10)) g = nI (eTM tl (bo g))) → (∀ j, ¬ u.2.1 (ad 76) j < 0) → g_W cx (g_E cx (d + 4)) mt_Coder_encode post (17, [some (.ref (ad 67)), some (.ref (ad p)), some (.int (b32 tl)), some (.int (nI f))], [], u, 0, 0) := by
    intro mm
    induction mm with
    | zero =>
      intro f u hf hF hr6 hk7 hk9 hrw hg hh
      have hf : f = n := by omega
      subst hf
      refine x_Coder_encode_17 hp hF.L ?_
      rw [hF.i p 15 (cEP_r (by omega)) (by omega), hRp.2.1]
      refine ⟨fun _ => h u hF (fun g hgf => ?_) hh, fun q => absurd (nI_le (Nat.le_refl _) (by omega)) q⟩
      obtain ⟨g1, g2, g3, g4⟩ := hg g hgf
      have hle := catC_le fc (show g + 1 ≤ f by omega)
      rw [catC_s, List.length_append] at hle
      unfold codeAt
      rw [efc' g]
      refine ⟨(catC fc g).length, g1, by omega, g2, ?_, g3, g4⟩
      -- the rows of f functions hold those of g
      have pre : ∀ k, k ≤ f - (g + 1) → rows (u.2.1 (ad (p + 14))) (u.2.1 (ad (p + 15))) 0 (catC fc (f - k)) := by
        intro k
        induction k with
        | zero => intro _; exact hrw
        | succ k ihk =>
          intro hk
          have := ihk (by omega)
          rw [show f - k = (f - (k + 1)) + 1 by omega, catC_s] at this
          exact rows_pre this
      have := pre (f - (g + 1)) (Nat.le_refl _)
      rw [show f - (f - (g + 1)) = g + 1 by omega, catC_s] at this
      exact rows_mid (c := []) (by rw [List.append_nil]; exact this)
    | succ mm ih =>
      intro f u hf hF hr6 hk7 hk9 hrw hg hh
      have ou : ∀ c, ¬ ((67 ≤ c ∧ c ≤ 78) ∨ (p + 7 ≤ c ∧ c ≤ p + 10) ∨ c = p + 14 ∨ c = p + 15) → c < 199 → u.2.1 (ad c) = t.2.1 (ad c) := fun c hc hl => funext (fun k => hF.i c k (cEP_r (by omega)) hl)
      refine x_Coder_encode_17 hp hF.L ?_
      rw [ou p (by omega) (by omega), hRp.2.1]
      refine ⟨fun q => absurd q (nI_ge (by omega) (by omega)), fun _ => ?_⟩
      obtain ⟨⟨s0, c1, c2, c3⟩, b1, b2, b3, b4, b5, b6⟩ := hB f (by omega)
      have hle := catC_le fc (show f + 1 ≤ n by omega)
      rw [catC_s, List.length_append] at hle
      refine m_encodeIn (n := n) (par := par) (F := bo f) (s0 := s0) (u0 := (catC fc f).length) (P := par (nI f)) hp hF.L hr6 (by omega) hk7 hk9 (by omega) (by rw [ou _ (by omega) (by omega)]; exact hRp.2.2 f (by omega)) b3 ⟨hn24, by rw [ou p (by omega) (by omega)]; exact hRp.2.1, fun g hg => by rw [ou _ (by omega) (by omega)]; exact hRp.2.2 g hg⟩ (fun v => by have := hpar v; omega) (by rw [ou _ (by omega) (by omega)]; exact c1) c2 (by rw [ou _ (by omega) (by omega), ou _ (by omega) (by omega)]; exact c3) b1 (bodyC.vK ⟨b1, b2, b3, b4, b5, b6⟩) b2 hh (fun w s' es' FW q14 q15 q9 qle q7 q8 q9' q10 q76 => ⟨rfl, FW.L, ?_⟩)
      obtain ⟨z1, z2, z3, z4, z5⟩ := enc_root (tl := tl) (own := f) (s0 := s0) (op := u.2.1 (ad (p + 14))) (od := u.2.1 (ad (p + 15))) (ae := u.2.1 (ad 74)) (ar := u.2.1 (ad 75)) (ho := u.2.1 (ad 76)) (be := u.2.1 (ad 77)) (so := u.2.1 (ad 78)) (u0 := (catC fc f).length) hcl b1 b4 b5 b6 b3 b2 (by rw [efc']; omega)
      rw [← es'] at z1 z2 z3 z4 z5
      rw [efc'] at z1 z2 z3
      rw [z1] at q9 q8
      rw [z2] at q14
      rw [z3] at q15
      rw [z5] at q9'
      rw [z4] at q10
      rw [nI_sub (by omega), Nat.add_sub_cancel_left] at q8
      rw [nI_1]
      refine ih (f + 1) w (by omega) (hF.tr (FW.mo (fun c k q => cEP_t (by have := ceP_in q; omega)))) ?_ ?_ ?_ ?_ (fun g hgf => ?_) q76
      · rw [FW.r 67 6 (ceP_r (by omega))]; exact hr6
      · rw [FW.i 67 7 (ceP_r (by omega))]; exact hk7
      · rw [q9, catC_s, List.length_append]
      · rw [q14, q15, catC_s]
        exact rows_wr hrw
      · rw [q7, q8, q9', q10]
        by_cases e : g = f
        · subst e
          rw [va_up_self, va_up_self, va_up_self, va_up_self]
          exact ⟨rfl, rfl, rfl, rfl⟩
        · rw [va_up_ne _ _ e, va_up_ne _ _ e, va_up_ne _ _ e, va_up_ne _ _ e]
          exact hg g (by omega)
  refine loop n 0 t4 (by omega) F4 r6 k7 k9 (fun i q hq => by cases hq) (fun g hg => by omega) (fun j => ?_)
  rw [o4 76 (by decide) (by decide)]
  exact hho j
end EN
