/-! THE MODEL'S WRITER, byte by byte -/
def puP (c k : Nat) : Bool := Nat.beq c 191 || (Nat.beq c 144 && Nat.beq k 73)
theorem puP_r {c k : Nat} (h : c ≠ 191 ∧ (c ≠ 144 ∨ k ≠ 73)) : puP c k = false := by
  have e : ∀ a b : Nat, a ≠ b → Nat.beq a b = false := fun a b h => Bool.eq_false_iff.mpr (fun q => h (Nat.eq_of_beq_eq_true q))
  unfold puP
  rw [e c 191 h.1]
  rcases h.2 with h | h
  · rw [e c 144 h]; rfl
  · rw [e k 73 h, Bool.and_false]; rfl
/-- the model's draft holds the bytes l, as far as there is room -/
def Qm (ad : Nat → Nat) (l : List Nat) (t : gSt) : Prop := t.2.1 (ad 144) 73 = nI l.length ∧ ∀ j c, l[j]? = some c → j < 6100 → t.2.1 (ad 191) j = nI c
/-- the digits of n from the one of 10 ^ j on -/
def dD (n : Nat) : Nat → List Nat
  | 0 => [48 + n % 10]
  | j + 1 => (48 + n / 10 ^ (j + 1) % 10) :: dD n j
theorem dD_app (n : Nat) : ∀ j, dD n (j + 1) = dD (n / 10) j ++ [48 + n % 10]
  | 0 => by simp [dD]
  | j + 1 => by
    have ih := dD_app n j
    rw [dD, ih]
    conv => rhs; rw [dD]
    rw [Nat.div_div_eq_div_mul, show 10 * 10 ^ (j + 1) = 10 ^ (j + 1 + 1) from by rw [Nat.pow_succ 10 (j + 1), Nat.mul_comm]]
    rfl
theorem dgs_dD : ∀ (j f n : Nat), j < f → n < 10 ^ (j + 1) → (10 ^ j ≤ n ∨ j = 0) → dgs f n = dD n j
  | 0, f + 1, n, _, h, _ => by
    have h : n < 10 := by simpa using h
    simp only [dgs, dD]
    rw [if_pos h, Nat.mod_eq_of_lt h]
  | j + 1, f + 1, n, hf, h, h2 => by
    have h2 : 10 ^ (j + 1) ≤ n := h2.elim id (fun z => by omega)
    have hp : 10 ≤ 10 ^ (j + 1) := Nat.le_self_pow (by omega) 10
    simp only [dgs]
    rw [if_neg (by omega), dD_app]
    rw [dgs_dD j f (n / 10) (by omega) (Nat.div_lt_of_lt_mul (by rw [Nat.pow_succ, Nat.mul_comm] at h; exact h)) (Or.inl ((Nat.le_div_iff_mul_le (by decide)).mpr (by rw [Nat.pow_succ] at h2; exact h2)))]
section MP
variable {cx : gCx} {d : Nat} {ad : Nat → Nat} {t : gSt} {post : Option Value → gSt → Prop} {l : List Nat}
theorem m_put {x : Nat} (hL : Lay t ad) (hx : x < 128) (hl : l.length < 2 ^ 30) (hQ : Qm ad l t) (h : ∀ u, gFr ad puP t u → Qm ad (l ++ [x]) u → post none u) : g_E cx (d + 1) i_Mo_put [.ref (ad 144), .int (nI x)] t post := by
  obtain ⟨h1, h2⟩ := hQ
  have hlen : (l ++ [x]).length = l.length + 1 := by simp
  refine x_Mo_put hL ?_
  rw [h1, nI_1]
  refine ⟨fun c t1 e1 => ?_, fun c => ⟨?_, fun t2 e2 t3 e3 => ?_⟩⟩
  · rw [show (6100 : Int32) = nI 6100 from rfl, nI_leI (by omega) (by omega)] at c
    refine h t1 (by rw [e1]; exact (gFr.rf hL).si rfl) ⟨by rw [e1, g_rd_at, hlen], fun j c hj h6 => ?_⟩
    rw [e1, g_rd_ne (hL.ne 191 144 (by decide) (by decide) (by decide))]
    rw [List.getElem?_append_left (by omega)] at hj
    exact h2 j c hj h6
  · rw [show (6100 : Int32) = nI 6100 from rfl, nI_leI (by omega) (by omega)] at c
    exact vp_in_nI (by omega) (by omega)
  · rw [show (6100 : Int32) = nI 6100 from rfl, nI_leI (by omega) (by omega)] at c
    rw [nI_clamp (by omega), by_nar x hx] at e2
    have n2 : t2.2.1 (ad 144) 73 = nI l.length := by rw [e2, g_rd_ne (hL.ne 144 191 (by decide) (by decide) (by decide)), h1]
    rw [n2, nI_1] at e3
    refine h t3 (by rw [e3, e2]; exact ((gFr.rf hL).si rfl).si rfl) ⟨by rw [e3, g_rd_at, hlen], fun j c hj h6 => ?_⟩
    rw [e3, g_rd_ne (hL.ne 191 144 (by decide) (by decide) (by decide)), e2]
    by_cases ej : j = l.length
    · subst ej
      rw [g_rd_at]
      rw [List.getElem?_append_right (Nat.le_refl _), Nat.sub_self] at hj
      rw [show x = c from by simpa using hj]
    · rw [g_rd_k ej]
      have hjl : j < l.length := by
        have := (List.getElem?_eq_some_iff.mp hj).1
        omega
      rw [List.getElem?_append_left hjl] at hj
      exact h2 j c hj h6
theorem m_puts {nm : List Nat} (hlt : nB 256 nm < 2 ^ 63) (hc : ∀ c ∈ nm, 0 < c ∧ c < 128) (hlen : nm.length ≤ 8) (hL : Lay t ad) (hl : l.length < 2 ^ 29) (hQ : Qm ad l t) (h : ∀ u, gFr ad puP t u → Qm ad (l ++ nm) u → post none u) : g_E cx (d + 2) i_Mo_puts [.ref (ad 144), .long (lN (nB 256 nm))] t post := by
  refine x_Mo_puts hL ?_
  have loop : ∀ m (u : gSt) (l' : List Nat) (o : Option Value), m ≤ 8 → l'.length + m < 2 ^ 30 → gFr ad puP t u → Qm ad l' u → l' ++ nm.drop (nm.length - m) = l ++ nm → g_W cx (g_E cx (d + 1)) mt_Mo_puts post (3, [some (.ref (ad 144)), some (.long (lN (nB 256 nm))), none, some (.int (nI m - 1)), o], [], u, 0, 0) := by
    intro m
    induction m with
    | zero =>
      intro u l' o hm hll hF hq hl
      refine x_Mo_puts_3 hF.L ⟨fun _ => h u hF ?_, fun q => absurd (by decide) q⟩
      rw [Nat.sub_zero, List.drop_length, List.append_nil] at hl
      rw [← hl]
      exact hq
    | succ m ih =>
      intro u l' o hm hll hF hq hl
      rw [nI_pred]
      refine x_Mo_puts_3 hF.L ⟨fun q => absurd q (nI_pos (by omega)), fun _ x1 e1 => ?_⟩
      have hdv : nB 256 nm / 2 ^ (8 * m) < 2 ^ 63 := Nat.lt_of_le_of_lt (Nat.div_le_self _ _) hlt
      rw [sh8 m (by omega), lB_shr hlt (by omega), show (255 : Int64) = lN (2 ^ 8 - 1) from rfl, lB_and hdv (by decide), lN_i] at e1
      have ep : 2 ^ (8 * m) = 256 ^ m := by rw [Nat.pow_mul]
      rw [ep] at e1
      rw [show nI m + (-1) = nI m - 1 from by rw [Int32.sub_eq_add_neg]]
      by_cases hml : m < nm.length
      · have hd := nB_dig (B := 256) (by decide) nm (fun c hx => by have := hc c hx; omega) m hml
        have hi : nm.length - 1 - m < nm.length := by omega
        have egd : nm.getD (nm.length - 1 - m) 0 = nm[nm.length - 1 - m] := by rw [List.getD_eq_getElem?_getD, List.getElem?_eq_getElem hi]; rfl
        rw [show nB 256 nm / 256 ^ m % 2 ^ 8 = nB 256 nm / 256 ^ m % 256 from rfl, hd, egd] at e1
        have hcc := hc _ (List.getElem_mem hi)
        refine ⟨fun q => ?_, fun _ => ?_⟩
        · rw [e1, show (0 : Int32) = nI 0 from rfl, nI_leI (by omega) (by omega)] at q
          omega
        · rw [e1]
          refine m_put hF.L hcc.2 (by omega) hq (fun w F2 q2 => ⟨rfl, F2.L, ?_⟩)
          refine ih w _ _ (by omega) (by simp; omega) (hF.tr F2) q2 ?_
          have e5 : nm.length - (m + 1) = nm.length - 1 - m := by omega
          rw [← hl, e5, List.drop_eq_getElem_cons hi, List.append_assoc]
          have e6 : nm.length - 1 - m + 1 = nm.length - m := by omega
          rw [e6]
          rfl
      · have hz : nB 256 nm / 256 ^ m = 0 := Nat.div_eq_of_lt (Nat.lt_of_lt_of_le (nB_lt nm (fun c hx => by have := hc c hx; omega)) (Nat.pow_le_pow_right (by decide) (by omega)))
        rw [hz] at e1
        refine ⟨fun _ => ih u l' _ (by omega) (by omega) hF hq ?_, fun q => absurd (by rw [e1]; decide) q⟩
        rw [← hl, show nm.length - m = 0 by omega, show nm.length - (m + 1) = 0 by omega]
  exact loop 8 t l _ (Nat.le_refl _) (by omega) (gFr.rf hL) hQ (by rw [show nm.length - 8 = 0 by omega, List.drop_zero])
theorem m_decimal {n : Nat} (hn : n < 10 ^ 10) (hL : Lay t ad) (hl : l.length < 2 ^ 29) (hQ : Qm ad l t) (h : ∀ u, gFr ad puP t u → Qm ad (l ++ dgs 10 n) u → post none u) : g_E cx (d + 2) i_Mo_decimal [.ref (ad 144), .long (lN n)] t post := by
  refine x_Mo_decimal hL ?_
  have p63 : ∀ j, j ≤ 10 → 10 ^ j < 2 ^ 62 := fun j hj => Nat.lt_of_le_of_lt (Nat.pow_le_pow_right (by decide) hj) (by decide)
  have ne0 : ∀ j, j ≤ 10 → ¬ lN (10 ^ j) = 0 := fun j hj q => by
    have h1 := congrArg Int64.toInt q
    rw [lB_toInt (by have := p63 j hj; omega)] at h1
    have h2 : (0 : Int64).toInt = 0 := by decide
    have h3 : 0 < 10 ^ j := Nat.pow_pos (by decide)
    omega
  -- the digits, from 10 ^ j on
  have out : ∀ j (u : gSt) (l' : List Nat), j ≤ 9 → l'.length + j < 2 ^ 30 - 1 → gFr ad puP t u → Qm ad l' u → l' ++ dD n j = l ++ dgs 10 n → g_W cx (g_E cx (d + 1)) mt_Mo_decimal post (21, [some (.ref (ad 144)), some (.long (lN n)), none, some (.long (lN (10 ^ j))), none], [], u, 0, 0) := by
    intro j
    have hj1 : ∀ j, j ≤ 10 → ¬ (lg_cmp (lN (10 ^ j)) 0 ≤ 0) := fun j hj q => by
      have := (lB_cmp_le (b := 0) (by have := p63 j hj; omega) (by decide)).mp q
      have h3 : 0 < 10 ^ j := Nat.pow_pos (by decide)
      omega
    have dg : ∀ j, j ≤ 10 → (48 + ((lN n / lN (10 ^ j)) - (lN n / lN (10 ^ j)) / 10 * 10)).toInt32 = nI (48 + n / 10 ^ j % 10) := fun j hj => by
      rw [lB_div (by omega) (by have := p63 j hj; omega), lB_rem (by have := Nat.div_le_self n (10 ^ j); omega), lN_i]
    have step : ∀ j, lN (10 ^ (j + 1)) / 10 = lN (10 ^ j) → True := fun _ _ => trivial
    induction j with
    | zero =>
      intro u l' hj hll hF hq hl
      refine x_Mo_decimal_21 hF.L ⟨fun c => absurd c (hj1 0 (by decide)), fun _ => ⟨ne0 0 (by decide), ?_⟩⟩
      rw [dg 0 (by decide)]
      refine m_put hF.L (by omega) (by omega) hq (fun w F2 q2 => ⟨rfl, F2.L, fun x3 e3 => ?_⟩)
      rw [show (lN (10 ^ 0) : Int64) / 10 = 0 from by decide +kernel] at e3
      subst e3
      refine x_Mo_decimal_21 F2.L ⟨fun _ => h w (hF.tr F2) ?_, fun q => absurd (by decide) q⟩
      rw [← hl]
      have : dD n 0 = [48 + n / 10 ^ 0 % 10] := by simp [dD]
      rw [this]
      exact q2
    | succ j ih =>
      intro u l' hj hll hF hq hl
      refine x_Mo_decimal_21 hF.L ⟨fun c => absurd c (hj1 (j + 1) (by omega)), fun _ => ⟨ne0 (j + 1) (by omega), ?_⟩⟩
      rw [dg (j + 1) (by omega)]
      refine m_put hF.L (by omega) (by omega) hq (fun w F2 q2 => ⟨rfl, F2.L, fun x3 e3 => ?_⟩)
      rw [show (10 : Int64) = lN 10 from rfl, lB_div (by have := p63 (j + 1) (by omega); omega) (by decide), Nat.pow_succ, Nat.mul_div_cancel _ (by decide)] at e3
      subst e3
      refine ih w _ (by omega) (by simp; omega) (hF.tr F2) q2 ?_
      rw [← hl, List.append_assoc]
      rfl
  have find : ∀ m j (u : gSt), m + j = 9 → gFr ad puP t u → Qm ad l u → (10 ^ j ≤ n ∨ j = 0) → g_W cx (g_E cx (d + 1)) mt_Mo_decimal post (2, [some (.ref (ad 144)), some (.long (lN n)), none, some (.long (lN (10 ^ j))), none], [], u, 0, 0) := by
    intro m
    have cm : ∀ j, j ≤ 10 → ((lg_cmp (lN n / lN (10 ^ j)) 9 ≤ 0) ↔ n / 10 ^ j ≤ 9) := fun j hj => by
      rw [lB_div (by omega) (by have := p63 j hj; omega)]
      exact lB_cmp_le (b := 9) (by have := Nat.div_le_self n (10 ^ j); omega) (by decide)
    induction m with
    | zero =>
      intro j u hj hF hq hnj
      have hj9 : j = 9 := by omega
      subst hj9
      refine x_Mo_decimal_2 hF.L ⟨ne0 9 (by decide), fun c => ?_, fun c => ?_⟩
      · exact out 9 u l (by decide) (by omega) hF hq (by rw [dgs_dD 9 10 n (by decide) hn hnj])
      · exact absurd ((cm 9 (by decide)).mpr (by omega)) c
    | succ m ih =>
      intro j u hj hF hq hnj
      refine x_Mo_decimal_2 hF.L ⟨ne0 j (by omega), fun c => ?_, fun c x1 e1 => ?_⟩
      · have c := (cm j (by omega)).mp c
        have hlt : n < 10 ^ (j + 1) := by
          rw [Nat.pow_succ]
          have := (Nat.div_lt_iff_lt_mul (Nat.pow_pos (by decide) : 0 < 10 ^ j)).mp (by omega : n / 10 ^ j < 10)
          omega
        exact out j u l (by omega) (by omega) hF hq (by rw [dgs_dD j 10 n (by omega) hlt hnj])
      · have c : ¬ n / 10 ^ j ≤ 9 := fun q => c ((cm j (by omega)).mpr q)
        rw [show (10 : Int64) = lN 10 from rfl, lN_mul, ← Nat.pow_succ] at e1
        subst e1
        refine ih (j + 1) u (by omega) hF hq (Or.inl ?_)
        rw [Nat.pow_succ]
        have := (Nat.le_div_iff_mul_le (Nat.pow_pos (by decide) : 0 < 10 ^ j)).mp (by omega : 10 ≤ n / 10 ^ j)
        omega
  exact find 9 0 t (by decide) (gFr.rf hL) hQ (Or.inr rfl)
end MP
