/-! TOKENS OF THE CLASS -/
theorem nB_lo {B : Nat} (hB : 0 < B) : ∀ (l : List Nat), (∀ c ∈ l, 0 < c) → l ≠ [] → B ^ (l.length - 1) ≤ nB B l
  | [], _, h => absurd rfl h
  | c :: l, h, _ => by
    have h1 := h c List.mem_cons_self
    simp only [nB, List.length_cons, Nat.add_sub_cancel]
    have : 1 * B ^ l.length ≤ c * B ^ l.length := Nat.mul_le_mul_right _ h1
    omega
theorem nB_inj1 {B : Nat} : ∀ (a b : List Nat), (∀ c ∈ a, c < B) → (∀ c ∈ b, c < B) → a.length = b.length → nB B a = nB B b → a = b
  | [], [], _, _, _, _ => rfl
  | [], _ :: _, _, _, h, _ => by cases h
  | _ :: _, [], _, _, h, _ => by cases h
  | c :: a, e :: b, ha, hb, hl, h => by
    have hl' : a.length = b.length := by simpa using hl
    have xa := nB_lt a (fun x hx => ha x (List.mem_cons_of_mem _ hx))
    have xb := nB_lt b (fun x hx => hb x (List.mem_cons_of_mem _ hx))
    simp only [nB] at h
    rw [hl'] at h xa
    have hp : 0 < B ^ b.length := by omega
    have e1 : (c * B ^ b.length + nB B a) / B ^ b.length = c := by
      rw [Nat.add_comm, Nat.add_mul_div_right _ _ hp, Nat.div_eq_of_lt xa, Nat.zero_add]
    have e2 : (e * B ^ b.length + nB B b) / B ^ b.length = e := by
      rw [Nat.add_comm, Nat.add_mul_div_right _ _ hp, Nat.div_eq_of_lt xb, Nat.zero_add]
    have hce : c = e := by rw [← e1, h, e2]
    subst hce
    rw [nB_inj1 a b (fun x hx => ha x (List.mem_cons_of_mem _ hx)) (fun x hx => hb x (List.mem_cons_of_mem _ hx)) hl' (by omega)]
theorem nB_inj {B : Nat} (hB : 1 < B) {a b : List Nat} (ha : ∀ c ∈ a, 0 < c ∧ c < B) (hb : ∀ c ∈ b, 0 < c ∧ c < B) (na : a ≠ []) (nb : b ≠ []) (h : nB B a = nB B b) : a = b := by
  refine nB_inj1 a b (fun c hc => (ha c hc).2) (fun c hc => (hb c hc).2) ?_ h
  have la := nB_lo (B := B) (by omega) a (fun c hc => (ha c hc).1) na
  have lb := nB_lo (B := B) (by omega) b (fun c hc => (hb c hc).1) nb
  have ua := nB_lt a (fun c hc => (ha c hc).2)
  have ub := nB_lt b (fun c hc => (hb c hc).2)
  have pa : 0 < a.length := List.length_pos_iff.mpr na
  have pb : 0 < b.length := List.length_pos_iff.mpr nb
  rcases Nat.lt_trichotomy a.length b.length with q | q | q
  · have := Nat.pow_le_pow_right (n := B) (by omega) (show a.length ≤ b.length - 1 by omega)
    omega
  · exact q
  · have := Nat.pow_le_pow_right (n := B) (by omega) (show b.length ≤ a.length - 1 by omega)
    omega
theorem lN_inj63 {a b : Nat} (ha : a < 2 ^ 63) (hb : b < 2 ^ 63) (h : lN a = lN b) : a = b := by
  have := congrArg Int64.toInt h
  rw [lB_toInt ha, lB_toInt hb] at this
  omega
theorem pk8_inj {a b : List Nat} (ha : nm_ok a) (hb : nm_ok b) : pk8 a = pk8 b ↔ a = b := by
  refine ⟨fun h => ?_, fun h => by rw [h]⟩
  obtain ⟨e1, l1, c1⟩ := nB8_name ha
  obtain ⟨e2, l2, c2⟩ := nB8_name hb
  rw [e1, e2] at h
  exact nB_inj (by decide) (fun c hc => ⟨(c1 c hc).1, by have := (c1 c hc).2; omega⟩) (fun c hc => ⟨(c2 c hc).1, by have := (c2 c hc).2; omega⟩) ha.1 hb.1 (lN_inj63 l1 l2 h)
theorem lt6_inj {a b : Nat} (ha : 0 < lt6 a) (hb : 0 < lt6 b) (h : lt6 a = lt6 b) : a = b := by
  unfold lt6 at h ha hb
  repeat' split at h
  all_goals first | omega | (simp only [*, if_false, if_true, ite_false, ite_true] at ha hb; omega)
theorem map_inj {f : Nat → Nat} : ∀ (a b : List Nat), (∀ x ∈ a, ∀ y ∈ b, f x = f y → x = y) → a.map f = b.map f → a = b
  | [], [], _, _ => rfl
  | [], _ :: _, _, h => by cases h
  | _ :: _, [], _, h => by cases h
  | x :: a, y :: b, hi, h => by
    simp only [List.map_cons, List.cons.injEq] at h
    rw [hi x List.mem_cons_self y List.mem_cons_self h.1, map_inj a b (fun u hu v hv => hi u (List.mem_cons_of_mem _ hu) v (List.mem_cons_of_mem _ hv)) h.2]
theorem pk6_inj {a b : List Nat} (ha : nm_ok a) (hb : nm_ok b) : pk6 a = pk6 b ↔ a = b := by
  refine ⟨fun h => ?_, fun h => by rw [h]⟩
  obtain ⟨e1, l1, c1⟩ := nB6_name ha
  obtain ⟨e2, l2, c2⟩ := nB6_name hb
  rw [e1, e2] at h
  have := nB_inj (B := 64) (by decide) (a := a.map lt6) (b := b.map lt6) (fun c hc => by
    obtain ⟨x, hx, e⟩ := List.mem_map.mp hc
    have := c1 x hx
    omega) (fun c hc => by
    obtain ⟨x, hx, e⟩ := List.mem_map.mp hc
    have := c2 x hx
    omega) (fun q => ha.1 (List.map_eq_nil_iff.mp q)) (fun q => hb.1 (List.map_eq_nil_iff.mp q)) (lN_inj63 (by omega) (by omega) h)
  exact map_inj a b (fun x hx y hy e => lt6_inj (c1 x hx).1 (c2 y hy).1 e) this
/-- the class's kinds -/
def cK (k : Nat) : Int32 := [0, 2, 1, 3, 4, 5, 6, 7, 8, 9, 40, 41, 44, 59, 61, 43, 45, 42, 47, 37, 60, 10, 46, 11].getD k 11
theorem cK_in : ∀ i, i < 24 → ∀ j, j < 24 → cK i = cK j → i = j := by decide
theorem cK_iff {i j : Nat} (hi : i ≤ 23) (hj : j ≤ 23) : cK i = cK j ↔ i = j := ⟨cK_in i (by omega) j (by omega), fun h => by rw [h]⟩
def tcP (c k : Nat) : Bool := Nat.beq c 4 && Nat.ble 2 k
def bx (x : Int32) (c : Nat) : Prop := c < 256 ∧ (c < 128 → x = nI c) ∧ (128 ≤ c → x < 0)
section BX
variable {x : Int32} {c m : Nat}
theorem bx.eq (h : bx x c) (hm : m < 128) : x = nI m ↔ c = m := by
  by_cases q : c < 128
  · rw [h.2.1 q, nI_eq (by omega) (by omega)]
  · refine ⟨fun e => ?_, fun e => by omega⟩
    have := h.2.2 (by omega)
    rw [e] at this
    exact absurd this (nI_pos (by omega))
theorem bx.lt (h : bx x c) (hm : m < 128) : x < nI m ↔ c < m ∨ 128 ≤ c := by
  by_cases q : c < 128
  · rw [h.2.1 q, nI_ltI (by omega) (by omega)]
    omega
  · refine ⟨fun e => by omega, fun e => ?_⟩
    exact Int32.lt_of_lt_of_le (h.2.2 (by omega)) (nI_pos' (by omega))
theorem bx.gt (h : bx x c) (hm : m < 128) : nI m < x ↔ m < c ∧ c < 128 := by
  by_cases q : c < 128
  · rw [h.2.1 q, nI_ltI (by omega) (by omega)]
    omega
  · refine ⟨fun e => ?_, fun e => by omega⟩
    have := Int32.lt_trans e (h.2.2 (by omega))
    exact absurd this (nI_pos (by omega))
theorem bx.neg (h : bx x c) : x < 0 ↔ 128 ≤ c := by
  have := h.lt (m := 0) (by decide)
  rw [show (nI 0 : Int32) = 0 from rfl] at this
  rw [this]
  omega
end BX
/-- the text as the class has it -/
def txC (ad : Nat → Nat) (T : Nat → Nat) (n : Nat) (t : gSt) : Prop := txt T n ∧ t.2.2.2 (ad 4) 0 = some (ad 1) ∧ t.2.1 (ad 4) 1 = nI n ∧ ∀ j, j < n → bx (t.2.1 (ad 1) j) (T j)
theorem txC.fr {ad : Nat → Nat} {T : Nat → Nat} {n : Nat} {t u : gSt} {P : Nat → Nat → Bool} (h : txC ad T n t) (hF : gFr ad P t u) (h0 : P 4 0 = false) (h1 : P 4 1 = false) (h2 : ∀ k, P 1 k = false) : txC ad T n u :=
  ⟨h.1, by rw [hF.r 4 0 h0]; exact h.2.1, by rw [hF.i 4 1 h1]; exact h.2.2.1, fun j hj => by rw [hF.i 1 j (h2 j)]; exact h.2.2.2 j hj⟩
def hdC (ad : Nat → Nat) (T : Nat → Nat) (n a : Nat) (t : gSt) : Prop := tkK T n a ≠ 23 ∧ t.2.1 (ad 4) 2 = nI (tkE T n a) ∧ t.2.1 (ad 4) 4 = cK (tkK T n a) ∧ t.2.1 (ad 4) 5 = nI (tkS T n a) ∧ (tkK T n a = 1 → t.2.1 (ad 4) 6 = nI (tkW T n a)) ∧ (tkK T n a = 2 → t.2.2.1 (ad 4) 7 = pk8 (tkN T n a))
def hcC (ad : Nat → Nat) (T : Nat → Nat) (n a : Nat) (t : gSt) : Prop := t.2.1 (ad 4) 8 = 0 ∧ t.2.1 (ad 4) 3 = 1 ∧ hdC ad T n a t
def cuC (ad : Nat → Nat) (T : Nat → Nat) (n a : Nat) (t : gSt) : Prop := t.2.1 (ad 4) 8 = 0 ∧ ((t.2.1 (ad 4) 3 = 0 ∧ t.2.1 (ad 4) 2 = nI a) ∨ (t.2.1 (ad 4) 3 = 1 ∧ hdC ad T n a t))
def ddC (ad : Nat → Nat) (c p : Nat) (t : gSt) : Prop := (1 ≤ c ∧ c ≤ 7) ∧ t.2.1 (ad 4) 8 = nI c ∧ t.2.1 (ad 4) 9 = nI p
section TC
variable {cx : gCx} {d : Nat} {ad : Nat → Nat} {T : Nat → Nat} {n a : Nat} {t : gSt} {post : Option Value → gSt → Prop}
theorem hcC.cu (h : hcC ad T n a t) : cuC ad T n a t := ⟨h.1, Or.inr h.2⟩
theorem ddC.ne {c p : Nat} (h : ddC ad c p t) : ¬ t.2.1 (ad 4) 8 = 0 := by
  rw [h.2.1]
  exact nI_ne0 (by have := h.1; omega) (by have := h.1; omega)
theorem m_isBlank {x : Int32} {c : Nat} (hL : Lay t ad) (hx : bx x c) (h : post (some (.int (b32 (isB c)))) t) : g_E cx (d + 1) i_Tokens_isBlank [.int x] t post := by
  have e9 : x = 9 ↔ c = 9 := hx.eq (m := 9) (by decide)
  have e10 : x = 10 ↔ c = 10 := hx.eq (m := 10) (by decide)
  have e13 : x = 13 ↔ c = 13 := hx.eq (m := 13) (by decide)
  have e32 : x = 32 ↔ c = 32 := hx.eq (m := 32) (by decide)
  have y : (c = 9 ∨ c = 10 ∨ c = 13 ∨ c = 32) → post (some (.int 1)) t := fun q => by
    rw [isB_i.mpr q] at h
    exact h
  refine x_Tokens_isBlank hL ⟨fun q => y (Or.inl (e9.mp q)), fun q1 => ⟨fun q => y (Or.inr (Or.inl (e10.mp q))), fun q2 => ⟨fun q => y (Or.inr (Or.inr (Or.inl (e13.mp q)))), fun q3 => ⟨fun q4 => ?_, fun q => y (Or.inr (Or.inr (Or.inr (e32.mp (Classical.not_not.mp q)))))⟩⟩⟩⟩
  rw [e9] at q1
  rw [e10] at q2
  rw [e13] at q3
  rw [e32] at q4
  have : isB c = false := Bool.eq_false_iff.mpr (fun z => by
    have := isB_i.mp z
    omega)
  rw [this] at h
  exact h
theorem m_isLetter {x : Int32} {c : Nat} (hL : Lay t ad) (hx : bx x c) (h : post (some (.int (b32 (isL c)))) t) : g_E cx (d + 1) i_Tokens_isLetter [.int x] t post := by
  have e1 : x < 97 ↔ c < 97 ∨ 128 ≤ c := hx.lt (m := 97) (by decide)
  have e2 : 122 < x ↔ 122 < c ∧ c < 128 := hx.gt (m := 122) (by decide)
  have no : ¬ (97 ≤ c ∧ c ≤ 122) → post (some (.int 0)) t := fun q => by
    have : isL c = false := Bool.eq_false_iff.mpr (fun z => q (isL_i.mp z))
    rw [this] at h
    exact h
  refine x_Tokens_isLetter hL ⟨fun q => no (by have := e1.mp q; omega), fun q1 => ⟨fun q => no (by have := e2.mp q; omega), fun q2 => ?_⟩⟩
  rw [e1] at q1
  rw [e2] at q2
  rw [isL_i.mpr (by omega)] at h
  exact h
theorem m_isDigit {x : Int32} {c : Nat} (hL : Lay t ad) (hx : bx x c) (h : post (some (.int (b32 (isD c)))) t) : g_E cx (d + 1) i_Tokens_isDigit [.int x] t post := by
  have e1 : x < 48 ↔ c < 48 ∨ 128 ≤ c := hx.lt (m := 48) (by decide)
  have e2 : 57 < x ↔ 57 < c ∧ c < 128 := hx.gt (m := 57) (by decide)
  have no : ¬ (48 ≤ c ∧ c ≤ 57) → post (some (.int 0)) t := fun q => by
    have : isD c = false := Bool.eq_false_iff.mpr (fun z => q (isD_i.mp z))
    rw [this] at h
    exact h
  refine x_Tokens_isDigit hL ⟨fun q => no (by have := e1.mp q; omega), fun q1 => ⟨fun q => no (by have := e2.mp q; omega), fun q2 => ?_⟩⟩
  rw [e1] at q1
  rw [e2] at q2
  rw [isD_i.mpr (by omega)] at h
  exact h
/-- a fault is set, if it is the first -/
theorem m_failAt {c p : Nat} (hL : Lay t ad) (hc : 1 ≤ c ∧ c ≤ 7) (h0 : t.2.1 (ad 4) 8 = 0) (h : ∀ u, gFr ad tcP t u → ddC ad c p u → (∀ k, k < 8 → u.2.1 (ad 4) k = t.2.1 (ad 4) k) → post none u) : g_E cx (d + 1) i_Tokens_failAt [.ref (ad 4), .int (nI c), .int (nI p)] t post := by
  refine x_Tokens_failAt hL ⟨fun q => absurd h0 q, fun _ t1 e1 t2 e2 => ?_⟩
  subst e1
  subst e2
  refine h _ (((gFr.rf hL).si rfl).si rfl) ⟨hc, ?_, g_rd_at⟩ (fun k hk => ?_)
  · rw [g_rd_k (by decide), g_rd_at]
  · rw [g_rd_k (by omega), g_rd_k (by omega)]
theorem m_failD {c p : Int32} (hL : Lay t ad) (h0 : ¬ t.2.1 (ad 4) 8 = 0) (h : post none t) : g_E cx (d + 1) i_Tokens_failAt [.ref (ad 4), .int c, .int p] t post :=
  x_Tokens_failAt hL ⟨fun _ => h, fun q => absurd h0 q⟩
theorem m_peekD (hL : Lay t ad) (h0 : ¬ t.2.1 (ad 4) 8 = 0) (h : post (some (.int 11)) t) : g_E cx (d + 1) i_Tokens_peek [.ref (ad 4)] t post :=
  x_Tokens_peek hL ⟨fun _ => x_Tokens_peek_133 hL ⟨fun _ => x_Tokens_peek_149 hL h, fun q => absurd h0 q⟩, fun q => absurd h0 q⟩
def tc2 (c k : Nat) : Bool := Nat.beq c 4 && Nat.beq k 2
theorem tp_skip : ∀ (m a : Nat) (t : gSt), n - a = m → a ≤ n → Lay t ad → txC ad T n t → t.2.1 (ad 4) 2 = nI a → (∀ u, gFr ad tc2 t u → u.2.1 (ad 4) 2 = nI (rn isB T n a) → g_W cx (g_E cx (d + 1)) mt_Tokens_peek post (58, [some (.ref (ad 4))], [], u, 0, 0)) → g_W cx (g_E cx (d + 1)) mt_Tokens_peek post (19, [some (.ref (ad 4))], [], t, 0, 0) := by
  intro m
  induction m with
  | zero =>
    intro a t hm ha hL hX h2 hK
    have han : a = n := by omega
    have hn := hX.1.1
    refine x_Tokens_peek_19 hL hX.2.1 ⟨fun _ => hK t (gFr.rf hL) ?_, fun q => ?_⟩
    · rw [rn_no (by rw [hX.1.2.2 a (by omega)]; rfl)]
      exact h2
    · rw [hX.2.2.1, h2, nI_leI (by omega) (by omega)] at q
      omega
  | succ m ih =>
    intro a t hm ha hL hX h2 hK
    have hn := hX.1.1
    refine x_Tokens_peek_19 hL hX.2.1 ⟨fun q => ?_, fun _ => ?_⟩
    · rw [hX.2.2.1, h2, nI_leI (by omega) (by omega)] at q
      omega
    · rw [h2, nI_clamp (by omega)]
      refine ⟨vp_in_nI (by omega) (by omega), m_isBlank hL (hX.2.2.2 a (by omega)) ⟨_, rfl, hL, fun q => ?_, fun q t3 e3 => ?_⟩⟩
      · rw [b32_0] at q
        refine hK t (gFr.rf hL) ?_
        rw [rn_no q]
        exact h2
      · rw [b32_0, Bool.not_eq_false] at q
        rw [h2, nI_1] at e3
        have F : gFr ad tc2 t t3 := by rw [e3]; exact (gFr.rf hL).si rfl
        refine ih (a + 1) t3 (by omega) (by omega) F.L (hX.fr F rfl rfl (fun _ => rfl)) (by rw [e3, g_rd_at]) (fun u Fu hu => hK u (F.tr Fu) ?_)
        rw [rn_yes q (by omega)]
        exact hu
end TC
