/-! THE GRAPH: the model's rows of who calls whom -/
/-- in postfix order -/
def fo_q : Fo → List (Int32 × Int32)
  | .inner _ k v a b => fo_q a ++ (k, v) :: fo_q b
  | .leaf => []
theorem fo_qn : ∀ F : Fo, (fo_q F).length = fo_n F
  | .inner _ _ _ a b => by
    simp only [fo_q, fo_n, List.length_cons, List.length_append, fo_qn a, fo_qn b]
    omega
  | .leaf => rfl
theorem fo_qm {K A B C G : Nat → Int32} {N : Nat} {ix : Nat → Nat} : ∀ (F : Fo) (o : Nat), fo_m K A B C G N ix F o → ∀ i q, (fo_q F)[i]? = some q → K (ix (o + i)) = q.1 ∧ (q.1 = 15 → C (ix (o + i)) = q.2)
  | .inner z k v a b, o, h, i, q, hq => by
    obtain ⟨ma, mk, mb⟩ := h
    have hl := fo_qn a
    unfold fo_q at hq
    by_cases h1 : i < fo_n a
    · rw [List.getElem?_append_left (by omega)] at hq
      exact fo_qm a o ma i q hq
    · rw [List.getElem?_append_right (by omega), hl] at hq
      by_cases h2 : i = fo_n a
      · rw [h2, Nat.sub_self] at hq
        have : (k, v) = q := by simpa using hq
        subst this
        rw [h2]
        exact ⟨mk.1, fun e => (mk.2.2.1 e).1⟩
      · obtain ⟨j, hj⟩ : ∃ j, i - fo_n a = j + 1 := ⟨i - fo_n a - 1, by omega⟩
        rw [hj, List.getElem?_cons_succ] at hq
        have := fo_qm b _ mb j q hq
        rw [show o + fo_n a + 1 + j = o + i by omega] at this
        exact this
  | .leaf, _, _, i, q, hq => by cases hq
/-- a node of kind 15 tells a function that is there -/
theorem fo_qg {n : Nat} {par : Int32 → Nat} {C : Int32 → Int32 → Prop} : ∀ F : Fo, fo_v n par C F → ∀ q ∈ fo_q F, q.1 = 15 → ∃ g, q.2 = nI g ∧ g < n
  | .inner _ k v a b, h, q, hq, e => by
    obtain ⟨⟨_, _, v3, _⟩, va, vb⟩ := h
    unfold fo_q at hq
    rcases List.mem_append.mp hq with hq | hq
    · exact fo_qg a va q hq e
    · rcases List.mem_cons.mp hq with rfl | hq
      · exact v3 e
      · exact fo_qg b vb q hq e
  | .leaf, _, q, hq, _ => by cases hq
def dirL (l : List (Int32 × Int32)) (g : Nat) : Bool := decide ((15, nI g) ∈ l)
section MG
variable {cx : gCx} {d : Nat} {ad : Nat → Nat} {t : gSt} {post : Option Value → gSt → Prop} {n : Nat} {bo : Nat → Fo}
def mgP (c k : Nat) : Bool := (Nat.ble 171 c && Nat.ble c 176) || (Nat.beq c 144 && Nat.beq k 50)
theorem mgP_in {c k : Nat} (h : mgP c k = true) : (171 ≤ c ∧ c ≤ 176) ∨ (c = 144 ∧ k = 50) := by
  unfold mgP at h
  simp only [Bool.or_eq_true, Bool.and_eq_true, Nat.ble_eq, Nat.beq_eq] at h
  omega
theorem mgP_r {c k : Nat} (h : ¬ ((171 ≤ c ∧ c ≤ 176) ∨ (c = 144 ∧ k = 50))) : mgP c k = false := by
  cases e : mgP c k with
  | false => rfl
  | true => exact absurd (mgP_in e) h
theorem mgP_t {c k : Nat} (h : (171 ≤ c ∧ c ≤ 176) ∨ (c = 144 ∧ k = 50)) : mgP c k = true := by
  unfold mgP
  simp only [Bool.or_eq_true, Bool.and_eq_true, Nat.ble_eq, Nat.beq_eq]
  omega
/-- the nodes of function g in the model's rows -/
def nodR (t : gSt) (ad : Nat → Nat) (g : Nat) (l : List (Int32 × Int32)) : Prop := t.2.1 (ad 148) g = nI l.length ∧ l.length ≤ 1300 ∧ (∀ (i : Nat) (q : Int32 × Int32), l[i]? = some q → t.2.1 (ad 151) (1300 * g + i) = q.1 ∧ (q.1 = 15 → t.2.1 (ad 154) (1300 * g + i) = q.2))
theorem nar_b (b : Bool) : vp_nar .boolean (b32 b) = b32 b := by cases b <;> decide
theorem m_close {R : Nat → Nat → Bool} (hL : Lay t ad) (hn : n ≤ 24) (hf : t.2.1 (ad 144) 11 = nI n) {o2 o3 : Option Value} (hR : ∀ f g, f < n → g < n → t.2.1 (ad 171) (24 * f + g) = b32 (R f g)) (h : ∀ u o2' o3', gFr ad mgP t u → (∀ c k, c ≠ 171 → c ≠ 144 → c < 199 → u.2.1 (ad c) k = t.2.1 (ad c) k) → u.2.1 (ad 144) 50 = 0 → (∀ f g, f < n → g < n → u.2.1 (ad 171) (24 * f + g) = b32 (clF R n f g)) → g_W cx (g_E cx d) mt_Mo_findGraph post (243, [some (.ref (ad 144)), some (.int 0), o2', o3'], [], u, 0, 0)) : g_W cx (g_E cx d) mt_Mo_findGraph post (132, [some (.ref (ad 144)), some (.int (nI 0)), o2, o3], [], t, 0, 0) := by
  have outer : ∀ k m (u : gSt) (o2 o3 : Option Value), k + m = n → gFr ad mgP t u → (∀ c k, c ≠ 171 → c < 199 → u.2.1 (ad c) k = t.2.1 (ad c) k) → (∀ f g, f < n → g < n → u.2.1 (ad 171) (24 * f + g) = b32 (clF R m f g)) → g_W cx (g_E cx d) mt_Mo_findGraph post (132, [some (.ref (ad 144)), some (.int (nI m)), o2, o3], [], u, 0, 0) := by
    intro k
    induction k with
    | zero =>
      intro m u o2 o3 hk hF ho hu
      have hm : m = n := by omega
      subst hm
      refine x_Mo_findGraph_132 hF.L ?_
      rw [ho 144 11 (by decide) (by decide), hf]
      refine ⟨fun _ t1 e1 => ?_, fun z => absurd (nI_le (Nat.le_refl _) (by omega)) z⟩
      refine h t1 _ _ (by rw [e1]; exact hF.si (mgP_t (by omega))) (fun c k h1 h4 hl => by rw [e1, g_rd_ne (hL.ne c 144 hl (by decide) h4), ho c k h1 hl]) (by rw [e1, g_rd_at]) (fun f g hf hg => ?_)
      rw [e1, g_rd_ne (hL.ne 171 144 (by decide) (by decide) (by decide))]
      exact hu f g hf hg
    | succ k ih =>
      intro m u o2 o3 hk hF ho hu
      refine x_Mo_findGraph_132 hF.L ?_
      rw [ho 144 11 (by decide) (by decide), hf]
      refine ⟨fun z => absurd z (nI_ge (by omega) (by omega)), fun _ => ?_⟩
      -- pairs (a, b) before (i, j) are done
      have mid : ∀ j i (w : gSt) (o3 : Option Value), j + i = n → gFr ad mgP t w → (∀ c k, c ≠ 171 → c < 199 → w.2.1 (ad c) k = t.2.1 (ad c) k) → (∀ f g, f < n → g < n → w.2.1 (ad 171) (24 * f + g) = b32 (if f < i then clS (clF R m) m f g else clF R m f g)) → g_W cx (g_E cx d) mt_Mo_findGraph post (142, [some (.ref (ad 144)), some (.int (nI m)), some (.int (nI i)), o3], [], w, 0, 0) := by
        intro j
        induction j with
        | zero =>
          intro i w o3 hj hW hoW hw
          refine x_Mo_findGraph_142 hW.L ?_
          rw [hoW 144 11 (by decide) (by decide), hf, nI_1]
          refine ⟨fun _ => ih (m + 1) w _ _ (by omega) hW hoW (fun f g hf hg => ?_), fun z => absurd (nI_le (by omega) (by omega)) z⟩
          rw [hw f g hf hg, if_pos (by omega)]
          rfl
        | succ j ihj =>
          intro i w o3 hj hW hoW hw
          refine x_Mo_findGraph_142 hW.L ?_
          rw [hoW 144 11 (by decide) (by decide), hf]
          refine ⟨fun z => absurd z (nI_ge (by omega) (by omega)), fun _ => ?_⟩
          have inn : ∀ e b (y : gSt), e + b = n → gFr ad mgP t y → (∀ c k, c ≠ 171 → c < 199 → y.2.1 (ad c) k = t.2.1 (ad c) k) → (∀ f g, f < n → g < n → y.2.1 (ad 171) (24 * f + g) = b32 (if f < i ∨ (f = i ∧ g < b) then clS (clF R m) m f g else clF R m f g)) → g_W cx (g_E cx d) mt_Mo_findGraph post (152, [some (.ref (ad 144)), some (.int (nI m)), some (.int (nI i)), some (.int (nI b))], [], y, 0, 0) := by
            intro e
            induction e with
            | zero =>
              intro b y he hY hoY hy
              refine x_Mo_findGraph_152 hY.L ?_
              rw [hoY 144 11 (by decide) (by decide), hf, nI_1]
              refine ⟨fun _ => ihj (i + 1) y _ (by omega) hY hoY (fun f g hf hg => ?_), fun z => absurd (nI_le (by omega) (by omega)) z⟩
              rw [hy f g hf hg]
              congr 1
              by_cases c : f < i + 1
              · rw [if_pos c, if_pos (by omega)]
              · rw [if_neg c, if_neg (by omega)]
            | succ e ihe =>
              intro b y he hY hoY hy
              have ixf : ∀ f g : Nat, (24 : Int32) * nI f + nI g = nI (24 * f + g) := fun f g => by rw [show (24 : Int32) = nI 24 from rfl, nI_mul, nI_add]
              have vv : ∀ f g, f < n → g < n → vp_in (nI (24 * f + g)) 576 := fun f g hf hg => vp_in_nI (by omega) (by omega)
              have rd : ∀ f g, f < n → g < n → y.2.1 (ad 171) (nI (24 * f + g)).toNatClampNeg = b32 (if f < i ∨ (f = i ∧ g < b) then clS (clF R m) m f g else clF R m f g) := fun f g hf hg => by rw [nI_clamp (by omega)]; exact hy f g hf hg
              -- the new value of (i, b)
              have e1 : (if i < i ∨ (i = i ∧ b < b) then clS (clF R m) m i b else clF R m i b) = clF R m i b := if_neg (by omega)
              have e2 : (if i < i ∨ (i = i ∧ m < b) then clS (clF R m) m i m else clF R m i m) = clF R m i m := by
                split
                · unfold clS
                  cases clF R m i m <;> rfl
                · rfl
              have e3 : (if m < i ∨ (m = i ∧ b < b) then clS (clF R m) m m b else clF R m m b) = clF R m m b := by
                split
                · exact clS_m
                · rfl
              have wr : ∀ (v : Bool) (t1 : gSt), v = clS (clF R m) m i b → t1 = g_si y (ad 171) (nI (24 * i + b)).toNatClampNeg (vp_nar .boolean (b32 v)) → g_W cx (g_E cx d) mt_Mo_findGraph post (152, [some (.ref (ad 144)), some (.int (nI m)), some (.int (nI i)), some (.int (nI (b + 1)))], [], t1, 0, 0) := by
                intro v t1 hv et
                rw [nI_clamp (by omega), nar_b] at et
                refine ihe (b + 1) t1 (by omega) (by rw [et]; exact hY.si (mgP_t (by omega))) (fun c k hc hl => by rw [et, g_rd_ne (hL.ne c 171 hl (by decide) hc), hoY c k hc hl]) (fun f g hf hg => ?_)
                rw [et]
                by_cases c : f = i ∧ g = b
                · obtain ⟨rfl, rfl⟩ := c
                  rw [g_rd_at, if_pos (by omega), hv]
                · rw [g_rd_k (by omega), hy f g hf hg]
                  congr 1
                  by_cases c2 : f < i ∨ (f = i ∧ g < b)
                  · rw [if_pos c2, if_pos (by omega)]
                  · rw [if_neg c2, if_neg (by omega)]
              refine x_Mo_findGraph_152 hY.L ?_
              rw [hoY 144 11 (by decide) (by decide), hf, ixf, ixf, ixf, nI_1 b, rd i b (by omega) (by omega), rd i m (by omega) (by omega), rd m b (by omega) (by omega), e1, e2, e3]
              have vib := vv i b (by omega) (by omega)
              have vim := vv i m (by omega) (by omega)
              have vmb := vv m b (by omega) (by omega)
              have tr : ∀ x : Bool, ¬ b32 x = 0 → x = true := fun x hx => by cases x; exact absurd rfl hx; rfl
              refine ⟨fun z => absurd z (nI_ge (by omega) (by omega)), fun _ => ⟨vib, fun c1 => ⟨vib, fun t1 et => wr true t1 ?_ et⟩, fun c1 => ⟨vim, fun c2 => ⟨vib, fun t1 et => wr false t1 ?_ et⟩, fun c2 => ⟨vmb, fun c3 => ⟨vib, fun t1 et => wr false t1 ?_ et⟩, fun c3 => ⟨vib, fun t1 et => wr true t1 ?_ et⟩⟩⟩⟩⟩
              · unfold clS
                rw [tr _ c1]; rfl
              · unfold clS
                rw [b32_0.mp (Classical.not_not.mp c1), b32_0.mp c2]; rfl
              · unfold clS
                rw [b32_0.mp (Classical.not_not.mp c1), b32_0.mp c3, Bool.and_false]; rfl
              · unfold clS
                rw [tr _ c2, tr _ c3]; simp
          exact inn n 0 w (by omega) hW hoW (fun f g hf hg => by
            rw [hw f g hf hg]
            congr 1
            by_cases c : f < i
            · rw [if_pos c, if_pos (by omega)]
            · rw [if_neg c, if_neg (by omega)])
      exact mid n 0 u _ (by omega) hF ho (fun f g hf hg => by rw [if_neg (by omega)]; exact hu f g hf hg)
  exact outer n 0 t _ _ (by omega) (gFr.rf hL) (fun _ _ _ _ => rfl) hR
end MG
