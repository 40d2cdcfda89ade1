/-! PUTTING FUNCTIONS WHERE THEY ARE CALLED: the class copies -/
theorem chF_at {ok : Nat → Bool} {par : Int32 → Nat} {bd : Nat → Fo} {bV : Nat → Nat} : ∀ (F : Fo) (nx : Nat) (B : Nat → Int32) (s : IS) (i : Nat) (k v : Int32), s.2.1 ≤ 120 → (fo_p F)[i]? = some (k, v) → (chF ok par bd bV F nx (B, s)).1 (nx + i) = -1 ∨ (k = 15 ∧ ok v.toNatClampNeg = true ∧ ∃ f0, f0 ≤ 120 ∧ (chF ok par bd bV F nx (B, s)).1 (nx + i) = nI f0)
  | .leaf, _, _, _, _, _, _, _, h => by cases h
  | .inner z k0 v0 a b, nx, B, s, i, k, v, hs, h => by
    have en : fo_n (.inner z k0 v0 a b) = fo_n a + 1 + fo_n b := rfl
    have ep : fo_p (.inner z k0 v0 a b) = (k0, v0) :: (fo_p a ++ fo_p b) := rfl
    rw [ep] at h
    obtain ⟨q, eq⟩ : ∃ q, chF ok par bd bV a (nx + 1) (B, s) = q := ⟨_, rfl⟩
    have hq : q.2.2.1 ≤ 120 := by
      rw [← eq, chF_s]
      exact inF_v a s hs
    rw [chF, eq]
    match i, h with
    | 0, h =>
      have h : k0 = k ∧ v0 = v := by simpa using h
      rw [chF_o b _ _ _ (by omega), Nat.add_zero]
      dsimp only
      rw [va_up_self]
      unfold iCho
      by_cases c : k0 = 15 ∧ iMay ok par bd bV v0.toNatClampNeg q.2 = true
      · rw [if_pos c]
        refine Or.inr ⟨by rw [← h.1]; exact c.1, ?_, q.2.2.1, hq, rfl⟩
        have := c.2
        unfold iMay at this
        rw [Bool.and_eq_true] at this
        rw [← h.2]
        exact this.1
      · rw [if_neg c]
        exact Or.inl rfl
    | i + 1, h =>
      rw [List.getElem?_cons_succ] at h
      by_cases c : i < (fo_p a).length
      · rw [List.getElem?_append_left c] at h
        rw [fo_pn] at c
        rw [chF_o b _ _ _ (by omega)]
        dsimp only
        rw [va_up_ne _ _ (by omega)]
        have := chF_at (ok := ok) (par := par) (bd := bd) (bV := bV) a (nx + 1) B s i k v hs h
        rw [eq, show nx + 1 + i = nx + (i + 1) by omega] at this
        exact this
      · rw [List.getElem?_append_right (by omega)] at h
        rw [fo_pn] at c h
        have hst : (iSt ok par bd bV k0 v0 q.2).2.1 ≤ 120 := by
          unfold iSt
          split
          · rename_i hh
            have hm := hh.2
            unfold iMay at hm
            rw [Bool.and_eq_true, Bool.and_eq_true, decide_eq_true_eq, decide_eq_true_eq] at hm
            unfold iNew
            exact hm.2.2
          · exact hq
        have := chF_at (ok := ok) (par := par) (bd := bd) (bV := bV) b (nx + 1 + fo_n a) (va_up q.1 nx (iCho ok par bd bV k0 v0 q.2)) (iSt ok par bd bV k0 v0 q.2) (i - fo_n a) k v hst h
        rw [show nx + 1 + fo_n a + (i - fo_n a) = nx + (i + 1) by omega] at this
        exact this
def shP (s : Nat) (q : Int32 × Int32) : Int32 × Int32 := (q.1, if q.1 = 2 ∨ q.1 = 14 then q.2 + nI s else q.2)
theorem fo_p_sh (s : Nat) : ∀ F : Fo, fo_p (fo_sh s F) = (fo_p F).map (shP s)
  | .leaf => rfl
  | .inner z k v a b => by
    simp only [fo_sh, fo_p, fo_p_sh s a, fo_p_sh s b, List.map_cons, List.map_append]
    rfl
def ipP (c k : Nat) : Bool := (Nat.ble 48 c && Nat.ble c 53) || Nat.beq c 108 || Nat.beq c 109 || (Nat.beq c 47 && Nat.beq k 9)
theorem ipP_in {c k : Nat} (h : ipP c k = true) : (48 ≤ c ∧ c ≤ 53) ∨ c = 108 ∨ c = 109 ∨ (c = 47 ∧ k = 9) := by
  unfold ipP at h
  simp only [Bool.or_eq_true, Bool.and_eq_true, Nat.ble_eq, Nat.beq_eq] at h
  omega
theorem ipP_r {c k : Nat} (h : ¬ ((48 ≤ c ∧ c ≤ 53) ∨ c = 108 ∨ c = 109 ∨ (c = 47 ∧ k = 9))) : ipP c k = false := by
  cases e : ipP c k with
  | false => rfl
  | true => exact absurd (ipP_in e) h
theorem ipP_t {c k : Nat} (h : (48 ≤ c ∧ c ≤ 53) ∨ c = 108 ∨ c = 109 ∨ (c = 47 ∧ k = 9)) : ipP c k = true := by
  unfold ipP
  simp only [Bool.or_eq_true, Bool.and_eq_true, Nat.ble_eq, Nat.beq_eq]
  omega
/-- what has been put: L, from place 500 * f on -/
def QP (t0 : gSt) (ad : Nat → Nat) (f : Nat) (L : List (Int32 × Int32)) (t : gSt) : Prop := gFr ad ipP t0 t ∧ t.2.1 (ad 47) 9 = nI (min (500 * f + L.length) 12000) ∧ (L.length ≤ 500 → t.2.1 (ad 108) = wr (t0.2.1 (ad 108)) (500 * f) (L.map (·.1)) ∧ t.2.1 (ad 109) = wr (t0.2.1 (ad 109)) (500 * f) (L.map (·.2)))
theorem QP.big {t0 t : gSt} {ad : Nat → Nat} {f : Nat} {L M : List (Int32 × Int32)} (h : QP t0 ad f L t) (e : L.length = M.length) (hl : 500 < L.length) : QP t0 ad f M t := ⟨h.1, by rw [← e]; exact h.2.1, fun c => by omega⟩
/-- only the output's rows and the place in them change -/
def ieP (c k : Nat) : Bool := Nat.beq c 108 || Nat.beq c 109 || (Nat.beq c 47 && Nat.beq k 9)
theorem ieP_r {c k : Nat} (h : ¬ (c = 108 ∨ c = 109 ∨ (c = 47 ∧ k = 9))) : ieP c k = false := by
  cases e : ieP c k with
  | false => rfl
  | true =>
    unfold ieP at e
    simp only [Bool.or_eq_true, Bool.and_eq_true, Nat.beq_eq] at e
    omega
theorem ieP_t {c k : Nat} (h : c = 108 ∨ c = 109 ∨ (c = 47 ∧ k = 9)) : ieP c k = true := by
  unfold ieP
  simp only [Bool.or_eq_true, Bool.and_eq_true, Nat.beq_eq]
  omega
section ID
variable {cx : gCx} {d : Nat} {ad : Nat → Nat} {t0 t : gSt} {post : Option Value → gSt → Prop} {f : Nat} {L : List (Int32 × Int32)}
theorem m_iemit {k v : Int32} (hf : f < 24) (hr : t.2.2.2 (ad 47) 3 = some (ad 96)) (hQ : QP t0 ad f L t) (h : ∀ u, gFr ad ieP t u → QP t0 ad f (L ++ [(k, v)]) u → post none u) : g_E cx (d + 1) i_Inliner_emit [.ref (ad 47), .int k, .int v] t post := by
  obtain ⟨F, q1, q2⟩ := hQ
  have hL := F.L
  have hlen : (Int32.ofNat (t.1.2.2 (ad 108))) = nI 12000 := by
    have := hL.pl2 (p := 96) (Or.inl rfl) 12 (by decide)
    rw [this]; rfl
  refine x_Inliner_emit hL hr ?_
  rw [hlen, q1, nI_leI (by omega) (by omega)]
  refine ⟨fun c => h t (gFr.rf hL) ⟨F, ?_, fun z => ?_⟩, fun c => ⟨vp_in_nI (by omega) (by omega), fun t1 e1 => ?_⟩⟩
  · rw [q1, List.length_append]
    congr 1
    omega
  · rw [List.length_append] at z
    simp only [List.length_cons, List.length_nil] at z
    omega
  · have n1 : ∀ c k, c ≠ 108 → c < 199 → t1.2.1 (ad c) k = t.2.1 (ad c) k := fun c k hc hl => by rw [e1, g_rd_ne (hL.ne c 108 hl (by decide) hc)]
    rw [n1 47 9 (by decide) (by decide), q1]
    refine ⟨vp_in_nI (by omega) (by omega), fun t2 e2 t3 e3 => ?_⟩
    rw [nI_clamp (by omega), show min (500 * f + L.length) 12000 = 500 * f + L.length by omega] at e1 e2
    have n2 : ∀ c k, c ≠ 108 → c ≠ 109 → c < 199 → t2.2.1 (ad c) k = t.2.1 (ad c) k := fun c k h1 h2 hl => by rw [e2, g_rd_ne (hL.ne c 109 hl (by decide) h2), n1 c k h1 hl]
    rw [n2 47 9 (by decide) (by decide) (by decide), q1, nI_1] at e3
    have F3 : gFr ad ieP t t3 := by rw [e3, e2, e1]; exact (((gFr.rf hL).si (ieP_t (by omega))).si (ieP_t (by omega))).si (ieP_t (by omega))
    refine h t3 F3 ⟨F.tr (F3.mo (fun c k q => ipP_t (by
      unfold ieP at q
      simp only [Bool.or_eq_true, Bool.and_eq_true, Nat.beq_eq] at q
      omega))), ?_, fun z => ?_⟩
    · rw [e3, g_rd_at, List.length_append]
      congr 1
      simp only [List.length_cons, List.length_nil]
      omega
    · rw [List.length_append] at z
      simp only [List.length_cons, List.length_nil] at z
      obtain ⟨r1, r2⟩ := q2 (by omega)
      have l1 : (L.map (·.1)).length = L.length := List.length_map ..
      have l2 : (L.map (·.2)).length = L.length := List.length_map ..
      refine ⟨?_, ?_⟩
      · rw [e3, g_si_ne (hL.ne 108 47 (by decide) (by decide) (by decide)), e2, g_si_ne (hL.ne 108 109 (by decide) (by decide) (by decide)), e1, g_si_at, r1, List.map_append, ← wr_app, l1, wr_one]
        rfl
      · rw [e3, g_si_ne (hL.ne 109 47 (by decide) (by decide) (by decide)), e2, g_si_at, e1, g_si_ne (hL.ne 109 108 (by decide) (by decide) (by decide)), r2, List.map_append, ← wr_app, l2, wr_one]
        rfl
theorem m_iemitBody {g s : Nat} {B : Fo} (hf : f < 24) (hg : g < 24) (hgf : g ≠ f) (hr : t.2.2.2 (ad 47) 3 = some (ad 96)) (h100 : t.2.1 (ad 100) g = nI (500 * g)) (h101 : t.2.1 (ad 101) g = nI (fo_n B)) (hB5 : fo_n B ≤ 500) (hrw : rows (t0.2.1 (ad 108)) (t0.2.1 (ad 109)) (500 * g) (fo_p B)) (hQ : QP t0 ad f L t) (h : ∀ u, gFr ad ieP t u → QP t0 ad f (L ++ fo_p (fo_sh s B)) u → post none u) : g_E cx (d + 2) i_Inliner_emitBody [.ref (ad 47), .int (nI g), .int (nI s)] t post := by
  have hvg := vp_in_nI (N := 24) hg (by omega)
  refine x_Inliner_emitBody hQ.1.L hr ?_
  rw [nI_clamp (by omega), h100, h101, nI_add]
  refine ⟨hvg, hvg, fun x1 e1 => ⟨hvg, fun x2 e2 => ?_⟩⟩
  subst e1 e2
  have loop : ∀ m i (u : gSt) (o : Option Value), m + i = fo_n B → gFr ad ieP t u → QP t0 ad f (L ++ ((fo_p B).take i).map (shP s)) u → g_W cx (g_E cx (d + 1)) mt_Inliner_emitBody post (31, [some (.ref (ad 47)), some (.int (nI g)), some (.int (nI s)), some (.int (nI (500 * g + fo_n B))), some (.int (nI (500 * g + i))), o], [], u, 0, 0) := by
    intro m
    induction m with
    | zero =>
      intro i u o hi hF hq
      have hru : u.2.2.2 (ad 47) 3 = some (ad 96) := by rw [hF.r 47 3 (ieP_r (by omega))]; exact hr
      refine x_Inliner_emitBody_31 hq.1.L hru ⟨fun _ => h u hF ?_, fun z => absurd (nI_le (by omega) (by omega)) z⟩
      rw [List.take_of_length_le (by rw [fo_pn]; omega), ← fo_p_sh] at hq
      exact hq
    | succ m ih =>
      intro i u o hi hF hq
      have hru : u.2.2.2 (ad 47) 3 = some (ad 96) := by rw [hF.r 47 3 (ieP_r (by omega))]; exact hr
      have hil : i < (fo_p B).length := by rw [fo_pn]; omega
      obtain ⟨q, hq0⟩ : ∃ q, (fo_p B)[i]? = some q := ⟨_, List.getElem?_eq_getElem hil⟩
      obtain ⟨r1, r2⟩ := hrw i q hq0
      have hv := vp_in_nI (n := 500 * g + i) (N := 12000) (by omega) (by omega)
      have ll : (L ++ ((fo_p B).take i).map (shP s)).length = L.length + i := by
        rw [List.length_append, List.length_map, List.length_take]
        omega
      have etake : (L ++ ((fo_p B).take (i + 1)).map (shP s)) = (L ++ ((fo_p B).take i).map (shP s)) ++ [shP s q] := by
        rw [List.take_add_one, hq0]
        simp
      -- go on with whatever has been put
      have next : ∀ (u2 : gSt) (k2 v2 : Int32) (o2 : Option Value), gFr ad ieP u u2 → QP t0 ad f ((L ++ ((fo_p B).take i).map (shP s)) ++ [(k2, v2)]) u2 → (L.length + i ≤ 500 → (k2, v2) = shP s q) → g_W cx (g_E cx (d + 1)) mt_Inliner_emitBody post (31, [some (.ref (ad 47)), some (.int (nI g)), some (.int (nI s)), some (.int (nI (500 * g + fo_n B))), some (.int (nI (500 * g + (i + 1)))), o2], [], u2, 0, 0) := by
        intro u2 k2 v2 o2 F2 Q2 e2
        refine ih (i + 1) u2 o2 (by omega) (hF.tr F2) ?_
        rw [etake]
        by_cases c : L.length + i ≤ 500
        · rw [← e2 c]; exact Q2
        · refine Q2.big ?_ ?_
          · simp
          · rw [List.length_append, ll]
            simp
            omega
      obtain ⟨kk, ekk⟩ : ∃ kk, u.2.1 (ad 108) (500 * g + i) = kk := ⟨_, rfl⟩
      obtain ⟨vv, evv⟩ : ∃ vv, u.2.1 (ad 109) (500 * g + i) = vv := ⟨_, rfl⟩
      have known : L.length + i ≤ 500 → kk = q.1 ∧ vv = q.2 := fun c => by
        obtain ⟨w1, w2⟩ := hq.2.2 (by rw [ll]; exact c)
        have side : ∀ (Z : Nat → Int32) (l : List Int32), l.length = L.length + i → wr Z (500 * f) l (500 * g + i) = Z (500 * g + i) := fun Z l hl => by
          unfold wr
          split
          · rw [List.getElem?_eq_none (by
              rw [hl]
              have : g < f ∨ f < g := by omega
              rcases this with z | z
              · have : 500 * g + 500 ≤ 500 * f := by omega
                omega
              · have : 500 * f + 500 ≤ 500 * g := by omega
                omega)]
            rfl
          · rfl
        rw [← ekk, ← evv, w1, w2, side _ _ (by rw [List.length_map]; exact ll), side _ _ (by rw [List.length_map]; exact ll)]
        exact ⟨r1, r2⟩
      refine x_Inliner_emitBody_31 hq.1.L hru ?_
      rw [nI_clamp (by omega), ekk, evv, show nI (500 * g + i) + 1 = nI (500 * g + (i + 1)) by rw [nI_1, Nat.add_assoc]]
      refine ⟨fun z => absurd z (nI_ge (by omega) (by omega)), fun _ => ⟨hv, fun c2 => ⟨hv, hv, m_iemit hf hru hq (fun u2 F2 Q2 => ⟨rfl, F2.L, next u2 _ _ _ F2 Q2 (fun c => ?_)⟩)⟩, fun c2 => ⟨hv, fun c14 => ⟨hv, hv, m_iemit hf hru hq (fun u2 F2 Q2 => ⟨rfl, F2.L, next u2 _ _ _ F2 Q2 (fun c => ?_)⟩)⟩, fun c14 => ⟨hv, hv, m_iemit hf hru hq (fun u2 F2 Q2 => ⟨rfl, F2.L, next u2 _ _ _ F2 Q2 (fun c => ?_)⟩)⟩⟩⟩⟩
      · obtain ⟨z1, z2⟩ := known c
        unfold shP
        rw [← z1, ← z2, if_pos (Or.inl c2)]
      · obtain ⟨z1, z2⟩ := known c
        unfold shP
        rw [← z1, ← z2, if_neg (fun z => z.elim c2 c14)]
      · obtain ⟨z1, z2⟩ := known c
        unfold shP
        rw [← z1, ← z2, if_pos (Or.inr (Classical.not_not.mp c14))]
  have := loop (fo_n B) 0 t none (by omega) (gFr.rf hQ.1.L) (by simpa using hQ)
  rw [Nat.add_zero] at this
  exact this
end ID
