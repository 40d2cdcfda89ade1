/-! PAIR: write -/
theorem dgs_128 (f n : Nat) : ∀ c ∈ dgs f n, c < 128 := fun c h => by have := dgs_lt f n c h; omega
theorem op_c {nm : Int32 → List Nat} (hnm : ∀ v, ∀ c ∈ nm v, c < 128) (k v : Int32) : ∀ c ∈ op_t nm k v, c < 128 := by
  intro c hc
  have hd := dgs_128 10 v.toInt.natAbs c
  have h1 : ∀ c ∈ num_t v, c < 128 := by
    intro c hc
    have hd := dgs_128 10 v.toInt.natAbs c
    unfold num_t at hc
    split at hc
    · simp only [List.mem_append, List.mem_cons, List.not_mem_nil, or_false] at hc
      rcases hc with ((rfl | rfl) | hc) | rfl
      · decide
      · decide
      · exact hd hc
      · decide
    · exact hd hc
  have h2 : ∀ c ∈ var_t v, c < 128 := by
    intro c hc
    unfold var_t at hc
    rcases List.mem_cons.mp hc with rfl | hc
    · decide
    · exact dgs_128 _ _ c hc
  unfold op_t at hc
  repeat' split at hc
  · exact h1 c hc
  · exact h2 c hc
  · simp at hc; omega
  · simp at hc; omega
  · simp at hc; omega
  · rw [List.mem_append, List.mem_append] at hc
    rcases hc with (hc | hc) | hc
    · simp at hc; omega
    · exact h2 c hc
    · simp at hc; omega
  · rw [List.mem_append] at hc
    rcases hc with hc | hc
    · exact hnm v c hc
    · simp at hc; omega
  · simp at hc; omega
theorem cl_c (k : Int32) : ∀ c ∈ cl_t k, c < 128 := by
  intro c hc
  unfold cl_t at hc
  split at hc <;> simp at hc
  omega
theorem se_c (k : Int32) (i m : Nat) : ∀ c ∈ se_t k i m, c < 128 := by
  intro c hc
  unfold se_t ch_t at hc
  repeat' split at hc
  all_goals (simp at hc; try omega)
theorem fo_tc {nm : Int32 → List Nat} (hnm : ∀ v, ∀ c ∈ nm v, c < 128) : ∀ (F : Fo) (pk : Int32) (i m : Nat), ∀ c ∈ fo_t nm F pk i m, c < 128
  | .inner _ k v a b, pk, i, m, c, hc => by
    simp only [fo_t, List.mem_append] at hc
    rcases hc with (((hc | hc) | hc) | hc) | hc
    · exact op_c hnm k v c hc
    · exact fo_tc hnm a _ _ _ c hc
    · exact cl_c k c hc
    · exact se_c pk i m c hc
    · exact fo_tc hnm b _ _ _ c hc
  | .leaf, _, _, _, c, hc => by simp [fo_t] at hc
theorem tr_fo {nm : Int32 → List Nat} {F : Fo} (h : fo_l F = 1) : fo_t nm F 10 0 1 = tr_t nm F ∧ ∃ r, fo_r F 0 = [r] ∧ r + 1 = fo_n F := by
  match F, h with
  | .inner z k v a b, h =>
    match b, h with
    | .leaf, _ => exact ⟨by simp [fo_t, tr_t, se_t], fo_n a, by simp [fo_r], by simp [fo_n]⟩
    | .inner _ _ _ _ _, h => exact absurd h (by simp [fo_l])
theorem by2_nar : ∀ x, x < 128 → vp_nar .byte (nI x) = nI x ∧ nI x &&& 255 = nI x := by decide +kernel
/-- places of the model that its writer changes -/
def moW (c k : Nat) : Bool := (Nat.ble 159 c && Nat.ble c 161) || Nat.beq c 190 || Nat.beq c 191 || (Nat.beq c 144 && (Nat.beq k 0 || Nat.beq k 29 || Nat.beq k 73 || Nat.beq k 71))
theorem moW_mw {c k : Nat} (h : mwP c k = true) : moW c k = true := by
  unfold mwP tkP puP at h
  unfold moW
  revert h
  cases (Nat.ble 159 c && Nat.ble c 161) <;> cases Nat.beq c 191 <;> cases Nat.beq c 144 <;> cases Nat.beq k 29 <;> cases Nat.beq k 73 <;> simp
section PW
variable {cx : gCx} {d : Nat} {ad : Nat → Nat} {t : gSt} {post : Option Value → gSt → Prop} {nm : Int32 → List Nat} {par : Int32 → Nat}
/-- the model's copy of the draft -/
theorem m_copyOut {l : List Nat} {a b c : Int32} (hl : l.length ≤ 6000) (hc : ∀ x ∈ l, x < 128) (hL : Lay t ad) (hQ : Qm ad l t) (h : ∀ u, gFr ad moW t u → u.2.1 (ad 144) 71 = nI l.length → (∀ j x, l[j]? = some x → u.2.1 (ad 190) j = nI x) → post (some (.int (nI l.length))) u) : g_W cx (g_E cx (d + 4)) mt_Mo_write post (131, [some (.ref (ad 144)), some (.int a), some (.int b), some (.int c), some (.int 0)], [], t, 0, 0) := by
  have loop : ∀ m k (u : gSt), m + k = l.length → gFr ad moW t u → Qm ad l u → (∀ j x, j < k → l[j]? = some x → u.2.1 (ad 190) j = nI x) → g_W cx (g_E cx (d + 4)) mt_Mo_write post (131, [some (.ref (ad 144)), some (.int a), some (.int b), some (.int c), some (.int (nI k))], [], u, 0, 0) := by
    intro m
    induction m with
    | zero =>
      intro k u hk hF hq hj
      refine x_Mo_write_131 hF.L ⟨fun _ t1 e1 => ?_, fun z => ?_⟩
      · rw [hq.1] at e1
        have e71 : t1.2.1 (ad 144) 71 = nI l.length := by rw [e1, g_rd_at]
        rw [e71]
        refine h t1 (by rw [e1]; exact hF.si rfl) e71 (fun j x hx => ?_)
        rw [e1, g_rd_ne (hF.L.ne 190 144 (by decide) (by decide) (by decide))]
        exact hj j x (by have := (List.getElem?_eq_some_iff.mp hx).1; omega) hx
      · rw [hq.1] at z
        exact absurd (nI_le (by omega) (by omega)) z
    | succ m ih =>
      intro k u hk hF hq hj
      refine x_Mo_write_131 hF.L ⟨fun z => ?_, fun _ => ⟨vp_in_nI (by omega) (by omega), vp_in_nI (by omega) (by omega), fun t2 e2 => ?_⟩⟩
      · rw [hq.1] at z
        exact absurd z (nI_ge (by omega) (by omega))
      · have hkl : k < l.length := by omega
        have e3 := hq.2 k l[k] (List.getElem?_eq_getElem hkl) (by omega)
        rw [nI_clamp (by omega), e3, (by2_nar _ (hc _ (List.getElem_mem hkl))).1] at e2
        rw [nI_1]
        refine ih (k + 1) t2 (by omega) (by rw [e2]; exact hF.si rfl) ⟨?_, fun j x hx h6 => ?_⟩ (fun j x hjk hx => ?_)
        · rw [e2, g_rd_ne (hF.L.ne 144 190 (by decide) (by decide) (by decide))]; exact hq.1
        · rw [e2, g_rd_ne (hF.L.ne 191 190 (by decide) (by decide) (by decide))]; exact hq.2 j x hx h6
        · rw [e2]
          by_cases ej : j = k
          · subst ej
            rw [g_rd_at]
            rw [List.getElem?_eq_getElem hkl] at hx
            rw [Option.some.inj hx]
          · rw [g_rd_k ej]
            exact hj j x (by omega) hx
  exact loop l.length 0 t (by omega) (gFr.rf hL) hQ (fun j x hj => by omega)
/-- the model's write, behind the question whether there is such a function -/
theorem m_Mo_write {F : Fo} {x n N fN : Nat} {w g : Int32} (hL : Lay t ad) (hfn : t.2.1 (ad 144) 11 = nI fN) (hfN : fN ≤ 24) (hok : ¬ ((w < 0 ∨ nI 1 < w) ∨ (g < 0 ∨ nI fN ≤ g))) (hxe : (24 : Int32) * w + g = nI x) (hx : x < 48) (h148 : t.2.1 (ad 148) x = nI (fo_n F)) (hN : N ≤ 1300) (hpar : ∀ v, par v ≤ 24) (hnm8 : ∀ v, (nm v).length ≤ 8) (hnmc : ∀ v, ∀ c ∈ nm v, c < 128) (hg : ∀ g, g < n → g < 24 ∧ t.2.2.1 (ad 146) g = pk6 (nm (nI g)) ∧ nm_ok (nm (nI g))) (hm : fo_m (fun i => t.2.1 (ad 151) (1300 * x + i)) (fun i => t.2.1 (ad 152) (1300 * x + i)) (fun i => t.2.1 (ad 153) (1300 * x + i)) (fun i => t.2.1 (ad 154) (1300 * x + i)) (fun i => t.2.1 (ad 155) (1300 * x + i)) N id F 0) (hv : fo_v n par vC F) (h1 : fo_l F = 1) (hn5 : fo_n F ≤ 500)
    (hA : ∀ u, gFr ad moW t u → 6000 < (tr_t nm F).length → u.2.1 (ad 144) 71 = t.2.1 (ad 144) 71 → (∀ j, u.2.1 (ad 190) j = t.2.1 (ad 190) j) → post (some (.int (-4))) u)
    (hB : ∀ u, gFr ad moW t u → (tr_t nm F).length ≤ 6000 → u.2.1 (ad 144) 71 = nI (tr_t nm F).length → (∀ j c, (tr_t nm F)[j]? = some c → u.2.1 (ad 190) j = nI c) → post (some (.int (nI (tr_t nm F).length))) u) : g_E cx (d + 5) i_Mo_write [.ref (ad 144), .int w, .int g] t post := by
  have hL1 : Lay (g_si t (ad 144) 0 0) ad := hL.si
  obtain ⟨etr, r, er, hrn⟩ := tr_fo (nm := nm) h1
  refine x_Mo_write hL (fun t1 e1 => ?_)
  subst e1
  refine m_noFunction (n := fN) (by omega) hL1 (by rw [g_rd_k (by decide)]; exact hfn) ?_
  rw [if_neg hok]
  refine ⟨_, rfl, hL1, fun _ x4 e4 t5 e5 t6 e6 => ?_, fun q => absurd rfl q⟩
  rw [hxe] at e4
  subst e4
  have F6 : gFr ad moW t t6 := by
    rw [e6, e5]
    exact (((gFr.rf hL).si (c := 144) (k := 0) rfl).si rfl).si rfl
  have i6 : ∀ c k, c < 199 → c ≠ 144 → t6.2.1 (ad c) k = t.2.1 (ad c) k := fun c k hc hn => by
    rw [e6, g_rd_ne (hL.ne c 144 hc (by decide) hn), e5, g_rd_ne (hL.ne c 144 hc (by decide) hn), g_rd_ne (hL.ne c 144 hc (by decide) hn)]
  have j6 : ∀ c k, t6.2.2.1 (ad c) k = t.2.2.1 (ad c) k := fun c k => by rw [e6, e5]; rfl
  have b71 : t6.2.1 (ad 144) 71 = t.2.1 (ad 144) 71 := by rw [e6, g_rd_k (by decide), e5, g_rd_k (by decide), g_rd_k (by decide)]
  have R6 : RT ad [] t6 := ⟨by rw [e6, g_rd_at]; rfl, fun i q hq => by cases hq⟩
  have Q6 : Qm ad [] t6 := ⟨by rw [e6, g_rd_k (by decide), e5, g_rd_at]; rfl, fun j c hj => by cases hj⟩
  rw [nI_clamp (by omega), i6 148 _ (by decide) (by decide), h148]
  refine ⟨vp_in_nI (by omega) (by omega), ?_⟩
  have er1 : nI (fo_n F) - 1 = nI r := by rw [← hrn, nI_pred]
  rw [er1]
  refine m_pushW (t0 := t6) (gFr.rf F6.L) R6 Q6 (by decide) (fun u7 F7 R7 q7 => ⟨rfl, F7.L, ?_⟩)
  have tl := fo_tl hnm8 F 10 0 1
  rw [etr] at tl
  refine w_visit (t0 := t6) (n := n) (nm := nm) (par := par) (N := N) (by omega) hN hpar hnm8 (fun g hgn => by rw [j6]; exact hg g hgn) F 0 10 0 0 1 [] [] u7 ?_ hv (by omega) rfl (by omega) ⟨10, by decide, by decide, rfl⟩ F7 ?_ q7 (by simp; omega) (by simp; omega) (fun u F8 R8 q8 => ?_)
  · have e : ∀ c, 151 ≤ c → c ≤ 155 → (fun i => t6.2.1 (ad c) (1300 * x + i)) = (fun i => t.2.1 (ad c) (1300 * x + i)) := fun c h1 h2 => funext (fun i => i6 c _ (by omega) (by omega))
    rw [e 151 (by decide) (by decide), e 152 (by decide) (by decide), e 153 (by decide) (by decide), e 154 (by decide) (by decide), e 155 (by decide) (by decide)]
    exact hm
  · rw [er]
    simpa [ktr] using R7
  · rw [etr, List.nil_append] at q8
    have FU : gFr ad moW t u := F6.tr (F8.mo (fun c k q => moW_mw q))
    have t0 : u.2.1 (ad 144) 29 = nI 0 := R8.1
    refine x_Mo_write_48 F8.L ⟨fun _ => ?_, fun z => absurd (by rw [t0]; decide) z⟩
    rw [q8.1, show (6000 : Int32) = nI 6000 from rfl, nI_leI (by omega) (by omega)]
    refine ⟨fun z => ?_, fun z => ?_⟩
    · refine m_copyOut z (fun c hc => ?_) F8.L q8 (fun w F9 e71 e190 => hB w (FU.tr F9) z e71 e190)
      rw [← etr] at hc
      exact fo_tc hnmc F _ _ _ c hc
    · refine hA u FU (by omega) ?_ (fun j => ?_)
      · rw [F8.i 144 71 (mwP_r (by decide)), b71]
      · rw [F8.i 190 j (mwP_r (by omega)), i6 190 _ (by decide) (by decide)]
end PW
