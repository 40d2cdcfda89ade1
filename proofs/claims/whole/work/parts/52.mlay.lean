/-! THE MODEL'S MACHINE -/
/-- frames in the model's rows: words, functions, places, bases, tops -/
def frM (L : List Fn) (wn : Nat) (W a4 a5 a6 a7 : Nat → Int32) : List Frm → Prop
  | [] => True
  | x :: rest => a4 rest.length = nI (24 * wn + x.1) ∧ a5 rest.length = nI x.2.1 ∧ a6 rest.length = nI (bsz L rest + 2) ∧ a7 rest.length = nI (bsz L rest + 2 + fnS (fAt L x.1) + x.2.2.2.length) ∧ slt W (bsz L rest + 2) x.2.2.1 ∧ stk W (bsz L rest + 2 + fnS (fAt L x.1)) x.2.2.2 ∧ frM L wn W a4 a5 a6 a7 rest
theorem frM_cg {L : List Fn} {wn : Nat} {W a4 a5 a6 a7 W' b4 b5 b6 b7 : Nat → Int32} : ∀ (fs : List Frm), (∀ x ∈ fs, fitF L x) → (∀ a, a < bsz L fs → W' a = W a) → (∀ i, i < fs.length → b4 i = a4 i ∧ b5 i = a5 i ∧ b6 i = a6 i ∧ b7 i = a7 i) → frM L wn W a4 a5 a6 a7 fs → frM L wn W' b4 b5 b6 b7 fs
  | [], _, _, _, _ => trivial
  | x :: rest, hf, h, hi, hm => by
    have hx := hf x List.mem_cons_self
    have hb : bsz L (x :: rest) = 2 + fnS (fAt L x.1) + fnT (fAt L x.1) + bsz L rest := rfl
    obtain ⟨h1, h2, h3, h4, h5, h6, h7⟩ := hm
    obtain ⟨i1, i2, i3, i4⟩ := hi rest.length (by simp)
    refine ⟨i1.trans h1, i2.trans h2, i3.trans h3, i4.trans h4, fun j v hj => ?_, stk_cg _ (fun a a1 a2 => h a (by have := hx.2; omega)) h6, frM_cg rest (fun y hy => hf y (List.mem_cons_of_mem _ hy)) (fun a ha => h a (by omega)) (fun i hi' => hi i (by simp; omega)) h7⟩
    have := (List.getElem?_eq_some_iff.mp hj).1
    rw [h _ (by have := hx.1; omega)]
    exact h5 j v hj
def moP (c k : Nat) : Bool := (Nat.ble 193 c && Nat.ble c 198) || (Nat.beq c 144 && (Nat.beq k 0 || (Nat.ble 80 k && Nat.ble k 85)))
theorem moP_in {c k : Nat} (h : moP c k = true) : (193 ≤ c ∧ c ≤ 198) ∨ (c = 144 ∧ (k = 0 ∨ (80 ≤ k ∧ k ≤ 85))) := by
  unfold moP at h
  simp only [Bool.or_eq_true, Bool.and_eq_true, Nat.ble_eq, Nat.beq_eq] at h
  omega
theorem moP_r {c k : Nat} (h : ¬ ((193 ≤ c ∧ c ≤ 198) ∨ (c = 144 ∧ (k = 0 ∨ (80 ≤ k ∧ k ≤ 85))))) : moP c k = false := by
  cases e : moP c k with
  | false => rfl
  | true => exact absurd (moP_in e) h
/-- the model's tables of the program that runs -/
def nTab (t : gSt) (ad : Nat → Nat) (wn : Nat) (L : List Fn) : Prop := ∀ f, f < L.length → t.2.1 (ad 147) f = nI (fnP (fAt L f)) ∧ t.2.1 (ad 185) (24 * wn + f) = nI (fnS (fAt L f)) ∧ t.2.1 (ad 186) (24 * wn + f) = nI (fnT (fAt L f)) ∧ rows (t.2.1 (ad 182)) (t.2.1 (ad 183)) (1600 * (24 * wn + f)) (fnC (fAt L f))
def RK (t0 : gSt) (ad : Nat → Nat) (wn : Nat) (L : List Fn) (st : Nat) (m : MSt) (t : gSt) : Prop :=
  gFr ad moP t0 t ∧ t.2.1 (ad 144) 80 = nI m.1.length ∧ t.2.1 (ad 144) 81 = nI (bsz L m.1) ∧ t.2.1 (ad 144) 82 = nI m.2.2 ∧ t.2.1 (ad 144) 83 = nI st ∧ t.2.1 (ad 144) 84 = 0 ∧ t.2.1 (ad 144) 85 = nI m.2.1.length ∧ (∀ (j : Nat) (v : Int32), m.2.1[j]? = some v → t.2.1 (ad 198) j = v) ∧ frM L wn (t.2.1 (ad 193)) (t.2.1 (ad 194)) (t.2.1 (ad 195)) (t.2.1 (ad 196)) (t.2.1 (ad 197)) m.1
def TlM (ad : Nat → Nat) (t0 : gSt) (st : Nat) (o : Int32) (m : MSt) (u : gSt) : Prop := gFr ad moP t0 u ∧ u.2.1 (ad 144) 84 = o ∧ u.2.1 (ad 144) 83 = nI st ∧ u.2.1 (ad 144) 82 = nI m.2.2 ∧ u.2.1 (ad 144) 85 = nI m.2.1.length ∧ ∀ (j : Nat) (v : Int32), m.2.1[j]? = some v → u.2.1 (ad 198) j = v
section ML
variable {A L : List Fn} {H : Nat → Nat → Nat × Nat} {al : Nat} {cx : gCx} {d : Nat} {ad : Nat → Nat} {t0 t : gSt} {post : Option Value → gSt → Prop} {wn : Nat}
theorem nTab.fr {u : gSt} (hF : gFr ad moP t u) (hT : nTab t ad wn L) : nTab u ad wn L := fun f hf => by
  rw [hF.i 147 _ (moP_r (by omega)), hF.i 185 _ (moP_r (by omega)), hF.i 186 _ (moP_r (by omega))]
  obtain ⟨a1, a2, a3, a4⟩ := hT f hf
  refine ⟨a1, a2, a3, fun i q hq => ?_⟩
  rw [hF.i 182 _ (moP_r (by omega)), hF.i 183 _ (moP_r (by omega))]
  exact a4 i q hq
theorem m_frameM {f : Nat} (hL : Lay t ad) (hT : nTab t ad wn L) (hl : L.length ≤ 24) (hw : wn ≤ 1) (hf : f < L.length) (h : post (some (.int (nI (fsz L f)))) t) : g_E cx (d + 1) i_Mo_frame [.ref (ad 144), .int (nI (24 * wn + f))] t post := by
  have hv := vp_in_nI (n := 24 * wn + f) (N := 48) (by omega) (by omega)
  refine x_Mo_frame hL ⟨hv, hv, ?_⟩
  rw [nI_clamp (by omega), (hT f hf).2.1, (hT f hf).2.2.1, show (2 : Int32) = nI 2 from rfl, nI_add, nI_add]
  exact h
theorem m_lay {g fr n nf tot mo : Nat} (hm : mcOk A L H) (hL : Lay t ad) (hT : nTab t ad wn L) (hw : wn ≤ 1) (hg : g < L.length) (hn : n ≤ 6) (h80 : t.2.1 (ad 144) 80 = nI nf) (h81 : t.2.1 (ad 144) 81 = nI tot) (h82 : t.2.1 (ad 144) 82 = nI mo) (hnf : nf < 7000) (htot : tot ≤ 20000) (hal : al ≤ 20000) (hmo : mo ≤ 20000) (hov : fr + n ≤ tot + 2 ∨ tot + 2 + n ≤ fr) (hfr : fr + n ≤ 20200)
    (h0 : al < tot + fsz L g → post (some (.int 0)) t)
    (h1 : tot + fsz L g ≤ al → ∀ u, gFr ad moP t u → (∀ k, k ≠ 80 → k ≠ 81 → k ≠ 82 → u.2.1 (ad 144) k = t.2.1 (ad 144) k) → u.2.1 (ad 144) 80 = nI (nf + 1) → u.2.1 (ad 144) 81 = nI (tot + fsz L g) → u.2.1 (ad 144) 82 = nI (max mo (tot + fsz L g)) → (∀ j, u.2.1 (ad 198) j = t.2.1 (ad 198) j) → (∀ i, u.2.1 (ad 194) i = if i = nf then nI (24 * wn + g) else t.2.1 (ad 194) i) → (∀ i, u.2.1 (ad 195) i = if i = nf then nI 0 else t.2.1 (ad 195) i) → (∀ i, u.2.1 (ad 196) i = if i = nf then nI (tot + 2) else t.2.1 (ad 196) i) → (∀ i, u.2.1 (ad 197) i = if i = nf then nI (tot + 2 + fnS (fAt L g)) else t.2.1 (ad 197) i) → (∀ x, u.2.1 (ad 193) x = if tot + 2 ≤ x ∧ x < tot + 2 + n then t.2.1 (ad 193) (fr + (x - (tot + 2))) else t.2.1 (ad 193) x) → post (some (.int 1)) u) : g_E cx (d + 2) i_Mo_lay [.ref (ad 144), .int (nI (24 * wn + g)), .int (nI fr), .int (nI al), .int (nI n)] t post := by
  obtain ⟨g1, g2, g3⟩ := hm
  obtain ⟨p1, p2, p3, p4, p5, p6, p7, p8, p9, p10, p11⟩ := g3 g hg
  have hfs : fsz L g = 2 + fnS (fAt L g) + fnT (fAt L g) := rfl
  refine x_Mo_lay hL ?_
  refine m_frameM hL hT g2 hw hg ⟨_, rfl, hL, ?_⟩
  rw [h81, nI_add, nI_leI (by omega) (by omega)]
  refine ⟨fun c x3 e3 => ?_, fun c => h0 (by omega)⟩
  subst e3
  have loop : ∀ k i (u : gSt), k + i = n → gFr ad moP t u → (∀ c k, c ≠ 193 → c < 199 → u.2.1 (ad c) k = t.2.1 (ad c) k) → (∀ x, u.2.1 (ad 193) x = if tot + 2 ≤ x ∧ x < tot + 2 + i then t.2.1 (ad 193) (fr + (x - (tot + 2))) else t.2.1 (ad 193) x) → g_W cx (g_E cx (d + 1)) mt_Mo_lay post (25, [some (.ref (ad 144)), some (.int (nI (24 * wn + g))), some (.int (nI fr)), some (.int (nI al)), some (.int (nI n)), some (.int (nI tot)), some (.int (nI i))], [], u, 0, 0) := by
    intro k
    induction k with
    | zero =>
      intro i u hk hF hs hx
      have hi : i = n := by omega
      subst hi
      have u80 : u.2.1 (ad 144) 80 = nI nf := by rw [hs 144 80 (by decide) (by decide), h80]
      have hv7 := vp_in_nI (n := nf) (N := 7000) hnf (by omega)
      have nE : ∀ {c : Nat}, c < 199 → c ≠ 144 → ad 144 ≠ ad c := fun hc hn => hL.ne _ _ (by decide) hc (Ne.symm hn)
      refine x_Mo_lay_25 hF.L ⟨fun _ => ?_, fun q => absurd (nI_le (Nat.le_refl _) (by omega)) q⟩
      rw [u80, nI_clamp (n := nf) (by omega)]
      refine ⟨hv7, fun t1 e1 => ?_⟩
      have b1 : t1.2.1 (ad 144) 80 = nI nf := by rw [e1, g_rd_ne (nE (by decide) (by decide)), u80]
      rw [b1, nI_clamp (n := nf) (by omega)]
      refine ⟨hv7, fun t2 e2 => ?_⟩
      have b2 : t2.2.1 (ad 144) 80 = nI nf := by rw [e2, g_rd_ne (nE (by decide) (by decide)), b1]
      rw [b2, nI_clamp (n := nf) (by omega), show (2 : Int32) = nI 2 from rfl, nI_add]
      refine ⟨hv7, fun t3 e3 => ⟨vp_in_nI (by omega) (by omega), ?_⟩⟩
      have b3 : t3.2.1 (ad 144) 80 = nI nf := by rw [e3, g_rd_ne (nE (by decide) (by decide)), b2]
      have F3 : gFr ad moP u t3 := by rw [e3, e2, e1]; exact (((gFr.rf hF.L).si rfl).si rfl).si rfl
      have T3 := (hT.fr hF).fr F3
      rw [b3, nI_clamp (n := nf) (by omega), nI_clamp (n := 24 * wn + g) (by omega), (T3 g hg).2.1, nI_add]
      refine ⟨hv7, fun t4 e4 => ?_⟩
      have F4 : gFr ad moP u t4 := by rw [e4]; exact F3.si rfl
      refine m_frameM F4.L (T3.fr (by rw [e4]; exact (gFr.rf F3.L).si rfl)) g2 hw hg ⟨_, rfl, F4.L, fun t7 e7 => ?_⟩
      have s4 : ∀ k, t4.2.1 (ad 144) k = u.2.1 (ad 144) k := fun k => by rw [e4, g_rd_ne (nE (by decide) (by decide)), e3, g_rd_ne (nE (by decide) (by decide)), e2, g_rd_ne (nE (by decide) (by decide)), e1, g_rd_ne (nE (by decide) (by decide))]
      rw [s4, hs 144 81 (by decide) (by decide), h81, nI_add] at e7
      have F7 : gFr ad moP u t7 := by rw [e7]; exact F4.si rfl
      have u81 : t7.2.1 (ad 144) 81 = nI (tot + fsz L g) := by rw [e7, g_rd_at]
      have u82 : t7.2.1 (ad 144) 82 = nI mo := by rw [e7, g_rd_k (by decide), s4, hs 144 82 (by decide) (by decide), h82]
      have u807 : t7.2.1 (ad 144) 80 = nI nf := by rw [e7, g_rd_k (by decide), s4, u80]
      -- the two ways of the maximum
      have fin : ∀ (w : gSt), w = g_si (g_si t7 (ad 144) 82 (nI (max mo (tot + fsz L g)))) (ad 144) 80 (nI (nf + 1)) → post (some (.int 1)) w := by
        intro w ew
        have nW : ∀ {c : Nat}, c < 199 → c ≠ 144 → ad c ≠ ad 144 := fun hc hn => hL.ne _ _ hc (by decide) hn
        have o : ∀ c k, c ≠ 144 → c < 199 → w.2.1 (ad c) k = t4.2.1 (ad c) k := fun c k hc hl => by rw [ew, g_rd_ne (nW hl hc), g_rd_ne (nW hl hc), e7, g_rd_ne (nW hl hc)]
        have nn : ∀ a b, a ≠ b → a < 199 → b < 199 → ad a ≠ ad b := fun a b h ha hb => hL.ne _ _ ha hb h
        refine h1 c w (hF.tr (by rw [ew]; exact (F7.si rfl).si rfl)) (fun k h80 h81 h82 => ?_) (by rw [ew, g_rd_at]) (by rw [ew, g_rd_k (by decide), g_rd_k (by decide), u81]) (by rw [ew, g_rd_k (by decide), g_rd_at]) (fun j => ?_) (fun i => ?_) (fun i => ?_) (fun i => ?_) (fun i => ?_) (fun x => ?_)
        · rw [ew, g_rd_k h80, g_rd_k h82, e7, g_rd_k h81, s4, hs 144 k (by decide) (by decide)]
        · rw [o 198 j (by decide) (by decide), e4, g_rd_ne (nn _ _ (by decide) (by decide) (by decide)), e3, g_rd_ne (nn _ _ (by decide) (by decide) (by decide)), e2, g_rd_ne (nn _ _ (by decide) (by decide) (by decide)), e1, g_rd_ne (nn _ _ (by decide) (by decide) (by decide)), hs 198 j (by decide) (by decide)]
        · rw [o 194 i (by decide) (by decide), e4, g_rd_ne (nn _ _ (by decide) (by decide) (by decide)), e3, g_rd_ne (nn _ _ (by decide) (by decide) (by decide)), e2, g_rd_ne (nn _ _ (by decide) (by decide) (by decide)), e1]
          by_cases z : i = nf
          · rw [z, g_rd_at, if_pos rfl]
          · rw [g_rd_k z, if_neg z, hs 194 i (by decide) (by decide)]
        · rw [o 195 i (by decide) (by decide), e4, g_rd_ne (nn _ _ (by decide) (by decide) (by decide)), e3, g_rd_ne (nn _ _ (by decide) (by decide) (by decide)), e2]
          by_cases z : i = nf
          · rw [z, g_rd_at, if_pos rfl]; rfl
          · rw [g_rd_k z, if_neg z, e1, g_rd_ne (nn _ _ (by decide) (by decide) (by decide)), hs 195 i (by decide) (by decide)]
        · rw [o 196 i (by decide) (by decide), e4, g_rd_ne (nn _ _ (by decide) (by decide) (by decide)), e3]
          by_cases z : i = nf
          · rw [z, g_rd_at, if_pos rfl]
          · rw [g_rd_k z, if_neg z, e2, g_rd_ne (nn _ _ (by decide) (by decide) (by decide)), e1, g_rd_ne (nn _ _ (by decide) (by decide) (by decide)), hs 196 i (by decide) (by decide)]
        · rw [o 197 i (by decide) (by decide), e4]
          by_cases z : i = nf
          · rw [z, g_rd_at, if_pos rfl]
          · rw [g_rd_k z, if_neg z, e3, g_rd_ne (nn _ _ (by decide) (by decide) (by decide)), e2, g_rd_ne (nn _ _ (by decide) (by decide) (by decide)), e1, g_rd_ne (nn _ _ (by decide) (by decide) (by decide)), hs 197 i (by decide) (by decide)]
        · rw [o 193 x (by decide) (by decide), e4, g_rd_ne (nn _ _ (by decide) (by decide) (by decide)), e3, g_rd_ne (nn _ _ (by decide) (by decide) (by decide)), e2, g_rd_ne (nn _ _ (by decide) (by decide) (by decide)), e1, g_rd_ne (nn _ _ (by decide) (by decide) (by decide)), hx]
      rw [u81, u82, nI_leI (by omega) (by omega)]
      refine ⟨fun z t8 e8 t9 e9 => fin t9 ?_, fun z t8 e8 t9 e9 => fin t9 ?_⟩
      · rw [e9, e8, g_rd_k (by decide), u807, nI_1, show max mo (tot + fsz L g) = mo by omega]
      · rw [e9, e8, g_rd_k (by decide), u807, nI_1, show max mo (tot + fsz L g) = tot + fsz L g by omega]
    | succ k ih =>
      intro i u hk hF hs hx
      refine x_Mo_lay_25 hF.L ⟨fun q => ?_, fun _ => ?_⟩
      · rw [nI_leI (by omega) (by omega)] at q
        omega
      · rw [show (2 : Int32) = nI 2 from rfl, nI_add, nI_add, nI_add, nI_clamp (n := fr + i) (by omega), nI_clamp (n := tot + 2 + i) (by omega), nI_1]
        refine ⟨vp_in_nI (by omega) (by omega), vp_in_nI (by omega) (by omega), fun t12 e12 => ?_⟩
        refine ih (i + 1) t12 (by omega) (by rw [e12]; exact hF.si rfl) (fun c k hc hl => by rw [e12, g_rd_ne (hL.ne c 193 hl (by decide) hc), hs c k hc hl]) (fun x => ?_)
        rw [e12]
        by_cases z : x = tot + 2 + i
        · subst z
          rw [g_rd_at, if_pos (by omega), hx (fr + i), if_neg (by omega), show fr + (tot + 2 + i - (tot + 2)) = fr + i by omega]
        · rw [g_rd_k z, hx]
          by_cases z2 : tot + 2 ≤ x ∧ x < tot + 2 + i
          · rw [if_pos z2, if_pos (by omega)]
          · rw [if_neg z2, if_neg (by omega)]
  exact loop n 0 t (by omega) (gFr.rf hL) (fun _ _ _ _ => rfl) (fun x => by rw [if_neg (by omega)])
end ML
