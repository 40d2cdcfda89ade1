/-! THE CLASS'S CODER: one function, from its start to its end -/
/-- places that the coder changes over all -/
def ceP (p c k : Nat) : Bool := (Nat.ble 68 c && Nat.ble c 78) || (Nat.ble (p + 7) c && Nat.ble c (p + 10)) || Nat.beq c (p + 14) || Nat.beq c (p + 15) || (Nat.beq c 67 && (Nat.ble 8 k && Nat.ble k 12))
theorem ceP_in {p c k : Nat} (h : ceP p c k = true) : (68 ≤ c ∧ c ≤ 78) ∨ (p + 7 ≤ c ∧ c ≤ p + 10) ∨ c = p + 14 ∨ c = p + 15 ∨ (c = 67 ∧ 8 ≤ k ∧ k ≤ 12) := by
  unfold ceP at h
  simp only [Bool.or_eq_true, Bool.and_eq_true, Nat.ble_eq, Nat.beq_eq] at h
  omega
theorem ceP_r {p c k : Nat} (h : ¬ ((68 ≤ c ∧ c ≤ 78) ∨ (p + 7 ≤ c ∧ c ≤ p + 10) ∨ c = p + 14 ∨ c = p + 15 ∨ (c = 67 ∧ 8 ≤ k ∧ k ≤ 12))) : ceP p c k = false := by
  cases e : ceP p c k with
  | false => rfl
  | true => exact absurd (ceP_in e) h
theorem ceP_t {p c k : Nat} (h : (68 ≤ c ∧ c ≤ 78) ∨ (p + 7 ≤ c ∧ c ≤ p + 10) ∨ c = p + 14 ∨ c = p + 15 ∨ (c = 67 ∧ 8 ≤ k ∧ k ≤ 12)) : ceP p c k = true := by
  unfold ceP
  simp only [Bool.or_eq_true, Bool.and_eq_true, Nat.ble_eq, Nat.beq_eq]
  omega
/-- the coder's state as a function begins -/
def kIni (op od : Nat → Int32) (u0 P : Nat) (ae ar ho be so : Nat → Int32) : KS := (op, od, u0, 0, 0, nI P, ae, ar, ho, be, fun j => if j < P then nI j else so j)
section C5
variable {cx : gCx} {d : Nat} {ad : Nat → Nat} {t : gSt} {post : Option Value → gSt → Prop} {p n : Nat} {par : Int32 → Nat}
theorem m_encodeIn {F : Fo} {s0 f u0 P : Nat} {tl : Bool} (hp : isP p) (hL : Lay t ad) (hr : t.2.2.2 (ad 67) 6 = some (ad p)) (hf : f < 24) (h7 : t.2.1 (ad 67) 7 = b32 tl) (h9 : t.2.1 (ad 67) 9 = nI u0) (hu0 : u0 ≤ c_len (p + 14)) (hP : t.2.1 (ad (p + 2)) f = nI P) (hP6 : P ≤ 6) (hRp : RPar t ad p n par) (hpar : ∀ v, par v ≤ 900) (hst : t.2.1 (ad (p + 4)) f = nI s0) (hs : s0 + fo_n F ≤ c_len (p + 12)) (hrw : rows (t.2.1 (ad (p + 12))) (t.2.1 (ad (p + 13))) s0 (fo_p F)) (h1 : fo_l F = 1) (hV : fo_v n par vK F) (hn5 : fo_n F ≤ 500) (hho : ∀ j, ¬ t.2.1 (ad 76) j < 0)
    (h : ∀ u s', s' = visT (kEnF P) (kLvF (c_len (p + 14)) u0 tl f par) (kBkF (c_len (p + 14)) u0) F s0 (kIni (t.2.1 (ad (p + 14))) (t.2.1 (ad (p + 15))) u0 P (t.2.1 (ad 74)) (t.2.1 (ad 75)) (t.2.1 (ad 76)) (t.2.1 (ad 77)) (t.2.1 (ad 78))) → gFr ad (ceP p) t u → u.2.1 (ad (p + 14)) = ks_op s' → u.2.1 (ad (p + 15)) = ks_od s' → u.2.1 (ad 67) 9 = nI (ks_us s') → ks_us s' ≤ c_len (p + 14) → u.2.1 (ad (p + 7)) = va_up (t.2.1 (ad (p + 7))) f (nI u0) → u.2.1 (ad (p + 8)) = va_up (t.2.1 (ad (p + 8))) f (nI (ks_us s') - nI u0) → u.2.1 (ad (p + 9)) = va_up (t.2.1 (ad (p + 9))) f (ks_sl s') → u.2.1 (ad (p + 10)) = va_up (t.2.1 (ad (p + 10))) f (ks_mh s') → (∀ j, ¬ u.2.1 (ad 76) j < 0) → post none u) : g_E cx (d + 4) i_Coder_encodeIn [.ref (ad 67), .int (nI f)] t post := by
  have hpg := hp.ge
  have hpl := hp.lt
  have hvf := vp_in_nI (N := 24) hf (by omega)
  refine x_Coder_encodeIn hp hL hr (fun t1 e1 t2 e2 t3 e3 => ⟨hvf, fun t4 e4 => ?_⟩)
  have z : ∀ {q : gSt} {k : Nat} {x : Int32}, gFr ad (ceP p) t q → 8 ≤ k ∧ k ≤ 12 → gFr ad (ceP p) t (g_si q (ad 67) k x) := fun h hk => h.si (ceP_t (by omega))
  have F3 : gFr ad (ceP p) t t3 := by rw [e3, e2, e1]; exact z (z (z (gFr.rf hL) (by decide)) (by decide)) (by decide)
  have o3 : ∀ c, c ≠ 67 → c < 199 → t3.2.1 (ad c) = t.2.1 (ad c) := fun c hc hl => by
    have n := hL.ne c 67 hl (by decide) hc
    rw [e3, g_si_ne n, e2, g_si_ne n, e1, g_si_ne n]
  rw [nI_clamp (by omega), o3 _ (by omega) (by omega), hP] at e4
  have F4 : gFr ad (ceP p) t t4 := by rw [e4]; exact z F3 (by decide)
  have o4 : ∀ c, c ≠ 67 → c < 199 → t4.2.1 (ad c) = t.2.1 (ad c) := fun c hc hl => by rw [e4, g_si_ne (hL.ne c 67 hl (by decide) hc), o3 c hc hl]
  have r4 : ∀ c k, t4.2.2.2 (ad c) k = t.2.2.2 (ad c) k := fun c k => by rw [e4, e3, e2, e1]; rfl
  have k8 : t4.2.1 (ad 67) 8 = nI f := by rw [e4, g_rd_k (by decide), e3, g_rd_k (by decide), e2, g_rd_k (by decide), e1, g_rd_at]
  have k10 : t4.2.1 (ad 67) 10 = 0 := by rw [e4, g_rd_k (by decide), e3, g_rd_k (by decide), e2, g_rd_at]
  have k11 : t4.2.1 (ad 67) 11 = 0 := by rw [e4, g_rd_k (by decide), e3, g_rd_at]
  have k12 : t4.2.1 (ad 67) 12 = nI P := by rw [e4, g_rd_at]
  have k79 : ∀ k, k ≠ 8 → k ≠ 10 → k ≠ 11 → k ≠ 12 → t4.2.1 (ad 67) k = t.2.1 (ad 67) k := fun k a b c e => by rw [e4, g_rd_k e, e3, g_rd_k c, e2, g_rd_k b, e1, g_rd_k a]
  -- the parameters' slots
  have loop : ∀ m i (u : gSt), m + i = P → gFr ad (ceP p) t4 u → (∀ c, c ≠ 78 → c < 199 → u.2.1 (ad c) = t4.2.1 (ad c)) → (∀ c k, u.2.2.2 (ad c) k = t4.2.2.2 (ad c) k) → u.2.1 (ad 78) = (fun j => if j < i then nI j else t.2.1 (ad 78) j) → g_W cx (g_E cx (d + 3)) mt_Coder_encodeIn post (30, [some (.ref (ad 67)), some (.int (nI f)), some (.int (nI i))], [], u, 0, 0) := by
    intro m
    induction m with
    | zero =>
      intro i u hi hF hs' hrr h78
      have hi : i = P := by omega
      subst hi
      have uP : u.2.1 (ad (p + 2)) f = nI i := by rw [hs' _ (by omega) (by omega), o4 _ (by omega) (by omega)]; exact hP
      have ur : u.2.2.2 (ad 67) 6 = some (ad p) := by rw [hrr, r4]; exact hr
      have u9 : u.2.1 (ad 67) 9 = nI u0 := by rw [hs' 67 (by decide) (by decide), k79 9 (by decide) (by decide) (by decide) (by decide)]; exact h9
      refine x_Coder_encodeIn_30 hp hF.L ur ⟨hvf, ?_⟩
      rw [nI_clamp (by omega), uP, u9]
      refine ⟨fun _ => ⟨hvf, fun t5 e5 => ?_⟩, fun q => absurd (nI_le (Nat.le_refl _) (by omega)) q⟩
      have F5 : gFr ad (ceP p) u t5 := by rw [e5]; exact (gFr.rf hF.L).si (ceP_t (by omega)) (by omega)
      have o5 : ∀ c, c ≠ p + 7 → c < 199 → t5.2.1 (ad c) = u.2.1 (ad c) := fun c hc hl => by rw [e5, g_si_ne (hL.ne c _ hl (by omega) hc)]
      refine m_begin hp (by simp [isW]) F5.L hf (s := s0) (by rw [o5 _ (by omega) (by omega), hs' _ (by omega) (by omega), o4 _ (by omega) (by omega)]; exact hst) (fun u2 F2 R2 => ⟨rfl, F2.L, ?_⟩)
      have q2 : ∀ c, (c < 68 ∨ 73 < c) → c < 199 → u2.2.1 (ad c) = t5.2.1 (ad c) := fun c hc hl => funext (fun k => F2.i c k (wP_out (by omega)) hl)
      have q4 : ∀ c, (c < 68 ∨ 73 < c) → c ≠ p + 7 → c ≠ 78 → c < 199 → u2.2.1 (ad c) = t4.2.1 (ad c) := fun c h1 h2 h3 hl => by rw [q2 c h1 hl, o5 c h2 hl, hs' c h3 hl]
      have qt : ∀ c, (c < 67 ∨ 73 < c) → c ≠ p + 7 → c ≠ 78 → c < 199 → u2.2.1 (ad c) = t.2.1 (ad c) := fun c h1 h2 h3 hl => by rw [q4 c (by omega) h2 h3 hl, o4 c (by omega) hl]
      have ur2 : u2.2.2.2 (ad 67) 6 = some (ad p) := by rw [F2.r 67 6 (wP_out (by decide)), e5]; exact ur
      have hU2 : gFr ad (ceP p) t u2 := ((F4.tr hF).tr F5).tr (F2.mo (fun c k q => ceP_t (by
        unfold wP at q
        simp only [Bool.and_eq_true, Nat.ble_eq] at q
        omega)))
      have b7 : u2.2.1 (ad (p + 7)) = va_up (t.2.1 (ad (p + 7))) f (nI u0) := by rw [q2 _ (by omega) (by omega), e5, g_si_at, hs' _ (by omega) (by omega), o4 _ (by omega) (by omega)]
      have hQ : QK u2 ad p (kIni (t.2.1 (ad (p + 14))) (t.2.1 (ad (p + 15))) u0 i (t.2.1 (ad 74)) (t.2.1 (ad 75)) (t.2.1 (ad 76)) (t.2.1 (ad 77)) (t.2.1 (ad 78))) u2 := by
        refine ⟨gFr.rf F2.L, ⟨qt _ (by omega) (by omega) (by omega) (by omega), qt _ (by omega) (by omega) (by omega) (by omega)⟩, ⟨?_, hu0⟩, ⟨?_, ?_, ?_⟩, ⟨qt 74 (by decide) (by omega) (by decide) (by decide), qt 75 (by decide) (by omega) (by decide) (by decide), qt 76 (by decide) (by omega) (by decide) (by decide), qt 77 (by decide) (by omega) (by decide) (by decide), ?_⟩, hho⟩
        · rw [q4 67 (by decide) (by omega) (by decide) (by decide), k79 9 (by decide) (by decide) (by decide) (by decide)]; exact h9
        · rw [q4 67 (by decide) (by omega) (by decide) (by decide)]; exact k10
        · rw [q4 67 (by decide) (by omega) (by decide) (by decide)]; exact k11
        · rw [q4 67 (by decide) (by omega) (by decide) (by decide)]; exact k12
        · rw [q2 78 (by decide) (by decide), o5 78 (by omega) (by decide), h78]; rfl
      refine m_encode_loop (t0 := u2) (f := f) (base := u0) (P := i) (tl := tl) (n := n) (par := par) (F := F) (s0 := s0) hp ur2 hf ?_ ?_ ?_ ?_ ⟨hRp.1, ?_, fun g hg => ?_⟩ hpar hs (fun j q hq => ?_) h1 hV hn5 R2 hQ (fun w hw => ⟨hvf, hvf, fun t6 e6 => ⟨hvf, fun t7 e7 => ⟨hvf, fun t8 e8 => ?_⟩⟩⟩)
      · rw [q4 67 (by decide) (by omega) (by decide) (by decide)]; exact k8
      · rw [q4 67 (by decide) (by omega) (by decide) (by decide), k79 7 (by decide) (by decide) (by decide) (by decide)]; exact h7
      · rw [b7, va_up_self]
      · rw [qt _ (by omega) (by omega) (by omega) (by omega)]; exact hP
      · rw [qt _ (by omega) (by omega) (by omega) (by omega)]; exact hRp.2.1
      · rw [qt _ (by omega) (by omega) (by omega) (by omega)]; exact hRp.2.2 g hg
      · rw [qt _ (by omega) (by omega) (by omega) (by omega), qt _ (by omega) (by omega) (by omega) (by omega)]; exact hrw j q hq
      · obtain ⟨w1, ⟨w2, w3⟩, ⟨w4, w5⟩, ⟨w6, w7, w8⟩, ⟨w9, w10, w11, w12, w13⟩, w14⟩ := hw
        obtain ⟨s', es'⟩ : ∃ s', visT (kEnF i) (kLvF (c_len (p + 14)) u0 tl f par) (kBkF (c_len (p + 14)) u0) F s0 (kIni (t.2.1 (ad (p + 14))) (t.2.1 (ad (p + 15))) u0 i (t.2.1 (ad 74)) (t.2.1 (ad 75)) (t.2.1 (ad 76)) (t.2.1 (ad 77)) (t.2.1 (ad 78))) = s' := ⟨_, rfl⟩
        rw [es'] at w2 w3 w4 w5 w6 w7 w8 w11 w14
        have wq : ∀ c, ¬ ((68 ≤ c ∧ c ≤ 78) ∨ c = p + 14 ∨ c = p + 15 ∨ c = 67) → c < 199 → w.2.1 (ad c) = u2.2.1 (ad c) := fun c hc hl => funext (fun k => w1.i c k (ckP_r (by omega)) hl)
        have wb : w.2.1 (ad (p + 7)) f = nI u0 := by rw [wq _ (by omega) (by omega), b7, va_up_self]
        rw [nI_clamp (by omega), w4, wb] at e6
        have o6 : ∀ c, c ≠ p + 8 → c < 199 → t6.2.1 (ad c) = w.2.1 (ad c) := fun c hc hl => by rw [e6, g_si_ne (hL.ne c _ hl (by omega) hc)]
        rw [nI_clamp (by omega), o6 67 (by omega) (by decide), w8] at e7
        have o7 : ∀ c, c ≠ p + 8 → c ≠ p + 9 → c < 199 → t7.2.1 (ad c) = w.2.1 (ad c) := fun c hc hc2 hl => by rw [e7, g_si_ne (hL.ne c _ hl (by omega) hc2), o6 c hc hl]
        rw [nI_clamp (by omega), o7 67 (by omega) (by omega) (by decide), w7] at e8
        have o8 : ∀ c, c ≠ p + 8 → c ≠ p + 9 → c ≠ p + 10 → c < 199 → t8.2.1 (ad c) = w.2.1 (ad c) := fun c hc hc2 hc3 hl => by rw [e8, g_si_ne (hL.ne c _ hl (by omega) hc3), o7 c hc hc2 hl]
        have FW : gFr ad (ceP p) t w := hU2.tr (w1.mo (fun c k q => ceP_t (by have := ckP_in q; omega)))
        refine h t8 s' es'.symm (by rw [e8, e7, e6]; exact ((FW.si (ceP_t (by omega)) (by omega)).si (ceP_t (by omega)) (by omega)).si (ceP_t (by omega)) (by omega)) ?_ ?_ ?_ w5 ?_ ?_ ?_ ?_ ?_
        · rw [o8 _ (by omega) (by omega) (by omega) (by omega)]; exact w2
        · rw [o8 _ (by omega) (by omega) (by omega) (by omega)]; exact w3
        · rw [o8 67 (by omega) (by omega) (by omega) (by decide)]; exact w4
        · rw [o8 _ (by omega) (by omega) (by omega) (by omega), wq _ (by omega) (by omega)]; exact b7
        · rw [e8, g_si_ne (hL.ne _ _ (by omega) (by omega) (by omega)), e7, g_si_ne (hL.ne _ _ (by omega) (by omega) (by omega)), e6, g_si_at, wq _ (by omega) (by omega), qt _ (by omega) (by omega) (by omega) (by omega)]
        · rw [e8, g_si_ne (hL.ne _ _ (by omega) (by omega) (by omega)), e7, g_si_at, o6 _ (by omega) (by omega), wq _ (by omega) (by omega), qt _ (by omega) (by omega) (by omega) (by omega)]
        · rw [e8, g_si_at, o7 _ (by omega) (by omega) (by omega), wq _ (by omega) (by omega), qt _ (by omega) (by omega) (by omega) (by omega)]
        · rw [o8 76 (by omega) (by omega) (by omega) (by decide), w11]; exact w14
    | succ m ih =>
      intro i u hi hF hs' hrr h78
      have uP : u.2.1 (ad (p + 2)) f = nI P := by rw [hs' _ (by omega) (by omega), o4 _ (by omega) (by omega)]; exact hP
      have ur : u.2.2.2 (ad 67) 6 = some (ad p) := by rw [hrr, r4]; exact hr
      refine x_Coder_encodeIn_30 hp hF.L ur ⟨hvf, ?_⟩
      rw [nI_clamp (by omega), uP]
      refine ⟨fun q => ?_, fun _ => ⟨vp_in_nI (by omega) (by omega), fun t5 e5 => ?_⟩⟩
      · rw [nI_leI (by omega) (by omega)] at q
        omega
      · rw [nI_clamp (by omega)] at e5
        rw [nI_1]
        refine ih (i + 1) t5 (by omega) (by rw [e5]; exact hF.si (ceP_t (by omega))) (fun c hc hl => by rw [e5, g_si_ne (hL.ne c 78 hl (by decide) hc), hs' c hc hl]) (fun c k => by rw [e5]; exact hrr c k) ?_
        rw [e5, g_si_at, h78]
        funext j
        unfold va_up
        by_cases zj : j = i
        · rw [if_pos zj, if_pos (by omega), zj]
        · rw [if_neg zj]
          dsimp only
          by_cases zz : j < i
          · rw [if_pos zz, if_pos (by omega)]
          · rw [if_neg zz, if_neg (by omega)]
  refine loop P 0 t4 (by omega) (gFr.rf F4.L) (fun _ _ _ => rfl) (fun _ _ => rfl) ?_
  rw [o4 78 (by decide) (by decide)]
  funext j
  rw [if_neg (by omega)]
end C5
