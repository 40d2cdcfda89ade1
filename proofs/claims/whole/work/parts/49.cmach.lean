/-! THE CLASS'S MACHINE -/
/-- values that lie from o on, the latest highest -/
def stk (m : Nat → Int32) (o : Nat) : List Int32 → Prop
  | [] => True
  | v :: r => m (o + r.length) = v ∧ stk m o r
def slt (m : Nat → Int32) (o : Nat) (l : List Int32) : Prop := ∀ (j : Nat) (v : Int32), l[j]? = some v → m (o + j) = v
theorem stk_cg {m m' : Nat → Int32} {o : Nat} : ∀ (l : List Int32), (∀ a, o ≤ a → a < o + l.length → m' a = m a) → stk m o l → stk m' o l
  | [], _, _ => trivial
  | v :: r, h, hs => ⟨by rw [h _ (by omega) (by simp)]; exact hs.1, stk_cg r (fun a h1 h2 => h a h1 (by simp; omega)) hs.2⟩
theorem stk_at {m : Nat → Int32} {o : Nat} : ∀ (l : List Int32), stk m o l → ∀ j v, l[j]? = some v → m (o + (l.length - 1 - j)) = v
  | v :: r, hs, 0, w, h => by
    have : v = w := by simpa using h
    subst this
    simpa using hs.1
  | v :: r, hs, j + 1, w, h => by
    have := stk_at r hs.2 j w (by simpa using h)
    rw [← this]
    congr 1
    simp only [List.length_cons]
    have := (List.getElem?_eq_some_iff.mp (by simpa using h : r[j]? = some w)).1
    omega
theorem stk_drop {m : Nat → Int32} {o : Nat} : ∀ (l : List Int32) (n : Nat), stk m o l → stk m o (l.drop n)
  | l, 0, h => by simpa using h
  | [], n + 1, _ => trivial
  | v :: r, n + 1, h => by simpa using stk_drop r n h.2
section CM
variable {A L : List Fn} {H : Nat → Nat → Nat × Nat} {al : Nat}
/-- the head of a frame whose callers are rest -/
def hdF (L : List Fn) (m : Nat → Int32) (rest : List Frm) : Prop := match rest with
  | [] => m 0 = -1
  | (f2, pc2, _, sk2) :: r2 => m (bsz L rest) = nI (f2 * 1024 + pc2) ∧ m (bsz L rest + 1) = nI (bsz L r2 + 2 + fnS (fAt L f2) + sk2.length)
def memF (L : List Fn) (m : Nat → Int32) : List Frm → Prop
  | [] => True
  | x :: rest => slt m (bsz L rest + 2) x.2.2.1 ∧ stk m (bsz L rest + 2 + fnS (fAt L x.1)) x.2.2.2 ∧ hdF L m rest ∧ memF L m rest
/-- a frame's own words are enough -/
def fitF (L : List Fn) (x : Frm) : Prop := x.2.2.1.length ≤ fnS (fAt L x.1) ∧ x.2.2.2.length ≤ fnT (fAt L x.1)
theorem memF_cg {m m' : Nat → Int32} : ∀ (fs : List Frm), (∀ x ∈ fs, fitF L x) → (∀ a, a < bsz L fs → m' a = m a) → memF L m fs → memF L m' fs
  | [], _, _, _ => trivial
  | x :: rest, hf, h, hm => by
    have hx := hf x List.mem_cons_self
    have hb : bsz L (x :: rest) = 2 + fnS (fAt L x.1) + fnT (fAt L x.1) + bsz L rest := rfl
    obtain ⟨h1, h2, h3, h4⟩ := hm
    refine ⟨fun j v hj => ?_, stk_cg _ (fun a a1 a2 => h a (by have := hx.2; omega)) h2, ?_, memF_cg rest (fun y hy => hf y (List.mem_cons_of_mem _ hy)) (fun a ha => h a (by omega)) h4⟩
    · have := (List.getElem?_eq_some_iff.mp hj).1
      rw [h _ (by have := hx.1; omega)]
      exact h1 j v hj
    · unfold hdF at h3 ⊢
      match rest, h3, hb with
      | [], h3, hb => rw [h 0 (by omega)]; exact h3
      | (f2, pc2, sl2, sk2) :: r2, h3, hb => exact ⟨by rw [h _ (by omega)]; exact h3.1, by rw [h _ (by omega)]; exact h3.2⟩
def mcP (c _k : Nat) : Bool := Nat.ble 93 c && Nat.ble c 95
theorem mcP_r {c k : Nat} (h : c < 93 ∨ 95 < c) : mcP c k = false := by
  cases e : mcP c k with
  | false => rfl
  | true =>
    unfold mcP at e
    simp only [Bool.and_eq_true, Nat.ble_eq] at e
    omega
/-- the tables of the program that runs -/
def mTab (t : gSt) (ad : Nat → Nat) (p : Nat) (L : List Fn) : Prop := ∀ f, f < L.length → t.2.1 (ad (p + 2)) f = nI (fnP (fAt L f)) ∧ t.2.1 (ad (p + 9)) f = nI (fnS (fAt L f)) ∧ t.2.1 (ad (p + 10)) f = nI (fnT (fAt L f)) ∧ ∃ s, t.2.1 (ad (p + 7)) f = nI s ∧ s + (fnC (fAt L f)).length ≤ c_len (p + 14) ∧ rows (t.2.1 (ad (p + 14))) (t.2.1 (ad (p + 15))) s (fnC (fAt L f))
/-- the class's machine holds the state m; st steps were done -/
def RC (t0 : gSt) (ad : Nat → Nat) (p : Nat) (L : List Fn) (al st : Nat) (m : MSt) (t : gSt) : Prop :=
  gFr ad mcP t0 t ∧ t.2.2.2 (ad 93) 6 = some (ad p) ∧ t.2.1 (ad 93) 7 = nI al ∧ t.2.1 (ad 93) 1 = 0 ∧ t.2.1 (ad 93) 2 = nI st ∧ t.2.1 (ad 93) 3 = nI m.2.2 ∧ t.2.1 (ad 93) 4 = nI m.2.1.length ∧ (∀ (j : Nat) (v : Int32), m.2.1[j]? = some v → t.2.1 (ad 94) j = v) ∧ memF L (t.2.1 (ad 95)) m.1 ∧
  ∃ f pc sl sk rest, m.1 = (f, pc, sl, sk) :: rest ∧ t.2.1 (ad 93) 8 = nI f ∧ t.2.1 (ad 93) 9 = nI pc ∧ t.2.1 (ad 93) 10 = nI (bsz L rest) ∧ t.2.1 (ad 93) 11 = nI (bsz L rest + 2 + fnS (fAt L f) + sk.length)
variable {cx : gCx} {d : Nat} {ad : Nat → Nat} {t0 t : gSt} {post : Option Value → gSt → Prop} {p : Nat}
theorem m_frame {f : Nat} (hp : isP p) (hL : Lay t ad) (hT : mTab t ad p L) (hl : L.length ≤ 24) (hf : f < L.length) (h : post (some (.int (nI (fsz L f)))) t) : g_E cx (d + 1) i_Program_frame [.ref (ad p), .int (nI f)] t post := by
  have hv := vp_in_nI (n := f) (N := 24) (by omega) (by omega)
  refine x_Program_frame hp hL ⟨hv, hv, ?_⟩
  rw [nI_clamp (by omega), (hT f hf).2.1, (hT f hf).2.2.1, show (2 : Int32) = nI 2 from rfl, nI_add, nI_add]
  exact h
theorem m_fits {f b al : Nat} (hp : isP p) (hL : Lay t ad) (hr : t.2.2.2 (ad 93) 6 = some (ad p)) (hT : mTab t ad p L) (hl : L.length ≤ 24) (hf : f < L.length) (h7 : t.2.1 (ad 93) 7 = nI al) (hal : al ≤ 20000) (hb : b + fsz L f < 2 ^ 30) (h : post (some (.int (if al < b + fsz L f then 0 else 1))) t) : g_E cx (d + 2) i_Machine_fits [.ref (ad 93), .int (nI f), .int (nI b)] t post := by
  refine x_Machine_fits hp hL hr ?_
  refine m_frame hp hL hT hl hf ⟨_, rfl, hL, ?_⟩
  rw [h7, nI_add, nI_ltI (by omega) (by omega)]
  refine ⟨fun c => ?_, fun c => ?_⟩
  · rw [if_pos c] at h; exact h
  · rw [if_neg c] at h; exact h
/-- a value is laid on the top -/
theorem m_mpush {a : Nat} {v : Int32} (hL : Lay t ad) (ha : t.2.1 (ad 93) 11 = nI a) (ha2 : a < 20000) (h : ∀ u, u = g_si (g_si t (ad 95) a v) (ad 93) 11 (nI (a + 1)) → post none u) : g_E cx (d + 1) i_Machine_push [.ref (ad 93), .int v] t post := by
  refine x_Machine_push hL ?_
  rw [ha]
  refine ⟨fun c => ?_, fun _ => ⟨vp_in_nI ha2 (by omega), fun t1 e1 t2 e2 => h t2 ?_⟩⟩
  · rw [show (20000 : Int32) = nI 20000 from rfl, nI_leI (by omega) (by omega)] at c
    omega
  · rw [nI_clamp (by omega)] at e1
    rw [e2, e1, g_rd_ne (hL.ne 93 95 (by decide) (by decide) (by decide)), ha, nI_1]
theorem m_mpop {a : Nat} {v : Int32} (hL : Lay t ad) (ha : t.2.1 (ad 93) 11 = nI (a + 1)) (ha2 : a < 20000) (hv : t.2.1 (ad 95) a = v) (h : ∀ u, u = g_si t (ad 93) 11 (nI a) → post (some (.int v)) u) : g_E cx (d + 1) i_Machine_pop [.ref (ad 93)] t post := by
  refine x_Machine_pop hL ?_
  rw [ha]
  refine ⟨fun _ t1 e1 => ?_, fun c => absurd (nI_lt (a := 0) (by omega) (by omega)) c⟩
  rw [nI_pred] at e1
  have e2 : t1.2.1 (ad 93) 11 = nI a := by rw [e1, g_rd_at]
  rw [e2, nI_clamp (by omega)]
  have e3 : t1.2.1 (ad 95) a = v := by rw [e1, g_rd_ne (hL.ne 95 93 (by decide) (by decide) (by decide)), hv]
  rw [e3]
  exact ⟨vp_in_nI ha2 (by omega), h t1 e1⟩
theorem m_enterFrame {f b mo : Nat} (hp : isP p) (hL : Lay t ad) (hr : t.2.2.2 (ad 93) 6 = some (ad p)) (hT : mTab t ad p L) (hl : L.length ≤ 24) (hf : f < L.length) (h3 : t.2.1 (ad 93) 3 = nI mo) (hmo : mo < 2 ^ 30) (hb : b + fsz L f < 2 ^ 30) (h : ∀ u, gFr ad mcP t u → (∀ k, k ≠ 3 → k ≠ 8 → k ≠ 9 → k ≠ 10 → k ≠ 11 → u.2.1 (ad 93) k = t.2.1 (ad 93) k) → u.2.2.2 (ad 93) 6 = some (ad p) → (∀ j, u.2.1 (ad 94) j = t.2.1 (ad 94) j) → (∀ j, u.2.1 (ad 95) j = t.2.1 (ad 95) j) → u.2.1 (ad 93) 3 = nI (max mo (b + fsz L f)) → u.2.1 (ad 93) 8 = nI f → u.2.1 (ad 93) 9 = nI 0 → u.2.1 (ad 93) 10 = nI b → u.2.1 (ad 93) 11 = nI (b + 2 + fnS (fAt L f)) → post none u) : g_E cx (d + 2) i_Machine_enterFrame [.ref (ad 93), .int (nI f), .int (nI b)] t post := by
  have hpg := hp.ge
  have hpl := hp.lt
  refine x_Machine_enterFrame hp hL hr (fun t1 e1 t2 e2 t3 e3 => ⟨vp_in_nI (by omega) (by omega), fun t4 e4 => ?_⟩)
  have z : ∀ {q : gSt} {k : Nat} {x : Int32}, gFr ad mcP t q → gFr ad mcP t (g_si q (ad 93) k x) := fun h => h.si rfl
  have F3 : gFr ad mcP t t3 := by rw [e3, e2, e1]; exact z (z (z (gFr.rf hL)))
  have s9 : t3.2.1 (ad (p + 9)) f = nI (fnS (fAt L f)) := by rw [F3.i _ _ (mcP_r (by omega)) (by omega)]; exact (hT f hf).2.1
  rw [nI_clamp (by omega), s9, show (2 : Int32) = nI 2 from rfl, nI_add, nI_add] at e4
  have F4 : gFr ad mcP t t4 := by rw [e4]; exact z F3
  have T4 : mTab t4 ad p L := fun f hf => by
    rw [F4.i _ _ (mcP_r (by omega)) (by omega), F4.i _ _ (mcP_r (by omega)) (by omega), F4.i _ _ (mcP_r (by omega)) (by omega)]
    obtain ⟨a1, a2, a3, s, a4, a5, a6⟩ := hT f hf
    refine ⟨a1, a2, a3, s, ?_, a5, fun i q hq => ?_⟩
    · rw [F4.i _ _ (mcP_r (by omega)) (by omega)]; exact a4
    · rw [F4.i _ _ (mcP_r (by omega)) (by omega), F4.i _ _ (mcP_r (by omega)) (by omega)]; exact a6 i q hq
  refine m_frame hp F4.L T4 hl hf ⟨_, rfl, F4.L, fun t7 e7 => ?_⟩
  have m4 : t4.2.1 (ad 93) 3 = nI mo := by rw [e4, g_rd_k (by decide), e3, g_rd_k (by decide), e2, g_rd_k (by decide), e1, g_rd_k (by decide), h3]
  rw [m4, nI_add] at e7
  refine h t7 (by rw [e7]; exact z F4) (fun k h3 h8 h9 h10 h11 => ?_) ?_ (fun j => ?_) (fun j => ?_) ?_ ?_ ?_ ?_ ?_
  · rw [e7, g_rd_k h3, e4, g_rd_k h11, e3, g_rd_k h10, e2, g_rd_k h9, e1, g_rd_k h8]
  · rw [e7, e4, e3, e2, e1]; exact hr
  · rw [e7, g_rd_ne (hL.ne 94 93 (by decide) (by decide) (by decide)), e4, g_rd_ne (hL.ne 94 93 (by decide) (by decide) (by decide)), e3, g_rd_ne (hL.ne 94 93 (by decide) (by decide) (by decide)), e2, g_rd_ne (hL.ne 94 93 (by decide) (by decide) (by decide)), e1, g_rd_ne (hL.ne 94 93 (by decide) (by decide) (by decide))]
  · rw [e7, g_rd_ne (hL.ne 95 93 (by decide) (by decide) (by decide)), e4, g_rd_ne (hL.ne 95 93 (by decide) (by decide) (by decide)), e3, g_rd_ne (hL.ne 95 93 (by decide) (by decide) (by decide)), e2, g_rd_ne (hL.ne 95 93 (by decide) (by decide) (by decide)), e1, g_rd_ne (hL.ne 95 93 (by decide) (by decide) (by decide))]
  · rw [e7, g_rd_at]
    by_cases c : mo < b + fsz L f
    · rw [if_pos (nI_lt c (by omega))]
      congr 1
      omega
    · rw [if_neg (nI_nlt (by omega) (by omega))]
      congr 1
      omega
  · rw [e7, g_rd_k (by decide), e4, g_rd_k (by decide), e3, g_rd_k (by decide), e2, g_rd_k (by decide), e1, g_rd_at]
  · rw [e7, g_rd_k (by decide), e4, g_rd_k (by decide), e3, g_rd_k (by decide), e2, g_rd_at]; rfl
  · rw [e7, g_rd_k (by decide), e4, g_rd_k (by decide), e3, g_rd_at]
  · rw [e7, g_rd_k (by decide), e4, g_rd_at]
end CM
