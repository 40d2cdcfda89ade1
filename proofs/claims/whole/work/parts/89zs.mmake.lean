/-! MAKING THE OUTPUT: the model -/
def mmP (c k : Nat) : Bool := ((Nat.beq c 148 || Nat.beq c 149 || Nat.beq c 156) && Nat.ble 24 k) || (Nat.ble 151 c && Nat.ble c 155 && Nat.ble 31200 k) || Nat.beq c 150 || (Nat.ble 159 c && Nat.ble c 162) || (Nat.ble 177 c && Nat.ble c 189) || (Nat.beq c 144 && (Nat.beq k 29 || Nat.beq k 33 || Nat.beq k 54 || Nat.beq k 65 || Nat.beq k 66))
theorem mmP_in {c k : Nat} (h : mmP c k = true) : ((c = 148 ∨ c = 149 ∨ c = 156) ∧ 24 ≤ k) ∨ (151 ≤ c ∧ c ≤ 155 ∧ 31200 ≤ k) ∨ c = 150 ∨ (159 ≤ c ∧ c ≤ 162) ∨ (177 ≤ c ∧ c ≤ 189) ∨ (c = 144 ∧ (k = 29 ∨ k = 33 ∨ k = 54 ∨ k = 65 ∨ k = 66)) := by
  unfold mmP at h
  simp only [Bool.or_eq_true, Bool.and_eq_true, Nat.ble_eq, Nat.beq_eq] at h
  omega
theorem mmP_t {c k : Nat} (h : ((c = 148 ∨ c = 149 ∨ c = 156) ∧ 24 ≤ k) ∨ (151 ≤ c ∧ c ≤ 155 ∧ 31200 ≤ k) ∨ c = 150 ∨ (159 ≤ c ∧ c ≤ 162) ∨ (177 ≤ c ∧ c ≤ 189) ∨ (c = 144 ∧ (k = 29 ∨ k = 33 ∨ k = 54 ∨ k = 65 ∨ k = 66))) : mmP c k = true := by
  unfold mmP
  simp only [Bool.or_eq_true, Bool.and_eq_true, Nat.ble_eq, Nat.beq_eq]
  omega
theorem mmP_r {c k : Nat} (h : ¬ (((c = 148 ∨ c = 149 ∨ c = 156) ∧ 24 ≤ k) ∨ (151 ≤ c ∧ c ≤ 155 ∧ 31200 ≤ k) ∨ c = 150 ∨ (159 ≤ c ∧ c ≤ 162) ∨ (177 ≤ c ∧ c ≤ 189) ∨ (c = 144 ∧ (k = 29 ∨ k = 33 ∨ k = 54 ∨ k = 65 ∨ k = 66)))) : mmP c k = false := by
  cases e : mmP c k with
  | false => rfl
  | true => exact absurd (mmP_in e) h
section MY
variable {cx : gCx} {d : Nat} {ad : Nat → Nat} {t : gSt} {post : Option Value → gSt → Prop} {n : Nat} {par : Int32 → Nat} {cyc : Nat → Bool} {bo : Nat → Fo} {sv : Nat → Nat} {ord : Nat → Nat} {m1 m2 tl : Bool} {bud mode : Int32}
theorem mBd.toN {x V : Nat} {B : Fo} (h : mBd t ad x B V) : mBn t ad x B := ⟨h.1, h.2.2⟩
theorem mBn.toD {x V : Nat} {B : Fo} (h : mBn t ad x B) (hV : t.2.1 (ad 149) x = nI V) : mBd t ad x B V := ⟨h.1, hV, h.2⟩
theorem mBd.fr {u : gSt} {P : Nat → Nat → Bool} {x V : Nat} {B : Fo} (h : mBd t ad x B V) (h5 : fo_n B ≤ 1300) (hF : gFr ad P t u) (h1 : ∀ c, c = 148 ∨ c = 149 ∨ c = 156 → P c x = false) (h2 : ∀ c k, 151 ≤ c → c ≤ 155 → 1300 * x ≤ k → k ≤ 1300 * x + 1299 → P c k = false) : mBd u ad x B V := by
  obtain ⟨a1, a2, N, a3, a4, a5⟩ := h
  refine ⟨by rw [hF.i 148 x (h1 _ (by omega))]; exact a1, by rw [hF.i 149 x (h1 _ (by omega))]; exact a2, N, by rw [hF.i 156 x (h1 _ (by omega))]; exact a3, a4, ?_⟩
  exact fo_m_cg (fun i hi => hF.i 155 _ (h2 155 _ (by omega) (by omega) (by omega) (by omega))) (Nat.le_refl _) B 0 a5 (fun m m1 m2 => ⟨hF.i 151 _ (h2 151 _ (by omega) (by omega) (by omega) (by omega)), hF.i 152 _ (h2 152 _ (by omega) (by omega) (by omega) (by omega)), hF.i 153 _ (h2 153 _ (by omega) (by omega) (by omega) (by omega)), hF.i 154 _ (h2 154 _ (by omega) (by omega) (by omega) (by omega))⟩)
/-- what making the output reads of the model -/
def MKH (t : gSt) (ad : Nat → Nat) (n : Nat) (par : Int32 → Nat) (cyc : Nat → Bool) (bo : Nat → Fo) (sv ord : Nat → Nat) (bud : Int32) : Prop := (n ≤ 24) ∧ (Lay t ad) ∧ (t.2.1 (ad 144) 11 = nI n) ∧ (t.2.1 (ad 144) 46 = bud) ∧ (∀ h, h < n → t.2.1 (ad 171) (24 * h + h) = b32 (cyc h)) ∧ (∀ k, k < n → t.2.1 (ad 173) k = nI (ord k)) ∧ (∀ g, g < n → t.2.1 (ad 147) g = nI (par (nI g))) ∧ (∃ q, t.2.1 (ad 144) 33 = nI q ∧ q ≤ 2000) ∧ (∀ f, f < n → mBd t ad f (bo f) (sv f)) ∧ (∀ f, f < n → bodyS n par (sv f) (par (nI f)) (bo f)) ∧ (∀ v, par v ≤ 6) ∧ (ordI n cyc bo ord)
theorem MKH.hn {t : gSt} {ad : Nat → Nat} {n : Nat} {par : Int32 → Nat} {cyc : Nat → Bool} {bo : Nat → Fo} {sv ord : Nat → Nat} {bud : Int32} (h : MKH t ad n par cyc bo sv ord bud) : n ≤ 24 := h.1
theorem MKH.hL {t : gSt} {ad : Nat → Nat} {n : Nat} {par : Int32 → Nat} {cyc : Nat → Bool} {bo : Nat → Fo} {sv ord : Nat → Nat} {bud : Int32} (h : MKH t ad n par cyc bo sv ord bud) : Lay t ad := h.2.1
theorem MKH.c11 {t : gSt} {ad : Nat → Nat} {n : Nat} {par : Int32 → Nat} {cyc : Nat → Bool} {bo : Nat → Fo} {sv ord : Nat → Nat} {bud : Int32} (h : MKH t ad n par cyc bo sv ord bud) : t.2.1 (ad 144) 11 = nI n := h.2.2.1
theorem MKH.c46 {t : gSt} {ad : Nat → Nat} {n : Nat} {par : Int32 → Nat} {cyc : Nat → Bool} {bo : Nat → Fo} {sv ord : Nat → Nat} {bud : Int32} (h : MKH t ad n par cyc bo sv ord bud) : t.2.1 (ad 144) 46 = bud := h.2.2.2.1
theorem MKH.c171 {t : gSt} {ad : Nat → Nat} {n : Nat} {par : Int32 → Nat} {cyc : Nat → Bool} {bo : Nat → Fo} {sv ord : Nat → Nat} {bud : Int32} (h : MKH t ad n par cyc bo sv ord bud) : ∀ h, h < n → t.2.1 (ad 171) (24 * h + h) = b32 (cyc h) := h.2.2.2.2.1
theorem MKH.c173 {t : gSt} {ad : Nat → Nat} {n : Nat} {par : Int32 → Nat} {cyc : Nat → Bool} {bo : Nat → Fo} {sv ord : Nat → Nat} {bud : Int32} (h : MKH t ad n par cyc bo sv ord bud) : ∀ k, k < n → t.2.1 (ad 173) k = nI (ord k) := h.2.2.2.2.2.1
theorem MKH.c147 {t : gSt} {ad : Nat → Nat} {n : Nat} {par : Int32 → Nat} {cyc : Nat → Bool} {bo : Nat → Fo} {sv ord : Nat → Nat} {bud : Int32} (h : MKH t ad n par cyc bo sv ord bud) : ∀ g, g < n → t.2.1 (ad 147) g = nI (par (nI g)) := h.2.2.2.2.2.2.1
theorem MKH.c33 {t : gSt} {ad : Nat → Nat} {n : Nat} {par : Int32 → Nat} {cyc : Nat → Bool} {bo : Nat → Fo} {sv ord : Nat → Nat} {bud : Int32} (h : MKH t ad n par cyc bo sv ord bud) : ∃ q, t.2.1 (ad 144) 33 = nI q ∧ q ≤ 2000 := h.2.2.2.2.2.2.2.1
theorem MKH.src {t : gSt} {ad : Nat → Nat} {n : Nat} {par : Int32 → Nat} {cyc : Nat → Bool} {bo : Nat → Fo} {sv ord : Nat → Nat} {bud : Int32} (h : MKH t ad n par cyc bo sv ord bud) : ∀ f, f < n → mBd t ad f (bo f) (sv f) := h.2.2.2.2.2.2.2.2.1
theorem MKH.bs {t : gSt} {ad : Nat → Nat} {n : Nat} {par : Int32 → Nat} {cyc : Nat → Bool} {bo : Nat → Fo} {sv ord : Nat → Nat} {bud : Int32} (h : MKH t ad n par cyc bo sv ord bud) : ∀ f, f < n → bodyS n par (sv f) (par (nI f)) (bo f) := h.2.2.2.2.2.2.2.2.2.1
theorem MKH.p6 {t : gSt} {ad : Nat → Nat} {n : Nat} {par : Int32 → Nat} {cyc : Nat → Bool} {bo : Nat → Fo} {sv ord : Nat → Nat} {bud : Int32} (h : MKH t ad n par cyc bo sv ord bud) : ∀ v, par v ≤ 6 := h.2.2.2.2.2.2.2.2.2.2.1
theorem MKH.or {t : gSt} {ad : Nat → Nat} {n : Nat} {par : Int32 → Nat} {cyc : Nat → Bool} {bo : Nat → Fo} {sv ord : Nat → Nat} {bud : Int32} (h : MKH t ad n par cyc bo sv ord bud) : ordI n cyc bo ord := h.2.2.2.2.2.2.2.2.2.2.2
theorem MKH.fr {u : gSt} (H : MKH t ad n par cyc bo sv ord bud) (hF : gFr ad mmP t u) (h33 : ∃ q, u.2.1 (ad 144) 33 = nI q ∧ q ≤ 2000) : MKH u ad n par cyc bo sv ord bud := by
  have hn := H.hn
  exact ⟨H.hn, hF.L, by rw [hF.i 144 11 (mmP_r (by omega))]; exact H.c11, by rw [hF.i 144 46 (mmP_r (by omega))]; exact H.c46, fun h hh => by rw [hF.i 171 _ (mmP_r (by omega))]; exact H.c171 h hh, fun k hk => by rw [hF.i 173 _ (mmP_r (by omega))]; exact H.c173 k hk, fun g hg => by rw [hF.i 147 _ (mmP_r (by omega))]; exact H.c147 g hg, h33, fun f hf => (H.src f hf).fr (by have := (H.bs f hf).2.1; omega) hF (fun c hc => mmP_r (by omega)) (fun c k h1 h2 h3 h4 => mmP_r (by omega)), H.bs, H.p6, H.or⟩
theorem MKH.fr0 {u : gSt} {P : Nat → Nat → Bool} (H : MKH t ad n par cyc bo sv ord bud) (hF : gFr ad P t u) (hP : ∀ c k, P c k = true → mmP c k = true ∧ ¬ (c = 144 ∧ k = 33)) : MKH u ad n par cyc bo sv ord bud := by
  refine H.fr (hF.mo (fun c k q => (hP c k q).1)) ?_
  obtain ⟨q, h1, h2⟩ := H.c33
  refine ⟨q, ?_, h2⟩
  rw [hF.i 144 33 (by
    cases e : P 144 33 with
    | false => rfl
    | true => exact absurd ⟨rfl, rfl⟩ (hP _ _ e).2)]
  exact h1
/-- copying -/
theorem mm_copy {l2 : Int32} (H : MKH t ad n par cyc bo sv ord bud) (h : ∀ u, gFr ad mmP t u → u.2.1 (ad 144) 54 = t.2.1 (ad 144) 54 → MKH u ad n par cyc bo sv ord bud → (∀ f, f < n → mBd u ad (24 + f) (bo f) (sv f) ∧ u.2.1 (ad 150) f = 0) → g_W cx (g_E cx (d + 1)) mt_Mo_make post (52, [some (.ref (ad 144)), some (.int mode), some (.int l2), some (.int 0)], [], u, 0, 0)) : g_W cx (g_E cx (d + 1)) mt_Mo_make post (20, [some (.ref (ad 144)), some (.int mode), some (.int l2), some (.int (nI 0))], [], t, 0, 0) := by
  have hn := H.hn
  have key : ∀ (j i : Nat) (u : gSt), i + j = n → gFr ad mmP t u → u.2.1 (ad 144) 54 = t.2.1 (ad 144) 54 → MKH u ad n par cyc bo sv ord bud → (∀ f, f < i → mBd u ad (24 + f) (bo f) (sv f) ∧ u.2.1 (ad 150) f = 0) → g_W cx (g_E cx (d + 1)) mt_Mo_make post (20, [some (.ref (ad 144)), some (.int mode), some (.int l2), some (.int (nI i))], [], u, 0, 0) := by
    intro j
    induction j with
    | zero =>
      intro i u hi hF h54 Hu hf
      refine x_Mo_make_20 hF.L ⟨fun _ => h u hF h54 Hu (fun f hf' => hf f (by omega)), fun c => ?_⟩
      rw [Hu.c11, nI_leI (by omega) (by omega)] at c
      omega
    | succ j ih =>
      intro i u hi hF h54 Hu hf
      refine x_Mo_make_20 hF.L ⟨fun c => ?_, fun _ => ?_⟩
      · rw [Hu.c11, nI_leI (by omega) (by omega)] at c
        omega
      · rw [show (24 : Int32) + nI i = nI (24 + i) by rw [show (24 : Int32) = nI 24 from rfl, nI_add]]
        have hb5 := (H.bs i (by omega)).2.1
        refine m_copyAll (x := i) (y := 24 + i) (B := bo i) (by omega) (by omega) (by omega) hF.L (by omega) (Hu.src i (by omega)).toN (fun u2 F2 B2 v2 => ⟨rfl, F2.L, vp_in_nI (by omega) (by omega), fun t3 e3 => ?_⟩)
        rw [nI_clamp (by omega)] at e3
        rw [nI_1]
        have F3 : gFr ad (fun c k => myP (24 + i) c k || (Nat.beq c 150 && Nat.beq k i)) u t3 := by
          rw [e3]
          exact (F2.mo (fun c k q => by rw [q]; rfl)).si (by simp)
        have P3 : ∀ c k, (myP (24 + i) c k || (Nat.beq c 150 && Nat.beq k i)) = true → ((c = 148 ∨ c = 149 ∨ c = 156) ∧ k = 24 + i) ∨ (151 ≤ c ∧ c ≤ 155 ∧ 1300 * (24 + i) ≤ k ∧ k ≤ 1300 * (24 + i) + 1299) ∨ (c = 150 ∧ k = i) := fun c k q => by
          rw [Bool.or_eq_true, Bool.and_eq_true, Nat.beq_eq, Nat.beq_eq] at q
          rcases q with q | q
          · have := myP_in q; omega
          · omega
        have P3r : ∀ c k, ¬ (((c = 148 ∨ c = 149 ∨ c = 156) ∧ k = 24 + i) ∨ (151 ≤ c ∧ c ≤ 155 ∧ 1300 * (24 + i) ≤ k ∧ k ≤ 1300 * (24 + i) + 1299) ∨ (c = 150 ∧ k = i)) → (myP (24 + i) c k || (Nat.beq c 150 && Nat.beq k i)) = false := fun c k q => by
          cases e : (myP (24 + i) c k || (Nat.beq c 150 && Nat.beq k i)) with
          | false => rfl
          | true => exact absurd (P3 c k e) q
        have hmm : ∀ c k, (myP (24 + i) c k || (Nat.beq c 150 && Nat.beq k i)) = true → mmP c k = true ∧ ¬ (c = 144 ∧ k = 33) := fun c k q => by
          have := P3 c k q
          exact ⟨mmP_t (by omega), by omega⟩
        refine ih (i + 1) t3 (by omega) (hF.tr (F3.mo (fun c k q => (hmm c k q).1))) (by rw [F3.i 144 54 (P3r _ _ (by omega))]; exact h54) (Hu.fr0 F3 hmm) (fun f hf' => ?_)
        by_cases c : f = i
        · subst c
          have n3 : ∀ c k, c ≠ 150 → c < 199 → t3.2.1 (ad c) k = u2.2.1 (ad c) k := fun c k hc hl => by rw [e3, g_rd_ne (F2.L.ne c 150 hl (by decide) hc)]
          have B3 : mBd u2 ad (24 + f) (bo f) (sv f) := B2.toD (by rw [v2]; exact (Hu.src f (by omega)).2.1)
          refine ⟨B3.fr (P := fun c k => Nat.beq c 150) (by omega) ?_ (fun c hc => ?_) (fun c k h1 h2 _ _ => ?_), by rw [e3, g_rd_at]⟩
          · rw [e3]; exact (gFr.rf F2.L).si rfl
          · rcases hc with rfl | rfl | rfl <;> rfl
          · exact Bool.eq_false_iff.mpr (fun q => by have := Nat.beq_eq.mp q; omega)
        · have := hf f (by omega)
          exact ⟨this.1.fr (by have := (H.bs f (by omega)).2.1; omega) F3 (fun c hc => P3r _ _ (by omega)) (fun c k h1 h2 h3 h4 => P3r _ _ (by omega)), by rw [F3.i 150 f (P3r _ _ (by omega))]; exact this.2⟩
  exact key n 0 t (by omega) (gFr.rf H.hL) rfl H (fun f hf => by omega)
theorem iC_of {tab : Nat → Prop} : ∀ (F : Fo) (S : Nat → List Int32), fo_w n par F S → (∀ w ∈ fo_g F, ∀ g, w = nI g → g < n → cyc g = true ∨ tab g) → fo_v n par (iC n cyc tab) F
  | .leaf, _, _, _ => trivial
  | .inner z k v a b, S, hw, hg => by
    obtain ⟨w1, w2, w3, w4, w5, w6⟩ := hw
    have eg : fo_g (.inner z k v a b) = fo_g a ++ (if k = 15 then [v] else []) ++ fo_g b := rfl
    rw [eg] at hg
    refine ⟨⟨w1, w2, w4, fun c => ?_⟩, iC_of a _ w5 (fun w hw => hg w (List.mem_append.mpr (Or.inl (List.mem_append.mpr (Or.inl hw))))), iC_of b _ w6 (fun w hw => hg w (List.mem_append.mpr (Or.inr hw)))⟩
    obtain ⟨g, e, hgn⟩ := w4 c
    exact ⟨g, e, hgn, hg v (List.mem_append.mpr (Or.inl (List.mem_append.mpr (Or.inr (by rw [if_pos c]; exact List.mem_singleton.mpr rfl))))) g e hgn⟩
/-- inlining, in the order -/
theorem mm_inl (H : MKH t ad n par cyc bo sv ord bud) (hm1 : (mode &&& 1) = 1) (hc : ∀ f, f < n → mBd t ad (24 + f) (bo f) (sv f) ∧ t.2.1 (ad 150) f = 0) (h : ∀ u, gFr ad mmP t u → u.2.1 (ad 144) 54 = t.2.1 (ad 144) 54 → MKH u ad n par cyc bo sv ord bud → (∀ f, f < n → mBd u ad (24 + f) (inlS cyc bud par bo sv ord n f).1 (inlS cyc bud par bo sv ord n f).2.1 ∧ u.2.1 (ad 150) f = nI (inlS cyc bud par bo sv ord n f).2.2) → g_W cx (g_E cx (d + 3)) mt_Mo_make post (99, [some (.ref (ad 144)), some (.int mode), some (.int (nI (itot cyc bud par bo sv ord n))), some (.int 0)], [], u, 0, 0)) : g_W cx (g_E cx (d + 3)) mt_Mo_make post (52, [some (.ref (ad 144)), some (.int mode), some (.int (nI 0)), some (.int (nI 0))], [], t, 0, 0) := by
  have hn := H.hn
  have ho := H.or
  have key : ∀ (j i : Nat) (u : gSt), i + j = n → gFr ad mmP t u → u.2.1 (ad 144) 54 = t.2.1 (ad 144) 54 → MKH u ad n par cyc bo sv ord bud → (∀ f, f < n → (∃ q, q < i ∧ ord q = f) → mBd u ad (24 + f) (inlS cyc bud par bo sv ord i f).1 (inlS cyc bud par bo sv ord i f).2.1 ∧ u.2.1 (ad 150) f = nI (inlS cyc bud par bo sv ord i f).2.2) → (∀ f, f < n → ¬ (∃ q, q < i ∧ ord q = f) → mBd u ad (24 + f) (bo f) (sv f) ∧ u.2.1 (ad 150) f = 0) → g_W cx (g_E cx (d + 3)) mt_Mo_make post (52, [some (.ref (ad 144)), some (.int mode), some (.int (nI (itot cyc bud par bo sv ord i))), some (.int (nI i))], [], u, 0, 0) := by
    intro j
    induction j with
    | zero =>
      intro i u hi hF h54 Hu hd hu
      have hi : i = n := by omega
      subst hi
      refine x_Mo_make_52 hF.L ⟨fun _ => h u hF h54 Hu (fun f hf => hd f hf (ho.2.2.1 f hf)), fun c => ?_⟩
      rw [Hu.c11] at c
      exact absurd (Int32.le_refl _) c
    | succ j ih =>
      intro i u hi hF h54 Hu hd hu
      have hg := ho.1 i (by omega)
      have hnot : ¬ (∃ q, q < i ∧ ord q = ord i) := fun ⟨q, q1, q2⟩ => by have := ho.2.1 q i (by omega) (by omega) q2; omega
      have hcur := hu (ord i) hg hnot
      have okP : ∀ h, okI cyc bud (inlS cyc bud par bo sv ord i) h = true → ∃ q, q < i ∧ ord q = h := fun h hh => by
        refine Classical.byContradiction (fun c => ?_)
        have := inlS_no (cyc := cyc) (lim := bud) (par := par) (bo := bo) (sv := sv) (ord := ord) i h (fun q q1 q2 => c ⟨q, q1, q2⟩)
        unfold okI at hh
        rw [this] at hh
        have e : decide (fo_l ((.leaf, 0, 0) : IR).1 = 1) = false := rfl
        rw [e, Bool.and_false, Bool.and_false] at hh
        cases hh
      refine x_Mo_make_52 hF.L ⟨fun c => ?_, fun _ => ⟨fun c => absurd hm1 c, fun _ => ⟨vp_in_nI (by omega) (by omega), ?_⟩⟩⟩
      · rw [Hu.c11, nI_leI (by omega) (by omega)] at c
        omega
      · rw [nI_clamp (by omega), Hu.c173 i (by omega)]
        refine m_minline (d := d) (g := ord i) (n := n) (par := par) (lim := bud) (cyc := cyc) (bo := bo) (sv := sv) (rs := inlS cyc bud par bo sv ord i) (tab := fun h => ∃ q, q < i ∧ ord q = h) hg hn hF.L Hu.c46 Hu.c171 hcur.1 (H.bs _ hg) H.p6 (fun h hh ht => (hd h hh ht).1) (fun h hh => inlS_ok hn H.bs ho i (by omega) h (okP h hh)) (fun h ht => (inlS_ok hn H.bs ho i (by omega) h ht).1) (iC_of _ _ (H.bs _ hg).2.2.2.2.2.1 (fun w hw g e hgn => ho.2.2.2 i g (by omega) hgn (by rw [← e]; exact hw))) hcur.2 (fun u2 F2 B2 v2 => ⟨rfl, F2.L, vp_in_nI (by omega) (by omega), ?_⟩)
        have hmm : ∀ c k, mzP (ord i) c k = true → mmP c k = true ∧ ¬ (c = 144 ∧ k = 33) := fun c k q => by
          have := mzP_in q
          exact ⟨mmP_t (by omega), by omega⟩
        have H2 := Hu.fr0 F2 hmm
        rw [H2.c173 i (by omega), nI_clamp (by omega), v2, nI_add, nI_1]
        refine ⟨vp_in_nI (by omega) (by omega), fun x3 e3 => ?_⟩
        subst e3
        refine ih (i + 1) u2 (by omega) (hF.tr (F2.mo (fun c k q => (hmm c k q).1))) (by rw [F2.i 144 54 (mzP_r (by omega))]; exact h54) H2 (fun f hf hq => ?_) (fun f hf hq => ?_)
        · rw [inlS_s]
          by_cases c : f = ord i
          · rw [if_pos c, c]
            exact ⟨B2, v2⟩
          · rw [if_neg c]
            have hq' : ∃ q, q < i ∧ ord q = f := by
              obtain ⟨q, q1, q2⟩ := hq
              refine ⟨q, ?_, q2⟩
              by_cases c2 : q = i
              · rw [c2] at q2; exact absurd q2.symm c
              · omega
            have := hd f hf hq'
            have h5 := (inlS_ok (lim := bud) hn H.bs ho i (by omega) f hq').2.1
            exact ⟨this.1.fr (by omega) F2 (fun c hc => mzP_r (by omega)) (fun c k h1 h2 h3 h4 => mzP_r (by omega)), by rw [F2.i 150 f (mzP_r (by omega))]; exact this.2⟩
        · have c : f ≠ ord i := fun e => hq ⟨i, by omega, e.symm⟩
          have := hu f hf (fun ⟨q, q1, q2⟩ => hq ⟨q, by omega, q2⟩)
          exact ⟨this.1.fr (by have := (H.bs f hf).2.1; omega) F2 (fun c hc => mzP_r (by omega)) (fun c k h1 h2 h3 h4 => mzP_r (by omega)), by rw [F2.i 150 f (mzP_r (by omega))]; exact this.2⟩
  exact key n 0 t (by omega) (gFr.rf H.hL) rfl H (fun f hf ⟨q, q1, _⟩ => absurd q1 (Nat.not_lt_zero _)) (fun f hf _ => hc f hf)
/-- folding -/
theorem mm_fold {l2 : Int32} {rs : Nat → IR} (H : MKH t ad n par cyc bo sv ord bud) (hm2 : (mode &&& 2) = 2) (hc : ∀ f, f < n → mBd t ad (24 + f) (rs f).1 (rs f).2.1 ∧ t.2.1 (ad 150) f = nI (rs f).2.2) (hb' : ∀ f, f < n → bodyS n par (rs f).2.1 (par (nI f)) (rs f).1) (h : ∀ u, gFr ad mmP t u → u.2.1 (ad 144) 54 = t.2.1 (ad 144) 54 → MKH u ad n par cyc bo sv ord bud → (∀ f, f < n → mBd u ad (24 + f) (fdT (rs f).1) (rs f).2.1 ∧ u.2.1 (ad 150) f = nI (rs f).2.2) → g_W cx (g_E cx (d + 4)) mt_Mo_make post (130, [some (.ref (ad 144)), some (.int mode), some (.int l2), some (.int 0)], [], u, 0, 0)) : g_W cx (g_E cx (d + 4)) mt_Mo_make post (99, [some (.ref (ad 144)), some (.int mode), some (.int l2), some (.int (nI 0))], [], t, 0, 0) := by
  have hn := H.hn
  have key : ∀ (j i : Nat) (u : gSt), i + j = n → gFr ad mmP t u → u.2.1 (ad 144) 54 = t.2.1 (ad 144) 54 → MKH u ad n par cyc bo sv ord bud → (∀ f, f < i → mBd u ad (24 + f) (fdT (rs f).1) (rs f).2.1 ∧ u.2.1 (ad 150) f = nI (rs f).2.2) → (∀ f, i ≤ f → f < n → mBd u ad (24 + f) (rs f).1 (rs f).2.1 ∧ u.2.1 (ad 150) f = nI (rs f).2.2) → g_W cx (g_E cx (d + 4)) mt_Mo_make post (99, [some (.ref (ad 144)), some (.int mode), some (.int l2), some (.int (nI i))], [], u, 0, 0) := by
    intro j
    induction j with
    | zero =>
      intro i u hi hF h54 Hu hd hu
      refine x_Mo_make_99 hF.L ⟨fun _ => h u hF h54 Hu (fun f hf => hd f (by omega)), fun c => ?_⟩
      rw [Hu.c11, nI_leI (by omega) (by omega)] at c
      omega
    | succ j ih =>
      intro i u hi hF h54 Hu hd hu
      have hcur := hu i (Nat.le_refl _) (by omega)
      refine x_Mo_make_99 hF.L ⟨fun c => ?_, fun _ => ⟨fun c => absurd hm2 c, fun _ => ?_⟩⟩
      · rw [Hu.c11, nI_leI (by omega) (by omega)] at c
        omega
      · rw [show (24 : Int32) + nI i = nI (24 + i) by rw [show (24 : Int32) = nI 24 from rfl, nI_add]]
        refine m_mfold (d := d) (x := 24 + i) (n := n) (par := par) (by omega) hF.L hcur.1.toN (hb' i (by omega)) (fun u2 F2 B2 => ⟨rfl, F2.L, ?_⟩)
        rw [nI_1]
        have hmm : ∀ c k, mfdP (24 + i) c k = true → mmP c k = true ∧ ¬ (c = 144 ∧ k = 33) := fun c k q => by
          have := mfdP_in q
          exact ⟨mmP_t (by omega), by omega⟩
        refine ih (i + 1) u2 (by omega) (hF.tr (F2.mo (fun c k q => (hmm c k q).1))) (by rw [F2.i 144 54 (mfdP_r (by omega))]; exact h54) (Hu.fr0 F2 hmm) (fun f hf => ?_) (fun f hf hfn => ?_)
        · by_cases c : f = i
          · subst c
            exact ⟨B2.toD (by rw [F2.i 149 _ (mfdP_r (by omega))]; exact hcur.1.2.1), by rw [F2.i 150 f (mfdP_r (by omega))]; exact hcur.2⟩
          · have := hd f (by omega)
            have h5 := (hb' f (by omega)).2.1
            have h6 := fdT_n (rs f).1
            exact ⟨this.1.fr (by omega) F2 (fun c hc => mfdP_r (by omega)) (fun c k h1 h2 h3 h4 => mfdP_r (by omega)), by rw [F2.i 150 f (mfdP_r (by omega))]; exact this.2⟩
        · have := hu f (by omega) hfn
          have h5 := (hb' f hfn).2.1
          exact ⟨this.1.fr (by omega) F2 (fun c hc => mfdP_r (by omega)) (fun c k h1 h2 h3 h4 => mfdP_r (by omega)), by rw [F2.i 150 f (mfdP_r (by omega))]; exact this.2⟩
  exact key n 0 t (by omega) (gFr.rf H.hL) rfl H (fun f hf => by omega) (fun f _ hf => hc f hf)
end MY
