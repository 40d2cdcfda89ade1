/-! MAKING THE OUTPUT: the model's code and bounds -/
def codM (t : gSt) (ad : Nat → Nat) (x : Nat) (tl : Bool) (own P : Nat) (F : Fo) : Prop := RMc t ad x (eTC tl own P F) ∧ t.2.1 (ad 185) x = nI (eTZ P F) ∧ t.2.1 (ad 186) x = nI (eTM tl F)
section MW
variable {cx : gCx} {d : Nat} {ad : Nat → Nat} {t : gSt} {post : Option Value → gSt → Prop} {n : Nat} {par : Int32 → Nat} {cyc : Nat → Bool} {bo : Nat → Fo} {sv : Nat → Nat} {ord : Nat → Nat} {m1 m2 tl : Bool} {bud mode : Int32}
theorem wr_far {f : Nat → Int32} {u : Nat} {l : List Int32} {j : Nat} (h : j < u ∨ u + l.length ≤ j) : wr f u l j = f j := by
  unfold wr
  split
  · rw [List.getElem?_eq_none (by omega)]
    rfl
  · rfl
theorem codM.fr {u : gSt} {P : Nat → Nat → Bool} {x own Q : Nat} {F : Fo} (h : codM t ad x tl own Q F) (hF : gFr ad P t u) (hP : ∀ c k, 182 ≤ c → c ≤ 186 → P c k = false) : codM u ad x tl own Q F := by
  obtain ⟨⟨a1, a2, a3⟩, b1, b2⟩ := h
  refine ⟨⟨by rw [hF.i 184 x (hP _ _ (by omega) (by omega))]; exact a1, a2, fun i q hq => ?_⟩, by rw [hF.i 185 x (hP _ _ (by omega) (by omega))]; exact b1, by rw [hF.i 186 x (hP _ _ (by omega) (by omega))]; exact b2⟩
  rw [hF.i 182 _ (hP _ _ (by omega) (by omega)), hF.i 183 _ (hP _ _ (by omega) (by omega))]
  exact a3 i q hq
theorem codM.oth {u : gSt} {x y own Q : Nat} {F : Fo} {l1 l2 : List Int32} (h : codM t ad x tl own Q F) (hxy : x ≠ y) (hF : gFr ad (ccP y) t u) (h182 : u.2.1 (ad 182) = wr (t.2.1 (ad 182)) (1600 * y) l1) (h183 : u.2.1 (ad 183) = wr (t.2.1 (ad 183)) (1600 * y) l2) (hl1 : l1.length ≤ 1600) (hl2 : l2.length ≤ 1600) : codM u ad x tl own Q F := by
  obtain ⟨⟨a1, a2, a3⟩, b1, b2⟩ := h
  refine ⟨⟨by rw [hF.i 184 x (ccP_r (by omega))]; exact a1, a2, fun i q hq => ?_⟩, by rw [hF.i 185 x (ccP_r (by omega))]; exact b1, by rw [hF.i 186 x (ccP_r (by omega))]; exact b2⟩
  have hi := (List.getElem?_eq_some_iff.mp hq).1
  rw [h182, h183, wr_far (by omega), wr_far (by omega)]
  exact a3 i q hq
theorem eTC_16 {V P own : Nat} {F : Fo} (h : bodyS n par V P F) : (eTC tl own P F).length ≤ 1600 := by
  have h5 := h.2.1
  have := eTC_len (tl := tl) (own := own) (P := P) h.2.2.2.2.2.1 h.1
  omega
/-- one function's code -/
theorem m_comp1 {x f V : Nat} {F : Fo} (H : MKH t ad n par cyc bo sv ord bud) (hf : f < n) (hxo : x = f ∨ x = 24 + f) (hB : mBd t ad x F V) (hbs : bodyS n par V (par (nI f)) F) (h : ∀ u, gFr ad (ccP x) t u → MKH u ad n par cyc bo sv ord bud → codM u ad x tl f (par (nI f)) F → (∀ y own Q G tl', y ≠ x → codM t ad y tl' own Q G → codM u ad y tl' own Q G) → post none u) : g_E cx (d + 3) i_Mo_compile [.ref (ad 144), .int (nI x), .int (b32 tl)] t post := by
  have hn := H.hn
  obtain ⟨q, hq, hq2⟩ := H.c33
  obtain ⟨a1, a2, N, a3, a4, a5⟩ := hB
  have hb2 := hbs
  obtain ⟨b1, b2, b3, b4, b5, b6, b7, b8⟩ := hbs
  refine m_compile (own := f) (NN := N) (fN := n) (par := par) (P := par (nI f)) (F := F) (vn := q) H.hL (by omega) (by omega) hxo (by omega) hn H.c147 (H.c147 f hf) b3 a1 a5 hq hq2 b1 b2 b6 b7 (fun w hw => by obtain ⟨j, j1, j2, j3⟩ := b8 w hw; exact ⟨j, j1, by omega⟩) (fun u Fu u182 u183 u184 u185 u186 u33 => ?_)
  have hmm : ∀ c k, ccP x c k = true → mmP c k = true := fun c k q => mmP_t (by have := ccP_in q; omega)
  have hl := eTC_16 (tl := tl) (own := f) hb2
  refine h u Fu (H.fr (Fu.mo hmm) ⟨q, u33, hq2⟩) ⟨⟨u184, hl, fun i r hr => ?_⟩, u185, u186⟩ (fun y own Q G tl' hy hc => hc.oth hy Fu u182 u183 (by rw [List.length_map]; exact hl) (by rw [List.length_map]; exact hl))
  rw [u182, u183, wr_at (x := r.1) (by rw [List.getElem?_map, hr]; rfl), wr_at (x := r.2) (by rw [List.getElem?_map, hr]; rfl)]
  exact ⟨rfl, rfl⟩
theorem mm_comp {l2 : Int32} {b : Nat → Fo} {V : Nat → Nat} {R : Nat → Int32} (H : MKH t ad n par cyc bo sv ord bud) (h54 : t.2.1 (ad 144) 54 = b32 tl) (hc : ∀ f, f < n → mBd t ad (24 + f) (b f) (V f) ∧ t.2.1 (ad 150) f = R f) (hb' : ∀ f, f < n → bodyS n par (V f) (par (nI f)) (b f))
    (h : ∀ u, gFr ad mmP t u → MKH u ad n par cyc bo sv ord bud → (∀ f, f < n → mBd u ad (24 + f) (b f) (V f) ∧ u.2.1 (ad 150) f = R f) → (∀ f, f < n → codM u ad f false f (par (nI f)) (bo f) ∧ codM u ad (24 + f) tl f (par (nI f)) (b f)) → g_E cx (d + 3) i_Mo_bounds [.ref (ad 144), .int 0] u (fun r u1 => r = none ∧ Lay u1 ad ∧ (g_E cx (d + 3) i_Mo_bounds [.ref (ad 144), .int 1] u1 (fun r u3 => r = none ∧ Lay u3 ad ∧ (post (some (.int l2)) u3))))) : g_W cx (g_E cx (d + 3)) mt_Mo_make post (130, [some (.ref (ad 144)), some (.int mode), some (.int l2), some (.int (nI 0))], [], t, 0, 0) := by
  have hn := H.hn
  have key : ∀ (j i : Nat) (u : gSt), i + j = n → gFr ad mmP t u → u.2.1 (ad 144) 54 = b32 tl → MKH u ad n par cyc bo sv ord bud → (∀ f, f < n → mBd u ad (24 + f) (b f) (V f) ∧ u.2.1 (ad 150) f = R f) → (∀ f, f < i → codM u ad f false f (par (nI f)) (bo f) ∧ codM u ad (24 + f) tl f (par (nI f)) (b f)) → g_W cx (g_E cx (d + 3)) mt_Mo_make post (130, [some (.ref (ad 144)), some (.int mode), some (.int l2), some (.int (nI i))], [], u, 0, 0) := by
    intro j
    induction j with
    | zero =>
      intro i u hi hF h54 Hu hd hcd
      refine x_Mo_make_130 hF.L ⟨fun _ => h u hF Hu hd (fun f hf => hcd f (by omega)), fun c => ?_⟩
      rw [Hu.c11, nI_leI (by omega) (by omega)] at c
      omega
    | succ j ih =>
      intro i u hi hF h54 Hu hd hcd
      refine x_Mo_make_130 hF.L ⟨fun c => ?_, fun _ => ?_⟩
      · rw [Hu.c11, nI_leI (by omega) (by omega)] at c
        omega
      · rw [show (24 : Int32) + nI i = nI (24 + i) by rw [show (24 : Int32) = nI 24 from rfl, nI_add], nI_1]
        have mb : ∀ {w v : gSt} {x : Nat}, gFr ad (ccP x) w v → (∀ f, f < n → mBd w ad (24 + f) (b f) (V f) ∧ w.2.1 (ad 150) f = R f) → (∀ f, f < n → mBd v ad (24 + f) (b f) (V f) ∧ v.2.1 (ad 150) f = R f) := fun hF hw f hf => ⟨(hw f hf).1.fr (by have := (hb' f hf).2.1; omega) hF (fun c hc => ccP_r (by omega)) (fun c k h1 h2 h3 h4 => ccP_r (by omega)), by rw [hF.i 150 f (ccP_r (by omega))]; exact (hw f hf).2⟩
        have toM : ∀ {w v : gSt} {x : Nat}, gFr ad (ccP x) w v → gFr ad mmP w v := fun hF => hF.mo (fun c k q => mmP_t (by have := ccP_in q; omega))
        have := m_comp1 (cx := cx) (d := d) (tl := false) (x := i) (f := i) (V := sv i) (F := bo i) (post := fun r u5 => r = none ∧ Lay u5 ad ∧ (g_E cx (d + 3) i_Mo_compile [.ref (ad 144), .int (nI (24 + i)), .int (u5.2.1 (ad 144) 54)] u5 (fun r u7 => r = none ∧ Lay u7 ad ∧ (g_W cx (g_E cx (d + 3)) mt_Mo_make post (130, [some (.ref (ad 144)), some (.int mode), some (.int l2), some (.int (nI (i + 1)))], [], u7, 0, 0))))) Hu (by omega) (Or.inl rfl) (Hu.src i (by omega)) (H.bs i (by omega)) (fun u2 F2 H2 c2 o2 => ⟨rfl, F2.L, ?_⟩)
        · exact this
        · have h54' : u2.2.1 (ad 144) 54 = b32 tl := by rw [F2.i 144 54 (ccP_r (by omega))]; exact h54
          rw [h54']
          refine m_comp1 (d := d) (tl := tl) (x := 24 + i) (f := i) (V := V i) (F := b i) H2 (by omega) (Or.inr rfl) (mb F2 hd i (by omega)).1 (hb' i (by omega)) (fun u3 F3 H3 c3 o3 => ⟨rfl, F3.L, ?_⟩)
          refine ih (i + 1) u3 (by omega) ((hF.tr (toM F2)).tr (toM F3)) (by rw [F3.i 144 54 (ccP_r (by omega))]; exact h54') H3 (mb F3 (mb F2 hd)) (fun f hf => ?_)
          by_cases c : f = i
          · subst c
            exact ⟨o3 _ _ _ _ _ (by omega) c2, c3⟩
          · have := hcd f (by omega)
            exact ⟨o3 _ _ _ _ _ (by omega) (o2 _ _ _ _ _ (by omega) this.1), o3 _ _ _ _ _ (by omega) (o2 _ _ _ _ _ (by omega) this.2)⟩
  exact key n 0 t (by omega) (gFr.rf H.hL) h54 H hc (fun f hf => by omega)
theorem m_make {cl0 tb0 cl1 tb1 : Nat → Nat → Bool} {fr0 bd0 fr1 bd1 : Nat → Nat} (H : MKH t ad n par cyc bo sv ord bud) (hm1 : (mode &&& 1) = 1 ↔ m1 = true) (hm2 : (mode &&& 2) = 2 ↔ m2 = true) (hm4 : (mode &&& 4) = 4 ↔ tl = true)
    (hcl0 : ∀ f g, cl0 f g = cCal (eTC false f (par (nI f)) (bo f)) g) (htb0 : ∀ f g, tb0 f g = cTal (eTC false f (par (nI f)) (bo f)) g) (hfr0 : ∀ f, f < n → fr0 f = 2 + eTZ (par (nI f)) (bo f) + eTM false (bo f)) (hM0 : ∀ f, f < n → fr0 f ≤ 2000) (hcd0 : ∀ f, f < n → cdG n (eTC false f (par (nI f)) (bo f))) (hbd0 : isBd n cl0 tb0 fr0 bd0)
    (hcl : ∀ f g, cl1 f g = cCal (eTC tl f (par (nI f)) (mkBo cyc par bo sv ord n m1 m2 bud f)) g) (htb : ∀ f g, tb1 f g = cTal (eTC tl f (par (nI f)) (mkBo cyc par bo sv ord n m1 m2 bud f)) g) (hfr : ∀ f, f < n → fr1 f = 2 + eTZ (par (nI f)) (mkBo cyc par bo sv ord n m1 m2 bud f) + eTM tl (mkBo cyc par bo sv ord n m1 m2 bud f)) (hM : ∀ f, f < n → fr1 f ≤ 2000) (hcd : ∀ f, f < n → cdG n (eTC tl f (par (nI f)) (mkBo cyc par bo sv ord n m1 m2 bud f))) (hbd : isBd n cl1 tb1 fr1 bd1)
    (h : ∀ u, gFr ad mmP t u → MKH u ad n par cyc bo sv ord bud → (∀ f, f < n → mBd u ad (24 + f) (mkBo cyc par bo sv ord n m1 m2 bud f) (mkRe cyc par bo sv ord n m1 bud f).2.1 ∧ u.2.1 (ad 150) f = nI (mkRe cyc par bo sv ord n m1 bud f).2.2) → (∀ f, f < n → codM u ad f false f (par (nI f)) (bo f) ∧ codM u ad (24 + f) tl f (par (nI f)) (mkBo cyc par bo sv ord n m1 m2 bud f)) → (∀ f, f < n → u.2.1 (ad 188) f = (if bNon n cl0 tb0 f = true then -1 else nI (bd0 f)) ∧ u.2.1 (ad 188) (24 + f) = (if bNon n cl1 tb1 f = true then -1 else nI (bd1 f))) → post (some (.int (nI (itot cyc (if m1 then bud else -1) par bo sv ord n)))) u) : g_E cx (d + 5) i_Mo_make [.ref (ad 144), .int mode] t post := by
  have hn := H.hn
  have ho := H.or
  -- the bodies
  have hRb : ∀ f, f < n → bodyS n par (mkRe cyc par bo sv ord n m1 bud f).2.1 (par (nI f)) (mkRe cyc par bo sv ord n m1 bud f).1 := fun f hf => inlS_ok hn H.bs ho n (Nat.le_refl _) f (ho.2.2.1 f hf)
  have hBb : ∀ f, f < n → bodyS n par (mkRe cyc par bo sv ord n m1 bud f).2.1 (par (nI f)) (mkBo cyc par bo sv ord n m1 m2 bud f) := fun f hf => by
    unfold mkBo
    cases m2 with
    | true => exact (hRb f hf).fold.1
    | false => exact hRb f hf
  have fin : ∀ u4, gFr ad mmP t u4 → u4.2.1 (ad 144) 54 = b32 tl → MKH u4 ad n par cyc bo sv ord bud → (∀ f, f < n → mBd u4 ad (24 + f) (mkBo cyc par bo sv ord n m1 m2 bud f) (mkRe cyc par bo sv ord n m1 bud f).2.1 ∧ u4.2.1 (ad 150) f = nI (mkRe cyc par bo sv ord n m1 bud f).2.2) → g_W cx (g_E cx (d + 4)) mt_Mo_make post (130, [some (.ref (ad 144)), some (.int mode), some (.int (nI (itot cyc (if m1 then bud else -1) par bo sv ord n))), some (.int (nI 0))], [], u4, 0, 0) := by
    intro u4 F4 k54 H4 hB4
    refine mm_comp (d := d + 1) H4 k54 hB4 hBb (fun u5 F5 H5 B5 C5 => ?_)
    have e0 : ∀ f, 24 * 0 + f = f := fun f => by omega
    have e1 : ∀ f, 24 * 1 + f = 24 + f := fun f => by omega
    refine m_bounds (d := d + 2) (wn := 0) (n := n) (fc := fun f => eTC false f (par (nI f)) (bo f)) (fr := fr0) (b := bd0) hcl0 htb0 F5.L hn (by decide) ⟨H5.c11, fun f hf => ⟨by rw [e0]; exact (C5 f hf).1.1, hcd0 f hf⟩, fun f hf => ⟨_, _, by rw [e0]; exact (C5 f hf).1.2.1, by rw [e0]; exact (C5 f hf).1.2.2, hfr0 f hf⟩⟩ hM0 hbd0 (fun u6 F6 v6 => ⟨rfl, F6.L, ?_⟩)
    have c6 : ∀ {y own Q : Nat} {G : Fo} {tl' : Bool}, codM u5 ad y tl' own Q G → codM u6 ad y tl' own Q G := fun hc => hc.fr F6 (fun c k h1 h2 => mbP_r (by omega))
    have mm6 : ∀ c k, mbP 0 c k = true → mmP c k = true ∧ ¬ (c = 144 ∧ k = 33) := fun c k q => by have := mbP_in q; exact ⟨mmP_t (by omega), by omega⟩
    have mm7 : ∀ c k, mbP 1 c k = true → mmP c k = true ∧ ¬ (c = 144 ∧ k = 33) := fun c k q => by have := mbP_in q; exact ⟨mmP_t (by omega), by omega⟩
    have H6 := H5.fr0 F6 mm6
    refine m_bounds (d := d + 2) (wn := 1) (n := n) (fc := fun f => eTC tl f (par (nI f)) (mkBo cyc par bo sv ord n m1 m2 bud f)) (fr := fr1) (b := bd1) hcl htb F6.L hn (by decide) ⟨H6.c11, fun f hf => ⟨by rw [e1]; exact (c6 (C5 f hf).2).1, hcd f hf⟩, fun f hf => ⟨_, _, by rw [e1]; exact (c6 (C5 f hf).2).2.1, by rw [e1]; exact (c6 (C5 f hf).2).2.2, hfr f hf⟩⟩ hM hbd (fun u7 F7 v7 => ⟨rfl, F7.L, ?_⟩)
    have c7 : ∀ {y own Q : Nat} {G : Fo} {tl' : Bool}, codM u6 ad y tl' own Q G → codM u7 ad y tl' own Q G := fun hc => hc.fr F7 (fun c k h1 h2 => mbP_r (by omega))
    refine h u7 (((F4.tr F5).tr (F6.mo (fun c k q => (mm6 c k q).1))).tr (F7.mo (fun c k q => (mm7 c k q).1))) (H6.fr0 F7 mm7) (fun f hf => ⟨((B5 f hf).1.fr (by have := (hBb f hf).2.1; omega) F6 (fun c hc => mbP_r (by omega)) (fun c k h1 h2 h3 h4 => mbP_r (by omega))).fr (by have := (hBb f hf).2.1; omega) F7 (fun c hc => mbP_r (by omega)) (fun c k h1 h2 h3 h4 => mbP_r (by omega)), by rw [F7.i 150 f (mbP_r (by omega)), F6.i 150 f (mbP_r (by omega))]; exact (B5 f hf).2⟩) (fun f hf => ⟨c7 (c6 (C5 f hf).1), c7 (c6 (C5 f hf).2)⟩) (fun f hf => ⟨?_, ?_⟩)
    · rw [F7.i 188 f (mbP_r (by omega))]
      have := v6 f hf
      rw [e0] at this
      exact this
    · have := v7 f hf
      rw [e1] at this
      exact this
  have go : ∀ t1, t1 = g_si t (ad 144) 54 (b32 tl) → g_W cx (g_E cx (d + 4)) mt_Mo_make post (20, [some (.ref (ad 144)), some (.int mode), some (.int (nI 0)), some (.int (nI 0))], [], t1, 0, 0) := by
    intro t1 e1
    have F1 : gFr ad (fun c k => Nat.beq c 144 && Nat.beq k 54) t t1 := by rw [e1]; exact (gFr.rf H.hL).si rfl
    have mm1 : ∀ c k, (Nat.beq c 144 && Nat.beq k 54) = true → mmP c k = true ∧ ¬ (c = 144 ∧ k = 33) := fun c k q => by
      rw [Bool.and_eq_true, Nat.beq_eq, Nat.beq_eq] at q
      exact ⟨mmP_t (by omega), by omega⟩
    have H1 := H.fr0 F1 mm1
    have F1m := F1.mo (fun c k q => (mm1 c k q).1)
    have k54 : t1.2.1 (ad 144) 54 = b32 tl := by rw [e1, g_rd_at]
    refine mm_copy (d := d + 3) H1 (fun u2 F2 k2 H2 B2 => ?_)
    have k2' := k2.trans k54
    -- after inlining or not
    have fold : ∀ u3, gFr ad mmP t u3 → u3.2.1 (ad 144) 54 = b32 tl → MKH u3 ad n par cyc bo sv ord bud → (∀ f, f < n → mBd u3 ad (24 + f) (mkRe cyc par bo sv ord n m1 bud f).1 (mkRe cyc par bo sv ord n m1 bud f).2.1 ∧ u3.2.1 (ad 150) f = nI (mkRe cyc par bo sv ord n m1 bud f).2.2) → g_W cx (g_E cx (d + 4)) mt_Mo_make post (99, [some (.ref (ad 144)), some (.int mode), some (.int (nI (itot cyc (if m1 then bud else -1) par bo sv ord n))), some (.int (nI 0))], [], u3, 0, 0) := by
      intro u3 F3 k3 H3 B3
      cases hm : m2 with
      | true =>
        have e : ∀ f, mkBo cyc par bo sv ord n m1 m2 bud f = fdT (mkRe cyc par bo sv ord n m1 bud f).1 := fun f => by unfold mkBo; rw [hm]; rfl
        refine mm_fold (d := d) H3 (hm2.mpr hm) B3 hRb (fun u4 F4 k4 H4 B4 => fin u4 (F3.tr F4) (k4.trans k3) H4 (fun f hf => ?_))
        rw [e]
        exact B4 f hf
      | false =>
        have e : ∀ f, mkBo cyc par bo sv ord n m1 m2 bud f = (mkRe cyc par bo sv ord n m1 bud f).1 := fun f => by unfold mkBo; rw [hm]; rfl
        have f4 := fin u3 F3 k3 H3 (fun f hf => by rw [e]; exact B3 f hf)
        exact x_Mo_make_99 H3.hL ⟨fun _ => f4, fun _ => ⟨fun _ => f4, fun c => absurd (hm2.mp (Classical.not_not.mp c)) (by rw [hm]; decide)⟩⟩
    cases hm : m1 with
    | true =>
      have eR : ∀ f, mkRe cyc par bo sv ord n m1 bud f = inlS cyc bud par bo sv ord n f := fun f => by unfold mkRe; rw [hm]; rfl
      have eL : (if m1 = true then bud else -1) = bud := by rw [hm]; rfl
      refine mm_inl (d := d + 1) H2 (hm1.mpr hm) B2 (fun u3 F3 k3 H3 B3 => ?_)
      have := fold u3 ((F1m.tr F2).tr F3) (k3.trans k2') H3 (fun f hf => by rw [eR]; exact B3 f hf)
      rw [eL] at this
      exact this
    | false =>
      have hz := inlS_m1 (cyc := cyc) H.bs ho.1 n (Nat.le_refl _)
      have eR : ∀ f, f < n → mkRe cyc par bo sv ord n m1 bud f = (bo f, sv f, 0) := fun f hf => by
        unfold mkRe
        rw [hm]
        exact hz.2.1 f (ho.2.2.1 f hf)
      have eL : (if m1 = true then bud else -1) = -1 := by rw [hm]; rfl
      have f3 := fold u2 (F1m.tr F2) k2' H2 (fun f hf => by rw [eR f hf]; exact B2 f hf)
      rw [eL, hz.2.2] at f3
      exact x_Mo_make_52 H2.hL ⟨fun _ => f3, fun _ => ⟨fun _ => f3, fun c => absurd (hm1.mp (Classical.not_not.mp c)) (by rw [hm]; decide)⟩⟩
  refine x_Mo_make H.hL ⟨fun c t1 e1 => go t1 ?_, fun c t2 e2 => go t2 ?_⟩
  · have : tl = false := by cases e : tl with | false => rfl | true => exact absurd (hm4.mpr e) c
    rw [this]; exact e1
  · rw [hm4.mp (Classical.not_not.mp c)]; exact e2
end MW
