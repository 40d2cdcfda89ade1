/-! MAKING THE OUTPUT: the class -/
theorem inF_id {ok : Nat → Bool} {par : Int32 → Nat} {bd : Nat → Fo} {bV : Nat → Nat} (hok : ∀ g, ok g = false) : ∀ (F : Fo) (s : IS), inF ok par bd bV F s = (F, s)
  | .leaf, _ => rfl
  | .inner z k v a b, s => by
    rw [inF_n (fun c => by
      have := c.2
      unfold iMay at this
      rw [hok, Bool.false_and] at this
      cases this), inF_id hok a s, inF_id hok b s]
section MZ
variable {cyc : Nat → Bool} {par : Int32 → Nat} {bo : Nat → Fo} {sv : Nat → Nat} {ord : Nat → Nat} {n : Nat}
theorem okI_m1 {rs : Nat → IR} (h : ∀ g, fo_n (rs g).1 ≤ 500) (g : Nat) : okI cyc (-1) rs g = false := by
  unfold okI
  rw [decide_eq_false (fun c => by
    have h5 := h g
    have h0 := nI_pos (n := fo_n (rs g).1) (by omega)
    exact h0 (Int32.lt_of_le_of_lt c (by decide))), Bool.false_and, Bool.and_false]
theorem inlS_m1 (hb' : ∀ f, f < n → bodyS n par (sv f) (par (nI f)) (bo f)) (ho : ∀ k, k < n → ord k < n) : ∀ k, k ≤ n → (∀ g, fo_n (inlS cyc (-1) par bo sv ord k g).1 ≤ 500) ∧ (∀ g, (∃ j, j < k ∧ ord j = g) → inlS cyc (-1) par bo sv ord k g = (bo g, sv g, 0)) ∧ itot cyc (-1) par bo sv ord k = 0
  | 0, _ => ⟨fun _ => Nat.zero_le _, (fun g ⟨j, hj, _⟩ => absurd hj (Nat.not_lt_zero _)), rfl⟩
  | k + 1, hk => by
    obtain ⟨h1, h2, h3⟩ := inlS_m1 hb' ho k (by omega)
    have e : inl cyc (-1) par bo sv (inlS cyc (-1) par bo sv ord k) (ord k) = (bo (ord k), sv (ord k), 0) := by
      unfold inl
      rw [inF_id (okI_m1 h1)]
    have hs : ∀ g, inlS cyc (-1) par bo sv ord (k + 1) g = if g = ord k then (bo (ord k), sv (ord k), 0) else inlS cyc (-1) par bo sv ord k g := fun g => by rw [inlS_s, e]
    refine ⟨fun g => ?_, fun g ⟨j, hj, ej⟩ => ?_, ?_⟩
    · rw [hs]
      split
      · exact (hb' (ord k) (ho k (by omega))).2.1
      · exact h1 g
    · rw [hs]
      by_cases c : g = ord k
      · rw [if_pos c, c]
      · rw [if_neg c]
        refine h2 g ⟨j, ?_, ej⟩
        by_cases c2 : j = k
        · rw [c2] at ej; exact absurd ej.symm c
        · omega
    · show itot cyc (-1) par bo sv ord k + (inl cyc (-1) par bo sv (inlS cyc (-1) par bo sv ord k) (ord k)).2.2 = 0
      rw [e, h3]
      rfl
end MZ
/-- what function f of the output is -/
def mkRe (cyc : Nat → Bool) (par : Int32 → Nat) (bo : Nat → Fo) (sv : Nat → Nat) (ord : Nat → Nat) (n : Nat) (m1 : Bool) (bud : Int32) (f : Nat) : IR := inlS cyc (if m1 then bud else -1) par bo sv ord n f
def mkBo (cyc : Nat → Bool) (par : Int32 → Nat) (bo : Nat → Fo) (sv : Nat → Nat) (ord : Nat → Nat) (n : Nat) (m1 m2 : Bool) (bud : Int32) (f : Nat) : Fo := if m2 then fdT (mkRe cyc par bo sv ord n m1 bud f).1 else (mkRe cyc par bo sv ord n m1 bud f).1
theorem catC_len {fc : Nat → List (Int32 × Int32)} {K : Nat} : ∀ n, (∀ f, f < n → (fc f).length ≤ K) → (catC fc n).length ≤ n * K
  | 0, _ => by
    show ([] : List (Int32 × Int32)).length ≤ 0 * K
    simp
  | n + 1, h => by
    have ih := catC_len n (fun f hf => h f (by omega))
    unfold catC at ih ⊢
    rw [List.range_succ, List.map_append, List.flatten_append, List.length_append]
    have := h n (by omega)
    simp only [List.map_cons, List.map_nil, List.flatten_cons, List.flatten_nil, List.append_nil]
    rw [Nat.succ_mul]
    omega
def omP (c _k : Nat) : Bool := (Nat.ble 47 c && Nat.ble c 82) || (Nat.ble 96 c && Nat.ble c 111)
theorem omP_in {c k : Nat} (h : omP c k = true) : (47 ≤ c ∧ c ≤ 82) ∨ (96 ≤ c ∧ c ≤ 111) := by
  unfold omP at h
  simp only [Bool.or_eq_true, Bool.and_eq_true, Nat.ble_eq] at h
  exact h
theorem omP_t {c k : Nat} (h : (47 ≤ c ∧ c ≤ 82) ∨ (96 ≤ c ∧ c ≤ 111)) : omP c k = true := by
  unfold omP
  simp only [Bool.or_eq_true, Bool.and_eq_true, Nat.ble_eq]
  exact h
theorem omP_r {c k : Nat} (h : ¬ ((47 ≤ c ∧ c ≤ 82) ∨ (96 ≤ c ∧ c ≤ 111))) : omP c k = false := by
  cases e : omP c k with
  | false => rfl
  | true => exact absurd (omP_in e) h
theorem bodyS.C {n : Nat} {par : Int32 → Nat} {V P : Nat} {F : Fo} (h : bodyS n par V P F) : bodyC n par P F := by
  obtain ⟨b1, b2, b3, b4, b5, b6, b7, b8⟩ := h
  exact ⟨b1, b2, b3, b6, b7, fun w hw => by obtain ⟨j, j1, j2, j3⟩ := b8 w hw; exact ⟨j, j1, by omega⟩⟩
/-- the output's functions in the class -/
def oOut (t : gSt) (ad : Nat → Nat) (n : Nat) (par : Int32 → Nat) (nm : Nat → Int64) (r : Nat → IR) (b : Nat → Fo) (tl : Bool) (U : Nat → Int32) : Prop :=
  t.2.1 (ad 96) 15 = nI n ∧ ∀ f, f < n → oFn t ad f (nm f) (par (nI f)) (b f, (r f).2.1, (r f).2.2) ∧ codeAt t ad 96 tl par b f ∧ t.2.1 (ad 107) f = U f
section MX
variable {cx : gCx} {d : Nat} {ad : Nat → Nat} {t : gSt} {post : Option Value → gSt → Prop} {p n : Nat} {par : Int32 → Nat} {nm : Nat → Int64} {cyc : Nat → Bool} {bo : Nat → Fo} {sv : Nat → Nat} {ord : Nat → Nat} {m1 m2 tl : Bool} {bud mode : Int32}
theorem oFn.mo {u : gSt} {P : Nat → Nat → Bool} {f : Nat} {nm : Int64} {Q : Nat} {r : IR} (h : oFn t ad f nm Q r) (hF : gFr ad P t u) (hP : ∀ c k, (97 ≤ c ∧ c ≤ 102) ∨ c = 108 ∨ c = 109 → P c k = false) : oFn u ad f nm Q r := by
  obtain ⟨o1, o2, o3, o4, o5, o6, o7⟩ := h
  refine ⟨?_, ?_, ?_, ?_, ?_, ?_, fun i q hq => ?_⟩
  · rw [hF.j 97 f (hP _ _ (by omega))]; exact o1
  · rw [hF.i 98 f (hP _ _ (by omega))]; exact o2
  · rw [hF.i 99 f (hP _ _ (by omega))]; exact o3
  · rw [hF.i 100 f (hP _ _ (by omega))]; exact o4
  · rw [hF.i 101 f (hP _ _ (by omega))]; exact o5
  · rw [hF.i 102 f (hP _ _ (by omega))]; exact o6
  · rw [hF.i 108 _ (hP _ _ (by omega)), hF.i 109 _ (hP _ _ (by omega))]
    exact o7 i q hq
theorem m_makeOut {cl tb : Nat → Nat → Bool} {fr bd : Nat → Nat} (hp : isP p) (hp96 : p ≠ 96) (hn : n ≤ 24) (hL : Lay t ad) (h11 : t.2.2.2 (ad 0) 11 = some (ad p)) (h15 : t.2.1 (ad 0) 15 = bud) (hcy : ∀ g, g < n → hb (t.2.1 (ad 20) g) g = cyc g) (hRp : RPar t ad p n par) (hpar6 : ∀ v, par v ≤ 6) (hS : ∀ f, f < n → sFn t ad p f (nm f) (sv f) (bo f)) (hbs : ∀ f, f < n → bodyS n par (sv f) (par (nI f)) (bo f)) (ho : ordI n cyc bo ord) (h18 : ∀ k, k < n → t.2.1 (ad 18) k = nI (ord k)) (h76 : ∀ j, ¬ t.2.1 (ad 76) j < 0)
    (hm1 : (mode &&& 1) = 0 ↔ m1 = false) (hm2 : (mode &&& 2) = 0 ↔ m2 = false) (hm4 : (mode &&& 4) = 0 ↔ tl = false)
    (hcl : ∀ f g, cl f g = cCal (eTC tl f (par (nI f)) (mkBo cyc par bo sv ord n m1 m2 bud f)) g) (htb : ∀ f g, tb f g = cTal (eTC tl f (par (nI f)) (mkBo cyc par bo sv ord n m1 m2 bud f)) g) (hfr : ∀ f, f < n → fr f = 2 + eTZ (par (nI f)) (mkBo cyc par bo sv ord n m1 m2 bud f) + eTM tl (mkBo cyc par bo sv ord n m1 m2 bud f)) (hM : ∀ f, f < n → fr f ≤ 2000) (hcd : ∀ f, f < n → cdG n (eTC tl f (par (nI f)) (mkBo cyc par bo sv ord n m1 m2 bud f))) (hbd : isBd n cl tb fr bd)
    (h : ∀ u, gFr ad omP t u → oOut u ad n par nm (mkRe cyc par bo sv ord n m1 bud) (mkBo cyc par bo sv ord n m1 m2 bud) tl (fun f => if bNon n cl tb f = true then -1 else nI (bd f)) → (∀ f, f < n → bodyS n par (mkRe cyc par bo sv ord n m1 bud f).2.1 (par (nI f)) (mkBo cyc par bo sv ord n m1 m2 bud f)) → (∀ j, ¬ u.2.1 (ad 76) j < 0) → post (some (.int (nI (itot cyc (if m1 then bud else -1) par bo sv ord n)))) u) : g_E cx (d + 8) i_Tr_makeOutput [.ref (ad 0), .int mode] t post := by
  have go : g_W cx (g_E cx (d + 7)) mt_Tr_makeOutput post (14, [some (.ref (ad 0)), some (.int mode), none, none], [.int (if m1 then bud else -1)], t, 0, 0) := by
    refine x_Tr_makeOutput_14 hp hL h11 ?_
    refine m_inlineAll (d := d + 1) (lim := if m1 then bud else -1) hp hp96 hn hL hcy hRp hpar6 hS hbs ho h18 (fun u1 F1 c1 o1 => ⟨_, rfl, F1.L, ?_⟩)
    have F1o : gFr ad omP t u1 := F1.mo (fun c k q => omP_t (by have := ivP_in q; omega))
    have rest : ∀ u3, gFr ad omP t u3 → u3.2.1 (ad 96) 15 = nI n → (∀ j, ¬ u3.2.1 (ad 76) j < 0) → (∀ f, f < n → oFn u3 ad f (nm f) (par (nI f)) (mkBo cyc par bo sv ord n m1 m2 bud f, (mkRe cyc par bo sv ord n m1 bud f).2.1, (mkRe cyc par bo sv ord n m1 bud f).2.2)) → (∀ f, f < n → bodyS n par (mkRe cyc par bo sv ord n m1 bud f).2.1 (par (nI f)) (mkBo cyc par bo sv ord n m1 m2 bud f)) → g_W cx (g_E cx (d + 7)) mt_Tr_makeOutput post (53, [some (.ref (ad 0)), some (.int mode), some (.int (if m1 then bud else -1)), some (.int (nI (itot cyc (if m1 then bud else -1) par bo sv ord n)))], [], u3, 0, 0) := by
      intro u3 F3 c3 z3 o3 b3
      have R3 : RPar u3 ad 96 n par := ⟨hn, c3, fun g hg => (o3 g hg).2.1⟩
      have go72 : g_W cx (g_E cx (d + 7)) mt_Tr_makeOutput post (72, [some (.ref (ad 0)), some (.int mode), some (.int (if m1 then bud else -1)), some (.int (nI (itot cyc (if m1 then bud else -1) par bo sv ord n)))], [.int (b32 tl), .ref (ad 96), .ref (ad 67)], u3, 0, 0) := by
        have c108 : c_len (96 + 12) = 12000 := by decide
        have c110 : c_len (96 + 14) = 16032 := by decide
        refine x_Tr_makeOutput_72 F3.L ?_
        refine m_encode (d := d + 2) (p := 96) (tl := tl) (bo := mkBo cyc par bo sv ord n m1 m2 bud) (Or.inl rfl) F3.L hn R3 hpar6 (fun f hf => ⟨⟨500 * f, (o3 f hf).2.2.2.1, by rw [c108]; have := (b3 f hf).2.1; omega, (o3 f hf).2.2.2.2.2.2⟩, (b3 f hf).C⟩) ?_ z3 (fun u4 F4 k4 z4 => ⟨rfl, F4.L, ?_⟩)
        · rw [c110]
          refine Nat.le_trans (catC_len (K := 667) n (fun f hf => ?_)) (by omega)
          have h5 := (b3 f hf).2.1
          have := eTC_len (tl := tl) (own := f) (P := par (nI f)) (b3 f hf).2.2.2.2.2.1 (b3 f hf).1
          omega
        · have F4o : gFr ad omP t u4 := F3.tr (F4.mo (fun c k q => omP_t (by have := cEP_in q; omega)))
          have o4 : ∀ f, f < n → oFn u4 ad f (nm f) (par (nI f)) (mkBo cyc par bo sv ord n m1 m2 bud f, (mkRe cyc par bo sv ord n m1 bud f).2.1, (mkRe cyc par bo sv ord n m1 bud f).2.2) := fun f hf => (o3 f hf).mo F4 (fun c k hc => cEP_r (by omega))
          refine m_bfind (d := d + 4) (p := 96) (n := n) (fc := fun f => eTC tl f (par (nI f)) (mkBo cyc par bo sv ord n m1 m2 bud f)) (fr := fr) (b := bd) hcl htb (Or.inl rfl) F4.L hn (by rw [F4.i 96 15 (cEP_r (by omega))]; exact c3) (fun f hf => ?_) hcd (fun f hf => ?_) hM hbd (fun u5 F5 v5 => ⟨rfl, F5.L, ?_⟩)
          · obtain ⟨s, s1, s2, s3, s4, _, _⟩ := k4 f hf
            exact ⟨s, s1, s2, s3, s4⟩
          · obtain ⟨s, _, _, _, _, s5, s6⟩ := k4 f hf
            exact ⟨_, _, s5, s6, hfr f hf⟩
          · have F5o : gFr ad omP t u5 := F4o.tr (F5.mo (fun c k q => omP_t (by have := bdP_in q; omega)))
            refine h u5 F5o ⟨by rw [F5.i 96 15 (bdP_r (by omega)), F4.i 96 15 (cEP_r (by omega))]; exact c3, fun f hf => ⟨(o4 f hf).mo F5 (fun c k hc => bdP_r (by omega)), ?_, v5 f hf⟩⟩ b3 (fun j => by rw [F5.i 76 j (bdP_r (by omega))]; exact z4 j)
            obtain ⟨s, s1, s2, s3, s4, s5, s6⟩ := k4 f hf
            refine ⟨s, ?_, s2, ?_, fun i q hq => ?_, ?_, ?_⟩
            · rw [F5.i (96 + 7) f (bdP_r (by omega))]; exact s1
            · rw [F5.i (96 + 8) f (bdP_r (by omega))]; exact s3
            · rw [F5.i (96 + 14) _ (bdP_r (by omega)), F5.i (96 + 15) _ (bdP_r (by omega))]; exact s4 i q hq
            · rw [F5.i (96 + 9) f (bdP_r (by omega))]; exact s5
            · rw [F5.i (96 + 10) f (bdP_r (by omega))]; exact s6
      refine x_Tr_makeOutput_53 F3.L ⟨fun c => ?_, fun c => ?_⟩
      · rw [hm4.mp c] at go72; exact go72
      · have : tl = true := by cases e : tl with | true => rfl | false => exact absurd (hm4.mpr e) c
        rw [this] at go72; exact go72
    refine ⟨fun c => ?_, fun c => ?_⟩
    · have e : ∀ f, mkBo cyc par bo sv ord n m1 m2 bud f = (mkRe cyc par bo sv ord n m1 bud f).1 := fun f => by unfold mkBo; rw [hm2.mp c]; rfl
      refine rest u1 F1o c1 (fun j => by rw [F1.i 76 j (ivP_r (by omega))]; exact h76 j) (fun f hf => ?_) (fun f hf => ?_)
      · rw [e]; exact (o1 f hf).1
      · rw [e]; exact (o1 f hf).2
    · have m2t : m2 = true := by cases e : m2 with | true => rfl | false => exact absurd (hm2.mpr e) c
      have e : ∀ f, mkBo cyc par bo sv ord n m1 m2 bud f = fdT (mkRe cyc par bo sv ord n m1 bud f).1 := fun f => by unfold mkBo; rw [m2t]; rfl
      refine m_foldAll (d := d + 1) (nm := nm) (rs := mkRe cyc par bo sv ord n m1 bud) hn F1.L ⟨hn, c1, fun g hg => (o1 g hg).1.2.1⟩ hpar6 o1 (fun u2 F2 o2 => ⟨rfl, F2.L, ?_⟩)
      refine rest u2 (F1o.tr (F2.mo (fun c k q => omP_t (by have := faP_in q; omega)))) (by rw [F2.i 96 15 (faP_r (by omega))]; exact c1) (fun j => by rw [F2.i 76 j (faP_r (by omega)), F1.i 76 j (ivP_r (by omega))]; exact h76 j) (fun f hf => ?_) (fun f hf => ?_)
      · rw [e]; exact o2 f hf
      · rw [e]; exact (o1 f hf).2.fold.1
  refine x_Tr_makeOutput hL ⟨fun c => ?_, fun c => ?_⟩
  · rw [hm1.mp c] at go
    exact go
  · have : m1 = true := by cases e : m1 with | true => rfl | false => exact absurd (hm1.mpr e) c
    rw [this] at go
    rw [h15]
    exact go
end MX
