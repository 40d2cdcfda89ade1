/-! THE MODEL'S BOUNDS: raising until nothing changes -/
theorem bSum_mo {x y : Nat → Nat} {p : Nat → Bool} : ∀ n, (∀ f, f < n → p f = true → x f ≤ y f) → bSum x p n ≤ bSum y p n
  | 0, _ => Nat.le_refl _
  | n + 1, h => by
    have h1 := bSum_mo n (fun f hf => h f (by omega))
    simp only [bSum]
    by_cases c : p n = true
    · rw [if_pos c, if_pos c]
      have := h n (by omega) c
      omega
    · rw [if_neg c, if_neg c]
      omega
theorem bSum_st {x y : Nat → Nat} {p : Nat → Bool} {f0 : Nat} : ∀ n, (∀ f, f < n → p f = true → x f ≤ y f) → f0 < n → p f0 = true → x f0 < y f0 → bSum x p n < bSum y p n
  | 0, _, hf, _, _ => absurd hf (Nat.not_lt_zero _)
  | n + 1, h, hf, hp, hlt => by
    simp only [bSum]
    by_cases c0 : f0 = n
    · subst c0
      have h1 := bSum_mo (x := x) (y := y) (p := p) f0 (fun f hf => h f (by omega))
      rw [if_pos hp, if_pos hp]
      omega
    · have h1 := bSum_st n (fun f hf => h f (by omega)) (by omega) hp hlt
      by_cases c : p n = true
      · rw [if_pos c, if_pos c]
        have := h n (by omega) c
        omega
      · rw [if_neg c, if_neg c]
        omega
section BQ
variable {cx : gCx} {d : Nat} {ad : Nat → Nat} {t : gSt} {post : Option Value → gSt → Prop} {n wn : Nat} {fc : Nat → List (Int32 × Int32)} {fr b : Nat → Nat}
def bVm (t : gSt) (ad : Nat → Nat) (wn n : Nat) (cl tb : Nat → Nat → Bool) (x : Nat → Nat) : Prop := ∀ f, f < n → t.2.1 (ad 188) (24 * wn + f) = if bNon n cl tb f = true then -1 else nI (x f)
theorem m_bfix {cl tb : Nat → Nat → Bool} (hcl : ∀ f g, cl f g = cCal (fc f) g) (htb : ∀ f g, tb f g = cTal (fc f) g) (hn : n ≤ 24) (hw : wn ≤ 1) (hT : mTb t ad wn n fc fr) (hM : ∀ f, f < n → fr f ≤ 2000) (hbd : isBd n cl tb fr b) (h : ∀ u, gFr ad (mbP wn) t u → bVm u ad wn n cl tb b → post none u) :
    ∀ (N : Nat) (u : gSt) (x : Nat → Nat) (o3 o4 o5 o6 o7 : Option Value), bSum b (fun f => !bNon n cl tb f) n - bSum x (fun f => !bNon n cl tb f) n ≤ N → gFr ad (mbP wn) t u → bVm u ad wn n cl tb x → (∀ f, f < n → bNon n cl tb f = false → fr f ≤ x f ∧ x f ≤ b f) → g_W cx (g_E cx (d + 1)) mt_Mo_bounds post (437, [some (.ref (ad 144)), some (.int (nI wn)), some (.int 1), o3, o4, o5, o6, o7], [], u, 0, 0) := by
  have hbM : ∀ g, g < n → bNon n cl tb g = false → b g ≤ 48000 := fun g hg hng => by
    have := hbd.le hM hg hng
    have : n * 2000 ≤ 24 * 2000 := Nat.mul_le_mul_right _ hn
    omega
  have c11 : ∀ {u : gSt}, gFr ad (mbP wn) t u → u.2.1 (ad 144) 11 = nI n := fun hF => (hT.fm hF).1
  intro N
  induction N with
  | zero | succ N ihN =>
    intro u x o3 o4 o5 o6 o7 hN hF hV hx
    -- a round: x now, X at its beginning
    have one : ∀ k m (w : gSt) (y : Nat → Nat) (c : Bool) (o4 o5 o6 o7 : Option Value), k + m = n → gFr ad (mbP wn) t w → bVm w ad wn n cl tb y → (∀ f, f < n → bNon n cl tb f = false → x f ≤ y f ∧ y f ≤ b f) → (c = false → (∀ f, f < n → y f = x f) ∧ ∀ f, f < m → bNon n cl tb f = false → ∀ g, g < n → (cl f g = true → fr f + x g ≤ x f) ∧ (tb f g = true → x g ≤ x f)) → (c = true → ∃ f, f < n ∧ bNon n cl tb f = false ∧ x f < y f) → g_W cx (g_E cx (d + 1)) mt_Mo_bounds post (445, [some (.ref (ad 144)), some (.int (nI wn)), some (.int (b32 c)), some (.int (nI m)), o4, o5, o6, o7], [], w, 0, 0) := by
      intro k
      induction k with
      | zero =>
        intro m w y c o4 o5 o6 o7 hk hW hVy hy hc0 hc1
        have hm : m = n := by omega
        subst hm
        refine x_Mo_bounds_445 hW.L ?_
        rw [c11 hW]
        refine ⟨fun _ => ?_, fun z => absurd (nI_le (Nat.le_refl _) (by omega)) z⟩
        cases c with
        | false =>
          obtain ⟨e1, e2⟩ := hc0 rfl
          have hpre : bPre m cl tb fr x := fun f hf hNf => ⟨(hx f hf hNf).1, fun g hg => e2 f hf hNf g hg⟩
          refine x_Mo_bounds_437 hW.L ⟨fun _ => h w hW (fun f hf => ?_), fun z => absurd rfl z⟩
          rw [hVy f hf]
          cases hNf : bNon m cl tb f with
          | true => rfl
          | false => rw [e1 f hf, Nat.le_antisymm (hx f hf hNf).2 (hbd.2 x hpre f hf hNf)]
        | true =>
          obtain ⟨f0, hf0, hN0, hlt⟩ := hc1 rfl
          have s1 : bSum x (fun f => !bNon m cl tb f) m < bSum y (fun f => !bNon m cl tb f) m := bSum_st m (fun f hf hp => (hy f hf (by simpa using hp)).1) hf0 (by rw [hN0]; rfl) hlt
          have s2 : bSum y (fun f => !bNon m cl tb f) m ≤ bSum b (fun f => !bNon m cl tb f) m := bSum_mo m (fun f hf hp => (hy f hf (by simpa using hp)).2)
          first
            | exact ihN w y _ _ _ _ _ (by omega) hW hVy (fun f hf hNf => ⟨Nat.le_trans (hx f hf hNf).1 (hy f hf hNf).1, (hy f hf hNf).2⟩)
            | (exfalso; omega)
      | succ k ih =>
        intro m w y c o4 o5 o6 o7 hk hW hVy hy hc0 hc1
        refine x_Mo_bounds_445 hW.L ?_
        rw [c11 hW]
        refine ⟨fun z => absurd z (nI_ge (by omega) (by omega)), fun _ x1 e1 => ?_⟩
        rw [ix24] at e1
        subst e1
        have hvx := vp_in_nI (n := 24 * wn + m) (N := 48) (by omega) (by omega)
        cases hNm : bNon n cl tb m with
        | true =>
          have bm : w.2.1 (ad 188) (24 * wn + m) = -1 := by rw [hVy m (by omega), hNm, if_pos rfl]
          refine x_Mo_bounds_464 hW.L ?_
          rw [nI_clamp (n := 24 * wn + m) (by omega), bm]
          refine ⟨hvx, fun _ => ?_, fun z => absurd (by decide) z⟩
          refine x_Mo_bounds_592 hW.L ?_
          rw [nI_1]
          refine ih (m + 1) w y c _ _ _ _ (by omega) hW hVy hy (fun q => ⟨(hc0 q).1, fun f hf hNf g hg => ?_⟩) hc1
          by_cases z : f = m
          · subst z; rw [hNm] at hNf; cases hNf
          · exact (hc0 q).2 f (by omega) hNf g hg
        | false =>
          have inn : ∀ e i (v : gSt) (y : Nat → Nat) (c : Bool) (o6 o7 : Option Value), e + i = (fc m).length → gFr ad (mbP wn) t v → bVm v ad wn n cl tb y → (∀ f, f < n → bNon n cl tb f = false → x f ≤ y f ∧ y f ≤ b f) → (c = false → (∀ f, f < n → y f = x f) ∧ (∀ f, f < m → bNon n cl tb f = false → ∀ g, g < n → (cl f g = true → fr f + x g ≤ x f) ∧ (tb f g = true → x g ≤ x f)) ∧ ∀ g, g < n → ((16, nI g) ∈ (fc m).take i → fr m + x g ≤ x m) ∧ ((19, nI g) ∈ (fc m).take i → x g ≤ x m)) → (c = true → ∃ f, f < n ∧ bNon n cl tb f = false ∧ x f < y f) → g_W cx (g_E cx (d + 1)) mt_Mo_bounds post (464, [some (.ref (ad 144)), some (.int (nI wn)), some (.int (b32 c)), some (.int (nI m)), some (.int (nI (24 * wn + m))), some (.int (nI i)), o6, o7], [], v, 0, 0) := by
            intro e
            induction e with
            | zero =>
              intro i v y c o6 o7 he hVv hVy hy hc0 hc1
              have hTv := hT.fm hVv
              have hym := hy m (by omega) hNm
              have hbm := hbM m (by omega) hNm
              have bm : v.2.1 (ad 188) (24 * wn + m) = nI (y m) := by rw [hVy m (by omega), hNm, if_neg (by decide)]
              refine x_Mo_bounds_464 hVv.L ?_
              rw [nI_clamp (n := 24 * wn + m) (by omega), bm, (hTv.2.1 m (by omega)).1.1]
              refine ⟨hvx, fun z => absurd z (nI_pos (by omega)), fun _ => ⟨hvx, fun _ => ?_, fun z => absurd (nI_le (by omega) (by have := (hTv.2.1 m (by omega)).1.2.1; omega)) z⟩⟩
              refine x_Mo_bounds_592 hVv.L ?_
              rw [nI_1]
              refine ih (m + 1) v y c _ _ _ _ (by omega) hVv hVy hy (fun q => ⟨(hc0 q).1, fun f hf hNf g hg => ?_⟩) hc1
              by_cases z : f = m
              · subst z
                have := (hc0 q).2.2 g hg
                rw [List.take_of_length_le (by omega)] at this
                rw [hcl, htb]
                exact ⟨fun z => this.1 (of_decide_eq_true z), fun z => this.2 (of_decide_eq_true z)⟩
              · exact (hc0 q).2.1 f (by omega) hNf g hg
            | succ e ihe =>
              intro i v y c o6 o7 he hVv hVy hy hc0 hc1
              have hTv := hT.fm hVv
              have hym := hy m (by omega) hNm
              have hbm := hbM m (by omega) hNm
              have bm : v.2.1 (ad 188) (24 * wn + m) = nI (y m) := by rw [hVy m (by omega), hNm, if_neg (by decide)]
              obtain ⟨⟨r1, r2, r3⟩, r4⟩ := hTv.2.1 m (by omega)
              have hil : i < (fc m).length := by omega
              obtain ⟨q, hq⟩ : ∃ q, (fc m)[i]? = some q := ⟨_, List.getElem?_eq_getElem hil⟩
              obtain ⟨q1, q2⟩ := r3 i q hq
              have hmem : q ∈ fc m := List.mem_of_getElem? hq
              have hv16 : vp_in (nI (1600 * (24 * wn + m) + i)) 76800 := vp_in_nI (by omega) (by omega)
              -- a call or a call at the end: of g0, with more words
              have call : ∀ g0, g0 < n → q.2 = nI g0 → ((q.1 = 16 ∧ cl m g0 = true) ∨ (q.1 = 19 ∧ tb m g0 = true)) → g_W cx (g_E cx (d + 1)) mt_Mo_bounds post (519, [some (.ref (ad 144)), some (.int (nI wn)), some (.int (b32 c)), some (.int (nI m)), some (.int (nI (24 * wn + m))), some (.int (nI i)), some (.int q.1), o7], [], v, 0, 0) := by
                intro g0 hg0 eg0 hk
                have hNg : bNon n cl tb g0 = false := bNon_st (by omega) hg0 hNm (by rcases hk with z | z <;> rw [z.2] <;> simp)
                have hyg := hy g0 hg0 hNg
                have hbg := hbM g0 hg0 hNg
                have hfm := hM m (by omega)
                have bg : v.2.1 (ad 188) (24 * wn + g0) = nI (y g0) := by rw [hVy g0 hg0, hNg, if_neg (by decide)]
                have fin : ∀ (a : Nat), ((q.1 = 16 ∧ a = fr m) ∨ (q.1 = 19 ∧ a = 0)) → g_W cx (g_E cx (d + 1)) mt_Mo_bounds post (560, [some (.ref (ad 144)), some (.int (nI wn)), some (.int (b32 c)), some (.int (nI m)), some (.int (nI (24 * wn + m))), some (.int (nI i)), some (.int q.1), o7], [.int (nI a), .int (nI (y g0))], v, 0, 0) := by
                  intro a ha
                  have hab : y g0 + a ≤ b m := by
                    have hp := (hbd.1 m (by omega) hNm).2 g0 hg0
                    rcases hk with z | z
                    · have := hp.1 z.2
                      rcases ha with w | w
                      · omega
                      · rw [z.1] at w; exact absurd w.1 (by decide)
                    · have := hp.2 z.2
                      rcases ha with w | w
                      · rw [z.1] at w; exact absurd w.1 (by decide)
                      · omega
                  refine x_Mo_bounds_560 hVv.L (fun x1 e1 => ?_)
                  rw [nI_add] at e1
                  subst e1
                  rw [nI_clamp (n := 24 * wn + m) (by omega), bm]
                  refine ⟨hvx, fun z => ?_, fun z => ⟨hvx, fun t2 e2 => ?_⟩⟩
                  · rw [nI_leI (by omega) (by omega)] at z
                    refine x_Mo_bounds_586 hVv.L ?_
                    rw [nI_1]
                    refine ihe (i + 1) v y c _ _ (by omega) hVv hVy hy (fun qc => ⟨(hc0 qc).1, (hc0 qc).2.1, fun g hg => ?_⟩) hc1
                    have e0 := (hc0 qc).1
                    have := (hc0 qc).2.2 g hg
                    rw [mem_take_s hq, mem_take_s hq]
                    refine ⟨fun w => w.elim this.1 (fun w => ?_), fun w => w.elim this.2 (fun w => ?_)⟩
                    · rw [← w] at eg0 ha
                      have : g = g0 := (nI_eq (by omega) (by omega)).mp eg0
                      subst this
                      rcases ha with ⟨_, ha⟩ | ⟨ha, _⟩
                      · rw [← e0 g hg, ← e0 m (by omega)]; omega
                      · exact absurd ha (by show ¬ (16 : Int32) = 19; decide)
                    · rw [← w] at eg0 ha
                      have : g = g0 := (nI_eq (by omega) (by omega)).mp eg0
                      subst this
                      rw [← e0 g hg, ← e0 m (by omega)]; omega
                  · rw [nI_leI (by omega) (by omega)] at z
                    refine x_Mo_bounds_586 (by rw [e2]; exact (hVv.si (mbP_t (by omega))).L) ?_
                    rw [nI_1]
                    refine ihe (i + 1) t2 (fun f => if f = m then y g0 + a else y f) true _ _ (by omega) (by rw [e2]; exact hVv.si (mbP_t (by omega))) (fun f hf => ?_) (fun f hf hNf => ?_) (fun qc => by cases qc) (fun _ => ⟨m, by omega, hNm, ?_⟩)
                    · rw [e2]
                      by_cases cf : f = m
                      · subst cf
                        rw [g_rd_at, hNm, if_neg (by decide)]
                        dsimp only
                        rw [if_pos rfl]
                      · rw [g_rd_k (by omega), hVy f hf]
                        dsimp only
                        rw [if_neg cf]
                    · by_cases cf : f = m
                      · subst cf
                        rw [if_pos rfl]
                        exact ⟨by omega, hab⟩
                      · rw [if_neg cf]
                        exact hy f hf hNf
                    · rw [if_pos rfl]
                      omega
                refine x_Mo_bounds_519 hVv.L ?_
                rw [ix16, nI_clamp (n := 1600 * (24 * wn + m) + i) (by omega), q2, eg0, ix24, nI_clamp (n := 24 * wn + g0) (by omega), bg]
                refine ⟨hv16, vp_in_nI (by omega) (by omega), fun z => ?_, fun z => ?_⟩
                · rcases hk with w | w
                  · exact absurd w.1 z
                  · exact fin 0 (Or.inr ⟨w.1, rfl⟩)
                · exact m_mframe hVv.L hn hw hTv (by omega) ⟨_, rfl, hVv.L, fin (fr m) (Or.inl ⟨Classical.not_not.mp z, rfl⟩)⟩
              refine x_Mo_bounds_464 hVv.L ?_
              rw [nI_clamp (n := 24 * wn + m) (by omega), bm, r1, ix16, nI_clamp (n := 1600 * (24 * wn + m) + i) (by omega), q1]
              refine ⟨hvx, fun z => absurd z (nI_pos (by omega)), fun _ => ⟨hvx, fun z => absurd z (nI_ge (by omega) (by omega)), fun _ => ⟨hv16, fun x1 e1 => ?_⟩⟩⟩
              subst e1
              refine ⟨fun c16 => ?_, fun c16 => ⟨fun c19 => ?_, fun c19 => ?_⟩⟩
              · obtain ⟨g0, hg0, eg0⟩ := r4 q hmem (Or.inl c16)
                refine call g0 hg0 eg0 (Or.inl ⟨c16, ?_⟩)
                rw [hcl]
                exact decide_eq_true (by rw [← eg0, ← c16]; exact hmem)
              · obtain ⟨g0, hg0, eg0⟩ := r4 q hmem (Or.inr c19)
                refine call g0 hg0 eg0 (Or.inr ⟨c19, ?_⟩)
                rw [htb]
                exact decide_eq_true (by rw [← eg0, ← c19]; exact hmem)
              · refine x_Mo_bounds_586 hVv.L ?_
                rw [nI_1]
                refine ihe (i + 1) v y c _ _ (by omega) hVv hVy hy (fun qc => ⟨(hc0 qc).1, (hc0 qc).2.1, fun g hg => ?_⟩) hc1
                have := (hc0 qc).2.2 g hg
                rw [mem_take_s hq, mem_take_s hq]
                exact ⟨fun w => w.elim this.1 (fun w => absurd (by rw [← w]) c16), fun w => w.elim this.2 (fun w => absurd (by rw [← w]) c19)⟩
          refine inn (fc m).length 0 w y c _ _ (by omega) hW hVy hy (fun q => ⟨(hc0 q).1, (hc0 q).2, fun g hg => ?_⟩) hc1
          rw [List.take_zero]
          exact ⟨(fun z => by cases z), (fun z => by cases z)⟩
    refine x_Mo_bounds_437 hF.L ⟨fun z => absurd z (by decide), fun _ => ?_⟩
    exact one n 0 u x false _ _ _ _ (by omega) hF hV (fun f hf hNf => ⟨Nat.le_refl _, (hx f hf hNf).2⟩) (fun _ => ⟨fun _ _ => rfl, fun f hf => by omega⟩) (fun q => by cases q)
theorem m_bounds {cl tb : Nat → Nat → Bool} (hcl : ∀ f g, cl f g = cCal (fc f) g) (htb : ∀ f g, tb f g = cTal (fc f) g) (hL : Lay t ad) (hn : n ≤ 24) (hw : wn ≤ 1) (hT : mTb t ad wn n fc fr) (hM : ∀ f, f < n → fr f ≤ 2000) (hbd : isBd n cl tb fr b) (h : ∀ u, gFr ad (mbP wn) t u → bVm u ad wn n cl tb b → post none u) : g_E cx (d + 2) i_Mo_bounds [.ref (ad 144), .int (nI wn)] t post := by
  refine m_bedges hL hn hw hT (fun u o3 o4 o5 F1 hE hB => ?_)
  refine m_bclose F1.L hn (hT.fm F1).1 hE (fun u2 o3' o4' o5' F2 hE2 => ?_)
  have F2' : gFr ad (mbP wn) u u2 := F2.mo (fun c k q => mbP_t (by have := Nat.eq_of_beq_eq_true q; omega))
  refine m_bmark (fc := fc) (fr := fr) F2.L hn hw ((hT.fm F1).fm F2') hE2 (fun f hf => by rw [F2.i 188 _ (onP_r (by decide))]; exact hB f hf) (fun u3 p3 p4 p5 p6 F3 hV => ?_)
  have hcg : ∀ f, f < n → bNo n (fun f g => cCal (fc f) g) (clF (fun f g => cEdg (fc f) f g) n) f = bNon n cl tb f := by
    intro f hf
    have e1 : (fun f g => cCal (fc f) g) = cl := by funext f g; exact (hcl f g).symm
    rw [e1]
    refine bNo_off (fun a c hac => clF_off (fun a c hac => ?_) n a c hac) hf
    unfold cEdg
    rw [decide_eq_false (fun z => hac z.symm), Bool.false_and, Bool.or_false, hcl, htb]
  refine m_bfix hcl htb hn hw hT hM hbd h _ u3 fr p3 p4 p5 p6 none (Nat.le_refl _) ((F1.tr F2').tr F3) (fun f hf => ?_) (fun f hf hNf => ⟨Nat.le_refl _, (hbd.1 f hf hNf).1⟩)
  rw [hV f hf, hcg f hf]
end BQ
