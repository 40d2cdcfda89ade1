/-! THE CLASS'S BOUNDS: raising, and all -/
section BR
variable {cx : gCx} {d : Nat} {ad : Nat → Nat} {t0 t : gSt} {post : Option Value → gSt → Prop} {p n : Nat} {cl tb : Nat → Nat → Bool} {fr : Nat → Nat} {b : Nat → Nat}
/-- what raising reads -/
def bTab (t : gSt) (ad : Nat → Nat) (p n : Nat) (cl tb : Nat → Nat → Bool) (fr : Nat → Nat) : Prop := t.2.1 (ad p) 15 = nI n ∧ (∀ f g, f < n → g < 24 → hb (t.2.1 (ad 80) f) g = cl f g ∧ hb (t.2.1 (ad 81) f) g = tb f g) ∧ ∀ f, f < n → ∃ s w, t.2.1 (ad (p + 9)) f = nI s ∧ t.2.1 (ad (p + 10)) f = nI w ∧ fr f = 2 + s + w
def bVal (t : gSt) (ad : Nat → Nat) (p n : Nat) (cl tb : Nat → Nat → Bool) (x : Nat → Nat) : Prop := ∀ f, f < n → t.2.1 (ad (p + 11)) f = if bNon n cl tb f = true then -1 else nI (x f)
theorem onP_t {q k : Nat} : onP q q k = true := Nat.beq_refl q
theorem bTab.fm {u : gSt} (hp : isP p) (h : bTab t ad p n cl tb fr) (hF : gFr ad (onP (p + 11)) t u) : bTab u ad p n cl tb fr := by
  have hpg := hp.ge
  have hpl := hp.lt
  obtain ⟨h1, h2, h3⟩ := h
  refine ⟨by rw [hF.i _ _ (onP_r (by omega)) (by omega)]; exact h1, fun f g hf hg => by rw [hF.i 80 _ (onP_r (by omega)), hF.i 81 _ (onP_r (by omega))]; exact h2 f g hf hg, fun f hf => ?_⟩
  obtain ⟨s, w, e1, e2, e3⟩ := h3 f hf
  exact ⟨s, w, by rw [hF.i _ _ (onP_r (by omega)) (by omega)]; exact e1, by rw [hF.i _ _ (onP_r (by omega)) (by omega)]; exact e2, e3⟩
theorem m_bframe {f : Nat} (hp : isP p) (hL : Lay t ad) (hn : n ≤ 24) (hT : bTab t ad p n cl tb fr) (hf : f < n) (h : post (some (.int (nI (fr f)))) t) : g_E cx (d + 1) i_Program_frame [.ref (ad p), .int (nI f)] t post := by
  obtain ⟨s, w, e1, e2, e3⟩ := hT.2.2 f hf
  have hv := vp_in_nI (n := f) (N := 24) (by omega) (by omega)
  refine x_Program_frame hp hL ⟨hv, hv, ?_⟩
  rw [nI_clamp (by omega), e1, e2, show (2 : Int32) = nI 2 from rfl, nI_add, nI_add, ← e3]
  exact h
/-- y is enough for what f does with the first m functions, and not too much -/
def bUp (n : Nat) (cl tb : Nat → Nat → Bool) (fr x : Nat → Nat) (f m y : Nat) : Prop := x f ≤ y ∧ (∀ g, g < m → (cl f g = true → fr f + x g ≤ y) ∧ (tb f g = true → x g ≤ y)) ∧ ∀ b', bPre n cl tb fr b' → (∀ g, g < n → bNon n cl tb g = false → x g ≤ b' g) → y ≤ b' f
theorem m_braise {f : Nat} {x : Nat → Nat} (hp : isP p) (hL : Lay t ad) (hn : n ≤ 24) (hb : isBd n cl tb fr b) (hM : ∀ f, f < n → fr f ≤ 2000) (hT : bTab t ad p n cl tb fr) (hV : bVal t ad p n cl tb x) (hx : ∀ g, g < n → bNon n cl tb g = false → x g ≤ b g) (hf : f < n) (h : ∀ (u : gSt) (y : Nat), gFr ad (onP (p + 11)) t u → (bNon n cl tb f = true → y = x f) → (bNon n cl tb f = false → bUp n cl tb fr x f n y) → bVal u ad p n cl tb (fun g => if g = f then y else x g) → post (some (.int (if y = x f then 0 else 1))) u) : g_E cx (d + 2) i_Bounds_raise [.ref (ad 79), .ref (ad p), .int (nI f)] t post := by
  have hpg := hp.ge
  have hpl := hp.lt
  have hvf := vp_in_nI (n := f) (N := 24) (by omega) (by omega)
  have hbM : ∀ g, g < n → bNon n cl tb g = false → b g ≤ 48000 := fun g hg hng => by
    have := hb.le hM hg hng
    have : n * 2000 ≤ 24 * 2000 := Nat.mul_le_mul_right _ hn
    omega
  refine x_Bounds_raise hp hL ⟨hvf, fun x1 e1 => ?_⟩
  rw [nI_clamp (by omega), hV f hf] at e1
  cases hN : bNon n cl tb f with
  | true =>
    rw [hN, if_pos rfl] at e1
    subst e1
    refine ⟨fun c => absurd rfl c, fun _ => ?_⟩
    have := h t (x f) (gFr.rf hL) (fun _ => rfl) (fun c => by rw [hN] at c; cases c) (fun g hg => by
      rw [hV g hg]
      dsimp only
      by_cases c : g = f
      · subst c; rw [if_pos rfl]
      · rw [if_neg c])
    rw [if_pos rfl] at this
    exact this
  | false =>
    rw [hN, if_neg (by decide)] at e1
    subst e1
    have hxf := hx f hf hN
    have hbf := hbM f hf hN
    refine ⟨fun _ => ?_, fun c => absurd (fun q => ?_) c⟩
    · have loop : ∀ j i (u : gSt) (y : Nat), j + i = n → gFr ad (onP (p + 11)) t u → bUp n cl tb fr x f i y → bVal u ad p n cl tb (fun g => if g = f then y else x g) → g_W cx (g_E cx (d + 1)) mt_Bounds_raise post (17, [some (.ref (ad 79)), some (.ref (ad p)), some (.int (nI f)), some (.int (nI (x f))), some (.int (nI i))], [], u, 0, 0) := by
        intro j
        induction j with
        | zero =>
          intro i u y hj hF hU hW
          have hi : i = n := by omega
          subst hi
          have hy := hU.2.2 b hb.1 hx
          have uf : u.2.1 (ad (p + 11)) f = nI y := by
            rw [hW f hf, hN, if_neg (by decide)]
            dsimp only
            rw [if_pos rfl]
          refine x_Bounds_raise_17 hp hF.L ?_
          rw [hF.i _ _ (onP_r (by omega)) (by omega), hT.1, nI_clamp (by omega), uf, nI_eq (by omega) (by omega)]
          have fin := h u y hF (fun c => by rw [hN] at c; cases c) (fun _ => hU) hW
          exact ⟨fun _ => ⟨hvf, fun c => by rw [if_pos c] at fin; exact fin, fun c => by rw [if_neg c] at fin; exact fin⟩, fun z => absurd (nI_le (Nat.le_refl _) (by omega)) z⟩
        | succ j ih =>
          intro i u y hj hF hU hW
          have hvi := vp_in_nI (n := i) (N := 24) (by omega) (by omega)
          have hTu := hT.fm hp hF
          have hy := hU.2.2 b hb.1 hx
          have uf : ∀ {w : gSt} {y : Nat}, bVal w ad p n cl tb (fun g => if g = f then y else x g) → w.2.1 (ad (p + 11)) f = nI y := fun hW => by
            rw [hW f hf, hN, if_neg (by decide)]
            dsimp only
            rw [if_pos rfl]
          -- the second question: does f put itself in i's place
          have tail : ∀ (w : gSt) (y' : Nat), gFr ad (onP (p + 11)) t w → bUp n cl tb fr x f i y' → (cl f i = true → fr f + x i ≤ y') → bVal w ad p n cl tb (fun g => if g = f then y' else x g) → (tb f i = false → g_W cx (g_E cx (d + 1)) mt_Bounds_raise post (17, [some (.ref (ad 79)), some (.ref (ad p)), some (.int (nI f)), some (.int (nI (x f))), some (.int (nI (i + 1)))], [], w, 0, 0)) ∧ (tb f i = true → vp_in (nI f) 24 ∧ (vp_in (nI i) 24 ∧ (vp_in (nI f) 24 ∧ (∀ t5, t5 = g_si w (ad (p + 11)) f (if (w.2.1 (ad (p + 11)) f) < (w.2.1 (ad (p + 11)) i) then (w.2.1 (ad (p + 11)) i) else (w.2.1 (ad (p + 11)) f)) → g_W cx (g_E cx (d + 1)) mt_Bounds_raise post (17, [some (.ref (ad 79)), some (.ref (ad p)), some (.int (nI f)), some (.int (nI (x f))), some (.int (nI (i + 1)))], [], t5, 0, 0))))) := by
            intro w y' hFw hU' hcl hW'
            refine ⟨fun ht => ?_, fun ht => ⟨hvf, hvi, hvf, fun t5 e5 => ?_⟩⟩
            · refine ih (i + 1) w y' (by omega) hFw ⟨hU'.1, fun g hg => ?_, hU'.2.2⟩ hW'
              by_cases c : g = i
              · subst c
                exact ⟨hcl, fun q => by rw [ht] at q; cases q⟩
              · exact hU'.2.1 g (by omega)
            · have hy' := hU'.2.2 b hb.1 hx
              have hNi : bNon n cl tb i = false := bNon_st hf (by omega) hN (by rw [ht, Bool.or_true])
              have hxi := hx i (by omega) hNi
              have hbi := hbM i (by omega) hNi
              obtain ⟨z, ez, hz⟩ : ∃ z, w.2.1 (ad (p + 11)) i = nI z ∧ z = if i = f then y' else x i := by
                refine ⟨_, ?_, rfl⟩
                rw [hW' i (by omega), hNi, if_neg (by decide)]
              have hzb : z ≤ 48000 := by rw [hz]; split <;> omega
              rw [uf hW', ez, nI_mx (by omega) (by omega)] at e5
              refine ih (i + 1) t5 (max y' z) (by omega) (by rw [e5]; exact hFw.si onP_t (by omega)) ⟨by have := hU'.1; omega, fun g hg => ?_, fun b' hb' hx' => ?_⟩ (fun g hg => ?_)
              · by_cases c : g = i
                · subst c
                  refine ⟨fun q => by have := hcl q; omega, fun _ => ?_⟩
                  rw [hz]
                  split
                  · have := hU'.1
                    rename_i q
                    rw [q]
                    omega
                  · omega
                · have := hU'.2.1 g (by omega)
                  exact ⟨fun q => by have := this.1 q; omega, fun q => by have := this.2 q; omega⟩
              · have q1 := hU'.2.2 b' hb' hx'
                have q2 := ((hb' f hf hN).2 i (by omega)).2 ht
                have q3 := hx' i (by omega) hNi
                rw [hz]
                split <;> omega
              · rw [e5]
                by_cases c : g = f
                · subst c
                  rw [g_rd_at, hN, if_neg (by decide)]
                  dsimp only
                  rw [if_pos rfl]
                · rw [g_rd_k c, hW' g hg]
                  dsimp only
                  rw [if_neg c, if_neg c]
          refine x_Bounds_raise_17 hp hF.L ?_
          rw [hTu.1, nI_clamp (n := f) (by omega), nI_clamp (n := i) (by omega), nI_1 i]
          refine ⟨fun z => absurd z (nI_ge (by omega) (by omega)), fun _ => ⟨hvf, m_hasBit hF.L (by omega) ⟨_, rfl, hF.L, fun z => ?_, fun z => ?_⟩⟩⟩
          · rw [(hTu.2.1 f i hf (by omega)).1] at z
            have hcf := b32_0.mp z
            have tl := tail u y hF hU (fun q => by rw [hcf] at q; cases q) hW
            refine ⟨hvf, m_hasBit hF.L (by omega) ⟨_, rfl, hF.L, fun z2 => tl.1 ?_, fun z2 => tl.2 ?_⟩⟩
            · rw [(hTu.2.1 f i hf (by omega)).2] at z2
              exact b32_0.mp z2
            · rw [(hTu.2.1 f i hf (by omega)).2] at z2
              cases e : tb f i with
              | true => rfl
              | false => rw [e] at z2; exact absurd rfl z2
          · rw [(hTu.2.1 f i hf (by omega)).1] at z
            have hcf : cl f i = true := by
              cases e : cl f i with
              | true => rfl
              | false => rw [e] at z; exact absurd rfl z
            have hNi : bNon n cl tb i = false := bNon_st hf (by omega) hN (by rw [hcf]; rfl)
            have hne : ¬ i = f := fun c => by
              subst c
              have := (hb.1 i hf hN).2 i hf
              have q1 := this.1 hcf
              have q2 := (hb.1 i hf hN).1
              obtain ⟨s, w, _, _, e3⟩ := hT.2.2 i hf
              omega
            have hxi := hx i (by omega) hNi
            have hbi := hbM i (by omega) hNi
            have hfrf := hM f hf
            have ui : u.2.1 (ad (p + 11)) i = nI (x i) := by
              rw [hW i (by omega), hNi, if_neg (by decide)]
              dsimp only
              rw [if_neg hne]
            refine ⟨hvf, m_bframe hp hF.L hn hTu hf ⟨_, rfl, hF.L, hvi, hvf, fun t8 e8 => ⟨hvf, ?_⟩⟩⟩
            rw [uf hW, ui, nI_add, nI_mx (by omega) (by omega)] at e8
            have F8 : gFr ad (onP (p + 11)) t t8 := by rw [e8]; exact hF.si onP_t (by omega)
            have hT8 := hT.fm hp F8
            have tl := tail t8 (max y (fr f + x i)) F8 ⟨by have := hU.1; omega, fun g hg => by
                have := hU.2.1 g hg
                exact ⟨fun q => by have := this.1 q; omega, fun q => by have := this.2 q; omega⟩, fun b' hb' hx' => by
                have q1 := hU.2.2 b' hb' hx'
                have q2 := ((hb' f hf hN).2 i (by omega)).1 hcf
                have q3 := hx' i (by omega) hNi
                omega⟩ (fun _ => by omega) (fun g hg => by
                rw [e8]
                by_cases c : g = f
                · subst c
                  rw [g_rd_at, hN, if_neg (by decide)]
                  dsimp only
                  rw [if_pos rfl]
                · rw [g_rd_k c, hW g hg]
                  dsimp only
                  rw [if_neg c, if_neg c])
            refine m_hasBit F8.L (by omega) ⟨_, rfl, F8.L, fun z2 => tl.1 ?_, fun z2 => tl.2 ?_⟩
            · rw [(hT8.2.1 f i hf (by omega)).2] at z2
              exact b32_0.mp z2
            · rw [(hT8.2.1 f i hf (by omega)).2] at z2
              cases e : tb f i with
              | true => rfl
              | false => rw [e] at z2; exact absurd rfl z2
      refine loop n 0 t (x f) (by omega) (gFr.rf hL) ⟨Nat.le_refl _, fun g hg => by omega, fun b' _ hx' => hx' f hf hN⟩ (fun g hg => ?_)
      rw [hV g hg]
      dsimp only
      by_cases c : g = f
      · subst c; rw [if_pos rfl]
      · rw [if_neg c]
    · have := nI_pos (n := x f) (by omega)
      rw [q] at this
      exact this (by decide)
end BR
