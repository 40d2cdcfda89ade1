/-! PAIR: run -/
theorem in20 {w : Int32} : ((0 : Int64) ≤ w.toInt64 ∧ w.toInt64 ≤ 20000) ↔ ¬ (w < 0 ∨ nI 20000 < w) := in_lit (m := 20000) (by decide)
section PR
variable {A L : List Fn} {H : Nat → Nat → Nat × Nat} {al : Nat} {cx : gCx} {d : Nat} {ad : Nat → Nat} {t0 t : gSt} {post : Option Value → gSt → Prop} {wn : Nat}
theorem k_loop (hm : mcOk A L H) (hal : al ≤ 20000) (hT : nTab t0 ad wn L) (hwn : wn ≤ 1) {lim : Nat} (hlim : lim ≤ 20000) {w0 f0 : Int32} : ∀ (k st : Nat) (m : MSt) (t : gSt), st + k = lim → RK t0 ad wn L st m t → tyM L H al m → (∀ u, TlM ad t0 (st + (mrun L al k m).2.2.1) (mrun L al k m).2.1 (mrun L al k m).2.2.2 u → post (some (.int (mrun L al k m).1)) u) → g_W cx (g_E cx (d + 5)) mt_Mo_run post (136, [some (.ref (ad 144)), some (.int w0), some (.int f0), some (.int (nI al)), some (.int (nI lim)), some (.int 0)], [], t, 0, 0) := by
  intro k
  induction k with
  | zero =>
    intro st m t hk hR hty h
    have hst : t.2.1 (ad 144) 83 = nI st := hR.2.2.2.2.1
    refine x_Mo_run_136 hR.1.L ⟨fun q => absurd rfl q, fun _ => ⟨fun q => ?_, fun _ => ?_⟩⟩
    · exact absurd (by rw [hst, show st = lim by omega]) q
    · exact h t ⟨hR.1, hR.2.2.2.2.2.1, hst, hR.2.2.2.1, hR.2.2.2.2.2.2.1, hR.2.2.2.2.2.2.2.1⟩
  | succ k ih =>
    intro st m t hk hR hty h
    have hst : t.2.1 (ad 144) 83 = nI st := hR.2.2.2.2.1
    refine x_Mo_run_136 hR.1.L ⟨fun q => absurd rfl q, fun _ => ⟨fun _ t1 e1 => ?_, fun q => ?_⟩⟩
    · rw [hst, nI_1] at e1
      obtain ⟨r1, r2, r3, r4, r5, r6, r7, r8, r9⟩ := hR
      have kk : ∀ k, k ≠ 83 → t1.2.1 (ad 144) k = t.2.1 (ad 144) k := fun k hk => by rw [e1, g_rd_k hk]
      have oo : ∀ c k, c ≠ 144 → c < 199 → t1.2.1 (ad c) k = t.2.1 (ad c) k := fun c k hc hl => by rw [e1, g_rd_ne (r1.L.ne c 144 hl (by decide) hc)]
      have of : ∀ c, c ≠ 144 → c < 199 → t1.2.1 (ad c) = t.2.1 (ad c) := fun c hc hl => funext (fun x => oo c x hc hl)
      have hR1 : RK t0 ad wn L (st + 1) m t1 := ⟨r1.tr (by rw [e1]; exact (gFr.rf r1.L).si rfl), by rw [kk 80 (by decide)]; exact r2, by rw [kk 81 (by decide)]; exact r3, by rw [kk 82 (by decide)]; exact r4, by rw [e1, g_rd_at], by rw [kk 84 (by decide)]; exact r6, by rw [kk 85 (by decide)]; exact r7, fun j v hj => by rw [oo 198 j (by decide) (by decide)]; exact r8 j v hj, by rw [of 193 (by decide) (by decide), of 194 (by decide) (by decide), of 195 (by decide) (by decide), of 196 (by decide) (by decide), of 197 (by decide) (by decide)]; exact r9⟩
      obtain ⟨⟨f, pc, sl, sk⟩, rest, em, o1, o2, o3, o4, o5⟩ := hty
      obtain ⟨ms, ps, mo⟩ := m
      dsimp only at em o3 o4 o5
      subst em
      obtain ⟨k', n', hq', hcs, hty'⟩ := mcase hm hal o1 o2 o3 o4 o5
      have en : mrun L al (k + 1) ((f, pc, sl, sk) :: rest, ps, mo) = if (mstep L al ((f, pc, sl, sk) :: rest, ps, mo)).1 = 0 then ((mrun L al k (mstep L al ((f, pc, sl, sk) :: rest, ps, mo)).2.2).1, (mrun L al k (mstep L al ((f, pc, sl, sk) :: rest, ps, mo)).2.2).2.1, (mrun L al k (mstep L al ((f, pc, sl, sk) :: rest, ps, mo)).2.2).2.2.1 + 1, (mrun L al k (mstep L al ((f, pc, sl, sk) :: rest, ps, mo)).2.2).2.2.2) else ((mstep L al ((f, pc, sl, sk) :: rest, ps, mo)).1, (mstep L al ((f, pc, sl, sk) :: rest, ps, mo)).2.1, 1, (mstep L al ((f, pc, sl, sk) :: rest, ps, mo)).2.2) := rfl
      refine k_step hm hal hT hwn hR1 o1 o2 o3 o4 o5 (fun hz u hRu => ⟨_, rfl, hRu.1.L, ?_⟩) (fun hz u hTu => ⟨_, rfl, hTu.1.L, ?_⟩)
      · refine ih (st + 1) _ u (by omega) hRu (hty' hz) (fun w hw => ?_)
        rw [en, if_pos hz] at h
        refine h w ?_
        rw [show st + ((mrun L al k (mstep L al ((f, pc, sl, sk) :: rest, ps, mo)).2.2).2.2.1 + 1) = st + 1 + (mrun L al k (mstep L al ((f, pc, sl, sk) :: rest, ps, mo)).2.2).2.2.1 by omega]
        exact hw
      · rw [en, if_neg hz] at h
        have hmm : (mstep L al ((f, pc, sl, sk) :: rest, ps, mo)).2.2 = ((f, pc, sl, sk) :: rest, ps, mo) := by
          rcases hcs with ⟨-, -, e⟩ | ⟨-, -, _, _, -, -, e⟩ | ⟨_, _, _, _, -, -, -, -, e⟩ | ⟨_, _, -, -, e⟩ | ⟨_, _, -, -, e⟩ | ⟨_, _, -, -, e⟩ | ⟨_, _, _, -, -, -, -, -, e⟩ | ⟨_, _, _, -, -, -, -, e⟩ | ⟨_, -, -, -, e⟩ | ⟨_, -, -, -, -, e⟩ | ⟨_, _, -, -, e | ⟨_, _, _, _, _, -, e⟩⟩ | ⟨_, -, -, -, e⟩
          · rw [e] at hz; exact absurd rfl hz
          · rw [e] at hz; exact absurd rfl hz
          · split at e
            · rw [e]
            · rw [e] at hz; exact absurd rfl hz
          · rw [e] at hz; exact absurd rfl hz
          · split at e
            · rw [e]
            · rw [e] at hz; exact absurd rfl hz
          · rw [e] at hz; exact absurd rfl hz
          · rw [e] at hz; exact absurd rfl hz
          · rw [e] at hz; exact absurd rfl hz
          · rw [e] at hz; exact absurd rfl hz
          · split at e
            · rw [e]
            · rw [e] at hz; exact absurd rfl hz
          · rw [e.2]
          · rw [e] at hz; exact absurd rfl hz
          · split at e
            · rw [e]
            · rw [e] at hz; exact absurd rfl hz
        have hfin := h u (by rw [hmm]; exact hTu)
        exact x_Mo_run_136 hTu.1.L ⟨fun _ => hfin, fun q => absurd hz q⟩
    · have q := Classical.not_not.mp q
      rw [hst, nI_eq (by omega) (by omega)] at q
      omega
/-- the model's run, behind the checks -/
theorem k_run (hm : mcOk A L H) (hal : al ≤ 20000) (hT : nTab t ad wn L) (hwn : wn ≤ 1) {lim f : Nat} (hlim : lim ≤ 20000) (hf : f < L.length) {w0 : Int32} (hw0 : w0 = nI wn) (hL : Lay t ad) (h : ∀ u, TlM ad t (mall L al lim (t.2.1 (ad 192)) f).2.2.1 (mall L al lim (t.2.1 (ad 192)) f).2.1 (mall L al lim (t.2.1 (ad 192)) f).2.2.2 u → post (some (.int (mall L al lim (t.2.1 (ad 192)) f).1)) u) : g_W cx (g_E cx (d + 5)) mt_Mo_run post (44, [some (.ref (ad 144)), some (.int w0), some (.int (nI f)), some (.int (nI al)), some (.int (nI lim)), none], [], t, 0, 0) := by
  obtain ⟨p1, p2, p3, p4, p5, p6, p7, p8, p9, p10, p11⟩ := hm.2.2 f hf
  have g2 := hm.2.1
  have hfs : fsz L f = 2 + fnS (fAt L f) + fnT (fAt L f) := rfl
  refine x_Mo_run_44 hL (fun t1 e1 t2 e2 t3 e3 t4 e4 t5 e5 t6 e6 => ?_)
  have z : ∀ {q : gSt} {k : Nat} {x : Int32}, gFr ad moP t q → moP 144 k = true → gFr ad moP t (g_si q (ad 144) k x) := fun h hk => h.si hk
  have F6 : gFr ad moP t t6 := by rw [e6, e5, e4, e3, e2, e1]; exact z (z (z (z (z (z (gFr.rf hL) rfl) rfl) rfl) rfl) rfl) rfl
  have v80 : t6.2.1 (ad 144) 80 = 0 := by rw [e6, g_rd_k (by decide), e5, g_rd_k (by decide), e4, g_rd_k (by decide), e3, g_rd_k (by decide), e2, g_rd_k (by decide), e1, g_rd_at]
  have v81 : t6.2.1 (ad 144) 81 = 0 := by rw [e6, g_rd_k (by decide), e5, g_rd_k (by decide), e4, g_rd_k (by decide), e3, g_rd_k (by decide), e2, g_rd_at]
  have v82 : t6.2.1 (ad 144) 82 = 0 := by rw [e6, g_rd_k (by decide), e5, g_rd_k (by decide), e4, g_rd_k (by decide), e3, g_rd_at]
  have v83 : t6.2.1 (ad 144) 83 = 0 := by rw [e6, g_rd_k (by decide), e5, g_rd_k (by decide), e4, g_rd_at]
  have v84 : t6.2.1 (ad 144) 84 = 0 := by rw [e6, g_rd_k (by decide), e5, g_rd_at]
  have v85 : t6.2.1 (ad 144) 85 = 0 := by rw [e6, g_rd_at]
  have loop : ∀ k i (u : gSt), k + i = 6 → gFr ad moP t6 u → (∀ c k, c ≠ 193 → c < 199 → u.2.1 (ad c) k = t6.2.1 (ad c) k) → (∀ j, j < i → u.2.1 (ad 193) (20100 + j) = t.2.1 (ad 192) j) → g_W cx (g_E cx (d + 5)) mt_Mo_run post (77, [some (.ref (ad 144)), some (.int w0), some (.int (nI f)), some (.int (nI al)), some (.int (nI lim)), some (.int (nI i))], [], u, 0, 0) := by
    intro k
    induction k with
    | zero =>
      intro i u hk hF hs hx
      have hi : i = 6 := by omega
      subst hi
      refine x_Mo_run_77 hF.L ⟨fun _ => ⟨vp_in_nI (by omega) (by omega), ?_⟩, fun q => absurd (by decide) q⟩
      have TU := (hT.fr F6).fr hF
      rw [nI_clamp (n := f) (by omega), (TU f hf).1, show (20100 : Int32) = nI 20100 from rfl, hw0, show (24 : Int32) = nI 24 from rfl, nI_mul, nI_add]
      unfold mall at h
      refine m_lay (mo := 0) (nf := 0) (tot := 0) (fr := 20100) (n := fnP (fAt L f)) hm hF.L TU hwn hf p2 (by rw [hs 144 80 (by decide) (by decide), v80]; rfl) (by rw [hs 144 81 (by decide) (by decide), v81]; rfl) (by rw [hs 144 82 (by decide) (by decide), v82]; rfl) (by decide) (by decide) hal (by decide) (by omega) (by omega) (fun hz => ?_) (fun hz u' Fu u144 u80 u81 u82 u198 u194 u195 u196 u197 u193 => ?_)
      · rw [if_pos (by omega)] at h
        refine ⟨_, rfl, hF.L, fun q => absurd rfl q, fun _ => h u ⟨F6.tr hF, ?_, ?_, ?_, ?_, fun j v hj => by cases hj⟩⟩
        · rw [hs 144 84 (by decide) (by decide), v84]
        · rw [hs 144 83 (by decide) (by decide), v83]; rfl
        · rw [hs 144 82 (by decide) (by decide), v82]; rfl
        · rw [hs 144 85 (by decide) (by decide), v85]; rfl
      · rw [if_neg (by omega)] at h
        refine ⟨_, rfl, Fu.L, fun _ => ?_, fun q => absurd (by decide) q⟩
        have hRK : RK t ad wn L 0 (m0 L (t.2.1 (ad 192)) f) u' := by
          refine ⟨(F6.tr hF).tr Fu, u80, ?_, ?_, ?_, ?_, ?_, (fun j v hj => by cases hj), ?_, ?_, ?_, ?_, fun j x hj => ?_, trivial, trivial⟩
          · rw [u81]; congr 1; show 0 + fsz L f = fsz L f + 0; omega
          · rw [u82]; congr 1; show max 0 (0 + fsz L f) = fsz L f; omega
          · rw [u144 83 (by decide) (by decide) (by decide), hs 144 83 (by decide) (by decide), v83]; rfl
          · rw [u144 84 (by decide) (by decide) (by decide), hs 144 84 (by decide) (by decide), v84]
          · rw [u144 85 (by decide) (by decide) (by decide), hs 144 85 (by decide) (by decide), v85]; rfl
          · show u'.2.1 (ad 194) 0 = _
            rw [u194, if_pos rfl]
          · show u'.2.1 (ad 195) 0 = _
            rw [u195, if_pos rfl]
          · show u'.2.1 (ad 196) 0 = _
            rw [u196, if_pos rfl]; rfl
          · show u'.2.1 (ad 197) 0 = _
            rw [u197, if_pos rfl]; rfl
          · dsimp only at hj
            have hjl := (List.getElem?_eq_some_iff.mp hj).1
            rw [List.length_map, List.length_range] at hjl
            rw [List.getElem?_map, List.getElem?_range hjl] at hj
            show u'.2.1 (ad 193) (0 + 2 + j) = x
            rw [u193, if_pos (by omega), show 20100 + (0 + 2 + j - (0 + 2)) = 20100 + j by omega, hx j (by omega)]
            exact Option.some.inj hj
        exact k_loop hm hal hT hwn hlim lim 0 _ u' (by omega) hRK (m0_ty hm hf _ (by omega)) (fun w hw => h w (by rw [Nat.zero_add] at hw; exact hw))
    | succ k ih =>
      intro i u hk hF hs hx
      refine x_Mo_run_77 hF.L ⟨fun q => ?_, fun _ => ⟨vp_in_nI (by omega) (by omega), ?_⟩⟩
      · rw [show (6 : Int32) = nI 6 from rfl, nI_leI (by omega) (by omega)] at q
        omega
      · rw [show (20100 : Int32) = nI 20100 from rfl, nI_add, nI_clamp (n := i) (by omega), nI_clamp (n := 20100 + i) (by omega), hs 192 i (by decide) (by decide), F6.i 192 i (moP_r (by omega)), nI_1]
        refine ⟨vp_in_nI (by omega) (by omega), fun t12 e12 => ?_⟩
        refine ih (i + 1) t12 (by omega) (by rw [e12]; exact hF.si rfl) (fun c k hc hl => by rw [e12, g_rd_ne (hF.L.ne c 193 hl (by decide) hc), hs c k hc hl]) (fun j hj => ?_)
        rw [e12]
        by_cases zz : j = i
        · rw [zz, g_rd_at]
        · rw [g_rd_k (by omega)]
          exact hx j (by omega)
  exact loop 6 0 t6 (by omega) (gFr.rf F6.L) (fun _ _ _ _ => rfl) (fun j hj => by omega)
end PR
