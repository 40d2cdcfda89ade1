/-! THE CLASS'S MACHINE: a run -/
section CR
variable {A L : List Fn} {H : Nat → Nat → Nat × Nat} {al : Nat} {cx : gCx} {d : Nat} {ad : Nat → Nat} {t0 t : gSt} {post : Option Value → gSt → Prop} {p : Nat}
theorem c_loop (hp : isP p) (hm : mcOk A L H) (hal : al ≤ 20000) (hT : mTab t0 ad p L) {lim : Nat} (hlim : lim ≤ 20000) {f0 : Int32} : ∀ (k st : Nat) (m : MSt) (t : gSt), st + k = lim → RC t0 ad p L al st m t → tyM L H al m → (∀ u, Tld ad t0 (st + (mrun L al k m).2.2.1) (mrun L al k m).2.1 (mrun L al k m).2.2.2 u → post (some (.int (mrun L al k m).1)) u) → g_W cx (g_E cx (d + 5)) mt_Machine_perform post (53, [some (.ref (ad 93)), some (.int f0), some (.ref (ad 2)), some (.int (nI lim)), some (.int 0)], [], t, 0, 0) := by
  intro k
  induction k with
  | zero =>
    intro st m t hk hR hty h
    have hst : t.2.1 (ad 93) 2 = nI st := hR.2.2.2.2.1
    refine x_Machine_perform_53 hR.1.L ⟨fun _ => ⟨fun q => absurd rfl q, fun _ => ?_⟩, fun q => ?_⟩
    · exact h t ⟨hR.1, hR.2.2.2.1, hst, hR.2.2.2.2.2.1, hR.2.2.2.2.2.2.1, hR.2.2.2.2.2.2.2.1⟩
    · rw [hst] at q
      exact absurd (nI_le (by omega) (by omega)) q
  | succ k ih =>
    intro st m t hk hR hty h
    have hst : t.2.1 (ad 93) 2 = nI st := hR.2.2.2.2.1
    refine x_Machine_perform_53 hR.1.L ⟨fun q => ?_, fun _ => ⟨fun q => absurd rfl q, fun _ t1 e1 => ?_⟩⟩
    · rw [hst] at q
      exact absurd q (nI_ge (by omega) (by omega))
    · rw [hst, nI_1] at e1
      obtain ⟨r1, r2, r3, r4, r5, r6, r7, r8, r9, f, pc, sl, sk, rest, em, q1, q2, q3, q4⟩ := hR
      have kk : ∀ k, k ≠ 2 → t1.2.1 (ad 93) k = t.2.1 (ad 93) k := fun k hk => by rw [e1, g_rd_k hk]
      have oo : ∀ c k, c ≠ 93 → c < 199 → t1.2.1 (ad c) k = t.2.1 (ad c) k := fun c k hc hl => by rw [e1, g_rd_ne (r1.L.ne c 93 hl (by decide) hc)]
      have o95 : t1.2.1 (ad 95) = t.2.1 (ad 95) := funext (fun x => oo 95 x (by decide) (by decide))
      have hR1 : RC t0 ad p L al (st + 1) m t1 := ⟨r1.tr (by rw [e1]; exact (gFr.rf r1.L).si rfl), by rw [e1]; exact r2, by rw [kk 7 (by decide)]; exact r3, by rw [kk 1 (by decide)]; exact r4, by rw [e1, g_rd_at], by rw [kk 3 (by decide)]; exact r6, by rw [kk 4 (by decide)]; exact r7, fun j v hj => by rw [oo 94 j (by decide) (by decide)]; exact r8 j v hj, by rw [o95]; exact r9, f, pc, sl, sk, rest, em, by rw [kk 8 (by decide)]; exact q1, by rw [kk 9 (by decide)]; exact q2, by rw [kk 10 (by decide)]; exact q3, by rw [kk 11 (by decide)]; exact q4⟩
      obtain ⟨x, rest', em', o1, o2, o3, o4, o5⟩ := hty
      obtain ⟨ms, ps, mo⟩ := m
      dsimp only at em em' o3 o4 o5
      subst em
      simp only [List.cons.injEq] at em'
      obtain ⟨rfl, rfl⟩ := em'
      obtain ⟨k', n', hq', -, hty'⟩ := mcase hm hal o1 o2 o3 o4 o5
      have en : mrun L al (k + 1) ((f, pc, sl, sk) :: rest, ps, mo) = if (mstep L al ((f, pc, sl, sk) :: rest, ps, mo)).1 = 0 then ((mrun L al k (mstep L al ((f, pc, sl, sk) :: rest, ps, mo)).2.2).1, (mrun L al k (mstep L al ((f, pc, sl, sk) :: rest, ps, mo)).2.2).2.1, (mrun L al k (mstep L al ((f, pc, sl, sk) :: rest, ps, mo)).2.2).2.2.1 + 1, (mrun L al k (mstep L al ((f, pc, sl, sk) :: rest, ps, mo)).2.2).2.2.2) else ((mstep L al ((f, pc, sl, sk) :: rest, ps, mo)).1, (mstep L al ((f, pc, sl, sk) :: rest, ps, mo)).2.1, 1, (mstep L al ((f, pc, sl, sk) :: rest, ps, mo)).2.2) := rfl
      refine c_step hp hm hal hT hR1 o1 o2 o3 o4 o5 (fun hz u hRu => ⟨_, rfl, hRu.1.L, ?_⟩) (fun hz u hTu => ⟨_, rfl, hTu.1.L, ?_⟩)
      · refine ih (st + 1) _ u (by omega) hRu (hty' hz) (fun w hw => ?_)
        rw [en, if_pos hz] at h
        refine h w ?_
        rw [show st + ((mrun L al k (mstep L al ((f, pc, sl, sk) :: rest, ps, mo)).2.2).2.2.1 + 1) = st + 1 + (mrun L al k (mstep L al ((f, pc, sl, sk) :: rest, ps, mo)).2.2).2.2.1 by omega]
        exact hw
      · rw [en, if_neg hz] at h
        have hmm : (mstep L al ((f, pc, sl, sk) :: rest, ps, mo)).2.2 = ((f, pc, sl, sk) :: rest, ps, mo) := by
          obtain ⟨k2, n2, hq2, hcs, -⟩ := mcase hm hal o1 o2 o3 o4 o5
          rcases hcs with ⟨-, -, e⟩ | ⟨-, -, _, _, -, -, e⟩ | ⟨_, _, _, _, -, -, -, -, e⟩ | ⟨_, _, -, -, e⟩ | ⟨_, _, -, -, e⟩ | ⟨_, _, -, -, e⟩ | ⟨_, _, _, -, -, -, -, -, e⟩ | ⟨_, _, _, -, -, -, -, e⟩ | ⟨_, -, -, -, e⟩ | ⟨_, -, -, -, -, e⟩ | ⟨_, _, -, -, e | ⟨_, _, _, _, _, -, e⟩⟩ | ⟨_, -, -, -, e⟩
          · rw [e] at hz; exact absurd rfl hz
          · rw [e] at hz; exact absurd rfl hz
          · split at e
            · rw [e]
            · rw [e] at hz; exact absurd rfl hz
          · rw [e] at hz; exact absurd rfl hz
          · split at e
            · rw [e]
            · rw [e] at hz; exact absurd rfl hz
          · rw [e] at hz; exact absurd rfl hz
          · rw [e] at hz; exact absurd rfl hz
          · rw [e] at hz; exact absurd rfl hz
          · rw [e] at hz; exact absurd rfl hz
          · split at e
            · rw [e]
            · rw [e] at hz; exact absurd rfl hz
          · rw [e.2]
          · rw [e] at hz; exact absurd rfl hz
          · split at e
            · rw [e]
            · rw [e] at hz; exact absurd rfl hz
        have hfin := h u (by rw [hmm]; exact hTu)
        exact x_Machine_perform_53 hTu.1.L ⟨fun _ => ⟨fun _ => hfin, fun q => absurd hz q⟩, fun _ => ⟨fun _ => ⟨fun _ => hfin, fun q => absurd hz q⟩, fun q => absurd hz q⟩⟩
/-- the first frame, of the arguments -/
def m0 (L : List Fn) (g : Nat → Int32) (f : Nat) : MSt := ([(f, 0, (List.range (fnP (fAt L f))).map g, [])], [], fsz L f)
theorem m0_ty (hm : mcOk A L H) {f : Nat} (hf : f < L.length) (g : Nat → Int32) (hfit : fsz L f ≤ al) : tyM L H al (m0 L g f) := by
  obtain ⟨p1, p2, p3, p4, p5, p6, p7, p8, p9, p10, p11⟩ := hm.2.2 f hf
  refine ⟨_, [], rfl, ⟨hf, p7, ?_, ?_, ?_⟩, (fun y hy => by cases hy), ?_, Nat.zero_le _, hfit⟩
  · show 0 + 0 = (H f 0).1
    omega
  · dsimp only
    rw [List.length_map, List.length_range]; exact p10
  · dsimp only
    rw [List.length_map, List.length_range]; exact p3
  · show fsz L f + 0 ≤ al
    omega
/-- what run gives: halt, outcome, steps, state -/
def mall (L : List Fn) (al lim : Nat) (g : Nat → Int32) (f : Nat) : Int32 × Int32 × Nat × MSt := if al < fsz L f then (2, 0, 0, [], [], 0) else mrun L al lim (m0 L g f)
theorem c_run (hp : isP p) (hm : mcOk A L H) (hal : al ≤ 20000) (hT : mTab t ad p L) {lim f : Nat} (hlim : lim ≤ 20000) (hf : f < L.length) (hL : Lay t ad) (h : ∀ u, Tld ad t (mall L al lim (t.2.1 (ad 2)) f).2.2.1 (mall L al lim (t.2.1 (ad 2)) f).2.1 (mall L al lim (t.2.1 (ad 2)) f).2.2.2 u → post (some (.int (mall L al lim (t.2.1 (ad 2)) f).1)) u) : g_E cx (d + 6) i_Machine_load [.ref (ad 93), .ref (ad p), .int (nI al)] t (fun r u5 => r = none ∧ Lay u5 ad ∧ (g_E cx (d + 6) i_Machine_perform [.ref (ad 93), .int (nI f), .ref (ad 2), .int (nI lim)] u5 post)) := by
  have hpg := hp.ge
  have hpl := hp.lt
  obtain ⟨p1, p2, p3, p4, p5, p6, p7, p8, p9, p10, p11⟩ := hm.2.2 f hf
  have g2 := hm.2.1
  have hfs : fsz L f = 2 + fnS (fAt L f) + fnT (fAt L f) := rfl
  refine x_Machine_load hp hL (fun t1 e1 t3 e3 t4 e4 t5 e5 t6 e6 t7 e7 => ?_)
  have hmin : (if (20000 : Int32) < nI al then 20000 else nI al) = nI al := by
    rw [if_neg]
    rw [show (20000 : Int32) = nI 20000 from rfl, nI_ltI (by omega) (by omega)]
    omega
  rw [hmin] at e3
  have z : ∀ {q : gSt} {k : Nat} {x : Int32}, gFr ad mcP t q → gFr ad mcP t (g_si q (ad 93) k x) := fun h => h.si rfl
  have F1 : gFr ad mcP t t1 := by rw [e1]; exact (gFr.rf hL).sr rfl (by decide +kernel)
  have F7 : gFr ad mcP t t7 := by rw [e7, e6, e5, e4, e3]; exact z (z (z (z (z F1))))
  have r67 : t7.2.2.2 (ad 93) 6 = some (ad p) := by rw [e7, e6, e5, e4, e3]; show t1.2.2.2 (ad 93) 6 = _; rw [e1, g_rr_at]
  have v7 : t7.2.1 (ad 93) 7 = nI al := by rw [e7, g_rd_k (by decide), e6, g_rd_k (by decide), e5, g_rd_k (by decide), e4, g_rd_k (by decide), e3, g_rd_at]
  have v1 : t7.2.1 (ad 93) 1 = 0 := by rw [e7, g_rd_k (by decide), e6, g_rd_k (by decide), e5, g_rd_k (by decide), e4, g_rd_at]
  have v2 : t7.2.1 (ad 93) 2 = 0 := by rw [e7, g_rd_k (by decide), e6, g_rd_k (by decide), e5, g_rd_at]
  have v3 : t7.2.1 (ad 93) 3 = 0 := by rw [e7, g_rd_k (by decide), e6, g_rd_at]
  have v4 : t7.2.1 (ad 93) 4 = 0 := by rw [e7, g_rd_at]
  have T7 := hT.fr hp F7
  refine ⟨rfl, F7.L, x_Machine_perform hp F7.L ?_⟩
  refine m_fits (b := 0) hp F7.L r67 T7 g2 hf v7 hal (by omega) ⟨_, rfl, F7.L, r67, ?_⟩
  rw [Nat.zero_add]
  unfold mall at h
  by_cases hz : al < fsz L f
  · rw [if_pos hz] at h ⊢
    refine ⟨fun q => absurd rfl q, fun _ => h t7 ⟨F7, v1, v2, v3, v4, fun j v hj => by cases hj⟩⟩
  · rw [if_neg hz] at h ⊢
    refine ⟨fun _ => ⟨vp_in_nI (by omega) (by omega), ?_⟩, fun q => absurd (by decide) q⟩
    rw [nI_clamp (n := f) (by omega), (T7 f hf).1, nI_clamp (n := fnP (fAt L f)) (by omega), show (0 : Int32).toNatClampNeg = 0 from by decide, show (2 : Int32).toNatClampNeg = 2 from by decide, show (1 : Int32).toNatClampNeg = 1 from by decide]
    refine ⟨⟨by decide, by decide, nI_pos (by omega), by omega, by omega⟩, fun t8 e8 => ⟨vp_in_nI (n := 0) (by decide) (by decide), fun t9 e9 => ⟨vp_in_nI (n := 1) (by decide) (by decide), fun t10 e10 => ?_⟩⟩⟩
    have F8 : gFr ad mcP t7 t8 := by rw [e8]; exact (gFr.rf F7.L).row (fun k hk => by cases hk)
    have F10 : gFr ad mcP t7 t10 := by rw [e10, e9]; exact (F8.si rfl).si rfl
    have f10 : ∀ c k, c ≠ 95 → c < 199 → t10.2.1 (ad c) k = t7.2.1 (ad c) k := fun c k hc hl => by rw [e10, g_rd_ne (F8.L.ne c 95 hl (by decide) hc), e9, g_rd_ne (F8.L.ne c 95 hl (by decide) hc), e8, g_rdw, if_neg (F7.L.ne c 95 hl (by decide) hc)]
    have r610 : t10.2.2.2 (ad 93) 6 = some (ad p) := by rw [e10, e9, e8]; exact r67
    have hmem0 : t10.2.1 (ad 95) 0 = -1 := by rw [e10, g_rd_k (by decide), e9, g_rd_at]
    have hmem : ∀ j, j < fnP (fAt L f) → t10.2.1 (ad 95) (2 + j) = t.2.1 (ad 2) j := fun j hj => by
      rw [e10, g_rd_k (by omega), e9, g_rd_k (by omega), e8, g_rdw, if_pos rfl]
      unfold va_cpy
      rw [if_pos (by omega), show 0 + (2 + j - 2) = j by omega, F7.i 2 j (mcP_r (by decide))]
    refine m_enterFrame (b := 0) hp F10.L r610 (T7.fr hp F10) g2 hf (mo := 0) (by rw [f10 93 3 (by decide) (by decide), v3]; rfl) (by decide) (by omega) (fun u Fu u93 u6 u94 u95 w3 w8 w9 w10 w11 => ⟨rfl, Fu.L, ?_⟩)
    have k93 : ∀ k, k ≠ 3 → k ≠ 8 → k ≠ 9 → k ≠ 10 → k ≠ 11 → u.2.1 (ad 93) k = t7.2.1 (ad 93) k := fun k h3 h8 h9 h10 h11 => by rw [u93 k h3 h8 h9 h10 h11, f10 93 k (by decide) (by decide)]
    have hRC : RC t ad p L al 0 (m0 L (t.2.1 (ad 2)) f) u := by
      refine ⟨F7.tr (F10.tr Fu), u6, (k93 7 (by decide) (by decide) (by decide) (by decide) (by decide)).trans v7, (k93 1 (by decide) (by decide) (by decide) (by decide) (by decide)).trans v1, (k93 2 (by decide) (by decide) (by decide) (by decide) (by decide)).trans v2, ?_, (k93 4 (by decide) (by decide) (by decide) (by decide) (by decide)).trans v4, (fun j v hj => by cases hj), ⟨fun j v hj => ?_, trivial, ?_, trivial⟩, f, 0, _, [], [], rfl, w8, w9, w10, ?_⟩
      · rw [w3]; congr 1; show max 0 (0 + fsz L f) = fsz L f; omega
      · dsimp only at hj
        have hjl := (List.getElem?_eq_some_iff.mp hj).1
        rw [List.length_map, List.length_range] at hjl
        rw [List.getElem?_map, List.getElem?_range hjl] at hj
        rw [u95]
        show t10.2.1 (ad 95) (0 + 2 + j) = v
        rw [Nat.zero_add, hmem j hjl]
        exact Option.some.inj hj
      · show u.2.1 (ad 95) 0 = -1
        rw [u95, hmem0]
      · rw [w11]; rfl
    exact c_loop hp hm hal hT hlim lim 0 _ u (by omega) hRC (m0_ty hm hf _ (by omega)) (fun w hw => h w (by rw [Nat.zero_add] at hw; exact hw))
end CR
