/-! THE CLASS'S BOUNDS: all -/
section BF
variable {cx : gCx} {d : Nat} {ad : Nat → Nat} {t : gSt} {post : Option Value → gSt → Prop} {p n : Nat} {fc : Nat → List (Int32 × Int32)} {fr : Nat → Nat} {b : Nat → Nat}
theorem bVal.cg {cl tb : Nat → Nat → Bool} {x y : Nat → Nat} (h : bVal t ad p n cl tb x) (e : ∀ f, f < n → bNon n cl tb f = false → x f = y f) : bVal t ad p n cl tb y := by
  intro f hf
  rw [h f hf]
  cases hN : bNon n cl tb f with
  | true => rfl
  | false => rw [e f hf hN]
theorem m_bfind {cl tb : Nat → Nat → Bool} (hcl : ∀ f g, cl f g = cCal (fc f) g) (htb : ∀ f g, tb f g = cTal (fc f) g) (hp : isP p) (hL : Lay t ad) (hn : n ≤ 24) (hcnt : t.2.1 (ad p) 15 = nI n) (hC : ∀ f, f < n → RCf t ad p f (fc f)) (hG : ∀ f, f < n → cdG n (fc f)) (hS : ∀ f, f < n → ∃ s w, t.2.1 (ad (p + 9)) f = nI s ∧ t.2.1 (ad (p + 10)) f = nI w ∧ fr f = 2 + s + w) (hM : ∀ f, f < n → fr f ≤ 2000) (hbd : isBd n cl tb fr b) (h : ∀ u, gFr ad (bdP p) t u → bVal u ad p n cl tb b → post none u) : g_E cx (d + 3) i_Bounds_find [.ref (ad 79), .ref (ad p)] t post := by
  have hpg := hp.ge
  have hpl := hp.lt
  refine x_Bounds_find hp hL ?_
  have cnt : ∀ {u}, gFr ad (bdP p) t u → u.2.1 (ad p) 15 = nI n := fun hF => by rw [hF.i _ _ (bdP_r (by omega)) (by omega)]; exact hcnt
  have first : ∀ k m (u : gSt), k + m = n → gFr ad (bdP p) t u → (∀ f g, f < m → g < 24 → hb (u.2.1 (ad 80) f) g = cl f g ∧ hb (u.2.1 (ad 81) f) g = tb f g ∧ hb (u.2.1 (ad 82) f) g = (cl f g || tb f g)) → g_W cx (g_E cx (d + 2)) mt_Bounds_find post (2, [some (.ref (ad 79)), some (.ref (ad p)), some (.int (nI m)), none, none, none], [], u, 0, 0) := by
    intro k
    induction k with
    | zero =>
      intro m u hk hF hu
      have hm : m = n := by omega
      subst hm
      refine x_Bounds_find_2 hp hF.L ?_
      rw [cnt hF]
      refine ⟨fun _ => ?_, fun z => absurd (nI_le (Nat.le_refl _) (by omega)) z⟩
      refine m_closeOver (R := fun f g => cl f g || tb f g) (Or.inr rfl) hF.L hn (fun f g hf hg => (hu f g hf hg).2.2) (fun u2 F2 q2 => ⟨rfl, F2.L, ?_⟩)
      have F2' : gFr ad (bdP p) t u2 := hF.tr (F2.mo (fun c k q => bdP_t (by have := Nat.eq_of_beq_eq_true q; omega)))
      have n2 : ∀ c k, c ≠ 82 → c < 199 → u2.2.1 (ad c) k = u.2.1 (ad c) k := fun c k hc hl => F2.i c k (onP_r hc) hl
      rw [cnt F2']
      refine m_bendless (cl := cl) (R := bRe m cl tb) F2.L hn (fun f g hf hg => by rw [n2 80 _ (by decide) (by decide)]; exact (hu f g hf hg).1) q2 (fun y hy => ⟨_, rfl, F2.L, ?_⟩)
      have hbit : ∀ f, f < m → (((u2.2.1 (ad 82) f) &&& y) = 0 ↔ (List.range m).any (fun e => bEnd m cl (bRe m cl tb) e && bRe m cl tb f e) = false) := by
        intro f hf
        constructor
        · intro z
          rw [List.any_eq_false]
          intro e he
          have he := List.mem_range.mp he
          have : hb ((u2.2.1 (ad 82) f) &&& y) e = false := by rw [z, hb_z]
          rw [hb_and, q2 f e hf (by omega), hy e (by omega), decide_eq_true he, Bool.true_and] at this
          rw [Bool.and_comm, this]
          decide
        · intro z
          refine hb_0 (fun e he => ?_)
          rw [hb_and, hy e he]
          by_cases c : e < m
          · rw [q2 f e hf (by omega), decide_eq_true c, Bool.true_and]
            have := List.any_eq_false.mp z e (List.mem_range.mpr c)
            rw [Bool.and_comm]
            exact Bool.eq_false_iff.mpr this
          · rw [decide_eq_false c, Bool.false_and, Bool.and_false]
      have hT0 : ∀ w : gSt, gFr ad (onP (p + 11)) u2 w → bTab w ad p m cl tb fr := by
        intro w hw
        refine bTab.fm hp ⟨cnt F2', fun f g hf hg => ?_, fun f hf => ?_⟩ hw
        · rw [n2 80 _ (by decide) (by decide), n2 81 _ (by decide) (by decide)]
          exact ⟨(hu f g hf hg).1, (hu f g hf hg).2.1⟩
        · obtain ⟨s, w', e1, e2, e3⟩ := hS f hf
          exact ⟨s, w', by rw [F2'.i _ _ (bdP_r (by omega)) (by omega)]; exact e1, by rw [F2'.i _ _ (bdP_r (by omega)) (by omega)]; exact e2, e3⟩
      have cnt2 : ∀ {w : gSt}, gFr ad (onP (p + 11)) u2 w → w.2.1 (ad p) 15 = nI m := fun hw => (hT0 _ hw).1
      have toT : ∀ {w : gSt}, gFr ad (onP (p + 11)) u2 w → gFr ad (bdP p) t w := fun hw => F2'.tr (hw.mo (fun c k q => bdP_t (by have := Nat.eq_of_beq_eq_true q; omega)))
      -- the rounds
      have rounds : ∀ k r (w : gSt) (X : Nat → Nat → Nat) (o : Option Value), k + r = m → gFr ad (onP (p + 11)) u2 w → bVal w ad p m cl tb (X r) → (∀ f, f < m → bNon m cl tb f = false → fr f ≤ X 0 f) → (∀ r', r' < r → bRnd m cl tb fr (X r') (X (r' + 1))) → (∀ r', r' ≤ r → ∀ f, f < m → bNon m cl tb f = false → X r' f ≤ b f) → g_W cx (g_E cx (d + 2)) mt_Bounds_find post (128, [some (.ref (ad 79)), some (.ref (ad p)), some (.int y), some (.int 1), some (.int (nI r)), o], [], w, 0, 0) := by
        intro k
        induction k with
        | zero =>
          intro r w X o hk hw hV h0 hr hle
          have hr0 : r = m := by omega
          subst hr0
          refine x_Bounds_find_128 hp hw.L ?_
          rw [cnt2 hw]
          exact ⟨fun _ => h w (toT hw) (hV.cg (bRnd_all hbd h0 hr hle)), fun z => absurd (nI_le (Nat.le_refl _) (by omega)) z⟩
        | succ k ihk =>
          intro r w X o hk hw hV h0 hr hle
          refine x_Bounds_find_128 hp hw.L ?_
          rw [cnt2 hw]
          refine ⟨fun z => absurd z (nI_ge (by omega) (by omega)), fun _ => ⟨fun z => absurd z (by decide), fun _ => ?_⟩⟩
          -- one round
          have one : ∀ j f (v : gSt) (x : Nat → Nat) (c : Bool), j + f = m → gFr ad (onP (p + 11)) u2 v → bVal v ad p m cl tb x → (∀ g, g < m → bNon m cl tb g = false → X r g ≤ x g ∧ x g ≤ b g) → (∀ g, g < f → bNon m cl tb g = false → ∀ g', g' < m → (cl g g' = true → fr g + X r g' ≤ x g) ∧ (tb g g' = true → X r g' ≤ x g)) → (c = false → ∀ g, g < m → x g = X r g) → g_W cx (g_E cx (d + 2)) mt_Bounds_find post (146, [some (.ref (ad 79)), some (.ref (ad p)), some (.int y), some (.int (b32 c)), some (.int (nI r)), some (.int (nI f))], [], v, 0, 0) := by
            intro j
            induction j with
            | zero =>
              intro f v x c hj hv hVx hx1 hx2 hc
              have hf : f = m := by omega
              subst hf
              refine x_Bounds_find_146 hp hv.L ?_
              rw [cnt2 hv, nI_1]
              refine ⟨fun _ => ?_, fun z => absurd (nI_le (Nat.le_refl _) (by omega)) z⟩
              have hR : bRnd f cl tb fr (X r) x := fun g hg hN => ⟨(hx1 g hg hN).1, fun g' hg' => hx2 g hg hN g' hg'⟩
              cases c with
              | true =>
                have := ihk (r + 1) v (fun r' => if r' = r + 1 then x else X r') (some (.int (nI f))) (by omega) hv (by rw [if_pos rfl]; exact hVx) (by rw [if_neg (by omega)]; exact h0) (fun r' hr' => ?_) (fun r' hr' g hg hN => ?_)
                · exact this
                · by_cases e : r' = r
                  · subst e
                    rw [if_neg (by omega), if_pos rfl]
                    exact hR
                  · rw [if_neg (by omega), if_neg (by omega)]
                    exact hr r' (by omega)
                · by_cases e : r' = r + 1
                  · rw [if_pos e]
                    exact (hx1 g hg hN).2
                  · rw [if_neg e]
                    exact hle r' (by omega) g hg hN
              | false =>
                have hcc := hc rfl
                have hmono : ∀ r', r' ≤ r → ∀ g, g < f → bNon f cl tb g = false → fr g ≤ X r' g := by
                  intro r'
                  induction r' with
                  | zero => intro _ g hg hN; exact h0 g hg hN
                  | succ r' ihr =>
                    intro hle2 g hg hN
                    have := (hr r' (by omega) g hg hN).1
                    have := ihr (by omega) g hg hN
                    omega
                have hpre : bPre f cl tb fr (X r) := fun g hg hN => by
                  refine ⟨hmono r (Nat.le_refl _) g hg hN, fun g' hg' => ?_⟩
                  have := hx2 g hg hN g' hg'
                  rw [hcc g hg] at this
                  exact this
                have hfin : bVal v ad p f cl tb b := hVx.cg (fun g hg hN => by
                  rw [hcc g hg]
                  exact Nat.le_antisymm (hle r (Nat.le_refl _) g hg hN) (hbd.2 (X r) hpre g hg hN))
                refine x_Bounds_find_128 hp hv.L ⟨fun _ => h v (toT hv) hfin, fun _ => ⟨fun _ => h v (toT hv) hfin, fun z => absurd rfl z⟩⟩
            | succ j ihj =>
              intro f v x c hj hv hVx hx1 hx2 hc
              refine x_Bounds_find_146 hp hv.L ?_
              rw [cnt2 hv, nI_1 f]
              refine ⟨fun z => absurd z (nI_ge (by omega) (by omega)), fun _ => ?_⟩
              refine m_braise (x := x) hp hv.L hn hbd hM (hT0 v hv) hVx (fun g hg hN => (hx1 g hg hN).2) (by omega) (fun v2 y2 Fv hy1 hy2 hV2 => ⟨_, rfl, Fv.L, fun x3 e3 => ?_⟩)
              have hw2 : gFr ad (onP (p + 11)) u2 v2 := hv.tr Fv
              have e3' : x3 = b32 (c || decide (¬ y2 = x f)) := by
                rw [e3]
                by_cases q : y2 = x f
                · rw [if_pos q, decide_eq_false (fun z => z q), Bool.or_false]
                  cases c <;> decide
                · rw [if_neg q, decide_eq_true q, Bool.or_true]
                  cases c <;> decide
              rw [e3']
              refine ihj (f + 1) v2 (fun g => if g = f then y2 else x g) _ (by omega) hw2 hV2 (fun g hg hN => ?_) (fun g hg hN g' hg' => ?_) (fun hc2 g hg => ?_)
              · by_cases q : g = f
                · subst q
                  rw [if_pos rfl]
                  have hU := hy2 hN
                  have := (hx1 g hg hN).1
                  have := hU.1
                  exact ⟨by omega, hU.2.2 b hbd.1 (fun g hg hN => (hx1 g hg hN).2)⟩
                · rw [if_neg q]
                  exact hx1 g hg hN
              · by_cases q : g = f
                · subst q
                  rw [if_pos rfl]
                  have hU := hy2 hN
                  have hs := hU.2.1 g' hg'
                  refine ⟨fun z => ?_, fun z => ?_⟩
                  · have hN' : bNon m cl tb g' = false := bNon_st (by omega) hg' hN (by rw [z]; rfl)
                    have := (hx1 g' hg' hN').1
                    have := hs.1 z
                    omega
                  · have hN' : bNon m cl tb g' = false := bNon_st (by omega) hg' hN (by rw [z, Bool.or_true])
                    have := (hx1 g' hg' hN').1
                    have := hs.2 z
                    omega
                · rw [if_neg q]
                  exact hx2 g (by omega) hN g' hg'
              · rw [Bool.or_eq_false_iff] at hc2
                by_cases q : g = f
                · subst q
                  rw [if_pos rfl]
                  have := of_decide_eq_false hc2.2
                  rw [Classical.not_not.mp this]
                  exact hc hc2.1 g hg
                · rw [if_neg q]
                  exact hc hc2.1 g hg
          exact one m 0 w (X r) false (by omega) hw hV (fun g hg hN => ⟨Nat.le_refl _, hle r (Nat.le_refl _) g hg hN⟩) (fun g hg => by omega) (fun _ _ _ => rfl)
      -- the first bounds
      have init : ∀ k f (w : gSt) (o : Option Value), k + f = m → gFr ad (onP (p + 11)) u2 w → (∀ g, g < f → w.2.1 (ad (p + 11)) g = if bNon m cl tb g = true then -1 else nI (fr g)) → g_W cx (g_E cx (d + 2)) mt_Bounds_find post (63, [some (.ref (ad 79)), some (.ref (ad p)), some (.int y), some (.int (nI f)), o, none], [], w, 0, 0) := by
        intro k
        induction k with
        | zero =>
          intro f w o hk hw hi
          have hf : f = m := by omega
          subst hf
          refine x_Bounds_find_63 hp hw.L ?_
          rw [cnt2 hw]
          refine ⟨fun _ => ?_, fun z => absurd (nI_le (Nat.le_refl _) (by omega)) z⟩
          exact rounds f 0 w (fun _ => fr) none (by omega) hw hi (fun _ _ _ => Nat.le_refl _) (fun r' hr' => by omega) (fun r' _ g hg hN => (hbd.1 g hg hN).1)
        | succ k ihk =>
          intro f w o hk hw hi
          have hvf := vp_in_nI (n := f) (N := 24) (by omega) (by omega)
          have w82 : w.2.1 (ad 82) f = u2.2.1 (ad 82) f := hw.i 82 f (onP_r (by omega))
          have next : ∀ (x : Int32) (t3 : gSt) (o : Option Value), x = (if bNon m cl tb f = true then -1 else nI (fr f)) → t3 = g_si w (ad (p + 11)) f x → g_W cx (g_E cx (d + 2)) mt_Bounds_find post (63, [some (.ref (ad 79)), some (.ref (ad p)), some (.int y), some (.int (nI (f + 1))), o, none], [], t3, 0, 0) := by
            intro x t3 o ex e3
            refine ihk (f + 1) t3 o (by omega) (by rw [e3]; exact hw.si onP_t (by omega)) (fun g hg => ?_)
            rw [e3]
            by_cases q : g = f
            · subst q; rw [g_rd_at]; exact ex
            · rw [g_rd_k q]; exact hi g (by omega)
          refine x_Bounds_find_63 hp hw.L ?_
          rw [cnt2 hw, nI_clamp (n := f) (by omega), nI_1]
          refine ⟨fun z => absurd z (nI_ge (by omega) (by omega)), fun _ => m_hasBit hw.L (by omega) ⟨_, rfl, hw.L, fun z => ⟨hvf, fun t3 e3 => next _ t3 _ ?_ e3⟩, fun z => ⟨hvf, fun z2 => ?_, fun z2 => ⟨hvf, fun t3 e3 => next _ t3 _ ?_ e3⟩⟩⟩⟩
          · have hE : bEnd m cl (bRe m cl tb) f = true := by
              rw [hy f (by omega), decide_eq_true (show f < m by omega), Bool.true_and] at z
              cases e : bEnd m cl (bRe m cl tb) f with
              | true => rfl
              | false => rw [e] at z; exact absurd rfl z
            have : bNon m cl tb f = true := by
              unfold bNon bNo
              rw [hE]; rfl
            rw [this, if_pos rfl]
          · have hE : bEnd m cl (bRe m cl tb) f = false := by
              rw [hy f (by omega), decide_eq_true (show f < m by omega), Bool.true_and] at z
              exact b32_0.mp (Classical.not_not.mp z)
            rw [w82, hbit f (by omega)] at z2
            have hN : bNon m cl tb f = false := by
              unfold bNon bNo
              rw [hE, z2]; rfl
            refine m_bframe hp hw.L hn (hT0 w hw) (by omega) ⟨_, rfl, hw.L, hvf, fun t6 e6 => next _ t6 _ ?_ e6⟩
            rw [hN, if_neg (by decide)]
          · rw [w82, hbit f (by omega)] at z2
            have : bNon m cl tb f = true := by
              unfold bNon bNo
              have := (Bool.not_eq_false _).mp z2
              rw [this, Bool.or_true]
            rw [this, if_pos rfl]
      exact init m 0 u2 none (by omega) (gFr.rf F2.L) (fun g hg => by omega)
    | succ k ih =>
      intro m u hk hF hu
      refine x_Bounds_find_2 hp hF.L ?_
      rw [cnt hF]
      have hvm := vp_in_nI (n := m) (N := 24) (by omega) (by omega)
      refine ⟨fun z => absurd z (nI_ge (by omega) (by omega)), fun _ => ?_⟩
      obtain ⟨s, c1, c2, c3, c4⟩ := hC m (by omega)
      have ou : ∀ c k, 96 ≤ c → c ≠ p + 11 → c < 199 → u.2.1 (ad c) k = t.2.1 (ad c) k := fun c k hc hc2 hl => hF.i c k (bdP_r (by omega)) hl
      refine m_bgather (d := d + 1) (n := n) (C := fc m) hp hF.L (by omega) hn ⟨s, by rw [ou _ _ (by omega) (by omega) (by omega)]; exact c1, c2, by rw [ou _ _ (by omega) (by omega) (by omega)]; exact c3, fun i q hq => by rw [ou _ _ (by omega) (by omega) (by omega), ou _ _ (by omega) (by omega) (by omega)]; exact c4 i q hq⟩ (hG m (by omega)) (fun u2 F2 q2 => ⟨rfl, F2.L, hvm, hvm, hvm, fun t7 e7 => ?_⟩)
      rw [nI_clamp (by omega)] at e7
      rw [nI_1]
      have n7 : ∀ c k, c ≠ 82 → c < 199 → t7.2.1 (ad c) k = u2.2.1 (ad c) k := fun c k hc hl => by rw [e7, g_rd_ne (F2.L.ne c 82 hl (by decide) hc)]
      refine ih (m + 1) t7 (by omega) (hF.tr (by
        rw [e7]
        exact (F2.mo (fun c k q => bdP_t (by
          unfold bgP at q
          simp only [Bool.and_eq_true, Bool.or_eq_true, Nat.beq_eq] at q
          omega))).si (bdP_t (by omega)))) (fun f g hf hg => ?_)
      by_cases e : f = m
      · subst e
        rw [n7 80 _ (by decide) (by decide), n7 81 _ (by decide) (by decide), e7, g_rd_at, hb_or, (q2 g hg).1, (q2 g hg).2, hcl, htb]
        exact ⟨rfl, rfl, rfl⟩
      · have := hu f g (by omega) hg
        rw [n7 80 _ (by decide) (by decide), n7 81 _ (by decide) (by decide), F2.i 80 f (bgP_r (by omega)), F2.i 81 f (bgP_r (by omega)), e7, g_rd_k e, F2.i 82 f (bgP_r (by omega))]
        exact this
  exact first n 0 t (by omega) (gFr.rf hL) (fun f g hf => by omega)
end BF
