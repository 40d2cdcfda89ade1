/-! PUTTING FUNCTIONS WHERE THEY ARE CALLED: the class chooses -/
def iaP (c k : Nat) : Bool := (Nat.ble 48 c && Nat.ble c 54) || (Nat.beq c 47 && (Nat.ble 6 k && Nat.ble k 8))
theorem iaP_in {c k : Nat} (h : iaP c k = true) : (48 ≤ c ∧ c ≤ 54) ∨ (c = 47 ∧ 6 ≤ k ∧ k ≤ 8) := by
  unfold iaP at h
  simp only [Bool.or_eq_true, Bool.and_eq_true, Nat.ble_eq, Nat.beq_eq] at h
  omega
theorem iaP_r {c k : Nat} (h : ¬ ((48 ≤ c ∧ c ≤ 54) ∨ (c = 47 ∧ 6 ≤ k ∧ k ≤ 8))) : iaP c k = false := by
  cases e : iaP c k with
  | false => rfl
  | true => exact absurd (iaP_in e) h
theorem iaP_t {c k : Nat} (h : (48 ≤ c ∧ c ≤ 54) ∨ (c = 47 ∧ 6 ≤ k ∧ k ≤ 8)) : iaP c k = true := by
  unfold iaP
  simp only [Bool.or_eq_true, Bool.and_eq_true, Nat.ble_eq, Nat.beq_eq]
  omega
theorem gl_app2 {α : Type} {st : List α} {q : α} : (st ++ [q]).getLast? = some q := by simp
def QI (t0 : gSt) (ad : Nat → Nat) (q : (Nat → Int32) × IS) (t : gSt) : Prop := gFr ad iaP t0 t ∧ t.2.1 (ad 54) = q.1 ∧ (t.2.1 (ad 47) 6 = nI q.2.1 ∧ t.2.1 (ad 47) 7 = nI q.2.2.1 ∧ t.2.1 (ad 47) 8 = nI q.2.2.2) ∧ 1 ≤ q.2.1 ∧ q.2.1 ≤ 500 ∧ q.2.2.1 ≤ 120
/-- what choosing reads -/
def iTab (t : gSt) (ad : Nat → Nat) (p n : Nat) (lim : Int32) (cyc : Nat → Bool) (tab : Nat → Prop) (bd : Nat → Fo) (bV : Nat → Nat) : Prop := t.2.2.2 (ad 47) 2 = some (ad p) ∧ t.2.2.2 (ad 47) 3 = some (ad 96) ∧ t.2.2.2 (ad 47) 4 = some (ad 11) ∧ t.2.1 (ad 47) 5 = lim ∧ (∀ g, g < n → hb (t.2.1 (ad 20) g) g = cyc g) ∧ ∀ g, g < n → tab g → t.2.1 (ad 101) g = nI (fo_n (bd g)) ∧ t.2.1 (ad 99) g = nI (bV g) ∧ 1 ≤ fo_n (bd g) ∧ fo_n (bd g) ≤ 500 ∧ bV g ≤ 120
section IC
variable {cx : gCx} {d : Nat} {ad : Nat → Nat} {t0 t : gSt} {post : Option Value → gSt → Prop} {p n : Nat} {par : Int32 → Nat} {lim : Int32} {cyc : Nat → Bool} {tab : Nat → Prop} {bd : Nat → Fo} {bV : Nat → Nat} {ok : Nat → Bool}
theorem iTab.fm {u : gSt} {P : Nat → Nat → Bool} (h : iTab t ad p n lim cyc tab bd bV) (hF : gFr ad P t u) (h47 : ∀ k, 2 ≤ k → k ≤ 5 → P 47 k = false) (h20 : ∀ k, P 20 k = false) (h101 : ∀ k, P 101 k = false) (h99 : ∀ k, P 99 k = false) : iTab u ad p n lim cyc tab bd bV := by
  obtain ⟨a1, a2, a3, a4, a5, a6⟩ := h
  refine ⟨by rw [hF.r 47 2 (h47 2 (by decide) (by decide))]; exact a1, by rw [hF.r 47 3 (h47 3 (by decide) (by decide))]; exact a2, by rw [hF.r 47 4 (h47 4 (by decide) (by decide))]; exact a3, by rw [hF.i 47 5 (h47 5 (by decide) (by decide))]; exact a4, fun g hg => by rw [hF.i 20 g (h20 g)]; exact a5 g hg, fun g hg ht => by rw [hF.i 101 g (h101 g), hF.i 99 g (h99 g)]; exact a6 g hg ht⟩
theorem iTab.ia {u : gSt} (h : iTab t ad p n lim cyc tab bd bV) (hF : gFr ad iaP t u) : iTab u ad p n lim cyc tab bd bV := h.fm hF (fun k h1 h2 => iaP_r (by omega)) (fun k => iaP_r (by omega)) (fun k => iaP_r (by omega)) (fun k => iaP_r (by omega))
theorem m_choose {g : Nat} {q : (Nat → Int32) × IS} (hp : isP p) (hn : n ≤ 24) (hok : ∀ g, g < n → (cyc g = true ∨ tab g) → ok g = (!cyc g && decide (nI (fo_n (bd g)) ≤ lim))) (hT : iTab t0 ad p n lim cyc tab bd bV) (hpar : ∀ g, g < n → t0.2.1 (ad (p + 2)) g = nI (par (nI g))) (hpar6 : ∀ v, par v ≤ 6) (hg : g < n) (hc : cyc g = true ∨ tab g) (hQ : QI t0 ad q t) (h : ∀ u, gFr ad iaP t u → (∀ c k, c ≠ 47 → c < 199 → u.2.1 (ad c) k = t.2.1 (ad c) k) → (∀ c k, u.2.2.2 (ad c) k = t.2.2.2 (ad c) k) → QI t0 ad (q.1, iSt ok par bd bV 15 (nI g) q.2) u → post (some (.int (iCho ok par bd bV 15 (nI g) q.2))) u) : g_E cx (d + 3) i_Inliner_choose [.ref (ad 47), .int (nI g)] t post := by
  have hpg := hp.ge
  have hpl := hp.lt
  obtain ⟨F, q1, ⟨q2, q3, q4⟩, q5, q6, q7⟩ := hQ
  have hTt := hT.ia F
  obtain ⟨a1, a2, a3, a4, a5, a6⟩ := hTt
  have eg : (nI g).toNatClampNeg = g := nI_clamp (by omega)
  have hvg := vp_in_nI (n := g) (N := 24) (by omega) (by omega)
  have nay : iMay ok par bd bV g q.2 = false → post (some (.int (-1))) t := fun hm => by
    have e1 : iCho ok par bd bV 15 (nI g) q.2 = -1 := by
      unfold iCho
      rw [eg, if_neg (fun z => by rw [hm] at z; cases z.2)]
    have e2 : iSt ok par bd bV 15 (nI g) q.2 = q.2 := by
      unfold iSt
      rw [eg, if_neg (fun z => by rw [hm] at z; cases z.2)]
    have := h t (gFr.rf F.L) (fun _ _ _ _ => rfl) (fun _ _ => rfl) (by rw [e2]; exact ⟨F, q1, ⟨q2, q3, q4⟩, q5, q6, q7⟩)
    rw [e1] at this
    exact this
  refine x_Inliner_choose hp F.L a3 (m_inOneCircle F.L (by omega) (by omega) ⟨_, rfl, F.L, a1, a2, fun z => nay ?_, fun z => ⟨hvg, ?_⟩⟩)
  · rw [a5 g hg, Bool.and_self] at z
    have hcy : cyc g = true := by
      cases e : cyc g with
      | true => rfl
      | false => rw [e] at z; exact absurd rfl z
    unfold iMay
    rw [hok g hg hc, hcy]
    rfl
  · rw [a5 g hg, Bool.and_self] at z
    have hcy : cyc g = false := b32_0.mp (Classical.not_not.mp z)
    have ht : tab g := hc.resolve_left (by rw [hcy]; decide)
    obtain ⟨t1, t2, t3, t4, t5⟩ := a6 g hg ht
    have hpg' : t.2.1 (ad (p + 2)) g = nI (par (nI g)) := by rw [F.i _ _ (iaP_r (by omega)) (by omega)]; exact hpar g hg
    have hp6 := hpar6 (nI g)
    rw [eg, t1, a4]
    refine ⟨fun z1 => ?_, fun z1 => nay ?_⟩
    · have hokg : ok g = true := by rw [hok g hg hc, hcy, decide_eq_true z1]; rfl
      rw [hpg', q2, q3, t2]
      refine ⟨hvg, hvg, fun x3 e3 => ⟨hvg, fun x4 e4 => ?_⟩⟩
      rw [show nI q.2.1 - 1 = nI (q.2.1 - 1) by rw [show (1 : Int32) = nI 1 from rfl, nI_sub q5], nI_add, nI_add] at e3
      rw [nI_add] at e4
      subst e3 e4
      rw [show (500 : Int32) = nI 500 from rfl, show (120 : Int32) = nI 120 from rfl, nI_ltI (by omega) (by omega), nI_leI (by omega) (by omega)]
      refine ⟨fun z2 => nay ?_, fun z2 => ⟨fun z3 x5 e5 t6 e6 t7 e7 t8 e8 => ?_, fun z3 => nay ?_⟩⟩
      · unfold iMay
        rw [decide_eq_false (by omega : ¬ q.2.1 - 1 + par (nI g) + fo_n (bd g) ≤ 500), Bool.false_and, Bool.and_false]
      · have hm : iMay ok par bd bV g q.2 = true := by
          unfold iMay
          rw [hokg, decide_eq_true (by omega), decide_eq_true z3]
          rfl
        have e1 : iCho ok par bd bV 15 (nI g) q.2 = nI q.2.2.1 := by
          unfold iCho
          rw [eg, if_pos ⟨rfl, hm⟩]
        have e2 : iSt ok par bd bV 15 (nI g) q.2 = iNew par bd bV g q.2 := by
          unfold iSt
          rw [eg, if_pos ⟨rfl, hm⟩]
        have F8 : gFr ad iaP t t8 := by rw [e8, e7, e6]; exact (((gFr.rf F.L).si (iaP_t (by omega))).si (iaP_t (by omega))).si (iaP_t (by omega))
        have o8 : ∀ c k, c ≠ 47 → c < 199 → t8.2.1 (ad c) k = t.2.1 (ad c) k := fun c k hc hl => by
          have hne := F.L.ne c 47 hl (by decide) hc
          rw [e8, g_rd_ne hne, e7, g_rd_ne hne, e6, g_rd_ne hne]
        have := h t8 F8 o8 (fun c k => by rw [e8, e7, e6]; rfl) (by
          rw [e2]
          refine ⟨F.tr F8, ?_, ⟨?_, ?_, ?_⟩, ?_, ?_, ?_⟩
          · rw [show t8.2.1 (ad 54) = t.2.1 (ad 54) from funext (fun k => o8 54 k (by decide) (by decide))]; exact q1
          · rw [e8, g_rd_k (by decide), e7, g_rd_k (by decide), e6, g_rd_at]
            rfl
          · rw [e8, g_rd_k (by decide), e7, g_rd_at]
            rfl
          · rw [e8, g_rd_at, e7, g_rd_k (by decide), e6, g_rd_k (by decide), q4, nI_1]
            rfl
          · show 1 ≤ q.2.1 - 1 + par (nI g) + fo_n (bd g)
            omega
          · show q.2.1 - 1 + par (nI g) + fo_n (bd g) ≤ 500
            omega
          · show q.2.2.1 + bV g ≤ 120
            omega)
        rw [e1] at this
        rw [e5]
        exact this
      · unfold iMay
        rw [decide_eq_false (by omega : ¬ q.2.2.1 + bV g ≤ 120), Bool.and_false, Bool.and_false]
    · unfold iMay
      rw [hok g hg hc, decide_eq_false z1, Bool.and_false, Bool.false_and]
def iC (n : Nat) (cyc : Nat → Bool) (tab : Nat → Prop) (k v : Int32) : Prop := k = 15 → ∃ g, v = nI g ∧ g < n ∧ (cyc g = true ∨ tab g)
theorem m_chooseCalls {f s0 : Nat} {F : Fo} {B0 : Nat → Int32} {s : IS} (hp : isP p) (hf : f < 24) (hn : n ≤ 24) (hok : ∀ g, g < n → (cyc g = true ∨ tab g) → ok g = (!cyc g && decide (nI (fo_n (bd g)) ≤ lim))) (hL : Lay t ad) (hT : iTab t ad p n lim cyc tab bd bV) (hRp : RPar t ad p n par) (hpar6 : ∀ v, par v ≤ 6) (hst : t.2.1 (ad (p + 4)) f = nI s0) (hs : s0 + fo_n F ≤ c_len (p + 12)) (hrw : rows (t.2.1 (ad (p + 12))) (t.2.1 (ad (p + 13))) s0 (fo_p F)) (h1 : fo_l F = 1) (hV : fo_v n par (iC n cyc tab) F) (hn5 : fo_n F ≤ 500) (h54 : t.2.1 (ad 54) = B0) (h6 : t.2.1 (ad 47) 6 = nI s.1) (h7 : t.2.1 (ad 47) 7 = nI s.2.1) (h8 : t.2.1 (ad 47) 8 = nI s.2.2) (hs1 : 1 ≤ s.1) (hs5 : s.1 ≤ 500) (hsv : s.2.1 ≤ 120) (h : ∀ u, QI t ad (chF ok par bd bV F 0 (B0, s)) u → post none u) : g_E cx (d + 4) i_Inliner_chooseCalls [.ref (ad 47), .int (nI f)] t post := by
  have hw : isW 48 := by simp [isW]
  have hpg := hp.ge
  have hpl := hp.lt
  have hvf := vp_in_nI (N := 24) hf (by omega)
  have hc12 : c_len (p + 12) < 2 ^ 30 := by rcases hp with rfl | rfl | rfl <;> decide
  refine x_Inliner_chooseCalls hp hL hT.1 ?_
  refine m_begin hp hw hL hf hst (fun t0 F0 R0 => ⟨rfl, F0.L, ?_⟩)
  have wm : ∀ {u v : gSt}, gFr ad (wP 48) u v → gFr ad iaP u v := fun hF => hF.mo (fun c k q => iaP_t (by
    unfold wP at q
    simp only [Bool.and_eq_true, Nat.ble_eq] at q
    omega))
  have Q0 : QI t ad (B0, s) t0 := by
    refine ⟨wm F0, ?_, ⟨?_, ?_, ?_⟩, hs1, hs5, hsv⟩
    · rw [show t0.2.1 (ad 54) = t.2.1 (ad 54) from funext (fun k => F0.i 54 k (wP_out (by omega)))]; exact h54
    · rw [F0.i 47 6 (wP_out (by omega))]; exact h6
    · rw [F0.i 47 7 (wP_out (by omega))]; exact h7
    · rw [F0.i 47 8 (wP_out (by omega))]; exact h8
  have Rpar : ∀ {q u}, QI t ad q u → RPar u ad p n par := fun h => ⟨hRp.1, by rw [h.1.i _ _ (iaP_r (by omega)) (by omega)]; exact hRp.2.1, fun g hg => by rw [h.1.i _ _ (iaP_r (by omega)) (by omega)]; exact hRp.2.2 g hg⟩
  have wk : ∀ {q u v}, QI t ad q u → gFr ad (wP 48) u v → QI t ad q v := fun {q u v} h hF => by
    obtain ⟨F, q1, ⟨q2, q3, q4⟩, q5⟩ := h
    refine ⟨F.tr (wm hF), ?_, ⟨?_, ?_, ?_⟩, q5⟩
    · rw [show v.2.1 (ad 54) = u.2.1 (ad 54) from funext (fun k => hF.i 54 k (wP_out (by omega)))]; exact q1
    · rw [hF.i 47 6 (wP_out (by omega))]; exact q2
    · rw [hF.i 47 7 (wP_out (by omega))]; exact q3
    · rw [hF.i 47 8 (wP_out (by omega))]; exact q4
  have har : ∀ k v, k_ar par k v < 1000 := by
    intro k v
    have := hpar6 v
    unfold k_ar
    split
    · omega
    · split
      · omega
      · split
        · omega
        · split <;> omega
  have m15 : ∀ m, m < 1500 → ¬ (1500 : Int32) ≤ nI m := fun m hm c => by
    rw [show (1500 : Int32) = nI 1500 from rfl, nI_leI (by omega) (by omega)] at c
    omega
  have R2 : ∀ {q u}, QI t ad q u → u.2.2.2 (ad 47) 2 = some (ad p) := fun h => (hT.ia h.1).1
  refine (visT_ok2 (Hd := fun m t => ∀ o3 o4, g_W cx (g_E cx (d + 3)) mt_Inliner_chooseCalls post (14, [some (.ref (ad 47)), some (.int (nI f)), some (.int (nI m)), o3, o4], [], t, 0, 0)) (Q := QI t ad) (en := fun _ s => s) (lv := chL ok par bd bV s0) (bk := fun _ s => s) (w := 48) (p := p) (n := n) (par := par) (C := iC n cyc tab) (s0 := s0) (L := fo_p F) (fun v => by have := hpar6 v; omega) (by rw [fo_pn]; exact hs) ?_ ?_ ?_ ?_ h1 hV rfl hn5 R0 Q0 ?_) none none
  · intro s t' h i q hq
    rw [h.1.i (p + 12) _ (iaP_r (by omega)) (by omega), h.1.i (p + 13) _ (iaP_r (by omega)) (by omega)]
    exact hrw i q hq
  · intro m t' s st nx ev k v hm hR hq hev htop hst hnx hx1 hx2 ek ev' hk hg hC hK2 o3 o4
    refine x_Inliner_chooseCalls_14 hp hq.1.L ⟨fun c => absurd c (m15 m hm), fun _ => ?_⟩
    refine adv_enter hp hw hq.1.L (Rpar hq) hR hev htop hst hnx ek ev' hk hg (fun u hF hRu hlev => ?_)
    have hqu := wk hq hF
    refine ⟨1, rfl, hF.L, R2 hqu, fun c => absurd c (by decide), fun _ => ⟨fun _ => ?_, fun c => absurd (by rw [hRu.2.1]; decide) c⟩⟩
    rw [nI_1]
    exact hK2 u hRu hqu _ _
  · intro m t' s st nx ev nd k v hm hR hq hev hst2 hx1 hx2 hC hg hk hK2 o3 o4
    refine x_Inliner_chooseCalls_14 hp hq.1.L ⟨fun c => absurd c (m15 m hm), fun _ => ?_⟩
    refine adv_leave hw hq.1.L hR hev hst2 (har k v) (fun u hF hRu hlev => ?_)
    have hqu := wk hq hF
    have hme := hRu.2.2.2.2 st.length (nd, k, v, k_ar par k v, k_ar par k v) (by simp)
    have en : u.2.1 (ad 49) st.length = nI nd := hme.1
    have ek : u.2.1 (ad 50) st.length = k := hme.2.1
    have ev : u.2.1 (ad 51) st.length = v := hme.2.2.1
    have e : chL ok par bd bV s0 (st ++ [(nd, k, v, k_ar par k v, k_ar par k v)]) s = (va_up s.1 (nd - s0) (iCho ok par bd bV k v s.2), iSt ok par bd bV k v s.2) := by
      unfold chL
      rw [gl_app2]
    have hvp := vp_in_nI (N := 500) hst2 (by omega)
    have h4 : u.2.1 (ad (p + 4)) f = nI s0 := by rw [hqu.1.i _ _ (iaP_r (by omega)) (by omega)]; exact hst
    have hx2 := (List.getElem?_eq_some_iff.mp hx2).1
    rw [fo_pn] at hx2
    have hnd : nI nd - nI s0 = nI (nd - s0) := nI_sub hx1
    have hvn := vp_in_nI (n := nd - s0) (N := 500) (by omega) (by omega)
    refine ⟨1, rfl, hF.L, R2 hqu, fun c => absurd c (by decide), fun _ => ⟨fun c => absurd (by rw [hRu.2.1]; rfl) c, fun _ x3 e3 => ?_⟩⟩
    rw [hlev] at e3
    subst e3
    rw [nI_clamp (n := st.length) (by omega), nI_clamp (n := f) (by omega), en, ek, ev, h4, hnd, nI_clamp (n := nd - s0) (by omega), nI_1]
    -- the row is written
    have put : ∀ (u2 : gSt) (y : Int32) (t4 : gSt) (s2 : IS), RW u2 ad 48 p (st ++ [(nd, k, v, k_ar par k v, k_ar par k v)]) nx 3 → QI t ad (s.1, s2) u2 → y = iCho ok par bd bV k v s.2 → s2 = iSt ok par bd bV k v s.2 → t4 = g_si u2 (ad 54) (nd - s0) y → ∀ o3 o4, g_W cx (g_E cx (d + 3)) mt_Inliner_chooseCalls post (14, [some (.ref (ad 47)), some (.int (nI f)), some (.int (nI (m + 1))), o3, o4], [], t4, 0, 0) := by
      intro u2 y t4 s2 hR2 hq2 hy hs2 e4
      have F4 : gFr ad (fun c _ => Nat.beq c 54) u2 t4 := by rw [e4]; exact (gFr.rf hq2.1.L).si (by rfl)
      have o4' : ∀ c k, c ≠ 54 → c < 199 → t4.2.1 (ad c) k = u2.2.1 (ad c) k := fun c k hc hl => by rw [e4, g_rd_ne (hq2.1.L.ne c 54 hl (by decide) hc)]
      refine hK2 t4 (hR2.fr hw F4 (fun j k hj => ?_)) ?_
      · exact Bool.eq_false_iff.mpr (fun z => by have := Nat.eq_of_beq_eq_true z; omega)
      · rw [e]
        obtain ⟨G, q1, ⟨q2, q3, q4⟩, q5⟩ := hq2
        rw [← hs2]
        refine ⟨by rw [e4]; exact G.si (iaP_t (by omega)), ?_, ⟨?_, ?_, ?_⟩, q5⟩
        · rw [e4, g_si_at, q1, hy]
        · rw [o4' 47 6 (by decide) (by decide)]; exact q2
        · rw [o4' 47 7 (by decide) (by decide)]; exact q3
        · rw [o4' 47 8 (by decide) (by decide)]; exact q4
    refine ⟨hvp, fun c => ⟨hvp, hvf, hvn, fun t4 e4 => put u _ t4 s.2 hRu hqu ?_ ?_ e4 _ _⟩, fun c => ⟨hvp, hvf, hvp, ?_⟩⟩
    · unfold iCho
      rw [if_neg (fun z => c z.1)]
    · unfold iSt
      rw [if_neg (fun z => c z.1)]
    · have c := Classical.not_not.mp c
      obtain ⟨g, eg, hgn, hcg⟩ := hC c
      rw [eg]
      refine m_choose hp hn hok hT (fun g hg => hRp.2.2 g hg) hpar6 hgn hcg hqu (fun u5 F5 o5 r5 Q5 => ⟨_, rfl, F5.L, hvn, fun t7 e7 => put u5 _ t7 _ ?_ Q5 (by rw [c, eg]) (by rw [c, eg]) e7 _ _⟩)
      refine ⟨?_, ?_, ?_, ?_, fun i q hq => ?_⟩
      · rw [r5]; exact hRu.1
      · rw [o5 48 5 (by decide) (by decide)]; exact hRu.2.1
      · rw [o5 48 10 (by decide) (by decide)]; exact hRu.2.2.1
      · rw [o5 48 9 (by decide) (by decide)]; exact hRu.2.2.2.1
      · rw [o5 _ i (by omega) (by omega), o5 _ i (by omega) (by omega), o5 _ i (by omega) (by omega), o5 _ i (by omega) (by omega), o5 _ i (by omega) (by omega)]
        exact hRu.2.2.2.2 i q hq
  · intro m t' s st nx nd k v dn top hm hR hq hst2 hx1 hx2 hdn hC hg hk hK2 o3 o4
    refine x_Inliner_chooseCalls_14 hp hq.1.L ⟨fun c => absurd c (m15 m hm), fun _ => ?_⟩
    refine adv_behind hw hq.1.L hR hst2 (fun u hF hRu hlev hkid => ?_)
    have hqu := wk hq hF
    refine ⟨1, rfl, hF.L, R2 hqu, fun c => absurd c (by decide), fun _ => ⟨fun _ => ?_, fun c => absurd (by rw [hRu.2.1]; decide) c⟩⟩
    rw [nI_1]
    exact hK2 u hRu hqu _ _
  · intro u top nx hRu hqu o3 o4
    obtain ⟨y, k, v, a, rfl⟩ := fo_l1 h1
    have ev : visT (fun _ q => q) (chL ok par bd bV s0) (fun _ q => q) (.inner y k v a .leaf) s0 (B0, s) = chF ok par bd bV (.inner y k v a .leaf) 0 (B0, s) := by
      have e1 : visT (fun _ q => q) (chL ok par bd bV s0) (fun _ q => q) (.inner y k v a .leaf) s0 (B0, s) = chL ok par bd bV s0 [(s0, k, v, fo_l a, fo_l a)] (vis (fun _ q => q) (chL ok par bd bV s0) (fun _ q => q) a [] (s0, k, v, 0, fo_l a) (s0 + 1) (B0, s)) := rfl
      rw [e1, vis_ch a [] _ 1 _]
      unfold chL
      rw [show ([(s0, k, v, fo_l a, fo_l a)] : WS).getLast? = some (s0, k, v, fo_l a, fo_l a) from rfl]
      dsimp only
      rw [Nat.sub_self]
      rfl
    rw [ev] at hqu
    have hfn : 0 < fo_n (.inner y k v a .leaf) := by simp [fo_n]
    refine x_Inliner_chooseCalls_14 hp hqu.1.L ⟨fun c => absurd c (m15 _ (by omega)), fun _ => ?_⟩
    refine adv_end hw hqu.1.L hRu (fun u' hF => ?_)
    have hqu' := wk hqu hF
    exact ⟨0, rfl, hF.L, R2 hqu', fun _ => h u' hqu', fun c => absurd rfl c⟩
end IC
