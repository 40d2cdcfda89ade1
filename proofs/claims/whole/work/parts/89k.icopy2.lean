/-! PUTTING FUNCTIONS WHERE THEY ARE CALLED: the class copies a function -/
theorem visT_cp {ok : Nat → Bool} {par : Int32 → Nat} {bd : Nat → Fo} {bV : Nat → Nat} {n s0 : Nat} {B Br : Nat → Int32} {F : Fo} {S : Nat → List Int32} {s : IS} (hn : n ≤ 24) (hbd : ∀ g, ok g = true → fo_l (bd g) = 1) (h1 : fo_l F = 1) (hw : fo_w n par F S) (hs : s.2.1 ≤ 120) (hB : ∀ j, j < fo_n F → B j = (chF ok par bd bV F 0 (Br, s)).1 j) : visT (cpE par s0 B) (cpL bd s0 B) (cpB par s0 B) F s0 [] = fo_p (inF ok par bd bV F s).1 := by
  obtain ⟨z, k, v, a, rfl⟩ := fo_l1 h1
  obtain ⟨w1, w2, w3, w4, w5, w6⟩ := hw
  have en : fo_n (.inner z k v a .leaf) = fo_n a + 1 + 0 := rfl
  obtain ⟨sa, esa⟩ : ∃ sa, (inF ok par bd bV a s).2 = sa := ⟨_, rfl⟩
  have hca : (chF ok par bd bV a 1 (Br, s)).2 = sa := by rw [chF_s]; exact esa
  have ech : chF ok par bd bV (.inner z k v a .leaf) 0 (Br, s) = (va_up (chF ok par bd bV a 1 (Br, s)).1 0 (iCho ok par bd bV k v sa), iSt ok par bd bV k v sa) := by
    rw [← hca]
    rfl
  have hBn : B 0 = iCho ok par bd bV k v sa := by rw [hB 0 (by omega), ech]; dsimp only; rw [va_up_self]
  have hBa : ∀ j, 1 ≤ j → j < 1 + fo_n a → B j = (chF ok par bd bV a 1 (Br, s)).1 j := by
    intro j j1 j2
    rw [hB j (by omega), ech]
    dsimp only
    rw [va_up_ne _ _ (by omega)]
  have hsa : sa.2.1 ≤ 120 := by rw [← esa]; exact inF_v a s hs
  have nm1 : ∀ q : Nat, q < 2 ^ 20 → ¬ nI q = -1 := fun q hq c => by
    have := nI_pos (n := q) (by omega)
    rw [c] at this
    exact this (by decide)
  have e0 : visT (cpE par s0 B) (cpL bd s0 B) (cpB par s0 B) (.inner z k v a .leaf) s0 [] = cpL bd s0 B [(s0, k, v, fo_l a, fo_l a)] (vis (cpE par s0 B) (cpL bd s0 B) (cpB par s0 B) a [] (s0, k, v, 0, fo_l a) (s0 + 1) (cpE par s0 B [(s0, k, v, 0, fo_l a)] [])) := rfl
  have g1 : ∀ (q2 : WT), ([q2] : WS).getLast? = some q2 := fun q2 => rfl
  rw [e0, inF_in, esa]
  dsimp only
  have e1 : (inF ok par bd bV .leaf (iSt ok par bd bV k v sa)).1 = .leaf := rfl
  rw [e1, fo_p_ap]
  by_cases h : k = 15 ∧ iMay ok par bd bV v.toNatClampNeg sa = true
  · have hBq : B 0 = nI sa.2.1 := by rw [hBn]; exact if_pos h
    have hne := nm1 sa.2.1 (by omega)
    have hP : fo_l a = par v := by
      rw [w2, h.1]
      rfl
    rw [if_pos h, vis_cp hn hbd a _ [] (s0, k, v, 0, fo_l a) 1 s Br (some sa.2.1) _ w5 hs hBa ⟨by dsimp only; rw [Nat.sub_self]; exact hBq, by omega⟩]
    unfold cpL cpE
    rw [g1, g1]
    dsimp only
    rw [Nat.sub_self, hBq, if_neg hne, if_neg hne, nI_clamp (by omega), nI_add]
    have := out_nest (q := sa.2.1) (P := par v) (B := fo_sh sa.2.1 (bd v.toNatClampNeg)) (ok := ok) (par := par) (bV := bV) hbd a s 0 (by omega)
    rw [Nat.add_zero] at this ⊢
    rw [this]
    show _ = _ ++ []
    rw [List.append_nil]
    split
    · simp only [List.append_assoc, List.nil_append]
    · simp only [List.append_assoc, List.nil_append]
  · have hBq : B 0 = -1 := by rw [hBn]; exact if_neg h
    rw [if_neg h, vis_cp hn hbd a _ [] (s0, k, v, 0, fo_l a) 1 s Br none _ w5 hs hBa (by dsimp only; rw [Nat.sub_self]; exact hBq)]
    unfold cpL cpE
    rw [g1, g1]
    dsimp only
    rw [Nat.sub_self, hBq, if_pos rfl, if_pos rfl, out_none]
    simp [fo_p]
/-- a body that stands in the output -/
def oTab (t : gSt) (ad : Nat → Nat) (f g : Nat) (B : Fo) : Prop := g < 24 ∧ g ≠ f ∧ t.2.1 (ad 100) g = nI (500 * g) ∧ t.2.1 (ad 101) g = nI (fo_n B) ∧ fo_n B ≤ 500 ∧ rows (t.2.1 (ad 108)) (t.2.1 (ad 109)) (500 * g) (fo_p B)
section IK
variable {cx : gCx} {d : Nat} {ad : Nat → Nat} {t : gSt} {post : Option Value → gSt → Prop} {p n : Nat} {par : Int32 → Nat} {bd : Nat → Fo}
theorem m_copyW {f s0 : Nat} {F : Fo} {B : Nat → Int32} (hp : isP p) (hp96 : p ≠ 96) (hf : f < 24) (hn : n ≤ 24) (hL : Lay t ad) (h2 : t.2.2.2 (ad 47) 2 = some (ad p)) (h3 : t.2.2.2 (ad 47) 3 = some (ad 96)) (hRp : RPar t ad p n par) (hpar6 : ∀ v, par v ≤ 6) (hst : t.2.1 (ad (p + 4)) f = nI s0) (hs : s0 + fo_n F ≤ c_len (p + 12)) (hrw : rows (t.2.1 (ad (p + 12))) (t.2.1 (ad (p + 13))) s0 (fo_p F)) (h1 : fo_l F = 1) (hV : fo_v n par (fun _ _ => True) F) (hn5 : fo_n F ≤ 500) (h54 : t.2.1 (ad 54) = B) (h9 : t.2.1 (ad 47) 9 = nI (500 * f)) (hB : ∀ i k v, (fo_p F)[i]? = some (k, v) → B i = -1 ∨ (k = 15 ∧ (∃ g, v = nI g ∧ g < n ∧ oTab t ad f g (bd g)) ∧ ∃ f0, f0 ≤ 120 ∧ B i = nI f0)) (h : ∀ u, QP t ad f (visT (cpE par s0 B) (cpL bd s0 B) (cpB par s0 B) F s0 []) u → post none u) : g_E cx (d + 4) i_Inliner_copyWithChosen [.ref (ad 47), .int (nI f)] t post := by
  have hw : isW 48 := by simp [isW]
  have hpg := hp.ge
  have hpl := hp.lt
  have hp112 : 112 ≤ p := by rcases hp with rfl | rfl | rfl <;> first | exact absurd rfl hp96 | decide
  have hvf := vp_in_nI (N := 24) hf (by omega)
  have hc12 : c_len (p + 12) < 2 ^ 30 := by rcases hp with rfl | rfl | rfl <;> decide
  refine x_Inliner_copyWithChosen hp hL h2 ?_
  refine m_begin hp hw hL hf hst (fun t0 F0 R0 => ⟨rfl, F0.L, ?_⟩)
  have wm : ∀ {u v : gSt}, gFr ad (wP 48) u v → gFr ad ipP u v := fun hF => hF.mo (fun c k q => ipP_t (by
    unfold wP at q
    simp only [Bool.and_eq_true, Nat.ble_eq] at q
    omega))
  have wk : ∀ {q u v}, QP t ad f q u → gFr ad (wP 48) u v → QP t ad f q v := fun {q u v} h hF => by
    obtain ⟨F, q1, q2⟩ := h
    have o : ∀ c, 54 ≤ c → c < 199 → v.2.1 (ad c) = u.2.1 (ad c) := fun c hc hl => funext (fun k => hF.i c k (wP_out (by omega)) hl)
    exact ⟨F.tr (wm hF), by rw [hF.i 47 9 (wP_out (by omega))]; exact q1, fun z => by rw [o 108 (by decide) (by decide), o 109 (by decide) (by decide)]; exact q2 z⟩
  have Q0 : QP t ad f [] t0 := by
    refine wk (u := t) ⟨gFr.rf hL, ?_, fun _ => ⟨(wr_nil _ _).symm, (wr_nil _ _).symm⟩⟩ F0
    rw [h9]
    congr 1
    simp only [List.length_nil]
    omega
  have Rpar : ∀ {q u}, QP t ad f q u → RPar u ad p n par := fun h => ⟨hRp.1, by rw [h.1.i _ _ (ipP_r (by omega)) (by omega)]; exact hRp.2.1, fun g hg => by rw [h.1.i _ _ (ipP_r (by omega)) (by omega)]; exact hRp.2.2 g hg⟩
  have har : ∀ k v, k_ar par k v < 1000 := by
    intro k v
    have := hpar6 v
    unfold k_ar
    split
    · omega
    · split
      · omega
      · split
        · omega
        · split <;> omega
  have m15 : ∀ m, m < 1500 → ¬ (1500 : Int32) ≤ nI m := fun m hm c => by
    rw [show (1500 : Int32) = nI 1500 from rfl, nI_leI (by omega) (by omega)] at c
    omega
  have R2 : ∀ {q u}, QP t ad f q u → u.2.2.2 (ad 47) 2 = some (ad p) := fun h => by rw [h.1.r 47 2 (ipP_r (by omega))]; exact h2
  have R3 : ∀ {q u}, QP t ad f q u → u.2.2.2 (ad 47) 3 = some (ad 96) := fun h => by rw [h.1.r 47 3 (ipP_r (by omega))]; exact h3
  have b54 : ∀ {q u}, QP t ad f q u → ∀ j, u.2.1 (ad 54) j = B j := fun h j => by rw [h.1.i 54 j (ipP_r (by omega)), h54]
  have s4 : ∀ {q u}, QP t ad f q u → u.2.1 (ad (p + 4)) f = nI s0 := fun h => by rw [h.1.i _ _ (ipP_r (by omega)) (by omega)]; exact hst
  have nm1 : ∀ q : Nat, q ≤ 120 → ¬ nI q = -1 := fun q hq c => by
    have := nI_pos (n := q) (by omega)
    rw [c] at this
    exact this (by decide)
  have rwE : ∀ {u v : gSt} {st : WS} {nx ev : Nat}, gFr ad ieP u v → RW u ad 48 p st nx ev → RW v ad 48 p st nx ev := fun hF hR => hR.fr hw hF (fun j k hj => ieP_r (by omega))
  have pG : ∀ {q u} g, QP t ad f q u → g < n → u.2.1 (ad (p + 2)) g = nI (par (nI g)) := fun g h hg => (Rpar h).2.2 g hg
  have oT : ∀ {q u} g (X : Fo), QP t ad f q u → oTab t ad f g X → u.2.1 (ad 100) g = nI (500 * g) ∧ u.2.1 (ad 101) g = nI (fo_n X) := fun g X h ho => ⟨by rw [h.1.i 100 g (ipP_r (by omega))]; exact ho.2.2.1, by rw [h.1.i 101 g (ipP_r (by omega))]; exact ho.2.2.2.1⟩
  -- at an event: the node's kind, value, choice
  have event : ∀ (m : Nat) (st : WS) (nd dn wn : Nat) (k v : Int32) (nx ev : Nat) (u : gSt) (L L' : List (Int32 × Int32)), m < 1500 → ev < 4 → st.length < 500 → s0 ≤ nd → (fo_p F)[nd - s0]? = some (k, v) → RW u ad 48 p (st ++ [(nd, k, v, dn, wn)]) nx ev → u.2.1 (ad 48) 6 = nI st.length → QP t ad f L u →
      (B (nd - s0) = -1 → ev = 1 → L' = L ++ [(k, v)]) → (B (nd - s0) = -1 → ev ≠ 1 → L' = L) → (∀ g f0, B (nd - s0) = nI f0 → f0 ≤ 120 → v = nI g → g < n → oTab t ad f g (bd g) → ∀ post' : Option Value → gSt → Prop, (∀ u2, gFr ad ieP u u2 → QP t ad f L' u2 → post' none u2) → g_E cx (d + 3) i_Inliner_replace [.ref (ad 47), .int (nI g), .int (nI f0)] u post') → (∀ u2, RW u2 ad 48 p (st ++ [(nd, k, v, dn, wn)]) nx ev → QP t ad f L' u2 → ∀ o3 o4 o5, g_W cx (g_E cx (d + 3)) mt_Inliner_copyWithChosen post (14, [some (.ref (ad 47)), some (.int (nI f)), some (.int (nI (m + 1))), o3, o4, o5], [], u2, 0, 0)) →
      vp_in (u.2.1 (ad 48) 6) 500 ∧ (∀ x3 : Int32, x3 = (u.2.1 (ad 50) ((u.2.1 (ad 48) 6) : Int32).toNatClampNeg) → vp_in (u.2.1 (ad 48) 6) 500 ∧ (∀ x4 : Int32, x4 = (u.2.1 (ad 51) ((u.2.1 (ad 48) 6) : Int32).toNatClampNeg) → vp_in (u.2.1 (ad 48) 6) 500 ∧ (vp_in (nI f) 24 ∧ (vp_in ((u.2.1 (ad 49) ((u.2.1 (ad 48) 6) : Int32).toNatClampNeg) - (u.2.1 (ad (p + 4)) (nI f : Int32).toNatClampNeg)) 500 ∧ (∀ x5 : Int32, x5 = (u.2.1 (ad 54) (((u.2.1 (ad 49) ((u.2.1 (ad 48) 6) : Int32).toNatClampNeg) - (u.2.1 (ad (p + 4)) (nI f : Int32).toNatClampNeg)) : Int32).toNatClampNeg) → (x5 = (-1) → (¬ (u.2.1 (ad 48) 5) = 1 → g_W cx (g_E cx (d + 3)) mt_Inliner_copyWithChosen post (14, [some (.ref (ad 47)), some (.int (nI f)), some (.int (nI m + 1)), some (.int x3), some (.int x4), some (.int x5)], [], u, 0, 0)) ∧ (¬ (¬ (u.2.1 (ad 48) 5) = 1) → g_E cx (d + 3) i_Inliner_emit [.ref (ad 47), .int x3, .int x4] u (fun r u6 => r = none ∧ Lay u6 ad ∧ (g_W cx (g_E cx (d + 3)) mt_Inliner_copyWithChosen post (14, [some (.ref (ad 47)), some (.int (nI f)), some (.int (nI m + 1)), some (.int x3), some (.int x4), some (.int x5)], [], u6, 0, 0))))) ∧ (¬ (x5 = (-1)) → g_E cx (d + 3) i_Inliner_replace [.ref (ad 47), .int x4, .int x5] u (fun r u8 => r = none ∧ Lay u8 ad ∧ (g_W cx (g_E cx (d + 3)) mt_Inliner_copyWithChosen post (14, [some (.ref (ad 47)), some (.int (nI f)), some (.int (nI m + 1)), some (.int x3), some (.int x4), some (.int x5)], [], u8, 0, 0))))))))) := by
    intro m st nd dn wn k v nx ev u L L' hm hev4 hst2 hx1 hx2 hRu hlev hqu hA hA2 hR hN
    have hme := hRu.2.2.2.2 st.length (nd, k, v, dn, wn) (by simp)
    have en : u.2.1 (ad 49) st.length = nI nd := hme.1
    have ek : u.2.1 (ad 50) st.length = k := hme.2.1
    have ev' : u.2.1 (ad 51) st.length = v := hme.2.2.1
    have hvp := vp_in_nI (N := 500) hst2 (by omega)
    have hxl := (List.getElem?_eq_some_iff.mp hx2).1
    rw [fo_pn] at hxl
    have hnd : nI nd - nI s0 = nI (nd - s0) := nI_sub hx1
    have hvn := vp_in_nI (n := nd - s0) (N := 500) (by omega) (by omega)
    rw [hlev, nI_clamp (n := st.length) (by omega), nI_clamp (n := f) (by omega), en, ek, ev', s4 hqu, hnd, nI_clamp (n := nd - s0) (by omega), b54 hqu, nI_1 m]
    refine ⟨hvp, fun x3 e3 => ⟨hvp, fun x4 e4 => ⟨hvp, hvf, hvn, fun x5 e5 => ?_⟩⟩⟩
    subst e3 e4 e5
    refine ⟨fun z => ⟨fun z1 => hN u hRu ?_ _ _ _, fun z1 => m_iemit hf (R3 hqu) hqu (fun u2 F2 Q2 => ⟨rfl, F2.L, hN u2 (rwE F2 hRu) ?_ _ _ _⟩)⟩, fun z => ?_⟩
    · rw [hA2 z (fun c => z1 (by rw [hRu.2.1, c]; rfl))]; exact hqu
    · have : ev = 1 := by
        have z1 := Classical.not_not.mp z1
        have h5 := hRu.2.1
        rw [z1] at h5
        exact ((nI_eq (a := 1) (b := ev) (by omega) (by omega)).mp h5).symm
      rw [hA z this]; exact Q2
    · rcases hB _ _ _ hx2 with c | ⟨_, ⟨g, eg, hgn, ho⟩, f0, hf0, ef0⟩
      · exact absurd c z
      · rw [eg, ef0]
        exact hR g f0 ef0 hf0 eg hgn ho _ (fun u2 F2 Q2 => ⟨rfl, F2.L, by
          have := hN u2 (rwE F2 hRu) Q2
          exact this _ _ _⟩)
  have cpd : ∀ {u : gSt} {v : Int32} {g : Nat} {q : List (Int32 × Int32)}, QP t ad f q u → v = nI g → g < n → u.2.1 (ad (p + 2)) (nI g).toNatClampNeg = nI (par v) := fun hq eg hgn => by rw [nI_clamp (by omega), pG _ hq hgn, eg]
  refine (visT_ok2 (Hd := fun m t => ∀ o3 o4 o5, g_W cx (g_E cx (d + 3)) mt_Inliner_copyWithChosen post (14, [some (.ref (ad 47)), some (.int (nI f)), some (.int (nI m)), o3, o4, o5], [], t, 0, 0)) (Q := QP t ad f) (en := cpE par s0 B) (lv := cpL bd s0 B) (bk := cpB par s0 B) (w := 48) (p := p) (n := n) (par := par) (C := fun _ _ => True) (s0 := s0) (L := fo_p F) (fun v => by have := hpar6 v; omega) (by rw [fo_pn]; exact hs) ?_ ?_ ?_ ?_ h1 hV rfl hn5 R0 Q0 ?_) none none none
  · intro s t' h i q hq
    rw [h.1.i (p + 12) _ (ipP_r (by omega)) (by omega), h.1.i (p + 13) _ (ipP_r (by omega)) (by omega)]
    exact hrw i q hq
  · intro m t' s st nx ev k v hm hR hq hev htop hst2 hnx hx1 hx2 ek ev' hk hg hC hK2 o3 o4 o5
    refine x_Inliner_copyWithChosen_14 hp hq.1.L ⟨fun c => absurd c (m15 m hm), fun _ => ?_⟩
    refine adv_enter hp hw hq.1.L (Rpar hq) hR hev htop hst2 hnx ek ev' hk hg (fun u hF hRu hlev => ?_)
    have hqu := wk hq hF
    have e : cpE par s0 B (st ++ [(nx, k, v, 0, k_ar par k v)]) s = if B (nx - s0) = -1 then s ++ [(k, v)] else if 0 < par v then s ++ [(14, B (nx - s0) + nI 0)] else s := by
      unfold cpE
      rw [gl_app2]
    refine ⟨1, rfl, hF.L, R2 hqu, fun c => absurd c (by decide), fun _ => event m st nx 0 (k_ar par k v) k v (nx + 1) 1 u s (cpE par s0 B (st ++ [(nx, k, v, 0, k_ar par k v)]) s) hm (by decide) hst2 hx1 hx2 hRu hlev hqu (fun z _ => by rw [e, if_pos z]) (fun _ z => absurd rfl z) (fun g f0 ef0 hf0 eg hgn ho post' hp' => ?_) (fun u2 R2' Q2 => hK2 u2 R2' Q2)⟩
    have hne := nm1 f0 hf0
    rw [e, if_neg (by rw [ef0]; exact hne), ef0] at hp'
    have h5 : u.2.1 (ad 48) 5 = 1 := hRu.2.1
    refine x_Inliner_replace hp hF.L (R2 hqu) ?_
    rw [h5, cpd hqu eg hgn, show (0 : Int32) = nI 0 from rfl, nI_leI (by have := hpar6 v; omega) (by omega)]
    refine ⟨fun _ => ⟨fun _ => ⟨vp_in_nI ho.1 (by omega), fun z => ?_, fun z => ?_⟩, fun z => absurd (by decide) z⟩, fun z => absurd (by decide) z⟩
    · rw [if_neg (by omega)] at hp'
      exact hp' u (gFr.rf hF.L) hqu
    · rw [if_pos (by omega)] at hp'
      exact m_iemit hf (R3 hqu) hqu (fun u2 F2 Q2 => ⟨rfl, F2.L, hp' u2 F2 Q2⟩)
  · intro m t' s st nx ev nd k v hm hR hq hev hst2 hx1 hx2 hC hg hk hK2 o3 o4 o5
    refine x_Inliner_copyWithChosen_14 hp hq.1.L ⟨fun c => absurd c (m15 m hm), fun _ => ?_⟩
    refine adv_leave hw hq.1.L hR hev hst2 (har k v) (fun u hF hRu hlev => ?_)
    have hqu := wk hq hF
    have e : cpL bd s0 B (st ++ [(nd, k, v, k_ar par k v, k_ar par k v)]) s = if B (nd - s0) = -1 then s else s ++ fo_p (fo_sh (B (nd - s0)).toNatClampNeg (bd v.toNatClampNeg)) := by
      unfold cpL
      rw [gl_app2]
    refine ⟨1, rfl, hF.L, R2 hqu, fun c => absurd c (by decide), fun _ => event m st nd (k_ar par k v) (k_ar par k v) k v nx 3 u s (cpL bd s0 B (st ++ [(nd, k, v, k_ar par k v, k_ar par k v)]) s) hm (by decide) hst2 hx1 hx2 hRu hlev hqu (fun z q => absurd q (by decide)) (fun z _ => by rw [e, if_pos z]) (fun g f0 ef0 hf0 eg hgn ho post' hp' => ?_) (fun u2 R2' Q2 => hK2 u2 R2' Q2)⟩
    have hne := nm1 f0 hf0
    rw [e, if_neg (by rw [ef0]; exact hne), ef0, eg, nI_clamp (by omega), nI_clamp (n := g) (by omega)] at hp'
    have h5 : u.2.1 (ad 48) 5 = 3 := hRu.2.1
    refine x_Inliner_replace hp hF.L (R2 hqu) ?_
    rw [h5]
    refine ⟨fun _ => ⟨fun z => absurd rfl z, fun _ => ?_⟩, fun z => absurd (by decide) z⟩
    obtain ⟨o1, o2⟩ := oT g (bd g) hqu ho
    exact m_iemitBody hf ho.1 ho.2.1 (R3 hqu) o1 o2 ho.2.2.2.2.1 ho.2.2.2.2.2 hqu (fun u2 F2 Q2 => ⟨rfl, F2.L, hp' u2 F2 Q2⟩)
  · intro m t' s st nx nd k v dn top hm hR hq hst2 hx1 hx2 hdn hC hg hk hK2 o3 o4 o5
    refine x_Inliner_copyWithChosen_14 hp hq.1.L ⟨fun c => absurd c (m15 m hm), fun _ => ?_⟩
    refine adv_behind hw hq.1.L hR hst2 (fun u hF hRu hlev hkid => ?_)
    have hqu := wk hq hF
    have e : cpB par s0 B (st ++ [(nd, k, v, dn + 1, k_ar par k v)]) s = if B (nd - s0) = -1 then s else if dn + 1 < par v then s ++ [(14, B (nd - s0) + nI (dn + 1))] else s := by
      unfold cpB
      rw [gl_app2]
    refine ⟨1, rfl, hF.L, R2 hqu, fun c => absurd c (by decide), fun _ => event m st nd (dn + 1) (k_ar par k v) k v nx 2 u s (cpB par s0 B (st ++ [(nd, k, v, dn + 1, k_ar par k v)]) s) hm (by decide) (by omega) hx1 hx2 hRu hlev hqu (fun z q => absurd q (by decide)) (fun z _ => by rw [e, if_pos z]) (fun g f0 ef0 hf0 eg hgn ho post' hp' => ?_) (fun u2 R2' Q2 => hK2 u2 R2' Q2)⟩
    have hne := nm1 f0 hf0
    have hka := har k v
    rw [e, if_neg (by rw [ef0]; exact hne), ef0] at hp'
    have h5 : u.2.1 (ad 48) 5 = 2 := hRu.2.1
    refine x_Inliner_replace hp hF.L (R2 hqu) ?_
    rw [h5, cpd hqu eg hgn, hkid]
    refine ⟨fun z => absurd rfl z, fun _ x5 e5 => ?_⟩
    rw [nI_1] at e5
    subst e5
    rw [nI_leI (by have := hpar6 v; omega) (by omega)]
    refine ⟨fun _ => ⟨vp_in_nI ho.1 (by omega), fun z => ?_, fun z => ?_⟩, fun z => absurd (by decide) z⟩
    · rw [if_neg (by omega)] at hp'
      exact hp' u (gFr.rf hF.L) hqu
    · rw [if_pos (by omega)] at hp'
      exact m_iemit hf (R3 hqu) hqu (fun u2 F2 Q2 => ⟨rfl, F2.L, hp' u2 F2 Q2⟩)
  · intro u top nx hRu hqu o3 o4 o5
    have hfn : 0 < fo_n F := by
      match F, h1 with
      | .inner _ _ _ _ _, _ => simp [fo_n]; omega
    refine x_Inliner_copyWithChosen_14 hp hqu.1.L ⟨fun c => absurd c (m15 _ (by omega)), fun _ => ?_⟩
    refine adv_end hw hqu.1.L hRu (fun u' hF => ?_)
    have hqu' := wk hqu hF
    exact ⟨0, rfl, hF.L, R2 hqu', fun _ => h u' hqu', fun c => absurd rfl c⟩
end IK
