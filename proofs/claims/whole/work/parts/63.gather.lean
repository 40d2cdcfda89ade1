/-! WHO CALLS WHOM: the class's gathering -/
def gaA (g : Nat) (cs : List Nat) : List Nat := if g ∈ cs ∨ 24 ≤ cs.length then cs else cs ++ [g]
def gaL (st : WS) (cs : List Nat) : List Nat := match st.getLast? with
  | none => cs
  | some (_, k, v, _, _) => if k = 15 then gaA v.toNatClampNeg cs else cs
/-- whom a forest calls, each once, as they are met -/
def fo_cs : Fo → List Nat → List Nat
  | .inner _ k v a b, cs => fo_cs b (if k = 15 then gaA v.toNatClampNeg (fo_cs a cs) else fo_cs a cs)
  | .leaf, cs => cs
theorem vis_ga : ∀ (F : Fo) (st : WS) (top : WT) (nx : Nat) (cs : List Nat), vis (fun _ s => s) gaL (fun _ s => s) F st top nx cs = fo_cs F cs
  | .inner z k v a b, st, top, nx, cs => by
    unfold vis
    rw [vis_ga a, vis_ga b]
    unfold gaL
    rw [gl_app]
    rfl
  | .leaf, st, top, nx, cs => rfl
theorem visT_ga {F : Fo} (h1 : fo_l F = 1) (nx : Nat) (cs : List Nat) : visT (fun _ s => s) gaL (fun _ s => s) F nx cs = fo_cs F cs := by
  match F, h1 with
  | .inner z k v a b, h1 =>
    match b, h1 with
    | .leaf, _ =>
      unfold visT
      dsimp only
      rw [vis_ga]
      rfl
    | .inner _ _ _ _ _, h1 => exact absurd h1 (by simp [fo_l])
/-- places that gathering for f changes -/
def gaP (f c k : Nat) : Bool := (Nat.ble 12 c && Nat.ble c 17) || ((Nat.beq c 19 || Nat.beq c 46) && Nat.beq k f) || Nat.beq c (22 + f)
theorem gaP_in {f c k : Nat} (h : gaP f c k = true) : (12 ≤ c ∧ c ≤ 17) ∨ ((c = 19 ∨ c = 46) ∧ k = f) ∨ c = 22 + f := by
  unfold gaP at h
  simp only [Bool.or_eq_true, Bool.and_eq_true, Nat.ble_eq, Nat.beq_eq] at h
  omega
theorem gaP_r {f c k : Nat} (h : ¬ ((12 ≤ c ∧ c ≤ 17) ∨ ((c = 19 ∨ c = 46) ∧ k = f) ∨ c = 22 + f)) : gaP f c k = false := by
  cases e : gaP f c k with
  | false => rfl
  | true => exact absurd (gaP_in e) h
theorem gaP_t {f c k : Nat} (h : (12 ≤ c ∧ c ≤ 17) ∨ ((c = 19 ∨ c = 46) ∧ k = f) ∨ c = 22 + f) : gaP f c k = true := by
  unfold gaP
  simp only [Bool.or_eq_true, Bool.and_eq_true, Nat.ble_eq, Nat.beq_eq]
  omega
/-- gathered so far -/
def gaQ (ad : Nat → Nat) (f : Nat) (cs : List Nat) (t : gSt) : Prop := (∀ g, g < 24 → hb (t.2.1 (ad 19) f) g = decide (g ∈ cs)) ∧ t.2.1 (ad 46) f = nI cs.length ∧ cs.length ≤ 24 ∧ (∀ (j c : Nat), cs[j]? = some c → t.2.1 (ad (22 + f)) j = nI c) ∧ ∀ c ∈ cs, c < 24
section GA
variable {cx : gCx} {d : Nat} {ad : Nat → Nat} {t0 t : gSt} {post : Option Value → gSt → Prop} {p n f : Nat} {par : Int32 → Nat}
theorem m_addCallee {g : Nat} {cs : List Nat} (hL : Lay t ad) (hf : f < 24) (hg : g < 24) (hQ : gaQ ad f cs t) (h : ∀ u, gFr ad (gaP f) t u → (∀ c k, (12 ≤ c ∧ c ≤ 17) → u.2.1 (ad c) k = t.2.1 (ad c) k) → (∀ c k, u.2.2.2 (ad c) k = t.2.2.2 (ad c) k) → gaQ ad f (gaA g cs) u → post none u) : g_E cx (d + 2) i_Graph_addCallee [.ref (ad 11), .int (nI f), .int (nI g)] t post := by
  obtain ⟨h1, h2, h3, h4, h5⟩ := hQ
  have hvf := vp_in_nI (N := 24) hf (by omega)
  refine x_Graph_addCallee hL ⟨hvf, ?_⟩
  rw [nI_clamp (n := f) (by omega)]
  refine m_hasBit hL (by omega) ⟨_, rfl, hL, ?_⟩
  rw [h1 g hg]
  refine ⟨fun c => ?_, fun c => ⟨hvf, ?_⟩⟩
  · have hm : g ∈ cs := by
      by_cases z : g ∈ cs
      · exact z
      · exact absurd (by rw [decide_eq_false z]; rfl) c
    refine h t (gFr.rf hL) (fun _ _ _ => rfl) (fun _ _ => rfl) ?_
    rw [show gaA g cs = cs from if_pos (Or.inl hm)]
    exact ⟨h1, h2, h3, h4, h5⟩
  · have hm : ¬ g ∈ cs := fun z => c (by rw [decide_eq_true z]; decide)
    rw [h2, show (24 : Int32) = nI 24 from rfl, nI_leI (by omega) (by omega)]
    refine ⟨fun c2 => ?_, fun c2 => ⟨hvf, hvf, fun t3 e3 => ⟨hvf, hvf, ?_⟩⟩⟩
    · refine h t (gFr.rf hL) (fun _ _ _ => rfl) (fun _ _ => rfl) ?_
      rw [show gaA g cs = cs from if_pos (Or.inr c2)]
      exact ⟨h1, h2, h3, h4, h5⟩
    · have n3 : ∀ c k, c ≠ 19 → c < 199 → t3.2.1 (ad c) k = t.2.1 (ad c) k := fun c k hc hl => by rw [e3, g_rd_ne (hL.ne c 19 hl (by decide) hc)]
      rw [n3 46 f (by decide) (by decide), h2, nI_clamp (n := cs.length) (by omega)]
      refine ⟨vp_in_nI (by omega) (by omega), fun t4 e4 => ⟨hvf, hvf, fun t5 e5 => ?_⟩⟩
      have n4 : ∀ c k, c ≠ 19 → c ≠ 22 + f → c < 199 → t4.2.1 (ad c) k = t.2.1 (ad c) k := fun c k hc hc2 hl => by rw [e4, g_rd_ne (hL.ne c _ hl (by omega) hc2), n3 c k hc hl]
      rw [n4 46 f (by decide) (by omega) (by decide), h2, nI_1] at e5
      have hA : gaA g cs = cs ++ [g] := if_neg (fun z => z.elim hm c2)
      refine h t5 ?_ (fun c k hc => ?_) (fun c k => by rw [e5, e4, e3]; rfl) ?_
      · rw [e5, e4, e3]
        exact (((gFr.rf hL).si (gaP_t (by omega))).si (gaP_t (by omega)) (by omega)).si (gaP_t (by omega))
      · rw [e5, g_rd_ne (hL.ne c 46 (by omega) (by decide) (by omega)), n4 c k (by omega) (by omega) (by omega)]
      · rw [hA]
        refine ⟨fun z hz => ?_, ?_, ?_, fun j c hj => ?_, fun c hc => ?_⟩
        · rw [e5, g_rd_ne (hL.ne 19 46 (by decide) (by decide) (by decide)), e4, g_rd_ne (hL.ne 19 _ (by decide) (by omega) (by omega)), e3, g_rd_at, hb_or, h1 z hz, hb_1 g hg z hz]
          by_cases zz : z ∈ cs
          · rw [decide_eq_true zz, decide_eq_true (List.mem_append_left _ zz)]; rfl
          · rw [decide_eq_false zz, Bool.false_or]
            rw [decide_eq_decide]
            constructor
            · rintro rfl; exact List.mem_append_right _ List.mem_cons_self
            · intro q
              rcases List.mem_append.mp q with q | q
              · exact absurd q zz
              · exact (List.mem_singleton.mp q).symm
        · rw [e5, g_rd_at, List.length_append]; rfl
        · rw [List.length_append]; simp; omega
        · rw [e5, g_rd_ne (hL.ne _ 46 (by omega) (by decide) (by omega)), e4]
          by_cases ej : j = cs.length
          · subst ej
            rw [g_rd_at]
            rw [List.getElem?_append_right (Nat.le_refl _), Nat.sub_self] at hj
            rw [show g = c from by simpa using hj]
          · rw [g_rd_k ej, n3 _ _ (by omega) (by omega)]
            have hjl : j < cs.length := by
              have := (List.getElem?_eq_some_iff.mp hj).1
              simp at this
              omega
            rw [List.getElem?_append_left hjl] at hj
            exact h4 j c hj
        · rcases List.mem_append.mp hc with hc | hc
          · exact h5 c hc
          · rw [List.mem_singleton.mp hc]; exact hg
theorem m_gather_loop {F : Fo} {s0 : Nat} {cs : List Nat} (hp : isP p) (hn24 : n ≤ 24) (hf : f < 24) (hRp : RPar t0 ad p n par) (hpar : ∀ v, par v ≤ 900) (hs : s0 + fo_n F ≤ c_len (p + 12)) (hrw : rows (t0.2.1 (ad (p + 12))) (t0.2.1 (ad (p + 13))) s0 (fo_p F)) (h1 : fo_l F = 1) (hV : fo_v n par (fun _ _ => True) F) (hn5 : fo_n F ≤ 500) (hL : Lay t0 ad) (hR : RW t0 ad 12 p [] s0 0) (hQ : gaQ ad f cs t0) (hK : ∀ u, gFr ad (gaP f) t0 u → gaQ ad f (fo_cs F cs) u → post none u) : g_W cx (g_E cx (d + 3)) mt_Graph_gather post (25, [some (.ref (ad 11)), some (.ref (ad p)), some (.int (nI f)), some (.int (nI 0))], [], t0, 0, 0) := by
  have hw : isW 12 := by simp [isW]
  have hpg := hp.ge
  have hpl := hp.lt
  have Rpar : ∀ {t}, gFr ad (gaP f) t0 t → RPar t ad p n par := fun h => ⟨hRp.1, by rw [h.i _ _ (gaP_r (by omega)) (by omega)]; exact hRp.2.1, fun g hg => by rw [h.i _ _ (gaP_r (by omega)) (by omega)]; exact hRp.2.2 g hg⟩
  have har : ∀ k v, k_ar par k v < 1000 := by
    intro k v
    have := hpar v
    unfold k_ar
    split
    · omega
    · split
      · omega
      · split
        · omega
        · split <;> omega
  have m15 : ∀ m, m < 1500 → ¬ (1500 : Int32) ≤ nI m := fun m hm c => by
    rw [show (1500 : Int32) = nI 1500 from rfl, nI_leI (by omega) (by omega)] at c
    omega
  have wk : ∀ {cs t u}, (gFr ad (gaP f) t0 t ∧ gaQ ad f cs t) → gFr ad (wP 12) t u → (gFr ad (gaP f) t0 u ∧ gaQ ad f cs u) := fun {cs t u} h hF => by
    have o : ∀ c k, (c < 12 ∨ 17 < c) → c < 199 → u.2.1 (ad c) k = t.2.1 (ad c) k := fun c k hc hl => hF.i c k (wP_out (by omega)) hl
    obtain ⟨a1, a2, a3, a4, a5⟩ := h.2
    refine ⟨h.1.tr (hF.mo (fun c k q => gaP_t (by
      unfold wP at q
      simp only [Bool.and_eq_true, Nat.ble_eq] at q
      omega))), fun g hg => by rw [o 19 f (by decide) (by decide)]; exact a1 g hg, by rw [o 46 f (by decide) (by decide)]; exact a2, a3, fun j c hj => by rw [o _ j (by omega) (by omega)]; exact a4 j c hj, a5⟩
  refine visT_ok (Hd := fun m t => g_W cx (g_E cx (d + 3)) mt_Graph_gather post (25, [some (.ref (ad 11)), some (.ref (ad p)), some (.int (nI f)), some (.int (nI m))], [], t, 0, 0)) (Q := fun cs t => gFr ad (gaP f) t0 t ∧ gaQ ad f cs t) (en := fun _ s => s) (lv := gaL) (bk := fun _ s => s) (w := 12) (p := p) (n := n) (par := par) (C := fun _ _ => True) (s0 := s0) (L := fo_p F) hpar (by rw [fo_pn]; exact hs) ?_ ?_ ?_ ?_ h1 hV rfl hn5 hR ⟨gFr.rf hL, hQ⟩ ?_
  · intro s t h i q hq
    rw [h.1.i (p + 12) _ (gaP_r (by omega)) (by omega), h.1.i (p + 13) _ (gaP_r (by omega)) (by omega)]
    exact hrw i q hq
  · intro m t s st nx ev k v hm hR hq hev htop hst hnx ek ev' hk hg hC hK2
    refine x_Graph_gather_25 hp hq.1.L ⟨fun c => absurd c (m15 m hm), fun _ => ?_⟩
    refine adv_enter hp hw hq.1.L (Rpar hq.1) hR hev htop hst hnx ek ev' hk hg (fun u hF hRu hlev => ?_)
    refine ⟨1, rfl, hF.L, fun c => absurd c (by decide), fun _ => ⟨fun _ => ?_, fun c => absurd (by rw [hRu.2.1]; decide) c⟩⟩
    rw [nI_1]
    exact hK2 u hRu (wk hq hF)
  · intro m t s st nx ev nd k v hm hR hq hev hst hC hg hk hK2
    refine x_Graph_gather_25 hp hq.1.L ⟨fun c => absurd c (m15 m hm), fun _ => ?_⟩
    refine adv_leave hw hq.1.L hR hev hst (har k v) (fun u hF hRu hlev => ?_)
    have hqu := wk hq hF
    have hme := hRu.2.2.2.2 st.length (nd, k, v, k_ar par k v, k_ar par k v) (by simp)
    have ek : u.2.1 (ad 14) st.length = k := hme.2.1
    have ev : u.2.1 (ad 15) st.length = v := hme.2.2.1
    have e : gaL (st ++ [(nd, k, v, k_ar par k v, k_ar par k v)]) s = if k = 15 then gaA v.toNatClampNeg s else s := by
      unfold gaL
      rw [gl_app]
    refine ⟨1, rfl, hF.L, fun c => absurd c (by decide), fun _ => ⟨fun c => absurd (by rw [hRu.2.1]; rfl) c, fun _ => ?_⟩⟩
    have hvp := vp_in_nI (N := 500) hst (by omega)
    rw [hlev, nI_clamp (by omega), ek, ev, nI_1]
    refine ⟨hvp, fun c => hK2 u hRu (by rw [e, if_neg c]; exact hqu), fun c => ⟨hvp, ?_⟩⟩
    have c := Classical.not_not.mp c
    obtain ⟨g, eg, hgn⟩ := hg c
    rw [eg]
    refine m_addCallee hF.L hf (by omega) hqu.2 (fun u' F' o' r' q' => ⟨rfl, F'.L, hK2 u' ?_ ⟨hqu.1.tr F', ?_⟩⟩)
    · refine ⟨by rw [r']; exact hRu.1, by rw [o' 12 5 (by decide)]; exact hRu.2.1, by rw [o' 12 10 (by decide)]; exact hRu.2.2.1, by rw [o' 12 9 (by decide)]; exact hRu.2.2.2.1, fun i q hq => ?_⟩
      rw [o' 13 i (by decide), o' 14 i (by decide), o' 15 i (by decide), o' 16 i (by decide), o' 17 i (by decide)]
      exact hRu.2.2.2.2 i q hq
    · rw [e, if_pos c, eg, nI_clamp (by omega)]
      exact q'
  · intro m t s st nx nd k v dn top hm hR hq hst hdn hC hg hk hK2
    refine x_Graph_gather_25 hp hq.1.L ⟨fun c => absurd c (m15 m hm), fun _ => ?_⟩
    refine adv_behind hw hq.1.L hR hst (fun u hF hRu hlev hkid => ?_)
    refine ⟨1, rfl, hF.L, fun c => absurd c (by decide), fun _ => ⟨fun _ => ?_, fun c => absurd (by rw [hRu.2.1]; decide) c⟩⟩
    rw [nI_1]
    exact hK2 u hRu (wk hq hF)
  · intro u top nx hRu hqu
    have hfn : 0 < fo_n F := by
      match F, h1 with
      | .inner _ _ _ _ _, _ => simp [fo_n]; omega
    rw [visT_ga h1] at hqu
    refine x_Graph_gather_25 hp hqu.1.L ⟨fun c => absurd c (m15 _ (by omega)), fun _ => ?_⟩
    refine adv_end hw hqu.1.L hRu (fun u' hF => ?_)
    have hqu' := wk hqu hF
    exact ⟨0, rfl, hF.L, fun _ => hK u' hqu'.1 hqu'.2, fun c => absurd rfl c⟩
end GA
