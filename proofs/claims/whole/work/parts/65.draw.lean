/-! THE GRAPH: the class's draw -/
/-- an expression in the class's program p, function f -/
def RB (t : gSt) (ad : Nat → Nat) (p f : Nat) (b : Fo) : Prop := ∃ s, t.2.1 (ad (p + 4)) f = nI s ∧ s + fo_n b ≤ c_len (p + 12) ∧ rows (t.2.1 (ad (p + 12))) (t.2.1 (ad (p + 13))) s (fo_p b)
def grP (c k : Nat) : Bool := (Nat.ble 12 c && Nat.ble c 20) || (Nat.ble 22 c && Nat.ble c 46) || (Nat.beq c 11 && (Nat.beq k 6 || Nat.beq k 7))
theorem grP_in {c k : Nat} (h : grP c k = true) : (12 ≤ c ∧ c ≤ 20) ∨ (22 ≤ c ∧ c ≤ 46) ∨ (c = 11 ∧ (k = 6 ∨ k = 7)) := by
  unfold grP at h
  simp only [Bool.or_eq_true, Bool.and_eq_true, Nat.ble_eq, Nat.beq_eq] at h
  omega
theorem grP_r {c k : Nat} (h : ¬ ((12 ≤ c ∧ c ≤ 20) ∨ (22 ≤ c ∧ c ≤ 46) ∨ (c = 11 ∧ (k = 6 ∨ k = 7)))) : grP c k = false := by
  cases e : grP c k with
  | false => rfl
  | true => exact absurd (grP_in e) h
theorem grP_t {c k : Nat} (h : (12 ≤ c ∧ c ≤ 20) ∨ (22 ≤ c ∧ c ≤ 46) ∨ (c = 11 ∧ (k = 6 ∨ k = 7))) : grP c k = true := by
  unfold grP
  simp only [Bool.or_eq_true, Bool.and_eq_true, Nat.ble_eq, Nat.beq_eq]
  omega
theorem fo_cs_lt {n : Nat} {par : Int32 → Nat} {C : Int32 → Int32 → Prop} (hn : n ≤ 24) : ∀ (F : Fo) (cs : List Nat), fo_v n par C F → (∀ c ∈ cs, c < n) → ∀ c ∈ fo_cs F cs, c < n
  | .inner _ k v a b, cs, hv, hc => by
    obtain ⟨⟨_, _, v3, _⟩, va, vb⟩ := hv
    have h1 := fo_cs_lt hn a cs va hc
    unfold fo_cs
    refine fo_cs_lt hn b _ vb (fun c hx => ?_)
    split at hx
    · rename_i hk
      obtain ⟨g, eg, hg⟩ := v3 hk
      unfold gaA at hx
      split at hx
      · exact h1 c hx
      · rcases List.mem_append.mp hx with hx | hx
        · exact h1 c hx
        · rw [List.mem_singleton.mp hx, eg, nI_clamp (by omega)]; exact hg
    · exact h1 c hx
  | .leaf, cs, _, hc => hc
section DR
variable {cx : gCx} {d : Nat} {ad : Nat → Nat} {t : gSt} {post : Option Value → gSt → Prop} {p n : Nat} {par : Int32 → Nat} {bo : Nat → Fo}
theorem m_gather {f : Nat} {F : Fo} (hp : isP p) (hL : Lay t ad) (hn24 : n ≤ 24) (hf : f < 24) (hRp : RPar t ad p n par) (hpar : ∀ v, par v ≤ 900) (hB : RB t ad p f F) (h1 : fo_l F = 1) (hV : fo_v n par (fun _ _ => True) F) (hn5 : fo_n F ≤ 500) (h : ∀ u, gFr ad (gaP f) t u → gaQ ad f (fo_cs F []) u → post none u) : g_E cx (d + 4) i_Graph_gather [.ref (ad 11), .ref (ad p), .int (nI f)] t post := by
  have hpg := hp.ge
  have hpl := hp.lt
  have hvf := vp_in_nI (N := 24) hf (by omega)
  obtain ⟨s0, b1, b2, b3⟩ := hB
  refine x_Graph_gather hp hL ⟨hvf, fun t1 e1 => ⟨hvf, fun t2 e2 => ?_⟩⟩
  rw [nI_clamp (by omega)] at e1 e2
  have F2 : gFr ad (gaP f) t t2 := by rw [e2, e1]; exact ((gFr.rf hL).si (gaP_t (by omega))).si (gaP_t (by omega))
  have o2 : ∀ c k, c ≠ 19 → c ≠ 46 → c < 199 → t2.2.1 (ad c) k = t.2.1 (ad c) k := fun c k h1 h2 hl => by rw [e2, g_rd_ne (hL.ne c 46 hl (by decide) h2), e1, g_rd_ne (hL.ne c 19 hl (by decide) h1)]
  refine m_begin hp (by simp [isW]) F2.L hf (s := s0) (by rw [o2 _ _ (by omega) (by omega) (by omega)]; exact b1) (fun u F3 R3 => ⟨rfl, F3.L, ?_⟩)
  have o3 : ∀ c k, (c < 12 ∨ 17 < c) → c < 199 → u.2.1 (ad c) k = t2.2.1 (ad c) k := fun c k hc hl => F3.i c k (wP_out (by omega)) hl
  have ou : ∀ c k, (c < 12 ∨ 17 < c) → c ≠ 19 → c ≠ 46 → c < 199 → u.2.1 (ad c) k = t.2.1 (ad c) k := fun c k h1 h2 h3 hl => by rw [o3 c k h1 hl, o2 c k h2 h3 hl]
  have FU : gFr ad (gaP f) t u := F2.tr (F3.mo (fun c k q => gaP_t (by
    unfold wP at q
    simp only [Bool.and_eq_true, Nat.ble_eq] at q
    omega)))
  refine m_gather_loop (t0 := u) (cs := []) (F := F) (s0 := s0) (n := n) (par := par) hp hn24 hf ⟨hRp.1, by rw [ou _ _ (by omega) (by omega) (by omega) (by omega)]; exact hRp.2.1, fun g hg => by rw [ou _ _ (by omega) (by omega) (by omega) (by omega)]; exact hRp.2.2 g hg⟩ hpar b2 (fun i q hq => by rw [ou _ _ (by omega) (by omega) (by omega) (by omega), ou _ _ (by omega) (by omega) (by omega) (by omega)]; exact b3 i q hq) h1 hV hn5 F3.L R3 ⟨fun g hg => ?_, ?_, Nat.zero_le _, (fun j c hj => by cases hj), (fun c hc => by cases hc)⟩ (fun w hw hq => h w (FU.tr hw) hq)
  · rw [o3 19 f (by decide) (by decide), e2, g_rd_ne (hL.ne 19 46 (by decide) (by decide) (by decide)), e1, g_rd_at, hb_z]; rfl
  · rw [o3 46 f (by decide) (by decide), e2, g_rd_at]; rfl
/-- the order of all -/
def ordS (cs : Nat → List Nat) (n : Nat) : List Nat × List Nat := (List.range n).foldl (fun s f => dfs cs 24 f s) ([], [])
theorem m_draw (hp : isP p) (hL : Lay t ad) (hn24 : n ≤ 24) (hRp : RPar t ad p n par) (hpar : ∀ v, par v ≤ 900) (hB : ∀ f, f < n → RB t ad p f (bo f) ∧ fo_l (bo f) = 1 ∧ fo_v n par (fun _ _ => True) (bo f) ∧ fo_n (bo f) ≤ 500)
    (h : ∀ u, gFr ad grP t u → (∀ f g, f < n → g < 24 → hb (u.2.1 (ad 19) f) g = decide (g ∈ fo_cs (bo f) [])) → (∀ f g, f < n → g < 24 → hb (u.2.1 (ad 20) f) g = clF (fun f g => decide (g ∈ fo_cs (bo f) [])) n f g) → (∀ (j c : Nat), (ordS (fun f => fo_cs (bo f) []) n).2[j]? = some c → u.2.1 (ad 18) j = nI c) → post none u) : g_E cx (d + 28) i_Graph_draw [.ref (ad 11), .ref (ad p)] t post := by
  have hpg := hp.ge
  have hpl := hp.lt
  have hcnt : t.2.1 (ad p) 15 = nI n := hRp.2.1
  have cnt : ∀ {u}, gFr ad grP t u → u.2.1 (ad p) 15 = nI n := fun hF => by rw [hF.i _ _ (grP_r (by omega)) (by omega)]; exact hcnt
  refine x_Graph_draw hp hL ?_
  have first : ∀ k m (u : gSt), k + m = n → gFr ad grP t u → (∀ f, f < m → gaQ ad f (fo_cs (bo f) []) u ∧ u.2.1 (ad 20) f = u.2.1 (ad 19) f) → g_W cx (g_E cx (d + 27)) mt_Graph_draw post (2, [some (.ref (ad 11)), some (.ref (ad p)), some (.int (nI m))], [], u, 0, 0) := by
    intro k
    induction k with
    | zero =>
      intro m u hk hF hu
      have hm : m = n := by omega
      subst hm
      refine x_Graph_draw_2 hp hF.L ?_
      rw [cnt hF]
      refine ⟨fun _ => ?_, fun z => absurd (nI_le (Nat.le_refl _) (by omega)) z⟩
      refine m_closeOver (R := fun f g => decide (g ∈ fo_cs (bo f) [])) (Or.inl rfl) hF.L hn24 (fun f g hf hg => by rw [(hu f hf).2]; exact (hu f hf).1.1 g hg) (fun u2 F2 q2 => ⟨rfl, F2.L, fun t3 e3 t4 e4 => ?_⟩)
      have F2' : gFr ad grP u u2 := F2.mo (fun c k q => grP_t (by have := Nat.eq_of_beq_eq_true q; omega))
      have n2 : ∀ c k, c ≠ 20 → c < 199 → u2.2.1 (ad c) k = u.2.1 (ad c) k := fun c k hc hl => F2.i c k (onP_r hc) hl
      have n4 : ∀ c k, c ≠ 11 → c < 199 → t4.2.1 (ad c) k = u2.2.1 (ad c) k := fun c k hc hl => by rw [e4, g_rd_ne (hF.L.ne c 11 hl (by decide) hc), e3, g_rd_ne (hF.L.ne c 11 hl (by decide) hc)]
      have F4 : gFr ad grP u t4 := by rw [e4, e3]; exact (F2'.si (grP_t (by omega))).si (grP_t (by omega))
      have hcR : csR t4 ad m (fun f => fo_cs (bo f) []) := fun f hf => by
        obtain ⟨a1, a2, a3, a4, a5⟩ := (hu f hf).1
        refine ⟨by rw [n4 46 f (by decide) (by decide), n2 46 f (by decide) (by decide)]; exact a2, a3, fun j c hj => by rw [n4 _ _ (by omega) (by omega), n2 _ _ (by omega) (by omega)]; exact a4 j c hj, fo_cs_lt hn24 _ [] (hB f hf).2.2.1 (fun c hc => by cases hc)⟩
      have second : ∀ j i (s : List Nat × List Nat) (w : gSt), j + i = m → lkI m s → ((List.range m).drop i).foldl (fun s f => dfs (fun f => fo_cs (bo f) []) 24 f s) s = ordS (fun f => fo_cs (bo f) []) m → gFr ad loP t4 w → loQ ad s w → g_W cx (g_E cx (d + 27)) mt_Graph_draw post (57, [some (.ref (ad 11)), some (.ref (ad p)), some (.int (nI i))], [], w, 0, 0) := by
        intro j
        induction j with
        | zero =>
          intro i s w hj hI hfo hw hq
          have hwl : gFr ad grP t w := (hF.tr F4).tr (hw.mo (fun c k q => grP_t (by
            unfold loP at q
            simp only [Bool.or_eq_true, Bool.and_eq_true, Nat.beq_eq] at q
            omega)))
          refine x_Graph_draw_57 hp hw.L ?_
          rw [cnt hwl]
          refine ⟨fun _ => ?_, fun z => absurd (nI_le (by omega) (by omega)) z⟩
          rw [List.drop_eq_nil_of_le (by rw [List.length_range]; omega)] at hfo
          have hfo : s = ordS (fun f => fo_cs (bo f) []) m := hfo
          refine h w hwl (fun f g hf hg => ?_) (fun f g hf hg => ?_) (fun j c hj => ?_)
          · rw [hw.i 19 f (loP_r (by omega)), n4 19 f (by decide) (by decide), n2 19 f (by decide) (by decide)]; exact (hu f hf).1.1 g hg
          · rw [hw.i 20 f (loP_r (by omega)), n4 20 f (by decide) (by decide)]; exact q2 f g hf hg
          · rw [← hfo] at hj; exact hq.2.2 j c hj
        | succ j ihj =>
          intro i s w hj hI hfo hw hq
          have hwl : gFr ad grP t w := (hF.tr F4).tr (hw.mo (fun c k q => grP_t (by
            unfold loP at q
            simp only [Bool.or_eq_true, Bool.and_eq_true, Nat.beq_eq] at q
            omega)))
          refine x_Graph_draw_57 hp hw.L ?_
          rw [cnt hwl, nI_1]
          refine ⟨fun z => absurd z (nI_ge (by omega) (by omega)), fun _ => ?_⟩
          refine m_look (d := d + 1) hn24 hcR 24 i s w _ (by decide) (by omega) hI hw hq (fun w2 F2 q2' => ⟨rfl, F2.L, ?_⟩)
          refine ihj (i + 1) _ w2 (by omega) (dfs_ok (fun f hf => (hcR f hf).2.2.2) 24 i s (by omega) hI).1 ?_ F2 q2'
          have ed : (List.range m).drop i = i :: (List.range m).drop (i + 1) := by
            rw [List.drop_eq_getElem_cons (i := i) (by rw [List.length_range]; omega), List.getElem_range]
          rw [← hfo, ed]
          rfl
      refine second m 0 ([], []) t4 (by omega) ⟨List.nodup_nil, (fun x hx => by cases hx), (fun x hx => by cases hx)⟩ (by rw [List.drop_zero]; rfl) (gFr.rf F4.L) ⟨fun g hg => ?_, ?_, fun j c hj => by cases hj⟩
      · rw [e4, g_rd_k (by decide), e3, g_rd_at, hb_z]; rfl
      · rw [e4, g_rd_at]; rfl
    | succ k ih =>
      intro m u hk hF hu
      refine x_Graph_draw_2 hp hF.L ?_
      rw [cnt hF]
      refine ⟨fun z => absurd z (nI_ge (by omega) (by omega)), fun _ => ?_⟩
      obtain ⟨⟨s0, c1, c2, c3⟩, b2, b3, b4⟩ := hB m (by omega)
      have ou : ∀ c k, 96 ≤ c → c < 199 → u.2.1 (ad c) k = t.2.1 (ad c) k := fun c k hc hl => hF.i c k (grP_r (by omega)) hl
      refine m_gather (d := d + 23) (n := n) (par := par) (F := bo m) hp hF.L hn24 (by omega) ⟨hn24, by rw [ou _ _ (by omega) (by omega)]; exact hcnt, fun g hg => by rw [ou _ _ (by omega) (by omega)]; exact hRp.2.2 g hg⟩ hpar ⟨s0, by rw [ou _ _ (by omega) (by omega)]; exact c1, c2, fun i q hq => by rw [ou _ _ (by omega) (by omega), ou _ _ (by omega) (by omega)]; exact c3 i q hq⟩ b2 b3 b4 (fun u2 F2 q2 => ⟨rfl, F2.L, vp_in_nI (by omega) (by omega), vp_in_nI (by omega) (by omega), fun t7 e7 => ?_⟩)
      rw [nI_clamp (by omega)] at e7
      rw [nI_1]
      have n7 : ∀ c k, c ≠ 20 → c < 199 → t7.2.1 (ad c) k = u2.2.1 (ad c) k := fun c k hc hl => by rw [e7, g_rd_ne (F2.L.ne c 20 hl (by decide) hc)]
      refine ih (m + 1) t7 (by omega) (hF.tr (by
        rw [e7]
        exact (F2.mo (fun c k q => grP_t (by have := gaP_in q; omega))).si (grP_t (by omega)))) (fun f hf => ?_)
      by_cases e : f = m
      · subst e
        refine ⟨?_, by rw [n7 19 f (by decide) (by decide), e7, g_rd_at]⟩
        obtain ⟨a1, a2, a3, a4, a5⟩ := q2
        exact ⟨fun g hg => by rw [n7 19 f (by decide) (by decide)]; exact a1 g hg, by rw [n7 46 f (by decide) (by decide)]; exact a2, a3, fun j c hj => by rw [n7 _ _ (by omega) (by omega)]; exact a4 j c hj, a5⟩
      · obtain ⟨⟨a1, a2, a3, a4, a5⟩, a6⟩ := hu f (by omega)
        have k19 : t7.2.1 (ad 19) f = u.2.1 (ad 19) f := by rw [n7 19 f (by decide) (by decide), F2.i 19 f (gaP_r (by omega))]
        refine ⟨⟨fun g hg => by rw [k19]; exact a1 g hg, by rw [n7 46 f (by decide) (by decide), F2.i 46 f (gaP_r (by omega))]; exact a2, a3, fun j c hj => by rw [n7 _ _ (by omega) (by omega), F2.i _ _ (gaP_r (by omega)) (by omega)]; exact a4 j c hj, a5⟩, ?_⟩
        rw [k19, ← a6, e7, g_rd_k e, F2.i 20 f (gaP_r (by omega))]
  exact first n 0 t (by omega) (gFr.rf hL) (fun f hf => by omega)
end DR
