/-! CALLS FIND THEIR FUNCTIONS: the model -/
theorem fo_mv_cg {g g' : Int32 → Int32} : ∀ F : Fo, (∀ v : Int32, v.toNatClampNeg ∈ pcl F → g' v = g v) → fo_mv g' F = fo_mv g F
  | .inner z k v a b, h => by
    unfold fo_mv
    rw [fo_mv_cg a (fun w hw => h w (by unfold pcl; exact List.mem_append_left _ (List.mem_append_right _ hw))), fo_mv_cg b (fun w hw => h w (by unfold pcl; exact List.mem_append_right _ hw))]
    by_cases e : k = 15
    · rw [if_pos e, if_pos e, h v (by unfold pcl; rw [if_pos e]; exact List.mem_append_left _ (List.mem_append_left _ (List.mem_singleton.mpr rfl)))]
    · rw [if_neg e, if_neg e]
  | .leaf, _ => rfl
theorem cno_in {Nd : Nat → Int32} {c : Nat} : ∀ (F : Fo) (o : Nat), fo_cno Nd F o → c ∈ pcl F → ∃ j, o ≤ j ∧ j < o + fo_n F ∧ Nd c = nI j
  | .inner z k v a b, o, h, hc => by
    unfold pcl at hc
    rcases List.mem_append.mp hc with hc | hc
    · rcases List.mem_append.mp hc with hc | hc
      · by_cases e : k = 15
        · rw [if_pos e] at hc
          rw [List.mem_singleton.mp hc]
          exact ⟨o + fo_n a, by omega, by simp only [fo_n]; omega, h.2.1 e⟩
        · rw [if_neg e] at hc; cases hc
      · obtain ⟨j, h1, h2, h3⟩ := cno_in a o h.1 hc
        exact ⟨j, h1, by simp only [fo_n]; omega, h3⟩
    · obtain ⟨j, h1, h2, h3⟩ := cno_in b _ h.2.2 hc
      exact ⟨j, by omega, by simp only [fo_n]; omega, h3⟩
  | .leaf, _, _, hc => by cases hc
/-- one call's value is set -/
theorem fo_m_set {K A B C C' G : Nat → Int32} {N c m : Nat} {Nd : Nat → Int32} {g g' : Int32 → Int32} {y : Int32} (hm : m < 2 ^ 31) (hNd : Nd c = nI m) (hC : ∀ i, i ≠ m → C' i = C i) (hy : C' m = y) (hg : ∀ v : Int32, v.toNatClampNeg ≠ c → g' v = g v) (hgc : ∀ v : Int32, v.toNatClampNeg = c → g' v = y) :
    ∀ (F : Fo) (o : Nat), o + fo_n F < 2 ^ 31 → fo_m K A B C G N id (fo_mv g F) o → fo_cno Nd F o → ((c ∈ pcl F ∧ (pcl F).Nodup) ∨ (c ∉ pcl F ∧ ¬ (o ≤ m ∧ m < o + fo_n F))) → fo_m K A B C' G N id (fo_mv g' F) o
  | .inner z k v a b, o, ho, h, hn, hc => by
    obtain ⟨ha, hk, hb⟩ := h
    obtain ⟨na, nk, nb⟩ := hn
    have en : fo_n (.inner z k v a b) = fo_n a + 1 + fo_n b := rfl
    have ep : pcl (.inner z k v a b) = (if k = 15 then [v.toNatClampNeg] else []) ++ pcl a ++ pcl b := rfl
    rw [fo_n_mv] at hk hb
    have nd : ∀ {l1 l2 l3 : List Nat}, (l1 ++ l2 ++ l3).Nodup → l2.Nodup ∧ l3.Nodup ∧ (∀ x ∈ l1, x ∉ l2 ∧ x ∉ l3) ∧ ∀ x ∈ l2, x ∉ l3 := fun {l1 l2 l3} hd => by
      rw [List.nodup_append, List.nodup_append] at hd
      exact ⟨hd.1.2.1, hd.2.1, fun x hx => ⟨fun hx2 => hd.1.2.2 x hx x hx2 rfl, fun hx3 => hd.2.2 x (List.mem_append_left _ hx) x hx3 rfl⟩, fun x hx hx3 => hd.2.2 x (List.mem_append_right _ hx) x hx3 rfl⟩
    -- where c stands
    have key : ((c ∈ pcl a ∧ (pcl a).Nodup) ∨ (c ∉ pcl a ∧ ¬ (o ≤ m ∧ m < o + fo_n a))) ∧ ((c ∈ pcl b ∧ (pcl b).Nodup) ∨ (c ∉ pcl b ∧ ¬ (o + fo_n a + 1 ≤ m ∧ m < o + fo_n a + 1 + fo_n b))) ∧ ((k = 15 ∧ v.toNatClampNeg = c) ∨ (¬ (k = 15 ∧ v.toNatClampNeg = c) ∧ m ≠ o + fo_n a)) := by
      rcases hc with ⟨hin, hd⟩ | ⟨hout, hr⟩
      · rw [ep] at hin hd
        obtain ⟨d2, d3, d4, d5⟩ := nd hd
        rcases List.mem_append.mp hin with hin | hin
        · rcases List.mem_append.mp hin with hin | hin
          · by_cases e : k = 15
            · rw [if_pos e] at hin d4
              have ev := List.mem_singleton.mp hin
              have hm2 := nk e
              rw [← ev, hNd, nI_eq hm (by omega)] at hm2
              have := d4 c hin
              exact ⟨Or.inr ⟨this.1, by omega⟩, Or.inr ⟨this.2, by omega⟩, Or.inl ⟨e, ev.symm⟩⟩
            · rw [if_neg e] at hin; cases hin
          · obtain ⟨j, j1, j2, j3⟩ := cno_in a o na hin
            rw [hNd, nI_eq hm (by omega)] at j3
            refine ⟨Or.inl ⟨hin, d2⟩, Or.inr ⟨d5 c hin, by omega⟩, Or.inr ⟨fun z => ?_, by omega⟩⟩
            rw [if_pos z.1] at d4
            exact (d4 c (by rw [z.2]; exact List.mem_singleton.mpr rfl)).1 hin
        · obtain ⟨j, j1, j2, j3⟩ := cno_in b _ nb hin
          rw [hNd, nI_eq hm (by omega)] at j3
          refine ⟨Or.inr ⟨fun z => d5 c z hin, by omega⟩, Or.inl ⟨hin, d3⟩, Or.inr ⟨fun z => ?_, by omega⟩⟩
          rw [if_pos z.1] at d4
          exact (d4 c (by rw [z.2]; exact List.mem_singleton.mpr rfl)).2 hin
      · rw [ep] at hout
        rw [en] at hr
        refine ⟨Or.inr ⟨fun z => hout (List.mem_append_left _ (List.mem_append_right _ z)), by omega⟩, Or.inr ⟨fun z => hout (List.mem_append_right _ z), by omega⟩, Or.inr ⟨fun z => hout ?_, by omega⟩⟩
        rw [if_pos z.1, z.2]
        exact List.mem_append_left _ (List.mem_append_left _ (List.mem_singleton.mpr rfl))
    obtain ⟨kA, kB, kK⟩ := key
    unfold fo_mv
    refine ⟨fo_m_set hm hNd hC hy hg hgc a o (by omega) ha na kA, ?_, ?_⟩
    · rw [fo_n_mv, fo_r_mv]
      rw [fo_r_mv] at hk
      obtain ⟨q1, q2, q3, q4⟩ := hk
      rcases kK with ⟨e15, ev⟩ | ⟨hne, hmn⟩
      · have hm2 := nk e15
        rw [ev, hNd, nI_eq hm (by omega)] at hm2
        refine ⟨q1, fun z => ?_, fun _ => ?_, fun z => absurd (Or.inr (Or.inr e15)) z⟩
        · rcases z with z | z <;> (rw [e15] at z; exact absurd z (by decide))
        · obtain ⟨r1, r2⟩ := q3 e15
          refine ⟨?_, r2⟩
          rw [if_pos e15, hgc v ev]
          show C' (o + fo_n a) = y
          rw [← hm2]
          exact hy
      · have ec : C' (id (o + fo_n a)) = C (id (o + fo_n a)) := hC _ (fun z => hmn z.symm)
        have ev : (if k = 15 then g' v else v) = (if k = 15 then g v else v) := by
          by_cases e : k = 15
          · rw [if_pos e, if_pos e]
            exact hg v (fun z => hne ⟨e, z⟩)
          · rw [if_neg e, if_neg e]
        rw [ev]
        exact ⟨q1, q2, fun z => by rw [ec]; exact q3 z, fun z => by rw [ec]; exact q4 z⟩
    · rw [fo_n_mv]
      exact fo_m_set hm hNd hC hy hg hgc b _ (by omega) hb nb kB
  | .leaf, _, _, _, _, _ => trivial
theorem nodup_fl : ∀ L : List (List Nat), L.flatten.Nodup → ∀ l ∈ L, l.Nodup
  | [], _, l, hl => by cases hl
  | x :: L, h, l, hl => by
    rw [List.flatten_cons, List.nodup_append] at h
    rcases List.mem_cons.mp hl with hl | hl
    · rw [hl]; exact h.1
    · exact nodup_fl L h.2.1 l hl
section MTG
variable {cx : gCx} {d : Nat} {ad : Nat → Nat} {T : Nat → Nat} {n a : Nat} {t0 t u : gSt} {FS : List FD} {cl : CL} {ac : Nat → Nat} {post : Option Value → gSt → Prop}
/-- calls that are behind -/
def gmP (FS : List FD) (cl : CL) (pp c : Nat) : Int32 → Int32 := fun v => if clP cl v.toNatClampNeg < pp ∨ (clP cl v.toNatClampNeg = pp ∧ v.toNatClampNeg < c) then tgI FS cl v else 0
/-- who has a call -/
theorem FOK.own (h : FOK FS cl ac a) {c : Nat} (hc : c < cl.length) : ∃ f q, FS[f]? = some q ∧ c ∈ pcl q.2.2.2 ∧ (cl.getD c ([], 0, 0)).2.2 = 48 + f ∧ (pcl q.2.2.2).Nodup ∧ ∀ f' q', FS[f']? = some q' → f' ≠ f → c ∉ pcl q'.2.2.2 := by
  have hm : c ∈ (FS.map (fun q => pcl q.2.2.2)).flatten := by rw [h.2.2.2.2.1]; exact List.mem_range.mpr hc
  obtain ⟨l, hl, hcl⟩ := List.mem_flatten.mp hm
  obtain ⟨q, hq, e⟩ := List.mem_map.mp hl
  obtain ⟨f, hf⟩ := List.getElem?_of_mem hq
  have hrow := h.2.2.2.2.2 f q hf c (by rw [e]; exact hcl) _ (cl_get hc)
  have hnd : ((FS.map (fun q => pcl q.2.2.2)).flatten).Nodup := by rw [h.2.2.2.2.1]; exact List.nodup_range
  refine ⟨f, q, hf, by rw [e]; exact hcl, hrow, ?_, fun f' q' hf' hne hc' => ?_⟩
  · exact nodup_fl _ hnd _ (List.mem_map.mpr ⟨q, hq, rfl⟩)
  · have := h.2.2.2.2.2 f' q' hf' c hc' _ (cl_get hc)
    omega
/-- the state while the model looks for functions -/
def MTR (ad : Nat → Nat) (n : Nat) (t0 : gSt) (FS : List FD) (cl : CL) (ac : Nat → Nat) (g : Int32 → Int32) (u : gSt) : Prop := gFr ad mfuP t0 u ∧ lvM ad u ∧ u.2.1 (ad 144) 2 = nI n ∧ u.2.1 (ad 144) 23 = nI FS.length ∧ mCl ad cl ac u ∧ ∀ f q, FS[f]? = some q → mFn ad g f q u
abbrev WR (cx : gCx) (d : Nat) (ad : Nat → Nat) (post : Option Value → gSt → Prop) (pc : Nat) (lc : List (Option Value)) (t : gSt) : Prop := g_W cx (g_E cx (d + 11)) mt_Mo_read post (pc, some (.ref (ad 144)) :: lc, [], t, 0, 0)
theorem m_tg (hT : txt T n) (h : MFR ad T n t0 a FS cl ac t) (ha : a ≤ n) (hO : FOK FS cl ac a) (hend : tkK T n a = 0) (hac : ∀ c, c < cl.length → ac c < 2 ^ 20) (hcl : cl.length ≤ 1000)
    (kG : (∀ c, c < cl.length → clG FS cl ac c) → ∀ u o2 o3, gFr ad (fun c k => mfuP c k || (Nat.beq c 144 && Nat.beq k 11)) t0 u → lvM ad u → u.2.1 (ad 144) 23 = nI FS.length → u.2.1 (ad 144) 11 = nI FS.length → (∀ f q, FS[f]? = some q → mFn ad (tgI FS cl) f q u) → WR cx d ad post 214 [some (.int 0), o2, o3] u)
    (kB : ∀ c k, c < cl.length → (∀ j, j < c → clG FS cl ac j) → clB FS cl ac c k → ∀ u, DF ad t0 k (clP cl c) u → post (some (.int (-10 - nI k))) u) : HdR cx d ad post t := by
  have hn := hT.1
  have hs := hO.s
  have hok := hO.ok
  have hl := hO.1.1
  have hclO := hO.2.1
  have hpl : ∀ c, c < cl.length → clP cl c < n := fun c hc => by
    have := (hclO.2 _ (List.mem_of_getElem? (cl_get hc))).1
    show (cl.getD c ([], 0, 0)).2.1 < n
    omega
  have hcnm : ∀ c, c < cl.length → nm_ok (clN cl c) := fun c hc => (hclO.2 _ (List.mem_of_getElem? (cl_get hc))).2
  have hord : ∀ i j, i < j → j < cl.length → clP cl i < clP cl j := fun i j hij hj => by
    have := List.pairwise_iff_getElem.mp hclO.1 i j (by omega) hj hij
    unfold clP
    rw [List.getD_eq_getElem?_getD, List.getD_eq_getElem?_getD, List.getElem?_eq_getElem (by omega), List.getElem?_eq_getElem hj]
    exact this
  -- behind a fault
  have dead58 : ∀ (w : gSt) (l1 : Int32) (o2 o3 : Option Value) (c k : Nat), c < cl.length → (∀ j, j < c → clG FS cl ac j) → clB FS cl ac c k → DF ad t0 k (clP cl c) w → WR cx d ad post 58 [some (.int l1), o2, o3] w := fun w l1 o2 o3 c k hc hg hb hd => by
    have e : post (some (.int (-10 - w.2.1 (ad 144) 3))) w := by rw [hd.2.2.1]; exact kB c k hc hg hb w hd
    exact x_Mo_read_58 hd.1.L ⟨fun _ => ⟨fun z => absurd z hd.2.ne.2, fun _ => e⟩, fun _ => ⟨fun _ => ⟨fun z => absurd z hd.2.ne.2, fun _ => e⟩, fun z => absurd hd.2.ne.1 z⟩⟩
  have dead75 : ∀ (w : gSt) (l1 l2 : Int32) (o3 : Option Value) (c k : Nat), c < cl.length → (∀ j, j < c → clG FS cl ac j) → clB FS cl ac c k → DF ad t0 k (clP cl c) w → WR cx d ad post 75 [some (.int l1), some (.int l2), o3] w := fun w l1 l2 o3 c k hc hg hb hd => x_Mo_read_75 hd.1.L ⟨fun _ => dead58 w _ _ _ c k hc hg hb hd, fun _ => ⟨fun _ => dead58 w _ _ _ c k hc hg hb hd, fun z => absurd hd.2.ne.1 z⟩⟩
  have gm0 : ∀ pp c, c < cl.length → clP cl c ≠ pp → gmP FS cl pp (c + 1) = gmP FS cl pp c := fun pp c hc hne => by
    funext v
    unfold gmP
    by_cases e : v.toNatClampNeg = c
    · rw [e]
      by_cases z : clP cl c < pp
      · rw [if_pos (Or.inl z), if_pos (Or.inl z)]
      · rw [if_neg (by omega), if_neg (by omega)]
    · by_cases z : clP cl v.toNatClampNeg < pp ∨ (clP cl v.toNatClampNeg = pp ∧ v.toNatClampNeg < c)
      · rw [if_pos z, if_pos (by omega)]
      · rw [if_neg z, if_neg (by omega)]
  -- one place
  have inner : ∀ (m c pp : Nat) (w : gSt) (o3 : Option Value), m + c = cl.length → pp < n → MTR ad n t0 FS cl ac (gmP FS cl pp c) w → (∀ j, j < cl.length → (clP cl j < pp ∨ (clP cl j = pp ∧ j < c)) → clG FS cl ac j) → (∀ v o2 o3, MTR ad n t0 FS cl ac (gmP FS cl pp cl.length) v → (∀ j, j < cl.length → clP cl j < pp + 1 → clG FS cl ac j) → WR cx d ad post 58 [some (.int (nI (pp + 1))), o2, o3] v) → WR cx d ad post 75 [some (.int (nI pp)), some (.int (nI c)), o3] w := by
    intro m
    induction m with
    | zero =>
      intro c pp w o3 hm hpp hw hg hK
      have hc : c = cl.length := by omega
      refine x_Mo_read_75 hw.1.L ⟨fun _ => ?_, fun z => ?_⟩
      · rw [nI_1]
        refine hK w _ _ (by rw [← hc]; exact hw) (fun j hj hj2 => hg j hj ?_)
        by_cases e : clP cl j = pp
        · exact Or.inr ⟨e, by omega⟩
        · exact Or.inl (by omega)
      · rw [hw.2.2.2.2.1.1] at z
        exact absurd (nI_le (by omega) (by omega)) z
    | succ m ih =>
      intro c pp w o3 hm hpp hw hg hK
      have hcl' : c < cl.length := by omega
      obtain ⟨w1, w2, w3, w4, w5, w6⟩ := id hw
      have hvc : vp_in (nI c) 1100 := vp_in_nI (by omega) (by omega)
      have hci := w5.2 c _ (cl_get hcl')
      refine x_Mo_read_75 w1.L ⟨fun z => ?_, fun _ => ⟨fun z => absurd w2.1 z, fun _ => ⟨hvc, ?_⟩⟩⟩
      · rw [w5.1] at z
        exact absurd z (nI_ge (by omega) (by omega))
      have e164 : w.2.1 (ad 164) c = nI (clP cl c) := hci.2.1
      rw [nI_clamp (by omega), e164, nI_eq (by have := hpl c hcl'; omega) (by omega), nI_1]
      refine ⟨fun hne => ?_, fun heq => ⟨hvc, ?_⟩⟩
      · refine ih (c + 1) pp w _ (by omega) hpp (by rw [gm0 pp c hcl' hne]; exact hw) (fun j hj hj2 => hg j hj ?_) hK
        by_cases e : j = c
        · subst e; omega
        · omega
      have heq : clP cl c = pp := Classical.not_not.mp heq
      have hgj : ∀ j, j < c → clG FS cl ac j := fun j hj => hg j (by omega) (Or.inl (by have := hord j c hj hcl'; omega))
      rw [w4]
      refine m_funOf (FS := FS) (nm := clN cl c) w1.L hl (fun f q hq => (w6 f q hq).1) hok (hcnm c hcl') hci.1 (fun f q hq e hfirst => ⟨_, rfl, w1.L, fun _ => ?_, fun z => absurd (nI_pos' (by have := (List.getElem?_eq_some_iff.mp hq).1; omega)) z⟩) (fun hno => ⟨_, rfl, w1.L, fun z => absurd z (by decide), fun _ => ?_⟩)
      · have hf := (List.getElem?_eq_some_iff.mp hq).1
        have et := tg_eq hq e hfirst
        have hq6 := (hs q (List.mem_of_getElem? hq)).2.1
        rw [nI_clamp (by omega), (w6 f q hq).2.1, hci.2.2.1, nI_eq (by omega) (by have := hac c hcl'; omega)]
        refine ⟨vp_in_nI (by omega) (by omega), hvc, fun hpa => ⟨hvc, hvc, ?_⟩, fun hpa => ?_⟩
        · obtain ⟨f0, q0, hq0, hc0, hrow, hnd, hoth⟩ := hO.own hcl'
          have hf0 := (List.getElem?_eq_some_iff.mp hq0).1
          have hn0 := (hs q0 (List.mem_of_getElem? hq0)).1
          obtain ⟨mm, _, hmm, eNd⟩ := cno_in q0.2.2.2 0 (w6 f0 q0 hq0).2.2.2.2.2.2 hc0
          have eNd : w.2.1 (ad 166) c = nI mm := eNd
          have e167 : w.2.1 (ad 167) c = nI (48 + f0) := by rw [hci.2.2.2, hrow]
          rw [e167, eNd, ix13, nI_clamp (by omega)]
          refine ⟨vp_in_nI (by omega) (by omega), fun t3 e3 => ?_⟩
          have F3 : gFr ad (fun c k => Nat.beq c 154 && Nat.beq k (1300 * (48 + f0) + mm)) w t3 := by rw [e3]; exact (gFr.rf w1.L).si (by simp)
          have hF3 : ∀ c k, ¬ (c = 154 ∧ k = 1300 * (48 + f0) + mm) → (Nat.beq c 154 && Nat.beq k (1300 * (48 + f0) + mm)) = false := fun c k z => Bool.eq_false_iff.mpr (fun q => z (by simpa using q))
          have ggood : clG FS cl ac c := ⟨f, q, hq, e, hpa, et.symm⟩
          refine ih (c + 1) pp t3 _ (by omega) hpp ⟨w1.tr (F3.mo (fun c k z => ?_)), ⟨by rw [F3.i 144 3 (hF3 _ _ (by omega))]; exact w2.1, by rw [F3.i 144 4 (hF3 _ _ (by omega))]; exact w2.2.1, w2.2.2.fr F3 (hF3 _ _ (by omega))⟩, by rw [F3.i 144 2 (hF3 _ _ (by omega))]; exact w3, by rw [F3.i 144 23 (hF3 _ _ (by omega))]; exact w4, w5.fr F3 (fun c k z => hF3 _ _ (by omega)), fun f' q' hq' => ?_⟩ (fun j hj hj2 => ?_) hK
          · rw [Bool.and_eq_true, Nat.beq_eq, Nat.beq_eq] at z
            rw [mfuP_i]
            omega
          · by_cases ef : f' = f0
            · subst ef
              rw [hq0] at hq'
              have e' := Option.some.inj hq'
              subst e'
              obtain ⟨m1, m2, m3, m4, m5, m6, m7⟩ := w6 f' q0 hq0
              have hac0 := fo_ac_le q0.2.2.2
              refine ⟨by rw [F3.j 169 _ (hF3 _ _ (by omega))]; exact m1, by rw [F3.i 170 _ (hF3 _ _ (by omega))]; exact m2, by rw [F3.i 149 _ (hF3 _ _ (by omega))]; exact m3, by rw [F3.i 148 _ (hF3 _ _ (by omega))]; exact m4, by rw [F3.i 156 _ (hF3 _ _ (by omega))]; exact m5, ?_, fo_cno_cg _ 0 m7 (fun z _ _ => F3.i 166 _ (hF3 _ _ (by omega)))⟩
              have hset := fo_m_set (K := mro w ad 151 (48 + f')) (A := mro w ad 152 (48 + f')) (B := mro w ad 153 (48 + f')) (C := mro w ad 154 (48 + f')) (C' := mro t3 ad 154 (48 + f')) (G := mro w ad 155 (48 + f')) (N := fo_ac q0.2.2.2) (c := c) (m := mm) (g := gmP FS cl pp c) (g' := gmP FS cl pp (c + 1)) (y := nI f) (by omega) eNd (fun i hi => F3.i 154 _ (hF3 _ _ (by omega))) (by show t3.2.1 (ad 154) _ = _; rw [e3, g_rd_at]) (fun v hv => ?_) (fun v hv => ?_) q0.2.2.2 0 (by omega) m6 m7 (Or.inl ⟨hc0, hnd⟩)
              · refine fo_m_cg (fun i hi => F3.i 155 _ (hF3 _ _ (by omega))) (Nat.le_refl _) _ 0 hset (fun j j1 j2 => ⟨F3.i 151 _ (hF3 _ _ (by omega)), F3.i 152 _ (hF3 _ _ (by omega)), F3.i 153 _ (hF3 _ _ (by omega)), rfl⟩)
              · unfold gmP
                by_cases z : clP cl v.toNatClampNeg < pp ∨ (clP cl v.toNatClampNeg = pp ∧ v.toNatClampNeg < c)
                · rw [if_pos z, if_pos (by omega)]
                · rw [if_neg z, if_neg (by omega)]
              · unfold gmP
                rw [hv, if_pos (by omega)]
                show nI (tgF FS (clN cl v.toNatClampNeg)) = nI f
                rw [hv, et]
            · have hq'l := (List.getElem?_eq_some_iff.mp hq').1
              have hn' := (hs q' (List.mem_of_getElem? hq')).1
              have g1 := (w6 f' q' hq').fr hn' F3 (fun c k z => hF3 _ _ (by omega)) (fun c _ => F3.i 166 c (hF3 _ _ (by omega)))
              obtain ⟨m1, m2, m3, m4, m5, m6, m7⟩ := g1
              refine ⟨m1, m2, m3, m4, m5, ?_, m7⟩
              rw [fo_mv_cg (g := gmP FS cl pp c) q'.2.2.2 (fun v hv => ?_)]
              · exact m6
              · have hvc : v.toNatClampNeg ≠ c := fun z => hoth f' q' hq' ef (by rw [← z]; exact hv)
                unfold gmP
                by_cases z : clP cl v.toNatClampNeg < pp ∨ (clP cl v.toNatClampNeg = pp ∧ v.toNatClampNeg < c)
                · rw [if_pos z, if_pos (by omega)]
                · rw [if_neg z, if_neg (by omega)]
          · by_cases ej : j = c
            · rw [ej]; exact ggood
            · exact hg j hj (by omega)
        · refine m_fail (c := 7) (p := pp) w1.L (by decide) w2.1 w2.2.2 (fun v Fv hv _ => ⟨rfl, Fv.L, dead75 v _ _ _ c 7 hcl' hgj (Or.inr ⟨rfl, f, q, hq, e, hpa, et.symm⟩) ?_⟩)
          rw [heq]
          exact DF.of w1 Fv hv
      · refine m_fail (c := 6) (p := pp) w1.L (by decide) w2.1 w2.2.2 (fun v Fv hv _ => ⟨rfl, Fv.L, dead75 v _ _ _ c 6 hcl' hgj (Or.inl ⟨rfl, hno⟩) ?_⟩)
        rw [heq]
        exact DF.of w1 Fv hv
  -- place by place
  have outer : ∀ (m pp : Nat) (w : gSt) (o2 o3 : Option Value), m + pp = n → MTR ad n t0 FS cl ac (gmP FS cl pp 0) w → (∀ j, j < cl.length → clP cl j < pp → clG FS cl ac j) → WR cx d ad post 58 [some (.int (nI pp)), o2, o3] w := by
    intro m
    induction m with
    | zero =>
      intro pp w o2 o3 hm hw hg
      obtain ⟨w1, w2, w3, w4, w5, w6⟩ := hw
      refine x_Mo_read_58 w1.L ⟨fun _ => ⟨fun _ t1 e1 => ?_, fun z => absurd (by rw [w2.1]; decide) z⟩, fun z => ?_⟩
      · rw [w4] at e1
        have F1 : gFr ad (fun c k => Nat.beq c 144 && Nat.beq k 11) w t1 := by rw [e1]; exact (gFr.rf w1.L).si rfl
        have hF1 : ∀ c k, ¬ (c = 144 ∧ k = 11) → (Nat.beq c 144 && Nat.beq k 11) = false := fun c k z => Bool.eq_false_iff.mpr (fun q => z (by simpa using q))
        refine kG (fun c hc => hg c hc (by have := hpl c hc; omega)) t1 _ _ ((w1.mo (fun c k z => by rw [z]; rfl)).tr (F1.mo (fun c k z => by rw [z, Bool.or_true]))) ⟨by rw [F1.i 144 3 (hF1 _ _ (by omega))]; exact w2.1, by rw [F1.i 144 4 (hF1 _ _ (by omega))]; exact w2.2.1, w2.2.2.fr F1 (hF1 _ _ (by omega))⟩ (by rw [F1.i 144 23 (hF1 _ _ (by omega))]; exact w4) (by rw [e1, g_rd_at]) (fun f q hq => ?_)
        have hn' := (hs q (List.mem_of_getElem? hq)).1
        obtain ⟨m1, m2, m3, m4, m5, m6, m7⟩ := (w6 f q hq).fr hn' F1 (fun c k z => hF1 _ _ (by omega)) (fun c _ => F1.i 166 c (hF1 _ _ (by omega)))
        refine ⟨m1, m2, m3, m4, m5, ?_, m7⟩
        rw [fo_mv_cg (g := gmP FS cl pp 0) q.2.2.2 (fun v hv => ?_)]
        · exact m6
        · have := hO.pc q (List.mem_of_getElem? hq) _ hv
          unfold gmP
          rw [if_pos (Or.inl (by have := hpl _ this; omega))]
      · rw [w3] at z
        exact absurd (nI_le (by omega) (by omega)) z
    | succ m ih =>
      intro pp w o2 o3 hm hw hg
      refine x_Mo_read_58 hw.1.L ⟨fun z => ?_, fun _ => ⟨fun z => absurd hw.2.1.1 z, fun _ => ?_⟩⟩
      · rw [hw.2.2.1] at z
        exact absurd z (nI_ge (by omega) (by omega))
      · refine inner cl.length 0 pp w _ (by omega) (by omega) hw (fun j hj hj2 => hg j hj (by omega)) (fun v o2 o3 hv hgv => ih (pp + 1) v _ _ (by omega) ?_ hgv)
        obtain ⟨v1, v2, v3, v4, v5, v6⟩ := hv
        refine ⟨v1, v2, v3, v4, v5, fun f q hq => ?_⟩
        obtain ⟨m1, m2, m3, m4, m5, m6, m7⟩ := v6 f q hq
        refine ⟨m1, m2, m3, m4, m5, ?_, m7⟩
        rw [fo_mv_cg (g := gmP FS cl pp cl.length) q.2.2.2 (fun x hx => ?_)]
        · exact m6
        · have := hO.pc q (List.mem_of_getElem? hq) _ hx
          unfold gmP
          by_cases z : clP cl x.toNatClampNeg < pp + 1
          · rw [if_pos (Or.inl z), if_pos (by omega)]
          · rw [if_neg (by omega), if_neg (by omega)]
  refine x_Mo_read_35 h.L ⟨fun z => absurd h.2.2.1.1.1 z, fun _ => ?_⟩
  refine m_tok h.L h.X ha h.2.2.1 (fun u1 F1 H1 => ⟨_, rfl, F1.L, fun _ => ?_, fun z => absurd (kyes (j := 0) hend) z⟩) (fun u1 F1 h23 H1 => by omega)
  have h1 := h.tm hs F1 H1.cu
  obtain ⟨g1, g2, g3, g4, g5, g6⟩ := h1
  refine outer n 0 u1 _ _ (by omega) ⟨g1, H1.1, (h.X.fr F1 (bool_r tmP_i (by omega)) (fun k => bool_r tmP_i (by omega))).2.1, g4, g5, fun f q hq => ?_⟩ (fun j hj hj2 => by omega)
  obtain ⟨m1, m2, m3, m4, m5, m6, m7⟩ := g6 f q hq
  refine ⟨m1, m2, m3, m4, m5, ?_, m7⟩
  rw [fo_mv_cg (g := fun _ => 0) q.2.2.2 (fun x hx => ?_)]
  · exact m6
  · unfold gmP
    rw [if_neg (by omega)]
end MTG
