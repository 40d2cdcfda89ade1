/-! THE ORDER: the model's looking -/
def cqN (l : List (Int32 × Int32)) : List Nat := (l.filter (fun q => decide (q.1 = 15))).map (fun q => q.2.toNatClampNeg)
theorem cqN_q : ∀ F : Fo, cqN (fo_q F) = cq F
  | .inner z k v a b => by
    have ha := cqN_q a
    have hb' := cqN_q b
    unfold cqN cq at *
    unfold fo_q fo_g
    rw [List.filter_append, List.map_append, ha, List.filter_cons]
    by_cases e : k = 15
    · rw [if_pos (decide_eq_true e), if_pos e, List.map_cons, hb', List.map_append, List.map_append, List.append_assoc]
      rfl
    · rw [if_neg (by simp [e]), if_neg e, hb', List.append_nil, List.map_append]
  | .leaf => rfl
def stp (cs : Nat → List Nat) (k : Nat) (s : List Nat × List Nat) (q : Int32 × Int32) : List Nat × List Nat := if q.1 = 15 then dfs cs k q.2.toNatClampNeg s else s
theorem stp_fold {cs : Nat → List Nat} {k : Nat} : ∀ (l : List (Int32 × Int32)) (s : List Nat × List Nat), l.foldl (stp cs k) s = (cqN l).foldl (fun s g => dfs cs k g s) s
  | [], s => rfl
  | q :: l, s => by
    rw [List.foldl_cons, stp_fold l]
    unfold cqN stp
    rw [List.filter_cons]
    by_cases e : q.1 = 15
    · rw [if_pos e, if_pos (decide_eq_true e), List.map_cons, List.foldl_cons]
    · rw [if_neg e, if_neg (by simp [e])]
theorem dfs_new {cs : Nat → List Nat} {k f : Nat} {s : List Nat × List Nat} (h : f ∉ s.1) : dfs cs (k + 1) f s = (((cs f).foldl (fun s g => dfs cs k g s) (f :: s.1, s.2)).1, ((cs f).foldl (fun s g => dfs cs k g s) (f :: s.1, s.2)).2 ++ [f]) := by
  show (if f ∈ s.1 then s else _) = _
  rw [if_neg h]
theorem dfs_mono {cs : Nat → List Nat} : ∀ (k f : Nat) (s : List Nat × List Nat) (x : Nat), x ∈ s.1 → x ∈ (dfs cs k f s).1
  | 0, f, s, x, h => h
  | k + 1, f, s, x, h => by
    unfold dfs
    split
    · exact h
    · have fold : ∀ (l : List Nat) (r : List Nat × List Nat), x ∈ r.1 → x ∈ (l.foldl (fun s g => dfs cs k g s) r).1 := by
        intro l
        induction l with
        | nil => exact fun r h => h
        | cons g l ih => exact fun r h => ih _ (dfs_mono k g r x h)
      exact fold (cs f) _ (List.mem_cons_of_mem _ h)
theorem dfs_self {cs : Nat → List Nat} {k f : Nat} {s : List Nat × List Nat} : f ∈ (dfs cs (k + 1) f s).1 := by
  unfold dfs
  split
  · assumption
  · have fold : ∀ (l : List Nat) (r : List Nat × List Nat), f ∈ r.1 → f ∈ (l.foldl (fun s g => dfs cs k g s) r).1 := by
      intro l
      induction l with
      | nil => exact fun r h => h
      | cons g l ih => exact fun r h => ih _ (dfs_mono k g r f h)
    exact fold (cs f) _ List.mem_cons_self
/-- once is enough -/
theorem fold_once {cs : Nat → List Nat} {k : Nat} : ∀ (L c0 : List Nat) (s0 : List Nat × List Nat), (∀ x ∈ L, x < 24) → c0.Nodup → (∀ x ∈ c0, x < 24) → (L.foldl (fun cs g => gaA g cs) c0).foldl (fun s g => dfs cs k g s) s0 = L.foldl (fun s g => dfs cs k g s) (c0.foldl (fun s g => dfs cs k g s) s0)
  | [], c0, s0, _, _, _ => rfl
  | g :: L, c0, s0, hL, hd, h => by
    obtain ⟨a1, a2, a3, a4, a5⟩ := gaA_ok (g := g) hd h (hL g List.mem_cons_self)
    rw [List.foldl_cons, List.foldl_cons, fold_once L (gaA g c0) s0 (fun x hx => hL x (List.mem_cons_of_mem _ hx)) a1 a2]
    congr 1
    by_cases e : g ∈ c0
    · rw [a5 e]
      cases k with
      | zero => rfl
      | succ k =>
        have mem : ∀ (l : List Nat) (r : List Nat × List Nat), (g ∈ l ∨ g ∈ r.1) → g ∈ (l.foldl (fun s g => dfs cs (k + 1) g s) r).1 := by
          intro l
          induction l with
          | nil => exact fun r h => h.elim (fun z => by cases z) id
          | cons y l ih =>
            intro r hh
            refine ih _ ?_
            rcases hh with hh | hh
            · rcases List.mem_cons.mp hh with hh | hh
              · rw [← hh]; exact Or.inr dfs_self
              · exact Or.inl hh
            · exact Or.inr (dfs_mono _ _ _ _ hh)
        rw [dfs_in (mem c0 s0 (Or.inl e))]
    · rw [a4 e, List.foldl_append]
      rfl
theorem dfs_dup {n : Nat} {cs cd : Nat → List Nat} (hn : n ≤ 24) (hcd : ∀ f, f < n → ∀ g ∈ cd f, g < n) (he : ∀ f, f < n → cs f = (cd f).foldl (fun cs g => gaA g cs) []) : ∀ (k f : Nat) (s : List Nat × List Nat), f < n → dfs cd k f s = dfs cs k f s
  | 0, f, s, _ => rfl
  | k + 1, f, s, hf => by
    have fold : ∀ (l : List Nat) (r : List Nat × List Nat), (∀ g ∈ l, g < n) → l.foldl (fun s g => dfs cd k g s) r = l.foldl (fun s g => dfs cs k g s) r := by
      intro l
      induction l with
      | nil => exact fun r _ => rfl
      | cons g l ih =>
        intro r hl
        rw [List.foldl_cons, List.foldl_cons, dfs_dup hn hcd he k g r (hl g List.mem_cons_self)]
        exact ih _ (fun x hx => hl x (List.mem_cons_of_mem _ hx))
    unfold dfs
    rw [fold (cd f) _ (hcd f hf), he f hf, fold_once (cd f) [] _ (fun x hx => by have := hcd f hf x hx; omega) List.nodup_nil (fun x hx => (by cases hx))]
    rfl
theorem dT {n : Nat} {cs : Nat → List Nat} (hcs : ∀ f, f < n → ∀ g ∈ cs f, g < n) {k f : Nat} {s : List Nat × List Nat} (hf : f < n) (hS : SIv n s) (hk : n ≤ k + s.1.length) : DRes n cs (fun _ _ => true) s (dfs cs k f s) ∧ f ∈ (dfs cs k f s).1 :=
  dfs_all hcs (fun _ _ _ _ => rfl) (fun _ _ _ _ _ _ => rfl) k f s hf hS hk (fun _ _ _ => rfl) (fun _ _ _ _ _ => Or.inl rfl)
def lmP (c k : Nat) : Bool := (Nat.ble 173 c && Nat.ble c 176) || (Nat.beq c 144 && Nat.beq k 50)
theorem lmP_i {c k : Nat} : lmP c k = true ↔ (173 ≤ c ∧ c ≤ 176) ∨ (c = 144 ∧ k = 50) := by
  unfold lmP
  simp only [Bool.or_eq_true, Bool.and_eq_true, Nat.beq_eq, Nat.ble_eq]
def LoM (ad : Nat → Nat) (n : Nat) (s : List Nat × List Nat) (t : gSt) : Prop := (∀ g, g < n → t.2.1 (ad 174) g = b32 (decide (g ∈ s.1))) ∧ t.2.1 (ad 144) 50 = nI s.2.length ∧ ∀ (j c : Nat), s.2[j]? = some c → t.2.1 (ad 173) j = nI c
section ML
variable {cx : gCx} {d : Nat} {ad : Nat → Nat} {t0 : gSt} {n : Nat} {nd : Nat → List (Int32 × Int32)} {post : Option Value → gSt → Prop} {l1 : Int32}
abbrev W23 (cx : gCx) (d : Nat) (ad : Nat → Nat) (post : Option Value → gSt → Prop) (l1 l2 : Int32) (o3 o4 o5 : Option Value) (t : gSt) : Prop := g_W cx (g_E cx d) mt_Mo_lookFromOne post (23, [some (.ref (ad 144)), some (.int l1), some (.int l2), o3, o4, o5], [], t, 0, 0)
theorem lo_loop (hn : n ≤ 24) (hN : ∀ g, g < n → nodR t0 ad g (nd g) ∧ ∀ q ∈ nd g, q.1 = 15 → ∃ h, q.2 = nI h ∧ h < n) :
    ∀ (k rem i f m : Nat) (s : List Nat × List Nat) (t : gSt) (o3 o4 o5 : Option Value), f < n → f ∈ s.1 → f ∉ s.2 → SIv n s → n ≤ k + s.1.length → i + rem = (nd f).length → gFr ad lmP t0 t → LoM ad n s t → t.2.1 (ad 175) m = nI f → t.2.1 (ad 176) m = nI i → m + 1 ≤ s.1.length →
      (∀ u o3 o4 o5, gFr ad lmP t0 u → LoM ad n ((((nd f).drop i).foldl (stp (fun g => cqN (nd g)) k) s).1, (((nd f).drop i).foldl (stp (fun g => cqN (nd g)) k) s).2 ++ [f]) u → (∀ j, j < m → u.2.1 (ad 175) j = t.2.1 (ad 175) j ∧ u.2.1 (ad 176) j = t.2.1 (ad 176) j) → W23 cx d ad post l1 (nI m) o3 o4 o5 u) → W23 cx d ad post l1 (nI (m + 1)) o3 o4 o5 t := by
  have hcs : ∀ f, f < n → ∀ g ∈ cqN (nd f), g < n := fun f hf g hg => by
    unfold cqN at hg
    obtain ⟨q, hq, e⟩ := List.mem_map.mp hg
    obtain ⟨hq1, hq2⟩ := List.mem_filter.mp hq
    obtain ⟨h, h1, h2⟩ := (hN f hf).2 q hq1 (of_decide_eq_true hq2)
    rw [← e, h1, nI_clamp (by omega)]
    exact h2
  intro k
  induction k with
  | zero =>
    intro rem
    induction rem with
    | zero =>
      intro i f m s t o3 o4 o5 hf hfs hf2 hS hk hi hF hL h5 h6 hm hK
      have hlen := (hN f hf).1.2.1
      have hs1 := pig n s.1 hS.1 hS.2.1
      have hdrop : (nd f).drop i = [] := List.drop_eq_nil_of_le (by omega)
      rw [hdrop] at hK
      have hnd : (s.2 ++ [f]).Nodup := by
        rw [List.nodup_append]
        refine ⟨hS.2.2.1, by simp, fun a ha b hb' e2 => ?_⟩
        rw [List.mem_singleton.mp hb'] at e2
        rw [e2] at ha
        exact hf2 ha
      have hs2 := pig n (s.2 ++ [f]) hnd (fun x hx => by
        rcases List.mem_append.mp hx with hx | hx
        · exact hS.2.1 x (hS.2.2.2 x hx)
        · rw [List.mem_singleton.mp hx]; exact hf)
      rw [List.length_append] at hs2
      simp only [List.length_cons, List.length_nil] at hs2
      have e148 : t.2.1 (ad 148) f = nI (nd f).length := by rw [hF.i 148 f (bool_r lmP_i (by omega))]; exact (hN f hf).1.1
      refine x_Mo_lookFromOne_23 hF.L ⟨fun z => absurd z (nI_nle (by omega) (by omega)), fun _ => ?_⟩
      rw [nI_pred, nI_clamp (by omega), h5, h6]
      refine ⟨vp_in_nI (by omega) (by omega), fun x1 e1 => ⟨vp_in_nI (by omega) (by omega), fun x2 e2 => ?_⟩⟩
      rw [e1, e2, nI_clamp (by omega), e148, nI_eq (by omega) (by omega), hL.2.1, nI_clamp (by omega)]
      refine ⟨vp_in_nI (by omega) (by omega), fun z => by omega, fun _ => ⟨vp_in_nI (by omega) (by omega), fun t8 e8 t9 e9 => ?_⟩⟩
      rw [nI_clamp (n := s.2.length) (by omega)] at e8
      have q50 : t8.2.1 (ad 144) 50 = nI s.2.length := by rw [e8, g_rd_ne (hF.L.ne 144 173 (by decide) (by decide) (by decide))]; exact hL.2.1
      rw [q50, nI_1] at e9
      have F9 : gFr ad lmP t0 t9 := by rw [e9, e8]; exact (hF.si rfl).si rfl
      have i9 : ∀ c j, c < 199 → c ≠ 144 → c ≠ 173 → t9.2.1 (ad c) j = t.2.1 (ad c) j := fun c j hc h1 h2 => by rw [e9, g_rd_ne (hF.L.ne c 144 hc (by decide) h1), e8, g_rd_ne (hF.L.ne c 173 hc (by decide) h2)]
      have := hK t9 (some (.int (nI f))) (some (.int (nI i))) o5 F9 ⟨fun g hg => by rw [i9 174 g (by decide) (by decide) (by decide)]; exact hL.1 g hg, by rw [e9, g_rd_at]; show _ = nI (s.2 ++ [f]).length; rw [List.length_append]; rfl, fun j c hj => ?_⟩ (fun j _ => ⟨i9 175 j (by decide) (by decide) (by decide), i9 176 j (by decide) (by decide) (by decide)⟩)
      · rw [nI_m1]
        exact this
      · have hj : (s.2 ++ [f])[j]? = some c := hj
        rw [e9, g_rd_ne (hF.L.ne 173 144 (by decide) (by decide) (by decide)), e8]
        by_cases hjl : j < s.2.length
        · rw [List.getElem?_append_left hjl] at hj
          rw [g_rd_k (by omega)]
          exact hL.2.2 j c hj
        · rw [List.getElem?_append_right (by omega)] at hj
          have hj0 : j - s.2.length = 0 := by
            by_cases z : j - s.2.length = 0
            · exact z
            · rw [List.getElem?_eq_none (by simp; omega)] at hj; cases hj
          rw [hj0] at hj
          have hj : f = c := by simpa using hj
          rw [show j = s.2.length by omega, g_rd_at, hj]
    | succ rem ih =>
      intro i f m s t o3 o4 o5 hf hfs hf2 hS hk hi hF hL h5 h6 hm hK
      have hlen := (hN f hf).1.2.1
      have hs1 := pig n s.1 hS.1 hS.2.1
      obtain ⟨q, hq⟩ : ∃ q, (nd f)[i]? = some q := ⟨_, List.getElem?_eq_getElem (by omega)⟩
      have hdrop : (nd f).drop i = q :: (nd f).drop (i + 1) := by
        rw [List.drop_eq_getElem_cons (by omega : i < (nd f).length)]
        congr 1
        exact (List.getElem?_eq_some_iff.mp hq).2
      rw [hdrop, List.foldl_cons] at hK
      have e148 : t.2.1 (ad 148) f = nI (nd f).length := by rw [hF.i 148 f (bool_r lmP_i (by omega))]; exact (hN f hf).1.1
      refine x_Mo_lookFromOne_23 hF.L ⟨fun z => absurd z (nI_nle (by omega) (by omega)), fun _ => ?_⟩
      rw [nI_pred, nI_clamp (by omega), h5, h6]
      refine ⟨vp_in_nI (by omega) (by omega), fun x1 e1 => ⟨vp_in_nI (by omega) (by omega), fun x2 e2 => ?_⟩⟩
      rw [e1, e2, nI_clamp (by omega), e148, nI_eq (by omega) (by omega), ix13, nI_clamp (by omega), nI_1]
      refine ⟨vp_in_nI (by omega) (by omega), fun _ => ⟨vp_in_nI (by omega) (by omega), vp_in_nI (by omega) (by omega), fun t3 e3 => ⟨vp_in_nI (by omega) (by omega), ?_⟩⟩, fun z => by omega⟩
      have F3 : gFr ad lmP t0 t3 := by rw [e3]; exact hF.si rfl
      have i3 : ∀ c j, c < 199 → c ≠ 176 → t3.2.1 (ad c) j = t.2.1 (ad c) j := fun c j hc h1 => by rw [e3, g_rd_ne (hF.L.ne c 176 hc (by decide) h1)]
      have L3 : LoM ad n s t3 := ⟨fun g hg => by rw [i3 174 g (by decide) (by decide)]; exact hL.1 g hg, by rw [i3 144 50 (by decide) (by decide)]; exact hL.2.1, fun j c hj => by rw [i3 173 j (by decide) (by decide)]; exact hL.2.2 j c hj⟩
      have nq := (hN f hf).1.2.2 i q hq
      have x151 : t3.2.1 (ad 151) (1300 * f + i) = q.1 := by rw [F3.i 151 _ (bool_r lmP_i (by omega))]; exact nq.1
      have k3 : ∀ j, j < m → t3.2.1 (ad 175) j = t.2.1 (ad 175) j ∧ t3.2.1 (ad 176) j = t.2.1 (ad 176) j := fun j hj => ⟨i3 175 j (by decide) (by decide), by rw [e3, g_rd_k (by omega)]⟩
      have next : stp (fun g => cqN (nd g)) 0 s q = s → ∀ o3 o4 o5, W23 cx d ad post l1 (nI (m + 1)) o3 o4 o5 t3 := fun es o3 o4 o5 => by
        rw [es] at hK
        refine ih (i + 1) f m s t3 o3 o4 o5 hf hfs hf2 hS hk (by omega) F3 L3 (by rw [i3 175 m (by decide) (by decide)]; exact h5) (by rw [e3, g_rd_at]) hm (fun u o3 o4 o5 Fu Lu hu => hK u o3 o4 o5 Fu Lu (fun j hj => ⟨(hu j hj).1.trans (k3 j hj).1, (hu j hj).2.trans (k3 j hj).2⟩))
      have es : stp (fun g => cqN (nd g)) 0 s q = s := by unfold stp; split <;> rfl
      rw [x151]
      refine ⟨fun _ => next es _ _ _, fun h15 => ⟨vp_in_nI (by omega) (by omega), fun x4 e4 => ?_⟩⟩
      have h15 : q.1 = 15 := Classical.not_not.mp h15
      obtain ⟨h, eh, hh⟩ := (hN f hf).2 q (List.mem_of_getElem? hq) h15
      have x154 : t3.2.1 (ad 154) (1300 * f + i) = nI h := by rw [F3.i 154 _ (bool_r lmP_i (by omega)), nq.2 h15, eh]
      rw [x154] at e4
      rw [e4, nI_clamp (by omega), L3.1 h hh]
      have hin : h ∈ s.1 := full hS.1 hS.2.1 (by omega) hh
      refine ⟨fun z => absurd z (nI_pos (by omega)), fun _ => ⟨vp_in_nI (by omega) (by omega), fun _ => next es _ _ _, fun z => absurd (by rw [decide_eq_true hin]; decide) z⟩⟩
  | succ k ihk =>
    intro rem
    induction rem with
    | zero =>
      intro i f m s t o3 o4 o5 hf hfs hf2 hS hk hi hF hL h5 h6 hm hK
      have hlen := (hN f hf).1.2.1
      have hs1 := pig n s.1 hS.1 hS.2.1
      have hdrop : (nd f).drop i = [] := List.drop_eq_nil_of_le (by omega)
      rw [hdrop] at hK
      have hnd : (s.2 ++ [f]).Nodup := by
        rw [List.nodup_append]
        refine ⟨hS.2.2.1, by simp, fun a ha b hb' e2 => ?_⟩
        rw [List.mem_singleton.mp hb'] at e2
        rw [e2] at ha
        exact hf2 ha
      have hs2 := pig n (s.2 ++ [f]) hnd (fun x hx => by
        rcases List.mem_append.mp hx with hx | hx
        · exact hS.2.1 x (hS.2.2.2 x hx)
        · rw [List.mem_singleton.mp hx]; exact hf)
      rw [List.length_append] at hs2
      simp only [List.length_cons, List.length_nil] at hs2
      have e148 : t.2.1 (ad 148) f = nI (nd f).length := by rw [hF.i 148 f (bool_r lmP_i (by omega))]; exact (hN f hf).1.1
      refine x_Mo_lookFromOne_23 hF.L ⟨fun z => absurd z (nI_nle (by omega) (by omega)), fun _ => ?_⟩
      rw [nI_pred, nI_clamp (by omega), h5, h6]
      refine ⟨vp_in_nI (by omega) (by omega), fun x1 e1 => ⟨vp_in_nI (by omega) (by omega), fun x2 e2 => ?_⟩⟩
      rw [e1, e2, nI_clamp (by omega), e148, nI_eq (by omega) (by omega), hL.2.1, nI_clamp (by omega)]
      refine ⟨vp_in_nI (by omega) (by omega), fun z => by omega, fun _ => ⟨vp_in_nI (by omega) (by omega), fun t8 e8 t9 e9 => ?_⟩⟩
      rw [nI_clamp (n := s.2.length) (by omega)] at e8
      have q50 : t8.2.1 (ad 144) 50 = nI s.2.length := by rw [e8, g_rd_ne (hF.L.ne 144 173 (by decide) (by decide) (by decide))]; exact hL.2.1
      rw [q50, nI_1] at e9
      have F9 : gFr ad lmP t0 t9 := by rw [e9, e8]; exact (hF.si rfl).si rfl
      have i9 : ∀ c j, c < 199 → c ≠ 144 → c ≠ 173 → t9.2.1 (ad c) j = t.2.1 (ad c) j := fun c j hc h1 h2 => by rw [e9, g_rd_ne (hF.L.ne c 144 hc (by decide) h1), e8, g_rd_ne (hF.L.ne c 173 hc (by decide) h2)]
      have := hK t9 (some (.int (nI f))) (some (.int (nI i))) o5 F9 ⟨fun g hg => by rw [i9 174 g (by decide) (by decide) (by decide)]; exact hL.1 g hg, by rw [e9, g_rd_at]; show _ = nI (s.2 ++ [f]).length; rw [List.length_append]; rfl, fun j c hj => ?_⟩ (fun j _ => ⟨i9 175 j (by decide) (by decide) (by decide), i9 176 j (by decide) (by decide) (by decide)⟩)
      · rw [nI_m1]
        exact this
      · have hj : (s.2 ++ [f])[j]? = some c := hj
        rw [e9, g_rd_ne (hF.L.ne 173 144 (by decide) (by decide) (by decide)), e8]
        by_cases hjl : j < s.2.length
        · rw [List.getElem?_append_left hjl] at hj
          rw [g_rd_k (by omega)]
          exact hL.2.2 j c hj
        · rw [List.getElem?_append_right (by omega)] at hj
          have hj0 : j - s.2.length = 0 := by
            by_cases z : j - s.2.length = 0
            · exact z
            · rw [List.getElem?_eq_none (by simp; omega)] at hj; cases hj
          rw [hj0] at hj
          have hj : f = c := by simpa using hj
          rw [show j = s.2.length by omega, g_rd_at, hj]
    | succ rem ih =>
      intro i f m s t o3 o4 o5 hf hfs hf2 hS hk hi hF hL h5 h6 hm hK
      have hlen := (hN f hf).1.2.1
      have hs1 := pig n s.1 hS.1 hS.2.1
      obtain ⟨q, hq⟩ : ∃ q, (nd f)[i]? = some q := ⟨_, List.getElem?_eq_getElem (by omega)⟩
      have hdrop : (nd f).drop i = q :: (nd f).drop (i + 1) := by
        rw [List.drop_eq_getElem_cons (by omega : i < (nd f).length)]
        congr 1
        exact (List.getElem?_eq_some_iff.mp hq).2
      rw [hdrop, List.foldl_cons] at hK
      have e148 : t.2.1 (ad 148) f = nI (nd f).length := by rw [hF.i 148 f (bool_r lmP_i (by omega))]; exact (hN f hf).1.1
      refine x_Mo_lookFromOne_23 hF.L ⟨fun z => absurd z (nI_nle (by omega) (by omega)), fun _ => ?_⟩
      rw [nI_pred, nI_clamp (by omega), h5, h6]
      refine ⟨vp_in_nI (by omega) (by omega), fun x1 e1 => ⟨vp_in_nI (by omega) (by omega), fun x2 e2 => ?_⟩⟩
      rw [e1, e2, nI_clamp (by omega), e148, nI_eq (by omega) (by omega), ix13, nI_clamp (by omega), nI_1]
      refine ⟨vp_in_nI (by omega) (by omega), fun _ => ⟨vp_in_nI (by omega) (by omega), vp_in_nI (by omega) (by omega), fun t3 e3 => ⟨vp_in_nI (by omega) (by omega), ?_⟩⟩, fun z => by omega⟩
      have F3 : gFr ad lmP t0 t3 := by rw [e3]; exact hF.si rfl
      have i3 : ∀ c j, c < 199 → c ≠ 176 → t3.2.1 (ad c) j = t.2.1 (ad c) j := fun c j hc h1 => by rw [e3, g_rd_ne (hF.L.ne c 176 hc (by decide) h1)]
      have L3 : LoM ad n s t3 := ⟨fun g hg => by rw [i3 174 g (by decide) (by decide)]; exact hL.1 g hg, by rw [i3 144 50 (by decide) (by decide)]; exact hL.2.1, fun j c hj => by rw [i3 173 j (by decide) (by decide)]; exact hL.2.2 j c hj⟩
      have nq := (hN f hf).1.2.2 i q hq
      have x151 : t3.2.1 (ad 151) (1300 * f + i) = q.1 := by rw [F3.i 151 _ (bool_r lmP_i (by omega))]; exact nq.1
      have k3 : ∀ j, j < m → t3.2.1 (ad 175) j = t.2.1 (ad 175) j ∧ t3.2.1 (ad 176) j = t.2.1 (ad 176) j := fun j hj => ⟨i3 175 j (by decide) (by decide), by rw [e3, g_rd_k (by omega)]⟩
      have next : stp (fun g => cqN (nd g)) (k + 1) s q = s → ∀ o3 o4 o5, W23 cx d ad post l1 (nI (m + 1)) o3 o4 o5 t3 := fun es o3 o4 o5 => by
        rw [es] at hK
        refine ih (i + 1) f m s t3 o3 o4 o5 hf hfs hf2 hS hk (by omega) F3 L3 (by rw [i3 175 m (by decide) (by decide)]; exact h5) (by rw [e3, g_rd_at]) hm (fun u o3 o4 o5 Fu Lu hu => hK u o3 o4 o5 Fu Lu (fun j hj => ⟨(hu j hj).1.trans (k3 j hj).1, (hu j hj).2.trans (k3 j hj).2⟩))
      rw [x151]
      refine ⟨fun h15 => next (by unfold stp; rw [if_neg h15]) _ _ _, fun h15 => ⟨vp_in_nI (by omega) (by omega), fun x4 e4 => ?_⟩⟩
      have h15 : q.1 = 15 := Classical.not_not.mp h15
      obtain ⟨h, eh, hh⟩ := (hN f hf).2 q (List.mem_of_getElem? hq) h15
      have x154 : t3.2.1 (ad 154) (1300 * f + i) = nI h := by rw [F3.i 154 _ (bool_r lmP_i (by omega)), nq.2 h15, eh]
      have ecl : q.2.toNatClampNeg = h := by rw [eh, nI_clamp (by omega)]
      rw [x154] at e4
      rw [e4, nI_clamp (by omega), L3.1 h hh]
      refine ⟨fun z => absurd z (nI_pos (by omega)), fun _ => ⟨vp_in_nI (by omega) (by omega), fun z => ?_, fun z => ?_⟩⟩
      · have hin : h ∈ s.1 := Classical.byContradiction (fun y => z (by rw [decide_eq_false y]; rfl))
        exact next (by unfold stp; rw [if_pos h15, ecl, dfs_in hin]) _ _ _
      · have hnin : h ∉ s.1 := fun y => by
          rw [decide_eq_true y] at z
          exact z (by decide)
        refine ⟨vp_in_nI (by omega) (by omega), fun t5 e5 => ?_⟩
        have hlt : s.1.length < n := by
          have := pig n (h :: s.1) (List.nodup_cons.mpr ⟨hnin, hS.1⟩) (fun x hx => by
            rcases List.mem_cons.mp hx with hx | hx
            · rw [hx]; exact hh
            · exact hS.2.1 x hx)
          rw [List.length_cons] at this
          omega
        rw [nI_clamp (by omega)]
        refine ⟨vp_in_nI (by omega) (by omega), fun t6 e6 => ⟨vp_in_nI (by omega) (by omega), fun t7 e7 => ?_⟩⟩
        have F7 : gFr ad lmP t0 t7 := by rw [e7, e6, e5]; exact ((F3.si rfl).si rfl).si rfl
        have b1 : vp_nar .boolean 1 = 1 := by decide
        rw [b1] at e5
        have hL7 := F3.L
        have i7 : ∀ c j, c < 199 → c ≠ 174 → c ≠ 175 → c ≠ 176 → t7.2.1 (ad c) j = t3.2.1 (ad c) j := fun c j hc h1 h2 h3 => by rw [e7, g_rd_ne (hL7.ne c 176 hc (by decide) h3), e6, g_rd_ne (hL7.ne c 175 hc (by decide) h2), e5, g_rd_ne (hL7.ne c 174 hc (by decide) h1)]
        have i174 : ∀ g, t7.2.1 (ad 174) g = if g = h then 1 else t3.2.1 (ad 174) g := fun g => by
          rw [e7, g_rd_ne (hL7.ne 174 176 (by decide) (by decide) (by decide)), e6, g_rd_ne (hL7.ne 174 175 (by decide) (by decide) (by decide)), e5, g_rdi]
          by_cases y : g = h
          · rw [if_pos ⟨rfl, y⟩, if_pos y]
          · rw [if_neg (fun w => y w.2), if_neg y]
        have i175 : ∀ j, t7.2.1 (ad 175) j = if j = m + 1 then nI h else t3.2.1 (ad 175) j := fun j => by
          rw [e7, g_rd_ne (hL7.ne 175 176 (by decide) (by decide) (by decide)), e6, g_rdi, e5, g_rd_ne (hL7.ne 175 174 (by decide) (by decide) (by decide))]
          by_cases y : j = m + 1
          · rw [if_pos ⟨rfl, y⟩, if_pos y]
          · rw [if_neg (fun w => y w.2), if_neg y]
        have i176 : ∀ j, t7.2.1 (ad 176) j = if j = m + 1 then 0 else t3.2.1 (ad 176) j := fun j => by
          rw [e7, g_rdi, e6, g_rd_ne (hL7.ne 176 175 (by decide) (by decide) (by decide)), e5, g_rd_ne (hL7.ne 176 174 (by decide) (by decide) (by decide))]
          by_cases y : j = m + 1
          · rw [if_pos ⟨rfl, y⟩, if_pos y]
          · rw [if_neg (fun w => y w.2), if_neg y]
        have hS7 : SIv n (h :: s.1, s.2) := ⟨List.nodup_cons.mpr ⟨hnin, hS.1⟩, fun x hx => by
          rcases List.mem_cons.mp hx with hx | hx
          · rw [hx]; exact hh
          · exact hS.2.1 x hx, hS.2.2.1, fun x hx => List.mem_cons_of_mem _ (hS.2.2.2 x hx)⟩
        have L7 : LoM ad n (h :: s.1, s.2) t7 := by
          refine ⟨fun g hg => ?_, by rw [i7 144 50 (by decide) (by decide) (by decide) (by decide)]; exact L3.2.1, fun j c hj => by rw [i7 173 j (by decide) (by decide) (by decide) (by decide)]; exact L3.2.2 j c hj⟩
          rw [i174]
          by_cases y : g = h
          · rw [if_pos y, decide_eq_true (show g ∈ h :: s.1 by rw [y]; exact List.mem_cons_self)]; rfl
          · rw [if_neg y, L3.1 g hg]
            congr 1
            rw [decide_eq_decide]
            exact ⟨List.mem_cons_of_mem _, fun w => (List.mem_cons.mp w).resolve_left y⟩
        rw [nI_1]
        refine ihk (nd h).length 0 h (m + 1) (h :: s.1, s.2) t7 _ _ _ hh List.mem_cons_self (fun w => hnin (hS.2.2.2 h w)) hS7 (by rw [List.length_cons]; omega) (by omega) F7 L7 (by rw [i175, if_pos rfl]) (by rw [i176, if_pos rfl]; rfl) (by rw [List.length_cons]; omega) (fun u o3 o4 o5 Fu Lu hu => ?_)
        -- behind the nested look
        have es : stp (fun g => cqN (nd g)) (k + 1) s q = (((nd h).foldl (stp (fun g => cqN (nd g)) k) (h :: s.1, s.2)).1, ((nd h).foldl (stp (fun g => cqN (nd g)) k) (h :: s.1, s.2)).2 ++ [h]) := by
          rw [stp_fold, show stp (fun g => cqN (nd g)) (k + 1) s q = dfs (fun g => cqN (nd g)) (k + 1) h s by unfold stp; rw [if_pos h15, ecl], dfs_new hnin]
        rw [List.drop_zero, ← es] at Lu
        obtain ⟨⟨d1, ⟨w1, d2⟩, _, d4, _, _⟩, _⟩ := dT (cs := fun g => cqN (nd g)) hcs (k := k + 1) (f := h) (s := s) hh hS (by omega)
        have ed : stp (fun g => cqN (nd g)) (k + 1) s q = dfs (fun g => cqN (nd g)) (k + 1) h s := by unfold stp; rw [if_pos h15, ecl]
        rw [← ed] at d1 d2 d4
        have hu175 := (hu m (by omega)).1
        have hu176 := (hu m (by omega)).2
        refine ih (i + 1) f m (stp (fun g => cqN (nd g)) (k + 1) s q) u _ _ _ hf (by rw [d2]; exact List.mem_append_right _ hfs) (fun w => hf2 (d4 f hfs w)) d1 (by rw [d2, List.length_append]; omega) (by omega) Fu Lu ?_ ?_ (by rw [d2, List.length_append]; omega) (fun v o3 o4 o5 Fv Lv hv => hK v o3 o4 o5 Fv Lv (fun j hj => ?_))
        · rw [hu175, i175, if_neg (by omega), i3 175 m (by decide) (by decide)]; exact h5
        · rw [hu176, i176, if_neg (by omega), e3, g_rd_at]
        · have y1 := hu j (by omega)
          have y2 := hv j hj
          rw [y2.1, y2.2, y1.1, y1.2, i175, i176, if_neg (by omega), if_neg (by omega)]
          exact k3 j hj
/-- the whole graph of the model's -/
theorem m_findGraph {t : gSt} (hL : Lay t ad) (hn : n ≤ 24) (hf : t.2.1 (ad 144) 11 = nI n) (hN : ∀ g, g < n → nodR t ad g (nd g) ∧ ∀ q ∈ nd g, q.1 = 15 → ∃ h, q.2 = nI h ∧ h < n)
    (h : ∀ u, gFr ad mgP t u → (∀ f g, f < n → g < n → u.2.1 (ad 172) (24 * f + g) = b32 (dirL (nd f) g)) → (∀ f g, f < n → g < n → u.2.1 (ad 171) (24 * f + g) = b32 (clF (fun f g => dirL (nd f) g) n f g)) → (∀ (j c : Nat), (ordS (fun g => cqN (nd g)) n).2[j]? = some c → u.2.1 (ad 173) j = nI c) → post none u) : g_E cx (d + 2) i_Mo_findGraph [.ref (ad 144)] t post := by
  have hcs : ∀ f, f < n → ∀ g ∈ cqN (nd f), g < n := fun f hf g hg => by
    unfold cqN at hg
    obtain ⟨q, hq, e⟩ := List.mem_map.mp hg
    obtain ⟨hq1, hq2⟩ := List.mem_filter.mp hq
    obtain ⟨h, h1, h2⟩ := (hN f hf).2 q hq1 (of_decide_eq_true hq2)
    rw [← e, h1, nI_clamp (by omega)]
    exact h2
  refine m_direct (d := d + 1) hL hn hf hN (fun u o2 o3 Fu iu u50 u174 u172 u171 => ?_)
  have hNu : ∀ g, g < n → nodR u ad g (nd g) ∧ ∀ q ∈ nd g, q.1 = 15 → ∃ h, q.2 = nI h ∧ h < n := fun g hg => by
    refine ⟨?_, (hN g hg).2⟩
    obtain ⟨a1, a2, a3⟩ := (hN g hg).1
    refine ⟨by rw [iu 148 g (by omega) (by omega) (by omega)]; exact a1, a2, fun i q hq => ?_⟩
    rw [iu 151 _ (by omega) (by omega) (by omega), iu 154 _ (by omega) (by omega) (by omega)]
    exact a3 i q hq
  have loop : ∀ (m i : Nat) (w : gSt) (s : List Nat × List Nat), i + m = n → gFr ad lmP u w → SIv n s → LoM ad n s w → (List.range' i m).foldl (fun s f => dfs (fun g => cqN (nd g)) 24 f s) s = ordS (fun g => cqN (nd g)) n → g_W cx (g_E cx (d + 1)) mt_Mo_findGraph post (243, [some (.ref (ad 144)), some (.int (nI i)), o2, o3], [], w, 0, 0) := by
    intro m
    induction m with
    | zero =>
      intro i w s hi Fw hS Lw hs
      have w11 : w.2.1 (ad 144) 11 = nI n := by rw [Fw.i 144 11 (bool_r lmP_i (by omega)), Fu.i 144 11 (mgP_r (by omega))]; exact hf
      have hs : s = ordS (fun g => cqN (nd g)) n := hs
      refine x_Mo_findGraph_243 Fw.L ⟨fun _ => h w (Fu.tr (Fw.mo (fun c k z => by rw [lmP_i] at z; exact mgP_t (by omega)))) (fun f g hf hg => ?_) (fun f g hf hg => ?_) (fun j c hj => Lw.2.2 j c (by rw [hs]; exact hj)), fun z => ?_⟩
      · rw [Fw.i 172 _ (bool_r lmP_i (by omega))]; exact u172 f g hf hg
      · rw [Fw.i 171 _ (bool_r lmP_i (by omega))]; exact u171 f g hf hg
      · rw [w11] at z
        exact absurd (nI_le (by omega) (by omega)) z
    | succ m ih =>
      intro i w s hi Fw hS Lw hs
      have w11 : w.2.1 (ad 144) 11 = nI n := by rw [Fw.i 144 11 (bool_r lmP_i (by omega)), Fu.i 144 11 (mgP_r (by omega))]; exact hf
      have hi' : i < n := by omega
      rw [List.range'_succ, List.foldl_cons] at hs
      refine x_Mo_findGraph_243 Fw.L ⟨fun z => ?_, fun _ => ?_⟩
      · rw [w11] at z
        exact absurd z (nI_ge (by omega) (by omega))
      rw [nI_clamp (by omega), Lw.1 i hi', nI_1]
      refine ⟨vp_in_nI (by omega) (by omega), fun z => ?_, fun z => ?_⟩
      · have hin : i ∈ s.1 := Classical.byContradiction (fun y => z (by rw [decide_eq_false y]; rfl))
        rw [dfs_in hin] at hs
        exact ih (i + 1) w s (by omega) Fw hS Lw hs
      · have hnin : i ∉ s.1 := fun y => by
          rw [decide_eq_true y] at z
          exact z (by decide)
        have b1 : vp_nar .boolean 1 = 1 := by decide
        refine x_Mo_lookFromOne Fw.L ⟨vp_in_nI (n := 0) (by decide) (by decide), fun t1 e1 => ⟨vp_in_nI (n := 0) (by decide) (by decide), fun t2 e2 => ⟨vp_in_nI (by omega) (by omega), fun t3 e3 => ?_⟩⟩⟩
        rw [nI_clamp (by omega), b1] at e3
        have e0 : (0 : Int32).toNatClampNeg = 0 := by decide
        rw [e0] at e1 e2
        have F3 : gFr ad lmP u t3 := by rw [e3, e2, e1]; exact ((Fw.si rfl).si rfl).si rfl
        have hLw := Fw.L
        have hS7 : SIv n (i :: s.1, s.2) := ⟨List.nodup_cons.mpr ⟨hnin, hS.1⟩, fun x hx => by
          rcases List.mem_cons.mp hx with hx | hx
          · rw [hx]; exact hi'
          · exact hS.2.1 x hx, hS.2.2.1, fun x hx => List.mem_cons_of_mem _ (hS.2.2.2 x hx)⟩
        have i3 : ∀ c j, c < 199 → c ≠ 174 → c ≠ 175 → c ≠ 176 → t3.2.1 (ad c) j = w.2.1 (ad c) j := fun c j hc h1 h2 h3 => by rw [e3, g_rd_ne (hLw.ne c 174 hc (by decide) h1), e2, g_rd_ne (hLw.ne c 176 hc (by decide) h3), e1, g_rd_ne (hLw.ne c 175 hc (by decide) h2)]
        have L3 : LoM ad n (i :: s.1, s.2) t3 := by
          refine ⟨fun g hg => ?_, by rw [i3 144 50 (by decide) (by decide) (by decide) (by decide)]; exact Lw.2.1, fun j c hj => by rw [i3 173 j (by decide) (by decide) (by decide) (by decide)]; exact Lw.2.2 j c hj⟩
          rw [e3, g_rdi]
          by_cases y : g = i
          · rw [if_pos ⟨rfl, y⟩, decide_eq_true (show g ∈ i :: s.1 by rw [y]; exact List.mem_cons_self)]; rfl
          · rw [if_neg (fun q => y q.2), e2, g_rd_ne (hLw.ne 174 176 (by decide) (by decide) (by decide)), e1, g_rd_ne (hLw.ne 174 175 (by decide) (by decide) (by decide)), Lw.1 g hg]
            congr 1
            rw [decide_eq_decide]
            exact ⟨List.mem_cons_of_mem _, fun w => (List.mem_cons.mp w).resolve_left y⟩
        refine lo_loop (t0 := u) (d := d) hn hNu 23 (nd i).length 0 i 0 (i :: s.1, s.2) t3 none none none hi' List.mem_cons_self (fun w => hnin (hS.2.2.2 i w)) hS7 (by rw [List.length_cons]; omega) (by omega) F3 L3 ?_ ?_ (by rw [List.length_cons]; omega) (fun v o3 o4 o5 Fv Lv _ => ?_)
        · rw [e3, g_rd_ne (hLw.ne 175 174 (by decide) (by decide) (by decide)), e2, g_rd_ne (hLw.ne 175 176 (by decide) (by decide) (by decide)), e1, g_rd_at]
        · rw [e3, g_rd_ne (hLw.ne 176 174 (by decide) (by decide) (by decide)), e2, g_rd_at]; rfl
        · refine x_Mo_lookFromOne_23 Fv.L ⟨fun _ => ⟨rfl, Fv.L, ?_⟩, fun z => absurd (by decide) z⟩
          have es : dfs (fun g => cqN (nd g)) 24 i s = (((nd i).foldl (stp (fun g => cqN (nd g)) 23) (i :: s.1, s.2)).1, ((nd i).foldl (stp (fun g => cqN (nd g)) 23) (i :: s.1, s.2)).2 ++ [i]) := by
            rw [stp_fold, show 24 = 23 + 1 from rfl, dfs_new hnin]
          rw [List.drop_zero, ← es] at Lv
          obtain ⟨⟨d1, _⟩, _⟩ := dT (cs := fun g => cqN (nd g)) hcs (k := 24) (f := i) (s := s) hi' hS (by omega)
          exact ih (i + 1) v _ (by omega) Fv d1 Lv hs
  exact loop n 0 u ([], []) (by omega) (gFr.rf Fu.L) ⟨List.nodup_nil, fun x hx => (by cases hx), List.nodup_nil, fun x hx => (by cases hx)⟩ ⟨fun g hg => u174 g hg, u50, fun j c hj => by cases hj⟩ (by unfold ordS; rw [List.range_eq_range'])
end ML
