/-! READ: the source as a list of functions -/
theorem fo_b_mv {g : Int32 → Int32} : ∀ F : Fo, fo_b (fo_mv g F) = fo_b F
  | .inner z k v a b => by
    simp only [fo_mv, fo_b, fo_b_mv a, fo_b_mv b]
    by_cases e : k = 14
    · rw [if_pos e, if_pos e, if_neg (by rw [e]; decide)]
    · rw [if_neg e, if_neg e]
  | .leaf => rfl
theorem fo_w_mv {N n : Nat} {ac : Nat → Nat} {par : Int32 → Nat} {g : Int32 → Int32} : ∀ (F : Fo) (S : Nat → List Int32), fo_w N (fun v => ac v.toNatClampNeg) F S → (∀ v : Int32, v.toNatClampNeg ∈ pcl F → ∃ f, f < n ∧ g v = nI f ∧ par (nI f) = ac v.toNatClampNeg) → fo_w n par (fo_mv g F) S
  | .inner z k v a b, S, h, hg => by
    obtain ⟨h1, h2, h3, h4, h5, h6⟩ := h
    have ha := fo_w_mv a _ h5 (fun v hv => hg v (by unfold pcl; exact List.mem_append_left _ (List.mem_append_right _ hv)))
    have hb' := fo_w_mv b _ h6 (fun v hv => hg v (by unfold pcl; exact List.mem_append_right _ hv))
    show fo_w n par (.inner z k (if k = 15 then g v else v) (fo_mv g a) (fo_mv g b)) S
    by_cases e : k = 15
    · obtain ⟨f, f1, f2, f3⟩ := hg v (by unfold pcl; rw [if_pos e]; exact List.mem_append_left _ (List.mem_append_left _ (List.mem_singleton.mpr rfl)))
      rw [if_pos e]
      refine ⟨h1, ?_, fun c => ?_, fun _ => ⟨f, f2, f1⟩, ?_, hb'⟩
      · rw [fo_l_mv, h2, e, f2]
        exact f3.symm
      · rw [e] at c
        exact absurd c (by decide)
      · have : k_sc k (g v) (S 0) = k_sc k v (S 0) := funext (fun i => by
          unfold k_sc
          rw [if_neg (fun c => by rw [e] at c; exact absurd c.1 (by decide)), if_neg (fun c => by rw [e] at c; exact absurd c.1 (by decide))])
        rw [this]
        exact ha
    · rw [if_neg e]
      refine ⟨h1, ?_, h3, fun c => absurd c e, ha, hb'⟩
      rw [fo_l_mv, h2]
      unfold k_ar
      rw [if_neg e, if_neg e]
  | .leaf, _, _, _ => trivial
theorem nd_map {l : List Nat} (hd : l.Nodup) (h : ∀ x ∈ l, x < 2 ^ 31) : (l.map nI).Nodup := by
  unfold List.Nodup at *
  rw [List.pairwise_map]
  refine hd.imp_of_mem (fun {a b} ha hb' hne e => hne ?_)
  have := congrArg Int32.toNatClampNeg e
  rw [nI_clamp (h a ha), nI_clamp (h b hb')] at this
  exact this
def fnA (g : Int32 → Int32) (U : Nat → Int32) (f : Nat) (q : FD) : Fn := (q.1, q.2.1, q.2.2.1, fo_mv g q.2.2.2, 0, eTC false f q.2.1 (fo_mv g q.2.2.2), eTZ q.2.1 (fo_mv g q.2.2.2), eTM false (fo_mv g q.2.2.2), U f)
def srcA (FS : List FD) (g : Int32 → Int32) (U : Nat → Int32) : List Fn := FS.mapIdx (fnA g U)
section SA
variable {FS : List FD} {g : Int32 → Int32} {U : Nat → Int32} {f : Nat}
theorem srcA_len : (srcA FS g U).length = FS.length := List.length_mapIdx
theorem srcA_of {q : FD} (h : FS[f]? = some q) : (srcA FS g U)[f]? = some (fnA g U f q) := by
  unfold srcA
  rw [List.getElem?_mapIdx, h]
  rfl
theorem srcA_at {F : Fn} (h : (srcA FS g U)[f]? = some F) : ∃ q, FS[f]? = some q ∧ F = fnA g U f q := by
  unfold srcA at h
  rw [List.getElem?_mapIdx] at h
  cases e : FS[f]? with
  | none => rw [e] at h; cases h
  | some q => rw [e] at h; exact ⟨q, rfl, (Option.some.inj h).symm⟩
theorem srcA_par {q : FD} (h : FS[f]? = some q) (hn : FS.length ≤ 24) : parOf (srcA FS g U) (nI f) = q.2.1 := by
  have : f < FS.length := (List.getElem?_eq_some_iff.mp h).1
  unfold parOf
  rw [nI_clamp (by omega), srcA_of h]
  rfl
theorem src_fn {cl : CL} {ac : Nat → Nat} {a : Nat} {q : FD} (hO : FOK FS cl ac a) (hG : ∀ c, c < cl.length → clG FS cl ac c) (hq : FS[f]? = some q) : fn_ok (srcA FS (tgI FS cl) U) 400 46 (fnA (tgI FS cl) U f q) := by
  have hn := hO.1.1
  have hqm := List.mem_of_getElem? hq
  obtain ⟨k1, ⟨k2, k3, k4⟩, k5, k6, k7, k8⟩ := hO.2.2.2.1 q hqm
  have hfl := hO.2.2.2.2.1
  refine ⟨k1, k2, k3, k4, by show fo_l (fo_mv _ _) = 1; rw [fo_l_mv]; exact k5, by show fo_n (fo_mv _ _) ≤ 400; rw [fo_n_mv]; exact k6, ?_, ?_, ?_⟩
  · rw [srcA_len]
    refine fo_w_mv _ _ k7 (fun v hv => ?_)
    have hc : v.toNatClampNeg < cl.length := by
      have : v.toNatClampNeg ∈ (FS.map (fun q => pcl q.2.2.2)).flatten := List.mem_flatten.mpr ⟨_, List.mem_map.mpr ⟨q, hqm, rfl⟩, hv⟩
      rw [hfl] at this
      exact List.mem_range.mp this
    obtain ⟨f', q', e1, e2, e3, e4⟩ := hG _ hc
    refine ⟨f', (List.getElem?_eq_some_iff.mp e1).1, by show nI (tgF FS (clN cl v.toNatClampNeg)) = _; rw [e4], ?_⟩
    rw [srcA_par e1 hn]
    exact e3
  · show ((List.range q.2.1).map nI ++ fo_b (fo_mv _ _)).Nodup
    rw [fo_b_mv, k8, ← List.map_append]
    have : List.range q.2.1 ++ List.range' q.2.1 (q.2.2.1 - q.2.1) = List.range q.2.2.1 := by
      rw [List.range_eq_range', List.range_eq_range', ← (show q.2.1 + (q.2.2.1 - q.2.1) = q.2.2.1 by omega), ← List.range'_append_1]
      simp
    rw [this]
    exact nd_map List.nodup_range (fun x hx => by have := List.mem_range.mp hx; omega)
  · intro v hv
    have hv : v ∈ fo_b (fo_mv (tgI FS cl) q.2.2.2) := hv
    rw [fo_b_mv, k8] at hv
    obtain ⟨j, hj, e⟩ := List.mem_map.mp hv
    rw [List.mem_range'_1] at hj
    exact ⟨j, e.symm, hj.1, by show j < q.2.2.1; omega⟩
/-- the source that was read, with bounds -/
theorem src_all {cl : CL} {ac : Nat → Nat} {a : Nat} (hO : FOK FS cl ac a) (hG : ∀ c, c < cl.length → clG FS cl ac c) : ∃ U, ∀ f F, (srcA FS (tgI FS cl) U)[f]? = some F → fn_ok (srcA FS (tgI FS cl) U) 400 46 F ∧ cd_ok (srcA FS (tgI FS cl) U) f F ∧ fnR F = 0 ∧ srcOk false f F ∧ bdOk (srcA FS (tgI FS cl) U) := by
  have same : ∀ (U U' : Nat → Int32) (f : Nat), fnC (fAt (srcA FS (tgI FS cl) U) f) = fnC (fAt (srcA FS (tgI FS cl) U') f) ∧ fnS (fAt (srcA FS (tgI FS cl) U) f) = fnS (fAt (srcA FS (tgI FS cl) U') f) ∧ fnT (fAt (srcA FS (tgI FS cl) U) f) = fnT (fAt (srcA FS (tgI FS cl) U') f) := fun U U' f => by
    unfold fAt
    cases e : FS[f]? with
    | none =>
      have h1 : (srcA FS (tgI FS cl) U)[f]? = none := by unfold srcA; rw [List.getElem?_mapIdx, e]; rfl
      have h2 : (srcA FS (tgI FS cl) U')[f]? = none := by unfold srcA; rw [List.getElem?_mapIdx, e]; rfl
      rw [h1, h2]
      exact ⟨rfl, rfl, rfl⟩
    | some q =>
      rw [srcA_of e, srcA_of e]
      exact ⟨rfl, rfl, rfl⟩
  obtain ⟨b, hb'⟩ := isBd_ex (n := FS.length) (cl := bCl (srcA FS (tgI FS cl) (fun _ => 0))) (tb := bTl (srcA FS (tgI FS cl) (fun _ => 0))) (fr := bFr (srcA FS (tgI FS cl) (fun _ => 0)))
  obtain ⟨U, eU⟩ : ∃ U : Nat → Int32, U = fun f => if bNon FS.length (bCl (srcA FS (tgI FS cl) (fun _ => 0))) (bTl (srcA FS (tgI FS cl) (fun _ => 0))) f = true then -1 else nI (b f) := ⟨_, rfl⟩
  have s1 : bCl (srcA FS (tgI FS cl) U) = bCl (srcA FS (tgI FS cl) (fun _ => 0)) := funext (fun f => funext (fun g => by show cCal _ g = cCal _ g; rw [(same U (fun _ => 0) f).1]))
  have s2 : bTl (srcA FS (tgI FS cl) U) = bTl (srcA FS (tgI FS cl) (fun _ => 0)) := funext (fun f => funext (fun g => by show cTal _ g = cTal _ g; rw [(same U (fun _ => 0) f).1]))
  have s3 : bFr (srcA FS (tgI FS cl) U) = bFr (srcA FS (tgI FS cl) (fun _ => 0)) := funext (fun f => by show 2 + _ + _ = 2 + _ + _; rw [(same U (fun _ => 0) f).2.1, (same U (fun _ => 0) f).2.2])
  refine ⟨U, fun f F hF => ?_⟩
  obtain ⟨q, hq, rfl⟩ := srcA_at hF
  have hfn := src_fn (U := U) hO hG hq
  refine ⟨hfn, ?_, rfl, ⟨rfl, rfl, rfl⟩, b, ?_, fun f F hF => ?_⟩
  · obtain ⟨k1, k2, k3, k4, k5, k6, k7, k8, k9⟩ := hfn
    exact eT_ok (M := 0) (V := 46) k2 (by omega) (by decide) k5 (by omega) k7 k8 (fun w hw => by
      obtain ⟨j, j1, j2, j3⟩ := k9 w hw
      exact ⟨j, j1, j2, by omega⟩) rfl rfl rfl rfl
  · rw [srcA_len, s1, s2, s3]
    exact hb'
  · obtain ⟨q, hq, rfl⟩ := srcA_at hF
    rw [srcA_len, s1, s2]
    show U f = _
    rw [eU]
end SA
/-! the graph of a source -/
def csA (A : List Fn) (f : Nat) : List Nat := fo_cs (fnB (fAt A f)) []
def dirA (A : List Fn) (f g : Nat) : Bool := decide (g ∈ csA A f)
def comA (A : List Fn) : Nat → Nat → Bool := clF (dirA A) A.length
def ordA (A : List Fn) (k : Nat) : Nat := (ordS (csA A) A.length).2.getD k 0
section SG
variable {A : List Fn}
theorem fo_gw {n : Nat} {par : Int32 → Nat} : ∀ (F : Fo) (S : Nat → List Int32), fo_w n par F S → ∀ v ∈ fo_g F, ∃ g, v = nI g ∧ g < n
  | .inner z k v a b, S, h, w, hw => by
    unfold fo_g at hw
    rcases List.mem_append.mp hw with hw | hw
    · rcases List.mem_append.mp hw with hw | hw
      · exact fo_gw a _ h.2.2.2.2.1 w hw
      · by_cases e : k = 15
        · rw [if_pos e] at hw
          rw [List.mem_singleton.mp hw]
          exact h.2.2.2.1 e
        · rw [if_neg e] at hw; cases hw
    · exact fo_gw b _ h.2.2.2.2.2 w hw
  | .leaf, _, _, w, hw => by cases hw
theorem A_w (hA : ∀ f F, A[f]? = some F → fn_ok A 400 46 F ∧ cd_ok A f F ∧ fnR F = 0 ∧ srcOk false f F ∧ bdOk A) {f : Nat} (hf : f < A.length) : ∃ S, fo_w A.length (parOf A) (fnB (fAt A f)) S := ⟨_, (hA f _ (A_at hf)).1.2.2.2.2.2.2.1⟩
theorem cq_lt (hn : A.length ≤ 24) (hA : ∀ f F, A[f]? = some F → fn_ok A 400 46 F ∧ cd_ok A f F ∧ fnR F = 0 ∧ srcOk false f F ∧ bdOk A) {f : Nat} (hf : f < A.length) : ∀ x ∈ cq (fnB (fAt A f)), x < A.length := fun x hx => by
  obtain ⟨S, hw⟩ := A_w hA hf
  obtain ⟨v, hv, e⟩ := List.mem_map.mp hx
  obtain ⟨g, eg, hg⟩ := fo_gw _ _ hw v hv
  rw [← e, eg, nI_clamp (by omega)]
  exact hg
theorem cs_mem (hn : A.length ≤ 24) (hA : ∀ f F, A[f]? = some F → fn_ok A 400 46 F ∧ cd_ok A f F ∧ fnR F = 0 ∧ srcOk false f F ∧ bdOk A) {f : Nat} (hf : f < A.length) (x : Nat) : x ∈ csA A f ↔ x ∈ cq (fnB (fAt A f)) := by
  unfold csA
  rw [fo_cs_q]
  have := (gaF_ok (cq (fnB (fAt A f))) [] (fun x hx => by have := cq_lt hn hA hf x hx; omega) List.nodup_nil (fun x hx => (by cases hx))).2.2 x
  rw [this]
  exact ⟨fun z => z.elim (fun z => by cases z) id, Or.inr⟩
theorem ord_A (hn : A.length ≤ 24) (hA : ∀ f F, A[f]? = some F → fn_ok A 400 46 F ∧ cd_ok A f F ∧ fnR F = 0 ∧ srcOk false f F ∧ bdOk A) : ord_ok A (dirA A) (comA A) (ordA A) ∧ (∀ k, k < A.length → (ordS (csA A) A.length).2[k]? = some (ordA A k)) := by
  obtain ⟨o1, o2, o3, o4, o5⟩ := ordS_ok (n := A.length) (cs := csA A) (com := comA A) hn (fun f hf g hg => cq_lt hn hA hf g ((cs_mem hn hA hf g).mp hg)) (fun f g hf hg => clF_in (decide_eq_true hg) _) (fun a b c hb' h1 h2 => clF_tr _ _ _ _ hb' h1 h2)
  have hk : ∀ k, k < A.length → (ordS (csA A) A.length).2[k]? = some (ordA A k) := fun k hk => by
    unfold ordA
    rw [List.getD_eq_getElem?_getD, List.getElem?_eq_getElem (by omega)]
    rfl
  refine ⟨⟨fun k h => o2 _ (List.mem_of_getElem? (hk k h)), fun i j hi hj e => ?_, fun f hf => ?_, fun k g h hd hc => ?_, fun f F g hF hg hgl => ?_⟩, hk⟩
  · have h1 := hk i hi
    have h2 := hk j hj
    rw [e, ← h2] at h1
    exact (List.getElem?_inj (by omega) o1).mp h1
  · obtain ⟨k, e⟩ := List.getElem?_of_mem (o3 f hf)
    have hkl := (List.getElem?_eq_some_iff.mp e).1
    refine ⟨k, by omega, ?_⟩
    have := hk k (by omega)
    rw [e] at this
    exact (Option.some.inj this).symm
  · rcases o4 k _ (hk k h) g (of_decide_eq_true hd) with z | ⟨j, j1, j2⟩
    · rw [hc] at z; cases z
    · refine ⟨j, j1, ?_⟩
      have := hk j (by omega)
      rw [j2] at this
      exact (Option.some.inj this).symm
  · have hf := (at_A hF hn).2.2
    refine decide_eq_true ((cs_mem hn hA hf g).mpr ?_)
    rw [(at_A hF hn).1]
    exact List.mem_map.mpr ⟨nI g, hg, nI_clamp (by omega)⟩
/-- the model's graph is the same -/
theorem dir_q (hn : A.length ≤ 24) (hA : ∀ f F, A[f]? = some F → fn_ok A 400 46 F ∧ cd_ok A f F ∧ fnR F = 0 ∧ srcOk false f F ∧ bdOk A) {f g : Nat} (hf : f < A.length) (hg : g < A.length) : dirL (fo_q (fnB (fAt A f))) g = dirA A f g := by
  unfold dirL dirA
  rw [decide_eq_decide, cs_mem hn hA hf, ← cqN_q]
  unfold cqN
  constructor
  · intro h
    exact List.mem_map.mpr ⟨(15, nI g), List.mem_filter.mpr ⟨h, rfl⟩, nI_clamp (by omega)⟩
  · intro h
    obtain ⟨q, hq, e⟩ := List.mem_map.mp h
    obtain ⟨h1, h2⟩ := List.mem_filter.mp hq
    have h2 : q.1 = 15 := of_decide_eq_true h2
    obtain ⟨S, hw⟩ := A_w hA hf
    obtain ⟨g', e1, e2⟩ := fo_qg _ (fo_wv _ _ hw) q h1 h2
    rw [e1, nI_clamp (by omega)] at e
    have : q = (15, nI g) := Prod.ext h2 (by rw [e1, e])
    rw [← this]
    exact h1
theorem fold_dup {n k : Nat} {cs cd : Nat → List Nat} (hd : ∀ (f : Nat) (s : List Nat × List Nat), f < n → dfs cd k f s = dfs cs k f s) : ∀ (l : List Nat) (s : List Nat × List Nat), (∀ f ∈ l, f < n) → l.foldl (fun s f => dfs cd k f s) s = l.foldl (fun s f => dfs cs k f s) s
  | [], s, _ => rfl
  | f :: l, s, h => by
    rw [List.foldl_cons, List.foldl_cons, hd f s (h f List.mem_cons_self)]
    exact fold_dup hd l _ (fun x hx => h x (List.mem_cons_of_mem _ hx))
theorem ord_q (hn : A.length ≤ 24) (hA : ∀ f F, A[f]? = some F → fn_ok A 400 46 F ∧ cd_ok A f F ∧ fnR F = 0 ∧ srcOk false f F ∧ bdOk A) : ordS (fun f => cqN (fo_q (fnB (fAt A f)))) A.length = ordS (csA A) A.length := by
  have h1 := dfs_dup (n := A.length) (cs := csA A) (cd := fun f => cqN (fo_q (fnB (fAt A f)))) hn (fun f hf g hg => cq_lt hn hA hf g (by rw [← cqN_q]; exact hg)) (fun f hf => by unfold csA; rw [cqN_q]; exact fo_cs_q _ _)
  unfold ordS
  exact fold_dup (n := A.length) (h1 24) (List.range A.length) ([], []) (fun f hf => List.mem_range.mp hf)
end SG
