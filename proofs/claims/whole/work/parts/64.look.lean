/-! THE ORDER: depth first, the class's look -/
def dfs (cs : Nat → List Nat) : Nat → Nat → List Nat × List Nat → List Nat × List Nat
  | 0, _, s => s
  | k + 1, f, s => if f ∈ s.1 then s else (((cs f).foldl (fun s g => dfs cs k g s) (f :: s.1, s.2)).1, ((cs f).foldl (fun s g => dfs cs k g s) (f :: s.1, s.2)).2 ++ [f])
theorem pig : ∀ (n : Nat) (l : List Nat), l.Nodup → (∀ x ∈ l, x < n) → l.length ≤ n
  | 0, [], _, _ => Nat.le_refl _
  | 0, x :: _, _, h => absurd (h x List.mem_cons_self) (by omega)
  | n + 1, l, hd, h => by
    by_cases hn : n ∈ l
    · have h1 := pig n (l.erase n) (hd.erase n) (fun x hx => by
        have := (hd.mem_erase_iff).mp hx
        have := h x this.2
        omega)
      rw [List.length_erase_of_mem hn] at h1
      omega
    · have h1 := pig n l hd (fun x hx => by
        have h2 := h x hx
        by_cases e : x = n
        · subst e; exact absurd hx hn
        · omega)
      omega
/-- what is looked at and what is ordered -/
def lkI (n : Nat) (s : List Nat × List Nat) : Prop := s.2.Nodup ∧ (∀ x ∈ s.2, x ∈ s.1) ∧ ∀ x ∈ s.1, x < n
def lkR (s s' : List Nat × List Nat) : Prop := (∀ x ∈ s.1, x ∈ s'.1) ∧ ∀ x ∈ s.1, x ∈ s'.2 → x ∈ s.2
theorem lkR.rf (s : List Nat × List Nat) : lkR s s := ⟨fun _ h => h, fun _ _ h => h⟩
theorem lkR.tr {a b c : List Nat × List Nat} (h : lkR a b) (h2 : lkR b c) : lkR a c := ⟨fun x hx => h2.1 x (h.1 x hx), fun x hx hc => h.2 x hx (h2.2 x (h.1 x hx) hc)⟩
theorem dfs_ok {cs : Nat → List Nat} {n : Nat} (hcs : ∀ f, f < n → ∀ g ∈ cs f, g < n) : ∀ (k f : Nat) (s : List Nat × List Nat), f < n → lkI n s → lkI n (dfs cs k f s) ∧ lkR s (dfs cs k f s)
  | 0, f, s, _, h => ⟨h, lkR.rf s⟩
  | k + 1, f, s, hf, h => by
    have fold : ∀ (l : List Nat) (s : List Nat × List Nat), (∀ g ∈ l, g < n) → lkI n s → lkI n (l.foldl (fun s g => dfs cs k g s) s) ∧ lkR s (l.foldl (fun s g => dfs cs k g s) s) := by
      intro l
      induction l with
      | nil => exact fun s _ h => ⟨h, lkR.rf s⟩
      | cons g l ih =>
        intro s hl h
        have h1 := dfs_ok hcs k g s (hl g List.mem_cons_self) h
        have h2 := ih (dfs cs k g s) (fun x hx => hl x (List.mem_cons_of_mem _ hx)) h1.1
        exact ⟨h2.1, h1.2.tr h2.2⟩
    unfold dfs
    split
    · exact ⟨h, lkR.rf s⟩
    · rename_i hnf
      have h0 : lkI n (f :: s.1, s.2) := ⟨h.1, fun x hx => List.mem_cons_of_mem _ (h.2.1 x hx), fun x hx => by
        rcases List.mem_cons.mp hx with rfl | hx
        · exact hf
        · exact h.2.2 x hx⟩
      obtain ⟨i1, i2⟩ := fold (cs f) (f :: s.1, s.2) (hcs f hf) h0
      generalize (cs f).foldl (fun s g => dfs cs k g s) (f :: s.1, s.2) = r at i1 i2
      have hfr : ¬ f ∈ r.2 := fun z => hnf (h.2.1 f (i2.2 f List.mem_cons_self z))
      refine ⟨⟨?_, fun x hx => ?_, i1.2.2⟩, fun x hx => i2.1 x (List.mem_cons_of_mem _ hx), fun x hx hc => ?_⟩
      · rw [List.nodup_append]
        refine ⟨i1.1, by simp, fun a ha b hb e => ?_⟩
        rw [List.mem_singleton.mp hb] at e
        rw [e] at ha
        exact hfr ha
      · rcases List.mem_append.mp hx with hx | hx
        · exact i1.2.1 x hx
        · rw [List.mem_singleton.mp hx]; exact i2.1 f List.mem_cons_self
      · rcases List.mem_append.mp hc with hc | hc
        · exact i2.2 x (List.mem_cons_of_mem _ hx) hc
        · rw [List.mem_singleton.mp hc] at hx
          exact absurd hx hnf
def loP (c k : Nat) : Bool := Nat.beq c 18 || (Nat.beq c 11 && (Nat.beq k 6 || Nat.beq k 7))
theorem loP_r {c k : Nat} (h : c ≠ 18 ∧ (c ≠ 11 ∨ (k ≠ 6 ∧ k ≠ 7))) : loP c k = false := by
  cases e : loP c k with
  | false => rfl
  | true =>
    unfold loP at e
    simp only [Bool.or_eq_true, Bool.and_eq_true, Nat.beq_eq] at e
    omega
def loQ (ad : Nat → Nat) (s : List Nat × List Nat) (t : gSt) : Prop := (∀ g, g < 24 → hb (t.2.1 (ad 11) 6) g = decide (g ∈ s.1)) ∧ t.2.1 (ad 11) 7 = nI s.2.length ∧ ∀ (j c : Nat), s.2[j]? = some c → t.2.1 (ad 18) j = nI c
section LO
variable {cx : gCx} {d : Nat} {ad : Nat → Nat} {t0 : gSt} {n : Nat} {cs : Nat → List Nat}
/-- the rows of whom each calls -/
def csR (t : gSt) (ad : Nat → Nat) (n : Nat) (cs : Nat → List Nat) : Prop := ∀ f, f < n → t.2.1 (ad 46) f = nI (cs f).length ∧ (cs f).length ≤ 24 ∧ (∀ (j c : Nat), (cs f)[j]? = some c → t.2.1 (ad (22 + f)) j = nI c) ∧ ∀ c ∈ cs f, c < n
theorem m_look (hn : n ≤ 24) (hc : csR t0 ad n cs) : ∀ (k f : Nat) (s : List Nat × List Nat) (t : gSt) (post : Option Value → gSt → Prop), k ≤ 24 → f < n → lkI n s → gFr ad loP t0 t → loQ ad s t → (∀ u, gFr ad loP t0 u → loQ ad (dfs cs k f s) u → post none u) → g_E cx (d + k + 2) i_Graph_look [.ref (ad 11), .int (nI f), .int (nI (24 - k))] t post := by
  intro k
  induction k with
  | zero =>
    intro f s t post _ hf hI hF hQ h
    refine x_Graph_look hF.L ?_
    refine m_hasBit hF.L (by omega) ⟨_, rfl, hF.L, fun _ => h t hF hQ, fun _ => ⟨fun z => absurd z (by decide), fun _ => h t hF hQ⟩⟩
  | succ k ih =>
    intro f s t post hk hf hI hF hQ h
    have hcf := hc f hf
    have hcs : ∀ f, f < n → ∀ g ∈ cs f, g < n := fun f hf => (hc f hf).2.2.2
    refine x_Graph_look hF.L ?_
    refine m_hasBit hF.L (by omega) ⟨_, rfl, hF.L, ?_⟩
    rw [hQ.1 f (by omega)]
    by_cases hm : f ∈ s.1
    · rw [decide_eq_true hm]
      have e : dfs cs (k + 1) f s = s := by unfold dfs; rw [if_pos hm]
      rw [e] at h
      exact ⟨fun _ => h t hF hQ, fun z => absurd (by decide) z⟩
    · rw [decide_eq_false hm]
      refine ⟨fun z => absurd rfl z, fun _ => ⟨fun _ t3 e3 => ?_, fun z => absurd ?_ z⟩⟩
      · have e : dfs cs (k + 1) f s = (((cs f).foldl (fun s g => dfs cs k g s) (f :: s.1, s.2)).1, ((cs f).foldl (fun s g => dfs cs k g s) (f :: s.1, s.2)).2 ++ [f]) := by
          conv => lhs; unfold dfs
          rw [if_neg hm]
        rw [e] at h
        have h0 : lkI n (f :: s.1, s.2) := ⟨hI.1, fun x hx => List.mem_cons_of_mem _ (hI.2.1 x hx), fun x hx => by
          rcases List.mem_cons.mp hx with rfl | hx
          · exact hf
          · exact hI.2.2 x hx⟩
        have F3 : gFr ad loP t0 t3 := by rw [e3]; exact hF.si rfl
        have Q3 : loQ ad (f :: s.1, s.2) t3 := by
          refine ⟨fun g hg => ?_, by rw [e3, g_rd_k (by decide)]; exact hQ.2.1, fun j c hj => by rw [e3, g_rd_ne (hF.L.ne 18 11 (by decide) (by decide) (by decide))]; exact hQ.2.2 j c hj⟩
          rw [e3, g_rd_at, hb_or, hQ.1 g hg, hb_1 f (by omega) g hg]
          by_cases z : g ∈ s.1
          · rw [decide_eq_true z, decide_eq_true (List.mem_cons_of_mem _ z)]; rfl
          · rw [decide_eq_false z, Bool.false_or, decide_eq_decide]
            constructor
            · rintro rfl; exact List.mem_cons_self
            · intro q
              rcases List.mem_cons.mp q with q | q
              · exact q.symm
              · exact absurd q z
        have loop : ∀ m i (s' : List Nat × List Nat) (u : gSt), m + i = (cs f).length → lkI n s' → lkR (f :: s.1, s.2) s' → ((cs f).drop i).foldl (fun s g => dfs cs k g s) s' = (cs f).foldl (fun s g => dfs cs k g s) (f :: s.1, s.2) → gFr ad loP t0 u → loQ ad s' u → g_W cx (g_E cx (d + k + 2)) mt_Graph_look post (32, [some (.ref (ad 11)), some (.int (nI f)), some (.int (nI (24 - (k + 1)))), some (.int (nI i))], [], u, 0, 0) := by
          intro m
          induction m with
          | zero =>
            intro i s' u hi hI' hR' hfo hu hq
            rw [List.drop_eq_nil_of_le (by omega)] at hfo
            have hfo : s' = (cs f).foldl (fun s g => dfs cs k g s) (f :: s.1, s.2) := hfo
            have u46 : u.2.1 (ad 46) f = nI (cs f).length := by rw [hu.i 46 f (loP_r (by omega))]; exact hcf.1
            have hfr : ¬ f ∈ s'.2 := fun z => hm (hI.2.1 f (hR'.2 f List.mem_cons_self z))
            have hlen : s'.2.length + 1 ≤ 24 := by
              have := pig 24 (f :: s'.2) (List.nodup_cons.mpr ⟨hfr, hI'.1⟩) (fun x hx => by
                rcases List.mem_cons.mp hx with rfl | hx
                · omega
                · have := hI'.2.2 x (hI'.2.1 x hx)
                  omega)
              exact this
            refine x_Graph_look_32 hu.L ⟨vp_in_nI (by omega) (by omega), ?_⟩
            rw [nI_clamp (n := f) (by omega), u46, hq.2.1, nI_clamp (n := s'.2.length) (by omega)]
            refine ⟨fun _ => ⟨vp_in_nI (by omega) (by omega), fun t1 e1 t2 e2 => ?_⟩, fun z => absurd (nI_le (by omega) (by omega)) z⟩
            rw [e1, g_rd_ne (hu.L.ne 11 18 (by decide) (by decide) (by decide)), hq.2.1, nI_1] at e2
            refine h t2 (by rw [e2]; exact (hu.si rfl).si rfl) ?_
            rw [← hfo]
            refine ⟨fun g hg => ?_, by rw [e2, g_rd_at, List.length_append]; rfl, fun j c hj => ?_⟩
            · rw [e2, g_rd_k (by decide), g_rd_ne (hu.L.ne 11 18 (by decide) (by decide) (by decide))]
              exact hq.1 g hg
            · rw [e2, g_rd_ne (hu.L.ne 18 11 (by decide) (by decide) (by decide))]
              by_cases ej : j = s'.2.length
              · subst ej
                rw [g_rd_at]
                rw [List.getElem?_append_right (Nat.le_refl _), Nat.sub_self] at hj
                rw [show f = c from by simpa using hj]
              · rw [g_rd_k ej]
                have hjl : j < s'.2.length := by
                  have := (List.getElem?_eq_some_iff.mp hj).1
                  simp at this
                  omega
                rw [List.getElem?_append_left hjl] at hj
                exact hq.2.2 j c hj
          | succ m ihm =>
            intro i s' u hi hI' hR' hfo hu hq
            have hil : i < (cs f).length := by omega
            have u46 : u.2.1 (ad 46) f = nI (cs f).length := by rw [hu.i 46 f (loP_r (by omega))]; exact hcf.1
            have uc : u.2.1 (ad (22 + f)) i = nI (cs f)[i] := by rw [hu.i _ _ (loP_r (by omega)) (by omega)]; exact hcf.2.2.1 i _ (List.getElem?_eq_getElem hil)
            have hgn := hcf.2.2.2 _ (List.getElem_mem hil)
            refine x_Graph_look_32 hu.L ⟨vp_in_nI (by omega) (by omega), ?_⟩
            rw [nI_clamp (n := f) (by omega), u46, nI_clamp (n := i) (by omega), uc, nI_1, nI_1, show 24 - (k + 1) + 1 = 24 - k by omega]
            refine ⟨fun z => absurd z (nI_ge hil (by omega)), fun _ => ⟨vp_in_nI (by omega) (by omega), vp_in_nI (by omega) (by omega), ?_⟩⟩
            refine ih (cs f)[i] s' u _ (by omega) hgn hI' hu hq (fun w hw hqw => ⟨rfl, hw.L, ?_⟩)
            have hd := dfs_ok hcs k (cs f)[i] s' hgn hI'
            refine ihm (i + 1) _ w (by omega) hd.1 (hR'.tr hd.2) ?_ hw hqw
            rw [← hfo, List.drop_eq_getElem_cons hil]
            rfl
        exact loop (cs f).length 0 _ t3 (by omega) h0 (lkR.rf _) (by rw [List.drop_zero]) F3 Q3
      · rw [show (24 : Int32) = nI 24 from rfl]
        exact nI_lt (by omega) (by omega)
end LO
