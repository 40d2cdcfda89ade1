/-! THE CLASS'S WRITER: the whole expression -/
def wEn (nm : Int32 → List Nat) (st : WS) (s : List Nat) : List Nat := s ++ ((st.getLast?.map (fun q => op_t nm q.2.1 q.2.2.1)).getD [])
def wLv (st : WS) (s : List Nat) : List Nat := s ++ ((st.getLast?.map (fun q => cl_t q.2.1)).getD [])
def wBk (st : WS) (s : List Nat) : List Nat := s ++ ((st.getLast?.map (fun q => se_t q.2.1 (q.2.2.2.1 - 1) q.2.2.2.2)).getD [])
theorem gl_app {α : Type} (l : List α) (x : α) : (l ++ [x]).getLast? = some x := by simp
theorem vis_w {nm : Int32 → List Nat} : ∀ (F : Fo) (st : WS) (top : WT) (nx : Nat) (s : List Nat), vis (wEn nm) wLv wBk F st top nx s = s ++ fo_t nm F top.2.1 top.2.2.2.1 top.2.2.2.2
  | .inner z k v a b, st, top, nx, s => by
    unfold vis
    rw [vis_w a, vis_w b]
    unfold wEn wLv wBk
    rw [gl_app, gl_app, gl_app]
    simp only [fo_t, Option.map_some, Option.getD_some, Nat.add_sub_cancel, List.append_assoc]
  | .leaf, st, top, nx, s => by simp [vis, fo_t]
theorem visT_w {nm : Int32 → List Nat} (F : Fo) (nx : Nat) (s : List Nat) : visT (wEn nm) wLv wBk F nx s = s ++ tr_t nm F := by
  match F with
  | .leaf => simp [visT, tr_t]
  | .inner z k v a b =>
    show wLv _ (vis (wEn nm) wLv wBk a [] _ _ _) = _
    rw [vis_w]
    simp [wEn, wLv, tr_t]
def wrP (v2 c k : Nat) : Bool := wP 84 c k || abP v2 c k
section WO
variable {cx : gCx} {d : Nat} {ad : Nat → Nat} {t0 t : gSt} {post : Option Value → gSt → Prop} {v1 v2 p n : Nat} {l : List Nat} {nm : Int32 → List Nat} {par : Int32 → Nat}
theorem wrP_r {c k : Nat} (hv : isV v2) (h : (c = 83 ∧ k ≠ 5 ∧ k ≠ 6) ∨ (c ≠ 92 ∧ c ≠ 90 ∧ c ≠ 91 ∧ c ≠ 83 ∧ (c < 84 ∨ 89 < c))) : wrP v2 c k = false := by
  unfold wrP
  rw [abP_r hv (by omega), wP_out (by omega)]
  rfl
theorem gFr.w1 {u : gSt} (h : gFr ad (wP 84) t u) : gFr ad (wrP v2) t u := h.mo (fun c k q => by unfold wrP; rw [q]; rfl)
theorem gFr.w2 {u : gSt} (h : gFr ad (abP v2) t u) : gFr ad (wrP v2) t u := h.mo (fun c k q => by unfold wrP; rw [q, Bool.or_true])
theorem Qc.w {u : gSt} (hv : isV v2) (hF : gFr ad (wP 84) t u) (h : Qc ad v2 l t) : Qc ad v2 l u := by
  have hvl : v2 < 84 ∨ 89 < v2 := by rcases hv with rfl | rfl <;> decide
  have hvl2 : v2 < 199 := by rcases hv with rfl | rfl <;> decide
  refine ⟨?_, ?_, fun j c hj h6 => ?_⟩
  · rw [hF.i 83 5 (wP_out (by decide))]; exact h.1
  · rw [hF.i 83 6 (wP_out (by decide))]; exact h.2.1
  · rw [hF.i v2 j (wP_out (by omega)) hvl2]; exact h.2.2 j c hj h6
/-- the state at the loop's head -/
def wQ (ad : Nat → Nat) (v2 : Nat) (t0 : gSt) (l : List Nat) (t : gSt) : Prop := gFr ad (wrP v2) t0 t ∧ Qc ad v2 l t
theorem m_writeOut_loop {F : Fo} {s0 : Nat} {f : Int32} (hp : isP p) (hc : g_CS cx) (hv1 : isV v1) (hv : isV v2) (hr1 : t0.2.2.2 (ad 83) 1 = some (ad v1)) (hr : t0.2.2.2 (ad 83) 2 = some (ad v2)) (hr4 : t0.2.2.2 (ad 83) 4 = some (ad p)) (hpar : ∀ v, par v ≤ 900) (hRp : RPar t0 ad p n par) (hnm : RNm t0 ad p n nm) (hs : s0 + fo_n F ≤ c_len (p + 12)) (hrw : rows (t0.2.1 (ad (p + 12))) (t0.2.1 (ad (p + 13))) s0 (fo_p F)) (h1 : fo_l F = 1) (hV : fo_v n par vC F) (hn5 : fo_n F ≤ 500) (hL : Lay t0 ad) (hR : RW t0 ad 84 p [] s0 0) (hQ : Qc ad v2 [] t0)
    (hK : ∀ u, gFr ad (wrP v2) t0 u → Qc ad v2 (tr_t nm F) u → (u.2.1 (ad 83) 6 = 0 → ∀ t8, t8 = g_sr u (ad 83) 1 (some (ad v2)) → ∀ t10, t10 = g_sr t8 (ad 83) 2 (some (ad v1)) → ∀ t12, t12 = g_si t10 (ad 83) 7 (t10.2.1 (ad 83) 5) → post (some (.int 1)) t12) ∧ (¬ (u.2.1 (ad 83) 6 = 0) → post (some (.int 0)) u)) :
    g_W cx (g_E cx (d + 8)) mt_Writer_writeOut post (26, [some (.ref (ad 83)), some (.ref (ad p)), some (.int f), some (.int (nI 0))], [], t0, 0, 0) := by
  have hw : isW 84 := by simp [isW]
  have hpg := hp.ge
  have hpl := hp.lt
  have aP : ∀ c k, (c < 83 ∨ 92 < c) → wrP v2 c k = false := fun c k h => wrP_r hv (by omega)
  have R83 : ∀ {l t}, wQ ad v2 t0 l t → t.2.2.2 (ad 83) 1 = some (ad v1) ∧ t.2.2.2 (ad 83) 2 = some (ad v2) ∧ t.2.2.2 (ad 83) 4 = some (ad p) := fun h => ⟨by rw [h.1.r 83 1 (wrP_r hv (Or.inl ⟨rfl, by decide, by decide⟩))]; exact hr1, by rw [h.1.r 83 2 (wrP_r hv (Or.inl ⟨rfl, by decide, by decide⟩))]; exact hr, by rw [h.1.r 83 4 (wrP_r hv (Or.inl ⟨rfl, by decide, by decide⟩))]; exact hr4⟩
  have Rpar : ∀ {l t}, wQ ad v2 t0 l t → RPar t ad p n par := fun h => ⟨hRp.1, by rw [h.1.i p 15 (aP _ _ (by omega)) (by omega)]; exact hRp.2.1, fun g hg => by rw [h.1.i (p + 2) g (aP _ _ (by omega)) (by omega)]; exact hRp.2.2 g hg⟩
  have Rnm : ∀ {l t}, wQ ad v2 t0 l t → RNm t ad p n nm := fun h g hg => ⟨by rw [h.1.j (p + 1) g (aP _ _ (by omega)) (by omega)]; exact (hnm g hg).1, (hnm g hg).2⟩
  have wq1 : ∀ {l t u}, wQ ad v2 t0 l t → gFr ad (wP 84) t u → wQ ad v2 t0 l u := fun h hF => ⟨h.1.tr hF.w1, h.2.w hv hF⟩
  have har : ∀ k v, k_ar par k v < 1000 := by
    intro k v
    have := hpar v
    unfold k_ar
    split
    · omega
    · split
      · omega
      · split
        · omega
        · split <;> omega
  have rwf : ∀ {u u' : gSt} {st nx ev}, gFr ad (abP v2) u u' → RW u ad 84 p st nx ev → RW u' ad 84 p st nx ev := fun F h => h.fr hw F (fun j k hj => abP_r hv (by omega))
  refine visT_ok (Hd := fun m t => g_W cx (g_E cx (d + 8)) mt_Writer_writeOut post (26, [some (.ref (ad 83)), some (.ref (ad p)), some (.int f), some (.int (nI m))], [], t, 0, 0)) (Q := wQ ad v2 t0) (en := wEn nm) (lv := wLv) (bk := wBk) (w := 84) (p := p) (n := n) (par := par) (C := vC) (s0 := s0) (L := fo_p F) hpar (by rw [fo_pn]; exact hs) ?_ ?_ ?_ ?_ h1 hV rfl hn5 hR ⟨gFr.rf hL, hQ⟩ ?_
  · intro s t h i q hq
    rw [h.1.i (p + 12) _ (aP _ _ (by omega)) (by omega), h.1.i (p + 13) _ (aP _ _ (by omega)) (by omega)]
    exact hrw i q hq
  · intro m t s st nx ev k v hm hR hq hev htop hst hnx ek ev' hk hg hC hK2
    obtain ⟨q1, q2, q4⟩ := R83 hq
    refine x_Writer_writeOut_26 hp hv1 hv hq.1.L q1 q2 ⟨fun c => ?_, fun _ => ?_⟩
    · rw [show (1500 : Int32) = nI 1500 from rfl, nI_leI (by omega) (by omega)] at c
      omega
    · refine adv_enter hp hw hq.1.L (Rpar hq) hR hev htop hst hnx ek ev' hk hg (fun u hF hRu hlev => ?_)
      have hqu := wq1 hq hF
      obtain ⟨p1, p2, p4⟩ := R83 hqu
      refine ⟨1, rfl, hF.L, p1, p2, fun c => absurd c (by decide), fun _ => ⟨fun c => absurd (by rw [hRu.2.1]; rfl) c, fun _ => ?_⟩⟩
      rw [hlev]
      have hme := hRu.2.2.2.2 st.length (nx, k, v, 0, k_ar par k v) (by simp)
      refine m_Wenter hp hc hv hF.L p2 p4 hst hme.2.1 hme.2.2.1 hk hC hg hRp.1 (Rnm hqu) hqu.2 (fun u' F' q' => ⟨rfl, F'.L, ?_⟩)
      rw [nI_1]
      refine hK2 u' (rwf F' hRu) ⟨hqu.1.tr F'.w2, ?_⟩
      unfold wEn
      rw [gl_app]
      exact q'
  · intro m t s st nx ev nd k v hm hR hq hev hst hC hg hk hK2
    obtain ⟨q1, q2, q4⟩ := R83 hq
    refine x_Writer_writeOut_26 hp hv1 hv hq.1.L q1 q2 ⟨fun c => ?_, fun _ => ?_⟩
    · rw [show (1500 : Int32) = nI 1500 from rfl, nI_leI (by omega) (by omega)] at c
      omega
    · refine adv_leave hw hq.1.L hR hev hst (har k v) (fun u hF hRu hlev => ?_)
      have hqu := wq1 hq hF
      obtain ⟨p1, p2, p4⟩ := R83 hqu
      refine ⟨1, rfl, hF.L, p1, p2, fun c => absurd c (by decide), fun _ => ⟨fun _ => ⟨fun _ => ?_, fun c => absurd (by rw [hRu.2.1]; decide) c⟩, fun c => absurd (by rw [hRu.2.1]; decide) c⟩⟩
      rw [hlev]
      have hme := hRu.2.2.2.2 st.length (nd, k, v, k_ar par k v, k_ar par k v) (by simp)
      refine m_Wleave hc hv hF.L p2 hst hme.2.1 hqu.2 (fun u' F' q' => ⟨rfl, F'.L, ?_⟩)
      rw [nI_1]
      refine hK2 u' (rwf F' hRu) ⟨hqu.1.tr F'.w2, ?_⟩
      unfold wLv
      rw [gl_app]
      exact q'
  · intro m t s st nx nd k v dn top hm hR hq hst hdn hC hg hk hK2
    obtain ⟨q1, q2, q4⟩ := R83 hq
    refine x_Writer_writeOut_26 hp hv1 hv hq.1.L q1 q2 ⟨fun c => ?_, fun _ => ?_⟩
    · rw [show (1500 : Int32) = nI 1500 from rfl, nI_leI (by omega) (by omega)] at c
      omega
    · refine adv_behind hw hq.1.L hR hst (fun u hF hRu hlev hkid => ?_)
      have hqu := wq1 hq hF
      obtain ⟨p1, p2, p4⟩ := R83 hqu
      refine ⟨1, rfl, hF.L, p1, p2, fun c => absurd c (by decide), fun _ => ⟨fun _ => ⟨fun c => absurd (by rw [hRu.2.1]; rfl) c, fun _ => ?_⟩, fun c => absurd (by rw [hRu.2.1]; decide) c⟩⟩
      rw [hlev, hkid]
      have hme := hRu.2.2.2.2 st.length (nd, k, v, dn + 1, k_ar par k v) (by simp)
      refine m_Wbehind hp hc hv hF.L p2 p4 (Rpar hqu) (by omega) hme.2.1 hme.2.2.1 hk hg (har k v) hdn hqu.2 (fun u' F' q' => ⟨rfl, F'.L, ?_⟩)
      rw [nI_1]
      refine hK2 u' (rwf F' hRu) ⟨hqu.1.tr F'.w2, ?_⟩
      unfold wBk
      rw [gl_app]
      exact q'
  · intro u top nx hRu hqu
    rw [visT_w, List.nil_append] at hqu
    obtain ⟨q1, q2, q4⟩ := R83 hqu
    have hfn : 0 < fo_n F := by
      match F, h1 with
      | .inner _ _ _ _ _, _ => simp [fo_n]; omega
    refine x_Writer_writeOut_26 hp hv1 hv hqu.1.L q1 q2 ⟨fun c => ?_, fun _ => ?_⟩
    · rw [show (1500 : Int32) = nI 1500 from rfl, nI_leI (by omega) (by omega)] at c
      omega
    · refine adv_end hw hqu.1.L hRu (fun u' hF => ?_)
      have hqu' := wq1 hqu hF
      obtain ⟨p1, p2, p4⟩ := R83 hqu'
      exact ⟨0, rfl, hF.L, p1, p2, fun _ => hK u' hqu'.1 hqu'.2, fun c => absurd rfl c⟩
/-- write's work in the class: the text of the function's expression, or no room -/
theorem m_writeOut {F : Fo} {s0 f : Nat} (hp : isP p) (hc : g_CS cx) (hv1 : isV v1) (hv : isV v2) (hne : v1 ≠ v2) (hL : Lay t ad) (hr1 : t.2.2.2 (ad 83) 1 = some (ad v1)) (hr : t.2.2.2 (ad 83) 2 = some (ad v2)) (hpar : ∀ v, par v ≤ 900) (hRp : RPar t ad p n par) (hnm : RNm t ad p n nm) (hf : f < 24) (hst : t.2.1 (ad (p + 4)) f = nI s0) (hs : s0 + fo_n F ≤ c_len (p + 12)) (hrw : rows (t.2.1 (ad (p + 12))) (t.2.1 (ad (p + 13))) s0 (fo_p F)) (h1 : fo_l F = 1) (hV : fo_v n par vC F) (hn5 : fo_n F ≤ 500)
    (hA : ∀ u, gFr ad (fun c _ => (Nat.ble 83 c && Nat.ble c 92)) t u → 6000 < (tr_t nm F).length → u.2.2.2 (ad 83) 1 = some (ad v1) → u.2.2.2 (ad 83) 2 = some (ad v2) → u.2.1 (ad 83) 7 = t.2.1 (ad 83) 7 → (∀ j, u.2.1 (ad v1) j = t.2.1 (ad v1) j) → post (some (.int 0)) u)
    (hB : ∀ u, gFr ad (fun c _ => (Nat.ble 83 c && Nat.ble c 92)) t u → (tr_t nm F).length ≤ 6000 → u.2.2.2 (ad 83) 1 = some (ad v2) → u.2.2.2 (ad 83) 2 = some (ad v1) → u.2.1 (ad 83) 7 = nI (tr_t nm F).length → (∀ j c, (tr_t nm F)[j]? = some c → u.2.1 (ad v2) j = nI c) → post (some (.int 1)) u) : g_E cx (d + 9) i_Writer_writeOut [.ref (ad 83), .ref (ad p), .int (nI f)] t post := by
  have hpg := hp.ge
  have hpl := hp.lt
  have hvr : ∀ z, isV z → 90 ≤ z ∧ z ≤ 91 := fun z h => by rcases h with rfl | rfl <;> decide
  have v1r := hvr v1 hv1
  have v2r := hvr v2 hv
  have bt : ∀ c, 83 ≤ c → c ≤ 92 → (Nat.ble 83 c && Nat.ble c 92) = true := fun c h1 h2 => by rw [Nat.ble_eq_true_of_le h1, Nat.ble_eq_true_of_le h2]; rfl
  have w2b : ∀ {a b : gSt}, gFr ad (wrP v2) a b → gFr ad (fun c _ => (Nat.ble 83 c && Nat.ble c 92)) a b := fun h => h.mo (fun c k q => by
    refine Classical.byContradiction (fun z => ?_)
    have : wrP v2 c k = false := wrP_r hv (by
      right
      have : ¬ (83 ≤ c ∧ c ≤ 92) := fun y => z (bt c y.1 y.2)
      omega)
    rw [this] at q
    cases q)
  have wb : ∀ {a b : gSt}, gFr ad (wP 84) a b → gFr ad (fun c _ => (Nat.ble 83 c && Nat.ble c 92)) a b := fun h => w2b (h.w1 (v2 := v2))
  refine x_Writer_writeOut hp hL (fun t1 e1 t2 e2 t3 e3 => ?_)
  have F3 : gFr ad (fun c _ => (Nat.ble 83 c && Nat.ble c 92)) t t3 := by
    rw [e3, e2, e1]
    exact (((gFr.rf hL).si rfl).si rfl).sr rfl (by decide +kernel)
  have i3 : ∀ c k, c < 199 → c ≠ 83 → t3.2.1 (ad c) k = t.2.1 (ad c) k := fun c k hc h => by
    rw [e3]
    show t2.2.1 (ad c) k = _
    rw [e2, g_rd_ne (hL.ne c 83 hc (by decide) h), e1, g_rd_ne (hL.ne c 83 hc (by decide) h)]
  have j3 : ∀ c k, t3.2.2.1 (ad c) k = t.2.2.1 (ad c) k := fun c k => by rw [e3, e2, e1]; rfl
  have r3 : ∀ k, k ≠ 4 → t3.2.2.2 (ad 83) k = t.2.2.2 (ad 83) k := fun k h => by
    rw [e3, g_rr_o (Or.inr h), e2, e1]; rfl
  refine m_begin hp (by simp [isW]) F3.L hf (by rw [i3 _ _ (by omega) (by omega)]; exact hst) (fun u5 F5 R5 => ⟨rfl, F5.L, ?_⟩)
  have F53 := F3.tr (wb F5)
  have w0 : ∀ c k, c < 84 ∨ 89 < c → wP 84 c k = false := fun c k h => wP_out (by omega)
  refine m_writeOut_loop (v1 := v1) (v2 := v2) (n := n) (par := par) (nm := nm) (F := F) (s0 := s0) hp hc hv1 hv ?_ ?_ ?_ hpar ⟨hRp.1, ?_, fun g hg => ?_⟩ (fun g hg => ⟨?_, (hnm g hg).2⟩) hs (fun i q hq => ?_) h1 hV hn5 F5.L R5 ⟨?_, ?_, fun j c hj => by cases hj⟩ (fun u hF hq => ?_)
  · rw [F5.r 83 1 (w0 _ _ (by decide)), r3 1 (by decide)]; exact hr1
  · rw [F5.r 83 2 (w0 _ _ (by decide)), r3 2 (by decide)]; exact hr
  · rw [F5.r 83 4 (w0 _ _ (by decide)), e3, g_rr_at]
  · rw [F5.i p 15 (w0 _ _ (by omega)) (by omega), i3 _ _ (by omega) (by omega)]; exact hRp.2.1
  · rw [F5.i (p + 2) g (w0 _ _ (by omega)) (by omega), i3 _ _ (by omega) (by omega)]; exact hRp.2.2 g hg
  · rw [F5.j (p + 1) g (w0 _ _ (by omega)) (by omega), j3]; exact (hnm g hg).1
  · rw [F5.i (p + 12) _ (w0 _ _ (by omega)) (by omega), F5.i (p + 13) _ (w0 _ _ (by omega)) (by omega), i3 _ _ (by omega) (by omega), i3 _ _ (by omega) (by omega)]; exact hrw i q hq
  · rw [F5.i 83 5 (w0 _ _ (by decide)), e3]
    show t2.2.1 (ad 83) 5 = _
    rw [e2, g_rd_k (by decide), e1, g_rd_at]
    rfl
  · rw [F5.i 83 6 (w0 _ _ (by decide)), e3]
    show t2.2.1 (ad 83) 6 = _
    rw [e2, g_rd_at]
    rfl
  · have FU := F53.tr (w2b hF)
    obtain ⟨q1, q2, q3⟩ := hq
    have ur1 : u.2.2.2 (ad 83) 1 = some (ad v1) := by rw [hF.r 83 1 (wrP_r hv (Or.inl ⟨rfl, by decide, by decide⟩)), F5.r 83 1 (w0 _ _ (by decide)), r3 1 (by decide)]; exact hr1
    have ur2 : u.2.2.2 (ad 83) 2 = some (ad v2) := by rw [hF.r 83 2 (wrP_r hv (Or.inl ⟨rfl, by decide, by decide⟩)), F5.r 83 2 (w0 _ _ (by decide)), r3 2 (by decide)]; exact hr
    refine ⟨fun c t8 e8 t10 e10 t12 e12 => ?_, fun c => ?_⟩
    · have hle : (tr_t nm F).length ≤ 6000 := by
        rw [q2] at c
        have := b32_0.mp c
        have := of_decide_eq_false this
        omega
      have n1 : ∀ k, (k = 1 ∨ k = 2) → (83 < 199 ∧ ∀ q ∈ g_refs, ¬ (q.1 = 83 ∧ q.2.1 = k)) := by rintro k (rfl | rfl) <;> decide +kernel
      have F12 : gFr ad (fun c _ => (Nat.ble 83 c && Nat.ble c 92)) t t12 := by
        rw [e12, e10, e8]
        exact ((FU.sr rfl (n1 1 (Or.inl rfl))).sr rfl (n1 2 (Or.inr rfl))).si rfl
      refine hB t12 F12 hle ?_ ?_ ?_ (fun j c hj => ?_)
      · rw [e12]
        show t10.2.2.2 (ad 83) 1 = _
        rw [e10, g_rr_o (Or.inr (by decide)), e8, g_rr_at]
      · rw [e12]
        show t10.2.2.2 (ad 83) 2 = _
        rw [e10, g_rr_at]
      · rw [e12, g_rd_at, e10, e8]
        show u.2.1 (ad 83) 5 = _
        rw [q1]
        congr 1
        omega
      · rw [e12, g_rd_ne (hL.ne v2 83 (by omega) (by decide) (by omega)), e10, e8]
        show u.2.1 (ad v2) j = _
        exact q3 j c hj (by have := (List.getElem?_eq_some_iff.mp hj).1; omega)
    · have hle : 6000 < (tr_t nm F).length := by
        refine Classical.byContradiction (fun z => c ?_)
        rw [q2, show decide (6000 < (tr_t nm F).length) = false from decide_eq_false z]
        rfl
      refine hA u FU hle ur1 ur2 ?_ (fun j => ?_)
      · rw [hF.i 83 7 (wrP_r hv (Or.inl ⟨rfl, by decide, by decide⟩)), F5.i 83 7 (w0 _ _ (by decide)), e3]
        show t2.2.1 (ad 83) 7 = _
        rw [e2, g_rd_k (by decide), e1, g_rd_k (by decide)]
      · have hb : wrP v2 v1 j = false := by
          have e : ∀ a b : Nat, a ≠ b → Nat.beq a b = false := fun a b h => Bool.eq_false_iff.mpr (fun q => h (Nat.eq_of_beq_eq_true q))
          unfold wrP abP baP
          rw [w0 v1 j (by omega), e v1 92 (by omega), e v1 v2 hne, e v1 83 (by omega)]
          rfl
        rw [hF.i v1 j hb (by omega), F5.i v1 j (w0 _ _ (by omega)) (by omega), i3 _ _ (by omega) (by omega)]
end WO
