/-! THE CLASS READS A WHOLE TEXT -/
theorem fo_p_mv {g : Int32 → Int32} : ∀ F : Fo, fo_p (fo_mv g F) = (fo_p F).map (fun q => (q.1, if q.1 = 15 then g q.2 else q.2))
  | .inner z k v a b => by simp only [fo_mv, fo_p, fo_p_mv a, fo_p_mv b, List.map_cons, List.map_append]
  | .leaf => rfl
theorem fo_pg {N : Nat} {par : Int32 → Nat} : ∀ (F : Fo) (S : Nat → List Int32), fo_w N par F S → ∀ q ∈ fo_p F, q.1 = 15 → ∃ c, q.2 = nI c ∧ c < N
  | .inner z k v a b, S, h, q, hq, e => by
    unfold fo_p at hq
    rcases List.mem_cons.mp hq with hq | hq
    · rw [hq] at e ⊢
      exact h.2.2.2.1 e
    · rcases List.mem_append.mp hq with hq | hq
      · exact fo_pg a _ h.2.2.2.2.1 q hq e
      · exact fo_pg b _ h.2.2.2.2.2 q hq e
  | .leaf, _, _, q, hq, _ => by cases hq
theorem pcl_ar {N : Nat} {ac : Nat → Nat} {c : Nat} : ∀ (F : Fo) (S : Nat → List Int32), fo_w N (fun v => ac v.toNatClampNeg) F S → c ∈ pcl F → ac c ≤ fo_n F
  | .inner z k v a b, S, h, hc => by
    obtain ⟨h1, h2, h3, h4, h5, h6⟩ := h
    unfold pcl at hc
    have en : fo_n (.inner z k v a b) = fo_n a + 1 + fo_n b := rfl
    rcases List.mem_append.mp hc with hc | hc
    · rcases List.mem_append.mp hc with hc | hc
      · by_cases e : k = 15
        · rw [if_pos e] at hc
          have ev := List.mem_singleton.mp hc
          have : fo_l a = ac v.toNatClampNeg := by rw [h2, e]; rfl
          have := fo_ln a
          rw [ev]
          omega
        · rw [if_neg e] at hc; cases hc
      · have := pcl_ar a _ h5 hc; omega
    · have := pcl_ar b _ h6 hc; omega
  | .leaf, _, _, hc => by cases hc
abbrev FDm (g : Int32 → Int32) (q : FD) : FD := (q.1, q.2.1, q.2.2.1, fo_mv g q.2.2.2)
abbrev allR (FS : List FD) : List (Int32 × Int32) := (FS.map (fun q => fo_p q.2.2.2)).flatten
theorem allR_len : ∀ FS : List FD, (allR FS).length = fdsz FS
  | [] => rfl
  | q :: FS => by
    unfold allR fdsz
    rw [List.map_cons, List.flatten_cons, List.length_append, fo_pn, List.map_cons, List.sum_cons]
    have := allR_len FS
    unfold allR fdsz at this
    omega
theorem rows_all {ad : Nat → Nat} {p : Nat} {t : gSt} : ∀ (FS : List FD) (s : Nat), (∀ f q, FS[f]? = some q → rowC ad p (s + fdsz (FS.take f)) (fo_p q.2.2.2) t) → rowC ad p s (allR FS) t
  | [], s, _ => fun i q hq => by cases hq
  | r :: FS, s, h => by
    unfold allR
    rw [List.map_cons, List.flatten_cons]
    have h0 := h 0 r rfl
    rw [List.take_zero, show fdsz [] = 0 from rfl, Nat.add_zero] at h0
    refine rowC.ap h0 ?_
    rw [fo_pn]
    refine rows_all FS (s + fo_n r.2.2.2) (fun f q hq => ?_)
    have := h (f + 1) q (by rw [List.getElem?_cons_succ]; exact hq)
    rw [List.take_succ_cons, show fdsz (r :: FS.take f) = fo_n r.2.2.2 + fdsz (FS.take f) by unfold fdsz; rw [List.map_cons, List.sum_cons], ← Nat.add_assoc] at this
    exact this
theorem rows_each {ad : Nat → Nat} {p : Nat} {t : gSt} : ∀ (FS : List FD) (s : Nat), rowC ad p s (allR FS) t → ∀ f q, FS[f]? = some q → rowC ad p (s + fdsz (FS.take f)) (fo_p q.2.2.2) t
  | [], s, _, f, q, hq => by cases hq
  | r :: FS, s, h, 0, q, hq => by
    have hq : r = q := by simpa using hq
    subst hq
    rw [List.take_zero, show fdsz [] = 0 from rfl, Nat.add_zero]
    intro i z hz
    refine h i z ?_
    unfold allR
    rw [List.map_cons, List.flatten_cons, List.getElem?_append_left (List.getElem?_eq_some_iff.mp hz).1]
    exact hz
  | r :: FS, s, h, f + 1, q, hq => by
    rw [List.getElem?_cons_succ] at hq
    rw [List.take_succ_cons, show fdsz (r :: FS.take f) = fo_n r.2.2.2 + fdsz (FS.take f) by unfold fdsz; rw [List.map_cons, List.sum_cons], ← Nat.add_assoc]
    refine rows_each FS (s + fo_n r.2.2.2) (fun i z hz => ?_) f q hq
    have := h (fo_n r.2.2.2 + i) z (by
      unfold allR
      rw [List.map_cons, List.flatten_cons, List.getElem?_append_right (by rw [fo_pn]; omega), fo_pn, show fo_n r.2.2.2 + i - fo_n r.2.2.2 = i by omega]
      exact hz)
    rw [← Nat.add_assoc] at this
    exact this
theorem allR_mv {g : Int32 → Int32} (FS : List FD) : allR (FS.map (FDm g)) = (allR FS).map (fun q => (q.1, if q.1 = 15 then g q.2 else q.2)) := by
  unfold allR
  rw [List.map_flatten, List.map_map, List.map_map]
  congr 1
  refine List.map_congr_left (fun q _ => ?_)
  exact fo_p_mv q.2.2.2
theorem fdsz_mv {g : Int32 → Int32} (FS : List FD) : fdsz (FS.map (FDm g)) = fdsz FS := by
  unfold fdsz
  rw [List.map_map]
  congr 1
  exact List.map_congr_left (fun q _ => fo_n_mv q.2.2.2)
/-- the model's read ends with a fault -/
def SemB (cx : gCx) (d : Nat) (ad : Nat → Nat) (T : Nat → Nat) (n c q : Nat) : Prop := ∀ (t0 : gSt) (post : Option Value → gSt → Prop) (t : gSt), MFR ad T n t0 0 [] [] (fun _ => 0) t → (∀ u, DF ad t0 c q u → post (some (.int (-10 - nI c))) u) → HdR cx d ad post t
/-- or with functions -/
def SemG (cx : gCx) (d : Nat) (ad : Nat → Nat) (T : Nat → Nat) (n : Nat) (FS : List FD) (cl : CL) : Prop := ∀ (t0 : gSt) (post : Option Value → gSt → Prop) (t : gSt), MFR ad T n t0 0 [] [] (fun _ => 0) t → (∀ u o2 o3, gFr ad (fun c k => mfuP c k || (Nat.beq c 144 && Nat.beq k 11)) t0 u → lvM ad u → u.2.1 (ad 144) 23 = nI FS.length → u.2.1 (ad 144) 11 = nI FS.length → (∀ f q, FS[f]? = some q → mFn ad (tgI FS cl) f q u) → WR cx d ad post 214 [some (.int 0), o2, o3] u) → HdR cx d ad post t
section RI
variable {cx : gCx} {d dm : Nat} {ad : Nat → Nat} {T : Nat → Nat} {n p : Nat} {t u : gSt} {post : Option Value → gSt → Prop}
theorem RfF.B {c q : Nat} (h : RfF cx dm ad T n 0 [] [] (fun _ => 0) c q) : SemB cx dm ad T n c q := fun t0 post t hm k => h t0 post t hm (fun u hu => by
  have e : post (some (.int (-10 - u.2.1 (ad 144) 3))) u := by rw [hu.2.2.1]; exact k u hu
  refine x_Mo_read_35 hu.1.L ⟨fun _ => x_Mo_read_58 hu.1.L ⟨fun _ => ⟨fun z => absurd z hu.2.ne.2, fun _ => e⟩, fun _ => ⟨fun _ => ⟨fun z => absurd z hu.2.ne.2, fun _ => e⟩, fun z => absurd hu.2.ne.1 z⟩⟩, fun z => absurd hu.2.ne.1 z⟩)
/-- a definition behind a fault -/
theorem d_def (hp : isQ p) (hL : Lay t ad) (h7 : t.2.2.2 (ad 3) 7 = some (ad p)) {c q : Nat} (hd : ddC ad c q t) (k1 : ∀ u, gFr ad (rdP p) t u → ddC ad c q u → post none u) : g_E cx (d + 4) i_Reader_readDefinition [.ref (ad 3)] t post := by
  refine x_Reader_readDefinition hp.P hL h7 (fun x1 e1 t2 e2 t3 e3 t4 e4 t5 e5 t6 e6 => ?_)
  have F6 : gFr ad (fun c k => Nat.beq c 3 && (Nat.beq k 9 || Nat.beq k 10 || Nat.beq k 12 || Nat.beq k 13 || Nat.beq k 14)) t t6 := by rw [e6, e5, e4, e3, e2]; exact (((((gFr.rf hL).si rfl).si rfl).si rfl).si rfl).si rfl
  have d6 := hd.fr F6 (fun k => rfl)
  refine x_Reader_readFunctionName hp.P F6.L (m_needD F6.L d6.ne (by decide) ⟨_, rfl, F6.L, fun z => absurd rfl z, fun _ => ⟨_, rfl, F6.L, fun _ => x_Reader_readDefinition_59 F6.L (k1 t6 (F6.mo (fun c k z => ?_)) d6), fun z => absurd rfl z⟩⟩)
  simp only [Bool.or_eq_true, Bool.and_eq_true, Nat.beq_eq] at z
  rw [rdP_i]
  omega
theorem m_readInto (hcs : g_CS cx) (hp : isQ p) (hT : txt T n) (hL : Lay t ad) (htx : ∀ j, j < n → bx (t.2.1 (ad 1) j) (T j))
    (kl : ∀ FS cl ac a u, FOK FS cl ac a → a ≤ n → (∀ c, c < cl.length → clG FS cl ac c) → gFr ad (rdP p) t u → u.2.1 (ad p) 15 = nI FS.length → (∀ f q, FS[f]? = some q → cFn ad p f (FDm (tgI FS cl) q) (fdsz (FS.take f)) u) → SemG cx dm ad T n FS cl → post (some (.int 0)) u)
    (kd : ∀ c q u, 1 ≤ c ∧ c ≤ 7 → gFr ad (rdP p) t u → u.2.1 (ad 4) 9 = nI q → SemB cx dm ad T n c q → post (some (.int (nI c))) u) : g_E cx (d + 7 * 30 + 32) i_Reader_readInto [.ref (ad 3), .ref (ad p), .ref (ad 1), .int (nI n)] t post := by
  have hpg := hp.ge
  have hn := hT.1
  have ne : ∀ c c', c < 199 → c' < 199 → c ≠ c' → ad c ≠ ad c' := fun c c' h1 h2 h3 => hL.ne c c' h1 h2 h3
  have fin : ∀ (w : gSt) (l4 : Int32) (c q : Nat), gFr ad (rdP p) t w → ddC ad c q w → SemB cx dm ad T n c q → g_W cx (g_E cx (d + 7 * 30 + 31)) mt_Reader_readInto post (71, [some (.ref (ad 3)), some (.ref (ad p)), some (.ref (ad 1)), some (.int (nI n)), some (.int l4)], [], w, 0, 0) := fun w l4 c q Fw hd hs => x_Reader_readInto_71 hp.P Fw.L ⟨fun _ => x_Reader_readInto_85 hp.P Fw.L ⟨fun _ => x_Reader_readInto_99 hp.P Fw.L (by rw [hd.2.1]; exact kd c q w hd.1 Fw hd.2.2 hs), fun z => absurd hd.ne z⟩, fun z => absurd hd.ne z⟩
  -- all functions are read
  have endT : ∀ (a : Nat) (FS : List FD) (cl : CL) (ac : Nat → Nat) (w : gSt) (l4 : Int32), gFr ad (rdP p) t w → CFR ad T n p a FS cl ac w → FOK FS cl ac a → a ≤ n → tkK T n a = 0 → RcF cx dm ad T n 0 [] [] (fun _ => 0) a FS cl ac → g_W cx (g_E cx (d + 7 * 30 + 31)) mt_Reader_readInto post (71, [some (.ref (ad 3)), some (.ref (ad p)), some (.ref (ad 1)), some (.int (nI n)), some (.int l4)], [], w, 0, 0) := by
    intro a FS cl ac w l4 Fw hC hO ha hend hR
    obtain ⟨c1, c2, c3, c4, c5, c6, c7, c8⟩ := hC
    have hcl : cl.length ≤ 1000 := by have := hO.1.2.2; omega
    have hac : ∀ c, c < cl.length → ac c < 2 ^ 20 := fun c hc => by
      obtain ⟨f, q, hq, hcq, _⟩ := hO.own hc
      have hqm := List.mem_of_getElem? hq
      have h1 := pcl_ar _ _ (hO.2.2.2.1 q hqm).2.2.2.2.1 hcq
      have := (hO.s q hqm).1
      omega
    have hck : ∀ q ∈ cl, nm_ok q.1 := fun q hq => (hO.2.1.2 q hq).2
    have tc : TCr ad p FS cl ac w := ⟨c3, c4, c5, c7, fun f q hq => ⟨(c8 f q hq).1, (c8 f q hq).2.1⟩⟩
    refine x_Reader_readInto_71 hp.P Fw.L ⟨fun z => absurd c2.1 z, fun _ => m_findT (FS := FS) hp Fw.L tc hO.1.1 hcl hO.ok hck (fun q hq => (hO.s q hq).2.1) hac c2.1 (fun hG v Fv v0 v8 => ⟨rfl, Fv.L, ?_⟩) (fun c k hc hg hb v Fv hd => ⟨rfl, Fv.L, ?_⟩)⟩
    · have b : ∀ c k, ¬ (c = 8 ∨ (c = 4 ∧ (k = 8 ∨ k = 9))) → ftP c k = false := fun c k z => bool_r ftP_i z
      have hrow : rowC ad p 0 (allR FS) v := rows_all FS 0 (fun f q hq => by
        rw [Nat.zero_add]
        exact (c8 f q hq).2.2.2.2.2.2.be (bel.fr (by omega) Fv (fun c k z => b _ _ (by omega))) (Nat.le_refl _))
      have hlen := allR_len FS
      have hfz := hO.1.2.1
      refine x_Reader_readInto_85 hp.P Fv.L ⟨fun z => absurd v0 z, fun _ => m_setT (FS := FS) (cl := cl) (L := allR FS) (U := 0) hp Fv.L (by rw [Fv.r 3 7 (b _ _ (by omega))]; exact c3) (by rw [Fv.i 3 8 (b _ _ (by omega))]; exact c5) (by rw [Fv.i 3 11 (b _ _ (by omega)), hlen]; exact c6) (by omega) hcl v8 hrow (fun q hq e => ?_) (fun y Fy hy => ⟨rfl, Fy.L, x_Reader_readInto_99 hp.P Fy.L ?_⟩)⟩
      · obtain ⟨l, hl, hql⟩ := List.mem_flatten.mp hq
        obtain ⟨q0, hq0, el⟩ := List.mem_map.mp hl
        rw [← el] at hql
        exact fo_pg _ _ (hO.2.2.2.1 q0 hq0).2.2.2.2.1 q hql e
      · have y8 : y.2.1 (ad 4) 8 = 0 := by rw [Fy.i 4 8 (onP_r (by omega))]; exact v0
        rw [y8]
        have Fvy : gFr ad (fun c k => ftP c k || onP (p + 13) c k) w y := (Fv.mo (fun c k z => by rw [z]; rfl)).tr (Fy.mo (fun c k z => by rw [z, Bool.or_true]))
        have bb : ∀ c k, ¬ (c = 8 ∨ (c = 4 ∧ (k = 8 ∨ k = 9)) ∨ c = p + 13) → (ftP c k || onP (p + 13) c k) = false := fun c k z => by
          rw [b c k (by omega), onP_r (by omega)]; rfl
        refine kl FS cl ac a y hO ha hG (Fw.tr (Fvy.mo (fun c k z => ?_))) (by rw [Fvy.i p 15 (bb _ _ (by omega)) (by omega)]; exact c4) (fun f q hq => ?_) (fun t0 post t hm k => hR t0 post t hm (fun u hu => m_tg hT hu ha hO hend hac hcl (fun _ => k) (fun c k' hc hg hb => ?_)))
        · rw [Bool.or_eq_true, ftP_i] at z
          rw [rdP_i]
          rcases z with z | z
          · omega
          · have := Nat.eq_of_beq_eq_true z
            omega
        · rw [← allR_mv] at hy
          have hy' := rows_each _ 0 hy f (FDm (tgI FS cl) q) (by rw [List.getElem?_map, hq]; rfl)
          rw [Nat.zero_add, ← List.map_take, fdsz_mv] at hy'
          obtain ⟨r1, r2, r3, r4, r5, r6, r7⟩ := c8 f q hq
          refine ⟨?_, ?_, ?_, ?_, ?_, ?_, hy'⟩
          · rw [Fvy.j (p + 1) f (bb _ _ (by omega)) (by omega)]; exact r1
          · rw [Fvy.i (p + 2) f (bb _ _ (by omega)) (by omega)]; exact r2
          · rw [Fvy.i (p + 3) f (bb _ _ (by omega)) (by omega)]; exact r3
          · rw [Fvy.i (p + 6) f (bb _ _ (by omega)) (by omega)]; exact r4
          · rw [Fvy.i (p + 4) f (bb _ _ (by omega)) (by omega)]; exact r5
          · rw [Fvy.i (p + 5) f (bb _ _ (by omega)) (by omega)]
            show _ = nI (fo_n (fo_mv (tgI FS cl) q.2.2.2))
            rw [fo_n_mv]
            exact r6
        · exact absurd hb (by
            obtain ⟨f, q, hq, e1, e2, e3⟩ := hG c hc
            rintro (⟨_, h6⟩ | ⟨_, f', q', hq', e1', e2', e3'⟩)
            · exact h6 q (List.mem_of_getElem? hq) e1
            · rw [← e3'] at e3
              rw [e3, hq'] at hq
              rw [Option.some.inj hq] at e2'
              exact e2' e2)
    · have hk7 : 1 ≤ k ∧ k ≤ 7 := hd.1
      refine x_Reader_readInto_85 hp.P Fv.L ⟨fun _ => x_Reader_readInto_99 hp.P Fv.L ?_, fun z => absurd hd.ne z⟩
      rw [hd.2.1]
      refine kd k (clP cl c) v hk7 (Fw.tr (Fv.mo (fun c k z => ?_))) hd.2.2 (fun t0 post t hm k2 => hR t0 post t hm (fun u hu => m_tg hT hu ha hO hend hac hcl (fun hG => ?_) (fun c' k' hc' hg' hb' => ?_)))
      · rw [ftP_i] at z
        rw [rdP_i]
        omega
      · exact absurd hb (by
          obtain ⟨f, q, hq, e1, e2, e3⟩ := hG c hc
          rintro (⟨_, h6⟩ | ⟨_, f', q', hq', e1', e2', e3'⟩)
          · exact h6 q (List.mem_of_getElem? hq) e1
          · rw [← e3'] at e3
            rw [e3, hq'] at hq
            rw [Option.some.inj hq] at e2'
            exact e2' e2)
      · have contra : ∀ c k, clG FS cl ac c → clB FS cl ac c k → False := fun c k hgc hbc => by
          obtain ⟨f, q, hq, e1, e2, e3⟩ := hgc
          rcases hbc with ⟨_, h6⟩ | ⟨_, f', q', hq', e1', e2', e3'⟩
          · exact h6 q (List.mem_of_getElem? hq) e1
          · rw [← e3'] at e3
            rw [e3, hq'] at hq
            rw [Option.some.inj hq] at e2'
            exact e2' e2
        have ec : c' = c := by
          rcases Nat.lt_trichotomy c' c with z | z | z
          · exact (contra c' k' (hg c' z) hb').elim
          · exact z
          · exact (contra c k (hg' c z) hb).elim
        subst ec
        have ek : k' = k := by
          rcases hb with ⟨ek, h6⟩ | ⟨ek, f, q, hq, e1, e2, e3⟩ <;> rcases hb' with ⟨ek', h6'⟩ | ⟨ek', f', q', hq', e1', e2', e3'⟩
          · omega
          · exact absurd e1' (h6 q' (List.mem_of_getElem? hq'))
          · exact absurd e1 (h6' q (List.mem_of_getElem? hq))
          · omega
        subst ek
        exact k2
  -- definition by definition
  have loop : ∀ (m i a : Nat) (FS : List FD) (cl : CL) (ac : Nat → Nat) (w : gSt), n - a = m → i ≤ a → a ≤ n → gFr ad (rdP p) t w → CFR ad T n p a FS cl ac w → FOK FS cl ac a → RcF cx dm ad T n 0 [] [] (fun _ => 0) a FS cl ac → g_W cx (g_E cx (d + 7 * 30 + 31)) mt_Reader_readInto post (32, [some (.ref (ad 3)), some (.ref (ad p)), some (.ref (ad 1)), some (.int (nI n)), some (.int (nI i))], [], w, 0, 0) := by
    intro m
    induction m using Nat.strongRecOn with
    | ind m ih =>
    intro i a FS cl ac w hm hi ha Fw hC hO hR
    obtain ⟨c1, c2, c3, c4, c5, c6, c7, c8⟩ := id hC
    have rB : ∀ c q, RfF cx dm ad T n a FS cl ac c q → SemB cx dm ad T n c q := fun c q h => RfF.B (fun t0 post t hm k => hR t0 post t hm (fun u hu => h t0 post u hu k))
    refine x_Reader_readInto_32 hp.P Fw.L ⟨fun z => ?_, fun _ => ⟨fun z => absurd c2.1 z, fun _ => ?_⟩⟩
    · rw [show (3000 : Int32) = nI 3000 from rfl, nI_ltI (by decide) (by omega)] at z
      omega
    refine m_isAtC (kk := 0) (by decide) rfl hcs Fw.L c1 ha c2 (fun u1 F1 h1 => ⟨_, rfl, F1.L, fun z => ?_, fun z => ?_⟩) (fun h23 u1 F1 h1 => ⟨_, rfl, F1.L, fun z => absurd rfl z, fun _ => ?_⟩)
    · have k0 : tkK T n a = 0 := Classical.byContradiction (fun y => z (b32_f y))
      have bF : ∀ c k, c ≠ 4 → tcP c k = false := fun c k z => bool_r tcP_i (by omega)
      refine endT a FS cl ac u1 _ (Fw.tr (F1.mo (fun c k z => rd_hd (e := 0) (hd_tc z)))) ⟨c1.fr F1 rfl rfl (fun _ => rfl), h1.cu, by rw [F1.r 3 7 rfl]; exact c3, by rw [F1.i p 15 (bF _ _ (by omega)) (by omega)]; exact c4, by rw [F1.i 3 8 rfl]; exact c5, by rw [F1.i 3 11 rfl]; exact c6, c7.be (bc F1 cl.length) (Nat.le_refl _), fun f q hq => (c8 f q hq).fr hp F1 (fun c k z => bF _ _ (by omega)) ((bt hp F1) _)⟩ hO ha k0 hR
    · have k0 : ¬ tkK T n a = 0 := b32_d.mp (Classical.not_not.mp z)
      have bF : ∀ c k, c ≠ 4 → tcP c k = false := fun c k z => bool_r tcP_i (by omega)
      have G1 := Fw.tr (F1.mo (fun c k z => rd_hd (p := p) (e := 0) (hd_tc z)))
      refine m_def (dm := dm) hcs hp hT F1.L (a := a) (FS := FS) (cl := cl) (ac := ac) ⟨c1.fr F1 rfl rfl (fun _ => rfl), h1.cu, by rw [F1.r 3 7 rfl]; exact c3, by rw [F1.i p 15 (bF _ _ (by omega)) (by omega)]; exact c4, by rw [F1.i 3 8 rfl]; exact c5, by rw [F1.i 3 11 rfl]; exact c6, c7.be (bc F1 cl.length) (Nat.le_refl _), fun f q hq => (c8 f q hq).fr hp F1 (fun c k z => bF _ _ (by omega)) ((bt hp F1) _)⟩ hO ha k0 (fun a' FS' cl' ac' u Fu hCu hOu haa ha' hr => ⟨rfl, Fu.L, ?_⟩) (fun c q u Fu hd hr => ⟨rfl, Fu.L, ?_⟩)
      · rw [nI_1]
        exact ih (n - a') (by omega) (i + 1) a' FS' cl' ac' u rfl (by omega) ha' (G1.tr Fu) hCu hOu (fun t0 post t hm k => hR t0 post t hm (fun v hv => hr t0 post v hv k))
      · exact x_Reader_readInto_32 hp.P Fu.L ⟨fun _ => fin u _ c q (G1.tr Fu) hd (rB c q hr), fun _ => ⟨fun _ => fin u _ c q (G1.tr Fu) hd (rB c q hr), fun z => absurd hd.ne z⟩⟩
    · have G1 := Fw.tr (F1.mo (fun c k z => rd_hd (p := p) (e := 0) (hd_tc z)))
      have hr : RfF cx dm ad T n a FS cl ac 1 (tkS T n a) := fun t0 post t hm k => by
        refine f_go hT hm ha hO.s hO.ok hO.1.1 (by omega) (fun _ u hu => ?_) (fun z => by omega) (fun z => by omega) (fun z => by omega) (fun z => by omega) (fun z => by omega) (fun z => by omega)
        rw [show fcd T n a = 1 from if_pos h23] at hu
        exact k u hu
      refine d_def hp F1.L (by rw [F1.r 3 7 rfl]; exact c3) h1 (fun u Fu hd => ⟨rfl, Fu.L, ?_⟩)
      exact x_Reader_readInto_32 hp.P Fu.L ⟨fun _ => fin u _ 1 _ (G1.tr Fu) hd (rB _ _ hr), fun _ => ⟨fun _ => fin u _ 1 _ (G1.tr Fu) hd (rB _ _ hr), fun z => absurd hd.ne z⟩⟩
  refine x_Reader_readInto hp.P hL (x_Tokens_begin hL (fun t1 e1 t3 e3 t4 e4 t5 e5 t6 e6 t7 e7 => ⟨rfl, ?_, fun s3 es3 s5 es5 s6 es6 s7 es7 => ?_⟩))
  · rw [e7, e6, e5, e4, e3, e1]; exact ((((((gFr.rf hL).sr (P := fun _ _ => true) rfl (by decide +kernel)).L.si).si).si).si).si
  have F1 : gFr ad (rdP p) t t1 := by rw [e1]; exact (gFr.rf hL).sr (rdP_i.mpr (by omega)) (by decide +kernel)
  have elen : Int32.ofNat (t1.1.2.2 (ad 1)) = nI 3000 := by rw [F1.L.l 1 (by decide)]; rfl
  rw [elen, if_neg (fun z => by rw [nI_ltI (by decide) (by omega)] at z; omega)] at e3
  have F7 : gFr ad (rdP p) t t7 := by rw [e7, e6, e5, e4, e3]; exact ((((F1.si (rdP_i.mpr (by omega))).si (rdP_i.mpr (by omega))).si (rdP_i.mpr (by omega))).si (rdP_i.mpr (by omega))).si (rdP_i.mpr (by omega))
  have G3 : gFr ad (rdP p) t s3 := by rw [es3]; exact F7.sr (rdP_i.mpr (by omega)) (by decide +kernel)
  have G7 : gFr ad (rdP p) t s7 := by rw [es7, es6, es5]; exact ((G3.si (rdP_i.mpr (by omega)) (by omega)).si (rdP_i.mpr (by omega))).si (rdP_i.mpr (by omega))
  have i4 : ∀ k, s7.2.1 (ad 4) k = t7.2.1 (ad 4) k := fun k => by rw [es7, g_rd_ne (ne 4 3 (by decide) (by decide) (by decide)), es6, g_rd_ne (ne 4 3 (by decide) (by decide) (by decide)), es5, g_rd_ne (ne 4 p (by decide) (by omega) (by omega)), es3, g_sr_i]
  have r40 : s7.2.2.2 (ad 4) 0 = some (ad 1) := by rw [es7, g_si_r, es6, g_si_r, es5, g_si_r, es3, g_rr_o (Or.inl (ne 4 3 (by decide) (by decide) (by decide))), e7, g_si_r, e6, g_si_r, e5, g_si_r, e4, g_si_r, e3, g_si_r, e1, g_rr_at]
  have r37 : s7.2.2.2 (ad 3) 7 = some (ad p) := by rw [es7, g_si_r, es6, g_si_r, es5, g_si_r, es3, g_rr_at]
  have x41 : s7.2.1 (ad 4) 1 = nI n := by rw [i4, e7, g_rd_k (by decide), e6, g_rd_k (by decide), e5, g_rd_k (by decide), e4, g_rd_k (by decide), e3, g_rd_at]
  have x42 : s7.2.1 (ad 4) 2 = nI 0 := by rw [i4, e7, g_rd_k (by decide), e6, g_rd_k (by decide), e5, g_rd_k (by decide), e4, g_rd_at]; rfl
  have x43 : s7.2.1 (ad 4) 3 = 0 := by rw [i4, e7, g_rd_k (by decide), e6, g_rd_k (by decide), e5, g_rd_at]
  have x48 : s7.2.1 (ad 4) 8 = 0 := by rw [i4, e7, g_rd_k (by decide), e6, g_rd_at]
  refine loop n 0 0 [] [] (fun _ => 0) s7 rfl (Nat.le_refl _) (Nat.zero_le _) G7 ⟨⟨hT, r40, x41, fun j hj => ?_⟩, ⟨x48, Or.inl ⟨x43, x42⟩⟩, r37, ?_, ?_, ?_, fun i q _ hq => (by cases hq), fun f q hq => (by cases hq)⟩ ⟨⟨by decide, Nat.le_refl _, Nat.le_refl _⟩, ⟨List.Pairwise.nil, fun q hq => (by cases hq)⟩, List.Pairwise.nil, fun q hq => (by cases hq), rfl, fun f q hq => (by cases hq)⟩ (fun t0 post t hm k => k t hm)
  · rw [G7.i 1 j (bool_r rdP_i (by omega))]; exact htx j hj
  · rw [es7, g_rd_ne (ne p 3 (by omega) (by decide) (by omega)), es6, g_rd_ne (ne p 3 (by omega) (by decide) (by omega)), es5, g_rd_at]; rfl
  · rw [es7, g_rd_k (by decide), es6, g_rd_at]; rfl
  · rw [es7, g_rd_at]; rfl
end RI
