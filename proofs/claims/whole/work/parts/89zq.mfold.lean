/-! FOLDING, the model: a function -/
def mfdP (x c k : Nat) : Bool := meY 48 c k || meY x c k || (Nat.ble 177 c && Nat.ble c 179) || Nat.beq c 181
theorem mfdP_in {x c k : Nat} (h : mfdP x c k = true) : (151 ≤ c ∧ c ≤ 155 ∧ 62400 ≤ k ∧ k ≤ 63699) ∨ ((c = 148 ∨ c = 156) ∧ k = 48) ∨ (151 ≤ c ∧ c ≤ 155 ∧ 1300 * x ≤ k ∧ k ≤ 1300 * x + 1299) ∨ ((c = 148 ∨ c = 156) ∧ k = x) ∨ (177 ≤ c ∧ c ≤ 179) ∨ c = 181 := by
  unfold mfdP at h
  simp only [Bool.or_eq_true, Bool.and_eq_true, Nat.ble_eq, Nat.beq_eq] at h
  rcases h with ((h | h) | h) | h
  · have := meY_in h; omega
  · have := meY_in h; omega
  · omega
  · omega
theorem mfdP_t {x c k : Nat} (h : meY 48 c k = true ∨ meY x c k = true ∨ (177 ≤ c ∧ c ≤ 179) ∨ c = 181) : mfdP x c k = true := by
  unfold mfdP
  simp only [Bool.or_eq_true, Bool.and_eq_true, Nat.ble_eq, Nat.beq_eq]
  rcases h with h | h | h | h
  · exact Or.inl (Or.inl (Or.inl h))
  · exact Or.inl (Or.inl (Or.inr h))
  · exact Or.inl (Or.inr h)
  · exact Or.inr h
theorem mfdP_r {x c k : Nat} (h : ¬ ((151 ≤ c ∧ c ≤ 155 ∧ 62400 ≤ k ∧ k ≤ 63699) ∨ ((c = 148 ∨ c = 156) ∧ k = 48) ∨ (151 ≤ c ∧ c ≤ 155 ∧ 1300 * x ≤ k ∧ k ≤ 1300 * x + 1299) ∨ ((c = 148 ∨ c = 156) ∧ k = x) ∨ (177 ≤ c ∧ c ≤ 179) ∨ c = 181)) : mfdP x c k = false := by
  cases e : mfdP x c k with
  | false => rfl
  | true => exact absurd (mfdP_in e) h
section MG
variable {cx : gCx} {d : Nat} {ad : Nat → Nat} {t0 : gSt} {post : Option Value → gSt → Prop} {n x N M0 : Nat} {par : Int32 → Nat}
theorem gvn_cg {t u : gSt} : ∀ (F : Fo) (o : Nat), gvn t ad F o → (∀ w ∈ fo_b F, u.2.1 (ad 181) w.toNatClampNeg = t.2.1 (ad 181) w.toNatClampNeg) → gvn u ad F o
  | .leaf, _, _, _ => trivial
  | .inner z k v a b, o, h, hw => by
    rw [fo_b_eq] at hw
    refine ⟨fun c r hr => ?_, gvn_cg a o h.2.1 (fun w q => hw w (List.mem_append.mpr (Or.inl (List.mem_append.mpr (Or.inr q))))), gvn_cg b _ h.2.2 (fun w q => hw w (List.mem_append.mpr (Or.inr q)))⟩
    rw [hw v (List.mem_append.mpr (Or.inl (List.mem_append.mpr (Or.inl (by rw [if_pos c]; exact List.mem_singleton.mpr rfl)))))]
    exact h.1 c r hr
abbrev HdG (cx : gCx) (d : Nat) (ad : Nat → Nat) (post : Option Value → gSt → Prop) (x M0 o : Nat) (t : gSt) : Prop := g_W cx (g_E cx (d + 3)) mt_Mo_fold post (52, [some (.ref (ad 144)), some (.int (nI x)), some (.int (nI 48)), some (.int (nI M0)), some (.int (nI o)), none, none], [], t, 0, 0)
def m1P (c k : Nat) : Bool := Nat.beq c 181
theorem m1P_r {c k : Nat} (h : c ≠ 181) : m1P c k = false := by
  cases e : m1P c k with
  | false => rfl
  | true =>
    unfold m1P at e
    exact absurd (Nat.beq_eq.mp e) h
/-- where each let's variable is given -/
theorem m_gv (hx : x < 48) (hM0 : M0 ≤ 1300) : ∀ (F : Fo) (S : Nat → List Int32) (o : Nat) (t : gSt), fo_m (fun i => t0.2.1 (ad 151) (1300 * x + i)) (fun i => t0.2.1 (ad 152) (1300 * x + i)) (fun i => t0.2.1 (ad 153) (1300 * x + i)) (fun i => t0.2.1 (ad 154) (1300 * x + i)) (fun i => t0.2.1 (ad 155) (1300 * x + i)) N id F o → FG n par F S → o + fo_n F ≤ M0 → gFr ad m1P t0 t →
    (∀ u, gFr ad m1P t0 u → gvn u ad F o → (∀ i, i < 130 → nI i ∉ fo_b F → u.2.1 (ad 181) i = t.2.1 (ad 181) i) → HdG cx d ad post x M0 (o + fo_n F) u) → HdG cx d ad post x M0 o t
  | .leaf, S, o, t, _, _, _, hF, h => h t hF trivial (fun _ _ _ => rfl)
  | .inner z k v a b, S, o, t, hm, hG, ho, hF, h => by
    have en : fo_n (.inner z k v a b) = fo_n a + 1 + fo_n b := rfl
    rw [en] at ho
    have hb' := hG.b
    have hd := hG.d
    rw [fo_b_eq] at hb' hd
    have hda := List.nodup_append.mp hd
    have hdk := List.nodup_append.mp hda.1
    refine m_gv hx hM0 a _ o t hm.1 hG.kid (by omega) hF (fun u1 F1 g1 n1 => ?_)
    have hvx : vp_in (nI (1300 * x + (o + fo_n a))) 93600 := vp_in_nI (by omega) (by omega)
    have ru : ∀ c, 151 ≤ c → c ≤ 155 → u1.2.1 (ad c) (1300 * x + (o + fo_n a)) = t0.2.1 (ad c) (1300 * x + (o + fo_n a)) := fun c h1 h2 => F1.i c _ (m1P_r (by omega)) (by omega)
    have hk0 : t0.2.1 (ad 151) (1300 * x + (o + fo_n a)) = k := hm.2.1.1
    have rest : ∀ u2, gFr ad m1P t0 u2 → gvn u2 ad a o → (k = 14 → ∀ r, (fo_r a o)[0]? = some r → u2.2.1 (ad 181) v.toNatClampNeg = nI r) → (∀ i, i < 130 → (k = 14 → nI i ≠ v) → u2.2.1 (ad 181) i = u1.2.1 (ad 181) i) → HdG cx d ad post x M0 (o + fo_n a + 1) u2 := fun u2 F2 ga hv2 n2 => by
      refine m_gv hx hM0 b _ (o + fo_n a + 1) u2 hm.2.2 hG.rest (by omega) F2 (fun u3 F3 g3 n3 => ?_)
      have hnb : ∀ w, w ∈ (if k = 14 then [v] else []) ++ fo_b a → u3.2.1 (ad 181) w.toNatClampNeg = u2.2.1 (ad 181) w.toNatClampNeg := fun w hw => by
        obtain ⟨i, hi, ei⟩ := hb' w (List.mem_append.mpr (Or.inl hw))
        rw [ei, nI_clamp (by omega)]
        exact n3 i (by omega) (fun c => hda.2.2 w hw w (by rw [ei]; exact c) rfl)
      have := h u3 F3 ⟨fun c r hr => ?_, gvn_cg a o ga (fun w hw => hnb w (List.mem_append.mpr (Or.inr hw))), g3⟩ (fun i hi hni => ?_)
      · rw [en, show o + (fo_n a + 1 + fo_n b) = o + fo_n a + 1 + fo_n b by omega] at this
        exact this
      · rw [hnb v (List.mem_append.mpr (Or.inl (by rw [if_pos c]; exact List.mem_singleton.mpr rfl)))]
        exact hv2 c r hr
      · rw [fo_b_eq] at hni
        rw [n3 i hi (fun c => hni (List.mem_append.mpr (Or.inr c))), n2 i hi (fun c e => hni (List.mem_append.mpr (Or.inl (List.mem_append.mpr (Or.inl (by rw [if_pos c, e]; exact List.mem_singleton.mpr rfl)))))), n1 i hi (fun c => hni (List.mem_append.mpr (Or.inl (List.mem_append.mpr (Or.inr c)))))]
    refine x_Mo_fold_52 F1.L ⟨fun c => absurd c (nI_ge (by omega) (by omega)), fun _ => ?_⟩
    rw [ix13, nI_clamp (n := 1300 * x + (o + fo_n a)) (by omega), ru 151 (by decide) (by decide), hk0, nI_1]
    refine ⟨hvx, fun c => rest u1 F1 g1 (fun q => absurd q c) (fun _ _ _ => rfl), fun c => ⟨hvx, hvx, ?_⟩⟩
    have c14 := Classical.not_not.mp c
    obtain ⟨o1, _, _, o4⟩ := hm.2.1.2.2.2 (by rw [c14]; decide)
    have A3 : t0.2.1 (ad 154) (1300 * x + (o + fo_n a)) = v := o4 c14
    have hla : fo_l a = 2 := by rw [hG.w.2.1, c14]; rfl
    obtain ⟨r0, er0⟩ : ∃ r0, (fo_r a o)[0]? = some r0 := ⟨_, List.getElem?_eq_getElem (by rw [fo_rl]; omega)⟩
    have A1 : t0.2.1 (ad 152) (1300 * x + (o + fo_n a)) = nI r0 := o1 r0 er0
    obtain ⟨i, hi, ei⟩ := hb' v (List.mem_append.mpr (Or.inl (List.mem_append.mpr (Or.inl (by rw [if_pos c14]; exact List.mem_singleton.mpr rfl)))))
    rw [ru 154 (by decide) (by decide), ru 152 (by decide) (by decide), A3, A1, ei, nI_clamp (n := i) (by omega)]
    refine ⟨vp_in_nI (by omega) (by omega), fun t2 e2 => ?_⟩
    have F2 : gFr ad m1P t0 t2 := by rw [e2]; exact F1.si rfl
    refine rest t2 F2 (gvn_cg a o g1 (fun w hw => ?_)) (fun _ r hr => ?_) (fun q _ hne => ?_)
    · obtain ⟨q, hq, eq⟩ := hb' w (List.mem_append.mpr (Or.inl (List.mem_append.mpr (Or.inr hw))))
      rw [eq, nI_clamp (by omega), e2, g_rd_k (fun c => hdk.2.2 v (by rw [if_pos c14]; exact List.mem_singleton.mpr rfl) w hw (by rw [eq, ei, c]))]
    · rw [ei, nI_clamp (by omega), e2, g_rd_at]
      rw [er0] at hr
      rw [Option.some.inj hr]
    · rw [e2, g_rd_k (fun c => hne c14 (by rw [ei, c]))]
theorem m_mfold {t : gSt} {B : Fo} {V P : Nat} (hx : x < 48) (hL : Lay t ad) (hB : mBn t ad x B) (hbs : bodyS n par V P B) (h : ∀ u, gFr ad (mfdP x) t u → mBn u ad x (fdT B) → post none u) : g_E cx (d + 4) i_Mo_fold [.ref (ad 144), .int (nI x)] t post := by
  obtain ⟨s1, N, s3, s4, s5⟩ := hB
  obtain ⟨hfold, hG⟩ := hbs.fold
  obtain ⟨b1, b2, b3, b4, b5, b6, b7, b8⟩ := hbs
  have hv48 : vp_in 48 72 := vp_in_nI (n := 48) (by decide) (by decide)
  have e48 : ((48 : Int32)).toNatClampNeg = 48 := by decide
  have hvx : vp_in (nI x) 72 := vp_in_nI (by omega) (by omega)
  have hn1 : 1 ≤ fo_n B := by
    have := fo_p_ne b1
    rw [fo_pn] at this
    exact this
  refine x_Mo_fold hL ⟨hv48, fun t1 e1 => ⟨hv48, fun t2 e2 => ⟨hvx, fun x3 e3 => ?_⟩⟩⟩
  rw [e48] at e1 e2
  have n2 : ∀ c k, ¬ ((c = 148 ∨ c = 156) ∧ k = 48) → c < 199 → t2.2.1 (ad c) k = t.2.1 (ad c) k := fun c k hc hl => by
    have g0 : ∀ (w : gSt) (c2 : Nat) (x0 : Int32), (c2 = 148 ∨ c2 = 156) → (g_si w (ad c2) 48 x0).2.1 (ad c) k = w.2.1 (ad c) k := fun w c2 x0 hc2 => by
      by_cases c0 : c = c2
      · subst c0; rw [g_rd_k (by omega)]
      · rw [g_rd_ne (hL.ne c c2 hl (by omega) c0)]
    rw [e2, g0 _ _ _ (Or.inr rfl), e1, g0 _ _ _ (Or.inl rfl)]
  rw [nI_clamp (by omega), n2 148 x (by omega) (by decide), s1] at e3
  subst e3
  have F2 : gFr ad (mfdP x) t t2 := by rw [e2, e1]; exact ((gFr.rf hL).si (mfdP_t (Or.inl (meY_t (by omega))))).si (mfdP_t (Or.inl (meY_t (by omega))))
  have hE2 : REy ad 48 [] [] t2 := ⟨by rw [e2, g_rd_ne (hL.ne 148 156 (by decide) (by decide) (by decide)), e1, g_rd_at]; rfl, by rw [e2, g_rd_at]; rfl, (fun i q hq => by cases hq), (fun i a ha => by cases ha)⟩
  -- clearing what is given
  have key : ∀ (j i : Nat) (u : gSt), i + j = 130 → gFr ad m1P t2 u → (∀ q, q < i → u.2.1 (ad 181) q = -1) → g_W cx (g_E cx (d + 3)) mt_Mo_fold post (27, [some (.ref (ad 144)), some (.int (nI x)), some (.int (nI 48)), some (.int (nI (fo_n B))), some (.int (nI i)), none, none], [], u, 0, 0) := by
    intro j
    induction j with
    | succ j ih =>
      intro i u hi hF hw
      refine x_Mo_fold_27 hF.L ⟨fun c => ?_, fun _ => ⟨vp_in_nI (by omega) (by omega), fun t3 e3 => ?_⟩⟩
      · rw [show (130 : Int32) = nI 130 from rfl, nI_leI (by omega) (by omega)] at c
        omega
      · rw [nI_clamp (by omega)] at e3
        rw [nI_1]
        refine ih (i + 1) t3 (by omega) (by rw [e3]; exact hF.si rfl) (fun q hq => ?_)
        rw [e3]
        by_cases c : q = i
        · rw [c, g_rd_at]
        · rw [g_rd_k c]
          exact hw q (by omega)
    | zero =>
      intro i u hi hF hw
      have hi : i = 130 := by omega
      subst hi
      refine x_Mo_fold_27 hF.L ⟨fun _ => ?_, fun c => absurd (by decide) c⟩
      -- the lets
      have rowu : ∀ (w : gSt), gFr ad m1P t2 w → fo_m (fun i => w.2.1 (ad 151) (1300 * x + i)) (fun i => w.2.1 (ad 152) (1300 * x + i)) (fun i => w.2.1 (ad 153) (1300 * x + i)) (fun i => w.2.1 (ad 154) (1300 * x + i)) (fun i => w.2.1 (ad 155) (1300 * x + i)) N id B 0 := fun w hw => by
        have g : ∀ c i, 151 ≤ c → c ≤ 155 → w.2.1 (ad c) (1300 * x + i) = t.2.1 (ad c) (1300 * x + i) := fun c i h1 h2 => by rw [hw.i c _ (m1P_r (by omega)) (by omega), n2 c _ (by omega) (by omega)]
        exact fo_m_cg (fun i hi => g 155 i (by decide) (by decide)) (Nat.le_refl _) _ 0 s5 (fun m _ _ => ⟨g 151 m (by decide) (by decide), g 152 m (by decide) (by decide), g 153 m (by decide) (by decide), g 154 m (by decide) (by decide)⟩)
      refine m_gv (t0 := u) (N := N) (n := n) (par := par) hx (by omega) B _ 0 u (rowu u hF) hG (by omega) (gFr.rf hF.L) (fun u3 F3 g3 n3 => ?_)
      have Fu3 : gFr ad m1P t2 u3 := hF.tr F3
      have hm1 : ∀ c k, m1P c k = true → c = 181 := fun c k q => by
        unfold m1P at q
        exact Nat.beq_eq.mp q
      have Ft3 : gFr ad (mfdP x) t u3 := F2.tr (Fu3.mo (fun c k q => mfdP_t (Or.inr (Or.inr (Or.inr (hm1 c k q))))))
      have hE3 : REy ad 48 [] [] u3 := ⟨by rw [Fu3.i 148 48 (m1P_r (by decide))]; exact hE2.1, by rw [Fu3.i 156 48 (m1P_r (by decide))]; exact hE2.2.1, (fun i q hq => by cases hq), (fun i a ha => by cases ha)⟩
      rw [Nat.zero_add]
      refine x_Mo_fold_52 Fu3.L ⟨fun _ => ?_, fun c => absurd (Int32.le_refl _) c⟩
      -- the nodes
      have es : (fun j => k_sc 0 0 ((List.range P).map nI) (0 + j)) = (fun _ => (List.range P).map nI) := funext (fun j => if_neg (fun c => absurd c.1 (by decide)))
      refine m_ff (t0 := u3) (N := N) (n := n) (par := par) (M0 := fo_n B) (x := x) hx (by omega) (by omega) B ((List.range P).map nI) 0 0 0 0 [] [] (u3.2.1 (ad 177)) (fun _ => false) (fun _ => none) u3 (rowu u3 Fu3) (by rw [es]; exact hG) g3 (fun c => absurd c (by decide)) (fun w hw' => ?_) (by omega) (by simp only [List.length_nil]; omega) (by simp only [List.length_nil]; omega) ⟨gFr.rf Fu3.L, hE3, rfl, fun i hi => absurd hi (Nat.not_lt_zero _)⟩ (fun u4 X Y M' cm' F' Q4 fz4 r4 c4 p4 bq4 mp4 _ _ x4 y4 => ?_)
      · have hw' : w ∈ (List.range P).map nI := hw'
        obtain ⟨i, i1, i2⟩ := List.mem_map.mp hw'
        have i1 := List.mem_range.mp i1
        refine ⟨i, by omega, i2.symm, Or.inl ⟨?_, rfl⟩⟩
        rw [n3 i (by omega) (fun c => (List.nodup_append.mp b7).2.2 w hw' w (by rw [← i2]; exact c) rfl)]
        exact hw i (by omega)
      · rw [List.nil_append, List.nil_append] at Q4
        rw [List.nil_append, List.nil_append] at r4
        rw [List.nil_append] at bq4
        obtain ⟨F4, E4, m4, cc4⟩ := Q4
        have Ft4 : gFr ad (mfdP x) t u4 := Ft3.tr (F4.mo (fun c k q => mfdP_t (by
          have := mfP_in q
          by_cases c1 : 177 ≤ c ∧ c ≤ 179
          · exact Or.inr (Or.inr (Or.inl c1))
          · exact Or.inl (meY_t (by omega)))))
        have fzF : fz F' = fz (fdT B) := fz4
        have hlF : fo_l F' = 1 := by rw [← fz_l, fzF, fz_l]; exact hfold.1
        have hnF : fo_n F' = fo_n (fdT B) := by rw [← fz_n, fzF, fz_n]
        obtain ⟨z, kz, vz, az, eF⟩ := fo_l1e hlF
        have hzr : zr F' = [z] := by rw [eF]; rfl
        have hzq := bq4 z (zr_sub F' z (by rw [hzr]; exact List.mem_singleton.mpr rfl))
        have hroot : M' (fo_n B - 1) = nI z := mp4 0 (fo_n B - 1) z (by rw [fo_r1 b1, Nat.zero_add]; rfl) (by rw [hzr]; rfl)
        have hvF : fo_v n par (fun _ _ => True) F' := fo_v_eq fzF.symm (fo_wv _ _ hfold.2.2.2.2.2.1)
        rw [b1] at y4
        rw [Nat.zero_add]
        refine x_Mo_fold_116 F4.L ⟨fun _ => ⟨hv48, fun x1 e1' => ?_⟩, fun c => absurd (Int32.le_refl _) c⟩
        rw [show (nI 48).toNatClampNeg = 48 from nI_clamp (by decide), E4.1] at e1'
        subst e1'
        -- which is the root
        have mark : ∀ (j i : Nat) (u : gSt), i + j = X.length → gFr ad mkP u4 u → (∀ q, q < i → u.2.1 (ad 179) q = b32 (decide (q = z))) → g_W cx (g_E cx (d + 3)) mt_Mo_fold post (154, [some (.ref (ad 144)), some (.int (nI x)), some (.int (nI 48)), some (.int (nI (fo_n B))), some (.int (nI X.length)), some (.int (nI i)), none], [], u, 0, 0) := by
          intro j
          induction j with
          | succ j ih =>
            intro i w hi hFw hw
            have h177 : w.2.1 (ad 177) (fo_n B - 1) = nI z := by rw [hFw.i 177 _ (mkP_r (by decide)), m4]; exact hroot
            refine x_Mo_fold_154 hFw.L ⟨fun c => absurd c (nI_ge (by omega) (by omega)), fun _ => ?_⟩
            rw [show (1 : Int32) = nI 1 from rfl, nI_sub hn1, nI_clamp (n := fo_n B - 1) (by omega), h177, nI_eq (by omega) (by omega), ← show (1 : Int32) = nI 1 from rfl, nI_1, nI_clamp (n := i) (by omega)]
            have nx : ∀ (t3 : gSt) (x0 : Int32), t3 = g_si w (ad 179) i x0 → x0 = b32 (decide (i = z)) → g_W cx (g_E cx (d + 3)) mt_Mo_fold post (154, [some (.ref (ad 144)), some (.int (nI x)), some (.int (nI 48)), some (.int (nI (fo_n B))), some (.int (nI X.length)), some (.int (nI (i + 1))), none], [], t3, 0, 0) := fun t3 x0 e3 ex => by
              refine ih (i + 1) t3 (by omega) (by rw [e3]; exact hFw.si mkP_t) (fun q hq => ?_)
              rw [e3]
              by_cases c : q = i
              · rw [c, g_rd_at, ex]
              · rw [g_rd_k c]
                exact hw q (by omega)
            refine ⟨vp_in_nI (by omega) (by omega), fun c => ⟨vp_in_nI (by omega) (by omega), fun t3 e3 => nx t3 _ e3 ?_⟩, fun c => ⟨vp_in_nI (by omega) (by omega), fun t3 e3 => nx t3 _ e3 ?_⟩⟩
            · rw [decide_eq_false c]; rfl
            · rw [decide_eq_true (Classical.not_not.mp c)]; rfl
          | zero =>
            intro i w hi hFw hw
            have hi : i = X.length := by omega
            subst hi
            refine x_Mo_fold_154 hFw.L ⟨fun _ => ?_, fun c => absurd (Int32.le_refl _) c⟩
            rw [show (1 : Int32) = nI 1 from rfl, nI_sub (by omega)]
            refine m_keep (d := d + 2) (hi := X.length) (F := F') (z := z) (n := n) (par := par) (C := fun _ _ => True) (L := X) (G := Y) (by omega) (by omega) hFw.L (E4.mk hFw) hzr r4 hvF p4 (fun q hq => (bq4 q hq).2) (Nat.le_refl _) (by omega) (fun q hq => hw q hq) (fun w5 F5 k5 => ⟨rfl, F5.L, hvx, fun t6 e6 => ⟨hvx, fun t7 e7 => ?_⟩⟩)
            rw [nI_clamp (by omega)] at e6 e7
            have F7 : gFr ad (mvP x) w5 t7 := by
              rw [e7, e6]
              exact ((gFr.rf F5.L).si (mvP_t (Or.inl (meY_t (by omega))))).si (mvP_t (Or.inl (meY_t (by omega))))
            have n7 : ∀ c k, ¬ ((c = 148 ∨ c = 156) ∧ k = x) → c < 199 → t7.2.1 (ad c) k = w5.2.1 (ad c) k := fun c k hc hl => by
              have g0 : ∀ (w : gSt) (c2 : Nat) (x0 : Int32), (c2 = 148 ∨ c2 = 156) → (g_si w (ad c2) x x0).2.1 (ad c) k = w.2.1 (ad c) k := fun w c2 x0 hc2 => by
                by_cases c0 : c = c2
                · subst c0; rw [g_rd_k (by omega)]
                · rw [g_rd_ne (hL.ne c c2 hl (by omega) c0)]
              rw [e7, g0 _ _ _ (Or.inr rfl), e6, g0 _ _ _ (Or.inl rfl)]
            have E5 : REy ad 48 X Y w5 := (E4.mk hFw).mk F5
            have E7 : REy ad 48 X Y t7 := by
              obtain ⟨a1, a2, a3, a4⟩ := E5
              refine ⟨by rw [n7 148 48 (by omega) (by decide)]; exact a1, by rw [n7 156 48 (by omega) (by decide)]; exact a2, fun i q hq => ?_, fun i a ha => by rw [n7 155 _ (by omega) (by decide)]; exact a4 i a ha⟩
              rw [n7 151 _ (by omega) (by decide), n7 152 _ (by omega) (by decide), n7 153 _ (by omega) (by decide), n7 154 _ (by omega) (by decide)]
              exact a3 i q hq
            have E7x : REy ad x [] [] t7 := ⟨by rw [e7, g_rd_ne (hL.ne 148 156 (by decide) (by decide) (by decide)), e6, g_rd_at]; rfl, by rw [e7, g_rd_at]; rfl, (fun i q hq => by cases hq), (fun i a ha => by cases ha)⟩
            have hfn := fdT_n B
            refine b_forest (t1 := t7) (M0 := fo_n B) (cnt := X.length) (n := n) (par := par) (C := fun _ _ => True) (L := X) (G := Y) hx rfl (by omega) (by omega) E7 F' 0 X.length [] [] t7 r4 hvF p4 bq4 (Nat.zero_le _) (Nat.le_refl _) (fun i _ hi => by rw [n7 179 i (by omega) (by decide)]; exact k5 i hi) (gFr.rf F7.L) E7x (by simp only [List.length_nil]; omega) (by simp only [List.length_nil]; omega) (fun w8 X8 Y8 F8 E8 f8 x8 y8 _ _ => ?_)
            rw [List.nil_append, List.nil_append] at E8 f8
            refine x_Mo_fold_223 F8.L ⟨fun _ => h w8 ?_ (E8.mBn ((fz_m _ _).mp (by rw [← fzF]; exact (fz_m _ _).mpr f8)) (by rw [x8, hnF]) (by omega)), fun c => absurd (Int32.le_refl _) c⟩
            have mkW : ∀ {a b : gSt}, gFr ad mkP a b → gFr ad (mfdP x) a b := fun hF => hF.mo (fun c k q => mfdP_t (Or.inr (Or.inr (Or.inl (by
              unfold mkP at q
              have := Nat.beq_eq.mp q
              omega)))))
            have mvW : ∀ {a b : gSt}, gFr ad (mvP x) a b → gFr ad (mfdP x) a b := fun hF => hF.mo (fun c k q => mfdP_t (by
              have := mvP_in q
              by_cases c1 : c = 177
              · exact Or.inr (Or.inr (Or.inl (by omega)))
              · exact Or.inr (Or.inl (meY_t (by omega)))))
            exact ((((Ft4.tr (mkW hFw)).tr (mkW F5)).tr (mvW F7)).tr (mvW F8))
        exact mark X.length 0 u4 (by omega) (gFr.rf F4.L) (fun q hq => by omega)
  exact key 130 0 t2 (by omega) (gFr.rf F2.L) (fun q hq => by omega)
end MG
