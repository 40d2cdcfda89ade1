/-! FOLDING, the class: a function, all functions -/
def fdT (F : Fo) : Fo := fdK F (fun _ => none) 0 0 0
theorem fdT_n (F : Fo) : fo_n (fdT F) ≤ fo_n F := fdK_n F _ 0 0 0
def fiP (f c k : Nat) : Bool := foP c k || (Nat.beq c 101 && Nat.beq k f)
theorem fiP_in {f c k : Nat} (h : fiP f c k = true) : (56 ≤ c ∧ c ≤ 66) ∨ c = 108 ∨ c = 109 ∨ (c = 55 ∧ k = 7) ∨ (c = 101 ∧ k = f) := by
  unfold fiP at h
  simp only [Bool.or_eq_true, Bool.and_eq_true, Nat.beq_eq] at h
  rcases h with h | h
  · have := foP_in h; omega
  · omega
theorem fiP_t {f c k : Nat} (h : (56 ≤ c ∧ c ≤ 66) ∨ c = 108 ∨ c = 109 ∨ (c = 55 ∧ k = 7) ∨ (c = 101 ∧ k = f)) : fiP f c k = true := by
  unfold fiP
  simp only [Bool.or_eq_true, Bool.and_eq_true, Nat.beq_eq]
  by_cases c1 : c = 101 ∧ k = f
  · exact Or.inr c1
  · exact Or.inl (foP_t (by omega))
theorem fiP_r {f c k : Nat} (h : ¬ ((56 ≤ c ∧ c ≤ 66) ∨ c = 108 ∨ c = 109 ∨ (c = 55 ∧ k = 7) ∨ (c = 101 ∧ k = f))) : fiP f c k = false := by
  cases e : fiP f c k with
  | false => rfl
  | true => exact absurd (fiP_in e) h
theorem bodyS.fold {n : Nat} {par : Int32 → Nat} {V P : Nat} {F : Fo} (h : bodyS n par V P F) : bodyS n par V P (fdT F) ∧ FG n par F (fun _ => (List.range P).map nI) := by
  obtain ⟨b1, b2, b3, b4, b5, b6, b7, b8⟩ := h
  have hd := List.nodup_append.mp b7
  have hs : ∀ (i : Nat), ∀ x ∈ (List.range P).map nI, x ∉ fo_b F := fun _ x hx c => hd.2.2 x hx x c rfl
  have hsub := fdK_b F (fun _ => none) 0 0 0
  refine ⟨⟨(fdK_l F _ b6 _ 0 0 0).trans b1, Nat.le_trans (fdT_n F) b2, b3, b4, b5, fdK_w F _ _ 0 0 0 b6 hd.2.1 hs, ?_, fun w hw => b8 w (hsub.subset hw)⟩, ⟨b6, hd.2.1, hs, fun _ x hx => ?_, fun x hx => ?_⟩⟩
  · exact b7.sublist ((List.Sublist.refl _).append hsub)
  · obtain ⟨i, i1, i2⟩ := List.mem_map.mp hx
    have i1 := List.mem_range.mp i1
    exact ⟨i, by omega, i2.symm⟩
  · obtain ⟨j, j1, j2, j3⟩ := b8 x hx
    exact ⟨j, by omega, j1⟩
section FZ
variable {cx : gCx} {d : Nat} {ad : Nat → Nat} {t : gSt} {post : Option Value → gSt → Prop} {n : Nat} {par : Int32 → Nat}
theorem m_foldIn {f : Nat} {nm : Int64} {r : IR} (hn : n ≤ 24) (hf : f < n) (hL : Lay t ad) (hr : t.2.2.2 (ad 55) 6 = some (ad 96)) (hRp : RPar t ad 96 n par) (hpar6 : ∀ v, par v ≤ 6) (ho : oFn t ad f nm (par (nI f)) r) (hb' : bodyS n par r.2.1 (par (nI f)) r.1) (h : ∀ u, gFr ad (fiP f) t u → oFn u ad f nm (par (nI f)) (fdT r.1, r.2.1, r.2.2) → (∀ g nm' P r', g < 24 → g ≠ f → fo_n r'.1 ≤ 500 → oFn t ad g nm' P r' → oFn u ad g nm' P r') → post none u) : g_E cx (d + 5) i_Folder_foldIn [.ref (ad 55), .int (nI f)] t post := by
  have hf24 : f < 24 := by omega
  have hvf := vp_in_nI (N := 24) hf24 (by omega)
  obtain ⟨o1, o2, o3, o4, o5, o6, o7⟩ := ho
  obtain ⟨hfold, hG⟩ := hb'.fold
  obtain ⟨b1, b2, b3, b4, b5, b6, b7, b8⟩ := hb'
  refine x_Folder_foldIn hL ?_
  have key : ∀ (j i : Nat) (u : gSt), i + j = 120 → gFr ad foP t u → (∀ c, c ≠ 65 → c < 199 → u.2.1 (ad c) = t.2.1 (ad c)) → (∀ x, x < i → u.2.1 (ad 65) x = 0) → g_W cx (g_E cx (d + 4)) mt_Folder_foldIn post (2, [some (.ref (ad 55)), some (.int (nI f)), some (.int (nI i))], [], u, 0, 0) := by
    intro j
    induction j with
    | succ j ih =>
      intro i u hi hF hN h65
      refine x_Folder_foldIn_2 hF.L (by rw [hF.r 55 6 (foP_r (by omega))]; exact hr) ⟨fun c => ?_, fun _ => ⟨vp_in_nI (by omega) (by omega), fun t4 e4 => ?_⟩⟩
      · rw [show (120 : Int32) = nI 120 from rfl, nI_leI (by omega) (by omega)] at c
        omega
      · rw [nI_clamp (by omega)] at e4
        rw [nI_1]
        refine ih (i + 1) t4 (by omega) (by rw [e4]; exact hF.si (foP_t (by omega))) (fun c hc hl => funext (fun k => by rw [e4, g_rd_ne (hF.L.ne c 65 hl (by decide) hc), hN c hc hl])) (fun x hx => ?_)
        rw [e4]
        by_cases c : x = i
        · rw [c, g_rd_at]; rfl
        · rw [g_rd_k c]
          exact h65 x (by omega)
    | zero =>
      intro i u hi hF hN h65
      have hi : i = 120 := by omega
      subst hi
      have hru : u.2.2.2 (ad 55) 6 = some (ad 96) := by rw [hF.r 55 6 (foP_r (by omega))]; exact hr
      refine x_Folder_foldIn_2 hF.L hru ⟨fun _ => ⟨hvf, fun t1 e1 => ?_⟩, fun c => absurd (by decide) c⟩
      rw [nI_clamp (by omega), hN 100 (by decide) (by decide), o4] at e1
      have F1 : gFr ad foP t t1 := by rw [e1]; exact hF.si (foP_t (by omega))
      have n1 : ∀ c, c ≠ 65 → c ≠ 55 → c < 199 → t1.2.1 (ad c) = t.2.1 (ad c) := fun c h5 hc hl => funext (fun k => by rw [e1, g_rd_ne (hF.L.ne c 55 hl (by decide) hc), hN c h5 hl])
      refine m_begin (d := d + 3) (p := 96) (w := 56) (f := f) (s := 500 * f) (Or.inl rfl) (by simp [isW]) F1.L hf24 (by rw [n1 (96 + 4) (by decide) (by decide) (by decide)]; exact o4) (fun t2 F2 R2 => ⟨rfl, F2.L, ?_⟩)
      have w2 : ∀ c, (c < 56 ∨ 61 < c) → c < 199 → t2.2.1 (ad c) = t1.2.1 (ad c) := fun c hc hl => funext (fun k => F2.i c k (wP_out (by omega)) hl)
      have Ft2 : gFr ad foP t t2 := F1.tr (F2.mo (fun c k q => foP_t (by
        unfold wP at q
        simp only [Bool.and_eq_true, Nat.ble_eq] at q
        omega)))
      have K : FK ad t2 f n par := ⟨hf24, by rw [Ft2.r 55 6 (foP_r (by omega))]; exact hr, rp_fs Ft2 (fun c k hc => foP_r (by omega)) hRp, hpar6⟩
      have e8 : t2.2.1 (ad 108) = t.2.1 (ad 108) := by rw [w2 108 (by decide) (by decide), n1 108 (by decide) (by decide) (by decide)]
      have e9 : t2.2.1 (ad 109) = t.2.1 (ad 109) := by rw [w2 109 (by decide) (by decide), n1 109 (by decide) (by decide) (by decide)]
      have Q0 : QF t2 ad f (500 * f) [] [] (fun _ => none) t2 := by
        refine ⟨gFr.rf F2.L, ?_, (fun i q hq => by cases hq), (fun _ _ => ⟨rfl, rfl⟩), (fun i q hq => by cases hq), fun w hw => ⟨?_, (fun x hx => by cases hx)⟩⟩
        · rw [w2 55 (by decide) (by decide), e1, g_rd_at]; rfl
        · rw [w2 65 (by decide) (by decide), e1, g_rd_ne (hF.L.ne 65 55 (by decide) (by decide) (by decide))]
          exact h65 w hw
      obtain ⟨y, k0, v0, a0, eB⟩ := fo_l1e b1
      have eN : fo_n r.1 = fo_n a0 + 1 := by rw [eB]; rfl
      have eP : fo_p r.1 = (k0, v0) :: fo_p a0 := by rw [eB]; exact fo_p_in1
      have eT : fo_p (fdT r.1) = fo_p (cmb (fun _ => none) y k0 v0 (fdK a0 (fun _ => none) k0 v0 0)) := by
        rw [eB]
        show fo_p (fo_ap _ .leaf) = _
        rw [fo_p_ap]
        exact List.append_nil _
      rw [eB] at hG
      have H : FTH ad t2 f n par y k0 v0 a0 (fun _ => (List.range (par (nI f))).map nI) [] [] [] (500 * f) 0 0 t2 (fun _ => none) (fun _ => none) := ⟨hG, fun _ _ => rfl, fun _ _ => rfl, by rw [e8, e9, ← eP]; exact o7, rfl, by simp only [List.length_nil]; omega, by simp only [List.length_nil]; omega, by omega, by omega, by decide, (fun q e => by cases e), R2, Q0⟩
      refine fTS_all K (fo_n a0 + 1) y k0 v0 a0 _ [] [] [] (500 * f) 0 0 t2 _ _ H (Nat.le_refl _) (fun u3 m3 kn3 top hm3 _ R3 Q3 => ?_)
      rw [List.nil_append, ← eT] at Q3
      rw [List.nil_append] at R3
      refine x_Folder_foldIn_48 Q3.1.L (K.r Q3) ⟨fun c => absurd c (m15' (by omega)), fun _ => ?_⟩
      refine adv_end (d := d + 3) (by simp [isW]) Q3.1.L R3 (fun u4 F4 => ?_)
      have Q4 := Q3.w F4
      refine ⟨0, rfl, F4.L, K.r Q4, fun _ => ⟨hvf, hvf, fun t5 e5 => ?_⟩, fun c => absurd rfl c⟩
      have Ft4 : gFr ad foP t u4 := Ft2.tr Q4.1
      have h100 : u4.2.1 (ad 100) f = nI (500 * f) := by rw [Ft4.i 100 f (foP_r (by omega))]; exact o4
      rw [nI_clamp (by omega), Q4.2.1, h100, nI_sub (by omega), Nat.add_sub_cancel_left, fo_pn] at e5
      have F5 : gFr ad (fiP f) t t5 := by
        rw [e5]
        exact (Ft4.mo (fun c k q => fiP_t (by have := foP_in q; omega))).si (fiP_t (by omega))
      have n5 : ∀ c, c ≠ 101 → c < 199 → t5.2.1 (ad c) = u4.2.1 (ad c) := fun c hc hl => funext (fun k => by rw [e5, g_rd_ne (F4.L.ne c 101 hl (by decide) hc)])
      have hf1 := fdT_n r.1
      refine h t5 F5 ⟨?_, ?_, ?_, ?_, ?_, ?_, ?_⟩ (fun g nm' P r' hg hgf hr5 hog => ?_)
      · rw [F5.j 97 f (fiP_r (by omega))]; exact o1
      · rw [F5.i 98 f (fiP_r (by omega))]; exact o2
      · rw [F5.i 99 f (fiP_r (by omega))]; exact o3
      · rw [F5.i 100 f (fiP_r (by omega))]; exact o4
      · rw [e5, g_rd_at]
      · rw [F5.i 102 f (fiP_r (by omega))]; exact o6
      · rw [n5 108 (by decide) (by decide), n5 109 (by decide) (by decide)]
        exact Q4.2.2.1
      · obtain ⟨p1, p2, p3, p4, p5, p6, p7⟩ := hog
        refine ⟨?_, ?_, ?_, ?_, ?_, ?_, ?_⟩
        · rw [F5.j 97 g (fiP_r (by omega))]; exact p1
        · rw [F5.i 98 g (fiP_r (by omega))]; exact p2
        · rw [F5.i 99 g (fiP_r (by omega))]; exact p3
        · rw [F5.i 100 g (fiP_r (by omega))]; exact p4
        · rw [F5.i 101 g (fiP_r (by omega))]; exact p5
        · rw [F5.i 102 g (fiP_r (by omega))]; exact p6
        · intro i q hq
          have hi := (List.getElem?_eq_some_iff.mp hq).1
          rw [fo_pn] at hi
          have := Q4.2.2.2.1 (500 * g + i) (by omega)
          rw [n5 108 (by decide) (by decide), n5 109 (by decide) (by decide), this.1, this.2, e8, e9]
          exact p7 i q hq
  exact key 120 0 t (by omega) (gFr.rf hL) (fun _ _ _ => rfl) (fun x hx => by omega)
def faP (c k : Nat) : Bool := foP c k || Nat.beq c 101 || (Nat.beq c 55 && Nat.beq k 6)
theorem faP_in {c k : Nat} (h : faP c k = true) : (56 ≤ c ∧ c ≤ 66) ∨ c = 108 ∨ c = 109 ∨ (c = 55 ∧ 6 ≤ k ∧ k ≤ 7) ∨ c = 101 := by
  unfold faP at h
  simp only [Bool.or_eq_true, Bool.and_eq_true, Nat.beq_eq] at h
  rcases h with (h | h) | h
  · have := foP_in h; omega
  · omega
  · omega
theorem faP_t {c k : Nat} (h : (56 ≤ c ∧ c ≤ 66) ∨ c = 108 ∨ c = 109 ∨ (c = 55 ∧ 6 ≤ k ∧ k ≤ 7) ∨ c = 101) : faP c k = true := by
  unfold faP
  simp only [Bool.or_eq_true, Bool.and_eq_true, Nat.beq_eq]
  by_cases c1 : c = 101
  · exact Or.inl (Or.inr c1)
  by_cases c2 : c = 55 ∧ k = 6
  · exact Or.inr c2
  · exact Or.inl (Or.inl (foP_t (by omega)))
theorem faP_r {c k : Nat} (h : ¬ ((56 ≤ c ∧ c ≤ 66) ∨ c = 108 ∨ c = 109 ∨ (c = 55 ∧ 6 ≤ k ∧ k ≤ 7) ∨ c = 101)) : faP c k = false := by
  cases e : faP c k with
  | false => rfl
  | true => exact absurd (faP_in e) h
theorem m_foldAll {nm : Nat → Int64} {rs : Nat → IR} (hn : n ≤ 24) (hL : Lay t ad) (hRp : RPar t ad 96 n par) (hpar6 : ∀ v, par v ≤ 6) (ho : ∀ f, f < n → oFn t ad f (nm f) (par (nI f)) (rs f) ∧ bodyS n par (rs f).2.1 (par (nI f)) (rs f).1) (h : ∀ u, gFr ad faP t u → (∀ f, f < n → oFn u ad f (nm f) (par (nI f)) (fdT (rs f).1, (rs f).2.1, (rs f).2.2)) → post none u) : g_E cx (d + 6) i_Folder_foldAll [.ref (ad 55), .ref (ad 96)] t post := by
  refine x_Folder_foldAll (p := 96) (Or.inl rfl) hL (fun t1 e1 => ?_)
  have F1 : gFr ad faP t t1 := by rw [e1]; exact (gFr.rf hL).sr (faP_t (by omega)) (by decide +kernel)
  have key : ∀ (j i : Nat) (u : gSt), i + j = n → gFr ad faP t u → u.2.2.2 (ad 55) 6 = some (ad 96) → (∀ f, f < i → oFn u ad f (nm f) (par (nI f)) (fdT (rs f).1, (rs f).2.1, (rs f).2.2)) → (∀ f, i ≤ f → f < n → oFn u ad f (nm f) (par (nI f)) (rs f)) → g_W cx (g_E cx (d + 5)) mt_Folder_foldAll post (7, [some (.ref (ad 55)), some (.ref (ad 96)), some (.int (nI i))], [], u, 0, 0) := by
    intro j
    induction j with
    | zero =>
      intro i u hi hF hr h1 h2
      refine x_Folder_foldAll_7 (p := 96) (Or.inl rfl) hF.L ⟨fun _ => h u hF (fun f hf => h1 f (by omega)), fun c => ?_⟩
      rw [(rp_fs hF (fun c k hc => faP_r (by omega)) hRp).2.1, nI_leI (by omega) (by omega)] at c
      omega
    | succ j ih =>
      intro i u hi hF hr h1 h2
      have hRu := rp_fs hF (fun c k hc => faP_r (by omega)) hRp
      refine x_Folder_foldAll_7 (p := 96) (Or.inl rfl) hF.L ⟨fun c => ?_, fun _ => ?_⟩
      · rw [hRu.2.1, nI_leI (by omega) (by omega)] at c
        omega
      · refine m_foldIn hn (by omega) hF.L hr hRu hpar6 (h2 i (Nat.le_refl _) (by omega)) (ho i (by omega)).2 (fun u2 F2 o2 og => ⟨rfl, F2.L, ?_⟩)
        rw [nI_1]
        refine ih (i + 1) u2 (by omega) (hF.tr (F2.mo (fun c k q => faP_t (by have := fiP_in q; omega)))) (by rw [F2.r 55 6 (fiP_r (by omega))]; exact hr) (fun f hf => ?_) (fun f hf hfn => ?_)
        · by_cases c : f = i
          · rw [c]; exact o2
          · have hb2 := (ho f (by omega)).2.2.1
            have hft := fdT_n (rs f).1
            exact og f _ _ _ (by omega) c (by dsimp only; omega) (h1 f (by omega))
        · exact og f _ _ _ (by omega) (by omega) (ho f hfn).2.2.1 (h2 f (by omega) hfn)
  exact key n 0 t1 (by omega) F1 (by rw [e1, g_rr_at]) (fun f hf => by omega) (fun f _ hfn => by
    obtain ⟨p1, p2, p3, p4, p5, p6, p7⟩ := (ho f hfn).1
    exact ⟨by rw [e1]; exact p1, by rw [e1]; exact p2, by rw [e1]; exact p3, by rw [e1]; exact p4, by rw [e1]; exact p5, by rw [e1]; exact p6, by rw [e1]; exact p7⟩)
end FZ
