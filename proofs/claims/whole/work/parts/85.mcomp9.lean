/-! THE MODEL'S COMPILER: a function from its beginning to its end -/
def ccP (x c k : Nat) : Bool := cmP x c k || (Nat.beq c 144 && Nat.beq k 65)
theorem ccP_in {x c k : Nat} (h : ccP x c k = true) : (159 ≤ c ∧ c ≤ 162) ∨ (182 ≤ c ∧ c ≤ 183) ∨ (k = x ∧ 184 ≤ c ∧ c ≤ 186) ∨ c = 187 ∨ (c = 144 ∧ (k = 29 ∨ k = 33 ∨ k = 65 ∨ k = 66)) := by
  unfold ccP at h
  rw [Bool.or_eq_true] at h
  rcases h with h | h
  · have := cmP_in h
    omega
  · simp only [Bool.and_eq_true, Nat.beq_eq] at h
    omega
theorem ccP_r {x c k : Nat} (h : ¬ ((159 ≤ c ∧ c ≤ 162) ∨ (182 ≤ c ∧ c ≤ 183) ∨ (k = x ∧ 184 ≤ c ∧ c ≤ 186) ∨ c = 187 ∨ (c = 144 ∧ (k = 29 ∨ k = 33 ∨ k = 65 ∨ k = 66)))) : ccP x c k = false := by
  cases e : ccP x c k with
  | false => rfl
  | true => exact absurd (ccP_in e) h
theorem ccP_t {x c k : Nat} (h : (159 ≤ c ∧ c ≤ 162) ∨ (182 ≤ c ∧ c ≤ 183) ∨ (k = x ∧ 184 ≤ c ∧ c ≤ 186) ∨ c = 187 ∨ (c = 144 ∧ (k = 29 ∨ k = 33 ∨ k = 65 ∨ k = 66))) : ccP x c k = true := by
  unfold ccP
  by_cases q : (159 ≤ c ∧ c ≤ 162) ∨ (182 ≤ c ∧ c ≤ 183) ∨ (k = x ∧ 184 ≤ c ∧ c ≤ 186) ∨ c = 187 ∨ (c = 144 ∧ (k = 29 ∨ k = 33 ∨ k = 66))
  · rw [cmP_t q]; rfl
  · simp only [Bool.or_eq_true, Bool.and_eq_true, Nat.beq_eq]
    omega
section MZ
variable {cx : gCx} {d : Nat} {ad : Nat → Nat} {t : gSt} {post : Option Value → gSt → Prop} {x NN fN own P vn : Nat} {tl : Bool} {par : Int32 → Nat} {F : Fo}
theorem m_compile (hL : Lay t ad) (hx : x < 48) (hown : own < 24) (hxo : x = own ∨ x = 24 + own) (hNN : NN ≤ 1300) (hfN : fN ≤ 24) (hP : ∀ g, g < fN → t.2.1 (ad 147) g = nI (par (nI g))) (hPo : t.2.1 (ad 147) own = nI P) (hP6 : P ≤ 6) (h148 : t.2.1 (ad 148) x = nI (fo_n F)) (hm : fo_m (fun i => t.2.1 (ad 151) (1300 * x + i)) (fun i => t.2.1 (ad 152) (1300 * x + i)) (fun i => t.2.1 (ad 153) (1300 * x + i)) (fun i => t.2.1 (ad 154) (1300 * x + i)) (fun i => t.2.1 (ad 155) (1300 * x + i)) NN id F 0) (h33 : t.2.1 (ad 144) 33 = nI vn) (hvn : vn ≤ 2000) (h1 : fo_l F = 1) (hn : fo_n F ≤ 500) (hw : fo_w fN par F (fun _ => (List.range P).map nI)) (hd : ((List.range P).map nI ++ fo_b F).Nodup) (hv : ∀ w ∈ fo_b F, ∃ j, w = nI j ∧ j < 120)
    (h : ∀ u, gFr ad (ccP x) t u → u.2.1 (ad 182) = wr (t.2.1 (ad 182)) (1600 * x) ((eTC tl own P F).map (·.1)) → u.2.1 (ad 183) = wr (t.2.1 (ad 183)) (1600 * x) ((eTC tl own P F).map (·.2)) → u.2.1 (ad 184) x = nI (eTC tl own P F).length → u.2.1 (ad 185) x = nI (eTZ P F) → u.2.1 (ad 186) x = nI (eTM tl F) → u.2.1 (ad 144) 33 = nI vn → post none u) : g_E cx (d + 3) i_Mo_compile [.ref (ad 144), .int (nI x), .int (b32 tl)] t post := by
  have hvx := vp_in_nI (N := 48) hx (by omega)
  have hmod : nI x - nI x / 24 * 24 = nI own := by
    rw [show (24 : Int32) = nI 24 from rfl, pk_rem (by omega) (by decide) (by decide)]
    rcases hxo with e | e
    · rw [e, Nat.mod_eq_of_lt hown]
    · rw [e, show (24 + own) % 24 = own by omega]
  refine x_Mo_compile hL (fun t1 e1 => ?_)
  have a1 : t1.2.1 (ad 144) 65 = nI x := by rw [e1, g_rd_at]
  have n1 : ∀ c, c ≠ 144 → c < 199 → t1.2.1 (ad c) = t.2.1 (ad c) := fun c hc hl => by rw [e1]; exact g_si_ne (hL.ne c 144 hl (by decide) hc)
  have F1 : gFr ad (ccP x) t t1 := by rw [e1]; exact (gFr.rf hL).si (ccP_t (by omega))
  rw [a1, nI_clamp (by omega)]
  refine ⟨hvx, fun t2 e2 => ?_⟩
  have n2 : ∀ c, c ≠ 184 → c < 199 → t2.2.1 (ad c) = t1.2.1 (ad c) := fun c hc hl => by rw [e2]; exact g_si_ne (hL.ne c 184 hl (by decide) hc)
  have F2 : gFr ad (ccP x) t t2 := by rw [e2]; exact F1.si (ccP_t (by omega))
  rw [n2 144 (by decide) (by decide), a1, nI_clamp (by omega)]
  refine ⟨hvx, fun t3 e3 => ?_⟩
  have n3 : ∀ c, c ≠ 186 → c < 199 → t3.2.1 (ad c) = t2.2.1 (ad c) := fun c hc hl => by rw [e3]; exact g_si_ne (hL.ne c 186 hl (by decide) hc)
  have F3 : gFr ad (ccP x) t t3 := by rw [e3]; exact F2.si (ccP_t (by omega))
  rw [hmod, nI_clamp (n := own) (by omega), n3 144 (by decide) (by decide), n2 144 (by decide) (by decide), a1, nI_clamp (n := x) (by omega)]
  refine ⟨vp_in_nI hown (by omega), fun x4 ex4 => ⟨hvx, fun t5 e5 t6 e6 => ?_⟩⟩
  rw [n3 147 (by decide) (by decide), n2 147 (by decide) (by decide), n1 147 (by decide) (by decide), hPo] at ex4
  subst ex4
  have n5 : ∀ c, c ≠ 185 → c < 199 → t5.2.1 (ad c) = t3.2.1 (ad c) := fun c hc hl => by rw [e5]; exact g_si_ne (hL.ne c 185 hl (by decide) hc)
  have F5 : gFr ad (ccP x) t t5 := by rw [e5]; exact F3.si (ccP_t (by omega))
  have n6 : ∀ c, c ≠ 144 → c < 199 → t6.2.1 (ad c) = t5.2.1 (ad c) := fun c hc hl => by rw [e6]; exact g_si_ne (hL.ne c 144 hl (by decide) hc)
  have F6 : gFr ad (ccP x) t t6 := by rw [e6]; exact F5.si (ccP_t (by omega))
  have b184 : t6.2.1 (ad 184) x = 0 := by rw [n6 184 (by decide) (by decide), n5 184 (by decide) (by decide), n3 184 (by decide) (by decide), e2, g_rd_at]
  have b186 : t6.2.1 (ad 186) x = 0 := by rw [n6 186 (by decide) (by decide), n5 186 (by decide) (by decide), e3, g_rd_at]
  have b185 : t6.2.1 (ad 185) x = nI P := by rw [n6 185 (by decide) (by decide), e5, g_rd_at]
  have b66 : t6.2.1 (ad 144) 66 = 0 := by rw [e6, g_rd_at]
  have b65 : t6.2.1 (ad 144) 65 = nI x := by rw [e6, g_rd_k (by decide), n5 144 (by decide) (by decide), n3 144 (by decide) (by decide), n2 144 (by decide) (by decide), a1]
  have b33 : t6.2.1 (ad 144) 33 = nI vn := by rw [e6, g_rd_k (by decide), n5 144 (by decide) (by decide), n3 144 (by decide) (by decide), n2 144 (by decide) (by decide), e1, g_rd_k (by decide)]; exact h33
  have bo : ∀ c, c ≠ 144 → c ≠ 184 → c ≠ 185 → c ≠ 186 → c < 199 → t6.2.1 (ad c) = t.2.1 (ad c) := fun c q1 q2 q3 q4 hl => by rw [n6 c q1 hl, n5 c q3 hl, n3 c q4 hl, n2 c q2 hl, n1 c q1 hl]
  have loop : ∀ mm i (u : gSt), mm + i = P → gFr ad (ccP x) t u → (∀ c, c ≠ 187 → c < 199 → u.2.1 (ad c) = t6.2.1 (ad c)) → u.2.1 (ad 187) = (fun j => if j < i then nI j else t.2.1 (ad 187) j) → g_W cx (g_E cx (d + 2)) mt_Mo_compile post (53, [some (.ref (ad 144)), some (.int (nI x)), some (.int (b32 tl)), some (.int (nI P)), some (.int (nI i)), none, none, none], [], u, 0, 0) := by
    intro mm
    induction mm with
    | zero =>
      intro i u hi hF hs h187
      have hi : i = P := by omega
      subst hi
      refine x_Mo_compile_53 hF.L ⟨fun _ t7 e7 => ?_, fun q => absurd (nI_le (Nat.le_refl _) (by omega)) q⟩
      have n7 : ∀ c, c ≠ 144 → c < 199 → t7.2.1 (ad c) = u.2.1 (ad c) := fun c hc hl => by rw [e7]; exact g_si_ne (hL.ne c 144 hl (by decide) hc)
      have F7 : gFr ad (ccP x) t t7 := by rw [e7]; exact hF.si (ccP_t (by omega))
      have k7 : ∀ k, k ≠ 29 → t7.2.1 (ad 144) k = t6.2.1 (ad 144) k := fun k hk => by rw [e7, g_rd_k hk, hs 144 (by decide) (by decide)]
      have o7 : ∀ c, c ≠ 144 → c ≠ 184 → c ≠ 185 → c ≠ 186 → c ≠ 187 → c < 199 → t7.2.1 (ad c) = t.2.1 (ad c) := fun c q1 q2 q3 q4 q5 hl => by rw [n7 c q1 hl, hs c q5 hl, bo c q1 q2 q3 q4 hl]
      have c65 : t7.2.1 (ad 144) 65 = nI x := by rw [k7 65 (by decide)]; exact b65
      have hneF : F ≠ .leaf := fun c => by rw [c] at h1; cases h1
      have fpos : 0 < fo_n F := by
        match F, hneF with
        | .inner _ _ _ _ _, _ => simp only [fo_n]; omega
      obtain ⟨si, esi⟩ : ∃ si : KS, si = (t.2.1 (ad 182), t.2.1 (ad 183), 1600 * x, 0, 0, nI i, (fun _ => 0), (fun _ => 0), t.2.1 (ad 162), (fun _ => 0), fun j => if j < i then nI j else t.2.1 (ad 187) j) := ⟨_, rfl⟩
      have Q0 : QC t7 ad x vn [] si t7 := by
        refine ⟨gFr.rf F7.L, ⟨by rw [e7, g_rd_at]; rfl, fun j q hq => by cases hq⟩, ?_⟩
        subst esi
        refine ⟨o7 182 (by decide) (by decide) (by decide) (by decide) (by decide) (by decide), o7 183 (by decide) (by decide) (by decide) (by decide) (by decide) (by decide), ⟨?_, Nat.le_refl _⟩, ?_, ?_, ?_, ?_, o7 162 (by decide) (by decide) (by decide) (by decide) (by decide) (by decide), ?_⟩
        · rw [n7 184 (by decide) (by decide), hs 184 (by decide) (by decide), b184]
          show 0 = nI (1600 * x - 1600 * x)
          rw [Nat.sub_self]
          rfl
        · rw [n7 185 (by decide) (by decide), hs 185 (by decide) (by decide), b185]
        · rw [n7 186 (by decide) (by decide), hs 186 (by decide) (by decide), b186]
        · rw [k7 66 (by decide), b66]
        · rw [n7 187 (by decide) (by decide), h187]
        · rw [k7 33 (by decide)]; exact b33
      have g148 : t7.2.1 (ad 148) x = nI (fo_n F) := by rw [o7 148 (by decide) (by decide) (by decide) (by decide) (by decide) (by decide)]; exact h148
      rw [c65, nI_clamp (by omega), g148]
      refine ⟨vp_in_nI (by omega) (by omega), ?_⟩
      rw [show nI (fo_n F) - 1 = nI (fo_n F - 1) by rw [show (1 : Int32) = nI 1 from rfl, nI_sub (by omega)]]
      refine m_cpush Q0 (by simp) (fun u8 Q8 => ⟨rfl, Q8.1.L, ?_⟩)
      obtain ⟨y, k, v, a, eF⟩ := fo_l1 h1
      have M := mt_all (cx := cx) (d := d) (post := post) (l1 := nI x) (l3 := nI i) (tl := tl) (NN := NN) (fN := fN) (par := par) (t0 := t7) (ad := ad) hx hNN c65 hfN (fun g hg => by rw [o7 147 (by decide) (by decide) (by decide) (by decide) (by decide) (by decide)]; exact hP g hg) hown hxo F 0 (by omega) (by
        rw [o7 151 (by decide) (by decide) (by decide) (by decide) (by decide) (by decide), o7 152 (by decide) (by decide) (by decide) (by decide) (by decide) (by decide), o7 153 (by decide) (by decide) (by decide) (by decide) (by decide) (by decide), o7 154 (by decide) (by decide) (by decide) (by decide) (by decide) (by decide), o7 155 (by decide) (by decide) (by decide) (by decide) (by decide) (by decide)]
        exact hm)
      have hlen : 3 * (eTC tl own i F).length ≤ 4 * fo_n F + 2 := eTC_len hw h1
      subst eF
      have fn : fo_n (.inner y k v a .leaf) = fo_n a + 1 + 0 := rfl
      rw [eTC_e, eX_len] at hlen
      rw [eTC_e, eTZ_e, eTM_e, eX_len] at h
      have eb : fo_b (.inner y k v a .leaf) = tB k v a ++ [] := rfl
      rw [List.append_nil] at eb
      rw [eb] at hd hv
      have hd' := List.nodup_append.mp hd
      have hnS : ∀ w ∈ tB k v a, w ∉ (List.range i).map nI := fun w hw c => hd'.2.2 w c w hw rfl
      have c15 := fo_w_15 hw
      obtain ⟨w1, _⟩ := fo_w_in hw hd'.2.1 (fun w hw => ⟨hnS w hw, hv w hw⟩)
      have w1 : tW fN par k v a ((List.range i).map nI) := w1
      have usi : ks_us si = 1600 * x := by rw [esi]
      refine M.1 true i Int32.toNatClampNeg ((List.range i).map nI) 0 0 i si [] vn u8 ?_ ?_ (fun _ => rfl) ?_ w1 c15 (by rw [usi]; omega) (by omega) (by omega) (by simp; omega) (by omega) (fun u9 s9 K Q9 => c_done Q9 ?_) _ _ _ _
      · rw [Nat.zero_add, show fo_n a = fo_n (.inner y k v a .leaf) - 1 by omega]
        exact Q8
      · subst esi
        exact ⟨rfl, Nat.le_refl _, rfl, rfl, by omega, by omega⟩
      · intro w hw
        obtain ⟨j, q1, q2⟩ := List.mem_map.mp hw
        have q1 := List.mem_range.mp q1
        refine ⟨j, q2.symm, by omega, ?_, ?_⟩
        · rw [esi, ← q2, nI_clamp (by omega)]
          exact if_pos q1
        · rw [← q2, nI_clamp (by omega)]
          omega
      · obtain ⟨K1, K2, _⟩ := K
        obtain ⟨q1, q2, q3, _⟩ := K1
        rw [usi, Nat.sub_self] at q1 q2 q3
        rw [eX_len] at q1
        obtain ⟨z1, z2, ⟨z3, z4⟩, z5, z6, z7, z8, z9, z10⟩ := Q9.2.2
        refine h u9 (F7.tr (Q9.1.mo (fun c k q => ccP_t (by have := cmP_in q; omega)))) ?_ ?_ ?_ ?_ ?_ z10
        · rw [z1, q2, esi]
        · rw [z2, q3, esi]
        · rw [z3, q1, Nat.add_sub_cancel_left]
        · rw [z5]; exact K2.2.1
        · rw [z6]; exact K2.1
    | succ mm ih =>
      intro i u hi hF hs h187
      refine x_Mo_compile_53 hF.L ⟨fun q => ?_, fun _ => ⟨vp_in_nI (by omega) (by omega), fun t4 e4 => ?_⟩⟩
      · rw [nI_leI (by omega) (by omega)] at q
        omega
      · rw [nI_clamp (by omega)] at e4
        rw [nI_1]
        refine ih (i + 1) t4 (by omega) (by rw [e4]; exact hF.si (ccP_t (by omega))) (fun c hc hl => by rw [e4, g_si_ne (hL.ne c 187 hl (by decide) hc), hs c hc hl]) ?_
        rw [e4, g_si_at, h187]
        funext j
        unfold va_up
        by_cases zj : j = i
        · rw [if_pos zj, if_pos (by omega), zj]
        · rw [if_neg zj]
          dsimp only
          by_cases zz : j < i
          · rw [if_pos zz, if_pos (by omega)]
          · rw [if_neg zz, if_neg (by omega)]
  refine loop P 0 t6 (by omega) F6 (fun _ _ _ => rfl) ?_
  rw [bo 187 (by decide) (by decide) (by decide) (by decide) (by decide)]
  funext j
  rw [if_neg (by omega)]
end MZ
