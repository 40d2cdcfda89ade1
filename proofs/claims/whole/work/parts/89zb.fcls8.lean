/-! FOLDING, the class: trees whose operands all stay -/
def FG (n : Nat) (par : Int32 → Nat) (F : Fo) (S : Nat → List Int32) : Prop := (fo_w n par F S) ∧ ((fo_b F).Nodup) ∧ (∀ i, ∀ x ∈ S i, x ∉ fo_b F) ∧ (∀ i, ∀ x ∈ S i, ∃ j, j < 120 ∧ x = nI j) ∧ (∀ x ∈ fo_b F, ∃ j, j < 120 ∧ x = nI j)
theorem FG.w {n : Nat} {par : Int32 → Nat} {F : Fo} {S : Nat → List Int32} (h : FG n par F S) : fo_w n par F S := h.1
theorem FG.d {n : Nat} {par : Int32 → Nat} {F : Fo} {S : Nat → List Int32} (h : FG n par F S) : (fo_b F).Nodup := h.2.1
theorem FG.s {n : Nat} {par : Int32 → Nat} {F : Fo} {S : Nat → List Int32} (h : FG n par F S) : ∀ i, ∀ x ∈ S i, x ∉ fo_b F := h.2.2.1
theorem FG.a {n : Nat} {par : Int32 → Nat} {F : Fo} {S : Nat → List Int32} (h : FG n par F S) : ∀ i, ∀ x ∈ S i, ∃ j, j < 120 ∧ x = nI j := h.2.2.2.1
theorem FG.b {n : Nat} {par : Int32 → Nat} {F : Fo} {S : Nat → List Int32} (h : FG n par F S) : ∀ x ∈ fo_b F, ∃ j, j < 120 ∧ x = nI j := h.2.2.2.2
section FT
variable {n : Nat} {par : Int32 → Nat} {z : Nat} {k v : Int32} {a b : Fo} {S : Nat → List Int32}
theorem fo_b_eq : fo_b (.inner z k v a b) = ((if k = 14 then [v] else []) ++ fo_b a) ++ fo_b b := rfl
theorem FG.head (h : FG n par (.inner z k v a b) S) : FG n par (.inner z k v a .leaf) S := by
  have hd := h.d
  have hs := h.s
  have hb' := h.b
  rw [fo_b_eq] at hd hs hb'
  have e : fo_b (.inner z k v a .leaf) = (if k = 14 then [v] else []) ++ fo_b a := by rw [fo_b_eq]; exact List.append_nil _
  refine ⟨⟨h.w.1, h.w.2.1, h.w.2.2.1, h.w.2.2.2.1, h.w.2.2.2.2.1, trivial⟩, ?_, ?_, h.a, ?_⟩
  · rw [e]; exact (List.nodup_append.mp hd).1
  · rw [e]; exact fun i x hx c => hs i x hx (List.mem_append.mpr (Or.inl c))
  · rw [e]; exact fun x hx => hb' x (List.mem_append.mpr (Or.inl hx))
theorem FG.rest (h : FG n par (.inner z k v a b) S) : FG n par b (fun i => S (i + 1)) := by
  have hd := h.d
  have hs := h.s
  have hb' := h.b
  rw [fo_b_eq] at hd hs hb'
  exact ⟨h.w.2.2.2.2.2, (List.nodup_append.mp hd).2.1, (fun i x hx c => hs (i + 1) x hx (List.mem_append.mpr (Or.inr c))), (fun i => h.a (i + 1)), (fun x hx => hb' x (List.mem_append.mpr (Or.inr hx)))⟩
theorem FG.kid (h : FG n par (.inner z k v a b) S) : FG n par a (k_sc k v (S 0)) := by
  have hd := h.d
  have hs := h.s
  have hb' := h.b
  rw [fo_b_eq] at hd hs hb'
  have hda := List.nodup_append.mp (List.nodup_append.mp hd).1
  refine ⟨h.w.2.2.2.2.1, hda.2.1, fun i x hx c => ?_, fun i x hx => ?_, fun x hx => hb' x (List.mem_append.mpr (Or.inl (List.mem_append.mpr (Or.inr hx))))⟩
  · unfold k_sc at hx
    split at hx
    · rename_i c14
      rcases List.mem_cons.mp hx with q | q
      · rw [q] at c
        exact hda.2.2 v (by rw [if_pos c14.1]; exact List.mem_singleton.mpr rfl) v c rfl
      · exact hs 0 x q (List.mem_append.mpr (Or.inl (List.mem_append.mpr (Or.inr c))))
    · exact hs 0 x hx (List.mem_append.mpr (Or.inl (List.mem_append.mpr (Or.inr c))))
  · unfold k_sc at hx
    split at hx
    · rename_i c14
      rcases List.mem_cons.mp hx with q | q
      · rw [q]
        exact hb' v (List.mem_append.mpr (Or.inl (List.mem_append.mpr (Or.inl (by rw [if_pos c14.1]; exact List.mem_singleton.mpr rfl)))))
      · exact h.a 0 x q
    · exact h.a 0 x hx
/-- what one tree binds, the rest does not -/
theorem FG.dj (h : FG n par (.inner z k v a b) S) : ∀ x ∈ fo_b b, x ∉ fo_b (.inner z k v a .leaf) := by
  have hd := h.d
  rw [fo_b_eq] at hd
  have e : fo_b (.inner z k v a .leaf) = (if k = 14 then [v] else []) ++ fo_b a := by rw [fo_b_eq]; exact List.append_nil _
  rw [e]
  exact fun x hx c => (List.nodup_append.mp hd).2.2 x c x hx rfl
end FT
def FTH (ad : Nat → Nat) (t0 : gSt) (f n : Nat) (par : Int32 → Nat) (z : Nat) (k v : Int32) (a : Fo) (S : Nat → List Int32) (st : WS) (lv : FLV) (O : List (Int32 × Int32)) (nx m ev : Nat) (t : gSt) (kn ρ : RHO) : Prop := (FG n par (.inner z k v a .leaf) S) ∧ (∀ w ∈ S 0, kn w = ρ w) ∧ (∀ w ∈ fo_b (.inner z k v a .leaf), kn w = none) ∧ (rows (t0.2.1 (ad 108)) (t0.2.1 (ad 109)) nx ((k, v) :: fo_p a)) ∧ (lv.length = st.length) ∧ (st.length + (fo_n a + 1) ≤ 500) ∧ (500 * f + O.length ≤ nx) ∧ (nx + (fo_n a + 1) ≤ 500 * f + 500) ∧ (m + 3 * (fo_n a + 1) ≤ 1500) ∧ (ev < 3) ∧ (∀ q, st.getLast? = some q → q.2.2.2.1 < q.2.2.2.2 ∧ q.2.2.2.2 < 1000) ∧ (RW t ad 56 96 st nx ev) ∧ (QF t0 ad f nx O lv kn t)
theorem FTH.g {ad : Nat → Nat} {t0 : gSt} {f n : Nat} {par : Int32 → Nat} {z : Nat} {k v : Int32} {a : Fo} {S : Nat → List Int32} {st : WS} {lv : FLV} {O : List (Int32 × Int32)} {nx m ev : Nat} {t : gSt} {kn ρ : RHO} (h : FTH ad t0 f n par z k v a S st lv O nx m ev t kn ρ) : FG n par (.inner z k v a .leaf) S := h.1
theorem FTH.s0 {ad : Nat → Nat} {t0 : gSt} {f n : Nat} {par : Int32 → Nat} {z : Nat} {k v : Int32} {a : Fo} {S : Nat → List Int32} {st : WS} {lv : FLV} {O : List (Int32 × Int32)} {nx m ev : Nat} {t : gSt} {kn ρ : RHO} (h : FTH ad t0 f n par z k v a S st lv O nx m ev t kn ρ) : ∀ w ∈ S 0, kn w = ρ w := h.2.1
theorem FTH.b0 {ad : Nat → Nat} {t0 : gSt} {f n : Nat} {par : Int32 → Nat} {z : Nat} {k v : Int32} {a : Fo} {S : Nat → List Int32} {st : WS} {lv : FLV} {O : List (Int32 × Int32)} {nx m ev : Nat} {t : gSt} {kn ρ : RHO} (h : FTH ad t0 f n par z k v a S st lv O nx m ev t kn ρ) : ∀ w ∈ fo_b (.inner z k v a .leaf), kn w = none := h.2.2.1
theorem FTH.r {ad : Nat → Nat} {t0 : gSt} {f n : Nat} {par : Int32 → Nat} {z : Nat} {k v : Int32} {a : Fo} {S : Nat → List Int32} {st : WS} {lv : FLV} {O : List (Int32 × Int32)} {nx m ev : Nat} {t : gSt} {kn ρ : RHO} (h : FTH ad t0 f n par z k v a S st lv O nx m ev t kn ρ) : rows (t0.2.1 (ad 108)) (t0.2.1 (ad 109)) nx ((k, v) :: fo_p a) := h.2.2.2.1
theorem FTH.l {ad : Nat → Nat} {t0 : gSt} {f n : Nat} {par : Int32 → Nat} {z : Nat} {k v : Int32} {a : Fo} {S : Nat → List Int32} {st : WS} {lv : FLV} {O : List (Int32 × Int32)} {nx m ev : Nat} {t : gSt} {kn ρ : RHO} (h : FTH ad t0 f n par z k v a S st lv O nx m ev t kn ρ) : lv.length = st.length := h.2.2.2.2.1
theorem FTH.st' {ad : Nat → Nat} {t0 : gSt} {f n : Nat} {par : Int32 → Nat} {z : Nat} {k v : Int32} {a : Fo} {S : Nat → List Int32} {st : WS} {lv : FLV} {O : List (Int32 × Int32)} {nx m ev : Nat} {t : gSt} {kn ρ : RHO} (h : FTH ad t0 f n par z k v a S st lv O nx m ev t kn ρ) : st.length + (fo_n a + 1) ≤ 500 := h.2.2.2.2.2.1
theorem FTH.o {ad : Nat → Nat} {t0 : gSt} {f n : Nat} {par : Int32 → Nat} {z : Nat} {k v : Int32} {a : Fo} {S : Nat → List Int32} {st : WS} {lv : FLV} {O : List (Int32 × Int32)} {nx m ev : Nat} {t : gSt} {kn ρ : RHO} (h : FTH ad t0 f n par z k v a S st lv O nx m ev t kn ρ) : 500 * f + O.length ≤ nx := h.2.2.2.2.2.2.1
theorem FTH.n' {ad : Nat → Nat} {t0 : gSt} {f n : Nat} {par : Int32 → Nat} {z : Nat} {k v : Int32} {a : Fo} {S : Nat → List Int32} {st : WS} {lv : FLV} {O : List (Int32 × Int32)} {nx m ev : Nat} {t : gSt} {kn ρ : RHO} (h : FTH ad t0 f n par z k v a S st lv O nx m ev t kn ρ) : nx + (fo_n a + 1) ≤ 500 * f + 500 := h.2.2.2.2.2.2.2.1
theorem FTH.m' {ad : Nat → Nat} {t0 : gSt} {f n : Nat} {par : Int32 → Nat} {z : Nat} {k v : Int32} {a : Fo} {S : Nat → List Int32} {st : WS} {lv : FLV} {O : List (Int32 × Int32)} {nx m ev : Nat} {t : gSt} {kn ρ : RHO} (h : FTH ad t0 f n par z k v a S st lv O nx m ev t kn ρ) : m + 3 * (fo_n a + 1) ≤ 1500 := h.2.2.2.2.2.2.2.2.1
theorem FTH.ev' {ad : Nat → Nat} {t0 : gSt} {f n : Nat} {par : Int32 → Nat} {z : Nat} {k v : Int32} {a : Fo} {S : Nat → List Int32} {st : WS} {lv : FLV} {O : List (Int32 × Int32)} {nx m ev : Nat} {t : gSt} {kn ρ : RHO} (h : FTH ad t0 f n par z k v a S st lv O nx m ev t kn ρ) : ev < 3 := h.2.2.2.2.2.2.2.2.2.1
theorem FTH.top {ad : Nat → Nat} {t0 : gSt} {f n : Nat} {par : Int32 → Nat} {z : Nat} {k v : Int32} {a : Fo} {S : Nat → List Int32} {st : WS} {lv : FLV} {O : List (Int32 × Int32)} {nx m ev : Nat} {t : gSt} {kn ρ : RHO} (h : FTH ad t0 f n par z k v a S st lv O nx m ev t kn ρ) : ∀ q, st.getLast? = some q → q.2.2.2.1 < q.2.2.2.2 ∧ q.2.2.2.2 < 1000 := h.2.2.2.2.2.2.2.2.2.2.1
theorem FTH.R {ad : Nat → Nat} {t0 : gSt} {f n : Nat} {par : Int32 → Nat} {z : Nat} {k v : Int32} {a : Fo} {S : Nat → List Int32} {st : WS} {lv : FLV} {O : List (Int32 × Int32)} {nx m ev : Nat} {t : gSt} {kn ρ : RHO} (h : FTH ad t0 f n par z k v a S st lv O nx m ev t kn ρ) : RW t ad 56 96 st nx ev := h.2.2.2.2.2.2.2.2.2.2.2.1
theorem FTH.Q {ad : Nat → Nat} {t0 : gSt} {f n : Nat} {par : Int32 → Nat} {z : Nat} {k v : Int32} {a : Fo} {S : Nat → List Int32} {st : WS} {lv : FLV} {O : List (Int32 × Int32)} {nx m ev : Nat} {t : gSt} {kn ρ : RHO} (h : FTH ad t0 f n par z k v a S st lv O nx m ev t kn ρ) : QF t0 ad f nx O lv kn t := h.2.2.2.2.2.2.2.2.2.2.2.2
def fTS (cx : gCx) (d : Nat) (ad : Nat → Nat) (t0 : gSt) (f n : Nat) (par : Int32 → Nat) (post : Option Value → gSt → Prop) (N : Nat) : Prop :=
  ∀ (z : Nat) (k v : Int32) (a : Fo) (S : Nat → List Int32) (st : WS) (lv : FLV) (O : List (Int32 × Int32)) (nx m ev : Nat) (t : gSt) (kn ρ : RHO), FTH ad t0 f n par z k v a S st lv O nx m ev t kn ρ → fo_n a + 1 ≤ N →
    (∀ u m' kn' top, m' + 1 ≤ m + 3 * (fo_n a + 1) → (∀ w, w ∉ fo_b (.inner z k v a .leaf) → kn' w = kn w) → RW u ad 56 96 (st ++ [top]) (nx + (fo_n a + 1)) 3 → QF t0 ad f (nx + (fo_n a + 1)) (O ++ fo_p (cmb ρ z k v (fdK a ρ k v 0))) lv kn' u → fHd cx d ad f post m' u) → fHd cx d ad f post m t
theorem rows_tl {X Y : Nat → Int32} {s : Nat} {q : Int32 × Int32} {l : List (Int32 × Int32)} (h : rows X Y s (q :: l)) : rows X Y (s + 1) l := fun i r hr => by
  rw [show s + 1 + i = s + (i + 1) by omega]
  exact h (i + 1) r (by rw [List.getElem?_cons_succ]; exact hr)
theorem rows_sf {X Y : Nat → Int32} {s : Nat} {a b : List (Int32 × Int32)} (h : rows X Y s (a ++ b)) : rows X Y (s + a.length) b := fun i r hr => by
  rw [Nat.add_assoc]
  exact h (a.length + i) r (by rw [List.getElem?_append_right (by omega), Nat.add_sub_cancel_left]; exact hr)
theorem cmb_pl {ρ : RHO} {z : Nat} {k v : Int32} {a : Fo} : (fo_p (cmb ρ z k v (fdK a ρ k v 0))).length ≤ fo_n a + 1 := by
  rw [fo_pn]
  have := cmb_n (ρ := ρ) (z := z) (k := k) (v := v) (K := fdK a ρ k v 0)
  have := fdK_n a ρ k v 0
  omega
section FU
variable {cx : gCx} {d : Nat} {ad : Nat → Nat} {t0 : gSt} {post : Option Value → gSt → Prop} {f n : Nat} {par : Int32 → Nat} {N : Nat}
theorem fFS (K : FK ad t0 f n par) (hT : fTS cx d ad t0 f n par post N) : ∀ (F : Fo) (S : Nat → List Int32) (st : WS) (nd : Nat) (k v : Int32) (c : Nat) (lv : FLV) (O : List (Int32 × Int32)) (nx m ev : Nat) (t : gSt) (kn ρ : RHO), fo_n F ≤ N → k ≠ 12 ∧ k ≠ 13 ∧ k ≠ 14 → FG n par F S → (∀ i, S i = S 0) → (∀ w ∈ S 0, kn w = ρ w) → (∀ w ∈ fo_b F, kn w = none) → rows (t0.2.1 (ad 108)) (t0.2.1 (ad 109)) nx (fo_p F) → c + fo_l F = k_ar par k v → lv.length = st.length + 1 → st.length + 1 + fo_n F ≤ 500 → 500 * f + O.length ≤ nx → nx + fo_n F ≤ 500 * f + 500 → m + 3 * fo_n F ≤ 1500 → ev < 3 → RW t ad 56 96 (st ++ [(nd, k, v, c, k_ar par k v)]) nx ev → QF t0 ad f nx O lv kn t →
    (∀ u m' kn' ev', m' ≤ m + 3 * fo_n F → ev' < 3 → (∀ w, w ∉ fo_b F → kn' w = kn w) → RW u ad 56 96 (st ++ [(nd, k, v, k_ar par k v, k_ar par k v)]) (nx + fo_n F) ev' → QF t0 ad f (nx + fo_n F) (O ++ fo_p (fdK F ρ k v c)) lv kn' u → fHd cx d ad f post m' u) → fHd cx d ad f post m t
  | .leaf, S, st, nd, k, v, c, lv, O, nx, m, ev, t, kn, ρ, _, _, _, _, _, _, _, hc, _, _, _, _, _, hev, hR, hQ, h => by
    have hc : c = k_ar par k v := hc
    rw [hc] at hR
    refine h t m kn ev (Nat.le_refl _) hev (fun _ _ => rfl) hR ?_
    show QF t0 ad f nx (O ++ []) lv kn t
    rw [List.append_nil]
    exact hQ
  | .inner z2 k2 v2 a2 b2, S, st, nd, k, v, c, lv, O, nx, m, ev, t, kn, ρ, hN, hk, hG, hS, hs0, hb0, hr, hc, hl, hst, hO, hn, hm, hev, hR, hQ, h => by
    have en : fo_n (.inner z2 k2 v2 a2 b2) = fo_n a2 + 1 + fo_n b2 := rfl
    have el : fo_l (.inner z2 k2 v2 a2 b2) = fo_l b2 + 1 := rfl
    have ep : fo_p (.inner z2 k2 v2 a2 b2) = ((k2, v2) :: fo_p a2) ++ fo_p b2 := rfl
    have hk6 := kar6 K.h6 k v
    rw [en] at hN hst hn hm
    rw [el] at hc
    rw [ep] at hr
    have hbd : ∀ w, w ∉ fo_b (.inner z2 k2 v2 a2 b2) → w ∉ fo_b (.inner z2 k2 v2 a2 .leaf) ∧ w ∉ fo_b b2 := fun w hw => by
      have e : fo_b (.inner z2 k2 v2 a2 .leaf) = (if k2 = 14 then [v2] else []) ++ fo_b a2 := by rw [fo_b_eq]; exact List.append_nil _
      rw [fo_b_eq] at hw
      rw [e]
      exact ⟨fun q => hw (List.mem_append.mpr (Or.inl q)), fun q => hw (List.mem_append.mpr (Or.inr q))⟩
    refine hT z2 k2 v2 a2 S (st ++ [(nd, k, v, c, k_ar par k v)]) lv O nx m ev t kn ρ ⟨hG.head, hs0, fun w hw => hb0 w (Classical.byContradiction (fun q => (hbd w q).1 hw)), rows_pre hr, by rw [hl]; simp, by simp only [List.length_append, List.length_cons, List.length_nil]; omega, hO, by omega, by omega, hev, fun q e => ?_, hR, hQ⟩ (by omega) (fun u m1 kn1 top hm1 hk1 R1 Q1 => ?_)
    · rw [List.getLast?_append] at e
      have e : q = (nd, k, v, c, k_ar par k v) := by simpa using e.symm
      subst e
      exact ⟨(show c < k_ar par k v by omega), (by show k_ar par k v < 1000; omega)⟩
    · rw [List.append_assoc] at R1
      refine s_behind (C := fun u2 => RW u2 ad 56 96 (st ++ [(nd, k, v, c + 1, k_ar par k v)]) (nx + (fo_n a2 + 1)) 2 ∧ QF t0 ad f (nx + (fo_n a2 + 1)) (O ++ fo_p (cmb ρ z2 k2 v2 (fdK a2 ρ k2 v2 0))) lv kn1 u2) K (by omega) R1 Q1 (by omega) (fun u2 post' R2 Q2 h62 hp => ?_) (fun u2 hC => ?_)
      · exact m_fbk_plain Q2.1.L (by omega) (by omega) R2 (fun _ => hk) (fun _ c13 => absurd c13 hk.2.1) (hp u2 Q2.1.L ⟨R2, Q2⟩)
      · have hlen := cmb_pl (ρ := ρ) (z := z2) (k := k2) (v := v2) (a := a2)
        have hrb := rows_sf hr
        rw [List.length_cons, fo_pn] at hrb
        have eS : S (0 + 1) = S 0 := hS 1
        have hkb : ∀ w ∈ S 0, kn1 w = ρ w := fun w hw => by rw [hk1 w (hG.head.s 0 w hw)]; exact hs0 w hw
        refine fFS K hT b2 (fun i => S (i + 1)) st nd k v (c + 1) lv _ _ (m1 + 1) 2 u2 kn1 ρ (by omega) hk hG.rest (fun i => (hS (i + 1)).trans (hS 1).symm) (by rw [eS]; exact hkb) (fun w hw => ?_) hrb (by omega) hl (by omega) ?_ (by omega) (by omega) (by decide) hC.1 hC.2 (fun u3 m3 kn3 ev3 hm3 hev3 hk3 R3 Q3 => ?_)
        · rw [hk1 w (hG.dj w hw)]
          exact hb0 w (Classical.byContradiction (fun q => (hbd w q).2 hw))
        · rw [List.length_append]
          omega
        · refine h u3 m3 kn3 ev3 (by rw [en]; omega) hev3 (fun w hw => ?_) (by rw [en, show nx + (fo_n a2 + 1 + fo_n b2) = nx + (fo_n a2 + 1) + fo_n b2 by omega]; exact R3) ?_
          · rw [hk3 w (hbd w hw).2, hk1 w (hbd w hw).1]
          · have er : ∀ T, rnx ρ k v c T = ρ := fun T => if_neg (fun q => hk.2.2 q.1)
            rw [fdK_in, fo_p_ap, er, en, show nx + (fo_n a2 + 1 + fo_n b2) = nx + (fo_n a2 + 1) + fo_n b2 by omega, ← List.append_assoc]
            exact Q3
/-- entering a tree -/
theorem FTH.enter {z : Nat} {k v : Int32} {a : Fo} {S : Nat → List Int32} {st : WS} {lv : FLV} {O : List (Int32 × Int32)} {nx m ev : Nat} {t : gSt} {kn ρ : RHO} (H : FTH ad t0 f n par z k v a S st lv O nx m ev t kn ρ) (K : FK ad t0 f n par)
    (h : ∀ u, RW u ad 56 96 (st ++ [(nx, k, v, 0, k_ar par k v)]) (nx + 1) 1 → QF t0 ad f (nx + 1) (O ++ [if k = 2 then (match kn v with | some x => (1, x) | none => (k, v)) else (k, v)]) (lv ++ [(O.length, 0, false)]) kn u → fHd cx d ad f post (m + 1) u) : fHd cx d ad f post m t := by
  have hw := H.g.w
  have h1 := H.n'
  have h2 := H.o
  have h3 := H.st'
  have h4 := H.m'
  have h5 := K.hf
  have hr := H.r 0 (k, v) rfl
  exact s_enter K (by omega) H.R H.Q H.ev' H.top (by omega) (by omega) hr.1 hr.2 hw.1 hw.2.2.2.1 (fun c => H.g.a 0 v (hw.2.2.1 c)) (by omega) H.o H.l h
/-- what the operands of a plain node come to -/
theorem FTH.kids {z : Nat} {k v : Int32} {a : Fo} {S : Nat → List Int32} {st : WS} {lv : FLV} {O : List (Int32 × Int32)} {nx m ev : Nat} {t : gSt} {kn ρ : RHO} (H : FTH ad t0 f n par z k v a S st lv O nx m ev t kn ρ) (K : FK ad t0 f n par) (hT : fTS cx d ad t0 f n par post N) (hN : fo_n a ≤ N) (hk : k ≠ 12 ∧ k ≠ 13 ∧ k ≠ 14)
    (h : ∀ u m' kn' ev', m' ≤ m + 1 + 3 * fo_n a → ev' < 3 → (∀ w, w ∉ fo_b a → kn' w = kn w) → RW u ad 56 96 (st ++ [(nx, k, v, k_ar par k v, k_ar par k v)]) (nx + (fo_n a + 1)) ev' → QF t0 ad f (nx + (fo_n a + 1)) (O ++ (if k = 2 then (match kn v with | some x => (1, x) | none => (k, v)) else (k, v)) :: fo_p (fdK a ρ k v 0)) (lv ++ [(O.length, 0, false)]) kn' u → fHd cx d ad f post m' u) : fHd cx d ad f post m t := by
  have hw := H.g.w
  have h1 := H.n'
  have h2 := H.o
  have h3 := H.st'
  have h4 := H.m'
  have hb0 := H.b0
  have ek : ∀ i, k_sc k v (S 0) i = S 0 := fun i => if_neg (fun c => hk.2.2 c.1)
  refine H.enter K (fun u R1 Q1 => ?_)
  refine fFS K hT a (k_sc k v (S 0)) st nx k v 0 _ _ (nx + 1) (m + 1) 1 u kn ρ hN hk H.g.kid (fun i => (ek i).trans (ek 0).symm) (by rw [ek]; exact H.s0) (fun w hw => hb0 w (by rw [fo_b_eq]; exact List.mem_append.mpr (Or.inl (List.mem_append.mpr (Or.inr hw))))) (rows_tl H.r) (by rw [Nat.zero_add]; exact hw.2.1) (by rw [List.length_append, H.l]; rfl) (by omega) (by rw [List.length_append]; simp only [List.length_cons, List.length_nil]; omega) (by omega) (by omega) (by decide) R1 Q1 (fun u2 m2 kn2 ev2 hm2 hev2 hk2 R2 Q2 => ?_)
  rw [show nx + 1 + fo_n a = nx + (fo_n a + 1) by omega] at R2 Q2
  rw [List.append_assoc] at Q2
  exact h u2 m2 kn2 ev2 hm2 hev2 hk2 R2 Q2
end FU
