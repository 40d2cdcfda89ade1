/-! THE MODEL'S COMPILER: trees -/
def tv : Bool → Int32
  | true => 42
  | false => 41
section UN
variable {cap base D h m z y : Nat} {k n w : Int32} {s : KS}
theorem KQ.useN (q : KQ s h m z) (hy : y + 1 ≤ 100000) : KQ (kUseN (nI y) s) h m (max z (y + 1)) := by
  obtain ⟨q1, q2, q3, q4, q5, q6⟩ := q
  refine ⟨q1, q2, q3, ?_, q5, by omega⟩
  show (if ks_sl s < nI y + 1 then nI y + 1 else ks_sl s) = _
  rw [nI_1, q4]
  exact nI_mx (by omega) (by omega)
theorem KR.useN {x : Int32} : KR D s (kUseN x s) [] := .kp rfl rfl rfl (fun _ _ => ⟨rfl, rfl, rfl, rfl⟩)
theorem kUN_so {x : Int32} : ks_so (kUseN x s) = ks_so s := rfl
theorem kUN_us {x : Int32} : ks_us (kUseN x s) = ks_us s := rfl
theorem KR.setso {j : Nat} {x : Int32} : KR D s (kSetSo j x s) [] := .kp rfl rfl rfl (fun _ _ => ⟨rfl, rfl, rfl, rfl⟩)
end UN
section EE
variable {tl : Bool} {own : Nat}
theorem eN_e {e e' : Bool} : ∀ (F : Fo) (pk : Int32) (i : Nat), gK pk → eN tl own F e pk i = eN tl own F e' pk i
  | .leaf, _, _, _ => rfl
  | .inner y k v a b, pk, i, hg => by rw [eN_in, eN_in, hg.la, hg.S, hg.S, Bool.and_false, Bool.and_false, eN_e b pk (i + 1) hg]
theorem eF_e {e e' : Bool} : ∀ (F : Fo) (n : Nat) (σ : Int32 → Nat) (pk pv : Int32) (i o : Nat), gK pk → eF tl own F e n σ pk pv i o = eF tl own F e' n σ pk pv i o
  | .leaf, _, _, _, _, _, _, _ => rfl
  | .inner y k v a b, n, σ, pk, pv, i, o, hg => by rw [eF_in, eF_in, eH_in, eH_in, hg.la, hg.S, hg.S, hg.S, hg.S, Bool.and_false, Bool.and_false, eF_e b n σ pk pv (i + 1) _ hg]
theorem eM_e {e e' : Bool} : ∀ (F : Fo) (pk : Int32) (i h m : Nat), gK pk → eM tl F e pk i h m = eM tl F e' pk i h m
  | .leaf, _, _, _, _, _ => rfl
  | .inner y k v a b, pk, i, h, m, hg => by rw [eM_in, eM_in, hg.la, Bool.and_false, Bool.and_false, eM_e b pk (i + 1) h _ hg]
/-- a node at an end that is no call in the place of its caller: as elsewhere, and a return -/
theorem eX_ret {k v : Int32} {a : Fo} {n : Nat} {σ : Int32 → Nat} {o : Nat} (hg : gK k) (h15 : ¬ (k = 15 ∧ tl = true)) : eX tl own k v a true n σ o = eX tl own k v a false n σ o ++ [(17, 0)] := by
  unfold eX
  rw [eF_e (e := true) (e' := false) a n σ k v 0 o hg, List.append_assoc]
  congr 1
  unfold eL
  rw [if_neg (show ¬ (k = 12 ∨ k = 14 ∨ k = 13) from hg), if_neg (show ¬ (k = 12 ∨ k = 14 ∨ k = 13) from hg)]
  by_cases c15 : k = 15
  · have ct : tl = false := by
      cases tl with
      | false => rfl
      | true => exact absurd ⟨c15, rfl⟩ h15
    rw [if_pos c15, if_pos c15, if_pos (Or.inr ct), if_pos (Or.inr ct)]
    rfl
  · rw [if_neg c15, if_neg c15]
    split
    · rfl
    · split <;> rfl
theorem tM_ret {k : Int32} {a : Fo} {h m : Nat} (hg : gK k) (h15 : ¬ (k = 15 ∧ tl = true)) : tM tl k a true h m = tM tl k a false h m := by
  unfold tM
  rw [eM_e (e := true) (e' := false) a k 0 h m hg, if_neg (fun q => by
    rcases q with q | q | q | ⟨q, _, q2⟩
    · exact hg (Or.inl q)
    · exact hg (Or.inr (Or.inl q))
    · exact hg (Or.inr (Or.inr q))
    · exact h15 ⟨q, q2⟩), if_neg (fun q => by
    rcases q with q | q | q | ⟨q, q1, q2⟩
    · exact hg (Or.inl q)
    · exact hg (Or.inr (Or.inl q))
    · exact hg (Or.inr (Or.inr q))
    · cases q1)]
end EE
/-- a tree in the model's rows is compiled -/
def MTr (cx : gCx) (d : Nat) (ad : Nat → Nat) (post : Option Value → gSt → Prop) (l1 l3 : Int32) (tl : Bool) (own x fN : Nat) (par : Int32 → Nat) (t0 : gSt) (k v : Int32) (a : Fo) (o : Nat) : Prop :=
  ∀ (e : Bool) (n : Nat) (σ : Int32 → Nat) (S : List Int32) (h m z : Nat) (s : KS) (T : TK) (vn : Nat) (t : gSt), QC t0 ad x vn (T ++ [(tv e, nI (o + fo_n a), nI n)]) s t → KQ s h m z → (e = true → h = 0) → sC S σ s → tW fN par k v a S → (k = 15 → ∃ g, v = nI g ∧ g < fN) → ks_us s + eXn tl own k v a e ≤ 1600 * x + 1600 → h + fo_n a + 1 ≤ 10000 → n + fo_n a + 1 ≤ 10000 → T.length + 8 * (fo_n a + 1) + 20 ≤ 20000 → vn + fo_n a + 1 ≤ 3100 →
    (∀ u s', KD vn e h m (tM tl k a e h m) (tZ k v a n σ z) (tB k v a) (eX tl own k v a e n σ (ks_us s - 1600 * x)) s s' → QC t0 ad x vn T s' u → HdC cx d ad post l1 tl l3 u) → HdC cx d ad post l1 tl l3 t
def MTs (cx : gCx) (d : Nat) (ad : Nat → Nat) (post : Option Value → gSt → Prop) (l1 l3 : Int32) (tl : Bool) (own x fN : Nat) (par : Int32 → Nat) (t0 : gSt) : Fo → Nat → Prop
  | .inner _ k v a b, o => MTr cx d ad post l1 l3 tl own x fN par t0 k v a o ∧ MTs cx d ad post l1 l3 tl own x fN par t0 b (o + fo_n a + 1)
  | .leaf, _ => True
section MG
variable {cx : gCx} {d : Nat} {ad : Nat → Nat} {t0 : gSt} {post : Option Value → gSt → Prop} {x NN fN own : Nat} {tl : Bool} {l1 l3 : Int32} {par : Int32 → Nat}
theorem mk_gen : ∀ (F : Fo) (o : Nat), MTs cx d ad post l1 l3 tl own x fN par t0 F o → ∀ (e : Bool) (n : Nat) (σ : Int32 → Nat) (S : List Int32) (h i m z : Nat) (s : KS) (pk pv : Int32) (T : TK) (vn : Nat) (t : gSt), gK pk → QC t0 ad x vn (T ++ tkV (fo_r F o) n) s t → KQ s (h + i) m z → sC S σ s → fo_w fN par F (fun _ => S) → (fo_b F).Nodup → (∀ w ∈ fo_b F, w ∉ S ∧ ∃ j, w = nI j ∧ j < 120) → ks_us s + eN tl own F e pk i ≤ 1600 * x + 1600 → h + i + fo_n F ≤ 10000 → n + fo_n F ≤ 10000 → T.length + 8 * fo_n F + 20 ≤ 20000 → vn + fo_n F ≤ 3100 →
    (∀ u s', KR vn s s' (eF tl own F e n σ pk pv i (ks_us s - 1600 * x)) → KQ s' (h + i + fo_l F) (eM tl F e pk i h m) (eZ F n σ pk pv i z) → m ≤ eM tl F e pk i h m → (∀ j, j < 120 → nI j ∉ fo_b F → ks_so s' j = ks_so s j) → QC t0 ad x vn T s' u → HdC cx d ad post l1 tl l3 u) → HdC cx d ad post l1 tl l3 t
  | .leaf, o, _, e, n, σ, S, h, i, m, z, s, pk, pv, T, vn, t, _, hQ, hq, _, _, _, _, _, _, _, _, _, hK => hK t s (.rf _ _) hq (Nat.le_refl _) (fun _ _ _ => rfl) (by rw [show fo_r (.leaf : Fo) o = [] from rfl, tkV_nil, List.append_nil] at hQ; exact hQ)
  | .inner y k v a b, o, M, e, n, σ, S, h, i, m, z, s, pk, pv, T, vn, t, hg, hQ, hq, hS, hw, hd, hv, hc, h1, h2, hT, hvn, hK => by
    have en : fo_n (.inner y k v a b) = fo_n a + 1 + fo_n b := rfl
    have hrl := fo_rl b (o + fo_n a + 1)
    have hlb := fo_ln b
    rw [fo_b_in] at hd hv
    have hd' := List.nodup_append.mp hd
    have hw15 := fo_w_15 hw
    obtain ⟨w1, w2⟩ := fo_w_in hw hd'.1 (fun w hw => hv w (List.mem_append.mpr (Or.inl hw)))
    have hla : (e && kLast pk i) = false := by rw [hg.la, Bool.and_false]
    rw [eN_in, hla, hg.S] at hc
    simp only [List.length_nil, Nat.add_zero] at hc
    have er : fo_r (.inner y k v a b) o = (o + fo_n a) :: fo_r b (o + fo_n a + 1) := rfl
    rw [er, tkV_cons, ← List.append_assoc] at hQ
    have hTl : (T ++ tkV (fo_r b (o + fo_n a + 1)) n).length = T.length + fo_l b := by simp [hrl]
    refine M.1 false n σ S (h + i) m z s _ vn t hQ hq (fun c => by cases c) hS w1 hw15 (by omega) (by omega) (by omega) (by rw [hTl]; omega) (by omega) (fun u s1 K Q1 => ?_)
    obtain ⟨g1, g2, g3, g4, g5⟩ := K
    obtain ⟨g6, g7⟩ := g4 rfl
    have hus : ks_us s1 = ks_us s + eXn tl own k v a false := by rw [g1.1, eX_len]
    have hb := hQ.2.2.2.2.1.2
    refine mk_gen b (o + fo_n a + 1) M.2 e n σ S h (i + 1) _ _ s1 pk pv T vn u hg Q1 ⟨g6, g7, g2⟩ (hS.mo g5 (fun w hw c => (hv w (List.mem_append.mpr (Or.inl c))).1 hw)) w2 hd'.2.1 (fun w hw => hv w (List.mem_append.mpr (Or.inr hw))) (by rw [hus]; omega) (by omega) (by omega) (by omega) (by omega) (fun u2 s2 r1 r2 r3 r4 Q2 => ?_)
    have el : fo_l (.inner y k v a b) = fo_l b + 1 := rfl
    refine hK u2 s2 ?_ ?_ ?_ (fun j hj hB => ?_) Q2
    · rw [eF_in, eH_in, hla, hg.S, hg.S, hg.D, hg.V]
      rw [hus] at r1
      have := g1.tr r1
      rw [List.append_nil, List.length_nil, show ks_us s - 1600 * x + (eXn tl own k v a false + 0) = ks_us s + eXn tl own k v a false - 1600 * x by omega]
      exact this
    · rw [eM_in, eZ_in, hla, hg.D, hg.V, if_neg (show ¬ (pk = 12 ∨ pk = 14 ∨ pk = 13) from hg), if_neg (show ¬ (pk = 14 ∧ i = 0) from fun c => hg (Or.inr (Or.inl c.1))), el, show h + i + (fo_l b + 1) = h + (i + 1) + fo_l b by omega]
      exact r2
    · rw [eM_in, hla, if_neg (show ¬ (pk = 12 ∨ pk = 14 ∨ pk = 13) from hg)]
      exact Nat.le_trans g3 r3
    · rw [fo_b_in, List.mem_append] at hB
      rw [r4 j hj (fun c => hB (Or.inr c)), g5 j hj (fun c => hB (Or.inl c))]
end MG
