/-! THE LAW'S LOOP: class and model answer alike, call by call -/
/-- method i of x and then method j of m, with the same arguments, in any world of Inv: the same answer, and Inv again -/
def g_pair (cx : gCx) (d : Nat) (Inv : gSt → Prop) (x m i j : Nat) (vs : List Value) : Prop := ∀ t, Inv t → ∀ post : Option Value → gSt → Prop, (∀ (r : Int32) (u : gSt), g_k u m k_Mo → (∀ post2 : Option Value → gSt → Prop, (∀ w, Inv w → post2 (some (.int r)) w) → g_E cx d j (.ref m :: vs) u post2) → post (some (.int r)) u) → g_E cx d i (.ref x :: vs) t post
theorem g_sw {cx : gCx} {E : gE} {mt : gMt} {post : Option Value → gSt → Prop} {pc tgt : Nat} {lc : List (Option Value)} {st : List Value} {t : gSt} {nc ns : Nat} {d lo hi : Int} {os : Array Int} {x : Int32} (hl : mt.2.2.2.2.2.2.lookup pc = some (.tableswitch d lo hi os)) (ht : g_tg pc (g_tsw d lo hi os x) = tgt) (h : g_W cx E mt post (tgt, lc, st, t, nc, ns)) : g_W cx E mt post (pc, lc, .int x :: st, t, nc, ns) := by
  refine g_Ws ?_
  unfold g_step
  dsimp only
  rw [hl]
  show g_W cx E mt post (g_tg pc (g_tsw d lo hi os x), lc, st, t, nc, ns)
  rw [ht]
  exact h
/-- what the law asks of the fifteen methods -/
def g_all (cx : gCx) (d : Nat) (Inv : gSt → Prop) (x m : Nat) : Prop :=
  (∀ (v : Int64) (n : Int32), g_pair cx d Inv x m i_Tr_feed i_Mo_feed [.long v, .int n]) ∧
  g_pair cx d Inv x m i_Tr_read i_Mo_read [] ∧
  g_pair cx d Inv x m i_Tr_place i_Mo_place [] ∧
  (∀ (v1 : Int32), g_pair cx d Inv x m i_Tr_budget i_Mo_budget [.int v1]) ∧
  (∀ (v1 : Int32), g_pair cx d Inv x m i_Tr_trim i_Mo_trim [.int v1]) ∧
  (∀ (v1 v2 v3 : Int32), g_pair cx d Inv x m i_Tr_function i_Mo_function [.int v1, .int v2, .int v3]) ∧
  (∀ (v1 v2 v3 : Int32), g_pair cx d Inv x m i_Tr_calls i_Mo_calls [.int v1, .int v2, .int v3]) ∧
  (∀ (v1 : Int32), g_pair cx d Inv x m i_Tr_order i_Mo_order [.int v1]) ∧
  (∀ (v1 v2 : Int32), g_pair cx d Inv x m i_Tr_write i_Mo_write [.int v1, .int v2]) ∧
  (∀ (v1 : Int32), g_pair cx d Inv x m i_Tr_octet i_Mo_octet [.int v1]) ∧
  (∀ (v1 v2 v3 v4 : Int32), g_pair cx d Inv x m i_Tr_code i_Mo_code [.int v1, .int v2, .int v3, .int v4]) ∧
  (∀ (v1 v2 : Int32), g_pair cx d Inv x m i_Tr_argument i_Mo_argument [.int v1, .int v2]) ∧
  (∀ (v1 v2 v3 v4 : Int32), g_pair cx d Inv x m i_Tr_run i_Mo_run [.int v1, .int v2, .int v3, .int v4]) ∧
  (∀ (v1 : Int32), g_pair cx d Inv x m i_Tr_told i_Mo_told [.int v1]) ∧
  (∀ (v1 : Int32), g_pair cx d Inv x m i_Tr_putAt i_Mo_putAt [.int v1])
set_option maxHeartbeats 4000000 in
/-- one call, behind the switch -/
theorem g_law_case {cx : gCx} {d x m b L : Nat} {xs : Nat → Int32} {g : Nat → Int64} {Inv : gSt → Prop} (hcx : cx.2.1 b (15, L, xs, g)) (hI : ∀ t, Inv t → g_k t x k_Tr ∧ g_k t m k_Mo) (ha : g_all cx d Inv x m) {y : Int32} {t : gSt} (hy1 : vp_in (y + Int32.ofInt 1) L) (hy2 : vp_in (y + Int32.ofInt 2) L) (hy3 : vp_in (y + Int32.ofInt 3) L) (hy4 : vp_in (y + Int32.ofInt 4) L) (ht : Inv t) (hn : ∀ w, Inv w → g_W cx (g_E cx d) mt_law (fun v _ => v = some (.int 1)) (18, [some (.ref b), some (.ref x), some (.ref m), some (.int (y + Int32.ofInt 5))], [], w, 199, 998999)) {k : Nat} (hk : k < 16) : g_W cx (g_E cx d) mt_law (fun v _ => v = some (.int 1)) (32, [some (.ref b), some (.ref x), some (.ref m), some (.int y)], [.int (nI k)], t, 199, 998999) := by
  obtain ⟨a0, a1, a2, a3, a4, a5, a6, a7, a8, a9, a10, a11, a12, a13, a14⟩ := ha
  have hkx := (hI t ht).1
  match k, hk with
  | 0, _ =>
    refine g_sw (tgt := 108) rfl (by decide) ?_
    refine g_run [18] 80 (fun P hP => ?_)
    refine Or.inr ⟨_, hcx, rfl, hy1, ?_⟩
    refine Or.inr ⟨_, hcx, rfl, hy2, ?_⟩
    refine Or.inr ⟨_, hcx, rfl, hy3, ?_⟩
    refine And.intro hkx (a0 _ _ t ht _ (fun r u hu hm => ?_))
    refine Or.inr ⟨_, hcx, rfl, hy1, ?_⟩
    refine Or.inr ⟨_, hcx, rfl, hy2, ?_⟩
    refine Or.inr ⟨_, hcx, rfl, hy3, ?_⟩
    refine And.intro hu (hm _ (fun w hw => ?_))
    exact And.intro (fun _ => hP _ (hn w hw)) (fun c => absurd rfl c)
  | 1, _ =>
    refine g_sw (tgt := 171) rfl (by decide) ?_
    refine g_run [18] 80 (fun P hP => ?_)
    refine And.intro hkx (a1 t ht _ (fun r u hu hm => ?_))
    refine And.intro hu (hm _ (fun w hw => ?_))
    exact And.intro (fun _ => hP _ (hn w hw)) (fun c => absurd rfl c)
  | 2, _ =>
    refine g_sw (tgt := 184) rfl (by decide) ?_
    refine g_run [18] 80 (fun P hP => ?_)
    refine And.intro hkx (a2 t ht _ (fun r u hu hm => ?_))
    refine And.intro hu (hm _ (fun w hw => ?_))
    exact And.intro (fun _ => hP _ (hn w hw)) (fun c => absurd rfl c)
  | 3, _ =>
    refine g_sw (tgt := 197) rfl (by decide) ?_
    refine g_run [18] 80 (fun P hP => ?_)
    refine Or.inr ⟨_, hcx, rfl, hy1, ?_⟩
    refine And.intro hkx (a3 _ t ht _ (fun r u hu hm => ?_))
    refine Or.inr ⟨_, hcx, rfl, hy1, ?_⟩
    refine And.intro hu (hm _ (fun w hw => ?_))
    exact And.intro (fun _ => hP _ (hn w hw)) (fun c => absurd rfl c)
  | 4, _ =>
    refine g_sw (tgt := 220) rfl (by decide) ?_
    refine g_run [18] 80 (fun P hP => ?_)
    refine Or.inr ⟨_, hcx, rfl, hy1, ?_⟩
    refine And.intro hkx (a4 _ t ht _ (fun r u hu hm => ?_))
    refine Or.inr ⟨_, hcx, rfl, hy1, ?_⟩
    refine And.intro hu (hm _ (fun w hw => ?_))
    exact And.intro (fun _ => hP _ (hn w hw)) (fun c => absurd rfl c)
  | 5, _ =>
    refine g_sw (tgt := 243) rfl (by decide) ?_
    refine g_run [18] 80 (fun P hP => ?_)
    refine Or.inr ⟨_, hcx, rfl, hy1, ?_⟩
    refine Or.inr ⟨_, hcx, rfl, hy2, ?_⟩
    refine Or.inr ⟨_, hcx, rfl, hy3, ?_⟩
    refine And.intro hkx (a5 _ _ _ t ht _ (fun r u hu hm => ?_))
    refine Or.inr ⟨_, hcx, rfl, hy1, ?_⟩
    refine Or.inr ⟨_, hcx, rfl, hy2, ?_⟩
    refine Or.inr ⟨_, hcx, rfl, hy3, ?_⟩
    refine And.intro hu (hm _ (fun w hw => ?_))
    exact And.intro (fun _ => hP _ (hn w hw)) (fun c => absurd rfl c)
  | 6, _ =>
    refine g_sw (tgt := 286) rfl (by decide) ?_
    refine g_run [18] 80 (fun P hP => ?_)
    refine Or.inr ⟨_, hcx, rfl, hy1, ?_⟩
    refine Or.inr ⟨_, hcx, rfl, hy2, ?_⟩
    refine Or.inr ⟨_, hcx, rfl, hy3, ?_⟩
    refine And.intro hkx (a6 _ _ _ t ht _ (fun r u hu hm => ?_))
    refine Or.inr ⟨_, hcx, rfl, hy1, ?_⟩
    refine Or.inr ⟨_, hcx, rfl, hy2, ?_⟩
    refine Or.inr ⟨_, hcx, rfl, hy3, ?_⟩
    refine And.intro hu (hm _ (fun w hw => ?_))
    exact And.intro (fun _ => hP _ (hn w hw)) (fun c => absurd rfl c)
  | 7, _ =>
    refine g_sw (tgt := 329) rfl (by decide) ?_
    refine g_run [18] 80 (fun P hP => ?_)
    refine Or.inr ⟨_, hcx, rfl, hy1, ?_⟩
    refine And.intro hkx (a7 _ t ht _ (fun r u hu hm => ?_))
    refine Or.inr ⟨_, hcx, rfl, hy1, ?_⟩
    refine And.intro hu (hm _ (fun w hw => ?_))
    exact And.intro (fun _ => hP _ (hn w hw)) (fun c => absurd rfl c)
  | 8, _ =>
    refine g_sw (tgt := 352) rfl (by decide) ?_
    refine g_run [18] 80 (fun P hP => ?_)
    refine Or.inr ⟨_, hcx, rfl, hy1, ?_⟩
    refine Or.inr ⟨_, hcx, rfl, hy2, ?_⟩
    refine And.intro hkx (a8 _ _ t ht _ (fun r u hu hm => ?_))
    refine Or.inr ⟨_, hcx, rfl, hy1, ?_⟩
    refine Or.inr ⟨_, hcx, rfl, hy2, ?_⟩
    refine And.intro hu (hm _ (fun w hw => ?_))
    exact And.intro (fun _ => hP _ (hn w hw)) (fun c => absurd rfl c)
  | 9, _ =>
    refine g_sw (tgt := 385) rfl (by decide) ?_
    refine g_run [18] 80 (fun P hP => ?_)
    refine Or.inr ⟨_, hcx, rfl, hy1, ?_⟩
    refine And.intro hkx (a9 _ t ht _ (fun r u hu hm => ?_))
    refine Or.inr ⟨_, hcx, rfl, hy1, ?_⟩
    refine And.intro hu (hm _ (fun w hw => ?_))
    exact And.intro (fun _ => hP _ (hn w hw)) (fun c => absurd rfl c)
  | 10, _ =>
    refine g_sw (tgt := 408) rfl (by decide) ?_
    refine g_run [18] 80 (fun P hP => ?_)
    refine Or.inr ⟨_, hcx, rfl, hy1, ?_⟩
    refine Or.inr ⟨_, hcx, rfl, hy2, ?_⟩
    refine Or.inr ⟨_, hcx, rfl, hy3, ?_⟩
    refine Or.inr ⟨_, hcx, rfl, hy4, ?_⟩
    refine And.intro hkx (a10 _ _ _ _ t ht _ (fun r u hu hm => ?_))
    refine Or.inr ⟨_, hcx, rfl, hy1, ?_⟩
    refine Or.inr ⟨_, hcx, rfl, hy2, ?_⟩
    refine Or.inr ⟨_, hcx, rfl, hy3, ?_⟩
    refine Or.inr ⟨_, hcx, rfl, hy4, ?_⟩
    refine And.intro hu (hm _ (fun w hw => ?_))
    exact And.intro (fun _ => hP _ (hn w hw)) (fun c => absurd rfl c)
  | 11, _ =>
    refine g_sw (tgt := 461) rfl (by decide) ?_
    refine g_run [18] 80 (fun P hP => ?_)
    refine Or.inr ⟨_, hcx, rfl, hy1, ?_⟩
    refine Or.inr ⟨_, hcx, rfl, hy2, ?_⟩
    refine And.intro hkx (a11 _ _ t ht _ (fun r u hu hm => ?_))
    refine Or.inr ⟨_, hcx, rfl, hy1, ?_⟩
    refine Or.inr ⟨_, hcx, rfl, hy2, ?_⟩
    refine And.intro hu (hm _ (fun w hw => ?_))
    exact And.intro (fun _ => hP _ (hn w hw)) (fun c => absurd rfl c)
  | 12, _ =>
    refine g_sw (tgt := 494) rfl (by decide) ?_
    refine g_run [18] 80 (fun P hP => ?_)
    refine Or.inr ⟨_, hcx, rfl, hy1, ?_⟩
    refine Or.inr ⟨_, hcx, rfl, hy2, ?_⟩
    refine Or.inr ⟨_, hcx, rfl, hy3, ?_⟩
    refine Or.inr ⟨_, hcx, rfl, hy4, ?_⟩
    refine And.intro hkx (a12 _ _ _ _ t ht _ (fun r u hu hm => ?_))
    refine Or.inr ⟨_, hcx, rfl, hy1, ?_⟩
    refine Or.inr ⟨_, hcx, rfl, hy2, ?_⟩
    refine Or.inr ⟨_, hcx, rfl, hy3, ?_⟩
    refine Or.inr ⟨_, hcx, rfl, hy4, ?_⟩
    refine And.intro hu (hm _ (fun w hw => ?_))
    exact And.intro (fun _ => hP _ (hn w hw)) (fun c => absurd rfl c)
  | 13, _ =>
    refine g_sw (tgt := 547) rfl (by decide) ?_
    refine g_run [18] 80 (fun P hP => ?_)
    refine Or.inr ⟨_, hcx, rfl, hy1, ?_⟩
    refine And.intro hkx (a13 _ t ht _ (fun r u hu hm => ?_))
    refine Or.inr ⟨_, hcx, rfl, hy1, ?_⟩
    refine And.intro hu (hm _ (fun w hw => ?_))
    exact And.intro (fun _ => hP _ (hn w hw)) (fun c => absurd rfl c)
  | 14, _ =>
    refine g_sw (tgt := 570) rfl (by decide) ?_
    refine g_run [18] 80 (fun P hP => ?_)
    refine Or.inr ⟨_, hcx, rfl, hy1, ?_⟩
    refine And.intro hkx (a14 _ t ht _ (fun r u hu hm => ?_))
    refine Or.inr ⟨_, hcx, rfl, hy1, ?_⟩
    refine And.intro hu (hm _ (fun w hw => ?_))
    exact And.intro (fun _ => hP _ (hn w hw)) (fun c => absurd rfl c)
  | 15, _ =>
    refine g_sw (tgt := 593) rfl (by decide) ?_
    exact g_run [18] 10 (fun P hP => hP _ (hn t ht))
  | k + 16, h => exact absurd h (by omega)
set_option maxHeartbeats 4000000 in
theorem g_law_loop {cx : gCx} {d x m b L : Nat} {xs : Nat → Int32} {g : Nat → Int64} {Inv : gSt → Prop} (hcx : cx.2.1 b (15, L, xs, g)) (hI : ∀ t, Inv t → g_k t x k_Tr ∧ g_k t m k_Mo) (ha : g_all cx d Inv x m) (hL : L ≤ 2560) : ∀ (n i : Nat) (y : Int32) (t : gSt), L ≤ i + 5 * n → i ≤ L → y = nI i → Inv t → g_W cx (g_E cx d) mt_law (fun v _ => v = some (.int 1)) (18, [some (.ref b), some (.ref x), some (.ref m), some (.int y)], [], t, 199, 998999) := by
  intro n
  induction n with
  | zero =>
    intro i y t h1 h2 hy ht
    refine g_run [18] 20 (fun P hP => ?_)
    refine Or.inr ⟨_, hcx, Or.inr (Or.inl rfl), ?_⟩
    refine And.intro (fun _ => And.intro rfl (And.intro rfl rfl)) (fun c => ?_)
    have c : ¬ Int32.ofNat L - Int32.ofInt 5 < y := c
    exfalso
    apply c
    rw [hy, show i = L by omega]
    exact (Int32.lt_iff_toInt_lt).mpr (by
      have e1 : (Int32.ofNat L - Int32.ofInt 5).toInt = (L : Int) - 5 := pk_sub_toInt (a := L) (b := 5) (by omega) (by omega)
      rw [e1, nI_toInt (by omega)]
      omega)
  | succ n ih =>
    intro i y t h1 h2 hy ht
    have e1 : (Int32.ofNat L - Int32.ofInt 5).toInt = (L : Int) - 5 := pk_sub_toInt (a := L) (b := 5) (by omega) (by omega)
    refine g_run [18, 32] 20 (fun P hP => ?_)
    refine Or.inr ⟨_, hcx, Or.inr (Or.inl rfl), ?_⟩
    refine And.intro (fun _ => And.intro rfl (And.intro rfl rfl)) (fun c => ?_)
    have c : ¬ Int32.ofNat L - Int32.ofInt 5 < y := c
    have h5 : i + 5 ≤ L := by
      rw [Int32.lt_iff_toInt_lt, e1, hy, nI_toInt (by omega)] at c
      omega
    have hj : ∀ j : Nat, j < 5 → vp_in (y + nI j) L := fun j hj => by
      rw [hy, nI_add]
      exact vp_in_nI (by omega) (by omega)
    have hin0 : vp_in y L := by rw [hy]; exact vp_in_nI (by omega) (by omega)
    refine Or.inr ⟨_, hcx, rfl, hin0, ?_⟩
    obtain ⟨k, hk, e⟩ := pk_andE (xs y.toNatClampNeg) (m := 15) 4 rfl
    refine hP _ ?_
    show g_W cx (g_E cx d) mt_law (fun v _ => v = some (.int 1)) (32, [some (.ref b), some (.ref x), some (.ref m), some (.int y)], [.int (xs y.toNatClampNeg &&& 15)], t, 199, 998999)
    rw [e]
    exact g_law_case hcx hI ha (hj 1 (by decide)) (hj 2 (by decide)) (hj 3 (by decide)) (hj 4 (by decide)) ht (fun w hw => ih (i + 5) _ w (by omega) h5 (by rw [hy]; exact nI_add i 5) hw) hk
