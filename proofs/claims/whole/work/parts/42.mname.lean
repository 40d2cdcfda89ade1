/-! THE MODEL'S WRITER: names, signs, words -/
theorem sh6 : ∀ i, i < 9 → (((6 : Int32) * nI i).toInt64 &&& 63) = lN (6 * i) := by decide +kernel
theorem nB6_name {nm : List Nat} (h : nm_ok nm) : pk6 nm = lN (nB 64 (nm.map lt6)) ∧ nB 64 (nm.map lt6) < 2 ^ 48 ∧ (∀ c ∈ nm, 0 < lt6 c ∧ lt6 c < 37) := by
  obtain ⟨h1, h2, h3, h4⟩ := h
  have hc : ∀ c ∈ nm, 0 < lt6 c ∧ lt6 c < 37 := fun c hc => by
    refine ⟨h3 c hc, ?_⟩
    unfold lt6
    split
    · omega
    · split <;> omega
  have hlt : nB 64 (nm.map lt6) < 2 ^ 48 := by
    have := nB_lt (B := 64) (nm.map lt6) (fun x hx => by
      obtain ⟨c, hc1, rfl⟩ := List.mem_map.mp hx
      have := hc c hc1
      omega)
    rw [List.length_map] at this
    have hp : 64 ^ nm.length ≤ 64 ^ 8 := Nat.pow_le_pow_right (by decide) h2
    omega
  refine ⟨?_, hlt, hc⟩
  have := pk_fold (k := 6) (by decide) lt6 nm 0 (fun c hx => by have := hc c hx; show lt6 c < 64; omega) (by rw [Nat.zero_mul, Nat.zero_add]; show nB 64 _ < _; omega)
  rw [Nat.zero_mul, Nat.zero_add] at this
  exact this
section MN
variable {cx : gCx} {d : Nat} {ad : Nat → Nat} {t : gSt} {post : Option Value → gSt → Prop} {l : List Nat}
theorem m_nameOut {nm : List Nat} (hn : nm_ok nm) (hL : Lay t ad) (hl : l.length < 2 ^ 29) (hQ : Qm ad l t) (h : ∀ u, gFr ad puP t u → Qm ad (l ++ nm) u → post none u) : g_E cx (d + 2) i_Mo_nameOut [.ref (ad 144), .long (pk6 nm)] t post := by
  obtain ⟨e6, hlt, hc⟩ := nB6_name hn
  have hlen := hn.2.1
  have h0 := hn.1
  rw [e6]
  have hN : ∀ m, nB 64 (nm.map lt6) / 2 ^ (6 * m) < 2 ^ 63 := fun m => by have := Nat.div_le_self (nB 64 (nm.map lt6)) (2 ^ (6 * m)); omega
  have ep : ∀ m, 2 ^ (6 * m) = 64 ^ m := fun m => by rw [Nat.pow_mul]
  refine x_Mo_nameOut hL ?_
  -- the letters, from the last m on
  have out : ∀ m (u : gSt) (l' : List Nat) (x : Int32) (o : Option Value), m ≤ nm.length → l'.length + m < 2 ^ 30 → gFr ad puP t u → Qm ad l' u → l' ++ nm.drop (nm.length - m) = l ++ nm → g_W cx (g_E cx (d + 1)) mt_Mo_nameOut post (24, [some (.ref (ad 144)), some (.long (lN (nB 64 (nm.map lt6)))), none, some (.int x), some (.int (nI m - 1)), o], [], u, 0, 0) := by
    intro m
    induction m with
    | zero =>
      intro u l' x o hm hll hF hq hl
      refine x_Mo_nameOut_24 hF.L ⟨fun _ => h u hF ?_, fun q => absurd (by decide) q⟩
      rw [Nat.sub_zero, List.drop_length, List.append_nil] at hl
      rw [← hl]
      exact hq
    | succ m ih =>
      intro u l' x o hm hll hF hq hl
      rw [nI_pred]
      refine x_Mo_nameOut_24 hF.L ⟨fun q => absurd q (nI_pos (by omega)), fun _ x1 e1 => ?_⟩
      rw [sh6 m (by omega), lB_shr (by omega) (by omega), show (63 : Int64) = lN (2 ^ 6 - 1) from rfl, lB_and (hN m) (by decide), lN_i, ep] at e1
      rw [show nI m + (-1) = nI m - 1 from by rw [Int32.sub_eq_add_neg]]
      have hd := nB_dig (B := 64) (by decide) (nm.map lt6) (fun z hz => by
        obtain ⟨c, hc1, rfl⟩ := List.mem_map.mp hz
        have := hc c hc1
        omega) m (by rw [List.length_map]; omega)
      have hi : nm.length - 1 - m < nm.length := by omega
      have egd : (nm.map lt6).getD ((nm.map lt6).length - 1 - m) 0 = lt6 nm[nm.length - 1 - m] := by
        rw [List.length_map, List.getD_eq_getElem?_getD, List.getElem?_map, List.getElem?_eq_getElem hi]; rfl
      rw [show nB 64 (nm.map lt6) / 64 ^ m % 2 ^ 6 = nB 64 (nm.map lt6) / 64 ^ m % 64 from rfl, hd, egd] at e1
      have hcc := hc _ (List.getElem_mem hi)
      have e5 : nm.length - (m + 1) = nm.length - 1 - m := by omega
      have e6 : nm.length - 1 - m + 1 = nm.length - m := by omega
      have nxt : ∀ (w : gSt) (o' : Option Value), gFr ad puP u w → Qm ad (l' ++ [nm[nm.length - 1 - m]]) w → g_W cx (g_E cx (d + 1)) mt_Mo_nameOut post (24, [some (.ref (ad 144)), some (.long (lN (nB 64 (nm.map lt6)))), none, some (.int x), some (.int (nI m - 1)), o'], [], w, 0, 0) := by
        intro w o' F2 q2
        refine ih w _ x o' (by omega) (by simp; omega) (hF.tr F2) q2 ?_
        rw [← hl, e5, List.drop_eq_getElem_cons hi, List.append_assoc, e6]
        rfl
      obtain ⟨c, ec⟩ : ∃ c, nm[nm.length - 1 - m] = c := ⟨_, rfl⟩
      rw [ec] at e1 hcc nxt
      have hcs : (97 ≤ c ∧ c ≤ 122 ∧ lt6 c = c - 96) ∨ (48 ≤ c ∧ c ≤ 57 ∧ lt6 c = c - 21) := by
        have h1 := hcc.1
        unfold lt6 at h1 ⊢
        split at h1
        · rename_i z
          exact Or.inl ⟨z.1, z.2, if_pos z⟩
        · rename_i z
          split at h1
          · rename_i z2
            exact Or.inr ⟨z2.1, z2.2, by rw [if_neg z, if_pos z2]⟩
          · omega
      rw [e1, show (27 : Int32) = nI 27 from rfl, nI_leI (by omega) (by omega)]
      refine ⟨fun q => ?_, fun q => ?_⟩
      · obtain ⟨a1, a2, a3⟩ := hcs.resolve_left (fun z => by omega)
        rw [show (48 : Int32) = nI 48 from rfl, nI_add, nI_sub (by omega), show 48 + lt6 c - 27 = c by omega]
        exact m_put hF.L (by omega) (by omega) hq (fun w F2 q2 => ⟨rfl, F2.L, nxt w _ F2 q2⟩)
      · obtain ⟨a1, a2, a3⟩ := hcs.resolve_right (fun z => by omega)
        rw [show (97 : Int32) = nI 97 from rfl, show (1 : Int32) = nI 1 from rfl, nI_add, nI_sub (by omega), show 97 + lt6 c - 1 = c by omega]
        exact m_put hF.L (by omega) (by omega) hq (fun w F2 q2 => ⟨rfl, F2.L, nxt w _ F2 q2⟩)
  -- how many letters
  have find : ∀ k m (u : gSt), k + m = nm.length → gFr ad puP t u → Qm ad l u → g_W cx (g_E cx (d + 1)) mt_Mo_nameOut post (2, [some (.ref (ad 144)), some (.long (lN (nB 64 (nm.map lt6)))), none, some (.int (nI m)), none, none], [], u, 0, 0) := by
    intro k
    have cm : ∀ m, m ≤ nm.length → ((lg_cmp (lN (nB 64 (nm.map lt6)) >>> (((6 * nI m : Int32)).toInt64 &&& 63)) 0 ≤ 0) ↔ nB 64 (nm.map lt6) / 64 ^ m = 0) := fun m hm => by
      rw [sh6 m (by omega), lB_shr (by omega) (by omega), ep]
      rw [show (0 : Int64) = lN 0 from rfl, lB_cmp_le (by have := hN m; rw [ep] at this; exact this) (by decide)]
      exact Nat.le_zero
    have hbl := nB_lt (B := 64) (nm.map lt6) (fun z hz => by
      obtain ⟨c, hc1, rfl⟩ := List.mem_map.mp hz
      have := hc c hc1
      omega)
    rw [List.length_map] at hbl
    induction k with
    | zero =>
      intro m u hk hF hq
      have hm : m = nm.length := by omega
      subst hm
      refine x_Mo_nameOut_2 hF.L ⟨fun _ x1 e1 => ?_, fun c => absurd ((cm _ (Nat.le_refl _)).mpr (Nat.div_eq_of_lt hbl)) c⟩
      subst e1
      exact out nm.length u l _ _ (Nat.le_refl _) (by omega) hF hq (by rw [Nat.sub_self, List.drop_zero])
    | succ k ih =>
      intro m u hk hF hq
      refine x_Mo_nameOut_2 hF.L ⟨fun c => ?_, fun _ => ?_⟩
      · have c := (cm m (by omega)).mp c
        have hge : 64 ^ m ≤ nB 64 (nm.map lt6) := by
          match nm, h0, hc, hk with
          | x :: r, _, hc, hk =>
            have hx := hc x List.mem_cons_self
            simp only [List.map_cons, nB, List.length_map]
            have h1 : 64 ^ m ≤ 64 ^ r.length := Nat.pow_le_pow_right (by decide) (by simp at hk; omega)
            have h2 : 1 * 64 ^ r.length ≤ lt6 x * 64 ^ r.length := Nat.mul_le_mul_right _ (by omega)
            omega
        have := (Nat.le_div_iff_mul_le (Nat.pow_pos (by decide) : 0 < 64 ^ m)).mpr (by rw [Nat.one_mul]; exact hge)
        omega
      · rw [nI_1]
        exact ih (m + 1) u (by omega) hF hq
  exact find nm.length 0 t (by omega) (gFr.rf hL) hQ
/-- what is put by a long's bytes, told by a list -/
theorem m_putL {z : Int64} (nm : List Nat) (hz : z = lN (nB 256 nm)) (hlt : nB 256 nm < 2 ^ 63) (hc : ∀ c ∈ nm, 0 < c ∧ c < 128) (hlen : nm.length ≤ 8) (hL : Lay t ad) (hl : l.length < 2 ^ 29) (hQ : Qm ad l t) (h : ∀ u, gFr ad puP t u → Qm ad (l ++ nm) u → post none u) : g_E cx (d + 2) i_Mo_puts [.ref (ad 144), .long z] t post := by
  rw [hz]
  exact m_puts hlt hc hlen hL hl hQ h
/-- the word of a sign's number -/
def wd_t (c : Int32) : List Nat := if c = 0 then [41] else if c = 1 then [32, 116, 104, 101, 110, 32] else if c = 2 then [32, 101, 108, 115, 101, 32] else if c = 3 then [32, 105, 110, 32] else if c = 4 then [44] else if c = 109 then [61, 61] else if c = 103 then [43] else if c = 104 then [45] else if c = 105 then [42] else if c = 106 then [47] else if c = 107 then [37] else if c = 108 then [60] else [59]
theorem m_wordOf {c : Nat} (hL : Lay t ad) (hc : c ≤ 4 ∨ (103 ≤ c ∧ c ≤ 109) ∨ c = 112) (h : post (some (.long (lN (nB 256 (wd_t (nI c)))))) t) : g_E cx (d + 2) i_Mo_wordOf [.int (nI c)] t post := by
  have no : ∀ j : Nat, j < 200 → c ≠ j → ¬ nI c = nI j := fun j hj h q => h ((nI_eq (by omega) (by omega)).mp q)
  refine x_Mo_wordOf hL ⟨fun e => ?_, fun e => ?_, fun e => ?_, fun e => ?_, fun e => ?_, fun e => ?_⟩
  · rw [e] at h; exact x_Mo_wordOf_36 hL h
  · rw [e] at h; exact x_Mo_wordOf_40 hL h
  · rw [e] at h; exact x_Mo_wordOf_44 hL h
  · rw [e] at h; exact x_Mo_wordOf_48 hL h
  · rw [e] at h; exact x_Mo_wordOf_52 hL h
  · have hc4 : ¬ c ≤ 4 := fun q => by
      rcases e with e | e
      · exact absurd e (nI_pos (by omega))
      · rw [show (4 : Int32) = nI 4 from rfl, nI_ltI (by omega) (by omega)] at e; omega
    refine x_Mo_wordOf_56 hL ?_
    rw [show (100 : Int32) = nI 100 from rfl, nI_sub (by omega)]
    have key : ∀ (z : Int64), post (some (.long z)) t → (∃ y2 : Int64, some (Value.long z) = some (.long y2) ∧ Lay t ad ∧ post (some (.long y2)) t) := fun z hz => ⟨z, rfl, hL, hz⟩
    have hcs : c = 103 ∨ c = 104 ∨ c = 105 ∨ c = 106 ∨ c = 107 ∨ c = 108 ∨ c = 109 ∨ c = 112 := by omega
    refine x_Mo_signOf hL ⟨fun e2 => ?_, fun e2 => ?_, fun e2 => ?_, fun e2 => ?_, fun e2 => ?_, fun e2 => ?_, fun e2 => ?_, fun e2 => ?_⟩
    · rcases hcs with rfl | rfl | rfl | rfl | rfl | rfl | rfl | rfl <;> first | exact absurd e2 (by decide) | exact x_Mo_signOf_44 hL (key _ h)
    · rcases hcs with rfl | rfl | rfl | rfl | rfl | rfl | rfl | rfl <;> first | exact absurd e2 (by decide) | exact x_Mo_signOf_48 hL (key _ h)
    · rcases hcs with rfl | rfl | rfl | rfl | rfl | rfl | rfl | rfl <;> first | exact absurd e2 (by decide) | exact x_Mo_signOf_52 hL (key _ h)
    · rcases hcs with rfl | rfl | rfl | rfl | rfl | rfl | rfl | rfl <;> first | exact absurd e2 (by decide) | exact x_Mo_signOf_56 hL (key _ h)
    · rcases hcs with rfl | rfl | rfl | rfl | rfl | rfl | rfl | rfl <;> first | exact absurd e2 (by decide) | exact x_Mo_signOf_60 hL (key _ h)
    · rcases hcs with rfl | rfl | rfl | rfl | rfl | rfl | rfl | rfl <;> first | exact absurd e2 (by decide) | exact x_Mo_signOf_64 hL (key _ h)
    · rcases hcs with rfl | rfl | rfl | rfl | rfl | rfl | rfl | rfl <;> first | exact absurd e2 (by decide) | exact x_Mo_signOf_68 hL (key _ h)
    · rcases hcs with rfl | rfl | rfl | rfl | rfl | rfl | rfl | rfl <;> first | exact absurd e2 (by decide) | exact x_Mo_signOf_72 hL (key _ h)
end MN
