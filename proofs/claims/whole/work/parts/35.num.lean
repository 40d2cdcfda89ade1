/-! LONGS THAT ARE NUMBERS, and numbers in digits -/
theorem lB_toInt {n : Nat} (h : n < 2 ^ 63) : (lN n).toInt = (n : Int) := lg_ofNat_toInt (by omega)
theorem lB_div {a b : Nat} (ha : a < 2 ^ 63) (hb : b < 2 ^ 63) : lN a / lN b = lN (a / b) := by
  have hd : a / b < 2 ^ 63 := Nat.lt_of_le_of_lt (Nat.div_le_self a b) ha
  refine Int64.toInt_inj.mp ?_
  rw [Int64.toInt_div, lB_toInt ha, lB_toInt hb, lB_toInt hd]
  show (Int.tdiv (a : Int) (b : Int)).bmod (2 ^ 64) = ((a / b : Nat) : Int)
  have e : Int.tdiv (a : Int) (b : Int) = ((a / b : Nat) : Int) := by rw [Int.tdiv_eq_ediv_of_nonneg (Int.natCast_nonneg a)]; rfl
  rw [e]
  generalize a / b = q at hd
  exact Int.bmod_eq_of_le_mul_two (by omega) (by omega)
theorem lB_bv {n : Nat} : (lN n).toBitVec = BitVec.ofNat 64 n := rfl
theorem lB_shr {a s : Nat} (ha : a < 2 ^ 63) (hs : s < 64) : lN a >>> lN s = lN (a / 2 ^ s) := by
  have hd : a / 2 ^ s < 2 ^ 63 := Nat.lt_of_le_of_lt (Nat.div_le_self a _) ha
  have e1 : (lN s).toBitVec.smod 64 = BitVec.ofNat 64 s := by
    have : ∀ s, s < 64 → (BitVec.ofNat 64 s).smod 64 = BitVec.ofNat 64 s := by decide
    exact this s hs
  have e : (lN a >>> lN s).toBitVec = (lN a).toBitVec.sshiftRight s := by
    show BitVec.sshiftRight' (lN a).toBitVec ((lN s).toBitVec.smod 64) = _
    rw [e1]
    show BitVec.sshiftRight (lN a).toBitVec (BitVec.ofNat 64 s).toNat = _
    rw [BitVec.toNat_ofNat, Nat.mod_eq_of_lt (by omega)]
  refine Int64.toInt_inj.mp ?_
  rw [lB_toInt hd]
  show (lN a >>> lN s).toBitVec.toInt = _
  rw [e, BitVec.toInt_sshiftRight]
  show (lN a).toInt >>> s = _
  rw [lB_toInt ha, Int.shiftRight_eq_div_pow]
  rfl
theorem lB_and {a k : Nat} (ha : a < 2 ^ 63) (hk : k < 63) : lN a &&& lN (2 ^ k - 1) = lN (a % 2 ^ k) := by
  refine Int64.toBitVec_inj.mp ?_
  rw [Int64.toBitVec_and, lB_bv, lB_bv, lB_bv]
  refine BitVec.eq_of_toNat_eq ?_
  have hp : 2 ^ k < 2 ^ 64 := Nat.pow_lt_pow_right (by decide) (by omega)
  have hp0 : 0 < 2 ^ k := Nat.two_pow_pos k
  rw [BitVec.toNat_and, BitVec.toNat_ofNat, BitVec.toNat_ofNat, BitVec.toNat_ofNat, Nat.mod_eq_of_lt (by omega : a < 2 ^ 64), Nat.mod_eq_of_lt (by omega : 2 ^ k - 1 < 2 ^ 64), Nat.and_two_pow_sub_one_eq_mod, Nat.mod_eq_of_lt (Nat.lt_trans (Nat.mod_lt a hp0) hp)]
theorem nI_bv {n : Nat} : (nI n).toBitVec = BitVec.ofNat 32 n := rfl
theorem nI_and {a k : Nat} (hk : k < 31) : nI a &&& nI (2 ^ k - 1) = nI (a % 2 ^ k) := by
  refine Int32.toBitVec_inj.mp ?_
  rw [Int32.toBitVec_and, nI_bv, nI_bv, nI_bv]
  refine BitVec.eq_of_toNat_eq ?_
  have hp : 2 ^ k < 2 ^ 32 := Nat.pow_lt_pow_right (by decide) (by omega)
  have hp0 : 0 < 2 ^ k := Nat.two_pow_pos k
  have hd : 2 ^ k ∣ 2 ^ 32 := Nat.pow_dvd_pow 2 (by omega)
  rw [BitVec.toNat_and, BitVec.toNat_ofNat, BitVec.toNat_ofNat, BitVec.toNat_ofNat, Nat.mod_eq_of_lt (by omega : 2 ^ k - 1 < 2 ^ 32), Nat.and_two_pow_sub_one_eq_mod, Nat.mod_mod_of_dvd _ hd, Nat.mod_eq_of_lt (Nat.lt_trans (Nat.mod_lt a hp0) hp)]
theorem lB_cmp_le {a b : Nat} (ha : a < 2 ^ 63) (hb : b < 2 ^ 63) : (lg_cmp (lN a) (lN b) ≤ 0) ↔ a ≤ b := by
  unfold lg_cmp
  have e1 : lN a > lN b ↔ b < a := by
    show lN b < lN a ↔ _
    rw [Int64.lt_iff_toInt_lt, lB_toInt ha, lB_toInt hb]
    omega
  split
  · rename_i c
    have := e1.mp c
    exact ⟨fun q => absurd q (by decide), fun _ => by omega⟩
  · rename_i c
    have : ¬ b < a := fun q => c (e1.mpr q)
    split
    · exact ⟨fun _ => by omega, fun _ => by decide⟩
    · exact ⟨fun _ => by omega, fun _ => by decide⟩
/-- numbers of digits of base B, the highest first -/
def nB (B : Nat) : List Nat → Nat
  | [] => 0
  | c :: l => c * B ^ l.length + nB B l
theorem nB_lt {B : Nat} : ∀ (l : List Nat), (∀ c ∈ l, c < B) → nB B l < B ^ l.length
  | [], _ => by simp [nB]
  | c :: l, h => by
    have h1 := h c List.mem_cons_self
    have h2 := nB_lt l (fun x hx => h x (List.mem_cons_of_mem _ hx))
    simp only [nB, List.length_cons, Nat.pow_succ]
    have : c * B ^ l.length + B ^ l.length ≤ B ^ l.length * B := by
      rw [Nat.mul_comm (B ^ l.length) B, ← Nat.succ_mul]
      exact Nat.mul_le_mul_right _ h1
    omega
theorem nB_dig {B : Nat} (hB : 0 < B) : ∀ (l : List Nat), (∀ c ∈ l, c < B) → ∀ i, i < l.length → (nB B l / B ^ i) % B = l.getD (l.length - 1 - i) 0
  | [], _, i, hi => absurd hi (by simp)
  | c :: l, h, i, hi => by
    have h1 := h c List.mem_cons_self
    have hl := fun x hx => h x (List.mem_cons_of_mem c hx)
    have h2 := nB_lt l hl
    simp only [nB, List.length_cons] at hi ⊢
    by_cases e : i = l.length
    · subst e
      rw [Nat.add_comm, Nat.add_mul_div_right _ _ (Nat.pow_pos hB), Nat.div_eq_of_lt h2, Nat.zero_add, Nat.mod_eq_of_lt h1]
      simp
    · have hi' : i < l.length := by omega
      have ih := nB_dig hB l hl i hi'
      have e1 : c * B ^ l.length = c * B ^ (l.length - 1 - i) * B * B ^ i := by
        rw [Nat.mul_assoc, Nat.mul_assoc, ← Nat.pow_succ', ← Nat.pow_add]
        congr 2
        omega
      rw [e1, Nat.add_comm, Nat.add_mul_div_right _ _ (Nat.pow_pos hB), Nat.add_mul_mod_self_right, ih]
      have e2 : l.length + 1 - 1 - i = (l.length - 1 - i) + 1 := by omega
      rw [e2, List.getD_cons_succ]
theorem pk_step {x c k : Nat} (hk : k < 63) (hc : c < 2 ^ k) (hx : x * 2 ^ k + c < 2 ^ 63) : lN x <<< lN k ||| lN c = lN (x * 2 ^ k + c) := by
  have e1 : (lN k).toBitVec.smod 64 = BitVec.ofNat 64 k := by
    have : ∀ s, s < 64 → (BitVec.ofNat 64 s).smod 64 = BitVec.ofNat 64 s := by decide
    exact this k (by omega)
  have hx1 : x ≤ x * 2 ^ k := Nat.le_mul_of_pos_right x (Nat.two_pow_pos k)
  have e : (lN x <<< lN k).toBitVec = (lN x).toBitVec <<< k := by
    show (lN x).toBitVec <<< ((lN k).toBitVec.smod 64) = _
    rw [e1]
    show (lN x).toBitVec <<< (BitVec.ofNat 64 k).toNat = _
    rw [BitVec.toNat_ofNat, Nat.mod_eq_of_lt (by omega)]
  refine Int64.toBitVec_inj.mp ?_
  rw [Int64.toBitVec_or, e, lB_bv, lB_bv, lB_bv]
  refine BitVec.eq_of_toNat_eq ?_
  rw [BitVec.toNat_or, BitVec.toNat_shiftLeft, BitVec.toNat_ofNat, BitVec.toNat_ofNat, BitVec.toNat_ofNat, Nat.mod_eq_of_lt (by omega : x < 2 ^ 64), Nat.shiftLeft_eq, Nat.mod_eq_of_lt (by omega : x * 2 ^ k < 2 ^ 64), Nat.mod_eq_of_lt (by omega : c < 2 ^ 64), Nat.mod_eq_of_lt (by omega : x * 2 ^ k + c < 2 ^ 64), ← Nat.shiftLeft_eq, Nat.shiftLeft_add_eq_or_of_lt hc]
theorem pk_fold {k : Nat} (hk : k < 63) (g : Nat → Nat) : ∀ (l : List Nat) (x : Nat), (∀ c ∈ l, g c < 2 ^ k) → x * (2 ^ k) ^ l.length + nB (2 ^ k) (l.map g) < 2 ^ 63 → l.foldl (fun x c => x <<< lN k ||| lN (g c)) (lN x) = lN (x * (2 ^ k) ^ l.length + nB (2 ^ k) (l.map g))
  | [], x, _, _ => by simp [nB]
  | c :: l, x, hl, hx => by
    have h1 := hl c List.mem_cons_self
    have e : x * (2 ^ k) ^ (c :: l).length + nB (2 ^ k) ((c :: l).map g) = (x * 2 ^ k + g c) * (2 ^ k) ^ l.length + nB (2 ^ k) (l.map g) := by
      simp only [List.length_cons, List.map_cons, nB, List.length_map, Nat.pow_succ, Nat.add_mul]
      rw [Nat.mul_comm ((2 ^ k) ^ l.length) (2 ^ k), ← Nat.mul_assoc]
      omega
    rw [e] at hx ⊢
    have hle : x * 2 ^ k + g c ≤ (x * 2 ^ k + g c) * (2 ^ k) ^ l.length := Nat.le_mul_of_pos_right _ (Nat.pow_pos (Nat.two_pow_pos k))
    rw [List.foldl_cons, pk_step hk h1 (by omega)]
    exact pk_fold hk g l _ (fun c hc => hl c (List.mem_cons_of_mem _ hc)) hx
