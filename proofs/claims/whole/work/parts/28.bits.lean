/-! BITS OF A ROW -/
theorem hb_sh : ∀ g, g < 32 → (nI g &&& 31).toBitVec.smod 32 = BitVec.ofNat 32 g := by decide
theorem hb_iff {x : Int32} {g : Nat} (hg : g < 32) : (x >>> (nI g &&& 31)) &&& 1 = 0 ↔ hb x g = false := by
  have e : (x >>> (nI g &&& 31)).toBitVec = x.toBitVec.sshiftRight g := by
    show BitVec.sshiftRight' x.toBitVec ((nI g &&& 31).toBitVec.smod 32) = _
    rw [hb_sh g hg]
    show BitVec.sshiftRight x.toBitVec (BitVec.ofNat 32 g).toNat = _
    rw [BitVec.toNat_ofNat, Nat.mod_eq_of_lt (by omega)]
  have e1 : (1 : Int32).toBitVec = 1#32 := rfl
  rw [← Int32.toBitVec_inj, Int32.toBitVec_and, e, e1]
  show (x.toBitVec.sshiftRight g &&& 1#32) = 0#32 ↔ _
  rw [BitVec.and_one_eq_setWidth_ofBool_getLsbD, BitVec.getLsbD_sshiftRight]
  unfold hb
  simp only [Nat.add_zero, hg, if_true]
  cases x.toBitVec.getLsbD g <;> decide
theorem hb_or {x y : Int32} {g : Nat} : hb (x ||| y) g = (hb x g || hb y g) := by
  unfold hb
  rw [Int32.toBitVec_or, BitVec.getLsbD_or]
theorem hb_z {g : Nat} : hb 0 g = false := by
  unfold hb
  show (0#32).getLsbD g = false
  simp
theorem hb_1 : ∀ g, g < 24 → ∀ h, h < 24 → hb (1 <<< (nI g &&& 31)) h = decide (g = h) := by decide +kernel
