/-! bits of ints that aren't negative -/
theorem i32_nat {x : Int} (h : 0 ≤ x ∧ x < 2147483648) : (Int32.ofInt x).toBitVec.toNat = x.toNat := by
  show (BitVec.ofInt 32 x).toNat = _
  rw [BitVec.toNat_ofInt]
  have : x % ((2 ^ 32 : Nat) : Int) = x := Int.emod_eq_of_lt h.1 (by have := h.2; norm_cast; omega)
  rw [this]
theorem i32_of {a : Int32} (h : a.toBitVec.toNat < 2147483648) : a.toInt = a.toBitVec.toNat := by
  show a.toBitVec.toInt = _
  rw [BitVec.toInt_eq_toNat_cond, if_pos (by omega)]
theorem iAnd_nn {x y : Int} (hx : 0 ≤ x ∧ x < 2147483648) (hy : 0 ≤ y ∧ y < 2147483648) : iAnd x y = (x.toNat &&& y.toNat : Nat) := by
  have e : (Int32.ofInt x &&& Int32.ofInt y).toBitVec.toNat = x.toNat &&& y.toNat := by
    rw [Int32.toBitVec_and, BitVec.toNat_and, i32_nat hx, i32_nat hy]
  have l : x.toNat &&& y.toNat ≤ x.toNat := Nat.and_le_left
  show (Int32.ofInt x &&& Int32.ofInt y).toInt = _
  rw [i32_of (by rw [e]; omega), e]
theorem iOr_nn {x y : Int} (hx : 0 ≤ x ∧ x < 2147483648) (hy : 0 ≤ y ∧ y < 2147483648) : iOr x y = (x.toNat ||| y.toNat : Nat) := by
  have e : (Int32.ofInt x ||| Int32.ofInt y).toBitVec.toNat = x.toNat ||| y.toNat := by
    rw [Int32.toBitVec_or, BitVec.toNat_or, i32_nat hx, i32_nat hy]
  have l : x.toNat ||| y.toNat < 2 ^ 31 := Nat.or_lt_two_pow (by omega) (by omega)
  show (Int32.ofInt x ||| Int32.ofInt y).toInt = _
  rw [i32_of (by rw [e]; exact l), e]
/-- x & ~y -/
theorem iAndN_nn {x y : Int} (hx : 0 ≤ x ∧ x < 2147483648) (hy : 0 ≤ y ∧ y < 2147483648) : iAnd x (iXor y (-1)) = (x.toNat &&& (x.toNat ^^^ (x.toNat &&& y.toNat)) : Nat) := by
  have e : (Int32.ofInt x &&& Int32.ofInt (iXor y (-1))).toBitVec.toNat = x.toNat &&& (x.toNat ^^^ (x.toNat &&& y.toNat)) := by
    rw [Int32.toBitVec_and]
    have e1 : Int32.ofInt (iXor y (-1)) = Int32.ofInt y ^^^ -1 := by
      show Int32.ofInt ((Int32.ofInt y ^^^ Int32.ofInt (-1)).toInt) = _
      rw [Int32.ofInt_toInt]; rfl
    rw [e1, Int32.toBitVec_xor]
    have e2 : (-1 : Int32).toBitVec = BitVec.allOnes 32 := by decide
    rw [e2]
    apply Nat.eq_of_testBit_eq
    intro i
    rw [BitVec.toNat_and, Nat.testBit_and, Nat.testBit_and, Nat.testBit_xor, Nat.testBit_and, BitVec.toNat_xor, Nat.testBit_xor, i32_nat hx, i32_nat hy, BitVec.toNat_allOnes, Nat.testBit_two_pow_sub_one]
    by_cases hi : i < 32
    · cases x.toNat.testBit i <;> cases y.toNat.testBit i <;> simp [hi]
    · have : x.toNat.testBit i = false := Nat.testBit_lt_two_pow (by
        have : 2 ^ 32 ≤ 2 ^ i := Nat.pow_le_pow_right (by decide) (by omega)
        omega)
      simp [this]
  have l : x.toNat &&& (x.toNat ^^^ (x.toNat &&& y.toNat)) ≤ x.toNat := Nat.and_le_left
  show (Int32.ofInt x &&& Int32.ofInt (iXor y (-1))).toInt = _
  rw [i32_of (by rw [e]; omega), e]
theorem i32_sh {k : Int} (hk : 0 ≤ k ∧ k < 32) : (Int32.ofInt k &&& 31).toBitVec.smod 32 = BitVec.ofNat 32 k.toNat := by
  obtain ⟨m, rfl⟩ : ∃ m : Nat, k = m := ⟨k.toNat, by omega⟩
  have hm : m < 32 := by omega
  have : ∀ m : Fin 32, (Int32.ofInt ((m.val : Nat) : Int) &&& 31).toBitVec.smod 32 = BitVec.ofNat 32 ((m.val : Nat) : Int).toNat := by decide +kernel
  exact this ⟨m, hm⟩
theorem iShr_nn {x k : Int} (hx : 0 ≤ x ∧ x < 2147483648) (hk : 0 ≤ k ∧ k < 32) : iShr x k = (x.toNat / 2 ^ k.toNat : Nat) := by
  have e : (Int32.ofInt x >>> (Int32.ofInt k &&& 31)).toBitVec.toNat = x.toNat / 2 ^ k.toNat := by
    show ((Int32.ofInt x).toBitVec.sshiftRight' ((Int32.ofInt k &&& 31).toBitVec.smod 32)).toNat = _
    rw [i32_sh hk]
    show ((Int32.ofInt x).toBitVec.sshiftRight (BitVec.ofNat 32 k.toNat).toNat).toNat = _
    have em : (Int32.ofInt x).toBitVec.msb = false := by
      rw [BitVec.msb_eq_false_iff_two_mul_lt, i32_nat hx]; omega
    rw [BitVec.sshiftRight_eq_of_msb_false em, BitVec.toNat_ushiftRight, i32_nat hx, BitVec.toNat_ofNat, Nat.mod_eq_of_lt (by omega), Nat.shiftRight_eq_div_pow]
  have l : x.toNat / 2 ^ k.toNat ≤ x.toNat := Nat.div_le_self _ _
  show (Int32.ofInt x >>> (Int32.ofInt k &&& 31)).toInt = _
  rw [i32_of (by rw [e]; omega), e]
theorem iShl_1 {k : Int} (hk : 0 ≤ k ∧ k < 31) : iShl 1 k = (2 ^ k.toNat : Nat) := by
  obtain ⟨m, rfl⟩ : ∃ m : Nat, k = m := ⟨k.toNat, by omega⟩
  have hm : m < 31 := by omega
  have : ∀ m : Fin 31, (Int32.ofInt 1 <<< (Int32.ofInt ((m.val : Nat) : Int) &&& 31)).toInt = ((2 ^ ((m.val : Nat) : Int).toNat : Nat) : Int) := by decide +kernel
  exact this ⟨m, hm⟩
/-- a bit of an int -/
theorem bit_nn {x k : Int} (hx : 0 ≤ x ∧ x < 2147483648) (hk : 0 ≤ k ∧ k < 32) : iAnd (iShr x k) 1 = if x.toNat.testBit k.toNat then 1 else 0 := by
  have l : x.toNat / 2 ^ k.toNat ≤ x.toNat := Nat.div_le_self _ _
  rw [iShr_nn hx hk, Nat.testBit_eq_decide_div_mod_eq]
  generalize x.toNat / 2 ^ k.toNat = d at l ⊢
  rw [iAnd_nn ⟨by omega, by omega⟩ ⟨by decide, by decide⟩]
  show ((((d : Int).toNat) &&& 1 : Nat) : Int) = _
  rw [Int.toNat_natCast, Nat.and_one_is_mod]
  by_cases h : d % 2 = 1
  · simp [h]
  · have : d % 2 = 0 := by omega
    simp [this]
