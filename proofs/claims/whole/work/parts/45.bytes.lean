/-! the bytes of a word -/
theorem i64_ofInt {w : Int} : (Int64.ofInt w).toBitVec = BitVec.ofInt 64 w := rfl
def byB (a : BitVec 64) (s : Nat) : BitVec 64 := a.sshiftRight s &&& 255#64
theorem and255 (x : BitVec 64) : (x &&& 255#64).toInt = (x.toNat % 256 : Nat) := by
  have h1 : (x &&& 255#64).toNat = x.toNat % 256 := by
    rw [BitVec.toNat_and]
    show x.toNat &&& 255 = _
    exact Nat.and_two_pow_sub_one_eq_mod x.toNat 8
  rw [BitVec.toInt_eq_toNat_of_lt (by rw [h1]; have := Nat.mod_lt x.toNat (show 256 > 0 by decide); omega), h1]
theorem byB_rng (a : BitVec 64) (s : Nat) : 0 ≤ (byB a s).toInt ∧ (byB a s).toInt ≤ 255 := by
  unfold byB
  rw [and255]
  have := Nat.mod_lt (a.sshiftRight s).toNat (show 256 > 0 by decide)
  omega
theorem byB_ushr (a : BitVec 64) {s : Nat} (hs : s ≤ 56) : a.sshiftRight s &&& 255#64 = a >>> s &&& 255#64 := by
  apply BitVec.eq_of_getLsbD_eq
  intro i hi
  simp only [BitVec.getLsbD_and, BitVec.getLsbD_sshiftRight, BitVec.getLsbD_ushiftRight]
  by_cases h8 : i < 8
  · have h1 : ¬ 64 ≤ i := by omega
    simp only [h1, decide_false, Bool.not_false, Bool.true_and]
    rw [if_pos (by omega)]
  · have : (255#64).getLsbD i = false := by
      rw [show (255#64 : BitVec 64) = BitVec.ofNat 64 255 from rfl, BitVec.getLsbD_ofNat]
      have : Nat.testBit 255 i = false := Nat.testBit_lt_two_pow (Nat.lt_of_lt_of_le (show 255 < 2 ^ 8 by decide) (Nat.pow_le_pow_right (by decide) (by omega)))
      simp [this]
    simp [this]
theorem byB_zero (a : BitVec 64) (h : ∀ j, j < 8 → (byB a (8 * j)).toInt = 0) : a = 0 := by
  apply BitVec.eq_of_getLsbD_eq
  intro i hi
  have h1 := h (i / 8) (by omega)
  have h2 : byB a (8 * (i / 8)) = 0#64 := BitVec.eq_of_toInt_eq (by rw [h1]; rfl)
  have h3 := congrArg (fun v : BitVec 64 => v.getLsbD (i % 8)) h2
  simp only [byB, BitVec.getLsbD_and, BitVec.getLsbD_sshiftRight, BitVec.getLsbD_zero] at h3
  have e : 8 * (i / 8) + i % 8 = i := by omega
  have hb : (255#64).getLsbD (i % 8) = true := by
    have : i % 8 = 0 ∨ i % 8 = 1 ∨ i % 8 = 2 ∨ i % 8 = 3 ∨ i % 8 = 4 ∨ i % 8 = 5 ∨ i % 8 = 6 ∨ i % 8 = 7 := by omega
    rcases this with h | h | h | h | h | h | h | h <;> rw [h] <;> decide
  have h64 : ¬ 64 ≤ i % 8 := by omega
  rw [e, hb] at h3
  simp only [h64, decide_false, Bool.not_false, Bool.true_and, if_pos hi, Bool.and_true] at h3
  rw [h3]
  simp
/-- byte j of w, from the lowest -/
def byt (w : Int) (j : Nat) : Int := (byB (BitVec.ofInt 64 w) (8 * j)).toInt
theorem lShr_c (w : Int) (j : Nat) (hj : j < 8) : (Int64.ofInt (lShr w (8 * j))).toBitVec = (BitVec.ofInt 64 w).sshiftRight (8 * j) := by
  unfold lShr l1
  rw [Int64.ofInt_toInt]
  have : j = 0 ∨ j = 1 ∨ j = 2 ∨ j = 3 ∨ j = 4 ∨ j = 5 ∨ j = 6 ∨ j = 7 := by omega
  rcases this with rfl | rfl | rfl | rfl | rfl | rfl | rfl | rfl <;> rfl
theorem lUshr_c (w : Int) (j : Nat) (hj : j < 8) : (Int64.ofInt (lUshr w (8 * j))).toBitVec = (BitVec.ofInt 64 w) >>> (8 * j) := by
  unfold lUshr l1
  rw [Int64.ofInt_toInt]
  have : j = 0 ∨ j = 1 ∨ j = 2 ∨ j = 3 ∨ j = 4 ∨ j = 5 ∨ j = 6 ∨ j = 7 := by omega
  rcases this with rfl | rfl | rfl | rfl | rfl | rfl | rfl | rfl <;> rfl
theorem byt_shr {w : Int} {j : Nat} (hj : j < 8) : lAnd (lShr w (8 * j)) 255 = byt w j := by
  show (Int64.ofInt (lShr w (8 * j)) &&& Int64.ofInt 255).toInt = _
  show (Int64.ofInt (lShr w (8 * j)) &&& Int64.ofInt 255).toBitVec.toInt = _
  rw [Int64.toBitVec_and, lShr_c w j hj]
  rfl
theorem byt_ushr {w : Int} {j : Nat} (hj : j < 8) : lAnd (lUshr w (8 * j)) 255 = byt w j := by
  show (Int64.ofInt (lUshr w (8 * j)) &&& Int64.ofInt 255).toBitVec.toInt = _
  rw [Int64.toBitVec_and, lUshr_c w j hj]
  unfold byt byB
  rw [byB_ushr _ (by omega)]
  rfl
theorem byt_rng (w : Int) (j : Nat) : 0 ≤ byt w j ∧ byt w j ≤ 255 := byB_rng _ _
theorem byt_zero {w : Int} (hw : R64 w) (h : ∀ j, j < 8 → byt w j = 0) : w = 0 := by
  have := byB_zero (BitVec.ofInt 64 w) h
  have h2 := congrArg BitVec.toInt this
  rw [BitVec.toInt_ofInt] at h2
  have h3 : Int.bmod w (2 ^ 64) = w := w64_of hw
  rw [h3] at h2
  exact h2
theorem byt_0 (j : Nat) : byt 0 j = 0 := by
  unfold byt byB
  simp
