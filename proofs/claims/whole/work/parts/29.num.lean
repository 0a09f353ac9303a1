/-! division, remainder -/
theorem bm32 {z : Int} (h : R32 z) : Int.bmod z (2 ^ 32) = z := w32_of h
theorem ofI {z : Int} (h : R32 z) : (Int32.ofInt z).toInt = z := Int32.toInt_ofInt_of_le h.1 h.2
theorem ofI_ne {y : Int} (h : R32 y) (hy : y ≠ -1) : Int32.ofInt y ≠ -1 := fun e => hy (by
  have := congrArg Int32.toInt e
  rw [ofI h] at this
  exact this)
theorem iDiv_of {x y : Int} (hx : R32 x) (hy : R32 y) (h1 : y ≠ -1) : iDiv x y = x.tdiv y := by
  show (Int32.ofInt x / Int32.ofInt y).toInt = _
  rw [Int32.toInt_div_of_ne_right _ _ (ofI_ne hy h1), ofI hx, ofI hy]
theorem iDiv_pos {x y : Int} (hx : 0 ≤ x ∧ x < 2147483648) (hy : 0 < y ∧ y < 2147483648) : iDiv x y = x / y := by
  rw [iDiv_of ⟨by omega, by omega⟩ ⟨by omega, by omega⟩ (by omega), Int.tdiv_eq_ediv_of_nonneg hx.1]
theorem iRem_pos {x y : Int} (hx : 0 ≤ x ∧ x < 2147483648) (hy : 0 < y ∧ y < 2147483648) : iRem x y = x % y := by
  show (Int32.ofInt x - Int32.ofInt x / Int32.ofInt y * Int32.ofInt y).toInt = _
  have rx : R32 x := ⟨by omega, by omega⟩
  have ry : R32 y := ⟨by omega, by omega⟩
  rw [Int32.toInt_sub, Int32.toInt_mul, Int32.toInt_div_of_ne_right _ _ (ofI_ne ry (by omega)), ofI rx, ofI ry, Int.tdiv_eq_ediv_of_nonneg hx.1]
  have e : x / y * y = x - x % y := by have := Int.mul_ediv_add_emod x y; rw [Int.mul_comm] at this; omega
  have m0 := Int.emod_nonneg x (show y ≠ 0 by omega)
  have m1 := Int.emod_lt_of_pos x hy.1
  have m2 : x % y ≤ x := by
    have : 0 ≤ x / y * y := Int.mul_nonneg (Int.ediv_nonneg hx.1 (by omega)) (by omega)
    omega
  have e2 : Int.bmod (x - x % y) (2 ^ 32) = x - x % y := bm32 ⟨by omega, by omega⟩
  rw [e, e2]
  have e3 : x - (x - x % y) = x % y := by omega
  rw [e3, bm32 ⟨by omega, by omega⟩]
