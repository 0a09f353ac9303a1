/-! the float of its bits, step by step -/
theorem uB_nat (x : Int) : (Int32.ofInt x).toBitVec.toNat = (uB x).toNat := rfl
theorem iAnd_u {x y : Int} (hy : 0 ≤ y ∧ y < 2147483648) : iAnd x y = ((uB x).toNat &&& y.toNat : Nat) := by
  have e : (Int32.ofInt x &&& Int32.ofInt y).toBitVec.toNat = (uB x).toNat &&& y.toNat := by
    rw [Int32.toBitVec_and, BitVec.toNat_and, uB_nat, i32_nat hy]
  have l : (uB x).toNat &&& y.toNat ≤ y.toNat := Nat.and_le_right
  show (Int32.ofInt x &&& Int32.ofInt y).toInt = _
  rw [i32_of (by rw [e]; omega), e]
theorem and_frac (N : Nat) : N &&& 8388607 = N % 8388608 := by
  have := Nat.and_two_pow_sub_one_eq_mod N 23
  exact this
theorem and_expo (N : Nat) : N &&& 2139095040 = (N / 8388608 % 256) * 8388608 := by
  have h1 : (N &&& 2139095040) % 2 ^ 23 = 0 := by
    rw [Nat.and_mod_two_pow]
    show N % 2 ^ 23 &&& 0 = 0
    exact Nat.and_zero _
  have h2 : (N &&& 2139095040) >>> 23 = (N >>> 23) &&& (2139095040 >>> 23) := Nat.shiftRight_and_distrib
  rw [Nat.shiftRight_eq_div_pow, Nat.shiftRight_eq_div_pow] at h2
  have h3 : (N / 2 ^ 23) &&& (2139095040 >>> 23) = N / 2 ^ 23 % 256 := Nat.and_two_pow_sub_one_eq_mod _ 8
  rw [h3] at h2
  have h4 : (2 : Nat) ^ 23 = 8388608 := by decide
  rw [h4] at h1 h2
  omega
theorem k_le {k y : Int} (hk : 0 ≤ k) (hy : 1 ≤ y) : k ≤ k * y := by
  have := Int.mul_le_mul_of_nonneg_left hy hk
  rw [Int.mul_one] at this
  exact this
theorem c_float_37 {h : AH} {Q : Option AV → AH → Prop} {y0 y1 y2 y4 : Int} {m : Nat} {E : Int} (hF : Fix h) (hm : m < 16777216) (hE : -149 ≤ E ∧ E ≤ 104) (cont : ∀ r, HoldsF r m E → (0 ≤ y0 → Q (some (vF r)) h) ∧ (¬ 0 ≤ y0 → Q (some (vF (FP.fneg r))) h)) (n : Nat) :
    ∀ (y3 y5 : UInt32) (y6 e k : Int), y6.toNat = n → 0 ≤ y6 ∧ y6 < 1000 → HoldsF y3 m e → (0 < y6 → HoldsF y5 1 k) → e + k * y6 = E → ((0 ≤ k ∧ 0 ≤ e) ∨ (k ≤ 0 ∧ e ≤ 0)) → Ok 29 37 [some (vI y0), some (vI y1), some (vI y2), some (vF y3), some (vI y4), some (vF y5), some (vI y6)] [] h Q := by
  induction n using Nat.strongRecOn with
  | ind n ih =>
    intro y3 y5 y6 e k hn h6 h3 h5 he hs
    refine f_X3_floatOf_37 hF _ _ _ _ _ _ _ ⟨fun q => ?_, fun q => ?_⟩
    · have e0 : y6 = 0 := by omega
      rw [e0, Int.mul_zero, Int.add_zero] at he
      rw [he] at h3
      exact cont y3 h3
    · have h5' := h5 (by omega)
      have a1 : iAnd y6 1 = y6 % 2 := by
        rw [iAnd_nn ⟨by omega, by omega⟩ ⟨by decide, by decide⟩]
        show ((y6.toNat &&& 1 : Nat) : Int) = _
        rw [Nat.and_one_is_mod]; omega
      have a2 : iShr y6 1 = y6 / 2 := by
        rw [iShr_nn ⟨by omega, by omega⟩ ⟨by decide, by decide⟩]
        show ((y6.toNat / 2 ^ 1 : Nat) : Int) = _
        rw [Nat.pow_one]; omega
      have ky : ∀ r : Int, y6 = 2 * (y6 / 2) + r → k * y6 = (k + k) * (y6 / 2) + k * r := fun r hr => by
        have e1 : k * y6 = k * (2 * (y6 / 2) + r) := by rw [← hr]
        rw [e1, Int.mul_add, ← Int.mul_assoc, Int.mul_comm k 2, Int.two_mul]
      have sq : 0 < y6 / 2 → e + (k + k) * (y6 / 2) = E ∨ e + k + (k + k) * (y6 / 2) = E → HoldsF (FP.fmul y5 y5) 1 (k + k) := fun p1 p2 => by
        refine holds_mul h5' h5' (by decide) ?_ ?_
        · rcases hs with hs | hs
          · omega
          · have := k_le (k := -(k + k)) (y := y6 / 2) (by omega) (by omega)
            rw [Int.neg_mul] at this
            omega
        · rcases hs with hs | hs
          · have := k_le (k := k + k) (y := y6 / 2) (by omega) (by omega)
            omega
          · omega
      rw [a1, a2]
      refine ⟨fun q2 => ⟨holds_nn h5' h5', ?_⟩, fun q2 => ⟨holds_nn h3 h5', holds_nn h5' h5', ?_⟩⟩
      · have k0 := ky 0 (by omega)
        rw [Int.mul_zero, Int.add_zero] at k0
        have he' : e + (k + k) * (y6 / 2) = E := by omega
        exact ih _ (by omega) y3 _ _ e (k + k) rfl ⟨by omega, by omega⟩ h3 (fun p => sq p (Or.inl he')) he' (by omega)
      · have k1 := ky 1 (by omega)
        rw [Int.mul_one] at k1
        have he' : e + k + (k + k) * (y6 / 2) = E := by omega
        have b : -149 ≤ e + k ∧ e + k ≤ 104 := by
          rcases hs with hs | hs
          · have := k_le (k := k) (y := y6) hs.1 (by omega)
            omega
          · have := k_le (k := -k) (y := y6) (by omega) (by omega)
            rw [Int.neg_mul] at this
            omega
        exact ih _ (by omega) _ _ _ (e + k) (k + k) rfl ⟨by omega, by omega⟩ (holds_mul h3 h5' hm b.1 b.2) (fun p => sq p (Or.inr he')) he' (by omega)
theorem fneg_x (a : UInt32) : FP.fneg a = a ^^^ 0x80000000 := rfl
theorem c_floatOf {h : AH} {Q : Option AV → AH → Prop} {b : Int} (hF : Fix h) (hb : R32 b) (hf : iAnd b 2139095040 ≠ 2139095040) (cont : Q (some (vF (uB b))) h) : Ok 29 0 [some (vI b), none, none, none, none, none, none] [] h Q := by
  have hN := (uB b).toNat_lt
  obtain ⟨N, eN⟩ : ∃ N, N = (uB b).toNat := ⟨_, rfl⟩
  rw [← eN] at hN
  have a1 : iAnd b 2139095040 = ((N / 8388608 % 256 * 8388608 : Nat) : Int) := by rw [iAnd_u (by decide), ← eN]; exact congrArg _ (and_expo N)
  have a2 : iAnd b 8388607 = ((N % 8388608 : Nat) : Int) := by rw [iAnd_u (by decide), ← eN]; exact congrArg _ (and_frac N)
  have a3 : iShr (iAnd b 2139095040) 23 = ((N / 8388608 % 256 : Nat) : Int) := by
    rw [a1, iShr_nn ⟨by omega, by omega⟩ ⟨by decide, by decide⟩]
    have h4 : (2 : Nat) ^ (Int.toNat 23) = 8388608 := by decide
    rw [h4, Int.toNat_natCast]; omega
  rw [a1] at hf
  obtain ⟨e8, he8⟩ : ∃ e8, e8 = N / 8388608 % 256 := ⟨_, rfl⟩
  obtain ⟨fr, hfr⟩ : ∃ fr, fr = N % 8388608 := ⟨_, rfl⟩
  rw [← he8] at a3 hf
  rw [← hfr] at a2
  have e8l : e8 < 255 := by omega
  -- the value without its sign
  obtain ⟨a', ha'⟩ : ∃ a' : UInt32, a' = UInt32.ofNat (N % 2147483648) := ⟨_, rfl⟩
  have na' : a'.toNat = N % 2147483648 := by rw [ha']; show N % 2147483648 % 4294967296 = _; omega
  have hb' := holds_bits (a := a') (by rw [na']; omega)
  rw [na', show N % 2147483648 / 8388608 = e8 by omega, show N % 2147483648 % 8388608 = fr by omega] at hb'
  have frl : fr < 8388608 := by omega
  obtain ⟨m, em⟩ : ∃ m, m = if e8 = 0 then fr else 8388608 + fr := ⟨_, rfl⟩
  rw [← em] at hb'
  have hm : m < 16777216 := by rw [em]; split <;> omega
  obtain ⟨p, ep⟩ : ∃ p : Int, p = (if (e8 : Int) < 1 then 1 else (e8 : Int)) - 150 := ⟨_, rfl⟩
  have hp : -149 ≤ p ∧ p ≤ 104 := by rw [ep]; split <;> omega
  have hb2 : HoldsF a' m p := by
    rw [ep]
    by_cases z : e8 = 0
    · rw [if_pos z] at hb'
      rw [if_pos (by omega)]; exact hb'
    · rw [if_neg z] at hb'
      rw [if_neg (by omega)]; exact hb'
  have w0 : ¬ 0 ≤ p → w32 (0 - p) = -p := fun q => by rw [w32_of ⟨by omega, by omega⟩]; omega
  have sgn : (0 ≤ b ↔ N < 2147483648) := by
    have e : (Int32.ofInt b).toInt = b := ofI hb
    have e2 : (Int32.ofInt b).toInt = (Int32.ofInt b).toBitVec.toInt := rfl
    rw [BitVec.toInt_eq_toNat_cond, uB_nat, ← eN] at e2
    rw [e] at e2
    split at e2 <;> omega
  have fin : ∀ r, HoldsF r m p → (0 ≤ b → Q (some (vF r)) h) ∧ (¬ 0 ≤ b → Q (some (vF (FP.fneg r))) h) := fun r hr => by
    have er : r = a' := holds_uniq hr hb2
    subst er
    refine ⟨fun q => ?_, fun q => ?_⟩
    · have : r = uB b := by
        apply UInt32.toNat_inj.mp
        rw [na', ← eN]; have := sgn.mp q; omega
      rw [this]; exact cont
    · have : FP.fneg r = uB b := by
        rw [fneg_x]
        apply UInt32.toNat_inj.mp
        rw [UInt32.toNat_xor, na', ← eN]
        show (N % 2147483648) ^^^ 2147483648 = N
        have h31 : 2147483648 ≤ N := by
          by_cases z : N < 2147483648
          · exact absurd (sgn.mpr z) q
          · omega
        apply Nat.eq_of_testBit_eq
        intro i
        have e1 : N % 2147483648 = N % 2 ^ 31 := rfl
        have e2 : (2147483648 : Nat) = 2 ^ 31 := by decide
        rw [Nat.testBit_xor, e1, e2, Nat.testBit_mod_two_pow, Nat.testBit_two_pow]
        by_cases i1 : i < 31
        · have : ¬ 31 = i := by omega
          simp [i1, this]
        · by_cases i2 : i = 31
          · subst i2
            have : N.testBit 31 = true := by
              rw [Nat.testBit_eq_decide_div_mod_eq]
              have : N / 2 ^ 31 = 1 := by rw [show (2 : Nat) ^ 31 = 2147483648 by decide]; omega
              rw [this]; rfl
            simp [this]
          · have : N.testBit i = false := Nat.testBit_lt_two_pow (by
              have : 2 ^ 32 ≤ 2 ^ i := Nat.pow_le_pow_right (by decide) (by omega)
              have : (2 : Nat) ^ 32 = 4294967296 := by decide
              omega)
            have z : ¬ 31 = i := by omega
            simp [this, i1, z]
      rw [this]; exact cont
  have go : ∀ y3, HoldsF y3 m 0 → (0 ≤ p → Ok 29 37 [some (vI b), some (vI (e8 : Int)), some (vI (fr : Int)), some (vF y3), some (vI p), some (vF FP.fconst2), some (vI (if 0 ≤ p then p else w32 (0 - p)))] [] h Q) ∧ (¬ 0 ≤ p → Ok 29 37 [some (vI b), some (vI (e8 : Int)), some (vI (fr : Int)), some (vF y3), some (vI p), some (vF (UInt32.ofNat (1056964608 : Int).toNat)), some (vI (if 0 ≤ p then p else w32 (0 - p)))] [] h Q) := fun y3 hy3 => by
    refine ⟨fun q => ?_, fun q => ?_⟩
    · rw [if_pos q]
      exact c_float_37 hF hm hp fin _ y3 _ p 0 1 rfl ⟨q, by omega⟩ hy3 (fun _ => holds_2) (by omega) (by omega)
    · rw [if_neg q, w0 q]
      exact c_float_37 hF hm hp fin _ y3 _ (-p) 0 (-1) rfl ⟨by omega, by omega⟩ hy3 (fun _ => holds_half) (by omega) (by omega)
  refine f_X3_floatOf_0 hF _ ?_
  rw [a3, a2, ← ep]
  refine ⟨fun q => ⟨⟨by omega, by omega⟩, ⟨by omega, by omega⟩, ⟨by omega, by omega⟩, ?_⟩, fun q => ⟨⟨by omega, by omega⟩, ?_⟩⟩
  · refine go _ (holds_i2f ?_ hm)
    rw [ofI ⟨by omega, by omega⟩, em, if_neg (by omega)]
    omega
  · refine go _ (holds_i2f ?_ hm)
    rw [ofI ⟨by omega, by omega⟩, em, if_pos (by omega)]
