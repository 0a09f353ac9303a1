/-! floats: what isn't a NaN -/
def dcF (a : UInt32) : FP.Core.Datum := FP.Core.decode FP.Core.b32 a.toNat
theorem b32_c : FP.Core.b32.tails = 8388608 ∧ FP.Core.b32.exps = 256 := by decide
theorem fT32 (n : Nat) : FP.Core.fieldT FP.Core.b32 n = n % 8388608 := rfl
theorem fE32 (n : Nat) : FP.Core.fieldE FP.Core.b32 n = n / 8388608 % 256 := rfl
theorem mask31 (a : UInt32) : (a &&& 0x7fffffff).toNat = a.toNat % 2147483648 := by
  rw [UInt32.toNat_and]
  show a.toNat &&& 2147483647 = _
  exact Nat.and_two_pow_sub_one_eq_mod a.toNat 31
theorem nn_bits {a : UInt32} (h : dcF a ≠ .nan) : a &&& 0x7fffffff ≤ 0x7f800000 := by
  rw [UInt32.le_iff_toNat_le, mask31]
  show a.toNat % 2147483648 ≤ 2139095040
  unfold dcF FP.Core.decode at h
  rw [fT32, fE32] at h
  by_cases hE : a.toNat / 8388608 % 256 = FP.Core.b32.exps - 1
  · rw [if_pos hE] at h
    have hE2 : a.toNat / 8388608 % 256 = 255 := hE
    by_cases hT : a.toNat % 8388608 = 0
    · omega
    · rw [if_neg hT] at h
      exact absurd rfl h
  · have hE2 : ¬ a.toNat / 8388608 % 256 = 255 := hE
    omega
theorem dc_round {d : FP.Core.Datum} : FP.Core.decode FP.Core.b32 (UInt32.ofNat (FP.Core.encode FP.Core.b32 (FP.Core.round FP.Core.b32 d))).toNat = FP.Core.round FP.Core.b32 d := by
  have hf := FP.Core.round_fits FP.Core.good_b32 d
  have h1 := FP.Core.toNat_of32 hf
  unfold FP.Core.of32 at h1
  rw [h1]
  exact FP.Core.decode_encode FP.Core.good_b32 _ hf
theorem round_nn {d : FP.Core.Datum} (h : d ≠ .nan) : FP.Core.round FP.Core.b32 d ≠ .nan := by
  cases d with
  | nan => exact absurd rfl h
  | inf s => intro q; cases q
  | fin s c q => exact FP.Core.roundRatio_ne_nan _ _ _ _ _
theorem dc_add (a b : UInt32) : dcF (FP.fadd a b) = FP.Core.round FP.Core.b32 (FP.Core.exactSum (dcF a) (dcF b)) := dc_round
theorem dc_sub (a b : UInt32) : dcF (FP.fsub a b) = FP.Core.round FP.Core.b32 (FP.Core.exactSum (dcF a) (FP.Core.negate (dcF b))) := dc_round
theorem dc_mul (a b : UInt32) : dcF (FP.fmul a b) = FP.Core.round FP.Core.b32 (FP.Core.exactProduct (dcF a) (dcF b)) := dc_round
theorem dc_i2f (a : Int32) : dcF (FP.i2f a) = FP.Core.round FP.Core.b32 (FP.Core.ofInt a.toInt) := dc_round
/-- a number, not endless -/
def fnF (d : FP.Core.Datum) : Prop := ∃ s c q, d = .fin s c q
theorem sum_nn {d e : FP.Core.Datum} (hd : fnF d) (he : e ≠ .nan) : FP.Core.exactSum d e ≠ .nan := by
  obtain ⟨s, c, q, rfl⟩ := hd
  cases e with
  | nan => exact absurd rfl he
  | inf t => intro q; cases q
  | fin t d r => intro q; cases q
theorem neg_nn {d : FP.Core.Datum} (h : d ≠ .nan) : FP.Core.negate d ≠ .nan := by
  cases d with
  | nan => exact absurd rfl h
  | inf t => intro q; cases q
  | fin t d r => intro q; cases q
theorem fin_nn {d : FP.Core.Datum} (h : fnF d) : d ≠ .nan := by
  obtain ⟨s, c, q, rfl⟩ := h
  intro q; cases q
theorem i2f_nn (a : Int32) : dcF (FP.i2f a) ≠ .nan := by
  rw [dc_i2f]
  exact round_nn (by intro q; cases q)
/-- the bits of an int -/
def uB (x : Int) : UInt32 := (Int32.ofInt x).toUInt32
def aM (x : Int) : Int := (Int32.ofInt x &&& Int32.ofInt 2147483647).toInt
theorem aM31 (x : Int) : aM x = ((uB x).toNat % 2147483648 : Nat) := by
  show (Int32.ofInt x &&& Int32.ofInt 2147483647).toBitVec.toInt = _
  rw [Int32.toBitVec_and]
  have h1 : ((Int32.ofInt x).toBitVec &&& (Int32.ofInt 2147483647).toBitVec).toNat = (uB x).toNat % 2147483648 := by
    rw [BitVec.toNat_and]
    show (Int32.ofInt x).toBitVec.toNat &&& 2147483647 = _
    exact Nat.and_two_pow_sub_one_eq_mod _ 31
  rw [BitVec.toInt_eq_toNat_of_lt (by rw [h1]; have := Nat.mod_lt (uB x).toNat (show 2147483648 > 0 by decide); omega), h1]
theorem fin_bits {x : Int} (h : aM x < 2139095040) : fnF (dcF (uB x)) := by
  rw [aM31] at h
  have hE : ¬ (uB x).toNat / 8388608 % 256 = 255 := by omega
  unfold dcF FP.Core.decode
  have hE2 : ¬ (uB x).toNat / 8388608 % 256 = FP.Core.b32.exps - 1 := hE
  rw [fT32, fE32, if_neg hE2]
  split
  · exact ⟨_, _, _, rfl⟩
  · exact ⟨_, _, _, rfl⟩
theorem sni_ok {x : Int} (h : aM x < 2139095040) : vn_sni2f (Int32.ofInt x) = false := by
  rw [aM31] at h
  unfold vn_sni2f
  have : ¬ ((Int32.ofInt x).toUInt32 &&& 0x7fffffff > 0x7f800000) := by
    rw [gt_iff_lt, UInt32.lt_iff_toNat_lt, mask31]
    show ¬ 2139095040 < (uB x).toNat % 2147483648
    omega
  simp [this]
/-! values c * 2^q, exactly -/
def Veq (c : Nat) (q : Int) (m : Nat) (e : Int) : Prop := c * 2 ^ (q - e).toNat = m * 2 ^ (e - q).toNat
theorem Veq_iff {c m : Nat} {q e L : Int} (h1 : L ≤ q) (h2 : L ≤ e) : Veq c q m e ↔ c * 2 ^ (q - L).toNat = m * 2 ^ (e - L).toNat := by
  unfold Veq
  have hp := Nat.two_pow_pos
  by_cases h : e ≤ q
  · have e1 : (e - q).toNat = 0 := by omega
    have e2 : (q - L).toNat = (q - e).toNat + (e - L).toNat := by omega
    rw [e1, e2, Nat.pow_add, ← Nat.mul_assoc]
    constructor
    · intro q; rw [q]; simp
    · intro q
      have := Nat.eq_of_mul_eq_mul_right (hp (e - L).toNat) q
      rw [this]; simp
  · have e1 : (q - e).toNat = 0 := by omega
    have e2 : (e - L).toNat = (e - q).toNat + (q - L).toNat := by omega
    rw [e1, e2, Nat.pow_add, ← Nat.mul_assoc]
    constructor
    · intro q; rw [← q]; simp
    · intro q
      have := Nat.eq_of_mul_eq_mul_right (hp _) q
      rw [← this]; simp
theorem Veq_trans {a b c : Nat} {p q r : Int} (h1 : Veq a p b q) (h2 : Veq b q c r) : Veq a p c r := by
  have hL : ∃ L, L ≤ p ∧ L ≤ q ∧ L ≤ r := ⟨min p (min q r), by omega, by omega, by omega⟩
  obtain ⟨L, l1, l2, l3⟩ := hL
  rw [Veq_iff l1 l2] at h1
  rw [Veq_iff l2 l3] at h2
  rw [Veq_iff l1 l3, h1, h2]
theorem Veq_symm {a b : Nat} {p q : Int} (h : Veq a p b q) : Veq b q a p := by unfold Veq at h ⊢; exact h.symm
theorem Veq_mul {c d m : Nat} {q r e k : Int} (h1 : Veq c q m e) (h2 : Veq d r 1 k) : Veq (c * d) (q + r) m (e + k) := by
  have hL : ∃ L, L ≤ q ∧ L ≤ e ∧ L ≤ r ∧ L ≤ k := ⟨min (min q e) (min r k), by omega, by omega, by omega, by omega⟩
  obtain ⟨L, l1, l2, l3, l4⟩ := hL
  rw [Veq_iff l1 l2] at h1
  rw [Veq_iff l3 l4] at h2
  rw [Veq_iff (L := L + L) (by omega) (by omega)]
  have e1 : (q + r - (L + L)).toNat = (q - L).toNat + (r - L).toNat := by omega
  have e2 : (e + k - (L + L)).toNat = (e - L).toNat + (k - L).toNat := by omega
  rw [e1, e2, Nat.pow_add, Nat.pow_add, Nat.mul_mul_mul_comm, h1, h2, Nat.one_mul, Nat.mul_assoc]
theorem b32_q : FP.Core.b32.qmin = -149 ∧ FP.Core.b32.qmax = 104 ∧ FP.Core.b32.p = 24 ∧ FP.Core.b32.tails = 8388608 := by decide
theorem canon : ∀ (k : Nat) (m : Nat) (E : Int), (E + 149).toNat = k → m < 16777216 → -149 ≤ E → E ≤ 104 → ∃ c q, FP.Core.fits FP.Core.b32 (.fin false c q) ∧ Veq c q m E
  | 0, m, E, hk, hm, h1, h2 => by
    obtain ⟨b1, b2, b3, b4⟩ := b32_q
    refine ⟨m, E, ⟨?_, ?_, ?_, Or.inl ?_⟩, ?_⟩
    · rw [b3]; exact hm
    · rw [b1]; exact h1
    · rw [b2]; exact h2
    · rw [b1]; omega
    · unfold Veq; simp
  | k + 1, m, E, hk, hm, h1, h2 => by
    obtain ⟨b1, b2, b3, b4⟩ := b32_q
    by_cases hb : 8388608 ≤ m
    · refine ⟨m, E, ⟨?_, ?_, ?_, Or.inr ?_⟩, ?_⟩
      · rw [b3]; exact hm
      · rw [b1]; exact h1
      · rw [b2]; exact h2
      · rw [b4]; exact hb
      · unfold Veq; simp
    · obtain ⟨c, q, hf, hv⟩ := canon k (2 * m) (E - 1) (by omega) (by omega) (by omega) (by omega)
      refine ⟨c, q, hf, Veq_trans hv ?_⟩
      unfold Veq
      have e1 : (E - 1 - E).toNat = 0 := by omega
      have e2 : (E - (E - 1)).toNat = 1 := by omega
      rw [e1, e2]
      omega
theorem exact_of {s : Bool} {A : Nat} {e : Int} {c : Nat} {q : Int} (hf : FP.Core.fits FP.Core.b32 (.fin s c q)) (hv : Veq A e c q) : FP.Core.roundRatio FP.Core.b32 s A 1 e = .fin s c q :=
  FP.Core.roundRatio_exact FP.Core.good_b32 (by decide) hf (by rw [Nat.mul_one]; exact hv)
/-- a holds m * 2^e, exactly -/
def HoldsF (a : UInt32) (m : Nat) (e : Int) : Prop := ∃ c q, dcF a = .fin false c q ∧ FP.Core.fits FP.Core.b32 (.fin false c q) ∧ Veq c q m e
theorem holds_round {a : UInt32} {A : Nat} {q : Int} {m : Nat} {e : Int} (ha : dcF a = FP.Core.roundRatio FP.Core.b32 false A 1 q) (hv : Veq A q m e) (hm : m < 16777216) (h1 : -149 ≤ e) (h2 : e ≤ 104) : HoldsF a m e := by
  obtain ⟨c, r, hf, hc⟩ := canon _ m e rfl hm h1 h2
  have := exact_of hf (Veq_trans hv (Veq_symm hc))
  rw [this] at ha
  exact ⟨c, r, ha, hf, hc⟩
theorem holds_mul {a b : UInt32} {m : Nat} {e k : Int} (ha : HoldsF a m e) (hb : HoldsF b 1 k) (hm : m < 16777216) (h1 : -149 ≤ e + k) (h2 : e + k ≤ 104) : HoldsF (FP.fmul a b) m (e + k) := by
  obtain ⟨c, q, a1, a2, a3⟩ := ha
  obtain ⟨d, r, b1, b2, b3⟩ := hb
  have h := dc_mul a b
  rw [a1, b1] at h
  exact holds_round h (Veq_mul a3 b3) hm h1 h2
theorem holds_nn {a b : UInt32} {m n : Nat} {e k : Int} (ha : HoldsF a m e) (hb : HoldsF b n k) : FP.fmul a b &&& 0x7fffffff ≤ 0x7f800000 := by
  obtain ⟨c, q, a1, a2, a3⟩ := ha
  obtain ⟨d, r, b1, b2, b3⟩ := hb
  refine nn_bits ?_
  rw [dc_mul, a1, b1]
  exact round_nn (by intro q; cases q)
theorem holds_i2f {x : Int32} {m : Nat} (hx : x.toInt = m) (hm : m < 16777216) : HoldsF (FP.i2f x) m 0 := by
  have h := dc_i2f x
  rw [hx] at h
  have e : FP.Core.ofInt (m : Int) = .fin false m 0 := by
    unfold FP.Core.ofInt
    have : decide ((m : Int) < 0) = false := by simp
    rw [this]; rfl
  rw [e] at h
  exact holds_round h (by unfold Veq; simp) hm (by omega) (by omega)
theorem holds_2 : HoldsF FP.fconst2 1 1 := ⟨8388608, -22, by decide, ⟨by decide, by decide, by decide, by decide⟩, by unfold Veq; decide⟩
theorem holds_half : HoldsF (UInt32.ofNat (1056964608 : Int).toNat) 1 (-1) := ⟨8388608, -24, by decide, ⟨by decide, by decide, by decide, by decide⟩, by unfold Veq; decide⟩
theorem holds_uniq {a b : UInt32} {m : Nat} {e : Int} (ha : HoldsF a m e) (hb : HoldsF b m e) : a = b := by
  obtain ⟨c, q, a1, a2, a3⟩ := ha
  obtain ⟨d, r, b1, b2, b3⟩ := hb
  have h1 := exact_of a2 (Veq_symm a3)
  have h2 := exact_of b2 (Veq_symm b3)
  rw [h1] at h2
  rw [h2] at a1
  have key : dcF a = dcF b := by rw [a1, b1]
  have na : dcF a ≠ .nan := by rw [a1]; intro q; cases q
  have nb : dcF b ≠ .nan := by rw [b1]; intro q; cases q
  have sz : ∀ x : UInt32, x.toNat < 2 * FP.Core.b32.exps * FP.Core.b32.tails := fun x => by
    have := UInt32.toNat_lt x
    show x.toNat < 4294967296
    exact this
  have ea := FP.Core.encode_decode FP.Core.good_b32 a.toNat (sz a) na
  have eb := FP.Core.encode_decode FP.Core.good_b32 b.toNat (sz b) nb
  unfold dcF at key
  rw [key, eb] at ea
  exact UInt32.toNat_inj.mp ea.symm
/-- finite bits without sign hold what their fields say -/
theorem holds_bits {a : UInt32} (ha : a.toNat < 2139095040) : HoldsF a (if a.toNat / 8388608 = 0 then a.toNat % 8388608 else 8388608 + a.toNat % 8388608) ((if a.toNat / 8388608 = 0 then (1 : Int) else (a.toNat / 8388608 : Nat)) - 150) := by
  have hf := FP.Core.decode_fits FP.Core.good_b32 a.toNat
  have hE : a.toNat / 8388608 % 256 = a.toNat / 8388608 := by omega
  have hE2 : ¬ a.toNat / 8388608 = FP.Core.b32.exps - 1 := by
    show ¬ a.toNat / 8388608 = 255
    omega
  have hS : FP.Core.fieldS FP.Core.b32 a.toNat = false := by
    show (a.toNat / 8388608 / 256 % 2 == 1) = false
    have : a.toNat / 8388608 / 256 % 2 = 0 := by omega
    rw [this]; rfl
  have hd : dcF a = if a.toNat / 8388608 = 0 then .fin false (a.toNat % 8388608) (-149) else .fin false (8388608 + a.toNat % 8388608) (-149 + ((a.toNat / 8388608 : Nat) - 1 : Int)) := by
    unfold dcF FP.Core.decode
    rw [fT32, fE32, hE, if_neg hE2, hS]
    rfl
  have hf2 : FP.Core.fits FP.Core.b32 (dcF a) := hf
  by_cases h0 : a.toNat / 8388608 = 0
  · rw [if_pos h0] at hd
    rw [if_pos h0, if_pos h0]
    rw [hd] at hf2
    exact ⟨_, _, hd, hf2, by unfold Veq; simp⟩
  · rw [if_neg h0] at hd
    rw [if_neg h0, if_neg h0]
    rw [hd] at hf2
    refine ⟨_, _, hd, hf2, ?_⟩
    have e : -149 + ((a.toNat / 8388608 : Nat) - 1 : Int) = ((a.toNat / 8388608 : Nat) : Int) - 150 := by omega
    rw [e]
    unfold Veq; simp
/-! rounding down and up -/
theorem cmp_gt {a b : Int} : compare a b = .gt ↔ b < a := by
  show compareOfLessAndEq a b = .gt ↔ _
  unfold compareOfLessAndEq
  by_cases h1 : a < b
  · rw [if_pos h1]; exact ⟨fun q => (by cases q), fun q => by omega⟩
  · rw [if_neg h1]
    by_cases h2 : a = b
    · rw [if_pos h2]; exact ⟨fun q => (by cases q), fun q => by omega⟩
    · rw [if_neg h2]; exact ⟨fun _ => by omega, fun _ => rfl⟩
theorem cmp_lt {a b : Int} : compare a b = .lt ↔ a < b := by
  show compareOfLessAndEq a b = .lt ↔ _
  unfold compareOfLessAndEq
  by_cases h1 : a < b
  · rw [if_pos h1]; exact ⟨fun _ => h1, fun _ => rfl⟩
  · rw [if_neg h1]
    by_cases h2 : a = b
    · rw [if_pos h2]; exact ⟨fun q => (by cases q), fun q => by omega⟩
    · rw [if_neg h2]; exact ⟨fun q => (by cases q), fun q => by omega⟩
theorem cvl {r : Option Ordering} : (Op.cmpValue r .l).toInt ≤ 0 ↔ r ≠ some .gt := by
  cases r with
  | none => exact ⟨fun _ q => (by cases q), fun _ => by decide⟩
  | some o => cases o with
    | lt => exact ⟨fun _ q => (by cases q), fun _ => by decide⟩
    | eq => exact ⟨fun _ q => (by cases q), fun _ => by decide⟩
    | gt => exact ⟨fun q => absurd q (by decide), fun q => absurd rfl q⟩
theorem cvg {r : Option Ordering} : 0 ≤ (Op.cmpValue r .g).toInt ↔ r ≠ some .lt := by
  cases r with
  | none => exact ⟨fun _ q => (by cases q), fun _ => by decide⟩
  | some o => cases o with
    | lt => exact ⟨fun q => absurd q (by decide), fun q => absurd rfl q⟩
    | eq => exact ⟨fun _ q => (by cases q), fun _ => by decide⟩
    | gt => exact ⟨fun _ q => (by cases q), fun _ => by decide⟩
/-- floats below 2^24 in magnitude that may have parts -/
def smF (v : UInt32) : Prop := ∃ s c q, dcF v = .fin s c q ∧ q ≤ 0 ∧ c < 16777216
theorem fits_c {s : Bool} {c : Nat} {q : Int} (h : FP.Core.fits FP.Core.b32 (.fin s c q)) : c < 16777216 ∧ -149 ≤ q ∧ q ≤ 104 ∧ (q = -149 ∨ 8388608 ≤ c) := by
  obtain ⟨b1, b2, b3, b4⟩ := b32_q
  obtain ⟨h1, h2, h3, h4⟩ := h
  rw [b3] at h1
  rw [b1] at h2 h4
  rw [b2] at h3
  rw [b4] at h4
  exact ⟨h1, h2, h3, h4⟩
theorem two24 {q : Int} {j : Nat} (hq : q ≤ 0) (hj : 1 ≤ j) : 16777216 ≤ 8388608 * 2 ^ ((j : Int) - q).toNat := by
  have e : ((j : Int) - q).toNat = ((j : Int) - q).toNat - 1 + 1 := by omega
  rw [e, Nat.pow_succ]
  have := Nat.two_pow_pos (((j : Int) - q).toNat - 1)
  omega
theorem sm_cmp {v k : UInt32} {t : Bool} {j : Nat} (hv : smF v) (hk : dcF k = .fin t 8388608 j) (hj : 1 ≤ j) : FP.fcmp v k = some (if t then .gt else .lt) := by
  obtain ⟨s, c, q, h1, h2, h3⟩ := hv
  show FP.Core.order (dcF v) (dcF k) = _
  rw [h1, hk]
  show some (compare (FP.Core.signed s (FP.Core.inUnits c q (min q j))) (FP.Core.signed t (FP.Core.inUnits 8388608 j (min q j)))) = _
  have em : min q (j : Int) = q := by omega
  rw [em]
  have e1 : FP.Core.inUnits c q q = c := by unfold FP.Core.inUnits; simp
  have h4 := two24 (q := q) (j := j) h2 hj
  rw [e1]
  congr 1
  have e2 : FP.Core.inUnits 8388608 j q = 8388608 * 2 ^ ((j : Int) - q).toNat := rfl
  rw [e2]
  generalize 8388608 * 2 ^ ((j : Int) - q).toNat = N at h4
  have hs : -(c : Int) ≤ FP.Core.signed s c ∧ FP.Core.signed s c ≤ c := by unfold FP.Core.signed; split <;> omega
  cases t with
  | true =>
    rw [if_pos rfl, cmp_gt]
    show -(N : Int) < _
    omega
  | false =>
    rw [if_neg (by decide), cmp_lt]
    show _ < (N : Int)
    omega
theorem k24n : dcF (UInt32.ofNat (3414163456 : Int).toNat) = .fin true 8388608 (1 : Nat) := by decide
theorem k24 : dcF (UInt32.ofNat (1266679808 : Int).toNat) = .fin false 8388608 (1 : Nat) := by decide
theorem k31n : dcF (UInt32.ofNat (3472883712 : Int).toNat) = .fin true 8388608 (8 : Nat) := by decide
theorem k31 : dcF (UInt32.ofNat (1325400064 : Int).toNat) = .fin false 8388608 (8 : Nat) := by decide
theorem f2i_v (v : UInt32) : (FP.f2i v).toInt = FP.Core.toInt (-2147483648) 2147483647 (dcF v) := by
  show (Int32.ofInt (FP.Core.toInt (-2 ^ 31) (2 ^ 31 - 1) (dcF v))).toInt = _
  have hr : ∀ d : FP.Core.Datum, -2 ^ 31 ≤ FP.Core.toInt (-2 ^ 31) (2 ^ 31 - 1) d ∧ FP.Core.toInt (-2 ^ 31) (2 ^ 31 - 1) d < 2 ^ 31 := fun d => by
    cases d with
    | nan => exact ⟨by decide, by decide⟩
    | inf s => cases s <;> exact ⟨by decide, by decide⟩
    | fin s c q =>
      show -2 ^ 31 ≤ max (-2 ^ 31) (min (2 ^ 31 - 1) (FP.Core.truncate s c q)) ∧ max (-2 ^ 31) (min (2 ^ 31 - 1) (FP.Core.truncate s c q)) < 2 ^ 31
      omega
  exact Int32.toInt_ofInt_of_le (hr _).1 (hr _).2
theorem sm_f2i {v : UInt32} (hv : smF v) : -16777216 ≤ (FP.f2i v).toInt ∧ (FP.f2i v).toInt ≤ 16777216 := by
  obtain ⟨s, c, q, h1, h2, h3⟩ := hv
  rw [f2i_v, h1]
  show -16777216 ≤ max (-2147483648) (min 2147483647 (FP.Core.truncate s c q)) ∧ max (-2147483648) (min 2147483647 (FP.Core.truncate s c q)) ≤ 16777216
  have : -16777216 ≤ FP.Core.truncate s c q ∧ FP.Core.truncate s c q ≤ 16777216 := by
    unfold FP.Core.truncate FP.Core.signed
    have e : q.toNat = 0 := by omega
    rw [e]
    have e0 : c * 2 ^ 0 = c := by simp
    have := Nat.div_le_self (c * 2 ^ 0) (2 ^ (-q).toNat)
    rw [e0] at this ⊢
    generalize c / 2 ^ (-q).toNat = N at this ⊢
    split <;> omega
  omega
theorem signed_mul (s : Bool) (a b : Nat) : FP.Core.signed s (a * b) = FP.Core.signed s a * b := by
  unfold FP.Core.signed
  cases s with
  | true =>
    rw [if_pos rfl, if_pos rfl]
    push_cast
    rw [Int.neg_mul]
  | false =>
    rw [if_neg (by decide), if_neg (by decide)]
    push_cast
    rfl
theorem cmp_mul {a b : Int} {p : Nat} (hp : 0 < p) : compare (a * p) (b * p) = compare a b := by
  have hp' : (0 : Int) < p := by omega
  rcases Int.lt_trichotomy a b with h | h | h
  · rw [cmp_lt.mpr h, cmp_lt.mpr (Int.mul_lt_mul_of_pos_right h hp')]
  · rw [h]
    have e : ∀ x : Int, compare x x = .eq := fun x => by
      show compareOfLessAndEq x x = .eq
      unfold compareOfLessAndEq
      rw [if_neg (by omega), if_pos rfl]
    rw [e, e]
  · rw [cmp_gt.mpr h, cmp_gt.mpr (Int.mul_lt_mul_of_pos_right h hp')]
theorem ord_nat {s t : Bool} {c d : Nat} {q r : Int} (hq : 0 ≤ q) (hr : 0 ≤ r) : FP.Core.order (.fin s c q) (.fin t d r) = some (compare (FP.Core.signed s (c * 2 ^ q.toNat)) (FP.Core.signed t (d * 2 ^ r.toNat))) := by
  show some (compare (FP.Core.signed s (FP.Core.inUnits c q (min q r))) (FP.Core.signed t (FP.Core.inUnits d r (min q r)))) = _
  unfold FP.Core.inUnits
  have e1 : q.toNat = (q - min q r).toNat + (min q r).toNat := by omega
  have e2 : r.toNat = (r - min q r).toNat + (min q r).toNat := by omega
  rw [e1, e2, Nat.pow_add, Nat.pow_add, ← Nat.mul_assoc, ← Nat.mul_assoc, signed_mul s (c * 2 ^ (q - min q r).toNat), signed_mul t (d * 2 ^ (r - min q r).toNat), cmp_mul (Nat.two_pow_pos _)]
theorem ofInt_signed {s : Bool} {N : Nat} (hN : 0 < N) : FP.Core.ofInt (FP.Core.signed s N) = .fin s N 0 := by
  cases s with
  | true =>
    show FP.Core.Datum.fin (decide (-(N : Int) < 0)) (-(N : Int)).natAbs 0 = _
    have e1 : decide (-(N : Int) < 0) = true := by simp; omega
    have e2 : (-(N : Int)).natAbs = N := by omega
    rw [e1, e2]
  | false =>
    show FP.Core.Datum.fin (decide ((N : Int) < 0)) (N : Int).natAbs 0 = _
    have e1 : decide ((N : Int) < 0) = false := by simp
    have e2 : (N : Int).natAbs = N := by omega
    rw [e1, e2]
/-- whole floats: neither rounding moves them -/
theorem big_v {v : UInt32} (hn : dcF v ≠ .nan) (hb : ¬ smF v) :
    ¬ (FP.fcmp (FP.i2f (Int32.ofInt (FP.f2i v).toInt)) v = some .gt ∧ FP.fcmp v (UInt32.ofNat (3472883712 : Int).toNat) = some .gt) ∧
    ¬ (FP.fcmp (FP.i2f (Int32.ofInt (FP.f2i v).toInt)) v = some .gt ∧ FP.fcmp v (UInt32.ofNat (3414163456 : Int).toNat) = some .gt) ∧
    ¬ (FP.fcmp (FP.i2f (Int32.ofInt (FP.f2i v).toInt)) v = some .lt ∧ FP.fcmp v (UInt32.ofNat (1325400064 : Int).toNat) = some .lt) ∧
    ¬ (FP.fcmp (FP.i2f (Int32.ofInt (FP.f2i v).toInt)) v = some .lt ∧ FP.fcmp v (UInt32.ofNat (1266679808 : Int).toNat) = some .lt) := by
  have c1 : dcF (FP.i2f (Int32.ofInt 2147483647)) = .fin false 8388608 8 := by decide +kernel
  have c2 : dcF (FP.i2f (Int32.ofInt (-2147483648))) = .fin true 8388608 8 := by decide +kernel
  have hc : ∀ a b : UInt32, FP.fcmp a b = FP.Core.order (dcF a) (dcF b) := fun _ _ => rfl
  rw [hc, hc, hc, hc, hc, k24n, k24, k31n, k31, f2i_v]
  cases hd : dcF v with
  | nan => exact absurd hd hn
  | inf s =>
    cases s with
    | true =>
      have e : FP.Core.toInt (-2147483648) 2147483647 (.inf true) = -2147483648 := rfl
      rw [e, c2]
      refine ⟨fun q => absurd q.2 (by decide), fun q => absurd q.2 (by decide), fun q => absurd q.1 (by decide), fun q => absurd q.1 (by decide)⟩
    | false =>
      have e : FP.Core.toInt (-2147483648) 2147483647 (.inf false) = 2147483647 := rfl
      rw [e, c1]
      refine ⟨fun q => absurd q.1 (by decide), fun q => absurd q.1 (by decide), fun q => absurd q.2 (by decide), fun q => absurd q.2 (by decide)⟩
  | fin s c q =>
    have hf : FP.Core.fits FP.Core.b32 (.fin s c q) := by rw [← hd]; exact FP.Core.decode_fits FP.Core.good_b32 v.toNat
    obtain ⟨f1, f2, f3, f4⟩ := fits_c hf
    have hq : 1 ≤ q := by
      by_cases h : q ≤ 0
      · exact absurd ⟨s, c, q, hd, h, f1⟩ hb
      · omega
    have hc0 : 8388608 ≤ c := by omega
    have hV : FP.Core.truncate s c q = FP.Core.signed s (c * 2 ^ q.toNat) := by
      unfold FP.Core.truncate
      have e : (-q).toNat = 0 := by omega
      rw [e]; simp
    have hN : FP.Core.toInt (-2147483648) 2147483647 (.fin s c q) = max (-2147483648) (min 2147483647 (FP.Core.signed s (c * 2 ^ q.toNat))) := by
      show max (-2147483648) (min 2147483647 (FP.Core.truncate s c q)) = _
      rw [hV]
    rw [hN]
    have o1 := fun (t : Bool) => ord_nat (s := s) (c := c) (q := q) (t := t) (d := 8388608) (r := (1 : Nat)) (by omega) (by omega)
    have o8 := fun (t : Bool) => ord_nat (s := s) (c := c) (q := q) (t := t) (d := 8388608) (r := (8 : Nat)) (by omega) (by omega)
    have o8' := fun (t : Bool) => ord_nat (s := t) (c := 8388608) (q := (8 : Int)) (t := s) (d := c) (r := q) (by omega) (by omega)
    have n1 : (8388608 * 2 ^ (((1 : Nat) : Int)).toNat) = 16777216 := by decide
    have n8 : (8388608 * 2 ^ (((8 : Nat) : Int)).toNat) = 2147483648 := by decide
    have n8' : (8388608 * 2 ^ ((8 : Int)).toNat) = 2147483648 := by decide
    have st : ∀ N : Nat, FP.Core.signed true N = -(N : Int) := fun _ => rfl
    have sf : ∀ N : Nat, FP.Core.signed false N = (N : Int) := fun _ => rfl
    rw [o1 true, o1 false, o8 true, o8 false, n1, n8, st, st, sf, sf]
    by_cases h1 : FP.Core.signed s (c * 2 ^ q.toNat) < -2147483648
    · have em : max (-2147483648) (min 2147483647 (FP.Core.signed s (c * 2 ^ q.toNat))) = -2147483648 := by omega
      rw [em, c2, o8' true, n8', st]
      refine ⟨fun w => ?_, fun w => ?_, fun w => ?_, fun w => ?_⟩
      · have := cmp_gt.mp (Option.some.inj w.2); omega
      · have := cmp_gt.mp (Option.some.inj w.2); omega
      · have := cmp_lt.mp (Option.some.inj w.1); omega
      · have := cmp_lt.mp (Option.some.inj w.1); omega
    · by_cases h2 : 2147483647 < FP.Core.signed s (c * 2 ^ q.toNat)
      · have em : max (-2147483648) (min 2147483647 (FP.Core.signed s (c * 2 ^ q.toNat))) = 2147483647 := by omega
        rw [em, c1, o8' false, n8', sf]
        refine ⟨fun w => ?_, fun w => ?_, fun w => ?_, fun w => ?_⟩
        · have := cmp_gt.mp (Option.some.inj w.1); omega
        · have := cmp_gt.mp (Option.some.inj w.1); omega
        · have := cmp_lt.mp (Option.some.inj w.2); omega
        · have := cmp_lt.mp (Option.some.inj w.2); omega
      · have em : max (-2147483648) (min 2147483647 (FP.Core.signed s (c * 2 ^ q.toNat))) = FP.Core.signed s (c * 2 ^ q.toNat) := by omega
        have hpos : 0 < c * 2 ^ q.toNat := Nat.mul_pos (by omega) (Nat.two_pow_pos _)
        have ei : (Int32.ofInt (FP.Core.signed s (c * 2 ^ q.toNat))).toInt = FP.Core.signed s (c * 2 ^ q.toNat) := Int32.toInt_ofInt_of_le (by omega) (by omega)
        have ed : dcF (FP.i2f (Int32.ofInt (FP.Core.signed s (c * 2 ^ q.toNat)))) = .fin s c q := by
          rw [dc_i2f, ei]
          have eo := ofInt_signed (s := s) hpos
          rw [eo]
          refine exact_of hf ?_
          unfold Veq
          have e0 : (0 - q).toNat = 0 := by omega
          have e1 : (q - 0).toNat = q.toNat := by omega
          rw [e0, e1]; simp
        rw [em, ed, ord_nat (by omega) (by omega)]
        refine ⟨fun w => ?_, fun w => ?_, fun w => ?_, fun w => ?_⟩
        · have := cmp_gt.mp (Option.some.inj w.1); omega
        · have := cmp_gt.mp (Option.some.inj w.1); omega
        · have := cmp_lt.mp (Option.some.inj w.1); omega
        · have := cmp_lt.mp (Option.some.inj w.1); omega
/-- the sign test -/
theorem below0 {x : Int} (hx : -2147483648 ≤ x ∧ x < 2147483648) (h : aM x < 2139095040) : (Op.cmpValue (FP.fcmp (uB x) FP.fconst0) .l).toInt < 0 ↔ x < 0 ∧ aM x ≠ 0 := by
  have h0 : dcF FP.fconst0 = .fin false 0 (-149) := by decide
  have hu : (uB x).toNat = if x < 0 then (x + 4294967296).toNat else x.toNat := by
    show (BitVec.ofInt 32 x).toNat = _
    rw [BitVec.toNat_ofInt]
    split
    · show (x % 4294967296).toNat = _
      omega
    · show (x % 4294967296).toNat = _
      omega
  rw [aM31] at h ⊢
  have hlt : ∀ r : Option Ordering, (Op.cmpValue r .l).toInt < 0 ↔ r = none ∨ r = some .lt := fun r => by
    cases r with
    | none => exact ⟨fun _ => Or.inl rfl, fun _ => by decide⟩
    | some o => cases o with
      | lt => exact ⟨fun _ => Or.inr rfl, fun _ => by decide⟩
      | eq => exact ⟨fun q => absurd q (by decide), fun q => by rcases q with q | q <;> cases q⟩
      | gt => exact ⟨fun q => absurd q (by decide), fun q => by rcases q with q | q <;> cases q⟩
  rw [hlt]
  show FP.Core.order (dcF (uB x)) (dcF FP.fconst0) = none ∨ FP.Core.order (dcF (uB x)) (dcF FP.fconst0) = some .lt ↔ _
  have hE : ¬ (uB x).toNat / 8388608 % 256 = FP.Core.b32.exps - 1 := by
    show ¬ (uB x).toNat / 8388608 % 256 = 255
    omega
  have hS : FP.Core.fieldS FP.Core.b32 (uB x).toNat = decide (x < 0) := by
    show ((uB x).toNat / 8388608 / 256 % 2 == 1) = _
    rw [hu]
    by_cases hx0 : x < 0
    · rw [if_pos hx0]
      have : (x + 4294967296).toNat / 8388608 / 256 % 2 = 1 := by omega
      rw [this]; simp [hx0]
    · rw [if_neg hx0]
      have : x.toNat / 8388608 / 256 % 2 = 0 := by omega
      rw [this]; simp [hx0]
  have key : ∀ (c : Nat) (q : Int), -149 ≤ q → (FP.Core.order (.fin (decide (x < 0)) c q) (.fin false 0 (-149)) = none ∨ FP.Core.order (.fin (decide (x < 0)) c q) (.fin false 0 (-149)) = some .lt ↔ x < 0 ∧ c ≠ 0) := fun c q hq => by
    have em : min q (-149) = -149 := by omega
    have eo : FP.Core.order (.fin (decide (x < 0)) c q) (.fin false 0 (-149)) = some (compare (FP.Core.signed (decide (x < 0)) (c * 2 ^ (q - (-149)).toNat)) 0) := by
      show some (compare (FP.Core.signed (decide (x < 0)) (FP.Core.inUnits c q (min q (-149)))) (FP.Core.signed false (FP.Core.inUnits 0 (-149) (min q (-149))))) = _
      rw [em]
      unfold FP.Core.inUnits
      simp [FP.Core.signed]
    rw [eo]
    have hp := Nat.two_pow_pos (q - (-149)).toNat
    constructor
    · intro w
      rcases w with w | w
      · cases w
      · have w1 := cmp_lt.mp (Option.some.inj w)
        by_cases hx0 : x < 0
        · refine ⟨hx0, fun hc => ?_⟩
          rw [hc] at w1
          simp [FP.Core.signed] at w1
        · simp [hx0, FP.Core.signed] at w1
          have : 0 ≤ (c : Int) * 2 ^ (q + 149).toNat := Int.mul_nonneg (by omega) (by exact_mod_cast Nat.zero_le _)
          omega
    · intro w
      right
      congr 1
      rw [cmp_lt]
      have hN : 0 < c * 2 ^ (q - (-149)).toNat := Nat.mul_pos (by omega) hp
      generalize c * 2 ^ (q - (-149)).toNat = N at hN
      simp [w.1, FP.Core.signed]
      omega
  rw [h0]
  unfold dcF FP.Core.decode
  rw [fT32, fE32, if_neg hE, hS]
  by_cases hE0 : (uB x).toNat / 8388608 % 256 = 0
  · rw [if_pos hE0]
    have := key ((uB x).toNat % 8388608) (-149) (by omega)
    show FP.Core.order (.fin _ _ (-149)) _ = none ∨ FP.Core.order (.fin _ _ (-149)) _ = some .lt ↔ _
    rw [this]
    omega
  · rw [if_neg hE0]
    have := key (8388608 + (uB x).toNat % 8388608) (-149 + (((uB x).toNat / 8388608 % 256 : Nat) - 1 : Int)) (by omega)
    show FP.Core.order (.fin _ (8388608 + _) (-149 + _)) _ = none ∨ FP.Core.order (.fin _ (8388608 + _) (-149 + _)) _ = some .lt ↔ _
    rw [this]
    omega
