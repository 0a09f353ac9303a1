/-! sets of blocks, by bits -/
theorem lbit_or {x y : Int} {k : Nat} : lbit (lOr x y) k = (lbit x k || lbit y k) := by
  have e : BitVec.ofInt 64 (lOr x y) = BitVec.ofInt 64 x ||| BitVec.ofInt 64 y := by
    show (Int64.ofInt ((Int64.ofInt x ||| Int64.ofInt y).toInt)).toBitVec = _
    rw [Int64.ofInt_toInt, Int64.toBitVec_or]; rfl
  unfold lbit
  rw [e, BitVec.getLsbD_or]
theorem lbit_0 {k : Nat} : lbit 0 k = false := by unfold lbit; simp
theorem lShl_1c : ∀ k : Fin 64, (Int64.ofInt 1 <<< ((Int32.ofInt ((k.val : Nat) : Int)).toInt64 &&& 63)).toBitVec = BitVec.twoPow 64 k.val := by decide +kernel
theorem lbit_shl {k j : Nat} (hk : k < 64) : lbit (lShl 1 k) j = decide (k = j) := by
  have e : BitVec.ofInt 64 (lShl 1 k) = BitVec.twoPow 64 k := by
    show (Int64.ofInt ((Int64.ofInt 1 <<< ((Int32.ofInt (k : Int)).toInt64 &&& 63)).toInt)).toBitVec = _
    rw [Int64.ofInt_toInt]
    exact lShl_1c ⟨k, hk⟩
  unfold lbit
  rw [e, BitVec.getLsbD_twoPow]
  simp [hk]
theorem lUshr_k : ∀ k : Fin 64, ((Int32.ofInt ((k.val : Nat) : Int)).toInt64.toUInt64 &&& Int64.toUInt64 63).toBitVec % 64 = BitVec.ofNat 64 k.val := by decide +kernel
theorem lbit_ushr {x : Int} {k : Nat} (hk : k < 64) : lAnd (lUshr x k) 1 = if lbit x k then 1 else 0 := by
  have e : (Int64.ofInt (lUshr x k)).toBitVec = (BitVec.ofInt 64 x) >>> k := by
    show (Int64.ofInt ((((Int64.ofInt x).toUInt64 >>> ((Int32.ofInt (k : Int)).toInt64.toUInt64 &&& Int64.toUInt64 63)).toInt64).toInt)).toBitVec = _
    rw [Int64.ofInt_toInt]
    show (BitVec.ofInt 64 x) >>> (((Int32.ofInt (k : Int)).toInt64.toUInt64 &&& Int64.toUInt64 63).toBitVec % 64) = _
    rw [lUshr_k ⟨k, hk⟩]
    show (BitVec.ofInt 64 x) >>> (BitVec.ofNat 64 k).toNat = _
    rw [BitVec.toNat_ofNat, Nat.mod_eq_of_lt (by omega)]
  show (Int64.ofInt (lUshr x k) &&& Int64.ofInt 1).toBitVec.toInt = _
  rw [Int64.toBitVec_and, e]
  have e1 : (Int64.ofInt 1).toBitVec = 1#64 := rfl
  rw [e1]
  unfold lbit
  have h1 : (BitVec.ofInt 64 x >>> k &&& 1#64).toNat = if (BitVec.ofInt 64 x).getLsbD k then 1 else 0 := by
    rw [BitVec.toNat_and, BitVec.toNat_ushiftRight]
    show (BitVec.ofInt 64 x).toNat >>> k &&& 1 = _
    rw [Nat.and_one_is_mod, Nat.shiftRight_eq_div_pow]
    show _ = if ((BitVec.ofInt 64 x).toNat.testBit k) then 1 else 0
    rw [Nat.testBit_eq_decide_div_mod_eq]
    generalize (BitVec.ofInt 64 x).toNat / 2 ^ k = d
    by_cases h : d % 2 = 1
    · simp [h]
    · have : d % 2 = 0 := by omega
      simp [this]
  rw [BitVec.toInt_eq_toNat_of_lt (by rw [h1]; split <;> decide), h1]
  split <;> rfl
theorem iAnd63 {b : Int} (h : 0 ≤ b ∧ b < 2147483648) : iAnd b 63 = ((b % 64).toNat : Nat) := by
  rw [iAnd_nn h ⟨by decide, by decide⟩]
  show ((b.toNat &&& 63 : Nat) : Int) = _
  have := Nat.and_two_pow_sub_one_eq_mod b.toNat 6
  have e : b.toNat &&& 63 = b.toNat % 64 := this
  rw [e]; omega
/-- b is in the set of a -/
def sB (h : AH) (o : Nat) (a b : Int) : Bool := lbit (gl h (if b < 64 then o + 1 else o + 2) a) (b % 64).toNat
def isS (o : Nat) : Prop := o = 31 ∨ o = 34
theorem isS.ob {h : AH} (hF : Fix h) {o : Nat} (s : isS o) : ObS h o ∧ sh h (o + 1) = (2, 100) ∧ sh h (o + 2) = (2, 100) ∧ sh h o = (15, 2) ∧ gr h o 0 = some (o + 1) ∧ gr h o 1 = some (o + 2) := by
  rcases s with e | e
  · subst e
    have a1 : sh h 32 = (2, 100) := hF.2.1 (32, 2, 100) (by decide +kernel)
    have a2 : sh h 33 = (2, 100) := hF.2.1 (33, 2, 100) (by decide +kernel)
    have a3 : sh h 31 = (15, 2) := hF.2.1 (31, 15, 2) (by decide +kernel)
    have a4 : gr h 31 0 = some 32 := hF.1 (31, 0, 32) (by decide +kernel)
    have a5 : gr h 31 1 = some 33 := hF.1 (31, 1, 33) (by decide +kernel)
    refine ⟨?_, a1, a2, a3, a4, a5⟩
    unfold ObS
    simp [a1, a2, a3, a4, a5]
  · subst e
    have a1 : sh h 35 = (2, 100) := hF.2.1 (35, 2, 100) (by decide +kernel)
    have a2 : sh h 36 = (2, 100) := hF.2.1 (36, 2, 100) (by decide +kernel)
    have a3 : sh h 34 = (15, 2) := hF.2.1 (34, 15, 2) (by decide +kernel)
    have a4 : gr h 34 0 = some 35 := hF.1 (34, 0, 35) (by decide +kernel)
    have a5 : gr h 34 1 = some 36 := hF.1 (34, 1, 36) (by decide +kernel)
    refine ⟨?_, a1, a2, a3, a4, a5⟩
    unfold ObS
    simp [a1, a2, a3, a4, a5]
theorem c_has {h : AH} {Q : Option AV → AH → Prop} {o : Nat} {a b : Int} (hF : Fix h) (s : isS o) (ha : In 100 a) (hb : In 100 b) (cont : Q (some (vI (if sB h o a b then 1 else 0))) h) : Ok 46 0 [some (vR (some o)), some (vI a), some (vI b), none, none] [] h Q := by
  obtain ⟨ob, s1, s2, _⟩ := s.ob hF
  have a0 := ha.1
  have a1 := ha.2
  have b0 := hb.1
  have b1 := hb.2
  unfold sB at cont
  refine f_X5_has_0 hF _ _ _ ob ?_
  rw [iAnd63 ⟨b0, by omega⟩, lbit_ushr (show (b % 64).toNat < 64 by omega), lbit_ushr (show (b % 64).toNat < 64 by omega), s1, s2]
  refine ⟨fun q => ⟨⟨rfl, a0, a1⟩, fun q2 => ?_, fun q2 => ?_⟩, fun q => ⟨⟨rfl, a0, a1⟩, fun q2 => ?_, fun q2 => ?_⟩⟩
  · rw [if_neg (show ¬ b < 64 by omega)] at cont
    cases e : lbit (gl h (o + 2) a) (b % 64).toNat
    · rw [e] at cont; exact cont
    · rw [e] at q2; exact absurd (by decide) q2
  · rw [if_neg (show ¬ b < 64 by omega)] at cont
    cases e : lbit (gl h (o + 2) a) (b % 64).toNat
    · rw [e] at q2; exact absurd (by decide) q2
    · rw [e] at cont; exact cont
  · rw [if_pos (show b < 64 by omega)] at cont
    cases e : lbit (gl h (o + 1) a) (b % 64).toNat
    · rw [e] at cont; exact cont
    · rw [e] at q2; exact absurd (by decide) q2
  · rw [if_pos (show b < 64 by omega)] at cont
    cases e : lbit (gl h (o + 1) a) (b % 64).toNat
    · rw [e] at q2; exact absurd (by decide) q2
    · rw [e] at cont; exact cont
/-- only the sets of o have changed -/
def SF (o : Nat) (h h' : AH) : Prop := (∀ p, p ≠ o + 1 → p ≠ o + 2 → Kp p h h') ∧ gi h' = gi h ∧ gr h' = gr h ∧ sh h' = sh h ∧ nn h' = nn h ∧ us h' = us h ∧ gf h' = gf h
theorem SF.fix {o : Nat} {h h' : AH} (g : SF o h h') (hF : Fix h) : Fix h' := ⟨fun e he => by rw [g.2.2.1]; exact hF.1 e he, fun e he => by rw [g.2.2.2.1]; exact hF.2.1 e he, by rw [g.2.2.2.2.1]; exact hF.2.2⟩
theorem Kp.sl {o p : Nat} {h h' : AH} {k v : Int} (a : Kp o h h') (hn : o ≠ p) : Kp o h (sl h' p k v) := ⟨a.1, by rw [gl_sl_r hn]; exact a.2.1, a.2.2⟩
theorem sB_set {h : AH} {o : Nat} {a x y v w : Int} {b : Int} (hv : ∀ k : Nat, True) : sB (sl (sl h (o + 1) a v) (o + 2) a w) o x y = if x = a then lbit (if y < 64 then v else w) (y % 64).toNat else sB h o x y := by
  unfold sB
  by_cases e : x = a
  · rw [if_pos e, e]
    by_cases z : y < 64
    · rw [if_pos z, if_pos z, gl_sl_o (by omega), gl_sl_e]
    · rw [if_neg z, if_neg z, gl_sl_e]
  · rw [if_neg e]
    by_cases z : y < 64
    · rw [if_pos z, gl_sl_o (by omega), gl_sl_k e]
    · rw [if_neg z, gl_sl_k e, gl_sl_o (by omega)]
theorem c_addAll {h : AH} {Q : Option AV → AH → Prop} {o p : Nat} {a b : Int} (hF : Fix h) (s : isS o) (sp : isS p) (ha : In 100 a) (hb : In 100 b) (hne : a ≠ b) (cont : ∀ h', Fix h' → SF o h h' → (∀ x y, sB h' o x y = (sB h o x y || (decide (x = a) && sB h p b y))) → Q none h') : Ok 48 0 [some (vR (some o)), some (vI a), some (vR (some p)), some (vI b)] [] h Q := by
  obtain ⟨ob, s1, s2, _⟩ := s.ob hF
  obtain ⟨ob', t1, t2, t3, t4, t5⟩ := sp.ob hF
  have a0 := ha.1
  have a1 := ha.2
  have b0 := hb.1
  have b1 := hb.2
  have op : o = p ∨ o = 31 ∧ p = 34 ∨ o = 34 ∧ p = 31 := by unfold isS at s sp; omega
  refine f_X5_addAll_0 hF _ _ _ _ ob ?_
  refine ⟨⟨by rw [s1], a0, by rw [s1]; exact a1⟩, by rw [t3], p + 1, t4, ⟨by rw [t1], b0, by rw [t1]; exact b1⟩, ⟨by rw [s2], a0, by rw [s2]; exact a1⟩, by rw [t3], p + 2, t5, ⟨by rw [t2], b0, by rw [t2]; exact b1⟩, ?_⟩
  have e1 : gl (sl h (o + 1) a (lOr (gl h (o + 1) a) (gl h (p + 1) b))) (o + 2) a = gl h (o + 2) a := gl_sl_o (by omega)
  have e2 : gl (sl h (o + 1) a (lOr (gl h (o + 1) a) (gl h (p + 1) b))) (p + 2) b = gl h (p + 2) b := gl_sl_o (by omega)
  rw [e1, e2]
  refine cont _ hF ⟨fun q q1 q2 => (Kp.refl.sl q1).sl q2, rfl, rfl, rfl, rfl, rfl, rfl⟩ (fun x y => ?_)
  rw [sB_set (b := 0) (fun _ => trivial)]
  by_cases e : x = a
  · rw [if_pos e, e]
    unfold sB
    by_cases z : y < 64
    · rw [if_pos z, if_pos z, if_pos z, lbit_or]; simp
    · rw [if_neg z, if_neg z, if_neg z, lbit_or]; simp
  · rw [if_neg e]; simp [e]
theorem c_sadd {h : AH} {Q : Option AV → AH → Prop} {o : Nat} {a b : Int} (hF : Fix h) (s : isS o) (ha : In 100 a) (hb : In 100 b) (cont : ∀ h', Fix h' → SF o h h' → (∀ x y, In 100 y → sB h' o x y = (sB h o x y || (decide (x = a) && decide (y = b)))) → Q none h') : Ok 47 0 [some (vR (some o)), some (vI a), some (vI b)] [] h Q := by
  obtain ⟨ob, s1, s2, _⟩ := s.ob hF
  have a0 := ha.1
  have a1 := ha.2
  have b0 := hb.1
  have b1 := hb.2
  refine f_X5_add_0 hF _ _ _ ob ?_
  rw [iAnd63 ⟨b0, by omega⟩, s1, s2]
  refine ⟨fun q => ⟨⟨rfl, a0, a1⟩, ?_⟩, fun q => ⟨⟨rfl, a0, a1⟩, ?_⟩⟩
  · refine cont _ hF ⟨fun q q1 q2 => Kp.refl.sl q2, rfl, rfl, rfl, rfl, rfl, rfl⟩ (fun x y hy => ?_)
    have y0 := hy.1
    have y1 := hy.2
    unfold sB
    by_cases z : y < 64
    · have : ¬ y = b := by omega
      rw [if_pos z, gl_sl_o (by omega)]; simp [this]
    · rw [if_neg z]
      by_cases e : x = a
      · rw [e, gl_sl_e, lbit_or, lbit_shl (by omega)]
        have : ((b % 64).toNat = (y % 64).toNat) ↔ y = b := by omega
        simp [this]
      · rw [gl_sl_k e]; simp [e]
  · have eb : b = (((b % 64).toNat : Nat) : Int) := by omega
    refine cont _ hF ⟨fun q q1 q2 => Kp.refl.sl q1, rfl, rfl, rfl, rfl, rfl, rfl⟩ (fun x y hy => ?_)
    have y0 := hy.1
    have y1 := hy.2
    unfold sB
    by_cases z : y < 64
    · rw [if_pos z]
      by_cases e : x = a
      · rw [e, gl_sl_e, lbit_or]
        have e3 : lbit (lShl 1 b) (y % 64).toNat = decide (y = b) := by
          rw [eb, lbit_shl (by omega)]
          have : ((b % 64).toNat = (y % 64).toNat) ↔ y = (((b % 64).toNat : Nat) : Int) := by omega
          simp [this]
        rw [e3]; simp
      · rw [gl_sl_k e]; simp [e]
    · have : ¬ y = b := by omega
      rw [if_neg z, gl_sl_o (by omega)]; simp [this]
theorem c_clear_2 {h0 : AH} {Q : Option AV → AH → Prop} {o : Nat} {n : Int} (hF0 : Fix h0) (s : isS o) (hn : 0 ≤ n ∧ n ≤ 100) (cont : ∀ h', Fix h' → SF o h0 h' → (∀ x y, In n x → sB h' o x y = false) → Q none h') (m : Nat) : ∀ (h : AH) (i : Int), (n - i).toNat = m → 0 ≤ i → i ≤ n → SF o h0 h → (∀ x y, In i x → sB h o x y = false) → Ok 45 2 [some (vR (some o)), some (vI n), some (vI i)] [] h Q := by
  induction m using Nat.strongRecOn with
  | ind m ih =>
    intro h i hm i0 i1 sf hI
    have hF := sf.fix hF0
    obtain ⟨ob, s1, s2, _⟩ := s.ob hF
    refine f_X5_clear_2 hF _ _ _ ob ⟨fun q => ?_, fun q => ⟨fun q2 => by omega, fun q2 => ?_⟩⟩
    · have e : i = n := by omega
      subst e
      exact cont h hF sf hI
    · rw [s1, s2]
      refine ⟨⟨rfl, i0, by show i < 100; omega⟩, ⟨rfl, i0, by show i < 100; omega⟩, ⟨by omega, by omega⟩, ih _ (by omega) _ (i + 1) rfl (by omega) (by omega) ⟨fun q q1 q2 => ((sf.1 q q1 q2).sl q1).sl q2, sf.2⟩ (fun x y hx => ?_)⟩
      rw [sB_set (b := 0) (fun _ => trivial)]
      by_cases e : x = i
      · rw [if_pos e]
        by_cases z : y < 64
        · rw [if_pos z]; exact lbit_0
        · rw [if_neg z]; exact lbit_0
      · rw [if_neg e]; exact hI x y ⟨hx.1, by have := hx.2; omega⟩
theorem c_clear {h : AH} {Q : Option AV → AH → Prop} {o : Nat} {n : Int} (hF : Fix h) (s : isS o) (hn : 0 ≤ n ∧ n ≤ 100) (cont : ∀ h', Fix h' → SF o h h' → (∀ x y, In n x → sB h' o x y = false) → Q none h') : Ok 45 0 [some (vR (some o)), some (vI n), none] [] h Q :=
  f_X5_clear_0 hF _ _ (s.ob hF).1 (c_clear_2 hF s hn cont _ h 0 rfl (by omega) hn.1 ⟨fun _ _ _ => Kp.refl, rfl, rfl, rfl, rfl, rfl, rfl⟩ (fun x y hx => by have := hx.1; have := hx.2; omega))
