/-! sequences: the first, the next one -/
noncomputable def lfN (bf : Nat → Nat → Prop) (T : Nat) : Nat → Nat → Nat
  | 0, f => f
  | k + 1, f => @ite _ (T.testBit f = false ∧ okB bf T f) (Classical.propDecidable _) f (lfN bf T k (f + 1))
/-- the least block from f on that may come behind T; m: none -/
noncomputable def lf (bf : Nat → Nat → Prop) (m T f : Nat) : Nat := lfN bf T (m - f) f
theorem lf_end {bf : Nat → Nat → Prop} {m T : Nat} : lf bf m T m = m := by unfold lf; rw [Nat.sub_self]; rfl
theorem lf_hit {bf : Nat → Nat → Prop} {m T f : Nat} (hf : f < m) (h : T.testBit f = false ∧ okB bf T f) : lf bf m T f = f := by
  unfold lf
  rw [show m - f = (m - (f + 1)) + 1 by omega]
  exact if_pos h
theorem lf_miss {bf : Nat → Nat → Prop} {m T f : Nat} (hf : f < m) (h : ¬ (T.testBit f = false ∧ okB bf T f)) : lf bf m T f = lf bf m T (f + 1) := by
  unfold lf
  rw [show m - f = (m - (f + 1)) + 1 by omega]
  exact if_neg h
theorem lf_spec {bf : Nat → Nat → Prop} {m T : Nat} : ∀ (k f : Nat), m - f = k → f ≤ m → f ≤ lf bf m T f ∧ lf bf m T f ≤ m ∧ (lf bf m T f < m → T.testBit (lf bf m T f) = false ∧ okB bf T (lf bf m T f)) ∧ ∀ b, f ≤ b → b < lf bf m T f → ¬ (T.testBit b = false ∧ okB bf T b) := by
  intro k
  induction k with
  | zero =>
    intro f hk hf
    have e : f = m := by omega
    subst e
    rw [lf_end]
    exact ⟨Nat.le_refl _, Nat.le_refl _, fun q => by omega, fun b h1 h2 => by omega⟩
  | succ k ih =>
    intro f hk hf
    by_cases h : T.testBit f = false ∧ okB bf T f
    · rw [lf_hit (by omega) h]
      exact ⟨Nat.le_refl _, hf, fun _ => h, fun b h1 h2 => by omega⟩
    · rw [lf_miss (by omega) h]
      obtain ⟨a, b, c, d⟩ := ih (f + 1) (by omega) (by omega)
      refine ⟨by omega, b, c, fun x h1 h2 => ?_⟩
      by_cases e : x = f
      · rw [e]; exact h
      · exact d x (by omega) h2
theorem lf_congr {bf bf' : Nat → Nat → Prop} {m T : Nat} (h : ∀ i, i < m → (okB bf T i ↔ okB bf' T i)) : ∀ (k f : Nat), m - f = k → f ≤ m → lf bf m T f = lf bf' m T f := by
  intro k
  induction k with
  | zero =>
    intro f hk hf
    have e : f = m := by omega
    subst e
    rw [lf_end, lf_end]
  | succ k ih =>
    intro f hk hf
    by_cases c : T.testBit f = false ∧ okB bf T f
    · rw [lf_hit (by omega) c, lf_hit (by omega) ⟨c.1, (h f (by omega)).mp c.2⟩]
    · rw [lf_miss (by omega) c, lf_miss (by omega) (fun z => c ⟨z.1, (h f (by omega)).mpr z.2⟩)]
      exact ih (f + 1) (by omega) (by omega)
noncomputable def cplN (bf : Nat → Nat → Prop) (m : Nat) : Nat → Nat → Nat → (Int → Int) → (Int → Int)
  | 0, _, _, a => a
  | k + 1, i, T, a => if lf bf m T 0 < m then cplN bf m k (i + 1) (T ||| 2 ^ lf bf m T 0) (uq a (i : Int) (lf bf m T 0 : Nat)) else a
/-- from place i on: always the least that may come -/
noncomputable def cpl (bf : Nat → Nat → Prop) (m i T : Nat) (a : Int → Int) : Int → Int := cplN bf m (m - i) i T a
theorem cpl_end {bf : Nat → Nat → Prop} {m i T : Nat} {a : Int → Int} (h : m ≤ i) : cpl bf m i T a = a := by unfold cpl; rw [show m - i = 0 by omega]; rfl
theorem cpl_hit {bf : Nat → Nat → Prop} {m i T : Nat} {a : Int → Int} (hi : i < m) (h : lf bf m T 0 < m) : cpl bf m i T a = cpl bf m (i + 1) (T ||| 2 ^ lf bf m T 0) (uq a (i : Int) (lf bf m T 0 : Nat)) := by
  unfold cpl
  rw [show m - i = (m - (i + 1)) + 1 by omega]
  exact if_pos h
theorem cpl_miss {bf : Nat → Nat → Prop} {m i T : Nat} {a : Int → Int} (hi : i < m) (h : ¬ lf bf m T 0 < m) : cpl bf m i T a = a := by
  unfold cpl
  rw [show m - i = (m - (i + 1)) + 1 by omega]
  exact if_neg h
def clr (T b : Nat) : Nat := T &&& (T ^^^ (T &&& 2 ^ b))
theorem tb_c {T b j : Nat} : (clr T b).testBit j = (T.testBit j && !decide (b = j)) := by
  unfold clr
  rw [Nat.testBit_and, Nat.testBit_xor, Nat.testBit_and, Nat.testBit_two_pow]
  cases T.testBit j <;> simp
noncomputable def stpN (bf : Nat → Nat → Prop) (m : Nat) : Nat → Nat → (Int → Int) → Option (Int → Int)
  | 0, _, _ => none
  | k + 1, T, a => if lf bf m (clr T (a (k : Int)).toNat) ((a (k : Int)).toNat + 1) < m then some (cpl bf m (k + 1) (clr T (a (k : Int)).toNat ||| 2 ^ lf bf m (clr T (a (k : Int)).toNat) ((a (k : Int)).toNat + 1)) (uq a (k : Int) (lf bf m (clr T (a (k : Int)).toNat) ((a (k : Int)).toNat + 1) : Nat)))
    else stpN bf m k (clr T (a (k : Int)).toNat) a
theorem stp_s {bf : Nat → Nat → Prop} {m k T : Nat} {a : Int → Int} : stpN bf m (k + 1) T a = if lf bf m (clr T (a (k : Int)).toNat) ((a (k : Int)).toNat + 1) < m then some (cpl bf m (k + 1) (clr T (a (k : Int)).toNat ||| 2 ^ lf bf m (clr T (a (k : Int)).toNat) ((a (k : Int)).toNat + 1)) (uq a (k : Int) (lf bf m (clr T (a (k : Int)).toNat) ((a (k : Int)).toNat + 1) : Nat)))
    else stpN bf m k (clr T (a (k : Int)).toNat) a := rfl
/-! sequences that are such -/
def pfx (a : Int → Int) : Nat → Nat
  | 0 => 0
  | k + 1 => pfx a k ||| 2 ^ (a (k : Int)).toNat
def Vld (bf : Nat → Nat → Prop) (m : Nat) (a : Int → Int) (n : Nat) : Prop := ∀ k : Nat, k < n → (0 ≤ a k ∧ a k < m) ∧ (pfx a k).testBit (a k).toNat = false ∧ okB bf (pfx a k) (a k).toNat
def Cls (bf : Nat → Nat → Prop) (T : Nat) : Prop := ∀ i j, T.testBit i = true → bf i j → T.testBit j = true
theorem Cls.o {bf : Nat → Nat → Prop} {T b : Nat} (h : Cls bf T) (hb : okB bf T b) : Cls bf (T ||| 2 ^ b) := fun i j hi hj => by
  rw [tb_o] at hi ⊢
  cases q : T.testBit i
  · rw [q] at hi
    have e : b = i := by simpa using hi
    rw [hb j (by rw [e]; exact hj)]; rfl
  · rw [h i j q hj]; rfl
theorem pfx_congr {a a' : Int → Int} : ∀ {k : Nat}, (∀ i : Nat, i < k → a i = a' i) → pfx a k = pfx a' k
  | 0, _ => rfl
  | k + 1, h => by
    show pfx a k ||| 2 ^ (a (k : Int)).toNat = pfx a' k ||| 2 ^ (a' (k : Int)).toNat
    rw [pfx_congr (fun i hi => h i (by omega)), h k (by omega)]
theorem Vld.congr {bf : Nat → Nat → Prop} {m n : Nat} {a a' : Int → Int} (v : Vld bf m a n) (h : ∀ i : Nat, i < n → a i = a' i) : Vld bf m a' n := fun k hk => by
  rw [← h k hk, ← pfx_congr (a := a) (fun i hi => h i (by omega))]; exact v k hk
theorem Vld.lt {bf : Nat → Nat → Prop} {m : Nat} {a : Int → Int} : ∀ {n : Nat}, Vld bf m a n → pfx a n < 2 ^ m ∧ Cls bf (pfx a n) ∧ pcn m (pfx a n) = n
  | 0, _ => ⟨Nat.two_pow_pos m, fun i j hi => by simp [pfx] at hi, pcn_0⟩
  | n + 1, v => by
    obtain ⟨h1, h2, h3⟩ := Vld.lt (n := n) (fun k hk => v k (by omega))
    obtain ⟨⟨v0, v1⟩, v2, v3⟩ := v n (by omega)
    refine ⟨o_lt2 h1 (by omega), h2.o v3, ?_⟩
    show pcn m (pfx a n ||| 2 ^ (a (n : Int)).toNat) = n + 1
    rw [o_x v2, pcn_x (i := (a (n : Int)).toNat) (by rw [tb_x, v2]; simp) (by omega), x_x, h3]
theorem pcn_full {m S : Nat} (h : S < 2 ^ m) (e : pcn m S = m) : S = 2 ^ m - 1 := by
  refine Nat.eq_of_testBit_eq (fun j => ?_)
  rw [Nat.testBit_two_pow_sub_one]
  by_cases hj : j < m
  · simp [hj]
    refine Classical.byContradiction (fun q => ?_)
    have := cnt_lt (p := fun i => S.testBit i.toNat) (x := (j : Int)) (n := m) ⟨by omega, by omega⟩ (by show S.testBit ((j : Int)).toNat = false; rw [show ((j : Int)).toNat = j by omega]; simpa using q)
    unfold pcn at e
    omega
  · simp [hj]
    exact Nat.testBit_lt_two_pow (Nat.lt_of_lt_of_le h (Nat.pow_le_pow_right (by decide) (by omega)))
/-- something may come next as long as not all have -/
def Prg (bf : Nat → Nat → Prop) (m : Nat) : Prop := ∀ T, T < 2 ^ m → Cls bf T → pcn m T < m → lf bf m T 0 < m
theorem Prg_of {bf : Nat → Nat → Prop} {m : Nat} {rk : Nat → Nat} (h1 : ∀ i j, bf i j → rk j < rk i ∧ j < m) : Prg bf m := fun T hT _ hp => by
  refine Classical.byContradiction (fun q => ?_)
  obtain ⟨_, s2, _, s4⟩ := lf_spec (bf := bf) (T := T) m 0 rfl (by omega)
  have e : lf bf m T 0 = m := by omega
  rw [e] at s4
  have key : ∀ n i, rk i < n → i < m → T.testBit i = true := by
    intro n
    induction n with
    | zero => intro i hi; omega
    | succ n ih =>
      intro i hi hm
      cases c : T.testBit i
      · exact absurd ⟨c, fun j hj => ih j (by have := (h1 i j hj).1; omega) (h1 i j hj).2⟩ (s4 i (by omega) hm)
      · rfl
  have : pcn m T = m := by
    have k2 : ∀ n : Nat, n ≤ m → cnt (fun i => T.testBit i.toNat) n = n := by
      intro n
      induction n with
      | zero => intro _; rfl
      | succ n ih =>
        intro hn
        show cnt _ n + (if T.testBit ((n : Int)).toNat then 1 else 0) = n + 1
        rw [ih (by omega), show ((n : Int)).toNat = n by omega, key (rk n + 1) n (by omega) (by omega)]
        rfl
    exact k2 m (Nat.le_refl _)
  omega
theorem cpl_vld {bf : Nat → Nat → Prop} {m : Nat} (pg : Prg bf m) : ∀ (k i : Nat) (a : Int → Int), m - i = k → i ≤ m → Vld bf m a i → Vld bf m (cpl bf m i (pfx a i) a) m ∧ ∀ j : Nat, j < i → cpl bf m i (pfx a i) a j = a j := by
  intro k
  induction k with
  | zero =>
    intro i a hk hi v
    rw [cpl_end (by omega)]
    exact ⟨by rw [show m = i by omega] at v ⊢; exact v, fun _ _ => rfl⟩
  | succ k ih =>
    intro i a hk hi v
    obtain ⟨v1, v2, v3⟩ := v.lt
    have hb := pg _ v1 v2 (by omega)
    obtain ⟨_, _, s3, _⟩ := lf_spec (bf := bf) (T := pfx a i) m 0 rfl (by omega)
    obtain ⟨s5, s6⟩ := s3 hb
    have ea : ∀ j : Nat, j < i → uq a (i : Int) (lf bf m (pfx a i) 0 : Nat) (j : Int) = a j := fun j hj => uq_o (by omega)
    have ei : uq a (i : Int) (lf bf m (pfx a i) 0 : Nat) (i : Int) = (lf bf m (pfx a i) 0 : Nat) := uq_e
    have ep : pfx (uq a (i : Int) (lf bf m (pfx a i) 0 : Nat)) i = pfx a i := pfx_congr ea
    have ep1 : pfx (uq a (i : Int) (lf bf m (pfx a i) 0 : Nat)) (i + 1) = pfx a i ||| 2 ^ lf bf m (pfx a i) 0 := by
      show pfx _ i ||| 2 ^ (uq a (i : Int) (lf bf m (pfx a i) 0 : Nat) (i : Int)).toNat = _
      rw [ei, ep]; rfl
    rw [cpl_hit (by omega) hb, ← ep1]
    have v' : Vld bf m (uq a (i : Int) (lf bf m (pfx a i) 0 : Nat)) (i + 1) := fun j hj => by
      by_cases e : j = i
      · subst e
        rw [ei, ep]
        exact ⟨⟨by omega, by omega⟩, s5, s6⟩
      · rw [ea j (by omega), pfx_congr (a' := a) (fun x hx => ea x (by omega))]
        exact v j (by omega)
    obtain ⟨w1, w2⟩ := ih (i + 1) _ (by omega) (by omega) v'
    exact ⟨w1, fun j hj => by rw [w2 j (by omega)]; exact ea j hj⟩
theorem clr_pfx {bf : Nat → Nat → Prop} {m k : Nat} {a : Int → Int} (v : Vld bf m a (k + 1)) : clr (pfx a (k + 1)) (a (k : Int)).toNat = pfx a k := by
  obtain ⟨_, v2, _⟩ := v k (by omega)
  refine Nat.eq_of_testBit_eq (fun j => ?_)
  show (clr (pfx a k ||| 2 ^ (a (k : Int)).toNat) (a (k : Int)).toNat).testBit j = _
  rw [tb_c, tb_o]
  by_cases e : (a (k : Int)).toNat = j
  · subst e; rw [v2]; simp
  · simp [e]
theorem stp_vld {bf : Nat → Nat → Prop} {m : Nat} (pg : Prg bf m) {a : Int → Int} : ∀ (k : Nat), k ≤ m → Vld bf m a k → ∀ a', stpN bf m k (pfx a k) a = some a' → Vld bf m a' m := by
  intro k
  induction k with
  | zero => intro _ _ a' h; cases h
  | succ k ih =>
    intro hk v a' h
    unfold stpN at h
    rw [clr_pfx v] at h
    have vk : Vld bf m a k := fun j hj => v j (by omega)
    have b1 := (v k (by omega)).1
    by_cases c : lf bf m (pfx a k) ((a (k : Int)).toNat + 1) < m
    · rw [if_pos c] at h
      obtain ⟨_, _, s3, _⟩ := lf_spec (bf := bf) (T := pfx a k) (m - ((a (k : Int)).toNat + 1)) ((a (k : Int)).toNat + 1) rfl (by omega)
      obtain ⟨s5, s6⟩ := s3 c
      have ea : ∀ j : Nat, j < k → uq a (k : Int) (lf bf m (pfx a k) ((a (k : Int)).toNat + 1) : Nat) (j : Int) = a j := fun j hj => uq_o (by omega)
      have ei : uq a (k : Int) (lf bf m (pfx a k) ((a (k : Int)).toNat + 1) : Nat) (k : Int) = (lf bf m (pfx a k) ((a (k : Int)).toNat + 1) : Nat) := uq_e
      have ep : pfx (uq a (k : Int) (lf bf m (pfx a k) ((a (k : Int)).toNat + 1) : Nat)) k = pfx a k := pfx_congr ea
      have ep1 : pfx (uq a (k : Int) (lf bf m (pfx a k) ((a (k : Int)).toNat + 1) : Nat)) (k + 1) = pfx a k ||| 2 ^ lf bf m (pfx a k) ((a (k : Int)).toNat + 1) := by
        show pfx _ k ||| 2 ^ (uq a (k : Int) (lf bf m (pfx a k) ((a (k : Int)).toNat + 1) : Nat) (k : Int)).toNat = _
        rw [ei, ep]; rfl
      rw [← ep1] at h
      have v' : Vld bf m (uq a (k : Int) (lf bf m (pfx a k) ((a (k : Int)).toNat + 1) : Nat)) (k + 1) := fun j hj => by
        by_cases e : j = k
        · subst e
          rw [ei, ep]
          exact ⟨⟨by omega, by omega⟩, s5, s6⟩
        · rw [ea j (by omega), pfx_congr (a' := a) (fun x hx => ea x (by omega))]
          exact v j (by omega)
      cases h
      exact (cpl_vld pg _ (k + 1) _ rfl hk v').1
    · rw [if_neg c] at h
      exact ih (by omega) vk a' h
/-! two relations, one the other's closure -/
def Clo (d t : Nat → Nat → Prop) : Prop := (∀ i j, d i j → t i j) ∧ ∀ i j, t i j → d i j ∨ ∃ k, d i k ∧ t k j
theorem Clo.ok {d t : Nat → Nat → Prop} (c : Clo d t) {T : Nat} (h : Cls t T) (i : Nat) : okB d T i ↔ okB t T i :=
  ⟨fun q j hj => by
    rcases c.2 i j hj with z | ⟨k, z1, z2⟩
    · exact q j z
    · exact h k j (q k z1) z2, fun q j hj => q j (c.1 i j hj)⟩
theorem Clo.lfE {d t : Nat → Nat → Prop} (c : Clo d t) {m T f : Nat} (h : Cls t T) (hf : f ≤ m) : lf d m T f = lf t m T f := lf_congr (fun i _ => c.ok h i) _ f rfl hf
theorem Clo.cplE {d t : Nat → Nat → Prop} (c : Clo d t) {m : Nat} : ∀ (k i T : Nat) (a a' : Int → Int), m - i = k → Cls t T → (∀ j : Nat, j < m → a j = a' j) → ∀ j : Nat, j < m → cpl d m i T a j = cpl t m i T a' j := by
  intro k
  induction k with
  | zero =>
    intro i T a a' hk h e j hj
    rw [cpl_end (by omega), cpl_end (by omega)]; exact e j hj
  | succ k ih =>
    intro i T a a' hk h e j hj
    have el := c.lfE (m := m) (f := 0) h (by omega)
    by_cases q : lf t m T 0 < m
    · rw [cpl_hit (by omega) (by rw [el]; exact q), cpl_hit (by omega) q, el]
      obtain ⟨_, _, s3, _⟩ := lf_spec (bf := t) (T := T) m 0 rfl (by omega)
      refine ih (i + 1) _ _ _ (by omega) (h.o (s3 q).2) (fun x hx => ?_) j hj
      by_cases e2 : x = i
      · subst e2; rw [uq_e, uq_e]
      · rw [uq_o (by omega), uq_o (by omega)]; exact e x hx
    · rw [cpl_miss (by omega) (by rw [el]; exact q), cpl_miss (by omega) q]; exact e j hj
theorem Clo.stpE {d t : Nat → Nat → Prop} (c : Clo d t) {m : Nat} {a a' : Int → Int} (e : ∀ j : Nat, j < m → a j = a' j) : ∀ k, k ≤ m → Vld t m a' k → (stpN t m k (pfx a' k) a' = none ∧ stpN d m k (pfx a' k) a = none) ∨ ∃ b b', stpN t m k (pfx a' k) a' = some b' ∧ stpN d m k (pfx a' k) a = some b ∧ ∀ j : Nat, j < m → b j = b' j := by
  intro k
  induction k with
  | zero => intro _ _; exact Or.inl ⟨rfl, rfl⟩
  | succ k ih =>
    intro hk v
    have vk : Vld t m a' k := fun j hj => v j (by omega)
    have b1 := (v k (by omega)).1
    have cl := vk.lt.2.1
    have ek := e k (by omega)
    unfold stpN
    rw [ek, clr_pfx v, c.lfE cl (by omega)]
    by_cases q : lf t m (pfx a' k) ((a' (k : Int)).toNat + 1) < m
    · rw [if_pos q, if_pos q]
      obtain ⟨_, _, s3, _⟩ := lf_spec (bf := t) (T := pfx a' k) (m - ((a' (k : Int)).toNat + 1)) ((a' (k : Int)).toNat + 1) rfl (by omega)
      refine Or.inr ⟨_, _, rfl, rfl, fun j hj => c.cplE _ (k + 1) _ _ _ rfl (cl.o (s3 q).2) (fun x hx => ?_) j hj⟩
      by_cases e2 : x = k
      · subst e2; rw [uq_e, uq_e]
      · rw [uq_o (by omega), uq_o (by omega)]; exact e x hx
    · rw [if_neg q, if_neg q]
      exact ih (by omega) vk
