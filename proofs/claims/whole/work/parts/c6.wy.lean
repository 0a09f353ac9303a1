/-! how many orders: sets by bits -/
def okB (bf : Nat → Nat → Prop) (S i : Nat) : Prop := ∀ j, bf i j → S.testBit j = true
def pcn (m S : Nat) : Nat := cnt (fun i => S.testBit i.toNat) m
noncomputable def wS (bf : Nat → Nat → Prop) (m S : Nat) : Int := wyC bf m (pcn m S) (fun i => S.testBit i = true)
theorem tb_x {S i j : Nat} : (S ^^^ 2 ^ i).testBit j = (S.testBit j ^^ decide (i = j)) := by
  rw [Nat.testBit_xor, Nat.testBit_two_pow]
theorem tb_o {S i j : Nat} : (S ||| 2 ^ i).testBit j = (S.testBit j || decide (i = j)) := by
  rw [Nat.testBit_or, Nat.testBit_two_pow]
theorem x_lt {S i : Nat} (h : S.testBit i = true) : S ^^^ 2 ^ i < S := by
  have e : S ^^^ 2 ^ i = S &&& (S ^^^ 2 ^ i) := by
    refine Nat.eq_of_testBit_eq (fun j => ?_)
    rw [Nat.testBit_and, tb_x]
    by_cases q : i = j
    · subst q; rw [h]; simp
    · simp [q]
  have l : S ^^^ 2 ^ i ≤ S := by rw [e]; exact Nat.and_le_left
  have n : S ^^^ 2 ^ i ≠ S := fun q => by
    have := congrArg (fun z => Nat.testBit z i) q
    simp only [tb_x, h] at this
    simp at this
  omega
theorem x_lt2 {S i m : Nat} (h : S < 2 ^ m) (hi : i < m) : S ^^^ 2 ^ i < 2 ^ m := Nat.xor_lt_two_pow h (Nat.pow_lt_pow_right (by decide) hi)
theorem o_lt2 {S i m : Nat} (h : S < 2 ^ m) (hi : i < m) : S ||| 2 ^ i < 2 ^ m := Nat.or_lt_two_pow h (Nat.pow_lt_pow_right (by decide) hi)
theorem o_x {S b : Nat} (h : S.testBit b = false) : S ||| 2 ^ b = S ^^^ 2 ^ b := by
  refine Nat.eq_of_testBit_eq (fun j => ?_)
  rw [tb_x, tb_o]
  by_cases e : b = j
  · subst e; rw [h]; simp
  · simp [e]
theorem x_x {S b : Nat} : (S ^^^ 2 ^ b) ^^^ 2 ^ b = S := by
  refine Nat.eq_of_testBit_eq (fun j => ?_)
  rw [tb_x, tb_x]
  cases S.testBit j <;> simp
theorem tb_m {S m j : Nat} (h : S < 2 ^ m) (hj : S.testBit j = true) : j < m := by
  refine Classical.byContradiction (fun q => ?_)
  rw [Nat.testBit_lt_two_pow (Nat.lt_of_lt_of_le h (Nat.pow_le_pow_right (by decide) (by omega)))] at hj
  cases hj
theorem pcn_x {m S i : Nat} (h : S.testBit i = true) (hi : i < m) : pcn m S = pcn m (S ^^^ 2 ^ i) + 1 := by
  refine cnt_up (x := (i : Int)) ⟨by omega, by omega⟩ ?_ ?_ (fun y hy e => ?_)
  · show (S ^^^ 2 ^ i).testBit ((i : Int)).toNat = false
    rw [tb_x, show ((i : Int)).toNat = i by omega, h]; simp
  · show S.testBit ((i : Int)).toNat = true
    rw [show ((i : Int)).toNat = i by omega, h]
  · show S.testBit y.toNat = (S ^^^ 2 ^ i).testBit y.toNat
    have : ¬ i = y.toNat := by have := hy.1; omega
    rw [tb_x]; simp [this]
theorem pcn_0 {m : Nat} : pcn m 0 = 0 := cnt_zero (fun x _ => by simp)
theorem pcn_s {m S : Nat} (h : S < 2 ^ m) (h0 : S ≠ 0) : ∃ i, i < m ∧ S.testBit i = true := by
  obtain ⟨i, hi⟩ := Nat.exists_testBit_of_ne_zero h0
  exact ⟨i, tb_m h hi, hi⟩
theorem wS_0 {bf : Nat → Nat → Prop} {m : Nat} : wS bf m 0 = 1 := by unfold wS; rw [pcn_0]; rfl
theorem wS_rec {bf : Nat → Nat → Prop} {m S : Nat} (h : S < 2 ^ m) (h0 : S ≠ 0) : wS bf m S = sm (fun i => @ite _ (S.testBit i.toNat = true ∧ okB bf (S ^^^ 2 ^ i.toNat) i.toNat) (Classical.propDecidable _) (wS bf m (S ^^^ 2 ^ i.toNat)) 0) m := by
  obtain ⟨i, hi, hb⟩ := pcn_s h h0
  have e := pcn_x hb hi
  unfold wS
  rw [e]
  show sm _ m = _
  refine sm_congr (fun x hx => ?_)
  have x0 := hx.1
  have x1 := hx.2
  by_cases c : S.testBit x.toNat = true
  · have es : (fun y => S.testBit y = true ∧ y ≠ x.toNat) = (fun y => (S ^^^ 2 ^ x.toNat).testBit y = true) := by
      funext y
      rw [tb_x]
      by_cases q : x.toNat = y
      · subst q; simp [c]
      · have q2 : ¬ y = x.toNat := fun z => q z.symm
        simp [q, q2]
    have ec : (S.testBit x.toNat = true ∧ (∀ j, bf x.toNat j → S.testBit j = true ∧ j ≠ x.toNat)) = (S.testBit x.toNat = true ∧ okB bf (S ^^^ 2 ^ x.toNat) x.toNat) := by
      unfold okB
      refine congrArg _ ?_
      refine propext ⟨fun q j hj => ?_, fun q j hj => ?_⟩
      · have := congrFun es j
        rw [← this]; exact q j hj
      · have := congrFun es j
        have z := q j hj
        rw [← this] at z; exact z
    have ep := pcn_x (m := m) c (by omega)
    have ep2 : pcn m (S ^^^ 2 ^ i) = pcn m (S ^^^ 2 ^ x.toNat) := by omega
    show @ite _ _ (Classical.propDecidable _) _ _ = _
    rw [ep2, es]
    by_cases q : S.testBit x.toNat = true ∧ okB bf (S ^^^ 2 ^ x.toNat) x.toNat
    · rw [if_pos (by rw [ec]; exact q), if_pos q]
    · rw [if_neg (by rw [ec]; exact q), if_neg q]
  · rw [if_neg (fun q => c q.1), if_neg (fun q => c q.1)]
theorem sm_one1 {f g : Int → Int} {k d : Int} {n : Nat} (hk : In n k) (e : g k = f k + d) (he : ∀ x : Int, In n x → x ≠ k → g x = f x) : sm g n = sm f n + d := by
  have := sm_uq (f := f) (v := f k + d) hk
  rw [show f k + d - f k = d by omega] at this
  rw [← this]
  refine sm_congr (fun x hx => ?_)
  by_cases q : x = k
  · subst q; rw [uq_e, e]
  · rw [uq_o q]; exact he x hx q
theorem sm_mono {f g : Int → Int} : ∀ {n : Nat}, (∀ x : Int, In n x → f x ≤ g x) → sm f n ≤ sm g n
  | 0, _ => Int.le_refl _
  | n + 1, h => by
    have h1 := sm_mono (f := f) (g := g) (n := n) (fun x hx => h x ⟨hx.1, by have := hx.2; omega⟩)
    have h2 := h n ⟨by omega, by omega⟩
    show sm f n + f n ≤ sm g n + g n
    omega
theorem sm_zero {f : Int → Int} : ∀ {n : Nat}, (∀ x : Int, In n x → f x = 0) → sm f n = 0
  | 0, _ => rfl
  | n + 1, h => by
    have h1 := sm_zero (f := f) (n := n) (fun x hx => h x ⟨hx.1, by have := hx.2; omega⟩)
    have h2 := h n ⟨by omega, by omega⟩
    show sm f n + f n = 0
    omega
def fct : Nat → Int
  | 0 => 1
  | k + 1 => (k + 1 : Int) * fct k
theorem fct_p : ∀ k, 1 ≤ fct k
  | 0 => by decide
  | k + 1 => by
    have := fct_p k
    show 1 ≤ ((k : Int) + 1) * fct k
    have : (0 : Int) ≤ (k : Int) * fct k := Int.mul_nonneg (by omega) (by omega)
    rw [Int.add_mul]; omega
theorem fct_m {k : Nat} : ∀ {j : Nat}, fct k ≤ fct (k + j)
  | 0 => Int.le_refl _
  | j + 1 => by
    have := fct_m (k := k) (j := j)
    have p := fct_p (k + j)
    show fct k ≤ (((k + j : Nat) : Int) + 1) * fct (k + j)
    have : (0 : Int) ≤ ((k + j : Nat) : Int) * fct (k + j) := Int.mul_nonneg (by omega) (by omega)
    rw [Int.add_mul]; omega
theorem sm_cnt {f : Int → Int} {p : Int → Bool} {c : Int} : ∀ {n : Nat}, (∀ x : Int, In n x → f x ≤ if p x then c else 0) → sm f n ≤ c * cnt p n
  | 0, _ => by show (0 : Int) ≤ c * ((0 : Nat) : Int); simp
  | n + 1, h => by
    have h1 := sm_cnt (f := f) (p := p) (c := c) (n := n) (fun x hx => h x ⟨hx.1, by have := hx.2; omega⟩)
    have h2 := h n ⟨by omega, by omega⟩
    show sm f n + f n ≤ c * ((cnt p n + (if p n then 1 else 0) : Nat) : Int)
    cases q : p n
    · rw [q] at h2; simp at h2 ⊢; omega
    · rw [q] at h2
      simp at h2 ⊢
      rw [Int.mul_add]; omega
/-- no more than all orders of so many -/
theorem wS_b {bf : Nat → Nat → Prop} {m : Nat} : ∀ (k S : Nat), S < 2 ^ m → pcn m S = k → 0 ≤ wS bf m S ∧ wS bf m S ≤ fct k := by
  intro k
  induction k with
  | zero =>
    intro S h e
    have : S = 0 := Classical.byContradiction (fun q => by
      obtain ⟨i, hi, hb⟩ := pcn_s h q
      have := pcn_x hb hi
      omega)
    rw [this, wS_0]; decide
  | succ k ih =>
    intro S h e
    have h0 : S ≠ 0 := fun q => by rw [q, pcn_0] at e; omega
    have key : ∀ x : Int, In m x → 0 ≤ @ite _ (S.testBit x.toNat = true ∧ okB bf (S ^^^ 2 ^ x.toNat) x.toNat) (Classical.propDecidable _) (wS bf m (S ^^^ 2 ^ x.toNat)) 0 ∧ @ite _ (S.testBit x.toNat = true ∧ okB bf (S ^^^ 2 ^ x.toNat) x.toNat) (Classical.propDecidable _) (wS bf m (S ^^^ 2 ^ x.toNat)) 0 ≤ if S.testBit x.toNat then fct k else 0 := fun x hx => by
      have x0 := hx.1
      have x1 := hx.2
      by_cases c : S.testBit x.toNat = true ∧ okB bf (S ^^^ 2 ^ x.toNat) x.toNat
      · rw [if_pos c, if_pos c.1]
        have := pcn_x (m := m) c.1 (by omega)
        exact ih _ (x_lt2 h (by omega)) (by omega)
      · rw [if_neg c]
        have := fct_p k
        cases S.testBit x.toNat
        · simp
        · simp; omega
    rw [wS_rec h h0]
    constructor
    · have := sm_mono (f := fun _ => 0) (n := m) (fun x hx => (key x hx).1)
      rw [sm_zero (fun _ _ => rfl)] at this
      exact this
    · have := sm_cnt (p := fun i => S.testBit i.toNat) (c := fct k) (n := m) (fun x hx => (key x hx).2)
      have e2 : (cnt (fun i => S.testBit i.toNat) m : Int) = (k : Int) + 1 := by have : cnt (fun i => S.testBit i.toNat) m = k + 1 := e; omega
      rw [e2, Int.mul_comm] at this
      exact this
theorem wS_16 {bf : Nat → Nat → Prop} {m S : Nat} (hm : m ≤ 16) (h : S < 2 ^ m) : 0 ≤ wS bf m S ∧ wS bf m S ≤ 20922789888000 := by
  obtain ⟨a, b⟩ := wS_b (bf := bf) (pcn m S) S h rfl
  have := cnt_le (fun i => S.testBit i.toNat) m
  have t := fct_m (k := pcn m S) (j := 16 - pcn m S)
  have e : pcn m S + (16 - pcn m S) = 16 := by unfold pcn; omega
  rw [e] at t
  have : fct 16 = 20922789888000 := by decide +kernel
  exact ⟨a, by omega⟩
/-! the sums, as they grow -/
def ptC (bf : Nat → Nat → Prop) (S y b i : Nat) : Prop := S.testBit i = true ∧ okB bf (S ^^^ 2 ^ i) i ∧ ((S ^^^ 2 ^ i) < y ∨ (S ^^^ 2 ^ i) = y ∧ i < b)
noncomputable def Pt (bf : Nat → Nat → Prop) (m S y b : Nat) : Int := sm (fun i => @ite _ (ptC bf S y b i.toNat) (Classical.propDecidable _) (wS bf m (S ^^^ 2 ^ i.toNat)) 0) m
def DPI (W : Int → Int) (bf : Nat → Nat → Prop) (m y b : Nat) : Prop := ∀ S : Nat, S < 2 ^ m → W (S : Int) = (if S = 0 then 1 else 0) + Pt bf m S y b
theorem DPI_init {W : Int → Int} {bf : Nat → Nat → Prop} {m : Nat} (h0 : W 0 = 1) (h : ∀ S : Nat, S ≠ 0 → S < 2 ^ m → W (S : Int) = 0) : DPI W bf m 0 0 := fun S hS => by
  have : Pt bf m S 0 0 = 0 := sm_zero (fun x _ => by
    show @ite _ _ (Classical.propDecidable _) _ _ = _
    rw [if_neg (fun q => by have := q.2.2; omega)])
  rw [this]
  by_cases e : S = 0
  · subst e; rw [if_pos rfl]; simpa using h0
  · rw [if_neg e, h S e hS]; rfl
theorem DPI_next {W : Int → Int} {bf : Nat → Nat → Prop} {m y : Nat} (h : DPI W bf m y m) : DPI W bf m (y + 1) 0 := fun S hS => by
  rw [h S hS]
  refine congrArg _ (sm_congr (fun x hx => ?_))
  have x0 := hx.1
  have x1 := hx.2
  have : ptC bf S y m x.toNat = ptC bf S (y + 1) 0 x.toNat := by
    unfold ptC
    refine propext ⟨fun q => ⟨q.1, q.2.1, by have := q.2.2; omega⟩, fun q => ⟨q.1, q.2.1, by have := q.2.2; omega⟩⟩
  show @ite _ _ (Classical.propDecidable _) _ _ = @ite _ _ (Classical.propDecidable _) _ _
  rw [this]
theorem DPI_at {W : Int → Int} {bf : Nat → Nat → Prop} {m y S : Nat} (h : DPI W bf m y 0) (hS : S < 2 ^ m) (hy : S ≤ y) : W (S : Int) = wS bf m S := by
  rw [h S hS]
  by_cases e : S = 0
  · subst e
    rw [wS_0, if_pos rfl]
    have : Pt bf m 0 y 0 = 0 := sm_zero (fun x _ => by
      show @ite _ _ (Classical.propDecidable _) _ _ = _
      rw [if_neg (fun q => by have := q.1; simp at this)])
    rw [this]; rfl
  · rw [if_neg e, wS_rec hS e, Int.zero_add]
    refine sm_congr (fun x hx => ?_)
    have : ptC bf S y 0 x.toNat = (S.testBit x.toNat = true ∧ okB bf (S ^^^ 2 ^ x.toNat) x.toNat) := by
      unfold ptC
      refine propext ⟨fun q => ⟨q.1, q.2.1⟩, fun q => ⟨q.1, q.2, Or.inl ?_⟩⟩
      have := x_lt q.1
      omega
    show @ite _ _ (Classical.propDecidable _) _ _ = @ite _ _ (Classical.propDecidable _) _ _
    rw [this]
theorem DPI_b {W : Int → Int} {bf : Nat → Nat → Prop} {m y b S : Nat} (hm : m ≤ 16) (h : DPI W bf m y b) (hS : S < 2 ^ m) : 0 ≤ W (S : Int) ∧ W (S : Int) ≤ 20922789888001 := by
  rw [h S hS]
  have h1 : 0 ≤ Pt bf m S y b := by
    have := sm_mono (f := fun _ => 0) (g := fun i : Int => @ite _ (ptC bf S y b i.toNat) (Classical.propDecidable _) (wS bf m (S ^^^ 2 ^ i.toNat)) 0) (n := m) (fun x hx => by
      by_cases c : ptC bf S y b x.toNat
      · rw [if_pos c]; exact (wS_16 hm (x_lt2 hS (by have := hx.1; have := hx.2; omega))).1
      · rw [if_neg c]; exact Int.le_refl _)
    rw [sm_zero (fun _ _ => rfl)] at this
    exact this
  have h2 : Pt bf m S y b ≤ 20922789888000 := by
    by_cases e : S = 0
    · subst e
      have : Pt bf m 0 y b = 0 := sm_zero (fun x _ => by
        show @ite _ _ (Classical.propDecidable _) _ _ = _
        rw [if_neg (fun q => by have := q.1; simp at this)])
      rw [this]; decide
    · have t := (wS_16 (bf := bf) hm hS).2
      rw [wS_rec hS e] at t
      refine Int.le_trans (sm_mono (fun x hx => ?_)) t
      have x0 := hx.1
      have x1 := hx.2
      have p0 := (wS_16 (bf := bf) hm (x_lt2 (i := x.toNat) hS (by omega))).1
      by_cases c : ptC bf S y b x.toNat
      · show @ite _ _ (Classical.propDecidable _) _ _ ≤ @ite _ _ (Classical.propDecidable _) _ _
        rw [if_pos c, if_pos ⟨c.1, c.2.1⟩]; exact Int.le_refl _
      · show @ite _ _ (Classical.propDecidable _) _ _ ≤ @ite _ _ (Classical.propDecidable _) _ _
        rw [if_neg c]
        by_cases d : S.testBit x.toNat = true ∧ okB bf (S ^^^ 2 ^ x.toNat) x.toNat
        · rw [if_pos d]; exact p0
        · rw [if_neg d]; exact Int.le_refl _
  split <;> omega
theorem ptC_s {bf : Nat → Nat → Prop} {S y b i : Nat} (h : ¬ (i = b ∧ S.testBit b = true ∧ (S ^^^ 2 ^ b) = y ∧ okB bf y b)) : ptC bf S y (b + 1) i = ptC bf S y b i := by
  unfold ptC
  refine propext ⟨fun q => ⟨q.1, q.2.1, ?_⟩, fun q => ⟨q.1, q.2.1, by have := q.2.2; omega⟩⟩
  rcases q.2.2 with z | ⟨z, z2⟩
  · exact Or.inl z
  · refine Or.inr ⟨z, ?_⟩
    have : i ≠ b := fun e => h (by subst e; exact ⟨rfl, q.1, z, by rw [← z]; exact q.2.1⟩)
    omega
theorem DPI_skip {W : Int → Int} {bf : Nat → Nat → Prop} {m y b : Nat} (h : DPI W bf m y b) (hn : y.testBit b = true ∨ ¬ okB bf y b ∨ wS bf m y = 0) : DPI W bf m y (b + 1) := fun S hS => by
  rw [h S hS]
  refine congrArg _ (sm_congr (fun x hx => ?_))
  show @ite _ _ (Classical.propDecidable _) _ _ = @ite _ _ (Classical.propDecidable _) _ _
  by_cases c : x.toNat = b ∧ S.testBit b = true ∧ (S ^^^ 2 ^ b) = y ∧ okB bf y b
  · obtain ⟨c1, c2, c3, c4⟩ := c
    have y0 : y.testBit b = false := by rw [← c3, tb_x, c2]; simp
    have e0 : wS bf m y = 0 := by
      rcases hn with z | z | z
      · rw [y0] at z; cases z
      · exact absurd c4 z
      · exact z
    rw [c1, c3, e0]
    split <;> split <;> rfl
  · rw [ptC_s c]
theorem DPI_take {W : Int → Int} {bf : Nat → Nat → Prop} {m y b : Nat} (h : DPI W bf m y b) (hb : b < m) (hy : y < 2 ^ m) (h0 : y.testBit b = false) (hok : okB bf y b) : DPI (fun S => if S = ((y ||| 2 ^ b : Nat) : Int) then W S + wS bf m y else W S) bf m y (b + 1) := fun S hS => by
  show (if (S : Int) = ((y ||| 2 ^ b : Nat) : Int) then W S + wS bf m y else W S) = _
  have ex := o_x h0
  by_cases e : S = y ||| 2 ^ b
  · rw [if_pos (by rw [e]), h S hS, Int.add_assoc]
    refine congrArg _ ?_
    have sb : S.testBit b = true := by rw [e, tb_o]; simp
    have sx : S ^^^ 2 ^ b = y := by rw [e, ex, x_x]
    refine (sm_one1 (k := (b : Int)) ⟨by omega, by omega⟩ ?_ (fun x hx hxb => ?_)).symm
    · show @ite _ _ (Classical.propDecidable _) _ _ = @ite _ _ (Classical.propDecidable _) _ _ + _
      rw [show ((b : Int)).toNat = b by omega, if_pos ⟨sb, by rw [sx]; exact hok, Or.inr ⟨sx, by omega⟩⟩, if_neg (fun q => by have := q.2.2; omega), sx, Int.zero_add]
    · show @ite _ _ (Classical.propDecidable _) _ _ = @ite _ _ (Classical.propDecidable _) _ _
      rw [ptC_s (fun q => hxb (by have := q.1; have := hx.1; omega))]
  · rw [if_neg (by omega), h S hS]
    refine congrArg _ (sm_congr (fun x hx => ?_))
    show @ite _ _ (Classical.propDecidable _) _ _ = @ite _ _ (Classical.propDecidable _) _ _
    rw [ptC_s (fun q => e (by rw [ex, ← q.2.2.1, x_x]))]
theorem wS_full {bf : Nat → Nat → Prop} {m : Nat} : wS bf m (2 ^ m - 1) = wyC bf m m (fun i => i < m) := by
  unfold wS
  have e : (fun i => (2 ^ m - 1).testBit i = true) = (fun i => i < m) := by
    funext i
    rw [Nat.testBit_two_pow_sub_one]; simp
  have e2 : pcn m (2 ^ m - 1) = m := by
    have key : ∀ n : Nat, n ≤ m → cnt (fun i => (2 ^ m - 1).testBit i.toNat) n = n := by
      intro n
      induction n with
      | zero => intro _; rfl
      | succ n ih =>
        intro hn
        show cnt _ n + (if (2 ^ m - 1).testBit ((n : Int)).toNat then 1 else 0) = n + 1
        rw [ih (by omega), show ((n : Int)).toNat = n by omega, Nat.testBit_two_pow_sub_one]
        simp; omega
    exact key m (Nat.le_refl _)
  rw [e, e2]
