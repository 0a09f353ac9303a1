/-! how many orders: one relation and its closure, parts, places in a part -/
theorem sm_add {f g : Int → Int} : ∀ {n : Nat}, sm (fun x => f x + g x) n = sm f n + sm g n
  | 0 => rfl
  | n + 1 => by
    have := sm_add (f := f) (g := g) (n := n)
    show sm (fun x => f x + g x) n + (f n + g n) = (sm f n + f n) + (sm g n + g n)
    omega
theorem sm_mul {f : Int → Int} {c : Int} : ∀ {n : Nat}, sm (fun x => c * f x) n = c * sm f n
  | 0 => by show (0 : Int) = c * 0; simp
  | n + 1 => by
    have := sm_mul (f := f) (c := c) (n := n)
    show sm (fun x => c * f x) n + c * f n = c * (sm f n + f n)
    rw [this, Int.mul_add]
theorem wS_ncl {bf : Nat → Nat → Prop} {m : Nat} : ∀ (S : Nat), S < 2 ^ m → ∀ e j, S.testBit e = true → bf e j → S.testBit j = false → wS bf m S = 0 := by
  intro S
  induction S using Nat.strongRecOn with
  | ind S ih =>
    intro hS e j he hb hj
    have h0 : S ≠ 0 := fun q => by rw [q] at he; simp at he
    rw [wS_rec hS h0]
    refine sm_zero (fun x hx => ?_)
    show @ite _ _ (Classical.propDecidable _) _ _ = _
    by_cases c : S.testBit x.toNat = true ∧ okB bf (S ^^^ 2 ^ x.toNat) x.toNat
    · rw [if_pos c]
      have xj : ¬ x.toNat = j := fun q => by rw [q, hj] at c; cases c.1
      have nj : (S ^^^ 2 ^ x.toNat).testBit j = false := by rw [tb_x, hj]; simp [xj]
      have xe : ¬ x.toNat = e := fun q => by
        have := c.2 j (by rw [q]; exact hb)
        rw [nj] at this; cases this
      refine ih _ (x_lt c.1) (x_lt2 hS (by have := hx.1; have := hx.2; omega)) e j ?_ hb nj
      rw [tb_x, he]; simp [xe]
    · rw [if_neg c]
theorem Clo.cls {d t : Nat → Nat → Prop} (c : Clo d t) {rk : Nat → Nat} (hr : ∀ i j, t i j → rk j < rk i) {S : Nat} (h : Cls d S) : Cls t S := by
  have key : ∀ n i, rk i < n → ∀ j, S.testBit i = true → t i j → S.testBit j = true := by
    intro n
    induction n with
    | zero => intro i hi; omega
    | succ n ih =>
      intro i hi j hs ht
      rcases c.2 i j ht with z | ⟨k, z1, z2⟩
      · exact h i j hs z
      · exact ih k (by have := hr i k (c.1 i k z1); omega) j (h i k hs z1) z2
  exact fun i j => key (rk i + 1) i (by omega) j
theorem Clo.wS {d t : Nat → Nat → Prop} (c : Clo d t) {rk : Nat → Nat} (hr : ∀ i j, t i j → rk j < rk i) {m : Nat} : ∀ S, S < 2 ^ m → wS d m S = wS t m S := by
  intro S
  induction S using Nat.strongRecOn with
  | ind S ih =>
    intro hS
    by_cases h0 : S = 0
    · rw [h0, wS_0, wS_0]
    by_cases cl : Cls d S
    · have ct := c.cls hr cl
      rw [wS_rec hS h0, wS_rec hS h0]
      refine sm_congr (fun x hx => ?_)
      show @ite _ _ (Classical.propDecidable _) _ _ = @ite _ _ (Classical.propDecidable _) _ _
      by_cases b : S.testBit x.toNat = true
      · have ot : okB t (S ^^^ 2 ^ x.toNat) x.toNat := fun j hj => by
          have : ¬ x.toNat = j := fun e => by have := hr _ _ hj; rw [e] at this; omega
          rw [tb_x, ct _ j b hj]; simp [this]
        have od : okB d (S ^^^ 2 ^ x.toNat) x.toNat := fun j hj => ot j (c.1 _ _ hj)
        rw [if_pos ⟨b, od⟩, if_pos ⟨b, ot⟩]
        exact ih _ (x_lt b) (x_lt2 hS (by have := hx.1; have := hx.2; omega))
      · rw [if_neg (fun q => b q.1), if_neg (fun q => b q.1)]
    · have : ∃ e j, S.testBit e = true ∧ d e j ∧ S.testBit j = false := by
        refine Classical.byContradiction (fun q => cl (fun i j h1 h2 => ?_))
        cases z : S.testBit j
        · exact absurd ⟨i, j, h1, h2, z⟩ q
        · rfl
      obtain ⟨e, j, h1, h2, h3⟩ := this
      rw [wS_ncl S hS e j h1 h2 h3, wS_ncl S hS e j h1 (c.1 e j h2) h3]
/-! how many ways to choose -/
def chs : Nat → Nat → Int
  | _, 0 => 1
  | 0, _ + 1 => 0
  | n + 1, k + 1 => chs n k + chs n (k + 1)
theorem chs_0 {n : Nat} : chs n 0 = 1 := by cases n <;> rfl
theorem chs_s {n k : Nat} : chs (n + 1) (k + 1) = chs n k + chs n (k + 1) := rfl
theorem chs_gt : ∀ {n k : Nat}, n < k → chs n k = 0
  | _, 0, h => by omega
  | 0, _ + 1, _ => rfl
  | n + 1, k + 1, h => by rw [chs_s, chs_gt (by omega), chs_gt (by omega)]; rfl
theorem chs_n : ∀ {n : Nat}, chs n n = 1
  | 0 => rfl
  | n + 1 => by rw [chs_s, chs_n, chs_gt (by omega)]; rfl
theorem chs_mul : ∀ (n k : Nat), ((k : Int) + 1) * chs (n + 1) (k + 1) = ((n : Int) + 1) * chs n k
  | 0, 0 => by decide
  | 0, k + 1 => by
    rw [chs_gt (show 0 + 1 < k + 1 + 1 by omega), chs_gt (show 0 < k + 1 by omega)]; simp
  | n + 1, k => by
    have i1 := chs_mul n k
    rw [chs_s (n := n + 1) (k := k), Int.mul_add, i1]
    cases k with
    | zero => rw [chs_0, chs_0]; push_cast; omega
    | succ j =>
      have i2 := chs_mul n j
      have e : ((((j + 1 : Nat)) : Int) + 1) * chs (n + 1) (j + 1) = ((j : Int) + 1) * chs (n + 1) (j + 1) + chs (n + 1) (j + 1) := by
        push_cast
        rw [Int.add_mul ((j : Int) + 1) 1, Int.one_mul]
      rw [e, i2, chs_s (n := n) (k := j)]
      push_cast
      rw [Int.add_mul ((n : Int) + 1) 1, Int.mul_add ((n : Int) + 1), Int.one_mul]
      omega
theorem o_s {S B i : Nat} (h : S.testBit i = true) (hb : B.testBit i = false) : (S ||| B) ^^^ 2 ^ i = (S ^^^ 2 ^ i) ||| B := by
  refine Nat.eq_of_testBit_eq (fun j => ?_)
  rw [tb_x, Nat.testBit_or, Nat.testBit_or, tb_x]
  by_cases e : i = j
  · subst e; rw [h, hb]; simp
  · simp [e]
/-- parts with nothing between them mix in all ways -/
theorem wS_mix {bf : Nat → Nat → Prop} {m U P : Nat} (hUP : ∀ i, U.testBit i = true → P.testBit i = false) (hx : ∀ i j, bf i j → (U.testBit i = true → P.testBit j = false) ∧ (P.testBit i = true → U.testBit j = false)) :
    ∀ (s A B : Nat), A < 2 ^ m → B < 2 ^ m → (∀ i, A.testBit i = true → U.testBit i = true) → (∀ i, B.testBit i = true → P.testBit i = true) → pcn m A + pcn m B = s → wS bf m (A ||| B) = chs (pcn m A + pcn m B) (pcn m A) * (wS bf m A * wS bf m B) := by
  intro s
  induction s with
  | zero =>
    intro A B hA hB hu hp hs
    have a0 : A = 0 := Classical.byContradiction (fun q => by
      obtain ⟨i, hi, hb⟩ := pcn_s hA q
      have := pcn_x hb hi
      omega)
    have b0 : B = 0 := Classical.byContradiction (fun q => by
      obtain ⟨i, hi, hb⟩ := pcn_s hB q
      have := pcn_x hb hi
      omega)
    rw [a0, b0]
    simp [wS_0, pcn_0, chs_0]
  | succ s ih =>
    intro A B hA hB hu hp hs
    by_cases a0 : A = 0
    · rw [a0]; simp [wS_0, pcn_0, chs_0]
    by_cases b0 : B = 0
    · rw [b0]; simp [wS_0, pcn_0, chs_n]
    have hAB : A ||| B < 2 ^ m := Nat.or_lt_two_pow hA hB
    have n0 : A ||| B ≠ 0 := fun q => by
      obtain ⟨i, hi, hb⟩ := pcn_s hA a0
      have := congrArg (fun z => Nat.testBit z i) q
      simp [hb] at this
    have pa : ∃ a, pcn m A = a + 1 := by
      obtain ⟨i, hi, hb⟩ := pcn_s hA a0
      exact ⟨_, pcn_x hb hi⟩
    have pb : ∃ b, pcn m B = b + 1 := by
      obtain ⟨i, hi, hb⟩ := pcn_s hB b0
      exact ⟨_, pcn_x hb hi⟩
    obtain ⟨a, ea⟩ := pa
    obtain ⟨b, eb⟩ := pb
    have dis : ∀ i, A.testBit i = true → B.testBit i = false := fun i h => by
      cases q : B.testBit i
      · rfl
      · have := hUP i (hu i h); rw [hp i q] at this; cases this
    have oA : ∀ i, A.testBit i = true → (okB bf ((A ^^^ 2 ^ i) ||| B) i ↔ okB bf (A ^^^ 2 ^ i) i) := fun i h => by
      constructor
      · intro o j hj
        have := o j hj
        rw [Nat.testBit_or] at this
        have nb : B.testBit j = false := by
          cases q : B.testBit j
          · rfl
          · have := (hx i j hj).1 (hu i h); rw [hp j q] at this; cases this
        rw [nb, Bool.or_false] at this; exact this
      · intro o j hj
        rw [Nat.testBit_or, o j hj]; rfl
    have oB : ∀ i, B.testBit i = true → (okB bf (A ||| (B ^^^ 2 ^ i)) i ↔ okB bf (B ^^^ 2 ^ i) i) := fun i h => by
      constructor
      · intro o j hj
        have := o j hj
        rw [Nat.testBit_or] at this
        have nb : A.testBit j = false := by
          cases q : A.testBit j
          · rfl
          · have := (hx i j hj).2 (hp i h); rw [hu j q] at this; cases this
        rw [nb, Bool.false_or] at this; exact this
      · intro o j hj
        rw [Nat.testBit_or, o j hj, Bool.or_true]
    have e1 : wS bf m (A ||| B) = sm (fun i => (chs (a + (b + 1)) a * wS bf m B) * @ite _ (A.testBit i.toNat = true ∧ okB bf (A ^^^ 2 ^ i.toNat) i.toNat) (Classical.propDecidable _) (wS bf m (A ^^^ 2 ^ i.toNat)) 0 + (chs ((a + 1) + b) (a + 1) * wS bf m A) * @ite _ (B.testBit i.toNat = true ∧ okB bf (B ^^^ 2 ^ i.toNat) i.toNat) (Classical.propDecidable _) (wS bf m (B ^^^ 2 ^ i.toNat)) 0) m := by
      rw [wS_rec hAB n0]
      refine sm_congr (fun x hx' => ?_)
      have hxm : x.toNat < m := by have := hx'.1; have := hx'.2; omega
      show @ite _ _ (Classical.propDecidable _) _ _ = _ * @ite _ _ (Classical.propDecidable _) _ _ + _ * @ite _ _ (Classical.propDecidable _) _ _
      by_cases qa : A.testBit x.toNat = true
      · have qb := dis _ qa
        have et := o_s qa qb
        have z : ¬ (B.testBit x.toNat = true ∧ okB bf (B ^^^ 2 ^ x.toNat) x.toNat) := fun y => by rw [qb] at y; cases y.1
        rw [if_neg z, Int.mul_zero, Int.add_zero, et]
        by_cases o : okB bf (A ^^^ 2 ^ x.toNat) x.toNat
        · rw [if_pos ⟨by rw [Nat.testBit_or, qa]; rfl, (oA _ qa).mpr o⟩, if_pos ⟨qa, o⟩]
          have px := pcn_x (m := m) qa hxm
          have h' := ih (A ^^^ 2 ^ x.toNat) B (x_lt2 hA hxm) hB (fun i hi => hu i (by
            rw [tb_x] at hi
            by_cases e : x.toNat = i
            · rw [← e]; exact qa
            · simpa [e] using hi)) hp (by omega)
          have pe : pcn m (A ^^^ 2 ^ x.toNat) = a := by omega
          rw [h', pe, eb, Int.mul_assoc, Int.mul_comm (wS bf m B)]
        · rw [if_neg (fun y => o ((oA _ qa).mp y.2)), if_neg (fun y => o y.2), Int.mul_zero]
      · have z : ¬ (A.testBit x.toNat = true ∧ okB bf (A ^^^ 2 ^ x.toNat) x.toNat) := fun y => qa y.1
        rw [if_neg z, Int.mul_zero, Int.zero_add]
        have qa' : A.testBit x.toNat = false := by simpa using qa
        by_cases qb : B.testBit x.toNat = true
        · have et : (A ||| B) ^^^ 2 ^ x.toNat = A ||| (B ^^^ 2 ^ x.toNat) := by rw [Nat.or_comm A B, o_s qb qa', Nat.or_comm]
          rw [et]
          by_cases o : okB bf (B ^^^ 2 ^ x.toNat) x.toNat
          · rw [if_pos ⟨by rw [Nat.testBit_or, qb, Bool.or_true], (oB _ qb).mpr o⟩, if_pos ⟨qb, o⟩]
            have px := pcn_x (m := m) qb hxm
            have h' := ih A (B ^^^ 2 ^ x.toNat) hA (x_lt2 hB hxm) hu (fun i hi => hp i (by
              rw [tb_x] at hi
              by_cases e : x.toNat = i
              · rw [← e]; exact qb
              · simpa [e] using hi)) (by omega)
            have pe : pcn m (B ^^^ 2 ^ x.toNat) = b := by omega
            rw [h', pe, ea, Int.mul_assoc]
          · rw [if_neg (fun y => o ((oB _ qb).mp y.2)), if_neg (fun y => o y.2), Int.mul_zero]
        · rw [if_neg (fun y => by rw [Nat.testBit_or, qa'] at y; simp at y; exact qb y.1), if_neg (fun y => qb y.1), Int.mul_zero]
    rw [e1, sm_add, sm_mul, sm_mul, ← wS_rec hA a0, ← wS_rec hB b0, ea, eb]
    have ec : chs (a + 1 + (b + 1)) (a + 1) = chs (a + (b + 1)) a + chs (a + 1 + b) (a + 1) := by
      rw [show a + 1 + (b + 1) = (a + b + 1) + 1 by omega, chs_s, show a + (b + 1) = a + b + 1 by omega, show a + 1 + b = a + b + 1 by omega]
    rw [ec, Int.add_mul, Int.mul_assoc, Int.mul_assoc, Int.mul_comm (wS bf m B)]
/-- a sum over those that p takes, by their places -/
theorem sm_part {f pt : Int → Int} {p : Int → Bool} : ∀ {n : Nat}, (∀ x : Int, In n x → p x = true → pt (cnt p x.toNat : Nat) = x) → (∀ x : Int, In n x → p x = false → f x = 0) → sm f n = sm (fun i => f (pt i)) (cnt p n)
  | 0, _, _ => rfl
  | n + 1, h1, h2 => by
    have i := sm_part (f := f) (pt := pt) (p := p) (n := n) (fun x hx => h1 x ⟨hx.1, by have := hx.2; omega⟩) (fun x hx => h2 x ⟨hx.1, by have := hx.2; omega⟩)
    show sm f n + f n = sm (fun i => f (pt i)) (cnt p n + (if p n then 1 else 0))
    cases q : p n
    · rw [h2 n ⟨by omega, by omega⟩ q, i]; simp
    · have := h1 n ⟨by omega, by omega⟩ q
      rw [show ((n : Int)).toNat = n by omega] at this
      rw [i]
      show _ = sm (fun i => f (pt i)) (cnt p n) + f (pt (cnt p n : Nat))
      rw [this]
/-- blocks of a part, by their places in it -/
theorem wS_part {br pb : Nat → Nat → Prop} {m P s : Nat} {pt : Int → Int} (hP : P < 2 ^ m) (hs : pcn m P = s) (hpt : ∀ x : Nat, P.testBit x = true → pt (cnt (fun i => P.testBit i.toNat) x : Nat) = x) (hcl : ∀ i j, P.testBit i = true → br i j → P.testBit j = true)
    (hb : ∀ x y : Nat, P.testBit x = true → P.testBit y = true → (pb (cnt (fun i => P.testBit i.toNat) x) (cnt (fun i => P.testBit i.toNat) y) ↔ br x y)) (hb2 : ∀ i j, pb i j → j < s) :
    ∀ (S' S : Nat), S' < 2 ^ s → S < 2 ^ m → (∀ x, S.testBit x = (P.testBit x && S'.testBit (cnt (fun i => P.testBit i.toNat) x))) → wS pb s S' = wS br m S := by
  have inj : ∀ x y : Nat, P.testBit x = true → P.testBit y = true → cnt (fun i => P.testBit i.toNat) x = cnt (fun i => P.testBit i.toNat) y → x = y := fun x y h1 h2 e => by
    have a := hpt x h1
    have b := hpt y h2
    rw [e, b] at a
    omega
  have sur : ∀ i : Nat, i < s → ∃ x : Nat, x < m ∧ P.testBit x = true ∧ cnt (fun i => P.testBit i.toNat) x = i := fun i hi => by
    obtain ⟨r, r1, r2, r3⟩ := cnt_surj (p := fun i => P.testBit i.toNat) (n := m) (j := i) (by unfold pcn at hs; omega)
    exact ⟨r.toNat, by have := r1.1; have := r1.2; omega, r2, r3⟩
  have lt : ∀ x : Nat, P.testBit x = true → cnt (fun i => P.testBit i.toNat) x < s := fun x hx => by
    have hm := tb_m hP hx
    have h1 := cnt_succ (p := fun i => P.testBit i.toNat) (x := (x : Int)) (by omega)
    rw [show ((x : Int) + 1).toNat = x + 1 by omega, show ((x : Int)).toNat = x by omega] at h1
    have h2 := cnt_mono (p := fun i => P.testBit i.toNat) (n := x + 1) (m := m) (by omega)
    simp only [show ((x : Int)).toNat = x by omega, hx] at h1
    unfold pcn at hs
    simp at h1
    omega
  intro S'
  induction S' using Nat.strongRecOn with
  | ind S' ih =>
    intro S hS' hS e
    by_cases z : S' = 0
    · have : S = 0 := Nat.eq_of_testBit_eq (fun j => by rw [e, z]; simp)
      rw [z, this, wS_0, wS_0]
    have n0 : S ≠ 0 := fun q => by
      obtain ⟨i, hi, hb'⟩ := pcn_s hS' z
      obtain ⟨x, x1, x2, x3⟩ := sur i hi
      have := e x
      rw [q, x2, x3, hb'] at this
      simp at this
    rw [wS_rec hS' z, wS_rec hS n0]
    rw [sm_part (f := fun i => @ite _ (S.testBit i.toNat = true ∧ okB br (S ^^^ 2 ^ i.toNat) i.toNat) (Classical.propDecidable _) (wS br m (S ^^^ 2 ^ i.toNat)) 0) (pt := pt) (p := fun i => P.testBit i.toNat) (n := m) (fun x hx h1 => by
      have := hpt x.toNat h1
      rw [this]; have := hx.1; omega) (fun x hx h1 => by
      show @ite _ _ (Classical.propDecidable _) _ _ = _
      rw [if_neg (fun y => by have := y.1; rw [e] at this; simp at this; rw [h1] at this; cases this.1)])]
    have hs' : cnt (fun i : Int => P.testBit i.toNat) m = s := hs
    rw [hs']
    refine sm_congr (fun i hi => ?_)
    have i0 := hi.1
    have i1 := hi.2
    obtain ⟨x, x1, x2, x3⟩ := sur i.toNat (by omega)
    have ep : pt i = (x : Int) := by
      have := hpt x x2
      rw [x3] at this
      rw [show ((i.toNat : Nat) : Int) = i by omega] at this
      exact this
    show @ite _ _ (Classical.propDecidable _) _ _ = @ite _ _ (Classical.propDecidable _) _ _
    rw [ep, show ((x : Int)).toNat = x by omega]
    have eb : S'.testBit i.toNat = S.testBit x := by rw [e, x2, x3]; simp
    have ex : ∀ y, (S ^^^ 2 ^ x).testBit y = (P.testBit y && (S' ^^^ 2 ^ i.toNat).testBit (cnt (fun i => P.testBit i.toNat) y)) := fun y => by
      rw [tb_x, tb_x, e]
      cases q : P.testBit y
      · have : ¬ x = y := fun z => by rw [z, q] at x2; cases x2
        simp [this]
      · by_cases e2 : x = y
        · subst e2; rw [x3]; simp
        · have : ¬ i.toNat = cnt (fun i => P.testBit i.toNat) y := fun z => e2 (inj x y x2 q (by rw [x3]; exact z))
          simp [e2, this]
    have eo : okB pb (S' ^^^ 2 ^ i.toNat) i.toNat ↔ okB br (S ^^^ 2 ^ x) x := by
      constructor
      · intro o j hj
        have pj := hcl x j x2 hj
        have := o _ (by rw [← x3]; exact (hb x j x2 pj).mpr hj)
        rw [ex, pj, this]; rfl
      · intro o j hj
        obtain ⟨y, y1, y2, y3⟩ := sur j (hb2 _ _ hj)
        rw [← x3, ← y3] at hj
        have := o y ((hb x y x2 y2).mp hj)
        rw [ex, y2, y3] at this
        simpa using this
    by_cases c : S'.testBit i.toNat = true ∧ okB pb (S' ^^^ 2 ^ i.toNat) i.toNat
    · rw [if_pos c, if_pos ⟨by rw [← eb]; exact c.1, eo.mp c.2⟩]
      exact ih _ (x_lt c.1) _ (x_lt2 hS' (by omega)) (x_lt2 hS x1) ex
    · rw [if_neg c, if_neg (fun y => c ⟨by rw [eb]; exact y.1, eo.mpr y.2⟩)]
