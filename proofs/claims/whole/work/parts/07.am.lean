/-! THE ABSTRACT MACHINE: the same instructions over whole numbers (Int) and a heap that is a handful of functions -/
abbrev AV : Type := Int ⊕ (Int ⊕ (UInt32 ⊕ Option Nat))
abbrev vI (z : Int) : AV := Sum.inl z
abbrev vL (z : Int) : AV := Sum.inr (Sum.inl z)
abbrev vF (u : UInt32) : AV := Sum.inr (Sum.inr (Sum.inl u))
abbrev vR (r : Option Nat) : AV := Sum.inr (Sum.inr (Sum.inr r))
/-- ints, longs, floats, references by object and place; kind and length of each object; how many objects; how many slots -/
abbrev AH : Type := (Nat → Int → Int) × (Nat → Int → Int) × (Nat → Int → UInt32) × (Nat → Int → Option Nat) × (Nat → Nat × Int) × Nat × Nat
def gi (h : AH) : Nat → Int → Int := h.1
def gl (h : AH) : Nat → Int → Int := h.2.1
def gf (h : AH) : Nat → Int → UInt32 := h.2.2.1
def gr (h : AH) : Nat → Int → Option Nat := h.2.2.2.1
def sh (h : AH) : Nat → Nat × Int := h.2.2.2.2.1
def nn (h : AH) : Nat := h.2.2.2.2.2.1
def us (h : AH) : Nat := h.2.2.2.2.2.2
def u2 {α : Type} (f : Nat → Int → α) (o : Nat) (k : Int) (v : α) : Nat → Int → α := fun a b => if a = o ∧ b = k then v else f a b
def si (h : AH) (o : Nat) (k : Int) (v : Int) : AH := (u2 h.1 o k v, h.2)
def sl (h : AH) (o : Nat) (k : Int) (v : Int) : AH := (h.1, u2 h.2.1 o k v, h.2.2)
def sf (h : AH) (o : Nat) (k : Int) (v : UInt32) : AH := (h.1, h.2.1, u2 h.2.2.1 o k v, h.2.2.2)
def sr (h : AH) (o : Nat) (k : Int) (v : Option Nat) : AH := (h.1, h.2.1, h.2.2.1, u2 h.2.2.2.1 o k v, h.2.2.2.2)
/-- a new object: its kind, its length, its slots -/
def al (h : AH) (t : Nat) (n : Int) : AH :=
  (fun a b => if a = nn h then 0 else gi h a b, fun a b => if a = nn h then 0 else gl h a b, fun a b => if a = nn h then 0 else gf h a b, fun a b => if a = nn h then none else gr h a b,
   fun a => if a = nn h then (t, n) else sh h a, nn h + 1, us h + n.toNat)
/-- a new int array with the ints f -/
def alf (h : AH) (n : Int) (f : Int → Int) : AH :=
  (fun a b => if a = nn h then f b else gi h a b, fun a b => if a = nn h then 0 else gl h a b, fun a b => if a = nn h then 0 else gf h a b, fun a b => if a = nn h then none else gr h a b,
   fun a => if a = nn h then (0, n) else sh h a, nn h + 1, us h + n.toNat)
/-- the whole row of an object -/
def wI (h : AH) (o : Nat) (f : Int → Int) : AH := (fun a => if a = o then f else gi h a, h.2)
def w32 (z : Int) : Int := Int.bmod z 4294967296
def w64 (z : Int) : Int := Int.bmod z 18446744073709551616
def i2 (f : Int32 → Int32 → Int32) (x y : Int) : Int := (f (Int32.ofInt x) (Int32.ofInt y)).toInt
def l2 (f : Int64 → Int64 → Int64) (x y : Int) : Int := (f (Int64.ofInt x) (Int64.ofInt y)).toInt
def l1 (f : Int64 → Int32 → Int64) (x y : Int) : Int := (f (Int64.ofInt x) (Int32.ofInt y)).toInt
abbrev aLs : Type := List (Option AV)
abbrev aSt : Type := List AV
/-- a step: on to (place, locals, stack, heap); a call (method, arguments, the stack below); a return -/
abbrev aSp : Type := (Nat × aLs × aSt × AH) ⊕ ((Nat × List AV × aSt) ⊕ Option AV)
def jp (k : Nat) (ls : aLs) (st : aSt) (h : AH) : Option aSp := some (.inl (k, ls, st, h))
def gd (c : Prop) [Decidable c] (x : Option aSp) : Option aSp := if c then x else none
def p1I (st : aSt) (f : Int → aSt → Option aSp) : Option aSp := match st with
  | .inl x :: s => f x s
  | _ => none
def p1L (st : aSt) (f : Int → aSt → Option aSp) : Option aSp := match st with
  | .inr (.inl x) :: s => f x s
  | _ => none
def p1F (st : aSt) (f : UInt32 → aSt → Option aSp) : Option aSp := match st with
  | .inr (.inr (.inl x)) :: s => f x s
  | _ => none
def p1Q (st : aSt) (f : Option Nat → aSt → Option aSp) : Option aSp := match st with
  | .inr (.inr (.inr x)) :: s => f x s
  | _ => none
def p1R (st : aSt) (f : Nat → aSt → Option aSp) : Option aSp := match st with
  | .inr (.inr (.inr (some x))) :: s => f x s
  | _ => none
def p2I (st : aSt) (f : Int → Int → aSt → Option aSp) : Option aSp := p1I st fun y s => p1I s fun x s => f x y s
def p2L (st : aSt) (f : Int → Int → aSt → Option aSp) : Option aSp := p1L st fun y s => p1L s fun x s => f x y s
def p2LI (st : aSt) (f : Int → Int → aSt → Option aSp) : Option aSp := p1I st fun y s => p1L s fun x s => f x y s
def p2F (st : aSt) (f : UInt32 → UInt32 → aSt → Option aSp) : Option aSp := p1F st fun y s => p1F s fun x s => f x y s
/-- array and index -/
def pAI (st : aSt) (f : Nat → Int → aSt → Option aSp) : Option aSp := p1I st fun i s => p1R s fun a s => f a i s
def cat1 (v : AV) : Nat := match v with
  | .inl _ => 1
  | .inr (.inl _) => 2
  | .inr (.inr _) => 1
def cats : aSt → Nat
  | [] => 0
  | v :: s => cat1 v + cats s
/-- the uppermost n, the lowest first -/
def tk : Nat → List AV → aSt → Option (List AV × aSt)
  | 0, acc, st => some (acc, st)
  | _ + 1, _, [] => none
  | n + 1, acc, v :: st => tk n (v :: acc) st
def lsOf : List AV → aLs
  | [] => []
  | v :: vs => some v :: (if cat1 v = 2 then none :: lsOf vs else lsOf vs)
def pad : Nat → aLs → aLs
  | 0, _ => []
  | n + 1, [] => none :: pad n []
  | n + 1, x :: l => x :: pad n l
/-- a store: a long whose second half is overwritten is gone -/
def lset : aLs → Nat → AV → aLs
  | [], _, _ => []
  | _ :: t, 0, v => some v :: t
  | x :: t, 1, v => (match x with | some (.inr (.inl _)) => none | y => y) :: lset t 0 v
  | x :: t, k + 2, v => x :: lset t (k + 1) v
def lset2 (ls : aLs) (k : Nat) (v : AV) : aLs := (lset ls k v).set (k + 1) none
def ld (ls : aLs) (k : Nat) : Option AV := match nth ls k with
  | some (some v) => some v
  | _ => none
def ldI (ls : aLs) (k : Nat) (f : Int → Option aSp) : Option aSp := match ld ls k with
  | some (.inl x) => f x
  | _ => none
def ldL (ls : aLs) (k : Nat) (f : Int → Option aSp) : Option aSp := match ld ls k with
  | some (.inr (.inl x)) => f x
  | _ => none
def ldF (ls : aLs) (k : Nat) (f : UInt32 → Option aSp) : Option aSp := match ld ls k with
  | some (.inr (.inr (.inl x))) => f x
  | _ => none
def ldR (ls : aLs) (k : Nat) (f : Option Nat → Option aSp) : Option aSp := match ld ls k with
  | some (.inr (.inr (.inr x))) => f x
  | _ => none
def br (c : Prop) [Decidable c] (x y : Option aSp) : Option aSp := if c then x else y
def rdF (h : AH) (o : Nat) (ty k : Nat) : AV := match ty with
  | 0 => vI (gi h o k)
  | 1 => vI (gi h o k)
  | 2 => vL (gl h o k)
  | 3 => vF (gf h o k)
  | _ => vR (gr h o k)
def lkup (ps : List (Int × Int)) (x : Int) (j : Nat) : Nat := match ps with
  | [] => 0
  | q :: t => if q.1 = x then j else lkup t x (j + 1)
def rcv (h : AH) (t : Nat) (as : List AV) : Bool := if mRc t = 0 then true else match as with
  | .inr (.inr (.inr (some o))) :: _ => (sh h o).1 == mRc t
  | _ => false
def cal (t : Nat) (st : aSt) (h : AH) : Option aSp := match tk (mNa t) [] st with
  | some (as, s) => gd (cats s ≤ 8 ∧ cats as ≤ mMl t ∧ rcv h t as = true) (some (.inr (.inl (t, as, s))))
  | none => none
def axf (d : Instr) (r : Nat) (z : Int) (k : Nat) (ls : aLs) (st : aSt) (h : AH) : Option aSp := match d with
  | .iconst n => jp (k + 1) ls (vI n :: st) h
  | .bipush n => jp (k + 1) ls (vI n :: st) h
  | .sipush n => jp (k + 1) ls (vI n :: st) h
  | .lconst n => jp (k + 1) ls (vL (n.val : Int) :: st) h
  | .fconst n => jp (k + 1) ls (vF (if n.val = 0 then FP.fconst0 else if n.val = 1 then FP.fconst1 else FP.fconst2) :: st) h
  | .aconst_null => jp (k + 1) ls (vR none :: st) h
  | .ldc _ => if r = 0 then jp (k + 1) ls (vI z :: st) h else jp (k + 1) ls (vF (UInt32.ofNat z.toNat) :: st) h
  | .ldc_w _ => if r = 0 then jp (k + 1) ls (vI z :: st) h else jp (k + 1) ls (vF (UInt32.ofNat z.toNat) :: st) h
  | .ldc2_w _ => jp (k + 1) ls (vL z :: st) h
  | .iload i => ldI ls i fun x => jp (k + 1) ls (vI x :: st) h
  | .iload_n i => ldI ls i.val fun x => jp (k + 1) ls (vI x :: st) h
  | .lload i => ldL ls i fun x => jp (k + 1) ls (vL x :: st) h
  | .lload_n i => ldL ls i.val fun x => jp (k + 1) ls (vL x :: st) h
  | .fload i => ldF ls i fun x => jp (k + 1) ls (vF x :: st) h
  | .fload_n i => ldF ls i.val fun x => jp (k + 1) ls (vF x :: st) h
  | .aload i => ldR ls i fun x => jp (k + 1) ls (vR x :: st) h
  | .aload_n i => ldR ls i.val fun x => jp (k + 1) ls (vR x :: st) h
  | .istore i => p1I st fun x s => jp (k + 1) (lset ls i (vI x)) s h
  | .istore_n i => p1I st fun x s => jp (k + 1) (lset ls i.val (vI x)) s h
  | .lstore i => p1L st fun x s => jp (k + 1) (lset2 ls i (vL x)) s h
  | .lstore_n i => p1L st fun x s => jp (k + 1) (lset2 ls i.val (vL x)) s h
  | .fstore i => p1F st fun x s => jp (k + 1) (lset ls i (vF x)) s h
  | .fstore_n i => p1F st fun x s => jp (k + 1) (lset ls i.val (vF x)) s h
  | .astore i => p1Q st fun x s => jp (k + 1) (lset ls i (vR x)) s h
  | .astore_n i => p1Q st fun x s => jp (k + 1) (lset ls i.val (vR x)) s h
  | .iinc i n => ldI ls i fun x => jp (k + 1) (lset ls i (vI (w32 (x + n)))) st h
  | .iadd => p2I st fun x y s => jp (k + 1) ls (vI (w32 (x + y)) :: s) h
  | .isub => p2I st fun x y s => jp (k + 1) ls (vI (w32 (x - y)) :: s) h
  | .imul => p2I st fun x y s => jp (k + 1) ls (vI (w32 (x * y)) :: s) h
  | .iand => p2I st fun x y s => jp (k + 1) ls (vI (i2 (fun a b => a &&& b) x y) :: s) h
  | .ior => p2I st fun x y s => jp (k + 1) ls (vI (i2 (fun a b => a ||| b) x y) :: s) h
  | .ixor => p2I st fun x y s => jp (k + 1) ls (vI (i2 (fun a b => a ^^^ b) x y) :: s) h
  | .ishl => p2I st fun x y s => jp (k + 1) ls (vI (i2 (fun a b => a <<< (b &&& 31)) x y) :: s) h
  | .ishr => p2I st fun x y s => jp (k + 1) ls (vI (i2 (fun a b => a >>> (b &&& 31)) x y) :: s) h
  | .idiv => p2I st fun x y s => gd (y ≠ 0) (jp (k + 1) ls (vI (i2 (fun a b => a / b) x y) :: s) h)
  | .irem => p2I st fun x y s => gd (y ≠ 0) (jp (k + 1) ls (vI (i2 (fun a b => a - a / b * b) x y) :: s) h)
  | .ladd => p2L st fun x y s => jp (k + 1) ls (vL (w64 (x + y)) :: s) h
  | .lmul => p2L st fun x y s => jp (k + 1) ls (vL (w64 (x * y)) :: s) h
  | .land => p2L st fun x y s => jp (k + 1) ls (vL (l2 (fun a b => a &&& b) x y) :: s) h
  | .lor => p2L st fun x y s => jp (k + 1) ls (vL (l2 (fun a b => a ||| b) x y) :: s) h
  | .ldiv => p2L st fun x y s => gd (y ≠ 0) (jp (k + 1) ls (vL (l2 (fun a b => a / b) x y) :: s) h)
  | .lcmp => p2L st fun x y s => jp (k + 1) ls (vI (if y < x then 1 else if x = y then 0 else -1) :: s) h
  | .lshl => p2LI st fun x y s => jp (k + 1) ls (vL (l1 (fun a b => a <<< (b.toInt64 &&& 63)) x y) :: s) h
  | .lshr => p2LI st fun x y s => jp (k + 1) ls (vL (l1 (fun a b => a >>> (b.toInt64 &&& 63)) x y) :: s) h
  | .lushr => p2LI st fun x y s => jp (k + 1) ls (vL (l1 (fun a b => (a.toUInt64 >>> (b.toInt64.toUInt64 &&& Int64.toUInt64 63)).toInt64) x y) :: s) h
  | .i2l => p1I st fun x s => jp (k + 1) ls (vL x :: s) h
  | .l2i => p1L st fun x s => jp (k + 1) ls (vI (w32 x) :: s) h
  | .i2b => p1I st fun x s => jp (k + 1) ls (vI ((Int32.ofInt x).toInt8.toInt32.toInt) :: s) h
  | .i2f => p1I st fun x s => jp (k + 1) ls (vF (FP.i2f (Int32.ofInt x)) :: s) h
  | .f2i => p1F st fun x s => jp (k + 1) ls (vI (FP.f2i x).toInt :: s) h
  | .fneg => p1F st fun x s => jp (k + 1) ls (vF (FP.fneg x) :: s) h
  | .fadd => p2F st fun x y s => gd (FP.fadd x y &&& 0x7fffffff ≤ 0x7f800000) (jp (k + 1) ls (vF (FP.fadd x y) :: s) h)
  | .fsub => p2F st fun x y s => gd (FP.fsub x y &&& 0x7fffffff ≤ 0x7f800000) (jp (k + 1) ls (vF (FP.fsub x y) :: s) h)
  | .fmul => p2F st fun x y s => gd (FP.fmul x y &&& 0x7fffffff ≤ 0x7f800000) (jp (k + 1) ls (vF (FP.fmul x y) :: s) h)
  | .fcmp op => p2F st fun x y s => jp (k + 1) ls (vI (Op.cmpValue (FP.fcmp x y) op).toInt :: s) h
  | .dup => match st with | v :: s => gd (cat1 v = 1) (jp (k + 1) ls (v :: v :: s) h) | _ => none
  | .pop => match st with | v :: s => gd (cat1 v = 1) (jp (k + 1) ls s h) | _ => none
  | .dup2 => match st with | v :: w :: s => gd (cat1 v = 1 ∧ cat1 w = 1) (jp (k + 1) ls (v :: w :: v :: w :: s) h) | _ => none
  | .goto _ => jp r ls st h
  | .ifCond .eq _ => p1I st fun x s => br (x = 0) (jp r ls s h) (jp (k + 1) ls s h)
  | .if_icmp .eq _ => p2I st fun x y s => br (x = y) (jp r ls s h) (jp (k + 1) ls s h)
  | .ifCond .ne _ => p1I st fun x s => br (x ≠ 0) (jp r ls s h) (jp (k + 1) ls s h)
  | .if_icmp .ne _ => p2I st fun x y s => br (x ≠ y) (jp r ls s h) (jp (k + 1) ls s h)
  | .ifCond .lt _ => p1I st fun x s => br (x < 0) (jp r ls s h) (jp (k + 1) ls s h)
  | .if_icmp .lt _ => p2I st fun x y s => br (x < y) (jp r ls s h) (jp (k + 1) ls s h)
  | .ifCond .ge _ => p1I st fun x s => br (0 ≤ x) (jp r ls s h) (jp (k + 1) ls s h)
  | .if_icmp .ge _ => p2I st fun x y s => br (y ≤ x) (jp r ls s h) (jp (k + 1) ls s h)
  | .ifCond .gt _ => p1I st fun x s => br (0 < x) (jp r ls s h) (jp (k + 1) ls s h)
  | .if_icmp .gt _ => p2I st fun x y s => br (y < x) (jp r ls s h) (jp (k + 1) ls s h)
  | .ifCond .le _ => p1I st fun x s => br (x ≤ 0) (jp r ls s h) (jp (k + 1) ls s h)
  | .if_icmp .le _ => p2I st fun x y s => br (x ≤ y) (jp r ls s h) (jp (k + 1) ls s h)
  | .ifnull _ => p1Q st fun x s => br (x = none) (jp r ls s h) (jp (k + 1) ls s h)
  | .ifnonnull _ => p1Q st fun x s => br (x = none) (jp (k + 1) ls s h) (jp r ls s h)
  | .tableswitch _ lo hi _ => p1I st fun x s => br (x < lo ∨ hi < x) (jp (swAt r 0) ls s h) (jp (swAt r ((x - lo).toNat + 1)) ls s h)
  | .lookupswitch _ ps => p1I st fun x s => jp (swAt r (lkup ps.toList x 1)) ls s h
  | .getfield _ => p1R st fun o s => gd ((sh h o).1 = 10 + r / 512) (jp (k + 1) ls (rdF h o (r % 8) (r / 8 % 64) :: s) h)
  | .putfield _ => if r % 8 = 0 then p1I st fun v s => p1R s fun o s => gd ((sh h o).1 = 10 + r / 512) (jp (k + 1) ls s (si h o ((r / 8 % 64 : Nat) : Int) v))
      else if r % 8 = 1 then p1I st fun v s => p1R s fun o s => gd ((sh h o).1 = 10 + r / 512 ∧ (v = 0 ∨ v = 1)) (jp (k + 1) ls s (si h o ((r / 8 % 64 : Nat) : Int) v))
      else if r % 8 = 2 then p1L st fun v s => p1R s fun o s => gd ((sh h o).1 = 10 + r / 512) (jp (k + 1) ls s (sl h o ((r / 8 % 64 : Nat) : Int) v))
      else if r % 8 = 3 then p1F st fun v s => p1R s fun o s => gd ((sh h o).1 = 10 + r / 512) (jp (k + 1) ls s (sf h o ((r / 8 % 64 : Nat) : Int) v))
      else p1Q st fun v s => p1R s fun o s => gd ((sh h o).1 = 10 + r / 512) (jp (k + 1) ls s (sr h o ((r / 8 % 64 : Nat) : Int) v))
  | .iaload => pAI st fun a i s => gd (((sh h a).1 = 0 ∨ (sh h a).1 = 9) ∧ 0 ≤ i ∧ i < (sh h a).2) (jp (k + 1) ls (vI (gi h a i) :: s) h)
  | .baload => pAI st fun a i s => gd ((sh h a).1 = 1 ∧ 0 ≤ i ∧ i < (sh h a).2) (jp (k + 1) ls (vI (gi h a i) :: s) h)
  | .laload => pAI st fun a i s => gd ((sh h a).1 = 2 ∧ 0 ≤ i ∧ i < (sh h a).2) (jp (k + 1) ls (vL (gl h a i) :: s) h)
  | .aaload => pAI st fun a i s => gd (((sh h a).1 = 3 ∨ (sh h a).1 = 4) ∧ 0 ≤ i ∧ i < (sh h a).2) (jp (k + 1) ls (vR (gr h a i) :: s) h)
  | .iastore => p1I st fun v s => pAI s fun a i s => gd ((sh h a).1 = 0 ∧ 0 ≤ i ∧ i < (sh h a).2) (jp (k + 1) ls s (si h a i v))
  | .bastore => p1I st fun v s => pAI s fun a i s => gd ((sh h a).1 = 1 ∧ 0 ≤ i ∧ i < (sh h a).2) (jp (k + 1) ls s (si h a i (Int32.ofInt v).toInt8.toInt32.toInt))
  | .lastore => p1L st fun v s => pAI s fun a i s => gd ((sh h a).1 = 2 ∧ 0 ≤ i ∧ i < (sh h a).2) (jp (k + 1) ls s (sl h a i v))
  | .aastore => p1R st fun v s => pAI s fun a i s => gd (((sh h a).1 = 3 ∧ (sh h v).1 = 12 ∨ (sh h a).1 = 4 ∧ (sh h v).1 = 13) ∧ 0 ≤ i ∧ i < (sh h a).2) (jp (k + 1) ls s (sr h a i (some v)))
  | .arraylength => p1R st fun a s => gd ((sh h a).1 < 10) (jp (k + 1) ls (vI (sh h a).2 :: s) h)
  | .newarray .int => p1I st fun n s => gd (0 ≤ n ∧ n ≤ 1000000) (jp (k + 1) ls (vR (some (nn h)) :: s) (al h 0 n))
  | .newarray .byte => p1I st fun n s => gd (0 ≤ n ∧ n ≤ 1000000) (jp (k + 1) ls (vR (some (nn h)) :: s) (al h 1 n))
  | .newarray .long => p1I st fun n s => gd (0 ≤ n ∧ n ≤ 1000000) (jp (k + 1) ls (vR (some (nn h)) :: s) (al h 2 n))
  | .anewarray _ => p1I st fun n s => gd (0 ≤ n ∧ n ≤ 1000000) (jp (k + 1) ls (vR (some (nn h)) :: s) (al h r n))
  | .new _ => jp (k + 1) ls (vR (some (nn h)) :: st) (al h (10 + r) ((nth nfl r).getD 0))
  | .checkcast _ => p1R st fun a s => gd ((sh h a).1 = 0) (jp (k + 1) ls (vR (some a) :: s) h)
  | .ireturn => p1I st fun x s => gd ((r = 1 → x = 0 ∨ x = 1) ∧ s.isEmpty = true) (some (.inr (.inr (some (vI x)))))
  | .lreturn => p1L st fun x s => gd (s.isEmpty = true) (some (.inr (.inr (some (vL x)))))
  | .freturn => p1F st fun x s => gd (s.isEmpty = true) (some (.inr (.inr (some (vF x)))))
  | .areturn => p1Q st fun x s => gd (s.isEmpty = true) (some (.inr (.inr (some (vR x)))))
  | .return_ => gd (st.isEmpty = true) (some (.inr (.inr none)))
  | .invokespecial _ => if r = 1000 then p1R st fun _ s => gd (cats s ≤ 8) (jp (k + 1) ls s h) else cal r st h
  | .invokevirtual _ => if r = 1007 then p1R st fun a s => gd (cats s ≤ 8 ∧ (sh h a).1 = 0) (jp (k + 1) ls (vR (some (nn h)) :: s) (alf h (sh h a).2 (gi h a))) else cal r st h
  | .invokestatic _ => if r = 1001 then p2I st fun x y s => gd (cats s ≤ 8) (jp (k + 1) ls (vI (if x < y then y else x) :: s) h)
      else if r = 1002 then p2I st fun x y s => gd (cats s ≤ 8) (jp (k + 1) ls (vI (if y < x then y else x) :: s) h)
      else if r = 1003 then p1I st fun x s => gd (cats s ≤ 8) (jp (k + 1) ls (vI (if 0 ≤ x then x else w32 (0 - x)) :: s) h)
      else if r = 1006 then p1I st fun x s => gd (cats s ≤ 8 ∧ vn_sni2f (Int32.ofInt x) = false) (jp (k + 1) ls (vF (Int32.ofInt x).toUInt32 :: s) h)
      else if r = 1008 then p1I st fun n s => pAI s fun d j s => pAI s fun a i s =>
        gd (cats s ≤ 8 ∧ (sh h a).1 = 0 ∧ (sh h d).1 = 0 ∧ a ≠ d ∧ 0 ≤ i ∧ 0 ≤ j ∧ 0 ≤ n ∧ i + n ≤ (sh h a).2 ∧ j + n ≤ (sh h d).2) (jp (k + 1) ls s (wI h d (fun q => if j ≤ q ∧ q < j + n then gi h a (i + (q - j)) else gi h d q)))
      else cal r st h
  | _ => none
