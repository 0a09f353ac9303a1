/-! rules: one an instruction -/
theorem ok_iconst {i k pc r : Nat} {z : Int} {ls : aLs} {st : aSt} {h : AH} {Q : Option AV → AH → Prop} {n : Int} (hc : nth (cd i) k = some (pc, .iconst n, r, z)) (o : Ok i (k + 1) ls (vI n :: st) h Q) : Ok i k ls (st) h Q := by
  exact Ok.go hc rfl o
theorem ok_bipush {i k pc r : Nat} {z : Int} {ls : aLs} {st : aSt} {h : AH} {Q : Option AV → AH → Prop} {n : Int} (hc : nth (cd i) k = some (pc, .bipush n, r, z)) (o : Ok i (k + 1) ls (vI n :: st) h Q) : Ok i k ls (st) h Q := by
  exact Ok.go hc rfl o
theorem ok_sipush {i k pc r : Nat} {z : Int} {ls : aLs} {st : aSt} {h : AH} {Q : Option AV → AH → Prop} {n : Int} (hc : nth (cd i) k = some (pc, .sipush n, r, z)) (o : Ok i (k + 1) ls (vI n :: st) h Q) : Ok i k ls (st) h Q := by
  exact Ok.go hc rfl o
theorem ok_lconst {i k pc r : Nat} {z : Int} {ls : aLs} {st : aSt} {h : AH} {Q : Option AV → AH → Prop} {n : Fin 2} (hc : nth (cd i) k = some (pc, .lconst n, r, z)) (o : Ok i (k + 1) ls (vL (n.val : Int) :: st) h Q) : Ok i k ls (st) h Q := by
  exact Ok.go hc rfl o
theorem ok_fconst {i k pc r : Nat} {z : Int} {ls : aLs} {st : aSt} {h : AH} {Q : Option AV → AH → Prop} {n : Fin 3} (hc : nth (cd i) k = some (pc, .fconst n, r, z)) (o : Ok i (k + 1) ls (vF (if n.val = 0 then FP.fconst0 else if n.val = 1 then FP.fconst1 else FP.fconst2) :: st) h Q) : Ok i k ls (st) h Q := by
  exact Ok.go hc rfl o
theorem ok_null {i k pc r : Nat} {z : Int} {ls : aLs} {st : aSt} {h : AH} {Q : Option AV → AH → Prop} (hc : nth (cd i) k = some (pc, .aconst_null, r, z)) (o : Ok i (k + 1) ls (vR none :: st) h Q) : Ok i k ls (st) h Q := by
  exact Ok.go hc rfl o
theorem ok_ldcI {i k pc : Nat} {z : Int} {ls : aLs} {st : aSt} {h : AH} {Q : Option AV → AH → Prop} {x : Nat} (hc : nth (cd i) k = some (pc, .ldc x, 0, z)) (o : Ok i (k + 1) ls (vI z :: st) h Q) : Ok i k ls (st) h Q := by
  exact Ok.go hc rfl o
theorem ok_ldcF {i k pc : Nat} {z : Int} {ls : aLs} {st : aSt} {h : AH} {Q : Option AV → AH → Prop} {x : Nat} (hc : nth (cd i) k = some (pc, .ldc x, 2, z)) (o : Ok i (k + 1) ls (vF (UInt32.ofNat z.toNat) :: st) h Q) : Ok i k ls (st) h Q := by
  exact Ok.go hc rfl o
theorem ok_ldc_wI {i k pc : Nat} {z : Int} {ls : aLs} {st : aSt} {h : AH} {Q : Option AV → AH → Prop} {x : Nat} (hc : nth (cd i) k = some (pc, .ldc_w x, 0, z)) (o : Ok i (k + 1) ls (vI z :: st) h Q) : Ok i k ls (st) h Q := by
  exact Ok.go hc rfl o
theorem ok_ldc_wF {i k pc : Nat} {z : Int} {ls : aLs} {st : aSt} {h : AH} {Q : Option AV → AH → Prop} {x : Nat} (hc : nth (cd i) k = some (pc, .ldc_w x, 2, z)) (o : Ok i (k + 1) ls (vF (UInt32.ofNat z.toNat) :: st) h Q) : Ok i k ls (st) h Q := by
  exact Ok.go hc rfl o
theorem ok_ldc2 {i k pc r : Nat} {z : Int} {ls : aLs} {st : aSt} {h : AH} {Q : Option AV → AH → Prop} {x : Nat} (hc : nth (cd i) k = some (pc, .ldc2_w x, r, z)) (o : Ok i (k + 1) ls (vL z :: st) h Q) : Ok i k ls (st) h Q := by
  exact Ok.go hc rfl o
theorem ok_iload {i k pc r : Nat} {z : Int} {ls : aLs} {st : aSt} {h : AH} {Q : Option AV → AH → Prop} {j : Nat} {x : Int} (hc : nth (cd i) k = some (pc, .iload j, r, z)) (hl : ld ls j = some (vI x)) (o : Ok i (k + 1) ls (vI x :: st) h Q) : Ok i k ls (st) h Q := by
  exact Ok.go hc (by dsimp only [axf]; unfold ldI; rw [hl]; rfl) o
theorem ok_iload_n {i k pc r : Nat} {z : Int} {ls : aLs} {st : aSt} {h : AH} {Q : Option AV → AH → Prop} {j : Fin 4} {x : Int} (hc : nth (cd i) k = some (pc, .iload_n j, r, z)) (hl : ld ls j.val = some (vI x)) (o : Ok i (k + 1) ls (vI x :: st) h Q) : Ok i k ls (st) h Q := by
  exact Ok.go hc (by dsimp only [axf]; unfold ldI; rw [hl]; rfl) o
theorem ok_istore {i k pc r : Nat} {z : Int} {ls : aLs} {st : aSt} {h : AH} {Q : Option AV → AH → Prop} {j : Nat} {x : Int} {ls2 : aLs} (hc : nth (cd i) k = some (pc, .istore j, r, z)) (hl : lset ls j (vI x) = ls2) (o : Ok i (k + 1) ls2 (st) h Q) : Ok i k ls (vI x :: st) h Q := by
  subst hl; exact Ok.go hc rfl o
theorem ok_istore_n {i k pc r : Nat} {z : Int} {ls : aLs} {st : aSt} {h : AH} {Q : Option AV → AH → Prop} {j : Fin 4} {x : Int} {ls2 : aLs} (hc : nth (cd i) k = some (pc, .istore_n j, r, z)) (hl : lset ls j.val (vI x) = ls2) (o : Ok i (k + 1) ls2 (st) h Q) : Ok i k ls (vI x :: st) h Q := by
  subst hl; exact Ok.go hc rfl o
theorem ok_lload {i k pc r : Nat} {z : Int} {ls : aLs} {st : aSt} {h : AH} {Q : Option AV → AH → Prop} {j : Nat} {x : Int} (hc : nth (cd i) k = some (pc, .lload j, r, z)) (hl : ld ls j = some (vL x)) (o : Ok i (k + 1) ls (vL x :: st) h Q) : Ok i k ls (st) h Q := by
  exact Ok.go hc (by dsimp only [axf]; unfold ldL; rw [hl]; rfl) o
theorem ok_lload_n {i k pc r : Nat} {z : Int} {ls : aLs} {st : aSt} {h : AH} {Q : Option AV → AH → Prop} {j : Fin 4} {x : Int} (hc : nth (cd i) k = some (pc, .lload_n j, r, z)) (hl : ld ls j.val = some (vL x)) (o : Ok i (k + 1) ls (vL x :: st) h Q) : Ok i k ls (st) h Q := by
  exact Ok.go hc (by dsimp only [axf]; unfold ldL; rw [hl]; rfl) o
theorem ok_lstore {i k pc r : Nat} {z : Int} {ls : aLs} {st : aSt} {h : AH} {Q : Option AV → AH → Prop} {j : Nat} {x : Int} {ls2 : aLs} (hc : nth (cd i) k = some (pc, .lstore j, r, z)) (hl : lset2 ls j (vL x) = ls2) (o : Ok i (k + 1) ls2 (st) h Q) : Ok i k ls (vL x :: st) h Q := by
  subst hl; exact Ok.go hc rfl o
theorem ok_lstore_n {i k pc r : Nat} {z : Int} {ls : aLs} {st : aSt} {h : AH} {Q : Option AV → AH → Prop} {j : Fin 4} {x : Int} {ls2 : aLs} (hc : nth (cd i) k = some (pc, .lstore_n j, r, z)) (hl : lset2 ls j.val (vL x) = ls2) (o : Ok i (k + 1) ls2 (st) h Q) : Ok i k ls (vL x :: st) h Q := by
  subst hl; exact Ok.go hc rfl o
theorem ok_fload {i k pc r : Nat} {z : Int} {ls : aLs} {st : aSt} {h : AH} {Q : Option AV → AH → Prop} {j : Nat} {x : UInt32} (hc : nth (cd i) k = some (pc, .fload j, r, z)) (hl : ld ls j = some (vF x)) (o : Ok i (k + 1) ls (vF x :: st) h Q) : Ok i k ls (st) h Q := by
  exact Ok.go hc (by dsimp only [axf]; unfold ldF; rw [hl]; rfl) o
theorem ok_fload_n {i k pc r : Nat} {z : Int} {ls : aLs} {st : aSt} {h : AH} {Q : Option AV → AH → Prop} {j : Fin 4} {x : UInt32} (hc : nth (cd i) k = some (pc, .fload_n j, r, z)) (hl : ld ls j.val = some (vF x)) (o : Ok i (k + 1) ls (vF x :: st) h Q) : Ok i k ls (st) h Q := by
  exact Ok.go hc (by dsimp only [axf]; unfold ldF; rw [hl]; rfl) o
theorem ok_fstore {i k pc r : Nat} {z : Int} {ls : aLs} {st : aSt} {h : AH} {Q : Option AV → AH → Prop} {j : Nat} {x : UInt32} {ls2 : aLs} (hc : nth (cd i) k = some (pc, .fstore j, r, z)) (hl : lset ls j (vF x) = ls2) (o : Ok i (k + 1) ls2 (st) h Q) : Ok i k ls (vF x :: st) h Q := by
  subst hl; exact Ok.go hc rfl o
theorem ok_fstore_n {i k pc r : Nat} {z : Int} {ls : aLs} {st : aSt} {h : AH} {Q : Option AV → AH → Prop} {j : Fin 4} {x : UInt32} {ls2 : aLs} (hc : nth (cd i) k = some (pc, .fstore_n j, r, z)) (hl : lset ls j.val (vF x) = ls2) (o : Ok i (k + 1) ls2 (st) h Q) : Ok i k ls (vF x :: st) h Q := by
  subst hl; exact Ok.go hc rfl o
theorem ok_aload {i k pc r : Nat} {z : Int} {ls : aLs} {st : aSt} {h : AH} {Q : Option AV → AH → Prop} {j : Nat} {x : Option Nat} (hc : nth (cd i) k = some (pc, .aload j, r, z)) (hl : ld ls j = some (vR x)) (o : Ok i (k + 1) ls (vR x :: st) h Q) : Ok i k ls (st) h Q := by
  exact Ok.go hc (by dsimp only [axf]; unfold ldR; rw [hl]; rfl) o
theorem ok_aload_n {i k pc r : Nat} {z : Int} {ls : aLs} {st : aSt} {h : AH} {Q : Option AV → AH → Prop} {j : Fin 4} {x : Option Nat} (hc : nth (cd i) k = some (pc, .aload_n j, r, z)) (hl : ld ls j.val = some (vR x)) (o : Ok i (k + 1) ls (vR x :: st) h Q) : Ok i k ls (st) h Q := by
  exact Ok.go hc (by dsimp only [axf]; unfold ldR; rw [hl]; rfl) o
theorem ok_astore {i k pc r : Nat} {z : Int} {ls : aLs} {st : aSt} {h : AH} {Q : Option AV → AH → Prop} {j : Nat} {x : Option Nat} {ls2 : aLs} (hc : nth (cd i) k = some (pc, .astore j, r, z)) (hl : lset ls j (vR x) = ls2) (o : Ok i (k + 1) ls2 (st) h Q) : Ok i k ls (vR x :: st) h Q := by
  subst hl; exact Ok.go hc rfl o
theorem ok_astore_n {i k pc r : Nat} {z : Int} {ls : aLs} {st : aSt} {h : AH} {Q : Option AV → AH → Prop} {j : Fin 4} {x : Option Nat} {ls2 : aLs} (hc : nth (cd i) k = some (pc, .astore_n j, r, z)) (hl : lset ls j.val (vR x) = ls2) (o : Ok i (k + 1) ls2 (st) h Q) : Ok i k ls (vR x :: st) h Q := by
  subst hl; exact Ok.go hc rfl o
theorem ok_iinc {i k pc r : Nat} {z : Int} {ls : aLs} {st : aSt} {h : AH} {Q : Option AV → AH → Prop} {j : Nat} {n x : Int} {ls2 : aLs} (hc : nth (cd i) k = some (pc, .iinc j n, r, z)) (hl : ld ls j = some (vI x)) (hr : R32 (x + n)) (he : lset ls j (vI (x + n)) = ls2) (o : Ok i (k + 1) ls2 (st) h Q) : Ok i k ls (st) h Q := by
  subst he; exact Ok.go hc (by dsimp only [axf]; unfold ldI; rw [hl]; dsimp only; rw [w32_of hr]; rfl) o
theorem ok_iadd {i k pc r : Nat} {z : Int} {ls : aLs} {st : aSt} {h : AH} {Q : Option AV → AH → Prop} {x y : Int} (hc : nth (cd i) k = some (pc, .iadd, r, z)) (hr : R32 (x + y)) (o : Ok i (k + 1) ls (vI (x + y) :: st) h Q) : Ok i k ls (vI y :: vI x :: st) h Q := by
  exact Ok.go hc (by show jp (k + 1) ls (vI (w32 (x + y)) :: st) h = _; rw [w32_of hr]; rfl) o
theorem ok_iaddW {i k pc r : Nat} {z : Int} {ls : aLs} {st : aSt} {h : AH} {Q : Option AV → AH → Prop} {x y : Int} (hc : nth (cd i) k = some (pc, .iadd, r, z)) (o : Ok i (k + 1) ls (vI (w32 (x + y)) :: st) h Q) : Ok i k ls (vI y :: vI x :: st) h Q := by
  exact Ok.go hc rfl o
theorem ok_isub {i k pc r : Nat} {z : Int} {ls : aLs} {st : aSt} {h : AH} {Q : Option AV → AH → Prop} {x y : Int} (hc : nth (cd i) k = some (pc, .isub, r, z)) (hr : R32 (x - y)) (o : Ok i (k + 1) ls (vI (x - y) :: st) h Q) : Ok i k ls (vI y :: vI x :: st) h Q := by
  exact Ok.go hc (by show jp (k + 1) ls (vI (w32 (x - y)) :: st) h = _; rw [w32_of hr]; rfl) o
theorem ok_isubW {i k pc r : Nat} {z : Int} {ls : aLs} {st : aSt} {h : AH} {Q : Option AV → AH → Prop} {x y : Int} (hc : nth (cd i) k = some (pc, .isub, r, z)) (o : Ok i (k + 1) ls (vI (w32 (x - y)) :: st) h Q) : Ok i k ls (vI y :: vI x :: st) h Q := by
  exact Ok.go hc rfl o
theorem ok_imul {i k pc r : Nat} {z : Int} {ls : aLs} {st : aSt} {h : AH} {Q : Option AV → AH → Prop} {x y : Int} (hc : nth (cd i) k = some (pc, .imul, r, z)) (hr : R32 (x * y)) (o : Ok i (k + 1) ls (vI (x * y) :: st) h Q) : Ok i k ls (vI y :: vI x :: st) h Q := by
  exact Ok.go hc (by show jp (k + 1) ls (vI (w32 (x * y)) :: st) h = _; rw [w32_of hr]; rfl) o
theorem ok_imulW {i k pc r : Nat} {z : Int} {ls : aLs} {st : aSt} {h : AH} {Q : Option AV → AH → Prop} {x y : Int} (hc : nth (cd i) k = some (pc, .imul, r, z)) (o : Ok i (k + 1) ls (vI (w32 (x * y)) :: st) h Q) : Ok i k ls (vI y :: vI x :: st) h Q := by
  exact Ok.go hc rfl o
theorem ok_ladd {i k pc r : Nat} {z : Int} {ls : aLs} {st : aSt} {h : AH} {Q : Option AV → AH → Prop} {x y : Int} (hc : nth (cd i) k = some (pc, .ladd, r, z)) (hr : R64 (x + y)) (o : Ok i (k + 1) ls (vL (x + y) :: st) h Q) : Ok i k ls (vL y :: vL x :: st) h Q := by
  exact Ok.go hc (by show jp (k + 1) ls (vL (w64 (x + y)) :: st) h = _; rw [w64_of hr]; rfl) o
theorem ok_laddW {i k pc r : Nat} {z : Int} {ls : aLs} {st : aSt} {h : AH} {Q : Option AV → AH → Prop} {x y : Int} (hc : nth (cd i) k = some (pc, .ladd, r, z)) (o : Ok i (k + 1) ls (vL (w64 (x + y)) :: st) h Q) : Ok i k ls (vL y :: vL x :: st) h Q := by
  exact Ok.go hc rfl o
theorem ok_lmul {i k pc r : Nat} {z : Int} {ls : aLs} {st : aSt} {h : AH} {Q : Option AV → AH → Prop} {x y : Int} (hc : nth (cd i) k = some (pc, .lmul, r, z)) (hr : R64 (x * y)) (o : Ok i (k + 1) ls (vL (x * y) :: st) h Q) : Ok i k ls (vL y :: vL x :: st) h Q := by
  exact Ok.go hc (by show jp (k + 1) ls (vL (w64 (x * y)) :: st) h = _; rw [w64_of hr]; rfl) o
theorem ok_lmulW {i k pc r : Nat} {z : Int} {ls : aLs} {st : aSt} {h : AH} {Q : Option AV → AH → Prop} {x y : Int} (hc : nth (cd i) k = some (pc, .lmul, r, z)) (o : Ok i (k + 1) ls (vL (w64 (x * y)) :: st) h Q) : Ok i k ls (vL y :: vL x :: st) h Q := by
  exact Ok.go hc rfl o
theorem ok_iand {i k pc r : Nat} {z : Int} {ls : aLs} {st : aSt} {h : AH} {Q : Option AV → AH → Prop} {x y : Int} (hc : nth (cd i) k = some (pc, .iand, r, z)) (o : Ok i (k + 1) ls (vI (i2 (fun a b => a &&& b) x y) :: st) h Q) : Ok i k ls (vI y :: vI x :: st) h Q := by
  exact Ok.go hc rfl o
theorem ok_ior {i k pc r : Nat} {z : Int} {ls : aLs} {st : aSt} {h : AH} {Q : Option AV → AH → Prop} {x y : Int} (hc : nth (cd i) k = some (pc, .ior, r, z)) (o : Ok i (k + 1) ls (vI (i2 (fun a b => a ||| b) x y) :: st) h Q) : Ok i k ls (vI y :: vI x :: st) h Q := by
  exact Ok.go hc rfl o
theorem ok_ixor {i k pc r : Nat} {z : Int} {ls : aLs} {st : aSt} {h : AH} {Q : Option AV → AH → Prop} {x y : Int} (hc : nth (cd i) k = some (pc, .ixor, r, z)) (o : Ok i (k + 1) ls (vI (i2 (fun a b => a ^^^ b) x y) :: st) h Q) : Ok i k ls (vI y :: vI x :: st) h Q := by
  exact Ok.go hc rfl o
theorem ok_ishl {i k pc r : Nat} {z : Int} {ls : aLs} {st : aSt} {h : AH} {Q : Option AV → AH → Prop} {x y : Int} (hc : nth (cd i) k = some (pc, .ishl, r, z)) (o : Ok i (k + 1) ls (vI (i2 (fun a b => a <<< (b &&& 31)) x y) :: st) h Q) : Ok i k ls (vI y :: vI x :: st) h Q := by
  exact Ok.go hc rfl o
theorem ok_ishr {i k pc r : Nat} {z : Int} {ls : aLs} {st : aSt} {h : AH} {Q : Option AV → AH → Prop} {x y : Int} (hc : nth (cd i) k = some (pc, .ishr, r, z)) (o : Ok i (k + 1) ls (vI (i2 (fun a b => a >>> (b &&& 31)) x y) :: st) h Q) : Ok i k ls (vI y :: vI x :: st) h Q := by
  exact Ok.go hc rfl o
theorem ok_idiv {i k pc r : Nat} {z : Int} {ls : aLs} {st : aSt} {h : AH} {Q : Option AV → AH → Prop} {x y : Int} (hc : nth (cd i) k = some (pc, .idiv, r, z)) (hy : y ≠ 0) (o : Ok i (k + 1) ls (vI (i2 (fun a b => a / b) x y) :: st) h Q) : Ok i k ls (vI y :: vI x :: st) h Q := by
  exact Ok.go hc (by show gd (y ≠ 0) (jp (k + 1) ls (vI (i2 (fun a b => a / b) x y) :: st) h) = _; unfold gd; rw [if_pos hy]; rfl) o
theorem ok_irem {i k pc r : Nat} {z : Int} {ls : aLs} {st : aSt} {h : AH} {Q : Option AV → AH → Prop} {x y : Int} (hc : nth (cd i) k = some (pc, .irem, r, z)) (hy : y ≠ 0) (o : Ok i (k + 1) ls (vI (i2 (fun a b => a - a / b * b) x y) :: st) h Q) : Ok i k ls (vI y :: vI x :: st) h Q := by
  exact Ok.go hc (by show gd (y ≠ 0) (jp (k + 1) ls (vI (i2 (fun a b => a - a / b * b) x y) :: st) h) = _; unfold gd; rw [if_pos hy]; rfl) o
theorem ok_land {i k pc r : Nat} {z : Int} {ls : aLs} {st : aSt} {h : AH} {Q : Option AV → AH → Prop} {x y : Int} (hc : nth (cd i) k = some (pc, .land, r, z)) (o : Ok i (k + 1) ls (vL (l2 (fun a b => a &&& b) x y) :: st) h Q) : Ok i k ls (vL y :: vL x :: st) h Q := by
  exact Ok.go hc rfl o
theorem ok_lor {i k pc r : Nat} {z : Int} {ls : aLs} {st : aSt} {h : AH} {Q : Option AV → AH → Prop} {x y : Int} (hc : nth (cd i) k = some (pc, .lor, r, z)) (o : Ok i (k + 1) ls (vL (l2 (fun a b => a ||| b) x y) :: st) h Q) : Ok i k ls (vL y :: vL x :: st) h Q := by
  exact Ok.go hc rfl o
theorem ok_ldiv {i k pc r : Nat} {z : Int} {ls : aLs} {st : aSt} {h : AH} {Q : Option AV → AH → Prop} {x y : Int} (hc : nth (cd i) k = some (pc, .ldiv, r, z)) (hy : y ≠ 0) (o : Ok i (k + 1) ls (vL (l2 (fun a b => a / b) x y) :: st) h Q) : Ok i k ls (vL y :: vL x :: st) h Q := by
  exact Ok.go hc (by show gd (y ≠ 0) (jp (k + 1) ls (vL (l2 (fun a b => a / b) x y) :: st) h) = _; unfold gd; rw [if_pos hy]; rfl) o
theorem ok_lcmp {i k pc r : Nat} {z : Int} {ls : aLs} {st : aSt} {h : AH} {Q : Option AV → AH → Prop} {x y : Int} (hc : nth (cd i) k = some (pc, .lcmp, r, z)) (o : Ok i (k + 1) ls (vI (if y < x then 1 else if x = y then 0 else -1) :: st) h Q) : Ok i k ls (vL y :: vL x :: st) h Q := by
  exact Ok.go hc rfl o
theorem ok_lshl {i k pc r : Nat} {z : Int} {ls : aLs} {st : aSt} {h : AH} {Q : Option AV → AH → Prop} {x y : Int} (hc : nth (cd i) k = some (pc, .lshl, r, z)) (o : Ok i (k + 1) ls (vL (l1 (fun a b => a <<< (b.toInt64 &&& 63)) x y) :: st) h Q) : Ok i k ls (vI y :: vL x :: st) h Q := by
  exact Ok.go hc rfl o
theorem ok_lshr {i k pc r : Nat} {z : Int} {ls : aLs} {st : aSt} {h : AH} {Q : Option AV → AH → Prop} {x y : Int} (hc : nth (cd i) k = some (pc, .lshr, r, z)) (o : Ok i (k + 1) ls (vL (l1 (fun a b => a >>> (b.toInt64 &&& 63)) x y) :: st) h Q) : Ok i k ls (vI y :: vL x :: st) h Q := by
  exact Ok.go hc rfl o
theorem ok_lushr {i k pc r : Nat} {z : Int} {ls : aLs} {st : aSt} {h : AH} {Q : Option AV → AH → Prop} {x y : Int} (hc : nth (cd i) k = some (pc, .lushr, r, z)) (o : Ok i (k + 1) ls (vL (l1 (fun a b => (a.toUInt64 >>> (b.toInt64.toUInt64 &&& Int64.toUInt64 63)).toInt64) x y) :: st) h Q) : Ok i k ls (vI y :: vL x :: st) h Q := by
  exact Ok.go hc rfl o
theorem ok_i2l {i k pc r : Nat} {z : Int} {ls : aLs} {st : aSt} {h : AH} {Q : Option AV → AH → Prop} {x : Int} (hc : nth (cd i) k = some (pc, .i2l, r, z)) (o : Ok i (k + 1) ls (vL x :: st) h Q) : Ok i k ls (vI x :: st) h Q := by
  exact Ok.go hc rfl o
theorem ok_l2i {i k pc r : Nat} {z : Int} {ls : aLs} {st : aSt} {h : AH} {Q : Option AV → AH → Prop} {x : Int} (hc : nth (cd i) k = some (pc, .l2i, r, z)) (o : Ok i (k + 1) ls (vI (w32 x) :: st) h Q) : Ok i k ls (vL x :: st) h Q := by
  exact Ok.go hc rfl o
theorem ok_i2b {i k pc r : Nat} {z : Int} {ls : aLs} {st : aSt} {h : AH} {Q : Option AV → AH → Prop} {x : Int} (hc : nth (cd i) k = some (pc, .i2b, r, z)) (o : Ok i (k + 1) ls (vI ((Int32.ofInt x).toInt8.toInt32.toInt) :: st) h Q) : Ok i k ls (vI x :: st) h Q := by
  exact Ok.go hc rfl o
theorem ok_i2f {i k pc r : Nat} {z : Int} {ls : aLs} {st : aSt} {h : AH} {Q : Option AV → AH → Prop} {x : Int} (hc : nth (cd i) k = some (pc, .i2f, r, z)) (o : Ok i (k + 1) ls (vF (FP.i2f (Int32.ofInt x)) :: st) h Q) : Ok i k ls (vI x :: st) h Q := by
  exact Ok.go hc rfl o
theorem ok_f2i {i k pc r : Nat} {z : Int} {ls : aLs} {st : aSt} {h : AH} {Q : Option AV → AH → Prop} {x : UInt32} (hc : nth (cd i) k = some (pc, .f2i, r, z)) (o : Ok i (k + 1) ls (vI (FP.f2i x).toInt :: st) h Q) : Ok i k ls (vF x :: st) h Q := by
  exact Ok.go hc rfl o
theorem ok_fneg {i k pc r : Nat} {z : Int} {ls : aLs} {st : aSt} {h : AH} {Q : Option AV → AH → Prop} {x : UInt32} (hc : nth (cd i) k = some (pc, .fneg, r, z)) (o : Ok i (k + 1) ls (vF (FP.fneg x) :: st) h Q) : Ok i k ls (vF x :: st) h Q := by
  exact Ok.go hc rfl o
theorem ok_fadd {i k pc r : Nat} {z : Int} {ls : aLs} {st : aSt} {h : AH} {Q : Option AV → AH → Prop} {x y : UInt32} (hc : nth (cd i) k = some (pc, .fadd, r, z)) (hn : FP.fadd x y &&& 0x7fffffff ≤ 0x7f800000) (o : Ok i (k + 1) ls (vF (FP.fadd x y) :: st) h Q) : Ok i k ls (vF y :: vF x :: st) h Q := by
  exact Ok.go hc (by show gd _ (jp (k + 1) ls (vF (FP.fadd x y) :: st) h) = _; unfold gd; rw [if_pos hn]; rfl) o
theorem ok_fsub {i k pc r : Nat} {z : Int} {ls : aLs} {st : aSt} {h : AH} {Q : Option AV → AH → Prop} {x y : UInt32} (hc : nth (cd i) k = some (pc, .fsub, r, z)) (hn : FP.fsub x y &&& 0x7fffffff ≤ 0x7f800000) (o : Ok i (k + 1) ls (vF (FP.fsub x y) :: st) h Q) : Ok i k ls (vF y :: vF x :: st) h Q := by
  exact Ok.go hc (by show gd _ (jp (k + 1) ls (vF (FP.fsub x y) :: st) h) = _; unfold gd; rw [if_pos hn]; rfl) o
theorem ok_fmul {i k pc r : Nat} {z : Int} {ls : aLs} {st : aSt} {h : AH} {Q : Option AV → AH → Prop} {x y : UInt32} (hc : nth (cd i) k = some (pc, .fmul, r, z)) (hn : FP.fmul x y &&& 0x7fffffff ≤ 0x7f800000) (o : Ok i (k + 1) ls (vF (FP.fmul x y) :: st) h Q) : Ok i k ls (vF y :: vF x :: st) h Q := by
  exact Ok.go hc (by show gd _ (jp (k + 1) ls (vF (FP.fmul x y) :: st) h) = _; unfold gd; rw [if_pos hn]; rfl) o
theorem ok_fcmp {i k pc r : Nat} {z : Int} {ls : aLs} {st : aSt} {h : AH} {Q : Option AV → AH → Prop} {x y : UInt32} {op : CmpOp} (hc : nth (cd i) k = some (pc, .fcmp op, r, z)) (o : Ok i (k + 1) ls (vI (Op.cmpValue (FP.fcmp x y) op).toInt :: st) h Q) : Ok i k ls (vF y :: vF x :: st) h Q := by
  exact Ok.go hc rfl o
theorem ok_dup {i k pc r : Nat} {z : Int} {ls : aLs} {st : aSt} {h : AH} {Q : Option AV → AH → Prop} {v : AV} (hc : nth (cd i) k = some (pc, .dup, r, z)) (hv : cat1 v = 1) (o : Ok i (k + 1) ls (v :: v :: st) h Q) : Ok i k ls (v :: st) h Q := by
  exact Ok.go hc (by show gd _ (jp (k + 1) ls (v :: v :: st) h) = _; unfold gd; rw [if_pos hv]; rfl) o
theorem ok_pop {i k pc r : Nat} {z : Int} {ls : aLs} {st : aSt} {h : AH} {Q : Option AV → AH → Prop} {v : AV} (hc : nth (cd i) k = some (pc, .pop, r, z)) (hv : cat1 v = 1) (o : Ok i (k + 1) ls (st) h Q) : Ok i k ls (v :: st) h Q := by
  exact Ok.go hc (by show gd _ (jp (k + 1) ls st h) = _; unfold gd; rw [if_pos hv]; rfl) o
theorem ok_dup2 {i k pc r : Nat} {z : Int} {ls : aLs} {st : aSt} {h : AH} {Q : Option AV → AH → Prop} {v w : AV} (hc : nth (cd i) k = some (pc, .dup2, r, z)) (hv : cat1 v = 1 ∧ cat1 w = 1) (o : Ok i (k + 1) ls (v :: w :: v :: w :: st) h Q) : Ok i k ls (v :: w :: st) h Q := by
  exact Ok.go hc (by show gd _ (jp (k + 1) ls (v :: w :: v :: w :: st) h) = _; unfold gd; rw [if_pos hv]; rfl) o
theorem ok_goto {i k pc r : Nat} {z : Int} {ls : aLs} {st : aSt} {h : AH} {Q : Option AV → AH → Prop} {off : Int} (hc : nth (cd i) k = some (pc, .goto off, r, z)) (o : Ok i r ls (st) h Q) : Ok i k ls (st) h Q := by
  exact Ok.go hc rfl o
theorem ok_if_eq {i k pc r : Nat} {z : Int} {ls : aLs} {st : aSt} {h : AH} {Q : Option AV → AH → Prop} {x : Int} {off : Int} (hc : nth (cd i) k = some (pc, .ifCond .eq off, r, z)) (o1 : x = 0 → Ok i r ls st h Q) (o2 : ¬ (x = 0) → Ok i (k + 1) ls st h Q) : Ok i k ls (vI x :: st) h Q := by
  by_cases hx : x = 0
  · exact Ok.go hc (by show br (x = 0) (jp r ls st h) (jp (k + 1) ls st h) = _; unfold br; rw [if_pos hx]; rfl) (o1 hx)
  · exact Ok.go hc (by show br (x = 0) (jp r ls st h) (jp (k + 1) ls st h) = _; unfold br; rw [if_neg hx]; rfl) (o2 hx)
theorem ok_icmp_eq {i k pc r : Nat} {z : Int} {ls : aLs} {st : aSt} {h : AH} {Q : Option AV → AH → Prop} {x y : Int} {off : Int} (hc : nth (cd i) k = some (pc, .if_icmp .eq off, r, z)) (o1 : x = y → Ok i r ls st h Q) (o2 : ¬ (x = y) → Ok i (k + 1) ls st h Q) : Ok i k ls (vI y :: vI x :: st) h Q := by
  by_cases hx : x = y
  · exact Ok.go hc (by show br (x = y) (jp r ls st h) (jp (k + 1) ls st h) = _; unfold br; rw [if_pos hx]; rfl) (o1 hx)
  · exact Ok.go hc (by show br (x = y) (jp r ls st h) (jp (k + 1) ls st h) = _; unfold br; rw [if_neg hx]; rfl) (o2 hx)
theorem ok_if_ne {i k pc r : Nat} {z : Int} {ls : aLs} {st : aSt} {h : AH} {Q : Option AV → AH → Prop} {x : Int} {off : Int} (hc : nth (cd i) k = some (pc, .ifCond .ne off, r, z)) (o1 : x ≠ 0 → Ok i r ls st h Q) (o2 : ¬ (x ≠ 0) → Ok i (k + 1) ls st h Q) : Ok i k ls (vI x :: st) h Q := by
  by_cases hx : x ≠ 0
  · exact Ok.go hc (by show br (x ≠ 0) (jp r ls st h) (jp (k + 1) ls st h) = _; unfold br; rw [if_pos hx]; rfl) (o1 hx)
  · exact Ok.go hc (by show br (x ≠ 0) (jp r ls st h) (jp (k + 1) ls st h) = _; unfold br; rw [if_neg hx]; rfl) (o2 hx)
theorem ok_icmp_ne {i k pc r : Nat} {z : Int} {ls : aLs} {st : aSt} {h : AH} {Q : Option AV → AH → Prop} {x y : Int} {off : Int} (hc : nth (cd i) k = some (pc, .if_icmp .ne off, r, z)) (o1 : x ≠ y → Ok i r ls st h Q) (o2 : ¬ (x ≠ y) → Ok i (k + 1) ls st h Q) : Ok i k ls (vI y :: vI x :: st) h Q := by
  by_cases hx : x ≠ y
  · exact Ok.go hc (by show br (x ≠ y) (jp r ls st h) (jp (k + 1) ls st h) = _; unfold br; rw [if_pos hx]; rfl) (o1 hx)
  · exact Ok.go hc (by show br (x ≠ y) (jp r ls st h) (jp (k + 1) ls st h) = _; unfold br; rw [if_neg hx]; rfl) (o2 hx)
theorem ok_if_lt {i k pc r : Nat} {z : Int} {ls : aLs} {st : aSt} {h : AH} {Q : Option AV → AH → Prop} {x : Int} {off : Int} (hc : nth (cd i) k = some (pc, .ifCond .lt off, r, z)) (o1 : x < 0 → Ok i r ls st h Q) (o2 : ¬ (x < 0) → Ok i (k + 1) ls st h Q) : Ok i k ls (vI x :: st) h Q := by
  by_cases hx : x < 0
  · exact Ok.go hc (by show br (x < 0) (jp r ls st h) (jp (k + 1) ls st h) = _; unfold br; rw [if_pos hx]; rfl) (o1 hx)
  · exact Ok.go hc (by show br (x < 0) (jp r ls st h) (jp (k + 1) ls st h) = _; unfold br; rw [if_neg hx]; rfl) (o2 hx)
theorem ok_icmp_lt {i k pc r : Nat} {z : Int} {ls : aLs} {st : aSt} {h : AH} {Q : Option AV → AH → Prop} {x y : Int} {off : Int} (hc : nth (cd i) k = some (pc, .if_icmp .lt off, r, z)) (o1 : x < y → Ok i r ls st h Q) (o2 : ¬ (x < y) → Ok i (k + 1) ls st h Q) : Ok i k ls (vI y :: vI x :: st) h Q := by
  by_cases hx : x < y
  · exact Ok.go hc (by show br (x < y) (jp r ls st h) (jp (k + 1) ls st h) = _; unfold br; rw [if_pos hx]; rfl) (o1 hx)
  · exact Ok.go hc (by show br (x < y) (jp r ls st h) (jp (k + 1) ls st h) = _; unfold br; rw [if_neg hx]; rfl) (o2 hx)
theorem ok_if_ge {i k pc r : Nat} {z : Int} {ls : aLs} {st : aSt} {h : AH} {Q : Option AV → AH → Prop} {x : Int} {off : Int} (hc : nth (cd i) k = some (pc, .ifCond .ge off, r, z)) (o1 : 0 ≤ x → Ok i r ls st h Q) (o2 : ¬ (0 ≤ x) → Ok i (k + 1) ls st h Q) : Ok i k ls (vI x :: st) h Q := by
  by_cases hx : 0 ≤ x
  · exact Ok.go hc (by show br (0 ≤ x) (jp r ls st h) (jp (k + 1) ls st h) = _; unfold br; rw [if_pos hx]; rfl) (o1 hx)
  · exact Ok.go hc (by show br (0 ≤ x) (jp r ls st h) (jp (k + 1) ls st h) = _; unfold br; rw [if_neg hx]; rfl) (o2 hx)
theorem ok_icmp_ge {i k pc r : Nat} {z : Int} {ls : aLs} {st : aSt} {h : AH} {Q : Option AV → AH → Prop} {x y : Int} {off : Int} (hc : nth (cd i) k = some (pc, .if_icmp .ge off, r, z)) (o1 : y ≤ x → Ok i r ls st h Q) (o2 : ¬ (y ≤ x) → Ok i (k + 1) ls st h Q) : Ok i k ls (vI y :: vI x :: st) h Q := by
  by_cases hx : y ≤ x
  · exact Ok.go hc (by show br (y ≤ x) (jp r ls st h) (jp (k + 1) ls st h) = _; unfold br; rw [if_pos hx]; rfl) (o1 hx)
  · exact Ok.go hc (by show br (y ≤ x) (jp r ls st h) (jp (k + 1) ls st h) = _; unfold br; rw [if_neg hx]; rfl) (o2 hx)
theorem ok_if_gt {i k pc r : Nat} {z : Int} {ls : aLs} {st : aSt} {h : AH} {Q : Option AV → AH → Prop} {x : Int} {off : Int} (hc : nth (cd i) k = some (pc, .ifCond .gt off, r, z)) (o1 : 0 < x → Ok i r ls st h Q) (o2 : ¬ (0 < x) → Ok i (k + 1) ls st h Q) : Ok i k ls (vI x :: st) h Q := by
  by_cases hx : 0 < x
  · exact Ok.go hc (by show br (0 < x) (jp r ls st h) (jp (k + 1) ls st h) = _; unfold br; rw [if_pos hx]; rfl) (o1 hx)
  · exact Ok.go hc (by show br (0 < x) (jp r ls st h) (jp (k + 1) ls st h) = _; unfold br; rw [if_neg hx]; rfl) (o2 hx)
theorem ok_icmp_gt {i k pc r : Nat} {z : Int} {ls : aLs} {st : aSt} {h : AH} {Q : Option AV → AH → Prop} {x y : Int} {off : Int} (hc : nth (cd i) k = some (pc, .if_icmp .gt off, r, z)) (o1 : y < x → Ok i r ls st h Q) (o2 : ¬ (y < x) → Ok i (k + 1) ls st h Q) : Ok i k ls (vI y :: vI x :: st) h Q := by
  by_cases hx : y < x
  · exact Ok.go hc (by show br (y < x) (jp r ls st h) (jp (k + 1) ls st h) = _; unfold br; rw [if_pos hx]; rfl) (o1 hx)
  · exact Ok.go hc (by show br (y < x) (jp r ls st h) (jp (k + 1) ls st h) = _; unfold br; rw [if_neg hx]; rfl) (o2 hx)
theorem ok_if_le {i k pc r : Nat} {z : Int} {ls : aLs} {st : aSt} {h : AH} {Q : Option AV → AH → Prop} {x : Int} {off : Int} (hc : nth (cd i) k = some (pc, .ifCond .le off, r, z)) (o1 : x ≤ 0 → Ok i r ls st h Q) (o2 : ¬ (x ≤ 0) → Ok i (k + 1) ls st h Q) : Ok i k ls (vI x :: st) h Q := by
  by_cases hx : x ≤ 0
  · exact Ok.go hc (by show br (x ≤ 0) (jp r ls st h) (jp (k + 1) ls st h) = _; unfold br; rw [if_pos hx]; rfl) (o1 hx)
  · exact Ok.go hc (by show br (x ≤ 0) (jp r ls st h) (jp (k + 1) ls st h) = _; unfold br; rw [if_neg hx]; rfl) (o2 hx)
theorem ok_icmp_le {i k pc r : Nat} {z : Int} {ls : aLs} {st : aSt} {h : AH} {Q : Option AV → AH → Prop} {x y : Int} {off : Int} (hc : nth (cd i) k = some (pc, .if_icmp .le off, r, z)) (o1 : x ≤ y → Ok i r ls st h Q) (o2 : ¬ (x ≤ y) → Ok i (k + 1) ls st h Q) : Ok i k ls (vI y :: vI x :: st) h Q := by
  by_cases hx : x ≤ y
  · exact Ok.go hc (by show br (x ≤ y) (jp r ls st h) (jp (k + 1) ls st h) = _; unfold br; rw [if_pos hx]; rfl) (o1 hx)
  · exact Ok.go hc (by show br (x ≤ y) (jp r ls st h) (jp (k + 1) ls st h) = _; unfold br; rw [if_neg hx]; rfl) (o2 hx)
theorem ok_ifnull_n {i k pc r : Nat} {z : Int} {ls : aLs} {st : aSt} {h : AH} {Q : Option AV → AH → Prop} {off : Int} (hc : nth (cd i) k = some (pc, .ifnull off, r, z)) (o : Ok i r ls (st) h Q) : Ok i k ls (vR none :: st) h Q := by
  exact Ok.go hc rfl o
theorem ok_ifnull_s {i k pc r : Nat} {z : Int} {ls : aLs} {st : aSt} {h : AH} {Q : Option AV → AH → Prop} {off : Int} {a : Nat} (hc : nth (cd i) k = some (pc, .ifnull off, r, z)) (o : Ok i (k + 1) ls (st) h Q) : Ok i k ls (vR (some a) :: st) h Q := by
  exact Ok.go hc rfl o
theorem ok_ifnonnull_n {i k pc r : Nat} {z : Int} {ls : aLs} {st : aSt} {h : AH} {Q : Option AV → AH → Prop} {off : Int} (hc : nth (cd i) k = some (pc, .ifnonnull off, r, z)) (o : Ok i (k + 1) ls (st) h Q) : Ok i k ls (vR none :: st) h Q := by
  exact Ok.go hc rfl o
theorem ok_ifnonnull_s {i k pc r : Nat} {z : Int} {ls : aLs} {st : aSt} {h : AH} {Q : Option AV → AH → Prop} {off : Int} {a : Nat} (hc : nth (cd i) k = some (pc, .ifnonnull off, r, z)) (o : Ok i r ls (st) h Q) : Ok i k ls (vR (some a) :: st) h Q := by
  exact Ok.go hc rfl o
theorem ok_tsw {i k pc r : Nat} {z : Int} {ls : aLs} {st : aSt} {h : AH} {Q : Option AV → AH → Prop} {x df lo hi : Int} {offs : Array Int} {k2 : Nat} (hc : nth (cd i) k = some (pc, .tableswitch df lo hi offs, r, z)) (hk : (if x < lo ∨ hi < x then swAt r 0 else swAt r ((x - lo).toNat + 1)) = k2) (o : Ok i k2 ls st h Q) : Ok i k ls (vI x :: st) h Q := by
  by_cases hx : x < lo ∨ hi < x
  · rw [if_pos hx] at hk
    subst hk
    exact Ok.go hc (by show br (x < lo ∨ hi < x) _ _ = _; unfold br; rw [if_pos hx]; rfl) o
  · rw [if_neg hx] at hk
    subst hk
    exact Ok.go hc (by show br (x < lo ∨ hi < x) _ _ = _; unfold br; rw [if_neg hx]; rfl) o
theorem ok_lsw {i k pc r : Nat} {z : Int} {ls : aLs} {st : aSt} {h : AH} {Q : Option AV → AH → Prop} {x df : Int} {ps : Array (Int × Int)} {k2 : Nat} (hc : nth (cd i) k = some (pc, .lookupswitch df ps, r, z)) (hk : swAt r (lkup ps.toList x 1) = k2) (o : Ok i k2 ls st h Q) : Ok i k ls (vI x :: st) h Q := by
  subst hk
  exact Ok.go hc rfl o
theorem ok_getI {i k pc r : Nat} {z : Int} {ls : aLs} {st : aSt} {h : AH} {Q : Option AV → AH → Prop} {x o : Nat} (c f : Nat) (fi : Int) (hc : nth (cd i) k = some (pc, .getfield x, r, z)) (hs : (sh h o).1 = 10 + c) (hcf : r = (c * 64 + f) * 8 + 0 ∧ f < 64 ∧ fi = (f : Int)) (o' : Ok i (k + 1) ls (vI (gi h o fi) :: st) h Q) : Ok i k ls (vR (some o) :: st) h Q := by
  obtain ⟨rfl, hf, rfl⟩ := hcf
  refine Ok.go hc (h' := h) (k' := k + 1) (ls' := ls) (st' := vI (gi h o (f : Int)) :: st) ?_ o'
  show gd ((sh h o).1 = 10 + ((c * 64 + f) * 8 + 0) / 512) (jp (k + 1) ls (rdF h o (((c * 64 + f) * 8 + 0) % 8) (((c * 64 + f) * 8 + 0) / 8 % 64) :: st) h) = _
  rw [show ((c * 64 + f) * 8 + 0) / 512 = c by omega, show ((c * 64 + f) * 8 + 0) % 8 = 0 by omega, show ((c * 64 + f) * 8 + 0) / 8 % 64 = f by omega]
  unfold gd
  rw [if_pos hs]
  rfl
theorem ok_getZ {i k pc r : Nat} {z : Int} {ls : aLs} {st : aSt} {h : AH} {Q : Option AV → AH → Prop} {x o : Nat} (c f : Nat) (fi : Int) (hc : nth (cd i) k = some (pc, .getfield x, r, z)) (hs : (sh h o).1 = 10 + c) (hcf : r = (c * 64 + f) * 8 + 1 ∧ f < 64 ∧ fi = (f : Int)) (o' : Ok i (k + 1) ls (vI (gi h o fi) :: st) h Q) : Ok i k ls (vR (some o) :: st) h Q := by
  obtain ⟨rfl, hf, rfl⟩ := hcf
  refine Ok.go hc (h' := h) (k' := k + 1) (ls' := ls) (st' := vI (gi h o (f : Int)) :: st) ?_ o'
  show gd ((sh h o).1 = 10 + ((c * 64 + f) * 8 + 1) / 512) (jp (k + 1) ls (rdF h o (((c * 64 + f) * 8 + 1) % 8) (((c * 64 + f) * 8 + 1) / 8 % 64) :: st) h) = _
  rw [show ((c * 64 + f) * 8 + 1) / 512 = c by omega, show ((c * 64 + f) * 8 + 1) % 8 = 1 by omega, show ((c * 64 + f) * 8 + 1) / 8 % 64 = f by omega]
  unfold gd
  rw [if_pos hs]
  rfl
theorem ok_getJ {i k pc r : Nat} {z : Int} {ls : aLs} {st : aSt} {h : AH} {Q : Option AV → AH → Prop} {x o : Nat} (c f : Nat) (fi : Int) (hc : nth (cd i) k = some (pc, .getfield x, r, z)) (hs : (sh h o).1 = 10 + c) (hcf : r = (c * 64 + f) * 8 + 2 ∧ f < 64 ∧ fi = (f : Int)) (o' : Ok i (k + 1) ls (vL (gl h o fi) :: st) h Q) : Ok i k ls (vR (some o) :: st) h Q := by
  obtain ⟨rfl, hf, rfl⟩ := hcf
  refine Ok.go hc (h' := h) (k' := k + 1) (ls' := ls) (st' := vL (gl h o (f : Int)) :: st) ?_ o'
  show gd ((sh h o).1 = 10 + ((c * 64 + f) * 8 + 2) / 512) (jp (k + 1) ls (rdF h o (((c * 64 + f) * 8 + 2) % 8) (((c * 64 + f) * 8 + 2) / 8 % 64) :: st) h) = _
  rw [show ((c * 64 + f) * 8 + 2) / 512 = c by omega, show ((c * 64 + f) * 8 + 2) % 8 = 2 by omega, show ((c * 64 + f) * 8 + 2) / 8 % 64 = f by omega]
  unfold gd
  rw [if_pos hs]
  rfl
theorem ok_getF {i k pc r : Nat} {z : Int} {ls : aLs} {st : aSt} {h : AH} {Q : Option AV → AH → Prop} {x o : Nat} (c f : Nat) (fi : Int) (hc : nth (cd i) k = some (pc, .getfield x, r, z)) (hs : (sh h o).1 = 10 + c) (hcf : r = (c * 64 + f) * 8 + 3 ∧ f < 64 ∧ fi = (f : Int)) (o' : Ok i (k + 1) ls (vF (gf h o fi) :: st) h Q) : Ok i k ls (vR (some o) :: st) h Q := by
  obtain ⟨rfl, hf, rfl⟩ := hcf
  refine Ok.go hc (h' := h) (k' := k + 1) (ls' := ls) (st' := vF (gf h o (f : Int)) :: st) ?_ o'
  show gd ((sh h o).1 = 10 + ((c * 64 + f) * 8 + 3) / 512) (jp (k + 1) ls (rdF h o (((c * 64 + f) * 8 + 3) % 8) (((c * 64 + f) * 8 + 3) / 8 % 64) :: st) h) = _
  rw [show ((c * 64 + f) * 8 + 3) / 512 = c by omega, show ((c * 64 + f) * 8 + 3) % 8 = 3 by omega, show ((c * 64 + f) * 8 + 3) / 8 % 64 = f by omega]
  unfold gd
  rw [if_pos hs]
  rfl
theorem ok_getR {i k pc r : Nat} {z : Int} {ls : aLs} {st : aSt} {h : AH} {Q : Option AV → AH → Prop} {x o : Nat} (c f : Nat) (fi : Int) (hc : nth (cd i) k = some (pc, .getfield x, r, z)) (hs : (sh h o).1 = 10 + c) (hcf : r = (c * 64 + f) * 8 + 4 ∧ f < 64 ∧ fi = (f : Int)) (o' : Ok i (k + 1) ls (vR (gr h o fi) :: st) h Q) : Ok i k ls (vR (some o) :: st) h Q := by
  obtain ⟨rfl, hf, rfl⟩ := hcf
  refine Ok.go hc (h' := h) (k' := k + 1) (ls' := ls) (st' := vR (gr h o (f : Int)) :: st) ?_ o'
  show gd ((sh h o).1 = 10 + ((c * 64 + f) * 8 + 4) / 512) (jp (k + 1) ls (rdF h o (((c * 64 + f) * 8 + 4) % 8) (((c * 64 + f) * 8 + 4) / 8 % 64) :: st) h) = _
  rw [show ((c * 64 + f) * 8 + 4) / 512 = c by omega, show ((c * 64 + f) * 8 + 4) % 8 = 4 by omega, show ((c * 64 + f) * 8 + 4) / 8 % 64 = f by omega]
  unfold gd
  rw [if_pos hs]
  rfl
theorem ok_putI {i k pc r : Nat} {z : Int} {ls : aLs} {st : aSt} {h : AH} {Q : Option AV → AH → Prop} {x o : Nat} {v : Int} (c f : Nat) (fi : Int) (hc : nth (cd i) k = some (pc, .putfield x, r, z)) (hs : (sh h o).1 = 10 + c) (hcf : r = (c * 64 + f) * 8 + 0 ∧ f < 64 ∧ fi = (f : Int)) (o' : Ok i (k + 1) ls (st) (si h o fi v) Q) : Ok i k ls (vI v :: vR (some o) :: st) h Q := by
  obtain ⟨rfl, hf, rfl⟩ := hcf
  refine Ok.go hc (h' := si h o (f : Int) v) (k' := k + 1) (ls' := ls) (st' := st) ?_ o'
  dsimp only [axf]
  rw [show ((c * 64 + f) * 8 + 0) / 512 = c by omega, show ((c * 64 + f) * 8 + 0) % 8 = 0 by omega, show ((c * 64 + f) * 8 + 0) / 8 % 64 = f by omega]
  rw [if_pos rfl]
  show gd _ (jp (k + 1) ls st (si h o (f : Int) v)) = _
  unfold gd
  rw [if_pos hs]
  rfl
theorem ok_putZ {i k pc r : Nat} {z : Int} {ls : aLs} {st : aSt} {h : AH} {Q : Option AV → AH → Prop} {x o : Nat} {v : Int} (c f : Nat) (fi : Int) (hc : nth (cd i) k = some (pc, .putfield x, r, z)) (hs : (sh h o).1 = 10 + c) (hcf : r = (c * 64 + f) * 8 + 1 ∧ f < 64 ∧ fi = (f : Int)) (hz : v = 0 ∨ v = 1) (o' : Ok i (k + 1) ls (st) (si h o fi v) Q) : Ok i k ls (vI v :: vR (some o) :: st) h Q := by
  obtain ⟨rfl, hf, rfl⟩ := hcf
  refine Ok.go hc (h' := si h o (f : Int) v) (k' := k + 1) (ls' := ls) (st' := st) ?_ o'
  dsimp only [axf]
  rw [show ((c * 64 + f) * 8 + 1) / 512 = c by omega, show ((c * 64 + f) * 8 + 1) % 8 = 1 by omega, show ((c * 64 + f) * 8 + 1) / 8 % 64 = f by omega]
  rw [if_neg (by decide)]
  rw [if_pos rfl]
  show gd _ (jp (k + 1) ls st (si h o (f : Int) v)) = _
  unfold gd
  rw [if_pos ⟨hs, hz⟩]
  rfl
theorem ok_putJ {i k pc r : Nat} {z : Int} {ls : aLs} {st : aSt} {h : AH} {Q : Option AV → AH → Prop} {x o : Nat} {v : Int} (c f : Nat) (fi : Int) (hc : nth (cd i) k = some (pc, .putfield x, r, z)) (hs : (sh h o).1 = 10 + c) (hcf : r = (c * 64 + f) * 8 + 2 ∧ f < 64 ∧ fi = (f : Int)) (o' : Ok i (k + 1) ls (st) (sl h o fi v) Q) : Ok i k ls (vL v :: vR (some o) :: st) h Q := by
  obtain ⟨rfl, hf, rfl⟩ := hcf
  refine Ok.go hc (h' := sl h o (f : Int) v) (k' := k + 1) (ls' := ls) (st' := st) ?_ o'
  dsimp only [axf]
  rw [show ((c * 64 + f) * 8 + 2) / 512 = c by omega, show ((c * 64 + f) * 8 + 2) % 8 = 2 by omega, show ((c * 64 + f) * 8 + 2) / 8 % 64 = f by omega]
  rw [if_neg (by decide)]
  rw [if_neg (by decide)]
  rw [if_pos rfl]
  show gd _ (jp (k + 1) ls st (sl h o (f : Int) v)) = _
  unfold gd
  rw [if_pos hs]
  rfl
theorem ok_putF {i k pc r : Nat} {z : Int} {ls : aLs} {st : aSt} {h : AH} {Q : Option AV → AH → Prop} {x o : Nat} {v : UInt32} (c f : Nat) (fi : Int) (hc : nth (cd i) k = some (pc, .putfield x, r, z)) (hs : (sh h o).1 = 10 + c) (hcf : r = (c * 64 + f) * 8 + 3 ∧ f < 64 ∧ fi = (f : Int)) (o' : Ok i (k + 1) ls (st) (sf h o fi v) Q) : Ok i k ls (vF v :: vR (some o) :: st) h Q := by
  obtain ⟨rfl, hf, rfl⟩ := hcf
  refine Ok.go hc (h' := sf h o (f : Int) v) (k' := k + 1) (ls' := ls) (st' := st) ?_ o'
  dsimp only [axf]
  rw [show ((c * 64 + f) * 8 + 3) / 512 = c by omega, show ((c * 64 + f) * 8 + 3) % 8 = 3 by omega, show ((c * 64 + f) * 8 + 3) / 8 % 64 = f by omega]
  rw [if_neg (by decide)]
  rw [if_neg (by decide)]
  rw [if_neg (by decide)]
  rw [if_pos rfl]
  show gd _ (jp (k + 1) ls st (sf h o (f : Int) v)) = _
  unfold gd
  rw [if_pos hs]
  rfl
theorem ok_putR {i k pc r : Nat} {z : Int} {ls : aLs} {st : aSt} {h : AH} {Q : Option AV → AH → Prop} {x o : Nat} {v : Option Nat} (c f : Nat) (fi : Int) (hc : nth (cd i) k = some (pc, .putfield x, r, z)) (hs : (sh h o).1 = 10 + c) (hcf : r = (c * 64 + f) * 8 + 4 ∧ f < 64 ∧ fi = (f : Int)) (o' : Ok i (k + 1) ls (st) (sr h o fi v) Q) : Ok i k ls (vR v :: vR (some o) :: st) h Q := by
  obtain ⟨rfl, hf, rfl⟩ := hcf
  refine Ok.go hc (h' := sr h o (f : Int) v) (k' := k + 1) (ls' := ls) (st' := st) ?_ o'
  dsimp only [axf]
  rw [show ((c * 64 + f) * 8 + 4) / 512 = c by omega, show ((c * 64 + f) * 8 + 4) % 8 = 4 by omega, show ((c * 64 + f) * 8 + 4) / 8 % 64 = f by omega]
  rw [if_neg (by decide)]
  rw [if_neg (by decide)]
  rw [if_neg (by decide)]
  rw [if_neg (by decide)]
  show gd _ (jp (k + 1) ls st (sr h o (f : Int) v)) = _
  unfold gd
  rw [if_pos hs]
  rfl
theorem ok_iaload {i k pc r : Nat} {z : Int} {ls : aLs} {st : aSt} {h : AH} {Q : Option AV → AH → Prop} {a : Nat} {x : Int} (hc : nth (cd i) k = some (pc, .iaload, r, z)) (hg : ((sh h a).1 = 0 ∨ (sh h a).1 = 9) ∧ 0 ≤ x ∧ x < (sh h a).2) (o : Ok i (k + 1) ls (vI (gi h a x) :: st) h Q) : Ok i k ls (vI x :: vR (some a) :: st) h Q := by
  refine Ok.go hc (h' := h) (k' := k + 1) (ls' := ls) (st' := vI (gi h a x) :: st) ?_ o
  show gd (((sh h a).1 = 0 ∨ (sh h a).1 = 9) ∧ 0 ≤ x ∧ x < (sh h a).2) (jp (k + 1) ls (vI (gi h a x) :: st) h) = _
  unfold gd
  rw [if_pos hg]
  rfl
theorem ok_baload {i k pc r : Nat} {z : Int} {ls : aLs} {st : aSt} {h : AH} {Q : Option AV → AH → Prop} {a : Nat} {x : Int} (hc : nth (cd i) k = some (pc, .baload, r, z)) (hg : (sh h a).1 = 1 ∧ 0 ≤ x ∧ x < (sh h a).2) (o : Ok i (k + 1) ls (vI (gi h a x) :: st) h Q) : Ok i k ls (vI x :: vR (some a) :: st) h Q := by
  refine Ok.go hc (h' := h) (k' := k + 1) (ls' := ls) (st' := vI (gi h a x) :: st) ?_ o
  show gd ((sh h a).1 = 1 ∧ 0 ≤ x ∧ x < (sh h a).2) (jp (k + 1) ls (vI (gi h a x) :: st) h) = _
  unfold gd
  rw [if_pos hg]
  rfl
theorem ok_laload {i k pc r : Nat} {z : Int} {ls : aLs} {st : aSt} {h : AH} {Q : Option AV → AH → Prop} {a : Nat} {x : Int} (hc : nth (cd i) k = some (pc, .laload, r, z)) (hg : (sh h a).1 = 2 ∧ 0 ≤ x ∧ x < (sh h a).2) (o : Ok i (k + 1) ls (vL (gl h a x) :: st) h Q) : Ok i k ls (vI x :: vR (some a) :: st) h Q := by
  refine Ok.go hc (h' := h) (k' := k + 1) (ls' := ls) (st' := vL (gl h a x) :: st) ?_ o
  show gd ((sh h a).1 = 2 ∧ 0 ≤ x ∧ x < (sh h a).2) (jp (k + 1) ls (vL (gl h a x) :: st) h) = _
  unfold gd
  rw [if_pos hg]
  rfl
theorem ok_aaload {i k pc r : Nat} {z : Int} {ls : aLs} {st : aSt} {h : AH} {Q : Option AV → AH → Prop} {a : Nat} {x : Int} (hc : nth (cd i) k = some (pc, .aaload, r, z)) (hg : ((sh h a).1 = 3 ∨ (sh h a).1 = 4) ∧ 0 ≤ x ∧ x < (sh h a).2) (o : Ok i (k + 1) ls (vR (gr h a x) :: st) h Q) : Ok i k ls (vI x :: vR (some a) :: st) h Q := by
  refine Ok.go hc (h' := h) (k' := k + 1) (ls' := ls) (st' := vR (gr h a x) :: st) ?_ o
  show gd (((sh h a).1 = 3 ∨ (sh h a).1 = 4) ∧ 0 ≤ x ∧ x < (sh h a).2) (jp (k + 1) ls (vR (gr h a x) :: st) h) = _
  unfold gd
  rw [if_pos hg]
  rfl
theorem ok_iastore {i k pc r : Nat} {z : Int} {ls : aLs} {st : aSt} {h : AH} {Q : Option AV → AH → Prop} {a : Nat} {x : Int} {v : Int} (hc : nth (cd i) k = some (pc, .iastore, r, z)) (hg : (sh h a).1 = 0 ∧ 0 ≤ x ∧ x < (sh h a).2) (o : Ok i (k + 1) ls (st) (si h a x v) Q) : Ok i k ls (vI v :: vI x :: vR (some a) :: st) h Q := by
  refine Ok.go hc (h' := (si h a x v)) (k' := k + 1) (ls' := ls) (st' := st) ?_ o
  show gd ((sh h a).1 = 0 ∧ 0 ≤ x ∧ x < (sh h a).2) (jp (k + 1) ls (st) (si h a x v)) = _
  unfold gd
  rw [if_pos hg]
  rfl
theorem ok_bastore {i k pc r : Nat} {z : Int} {ls : aLs} {st : aSt} {h : AH} {Q : Option AV → AH → Prop} {a : Nat} {x : Int} {v : Int} (hc : nth (cd i) k = some (pc, .bastore, r, z)) (hg : (sh h a).1 = 1 ∧ 0 ≤ x ∧ x < (sh h a).2) (o : Ok i (k + 1) ls (st) (si h a x (Int32.ofInt v).toInt8.toInt32.toInt) Q) : Ok i k ls (vI v :: vI x :: vR (some a) :: st) h Q := by
  refine Ok.go hc (h' := (si h a x (Int32.ofInt v).toInt8.toInt32.toInt)) (k' := k + 1) (ls' := ls) (st' := st) ?_ o
  show gd ((sh h a).1 = 1 ∧ 0 ≤ x ∧ x < (sh h a).2) (jp (k + 1) ls (st) (si h a x (Int32.ofInt v).toInt8.toInt32.toInt)) = _
  unfold gd
  rw [if_pos hg]
  rfl
theorem ok_lastore {i k pc r : Nat} {z : Int} {ls : aLs} {st : aSt} {h : AH} {Q : Option AV → AH → Prop} {a : Nat} {x : Int} {v : Int} (hc : nth (cd i) k = some (pc, .lastore, r, z)) (hg : (sh h a).1 = 2 ∧ 0 ≤ x ∧ x < (sh h a).2) (o : Ok i (k + 1) ls (st) (sl h a x v) Q) : Ok i k ls (vL v :: vI x :: vR (some a) :: st) h Q := by
  refine Ok.go hc (h' := (sl h a x v)) (k' := k + 1) (ls' := ls) (st' := st) ?_ o
  show gd ((sh h a).1 = 2 ∧ 0 ≤ x ∧ x < (sh h a).2) (jp (k + 1) ls (st) (sl h a x v)) = _
  unfold gd
  rw [if_pos hg]
  rfl
theorem ok_aastore {i k pc r : Nat} {z : Int} {ls : aLs} {st : aSt} {h : AH} {Q : Option AV → AH → Prop} {a : Nat} {x : Int} {v : Nat} (hc : nth (cd i) k = some (pc, .aastore, r, z)) (hg : ((sh h a).1 = 3 ∧ (sh h v).1 = 12 ∨ (sh h a).1 = 4 ∧ (sh h v).1 = 13) ∧ 0 ≤ x ∧ x < (sh h a).2) (o : Ok i (k + 1) ls (st) (sr h a x (some v)) Q) : Ok i k ls (vR (some v) :: vI x :: vR (some a) :: st) h Q := by
  refine Ok.go hc (h' := (sr h a x (some v))) (k' := k + 1) (ls' := ls) (st' := st) ?_ o
  show gd (((sh h a).1 = 3 ∧ (sh h v).1 = 12 ∨ (sh h a).1 = 4 ∧ (sh h v).1 = 13) ∧ 0 ≤ x ∧ x < (sh h a).2) (jp (k + 1) ls (st) (sr h a x (some v))) = _
  unfold gd
  rw [if_pos hg]
  rfl
theorem ok_alen {i k pc r : Nat} {z : Int} {ls : aLs} {st : aSt} {h : AH} {Q : Option AV → AH → Prop} {a : Nat} (hc : nth (cd i) k = some (pc, .arraylength, r, z)) (hg : (sh h a).1 < 10) (o : Ok i (k + 1) ls (vI (sh h a).2 :: st) h Q) : Ok i k ls (vR (some a) :: st) h Q := by
  exact Ok.go hc (by show gd _ (jp (k + 1) ls (vI (sh h a).2 :: st) h) = _; unfold gd; rw [if_pos hg]; rfl) o
theorem ok_newarr_int {i k pc r : Nat} {z : Int} {ls : aLs} {st : aSt} {h : AH} {Q : Option AV → AH → Prop} {n : Int} (hc : nth (cd i) k = some (pc, .newarray .int, r, z)) (hg : 0 ≤ n ∧ n ≤ 1000000) (o : Ok i (k + 1) ls (vR (some (nn h)) :: st) (al h 0 n) Q) : Ok i k ls (vI n :: st) h Q := by
  exact Ok.go hc (by show gd _ (jp (k + 1) ls (vR (some (nn h)) :: st) (al h 0 n)) = _; unfold gd; rw [if_pos hg]; rfl) o
theorem ok_newarr_byte {i k pc r : Nat} {z : Int} {ls : aLs} {st : aSt} {h : AH} {Q : Option AV → AH → Prop} {n : Int} (hc : nth (cd i) k = some (pc, .newarray .byte, r, z)) (hg : 0 ≤ n ∧ n ≤ 1000000) (o : Ok i (k + 1) ls (vR (some (nn h)) :: st) (al h 1 n) Q) : Ok i k ls (vI n :: st) h Q := by
  exact Ok.go hc (by show gd _ (jp (k + 1) ls (vR (some (nn h)) :: st) (al h 1 n)) = _; unfold gd; rw [if_pos hg]; rfl) o
theorem ok_newarr_long {i k pc r : Nat} {z : Int} {ls : aLs} {st : aSt} {h : AH} {Q : Option AV → AH → Prop} {n : Int} (hc : nth (cd i) k = some (pc, .newarray .long, r, z)) (hg : 0 ≤ n ∧ n ≤ 1000000) (o : Ok i (k + 1) ls (vR (some (nn h)) :: st) (al h 2 n) Q) : Ok i k ls (vI n :: st) h Q := by
  exact Ok.go hc (by show gd _ (jp (k + 1) ls (vR (some (nn h)) :: st) (al h 2 n)) = _; unfold gd; rw [if_pos hg]; rfl) o
theorem ok_anewarr {i k pc r : Nat} {z : Int} {ls : aLs} {st : aSt} {h : AH} {Q : Option AV → AH → Prop} {n : Int} {x : Nat} (hc : nth (cd i) k = some (pc, .anewarray x, r, z)) (hg : 0 ≤ n ∧ n ≤ 1000000) (o : Ok i (k + 1) ls (vR (some (nn h)) :: st) (al h r n) Q) : Ok i k ls (vI n :: st) h Q := by
  exact Ok.go hc (by show gd _ (jp (k + 1) ls (vR (some (nn h)) :: st) (al h r n)) = _; unfold gd; rw [if_pos hg]; rfl) o
theorem ok_new {i k pc r : Nat} {z : Int} {ls : aLs} {st : aSt} {h : AH} {Q : Option AV → AH → Prop} {x : Nat} {n : Int} (hc : nth (cd i) k = some (pc, .new x, r, z)) (hn : (nth nfl r).getD 0 = n) (o : Ok i (k + 1) ls (vR (some (nn h)) :: st) (al h (10 + r) n) Q) : Ok i k ls (st) h Q := by
  subst hn; exact Ok.go hc rfl o
theorem ok_cast {i k pc r : Nat} {z : Int} {ls : aLs} {st : aSt} {h : AH} {Q : Option AV → AH → Prop} {x a : Nat} (hc : nth (cd i) k = some (pc, .checkcast x, r, z)) (hg : (sh h a).1 = 0) (o : Ok i (k + 1) ls (vR (some a) :: st) h Q) : Ok i k ls (vR (some a) :: st) h Q := by
  exact Ok.go hc (by show gd _ (jp (k + 1) ls (vR (some a) :: st) h) = _; unfold gd; rw [if_pos hg]; rfl) o
theorem ok_objinit {i k pc : Nat} {z : Int} {ls : aLs} {st : aSt} {h : AH} {Q : Option AV → AH → Prop} {x a : Nat} (hc : nth (cd i) k = some (pc, .invokespecial x, 1000, z)) (hg : cats st ≤ 8) (o : Ok i (k + 1) ls (st) h Q) : Ok i k ls (vR (some a) :: st) h Q := by
  exact Ok.go hc (by show gd _ (jp (k + 1) ls st h) = _; unfold gd; rw [if_pos hg]; rfl) o
theorem ok_clone {i k pc : Nat} {z : Int} {ls : aLs} {st : aSt} {h : AH} {Q : Option AV → AH → Prop} {x a : Nat} (hc : nth (cd i) k = some (pc, .invokevirtual x, 1007, z)) (hg : cats st ≤ 8 ∧ (sh h a).1 = 0) (o : Ok i (k + 1) ls (vR (some (nn h)) :: st) (alf h (sh h a).2 (gi h a)) Q) : Ok i k ls (vR (some a) :: st) h Q := by
  exact Ok.go hc (by show gd _ (jp (k + 1) ls (vR (some (nn h)) :: st) (alf h (sh h a).2 (gi h a))) = _; unfold gd; rw [if_pos hg]; rfl) o
theorem ok_max {i k pc : Nat} {z : Int} {ls : aLs} {st : aSt} {h : AH} {Q : Option AV → AH → Prop} {x0 : Nat} {x y : Int} (hc : nth (cd i) k = some (pc, .invokestatic x0, 1001, z)) (hg : cats st ≤ 8) (o : Ok i (k + 1) ls (vI (if x < y then y else x) :: st) h Q) : Ok i k ls (vI y :: vI x :: st) h Q := by
  exact Ok.go hc (by show gd _ (jp (k + 1) ls (vI (if x < y then y else x) :: st) h) = _; unfold gd; rw [if_pos hg]; rfl) o
theorem ok_min {i k pc : Nat} {z : Int} {ls : aLs} {st : aSt} {h : AH} {Q : Option AV → AH → Prop} {x0 : Nat} {x y : Int} (hc : nth (cd i) k = some (pc, .invokestatic x0, 1002, z)) (hg : cats st ≤ 8) (o : Ok i (k + 1) ls (vI (if y < x then y else x) :: st) h Q) : Ok i k ls (vI y :: vI x :: st) h Q := by
  exact Ok.go hc (by show gd _ (jp (k + 1) ls (vI (if y < x then y else x) :: st) h) = _; unfold gd; rw [if_pos hg]; rfl) o
theorem ok_abs {i k pc : Nat} {z : Int} {ls : aLs} {st : aSt} {h : AH} {Q : Option AV → AH → Prop} {x0 : Nat} {x : Int} (hc : nth (cd i) k = some (pc, .invokestatic x0, 1003, z)) (hg : cats st ≤ 8) (o : Ok i (k + 1) ls (vI (if 0 ≤ x then x else w32 (0 - x)) :: st) h Q) : Ok i k ls (vI x :: st) h Q := by
  exact Ok.go hc (by show gd _ (jp (k + 1) ls (vI (if 0 ≤ x then x else w32 (0 - x)) :: st) h) = _; unfold gd; rw [if_pos hg]; rfl) o
theorem ok_ibf {i k pc : Nat} {z : Int} {ls : aLs} {st : aSt} {h : AH} {Q : Option AV → AH → Prop} {x0 : Nat} {x : Int} (hc : nth (cd i) k = some (pc, .invokestatic x0, 1006, z)) (hg : cats st ≤ 8 ∧ vn_sni2f (Int32.ofInt x) = false) (o : Ok i (k + 1) ls (vF (Int32.ofInt x).toUInt32 :: st) h Q) : Ok i k ls (vI x :: st) h Q := by
  exact Ok.go hc (by show gd _ (jp (k + 1) ls (vF (Int32.ofInt x).toUInt32 :: st) h) = _; unfold gd; rw [if_pos hg]; rfl) o
theorem ok_acopy {i k pc : Nat} {z : Int} {ls : aLs} {st : aSt} {h : AH} {Q : Option AV → AH → Prop} {x0 a d : Nat} {x j n : Int} (hc : nth (cd i) k = some (pc, .invokestatic x0, 1008, z)) (hg : cats st ≤ 8 ∧ (sh h a).1 = 0 ∧ (sh h d).1 = 0 ∧ a ≠ d ∧ 0 ≤ x ∧ 0 ≤ j ∧ 0 ≤ n ∧ x + n ≤ (sh h a).2 ∧ j + n ≤ (sh h d).2) (o : Ok i (k + 1) ls (st) (wI h d (fun q => if j ≤ q ∧ q < j + n then gi h a (x + (q - j)) else gi h d q)) Q) : Ok i k ls (vI n :: vI j :: vR (some d) :: vI x :: vR (some a) :: st) h Q := by
  exact Ok.go hc (by show gd _ (jp (k + 1) ls st (wI h d (fun q => if j ≤ q ∧ q < j + n then gi h a (x + (q - j)) else gi h d q))) = _; unfold gd; rw [if_pos hg]; rfl) o
theorem ok_iret {i k pc : Nat} {z : Int} {ls : aLs} {h : AH} {Q : Option AV → AH → Prop} {x : Int} (hc : nth (cd i) k = some (pc, .ireturn, 0, z)) (q : Q (some (vI x)) h) : Ok i k ls [vI x] h Q := Ok.ret hc (by show gd (((0 : Nat) = 1 → x = 0 ∨ x = 1) ∧ ([] : aSt).isEmpty = true) _ = _; unfold gd; exact if_pos ⟨fun h => absurd h (by decide), rfl⟩) q
theorem ok_zret {i k pc : Nat} {z : Int} {ls : aLs} {h : AH} {Q : Option AV → AH → Prop} {x : Int} (hc : nth (cd i) k = some (pc, .ireturn, 1, z)) (hx : x = 0 ∨ x = 1) (q : Q (some (vI x)) h) : Ok i k ls [vI x] h Q := Ok.ret hc (by show gd _ _ = _; unfold gd; rw [if_pos ⟨fun _ => hx, rfl⟩]) q
theorem ok_lret {i k pc : Nat} {z : Int} {ls : aLs} {h : AH} {Q : Option AV → AH → Prop} {x : Int} {r : Nat} (hc : nth (cd i) k = some (pc, .lreturn, r, z)) (q : Q (some (vL x)) h) : Ok i k ls [vL x] h Q := Ok.ret hc rfl q
theorem ok_fret {i k pc : Nat} {z : Int} {ls : aLs} {h : AH} {Q : Option AV → AH → Prop} {x : UInt32} {r : Nat} (hc : nth (cd i) k = some (pc, .freturn, r, z)) (q : Q (some (vF x)) h) : Ok i k ls [vF x] h Q := Ok.ret hc rfl q
theorem ok_aret {i k pc : Nat} {z : Int} {ls : aLs} {h : AH} {Q : Option AV → AH → Prop} {x : Option Nat} {r : Nat} (hc : nth (cd i) k = some (pc, .areturn, r, z)) (q : Q (some (vR x)) h) : Ok i k ls [vR x] h Q := Ok.ret hc rfl q
theorem ok_vret {i k pc : Nat} {z : Int} {ls : aLs} {h : AH} {Q : Option AV → AH → Prop} {r : Nat} (hc : nth (cd i) k = some (pc, .return_, r, z)) (q : Q none h) : Ok i k ls [] h Q := Ok.ret hc rfl q
theorem ok_cvirtual {i k pc r : Nat} {z : Int} {ls : aLs} {st : aSt} {h : AH} {Q : Option AV → AH → Prop} {x : Nat} {as : List AV} {s : aSt} {ls0 : aLs} (hc : nth (cd i) k = some (pc, .invokevirtual x, r, z)) (hr : r < 1000) (ht : tk (mNa r) [] st = some (as, s)) (hg : cats s ≤ 8 ∧ cats as ≤ mMl r ∧ rcv h r as = true) (hl : ent r as = ls0) (o : Ok r 0 ls0 [] h (fun v h' => Ok i (k + 1) ls (push v s) h' Q)) : Ok i k ls st h Q := by
  subst hl
  refine Ok.call (as := as) (s := s) (t := r) hc ?_ o
  dsimp only [axf]
  rw [if_neg (by omega)]
  unfold cal
  rw [ht]
  show gd _ _ = _
  unfold gd
  rw [if_pos hg]
theorem ok_cspecial {i k pc r : Nat} {z : Int} {ls : aLs} {st : aSt} {h : AH} {Q : Option AV → AH → Prop} {x : Nat} {as : List AV} {s : aSt} {ls0 : aLs} (hc : nth (cd i) k = some (pc, .invokespecial x, r, z)) (hr : r < 1000) (ht : tk (mNa r) [] st = some (as, s)) (hg : cats s ≤ 8 ∧ cats as ≤ mMl r ∧ rcv h r as = true) (hl : ent r as = ls0) (o : Ok r 0 ls0 [] h (fun v h' => Ok i (k + 1) ls (push v s) h' Q)) : Ok i k ls st h Q := by
  subst hl
  refine Ok.call (as := as) (s := s) (t := r) hc ?_ o
  dsimp only [axf]
  rw [if_neg (by omega)]
  unfold cal
  rw [ht]
  show gd _ _ = _
  unfold gd
  rw [if_pos hg]
theorem ok_cstatic {i k pc r : Nat} {z : Int} {ls : aLs} {st : aSt} {h : AH} {Q : Option AV → AH → Prop} {x : Nat} {as : List AV} {s : aSt} {ls0 : aLs} (hc : nth (cd i) k = some (pc, .invokestatic x, r, z)) (hr : r < 1000) (ht : tk (mNa r) [] st = some (as, s)) (hg : cats s ≤ 8 ∧ cats as ≤ mMl r ∧ rcv h r as = true) (hl : ent r as = ls0) (o : Ok r 0 ls0 [] h (fun v h' => Ok i (k + 1) ls (push v s) h' Q)) : Ok i k ls st h Q := by
  subst hl
  refine Ok.call (as := as) (s := s) (t := r) hc ?_ o
  dsimp only [axf]
  rw [if_neg (by omega), if_neg (by omega), if_neg (by omega), if_neg (by omega), if_neg (by omega)]
  unfold cal
  rw [ht]
  show gd _ _ = _
  unfold gd
  rw [if_pos hg]
