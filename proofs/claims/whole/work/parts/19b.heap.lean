/-! reads over writes, and the bit operations by name -/
theorem gi_si_o {h : AH} {o p : Nat} {k j v : Int} (hn : p ≠ o) : gi (si h o k v) p j = gi h p j := if_neg (fun q => hn q.1)
theorem gi_si_k {h : AH} {o : Nat} {k j v : Int} (hn : j ≠ k) : gi (si h o k v) o j = gi h o j := if_neg (fun q => hn q.2)
theorem gi_si_e {h : AH} {o : Nat} {k v : Int} : gi (si h o k v) o k = v := if_pos ⟨rfl, rfl⟩
theorem gi_si_p {h : AH} {o p : Nat} {k j v : Int} : gi (si h o k v) p j = if p = o ∧ j = k then v else gi h p j := rfl
theorem gi_si_r {h : AH} {o p : Nat} {k v : Int} (hn : p ≠ o) : gi (si h o k v) p = gi h p := funext fun _ => gi_si_o hn
theorem gl_sl_r {h : AH} {o p : Nat} {k v : Int} (hn : p ≠ o) : gl (sl h o k v) p = gl h p := funext fun _ => if_neg (fun q => hn q.1)
theorem gi_sl {h : AH} {o p : Nat} {k v j : Int} : gi (sl h o k v) p j = gi h p j := rfl
theorem gi_sf {h : AH} {o p : Nat} {k j : Int} {v : UInt32} : gi (sf h o k v) p j = gi h p j := rfl
theorem gi_sr {h : AH} {o p : Nat} {k j : Int} {v : Option Nat} : gi (sr h o k v) p j = gi h p j := rfl
theorem gl_sl_o {h : AH} {o p : Nat} {k j v : Int} (hn : p ≠ o) : gl (sl h o k v) p j = gl h p j := if_neg (fun q => hn q.1)
theorem gl_sl_k {h : AH} {o : Nat} {k j v : Int} (hn : j ≠ k) : gl (sl h o k v) o j = gl h o j := if_neg (fun q => hn q.2)
theorem gl_sl_e {h : AH} {o : Nat} {k v : Int} : gl (sl h o k v) o k = v := if_pos ⟨rfl, rfl⟩
theorem gl_sl_p {h : AH} {o p : Nat} {k j v : Int} : gl (sl h o k v) p j = if p = o ∧ j = k then v else gl h p j := rfl
theorem gl_si {h : AH} {o p : Nat} {k v j : Int} : gl (si h o k v) p j = gl h p j := rfl
theorem gl_sf {h : AH} {o p : Nat} {k j : Int} {v : UInt32} : gl (sf h o k v) p j = gl h p j := rfl
theorem gl_sr {h : AH} {o p : Nat} {k j : Int} {v : Option Nat} : gl (sr h o k v) p j = gl h p j := rfl
theorem gf_si {h : AH} {o p : Nat} {k v j : Int} : gf (si h o k v) p j = gf h p j := rfl
theorem gf_sl {h : AH} {o p : Nat} {k v j : Int} : gf (sl h o k v) p j = gf h p j := rfl
theorem gf_sr {h : AH} {o p : Nat} {k j : Int} {v : Option Nat} : gf (sr h o k v) p j = gf h p j := rfl
theorem gf_sf_o {h : AH} {o p : Nat} {k j : Int} {v : UInt32} (hn : p ≠ o) : gf (sf h o k v) p j = gf h p j := if_neg (fun q => hn q.1)
theorem gf_sf_k {h : AH} {o : Nat} {k j : Int} {v : UInt32} (hn : j ≠ k) : gf (sf h o k v) o j = gf h o j := if_neg (fun q => hn q.2)
theorem gf_sf_e {h : AH} {o : Nat} {k : Int} {v : UInt32} : gf (sf h o k v) o k = v := if_pos ⟨rfl, rfl⟩
theorem gr_si {h : AH} {o p : Nat} {k v j : Int} : gr (si h o k v) p j = gr h p j := rfl
theorem gr_sl {h : AH} {o p : Nat} {k v j : Int} : gr (sl h o k v) p j = gr h p j := rfl
theorem gr_sf {h : AH} {o p : Nat} {k j : Int} {v : UInt32} : gr (sf h o k v) p j = gr h p j := rfl
theorem gr_sr_o {h : AH} {o p : Nat} {k j : Int} {v : Option Nat} (hn : p ≠ o) : gr (sr h o k v) p j = gr h p j := if_neg (fun q => hn q.1)
theorem gr_sr_k {h : AH} {o : Nat} {k j : Int} {v : Option Nat} (hn : j ≠ k) : gr (sr h o k v) o j = gr h o j := if_neg (fun q => hn q.2)
theorem gr_sr_e {h : AH} {o : Nat} {k : Int} {v : Option Nat} : gr (sr h o k v) o k = v := if_pos ⟨rfl, rfl⟩
theorem sh_si {h : AH} {o p : Nat} {k v : Int} : sh (si h o k v) p = sh h p := rfl
theorem sh_sl {h : AH} {o p : Nat} {k v : Int} : sh (sl h o k v) p = sh h p := rfl
theorem sh_sf {h : AH} {o p : Nat} {k : Int} {v : UInt32} : sh (sf h o k v) p = sh h p := rfl
theorem sh_sr {h : AH} {o p : Nat} {k : Int} {v : Option Nat} : sh (sr h o k v) p = sh h p := rfl
theorem nn_si {h : AH} {o : Nat} {k v : Int} : nn (si h o k v) = nn h := rfl
theorem nn_sl {h : AH} {o : Nat} {k v : Int} : nn (sl h o k v) = nn h := rfl
theorem nn_sf {h : AH} {o : Nat} {k : Int} {v : UInt32} : nn (sf h o k v) = nn h := rfl
theorem nn_sr {h : AH} {o : Nat} {k : Int} {v : Option Nat} : nn (sr h o k v) = nn h := rfl
theorem nn_al {h : AH} {t : Nat} {n : Int} : nn (al h t n) = nn h + 1 := rfl
theorem nn_alf {h : AH} {n : Int} {f : Int → Int} : nn (alf h n f) = nn h + 1 := rfl
theorem us_si {h : AH} {o : Nat} {k v : Int} : us (si h o k v) = us h := rfl
theorem us_sl {h : AH} {o : Nat} {k v : Int} : us (sl h o k v) = us h := rfl
theorem us_sf {h : AH} {o : Nat} {k : Int} {v : UInt32} : us (sf h o k v) = us h := rfl
theorem us_sr {h : AH} {o : Nat} {k : Int} {v : Option Nat} : us (sr h o k v) = us h := rfl
theorem us_al {h : AH} {t : Nat} {n : Int} : us (al h t n) = us h + n.toNat := rfl
theorem us_alf {h : AH} {n : Int} {f : Int → Int} : us (alf h n f) = us h + n.toNat := rfl
theorem sh_al_e {h : AH} {t : Nat} {n : Int} : sh (al h t n) (nn h) = (t, n) := if_pos rfl
theorem sh_alf_e {h : AH} {n : Int} {f : Int → Int} : sh (alf h n f) (nn h) = (0, n) := if_pos rfl
theorem sh_al_p {h : AH} {t : Nat} {n : Int} {a : Nat} (ha : a < nn h) : sh (al h t n) a = sh h a := if_neg (Nat.ne_of_lt ha)
theorem sh_alf_p {h : AH} {n : Int} {f : Int → Int} {a : Nat} (ha : a < nn h) : sh (alf h n f) a = sh h a := if_neg (Nat.ne_of_lt ha)
theorem gi_al_p {h : AH} {t : Nat} {n : Int} {a : Nat} {k : Int} (ha : a < nn h) : gi (al h t n) a k = gi h a k := if_neg (Nat.ne_of_lt ha)
theorem gi_alf_p {h : AH} {n : Int} {f : Int → Int} {a : Nat} {k : Int} (ha : a < nn h) : gi (alf h n f) a k = gi h a k := if_neg (Nat.ne_of_lt ha)
theorem gl_al_p {h : AH} {t : Nat} {n : Int} {a : Nat} {k : Int} (ha : a < nn h) : gl (al h t n) a k = gl h a k := if_neg (Nat.ne_of_lt ha)
theorem gl_alf_p {h : AH} {n : Int} {f : Int → Int} {a : Nat} {k : Int} (ha : a < nn h) : gl (alf h n f) a k = gl h a k := if_neg (Nat.ne_of_lt ha)
theorem gf_al_p {h : AH} {t : Nat} {n : Int} {a : Nat} {k : Int} (ha : a < nn h) : gf (al h t n) a k = gf h a k := if_neg (Nat.ne_of_lt ha)
theorem gf_alf_p {h : AH} {n : Int} {f : Int → Int} {a : Nat} {k : Int} (ha : a < nn h) : gf (alf h n f) a k = gf h a k := if_neg (Nat.ne_of_lt ha)
theorem gr_al_p {h : AH} {t : Nat} {n : Int} {a : Nat} {k : Int} (ha : a < nn h) : gr (al h t n) a k = gr h a k := if_neg (Nat.ne_of_lt ha)
theorem gr_alf_p {h : AH} {n : Int} {f : Int → Int} {a : Nat} {k : Int} (ha : a < nn h) : gr (alf h n f) a k = gr h a k := if_neg (Nat.ne_of_lt ha)
theorem gi_al {h : AH} {t : Nat} {n : Int} {a : Nat} {k : Int} (hF : Fix h) (ha : a < 136) : gi (al h t n) a k = gi h a k := gi_al_p (Nat.lt_of_lt_of_le ha hF.2.2)
theorem gi_alf {h : AH} {n : Int} {f : Int → Int} {a : Nat} {k : Int} (hF : Fix h) (ha : a < 136) : gi (alf h n f) a k = gi h a k := gi_alf_p (Nat.lt_of_lt_of_le ha hF.2.2)
theorem gl_al {h : AH} {t : Nat} {n : Int} {a : Nat} {k : Int} (hF : Fix h) (ha : a < 136) : gl (al h t n) a k = gl h a k := gl_al_p (Nat.lt_of_lt_of_le ha hF.2.2)
theorem gl_alf {h : AH} {n : Int} {f : Int → Int} {a : Nat} {k : Int} (hF : Fix h) (ha : a < 136) : gl (alf h n f) a k = gl h a k := gl_alf_p (Nat.lt_of_lt_of_le ha hF.2.2)
theorem gi_wI_e {h : AH} {o : Nat} {f : Int → Int} : gi (wI h o f) o = f := if_pos rfl
theorem gi_wI_o {h : AH} {o p : Nat} {f : Int → Int} (hn : p ≠ o) : gi (wI h o f) p = gi h p := if_neg hn
theorem Fix.srN {h : AH} (hF : Fix h) {o : Nat} (ho : 136 ≤ o) {k : Int} {v : Option Nat} : Fix (sr h o k v) := by
  refine ⟨fun e he => ?_, hF.2.1, hF.2.2⟩
  show u2 h.2.2.2.1 o k v e.1 e.2.1 = _
  unfold u2
  rw [if_neg (fun q => by have := fix_lt e he; omega)]
  exact hF.1 e he
def iAnd (x y : Int) : Int := i2 (fun a b => a &&& b) x y
theorem ok_iandA {i k pc r : Nat} {z : Int} {ls : aLs} {st : aSt} {h : AH} {Q : Option AV → AH → Prop} {x y : Int} (hc : nth (cd i) k = some (pc, .iand, r, z)) (o : Ok i (k + 1) ls (vI (iAnd x y) :: st) h Q) : Ok i k ls (vI y :: vI x :: st) h Q := ok_iand hc o
def iOr (x y : Int) : Int := i2 (fun a b => a ||| b) x y
theorem ok_iorA {i k pc r : Nat} {z : Int} {ls : aLs} {st : aSt} {h : AH} {Q : Option AV → AH → Prop} {x y : Int} (hc : nth (cd i) k = some (pc, .ior, r, z)) (o : Ok i (k + 1) ls (vI (iOr x y) :: st) h Q) : Ok i k ls (vI y :: vI x :: st) h Q := ok_ior hc o
def iXor (x y : Int) : Int := i2 (fun a b => a ^^^ b) x y
theorem ok_ixorA {i k pc r : Nat} {z : Int} {ls : aLs} {st : aSt} {h : AH} {Q : Option AV → AH → Prop} {x y : Int} (hc : nth (cd i) k = some (pc, .ixor, r, z)) (o : Ok i (k + 1) ls (vI (iXor x y) :: st) h Q) : Ok i k ls (vI y :: vI x :: st) h Q := ok_ixor hc o
def iShl (x y : Int) : Int := i2 (fun a b => a <<< (b &&& 31)) x y
theorem ok_ishlA {i k pc r : Nat} {z : Int} {ls : aLs} {st : aSt} {h : AH} {Q : Option AV → AH → Prop} {x y : Int} (hc : nth (cd i) k = some (pc, .ishl, r, z)) (o : Ok i (k + 1) ls (vI (iShl x y) :: st) h Q) : Ok i k ls (vI y :: vI x :: st) h Q := ok_ishl hc o
def iShr (x y : Int) : Int := i2 (fun a b => a >>> (b &&& 31)) x y
theorem ok_ishrA {i k pc r : Nat} {z : Int} {ls : aLs} {st : aSt} {h : AH} {Q : Option AV → AH → Prop} {x y : Int} (hc : nth (cd i) k = some (pc, .ishr, r, z)) (o : Ok i (k + 1) ls (vI (iShr x y) :: st) h Q) : Ok i k ls (vI y :: vI x :: st) h Q := ok_ishr hc o
def iDiv (x y : Int) : Int := i2 (fun a b => a / b) x y
theorem ok_idivA {i k pc r : Nat} {z : Int} {ls : aLs} {st : aSt} {h : AH} {Q : Option AV → AH → Prop} {x y : Int} (hc : nth (cd i) k = some (pc, .idiv, r, z)) (hy : y ≠ 0) (o : Ok i (k + 1) ls (vI (iDiv x y) :: st) h Q) : Ok i k ls (vI y :: vI x :: st) h Q := ok_idiv hc hy o
def iRem (x y : Int) : Int := i2 (fun a b => a - a / b * b) x y
theorem ok_iremA {i k pc r : Nat} {z : Int} {ls : aLs} {st : aSt} {h : AH} {Q : Option AV → AH → Prop} {x y : Int} (hc : nth (cd i) k = some (pc, .irem, r, z)) (hy : y ≠ 0) (o : Ok i (k + 1) ls (vI (iRem x y) :: st) h Q) : Ok i k ls (vI y :: vI x :: st) h Q := ok_irem hc hy o
def lAnd (x y : Int) : Int := l2 (fun a b => a &&& b) x y
theorem ok_landA {i k pc r : Nat} {z : Int} {ls : aLs} {st : aSt} {h : AH} {Q : Option AV → AH → Prop} {x y : Int} (hc : nth (cd i) k = some (pc, .land, r, z)) (o : Ok i (k + 1) ls (vL (lAnd x y) :: st) h Q) : Ok i k ls (vL y :: vL x :: st) h Q := ok_land hc o
def lOr (x y : Int) : Int := l2 (fun a b => a ||| b) x y
theorem ok_lorA {i k pc r : Nat} {z : Int} {ls : aLs} {st : aSt} {h : AH} {Q : Option AV → AH → Prop} {x y : Int} (hc : nth (cd i) k = some (pc, .lor, r, z)) (o : Ok i (k + 1) ls (vL (lOr x y) :: st) h Q) : Ok i k ls (vL y :: vL x :: st) h Q := ok_lor hc o
def lDiv (x y : Int) : Int := l2 (fun a b => a / b) x y
theorem ok_ldivA {i k pc r : Nat} {z : Int} {ls : aLs} {st : aSt} {h : AH} {Q : Option AV → AH → Prop} {x y : Int} (hc : nth (cd i) k = some (pc, .ldiv, r, z)) (hy : y ≠ 0) (o : Ok i (k + 1) ls (vL (lDiv x y) :: st) h Q) : Ok i k ls (vL y :: vL x :: st) h Q := ok_ldiv hc hy o
def lShl (x y : Int) : Int := l1 (fun a b => a <<< (b.toInt64 &&& 63)) x y
theorem ok_lshlA {i k pc r : Nat} {z : Int} {ls : aLs} {st : aSt} {h : AH} {Q : Option AV → AH → Prop} {x y : Int} (hc : nth (cd i) k = some (pc, .lshl, r, z)) (o : Ok i (k + 1) ls (vL (lShl x y) :: st) h Q) : Ok i k ls (vI y :: vL x :: st) h Q := ok_lshl hc o
def lShr (x y : Int) : Int := l1 (fun a b => a >>> (b.toInt64 &&& 63)) x y
theorem ok_lshrA {i k pc r : Nat} {z : Int} {ls : aLs} {st : aSt} {h : AH} {Q : Option AV → AH → Prop} {x y : Int} (hc : nth (cd i) k = some (pc, .lshr, r, z)) (o : Ok i (k + 1) ls (vL (lShr x y) :: st) h Q) : Ok i k ls (vI y :: vL x :: st) h Q := ok_lshr hc o
def lUshr (x y : Int) : Int := l1 (fun a b => (a.toUInt64 >>> (b.toInt64.toUInt64 &&& Int64.toUInt64 63)).toInt64) x y
theorem ok_lushrA {i k pc r : Nat} {z : Int} {ls : aLs} {st : aSt} {h : AH} {Q : Option AV → AH → Prop} {x y : Int} (hc : nth (cd i) k = some (pc, .lushr, r, z)) (o : Ok i (k + 1) ls (vL (lUshr x y) :: st) h Q) : Ok i k ls (vI y :: vL x :: st) h Q := ok_lushr hc o
theorem ok_lconstA {i k pc r : Nat} {z : Int} {ls : aLs} {st : aSt} {h : AH} {Q : Option AV → AH → Prop} {n : Fin 2} {x : Int} (hc : nth (cd i) k = some (pc, .lconst n, r, z)) (hx : (n.val : Int) = x) (o : Ok i (k + 1) ls (vL x :: st) h Q) : Ok i k ls st h Q := ok_lconst hc (by rw [hx]; exact o)
theorem ok_fconstA {i k pc r : Nat} {z : Int} {ls : aLs} {st : aSt} {h : AH} {Q : Option AV → AH → Prop} {n : Fin 3} {x : UInt32} (hc : nth (cd i) k = some (pc, .fconst n, r, z)) (hx : (if n.val = 0 then FP.fconst0 else if n.val = 1 then FP.fconst1 else FP.fconst2) = x) (o : Ok i (k + 1) ls (vF x :: st) h Q) : Ok i k ls st h Q := ok_fconst hc (by rw [hx]; exact o)
