/-! THE CONSTRUCTORS: the machine over lists runs them -/
def cax (d : Instr) (r : Nat) (z : Int) (ls : aLs) (st : aSt) (c : CHp) : Option (aSt × CHp) := match d with
  | .iconst n => some (vI n :: st, c)
  | .bipush n => some (vI n :: st, c)
  | .sipush n => some (vI n :: st, c)
  | .ldc _ => if r = 0 then some (vI z :: st, c) else none
  | .iload_n i => match ld ls i.val with
    | some (.inl x) => some (vI x :: st, c)
    | _ => none
  | .aload_n i => match ld ls i.val with
    | some (.inr (.inr (.inr x))) => some (vR x :: st, c)
    | _ => none
  | .aload i => match ld ls i with
    | some (.inr (.inr (.inr x))) => some (vR x :: st, c)
    | _ => none
  | .dup => match st with
    | v :: s => if cat1 v = 1 then some (v :: v :: s, c) else none
    | _ => none
  | .new _ => some (vR (some c.1) :: st, cnew c (10 + r) ((nth nfl r).getD 0))
  | .newarray .int => match st with
    | .inl n :: s => if 0 ≤ n ∧ n ≤ 1000000 then some (vR (some c.1) :: s, cnew c 0 n) else none
    | _ => none
  | .newarray .byte => match st with
    | .inl n :: s => if 0 ≤ n ∧ n ≤ 1000000 then some (vR (some c.1) :: s, cnew c 1 n) else none
    | _ => none
  | .newarray .long => match st with
    | .inl n :: s => if 0 ≤ n ∧ n ≤ 1000000 then some (vR (some c.1) :: s, cnew c 2 n) else none
    | _ => none
  | .anewarray _ => match st with
    | .inl n :: s => if 0 ≤ n ∧ n ≤ 1000000 then some (vR (some c.1) :: s, cnew c r n) else none
    | _ => none
  | .putfield _ => match st with
    | .inl v :: .inr (.inr (.inr (some o))) :: s => if r % 8 = 0 ∧ 1 ≤ o ∧ o < c.1 ∧ (csh c o).1 = 10 + r / 512 then some (s, cput c 1 o ((r / 8 % 64 : Nat) : Int) v) else none
    | .inr (.inr (.inr (some w))) :: .inr (.inr (.inr (some o))) :: s => if r % 8 = 4 ∧ 1 ≤ o ∧ o < c.1 ∧ (csh c o).1 = 10 + r / 512 then some (s, cput c 2 o ((r / 8 % 64 : Nat) : Int) (w : Int)) else none
    | _ => none
  | .getfield _ => match st with
    | .inr (.inr (.inr (some o))) :: s => match cref c.2.2 o ((r / 8 % 64 : Nat) : Int) with
      | some v => if r % 8 = 4 ∧ 1 ≤ o ∧ o < c.1 ∧ (csh c o).1 = 10 + r / 512 then some (vR (some v) :: s, c) else none
      | none => none
    | _ => none
  | _ => none
theorem cax_ok {h0 h : AH} {Q : Option AV → AH → Prop} {i k pc r : Nat} {d : Instr} {z : Int} {ls : aLs} {st st' : aSt} {c c' : CHp} (hc : nth (cd i) k = some (pc, d, r, z)) (e : cax d r z ls st c = some (st', c')) (R : Rep h0 c h) (o : ∀ h', Rep h0 c' h' → Ok i (k + 1) ls st' h' Q) : Ok i k ls st h Q := by
  have fl : r = (r / 512 * 64 + r / 8 % 64) * 8 + r % 8 := by omega
  have f64 : r / 8 % 64 < 64 := Nat.mod_lt _ (by decide)
  unfold cax at e
  split at e
  · cases e; exact ok_iconst hc (o h R)
  · cases e; exact ok_bipush hc (o h R)
  · cases e; exact ok_sipush hc (o h R)
  · split at e
    · rename_i q; subst q; cases e; exact ok_ldcI hc (o h R)
    · cases e
  · split at e
    · rename_i q; cases e; exact ok_iload_n hc q (o h R)
    · cases e
  · split at e
    · rename_i q; cases e; exact ok_aload_n hc q (o h R)
    · cases e
  · split at e
    · rename_i q; cases e; exact ok_aload hc q (o h R)
    · cases e
  · split at e
    · split at e
      · rename_i q; cases e; exact ok_dup hc q (o h R)
      · cases e
    · cases e
  · cases e
    exact ok_new hc rfl (by rw [R.1]; exact o _ R.nw)
  · split at e
    · split at e
      · rename_i q; cases e; exact ok_newarr_int hc q (by rw [R.1]; exact o _ R.nw)
      · cases e
    · cases e
  · split at e
    · split at e
      · rename_i q; cases e; exact ok_newarr_byte hc q (by rw [R.1]; exact o _ R.nw)
      · cases e
    · cases e
  · split at e
    · split at e
      · rename_i q; cases e; exact ok_newarr_long hc q (by rw [R.1]; exact o _ R.nw)
      · cases e
    · cases e
  · split at e
    · split at e
      · rename_i q; cases e; exact ok_anewarr hc q (by rw [R.1]; exact o _ R.nw)
      · cases e
    · cases e
  · split at e
    · split at e
      · rename_i q; cases e
        obtain ⟨q1, q2, q3, q4⟩ := q
        exact ok_putI (r / 512) (r / 8 % 64) _ hc (by rw [R.2.2.1 _ q2 q3]; exact q4) ⟨by omega, f64, rfl⟩ (o _ (R.putI q2 q3))
      · cases e
    · split at e
      · rename_i q; cases e
        obtain ⟨q1, q2, q3, q4⟩ := q
        exact ok_putR (r / 512) (r / 8 % 64) _ hc (by rw [R.2.2.1 _ q2 q3]; exact q4) ⟨by omega, f64, rfl⟩ (o _ (R.putR q3))
      · cases e
    · cases e
  · split at e
    · split at e
      · split at e
        · rename_i q0 _ q; cases e
          obtain ⟨q1, q2, q3, q4⟩ := q
          exact ok_getR (r / 512) (r / 8 % 64) _ hc (by rw [R.2.2.1 _ q2 q3]; exact q4) ⟨by omega, f64, rfl⟩ (by rw [(R.2.2.2.1 _ _ _ (by assumption)).2]; exact o h R)
        · cases e
      · cases e
    · cases e
  · cases e
def crcv (c : CHp) (t : Nat) (as : List AV) : Bool := match as with
  | .inr (.inr (.inr (some o))) :: _ => decide (10 ≤ mRc t ∧ 1 ≤ o ∧ o < c.1 ∧ (csh c o).1 = mRc t)
  | _ => false
def crun : Nat → Nat → Nat → aLs → aSt → CHp → Option CHp
  | 0, _, _, _, _, _ => none
  | n + 1, i, k, ls, st, c => match nth (cd i) k with
    | none => none
    | some (_, d, r, z) => match d with
      | .return_ => match st with
        | [] => some c
        | _ => none
      | .invokespecial _ => if r = 1000 then (match st with
          | .inr (.inr (.inr (some _))) :: s => if cats s ≤ 8 then crun n i (k + 1) ls s c else none
          | _ => none)
        else if r < 1000 then (match tk (mNa r) [] st with
          | some (as, s) => if cats s ≤ 8 ∧ cats as ≤ mMl r ∧ crcv c r as = true then (match crun n r 0 (ent r as) [] c with
            | some c' => crun n i (k + 1) ls s c'
            | none => none) else none
          | none => none)
        else none
      | .invokestatic _ => if r = 297 then (match st with
          | .inl v :: .inr (.inr (.inr (some a))) :: s => if cats s ≤ 8 ∧ 1 ≤ a ∧ a < c.1 ∧ (csh c a).1 = 0 ∧ 0 ≤ (csh c a).2 ∧ (csh c a).2 ≤ 1000000 then crun n i (k + 1) ls s (cput c 3 a (csh c a).2 v) else none
          | _ => none) else none
      | d => match cax d r z ls st c with
        | some (st', c') => crun n i (k + 1) ls st' c'
        | none => none
theorem crun_ok {h0 : AH} (n : Nat) : ∀ {i k : Nat} {ls : aLs} {st : aSt} {c c' : CHp} {h : AH}, crun n i k ls st c = some c' → Rep h0 c h → Ok i k ls st h (fun v h' => v = none ∧ Rep h0 c' h') := by
  induction n with
  | zero => intro i k ls st c c' h e _; unfold crun at e; cases e
  | succ n ih =>
    intro i k ls st c c' h e R
    unfold crun at e
    split at e
    · cases e
    · rename_i pc d r z hd
      split at e
      · split at e
        · cases e; exact ok_vret hd ⟨rfl, R⟩
        · cases e
      · split at e
        · rename_i q
          subst q
          split at e
          · split at e
            · rename_i q; exact ok_objinit hd q (ih e R)
            · cases e
          · cases e
        · split at e
          · rename_i hr
            split at e
            · rename_i as s ht
              split at e
              · rename_i q
                obtain ⟨q1, q2, q3⟩ := q
                split at e
                · rename_i c1 e1
                  refine ok_cspecial hd hr ht ⟨q1, q2, ?_⟩ rfl ((ih e1 R).mono (fun v h1 ⟨ev, R1⟩ => by subst ev; exact ih e R1))
                  unfold crcv at q3
                  split at q3
                  · obtain ⟨p0, p1, p2, p3⟩ := of_decide_eq_true q3
                    exact rcv_of (c := mRc r - 10) (by omega) (by rw [R.2.2.1 _ p1 p2, p3]; omega)
                  · cases q3
                · cases e
              · cases e
            · cases e
          · cases e
      · split at e
        · rename_i q
          subst q
          split at e
          · rename_i v a s
            split at e
            · rename_i q
              obtain ⟨q0, q1, q2, q3, q4, q5⟩ := q
              refine ok_cstatic (as := [vR (some a), vI v]) (s := s) (ls0 := [some (vR (some a)), some (vI v), none, none]) hd (by decide) rfl ⟨q0, Nat.le_of_ble_eq_true rfl, rfl⟩ rfl ?_
              exact fill_ok (n := (csh c a).2) (by rw [R.2.2.1 _ q1 q2]; exact Prod.ext q3 rfl) ⟨q4, q5⟩ (ih e (R.fil q1 q2))
            · cases e
          · cases e
        · cases e
      · split at e
        · rename_i st2 c2 e2
          exact cax_ok hd e2 R (fun h' R' => ih e R')
        · cases e
