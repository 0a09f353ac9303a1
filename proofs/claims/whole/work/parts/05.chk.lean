/-! what is checked of each instruction, by program -/
def pcAt (i k : Nat) : Option Nat := (nth (cd i) k).map (fun q => q.1)
def lenOf (d : Instr) : Nat := match d with
  | .iload _ | .lload _ | .fload _ | .aload _ | .istore _ | .lstore _ | .fstore _ | .astore _ | .bipush _ | .ldc _ | .newarray _ => 2
  | .sipush _ | .ldc_w _ | .ldc2_w _ | .iinc _ _ | .goto _ | .ifCond _ _ | .if_icmp _ _ | .ifnull _ | .ifnonnull _ | .getfield _ | .putfield _ | .invokevirtual _ | .invokespecial _ | .invokestatic _ | .new _ | .anewarray _ | .checkcast _ => 3
  | _ => 1
def isSw (d : Instr) : Bool := match d with
  | .tableswitch .. => true
  | .lookupswitch .. => true
  | _ => false
def tgt (i r pc : Nat) (off : Int) : Bool := match pcAt i r with
  | some t => decide ((pc : Int) + off = (t : Int))
  | none => false
def finF (r : Nat) : Bool := match vwCl[r / 512]? with
  | some q => (q.2.1 (r / 8 % 64)).2.2.2
  | none => true
def room (i t : Nat) : Bool := decide ((mI t).2.2.1 + 1 ≤ (mI i).2.2.1) && decide (8 + (mMl t + 11) + (mI t).2.2.2 ≤ (mI i).2.2.2)
def roomJ (i : Nat) : Bool := decide (1 ≤ (mI i).2.2.1) && decide (22 ≤ (mI i).2.2.2)
def ckS (i pc : Nat) (d : Instr) (r : Nat) (z : Int) : Bool := match d with
  | .iconst n => decide (-128 ≤ n ∧ n < 128)
  | .bipush n => decide ((Int8.ofInt n).toInt32 = Int32.ofInt n) && decide (-128 ≤ n ∧ n < 128)
  | .sipush n => decide ((Int16.ofInt n).toInt32 = Int32.ofInt n) && decide (-32768 ≤ n ∧ n < 32768)
  | .ldc x => decide (r = 0 ∨ r = 2) && decide (((mI i).1, x, r, z) ∈ cpV)
  | .ldc_w x => decide (r = 0 ∨ r = 2) && decide (((mI i).1, x, r, z) ∈ cpV)
  | .ldc2_w x => decide (((mI i).1, x, 1, z) ∈ cpV)
  | .istore j | .fstore j | .astore j => decide (j < mMl i)
  | .istore_n j | .fstore_n j | .astore_n j => decide (j.val < mMl i)
  | .lstore j => decide (j + 1 < mMl i)
  | .lstore_n j => decide (j.val + 1 < mMl i)
  | .iinc j n => decide (j < mMl i) && decide (-32768 ≤ n ∧ n < 32768)
  | .goto off | .ifCond _ off | .if_icmp _ off | .ifnull off | .ifnonnull off => tgt i r pc off
  | .tableswitch dflt lo hi offs => tgt i (swAt r 0) pc dflt && decide (hi - lo + 1 = (offs.size : Int)) && decide (-2147483648 ≤ lo ∧ hi < 2147483648) && (List.range offs.size).all (fun j => tgt i (swAt r (j + 1)) pc (offs.toList.getD j 0))
  | .lookupswitch dflt ps => tgt i (swAt r 0) pc dflt && (ps.toList.zip (ps.toList.drop 1)).all (fun (a, next) => a.1 < next.1) && (List.range ps.size).all (fun j => tgt i (swAt r (j + 1)) pc (ps.toList.getD j (0, 0)).2)
  | .getfield x => decide (((mI i).1, x, r) ∈ cpF)
  | .putfield x => decide (((mI i).1, x, r) ∈ cpF) && (!finF r || (decide ((mI i).2.1 = 2) && decide ((mI i).1 = r / 512)))
  | .new x => decide (((mI i).1, x, r) ∈ cpC) && decide (r < 13)
  | .anewarray x => decide (r = 3 ∨ r = 4) && decide (((mI i).1, x, r - 1) ∈ cpC)
  | .checkcast x => decide (((mI i).1, x, 99) ∈ cpC)
  | .invokespecial x => if r = 1000 then decide (((mI i).1, x, r) ∈ cpJ) && roomJ i else decide (((mI i).1, x, r) ∈ cpM) && decide ((mI r).2.1 = 2) && room i r
  | .invokevirtual x => if r = 1007 then decide (((mI i).1, x, r) ∈ cpJ) && roomJ i else decide (((mI i).1, x, r) ∈ cpM) && decide ((mI r).2.1 = 1) && room i r
  | .invokestatic x => if r = 1001 ∨ r = 1002 ∨ r = 1003 then decide (((mI i).1, x, r) ∈ cpJ) && roomJ i else if r = 1006 then decide (((mI i).1, x, r) ∈ cpJ) && roomJ i && decide (23 ≤ (mI i).2.2.2) else if r = 1008 then decide (((mI i).1, x, r) ∈ cpJ) && roomJ i && decide (8 + (nativeFrameWords "java/lang/System" "arraycopy" 5 + 11) ≤ (mI i).2.2.2) else decide (((mI i).1, x, r) ∈ cpM) && decide ((mI r).2.1 = 3) && room i r
  | .ireturn => (decide (r = 0) && decide (mR i = some .int)) || (decide (r = 1) && decide (mR i = some .boolean))
  | .lreturn => decide (mR i = some .long)
  | .freturn => decide (mR i = some .float)
  | .areturn => match mR i with | some (.object _) => true | some (.array _) => true | _ => false
  | .return_ => decide (mR i = none)
  | _ => true
def dec1 (cc : ByteArray) (pc : Nat) (d : Instr) : Bool := match decode cc pc with
  | .ok (d', _) => decide (d' = d)
  | _ => false
/-- the first n entries of a list -/
def ckL (i : Nat) (cc : ByteArray) : Nat → List CE → Bool
  | 0, _ => true
  | _ + 1, [] => true
  | n + 1, (pc, d, r, z) :: t => ((isSw d && dec1 cc pc d) || (!isSw d && decide (decode cc pc = .ok (d, lenOf d)))) && (match t with | (pc', _) :: _ => isSw d || decide (pc' = pc + lenOf d) | [] => true) && ckS i pc d r z && ckL i cc n t
/-- what is known of entry k of method i -/
def EOK (i k : Nat) : Prop := ∀ pc d r z, nth (cd i) k = some (pc, d, r, z) → (isSw d = true → ∃ len, decode (mC i) pc = .ok (d, len)) ∧ (isSw d = false → decode (mC i) pc = .ok (d, lenOf d) ∧ ∀ pc' q, nth (cd i) (k + 1) = some (pc', q) → pc' = pc + lenOf d) ∧ ckS i pc d r z = true
theorem ckL_at {i : Nat} {cc : ByteArray} : ∀ (n : Nat) (l : List CE), ckL i cc n l = true → ∀ k, k < n → ∀ pc d r z, nth l k = some (pc, d, r, z) → (isSw d = true → ∃ len, decode cc pc = .ok (d, len)) ∧ (isSw d = false → decode cc pc = .ok (d, lenOf d) ∧ ∀ pc' q, nth l (k + 1) = some (pc', q) → pc' = pc + lenOf d) ∧ ckS i pc d r z = true
  | 0, _, _, k, hk, _, _, _, _, _ => absurd hk (Nat.not_lt_zero k)
  | _ + 1, [], _, k, _, _, _, _, _, hn => by simp [nth] at hn
  | n + 1, (pc, d, r, z) :: t, h, k, hk, pc1, d1, r1, z1, hn => by
    simp only [ckL, Bool.and_eq_true, Bool.or_eq_true, decide_eq_true_eq, Bool.not_eq_true'] at h
    obtain ⟨⟨⟨h1, h2⟩, h3⟩, h4⟩ := h
    cases k with
    | zero =>
      simp only [nth, Option.some.injEq, Prod.mk.injEq] at hn
      obtain ⟨rfl, rfl, rfl, rfl⟩ := hn
      refine ⟨fun hs => ?_, fun hs => ⟨?_, ?_⟩, h3⟩
      · rcases h1 with ⟨-, h1⟩ | ⟨h1, -⟩
        · unfold dec1 at h1
          split at h1
          · rename_i d' len hd
            simp only [decide_eq_true_eq] at h1
            subst h1
            exact ⟨len, hd⟩
          · cases h1
        · rw [hs] at h1; cases h1
      · rcases h1 with ⟨h1, -⟩ | ⟨-, h1⟩
        · rw [hs] at h1; cases h1
        · exact h1
      · intro pc' q hq
        cases t with
        | nil => simp [nth] at hq
        | cons y t =>
          obtain ⟨p2, q2⟩ := y
          simp only [nth, Option.some.injEq, Prod.mk.injEq] at hq
          obtain ⟨rfl, -⟩ := hq
          simp only [hs, Bool.false_or, decide_eq_true_eq, Bool.false_eq_true, false_or] at h2
          exact h2
    | succ k => exact ckL_at n t h4 k (by omega) pc1 d1 r1 z1 hn
theorem nth_drop {α : Type} : ∀ (a : Nat) (l : List α) (k : Nat), nth (l.drop a) k = nth l (a + k)
  | 0, l, k => by simp
  | a + 1, [], k => by simp [nth]
  | a + 1, x :: l, k => by
    rw [List.drop_succ_cons, nth_drop a l k, show a + 1 + k = (a + k) + 1 by omega]
    rfl
theorem eok_of {i a n : Nat} (h : ckL i (mC i) n ((cd i).drop a) = true) {k : Nat} (h1 : a ≤ k) (h2 : k < a + n) : EOK i k := by
  obtain ⟨j, rfl⟩ := Nat.exists_eq_add_of_le h1
  intro pc d r z hn
  have := ckL_at n _ h j (by omega) pc d r z (by rw [nth_drop]; exact hn)
  refine ⟨this.1, fun hs => ⟨(this.2.1 hs).1, fun pc' q hq => (this.2.1 hs).2 pc' q (by rw [nth_drop]; exact hq)⟩, this.2.2⟩
theorem eok_none {i k : Nat} (h : nth (cd i) k = none) : EOK i k := by
  intro pc d r z hn
  rw [h] at hn
  cases hn
theorem nth_len {α : Type} : ∀ {l : List α} {k : Nat}, l.length ≤ k → nth l k = none
  | [], _, _ => rfl
  | _ :: _, 0, h => absurd h (Nat.not_succ_le_zero _)
  | _ :: t, k + 1, h => nth_len (l := t) (k := k) (Nat.le_of_succ_le_succ h)

set_option maxRecDepth 100000 in
theorem ck_0_0 : ckL 0 (mC 0) 7 ((cd 0).drop 0) = true := by decide +kernel
theorem eok_0 (k : Nat) : EOK 0 k := by
  by_cases h0 : k < 7
  · exact eok_of ck_0_0 (by omega) h0
  exact eok_none (nth_len (by show (cd_0).length ≤ k; exact Nat.le_trans (Nat.le_of_eq rfl) (Nat.not_lt.mp h0)))
set_option maxRecDepth 100000 in
theorem ck_1_0 : ckL 1 (mC 1) 13 ((cd 1).drop 0) = true := by decide +kernel
theorem eok_1 (k : Nat) : EOK 1 k := by
  by_cases h0 : k < 13
  · exact eok_of ck_1_0 (by omega) h0
  exact eok_none (nth_len (by show (cd_1).length ≤ k; exact Nat.le_trans (Nat.le_of_eq rfl) (Nat.not_lt.mp h0)))
set_option maxRecDepth 100000 in
theorem ck_2_0 : ckL 2 (mC 2) 20 ((cd 2).drop 0) = true := by decide +kernel
theorem eok_2 (k : Nat) : EOK 2 k := by
  by_cases h0 : k < 20
  · exact eok_of ck_2_0 (by omega) h0
  exact eok_none (nth_len (by show (cd_2).length ≤ k; exact Nat.le_trans (Nat.le_of_eq rfl) (Nat.not_lt.mp h0)))
set_option maxRecDepth 100000 in
theorem ck_3_0 : ckL 3 (mC 3) 51 ((cd 3).drop 0) = true := by decide +kernel
theorem eok_3 (k : Nat) : EOK 3 k := by
  by_cases h0 : k < 51
  · exact eok_of ck_3_0 (by omega) h0
  exact eok_none (nth_len (by show (cd_3).length ≤ k; exact Nat.le_trans (Nat.le_of_eq rfl) (Nat.not_lt.mp h0)))
set_option maxRecDepth 100000 in
theorem ck_4_0 : ckL 4 (mC 4) 53 ((cd 4).drop 0) = true := by decide +kernel
theorem eok_4 (k : Nat) : EOK 4 k := by
  by_cases h0 : k < 53
  · exact eok_of ck_4_0 (by omega) h0
  exact eok_none (nth_len (by show (cd_4).length ≤ k; exact Nat.le_trans (Nat.le_of_eq rfl) (Nat.not_lt.mp h0)))
set_option maxRecDepth 100000 in
theorem ck_5_0 : ckL 5 (mC 5) 16 ((cd 5).drop 0) = true := by decide +kernel
theorem eok_5 (k : Nat) : EOK 5 k := by
  by_cases h0 : k < 16
  · exact eok_of ck_5_0 (by omega) h0
  exact eok_none (nth_len (by show (cd_5).length ≤ k; exact Nat.le_trans (Nat.le_of_eq rfl) (Nat.not_lt.mp h0)))
set_option maxRecDepth 100000 in
theorem ck_6_0 : ckL 6 (mC 6) 27 ((cd 6).drop 0) = true := by decide +kernel
theorem eok_6 (k : Nat) : EOK 6 k := by
  by_cases h0 : k < 27
  · exact eok_of ck_6_0 (by omega) h0
  exact eok_none (nth_len (by show (cd_6).length ≤ k; exact Nat.le_trans (Nat.le_of_eq rfl) (Nat.not_lt.mp h0)))
set_option maxRecDepth 100000 in
theorem ck_7_0 : ckL 7 (mC 7) 31 ((cd 7).drop 0) = true := by decide +kernel
theorem eok_7 (k : Nat) : EOK 7 k := by
  by_cases h0 : k < 31
  · exact eok_of ck_7_0 (by omega) h0
  exact eok_none (nth_len (by show (cd_7).length ≤ k; exact Nat.le_trans (Nat.le_of_eq rfl) (Nat.not_lt.mp h0)))
set_option maxRecDepth 100000 in
theorem ck_8_0 : ckL 8 (mC 8) 22 ((cd 8).drop 0) = true := by decide +kernel
theorem eok_8 (k : Nat) : EOK 8 k := by
  by_cases h0 : k < 22
  · exact eok_of ck_8_0 (by omega) h0
  exact eok_none (nth_len (by show (cd_8).length ≤ k; exact Nat.le_trans (Nat.le_of_eq rfl) (Nat.not_lt.mp h0)))
set_option maxRecDepth 100000 in
theorem ck_9_0 : ckL 9 (mC 9) 19 ((cd 9).drop 0) = true := by decide +kernel
theorem eok_9 (k : Nat) : EOK 9 k := by
  by_cases h0 : k < 19
  · exact eok_of ck_9_0 (by omega) h0
  exact eok_none (nth_len (by show (cd_9).length ≤ k; exact Nat.le_trans (Nat.le_of_eq rfl) (Nat.not_lt.mp h0)))
set_option maxRecDepth 100000 in
theorem ck_10_0 : ckL 10 (mC 10) 3 ((cd 10).drop 0) = true := by decide +kernel
theorem eok_10 (k : Nat) : EOK 10 k := by
  by_cases h0 : k < 3
  · exact eok_of ck_10_0 (by omega) h0
  exact eok_none (nth_len (by show (cd_10).length ≤ k; exact Nat.le_trans (Nat.le_of_eq rfl) (Nat.not_lt.mp h0)))
set_option maxRecDepth 100000 in
theorem ck_11_0 : ckL 11 (mC 11) 3 ((cd 11).drop 0) = true := by decide +kernel
theorem eok_11 (k : Nat) : EOK 11 k := by
  by_cases h0 : k < 3
  · exact eok_of ck_11_0 (by omega) h0
  exact eok_none (nth_len (by show (cd_11).length ≤ k; exact Nat.le_trans (Nat.le_of_eq rfl) (Nat.not_lt.mp h0)))
set_option maxRecDepth 100000 in
theorem ck_12_0 : ckL 12 (mC 12) 8 ((cd 12).drop 0) = true := by decide +kernel
theorem eok_12 (k : Nat) : EOK 12 k := by
  by_cases h0 : k < 8
  · exact eok_of ck_12_0 (by omega) h0
  exact eok_none (nth_len (by show (cd_12).length ≤ k; exact Nat.le_trans (Nat.le_of_eq rfl) (Nat.not_lt.mp h0)))
set_option maxRecDepth 100000 in
theorem ck_13_0 : ckL 13 (mC 13) 33 ((cd 13).drop 0) = true := by decide +kernel
theorem eok_13 (k : Nat) : EOK 13 k := by
  by_cases h0 : k < 33
  · exact eok_of ck_13_0 (by omega) h0
  exact eok_none (nth_len (by show (cd_13).length ≤ k; exact Nat.le_trans (Nat.le_of_eq rfl) (Nat.not_lt.mp h0)))
set_option maxRecDepth 100000 in
theorem ck_14_0 : ckL 14 (mC 14) 41 ((cd 14).drop 0) = true := by decide +kernel
theorem eok_14 (k : Nat) : EOK 14 k := by
  by_cases h0 : k < 41
  · exact eok_of ck_14_0 (by omega) h0
  exact eok_none (nth_len (by show (cd_14).length ≤ k; exact Nat.le_trans (Nat.le_of_eq rfl) (Nat.not_lt.mp h0)))
set_option maxRecDepth 100000 in
theorem ck_15_0 : ckL 15 (mC 15) 24 ((cd 15).drop 0) = true := by decide +kernel
theorem eok_15 (k : Nat) : EOK 15 k := by
  by_cases h0 : k < 24
  · exact eok_of ck_15_0 (by omega) h0
  exact eok_none (nth_len (by show (cd_15).length ≤ k; exact Nat.le_trans (Nat.le_of_eq rfl) (Nat.not_lt.mp h0)))
set_option maxRecDepth 100000 in
theorem ck_16_0 : ckL 16 (mC 16) 60 ((cd 16).drop 0) = true := by decide +kernel
theorem eok_16 (k : Nat) : EOK 16 k := by
  by_cases h0 : k < 60
  · exact eok_of ck_16_0 (by omega) h0
  exact eok_none (nth_len (by show (cd_16).length ≤ k; exact Nat.le_trans (Nat.le_of_eq rfl) (Nat.not_lt.mp h0)))
set_option maxRecDepth 100000 in
theorem ck_17_0 : ckL 17 (mC 17) 14 ((cd 17).drop 0) = true := by decide +kernel
theorem eok_17 (k : Nat) : EOK 17 k := by
  by_cases h0 : k < 14
  · exact eok_of ck_17_0 (by omega) h0
  exact eok_none (nth_len (by show (cd_17).length ≤ k; exact Nat.le_trans (Nat.le_of_eq rfl) (Nat.not_lt.mp h0)))
set_option maxRecDepth 100000 in
theorem ck_18_0 : ckL 18 (mC 18) 29 ((cd 18).drop 0) = true := by decide +kernel
theorem eok_18 (k : Nat) : EOK 18 k := by
  by_cases h0 : k < 29
  · exact eok_of ck_18_0 (by omega) h0
  exact eok_none (nth_len (by show (cd_18).length ≤ k; exact Nat.le_trans (Nat.le_of_eq rfl) (Nat.not_lt.mp h0)))
set_option maxRecDepth 100000 in
theorem ck_19_0 : ckL 19 (mC 19) 13 ((cd 19).drop 0) = true := by decide +kernel
theorem eok_19 (k : Nat) : EOK 19 k := by
  by_cases h0 : k < 13
  · exact eok_of ck_19_0 (by omega) h0
  exact eok_none (nth_len (by show (cd_19).length ≤ k; exact Nat.le_trans (Nat.le_of_eq rfl) (Nat.not_lt.mp h0)))
set_option maxRecDepth 100000 in
theorem ck_20_0 : ckL 20 (mC 20) 60 ((cd 20).drop 0) = true := by decide +kernel
set_option maxRecDepth 100000 in
theorem ck_20_60 : ckL 20 (mC 20) 7 ((cd 20).drop 60) = true := by decide +kernel
theorem eok_20 (k : Nat) : EOK 20 k := by
  by_cases h0 : k < 60
  · exact eok_of ck_20_0 (by omega) h0
  by_cases h60 : k < 67
  · exact eok_of ck_20_60 (by omega) h60
  exact eok_none (nth_len (by show (cd_20).length ≤ k; exact Nat.le_trans (Nat.le_of_eq rfl) (Nat.not_lt.mp h60)))
set_option maxRecDepth 100000 in
theorem ck_21_0 : ckL 21 (mC 21) 14 ((cd 21).drop 0) = true := by decide +kernel
theorem eok_21 (k : Nat) : EOK 21 k := by
  by_cases h0 : k < 14
  · exact eok_of ck_21_0 (by omega) h0
  exact eok_none (nth_len (by show (cd_21).length ≤ k; exact Nat.le_trans (Nat.le_of_eq rfl) (Nat.not_lt.mp h0)))
set_option maxRecDepth 100000 in
theorem ck_22_0 : ckL 22 (mC 22) 20 ((cd 22).drop 0) = true := by decide +kernel
theorem eok_22 (k : Nat) : EOK 22 k := by
  by_cases h0 : k < 20
  · exact eok_of ck_22_0 (by omega) h0
  exact eok_none (nth_len (by show (cd_22).length ≤ k; exact Nat.le_trans (Nat.le_of_eq rfl) (Nat.not_lt.mp h0)))
set_option maxRecDepth 100000 in
theorem ck_23_0 : ckL 23 (mC 23) 27 ((cd 23).drop 0) = true := by decide +kernel
theorem eok_23 (k : Nat) : EOK 23 k := by
  by_cases h0 : k < 27
  · exact eok_of ck_23_0 (by omega) h0
  exact eok_none (nth_len (by show (cd_23).length ≤ k; exact Nat.le_trans (Nat.le_of_eq rfl) (Nat.not_lt.mp h0)))
set_option maxRecDepth 100000 in
theorem ck_24_0 : ckL 24 (mC 24) 35 ((cd 24).drop 0) = true := by decide +kernel
theorem eok_24 (k : Nat) : EOK 24 k := by
  by_cases h0 : k < 35
  · exact eok_of ck_24_0 (by omega) h0
  exact eok_none (nth_len (by show (cd_24).length ≤ k; exact Nat.le_trans (Nat.le_of_eq rfl) (Nat.not_lt.mp h0)))
set_option maxRecDepth 100000 in
theorem ck_25_0 : ckL 25 (mC 25) 60 ((cd 25).drop 0) = true := by decide +kernel
set_option maxRecDepth 100000 in
theorem ck_25_60 : ckL 25 (mC 25) 1 ((cd 25).drop 60) = true := by decide +kernel
theorem eok_25 (k : Nat) : EOK 25 k := by
  by_cases h0 : k < 60
  · exact eok_of ck_25_0 (by omega) h0
  by_cases h60 : k < 61
  · exact eok_of ck_25_60 (by omega) h60
  exact eok_none (nth_len (by show (cd_25).length ≤ k; exact Nat.le_trans (Nat.le_of_eq rfl) (Nat.not_lt.mp h60)))
set_option maxRecDepth 100000 in
theorem ck_26_0 : ckL 26 (mC 26) 9 ((cd 26).drop 0) = true := by decide +kernel
theorem eok_26 (k : Nat) : EOK 26 k := by
  by_cases h0 : k < 9
  · exact eok_of ck_26_0 (by omega) h0
  exact eok_none (nth_len (by show (cd_26).length ≤ k; exact Nat.le_trans (Nat.le_of_eq rfl) (Nat.not_lt.mp h0)))
set_option maxRecDepth 100000 in
theorem ck_27_0 : ckL 27 (mC 27) 9 ((cd 27).drop 0) = true := by decide +kernel
theorem eok_27 (k : Nat) : EOK 27 k := by
  by_cases h0 : k < 9
  · exact eok_of ck_27_0 (by omega) h0
  exact eok_none (nth_len (by show (cd_27).length ≤ k; exact Nat.le_trans (Nat.le_of_eq rfl) (Nat.not_lt.mp h0)))
set_option maxRecDepth 100000 in
theorem ck_28_0 : ckL 28 (mC 28) 10 ((cd 28).drop 0) = true := by decide +kernel
theorem eok_28 (k : Nat) : EOK 28 k := by
  by_cases h0 : k < 10
  · exact eok_of ck_28_0 (by omega) h0
  exact eok_none (nth_len (by show (cd_28).length ≤ k; exact Nat.le_trans (Nat.le_of_eq rfl) (Nat.not_lt.mp h0)))
set_option maxRecDepth 100000 in
theorem ck_29_0 : ckL 29 (mC 29) 60 ((cd 29).drop 0) = true := by decide +kernel
set_option maxRecDepth 100000 in
theorem ck_29_60 : ckL 29 (mC 29) 4 ((cd 29).drop 60) = true := by decide +kernel
theorem eok_29 (k : Nat) : EOK 29 k := by
  by_cases h0 : k < 60
  · exact eok_of ck_29_0 (by omega) h0
  by_cases h60 : k < 64
  · exact eok_of ck_29_60 (by omega) h60
  exact eok_none (nth_len (by show (cd_29).length ≤ k; exact Nat.le_trans (Nat.le_of_eq rfl) (Nat.not_lt.mp h60)))
set_option maxRecDepth 100000 in
theorem ck_30_0 : ckL 30 (mC 30) 46 ((cd 30).drop 0) = true := by decide +kernel
theorem eok_30 (k : Nat) : EOK 30 k := by
  by_cases h0 : k < 46
  · exact eok_of ck_30_0 (by omega) h0
  exact eok_none (nth_len (by show (cd_30).length ≤ k; exact Nat.le_trans (Nat.le_of_eq rfl) (Nat.not_lt.mp h0)))
set_option maxRecDepth 100000 in
theorem ck_31_0 : ckL 31 (mC 31) 60 ((cd 31).drop 0) = true := by decide +kernel
set_option maxRecDepth 100000 in
theorem ck_31_60 : ckL 31 (mC 31) 44 ((cd 31).drop 60) = true := by decide +kernel
theorem eok_31 (k : Nat) : EOK 31 k := by
  by_cases h0 : k < 60
  · exact eok_of ck_31_0 (by omega) h0
  by_cases h60 : k < 104
  · exact eok_of ck_31_60 (by omega) h60
  exact eok_none (nth_len (by show (cd_31).length ≤ k; exact Nat.le_trans (Nat.le_of_eq rfl) (Nat.not_lt.mp h60)))
set_option maxRecDepth 100000 in
theorem ck_32_0 : ckL 32 (mC 32) 10 ((cd 32).drop 0) = true := by decide +kernel
theorem eok_32 (k : Nat) : EOK 32 k := by
  by_cases h0 : k < 10
  · exact eok_of ck_32_0 (by omega) h0
  exact eok_none (nth_len (by show (cd_32).length ≤ k; exact Nat.le_trans (Nat.le_of_eq rfl) (Nat.not_lt.mp h0)))
set_option maxRecDepth 100000 in
theorem ck_33_0 : ckL 33 (mC 33) 19 ((cd 33).drop 0) = true := by decide +kernel
theorem eok_33 (k : Nat) : EOK 33 k := by
  by_cases h0 : k < 19
  · exact eok_of ck_33_0 (by omega) h0
  exact eok_none (nth_len (by show (cd_33).length ≤ k; exact Nat.le_trans (Nat.le_of_eq rfl) (Nat.not_lt.mp h0)))
set_option maxRecDepth 100000 in
theorem ck_34_0 : ckL 34 (mC 34) 14 ((cd 34).drop 0) = true := by decide +kernel
theorem eok_34 (k : Nat) : EOK 34 k := by
  by_cases h0 : k < 14
  · exact eok_of ck_34_0 (by omega) h0
  exact eok_none (nth_len (by show (cd_34).length ≤ k; exact Nat.le_trans (Nat.le_of_eq rfl) (Nat.not_lt.mp h0)))
set_option maxRecDepth 100000 in
theorem ck_35_0 : ckL 35 (mC 35) 32 ((cd 35).drop 0) = true := by decide +kernel
theorem eok_35 (k : Nat) : EOK 35 k := by
  by_cases h0 : k < 32
  · exact eok_of ck_35_0 (by omega) h0
  exact eok_none (nth_len (by show (cd_35).length ≤ k; exact Nat.le_trans (Nat.le_of_eq rfl) (Nat.not_lt.mp h0)))
set_option maxRecDepth 100000 in
theorem ck_36_0 : ckL 36 (mC 36) 28 ((cd 36).drop 0) = true := by decide +kernel
theorem eok_36 (k : Nat) : EOK 36 k := by
  by_cases h0 : k < 28
  · exact eok_of ck_36_0 (by omega) h0
  exact eok_none (nth_len (by show (cd_36).length ≤ k; exact Nat.le_trans (Nat.le_of_eq rfl) (Nat.not_lt.mp h0)))
set_option maxRecDepth 100000 in
theorem ck_37_0 : ckL 37 (mC 37) 60 ((cd 37).drop 0) = true := by decide +kernel
theorem eok_37 (k : Nat) : EOK 37 k := by
  by_cases h0 : k < 60
  · exact eok_of ck_37_0 (by omega) h0
  exact eok_none (nth_len (by show (cd_37).length ≤ k; exact Nat.le_trans (Nat.le_of_eq rfl) (Nat.not_lt.mp h0)))
set_option maxRecDepth 100000 in
theorem ck_38_0 : ckL 38 (mC 38) 20 ((cd 38).drop 0) = true := by decide +kernel
theorem eok_38 (k : Nat) : EOK 38 k := by
  by_cases h0 : k < 20
  · exact eok_of ck_38_0 (by omega) h0
  exact eok_none (nth_len (by show (cd_38).length ≤ k; exact Nat.le_trans (Nat.le_of_eq rfl) (Nat.not_lt.mp h0)))
set_option maxRecDepth 100000 in
theorem ck_39_0 : ckL 39 (mC 39) 58 ((cd 39).drop 0) = true := by decide +kernel
theorem eok_39 (k : Nat) : EOK 39 k := by
  by_cases h0 : k < 58
  · exact eok_of ck_39_0 (by omega) h0
  exact eok_none (nth_len (by show (cd_39).length ≤ k; exact Nat.le_trans (Nat.le_of_eq rfl) (Nat.not_lt.mp h0)))
set_option maxRecDepth 100000 in
theorem ck_40_0 : ckL 40 (mC 40) 50 ((cd 40).drop 0) = true := by decide +kernel
theorem eok_40 (k : Nat) : EOK 40 k := by
  by_cases h0 : k < 50
  · exact eok_of ck_40_0 (by omega) h0
  exact eok_none (nth_len (by show (cd_40).length ≤ k; exact Nat.le_trans (Nat.le_of_eq rfl) (Nat.not_lt.mp h0)))
set_option maxRecDepth 100000 in
theorem ck_41_0 : ckL 41 (mC 41) 60 ((cd 41).drop 0) = true := by decide +kernel
set_option maxRecDepth 100000 in
theorem ck_41_60 : ckL 41 (mC 41) 7 ((cd 41).drop 60) = true := by decide +kernel
theorem eok_41 (k : Nat) : EOK 41 k := by
  by_cases h0 : k < 60
  · exact eok_of ck_41_0 (by omega) h0
  by_cases h60 : k < 67
  · exact eok_of ck_41_60 (by omega) h60
  exact eok_none (nth_len (by show (cd_41).length ≤ k; exact Nat.le_trans (Nat.le_of_eq rfl) (Nat.not_lt.mp h60)))
set_option maxRecDepth 100000 in
theorem ck_42_0 : ckL 42 (mC 42) 55 ((cd 42).drop 0) = true := by decide +kernel
theorem eok_42 (k : Nat) : EOK 42 k := by
  by_cases h0 : k < 55
  · exact eok_of ck_42_0 (by omega) h0
  exact eok_none (nth_len (by show (cd_42).length ≤ k; exact Nat.le_trans (Nat.le_of_eq rfl) (Nat.not_lt.mp h0)))
set_option maxRecDepth 100000 in
theorem ck_43_0 : ckL 43 (mC 43) 38 ((cd 43).drop 0) = true := by decide +kernel
theorem eok_43 (k : Nat) : EOK 43 k := by
  by_cases h0 : k < 38
  · exact eok_of ck_43_0 (by omega) h0
  exact eok_none (nth_len (by show (cd_43).length ≤ k; exact Nat.le_trans (Nat.le_of_eq rfl) (Nat.not_lt.mp h0)))
set_option maxRecDepth 100000 in
theorem ck_44_0 : ckL 44 (mC 44) 11 ((cd 44).drop 0) = true := by decide +kernel
theorem eok_44 (k : Nat) : EOK 44 k := by
  by_cases h0 : k < 11
  · exact eok_of ck_44_0 (by omega) h0
  exact eok_none (nth_len (by show (cd_44).length ≤ k; exact Nat.le_trans (Nat.le_of_eq rfl) (Nat.not_lt.mp h0)))
set_option maxRecDepth 100000 in
theorem ck_45_0 : ckL 45 (mC 45) 21 ((cd 45).drop 0) = true := by decide +kernel
theorem eok_45 (k : Nat) : EOK 45 k := by
  by_cases h0 : k < 21
  · exact eok_of ck_45_0 (by omega) h0
  exact eok_none (nth_len (by show (cd_45).length ≤ k; exact Nat.le_trans (Nat.le_of_eq rfl) (Nat.not_lt.mp h0)))
set_option maxRecDepth 100000 in
theorem ck_46_0 : ckL 46 (mC 46) 27 ((cd 46).drop 0) = true := by decide +kernel
theorem eok_46 (k : Nat) : EOK 46 k := by
  by_cases h0 : k < 27
  · exact eok_of ck_46_0 (by omega) h0
  exact eok_none (nth_len (by show (cd_46).length ≤ k; exact Nat.le_trans (Nat.le_of_eq rfl) (Nat.not_lt.mp h0)))
set_option maxRecDepth 100000 in
theorem ck_47_0 : ckL 47 (mC 47) 27 ((cd 47).drop 0) = true := by decide +kernel
theorem eok_47 (k : Nat) : EOK 47 k := by
  by_cases h0 : k < 27
  · exact eok_of ck_47_0 (by omega) h0
  exact eok_none (nth_len (by show (cd_47).length ≤ k; exact Nat.le_trans (Nat.le_of_eq rfl) (Nat.not_lt.mp h0)))
set_option maxRecDepth 100000 in
theorem ck_48_0 : ckL 48 (mC 48) 23 ((cd 48).drop 0) = true := by decide +kernel
theorem eok_48 (k : Nat) : EOK 48 k := by
  by_cases h0 : k < 23
  · exact eok_of ck_48_0 (by omega) h0
  exact eok_none (nth_len (by show (cd_48).length ≤ k; exact Nat.le_trans (Nat.le_of_eq rfl) (Nat.not_lt.mp h0)))
set_option maxRecDepth 100000 in
theorem ck_49_0 : ckL 49 (mC 49) 15 ((cd 49).drop 0) = true := by decide +kernel
theorem eok_49 (k : Nat) : EOK 49 k := by
  by_cases h0 : k < 15
  · exact eok_of ck_49_0 (by omega) h0
  exact eok_none (nth_len (by show (cd_49).length ≤ k; exact Nat.le_trans (Nat.le_of_eq rfl) (Nat.not_lt.mp h0)))
set_option maxRecDepth 100000 in
theorem ck_50_0 : ckL 50 (mC 50) 4 ((cd 50).drop 0) = true := by decide +kernel
theorem eok_50 (k : Nat) : EOK 50 k := by
  by_cases h0 : k < 4
  · exact eok_of ck_50_0 (by omega) h0
  exact eok_none (nth_len (by show (cd_50).length ≤ k; exact Nat.le_trans (Nat.le_of_eq rfl) (Nat.not_lt.mp h0)))
set_option maxRecDepth 100000 in
theorem ck_51_0 : ckL 51 (mC 51) 3 ((cd 51).drop 0) = true := by decide +kernel
theorem eok_51 (k : Nat) : EOK 51 k := by
  by_cases h0 : k < 3
  · exact eok_of ck_51_0 (by omega) h0
  exact eok_none (nth_len (by show (cd_51).length ≤ k; exact Nat.le_trans (Nat.le_of_eq rfl) (Nat.not_lt.mp h0)))
set_option maxRecDepth 100000 in
theorem ck_52_0 : ckL 52 (mC 52) 13 ((cd 52).drop 0) = true := by decide +kernel
theorem eok_52 (k : Nat) : EOK 52 k := by
  by_cases h0 : k < 13
  · exact eok_of ck_52_0 (by omega) h0
  exact eok_none (nth_len (by show (cd_52).length ≤ k; exact Nat.le_trans (Nat.le_of_eq rfl) (Nat.not_lt.mp h0)))
set_option maxRecDepth 100000 in
theorem ck_53_0 : ckL 53 (mC 53) 5 ((cd 53).drop 0) = true := by decide +kernel
theorem eok_53 (k : Nat) : EOK 53 k := by
  by_cases h0 : k < 5
  · exact eok_of ck_53_0 (by omega) h0
  exact eok_none (nth_len (by show (cd_53).length ≤ k; exact Nat.le_trans (Nat.le_of_eq rfl) (Nat.not_lt.mp h0)))
set_option maxRecDepth 100000 in
theorem ck_54_0 : ckL 54 (mC 54) 60 ((cd 54).drop 0) = true := by decide +kernel
set_option maxRecDepth 100000 in
theorem ck_54_60 : ckL 54 (mC 54) 17 ((cd 54).drop 60) = true := by decide +kernel
theorem eok_54 (k : Nat) : EOK 54 k := by
  by_cases h0 : k < 60
  · exact eok_of ck_54_0 (by omega) h0
  by_cases h60 : k < 77
  · exact eok_of ck_54_60 (by omega) h60
  exact eok_none (nth_len (by show (cd_54).length ≤ k; exact Nat.le_trans (Nat.le_of_eq rfl) (Nat.not_lt.mp h60)))
set_option maxRecDepth 100000 in
theorem ck_55_0 : ckL 55 (mC 55) 48 ((cd 55).drop 0) = true := by decide +kernel
theorem eok_55 (k : Nat) : EOK 55 k := by
  by_cases h0 : k < 48
  · exact eok_of ck_55_0 (by omega) h0
  exact eok_none (nth_len (by show (cd_55).length ≤ k; exact Nat.le_trans (Nat.le_of_eq rfl) (Nat.not_lt.mp h0)))
set_option maxRecDepth 100000 in
theorem ck_56_0 : ckL 56 (mC 56) 34 ((cd 56).drop 0) = true := by decide +kernel
theorem eok_56 (k : Nat) : EOK 56 k := by
  by_cases h0 : k < 34
  · exact eok_of ck_56_0 (by omega) h0
  exact eok_none (nth_len (by show (cd_56).length ≤ k; exact Nat.le_trans (Nat.le_of_eq rfl) (Nat.not_lt.mp h0)))
set_option maxRecDepth 100000 in
theorem ck_57_0 : ckL 57 (mC 57) 60 ((cd 57).drop 0) = true := by decide +kernel
set_option maxRecDepth 100000 in
theorem ck_57_60 : ckL 57 (mC 57) 27 ((cd 57).drop 60) = true := by decide +kernel
theorem eok_57 (k : Nat) : EOK 57 k := by
  by_cases h0 : k < 60
  · exact eok_of ck_57_0 (by omega) h0
  by_cases h60 : k < 87
  · exact eok_of ck_57_60 (by omega) h60
  exact eok_none (nth_len (by show (cd_57).length ≤ k; exact Nat.le_trans (Nat.le_of_eq rfl) (Nat.not_lt.mp h60)))
set_option maxRecDepth 100000 in
theorem ck_58_0 : ckL 58 (mC 58) 6 ((cd 58).drop 0) = true := by decide +kernel
theorem eok_58 (k : Nat) : EOK 58 k := by
  by_cases h0 : k < 6
  · exact eok_of ck_58_0 (by omega) h0
  exact eok_none (nth_len (by show (cd_58).length ≤ k; exact Nat.le_trans (Nat.le_of_eq rfl) (Nat.not_lt.mp h0)))
set_option maxRecDepth 100000 in
theorem ck_59_0 : ckL 59 (mC 59) 10 ((cd 59).drop 0) = true := by decide +kernel
theorem eok_59 (k : Nat) : EOK 59 k := by
  by_cases h0 : k < 10
  · exact eok_of ck_59_0 (by omega) h0
  exact eok_none (nth_len (by show (cd_59).length ≤ k; exact Nat.le_trans (Nat.le_of_eq rfl) (Nat.not_lt.mp h0)))
set_option maxRecDepth 100000 in
theorem ck_60_0 : ckL 60 (mC 60) 8 ((cd 60).drop 0) = true := by decide +kernel
theorem eok_60 (k : Nat) : EOK 60 k := by
  by_cases h0 : k < 8
  · exact eok_of ck_60_0 (by omega) h0
  exact eok_none (nth_len (by show (cd_60).length ≤ k; exact Nat.le_trans (Nat.le_of_eq rfl) (Nat.not_lt.mp h0)))
set_option maxRecDepth 100000 in
theorem ck_61_0 : ckL 61 (mC 61) 25 ((cd 61).drop 0) = true := by decide +kernel
theorem eok_61 (k : Nat) : EOK 61 k := by
  by_cases h0 : k < 25
  · exact eok_of ck_61_0 (by omega) h0
  exact eok_none (nth_len (by show (cd_61).length ≤ k; exact Nat.le_trans (Nat.le_of_eq rfl) (Nat.not_lt.mp h0)))
set_option maxRecDepth 100000 in
theorem ck_62_0 : ckL 62 (mC 62) 22 ((cd 62).drop 0) = true := by decide +kernel
theorem eok_62 (k : Nat) : EOK 62 k := by
  by_cases h0 : k < 22
  · exact eok_of ck_62_0 (by omega) h0
  exact eok_none (nth_len (by show (cd_62).length ≤ k; exact Nat.le_trans (Nat.le_of_eq rfl) (Nat.not_lt.mp h0)))
set_option maxRecDepth 100000 in
theorem ck_63_0 : ckL 63 (mC 63) 11 ((cd 63).drop 0) = true := by decide +kernel
theorem eok_63 (k : Nat) : EOK 63 k := by
  by_cases h0 : k < 11
  · exact eok_of ck_63_0 (by omega) h0
  exact eok_none (nth_len (by show (cd_63).length ≤ k; exact Nat.le_trans (Nat.le_of_eq rfl) (Nat.not_lt.mp h0)))
set_option maxRecDepth 100000 in
theorem ck_64_0 : ckL 64 (mC 64) 6 ((cd 64).drop 0) = true := by decide +kernel
theorem eok_64 (k : Nat) : EOK 64 k := by
  by_cases h0 : k < 6
  · exact eok_of ck_64_0 (by omega) h0
  exact eok_none (nth_len (by show (cd_64).length ≤ k; exact Nat.le_trans (Nat.le_of_eq rfl) (Nat.not_lt.mp h0)))
set_option maxRecDepth 100000 in
theorem ck_65_0 : ckL 65 (mC 65) 12 ((cd 65).drop 0) = true := by decide +kernel
theorem eok_65 (k : Nat) : EOK 65 k := by
  by_cases h0 : k < 12
  · exact eok_of ck_65_0 (by omega) h0
  exact eok_none (nth_len (by show (cd_65).length ≤ k; exact Nat.le_trans (Nat.le_of_eq rfl) (Nat.not_lt.mp h0)))
set_option maxRecDepth 100000 in
theorem ck_66_0 : ckL 66 (mC 66) 19 ((cd 66).drop 0) = true := by decide +kernel
theorem eok_66 (k : Nat) : EOK 66 k := by
  by_cases h0 : k < 19
  · exact eok_of ck_66_0 (by omega) h0
  exact eok_none (nth_len (by show (cd_66).length ≤ k; exact Nat.le_trans (Nat.le_of_eq rfl) (Nat.not_lt.mp h0)))
set_option maxRecDepth 100000 in
theorem ck_67_0 : ckL 67 (mC 67) 18 ((cd 67).drop 0) = true := by decide +kernel
theorem eok_67 (k : Nat) : EOK 67 k := by
  by_cases h0 : k < 18
  · exact eok_of ck_67_0 (by omega) h0
  exact eok_none (nth_len (by show (cd_67).length ≤ k; exact Nat.le_trans (Nat.le_of_eq rfl) (Nat.not_lt.mp h0)))
set_option maxRecDepth 100000 in
theorem ck_68_0 : ckL 68 (mC 68) 26 ((cd 68).drop 0) = true := by decide +kernel
theorem eok_68 (k : Nat) : EOK 68 k := by
  by_cases h0 : k < 26
  · exact eok_of ck_68_0 (by omega) h0
  exact eok_none (nth_len (by show (cd_68).length ≤ k; exact Nat.le_trans (Nat.le_of_eq rfl) (Nat.not_lt.mp h0)))
set_option maxRecDepth 100000 in
theorem ck_69_0 : ckL 69 (mC 69) 24 ((cd 69).drop 0) = true := by decide +kernel
theorem eok_69 (k : Nat) : EOK 69 k := by
  by_cases h0 : k < 24
  · exact eok_of ck_69_0 (by omega) h0
  exact eok_none (nth_len (by show (cd_69).length ≤ k; exact Nat.le_trans (Nat.le_of_eq rfl) (Nat.not_lt.mp h0)))
set_option maxRecDepth 100000 in
theorem ck_70_0 : ckL 70 (mC 70) 37 ((cd 70).drop 0) = true := by decide +kernel
theorem eok_70 (k : Nat) : EOK 70 k := by
  by_cases h0 : k < 37
  · exact eok_of ck_70_0 (by omega) h0
  exact eok_none (nth_len (by show (cd_70).length ≤ k; exact Nat.le_trans (Nat.le_of_eq rfl) (Nat.not_lt.mp h0)))
set_option maxRecDepth 100000 in
theorem ck_71_0 : ckL 71 (mC 71) 33 ((cd 71).drop 0) = true := by decide +kernel
theorem eok_71 (k : Nat) : EOK 71 k := by
  by_cases h0 : k < 33
  · exact eok_of ck_71_0 (by omega) h0
  exact eok_none (nth_len (by show (cd_71).length ≤ k; exact Nat.le_trans (Nat.le_of_eq rfl) (Nat.not_lt.mp h0)))
set_option maxRecDepth 100000 in
theorem ck_72_0 : ckL 72 (mC 72) 28 ((cd 72).drop 0) = true := by decide +kernel
theorem eok_72 (k : Nat) : EOK 72 k := by
  by_cases h0 : k < 28
  · exact eok_of ck_72_0 (by omega) h0
  exact eok_none (nth_len (by show (cd_72).length ≤ k; exact Nat.le_trans (Nat.le_of_eq rfl) (Nat.not_lt.mp h0)))
set_option maxRecDepth 100000 in
theorem ck_73_0 : ckL 73 (mC 73) 10 ((cd 73).drop 0) = true := by decide +kernel
theorem eok_73 (k : Nat) : EOK 73 k := by
  by_cases h0 : k < 10
  · exact eok_of ck_73_0 (by omega) h0
  exact eok_none (nth_len (by show (cd_73).length ≤ k; exact Nat.le_trans (Nat.le_of_eq rfl) (Nat.not_lt.mp h0)))
set_option maxRecDepth 100000 in
theorem ck_74_0 : ckL 74 (mC 74) 36 ((cd 74).drop 0) = true := by decide +kernel
theorem eok_74 (k : Nat) : EOK 74 k := by
  by_cases h0 : k < 36
  · exact eok_of ck_74_0 (by omega) h0
  exact eok_none (nth_len (by show (cd_74).length ≤ k; exact Nat.le_trans (Nat.le_of_eq rfl) (Nat.not_lt.mp h0)))
set_option maxRecDepth 100000 in
theorem ck_75_0 : ckL 75 (mC 75) 15 ((cd 75).drop 0) = true := by decide +kernel
theorem eok_75 (k : Nat) : EOK 75 k := by
  by_cases h0 : k < 15
  · exact eok_of ck_75_0 (by omega) h0
  exact eok_none (nth_len (by show (cd_75).length ≤ k; exact Nat.le_trans (Nat.le_of_eq rfl) (Nat.not_lt.mp h0)))
set_option maxRecDepth 100000 in
theorem ck_76_0 : ckL 76 (mC 76) 10 ((cd 76).drop 0) = true := by decide +kernel
theorem eok_76 (k : Nat) : EOK 76 k := by
  by_cases h0 : k < 10
  · exact eok_of ck_76_0 (by omega) h0
  exact eok_none (nth_len (by show (cd_76).length ≤ k; exact Nat.le_trans (Nat.le_of_eq rfl) (Nat.not_lt.mp h0)))
set_option maxRecDepth 100000 in
theorem ck_77_0 : ckL 77 (mC 77) 6 ((cd 77).drop 0) = true := by decide +kernel
theorem eok_77 (k : Nat) : EOK 77 k := by
  by_cases h0 : k < 6
  · exact eok_of ck_77_0 (by omega) h0
  exact eok_none (nth_len (by show (cd_77).length ≤ k; exact Nat.le_trans (Nat.le_of_eq rfl) (Nat.not_lt.mp h0)))
set_option maxRecDepth 100000 in
theorem ck_78_0 : ckL 78 (mC 78) 20 ((cd 78).drop 0) = true := by decide +kernel
theorem eok_78 (k : Nat) : EOK 78 k := by
  by_cases h0 : k < 20
  · exact eok_of ck_78_0 (by omega) h0
  exact eok_none (nth_len (by show (cd_78).length ≤ k; exact Nat.le_trans (Nat.le_of_eq rfl) (Nat.not_lt.mp h0)))
set_option maxRecDepth 100000 in
theorem ck_79_0 : ckL 79 (mC 79) 25 ((cd 79).drop 0) = true := by decide +kernel
theorem eok_79 (k : Nat) : EOK 79 k := by
  by_cases h0 : k < 25
  · exact eok_of ck_79_0 (by omega) h0
  exact eok_none (nth_len (by show (cd_79).length ≤ k; exact Nat.le_trans (Nat.le_of_eq rfl) (Nat.not_lt.mp h0)))
set_option maxRecDepth 100000 in
theorem ck_80_0 : ckL 80 (mC 80) 23 ((cd 80).drop 0) = true := by decide +kernel
theorem eok_80 (k : Nat) : EOK 80 k := by
  by_cases h0 : k < 23
  · exact eok_of ck_80_0 (by omega) h0
  exact eok_none (nth_len (by show (cd_80).length ≤ k; exact Nat.le_trans (Nat.le_of_eq rfl) (Nat.not_lt.mp h0)))
set_option maxRecDepth 100000 in
theorem ck_81_0 : ckL 81 (mC 81) 6 ((cd 81).drop 0) = true := by decide +kernel
theorem eok_81 (k : Nat) : EOK 81 k := by
  by_cases h0 : k < 6
  · exact eok_of ck_81_0 (by omega) h0
  exact eok_none (nth_len (by show (cd_81).length ≤ k; exact Nat.le_trans (Nat.le_of_eq rfl) (Nat.not_lt.mp h0)))
set_option maxRecDepth 100000 in
theorem ck_82_0 : ckL 82 (mC 82) 24 ((cd 82).drop 0) = true := by decide +kernel
theorem eok_82 (k : Nat) : EOK 82 k := by
  by_cases h0 : k < 24
  · exact eok_of ck_82_0 (by omega) h0
  exact eok_none (nth_len (by show (cd_82).length ≤ k; exact Nat.le_trans (Nat.le_of_eq rfl) (Nat.not_lt.mp h0)))
set_option maxRecDepth 100000 in
theorem ck_83_0 : ckL 83 (mC 83) 42 ((cd 83).drop 0) = true := by decide +kernel
theorem eok_83 (k : Nat) : EOK 83 k := by
  by_cases h0 : k < 42
  · exact eok_of ck_83_0 (by omega) h0
  exact eok_none (nth_len (by show (cd_83).length ≤ k; exact Nat.le_trans (Nat.le_of_eq rfl) (Nat.not_lt.mp h0)))
set_option maxRecDepth 100000 in
theorem ck_84_0 : ckL 84 (mC 84) 31 ((cd 84).drop 0) = true := by decide +kernel
theorem eok_84 (k : Nat) : EOK 84 k := by
  by_cases h0 : k < 31
  · exact eok_of ck_84_0 (by omega) h0
  exact eok_none (nth_len (by show (cd_84).length ≤ k; exact Nat.le_trans (Nat.le_of_eq rfl) (Nat.not_lt.mp h0)))
set_option maxRecDepth 100000 in
theorem ck_85_0 : ckL 85 (mC 85) 35 ((cd 85).drop 0) = true := by decide +kernel
theorem eok_85 (k : Nat) : EOK 85 k := by
  by_cases h0 : k < 35
  · exact eok_of ck_85_0 (by omega) h0
  exact eok_none (nth_len (by show (cd_85).length ≤ k; exact Nat.le_trans (Nat.le_of_eq rfl) (Nat.not_lt.mp h0)))
set_option maxRecDepth 100000 in
theorem ck_86_0 : ckL 86 (mC 86) 60 ((cd 86).drop 0) = true := by decide +kernel
set_option maxRecDepth 100000 in
theorem ck_86_60 : ckL 86 (mC 86) 15 ((cd 86).drop 60) = true := by decide +kernel
theorem eok_86 (k : Nat) : EOK 86 k := by
  by_cases h0 : k < 60
  · exact eok_of ck_86_0 (by omega) h0
  by_cases h60 : k < 75
  · exact eok_of ck_86_60 (by omega) h60
  exact eok_none (nth_len (by show (cd_86).length ≤ k; exact Nat.le_trans (Nat.le_of_eq rfl) (Nat.not_lt.mp h60)))
set_option maxRecDepth 100000 in
theorem ck_87_0 : ckL 87 (mC 87) 58 ((cd 87).drop 0) = true := by decide +kernel
theorem eok_87 (k : Nat) : EOK 87 k := by
  by_cases h0 : k < 58
  · exact eok_of ck_87_0 (by omega) h0
  exact eok_none (nth_len (by show (cd_87).length ≤ k; exact Nat.le_trans (Nat.le_of_eq rfl) (Nat.not_lt.mp h0)))
set_option maxRecDepth 100000 in
theorem ck_88_0 : ckL 88 (mC 88) 58 ((cd 88).drop 0) = true := by decide +kernel
theorem eok_88 (k : Nat) : EOK 88 k := by
  by_cases h0 : k < 58
  · exact eok_of ck_88_0 (by omega) h0
  exact eok_none (nth_len (by show (cd_88).length ≤ k; exact Nat.le_trans (Nat.le_of_eq rfl) (Nat.not_lt.mp h0)))
set_option maxRecDepth 100000 in
theorem ck_89_0 : ckL 89 (mC 89) 6 ((cd 89).drop 0) = true := by decide +kernel
theorem eok_89 (k : Nat) : EOK 89 k := by
  by_cases h0 : k < 6
  · exact eok_of ck_89_0 (by omega) h0
  exact eok_none (nth_len (by show (cd_89).length ≤ k; exact Nat.le_trans (Nat.le_of_eq rfl) (Nat.not_lt.mp h0)))
set_option maxRecDepth 100000 in
theorem ck_90_0 : ckL 90 (mC 90) 10 ((cd 90).drop 0) = true := by decide +kernel
theorem eok_90 (k : Nat) : EOK 90 k := by
  by_cases h0 : k < 10
  · exact eok_of ck_90_0 (by omega) h0
  exact eok_none (nth_len (by show (cd_90).length ≤ k; exact Nat.le_trans (Nat.le_of_eq rfl) (Nat.not_lt.mp h0)))
set_option maxRecDepth 100000 in
theorem ck_91_0 : ckL 91 (mC 91) 8 ((cd 91).drop 0) = true := by decide +kernel
theorem eok_91 (k : Nat) : EOK 91 k := by
  by_cases h0 : k < 8
  · exact eok_of ck_91_0 (by omega) h0
  exact eok_none (nth_len (by show (cd_91).length ≤ k; exact Nat.le_trans (Nat.le_of_eq rfl) (Nat.not_lt.mp h0)))
set_option maxRecDepth 100000 in
theorem ck_92_0 : ckL 92 (mC 92) 43 ((cd 92).drop 0) = true := by decide +kernel
theorem eok_92 (k : Nat) : EOK 92 k := by
  by_cases h0 : k < 43
  · exact eok_of ck_92_0 (by omega) h0
  exact eok_none (nth_len (by show (cd_92).length ≤ k; exact Nat.le_trans (Nat.le_of_eq rfl) (Nat.not_lt.mp h0)))
set_option maxRecDepth 100000 in
theorem ck_93_0 : ckL 93 (mC 93) 16 ((cd 93).drop 0) = true := by decide +kernel
theorem eok_93 (k : Nat) : EOK 93 k := by
  by_cases h0 : k < 16
  · exact eok_of ck_93_0 (by omega) h0
  exact eok_none (nth_len (by show (cd_93).length ≤ k; exact Nat.le_trans (Nat.le_of_eq rfl) (Nat.not_lt.mp h0)))
set_option maxRecDepth 100000 in
theorem ck_94_0 : ckL 94 (mC 94) 7 ((cd 94).drop 0) = true := by decide +kernel
theorem eok_94 (k : Nat) : EOK 94 k := by
  by_cases h0 : k < 7
  · exact eok_of ck_94_0 (by omega) h0
  exact eok_none (nth_len (by show (cd_94).length ≤ k; exact Nat.le_trans (Nat.le_of_eq rfl) (Nat.not_lt.mp h0)))
set_option maxRecDepth 100000 in
theorem ck_95_0 : ckL 95 (mC 95) 5 ((cd 95).drop 0) = true := by decide +kernel
theorem eok_95 (k : Nat) : EOK 95 k := by
  by_cases h0 : k < 5
  · exact eok_of ck_95_0 (by omega) h0
  exact eok_none (nth_len (by show (cd_95).length ≤ k; exact Nat.le_trans (Nat.le_of_eq rfl) (Nat.not_lt.mp h0)))
set_option maxRecDepth 100000 in
theorem ck_96_0 : ckL 96 (mC 96) 52 ((cd 96).drop 0) = true := by decide +kernel
theorem eok_96 (k : Nat) : EOK 96 k := by
  by_cases h0 : k < 52
  · exact eok_of ck_96_0 (by omega) h0
  exact eok_none (nth_len (by show (cd_96).length ≤ k; exact Nat.le_trans (Nat.le_of_eq rfl) (Nat.not_lt.mp h0)))
set_option maxRecDepth 100000 in
theorem ck_97_0 : ckL 97 (mC 97) 18 ((cd 97).drop 0) = true := by decide +kernel
theorem eok_97 (k : Nat) : EOK 97 k := by
  by_cases h0 : k < 18
  · exact eok_of ck_97_0 (by omega) h0
  exact eok_none (nth_len (by show (cd_97).length ≤ k; exact Nat.le_trans (Nat.le_of_eq rfl) (Nat.not_lt.mp h0)))
set_option maxRecDepth 100000 in
theorem ck_98_0 : ckL 98 (mC 98) 23 ((cd 98).drop 0) = true := by decide +kernel
theorem eok_98 (k : Nat) : EOK 98 k := by
  by_cases h0 : k < 23
  · exact eok_of ck_98_0 (by omega) h0
  exact eok_none (nth_len (by show (cd_98).length ≤ k; exact Nat.le_trans (Nat.le_of_eq rfl) (Nat.not_lt.mp h0)))
set_option maxRecDepth 100000 in
theorem ck_99_0 : ckL 99 (mC 99) 60 ((cd 99).drop 0) = true := by decide +kernel
set_option maxRecDepth 100000 in
theorem ck_99_60 : ckL 99 (mC 99) 35 ((cd 99).drop 60) = true := by decide +kernel
theorem eok_99 (k : Nat) : EOK 99 k := by
  by_cases h0 : k < 60
  · exact eok_of ck_99_0 (by omega) h0
  by_cases h60 : k < 95
  · exact eok_of ck_99_60 (by omega) h60
  exact eok_none (nth_len (by show (cd_99).length ≤ k; exact Nat.le_trans (Nat.le_of_eq rfl) (Nat.not_lt.mp h60)))
set_option maxRecDepth 100000 in
theorem ck_100_0 : ckL 100 (mC 100) 6 ((cd 100).drop 0) = true := by decide +kernel
theorem eok_100 (k : Nat) : EOK 100 k := by
  by_cases h0 : k < 6
  · exact eok_of ck_100_0 (by omega) h0
  exact eok_none (nth_len (by show (cd_100).length ≤ k; exact Nat.le_trans (Nat.le_of_eq rfl) (Nat.not_lt.mp h0)))
set_option maxRecDepth 100000 in
theorem ck_101_0 : ckL 101 (mC 101) 10 ((cd 101).drop 0) = true := by decide +kernel
theorem eok_101 (k : Nat) : EOK 101 k := by
  by_cases h0 : k < 10
  · exact eok_of ck_101_0 (by omega) h0
  exact eok_none (nth_len (by show (cd_101).length ≤ k; exact Nat.le_trans (Nat.le_of_eq rfl) (Nat.not_lt.mp h0)))
set_option maxRecDepth 100000 in
theorem ck_102_0 : ckL 102 (mC 102) 8 ((cd 102).drop 0) = true := by decide +kernel
theorem eok_102 (k : Nat) : EOK 102 k := by
  by_cases h0 : k < 8
  · exact eok_of ck_102_0 (by omega) h0
  exact eok_none (nth_len (by show (cd_102).length ≤ k; exact Nat.le_trans (Nat.le_of_eq rfl) (Nat.not_lt.mp h0)))
set_option maxRecDepth 100000 in
theorem ck_103_0 : ckL 103 (mC 103) 34 ((cd 103).drop 0) = true := by decide +kernel
theorem eok_103 (k : Nat) : EOK 103 k := by
  by_cases h0 : k < 34
  · exact eok_of ck_103_0 (by omega) h0
  exact eok_none (nth_len (by show (cd_103).length ≤ k; exact Nat.le_trans (Nat.le_of_eq rfl) (Nat.not_lt.mp h0)))
set_option maxRecDepth 100000 in
theorem ck_104_0 : ckL 104 (mC 104) 8 ((cd 104).drop 0) = true := by decide +kernel
theorem eok_104 (k : Nat) : EOK 104 k := by
  by_cases h0 : k < 8
  · exact eok_of ck_104_0 (by omega) h0
  exact eok_none (nth_len (by show (cd_104).length ≤ k; exact Nat.le_trans (Nat.le_of_eq rfl) (Nat.not_lt.mp h0)))
set_option maxRecDepth 100000 in
theorem ck_105_0 : ckL 105 (mC 105) 7 ((cd 105).drop 0) = true := by decide +kernel
theorem eok_105 (k : Nat) : EOK 105 k := by
  by_cases h0 : k < 7
  · exact eok_of ck_105_0 (by omega) h0
  exact eok_none (nth_len (by show (cd_105).length ≤ k; exact Nat.le_trans (Nat.le_of_eq rfl) (Nat.not_lt.mp h0)))
set_option maxRecDepth 100000 in
theorem ck_106_0 : ckL 106 (mC 106) 12 ((cd 106).drop 0) = true := by decide +kernel
theorem eok_106 (k : Nat) : EOK 106 k := by
  by_cases h0 : k < 12
  · exact eok_of ck_106_0 (by omega) h0
  exact eok_none (nth_len (by show (cd_106).length ≤ k; exact Nat.le_trans (Nat.le_of_eq rfl) (Nat.not_lt.mp h0)))
set_option maxRecDepth 100000 in
theorem ck_107_0 : ckL 107 (mC 107) 5 ((cd 107).drop 0) = true := by decide +kernel
theorem eok_107 (k : Nat) : EOK 107 k := by
  by_cases h0 : k < 5
  · exact eok_of ck_107_0 (by omega) h0
  exact eok_none (nth_len (by show (cd_107).length ≤ k; exact Nat.le_trans (Nat.le_of_eq rfl) (Nat.not_lt.mp h0)))
set_option maxRecDepth 100000 in
theorem ck_108_0 : ckL 108 (mC 108) 15 ((cd 108).drop 0) = true := by decide +kernel
theorem eok_108 (k : Nat) : EOK 108 k := by
  by_cases h0 : k < 15
  · exact eok_of ck_108_0 (by omega) h0
  exact eok_none (nth_len (by show (cd_108).length ≤ k; exact Nat.le_trans (Nat.le_of_eq rfl) (Nat.not_lt.mp h0)))
set_option maxRecDepth 100000 in
theorem ck_109_0 : ckL 109 (mC 109) 60 ((cd 109).drop 0) = true := by decide +kernel
set_option maxRecDepth 100000 in
theorem ck_109_60 : ckL 109 (mC 109) 5 ((cd 109).drop 60) = true := by decide +kernel
theorem eok_109 (k : Nat) : EOK 109 k := by
  by_cases h0 : k < 60
  · exact eok_of ck_109_0 (by omega) h0
  by_cases h60 : k < 65
  · exact eok_of ck_109_60 (by omega) h60
  exact eok_none (nth_len (by show (cd_109).length ≤ k; exact Nat.le_trans (Nat.le_of_eq rfl) (Nat.not_lt.mp h60)))
set_option maxRecDepth 100000 in
theorem ck_110_0 : ckL 110 (mC 110) 60 ((cd 110).drop 0) = true := by decide +kernel
set_option maxRecDepth 100000 in
theorem ck_110_60 : ckL 110 (mC 110) 27 ((cd 110).drop 60) = true := by decide +kernel
theorem eok_110 (k : Nat) : EOK 110 k := by
  by_cases h0 : k < 60
  · exact eok_of ck_110_0 (by omega) h0
  by_cases h60 : k < 87
  · exact eok_of ck_110_60 (by omega) h60
  exact eok_none (nth_len (by show (cd_110).length ≤ k; exact Nat.le_trans (Nat.le_of_eq rfl) (Nat.not_lt.mp h60)))
set_option maxRecDepth 100000 in
theorem ck_111_0 : ckL 111 (mC 111) 60 ((cd 111).drop 0) = true := by decide +kernel
set_option maxRecDepth 100000 in
theorem ck_111_60 : ckL 111 (mC 111) 60 ((cd 111).drop 60) = true := by decide +kernel
set_option maxRecDepth 100000 in
theorem ck_111_120 : ckL 111 (mC 111) 24 ((cd 111).drop 120) = true := by decide +kernel
theorem eok_111 (k : Nat) : EOK 111 k := by
  by_cases h0 : k < 60
  · exact eok_of ck_111_0 (by omega) h0
  by_cases h60 : k < 120
  · exact eok_of ck_111_60 (by omega) h60
  by_cases h120 : k < 144
  · exact eok_of ck_111_120 (by omega) h120
  exact eok_none (nth_len (by show (cd_111).length ≤ k; exact Nat.le_trans (Nat.le_of_eq rfl) (Nat.not_lt.mp h120)))
set_option maxRecDepth 100000 in
theorem ck_112_0 : ckL 112 (mC 112) 56 ((cd 112).drop 0) = true := by decide +kernel
theorem eok_112 (k : Nat) : EOK 112 k := by
  by_cases h0 : k < 56
  · exact eok_of ck_112_0 (by omega) h0
  exact eok_none (nth_len (by show (cd_112).length ≤ k; exact Nat.le_trans (Nat.le_of_eq rfl) (Nat.not_lt.mp h0)))
set_option maxRecDepth 100000 in
theorem ck_113_0 : ckL 113 (mC 113) 60 ((cd 113).drop 0) = true := by decide +kernel
set_option maxRecDepth 100000 in
theorem ck_113_60 : ckL 113 (mC 113) 1 ((cd 113).drop 60) = true := by decide +kernel
theorem eok_113 (k : Nat) : EOK 113 k := by
  by_cases h0 : k < 60
  · exact eok_of ck_113_0 (by omega) h0
  by_cases h60 : k < 61
  · exact eok_of ck_113_60 (by omega) h60
  exact eok_none (nth_len (by show (cd_113).length ≤ k; exact Nat.le_trans (Nat.le_of_eq rfl) (Nat.not_lt.mp h60)))
set_option maxRecDepth 100000 in
theorem ck_114_0 : ckL 114 (mC 114) 40 ((cd 114).drop 0) = true := by decide +kernel
theorem eok_114 (k : Nat) : EOK 114 k := by
  by_cases h0 : k < 40
  · exact eok_of ck_114_0 (by omega) h0
  exact eok_none (nth_len (by show (cd_114).length ≤ k; exact Nat.le_trans (Nat.le_of_eq rfl) (Nat.not_lt.mp h0)))
set_option maxRecDepth 100000 in
theorem ck_115_0 : ckL 115 (mC 115) 40 ((cd 115).drop 0) = true := by decide +kernel
theorem eok_115 (k : Nat) : EOK 115 k := by
  by_cases h0 : k < 40
  · exact eok_of ck_115_0 (by omega) h0
  exact eok_none (nth_len (by show (cd_115).length ≤ k; exact Nat.le_trans (Nat.le_of_eq rfl) (Nat.not_lt.mp h0)))
set_option maxRecDepth 100000 in
theorem ck_116_0 : ckL 116 (mC 116) 60 ((cd 116).drop 0) = true := by decide +kernel
set_option maxRecDepth 100000 in
theorem ck_116_60 : ckL 116 (mC 116) 27 ((cd 116).drop 60) = true := by decide +kernel
theorem eok_116 (k : Nat) : EOK 116 k := by
  by_cases h0 : k < 60
  · exact eok_of ck_116_0 (by omega) h0
  by_cases h60 : k < 87
  · exact eok_of ck_116_60 (by omega) h60
  exact eok_none (nth_len (by show (cd_116).length ≤ k; exact Nat.le_trans (Nat.le_of_eq rfl) (Nat.not_lt.mp h60)))
set_option maxRecDepth 100000 in
theorem ck_117_0 : ckL 117 (mC 117) 60 ((cd 117).drop 0) = true := by decide +kernel
set_option maxRecDepth 100000 in
theorem ck_117_60 : ckL 117 (mC 117) 39 ((cd 117).drop 60) = true := by decide +kernel
theorem eok_117 (k : Nat) : EOK 117 k := by
  by_cases h0 : k < 60
  · exact eok_of ck_117_0 (by omega) h0
  by_cases h60 : k < 99
  · exact eok_of ck_117_60 (by omega) h60
  exact eok_none (nth_len (by show (cd_117).length ≤ k; exact Nat.le_trans (Nat.le_of_eq rfl) (Nat.not_lt.mp h60)))
set_option maxRecDepth 100000 in
theorem ck_118_0 : ckL 118 (mC 118) 12 ((cd 118).drop 0) = true := by decide +kernel
theorem eok_118 (k : Nat) : EOK 118 k := by
  by_cases h0 : k < 12
  · exact eok_of ck_118_0 (by omega) h0
  exact eok_none (nth_len (by show (cd_118).length ≤ k; exact Nat.le_trans (Nat.le_of_eq rfl) (Nat.not_lt.mp h0)))
set_option maxRecDepth 100000 in
theorem ck_119_0 : ckL 119 (mC 119) 17 ((cd 119).drop 0) = true := by decide +kernel
theorem eok_119 (k : Nat) : EOK 119 k := by
  by_cases h0 : k < 17
  · exact eok_of ck_119_0 (by omega) h0
  exact eok_none (nth_len (by show (cd_119).length ≤ k; exact Nat.le_trans (Nat.le_of_eq rfl) (Nat.not_lt.mp h0)))
set_option maxRecDepth 100000 in
theorem ck_120_0 : ckL 120 (mC 120) 17 ((cd 120).drop 0) = true := by decide +kernel
theorem eok_120 (k : Nat) : EOK 120 k := by
  by_cases h0 : k < 17
  · exact eok_of ck_120_0 (by omega) h0
  exact eok_none (nth_len (by show (cd_120).length ≤ k; exact Nat.le_trans (Nat.le_of_eq rfl) (Nat.not_lt.mp h0)))
set_option maxRecDepth 100000 in
theorem ck_121_0 : ckL 121 (mC 121) 26 ((cd 121).drop 0) = true := by decide +kernel
theorem eok_121 (k : Nat) : EOK 121 k := by
  by_cases h0 : k < 26
  · exact eok_of ck_121_0 (by omega) h0
  exact eok_none (nth_len (by show (cd_121).length ≤ k; exact Nat.le_trans (Nat.le_of_eq rfl) (Nat.not_lt.mp h0)))
set_option maxRecDepth 100000 in
theorem ck_122_0 : ckL 122 (mC 122) 26 ((cd 122).drop 0) = true := by decide +kernel
theorem eok_122 (k : Nat) : EOK 122 k := by
  by_cases h0 : k < 26
  · exact eok_of ck_122_0 (by omega) h0
  exact eok_none (nth_len (by show (cd_122).length ≤ k; exact Nat.le_trans (Nat.le_of_eq rfl) (Nat.not_lt.mp h0)))
set_option maxRecDepth 100000 in
theorem ck_123_0 : ckL 123 (mC 123) 55 ((cd 123).drop 0) = true := by decide +kernel
theorem eok_123 (k : Nat) : EOK 123 k := by
  by_cases h0 : k < 55
  · exact eok_of ck_123_0 (by omega) h0
  exact eok_none (nth_len (by show (cd_123).length ≤ k; exact Nat.le_trans (Nat.le_of_eq rfl) (Nat.not_lt.mp h0)))
set_option maxRecDepth 100000 in
theorem ck_124_0 : ckL 124 (mC 124) 20 ((cd 124).drop 0) = true := by decide +kernel
theorem eok_124 (k : Nat) : EOK 124 k := by
  by_cases h0 : k < 20
  · exact eok_of ck_124_0 (by omega) h0
  exact eok_none (nth_len (by show (cd_124).length ≤ k; exact Nat.le_trans (Nat.le_of_eq rfl) (Nat.not_lt.mp h0)))
set_option maxRecDepth 100000 in
theorem ck_125_0 : ckL 125 (mC 125) 60 ((cd 125).drop 0) = true := by decide +kernel
set_option maxRecDepth 100000 in
theorem ck_125_60 : ckL 125 (mC 125) 30 ((cd 125).drop 60) = true := by decide +kernel
theorem eok_125 (k : Nat) : EOK 125 k := by
  by_cases h0 : k < 60
  · exact eok_of ck_125_0 (by omega) h0
  by_cases h60 : k < 90
  · exact eok_of ck_125_60 (by omega) h60
  exact eok_none (nth_len (by show (cd_125).length ≤ k; exact Nat.le_trans (Nat.le_of_eq rfl) (Nat.not_lt.mp h60)))
set_option maxRecDepth 100000 in
theorem ck_126_0 : ckL 126 (mC 126) 4 ((cd 126).drop 0) = true := by decide +kernel
theorem eok_126 (k : Nat) : EOK 126 k := by
  by_cases h0 : k < 4
  · exact eok_of ck_126_0 (by omega) h0
  exact eok_none (nth_len (by show (cd_126).length ≤ k; exact Nat.le_trans (Nat.le_of_eq rfl) (Nat.not_lt.mp h0)))
set_option maxRecDepth 100000 in
theorem ck_127_0 : ckL 127 (mC 127) 59 ((cd 127).drop 0) = true := by decide +kernel
theorem eok_127 (k : Nat) : EOK 127 k := by
  by_cases h0 : k < 59
  · exact eok_of ck_127_0 (by omega) h0
  exact eok_none (nth_len (by show (cd_127).length ≤ k; exact Nat.le_trans (Nat.le_of_eq rfl) (Nat.not_lt.mp h0)))
set_option maxRecDepth 100000 in
theorem ck_128_0 : ckL 128 (mC 128) 60 ((cd 128).drop 0) = true := by decide +kernel
set_option maxRecDepth 100000 in
theorem ck_128_60 : ckL 128 (mC 128) 14 ((cd 128).drop 60) = true := by decide +kernel
theorem eok_128 (k : Nat) : EOK 128 k := by
  by_cases h0 : k < 60
  · exact eok_of ck_128_0 (by omega) h0
  by_cases h60 : k < 74
  · exact eok_of ck_128_60 (by omega) h60
  exact eok_none (nth_len (by show (cd_128).length ≤ k; exact Nat.le_trans (Nat.le_of_eq rfl) (Nat.not_lt.mp h60)))
set_option maxRecDepth 100000 in
theorem ck_129_0 : ckL 129 (mC 129) 21 ((cd 129).drop 0) = true := by decide +kernel
theorem eok_129 (k : Nat) : EOK 129 k := by
  by_cases h0 : k < 21
  · exact eok_of ck_129_0 (by omega) h0
  exact eok_none (nth_len (by show (cd_129).length ≤ k; exact Nat.le_trans (Nat.le_of_eq rfl) (Nat.not_lt.mp h0)))
set_option maxRecDepth 100000 in
theorem ck_130_0 : ckL 130 (mC 130) 7 ((cd 130).drop 0) = true := by decide +kernel
theorem eok_130 (k : Nat) : EOK 130 k := by
  by_cases h0 : k < 7
  · exact eok_of ck_130_0 (by omega) h0
  exact eok_none (nth_len (by show (cd_130).length ≤ k; exact Nat.le_trans (Nat.le_of_eq rfl) (Nat.not_lt.mp h0)))
set_option maxRecDepth 100000 in
theorem ck_131_0 : ckL 131 (mC 131) 8 ((cd 131).drop 0) = true := by decide +kernel
theorem eok_131 (k : Nat) : EOK 131 k := by
  by_cases h0 : k < 8
  · exact eok_of ck_131_0 (by omega) h0
  exact eok_none (nth_len (by show (cd_131).length ≤ k; exact Nat.le_trans (Nat.le_of_eq rfl) (Nat.not_lt.mp h0)))
set_option maxRecDepth 100000 in
theorem ck_132_0 : ckL 132 (mC 132) 5 ((cd 132).drop 0) = true := by decide +kernel
theorem eok_132 (k : Nat) : EOK 132 k := by
  by_cases h0 : k < 5
  · exact eok_of ck_132_0 (by omega) h0
  exact eok_none (nth_len (by show (cd_132).length ≤ k; exact Nat.le_trans (Nat.le_of_eq rfl) (Nat.not_lt.mp h0)))
set_option maxRecDepth 100000 in
theorem ck_133_0 : ckL 133 (mC 133) 5 ((cd 133).drop 0) = true := by decide +kernel
theorem eok_133 (k : Nat) : EOK 133 k := by
  by_cases h0 : k < 5
  · exact eok_of ck_133_0 (by omega) h0
  exact eok_none (nth_len (by show (cd_133).length ≤ k; exact Nat.le_trans (Nat.le_of_eq rfl) (Nat.not_lt.mp h0)))
set_option maxRecDepth 100000 in
theorem ck_134_0 : ckL 134 (mC 134) 13 ((cd 134).drop 0) = true := by decide +kernel
theorem eok_134 (k : Nat) : EOK 134 k := by
  by_cases h0 : k < 13
  · exact eok_of ck_134_0 (by omega) h0
  exact eok_none (nth_len (by show (cd_134).length ≤ k; exact Nat.le_trans (Nat.le_of_eq rfl) (Nat.not_lt.mp h0)))
set_option maxRecDepth 100000 in
theorem ck_135_0 : ckL 135 (mC 135) 34 ((cd 135).drop 0) = true := by decide +kernel
theorem eok_135 (k : Nat) : EOK 135 k := by
  by_cases h0 : k < 34
  · exact eok_of ck_135_0 (by omega) h0
  exact eok_none (nth_len (by show (cd_135).length ≤ k; exact Nat.le_trans (Nat.le_of_eq rfl) (Nat.not_lt.mp h0)))
set_option maxRecDepth 100000 in
theorem ck_136_0 : ckL 136 (mC 136) 32 ((cd 136).drop 0) = true := by decide +kernel
theorem eok_136 (k : Nat) : EOK 136 k := by
  by_cases h0 : k < 32
  · exact eok_of ck_136_0 (by omega) h0
  exact eok_none (nth_len (by show (cd_136).length ≤ k; exact Nat.le_trans (Nat.le_of_eq rfl) (Nat.not_lt.mp h0)))
set_option maxRecDepth 100000 in
theorem ck_137_0 : ckL 137 (mC 137) 3 ((cd 137).drop 0) = true := by decide +kernel
theorem eok_137 (k : Nat) : EOK 137 k := by
  by_cases h0 : k < 3
  · exact eok_of ck_137_0 (by omega) h0
  exact eok_none (nth_len (by show (cd_137).length ≤ k; exact Nat.le_trans (Nat.le_of_eq rfl) (Nat.not_lt.mp h0)))
set_option maxRecDepth 100000 in
theorem ck_138_0 : ckL 138 (mC 138) 5 ((cd 138).drop 0) = true := by decide +kernel
theorem eok_138 (k : Nat) : EOK 138 k := by
  by_cases h0 : k < 5
  · exact eok_of ck_138_0 (by omega) h0
  exact eok_none (nth_len (by show (cd_138).length ≤ k; exact Nat.le_trans (Nat.le_of_eq rfl) (Nat.not_lt.mp h0)))
set_option maxRecDepth 100000 in
theorem ck_139_0 : ckL 139 (mC 139) 6 ((cd 139).drop 0) = true := by decide +kernel
theorem eok_139 (k : Nat) : EOK 139 k := by
  by_cases h0 : k < 6
  · exact eok_of ck_139_0 (by omega) h0
  exact eok_none (nth_len (by show (cd_139).length ≤ k; exact Nat.le_trans (Nat.le_of_eq rfl) (Nat.not_lt.mp h0)))
set_option maxRecDepth 100000 in
theorem ck_140_0 : ckL 140 (mC 140) 6 ((cd 140).drop 0) = true := by decide +kernel
theorem eok_140 (k : Nat) : EOK 140 k := by
  by_cases h0 : k < 6
  · exact eok_of ck_140_0 (by omega) h0
  exact eok_none (nth_len (by show (cd_140).length ≤ k; exact Nat.le_trans (Nat.le_of_eq rfl) (Nat.not_lt.mp h0)))
set_option maxRecDepth 100000 in
theorem ck_141_0 : ckL 141 (mC 141) 6 ((cd 141).drop 0) = true := by decide +kernel
theorem eok_141 (k : Nat) : EOK 141 k := by
  by_cases h0 : k < 6
  · exact eok_of ck_141_0 (by omega) h0
  exact eok_none (nth_len (by show (cd_141).length ≤ k; exact Nat.le_trans (Nat.le_of_eq rfl) (Nat.not_lt.mp h0)))
set_option maxRecDepth 100000 in
theorem ck_142_0 : ckL 142 (mC 142) 60 ((cd 142).drop 0) = true := by decide +kernel
set_option maxRecDepth 100000 in
theorem ck_142_60 : ckL 142 (mC 142) 10 ((cd 142).drop 60) = true := by decide +kernel
theorem eok_142 (k : Nat) : EOK 142 k := by
  by_cases h0 : k < 60
  · exact eok_of ck_142_0 (by omega) h0
  by_cases h60 : k < 70
  · exact eok_of ck_142_60 (by omega) h60
  exact eok_none (nth_len (by show (cd_142).length ≤ k; exact Nat.le_trans (Nat.le_of_eq rfl) (Nat.not_lt.mp h60)))
set_option maxRecDepth 100000 in
theorem ck_143_0 : ckL 143 (mC 143) 14 ((cd 143).drop 0) = true := by decide +kernel
theorem eok_143 (k : Nat) : EOK 143 k := by
  by_cases h0 : k < 14
  · exact eok_of ck_143_0 (by omega) h0
  exact eok_none (nth_len (by show (cd_143).length ≤ k; exact Nat.le_trans (Nat.le_of_eq rfl) (Nat.not_lt.mp h0)))
set_option maxRecDepth 100000 in
theorem ck_144_0 : ckL 144 (mC 144) 60 ((cd 144).drop 0) = true := by decide +kernel
set_option maxRecDepth 100000 in
theorem ck_144_60 : ckL 144 (mC 144) 9 ((cd 144).drop 60) = true := by decide +kernel
theorem eok_144 (k : Nat) : EOK 144 k := by
  by_cases h0 : k < 60
  · exact eok_of ck_144_0 (by omega) h0
  by_cases h60 : k < 69
  · exact eok_of ck_144_60 (by omega) h60
  exact eok_none (nth_len (by show (cd_144).length ≤ k; exact Nat.le_trans (Nat.le_of_eq rfl) (Nat.not_lt.mp h60)))
set_option maxRecDepth 100000 in
theorem ck_145_0 : ckL 145 (mC 145) 5 ((cd 145).drop 0) = true := by decide +kernel
theorem eok_145 (k : Nat) : EOK 145 k := by
  by_cases h0 : k < 5
  · exact eok_of ck_145_0 (by omega) h0
  exact eok_none (nth_len (by show (cd_145).length ≤ k; exact Nat.le_trans (Nat.le_of_eq rfl) (Nat.not_lt.mp h0)))
set_option maxRecDepth 100000 in
theorem ck_146_0 : ckL 146 (mC 146) 41 ((cd 146).drop 0) = true := by decide +kernel
theorem eok_146 (k : Nat) : EOK 146 k := by
  by_cases h0 : k < 41
  · exact eok_of ck_146_0 (by omega) h0
  exact eok_none (nth_len (by show (cd_146).length ≤ k; exact Nat.le_trans (Nat.le_of_eq rfl) (Nat.not_lt.mp h0)))
set_option maxRecDepth 100000 in
theorem ck_147_0 : ckL 147 (mC 147) 28 ((cd 147).drop 0) = true := by decide +kernel
theorem eok_147 (k : Nat) : EOK 147 k := by
  by_cases h0 : k < 28
  · exact eok_of ck_147_0 (by omega) h0
  exact eok_none (nth_len (by show (cd_147).length ≤ k; exact Nat.le_trans (Nat.le_of_eq rfl) (Nat.not_lt.mp h0)))
set_option maxRecDepth 100000 in
theorem ck_148_0 : ckL 148 (mC 148) 12 ((cd 148).drop 0) = true := by decide +kernel
theorem eok_148 (k : Nat) : EOK 148 k := by
  by_cases h0 : k < 12
  · exact eok_of ck_148_0 (by omega) h0
  exact eok_none (nth_len (by show (cd_148).length ≤ k; exact Nat.le_trans (Nat.le_of_eq rfl) (Nat.not_lt.mp h0)))
set_option maxRecDepth 100000 in
theorem ck_149_0 : ckL 149 (mC 149) 5 ((cd 149).drop 0) = true := by decide +kernel
theorem eok_149 (k : Nat) : EOK 149 k := by
  by_cases h0 : k < 5
  · exact eok_of ck_149_0 (by omega) h0
  exact eok_none (nth_len (by show (cd_149).length ≤ k; exact Nat.le_trans (Nat.le_of_eq rfl) (Nat.not_lt.mp h0)))
