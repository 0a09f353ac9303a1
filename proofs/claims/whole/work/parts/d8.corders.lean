/-! the class counts the orders: part by part -/
theorem lDiv_pos {x y : Int} (hx : 0 ≤ x ∧ x < 9223372036854775808) (hy : 0 < y ∧ y < 9223372036854775808) : lDiv x y = x / y := by
  have ox : (Int64.ofInt x).toInt = x := Int64.toInt_ofInt_of_le (by omega) (by omega)
  have oy : (Int64.ofInt y).toInt = y := Int64.toInt_ofInt_of_le (by omega) (by omega)
  have ne : Int64.ofInt y ≠ -1 := fun e => by
    have := congrArg Int64.toInt e
    rw [oy] at this
    have h1 : (-1 : Int64).toInt = -1 := by decide
    omega
  show (Int64.ofInt x / Int64.ofInt y).toInt = _
  rw [Int64.toInt_div_of_ne_right _ _ ne, ox, oy, Int.tdiv_eq_ediv_of_nonneg hx.1]
theorem cnt_or {p q : Int → Bool} : ∀ {n : Nat}, (∀ x : Int, In n x → p x = true → q x = false) → cnt (fun x => p x || q x) n = cnt p n + cnt q n
  | 0, _ => rfl
  | n + 1, h => by
    have i := cnt_or (p := p) (q := q) (n := n) (fun x hx => h x ⟨hx.1, by have := hx.2; omega⟩)
    have t := h n ⟨by omega, by omega⟩
    show cnt (fun x => p x || q x) n + (if p n || q n then 1 else 0) = (cnt p n + (if p n then 1 else 0)) + (cnt q n + (if q n then 1 else 0))
    rw [i]
    cases a : p n
    · cases b : q n
      · simp
      · simp; omega
    · rw [t a]; simp; omega
theorem pcn_or {m A B : Nat} (h : ∀ i, A.testBit i = true → B.testBit i = false) : pcn m (A ||| B) = pcn m A + pcn m B := by
  unfold pcn
  rw [← cnt_or (fun x _ hx => h _ hx)]
  refine cnt_congr (fun x _ => ?_)
  rw [Nat.testBit_or]
theorem NC.or {br : Nat → Nat → Prop} {A B : Nat} (h : NC br A) (g : NC br B) : NC br (A ||| B) := fun i j hij => by
  rw [Nat.testBit_or, Nat.testBit_or]
  have a := h i j hij
  have b := g i j hij
  simp [a, b]
theorem fct_2 {p s : Nat} (h : p + s ≤ 16) : fct p * fct s ≤ 20922789888000 := by
  have key : ∀ p : Fin 17, ∀ s : Fin 17, p.val + s.val ≤ 16 → fct p.val * fct s.val ≤ 20922789888000 := by decide +kernel
  exact key ⟨p, by omega⟩ ⟨s, by omega⟩ h
theorem chs_b {n k : Nat} (hn : n ≤ 15) (hk : k ≤ 15) : 0 ≤ chs n k ∧ chs n k ≤ 6435 := by
  have key : ∀ n : Fin 16, ∀ k : Fin 16, 0 ≤ chs n.val k.val ∧ chs n.val k.val ≤ 6435 := by decide +kernel
  exact key ⟨n, by omega⟩ ⟨k, by omega⟩
theorem c_cps_40 {h : AH} {Q : Option AV → AH → Prop} {X y4 y5 y6 : Int} {p s : Nat} (hF : Fix h) (hX : 0 ≤ X ∧ X ≤ 20922789888000) (hps : p + s ≤ 16) (h5 : 0 ≤ y5 ∧ y5 < 16)
    (cont : Ok 39 8 [some (vR (some 86)), some (vL (X * chs (p + s) s)), none, some (vI ((p + s : Nat) : Int)), some (vI y4), some (vI (y5 + 1)), none, none, none] [] h Q) (k : Nat) :
    ∀ j : Nat, s - j = k → j ≤ s → Ok 39 40 [some (vR (some 86)), some (vL (X * chs (p + j) j)), none, some (vI ((p + j : Nat) : Int)), some (vI y4), some (vI y5), some (vI y6), some (vI (s : Int)), some (vI ((j : Int) + 1))] [] h Q := by
  induction k using Nat.strongRecOn with
  | ind k ih =>
    intro j hk hj
    refine f_X4_countParts_40 hF _ _ _ _ _ _ _ ⟨fun c => ⟨⟨by omega, by omega⟩, by rw [show s = j by omega] at cont; exact cont⟩, fun c => ?_⟩
    have js : j < s := by omega
    obtain ⟨b1, b2⟩ := chs_b (n := p + j) (k := j) (by omega) (by omega)
    have t1 : 0 ≤ X * chs (p + j) j := Int.mul_nonneg hX.1 b1
    have t2 : X * chs (p + j) j ≤ 20922789888000 * 6435 := Int.mul_le_mul hX.2 b2 b1 (by decide)
    have t3 : 0 ≤ X * chs (p + j) j * (((p + j : Nat) : Int) + 1) := Int.mul_nonneg t1 (by omega)
    have t4 : X * chs (p + j) j * (((p + j : Nat) : Int) + 1) ≤ 20922789888000 * 6435 * 16 := Int.mul_le_mul t2 (by omega) (by omega) (by decide)
    have ev : X * chs (p + j) j * (((p + j : Nat) : Int) + 1) = ((j : Int) + 1) * (X * chs (p + j + 1) (j + 1)) := by
      have := chs_mul (p + j) j
      rw [Int.mul_assoc, Int.mul_comm (chs (p + j) j), ← this, ← Int.mul_assoc, Int.mul_comm X, Int.mul_assoc]
    have el : lDiv (X * chs (p + j) j * (((p + j : Nat) : Int) + 1)) ((j : Int) + 1) = X * chs (p + (j + 1)) (j + 1) := by
      rw [lDiv_pos ⟨t3, by omega⟩ ⟨by omega, by omega⟩, ev, Int.mul_ediv_cancel_left _ (by omega)]
      rfl
    rw [el]
    refine ⟨⟨by omega, by omega⟩, ⟨by omega, by omega⟩, by omega, ⟨by omega, by omega⟩, ?_⟩
    have := ih _ (by omega) (j + 1) rfl (by omega)
    rw [show (((p + (j + 1) : Nat)) : Int) = ((p + j : Nat) : Int) + 1 by omega, show (((j + 1 : Nat)) : Int) + 1 = (j : Int) + 1 + 1 by omega] at this
    exact this
theorem bfD_rk {D : DD} (w : WF D) : ∃ r : Nat → Nat, ∀ i j, bfD D i j → r j < r i := by
  obtain ⟨rk, hk, _⟩ := w.rk
  refine ⟨fun i => @dite _ (∃ u, In (D 99 1) u ∧ D 102 u = u ∧ cnt (bn D) u.toNat = i) (Classical.propDecidable _) (fun z => rk z.choose) (fun _ => 0), fun i j hb => ?_⟩
  have hr : ∀ i u, In (D 99 1) u → D 102 u = u → cnt (bn D) u.toNat = i → @dite _ (∃ u, In (D 99 1) u ∧ D 102 u = u ∧ cnt (bn D) u.toNat = i) (Classical.propDecidable _) (fun z => rk z.choose) (fun _ => 0) = rk u := fun i u h1 h2 h3 => by
    have ex : ∃ u, In (D 99 1) u ∧ D 102 u = u ∧ cnt (bn D) u.toNat = i := ⟨u, h1, h2, h3⟩
    rw [dif_pos ex]
    obtain ⟨c1, c2, c3⟩ := ex.choose_spec
    rw [nm_inj c1 h1 c2 h2 (by rw [c3, h3])]
  obtain ⟨a, b, a1, a2, a3, b1, b2, b3, rc⟩ := hb
  show @dite _ _ (Classical.propDecidable _) _ _ < @dite _ _ (Classical.propDecidable _) _ _
  rw [hr i a a1 a2 a3, hr j b b1 b2 b3]
  exact Rch_rk hk rc
theorem inv91 {h h' : AH} {n : Nat} {Ds : Nat → DD} {Z : DD} {c v : Int} (f : F91 h h') (ci : CInv (si h 86 9 v) n Ds Z c) : CInv (si h' 86 9 v) n Ds Z c := by
  have ca := ci.ca
  have cz := ci.cz
  have kk : ∀ o, o ≠ 91 → o ≠ 92 → Kp o (si h 86 9 v) (si h' 86 9 v) := fun o h1 h2 => by
    obtain ⟨a1, a2, a3, a4, a5⟩ := f.1 o h1 h2
    refine ⟨funext fun j => ?_, a2, a3, a4, a5⟩
    rw [gi_si_p, gi_si_p, a1]
  refine ci.core (fun o ho => kk o (fun e => Cr_no (o := 91) (by omega) (by omega) (by omega) (by rw [← e]; exact ho)) (fun e => Cr_no (o := 92) (by omega) (by omega) (by omega) (by rw [← e]; exact ho))) (kk 86 (by decide) (by decide)).2.2.2.1 f.2.1 f.2.2.1 (by rw [(kk 7 (by decide) (by decide)).1]) ?_ ⟨ca.1.w (kk 7 (by decide) (by decide)).1 (kk 8 (by decide) (by decide)).1, ca.2.1.kp3 (fun o p q => kk o (by omega) (by omega)) (by rw [(kk 7 (by decide) (by decide)).1]), ?_, ?_⟩
  · unfold CZ at cz ⊢
    rw [(kk 7 (by decide) (by decide)).1, (kk 86 (by decide) (by decide)).1, (kk 98 (by decide) (by decide)).1, (kk 1 (by decide) (by decide)).1, (kk 69 (by decide) (by decide)).1, (kk 70 (by decide) (by decide)).1, (kk 94 (by decide) (by decide)).1, (kk 95 (by decide) (by decide)).1, (kk 90 (by decide) (by decide)).1]
    exact cz
  · have cy := ca.2.2.1
    unfold CaY YrOk QrOk at cy ⊢
    rw [(kk 2 (by decide) (by decide)).1, (kk 73 (by decide) (by decide)).1, (kk 74 (by decide) (by decide)).1, (kk 75 (by decide) (by decide)).1, (kk 76 (by decide) (by decide)).1, (kk 77 (by decide) (by decide)).1, (kk 78 (by decide) (by decide)).1, (kk 79 (by decide) (by decide)).1, (kk 80 (by decide) (by decide)).1, (kk 81 (by decide) (by decide)).1, (kk 82 (by decide) (by decide)).1, (kk 83 (by decide) (by decide)).1]
    exact cy
  · have cs := ca.2.2.2
    unfold CaS SeqOk at cs ⊢
    rw [(kk 7 (by decide) (by decide)).1, (kk 86 (by decide) (by decide)).1, (kk 86 (by decide) (by decide)).2.1, (kk 87 (by decide) (by decide)).1, (kk 88 (by decide) (by decide)).1, (kk 89 (by decide) (by decide)).1]
    exact cs
theorem WyF.s9 {h h' : AH} {x s : Nat} {v : Int} (f : WyF h h' x s) (hx : x = 93 ∨ 136 ≤ x) : WyF (si h 86 9 v) (si h' 86 9 v) x s := by
  have t : ∀ o, Kp o h h' → Kp o (si h 86 9 v) (si h' 86 9 v) := fun o k => ⟨funext fun j => by rw [gi_si_p, gi_si_p, k.1], k.2⟩
  rcases f with ⟨f1, f2, f3, f4, f5⟩ | ⟨f1, f2, f3, f4, ⟨f5, f5'⟩, f6, f7⟩
  · exact Or.inl ⟨f1, f2, f3, fun o ho => t o (f4 o ho), f5⟩
  · exact Or.inr ⟨f1, f2, f3, fun o h1 h2 => t o (f4 o h1 h2), ⟨funext fun j => by rw [gi_si_p, gi_si_p, f5], f5'⟩, f6, f7⟩
theorem CInv.tw {h : AH} {n : Nat} {Ds : Nat → DD} {Z : DD} {c v : Int} (ci : CInv (si h 86 9 v) n Ds Z c) : ∃ x K, gr h 86 13 = some x ∧ (x = 93 ∨ 136 ≤ x) ∧ sh h x = (2, K) := by
  obtain ⟨G, Ss, T, E, L, w, c1, c2, c3, c4, c5, c6, c7, r1, r2, r3, x', K, r4, r5, r6, r7, r8, r9⟩ := ci
  exact ⟨x', K, r4, r5, r8⟩
theorem c_cps_8 {h0 : AH} {Q : Option AV → AH → Prop} {n : Nat} {Ds : Nat → DD} {Z : DD} {c v0 : Int} (w : WF (Ds n)) (hm : nBlk (Ds n) ≤ 16) (hn0 : (nn h0 : Int) + 16 ≤ 136 + 150 * c) (e6 : gi h0 86 6 = nBlk (Ds n)) (ba : BA (gi h0 89) (nBlk (Ds n)) (brD (Ds n)))
    (cont : ∀ h', Fix h' → Rf h0 h' → CInv (si h' 86 9 v0) n Ds Z c → gi h' 86 = gi h0 86 → gi h' 7 = gi h0 7 → Q (some (vL (nOrd (Ds n)))) h') (k : Nat) :
    ∀ (h : AH) (b U : Nat), nBlk (Ds n) - b = k → b ≤ nBlk (Ds n) → U < 2 ^ nBlk (Ds n) → NC (brD (Ds n)) U → (∀ i, i < b → U.testBit i = true) → Fix h → Rf h0 h → CInv (si h 86 9 v0) n Ds Z c → (nn h : Int) ≤ nn h0 + b → gi h 86 = gi h0 86 → gi h 89 = gi h0 89 → gi h 7 = gi h0 7 →
      Ok 39 8 [some (vR (some 86)), some (vL (wS (brD (Ds n)) (nBlk (Ds n)) U)), none, some (vI (pcn (nBlk (Ds n)) U : Nat)), some (vI (U : Int)), some (vI (b : Int)), none, none, none] [] h Q := by
  obtain ⟨p1, p2⟩ := pw16 hm
  induction k using Nat.strongRecOn with
  | ind k ih =>
    intro h b U hk hb hU nc hI hF rf ci hnn k86 k89 k7
    have e6' : gi h 86 6 = nBlk (Ds n) := by rw [k86]; exact e6
    have ba' : BA (gi h 89) (nBlk (Ds n)) (brD (Ds n)) := by rw [k89]; exact ba
    refine f_X4_countParts_8 hF _ _ _ _ ?_
    rw [e6']
    refine ⟨fun c1 => ?_, fun c1 => ?_⟩
    · have full : U = 2 ^ nBlk (Ds n) - 1 := by
        refine Nat.eq_of_testBit_eq (fun j => ?_)
        rw [Nat.testBit_two_pow_sub_one]
        by_cases hj : j < nBlk (Ds n)
        · rw [hI j (by omega)]; simp [hj]
        · simp [hj]
          exact Nat.testBit_lt_two_pow (Nat.lt_of_lt_of_le hU (Nat.pow_le_pow_right (by decide) (by omega)))
      obtain ⟨r, hr⟩ := bfD_rk w
      have ev : wS (brD (Ds n)) (nBlk (Ds n)) U = nOrd (Ds n) := by
        rw [Clo.wS (br_clo w) hr U hU, full, wS_full]; rfl
      rw [ev]
      exact cont h hF rf ci k86 k7
    rw [bitS (by omega) (by omega)]
    refine ⟨fun c2 => ?_, fun c2 => ⟨⟨by omega, by omega⟩, ?_⟩⟩
    · have u0 : U.testBit b = false := by
        cases q : U.testBit b
        · rfl
        · rw [q] at c2; exact absurd rfl c2
      refine c_hang hF hm e6' ba' (fun i j => brD_lt w) (by omega) (fun P hP ncP hg => ⟨_, rfl, hF, ?_⟩)
      have dis : ∀ i, P.testBit i = true → U.testBit i = false := fun i hi => hg.2 U nc u0 i hi
      refine c_layOut hF hm e6' ba' hP (fun h3 F3 f3 hpt b92 => ⟨_, rfl, F3, ?_⟩)
      have ci3 := inv91 f3 ci
      obtain ⟨x, K, g13, hx, hK⟩ := ci3.tw
      have cs : cP P (nBlk (Ds n)) = pcn (nBlk (Ds n)) P := rfl
      have sz := pcn_or (m := nBlk (Ds n)) dis
      have szl := cnt_le (fun i => (P ||| U).testBit i.toNat) (nBlk (Ds n))
      have szl' : pcn (nBlk (Ds n)) (P ||| U) ≤ nBlk (Ds n) := szl
      have sm16 : cP P (nBlk (Ds n)) ≤ 16 := by omega
      refine c_countPart F3 sm16 g13 hx hK b92 (fun h5 F5 f5 => ⟨_, rfl, F5, ?_⟩)
      have ci5 : CInv (si h5 86 9 v0) n Ds Z c := ci3.ways (h := si h3 86 9 v0) (h' := si h5 86 9 v0) F3 g13 (f5.s9 hx) sm16 (by
        show (nn h3 : Int) + 1 ≤ _
        rw [f3.2.1]; omega)
      have n136 : 136 ≤ nn h3 := F3.2.2
      have kp5 : ∀ o, o < 136 → o ≠ 86 → o ≠ 93 → Kp o h3 h5 := fun o h1 h2 h3' => by
        rcases f5 with ⟨_, _, _, f4, _⟩ | ⟨_, _, _, f4, _⟩
        · exact f4 o (by omega)
        · exact f4 o h2 (by omega)
      have g86 : gi h5 86 = gi h3 86 := by
        rcases f5 with ⟨_, _, _, f4, _⟩ | ⟨_, _, _, _, f4, _⟩
        · exact (f4 86 (by omega)).1
        · exact f4.1
      have nn5 : (nn h5 : Int) ≤ nn h3 + 1 := by
        rcases f5 with ⟨_, f4, _⟩ | ⟨_, f4, _⟩
        · omega
        · omega
      have wp : wS (pbR (brD (Ds n)) (cP P (nBlk (Ds n))) (gi h3 91)) (cP P (nBlk (Ds n))) (2 ^ cP P (nBlk (Ds n)) - 1) = wS (brD (Ds n)) (nBlk (Ds n)) P := by
        refine wS_part (P := P) (pt := gi h3 91) hP rfl hpt (fun i j hi hij => (ncP i j hij).mp hi) (fun a d ha hd => ?_) (fun i j hij => hij.2.1) _ P (Nat.sub_lt (Nat.two_pow_pos _) (by decide)) hP (fun a => ?_)
        · have ea := hpt a ha
          have ed := hpt d hd
          unfold pbR
          show (cP P a < _ ∧ cP P d < _ ∧ brD (Ds n) (gi h3 91 (cP P a : Nat)).toNat (gi h3 91 (cP P d : Nat)).toNat) ↔ _
          rw [ea, ed, show ((a : Int)).toNat = a by omega, show ((d : Int)).toNat = d by omega]
          exact ⟨fun q => q.2.2, fun q => ⟨cP_lt ha (tb_m hP ha), cP_lt hd (tb_m hP hd), q⟩⟩
        · cases q : P.testBit a
          · rfl
          · rw [Nat.testBit_two_pow_sub_one]
            have := cP_lt q (tb_m hP q)
            show true = (true && decide (cP P a < cP P (nBlk (Ds n))))
            simp [this]
      rw [wp]
      have bU := wS_b (bf := brD (Ds n)) (pcn (nBlk (Ds n)) U) U hU rfl
      have bP := wS_b (bf := brD (Ds n)) (pcn (nBlk (Ds n)) P) P hP rfl
      have f2 := fct_2 (p := pcn (nBlk (Ds n)) U) (s := pcn (nBlk (Ds n)) P) (by omega)
      have X0 : 0 ≤ wS (brD (Ds n)) (nBlk (Ds n)) U * wS (brD (Ds n)) (nBlk (Ds n)) P := Int.mul_nonneg bU.1 bP.1
      have X1 : wS (brD (Ds n)) (nBlk (Ds n)) U * wS (brD (Ds n)) (nBlk (Ds n)) P ≤ 20922789888000 := Int.le_trans (Int.mul_le_mul bU.2 bP.2 bP.1 (by have := fct_p (pcn (nBlk (Ds n)) U); omega)) f2
      refine ⟨⟨by omega, by omega⟩, ?_⟩
      have eo : iOr (U : Int) (P : Int) = ((P ||| U : Nat) : Int) := by
        rw [iOr_nn ⟨by omega, by omega⟩ ⟨by omega, by omega⟩, show ((U : Int)).toNat = U by omega, show ((P : Int)).toNat = P by omega, Nat.or_comm]
      rw [eo]
      have mix := wS_mix (bf := brD (Ds n)) (m := nBlk (Ds n)) (U := P) (P := U) dis (fun i j hij => ⟨fun q => dis j ((ncP i j hij).mp q), fun q => by
        cases z : P.testBit j
        · rfl
        · have := dis i ((ncP i j hij).mpr z); rw [q] at this; cases this⟩) _ P U hP hU (fun _ q => q) (fun _ q => q) rfl
      have go := c_cps_40 (h := h5) (Q := Q) (X := wS (brD (Ds n)) (nBlk (Ds n)) U * wS (brD (Ds n)) (nBlk (Ds n)) P) (y4 := ((P ||| U : Nat) : Int)) (y5 := (b : Int)) (y6 := (P : Int)) (p := pcn (nBlk (Ds n)) U) (s := cP P (nBlk (Ds n))) F5 ⟨X0, X1⟩ (by omega) ⟨by omega, by omega⟩ ?_ _ 0 rfl (by omega)
      · rw [chs_0, Int.mul_one] at go
        exact go
      · have := ih _ (by omega) h5 (b + 1) (P ||| U) rfl (by omega) (Nat.or_lt_two_pow hP hU) (ncP.or nc) (fun i hi => ?_) F5 (rf.trans (Rf.of (P := fun o => 99 ≤ o ∧ o ≤ 135) (fun o ho => (f3.1 o (by omega) (by omega)).trans (kp5 o (by omega) (by omega) (by omega))) (fun o q1 q2 => ⟨q1, q2⟩))) ci5 (by rw [f3.2.1] at nn5; push_cast; omega) (by rw [g86, (f3.1 86 (by decide) (by decide)).1]; exact k86) (by rw [(kp5 89 (by decide) (by decide) (by decide)).1, (f3.1 89 (by decide) (by decide)).1]; exact k89) (by rw [(kp5 7 (by decide) (by decide) (by decide)).1, (f3.1 7 (by decide) (by decide)).1]; exact k7)
        · rw [mix, sz] at this
          rw [show (((b + 1 : Nat)) : Int) = (b : Int) + 1 by omega] at this
          have ec : chs (pcn (nBlk (Ds n)) P + pcn (nBlk (Ds n)) U) (pcn (nBlk (Ds n)) P) * (wS (brD (Ds n)) (nBlk (Ds n)) P * wS (brD (Ds n)) (nBlk (Ds n)) U) = wS (brD (Ds n)) (nBlk (Ds n)) U * wS (brD (Ds n)) (nBlk (Ds n)) P * chs (pcn (nBlk (Ds n)) U + cP P (nBlk (Ds n))) (cP P (nBlk (Ds n))) := by
            rw [cs, Nat.add_comm (pcn (nBlk (Ds n)) P), Int.mul_comm (chs _ _), Int.mul_comm (wS (brD (Ds n)) (nBlk (Ds n)) P)]
          rw [ec, Nat.add_comm (pcn (nBlk (Ds n)) P)] at this
          exact this
        · rw [Nat.testBit_or]
          by_cases e : i = b
          · rw [e, hg.1]; rfl
          · rw [hI i (by omega), Bool.or_true]
    · have u1 : U.testBit b = true := by
        cases q : U.testBit b
        · rw [q] at c2; exact absurd (by decide) c2
        · rfl
      have := ih _ (by omega) h (b + 1) U rfl (by omega) hU nc (fun i hi => by
        by_cases e : i = b
        · rw [e]; exact u1
        · exact hI i (by omega)) hF rf ci (by push_cast; omega) k86 k89 k7
      rw [show (((b + 1 : Nat)) : Int) = (b : Int) + 1 by omega] at this
      exact this
