/-! copy in the class -/
theorem w32_or {x : Int} (h : -2147483648 ≤ x ∧ x < 2147483648 + 1000) : w32 x = x ∨ 2147483648 ≤ x ∧ w32 x < 0 := by
  by_cases q : x < 2147483648
  · exact Or.inl (w32_of ⟨h.1, q⟩)
  · right
    refine ⟨by omega, ?_⟩
    have d := Int.bmod_def x 4294967296
    have c : ((4294967296 : Nat) : Int) = 4294967296 := rfl
    rw [c] at d
    show Int.bmod x 4294967296 < 0
    rw [d]
    split <;> omega
theorem slotF_w {D : DD} {t x : Int} (h : -2147483648 ≤ x ∧ x < 2147483648 + 1000) (h40 : D 109 t ≤ 40) : slotF D t (w32 x) = slotF D t x := by
  rcases w32_or h with e | e
  · rw [e]
  · unfold slotF
    by_cases z : D 109 t < 0
    · rw [if_pos z, if_pos z]
    · rw [if_neg z, if_neg z, if_neg (by omega), if_neg (by omega)]
theorem c_holdsBag {h : AH} {Q : Option AV → AH → Prop} {G : Nat → Prop} {S : DD} {T : FD} {D : DD} {t s : Int} (hF : Fix h) (r : TR h G S T D) (w : WF D) (ht : In (D 99 11) t) (hs : slotF D t s = 0) (cont : Q (some (vI (if D 112 (40 * t + s) = 4 then 1 else 0))) h) : Ok 75 0 [some (vR (some 47)), some (vI t), some (vI s), none] [] h Q := by
  refine f_X7_holdsBag_0 hF _ _ (c_findAt hF r w (fun o fa => ⟨o, rfl, hF, fun e => ?_, fun a e => ?_⟩))
  · subst e
    have : D 112 (40 * t + s) = -5 := by
      rcases FA_none fa with f | f | f
      · exact absurd ht f
      · exact absurd hs f
      · exact f
    rw [if_neg (by omega)] at cont
    exact cont
  · subst e
    obtain ⟨_, _, _, f, g, g0, _⟩ := FO.knd fa
    rw [g, g0]
    refine ⟨rfl, fun q => ?_, fun q => ?_⟩
    · rw [if_neg q] at cont; exact cont
    · rw [if_pos (Decidable.not_not.mp q)] at cont; exact cont
theorem c_barrierToCopy {h : AH} {Q : Option AV → AH → Prop} {G : Nat → Prop} {S : DD} {T : FD} {D : DD} {t s to ot : Int} (hF : Fix h) (r : TR h G S T D) (w : WF D) (ht : In (D 99 11) t) (ht2 : In (D 99 11) to) (hs : -2147483648 ≤ s ∧ s < 2147483648 + 1000) (hs2 : -2147483648 ≤ ot ∧ ot < 2147483648 + 1000) (cont : Q (some (vI (cyF D t s to ot))) h) : Ok 74 0 [some (vR (some 47)), some (vI t), some (vI (w32 s)), some (vI to), some (vI (w32 ot))] [] h Q := by
  obtain ⟨a1, a2, a3⟩ := r.ts w ht
  obtain ⟨b1, b2, b3⟩ := r.ts w ht2
  have h1 := ht.1
  have h2 := ht2.1
  have e1 := slotF_w (D := D) (t := t) hs a2
  have e2 := slotF_w (D := D) (t := to) hs2 b2
  have sf := slotF_r (D := D) (t := t) (s := s)
  have sf2 := slotF_r (D := D) (t := to) (s := ot)
  have i1 : slotF D t s = 0 ↔ 0 ≤ s ∧ s < D 109 t := slotF0
  have i2 : slotF D to ot = 0 ↔ 0 ≤ ot ∧ ot < D 109 to := slotF0
  unfold cyF at cont
  refine f_X7_barrierToCopy_0 hF _ _ _ _ ⟨⟨h1, a3⟩, fun q => ⟨⟨h2, b3⟩, fun q2 => c_look hF r w ht ⟨_, rfl, hF, fun q3 => ?_, fun q3 => c_look hF r w ht2 ⟨_, rfl, hF, fun q4 => ?_, fun q4 => ?_⟩⟩, fun q2 => ?_⟩, fun q => ?_⟩
  · rw [e1] at q3
    have z : slotF D t s ≠ 0 := fun e => q3 (by rw [e]; rfl)
    rw [if_neg (by omega), if_pos (Or.inl (fun q => z (i1.mpr q)))] at cont
    exact cont
  · rw [e1] at q3
    rw [e2] at q4
    have z : slotF D t s = 0 := (lkF0 (by omega)).mp (Decidable.not_not.mp q3)
    have z2 : slotF D to ot = 0 := (lkF0 (by omega)).mp q4
    have g1 := i1.mp z
    have g2 := i2.mp z2
    rw [if_neg (by omega), if_neg (by omega)] at cont
    rw [w32_of ⟨by omega, by omega⟩, w32_of ⟨by omega, by omega⟩]
    refine c_holdsBag hF r w ht z ⟨_, rfl, hF, fun q5 => ?_, fun q5 => c_holdsBag hF r w ht2 z2 ⟨_, rfl, hF, fun q6 => ?_, fun q6 => ?_⟩⟩
    · have : D 112 (40 * t + s) = 4 := by
        by_cases k : D 112 (40 * t + s) = 4
        · exact k
        · rw [if_neg k] at q5; exact absurd rfl q5
      rw [if_pos (Or.inl this)] at cont; exact cont
    · have k1 : ¬ D 112 (40 * t + s) = 4 := fun k => q5 (by rw [if_pos k]; decide)
      have k2 : ¬ D 112 (40 * to + ot) = 4 := fun k => by rw [if_pos k] at q6; exact absurd q6 (by decide)
      rw [if_neg (by omega)] at cont; exact cont
    · have : D 112 (40 * to + ot) = 4 := by
        by_cases k : D 112 (40 * to + ot) = 4
        · exact k
        · rw [if_neg k] at q6; exact absurd rfl q6
      rw [if_pos (Or.inr this)] at cont; exact cont
  · rw [e2] at q4
    have z : slotF D to ot ≠ 0 := fun e => q4 (by rw [e]; rfl)
    rw [if_neg (by omega), if_pos (Or.inr (fun q => z (i2.mpr q)))] at cont
    exact cont
  · rw [if_pos (by omega)] at cont; exact cont
  · rw [if_pos (by omega)] at cont; exact cont
/-- counted, where the state may be any -/
theorem c_countZ {h : AH} {Q : Option AV → AH → Prop} {n : Nat} {Ds : Nat → DD} {Z : DD} {c x : Int} (hF : Fix h) (ci : CInv h n Ds Z c) (wz : WZ Z c) (hc : c ≤ 2000) (hx : -1000 ≤ x ∧ x ≤ 1000) (cont : ∀ h', Fix h' → Rf h h' → (∀ Z', Zn Z Z' x → Z' 99 27 = Z 99 27 → CInv h' n Ds Z' c) → Q (some (vI x)) h') : Ok 129 0 [some (vR (some 1)), some (vI x), none] [] h Q := by
  have cz := ci.cz
  refine c_counted hF hx (fun i hi => by have := cz.bd wz i hi; omega) (fun h1 F1 k1 n1 u1 g1 => cont h1 F1 (Rf.of (P := fun o => o ≠ 98) k1 (fun o _ _ => by omega)) (fun Z' zn zx => ci.z (fun o o1 o98 _ _ _ _ _ _ _ _ => k1 o o98) n1 u1 ?_))
  obtain ⟨d1, d2, d3, d4, d5, d6, d7, d8⟩ := zn
  obtain ⟨z1, z2, z3, z4, z5, z6, z7, z8, z9⟩ := cz
  have r : ∀ o, o ≠ 98 → gi h1 o = gi h o := fun o o98 => (k1 o o98).1
  unfold CZ
  rw [r 1 (by decide), r 69 (by decide), r 70 (by decide), r 94 (by decide), r 95 (by decide), r 86 (by decide), r 7 (by decide), r 90 (by decide), d2, d3, d4, d5, d6, d7, d8, zx]
  refine ⟨fun k k1 k2 => ?_, z2, z3, z4, z5, z6, z7, z8, z9⟩
  rw [g1 k k1 k2, z1 k k1 k2, d1 k k1 k2]
theorem cyGo_gsm (t s to o : Int) : ∀ (k : Nat) (m : Int) (D E : DD), (∀ a j, a < 112 ∨ 117 < a → E a j = D a j) → ∀ a j, a < 112 ∨ 117 < a → (cyGo t s to o k m E).2.2 a j = D a j
  | 0, m, D, E, h, a, j, ha => h a j ha
  | k + 1, m, D, E, h, a, j, ha => by
    unfold cyGo
    split
    · exact h a j ha
    · refine cyGo_gsm t s to o k (m + 1) D _ (fun a j ha => ?_) a j ha
      unfold cyS
      split
      · exact h a j ha
      · rw [sLay_o ha]; exact h a j ha
theorem cyGo_r (t s to o : Int) : ∀ (k : Nat) (m : Int) (E : DD), (cyGo t s to o k m E).1 ≤ m + k ∧ ((cyGo t s to o k m E).2.1 = 0 ∨ (cyGo t s to o k m E).2.1 = -11 ∨ (cyGo t s to o k m E).2.1 = -12 ∨ (cyGo t s to o k m E).2.1 = -2)
  | 0, m, E => ⟨by show m ≤ _; omega, Or.inl rfl⟩
  | k + 1, m, E => by
    unfold cyGo
    split
    · refine ⟨by show m ≤ _; omega, ?_⟩
      show cyF E t (s + m) to (o + m) = 0 ∨ _
      unfold cyF
      split
      · exact Or.inr (Or.inl rfl)
      · split
        · exact Or.inr (Or.inr (Or.inl rfl))
        · split
          · exact Or.inr (Or.inr (Or.inr rfl))
          · exact Or.inl rfl
    · have := cyGo_r t s to o k (m + 1) (cyS E t (s + m) to (o + m))
      refine ⟨?_, this.2⟩
      have := this.1
      push_cast
      omega
/-- the end of a copy -/
theorem c_copyEnd {h0 h : AH} {Q : Option AV → AH → Prop} {G : Nat → Prop} {n : Nat} {Ds : Nat → DD} {c : Int} {S : DD} {T : FD} {Z : DD} {t s nn0 to ot x y : Int} (hF : Fix h) (m : CMid h0 G n Ds c S T x 0 0 h) (ci : CInv h0 n Ds Z c) (wz : WZ Z c) (hc : c ≤ 1000) (hn : n < 300) (hx : 0 ≤ x ∧ x ≤ 40) (hy : -1000 ≤ y ∧ y ≤ 0) (e1 : (cyp (Ds n) t s nn0 to ot).1 = x) (e2 : (cyp (Ds n) t s nn0 to ot).2.1 = y) (rc : RC S T (cyp (Ds n) t s nn0 to ot).2.2) (h0x : x = 0 → h = h0)
    (cq : CQ h0 n Ds Z c (aF 15 t s nn0 to ot 0) 1 Q) : ((x ≤ 0) → Ok 129 0 [some (vR (some 1)), some (vI y), none] [] (si h 1 11 y) (fun v h_1 => ∃ x_2, v = some (vI x_2) ∧ Fix h_1 ∧ Q (some (vI x)) h_1)) ∧ (¬ (x ≤ 0) → Ok 15 0 [some (vR (some 2))] [] h (fun v h_3 => v = none ∧ Fix h_3 ∧ Ok 129 0 [some (vR (some 1)), some (vI y), none] [] (si h_3 1 11 y) (fun v h_4 => ∃ x_5, v = some (vI x_5) ∧ Fix h_4 ∧ Q (some (vI x)) h_4))) := by
  obtain ⟨ed1, ed2, e21, n300⟩ := ci.ed
  have an : AnsA (Ds n) (aF 15 t s nn0 to ot 0) x y := by
    unfold AnsA
    simp only [aF0]
    refine ⟨fun q => absurd q (by decide), fun q q2 => absurd q2 (by decide), fun q => absurd q (by decide), fun q => absurd q (by decide), fun q => absurd q (by decide), fun q => absurd q (by decide), fun q => absurd q (by decide), fun q => absurd q (by decide), fun q => absurd q (by decide), fun q => absurd q (by decide), fun q => absurd q (by decide), fun q => absurd q (by decide), fun _ => ⟨e1.symm, e2.symm⟩, fun q => absurd q (by decide), fun q => absurd q (by decide), fun q => absurd rfl q⟩
  refine ⟨fun q => ?_, fun q => ?_⟩
  · have ex : x = 0 := by omega
    have eh := h0x ex
    subst eh
    have cz := ci.cz
    -- the status first, then the count
    have ci1 : CInv (si h 1 11 y) n Ds (fun o k => if o = 99 ∧ k = 27 then y else Z o k) c := by
      refine ci.z (fun o o1 _ _ _ _ _ _ _ _ _ => Kp.refl.si o1) rfl rfl ?_
      obtain ⟨z1, z2, z3, z4, z5, z6, z7, z8, z9⟩ := cz
      have r : ∀ o, o ≠ 1 → gi (si h 1 11 y) o = gi h o := fun o o1 => gi_si_r o1
      unfold CZ
      rw [r 98 (by decide), r 69 (by decide), r 70 (by decide), r 94 (by decide), r 95 (by decide), r 86 (by decide), r 7 (by decide), r 90 (by decide), gi_si_e, gi_si_k (by decide)]
      exact ⟨z1, rfl, z3, z4, z5, z6, z7, z8, z9⟩
    refine c_countZ (h := si h 1 11 y) hF ci1 wz (by omega) ⟨by omega, by omega⟩ (fun h1 F1 r1 k1 => ⟨_, rfl, F1, cq h1 x F1 ((Rf.refl.si (by omega)).trans r1) (Or.inl ⟨y, Or.inr (Or.inr ⟨rfl, hn, an, fun d => ?_⟩), fun Z' z => ?_⟩)⟩)
    · have := d.2.1 rfl; omega
    · obtain ⟨r1', r2, r3, r4, r5, r6, r7, r8, r9, r10, r11⟩ := z
      refine (k1 Z' ⟨r1', r4, r5, r6, (r7 (by omega)).1, (r7 (by omega)).2, r10 (fun q => q.1), r11⟩ ?_).mono (by omega)
      rw [r3 (by omega), if_pos aF0]; exact (if_pos ⟨rfl, rfl⟩).symm
  · obtain ⟨a1, a2, a3⟩ := m.ent (D' := (cyp (Ds n) t s nn0 to ot).2.2) hF ci.cz ci.ca ed1 ed2 hc hx.2 hn (Or.inl rfl) rc (Or.inr ⟨rfl, by
      have g := cyGo_gsm t s to ot nn0.toNat 0 (Ds n) (Ds n) (fun _ _ _ => rfl)
      exact ⟨g 99 1 (by omega), g 99 7 (by omega), funext fun j => g 102 j (by omega), funext fun j => g 106 j (by omega), funext fun j => g 107 j (by omega)⟩⟩) y
    refine c_enter hF m ed2 hc hn ⟨rfl, hF, ?_⟩
    have Z1ok := a3 (fun o k => if o = 99 ∧ k = 27 then y else Z o k) ⟨fun k _ _ => rfl, rfl, rfl, rfl, rfl, rfl, fun q => absurd q (by decide), fun _ => rfl, rfl⟩ rfl
    have wz1 : WZ (fun o k => if o = 99 ∧ k = 27 then y else Z o k) (c + 1) := ⟨fun k k1 k2 => by have := wz.1 k k1 k2; exact ⟨this.1, by show Z 120 k ≤ _; omega⟩, wz.2⟩
    refine c_countZ a1 Z1ok wz1 (by omega) ⟨by omega, by omega⟩ (fun h1 F1 r1 k1 => ⟨_, rfl, F1, cq h1 x F1 (a2.trans r1) (Or.inr ⟨y, rfl, hn, an, ⟨fun q => by rw [aF0] at q; omega, fun _ => by omega, by omega⟩, fun Z' z => ?_⟩)⟩)
    obtain ⟨r1', r2, r3, r4, r5, r6, r7, r8, r9, r10, r11⟩ := z
    have es : StepA (Ds n) (aF 15 t s nn0 to ot 0) = (cyp (Ds n) t s nn0 to ot).2.2 := rfl
    rw [es]
    refine k1 Z' ⟨r1', r4, r5, r6, (r7 (by omega)).1, (r7 (by omega)).2, r10 (fun q => by rw [aF0] at q; omega), r11⟩ ?_
    rw [r3 (by omega), if_pos aF0]; exact (if_pos ⟨rfl, rfl⟩).symm
theorem c_copy_33 {h0 : AH} {Q : Option AV → AH → Prop} {G : Nat → Prop} {n : Nat} {Ds : Nat → DD} {c : Int} {T : FD} {Z : DD} {t s nn0 to ot : Int} (ci : CInv h0 n Ds Z c) (wz : WZ Z c) (hc : c ≤ 1000) (hn : n < 300) (h40 : 0 ≤ nn0 ∧ nn0 ≤ 40) (ht : In (Ds n 99 11) t) (ht2 : In (Ds n 99 11) to) (w : WF (Ds n)) (hs : R32 s) (hs2 : R32 ot)
    (cq : CQ h0 n Ds Z c (aF 15 t s nn0 to ot 0) 1 Q) (k : Nat) : ∀ (h : AH) (S E : DD) (x : Int), (nn0 - x).toNat = k → 0 ≤ x → x ≤ nn0 → Fix h → CMid h0 G n Ds c S T x 0 0 h → WF E → (∀ a j, a < 112 ∨ 117 < a → E a j = Ds n a j) → RC S T E → cyGo t s to ot k x E = cyp (Ds n) t s nn0 to ot → (x = 0 → h = h0) → Ok 171 33 [some (vR (some 1)), some (vI t), some (vI s), some (vI nn0), some (vI to), some (vI ot), some (vI 0), some (vI x), some (vI x)] [] h Q := by
  have wc := w.c
  induction k with
  | zero =>
    intro h S E x hk x0 x1 hF m wE eE rc ec h0x
    have e : (cyp (Ds n) t s nn0 to ot) = (x, 0, E) := ec.symm
    refine f_X11_copy_33 hF _ _ _ _ _ _ _ _ ⟨fun _ => c_copyEnd hF m ci wz hc hn ⟨x0, by omega⟩ (by decide) (by rw [e]) (by rw [e]) (by rw [e]; exact rc) h0x cq, fun q => by omega⟩
  | succ k ih =>
    intro h S E x hk x0 x1 hF m wE eE rc ec h0x
    have tr := m.tr (Or.inl (by decide)) rc
    have e11 : E 99 11 = Ds n 99 11 := eE 99 11 (by omega)
    have htE : In (E 99 11) t := by rw [e11]; exact ht
    have ht2E : In (E 99 11) to := by rw [e11]; exact ht2
    have b1 := hs.1
    have b2 := hs.2
    have b3 := hs2.1
    have b4 := hs2.2
    refine f_X11_copy_33 hF _ _ _ _ _ _ _ _ ⟨fun q => by omega, fun _ => ⟨fun q => absurd rfl q, fun _ => c_barrierToCopy hF tr wE htE ht2E ⟨by omega, by omega⟩ ⟨by omega, by omega⟩ ⟨_, rfl, hF, fun q => ⟨⟨by omega, by omega⟩, ?_⟩, fun q => ?_⟩⟩⟩
    · have e : (cyp (Ds n) t s nn0 to ot) = (x, cyF E t (s + x) to (ot + x), E) := by rw [← ec]; unfold cyGo; rw [if_pos q]
      have rr := (cyGo_r t s to ot nn0.toNat 0 (Ds n)).2
      have rr' : cyF E t (s + x) to (ot + x) = 0 ∨ cyF E t (s + x) to (ot + x) = -11 ∨ cyF E t (s + x) to (ot + x) = -12 ∨ cyF E t (s + x) to (ot + x) = -2 := by
        have e3 : (cyGo t s to ot nn0.toNat 0 (Ds n)).2.1 = cyF E t (s + x) to (ot + x) := by
          show (cyp (Ds n) t s nn0 to ot).2.1 = _
          rw [e]
        rw [e3] at rr; exact rr
      have fe := c_copyEnd (x := x) (y := cyF E t (s + x) to (ot + x)) hF m ci wz hc hn ⟨x0, by omega⟩ (by omega) (by rw [e]) (by rw [e]) (by rw [e]; exact rc) h0x cq
      exact f_X11_copy_33 hF _ _ _ _ _ _ _ _ ⟨fun _ => fe, fun _ => ⟨fun _ => fe, fun q2 => absurd q q2⟩⟩
    · have q0 : cyF E t (s + x) to (ot + x) = 0 := Decidable.not_not.mp q
      obtain ⟨c1, c2, c3, c4⟩ := cyF_0 q0
      have g1 := c1.1
      have g2 := c1.2
      have g3 := c2.1
      have g4 := c2.2
      have w40 := (wE.2.2.2.1 t htE).2.1
      have v40 := (wE.2.2.2.1 to ht2E).2.1
      have i1 := ht.1
      have i2 := ht.2
      have i3 := ht2.1
      have i4 := ht2.2
      rw [w32_of ⟨by omega, by omega⟩, w32_of ⟨by omega, by omega⟩, q0]
      refine c_putSame hF m (by omega) ⟨by omega, by omega⟩ ⟨by omega, by omega⟩ ⟨by omega, by omega⟩ ⟨by omega, by omega⟩ (fun h2 F2 m2 p2 => ⟨rfl, F2, ⟨by omega, by omega⟩, ⟨by omega, by omega⟩, ?_⟩)
      have ec2 : cyGo t s to ot k (x + 1) (cyS E t (s + x) to (ot + x)) = cyp (Ds n) t s nn0 to ot := by
        rw [← ec]
        conv => rhs; unfold cyGo
        rw [if_neg (by omega)]
      refine ih h2 _ (cyS E t (s + x) to (ot + x)) (x + 1) (by omega) (by omega) (by omega) F2 m2 (WF_cyS wE htE ht2E q0) (fun a j ha => ?_) ?_ ec2 (fun q => by omega)
      · unfold cyS
        split
        · exact eE a j ha
        · rw [sLay_o ha]; exact eE a j ha
      · unfold cyS
        by_cases z : 40 * t + (s + x) = 40 * to + (ot + x)
        · rw [if_pos z, ← z, up_id]; exact rc
        · rw [if_neg z]; exact RC_lay wE rc htE c1 ht2E c2
theorem c_copy {h : AH} {Q : Option AV → AH → Prop} {n : Nat} {Ds : Nat → DD} {Z : DD} {c p t s nn0 to ot : Int} (hF : Fix h) (ci : CInv h n Ds Z c) (w : WF (Ds n)) (wz : WZ Z c) (hc : c ≤ 1000) (hs : R32 s) (hs2 : R32 ot) (hp : rp ((0 ≤ t ∧ t < Ds n 99 11) ∧ (0 ≤ to ∧ to < Ds n 99 11) ∧ 0 ≤ nn0 ∧ nn0 ≤ 40) p)
    (cq : CQ h n Ds Z c (aF 15 t s nn0 to ot 0) p Q) : Ok 171 0 [some (vR (some 1)), some (vI t), some (vI s), some (vI nn0), some (vI to), some (vI ot), none, none, none] [] h Q := by
  obtain ⟨hp1, hp0, hp01⟩ := rp_of hp
  obtain ⟨G, S, T, m, rc⟩ := ci.mid
  obtain ⟨ed1, ed2, e21, n300⟩ := ci.ed
  have tr := m.tr (Or.inl (by decide)) rc
  have wc := w.c
  refine f_X11_copy_0 hF _ _ _ _ _ ?_
  rw [tr.T]
  refine ⟨fun q => c_bad hF ci wz hc (hp0.mpr (by omega)) cq, fun q => ⟨fun q2 => c_bad hF ci wz hc (hp0.mpr (by omega)) cq, fun q2 => ⟨fun q3 => c_bad hF ci wz hc (hp0.mpr (by omega)) cq, fun q3 => ⟨fun q4 => c_bad hF ci wz hc (hp0.mpr (by omega)) cq, fun q4 => ⟨fun q5 => c_bad hF ci wz hc (hp0.mpr (by omega)) cq, fun q5 => ⟨fun q6 => ⟨fun q7 => ?_, fun q7 => c_full hF ci wz hc (hp1.mpr (by omega)) q7 cq⟩, fun q6 => c_bad hF ci wz hc (hp0.mpr (by omega)) cq⟩⟩⟩⟩⟩⟩
  have hv : p = 1 := hp1.mpr (by omega)
  subst hv
  exact c_copy_33 ci wz hc (by omega) ⟨by omega, by omega⟩ ⟨by omega, by omega⟩ ⟨by omega, by omega⟩ w hs hs2 cq _ h S (Ds n) 0 rfl (by omega) (by omega) hF m w (fun _ _ _ => rfl) rc (by rw [Int.sub_zero]; rfl) (fun _ => rfl)
