/-! THE REFERENCE'S INVARIANT: n acts in the book, Ds j the dig after j of them, Z what else answers show -/
def RZ (h : AH) (Z : DD) : Prop := (∀ k, 1 ≤ k → k ≤ 6 → gi h 120 k = Z 120 k) ∧ gi h 99 27 = Z 99 27 ∧ gi h 99 28 = Z 99 28 ∧ gi h 99 29 = Z 99 29 ∧ (∀ i, In (Z 99 29) i → gi h 121 i = Z 121 i) ∧ gi h 99 31 = Z 99 31 ∧ (∀ i, In (Z 99 31) i → gi h 122 i = Z 122 i) ∧
  gi h 99 48 = Z 99 48 ∧ (∀ i, In 16 i → Z 99 48 = 1 → gi h 134 i = Z 134 i) ∧ gi h 99 26 = 0
/-- bounds of Z, by the number c of calls -/
def WZ (Z : DD) (c : Int) : Prop := (∀ k, 1 ≤ k → k ≤ 6 → 0 ≤ Z 120 k ∧ Z 120 k ≤ c) ∧ (0 ≤ Z 99 29 ∧ Z 99 29 ≤ 4) ∧ (0 ≤ Z 99 31 ∧ Z 99 31 ≤ 100) ∧ (Z 99 48 = 0 ∨ Z 99 48 = 1)
def LogM (h : AH) (n : Nat) (Ds : Nat → DD) : Prop := ∃ As : Nat → Int → Int, ∀ j, j < n → ValA (Ds j) (As j) ∧ (∃ x y, AnsA (Ds j) (As j) x y ∧ DnA (As j) x) ∧ Ds (j + 1) = StepA (Ds j) (As j) ∧
  gi h 126 j = As j 0 ∧ gi h 127 (5 * j) = As j 1 ∧ gi h 127 (5 * j + 1) = As j 2 ∧ gi h 127 (5 * j + 2) = As j 3 ∧ gi h 127 (5 * j + 3) = As j 4 ∧ gi h 127 (5 * j + 4) = As j 5 ∧ gl h 128 j = As j 6
def D0 : DD := fun _ _ => 0
def MInv (h : AH) (n : Nat) (Ds : Nat → DD) (Z : DD) : Prop := n ≤ 300 ∧ gi h 99 39 = n ∧ RM h (Ds n) ∧ (∀ j, j ≤ n → WF (Ds j)) ∧ Ds 0 = D0 ∧ LogM h n Ds ∧ RZ h Z
theorem LogM.fr {h h' : AH} {n : Nat} {Ds : Nat → DD} (l : LogM h n Ds) (h1 : ∀ k, gi h' 126 k = gi h 126 k) (h2 : ∀ k, gi h' 127 k = gi h 127 k) (h3 : ∀ k, gl h' 128 k = gl h 128 k) : LogM h' n Ds := by
  obtain ⟨As, l⟩ := l
  refine ⟨As, fun j hj => ?_⟩
  obtain ⟨a1, a2, a3, a4⟩ := l j hj
  refine ⟨a1, a2, a3, ?_⟩
  rw [h1, h2, h2, h2, h2, h2, h3]
  exact a4
theorem RZ.fr {L : List Nat} {K : List (Nat × Int)} {h h' : AH} {Z : DD} (z : RZ h Z) (f : Fr L K h h') (hL : 99 ∉ L ∧ 120 ∉ L ∧ 121 ∉ L ∧ 122 ∉ L ∧ 134 ∉ L) (hK : (∀ q ∈ K, q.1 ≠ 120 ∧ q.1 ≠ 121 ∧ q.1 ≠ 122 ∧ q.1 ≠ 134) ∧ (99, 27) ∉ K ∧ (99, 28) ∉ K ∧ (99, 29) ∉ K ∧ (99, 31) ∉ K ∧ (99, 48) ∉ K ∧ (99, 26) ∉ K) : RZ h' Z := by
  obtain ⟨l1, l2, l3, l4, l5⟩ := hL
  obtain ⟨k0, k1, k2, k3, k4, k5, k6⟩ := hK
  have e2 := f.row l2 (fun q hq => (k0 q hq).1)
  have e3 := f.row l3 (fun q hq => (k0 q hq).2.1)
  have e4 := f.row l4 (fun q hq => (k0 q hq).2.2.1)
  have e5 := f.row l5 (fun q hq => (k0 q hq).2.2.2)
  unfold RZ at z ⊢
  rw [e2, e3, e4, e5, f.1 99 27 l1 k1, f.1 99 28 l1 k2, f.1 99 29 l1 k3, f.1 99 31 l1 k4, f.1 99 48 l1 k5, f.1 99 26 l1 k6]
  exact z
/-- stable under writes elsewhere -/
theorem MInv.fr {L : List Nat} {K : List (Nat × Int)} {h h' : AH} {n : Nat} {Ds : Nat → DD} {Z : DD} (m : MInv h n Ds Z) (f : Fr L K h h') (hL : (∀ o ∈ L, o < 99 ∨ 119 < o) ∧ 99 ∉ L ∧ 120 ∉ L ∧ 121 ∉ L ∧ 122 ∉ L ∧ 134 ∉ L ∧ 126 ∉ L ∧ 127 ∉ L ∧ 128 ∉ L)
    (hK : (∀ q ∈ K, (q.1 < 99 ∨ 119 < q.1 ∨ q.1 = 99 ∧ q.2 ≠ 1 ∧ q.2 ≠ 7 ∧ q.2 ≠ 11 ∧ q.2 ≠ 22) ∧ q.1 ≠ 120 ∧ q.1 ≠ 121 ∧ q.1 ≠ 122 ∧ q.1 ≠ 134 ∧ q.1 ≠ 126 ∧ q.1 ≠ 127 ∧ q.1 ≠ 128) ∧ (99, 27) ∉ K ∧ (99, 28) ∉ K ∧ (99, 29) ∉ K ∧ (99, 31) ∉ K ∧ (99, 48) ∉ K ∧ (99, 26) ∉ K ∧ (99, 39) ∉ K) : MInv h' n Ds Z := by
  obtain ⟨m1, m2, m3, m4, m5, m6, m7⟩ := m
  obtain ⟨l0, l1, l2, l3, l4, l5, l6, l7, l8⟩ := hL
  obtain ⟨k0, k1, k2, k3, k4, k5, k6, k7⟩ := hK
  refine ⟨m1, by rw [f.1 99 39 l1 k7]; exact m2, m3.fr f l0 (fun q hq => (k0 q hq).1), m4, m5, m6.fr (fun k => ?_) (fun k => ?_) (fun k => ?_), m7.fr f ⟨l1, l2, l3, l4, l5⟩ ⟨fun q hq => ⟨(k0 q hq).2.1, (k0 q hq).2.2.1, (k0 q hq).2.2.2.1, (k0 q hq).2.2.2.2.1⟩, k1, k2, k3, k4, k5, k6⟩⟩
  · exact f.1 126 k l6 (fun q => (k0 _ q).2.2.2.2.2.1 rfl)
  · exact f.1 127 k l7 (fun q => (k0 _ q).2.2.2.2.2.2.1 rfl)
  · exact f.2.1 128 k (fun q => l8 q.1) (fun q => (k0 _ q.1).2.2.2.2.2.2.2 rfl)
def dRingZ (D Z : DD) (a b : Int) : Prop := RingR (D 99 1) (D 99 7) (dla D) (dea D) (D 102 a) (D 102 b) (Z 99 31) (Z 122)
def RgZ (D : DD) (A : Int → Int) (Z : DD) : Prop := (A 0 ≤ 3 → dRingZ D Z (A 2) (A 1)) ∧ (A 0 = 4 → (Rch (D 99 7) (dla D) (dea D) (D 102 (A 1)) (D 102 (A 2)) → dRingZ D Z (A 1) (A 2)) ∧ (¬ Rch (D 99 7) (dla D) (dea D) (D 102 (A 1)) (D 102 (A 2)) → dRingZ D Z (A 2) (A 1)))
/-- what an act that answered x (counted as y) makes of Z -/
def Zrel (D : DD) (A : Int → Int) (x y : Int) (dn : Prop) (Z Z' : DD) : Prop :=
  (∀ k, 1 ≤ k → k ≤ 6 → Z' 120 k = Z 120 k + (if y = -10 - k then 1 else 0)) ∧ (x < 0 → Z' 99 27 = x) ∧ (0 ≤ x → Z' 99 27 = if A 0 = 15 then y else 0) ∧ Z' 99 28 = Z 99 28 ∧ Z' 99 29 = Z 99 29 ∧ Z' 121 = Z 121 ∧
  (x ≠ -4 → Z' 99 31 = Z 99 31 ∧ Z' 122 = Z 122) ∧ (x = -4 → RgZ D A Z') ∧ (dn ∧ A 0 ≤ 4 → Z' 99 48 = 0) ∧ (¬ (dn ∧ A 0 ≤ 4) → Z' 99 48 = Z 99 48) ∧ Z' 134 = Z 134
theorem AnsA_fun {D : DD} {A : Int → Int} (h0 : 0 ≤ A 0 ∧ A 0 ≤ 17) {x y x' y' : Int} (a : AnsA D A x y) (b : AnsA D A x' y') : x = x' ∧ y = y' := by
  obtain ⟨a0, a1, a2, a3, a4, a5, a6, a7, a8, a9, a10, a11, a12, a13, a14, a15⟩ := a
  obtain ⟨b0, b1, b2, b3, b4, b5, b6, b7, b8, b9, b10, b11, b12, b13, b14, b15⟩ := b
  have fin : x = x' → A 0 ≠ 15 → x = x' ∧ y = y' := fun e hn => ⟨e, by rw [a15 hn, b15 hn]; exact e⟩
  by_cases c0 : A 0 = 0
  · exact fin (by rw [a0 c0, b0 c0]) (by omega)
  by_cases c1 : A 0 ≤ 3
  · refine fin ?_ (by omega)
    have p := a1 (by omega) c1
    have q := b1 (by omega) c1
    unfold aRelate at p q
    by_cases hf : fits D (A 0 - 1) (A 1) (A 2) <;> by_cases hr : (D 102 (A 1) = D 102 (A 2) ∨ Rch (D 99 7) (dla D) (dea D) (D 102 (A 2)) (D 102 (A 1))) <;> by_cases h7 : D 99 7 = 200 <;> simp [hf, hr, h7] at p q <;> omega
  by_cases c4 : A 0 = 4
  · refine fin ?_ (by omega)
    have p := a2 c4
    have q := b2 c4
    unfold aBond at p q
    by_cases hf : Rch (D 99 7) (dla D) (dea D) (D 102 (A 1)) (D 102 (A 2)) <;> by_cases hr : Rch (D 99 7) (dla D) (dea D) (D 102 (A 2)) (D 102 (A 1)) <;> by_cases h7 : D 102 (A 1) = D 102 (A 2) <;> simp [hf, hr, h7] at p q <;> omega
  by_cases c5 : A 0 = 5
  · exact fin (by rw [a3 c5, b3 c5]) (by omega)
  by_cases c6 : A 0 = 6
  · exact fin (by rw [a4 c6, b4 c6]) (by omega)
  by_cases c7 : A 0 = 7 ∨ A 0 = 8
  · exact fin (by rw [a5 c7, b5 c7]) (by omega)
  by_cases c9 : A 0 = 9
  · exact fin (by rw [a6 c9, b6 c9]) (by omega)
  by_cases c10 : A 0 = 10
  · exact fin (by rw [a7 c10, b7 c10]) (by omega)
  by_cases c11 : A 0 = 11
  · exact fin (by rw [a8 c11, b8 c11]) (by omega)
  by_cases c12 : A 0 = 12
  · exact fin (by rw [a9 c12, b9 c12]) (by omega)
  by_cases c13 : A 0 = 13
  · exact fin (by rw [a10 c13, b10 c13]) (by omega)
  by_cases c14 : A 0 = 14
  · exact fin (by rw [a11 c14, b11 c14]) (by omega)
  by_cases c15 : A 0 = 15
  · exact ⟨by rw [(a12 c15).1, (b12 c15).1], by rw [(a12 c15).2, (b12 c15).2]⟩
  by_cases c16 : A 0 = 16
  · exact fin (by rw [a13 c16, b13 c16]) (by omega)
  · exact fin (by rw [a14 (by omega), b14 (by omega)]) (by omega)
