def aF (a0 a1 a2 a3 a4 a5 a6 : Int) : Int → Int := fun k => if k = 0 then a0 else if k = 1 then a1 else if k = 2 then a2 else if k = 3 then a3 else if k = 4 then a4 else if k = 5 then a5 else a6
theorem aF0 {a0 a1 a2 a3 a4 a5 a6 : Int} : aF a0 a1 a2 a3 a4 a5 a6 0 = a0 := rfl
theorem aF1 {a0 a1 a2 a3 a4 a5 a6 : Int} : aF a0 a1 a2 a3 a4 a5 a6 1 = a1 := rfl
theorem aF2 {a0 a1 a2 a3 a4 a5 a6 : Int} : aF a0 a1 a2 a3 a4 a5 a6 2 = a2 := rfl
theorem aF3 {a0 a1 a2 a3 a4 a5 a6 : Int} : aF a0 a1 a2 a3 a4 a5 a6 3 = a3 := rfl
theorem aF4 {a0 a1 a2 a3 a4 a5 a6 : Int} : aF a0 a1 a2 a3 a4 a5 a6 4 = a4 := rfl
theorem aF5 {a0 a1 a2 a3 a4 a5 a6 : Int} : aF a0 a1 a2 a3 a4 a5 a6 5 = a5 := rfl
theorem aF6 {a0 a1 a2 a3 a4 a5 a6 : Int} : aF a0 a1 a2 a3 a4 a5 a6 6 = a6 := rfl
theorem CInv.mono {h : AH} {n : Nat} {Ds : Nat → DD} {Z : DD} {c c' : Int} (ci : CInv h n Ds Z c) (hc : c ≤ c') : CInv h n Ds Z c' := by
  obtain ⟨G, Ss, T, E, L, w, c1, c2, c3, c4, c5, c6, c7, r1, r2, r3, x, K, r4, r5, r6, r7, r8, r9, r10, r11⟩ := ci
  exact ⟨G, Ss, T, E, L, w, c1, c2, c3, c4, c5, c6, c7, ⟨r1.1, by omega⟩, ⟨r2.1, by omega⟩, by omega, x, K, r4, r5, r6, r7, r8, r9, r10, by omega⟩
/-- what an act of the class leaves, with the answer x -/
def CAct (h' : AH) (n : Nat) (Ds : Nat → DD) (Z : DD) (c : Int) (A : Int → Int) (p x : Int) : Prop :=
  (∃ y, ActN (Ds n) n A p x y ∧ ∀ Z', Zrel (Ds n) A x y False Z Z' → CInv h' n Ds Z' (c + 1)) ∨
  (∃ y, p = 1 ∧ n < 300 ∧ AnsA (Ds n) A x y ∧ DnA A x ∧ ∀ Z', Zrel (Ds n) A x y True Z Z' → CInv h' (n + 1) (ext Ds n (StepA (Ds n) A)) Z' (c + 1))
theorem Zrel.n {D : DD} {A : Int → Int} {x : Int} {Z Z' : DD} (z : Zrel D A x x False Z Z') (hx : x < 0) (h4 : x ≠ -4) : Zn Z Z' x ∧ Z' 99 27 = x := by
  obtain ⟨r1, r2, r3, r4, r5, r6, r7, r8, r9, r10, r11⟩ := z
  exact ⟨⟨r1, r4, r5, r6, (r7 h4).1, (r7 h4).2, r10 (fun q => q.1), r11⟩, r2 hx⟩
theorem Zrel.d {D : DD} {A : Int → Int} {x e : Int} {Z Z' : DD} (z : Zrel D A x x True Z Z') (hx : 0 ≤ x) (h15 : A 0 ≠ 15) (he : e = 1 ∧ A 0 ≤ 4 ∨ e = 0 ∧ 4 < A 0) : Zd Z Z' e ∧ Z' 99 27 = 0 := by
  obtain ⟨r1, r2, r3, r4, r5, r6, r7, r8, r9, r10, r11⟩ := z
  refine ⟨⟨fun k k1 k2 => by rw [r1 k k1 k2, if_neg (by omega)]; omega, r4, r5, r6, (r7 (by omega)).1, (r7 (by omega)).2, fun q => r9 ⟨trivial, by omega⟩, fun q => r10 (fun s => by have := s.2; omega), r11⟩, ?_⟩
  rw [r3 hx, if_neg h15]
/-- a refusal as an act's end -/
theorem c_no {h : AH} {Q : Option AV → AH → Prop} {n : Nat} {Ds : Nat → DD} {Z : DD} {c x p : Int} {A : Int → Int} (hF : Fix h) (ci : CInv h n Ds Z c) (wz : WZ Z c) (hc : c ≤ 1000) (hx : -100 ≤ x ∧ x < 0) (h4 : x ≠ -4) (an : ActN (Ds n) n A p x x)
    (cont : ∀ h', Fix h' → Rf h h' → CAct h' n Ds Z c A p x → Q (some (vI x)) h') : Ok 130 0 [some (vR (some 1)), some (vI x)] [] h Q :=
  c_refused hF ci wz hc ⟨by omega, by omega⟩ (fun h' F' r' k' => cont h' F' r' (Or.inl ⟨x, an, fun Z' z => by
    obtain ⟨a, b⟩ := z.n hx.2 h4
    exact (k' Z' a b).mono (by omega)⟩))
/-- the columns as they are read -/
theorem CMid.rd {h0 h : AH} {G : Nat → Prop} {n : Nat} {Ds : Nat → DD} {c : Int} {S : DD} {T : FD} {k e f : Int} (m : CMid h0 G n Ds c S T k e f h) {o : Nat} {N i : Int} (co : Cl o N) (hi : In N i) : gi h o i = S o i := by
  obtain ⟨Ss, E, L, w, cc, m1, _⟩ := m
  exact m1.2.1 o N i co hi
theorem WF.c {D : DD} (w : WF D) : 0 ≤ D 99 1 ∧ D 99 1 ≤ 100 ∧ 0 ≤ D 99 7 ∧ D 99 7 ≤ 200 ∧ 0 ≤ D 99 11 ∧ D 99 11 ≤ 60 ∧ 0 ≤ D 99 22 ∧ D 99 22 ≤ 80 := w.1
theorem rp_of {P : Prop} {p : Int} (h : rp P p) : (p = 1 ↔ P) ∧ (p = 0 ↔ ¬ P) ∧ (p = 0 ∨ p = 1) := by
  rcases h with ⟨h1, h2⟩ | ⟨h1, h2⟩
  · exact ⟨⟨fun _ => h2, fun _ => h1⟩, ⟨fun q => by omega, fun q => absurd h2 q⟩, Or.inr h1⟩
  · exact ⟨⟨fun q => by omega, fun q => absurd q h2⟩, ⟨fun _ => h2, fun _ => h1⟩, Or.inl h1⟩
/-- what a unit's making does to the columns -/
def tUnit (S : DD) (u k m : Int) : DD := up (up (up (up (up (up S 10 u k) 12 u m) 14 u (-10000)) 16 u 2100) 18 u u) 20 0 (u + 1)
theorem RC_unit {S D : DD} {T : FD} {k m : Int} (w : WF D) (r : RC S T D) (h : D 99 1 < 100) : RC (tUnit S (D 99 1) k m) T (sUnit D k m) := by
  obtain ⟨⟨u1, u2⟩, r2, r3, r4, r5⟩ := r
  have eD : ∀ o, (105 ≤ o) → sUnit D k m o = D o := fun o ho => by
    unfold sUnit
    rw [up_r (by omega), up_r (by omega), up_r (by omega), up_r (by omega), up_r (by omega), up_r (by omega)]
  have e9 : ∀ i, i ≠ 1 → sUnit D k m 99 i = D 99 i := fun i hi => by
    unfold sUnit
    rw [up_k hi, up_o (by decide), up_o (by decide), up_o (by decide), up_o (by decide), up_o (by decide)]
  have eS : ∀ o, 20 < o → tUnit S (D 99 1) k m o = S o := fun o ho => by
    unfold tUnit
    rw [up_r (by omega), up_r (by omega), up_r (by omega), up_r (by omega), up_r (by omega), up_r (by omega)]
  refine ⟨⟨?_, fun u hu => ?_⟩, ?_, ?_, ?_, ?_⟩
  · unfold tUnit sUnit; rw [up_e, up_e]
  · have e1 : sUnit D k m 99 1 = D 99 1 + 1 := by unfold sUnit; rw [up_e]
    rw [e1] at hu
    have hs : ∀ o, tUnit S (D 99 1) k m o u = if o = 20 ∧ u = 0 then D 99 1 + 1 else if o = 18 ∧ u = D 99 1 then D 99 1 else if o = 16 ∧ u = D 99 1 then 2100 else if o = 14 ∧ u = D 99 1 then -10000 else if o = 12 ∧ u = D 99 1 then m else if o = 10 ∧ u = D 99 1 then k else S o u := fun o => rfl
    have hd : ∀ o i, sUnit D k m o i = if o = 99 ∧ i = 1 then D 99 1 + 1 else if o = 104 ∧ i = D 99 1 then 2100 else if o = 103 ∧ i = D 99 1 then -10000 else if o = 102 ∧ i = D 99 1 then D 99 1 else if o = 101 ∧ i = D 99 1 then m else if o = 100 ∧ i = D 99 1 then k else D o i := fun o i => rfl
    simp only [hs, hd]
    by_cases e : u = D 99 1
    · subst e
      simp
      have := hu.1
      omega
    · have hu' : In (D 99 1) u := ⟨hu.1, by have := hu.2; omega⟩
      obtain ⟨a1, a2, a3, a4, a5, a6, a7, a8⟩ := u2 u hu'
      simp [e]
      refine ⟨a1, a2, a3, a4, a5, a6, a7, fun q => ?_⟩
      have := hu'.2
      rw [if_neg (by omega)]
      exact a8 q
  · unfold RCr
    rw [e9 7 (by decide), eS 46 (by decide), eS 40 (by decide), eS 42 (by decide), eS 44 (by decide), eD 105 (by decide), eD 106 (by decide), eD 107 (by decide)]; exact r2
  · unfold RCt Plc
    rw [e9 11 (by decide), eS 64 (by decide), eS 50 (by decide), eS 52 (by decide), eS 54 (by decide), eS 56 (by decide), eD 108 (by decide), eD 109 (by decide), eD 110 (by decide), eD 111 (by decide)]; exact r3
  · unfold RCs SlotR
    rw [e9 11 (by decide), eS 68 (by decide), eS 58 (by decide), eS 54 (by decide), eD 109 (by decide), eD 112 (by decide), eD 113 (by decide), eD 114 (by decide), eD 115 (by decide), eD 116 (by decide), eD 117 (by decide)]; exact r4
  · unfold RCj
    rw [e9 22 (by decide), eS 66 (by decide), eS 60 (by decide), eS 62 (by decide), eD 118 (by decide), eD 119 (by decide)]; exact r5
theorem c_unit {h : AH} {Q : Option AV → AH → Prop} {n : Nat} {Ds : Nat → DD} {Z : DD} {c p p1 p2 : Int} (hF : Fix h) (ci : CInv h n Ds Z c) (w : WF (Ds n)) (wz : WZ Z c) (hc : c ≤ 1000) (hp : rp ((0 ≤ p1 ∧ p1 ≤ 4) ∧ 0 ≤ p2 ∧ p2 ≤ 999) p)
    (cont : ∀ h' x, Fix h' → Rf h h' → CAct h' n Ds Z c (aF 0 p1 p2 0 0 0 0) p x → Q (some (vI x)) h') : Ok 135 0 [some (vR (some 1)), some (vI p1), some (vI p2)] [] h Q := by
  have fin : ∀ x, (∀ h', Fix h' → Rf h h' → CAct h' n Ds Z c (aF 0 p1 p2 0 0 0 0) p x → Q (some (vI x)) h') := fun x h' => cont h' x
  obtain ⟨hp1, hp0, hp01⟩ := rp_of hp
  have bad : ¬ ((0 ≤ p1 ∧ p1 ≤ 4) ∧ 0 ≤ p2 ∧ p2 ≤ 999) → Ok 130 0 [some (vR (some 1)), some (vI (-1))] [] h (fun v h_1 => ∃ x_2, v = some (vI x_2) ∧ Fix h_1 ∧ Q (some (vI x_2)) h_1) := fun q =>
    c_no hF ci wz hc (by decide) (by decide) (Or.inl ⟨hp0.mpr q, rfl, rfl⟩) (fun h' F' r' a' => ⟨-1, rfl, F', cont h' (-1) F' r' a'⟩)
  obtain ⟨G, S, T, m, rc⟩ := ci.mid
  obtain ⟨ed1, ed2, e21, n300⟩ := ci.ed
  have es : gi h 20 0 = Ds n 99 1 := by rw [m.rd (o := 20) (N := 1) (by decide) in10]; exact rc.1.1
  have wc := w.c
  refine f_X11_unit_0 hF _ _ ?_
  rw [e21, es]
  refine ⟨fun q => bad (by omega), fun q => ⟨fun q2 => bad (by omega), fun q2 => ⟨fun q3 => bad (by omega), fun q3 => ⟨fun q4 => ⟨fun q5 => ⟨fun q6 => ?_, fun q6 => ?_⟩, fun q5 => ?_⟩, fun q4 => bad (by omega)⟩⟩⟩⟩
  · have hv : p = 1 := hp1.mpr ⟨⟨by omega, by omega⟩, by omega, by omega⟩
    refine f_X8_add_0 hF _ _ ?_
    rw [es]
    refine c_putM hF m (by omega) (N := 100) (by decide) (by decide) ⟨by omega, by omega⟩ (fun h1 F1 m1 _ => ⟨rfl, F1, c_putM F1 m1 (by omega) (N := 100) (by decide) (by decide) ⟨by omega, by omega⟩ (fun h2 F2 m2 _ => ⟨rfl, F2, c_putM F2 m2 (by omega) (N := 100) (by decide) (by decide) ⟨by omega, by omega⟩ (fun h3 F3 m3 _ => ⟨rfl, F3, c_putM F3 m3 (by omega) (N := 100) (by decide) (by decide) ⟨by omega, by omega⟩ (fun h4 F4 m4 _ => ⟨rfl, F4, c_putM F4 m4 (by omega) (N := 100) (by decide) (by decide) ⟨by omega, by omega⟩ (fun h5 F5 m5 _ => ⟨rfl, F5, ⟨by omega, by omega⟩, c_putM F5 m5 (by omega) (N := 1) (by decide) (by decide) in10 (fun h6 F6 m6 _ => ⟨rfl, F6, ?_, ?_⟩)⟩)⟩)⟩)⟩)⟩)
    · obtain ⟨Ss, E, L, w, cc, _, _, _, _, _, _, _, _, _, _, m11, _⟩ := m6
      omega
    · refine ⟨_, rfl, F6, ?_⟩
      refine c_done (D' := sUnit (Ds n) p1 p2) (x := Ds n 99 1) F6 m6.ed ci.cz ci.ca ed1 ed2 hc (by omega) (by omega) (Or.inl rfl) (RC_unit w rc (by omega)) (Or.inl rfl) (fun h' F' r' k' => ⟨_, rfl, F', cont h' _ F' r' (Or.inr ⟨Ds n 99 1, hv, by omega, ?_, ?_, fun Z' z => ?_⟩)⟩)
      · unfold AnsA; simp [aF0, oUnit]; omega
      · unfold DnA; simp [aF0]; omega
      · obtain ⟨a, b⟩ := z.d (e := 1) (by omega) (by rw [aF0]; decide) (Or.inl ⟨rfl, by rw [aF0]; decide⟩)
        have := k' Z' a b
        have e : StepA (Ds n) (aF 0 p1 p2 0 0 0 0) = sUnit (Ds n) p1 p2 := rfl
        rw [e]; exact this
  · refine c_no hF ci wz hc (by decide) (by decide) (Or.inr (Or.inr ⟨hp1.mpr ⟨⟨by omega, by omega⟩, by omega, by omega⟩, by omega, ?_, ?_⟩)) (fun h' F' r' a' => ⟨-3, rfl, F', cont h' (-3) F' r' a'⟩)
    · unfold AnsA; simp [aF0, oUnit]; omega
    · unfold DnA; simp [aF0]
  · exact c_no hF ci wz hc (by decide) (by decide) (Or.inr (Or.inl ⟨hp1.mpr ⟨⟨by omega, by omega⟩, by omega, by omega⟩, by omega, rfl, rfl⟩)) (fun h' F' r' a' => ⟨-3, rfl, F', cont h' (-3) F' r' a'⟩)
