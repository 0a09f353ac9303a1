/-! the class: places in a part; ways to place a set -/
theorem iShl_0 {k : Int} : iShl 0 k = 0 := by
  show ((Int32.ofInt 0) <<< (Int32.ofInt k &&& 31)).toInt = 0
  have e : (Int32.ofInt 0) <<< (Int32.ofInt k &&& 31) = 0 := by
    have : Int32.ofInt 0 = 0 := rfl
    rw [this]
    simp
  rw [e]; rfl
def F91 (h h' : AH) : Prop := (∀ o, o ≠ 91 → o ≠ 92 → Kp o h h') ∧ nn h' = nn h ∧ us h' = us h ∧ gr h' = gr h ∧ sh h' = sh h
theorem F91.refl {h : AH} : F91 h h := ⟨fun _ _ _ => Kp.refl, rfl, rfl, rfl, rfl⟩
theorem F91.si {h h1 : AH} {o : Nat} {k v : Int} (f : F91 h h1) (ho : o = 91 ∨ o = 92) : F91 h (si h1 o k v) := ⟨fun p p1 p2 => (f.1 p p1 p2).si (by omega), f.2⟩
theorem F91.fix {h h' : AH} (g : F91 h h') (hF : Fix h) : Fix h' := ⟨fun e he => by rw [g.2.2.2.1]; exact hF.1 e he, fun e he => by rw [g.2.2.2.2]; exact hF.2.1 e he, by rw [g.2.1]; exact hF.2.2⟩
def pbR (br : Nat → Nat → Prop) (s : Nat) (pt : Int → Int) (i j : Nat) : Prop := i < s ∧ j < s ∧ br (pt i).toNat (pt j).toNat
def cP (P : Nat) (x : Nat) : Nat := cnt (fun i => P.testBit i.toNat) x
theorem cP_s {P x : Nat} : cP P (x + 1) = cP P x + if P.testBit x then 1 else 0 := by
  show cnt _ x + (if P.testBit ((x : Int)).toNat then 1 else 0) = _
  rw [show ((x : Int)).toNat = x by omega]; rfl
theorem cP_m {P x y : Nat} (h : x ≤ y) : cP P x ≤ cP P y := cnt_mono h
theorem cP_lt {P x y : Nat} (hx : P.testBit x = true) (h : x < y) : cP P x < cP P y := by
  have h1 := cP_s (P := P) (x := x)
  rw [hx] at h1
  have h2 := cP_m (P := P) (x := x + 1) (y := y) h
  simp at h1
  omega
theorem cP_sur {P m i : Nat} (h : i < cP P m) : ∃ x, x < m ∧ P.testBit x = true ∧ cP P x = i := by
  obtain ⟨r, r1, r2, r3⟩ := cnt_surj (p := fun i => P.testBit i.toNat) (n := m) (j := i) h
  exact ⟨r.toNat, by have := r1.1; have := r1.2; omega, r2, r3⟩
theorem c_layOut {h : AH} {Q : Option AV → AH → Prop} {br : Nat → Nat → Prop} {m P : Nat} (hF : Fix h) (hm : m ≤ 16) (e6 : gi h 86 6 = m) (ba : BA (gi h 89) m br) (hP : P < 2 ^ m)
    (cont : ∀ h', Fix h' → F91 h h' → (∀ x : Nat, P.testBit x = true → gi h' 91 (cP P x : Nat) = x) → BA (gi h' 92) (cP P m) (pbR br (cP P m) (gi h' 91)) → Q (some (vI (cP P m : Nat))) h') : Ok 41 0 [some (vR (some 86)), some (vI (P : Int)), none, none, none] [] h Q := by
  obtain ⟨p1, p2⟩ := pw16 hm
  have cm : cP P m ≤ m := cnt_le _ _
  have second : ∀ k (h1 : AH) (i : Nat), cP P m - i = k → i ≤ cP P m → F91 h h1 → (∀ x : Nat, P.testBit x = true → gi h1 91 (cP P x : Nat) = x) → (∀ i' : Nat, i' < i → (0 ≤ gi h1 92 i' ∧ gi h1 92 i' < 65536) ∧ ∀ j, (gi h1 92 i').toNat.testBit j = true ↔ pbR br (cP P m) (gi h1 91) i' j) → Ok 41 25 [some (vR (some 86)), some (vI (P : Int)), some (vI (cP P m : Nat)), some (vI (i : Int)), none] [] h1 Q := by
    intro k
    induction k using Nat.strongRecOn with
    | ind k ih =>
      intro h1 i hk hi f hpt hI
      have F1 := f.fix hF
      refine f_X4_layOut_25 F1 _ _ _ ⟨fun c => cont h1 F1 f hpt (fun i' hi' => hI i' (by omega)), fun c => ⟨⟨by omega, by omega⟩, ?_⟩⟩
      obtain ⟨x, x1, x2, x3⟩ := cP_sur (P := P) (m := m) (i := i) (by omega)
      have inner : ∀ l (h2 : AH) (j : Nat), cP P m - j = l → j ≤ cP P m → F91 h h2 → gi h2 91 = gi h1 91 → (∀ i' : Nat, i' < i → gi h2 92 i' = gi h1 92 i') → (0 ≤ gi h2 92 i ∧ gi h2 92 i < 65536) → (∀ y, (gi h2 92 i).toNat.testBit y = true ↔ pbR br (cP P m) (gi h1 91) i y ∧ y < j) → Ok 41 35 [some (vR (some 86)), some (vI (P : Int)), some (vI (cP P m : Nat)), some (vI (i : Int)), some (vI (j : Int))] [] h2 Q := by
        intro l
        induction l using Nat.strongRecOn with
        | ind l lh =>
          intro h2 j hl hj f2 e91 h92 hb2 hbits
          have F2 := f2.fix hF
          refine f_X4_layOut_35 F2 _ _ _ _ ⟨fun c2 => ⟨⟨by omega, by omega⟩, ih _ (by omega) h2 (i + 1) rfl (by omega) f2 (by rw [e91]; exact hpt) (fun i' hi' => ?_)⟩, fun c2 => ?_⟩
          · rw [e91]
            by_cases e : i' = i
            · subst e
              refine ⟨hb2, fun y => (hbits y).trans ⟨fun z => z.1, fun z => ⟨z, by have := z.2.1; omega⟩⟩⟩
            · rw [h92 i' (by omega)]
              exact hI i' (by omega)
          obtain ⟨z, z1, z2, z3⟩ := cP_sur (P := P) (m := m) (i := j) (by omega)
          have ei : gi h2 91 (i : Int) = (x : Int) := by rw [e91, ← x3]; exact hpt x x2
          have ej : gi h2 91 (j : Int) = (z : Int) := by rw [e91, ← z3]; exact hpt z z2
          have e89 : gi h2 89 = gi h 89 := (f2.1 89 (by decide) (by decide)).1
          rw [ei, ej, e89]
          have bx := ba x x1
          have ebit : iAnd (iShr (gi h 89 (x : Int)) (z : Int)) 1 = if (gi h 89 (x : Int)).toNat.testBit z then 1 else 0 := by
            rw [bit_nn ⟨bx.1.1, by have := bx.1.2; omega⟩ ⟨by omega, by omega⟩, show ((z : Int)).toNat = z by omega]
          rw [ebit]
          refine ⟨⟨by omega, by omega⟩, ⟨by omega, by omega⟩, ⟨by omega, by omega⟩, ⟨by omega, by omega⟩, ?_⟩
          have pbe : pbR br (cP P m) (gi h1 91) i j ↔ br x z := by
            unfold pbR
            rw [← e91, ei, ej, show ((x : Int)).toNat = x by omega, show ((z : Int)).toNat = z by omega]
            exact ⟨fun q => q.2.2, fun q => ⟨by omega, by omega, q⟩⟩
          have nx : ∀ v : Nat, v < 65536 → (∀ y, v.testBit y = true ↔ pbR br (cP P m) (gi h1 91) i y ∧ y < j + 1) → Ok 41 35 [some (vR (some 86)), some (vI (P : Int)), some (vI (cP P m : Nat)), some (vI (i : Int)), some (vI ((j : Int) + 1))] [] (si h2 92 (i : Int) (v : Int)) Q := fun v hv hvb => by
            refine lh _ (by omega) _ (j + 1) rfl (by omega) (f2.si (Or.inr rfl)) (by rw [gi_si_r (by decide)]; exact e91) (fun i' hi' => by rw [gi_si_k (by omega)]; exact h92 i' hi') (by rw [gi_si_e]; omega) (fun y => ?_)
            rw [gi_si_e, show ((v : Int)).toNat = v by omega]; exact hvb y
          cases q : (gi h 89 (x : Int)).toNat.testBit z
          · rw [if_neg (by decide), iShl_0, or_0 hb2]
            have e : gi h2 92 (i : Int) = ((gi h2 92 (i : Int)).toNat : Int) := by omega
            rw [e]
            refine nx _ (by omega) (fun y => (hbits y).trans ?_)
            constructor
            · exact fun t => ⟨t.1, by omega⟩
            · intro t
              refine ⟨t.1, ?_⟩
              have : y ≠ j := fun e => by
                rw [e, pbe, ← bx.2 z, q] at t
                cases t.1
              have := t.2
              omega
          · rw [if_pos rfl]
            obtain ⟨o1, o2⟩ := or_bit (x := gi h2 92 (i : Int)) (k := (j : Int)) hb2 ⟨by omega, by omega⟩
            rw [o1]
            refine nx _ o2 (fun y => ?_)
            rw [show ((j : Int)).toNat = j by omega, tb_o]
            by_cases e : j = y
            · subst e
              have : br x z := (bx.2 z).mp q
              simp [pbe, this]
            · have hy := hbits y
              simp [e]
              rw [hy]
              refine and_congr_right (fun _ => ?_)
              omega
      refine inner _ (si h1 92 (i : Int) 0) 0 rfl (by omega) (f.si (Or.inr rfl)) (by rw [gi_si_r (by decide)]) (fun i' hi' => by rw [gi_si_k (by omega)]) (by rw [gi_si_e]; decide) (fun y => ?_)
      rw [gi_si_e]
      exact ⟨fun t => by simp at t, fun t => by have := t.2; omega⟩
  refine f_X4_layOut_0 hF _ ?_
  have first : ∀ k (h1 : AH) (b : Nat), m - b = k → b ≤ m → F91 h h1 → (∀ x : Nat, x < b → P.testBit x = true → gi h1 91 (cP P x : Nat) = x) → Ok 41 4 [some (vR (some 86)), some (vI (P : Int)), some (vI (cP P b : Nat)), some (vI (b : Int)), none] [] h1 Q := by
    intro k
    induction k using Nat.strongRecOn with
    | ind k ih =>
      intro h1 b hk hb f hI
      have F1 := f.fix hF
      have e6' : gi h1 86 6 = m := by rw [(f.1 86 (by decide) (by decide)).1]; exact e6
      refine f_X4_layOut_4 F1 _ _ _ ?_
      rw [e6']
      refine ⟨fun c => ?_, fun c => ?_⟩
      · have e : b = m := by omega
        rw [e] at hI ⊢
        exact second _ h1 0 rfl (by omega) f (fun x hx => hI x (tb_m hP hx) hx) (fun i' hi' => by omega)
      rw [bitS (by omega) (by omega)]
      have hs := cP_s (P := P) (x := b)
      have cb : cP P b ≤ b := cnt_le _ _
      refine ⟨fun c2 => ⟨⟨by omega, by omega⟩, ?_⟩, fun c2 => ⟨⟨by omega, by omega⟩, ⟨by omega, by omega⟩, ⟨by omega, by omega⟩, ?_⟩⟩
      · have t0 : P.testBit b = false := by
          cases q : P.testBit b
          · rfl
          · rw [q] at c2; exact absurd rfl c2
        rw [t0] at hs
        have := ih _ (by omega) h1 (b + 1) rfl (by omega) f (fun x hx h2 => hI x (by
          have : x ≠ b := fun e => by rw [e, t0] at h2; cases h2
          omega) h2)
        rw [hs] at this
        exact this
      · have t1 : P.testBit b = true := by
          cases q : P.testBit b
          · rw [q] at c2; exact absurd (by decide) c2
          · rfl
        rw [t1] at hs
        have := ih _ (by omega) (si h1 91 (cP P b : Nat) (b : Int)) (b + 1) rfl (by omega) (f.si (Or.inl rfl)) (fun x hx h2 => by
          by_cases e : x = b
          · subst e; rw [gi_si_e]
          · have := cP_lt h2 (show x < b by omega)
            rw [gi_si_k (by omega)]; exact hI x (by omega) h2)
        rw [hs] at this
        exact this
  exact first _ h 0 rfl (by omega) F91.refl (fun x hx => by omega)
