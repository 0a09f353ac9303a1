/-! asks, sequences, undo, orders, digest on both sides -/
def zA (Z : DD) (g : Int) (l : List Int) : DD := fun o k => if o = 99 ∧ k = 28 then g else if o = 99 ∧ k = 29 then (l.length : Int) else if o = 121 then l.getD k.toNat 0 else Z o k
theorem zA_t {Z : DD} {g : Int} {l : List Int} (j : Nat) (hj : j < l.length) : zA Z g l 121 j = l[j] := by
  show l.getD (j : Int).toNat 0 = l[j]
  rw [Int.toNat_natCast, List.getD_eq_getElem?_getD, List.getElem?_eq_getElem hj]
  rfl
theorem RZ.asks {h h2 : AH} {Z : DD} {g : Int} {l : List Int} {L : List Nat} {K : List (Nat × Int)} (z : RZ h Z) (f : Fr L K h h2) (hL : 99 ∉ L ∧ 122 ∉ L ∧ 134 ∉ L) (hK : (99, 27) ∉ K ∧ (99, 31) ∉ K ∧ (99, 48) ∉ K ∧ (99, 26) ∉ K ∧ ∀ q ∈ K, q.1 = 99) (t : TrI (si (si h 99 0 0) 99 29 0) h2 l) (e28 : gi h2 99 28 = g) {Z' : DD} (e1 : ∀ k, 1 ≤ k → k ≤ 6 → gi h2 120 k = Z' 120 k) (eZ : ∀ o k, o ≠ 120 → Z' o k = zA Z g l o k) : RZ h2 Z' := by
  obtain ⟨z1, z2, z3, z4, z5, z6, z7, z8, z9, z10⟩ := z
  obtain ⟨t1, t2, _, _⟩ := t
  rw [gi_si_e] at t1 t2
  have g122 : gi h2 122 = gi h 122 := f.row hL.2.1 (fun q m => by rw [hK.2.2.2.2 q m]; decide)
  have g134 : gi h2 134 = gi h 134 := f.row hL.2.2 (fun q m => by rw [hK.2.2.2.2 q m]; decide)
  have e29 : zA Z g l 99 29 = (l.length : Int) := rfl
  have k122 : ∀ k, zA Z g l 122 k = Z 122 k := fun _ => rfl
  have k134 : ∀ k, zA Z g l 134 k = Z 134 k := fun _ => rfl
  refine ⟨e1, ?_, ?_, ?_, fun i hi => ?_, ?_, fun i hi => ?_, ?_, fun i hi q => ?_, ?_⟩
  · rw [eZ 99 27 (by decide), f.1 99 27 hL.1 hK.1]; exact z2
  · rw [eZ 99 28 (by decide), e28]; rfl
  · rw [eZ 99 29 (by decide), t1, e29]; omega
  · rw [eZ 99 29 (by decide), e29] at hi
    rw [eZ 121 i (by decide)]
    obtain ⟨i0, i1⟩ := hi
    have ei : i = (i.toNat : Int) := by omega
    have := t2 i.toNat (by omega)
    rw [ei, zA_t _ (by omega), ← this]
    congr 1
    omega
  · rw [eZ 99 31 (by decide), f.1 99 31 hL.1 hK.2.1]; exact z6
  · rw [eZ 99 31 (by decide)] at hi
    rw [g122, eZ 122 i (by decide), k122]; exact z7 i hi
  · rw [eZ 99 48 (by decide), f.1 99 48 hL.1 hK.2.2.1]; exact z8
  · rw [eZ 99 48 (by decide)] at q
    rw [g134, eZ 134 i (by decide), k134]; exact z9 i hi q
  · rw [f.1 99 26 hL.1 hK.2.2.2.1]; exact z10
theorem MInv.asks {h h2 : AH} {n : Nat} {Ds : Nat → DD} {Z Z' : DD} (m : MInv h n Ds Z) (f : Fr [120, 121] [(99, 0), (99, 28), (99, 29)] h h2) (z : RZ h2 Z') : MInv h2 n Ds Z' := by
  obtain ⟨m1, m2, m3, m4, m5, m6, m7⟩ := m
  exact ⟨m1, by rw [f.1 99 39 (by decide) (by decide)]; exact m2, m3.fr f (by decide) (by decide), m4, m5, m6.fr (fun k => by rw [f.row (by decide) (by decide)]) (fun k => by rw [f.row (by decide) (by decide)]) (fun k => by rw [f.rowl (by decide) (by decide)]), z⟩
theorem b_asks {h : AH} {n : Nat} {Ds : Nat → DD} {Z : DD} {c u a : Int} (j : JI h n Ds Z c) (hc : c ≤ 600) : Both 136 [some (vR (some 1)), some (vI u), some (vI a), none] 201 [some (vR (some 99)), some (vI u), some (vI a)] h c := by
  have wz := j.2.2.2.1
  have bl := bods_len (a := a) (k := Ds n 100 u)
  refine both_of (c_asks j.1 j.2.1 j.w wz (by omega) (fun nq => ⟨_, rfl, ?_⟩) (fun h1 q nn F1 r1 ci => ⟨_, rfl, ?_⟩) (fun h1 q nn F1 r1 ci => ⟨_, rfl, ?_⟩))
  · exact m_asks j.1 j.2.2.1.2.2.1 j.w (j.2.2.1.fb wz (by omega)) (fun _ => ⟨rfl, n, Ds, Z, j.same j.1 Rf.refl j.2.1 (f0_fr (by decide))⟩) (fun _ q => absurd q nq) (fun _ q => absurd q nq)
  · have m1 := j.2.2.1.rf r1
    refine m_asks F1 m1.2.2.1 j.w (m1.fb wz (by omega)) (fun nq => absurd q nq) (fun h2 _ _ F2 f2 t e28 => ⟨rfl, n, Ds, zA Z (gives a (Ds n 100 u) (Ds n 101 u)) (bods a (Ds n 100 u)), ?_⟩) (fun _ _ e => absurd e nn)
    have f2' : Fr [120, 121] [(99, 0), (99, 28), (99, 29)] h1 h2 := f2.mono (by decide) (by decide)
    refine ⟨F2, ((ci (zA Z (gives a (Ds n 100 u) (Ds n 101 u)) (bods a (Ds n 100 u))) (fun _ _ _ => rfl) rfl rfl rfl (fun j hj => zA_t j hj) rfl rfl rfl rfl).frR f2 (by decide) (by decide)).mono (by omega), m1.asks f2' (m1.2.2.2.2.2.2.asks f2 (by decide) (by decide) t e28 (fun k k1 k2 => ?_) (fun _ _ _ => rfl)), ⟨fun k k1 k2 => ?_, ?_, wz.2.2.1, wz.2.2.2⟩, (j.2.2.2.2.1.rf r1).fr f2 (by decide) (by decide), j.2.2.2.2.2.1, j.2.2.2.2.2.2⟩
    · rw [f2.row (o := 120) (by decide) (by decide)]; exact m1.2.2.2.2.2.2.1 k k1 k2
    · have := wz.1 k k1 k2; show 0 ≤ Z 120 k ∧ Z 120 k ≤ c + 1; omega
    · show 0 ≤ ((bods a (Ds n 100 u)).length : Int) ∧ ((bods a (Ds n 100 u)).length : Int) ≤ 4; omega
  · have m1 := j.2.2.1.rf r1
    refine m_asks F1 m1.2.2.1 j.w (m1.fb wz (by omega)) (fun nq => absurd q nq) (fun _ _ e => absurd nn e) (fun h2 _ _ F2 f2 t fd => ⟨rfl, n, Ds, zF (zA Z (Z 99 28) (bods a (Ds n 100 u))) (-14), ?_⟩)
    have f2' : Fr [120, 121] [(99, 0), (99, 28), (99, 29)] h1 h2 := f2.mono (by decide) (by decide)
    refine ⟨F2, ((ci (zF (zA Z (Z 99 28) (bods a (Ds n 100 u))) (-14)) (fun k _ _ => by rw [zF_e]; rfl) rfl rfl rfl (fun j hj => by rw [zF_o (by decide)]; exact zA_t j hj) rfl (by rw [zF_o (by decide)]; rfl) rfl (by rw [zF_o (by decide)]; rfl)).frR f2 (by decide) (by decide)).mono (by omega), m1.asks f2' (m1.2.2.2.2.2.2.asks f2 (by decide) (by decide) t (g := Z 99 28) ?_ (fun k k1 k2 => ?_) (fun o k ho => by rw [zF_o ho])), ⟨fun k k1 k2 => ?_, ?_, wz.2.2.1, wz.2.2.2⟩, (j.2.2.2.2.1.rf r1).fr f2 (by decide) (by decide), ?_, j.2.2.2.2.2.2⟩
    · rw [f2.1 99 28 (by decide) (by decide)]; exact m1.2.2.2.2.2.2.2.2.1
    · have z10 := m1.2.2.2.2.2.2.2.2.2.2.2.2.2.2.2
      rw [fd k k1 k2, z10, m1.2.2.2.2.2.2.1 k k1 k2, zF_e]
      by_cases hx : (-14 : Int) = -10 - k
      · rw [if_pos ⟨rfl, hx⟩, if_pos hx]; rfl
      · rw [if_neg (fun q => hx q.2), if_neg hx]; rfl
    · have := wz.1 k k1 k2
      rw [zF_e]
      show 0 ≤ Z 120 k + _ ∧ Z 120 k + _ ≤ c + 1
      split <;> omega
    · show 0 ≤ ((bods a (Ds n 100 u)).length : Int) ∧ ((bods a (Ds n 100 u)).length : Int) ≤ 4; omega
    · have zs := j.2.2.2.2.2.1
      unfold ZS
      rw [zF_o (o := 99) (by decide), zF_o (o := 134) (by decide)]
      exact zs
