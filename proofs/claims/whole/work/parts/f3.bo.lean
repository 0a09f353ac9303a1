/-! sequences, undo, orders, digest on both sides -/
theorem RZ.hand {h h2 : AH} {Z : DD} {A : Int → Int} (z : RZ h Z) (f : Fr sqL sqK h h2) (e : gi h2 99 48 = 1) (ea : ∀ i, In 16 i → gi h2 134 i = A i) : RZ h2 (zS Z A) := by
  obtain ⟨z1, z2, z3, z4, z5, z6, z7, z8, z9, z10⟩ := z
  have g : ∀ o, o = 120 ∨ o = 121 ∨ o = 122 → gi h2 o = gi h o := by
    rintro o (c | c | c) <;> (subst c; exact f.row (by decide) (by decide))
  unfold RZ
  rw [g 120 (by decide), g 121 (by decide), g 122 (by decide), f.1 99 27 (by decide) (by decide), f.1 99 28 (by decide) (by decide), f.1 99 29 (by decide) (by decide), f.1 99 31 (by decide) (by decide), e, f.1 99 26 (by decide) (by decide)]
  exact ⟨z1, z2, z3, z4, z5, z6, z7, rfl, fun i hi _ => ea i hi, z10⟩
theorem MInv.hand {h h2 : AH} {n : Nat} {Ds : Nat → DD} {Z : DD} {A : Int → Int} (m : MInv h n Ds Z) (f : Fr sqL sqK h h2) (e : gi h2 99 48 = 1) (ea : ∀ i, In 16 i → gi h2 134 i = A i) : MInv h2 n Ds (zS Z A) := by
  obtain ⟨m1, m2, m3, m4, m5, m6, m7⟩ := m
  exact ⟨m1, by rw [f.1 99 39 (by decide) (by decide)]; exact m2, m3.fr f (by decide) (by decide), m4, m5, m6.fr (fun k => by rw [f.row (by decide) (by decide)]) (fun k => by rw [f.row (by decide) (by decide)]) (fun k => by rw [f.rowl (by decide) (by decide)]), m7.hand f e ea⟩
theorem JI.hand {h h1 h2 : AH} {n : Nat} {Ds : Nat → DD} {Z : DD} {c : Int} {A : Int → Int} (j : JI h n Ds Z c) (F1 : Fix h1) (r1 : Rf h h1) (ci : CInv h1 n Ds (zS Z A) c) (f : Fr sqL sqK h1 h2) (e : gi h2 99 48 = 1) (ea : ∀ i, In 16 i → gi h2 134 i = A i) (v : nBlk (Ds n) ≤ 16 ∧ Vld (bfD (Ds n)) (nBlk (Ds n)) A (nBlk (Ds n))) : JI h2 n Ds (zS Z A) (c + 1) := by
  obtain ⟨hF, _, mi, wz, c49, zs, z48⟩ := j
  exact ⟨F1.fr f, (ci.frR f (by decide) (by decide)).mono (by omega), (mi.rf r1).hand f e ea, ⟨fun k a b => by have := wz.1 k a b; show 0 ≤ Z 120 k ∧ Z 120 k ≤ c + 1; omega, wz.2.1, wz.2.2.1, Or.inr rfl⟩, (c49.rf r1).fr f (by decide) (by decide), fun _ => v, Or.inr rfl⟩
theorem b_first {h : AH} {n : Nat} {Ds : Nat → DD} {Z : DD} {c : Int} (j : JI h n Ds Z c) : Both 181 [some (vR (some 1))] 290 [some (vR (some 99))] h c := by
  refine both_of (c_first j.1 j.2.1 j.w (fun h1 q F1 r1 ci => ⟨_, rfl, ?_⟩) (fun h1 q F1 r1 ci => ⟨_, rfl, ?_⟩))
  · exact m_first F1 (j.2.2.1.rf r1).2.2.1 j.w (fun h2 _ F2 f2 => ⟨rfl, n, Ds, Z, j.same F1 r1 ci (f2.mono (by decide) (by decide))⟩) (fun _ q2 => by omega)
  · refine m_first F1 (j.2.2.1.rf r1).2.2.1 j.w (fun _ q2 => by omega) (fun h2 _ F2 f2 e48 e134 => ⟨rfl, n, Ds, zS Z (cpl (bfD (Ds n)) (nBlk (Ds n)) 0 0 (gi h1 134)), j.hand F1 r1 (ci _ (gi h1 134) (fun _ _ => rfl)) f2 e48 (fun i _ => by rw [e134]) ⟨q, ?_⟩⟩)
    exact (cpl_vld (bfD_prg j.w) _ 0 (gi h1 134) rfl (Nat.zero_le _) (fun k hk => absurd hk (Nat.not_lt_zero _))).1
theorem CInv.zc {h : AH} {n : Nat} {Ds : Nat → DD} {Z : DD} {A A' : Int → Int} {c : Int} (ci : CInv h n Ds (zS Z A) c) (e : ∀ i : Nat, i < nBlk (Ds n) → A i = A' i) : CInv h n Ds (zS Z A') c := by
  refine ci.core (fun _ _ => Kp.refl) rfl rfl rfl rfl ?_ ci.ca
  obtain ⟨z1, z2, z3, z4, z5, z6, z7, z8, z9⟩ := ci.cz
  refine ⟨z1, z2, z3, z4, z5, z6, z7, z8, fun q => ⟨(z9 q).1, fun i hi => ?_⟩⟩
  have := (z9 q).2 i hi
  have e1 : A i = A' i := by
    have := e i.toNat (by obtain ⟨a, b⟩ := hi; omega)
    rw [show ((i.toNat : Nat) : Int) = i by obtain ⟨a, b⟩ := hi; omega] at this
    exact this
  have k1 : ∀ B : Int → Int, zS Z B 134 i = B i := fun _ => rfl
  rw [k1] at this ⊢
  rw [← e1]
  exact this
theorem b_next {h : AH} {n : Nat} {Ds : Nat → DD} {Z : DD} {c : Int} (j : JI h n Ds Z c) : Both 182 [some (vR (some 1))] 291 [some (vR (some 99)), none, none, none] h c := by
  have zs := j.2.2.2.2.2.1
  have z48 := j.2.2.2.2.2.2
  have fct : ∀ h1, Rf h h1 → gi h1 99 48 = Z 99 48 ∧ (Z 99 48 = 1 → ∀ i, In 16 i → gi h1 134 i = Z 134 i) := fun h1 r1 => by
    obtain ⟨z1, z2, z3, z4, z5, z6, z7, z8, z9, z10⟩ := (j.2.2.1.rf r1).2.2.2.2.2.2
    exact ⟨z8, fun q i hi => z9 i hi q⟩
  have vl : ∀ h1, Rf h h1 → gi h1 99 48 ≠ 0 → nBlk (Ds n) ≤ 16 ∧ Vld (bfD (Ds n)) (nBlk (Ds n)) (gi h1 134) (nBlk (Ds n)) := fun h1 r1 q => by
    obtain ⟨f1, f2⟩ := fct h1 r1
    have q1 : Z 99 48 = 1 := by omega
    obtain ⟨v1, v2⟩ := zs q1
    exact ⟨v1, v2.congr (fun i hi => (f2 q1 i ⟨by omega, by omega⟩).symm)⟩
  have st : ∀ h1, Rf h h1 → Z 99 48 = 1 → (stpN (bfD (Ds n)) (nBlk (Ds n)) (nBlk (Ds n)) (pfx (Z 134) (nBlk (Ds n))) (Z 134) = none ∧ stpN (bfD (Ds n)) (nBlk (Ds n)) (nBlk (Ds n)) (pfx (gi h1 134) (nBlk (Ds n))) (gi h1 134) = none) ∨ ∃ b b', stpN (bfD (Ds n)) (nBlk (Ds n)) (nBlk (Ds n)) (pfx (Z 134) (nBlk (Ds n))) (Z 134) = some b' ∧ stpN (bfD (Ds n)) (nBlk (Ds n)) (nBlk (Ds n)) (pfx (gi h1 134) (nBlk (Ds n))) (gi h1 134) = some b ∧ ∀ j : Nat, j < nBlk (Ds n) → b j = b' j := fun h1 r1 q1 => by
    obtain ⟨f1, f2⟩ := fct h1 r1
    obtain ⟨v1, v2⟩ := zs q1
    have ee : ∀ i : Nat, i < nBlk (Ds n) → gi h1 134 i = Z 134 i := fun i hi => f2 q1 i ⟨by omega, by omega⟩
    rw [pfx_congr ee]
    exact Clo.stpE (d := bfD (Ds n)) (t := bfD (Ds n)) ⟨fun _ _ q => q, fun _ _ q => Or.inl q⟩ ee _ (Nat.le_refl _) v2
  refine both_of (c_next j.1 j.2.1 j.w zs (fun q => ⟨_, rfl, ?_⟩) (fun q1 e => ⟨_, rfl, ?_⟩) (fun h1 A' q1 e F1 r1 ci => ⟨_, rfl, ?_⟩))
  · have f1 := (fct h Rf.refl).1
    have g0 : gi h 99 48 = 0 := by omega
    exact m_next j.1 j.2.2.1.2.2.1 j.w (fun _ => ⟨rfl, n, Ds, Z, j.same j.1 Rf.refl j.2.1 (f0_fr (by decide))⟩) (fun q => absurd g0 q) (fun _ q => absurd g0 q) (fun _ _ q => absurd g0 q)
  · have f1 := (fct h Rf.refl).1
    refine m_next j.1 j.2.2.1.2.2.1 j.w (fun q => by omega) (vl h Rf.refl) (fun h2 q F2 f2 e48 _ e134 => ⟨rfl, n, Ds, Z, ?_⟩) (fun h2 A q F2 f2 e48 eA _ => ?_)
    · obtain ⟨hF, ci, mi, wz, c49, _, _⟩ := j
      obtain ⟨m1, m2, m3, m4, m5, m6, m7⟩ := mi
      obtain ⟨z1, z2, z3, z4, z5, z6, z7, z8, z9, z10⟩ := m7
      refine ⟨F2, (ci.frR f2 (by decide) (by decide)).mono (by omega), ⟨m1, by rw [f2.1 99 39 (by decide) (by decide)]; exact m2, m3.fr f2 (by decide) (by decide), m4, m5, m6.fr (fun k => by rw [f2.row (by decide) (by decide)]) (fun k => by rw [f2.row (by decide) (by decide)]) (fun k => by rw [f2.rowl (by decide) (by decide)]), ?_⟩, wz.up, c49.fr f2 (by decide) (by decide), zs, z48⟩
      have g : ∀ o, o = 120 ∨ o = 121 ∨ o = 122 → gi h2 o = gi h o := by
        rintro o (c | c | c) <;> (subst c; exact f2.row (by decide) (by decide))
      unfold RZ
      rw [g 120 (by decide), g 121 (by decide), g 122 (by decide), f2.1 99 27 (by decide) (by decide), f2.1 99 28 (by decide) (by decide), f2.1 99 29 (by decide) (by decide), f2.1 99 31 (by decide) (by decide), e48, f2.1 99 26 (by decide) (by decide), e134]
      exact ⟨z1, z2, z3, z4, z5, z6, z7, z8, z9, z10⟩
    · exfalso
      rcases st h Rf.refl q1 with ⟨_, s2⟩ | ⟨b, b', s1, _⟩
      · rw [s2] at eA; cases eA
      · rw [s1] at e; cases e
  · have f1 := (fct h1 r1).1
    refine m_next F1 (j.2.2.1.rf r1).2.2.1 j.w (fun q => by omega) (vl h1 r1) (fun h2 q F2 f2 e48 eA _ => ?_) (fun h2 A q F2 f2 e48 eA e134 => ⟨rfl, n, Ds, zS Z A, ?_⟩)
    · exfalso
      rcases st h1 r1 q1 with ⟨s1, _⟩ | ⟨b, b', _, s2, _⟩
      · rw [s1] at e; cases e
      · rw [s2] at eA; cases eA
    · rcases st h1 r1 q1 with ⟨s1, _⟩ | ⟨b, b', s1, s2, s3⟩
      · rw [s1] at e; cases e
      · rw [s1] at e
        rw [s2] at eA
        cases e
        cases eA
        obtain ⟨v1, v2⟩ := vl h1 r1 q
        exact j.hand F1 r1 (ci.zc (fun i hi => (s3 i hi).symm)) f2 (by rw [e48, f1]; exact q1) (fun i _ => by rw [e134]) ⟨v1, stp_vld (bfD_prg j.w) _ (Nat.le_refl _) v2 _ s2⟩
theorem b_place {h : AH} {n : Nat} {Ds : Nat → DD} {Z : DD} {c i : Int} (j : JI h n Ds Z c) : Both 183 [some (vR (some 1)), some (vI i)] 292 [some (vR (some 99)), some (vI i)] h c := by
  have zs := j.2.2.2.2.2.1
  have z48 := j.2.2.2.2.2.2
  obtain ⟨z1, z2, z3, z4, z5, z6, z7, z8, z9, z10⟩ := j.2.2.1.2.2.2.2.2.2
  refine both_of (c_place j.1 j.2.1 j.w (fun x a => ⟨x, rfl, ?_⟩))
  refine m_place_ j.1 j.2.2.1.2.2.1 j.w (fun q => ?_) (fun h2 y F2 f2 b => ⟨?_, n, Ds, Z, j.same j.1 Rf.refl j.2.1 (f2.mono (by decide) (by decide))⟩)
  · have q1 : Z 99 48 = 1 := by omega
    obtain ⟨v1, v2⟩ := zs q1
    exact ⟨v1, v2.congr (fun i hi => (z9 i ⟨by omega, by omega⟩ q1).symm)⟩
  · have e : (gi h 99 48 ≠ 0) = (Z 99 48 = 1) := propext ⟨fun q => by omega, fun q => by omega⟩
    rw [e] at b
    rw [aPlace_uniq (fun q1 hi => (z9 i (by obtain ⟨v1, _⟩ := zs q1; obtain ⟨a, b⟩ := hi; exact ⟨a, by omega⟩) q1)) b a]
theorem b_undo {h : AH} {n : Nat} {Ds : Nat → DD} {Z : DD} {c : Int} (j : JI h n Ds Z c) (hc : c ≤ 600) : Both 184 [some (vR (some 1))] 242 [some (vR (some 99)), none, none] h c := by
  refine both_of (c_undo j.1 j.2.1 (by omega) (fun n0 => ⟨_, rfl, ?_⟩) (fun N eN h1 F1 r1 ci => ⟨_, rfl, ?_⟩))
  · exact m_undo j.1 j.2.2.1 j.2.2.2.1 (by omega) (fun _ h2 F2 f2 => ⟨rfl, n, Ds, Z, j.same j.1 Rf.refl j.2.1 (f2.mono (by decide) (by decide))⟩) (fun N e => by omega)
  · refine m_undo F1 (j.2.2.1.rf r1) j.2.2.2.1 (by omega) (fun q => by omega) (fun N' eN' h2 F2 f2 e49 hM => ?_)
    have e : N' = N := by omega
    subst e
    have wz := j.2.2.2.1
    have zu : ZU Z (fun o k => if o = 99 ∧ (k = 31 ∨ k = 48) then 0 else Z o k) := ⟨fun _ _ _ => rfl, rfl, rfl, rfl, rfl, rfl, rfl⟩
    refine ⟨rfl, N', Ds, _, F2, (ci _ zu).frR f2 (by decide) (by decide), hM _ zu, ⟨fun k a b => ?_, wz.2.1, ⟨by show (0 : Int) ≤ 0; decide, by show (0 : Int) ≤ 100; decide⟩, Or.inl rfl⟩, Or.inl e49, fun q => absurd (show (0 : Int) = 1 from q) (by decide), Or.inl rfl⟩
    have := wz.1 k a b
    show 0 ≤ Z 120 k ∧ Z 120 k ≤ c + 1
    omega
def BothL (tc : Nat) (lc : aLs) (tm : Nat) (lm : aLs) (h : AH) (c : Int) : Prop := Ok tc 0 lc [] h (fun v h1 => ∃ x, v = some (vL x) ∧ Ok tm 0 lm [] h1 (fun v2 h2 => v2 = some (vL x) ∧ P0 h h2 ∧ ∃ n Ds Z, JI h2 n Ds Z (c + 1)))
theorem bothL_of {tc tm : Nat} {lc lm : aLs} {h : AH} {c : Int} (o : Ok tc 0 lc [] h (fun v h1 => ∃ x, v = some (vL x) ∧ Ok tm 0 lm [] h1 (fun v2 h2 => v2 = some (vL x) ∧ ∃ n Ds Z, JI h2 n Ds Z (c + 1)))) : BothL tc lc tm lm h c :=
  o.p0.mono (fun _ _ ⟨⟨x, e, o2⟩, p⟩ => ⟨x, e, o2.p0.mono (fun _ _ ⟨⟨a, b⟩, q⟩ => ⟨a, p.tr q, b⟩)⟩)
theorem b_digest {h : AH} {n : Nat} {Ds : Nat → DD} {Z : DD} {c : Int} (j : JI h n Ds Z c) : BothL 187 [some (vR (some 1)), none, none, none] 296 [some (vR (some 99)), none, none] h c :=
  bothL_of (c_digest j.1 j.2.1 j.w (fun h1 F1 r1 ci => ⟨_, rfl, m_digest F1 (j.2.2.1.rf r1).2.2.1 j.w (fun h2 F2 f2 => ⟨rfl, n, Ds, Z, j.same F1 r1 ci (f2.mono (by decide) (by decide))⟩)⟩))
theorem JI.ord {h h1 h2 : AH} {n : Nat} {Ds : Nat → DD} {Z : DD} {c : Int} (j : JI h n Ds Z c) (F1 : Fix h1) (r1 : Rf h h1) (ci : CInv h1 n Ds Z (c + 1)) (f : Fr oL oK h1 h2) (c49 : C49 h2 (Ds n)) : JI h2 n Ds Z (c + 1) := by
  obtain ⟨hF, _, mi, wz, _, zs, z48⟩ := j
  exact ⟨F1.fr f, ci.frR f (by decide) (by decide), (mi.rf r1).fr f (by decide) (by decide), wz.up, c49, zs, z48⟩
theorem b_orders {h : AH} {n : Nat} {Ds : Nat → DD} {Z : DD} {c : Int} (j : JI h n Ds Z c) : BothL 180 [some (vR (some 1))] 288 [some (vR (some 99)), none, none, none] h c := by
  refine bothL_of (c_orders j.1 j.2.1 j.w (fun h1 q F1 r1 ci => ⟨_, rfl, ?_⟩) (fun h1 q F1 r1 ci => ⟨_, rfl, ?_⟩))
  · exact m_orders F1 (j.2.2.1.rf r1).2.2.1 j.w (j.2.2.2.2.1.rf r1) (fun h2 _ F2 f2 c2 => ⟨rfl, n, Ds, Z, j.ord F1 r1 ci f2 c2⟩) (fun _ q2 => by omega)
  · exact m_orders F1 (j.2.2.1.rf r1).2.2.1 j.w (j.2.2.2.2.1.rf r1) (fun _ q2 => by omega) (fun h2 _ F2 f2 c2 => ⟨rfl, n, Ds, Z, j.ord F1 r1 ci f2 c2⟩)
