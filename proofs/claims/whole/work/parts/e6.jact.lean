/-! an act on both sides -/
theorem RingR_b {D : DD} (w : WF D) {a b k : Int} {wk : Int → Int} (ha : In (D 99 1) a) (h : RingR (D 99 1) (D 99 7) (dla D) (dea D) a b k wk) : 0 ≤ k ∧ k ≤ 100 := by
  obtain ⟨rk, hk, hk2⟩ := w.rk
  rcases h with ⟨_, e⟩ | ⟨_, f, f1, f2, f3, _⟩
  · omega
  · have := Far_rk hk w.ea f1 a ha
    have := hk2 a ha
    omega
theorem ring_rng {h : AH} {D : DD} {A : Int → Int} {x y : Int} (hF : Fix h) (r : RM h D) (w : WF D) (hb : Fb h) (v : ValA D A) (a : AnsA D A x y) (e : x = -4) : 1 ≤ A 0 ∧ A 0 ≤ 4 := by
  have ok := m_does (Q := fun _ h' => ∃ x' y', AnsA D A x' y' ∧ (x' = -4 → RgA D A h')) hF r w hb v (fun h' x' y' _ a' _ rg _ => ⟨x', y', a', rg⟩)
  obtain ⟨_, _, h', _, x', y', a', rg⟩ := ok
  obtain ⟨e1, _⟩ := AnsA_fun v.1 a a'
  exact (rg (by omega)).1
theorem WZ.rel {D : DD} {A : Int → Int} {x y : Int} {dn : Prop} {Z Z' : DD} {c : Int} (wz : WZ Z c) (z : Zrel D A x y dn Z Z') (h31 : x = -4 → 0 ≤ Z' 99 31 ∧ Z' 99 31 ≤ 100) : WZ Z' (c + 1) := by
  obtain ⟨r1, r2, r3, r4, r5, r6, r7, r8, r9, r10, r11⟩ := z
  obtain ⟨w1, w2, w3, w4⟩ := wz
  refine ⟨fun k k1 k2 => ?_, by rw [r5]; exact w2, ?_, ?_⟩
  · have := w1 k k1 k2
    rw [r1 k k1 k2]
    split <;> omega
  · by_cases e : x = -4
    · exact h31 e
    · rw [(r7 e).1]; exact w3
  · by_cases q : dn ∧ A 0 ≤ 4
    · exact Or.inl (r9 q)
    · rw [r10 q]; exact w4
theorem ring_31 {h : AH} {D : DD} {A : Int → Int} {x y : Int} {dn : Prop} {Z Z' : DD} (hF : Fix h) (r : RM h D) (w : WF D) (hb : Fb h) (v : ValA D A) (a : AnsA D A x y) (z : Zrel D A x y dn Z Z') (e : x = -4) : 0 ≤ Z' 99 31 ∧ Z' 99 31 ≤ 100 := by
  have rg := ring_rng hF r w hb v a e
  obtain ⟨i1, i2⟩ := v.2.2.1 rg.1 rg.2
  have q := z.2.2.2.2.2.2.2.1 e
  by_cases c : A 0 ≤ 3
  · exact RingR_b w (w.blk i2) (q.1 c)
  · have c4 : A 0 = 4 := by omega
    by_cases rc : Rch (D 99 7) (dla D) (dea D) (D 102 (A 1)) (D 102 (A 2))
    · exact RingR_b w (w.blk i1) ((q.2 c4).1 rc)
    · exact RingR_b w (w.blk i2) ((q.2 c4).2 rc)
theorem Gsm.bfE {D D' : DD} (g : Gsm D D') : bfD D' = bfD D := by funext i j; unfold bfD; rw [g.1, g.2.1, g.2.2.1, g.la, g.ea, g.bnE]
theorem J_act {h h1 : AH} {Q : Option AV → AH → Prop} {n : Nat} {Ds : Nat → DD} {Z : DD} {A : Int → Int} {p c x : Int} (j : JI h n Ds Z c) (hc : c ≤ 600) (hp : p = 0 ∨ p = 1 ∧ ValA (Ds n) A) (F1 : Fix h1) (r1 : Rf h h1) (ca : CAct h1 n Ds Z c A p x)
    (cont : ∀ h2 n' Ds' Z', JI h2 n' Ds' Z' (c + 1) → Q (some (vI x)) h2) : Ok 241 0 [some (vR (some 99)), some (vI p), some (vI (A 0)), some (vI (A 1)), some (vI (A 2)), some (vI (A 3)), some (vI (A 4)), some (vI (A 5)), some (vL (A 6)), none, none] [] h1 Q := by
  obtain ⟨hF, ci, mi, wz, c49, zs, z48⟩ := j
  have w : WF (Ds n) := mi.2.2.2.1 n (Nat.le_refl _)
  have m1 := mi.rf r1
  have c1 := c49.rf r1
  have hb1 : Fb h1 := fun k k1 k2 => by rw [m1.2.2.2.2.2.2.1 k k1 k2]; have := wz.1 k k1 k2; omega
  have hL : ∀ o ∈ aL, 99 ≤ o ∧ o ≤ 135 := by decide
  have hK : ∀ q ∈ aK, 99 ≤ q.1 ∧ q.1 ≤ 135 := by decide
  refine m_actW F1 m1 wz (by omega) hp (fun h2 x' y' F2 f2 an e49 hM => ?_) (fun h2 x' y' F2 f2 p1 n3 an dn e49 hM => ?_) (by rcases c1 with z | z; exact Or.inl z; exact Or.inr z.1)
  · have g135 : gl h2 135 = gl h1 135 := f2.rowl (by decide) (by decide)
    have c2 : C49 h2 (Ds n) := by unfold C49; rw [e49, g135]; exact c1
    have ex : ∃ y, ActN (Ds n) n A p x y ∧ ∀ Z', Zrel (Ds n) A x y False Z Z' → CInv h1 n Ds Z' (c + 1) := by
      rcases ca with z | ⟨y, d1, d2, d3, d4, _⟩
      · exact z
      · exfalso
        rcases an with q | q | ⟨_, _, q1, q2⟩
        · omega
        · omega
        · have v := (hp.resolve_left (by omega)).2
          have e := AnsA_fun v.1 d3 q1
          rw [← e.1] at q2
          exact q2 d4
    obtain ⟨y, an1, hC⟩ := ex
    have xy : x = x' ∧ y = y' ∧ ((x = -1 ∨ x = -3) ∧ y = x ∨ p = 1 ∧ AnsA (Ds n) A x y) := by
      rcases an1 with q | q | ⟨q0, q1, q2, q3⟩
      · rcases an with t | t | t
        · exact ⟨by omega, by omega, Or.inl (by omega)⟩
        · omega
        · omega
      · rcases an with t | t | t
        · omega
        · exact ⟨by omega, by omega, Or.inl (by omega)⟩
        · omega
      · rcases an with t | t | ⟨t0, t1, t2, t3⟩
        · omega
        · omega
        · have v := (hp.resolve_left (by omega)).2
          have e := AnsA_fun v.1 q2 t2
          exact ⟨e.1, e.2, Or.inr ⟨q0, q2⟩⟩
    obtain ⟨ex1, ey1, hh⟩ := xy
    subst ex1
    subst ey1
    have zz : ∃ Z', Zrel (Ds n) A x y False Z Z' ∧ WZ Z' (c + 1) := by
      rcases hh with ⟨q, e⟩ | ⟨q, a⟩
      · rw [e]
        obtain ⟨Z', z⟩ := Zrel_n (D := Ds n) (A := A) q Z
        exact ⟨Z', z, wz.rel z (fun t => by omega)⟩
      · have v := (hp.resolve_left (by omega)).2
        obtain ⟨Z', z⟩ := Zrel_ex F1 m1.2.2.1 w hb1 v v.1 a False Z
        exact ⟨Z', z, wz.rel z (ring_31 F1 m1.2.2.1 w hb1 v a z)⟩
    obtain ⟨Z', z, wz'⟩ := zz
    have e48 : Z' 99 48 = Z 99 48 := z.2.2.2.2.2.2.2.2.2.1 (fun q => q.1)
    have e134 : Z' 134 = Z 134 := z.2.2.2.2.2.2.2.2.2.2
    exact cont h2 n Ds Z' ⟨F2, (hC Z' z).frR f2 hL hK, hM Z' z, wz', c2, fun q => by rw [e134]; exact zs (by rw [← e48]; exact q), by rw [e48]; exact z48⟩
  · have ex : ∃ y, AnsA (Ds n) A x y ∧ ∀ Z', Zrel (Ds n) A x y True Z Z' → CInv h1 (n + 1) (ext Ds n (StepA (Ds n) A)) Z' (c + 1) := by
      rcases ca with ⟨y, q, _⟩ | ⟨y, d1, d2, d3, d4, d5⟩
      · exfalso
        rcases q with q | q | ⟨_, _, q1, q2⟩
        · omega
        · omega
        · have v := (hp.resolve_left (by omega)).2
          have e := AnsA_fun v.1 q1 an
          rw [e.1] at q2
          exact q2 dn
      · exact ⟨y, d3, d5⟩
    obtain ⟨y, a, hC⟩ := ex
    have v := (hp.resolve_left (by omega)).2
    obtain ⟨ex1, ey1⟩ := AnsA_fun v.1 a an
    subst ex1
    subst ey1
    obtain ⟨Z', z⟩ := Zrel_ex F1 m1.2.2.1 w hb1 v v.1 a True Z
    have wz' := wz.rel z (ring_31 F1 m1.2.2.1 w hb1 v a z)
    have ed : ext Ds n (StepA (Ds n) A) (n + 1) = StepA (Ds n) A := ext_n
    have g135 : gl h2 135 = gl h1 135 := f2.rowl (by decide) (by decide)
    refine cont h2 (n + 1) _ Z' ⟨F2, (hC Z' z).frR f2 hL hK, hM Z' z, wz', ?_, fun q => ?_, ?_⟩
    · rw [ed]
      by_cases q : A 0 ≤ 4
      · exact Or.inl (by rw [e49, if_pos q])
      · have g := StepA_gsm (D := Ds n) (A := A) (by omega)
        unfold C49
        rw [e49, if_neg q, g135, g.nBlkE, g.nOrdE]; exact c1
    · rw [ed]
      by_cases q4 : A 0 ≤ 4
      · have := z.2.2.2.2.2.2.2.2.1 ⟨trivial, q4⟩
        omega
      · have g := StepA_gsm (D := Ds n) (A := A) (by omega)
        have e48 : Z' 99 48 = Z 99 48 := z.2.2.2.2.2.2.2.2.2.1 (fun t => q4 t.2)
        have e134 : Z' 134 = Z 134 := z.2.2.2.2.2.2.2.2.2.2
        rw [g.nBlkE, g.bfE, e134]
        exact zs (by rw [← e48]; exact q)
    · exact wz'.2.2.2
