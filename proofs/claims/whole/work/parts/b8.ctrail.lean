theorem BF_adv {n R : Int} {la ea : Int → Int} {g f a : Int} {qu st : Int → Int} {dn dn' : Int → Prop} (B : BF n R la ea g f a qu st dn) (haf : a < f) (hdn : ∀ r, In R r → dn' r → dn r) : BF n R la ea g f (a + 1) qu st dn' := by
  obtain ⟨b1, b2, b3, b4, b5, b6, b7, b8, b9, b10, b11, b12, b13⟩ := B
  have ha : In f a := ⟨b1.1, haf⟩
  refine ⟨⟨by omega, by omega⟩, b2, b3, b4, b5, b6, b7, b8, fun i hi hai haf' => ?_, b10, fun r hr hd => b11 r hr (hdn r hr hd), b12, b13⟩
  have h1 := b9 i hi (by omega) haf
  have h2 := b8 a (a + 1) ha ⟨by omega, haf'⟩ (by omega)
  omega
theorem BF_rk {n R : Int} {la ea : Int → Int} {g f a : Int} {qu st : Int → Int} {dn : Int → Prop} {rk : Int → Nat} (hk : Rk R la ea rk) (hea : ∀ r, In R r → In n (ea r)) (B : BF n R la ea g f a qu st dn) : ∀ u, In n u → st u ≤ rk u := by
  have b10 := B.2.2.2.2.2.2.2.2.2.1
  have key : ∀ k : Nat, ∀ u, rk u < k → In n u → st u ≤ rk u := by
    intro k
    induction k with
    | zero => intro u h; omega
    | succ k ih =>
      intro u hu hn
      by_cases h0 : 0 < st u
      · obtain ⟨r, r1, r2, r3⟩ := b10 u hn h0
        have h1 := hk r r1
        rw [r2] at h1
        have h2 := ih (ea r) (by omega) (hea r r1)
        omega
      · omega
  exact fun u hu => key (rk u + 1) u (by omega) hu
def isT (o : Nat) : Prop := o = 82 ∨ o = 94
theorem isT.ob {h : AH} (hF : Fix h) {o : Nat} (s : isT o) : ObT h o := by
  rcases s with e | e
  · subst e
    exact ⟨by rw [show sh h 82 = (16, 4) from hF.2.1 (82, 16, 4) (by decide +kernel)], hF.1 (82, 0, 83) (by decide +kernel), hF.1 (82, 2, 84) (by decide +kernel), hF.1 (82, 3, 85) (by decide +kernel), hF.2.1 (83, 0, 100) (by decide +kernel), hF.2.1 (84, 0, 100) (by decide +kernel), hF.2.1 (85, 0, 100) (by decide +kernel)⟩
  · subst e
    exact ⟨by rw [show sh h 94 = (16, 4) from hF.2.1 (94, 16, 4) (by decide +kernel)], hF.1 (94, 0, 95) (by decide +kernel), hF.1 (94, 2, 96) (by decide +kernel), hF.1 (94, 3, 97) (by decide +kernel), hF.2.1 (95, 0, 100) (by decide +kernel), hF.2.1 (96, 0, 100) (by decide +kernel), hF.2.1 (97, 0, 100) (by decide +kernel)⟩
/-- rows but those of a trail -/
def TF (o : Nat) (h h' : AH) : Prop := (∀ p, p ≠ o → p ≠ o + 1 → p ≠ o + 2 → p ≠ o + 3 → Kp p h h') ∧ (∀ i, i ≠ 1 → gi h' o i = gi h o i) ∧ gl h' = gl h ∧ nn h' = nn h ∧ us h' = us h ∧ gr h' = gr h ∧ sh h' = sh h
theorem TF.refl {o : Nat} {h : AH} : TF o h h := ⟨fun _ _ _ _ _ => Kp.refl, fun _ _ => rfl, rfl, rfl, rfl, rfl, rfl⟩
theorem TF.trans {o : Nat} {h1 h2 h3 : AH} (a : TF o h1 h2) (b : TF o h2 h3) : TF o h1 h3 := ⟨fun p p0 p1 p2 p3 => (a.1 p p0 p1 p2 p3).trans (b.1 p p0 p1 p2 p3), fun i hi => (b.2.1 i hi).trans (a.2.1 i hi), by rw [b.2.2.1]; exact a.2.2.1, by rw [b.2.2.2.1]; exact a.2.2.2.1, by rw [b.2.2.2.2.1]; exact a.2.2.2.2.1, by rw [b.2.2.2.2.2.1]; exact a.2.2.2.2.2.1, by rw [b.2.2.2.2.2.2]; exact a.2.2.2.2.2.2⟩
theorem TF.fix {o : Nat} {h h' : AH} (g : TF o h h') (hF : Fix h) : Fix h' := ⟨fun e he => by rw [g.2.2.2.2.2.1]; exact hF.1 e he, fun e he => by rw [g.2.2.2.2.2.2]; exact hF.2.1 e he, by rw [g.2.2.2.1]; exact hF.2.2⟩
theorem TF.si {o : Nat} {h h' : AH} {p : Nat} {k v : Int} (g : TF o h h') (hp : p = o + 1 ∨ p = o + 2 ∨ p = o + 3 ∨ p = o ∧ k = 1) : TF o h (si h' p k v) := ⟨fun q q0 q1 q2 q3 => (g.1 q q0 q1 q2 q3).si (by omega), fun i hi => by
  by_cases e : p = o
  · subst e
    rw [gi_si_k (by omega)]; exact g.2.1 i hi
  · rw [gi_si_o (Ne.symm e)]; exact g.2.1 i hi, g.2.2⟩
/-- what a trail reads of the web -/
def TP (h : AH) (n R : Int) (la ea : Int → Int) : Prop := (0 ≤ n ∧ n ≤ 100) ∧ (0 ≤ R ∧ R ≤ 200) ∧ (∀ r, In R r → gi h 22 r = la r ∧ gi h 23 r = ea r ∧ In n (la r) ∧ In n (ea r)) ∧ Grp n R la (gi h 25) (gi h 24) ∧ Grp n R ea (gi h 27) (gi h 26)
theorem TP.tf {o : Nat} {h h' : AH} {n R : Int} {la ea : Int → Int} (p : TP h n R la ea) (f : TF o h h') (ho : isT o) : TP h' n R la ea := by
  unfold isT at ho
  unfold TP
  rw [(f.1 22 (by omega) (by omega) (by omega) (by omega)).1, (f.1 23 (by omega) (by omega) (by omega) (by omega)).1, (f.1 24 (by omega) (by omega) (by omega) (by omega)).1, (f.1 25 (by omega) (by omega) (by omega) (by omega)).1, (f.1 26 (by omega) (by omega) (by omega) (by omega)).1, (f.1 27 (by omega) (by omega) (by omega) (by omega)).1]
  exact p
theorem c_measure_18 {h0 : AH} {Q : Option AV → AH → Prop} {o : Nat} {n R g : Int} {la ea : Int → Int} {rk : Int → Nat} (hF0 : Fix h0) (ho : isT o) (hk : Rk R la ea rk) (hk2 : ∀ u, In n u → rk u < 100) (p0 : TP h0 n R la ea) (cont : ∀ h', Fix h' → TF o h0 h' → gi h' o = gi h0 o → gi h' (o + 1) = gi h0 (o + 1) → Far n R la ea g (gi h' (o + 2)) → Q none h') (m : Nat) :
    ∀ (h : AH) (f a : Int) (dn : Int → Prop), (100 - a).toNat = m → TF o h0 h → gi h o = gi h0 o → gi h (o + 1) = gi h0 (o + 1) → BF n R la ea g f a (gi h (o + 3)) (gi h (o + 2)) dn → (∀ r, In R r → (dn r ↔ ∃ i, In a i ∧ gi h (o + 3) i = ea r)) → Ok 54 18 [some (vR (some o)), some (vR (some 21)), some (vI g), some (vI f), some (vI a), none, none, none] [] h Q := by
  have hla : ∀ r, In R r → In n (la r) := fun r hr => (p0.2.2.1 r hr).2.2.1
  have hea : ∀ r, In R r → In n (ea r) := fun r hr => (p0.2.2.1 r hr).2.2.2
  have hR := p0.2.1
  have hn := p0.1
  have ho' := ho
  unfold isT at ho'
  induction m using Nat.strongRecOn with
  | ind m ih =>
    intro h f a dn hm tf go go1 B hd
    have hF := tf.fix hF0
    obtain ⟨tb1, tb2, tb3, tb4, s1, s2, s3⟩ := ho.ob hF
    have fle : f ≤ n := by
      rw [B.2.2.2.2.2.2.2.2.2.2.2.2]
      have := cnt_le (fun u => decide (gi h (o + 2) u ≠ -5)) n.toNat
      omega
    have a0 := B.1.1
    have a1 := B.1.2
    have fin : f ≤ a → Q none h := fun q => by
      have e : a = f := by omega
      subst e
      refine cont h hF tf go go1 (BF_end hea B (fun r hr hz => (hd r hr).mpr ?_))
      exact B.2.2.1 (ea r) (hea r hr) hz
    refine f_X6_measure_18 hF _ _ _ _ (ho.ob hF) ⟨fun q => fin q, fun q => ⟨fun q2 => fin (by omega), fun q2 => ?_⟩⟩
    obtain ⟨b, hbe⟩ : ∃ b, b = gi h (o + 3) a := ⟨_, rfl⟩
    have ha : In f a := ⟨a0, by omega⟩
    have hb : In n b := hbe ▸ (B.2.1 a ha).1
    have hb0 := hb.1
    have hb1 := hb.2
    rw [← hbe, s3]
    refine ⟨⟨rfl, a0, by show a < 100; omega⟩, ⟨by omega, by omega⟩, ?_⟩
    have inner : ∀ (k : Nat) (h : AH) (f y : Int) (dn : Int → Prop), (gi h0 27 (b + 1) - y).toNat = k → gi h0 27 b ≤ y → TF o h0 h → gi h o = gi h0 o → gi h (o + 1) = gi h0 (o + 1) → BF n R la ea g f a (gi h (o + 3)) (gi h (o + 2)) dn → a < f → gi h (o + 3) a = b → (∀ r, In R r → (dn r ↔ (∃ i, In a i ∧ gi h (o + 3) i = ea r) ∨ ea r = b ∧ gpos R ea r < y)) → Ok 54 34 [some (vR (some o)), some (vR (some 21)), some (vI g), some (vI f), some (vI a), some (vI b), some (vI y), none] [] h Q := by
      intro k
      induction k using Nat.strongRecOn with
      | ind k ihk =>
        intro h f y dn hk' hy tf go go1 B haf hqa hd
        have hF := tf.fix hF0
        obtain ⟨tb1, tb2, tb3, tb4, s1, s2, s3⟩ := ho.ob hF
        obtain ⟨_, _, e22, gl_, ge⟩ := p0.tf tf ho
        have e27 : ∀ i, gi h 27 i = gi h0 27 i := fun i => congrFun (tf.1 27 (by omega) (by omega) (by omega) (by omega)).1 i
        refine f_X6_measure_34 hF _ _ _ _ _ _ (ho.ob hF) ?_
        rw [e27 (b + 1)]
        refine ⟨⟨by omega, by omega⟩, ⟨by omega, by omega⟩, fun q => ⟨⟨by omega, by omega⟩, ?_⟩, fun q => ?_⟩
        · have eq : ∀ r, In R r → ((∃ i, In (a + 1) i ∧ gi h (o + 3) i = ea r) ↔ dn r) := fun r hr => by
            rw [hd r hr]
            constructor
            · rintro ⟨i, i1, i2⟩
              by_cases e : i = a
              · subst e
                rw [hqa] at i2
                have gr := Grp_rng ge hr (hea r hr)
                rw [← i2, e27 b, e27 (b + 1)] at gr
                exact Or.inr ⟨i2.symm, by omega⟩
              · exact Or.inl ⟨i, ⟨i1.1, by have := i1.2; omega⟩, i2⟩
            · rintro (⟨i, i1, i2⟩ | ⟨q1, q2⟩)
              · exact ⟨i, ⟨i1.1, by have := i1.2; omega⟩, i2⟩
              · exact ⟨a, ⟨a0, by omega⟩, by rw [hqa]; exact q1.symm⟩
          exact ih _ (by omega) h f (a + 1) dn rfl tf go go1 (BF_adv B haf (fun r _ d => d)) (fun r hr => (eq r hr).symm)
        · obtain ⟨r0, r1, r2, r3, r4⟩ := Grp_at ge hR.1 hb (p := y) (by rw [e27]; exact hy) (by rw [e27]; omega)
          obtain ⟨l1, l1', l2, l3⟩ := e22 r0 r1
          have pl := gpos_lt (key := ea) r1
          have pc := cnt_le (fun q => decide (ea q < ea r0 + 1)) R.toNat
          have r10 := r1.1
          have r11 := r1.2
          have fr0 := l2.1
          have fr1 := l2.2
          rw [r4, l1, s2, s3]
          have stb : 0 ≤ gi h (o + 2) b := by have := (B.2.1 a ⟨a0, haf⟩).2; rw [hqa] at this; exact this
          have fle : f ≤ n := by
            rw [B.2.2.2.2.2.2.2.2.2.2.2.2]
            have := cnt_le (fun u => decide (gi h (o + 2) u ≠ -5)) n.toNat
            omega
          have stl : gi h (o + 2) b ≤ 1000 := by
            have := BF_rk hk hea B b hb
            have := hk2 b hb
            omega
          have nd : ∀ (qu' : Int → Int), (∀ i, In a i → qu' i = gi h (o + 3) i) → ∀ r, In R r → ((dn r ∨ r = r0) ↔ (∃ i, In a i ∧ qu' i = ea r) ∨ ea r = b ∧ gpos R ea r < y + 1) := fun qu' hqu r hr => by
            rw [hd r hr]
            constructor
            · rintro ((⟨i, i1, i2⟩ | ⟨q1, q2⟩) | q1)
              · exact Or.inl ⟨i, i1, by rw [hqu i i1]; exact i2⟩
              · exact Or.inr ⟨q1, by omega⟩
              · rw [q1]; exact Or.inr ⟨r2, by omega⟩
            · rintro (⟨i, i1, i2⟩ | ⟨q1, q2⟩)
              · exact Or.inl (Or.inl ⟨i, i1, by rw [hqu i i1] at i2; exact i2⟩)
              · by_cases e : gpos R ea r = y
                · exact Or.inr (gpos_inj hr r1 (by rw [e, r3]))
                · exact Or.inl (Or.inr ⟨q1, by omega⟩)
          refine ⟨⟨by omega, by omega⟩, ⟨r10, by omega⟩, ⟨rfl, fr0, by show la r0 < 100; omega⟩, fun q3 => ⟨⟨by omega, by omega⟩, ?_⟩, fun q3 => ⟨⟨rfl, hb0, by show b < 100; omega⟩, ⟨by omega, by omega⟩, ?_⟩⟩
          · exact ihk _ (by omega) h f (y + 1) (fun r => dn r ∨ r = r0) rfl (by omega) tf go go1 (BF_old hla B haf hqa r1 r2 q3 (fun r _ => Iff.rfl)) haf hqa (nd _ (fun _ _ => rfl))
          · have q3' := Decidable.not_not.mp q3
            obtain ⟨fn, B'⟩ := BF_new (dn' := fun r => dn r ∨ r = r0) hn.1 hla hea B haf hqa r1 r2 q3' (fun r _ => Iff.rfl) (fun r hr d => by
              rcases (hd r hr).mp d with ⟨i, i1, i2⟩ | ⟨z1, _⟩
              · exact ⟨i, ⟨i1.1, by have := i1.2; omega⟩, i2⟩
              · exact ⟨a, ⟨a0, haf⟩, by rw [hqa]; exact z1.symm⟩)
            have x3 : ∀ v w, gi (si (si h (o + 2) (la r0) v) (o + 3) f w) (o + 3) = uq (gi h (o + 3)) f w := fun v w => by rw [gi_si_f, gi_si_r (by omega)]
            have x2 : ∀ v w, gi (si (si h (o + 2) (la r0) v) (o + 3) f w) (o + 2) = uq (gi h (o + 2)) (la r0) v := fun v w => by rw [gi_si_r (by omega), gi_si_f]
            refine ⟨⟨rfl, by omega, by show f < 100; omega⟩, ⟨by omega, by omega⟩, ⟨by omega, by omega⟩, ?_⟩
            refine ihk _ (by omega) _ (f + 1) (y + 1) (fun r => dn r ∨ r = r0) rfl (by omega) ((tf.si (by omega)).si (by omega)) (by rw [gi_si_r (by omega), gi_si_r (by omega)]; exact go) (by rw [gi_si_r (by omega), gi_si_r (by omega)]; exact go1) (by rw [x3, x2]; exact B') (by omega) (by rw [x3, uq_o (by omega)]; exact hqa) ?_
            rw [x3]
            exact nd _ (fun i hi => uq_o (by have := hi.2; omega))
    have e27b : gi h 27 b = gi h0 27 b := congrFun (tf.1 27 (by omega) (by omega) (by omega) (by omega)).1 b
    rw [e27b]
    refine inner _ h f (gi h0 27 b) dn rfl (Int.le_refl _) tf go go1 B (by omega) hbe.symm (fun r hr => ?_)
    rw [hd r hr]
    constructor
    · exact fun q => Or.inl q
    · rintro (q | ⟨q1, q2⟩)
      · exact q
      · have ge := p0.2.2.2.2
        have := (Grp_rng ge hr (hea r hr)).1
        rw [q1] at this
        omega
theorem c_measure {h : AH} {Q : Option AV → AH → Prop} {o : Nat} {n R g : Int} {la ea : Int → Int} {rk : Int → Nat} (hF : Fix h) (ho : isT o) (hk : Rk R la ea rk) (hk2 : ∀ u, In n u → rk u < 100) (p0 : TP h n R la ea) (hg : In n g) (cont : ∀ h', Fix h' → TF o h h' → gi h' o = gi h o → gi h' (o + 1) = gi h (o + 1) → Far n R la ea g (gi h' (o + 2)) → Q none h') : Ok 54 0 [some (vR (some o)), some (vR (some 21)), some (vI g), none, none, none, none, none] [] h Q := by
  obtain ⟨tb1, tb2, tb3, tb4, s1, s2, s3⟩ := ho.ob hF
  have g0 := hg.1
  have g1 := hg.2
  have hn := p0.1
  have ho' := ho
  unfold isT at ho'
  refine f_X6_measure_0 hF _ _ (ho.ob hF) (c_fill hF s2 (by decide) (fun h1 F1 k1 n1 u1 r1 sh1 i1 => ⟨rfl, F1, ho.ob F1, ⟨by rw [sh1.1, s2], g0, by rw [sh1.1, s2]; show g < 100; omega⟩, ⟨by rw [sh1.1, s3], by decide, by rw [sh1.1, s3]; show (0 : Int) < 100; decide⟩, ?_⟩))
  have tf1 : TF o h h1 := ⟨fun p p0 p1 p2 p3 => k1 p p2, fun i hi => congrFun (k1 o (by omega)).1 i, sh1.2, n1, u1, r1, sh1.1⟩
  have tf2 : TF o h (si (si h1 (o + 2) g 0) (o + 3) 0 g) := (tf1.si (by omega)).si (by omega)
  have x3 : gi (si (si h1 (o + 2) g 0) (o + 3) 0 g) (o + 3) 0 = g := gi_si_e
  have x2 : ∀ u, gi (si (si h1 (o + 2) g 0) (o + 3) 0 g) (o + 2) u = if u = g then 0 else gi h1 (o + 2) u := fun u => by
    rw [gi_si_o (by omega)]
    by_cases e : u = g
    · rw [if_pos e, e, gi_si_e]
    · rw [if_neg e, gi_si_k e]
  have x5 : ∀ u, In n u → u ≠ g → gi (si (si h1 (o + 2) g 0) (o + 3) 0 g) (o + 2) u = -5 := fun u hu e => by rw [x2, if_neg e]; exact i1 u ⟨hu.1, by have := hu.2; omega⟩
  have x0 : gi (si (si h1 (o + 2) g 0) (o + 3) 0 g) (o + 2) g = 0 := by rw [x2, if_pos rfl]
  refine c_measure_18 (h0 := h) hF ho hk hk2 p0 cont _ _ 1 0 (fun _ => False) rfl tf2 (by rw [gi_si_r (by omega), gi_si_r (by omega)]; exact (k1 o (by omega)).1) (by rw [gi_si_r (by omega), gi_si_r (by omega)]; exact (k1 (o + 1) (by omega)).1) ⟨by omega, fun i hi => ?_, fun u hu hne => ?_, fun u hu => ?_, x0, hg, fun u hu hz => ?_, fun i j hi hj _ => ?_, fun i hi _ _ => ?_, fun u hu hp => ?_, fun r hr hd => hd.elim, fun i j hi hj _ => ?_, ?_⟩ (fun r hr => ⟨fun q => q.elim, fun ⟨i, i1, _⟩ => by have := i1.1; have := i1.2; omega⟩)
  · have e : i = 0 := by have := hi.1; have := hi.2; omega
    rw [e, x3, x0]; exact ⟨hg, by omega⟩
  · by_cases e : u = g
    · exact ⟨0, ⟨by omega, by omega⟩, by rw [x3, e]⟩
    · exact absurd (x5 u hu e) hne
  · by_cases e : u = g
    · rw [e, x0]; omega
    · rw [x5 u hu e]; omega
  · by_cases e : u = g
    · exact e
    · rw [x5 u hu e] at hz; omega
  · have e1 : i = 0 := by have := hi.1; have := hi.2; omega
    have e2 : j = 0 := by have := hj.1; have := hj.2; omega
    rw [e1, e2]; exact Int.le_refl _
  · have e1 : i = 0 := by have := hi.1; have := hi.2; omega
    rw [e1]; omega
  · by_cases e : u = g
    · rw [e, x0] at hp; omega
    · rw [x5 u hu e] at hp; omega
  · have := hi.1; have := hi.2; have := hj.1; have := hj.2; omega
  · have hc := cnt_up (p := fun _ => false) (q := fun u => decide (gi (si (si h1 (o + 2) g 0) (o + 3) 0 g) (o + 2) u ≠ -5)) (x := g) (n := n.toNat) ⟨g0, by omega⟩ rfl (by simp [x0]) (fun y hy hne => by rw [x5 y ⟨hy.1, by have := hy.2; omega⟩ hne]; rfl)
    rw [hc, cnt_zero (fun _ _ => rfl)]; rfl
theorem gpos_mono {R : Int} {key : Int → Int} {a b : Int} (ha : In R a) (he : key a = key b) (hl : a < b) : gpos R key a < gpos R key b := by
  unfold gpos
  rw [he]
  have s := cnt_succ (p := fun q => decide (key q = key b)) ha.1
  simp only [he, decide_true, if_true] at s
  have m := cnt_mono (p := fun q => decide (key q = key b)) (n := (a + 1).toNat) (m := b.toNat) (by have := ha.1; omega)
  omega
theorem c_firstTowards_5 {h : AH} {Q : Option AV → AH → Prop} {o : Nat} {n R a : Int} {la ea : Int → Int} (hF : Fix h) (ho : isT o) (p0 : TP h n R la ea) (ha : In n a) (hx : ∃ r, In R r ∧ la r = a ∧ gi h (o + 2) (ea r) = gi h (o + 2) a - 1) (cont : ∀ r, FirstR R la ea (gi h (o + 2)) a r → Q (some (vI r)) h) (m : Nat) :
    ∀ y : Int, (gi h 25 (a + 1) - y).toNat = m → gi h 25 a ≤ y → (∀ r, In R r → la r = a → gpos R la r < y → gi h (o + 2) (ea r) ≠ gi h (o + 2) a - 1) → Ok 56 5 [some (vR (some o)), some (vR (some 21)), some (vI a), some (vI (gi h (o + 2) a - 1)), some (vI y)] [] h Q := by
  obtain ⟨hn, hR, e22, gl_, ge⟩ := p0
  obtain ⟨tb1, tb2, tb3, tb4, s1, s2, s3⟩ := ho.ob hF
  have a0 := ha.1
  have a1 := ha.2
  induction m using Nat.strongRecOn with
  | ind m ih =>
    intro y hm hy hI
    refine f_X6_firstTowards_5 hF _ _ _ _ (ho.ob hF) ⟨⟨by omega, by omega⟩, ⟨by omega, by omega⟩, fun q => ?_, fun q => ?_⟩
    · exfalso
      obtain ⟨r, r1, r2, r3⟩ := hx
      have := (Grp_rng gl_ r1 (by rw [r2]; exact ha)).2
      rw [r2] at this
      exact hI r r1 r2 (by omega) r3
    · obtain ⟨r0, r1, r2, r3, r4⟩ := Grp_at gl_ hR.1 ha (p := y) hy (by omega)
      obtain ⟨l1, l2, l3, l4⟩ := e22 r0 r1
      have pl := gpos_lt (key := la) r1
      have pc := cnt_le (fun q => decide (la q < la r0 + 1)) R.toNat
      have r10 := r1.1
      have r11 := r1.2
      have l40 := l4.1
      have l41 := l4.2
      rw [r4, l2, s2]
      refine ⟨⟨by omega, by omega⟩, ⟨r10, by omega⟩, ⟨rfl, l40, by show ea r0 < 100; omega⟩, fun q2 => ⟨⟨by omega, by omega⟩, ih _ (by omega) (y + 1) rfl (by omega) (fun r hr hl hp => ?_)⟩, fun q2 => cont r0 ⟨r1, r2, Decidable.not_not.mp q2, fun q q0 q1 hq => ?_⟩⟩
      · by_cases e : gpos R la r = y
        · have := gpos_inj hr r1 (by rw [e, r3])
          rw [this]; exact q2
        · exact hI r hr hl (by omega)
      · have hq' : In R q := ⟨q0, by omega⟩
        have := gpos_mono (key := la) hq' (by rw [hq.1, r2]) q1
        exact hI q hq' hq.1 (by omega) hq.2
theorem c_walk_14 {Q : Option AV → AH → Prop} {o : Nat} {n R : Int} {la ea : Int → Int} {y2 y3 : Int} (ho : isT o) : ∀ (k : Nat) (h : AH) (a L : Int), Fix h → TP h n R la ea → In n a → gi h (o + 2) a = k → (∀ u, In n u → 0 < gi h (o + 2) u → ∃ r, In R r ∧ la r = u ∧ gi h (o + 2) (ea r) = gi h (o + 2) u - 1) → gi h o 1 = L → 0 ≤ L → L + k ≤ 99 → (∀ h', Fix h' → TF o h h' → (∀ i, i < L → gi h' (o + 1) i = gi h (o + 1) i) → gi h' o 1 = L + k → PathR R la ea (gi h (o + 2)) k a (gi h' (o + 1)) L → Q none h') → Ok 55 14 [some (vR (some o)), some (vR (some 21)), some (vI y2), some (vI y3), some (vI a), some (vI k), none] [] h Q
  | 0, h, a, L, hF, p0, ha, hk, hex, hL, L0, L1, cont => by
    refine f_X6_walk_14 hF _ _ _ _ _ (ho.ob hF) ⟨fun _ => cont h hF TF.refl (fun _ _ => rfl) (by rw [hL]; omega) (by show gi h (o + 2) a ≤ 0; omega), fun q => by omega⟩
  | k + 1, h, a, L, hF, p0, ha, hk, hex, hL, L0, L1, cont => by
    obtain ⟨tb1, tb2, tb3, tb4, s1, s2, s3⟩ := ho.ob hF
    have ho' := ho
    unfold isT at ho'
    have a0 := ha.1
    have a1 := ha.2
    have hn := p0.1
    push_cast at hk L1
    refine f_X6_walk_14 hF _ _ _ _ _ (ho.ob hF) ⟨fun q => by push_cast at q; omega, fun _ => ⟨fun q => by omega, fun _ => ⟨⟨by push_cast; omega, by push_cast; omega⟩, ?_⟩⟩⟩
    have ek : (((k + 1 : Nat) : Int) - 1) = gi h (o + 2) a - 1 := by push_cast; omega
    rw [ek]
    have hpos : 0 < gi h (o + 2) a := by omega
    refine f_X6_firstTowards_0 hF _ _ _ (ho.ob hF) ⟨⟨by omega, by omega⟩, c_firstTowards_5 hF ho p0 ha (hex a ha hpos) (fun r fr => ⟨r, rfl, hF, ho.ob hF, ?_⟩) _ _ rfl (Int.le_refl _) (fun r hr hl hp => by
      have := (Grp_rng p0.2.2.2.1 hr (by rw [hl]; exact ha)).1
      rw [hl] at this
      omega)⟩
    obtain ⟨f1, f2, f3, f4⟩ := fr
    obtain ⟨e1, e2, e3, e4⟩ := p0.2.2.1 r f1
    have x1 : ∀ v, gi (si h (o + 1) L v) o 1 = L := fun v => by rw [gi_si_o (by omega)]; exact hL
    have hR := p0.2.1
    have r0 := f1.1
    have r1 := f1.2
    rw [hL, x1, s1]
    refine ⟨⟨rfl, L0, by show L < 100; omega⟩, ⟨by omega, by omega⟩, ⟨r0, by omega⟩, ⟨by push_cast; omega, by push_cast; omega⟩, ?_⟩
    have x23 : gi (si (si h (o + 1) L r) o 1 (L + 1)) 23 r = ea r := by rw [gi_si_o (by omega), gi_si_o (by omega)]; exact e2
    rw [x23, show (((k + 1 : Nat) : Int) + -1) = (k : Int) by push_cast; omega]
    have tf : TF o h (si (si h (o + 1) L r) o 1 (L + 1)) := (TF.refl.si (by omega)).si (by omega)
    have x2 : gi (si (si h (o + 1) L r) o 1 (L + 1)) (o + 2) = gi h (o + 2) := by rw [gi_si_r (by omega), gi_si_r (by omega)]
    have x1' : ∀ i, gi (si (si h (o + 1) L r) o 1 (L + 1)) (o + 1) i = if i = L then r else gi h (o + 1) i := fun i => by
      rw [gi_si_o (by omega)]
      by_cases e : i = L
      · rw [if_pos e, e, gi_si_e]
      · rw [if_neg e, gi_si_k e]
    refine c_walk_14 ho k _ (ea r) (L + 1) hF (p0.tf tf ho) e4 (by rw [x2, f3]; omega) (by rw [x2]; exact hex) gi_si_e (by omega) (by omega) (fun h' F' t' lo ln pa => cont h' F' (tf.trans t') (fun i hi => ?_) (by rw [ln]; push_cast; omega) ?_)
    · rw [lo i (by omega), x1', if_neg (by omega)]
    · rw [x2] at pa
      have eL : gi h' (o + 1) L = r := by rw [lo L (by omega), x1', if_pos rfl]
      show 0 < gi h (o + 2) a ∧ FirstR R la ea (gi h (o + 2)) a (gi h' (o + 1) L) ∧ PathR R la ea (gi h (o + 2)) k (ea (gi h' (o + 1) L)) (gi h' (o + 1)) (L + 1)
      rw [eL]
      exact ⟨hpos, ⟨f1, f2, f3, f4⟩, pa⟩
theorem c_walk {h : AH} {Q : Option AV → AH → Prop} {o : Nat} {n R a g : Int} {la ea : Int → Int} {rk : Int → Nat} (hF : Fix h) (ho : isT o) (hk : Rk R la ea rk) (hk2 : ∀ u, In n u → rk u < 100) (p0 : TP h n R la ea) (hg : In n g) (ha : In n a) (hr : a = g ∨ Rch R la ea a g) (cont : ∀ h' f, Fix h' → TF o h h' → Far n R la ea g f → 0 ≤ f a → gi h' o 1 = f a → PathR R la ea f (f a).toNat a (gi h' (o + 1)) 0 → Q none h') : Ok 55 0 [some (vR (some o)), some (vR (some 21)), some (vI a), some (vI g), none, none, none] [] h Q := by
  have hla : ∀ r, In R r → In n (la r) := fun r hr => (p0.2.2.1 r hr).2.2.1
  have hea : ∀ r, In R r → In n (ea r) := fun r hr => (p0.2.2.1 r hr).2.2.2
  have ho' := ho
  unfold isT at ho'
  have a0 := ha.1
  have a1 := ha.2
  have hn := p0.1
  refine f_X6_walk_0 hF _ _ _ (ho.ob hF) (c_measure hF ho hk hk2 p0 hg (fun h1 F1 t1 g1 g2 fa => ⟨rfl, F1, ho.ob F1, ?_⟩))
  obtain ⟨tb1, tb2, tb3, tb4, s1, s2, s3⟩ := ho.ob F1
  have f0 : 0 ≤ gi h1 (o + 2) a := by
    have := (Far_rch hk hea fa a ha).mpr hr
    rcases Far_neg fa a ha with z | z
    · exact absurd z this
    · exact z
  have fr := Far_rk hk hea fa a ha
  have fr2 := hk2 a ha
  have x2 : gi (si h1 o 1 0) (o + 2) = gi h1 (o + 2) := gi_si_r (by omega)
  have tf : TF o h (si h1 o 1 0) := t1.si (by omega)
  rw [s2, x2]
  refine ⟨⟨rfl, a0, by show a < 100; omega⟩, ?_⟩
  have ek : gi h1 (o + 2) a = (((gi h1 (o + 2) a).toNat : Nat) : Int) := by omega
  rw [ek]
  refine c_walk_14 ho _ _ a 0 F1 (p0.tf tf ho) ha (by rw [x2]; exact ek) (fun u hu hp => ?_) gi_si_e (by omega) (by omega) (fun h' F' t' _ ln pa => cont h' (gi h1 (o + 2)) F' (tf.trans t') fa f0 (by rw [ln]; omega) (by rw [x2] at pa; exact pa))
  rw [x2] at hp ⊢
  by_cases e : u = g
  · rw [e, fa.1] at hp; omega
  · rcases fa.2 u hu e with z | z
    · omega
    · exact z.2.1
