/-! follow in the class -/
theorem cnt_surj {p : Int → Bool} : ∀ {n j : Nat}, j < cnt p n → ∃ r : Int, In n r ∧ p r = true ∧ cnt p r.toNat = j
  | 0, j, h => absurd h (Nat.not_lt_zero _)
  | n + 1, j, h => by
    have e : cnt p (n + 1) = cnt p n + (if p n = true then 1 else 0) := rfl
    by_cases hj : j < cnt p n
    · obtain ⟨r, r1, r2, r3⟩ := cnt_surj hj
      exact ⟨r, ⟨r1.1, by have := r1.2; push_cast; omega⟩, r2, r3⟩
    · rw [e] at h
      cases hp : p n
      · rw [hp] at h; simp at h; omega
      · rw [hp] at h
        simp at h
        exact ⟨n, ⟨by omega, by push_cast; omega⟩, hp, by rw [Int.toNat_natCast]; omega⟩
/-- the members of b lie from its begin to the next -/
theorem Grp_at {n R : Int} {key bg mb : Int → Int} (g : Grp n R key bg mb) {b p : Int} (hR : 0 ≤ R) (hb : In n b) (h1 : bg b ≤ p) (h2 : p < bg (b + 1)) : ∃ r, In R r ∧ key r = b ∧ gpos R key r = p ∧ mb p = r := by
  have e1 := g.1 b hb.1 (by have := hb.2; omega)
  have e2 := g.1 (b + 1) (by have := hb.1; omega) (by have := hb.2; omega)
  have ad := cnt_add (key := key) (b := b) R.toNat
  rw [e1] at h1
  rw [e2, ad] at h2
  push_cast at h2
  obtain ⟨r, r1, r2, r3⟩ := cnt_surj (p := fun q => decide (key q = b)) (n := R.toNat) (j := (p - (cnt (fun q => decide (key q < b)) R.toNat : Nat)).toNat) (by omega)
  have kr : key r = b := by simpa using r2
  have hr : In R r := ⟨r1.1, by have := r1.2; omega⟩
  have gp : gpos R key r = p := by unfold gpos; rw [kr, r3]; omega
  refine ⟨r, hr, kr, gp, ?_⟩
  have := g.2 r hr
  have e : (cnt (fun q => decide (key q < key r)) R.toNat : Int) + (cnt (fun q => decide (key q = key r)) r.toNat : Int) = p := gp
  rw [e] at this
  exact this
theorem Grp_rng {n R : Int} {key bg mb : Int → Int} (g : Grp n R key bg mb) {r : Int} (hr : In R r) (hk : In n (key r)) : bg (key r) ≤ gpos R key r ∧ gpos R key r < bg (key r + 1) := by
  have e1 := g.1 (key r) hk.1 (by have := hk.2; omega)
  have e2 := g.1 (key r + 1) (by have := hk.1; omega) (by have := hk.2; omega)
  have := gpos_lt (key := key) hr
  rw [e1, e2]
  refine ⟨?_, this.2⟩
  unfold gpos; omega
def fwO : List Nat := [28, 29, 30, 32, 33, 35, 36]
/-- rows but those that follow writes -/
def FwF (h h' : AH) : Prop := (∀ o, o ∉ fwO → Kp o h h') ∧ nn h' = nn h ∧ us h' = us h ∧ gr h' = gr h ∧ sh h' = sh h
theorem FwF.fix {h h' : AH} (g : FwF h h') (hF : Fix h) : Fix h' := ⟨fun e he => by rw [g.2.2.2.1]; exact hF.1 e he, fun e he => by rw [g.2.2.2.2]; exact hF.2.1 e he, by rw [g.2.1]; exact hF.2.2⟩
theorem FwF.si {h h' : AH} {o : Nat} {k v : Int} (g : FwF h h') (ho : o ∈ fwO) : FwF h (si h' o k v) := ⟨fun p hp => (g.1 p hp).si (fun e => hp (e ▸ ho)), g.2⟩
theorem FwF.sf {h h1 h2 : AH} {o : Nat} (g : FwF h h1) (s : SF o h1 h2) (ho : isS o) : FwF h h2 := by
  refine ⟨fun p hp => (g.1 p hp).trans (s.1 p (fun e => hp ?_) (fun e => hp ?_)), by rw [s.2.2.2.2.1]; exact g.2.1, by rw [s.2.2.2.2.2.1]; exact g.2.2.1, by rw [s.2.2.1]; exact g.2.2.2.1, by rw [s.2.2.2.1]; exact g.2.2.2.2⟩
  · rcases ho with z | z
    · rw [e, z]; decide
    · rw [e, z]; decide
  · rcases ho with z | z
    · rw [e, z]; decide
    · rw [e, z]; decide
/-- what follow reads -/
def FwP (h : AH) (n R : Int) (la ea : Int → Int) : Prop := gi h 20 0 = n ∧ (0 ≤ n ∧ n ≤ 100) ∧ (0 ≤ R ∧ R ≤ 200) ∧ (∀ r, In R r → gi h 22 r = la r ∧ In n (la r) ∧ In n (ea r)) ∧ Grp n R la (gi h 25) (gi h 24) ∧ Grp n R ea (gi h 27) (gi h 26)
theorem FwP.fw {h h' : AH} {n R : Int} {la ea : Int → Int} (p : FwP h n R la ea) (f : FwF h h') : FwP h' n R la ea := by
  unfold FwP
  rw [(f.1 20 (by decide)).1, (f.1 22 (by decide)).1, (f.1 24 (by decide)).1, (f.1 25 (by decide)).1, (f.1 26 (by decide)).1, (f.1 27 (by decide)).1]
  exact p
theorem sB_row {h h' : AH} {o : Nat} (h1 : gl h' (o + 1) = gl h (o + 1)) (h2 : gl h' (o + 2) = gl h (o + 2)) : sB h' o = sB h o := by
  funext a b
  unfold sB
  by_cases z : b < 64
  · rw [if_pos z, h1]
  · rw [if_neg z, h2]
theorem c_follow_go {h0 : AH} {Q : Option AV → AH → Prop} {n R : Int} {la ea : Int → Int} {rk : Int → Nat} (hF0 : Fix h0) (hk : Rk R la ea rk) (hk2 : ∀ u, In n u → rk u < 100) (p0 : FwP h0 n R la ea)
    (cont : ∀ h', Fix h' → FwF h0 h' → (∀ u b, In n u → In n b → (sB h' 31 u b = true ↔ Rch R la ea u b)) → (∀ u b, In n u → In n b → (sB h' 34 u b = true ↔ ∃ r, In R r ∧ la r = u ∧ Rch R la ea (ea r) b)) → Long n R la ea (gi h' 28) → Q none h') (m : Nat) :
    ∀ (h : AH) (f a : Int) (pr : Int → Bool), (n - a).toNat = m → 0 ≤ a → a ≤ f → FwF h0 h → FI n R la ea rk f (gi h 30) (gi h 29) (gi h 28) (sB h 31) (sB h 34) pr → (∀ r, In R r → (pr r = true ↔ ∃ i, In a i ∧ gi h 30 i = ea r)) → Ok 111 54 [some (vR (some 21)), some (vI n), some (vI f), some (vI a), none, none, none] [] h Q := by
  have hla : ∀ r, In R r → In n (la r) := fun r hr => (p0.2.2.2.1 r hr).2.1
  have hea : ∀ r, In R r → In n (ea r) := fun r hr => (p0.2.2.2.1 r hr).2.2
  have hR := p0.2.2.1
  have hn := p0.2.1
  induction m using Nat.strongRecOn with
  | ind m ih =>
    intro h f a pr hm a0 a1 fw fi hp
    have hF := fw.fix hF0
    have fle : f ≤ n := by
      rw [fi.2.1]
      have := cnt_le (fun u => decide (gi h 29 u = 0)) n.toNat
      omega
    have fin : f ≤ a → Q none h := fun q => by
      have e : a = f := by omega
      subst e
      obtain ⟨c1, c2, c3⟩ := FI_end hk hla hea hR.1 fi hp
      exact cont h hF fw c1 c2 c3
    refine f_X9_follow_54 hF _ _ _ ⟨fun q => fin q, fun q => ⟨fun q2 => fin (by omega), fun q2 => ?_⟩⟩
    obtain ⟨b, hbe⟩ : ∃ b, b = gi h 30 a := ⟨_, rfl⟩
    have ha : In f a := ⟨a0, by omega⟩
    have hb : In n b := hbe ▸ (fi.2.2.1 a ha).1
    have hb0 := hb.1
    have hb1 := hb.2
    rw [← hbe]
    refine ⟨⟨a0, by omega⟩, ⟨by omega, by omega⟩, ?_⟩
    -- the inner loop
    have inner : ∀ (k : Nat) (h : AH) (f y : Int) (pr : Int → Bool), (gi h0 27 (b + 1) - y).toNat = k → gi h0 27 b ≤ y → FwF h0 h → FI n R la ea rk f (gi h 30) (gi h 29) (gi h 28) (sB h 31) (sB h 34) pr → In f a → gi h 30 a = b → (∀ r, In R r → (pr r = true ↔ (∃ i, In a i ∧ gi h 30 i = ea r) ∨ ea r = b ∧ gpos R ea r < y)) → Ok 111 70 [some (vR (some 21)), some (vI n), some (vI f), some (vI a), some (vI b), some (vI y), none] [] h Q := by
      intro k
      induction k using Nat.strongRecOn with
      | ind k ihk =>
        intro h f y pr hk' hy fw fi haf hqa hp
        have hF := fw.fix hF0
        obtain ⟨e20, _, _, e22, gl_, ge⟩ := p0.fw fw
        have e27 : ∀ i, gi h 27 i = gi h0 27 i := fun i => congrFun (fw.1 27 (by decide)).1 i
        refine f_X9_follow_70 hF _ _ _ _ _ ?_
        rw [e27 (b + 1)]
        refine ⟨⟨by omega, by omega⟩, ⟨by omega, by omega⟩, fun q => ⟨⟨by omega, by omega⟩, ?_⟩, fun q => ?_⟩
        · refine ih _ (by omega) h f (a + 1) pr rfl (by omega) (by have := haf.2; omega) fw fi (fun r hr => ?_)
          rw [hp r hr]
          constructor
          · rintro (⟨i, i1, i2⟩ | ⟨q1, q2⟩)
            · exact ⟨i, ⟨i1.1, by have := i1.2; omega⟩, i2⟩
            · exact ⟨a, ⟨a0, by omega⟩, by rw [hqa]; exact q1.symm⟩
          · rintro ⟨i, i1, i2⟩
            by_cases e : i = a
            · subst e
              rw [hqa] at i2
              have gr := Grp_rng ge hr (hea r hr)
              rw [← i2, e27 b, e27 (b + 1)] at gr
              exact Or.inr ⟨i2.symm, by omega⟩
            · exact Or.inl ⟨i, ⟨i1.1, by have := i1.2; omega⟩, i2⟩
        · obtain ⟨r0, r1, r2, r3, r4⟩ := Grp_at ge hR.1 hb (p := y) (by rw [e27]; exact hy) (by rw [e27]; omega)
          obtain ⟨l1, l2, l3⟩ := e22 r0 r1
          have pl := gpos_lt (key := ea) r1
          have pc := cnt_le (fun q => decide (ea q < ea r0 + 1)) R.toNat
          rw [r4, l1]
          have r10 := r1.1
          have r11 := r1.2
          have fr0 := l2.1
          have fr1 := l2.2
          have hp0 : pr r0 = false := by
            cases e : pr r0
            · rfl
            · rcases (hp r0 r1).mp e with ⟨i, i1, i2⟩ | ⟨_, q2⟩
              · rw [r2] at i2
                have hif : In f i := ⟨i1.1, by have := i1.2; have := haf.2; omega⟩
                have := fi.2.2.2.2.1 i a hif haf (by rw [i2, hqa])
                have := i1.2
                omega
              · omega
          have hsb : gi h 29 b = 0 := by have := (fi.2.2.1 a haf).2; rw [hqa] at this; exact this
          have kr := hk r0 r1
          rw [r2] at kr
          have hne : la r0 ≠ b := fun e => by rw [e] at kr; omega
          refine ⟨⟨by omega, by omega⟩, ⟨r10, by omega⟩, c_addAll hF (Or.inr rfl) (Or.inl rfl) ⟨fr0, by omega⟩ ⟨hb0, by omega⟩ hne (fun h1 F1 s1 b1 => ⟨rfl, F1, c_addAll F1 (Or.inl rfl) (Or.inl rfl) ⟨fr0, by omega⟩ ⟨hb0, by omega⟩ hne (fun h2 F2 s2 b2 => ⟨rfl, F2, c_sadd F2 (Or.inl rfl) ⟨fr0, by omega⟩ ⟨hb0, by omega⟩ (fun h3 F3 s3 b3 => ⟨rfl, F3, ?_⟩)⟩)⟩)⟩
          have g31 : sB h1 31 = sB h 31 := sB_row (s1.1 32 (by decide) (by decide)).2.1 (s1.1 33 (by decide) (by decide)).2.1
          have g34 : sB h3 34 = sB h1 34 := (sB_row (s3.1 35 (by decide) (by decide)).2.1 (s3.1 36 (by decide) (by decide)).2.1).trans (sB_row (s2.1 35 (by decide) (by decide)).2.1 (s2.1 36 (by decide) (by decide)).2.1)
          have gi3 : gi h3 = gi h := by rw [s3.2.1, s2.2.1, s1.2.1]
          have fw3 : FwF h0 h3 := ((fw.sf s1 (Or.inr rfl)).sf s2 (Or.inl rfl)).sf s3 (Or.inl rfl)
          rw [gi3, show (if gi h 28 (la r0) < gi h 28 b + 1 then gi h 28 b + 1 else gi h 28 (la r0)) = mx (gi h 28 (la r0)) (gi h 28 b + 1) from rfl]
          have hf0 := haf.1
          have hf1 := haf.2
          have w1 := (fi.2.2.2.2.2.2.2.2 b hb).1
          have w2 := (fi.2.2.2.2.2.2.2.2 b hb).2.1
          have rb := hk2 b hb
          have epr : ∀ r, In R r → (fun r => pr r || decide (r = r0)) r = (pr r || decide (r = r0)) := fun r _ => rfl
          obtain ⟨st1, st2, st3, st4⟩ := FI_step (re' := sB h3 31) (mo' := sB h3 34) (pr' := fun r => pr r || decide (r = r0)) (b := b) hk hla hea hR.1 hn.1 fi r1 hp0 r2 hsb epr (fun u c hu hc => by
            rw [b3 u c ⟨hc.1, by have := hc.2; omega⟩, b2, g31]
            cases sB h 31 u c <;> cases sB h 31 b c <;> cases decide (u = la r0) <;> cases decide (c = b) <;> rfl) (fun u c hu hc => by rw [g34, b1])
          have scl : gi h 29 (la r0) ≤ 200 := by
            rw [fi.1 _ l2]
            have := cnt_le (fun r => decide (la r = la r0) && !pr r) R.toNat
            omega
          have np : ∀ (qu' : Int → Int), (∀ i, In f i → qu' i = gi h 30 i) → ∀ r, In R r → ((fun r => pr r || decide (r = r0)) r = true ↔ (∃ i, In a i ∧ qu' i = ea r) ∨ ea r = b ∧ gpos R ea r < y + 1) := fun qu' hqu r hr => by
            have hi' : ∀ i, In a i → In f i := fun i hi => ⟨hi.1, by have := hi.2; have := haf.2; omega⟩
            simp only [Bool.or_eq_true, decide_eq_true_eq]
            rw [hp r hr]
            constructor
            · rintro ((⟨i, i1, i2⟩ | ⟨q1, q2⟩) | q1)
              · exact Or.inl ⟨i, i1, by rw [hqu i (hi' i i1)]; exact i2⟩
              · exact Or.inr ⟨q1, by omega⟩
              · rw [q1]; exact Or.inr ⟨r2, by omega⟩
            · rintro (⟨i, i1, i2⟩ | ⟨q1, q2⟩)
              · exact Or.inl (Or.inl ⟨i, i1, by rw [hqu i (hi' i i1)] at i2; exact i2⟩)
              · by_cases e : gpos R ea r = y
                · exact Or.inr (gpos_inj hr r1 (by rw [e, r3]))
                · exact Or.inl (Or.inr ⟨q1, by omega⟩)
          have e28 : ∀ v, gi (si h3 28 (la r0) v) 29 = gi h 29 := fun v => by rw [gi_si_r (by decide), gi3]
          have fw4 : ∀ v w, FwF h0 (si (si h3 28 (la r0) v) 29 (la r0) w) := fun v w => (fw3.si (by decide)).si (by decide)
          have rows : ∀ v w, gi (si (si h3 28 (la r0) v) 29 (la r0) w) 28 = uq (gi h 28) (la r0) v ∧ gi (si (si h3 28 (la r0) v) 29 (la r0) w) 29 = uq (gi h 29) (la r0) w ∧ gi (si (si h3 28 (la r0) v) 29 (la r0) w) 30 = gi h 30 := fun v w => by
            refine ⟨?_, ?_, ?_⟩
            · rw [gi_si_r (by decide), gi_si_f, gi3]
            · rw [gi_si_f, gi_si_r (by decide), gi3]
            · rw [gi_si_r (by decide), gi_si_r (by decide), gi3]
          refine ⟨⟨fr0, by omega⟩, ⟨hb0, by omega⟩, ⟨by omega, by omega⟩, ⟨by omega, by omega⟩, fun q3 => ⟨⟨by omega, by omega⟩, ?_⟩, fun q3 => ⟨⟨by have := haf.1; have := haf.2; omega, by omega⟩, ⟨by omega, by omega⟩, ⟨by omega, by omega⟩, ?_⟩⟩
          · obtain ⟨x1, x2, x3⟩ := rows (mx (gi h 28 (la r0)) (gi h 28 b + 1)) (gi h 29 (la r0) - 1)
            refine ihk _ (by omega) _ f (y + 1) (fun r => pr r || decide (r = r0)) rfl (by omega) (fw4 _ _) ?_ haf (by rw [x3]; exact hqa) (by rw [x3]; exact np _ (fun _ _ => rfl))
            rw [x3]
            show FI n R la ea rk f (gi h 30) (gi (si (si h3 28 (la r0) (mx (gi h 28 (la r0)) (gi h 28 b + 1))) 29 (la r0) (gi h 29 (la r0) - 1)) 29) (gi (si (si h3 28 (la r0) (mx (gi h 28 (la r0)) (gi h 28 b + 1))) 29 (la r0) (gi h 29 (la r0) - 1)) 28) (sB h3 31) (sB h3 34) _
            rw [x1, x2]
            exact st3 q3
          · obtain ⟨x1, x2, x3⟩ := rows (mx (gi h 28 (la r0)) (gi h 28 b + 1)) (gi h 29 (la r0) - 1)
            have x4 : ∀ w, gi (si (si (si h3 28 (la r0) (mx (gi h 28 (la r0)) (gi h 28 b + 1))) 29 (la r0) (gi h 29 (la r0) - 1)) 30 f w) 30 = uq (gi h 30) f w := fun w => by rw [gi_si_f, x3]
            have quo : ∀ i, In f i → uq (gi h 30) f (la r0) i = gi h 30 i := fun i hi => uq_o (by have := hi.2; omega)
            refine ihk _ (by omega) _ (f + 1) (y + 1) (fun r => pr r || decide (r = r0)) rfl (by omega) ((fw4 _ _).si (by decide)) ?_ ⟨haf.1, by have := haf.2; omega⟩ (by rw [x4, quo a haf]; exact hqa) (by rw [x4]; exact np _ quo)
            rw [x4]
            have y1 : gi (si (si (si h3 28 (la r0) (mx (gi h 28 (la r0)) (gi h 28 b + 1))) 29 (la r0) (gi h 29 (la r0) - 1)) 30 f (la r0)) 29 = uq (gi h 29) (la r0) (gi h 29 (la r0) - 1) := by rw [gi_si_r (by decide)]; exact x2
            have y2 : gi (si (si (si h3 28 (la r0) (mx (gi h 28 (la r0)) (gi h 28 b + 1))) 29 (la r0) (gi h 29 (la r0) - 1)) 30 f (la r0)) 28 = uq (gi h 28) (la r0) (mx (gi h 28 (la r0)) (gi h 28 b + 1)) := by rw [gi_si_r (by decide)]; exact x1
            show FI n R la ea rk (f + 1) (uq (gi h 30) f (la r0)) (gi (si (si (si h3 28 (la r0) (mx (gi h 28 (la r0)) (gi h 28 b + 1))) 29 (la r0) (gi h 29 (la r0) - 1)) 30 f (la r0)) 29) (gi (si (si (si h3 28 (la r0) (mx (gi h 28 (la r0)) (gi h 28 b + 1))) 29 (la r0) (gi h 29 (la r0) - 1)) 30 f (la r0)) 28) (sB h3 31) (sB h3 34) _
            rw [y1, y2]
            exact st4 (Decidable.not_not.mp q3)
    have e27b : gi h 27 b = gi h0 27 b := congrFun (fw.1 27 (by decide)).1 b
    rw [e27b]
    refine inner _ h f (gi h0 27 b) pr rfl (Int.le_refl _) fw fi ha hbe.symm (fun r hr => ?_)
    rw [hp r hr]
    constructor
    · exact fun q => Or.inl q
    · rintro (q | ⟨q1, q2⟩)
      · exact q
      · have ge := p0.2.2.2.2.2
        have := (Grp_rng ge hr (hea r hr)).1
        rw [q1] at this
        omega
