/-! follow from its start; judge; refresh -/
theorem c_follow_16 {h0 : AH} {Q : Option AV → AH → Prop} {n R : Int} {la ea : Int → Int} {rk : Int → Nat} (hF0 : Fix h0) (hk : Rk R la ea rk) (hk2 : ∀ u, In n u → rk u < 100) (p0 : FwP h0 n R la ea)
    (cont : ∀ h', Fix h' → FwF h0 h' → (∀ u b, In n u → In n b → (sB h' 31 u b = true ↔ Rch R la ea u b)) → (∀ u b, In n u → In n b → (sB h' 34 u b = true ↔ ∃ r, In R r ∧ la r = u ∧ Rch R la ea (ea r) b)) → Long n R la ea (gi h' 28) → Q none h') (m : Nat) :
    ∀ (h : AH) (f b : Int), (n - b).toNat = m → 0 ≤ b → b ≤ n → FwF h0 h → (∀ x y, In n x → sB h 31 x y = false) → (∀ x y, In n x → sB h 34 x y = false) → (∀ u, In b u → gi h 29 u = (cnt (fun r => decide (la r = u)) R.toNat : Nat) ∧ gi h 28 u = 0) → f = (cnt (fun u => decide ((cnt (fun r => decide (la r = u)) R.toNat : Int) = 0)) b.toNat : Nat) → (∀ i, In f i → In b (gi h 30 i) ∧ (cnt (fun r => decide (la r = gi h 30 i)) R.toNat : Int) = 0) → (∀ u, In b u → (cnt (fun r => decide (la r = u)) R.toNat : Int) = 0 → ∃ i, In f i ∧ gi h 30 i = u) → (∀ i j, In f i → In f j → gi h 30 i = gi h 30 j → i = j) →
    Ok 111 16 [some (vR (some 21)), some (vI n), some (vI f), some (vI b), none, none, none] [] h Q := by
  have hn := p0.2.1
  have hR := p0.2.2.1
  induction m using Nat.strongRecOn with
  | ind m ih =>
    intro h f b hm b0 b1 fw s1 s2 hsc hf hq1 hq2 hq3
    have hF := fw.fix hF0
    obtain ⟨e20, _, _, e22, gl_, ge⟩ := p0.fw fw
    refine f_X9_follow_16 hF _ _ _ ⟨fun q => ?_, fun q => ?_⟩
    · have e : b = n := by omega
      subst e
      refine c_follow_go hF0 hk hk2 p0 cont _ h f 0 (fun _ => false) rfl (by omega) (by omega) fw ⟨fun u hu => ?_, ?_, fun i hi => ⟨(hq1 i hi).1, ?_⟩, fun u hu h0 => hq2 u hu ?_, hq3, fun r _ hp => (by cases hp), fun u c hu hc => ?_, fun u c hu hc => ?_, fun u hu => ?_⟩ (fun r hr => ⟨fun q => (by cases q), fun ⟨i, i1, _⟩ => by have := i1.1; have := i1.2; omega⟩)
      · rw [(hsc u hu).1]; simp
      · rw [hf]
        congr 1
        refine cnt_congr (fun u hu => ?_)
        rw [(hsc u ⟨hu.1, by have := hu.2; omega⟩).1]
      · rw [(hsc _ (hq1 i hi).1).1]; exact (hq1 i hi).2
      · rw [(hsc u hu).1] at h0; exact h0
      · rw [s1 u c hu]
        exact ⟨fun q => (by cases q), fun ⟨r, _, hp, _⟩ => by cases hp⟩
      · rw [s2 u c hu]
        exact ⟨fun q => (by cases q), fun ⟨r, _, hp, _⟩ => by cases hp⟩
      · rw [(hsc u hu).2]
        exact ⟨by omega, by omega, fun r _ hp => (by cases hp), Or.inl rfl⟩
    · have g1 := gl_.1 b b0 (by omega)
      have g2 := gl_.1 (b + 1) (by omega) (by omega)
      have ad := cnt_add (key := la) (b := b) R.toNat
      have ed : gi h 25 (b + 1) - gi h 25 b = (cnt (fun r => decide (la r = b)) R.toNat : Nat) := by rw [g1, g2, ad]; push_cast; omega
      have cl := cnt_le (fun r => decide (la r = b)) R.toNat
      have fl := cnt_le (fun u => decide ((cnt (fun r => decide (la r = u)) R.toNat : Int) = 0)) b.toNat
      have fs := cnt_succ (p := fun u => decide ((cnt (fun r => decide (la r = u)) R.toNat : Int) = 0)) b0
      rw [ed]
      have r28 : ∀ v, gi (si (si h 28 b 0) 29 b v) 28 = uq (gi h 28) b 0 := fun v => by rw [gi_si_r (by decide), gi_si_f]
      have r29 : ∀ v, gi (si (si h 28 b 0) 29 b v) 29 = uq (gi h 29) b v := fun v => by rw [gi_si_f, gi_si_r (by decide)]
      have r30 : ∀ v, gi (si (si h 28 b 0) 29 b v) 30 = gi h 30 := fun v => by rw [gi_si_r (by decide), gi_si_r (by decide)]
      have sc' : ∀ u, In (b + 1) u → uq (gi h 29) b (cnt (fun r => decide (la r = b)) R.toNat : Nat) u = (cnt (fun r => decide (la r = u)) R.toNat : Nat) ∧ uq (gi h 28) b 0 u = 0 := fun u hu => by
        by_cases e : u = b
        · rw [e, uq_e, uq_e]; exact ⟨rfl, rfl⟩
        · rw [uq_o e, uq_o e]; exact hsc u ⟨hu.1, by have := hu.2; omega⟩
      refine ⟨⟨b0, by omega⟩, ⟨by omega, by omega⟩, ⟨by omega, by omega⟩, ⟨b0, by omega⟩, ⟨by omega, by omega⟩, fun q2 => ?_, fun q2 => ⟨⟨by omega, by omega⟩, ⟨by omega, by omega⟩, ?_⟩⟩
      · refine ih _ (by omega) _ f (b + 1) rfl (by omega) (by omega) ((fw.si (by decide)).si (by decide)) s1 s2 (fun u hu => by rw [r29, r28]; exact sc' u hu) ?_ (fun i hi => by rw [r30]; exact ⟨⟨(hq1 i hi).1.1, by have := (hq1 i hi).1.2; omega⟩, (hq1 i hi).2⟩) (fun u hu h0 => ?_) (by rw [r30]; exact hq3)
        · rw [fs, decide_eq_false q2, hf]; simp
        · rw [r30]
          by_cases e : u = b
          · rw [e] at h0; exact absurd h0 q2
          · exact hq2 u ⟨hu.1, by have := hu.2; omega⟩ h0
      · have q2' := Decidable.not_not.mp q2
        have x30 : ∀ v w, gi (si (si (si h 28 b 0) 29 b v) 30 f w) 30 = uq (gi h 30) f w := fun v w => by rw [gi_si_f, r30]
        have x29 : ∀ v w, gi (si (si (si h 28 b 0) 29 b v) 30 f w) 29 = uq (gi h 29) b v := fun v w => by rw [gi_si_r (by decide)]; exact r29 v
        have x28 : ∀ v w, gi (si (si (si h 28 b 0) 29 b v) 30 f w) 28 = uq (gi h 28) b 0 := fun v w => by rw [gi_si_r (by decide)]; exact r28 v
        refine ih _ (by omega) _ (f + 1) (b + 1) rfl (by omega) (by omega) (((fw.si (by decide)).si (by decide)).si (by decide)) s1 s2 (fun u hu => by rw [x29, x28]; exact sc' u hu) ?_ (fun i hi => ?_) (fun u hu h0 => ?_) (fun i j hi hj he => ?_)
        · rw [fs, decide_eq_true q2', hf]; simp
        · rw [x30]
          by_cases e : i = f
          · rw [e, uq_e]; exact ⟨⟨b0, by omega⟩, q2'⟩
          · have hi' : In f i := ⟨hi.1, by have := hi.2; omega⟩
            rw [uq_o e]; exact ⟨⟨(hq1 i hi').1.1, by have := (hq1 i hi').1.2; omega⟩, (hq1 i hi').2⟩
        · rw [x30]
          by_cases e : u = b
          · exact ⟨f, ⟨by omega, by omega⟩, by rw [uq_e, e]⟩
          · obtain ⟨i, i1, i2⟩ := hq2 u ⟨hu.1, by have := hu.2; omega⟩ h0
            exact ⟨i, ⟨i1.1, by have := i1.2; omega⟩, by rw [uq_o (by have := i1.2; omega)]; exact i2⟩
        · rw [x30] at he
          by_cases e1 : i = f
          · by_cases e2 : j = f
            · omega
            · have hj' : In f j := ⟨hj.1, by have := hj.2; omega⟩
              rw [e1, uq_e, uq_o e2] at he
              have := (hq1 j hj').1.2
              omega
          · have hi' : In f i := ⟨hi.1, by have := hi.2; omega⟩
            by_cases e2 : j = f
            · rw [e2, uq_e, uq_o e1] at he
              have := (hq1 i hi').1.2
              omega
            · rw [uq_o e1, uq_o e2] at he
              exact hq3 i j hi' ⟨hj.1, by have := hj.2; omega⟩ he
theorem FwF.refl {h : AH} : FwF h h := ⟨fun _ _ => Kp.refl, rfl, rfl, rfl, rfl⟩
theorem c_follow {h : AH} {Q : Option AV → AH → Prop} {n R : Int} {la ea : Int → Int} {rk : Int → Nat} (hF : Fix h) (hk : Rk R la ea rk) (hk2 : ∀ u, In n u → rk u < 100) (p0 : FwP h n R la ea)
    (cont : ∀ h', Fix h' → FwF h h' → (∀ u b, In n u → In n b → (sB h' 31 u b = true ↔ Rch R la ea u b)) → (∀ u b, In n u → In n b → (sB h' 34 u b = true ↔ ∃ r, In R r ∧ la r = u ∧ Rch R la ea (ea r) b)) → Long n R la ea (gi h' 28) → Q none h') : Ok 111 0 [some (vR (some 21)), none, none, none, none, none, none] [] h Q := by
  refine f_X9_follow_0 hF ?_
  rw [p0.1]
  refine c_clear hF (Or.inl rfl) p0.2.1 (fun h1 F1 s1 c1 => ⟨rfl, F1, c_clear F1 (Or.inr rfl) p0.2.1 (fun h2 F2 s2 c2 => ⟨rfl, F2, ?_⟩)⟩)
  have g31 : sB h2 31 = sB h1 31 := sB_row (s2.1 32 (by decide) (by decide)).2.1 (s2.1 33 (by decide) (by decide)).2.1
  exact c_follow_16 hF hk hk2 p0 cont _ h2 0 0 rfl (by omega) p0.2.1.1 ((FwF.refl.sf s1 (Or.inl rfl)).sf s2 (Or.inr rfl)) (fun x y hx => by rw [g31]; exact c1 x y hx) c2 (fun u hu => by have := hu.1; have := hu.2; omega) rfl (fun u hu => by have := hu.1; have := hu.2; omega) (fun u hu => by have := hu.1; have := hu.2; omega) (fun u j hu => by have := hu.1; have := hu.2; omega)
/-- rows but those that judge writes -/
def JdF (h h' : AH) : Prop := (∀ o, o ≠ 21 → o ≠ 37 → o ≠ 38 → o ≠ 35 → o ≠ 36 → Kp o h h') ∧ (∀ i, i ≠ 18 → gi h' 21 i = gi h 21 i) ∧ nn h' = nn h ∧ us h' = us h ∧ gr h' = gr h ∧ sh h' = sh h
theorem JdF.fix {h h' : AH} (g : JdF h h') (hF : Fix h) : Fix h' := ⟨fun e he => by rw [g.2.2.2.2.1]; exact hF.1 e he, fun e he => by rw [g.2.2.2.2.2]; exact hF.2.1 e he, by rw [g.2.2.1]; exact hF.2.2⟩
theorem needless_iff {R : Int} {la ea : Int → Int} {rk : Int → Nat} (hk : Rk R la ea rk) {r : Int} (hr : In R r) : ((∃ q, In R q ∧ la q = la r ∧ Rch R la ea (ea q) (ea r)) ∨ ∃ s, In r s ∧ la s = la r ∧ ea s = ea r) ↔ Needless R la ea r := by
  constructor
  · rintro (⟨q, q1, q2, q3⟩ | ⟨s, s1, s2, s3⟩)
    · have ne : ea q ≠ ea r := fun e => by rw [e] at q3; exact Rch_irr hk q3
      exact ⟨q, q1, q2, fun e => ne (by rw [e]), Or.inr ⟨ne, q3⟩⟩
    · exact ⟨s, ⟨s1.1, by have := s1.2; have := hr.2; omega⟩, s2, fun e => by have := s1.2; omega, Or.inl ⟨s3, s1.2⟩⟩
  · rintro ⟨s, s1, s2, s3, ⟨s4, s5⟩ | ⟨s4, s5⟩⟩
    · exact Or.inr ⟨s, ⟨s1.1, s5⟩, s2, s4⟩
    · exact Or.inl ⟨s, s1, s2, s5⟩
theorem c_judge_5 {h0 : AH} {Q : Option AV → AH → Prop} {D : DD} {rk : Int → Nat} (hF0 : Fix h0) (w : WF D) (hk : Rk (D 99 7) (dla D) (dea D) rk) (e46 : gi h0 46 0 = D 99 7) (e22 : ∀ r, In (D 99 7) r → gi h0 22 r = dla D r ∧ gi h0 23 r = dea D r)
    (cont : ∀ h', Fix h' → JdF h0 h' → (∀ r, In (D 99 7) r → gi h' 37 r = if dnd D r then 0 else 1) → (∀ r, In (D 99 7) r → dnd D r = true → gi h' 38 (cnt (dnd D) r.toNat) = r) → gi h' 21 18 = cnt (dnd D) (D 99 7).toNat → Q none h') (m : Nat) :
    ∀ (h : AH) (r : Int), (D 99 7 - r).toNat = m → 0 ≤ r → r ≤ D 99 7 → JdF h0 h → (∀ u b, In (D 99 1) u → In (D 99 1) b → (sB h 34 u b = true ↔ (∃ q, In (D 99 7) q ∧ dla D q = u ∧ Rch (D 99 7) (dla D) (dea D) (dea D q) b) ∨ ∃ s, In r s ∧ dla D s = u ∧ dea D s = b)) → (∀ q, In r q → gi h 37 q = if dnd D q then 0 else 1) → (∀ q, In r q → dnd D q = true → gi h 38 (cnt (dnd D) q.toNat) = q) → gi h 21 18 = cnt (dnd D) r.toNat → Ok 112 5 [some (vR (some 21)), some (vI r), none, none] [] h Q := by
  have wc := w.c
  induction m using Nat.strongRecOn with
  | ind m ih =>
    intro h r hm r0 r1 jf hS h37 h38 h18
    have hF := jf.fix hF0
    have g46 : gi h 46 0 = D 99 7 := by rw [(jf.1 46 (by decide) (by decide) (by decide) (by decide) (by decide)).1]; exact e46
    refine f_X9_judge_5 hF _ ?_
    rw [g46]
    refine ⟨fun q => ?_, fun q => ?_⟩
    · have e : r = D 99 7 := by omega
      rw [e] at h37 h38 h18
      exact cont h hF jf h37 h38 h18
    · have hr : In (D 99 7) r := ⟨r0, by omega⟩
      have g22 : gi h 22 r = dla D r := by rw [(jf.1 22 (by decide) (by decide) (by decide) (by decide) (by decide)).1]; exact (e22 r hr).1
      have g23 : gi h 23 r = dea D r := by rw [(jf.1 23 (by decide) (by decide) (by decide) (by decide) (by decide)).1]; exact (e22 r hr).2
      have hl := w.la r hr
      have he := w.ea r hr
      have l0 := hl.1
      have l1 := hl.2
      have a0 := he.1
      have a1 := he.2
      have cl := cnt_le (dnd D) r.toNat
      have cs := cnt_succ (p := dnd D) r0
      rw [g22, g23]
      have sw := (hS (dla D r) (dea D r) hl he).trans (needless_iff hk hr)
      have up : ∀ u b, ((∃ q, In (D 99 7) q ∧ dla D q = u ∧ Rch (D 99 7) (dla D) (dea D) (dea D q) b) ∨ ∃ s, In (r + 1) s ∧ dla D s = u ∧ dea D s = b) ↔ ((∃ q, In (D 99 7) q ∧ dla D q = u ∧ Rch (D 99 7) (dla D) (dea D) (dea D q) b) ∨ ∃ s, In r s ∧ dla D s = u ∧ dea D s = b) ∨ (u = dla D r ∧ b = dea D r) := fun u b => by
        constructor
        · rintro (q | ⟨s, s1, s2, s3⟩)
          · exact Or.inl (Or.inl q)
          · by_cases e : s = r
            · rw [e] at s2 s3; exact Or.inr ⟨s2.symm, s3.symm⟩
            · exact Or.inl (Or.inr ⟨s, ⟨s1.1, by have := s1.2; omega⟩, s2, s3⟩)
        · rintro ((q | ⟨s, s1, s2, s3⟩) | ⟨q1, q2⟩)
          · exact Or.inl q
          · exact Or.inr ⟨s, ⟨s1.1, by have := s1.2; omega⟩, s2, s3⟩
          · exact Or.inr ⟨r, ⟨r0, by omega⟩, q1.symm, q2.symm⟩
      refine ⟨⟨r0, by omega⟩, c_has hF (Or.inr rfl) ⟨l0, by omega⟩ ⟨a0, by omega⟩ ⟨_, rfl, hF, fun q2 => ?_, fun q2 => ⟨⟨by omega, by omega⟩, ?_⟩⟩⟩
      · have nn_ : ¬ Needless (D 99 7) (dla D) (dea D) r := fun z => by rw [sw.mpr z] at q2; exact absurd q2 (by decide)
        have dt : dnd D r = true := dnd_t.mpr nn_
        rw [dt] at cs
        rw [h18]
        refine ⟨⟨by omega, by omega⟩, ⟨by omega, by omega⟩, c_sadd (h := si (si (si h 37 r 0) 38 (cnt (dnd D) r.toNat) r) 21 18 ((cnt (dnd D) r.toNat : Int) + 1)) hF (Or.inr rfl) ⟨l0, by omega⟩ ⟨a0, by omega⟩ (fun h3 F3 s3 b3 => ⟨rfl, F3, ⟨by omega, by omega⟩, ?_⟩)⟩
        have gi3 : gi h3 = gi (si (si (si h 37 r 0) 38 (cnt (dnd D) r.toNat) r) 21 18 ((cnt (dnd D) r.toNat : Int) + 1)) := s3.2.1
        refine ih _ (by omega) h3 (r + 1) rfl (by omega) (by omega) ?_ (fun u b hu hb => ?_) (fun q hq => ?_) (fun q hq hd => ?_) ?_
        · refine ⟨fun o o1 o2 o3 o4 o5 => ((((jf.1 o o1 o2 o3 o4 o5).si o2).si o3).si o1).trans (s3.1 o o4 o5), fun i hi => ?_, by rw [s3.2.2.2.2.1]; exact jf.2.2.1, by rw [s3.2.2.2.2.2.1]; exact jf.2.2.2.1, by rw [s3.2.2.1]; exact jf.2.2.2.2.1, by rw [s3.2.2.2.1]; exact jf.2.2.2.2.2⟩
          rw [gi3, gi_si_k hi, gi_si_o (by decide), gi_si_o (by decide)]; exact jf.2.1 i hi
        · rw [b3 u b ⟨hb.1, by have := hb.2; omega⟩]
          show (sB h 34 u b || (decide (u = dla D r) && decide (b = dea D r))) = true ↔ _
          rw [up u b, ← hS u b hu hb]
          simp only [Bool.or_eq_true, Bool.and_eq_true, decide_eq_true_eq]
        · rw [gi3, gi_si_o (by decide), gi_si_o (by decide)]
          by_cases e : q = r
          · rw [e, gi_si_e, dt]; rfl
          · rw [gi_si_k e]; exact h37 q ⟨hq.1, by have := hq.2; omega⟩
        · rw [gi3, gi_si_o (by decide)]
          by_cases e : q = r
          · rw [e, gi_si_e]
          · have hq' : In r q := ⟨hq.1, by have := hq.2; omega⟩
            have qs := cnt_succ (p := dnd D) hq.1
            rw [hd] at qs
            simp at qs
            have := cnt_mono (p := dnd D) (n := (q + 1).toNat) (m := r.toNat) (by have := hq'.2; have := hq'.1; omega)
            rw [gi_si_k (by omega), gi_si_o (by decide)]; exact h38 q hq' hd
        · rw [gi3, gi_si_e, cs]; simp
      · have sT : sB h 34 (dla D r) (dea D r) = true := by
          cases e : sB h 34 (dla D r) (dea D r)
          · rw [e] at q2; exact absurd rfl q2
          · rfl
        have dt : dnd D r = false := dnd_f.mpr (sw.mp sT)
        rw [dt] at cs
        refine ih _ (by omega) _ (r + 1) rfl (by omega) (by omega) ⟨fun o o1 o2 o3 o4 o5 => (jf.1 o o1 o2 o3 o4 o5).si o2, fun i hi => by rw [gi_si_o (by decide)]; exact jf.2.1 i hi, jf.2.2⟩ (fun u b hu hb => ?_) (fun q hq => ?_) (fun q hq hd => ?_) ?_
        · show sB h 34 u b = true ↔ _
          rw [up u b, ← hS u b hu hb]
          constructor
          · exact fun q => Or.inl q
          · rintro (q | ⟨q1, q2'⟩)
            · exact q
            · rw [q1, q2']; exact sT
        · by_cases e : q = r
          · rw [e, gi_si_e, dt]; rfl
          · rw [gi_si_k e]; exact h37 q ⟨hq.1, by have := hq.2; omega⟩
        · rw [gi_si_o (by decide)]
          by_cases e : q = r
          · rw [e, dt] at hd; cases hd
          · exact h38 q ⟨hq.1, by have := hq.2; omega⟩ hd
        · rw [gi_si_o (by decide), h18, cs]; simp
