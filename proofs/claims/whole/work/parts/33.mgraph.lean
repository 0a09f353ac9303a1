theorem m_isLater {h : AH} {Q : Option AV → AH → Prop} {n R : Int} {la ea : Int → Int} {rk : Int → Nat} (hk : Rk R la ea rk) (hk2 : ∀ u, In n u → rk u < 100) {a b : Int} (ha : In n a) (hb : In n b) (hF : Fix h) (hG : GV h n R la ea)
    (cont : ∀ h' x, Fr [123] [] h h' → (x = 1 ∧ Rch R la ea a b ∨ x = 0 ∧ ¬ Rch R la ea a b) → Q (some (vI x)) h') : Ok 207 0 [some (vR (some 99)), some (vI a), some (vI b)] [] h Q := by
  have n1 := hG.2.2.2.1
  have a0 := ha.1
  have a1 := ha.2
  have he : ∀ r, In R r → In n (ea r) := fun r hr => (hG.2.2.2.2.2.2 r hr).2.2.2.2.2
  refine f_X12_isLater_0 hF _ _ ⟨fun c => m_layers hk hk2 hb hF hG (fun h' f1 i1 => ⟨rfl, hF.fr f1, by omega, fun c1 => ?_, fun c1 => ?_⟩), fun c => ?_⟩
  · exact cont h' 0 f1 (Or.inr ⟨rfl, fun q => ((Far_rch hk he i1 a ha).mpr (Or.inr q)) c1⟩)
  · exact cont h' 1 f1 (Or.inl ⟨rfl, by
      rcases (Far_rch hk he i1 a ha).mp c1 with e | e
      · exact absurd e c
      · exact e⟩)
  · have e : a = b := by omega
    subst e
    exact cont h 0 Fr.refl (Or.inr ⟨rfl, Rch_irr hk⟩)
theorem m_follow_12 {Q : Option AV → AH → Prop} {n R : Int} {la ea : Int → Int} {h : AH} {f0 a : Int} (hF : Fix h) (hG : GV h n R la ea) (ha : In n a) (hp : 0 < gi h 123 a ∧ gi h 123 a < 1000) (hi : 0 ≤ gi h 99 34 ∧ gi h 99 34 < 200)
    (hex : ∃ r, In R r ∧ la r = a ∧ gi h 123 (ea r) = gi h 123 a - 1)
    (cont : ∀ r, FirstR R la ea (gi h 123) a r → Ok 208 5 [some (vR (some 99)), some (vI f0), some (vI (ea r)), none] [] (si (si h 124 (gi h 99 34) r) 99 34 (gi h 99 34 + 1)) Q) (k : Nat) :
    ∀ r : Int, (R - r).toNat = k → 0 ≤ r → (∀ q, 0 ≤ q → q < r → ¬ (la q = a ∧ gi h 123 (ea q) = gi h 123 a - 1)) → Ok 208 12 [some (vR (some 99)), some (vI f0), some (vI a), some (vI r)] [] h Q := by
  induction k using Nat.strongRecOn with
  | ind k ih =>
    intro r hk r0 hno
    obtain ⟨e1, e2, n0, n1, R0, R1, hv⟩ := hG
    have a0 := ha.1
    have a1 := ha.2
    have hrR : r < R := by
      obtain ⟨q, ⟨q0, q1⟩, q2, q3⟩ := hex
      by_cases hqr : q < r
      · exact absurd ⟨q2, q3⟩ (hno q q0 hqr)
      · omega
    obtain ⟨⟨v1, v2⟩, ⟨v3, v4⟩, v5, v6, ⟨v7, v8⟩, ⟨v9, v10⟩⟩ := hv r ⟨r0, hrR⟩
    have step : ¬ (la r = a ∧ gi h 123 (ea r) = gi h 123 a - 1) → Ok 208 12 [some (vR (some 99)), some (vI f0), some (vI a), some (vI (r + 1))] [] h Q := fun hne =>
      ih _ (by omega) (r + 1) rfl (by omega) (fun q q0 q1 => by
        by_cases hqr : q = r
        · rw [hqr]; exact hne
        · exact hno q q0 (by omega))
    refine f_X12_follow_12 hF _ _ _ ?_
    rw [v5, v6]
    refine ⟨by omega, by omega, fun c => ⟨by omega, step (fun q => c q.1)⟩, fun c => ⟨by omega, by omega, by omega, by omega, fun c1 => ⟨by omega, by omega, ?_⟩, fun c1 => ⟨by omega, step (fun q => c1 q.2)⟩⟩⟩
    exact cont r ⟨⟨r0, hrR⟩, by omega, c1, hno⟩
theorem m_follow_5 {Q : Option AV → AH → Prop} {n R : Int} {la ea : Int → Int} {g f0 : Int} {f : Int → Int} (hf : Far n R la ea g f) (hfb : ∀ u, In n u → f u < 100) (k : Nat) :
    ∀ (h : AH) (a x : Int), (f a).toNat = k → Fix h → GV h n R la ea → gi h 123 = f → In n a → f a ≠ -5 → 0 ≤ gi h 99 34 → gi h 99 34 + f a ≤ 150 →
    (∀ h', Fr [124] [(99, 34)] h h' → gi h' 99 34 = gi h 99 34 + f a → PathR R la ea f (f a).toNat a (gi h' 124) (gi h 99 34) → (∀ j, j < gi h 99 34 → gi h' 124 j = gi h 124 j) → Q none h') →
    ∀ y, Ok 208 5 [some (vR (some 99)), some (vI f0), some (vI a), y] [] h Q := by
  induction k using Nat.strongRecOn with
  | ind k ih =>
    intro h a x hkk hF hG h123 ha hne hi hib cont y
    have n1 := hG.2.2.2.1
    have a0 := ha.1
    have a1 := ha.2
    have hb := hfb a ha
    have hng := Far_neg hf a ha
    have he : ∀ r, In R r → In n (ea r) := fun r hr => (hG.2.2.2.2.2.2 r hr).2.2.2.2.2
    refine Ok.le (lle_s (lle_s (lle_s (lle_n lle_0)))) (f_X12_follow_5 hF _ _ ⟨by omega, fun c => ?_, fun c => ?_⟩)
    · rw [h123] at c
      have e0 : f a = 0 := by omega
      exact cont h Fr.refl (by omega) (by rw [e0]; show f a ≤ 0; omega) (fun _ _ => rfl)
    · rw [h123] at c
      have hg : a ≠ g := fun e => by rw [e, hf.1] at c; exact c (Int.le_refl _)
      rcases hf.2 a ha hg with ⟨q1, _⟩ | ⟨q1, q2, q3⟩
      · exact absurd q1 hne
      · refine m_follow_12 hF hG ha (by rw [h123]; omega) (by omega) (by rw [h123]; exact q2) (fun r hr => ?_) _ 0 rfl (by omega) (fun q _ _ => by omega)
        rw [h123] at hr
        have e4 : f (ea r) = f a - 1 := hr.2.2.1
        have hfr : Fr [124] [(99, 34)] h (si (si h 124 (gi h 99 34) r) 99 34 (gi h 99 34 + 1)) := (Fr.refl.si (Or.inl (by decide))).si (Or.inr (by decide))
        have i34 : gi (si (si h 124 (gi h 99 34) r) 99 34 (gi h 99 34 + 1)) 99 34 = gi h 99 34 + 1 := gi_si_e
        have i124 : gi (si (si h 124 (gi h 99 34) r) 99 34 (gi h 99 34 + 1)) 124 = uq (gi h 124) (gi h 99 34) r := by rw [gi_si_r (by decide), gi_si_f]
        refine ih _ (by omega) _ (ea r) x rfl (hF.fr hfr) (hG.fr hfr (by decide)) (by rw [gi_si_r (by decide), gi_si_r (by decide)]; exact h123) (he r hr.1) (by omega) (by rw [i34]; omega) (by rw [i34]; omega) (fun h' f1 p1 p2 p3 => ?_) _
        rw [i34] at p1 p2 p3
        rw [i124] at p3
        refine cont h' (hfr.trans f1) (by omega) ?_ (fun j hj => ?_)
        · have e5 : (f a).toNat = (f (ea r)).toNat + 1 := by omega
          have e6 : gi h' 124 (gi h 99 34) = r := by rw [p3 _ (by omega), uq_e]
          rw [e5]
          exact ⟨q1, by rw [e6]; exact hr, by rw [e6]; exact p2⟩
        · rw [p3 j (by omega), uq_o (by omega)]
theorem m_follow {h : AH} {Q : Option AV → AH → Prop} {n R : Int} {la ea : Int → Int} {g a : Int} (hF : Fix h) (hG : GV h n R la ea) (hf : Far n R la ea g (gi h 123)) (hfb : ∀ u, In n u → gi h 123 u < 100) (ha : In n a) (hne : gi h 123 a ≠ -5)
    (cont : ∀ h', Fr [124] [(99, 34)] h h' → gi h' 99 34 = gi h 123 a → PathR R la ea (gi h 123) (gi h 123 a).toNat a (gi h' 124) 0 → Q none h') : Ok 208 0 [some (vR (some 99)), some (vI a), none, none] [] h Q := by
  have hfr : Fr [124] [(99, 34)] h (si h 99 34 0) := Fr.refl.si (Or.inr (by decide))
  have e : gi (si h 99 34 0) 123 = gi h 123 := gi_si_r (by decide)
  have e2 : gi (si h 99 34 0) 99 34 = 0 := gi_si_e
  have := hfb a ha
  have := Far_neg hf a ha
  refine f_X12_follow_0 hF _ (m_follow_5 hf hfb _ _ a 0 rfl (hF.fr hfr) (hG.fr hfr (by decide)) e ha hne (by omega) (by omega) (fun h' f1 p1 p2 p3 => ?_) none)
  rw [e2] at p1 p2
  exact cont h' (hfr.trans f1) (by omega) p2
/-- the row that a ring has -/
def RingR (n R : Int) (la ea : Int → Int) (a b : Int) (k : Int) (w : Int → Int) : Prop :=
  a = b ∧ k = 0 ∨ a ≠ b ∧ ∃ f, Far n R la ea b f ∧ k = f a ∧ 0 ≤ k ∧ PathR R la ea f k.toNat a w 0
theorem RingR_uniq {n R : Int} {la ea : Int → Int} {rk : Int → Nat} (hk : Rk R la ea rk) (he : ∀ r, In R r → In n (ea r)) (hla : ∀ r, In R r → In n (la r)) {a b k k' : Int} {w w' : Int → Int} (ha : In n a) (h : RingR n R la ea a b k w) (h' : RingR n R la ea a b k' w') : k = k' ∧ ∀ j, 0 ≤ j → j < k → w j = w' j := by
  rcases h with ⟨h1, h2⟩ | ⟨h1, f, h2, h3, h4, h5⟩ <;> rcases h' with ⟨g1, g2⟩ | ⟨g1, f', g2, g3, g4, g5⟩
  · exact ⟨by omega, fun j _ _ => by omega⟩
  · exact absurd h1 g1
  · exact absurd g1 h1
  · have e := Far_uniq hk he h2 g2
    have h6 := PathR_congr he hla e ha h5
    obtain ⟨e1, e2⟩ := PathR_uniq h6 g5
    have e3 := e a ha
    exact ⟨by omega, fun j j0 j1 => e2 j j0 (by omega)⟩
theorem m_closes_18 {Q : Option AV → AH → Prop} {y1 y2 m : Int} (k : Nat) : ∀ (h : AH) (i : Int), (m - i).toNat = k → Fix h → gi h 99 34 = m → 0 ≤ i → i ≤ m → m ≤ 150 → (∀ j, 0 ≤ j → j < i → gi h 122 j = gi h 124 j) →
    (∀ h', Fr [122] [] h h' → (∀ j, 0 ≤ j → j < m → gi h' 122 j = gi h 124 j) → Q (some (vI (-4))) h') → Ok 209 18 [some (vR (some 99)), some (vI y1), some (vI y2), some (vI i)] [] h Q := by
  induction k using Nat.strongRecOn with
  | ind k ih =>
    intro h i hkk hF hm i0 im mb hj cont
    refine f_X12_closes_18 hF _ _ _ ⟨fun c => cont h Fr.refl (fun j j0 j1 => hj j j0 (by omega)), fun c => ⟨by omega, by omega, ?_⟩⟩
    have hfr : Fr [122] [] h (si h 122 i (gi h 124 i)) := Fr.refl.si (Or.inl (by decide))
    have e : gi (si h 122 i (gi h 124 i)) 124 = gi h 124 := gi_si_r (by decide)
    refine ih _ (by omega) _ (i + 1) rfl (hF.fr hfr) (by rw [gi_si_o (by decide)]; exact hm) (by omega) (by omega) mb (fun j j0 j1 => ?_) (fun h' f1 p1 => cont h' (hfr.trans f1) (by rw [e] at p1; exact p1))
    rw [e, gi_si_f]
    by_cases hji : j = i
    · rw [hji, uq_e]
    · rw [uq_o hji]; exact hj j j0 (by omega)
theorem m_closes {h : AH} {Q : Option AV → AH → Prop} {n R : Int} {la ea : Int → Int} {rk : Int → Nat} (hk : Rk R la ea rk) (hk2 : ∀ u, In n u → rk u < 100) {a b : Int} (ha : In n a) (hb : In n b) (hab : a = b ∨ Rch R la ea a b) (hF : Fix h) (hG : GV h n R la ea)
    (cont : ∀ h', Fr [122, 123, 124] [(99, 31), (99, 34)] h h' → RingR n R la ea a b (gi h' 99 31) (gi h' 122) → Q (some (vI (-4))) h') : Ok 209 0 [some (vR (some 99)), some (vI a), some (vI b), none] [] h Q := by
  have he : ∀ r, In R r → In n (ea r) := fun r hr => (hG.2.2.2.2.2.2 r hr).2.2.2.2.2
  refine f_X12_closes_0 hF _ _ ⟨fun c => ?_, fun c => ?_⟩
  · have hfr : Fr [122, 123, 124] [(99, 31), (99, 34)] h (si (si h 99 34 0) 99 31 0) := (Fr.refl.si (Or.inr (by decide))).si (Or.inr (by decide))
    refine m_closes_18 _ _ 0 rfl (hF.fr hfr) (m := 0) (by rw [gi_si_k (by decide), gi_si_e]) (by omega) (by omega) (by omega) (fun j _ _ => by omega) (fun h' f1 p1 => ?_)
    exact cont h' (hfr.trans (f1.mono (by decide) (by decide))) (Or.inl ⟨c, by rw [f1.1 99 31 (by decide) (by decide), gi_si_e]⟩)
  · have hfr : Fr [122, 123, 124] [(99, 31), (99, 34)] h (si h 99 34 0) := Fr.refl.si (Or.inr (by decide))
    refine m_layers hk hk2 hb (hF.fr hfr) (hG.fr hfr (by decide)) (fun h1 f1 i1 => ⟨rfl, (hF.fr hfr).fr f1, ?_⟩)
    have hF1 := (hF.fr hfr).fr f1
    have hG1 := (hG.fr hfr (by decide)).fr f1 (by decide)
    have f01 : Fr [122, 123, 124] [(99, 31), (99, 34)] h h1 := hfr.trans (f1.mono (by decide) (by decide))
    have hb1 : ∀ u, In n u → gi h1 123 u < 100 := fun u hu => by
      have := Far_rk hk he i1 u hu
      have := hk2 u hu
      omega
    have hne : gi h1 123 a ≠ -5 := (Far_rch hk he i1 a ha).mpr hab
    refine m_follow hF1 hG1 i1 hb1 ha hne (fun h2 f2 p1 p2 => ⟨rfl, hF1.fr f2, ?_⟩)
    have f02 : Fr [122, 123, 124] [(99, 31), (99, 34)] h h2 := f01.trans (f2.mono (by decide) (by decide))
    have f03 : Fr [122, 123, 124] [(99, 31), (99, 34)] h (si h2 99 31 (gi h2 99 34)) := f02.si (Or.inr (by decide))
    have e34 : gi (si h2 99 31 (gi h2 99 34)) 99 34 = gi h2 99 34 := gi_si_k (by decide)
    have hb2 := hb1 a ha
    have hn2 := Far_neg i1 a ha
    refine m_closes_18 _ _ 0 rfl (hF.fr f03) (m := gi h1 123 a) (by rw [e34, p1]) (by omega) (by omega) (by omega) (fun j _ _ => by omega) (fun h3 f3 p3 => ?_)
    have f04 : Fr [122, 123, 124] [(99, 31), (99, 34)] h h3 := f03.trans (f3.mono (by decide) (by decide))
    have e31 : gi h3 99 31 = gi h1 123 a := by rw [f3.1 99 31 (by decide) (by decide), gi_si_e, p1]
    refine cont h3 f04 (Or.inr ⟨c, gi h1 123, i1, e31, by omega, ?_⟩)
    rw [e31]
    have e124 : gi (si h2 99 31 (gi h2 99 34)) 124 = gi h2 124 := gi_si_r (by decide)
    rw [e124] at p3
    have key : ∀ (k : Nat) (a i : Int), PathR R la ea (gi h1 123) k a (gi h2 124) i → (∀ j, i ≤ j → j < i + k → gi h3 122 j = gi h2 124 j) → PathR R la ea (gi h1 123) k a (gi h3 122) i := by
      intro k
      induction k with
      | zero => intro a i h _; exact h
      | succ k ih =>
        intro a i h hw
        have e := hw i (by omega) (by push_cast; omega)
        obtain ⟨q1, q2, q3⟩ := h
        exact ⟨q1, by rw [e]; exact q2, by rw [e]; exact ih _ _ q3 (fun j j0 j1 => hw j (by omega) (by push_cast; omega))⟩
    exact key _ _ _ p2 (fun j j0 j1 => p3 j j0 (by omega))
/-- relation r is needless -/
def Needless (R : Int) (la ea : Int → Int) (r : Int) : Prop := ∃ s, In R s ∧ la s = la r ∧ s ≠ r ∧ (ea s = ea r ∧ s < r ∨ ea s ≠ ea r ∧ Rch R la ea (ea s) (ea r))
theorem m_isNeedless_23 {Q : Option AV → AH → Prop} {n R : Int} {la ea : Int → Int} {rk : Int → Nat} (hk : Rk R la ea rk) {h : AH} (hF : Fix h) (hG : GV h n R la ea) {r : Int} (hr : In R r) (hf : Far n R la ea (ea r) (gi h 123))
    (cont : ∀ x, (x = 1 ∧ Needless R la ea r ∨ x = 0 ∧ ¬ Needless R la ea r) → Q (some (vI x)) h) (k : Nat) :
    ∀ (s m : Int), (R - s).toNat = k → 0 ≤ s → s ≤ R → (m = 1 ∧ Needless R la ea r ∨ m = 0 ∧ ∀ q, In R q → q < s → ¬ (la q = la r ∧ q ≠ r ∧ (ea q = ea r ∧ q < r ∨ ea q ≠ ea r ∧ Rch R la ea (ea q) (ea r)))) →
    Ok 210 23 [some (vR (some 99)), some (vI r), some (vI (la r)), some (vI (ea r)), some (vI m), some (vI s), none] [] h Q := by
  induction k using Nat.strongRecOn with
  | ind k ih =>
    intro s m hkk s0 sR hI
    obtain ⟨e1, e2, n0, n1, R0, R1, hv⟩ := hG
    have he : ∀ r, In R r → In n (ea r) := fun r hr => (hv r hr).2.2.2.2.2
    refine f_X12_isNeedless_23 hF _ _ _ _ _ ⟨fun c => ⟨by omega, cont m ?_⟩, fun c => ?_⟩
    · rcases hI with hI | ⟨hI, hI2⟩
      · exact Or.inl hI
      · exact Or.inr ⟨hI, fun ⟨q, q1, q2, q3, q4⟩ => hI2 q q1 (by have := q1.2; omega) ⟨q2, q3, q4⟩⟩
    · have hs : In R s := ⟨s0, by omega⟩
      obtain ⟨⟨v1, v2⟩, ⟨v3, v4⟩, v5, v6, ⟨v7, v8⟩, ⟨v9, v10⟩⟩ := hv s hs
      have hrch := Far_rch hk he hf (ea s) ⟨v9, v10⟩
      have skip : ¬ (la s = la r ∧ s ≠ r ∧ (ea s = ea r ∧ s < r ∨ ea s ≠ ea r ∧ Rch R la ea (ea s) (ea r))) → Ok 210 23 [some (vR (some 99)), some (vI r), some (vI (la r)), some (vI (ea r)), some (vI m), some (vI (s + 1)), none] [] h Q := fun hne =>
        ih _ (by omega) (s + 1) m rfl (by omega) (by omega) (hI.imp id (fun hI => ⟨hI.1, fun q q1 q2 => by
          by_cases hqs : q = s
          · rw [hqs]; exact hne
          · exact hI.2 q q1 (by omega)⟩))
      have take : (la s = la r ∧ s ≠ r ∧ (ea s = ea r ∧ s < r ∨ ea s ≠ ea r ∧ Rch R la ea (ea s) (ea r))) → Ok 210 23 [some (vR (some 99)), some (vI r), some (vI (la r)), some (vI (ea r)), some (vI 1), some (vI (s + 1)), none] [] h Q := fun hy =>
        ih _ (by omega) (s + 1) 1 rfl (by omega) (by omega) (Or.inl ⟨rfl, s, hs, hy.1, hy.2.1, hy.2.2⟩)
      rw [v5, v6]
      refine ⟨by omega, by omega, fun c1 => ⟨by omega, skip (fun q => c1 q.1)⟩, fun c1 => ⟨fun c2 => ⟨by omega, skip (fun q => q.2.1 c2)⟩, fun c2 => ⟨by omega, fun c3 => ⟨by omega, ?_⟩, fun c3 => ⟨fun c4 => ⟨by omega, fun c5 => ⟨by omega, ?_⟩, fun c5 => ⟨by omega, ?_⟩⟩, fun c4 => ⟨fun c5 => ⟨by omega, ?_⟩, fun c5 => ⟨by omega, ?_⟩⟩⟩⟩⟩⟩
      · rcases hI with hI | hI
        · exact ih _ (by omega) (s + 1) 1 rfl (by omega) (by omega) (Or.inl ⟨rfl, hI.2⟩)
        · exact absurd hI.1 c3
      · have := skip (fun q => by
          rcases q.2.2 with q | q
          · exact c4 q.1
          · exact (hrch.mpr (Or.inr q.2)) c5)
        have em : m = 0 := by omega
        rw [em] at this
        exact this
      · exact take ⟨by omega, c2, Or.inr ⟨c4, (hrch.mp c5).resolve_left c4⟩⟩
      · have := skip (fun q => by
          rcases q.2.2 with q | q
          · omega
          · exact c4 q.1)
        have em : m = 0 := by omega
        rw [em] at this
        exact this
      · exact take ⟨by omega, c2, Or.inl ⟨by omega, by omega⟩⟩
theorem m_isNeedless {h : AH} {Q : Option AV → AH → Prop} {n R : Int} {la ea : Int → Int} {rk : Int → Nat} (hk : Rk R la ea rk) (hk2 : ∀ u, In n u → rk u < 100) (hF : Fix h) (hG : GV h n R la ea) {r : Int} (hr : In R r)
    (cont : ∀ h' x, Fr [123] [] h h' → (x = 1 ∧ Needless R la ea r ∨ x = 0 ∧ ¬ Needless R la ea r) → Q (some (vI x)) h') : Ok 210 0 [some (vR (some 99)), some (vI r), none, none, none, none, none] [] h Q := by
  obtain ⟨⟨v1, v2⟩, ⟨v3, v4⟩, v5, v6, ⟨v7, v8⟩, v9⟩ := hG.2.2.2.2.2.2 r hr
  have n1 := hG.2.2.2.1
  have R1 := hG.2.2.2.2.2.1
  have r0 := hr.1
  have r1 := hr.2
  refine f_X12_isNeedless_0 hF _ ⟨by omega, by omega, by omega, ?_⟩
  rw [v5, v6]
  refine m_layers hk hk2 v9 hF hG (fun h' f1 i1 => ⟨rfl, hF.fr f1, ?_⟩)
  exact m_isNeedless_23 hk (hF.fr f1) (hG.fr f1 (by decide)) hr i1 (fun x hx => cont h' x f1 hx) _ 0 0 rfl (by omega) (by omega) (Or.inr ⟨rfl, fun q q1 q2 => by have := q1.1; omega⟩)
