/-! notes and samples as calls; questions that tell, and count findings -/
def bO (p : Int) : Int := if iAnd p 2147483647 ≤ 2139095040 then p else 2143289344
theorem bO_r {p : Int} (h : R32 p) : R32 (bO p) := by
  unfold bO
  split
  · exact h
  · exact ⟨by decide, by decide⟩
theorem m_bitsOf {h : AH} {Q : Option AV → AH → Prop} {p : Int} (hF : Fix h) (cont : Q (some (vI (bO p))) h) : Ok 252 0 [some (vI p)] [] h Q := by
  unfold bO at cont
  refine f_X12_bitsOf_0 hF _ ⟨fun c => ?_, fun c => ?_⟩
  · rw [if_pos c] at cont; exact cont
  · rw [if_neg c] at cont; exact cont
theorem m_sampleP {h : AH} {Q : Option AV → AH → Prop} {D : DD} {p1 p2 p3 p4 : Int} (hF : Fix h) (r : RM h D) (w : WF D) (k : ∀ p, rp (0 ≤ p1 ∧ p1 < D 99 11) p → Ok 241 0 (actL p 8 p1 p2 (bO p3) (bO p4) 0 0) [] h (Qx Q)) : Ok 253 0 [some (vR (some 99)), some (vI p1), some (vI p2), some (vI p3), some (vI p4)] [] h Q := by
  have c0 := w.1
  unfold Wc at c0
  have e2 := r.T
  refine f_X12_sample_0 hF _ _ _ _ ⟨by omega, fun c => ?_, fun c => ⟨fun c1 => ?_, fun c1 => ?_⟩⟩
  · exact m_bitsOf hF ⟨_, rfl, hF, m_bitsOf hF ⟨_, rfl, hF, k 0 (Or.inr ⟨rfl, by omega⟩)⟩⟩
  · exact m_bitsOf hF ⟨_, rfl, hF, m_bitsOf hF ⟨_, rfl, hF, k 0 (Or.inr ⟨rfl, by omega⟩)⟩⟩
  · exact m_bitsOf hF ⟨_, rfl, hF, m_bitsOf hF ⟨_, rfl, hF, k 1 (Or.inl ⟨rfl, by omega⟩)⟩⟩
theorem lc3 {x c : Int} : ((if c < x then (1 : Int) else if x = c then 0 else -1) = 0 ↔ x = c) ∧ ((if c < x then (1 : Int) else if x = c then 0 else -1) < 0 ↔ x < c) ∧ (0 < (if c < x then (1 : Int) else if x = c then 0 else -1) ↔ c < x) := by
  split
  · omega
  · split <;> omega
theorem m_areLetters_10 {h : AH} {Q : Option AV → AH → Prop} {w : Int} (hF : Fix h) (cont : ∀ x, rp (w ≠ 0 ∧ okL w) x → Q (some (vI x)) h) : ∀ (j : Nat) (a : Int), j ≤ 8 → rp (w ≠ 0 ∧ ∀ i, j ≤ i → i < 8 → byt w i = 0 ∨ 32 ≤ byt w i ∧ byt w i ≤ 126) a →
    Ok 255 10 [some (vL w), none, some (vI a), some (vI (8 * (j : Int) - 8)), none, none] [] h Q
  | 0, a, _, ha => by
    refine f_X12_areLetters_10 hF _ _ _ ⟨fun c => ⟨by unfold rp at ha; omega, cont a ?_⟩, fun c => absurd (by omega) c⟩
    rcases ha with ⟨h1, h2, h3⟩ | ⟨h1, h2⟩
    · exact Or.inl ⟨h1, h2, fun i hi => h3 i (Nat.zero_le _) hi⟩
    · exact Or.inr ⟨h1, fun q => h2 ⟨q.1, fun i _ hi => q.2 i hi⟩⟩
  | j + 1, a, hj, ha => by
    have ei : 8 * ((j + 1 : Nat) : Int) - 8 = 8 * (j : Int) := by push_cast; omega
    have eb := byt_shr (w := w) (j := j) (by omega)
    have es : 8 * (j : Int) + (-8) = 8 * (j : Int) - 8 := by omega
    have l0 := lc3 (x := byt w j) (c := 0)
    have l1 := lc3 (x := byt w j) (c := 32)
    have l2 := lc3 (x := byt w j) (c := 126)
    have stp : ∀ a', rp (w ≠ 0 ∧ ∀ i, j ≤ i → i < 8 → byt w i = 0 ∨ 32 ≤ byt w i ∧ byt w i ≤ 126) a' → Ok 255 10 [some (vL w), none, some (vI a'), some (vI (8 * (j : Int) - 8)), none, none] [] h Q := fun a' h' => m_areLetters_10 hF cont j a' (by omega) h'
    have n0 : ¬ (w ≠ 0 ∧ ∀ i, j + 1 ≤ i → i < 8 → byt w i = 0 ∨ 32 ≤ byt w i ∧ byt w i ≤ 126) ∨ ¬ (byt w j = 0 ∨ 32 ≤ byt w j ∧ byt w j ≤ 126) → Ok 255 10 [some (vL w), none, some (vI 0), some (vI (8 * (j : Int) - 8)), none, none] [] h Q := fun q => stp 0 (Or.inr ⟨rfl, fun q' => by
      rcases q with q | q
      · exact q ⟨q'.1, fun i h1 h2 => q'.2 i (by omega) h2⟩
      · exact q (q'.2 j (Nat.le_refl _) (by omega))⟩)
    have n1 : a = 1 → (byt w j = 0 ∨ 32 ≤ byt w j ∧ byt w j ≤ 126) → Ok 255 10 [some (vL w), none, some (vI 1), some (vI (8 * (j : Int) - 8)), none, none] [] h Q := fun q0 q => stp 1 (Or.inl ⟨rfl, by
      rcases ha with ⟨h1, h2, h3⟩ | ⟨h1, h2⟩
      · refine ⟨h2, fun i i1 i2 => ?_⟩
        by_cases hij : i = j
        · rw [hij]; exact q
        · exact h3 i (by omega) i2
      · omega⟩)
    have ha1 : a ≠ 0 → a = 1 := fun q => by rcases ha with ⟨h1, _⟩ | ⟨h1, _⟩ <;> omega
    rw [ei]
    refine f_X12_areLetters_10 hF _ _ _ ⟨fun c => by omega, fun c => ?_⟩
    rw [eb, es, l0.1, l1.2.1, l2.2.2]
    refine ⟨fun c1 => ⟨by omega, n0 (Or.inl (fun q => ?_))⟩, fun c1 => ⟨fun c2 => ⟨by omega, n1 (ha1 c1) (Or.inl c2)⟩, fun c2 => ⟨fun c3 => ⟨by omega, n0 (Or.inr (by omega))⟩, fun c3 => ⟨fun c4 => ⟨by omega, n0 (Or.inr (by omega))⟩, fun c4 => ⟨by omega, n1 (ha1 c1) (Or.inr (by omega))⟩⟩⟩⟩⟩
    rcases ha with ⟨h1, _⟩ | ⟨_, h2⟩
    · omega
    · exact h2 q
theorem m_areLetters {h : AH} {Q : Option AV → AH → Prop} {w : Int} (hF : Fix h) (cont : ∀ x, rp (w ≠ 0 ∧ okL w) x → Q (some (vI x)) h) : Ok 255 0 [some (vL w), none, none, none, none, none] [] h Q := by
  have l0 := lc3 (x := w) (c := 0)
  refine f_X12_areLetters_0 hF _ ?_
  rw [l0.1]
  refine ⟨fun c => ?_, fun c => ?_⟩
  · exact m_areLetters_10 hF cont 8 0 (by omega) (Or.inr ⟨rfl, fun q => q.1 c⟩)
  · exact m_areLetters_10 hF cont 8 1 (by omega) (Or.inl ⟨rfl, c, fun i h1 h2 => by omega⟩)
theorem m_noteP {h : AH} {Q : Option AV → AH → Prop} {D : DD} {p1 p2 p3 : Int} (hF : Fix h) (r : RM h D) (w : WF D) (k : ∀ p, rp ((0 ≤ p1 ∧ p1 < D 99 11) ∧ p3 ≠ 0 ∧ okL p3) p → Ok 241 0 (actL p 10 p1 p2 0 0 0 p3) [] h (Qx Q)) : Ok 256 0 [some (vR (some 99)), some (vI p1), some (vI p2), some (vL p3), none] [] h Q := by
  have c0 := w.1
  unfold Wc at c0
  have e2 := r.T
  refine f_X12_note_0 hF _ _ _ ⟨by omega, fun c => k 0 (Or.inr ⟨rfl, fun q => by omega⟩), fun c => ⟨fun c1 => k 0 (Or.inr ⟨rfl, fun q => by omega⟩), fun c1 => m_areLetters hF (fun x hx => ⟨x, rfl, hF, fun c2 => ?_, fun c2 => ?_⟩)⟩⟩
  · refine k 0 (Or.inr ⟨rfl, fun q => ?_⟩)
    rcases hx with ⟨h1, _⟩ | ⟨_, h2⟩
    · omega
    · exact h2 q.2
  · refine k 1 (Or.inl ⟨rfl, by omega, ?_⟩)
    rcases hx with ⟨_, h2⟩ | ⟨h1, _⟩
    · exact h2
    · omega
/-- findings counted by an answer x -/
def zF (Z : DD) (x : Int) : DD := fun o k => if o = 120 then Z o k + (if x = -10 - k then 1 else 0) else Z o k
theorem zF_o {Z : DD} {x : Int} {o : Nat} (h : o ≠ 120) : zF Z x o = Z o := funext fun k => if_neg h
theorem zF_e {Z : DD} {x k : Int} : zF Z x 120 k = Z 120 k + (if x = -10 - k then 1 else 0) := if_pos rfl
theorem MInv.fd {h h' : AH} {n : Nat} {Ds : Nat → DD} {Z : DD} {x : Int} (m : MInv h n Ds Z) (f : Fr [120, 121, 123, 124, 125, 129, 130, 131, 132, 133] [(99, 0), (99, 34), (99, 46), (99, 47), (99, 50), (99, 55)] h h') (h121 : gi h' 121 = gi h 121) (fd : Fnd h h' x) : MInv h' n Ds (zF Z x) := by
  obtain ⟨m1, m2, m3, m4, m5, m6, m7⟩ := m
  obtain ⟨z1, z2, z3, z4, z5, z6, z7, z8, z9, z10⟩ := m7
  refine ⟨m1, by rw [f.1 99 39 (by decide) (by decide)]; exact m2, m3.fr f (by decide) (by decide), m4, m5, m6.fr (fun k => f.1 126 k (by decide) (by simp)) (fun k => f.1 127 k (by decide) (by simp)) (fun k => f.2.1 128 k (by decide) (by simp)), ?_⟩
  have e122 := f.row (o := 122) (by decide) (by decide)
  have e134 := f.row (o := 134) (by decide) (by decide)
  unfold RZ
  rw [zF_o (o := 99) (by decide), zF_o (o := 121) (by decide), zF_o (o := 122) (by decide), zF_o (o := 134) (by decide), h121, e122, e134, f.1 99 27 (by decide) (by decide), f.1 99 28 (by decide) (by decide), f.1 99 29 (by decide) (by decide), f.1 99 31 (by decide) (by decide), f.1 99 48 (by decide) (by decide), f.1 99 26 (by decide) (by decide)]
  refine ⟨fun k k1 k2 => ?_, z2, z3, z4, z5, z6, z7, z8, z9, z10⟩
  rw [fd k k1 k2, z10, z1 k k1 k2, zF_e]
  by_cases hx : x = -10 - k
  · rw [if_pos ⟨rfl, hx⟩, if_pos hx]
  · rw [if_neg (fun q => hx q.2), if_neg hx]
theorem MInv.fb {h : AH} {n : Nat} {Ds : Nat → DD} {Z : DD} {c : Int} (m : MInv h n Ds Z) (hz : WZ Z c) (hc : c ≤ 1000) : Fb h := fun k k1 k2 => by
  rw [m.2.2.2.2.2.2.1 k k1 k2]; have := hz.1 k k1 k2; omega
