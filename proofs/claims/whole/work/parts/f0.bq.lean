/-! questions on both sides -/
theorem WZ.up {Z : DD} {c : Int} (wz : WZ Z c) : WZ Z (c + 1) := ⟨fun k a b => by have := wz.1 k a b; omega, wz.2⟩
def qKs : List (Nat × Int) := [(99, 0), (99, 34), (99, 46), (99, 47), (99, 50), (99, 55)]
def qLs : List Nat := [123, 124, 125, 129, 130, 131, 132, 133]
theorem C49.fr {L : List Nat} {K : List (Nat × Int)} {h h' : AH} {D : DD} (c : C49 h D) (f : Fr L K h h') (h1 : 99 ∉ L ∧ 135 ∉ L) (h2 : (99, 49) ∉ K ∧ ∀ q ∈ K, q.1 ≠ 135) : C49 h' D := by
  unfold C49 at c ⊢
  rw [f.1 99 49 h1.1 h2.1, f.rowl h1.2 h2.2]
  exact c
/-- a question that leaves nothing behind -/
theorem JI.same {h h1 h2 : AH} {n : Nat} {Ds : Nat → DD} {Z : DD} {c : Int} (j : JI h n Ds Z c) (F1 : Fix h1) (r1 : Rf h h1) (ci : CInv h1 n Ds Z c) (f : Fr qLs qKs h1 h2) : JI h2 n Ds Z (c + 1) := by
  obtain ⟨hF, _, mi, wz, c49, zs, z48⟩ := j
  exact ⟨F1.fr f, (ci.frR f (by decide) (by decide)).mono (by omega), (mi.rf r1).fr f (by decide) (by decide), wz.up, (c49.rf r1).fr f (by decide) (by decide), zs, z48⟩
theorem both_q {h : AH} {n : Nat} {Ds : Nat → DD} {Z : DD} {c : Int} {P : Int → Prop} {tc tm : Nat} {lc lm : aLs} (j : JI h n Ds Z c) (u : ∀ x y, P x → P y → x = y)
    (cC : ∀ Q, (∀ h' x, Fix h' → Rf h h' → CInv h' n Ds Z c → P x → Q (some (vI x)) h') → Ok tc 0 lc [] h Q)
    (cM : ∀ h1 Q, Fix h1 → MInv h1 n Ds Z → (∀ h' x, Fr qLs qKs h1 h' → P x → Q (some (vI x)) h') → Ok tm 0 lm [] h1 Q) : Both tc lc tm lm h c :=
  both_of (cC _ (fun h1 x F1 r1 ci px => ⟨x, rfl, cM h1 _ F1 (j.2.2.1.rf r1) (fun h2 y f py => ⟨by rw [u y x py px], n, Ds, Z, j.same F1 r1 ci f⟩)⟩))
theorem b_row {h : AH} {n : Nat} {Ds : Nat → DD} {Z : DD} {c u : Int} (j : JI h n Ds Z c) : Both 150 [some (vR (some 1)), some (vI u)] 215 [some (vR (some 99)), some (vI u), none, none, none, none] h c :=
  both_q (P := aRow (Ds n) u) j (fun _ _ a b => aRow_uniq j.w a b) (fun _ k => c_row j.1 j.2.1 j.w k) (fun _ _ F m k => m_row F m.2.2.1 j.w (fun h' x f a => k h' x (f.mono (by decide) (by decide)) a))
theorem b_later {h : AH} {n : Nat} {Ds : Nat → DD} {Z : DD} {c a b : Int} (j : JI h n Ds Z c) : Both 147 [some (vR (some 1)), some (vI a), some (vI b)] 211 [some (vR (some 99)), some (vI a), some (vI b)] h c :=
  both_q (P := aLater (Ds n) a b) j (fun _ _ a b => aLater_uniq a b) (fun _ k => c_later j.1 j.2.1 j.w k) (fun _ _ F m k => m_later F m.2.2.1 j.w (fun h' x f a => k h' x (f.mono (by decide) (by decide)) a))
theorem b_chart {h : AH} {n : Nat} {Ds : Nat → DD} {Z : DD} {c i : Int} (j : JI h n Ds Z c) : Both 149 [some (vR (some 1)), some (vI i)] 213 [some (vR (some 99)), some (vI i), none, none] h c :=
  both_q (P := aChart (Ds n) i) j (fun _ _ a b => aChart_uniq a b) (fun _ k => c_chart j.1 j.2.1 j.w k) (fun _ _ F m k => m_chart F m.2.2.1 j.w (fun h' x f a => k h' x (f.mono (by decide) (by decide)) a))
theorem b_relation {h : AH} {n : Nat} {Ds : Nat → DD} {Z : DD} {c r a : Int} (j : JI h n Ds Z c) : Both 146 [some (vR (some 1)), some (vI r), some (vI a)] 216 [some (vR (some 99)), some (vI r), some (vI a)] h c :=
  both_q (P := aRel (Ds n) r a) j (fun _ _ a b => aRel_uniq a b) (fun _ k => c_relation j.1 j.2.1 j.w k) (fun _ _ F m k => m_relation F m.2.2.1 j.w (fun h' x f a => k h' x (f.mono (by decide) (by decide)) a))
theorem b_block {h : AH} {n : Nat} {Ds : Nat → DD} {Z : DD} {c u : Int} (j : JI h n Ds Z c) : Both 148 [some (vR (some 1)), some (vI u)] 212 [some (vR (some 99)), some (vI u)] h c :=
  both_q (P := fun x => x = if 0 ≤ u ∧ u < Ds n 99 1 then Ds n 102 u else -1) j (fun _ _ a b => a.trans b.symm) (fun _ k => c_block j.1 j.2.1 j.w (fun h' F r ci => k h' _ F r ci rfl)) (fun _ _ F m k => m_block F m.2.2.1 j.w (fun x a => k _ x (f0_fr (by decide)) (by
    rcases a with ⟨a, e⟩ | ⟨a, e⟩
    · rw [if_neg (show ¬ (0 ≤ u ∧ u < Ds n 99 1) from a)]; exact e
    · rw [if_pos (show 0 ≤ u ∧ u < Ds n 99 1 from a)]; exact e)))
theorem b_count {h : AH} {n : Nat} {Ds : Nat → DD} {Z : DD} {c a : Int} (j : JI h n Ds Z c) : Both 185 [some (vR (some 1)), some (vI a)] 293 [some (vR (some 99)), some (vI a)] h c :=
  both_q (P := aCount (Ds n) Z n a) j (fun x y p q => by
    unfold aCount at p q
    obtain ⟨p0, p1, p2, p3, p4, p5, p6, p7, p8⟩ := p
    obtain ⟨q0, q1, q2, q3, q4, q5, q6, q7, q8⟩ := q
    by_cases e0 : a = 0
    · rw [p0 e0, q0 e0]
    by_cases e1 : a = 1
    · rw [p1 e1, q1 e1]
    by_cases e2 : a = 2
    · rw [p2 e2, q2 e2]
    by_cases e3 : a = 3
    · rw [p3 e3, q3 e3]
    by_cases e4 : a = 4
    · rw [p4 e4, q4 e4]
    by_cases e11 : a = 11
    · rw [p6 e11, q6 e11]
    by_cases e12 : a = 12
    · rw [p7 e12, q7 e12]
    by_cases e5 : 5 ≤ a ∧ a ≤ 10
    · rw [p5 e5.1 e5.2, q5 e5.1 e5.2]
    · rw [p8 (by omega), q8 (by omega)]) (fun _ k => c_count j.1 j.2.1 j.w k) (fun _ _ F m k => m_count F m (fun h' x _ f a => k h' x (f.mono (by decide) (by decide)) a))
theorem b_quarrel {h : AH} {n : Nat} {Ds : Nat → DD} {Z : DD} {c : Int} (j : JI h n Ds Z c) : Both 178 [some (vR (some 1))] 284 [some (vR (some 99))] h c :=
  both_q (P := aQuar (Ds n)) j (fun _ _ a b => aQuar_uniq a b) (fun _ k => c_quarrel j.1 j.2.1 j.w k) (fun _ _ F m k => m_quarrel F m.2.2.1 j.w (fun h' x _ f a => k h' x (f.mono (by decide) (by decide)) a))
theorem b_joins {h : AH} {n : Nat} {Ds : Nat → DD} {Z : DD} {c a b : Int} (j : JI h n Ds Z c) : Both 173 [some (vR (some 1)), some (vI a), some (vI b)] 271 [some (vR (some 99)), some (vI a), some (vI b), none, none] h c :=
  both_q (P := aJoins (Ds n) a b) j (fun _ _ a b => aJoins_uniq a b) (fun _ k => c_joins j.1 j.2.1 j.w (fun x a => k h x j.1 Rf.refl j.2.1 a)) (fun _ _ F m k => m_joins F m.2.2.1 j.w (fun x a => k _ x (f0_fr (by decide)) a))
theorem b_total {h : AH} {n : Nat} {Ds : Nat → DD} {Z : DD} {c u ty : Int} (j : JI h n Ds Z c) : Both 174 [some (vR (some 1)), some (vI u), some (vI ty)] 273 [some (vR (some 99)), some (vI u), some (vI ty)] h c :=
  both_q (P := aTotal (Ds n) u ty) j (fun _ _ a b => by
    rcases a with ⟨a, e⟩ | ⟨a1, a2, e⟩
    · rcases b with ⟨b, e'⟩ | ⟨b1, b2, _⟩
      · rw [e, e']
      · rcases a with a | a
        · exact absurd b1 a
        · exact absurd b2 a
    · rcases b with ⟨b, e'⟩ | ⟨b1, b2, e'⟩
      · rcases b with b | b
        · exact absurd a1 b
        · exact absurd a2 b
      · rw [e, e']) (fun _ k => c_total j.1 j.2.1 j.w (fun x a => k h x j.1 Rf.refl j.2.1 a)) (fun _ _ F m k => m_total F m.2.2.1 j.w (fun x a => k _ x (f0_fr (by decide)) a))
theorem b_asked {h : AH} {n : Nat} {Ds : Nat → DD} {Z : DD} {c : Int} (j : JI h n Ds Z c) : Both 137 [some (vR (some 1))] 202 [some (vR (some 99))] h c :=
  both_q (P := fun x => x = Z 99 28) j (fun _ _ a b => a.trans b.symm) (fun _ k => c_asked j.1 j.2.1 (k h _ j.1 Rf.refl j.2.1 rfl)) (fun _ _ F m k => m_asked F (k _ _ (f0_fr (by decide)) m.2.2.2.2.2.2.2.2.1))
theorem b_status {h : AH} {n : Nat} {Ds : Nat → DD} {Z : DD} {c : Int} (j : JI h n Ds Z c) : Both 186 [some (vR (some 1))] 243 [some (vR (some 99))] h c :=
  both_q (P := fun x => x = Z 99 27) j (fun _ _ a b => a.trans b.symm) (fun _ k => c_status j.1 j.2.1 (k h _ j.1 Rf.refl j.2.1 rfl)) (fun _ _ F m k => m_status F (k _ _ (f0_fr (by decide)) m.2.2.2.2.2.2.2.1))
theorem b_trace {h : AH} {n : Nat} {Ds : Nat → DD} {Z : DD} {c i : Int} (j : JI h n Ds Z c) : Both 138 [some (vR (some 1)), some (vI i)] 203 [some (vR (some 99)), some (vI i)] h c :=
  both_q (P := fun x => x = oTrace Z i) j (fun _ _ a b => a.trans b.symm) (fun _ k => c_trace j.1 j.2.1 j.2.2.2.1 (k h _ j.1 Rf.refl j.2.1 rfl)) (fun _ _ F m k => m_trace F m.2.2.2.2.2.2 j.2.2.2.1 (k _ _ (f0_fr (by decide)) rfl))
theorem b_ring {h : AH} {n : Nat} {Ds : Nat → DD} {Z : DD} {c i : Int} (j : JI h n Ds Z c) : Both 145 [some (vR (some 1)), some (vI i)] 217 [some (vR (some 99)), some (vI i)] h c :=
  both_q (P := fun x => x = oRing Z i) j (fun _ _ a b => a.trans b.symm) (fun _ k => c_ring j.1 j.2.1 j.2.2.2.1 (k h _ j.1 Rf.refl j.2.1 rfl)) (fun _ _ F m k => m_ring F m.2.2.2.2.2.2 j.2.2.2.1 (k _ _ (f0_fr (by decide)) rfl))
