/-! one call on both sides -/
def Both (tc : Nat) (lc : aLs) (tm : Nat) (lm : aLs) (h : AH) (c : Int) : Prop := Ok tc 0 lc [] h (fun v h1 => ∃ x, v = some (vI x) ∧ Ok tm 0 lm [] h1 (fun v2 h2 => v2 = some (vI x) ∧ P0 h h2 ∧ ∃ n Ds Z, JI h2 n Ds Z (c + 1)))
theorem both_of {tc tm : Nat} {lc lm : aLs} {h : AH} {c : Int} (o : Ok tc 0 lc [] h (fun v h1 => ∃ x, v = some (vI x) ∧ Ok tm 0 lm [] h1 (fun v2 h2 => v2 = some (vI x) ∧ ∃ n Ds Z, JI h2 n Ds Z (c + 1)))) : Both tc lc tm lm h c :=
  o.p0.mono (fun _ _ ⟨⟨x, e, o2⟩, p⟩ => ⟨x, e, o2.p0.mono (fun _ _ ⟨⟨a, b⟩, q⟩ => ⟨a, p.tr q, b⟩)⟩)
theorem rp_fun {P : Prop} {p q : Int} (h : rp P p) (g : rp P q) : p = q := by
  rcases h with ⟨h1, h2⟩ | ⟨h1, h2⟩
  · rcases g with ⟨g1, g2⟩ | ⟨g1, g2⟩
    · omega
    · exact absurd h2 g2
  · rcases g with ⟨g1, g2⟩ | ⟨g1, g2⟩
    · exact absurd g2 h2
    · omega
theorem rp_ex (P : Prop) : ∃ p, rp P p := by
  by_cases h : P
  · exact ⟨1, Or.inl ⟨rfl, h⟩⟩
  · exact ⟨0, Or.inr ⟨rfl, h⟩⟩
theorem both_act {h : AH} {n : Nat} {Ds : Nat → DD} {Z : DD} {A : Int → Int} {c : Int} {P : Prop} {tc tm : Nat} {lc lm : aLs} (j : JI h n Ds Z c) (hc : c ≤ 600) (hv : P → ValA (Ds n) A) (cC : ∀ p Q, rp P p → CQ h n Ds Z c A p Q → Ok tc 0 lc [] h Q)
    (cM : ∀ h1 Q, Fix h1 → RM h1 (Ds n) → (∀ p, rp P p → Ok 241 0 (actL p (A 0) (A 1) (A 2) (A 3) (A 4) (A 5) (A 6)) [] h1 (Qx Q)) → Ok tm 0 lm [] h1 Q) : Both tc lc tm lm h c := by
  obtain ⟨p, hp⟩ := rp_ex P
  have hp' : p = 0 ∨ p = 1 ∧ ValA (Ds n) A := by
    rcases hp with ⟨h1, h2⟩ | ⟨h1, _⟩
    · exact Or.inr ⟨h1, hv h2⟩
    · exact Or.inl h1
  refine both_of (cC p _ hp (fun h1 x F1 r1 ca => ⟨x, rfl, ?_⟩))
  have m1 := j.2.2.1.rf r1
  refine cM h1 _ F1 m1.2.2.1 (fun q hq => ?_)
  have e := rp_fun hq hp
  subst e
  exact J_act j hc hp' F1 r1 ca (fun h2 n' Ds' Z' ji => ⟨x, rfl, ji.1, rfl, n', Ds', Z', ji⟩)
