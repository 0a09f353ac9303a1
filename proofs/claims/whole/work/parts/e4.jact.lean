/-! acts on both sides -/
theorem Zrel_ex {h : AH} {D : DD} {A : Int → Int} {x y : Int} (hF : Fix h) (r : RM h D) (w : WF D) (hb : Fb h) (v : ValA D A) (h0 : 0 ≤ A 0 ∧ A 0 ≤ 17) (a : AnsA D A x y) (dn : Prop) (Z : DD) : ∃ Z', Zrel D A x y dn Z Z' := by
  have ok := m_does (Q := fun _ h' => ∃ x' y', AnsA D A x' y' ∧ (x' = -4 → RgA D A h')) hF r w hb v (fun h' x' y' _ a' _ rg _ => ⟨x', y', a', rg⟩)
  obtain ⟨_, _, h', _, x', y', a', rg⟩ := ok
  obtain ⟨e1, e2⟩ := AnsA_fun h0 a a'
  subst e1
  subst e2
  refine ⟨fun o k => if o = 120 then Z 120 k + (if y = -10 - k then 1 else 0) else if o = 99 ∧ k = 27 then (if x < 0 then x else if A 0 = 15 then y else 0) else if o = 99 ∧ k = 31 then (if x = -4 then gi h' 99 31 else Z 99 31) else if o = 122 then (if x = -4 then gi h' 122 k else Z 122 k) else if o = 99 ∧ k = 48 then (@ite _ (dn ∧ A 0 ≤ 4) (Classical.propDecidable _) 0 (Z 99 48)) else Z o k, ?_⟩
  refine ⟨fun k _ _ => by simp, fun q => by simp [q], fun q => by simp [show ¬ x < 0 by omega], by simp, by simp, by funext k; simp, fun q => ⟨by simp [q], by funext k; simp [q]⟩, fun q => ?_, fun q => by simp [q], fun q => by simp [q], by funext k; simp⟩
  obtain ⟨_, g2, g3⟩ := rg q
  have e31 : ∀ (z : Int), (if x = -4 then gi h' 99 31 else z) = gi h' 99 31 := fun z => if_pos q
  refine ⟨fun q2 => ?_, fun q2 => ⟨fun q3 => ?_, fun q3 => ?_⟩⟩
  · have := g2 q2
    unfold dRing at this
    unfold dRingZ
    simp [q]
    exact this
  · have := (g3 q2).1 q3
    unfold dRing at this
    unfold dRingZ
    simp [q]
    exact this
  · have := (g3 q2).2 q3
    unfold dRing at this
    unfold dRingZ
    simp [q]
    exact this
theorem Zrel_n {D : DD} {A : Int → Int} {x : Int} (hx : x = -1 ∨ x = -3) (Z : DD) : ∃ Z', Zrel D A x x False Z Z' := by
  refine ⟨fun o k => if o = 99 ∧ k = 27 then x else Z o k, ?_⟩
  refine ⟨fun k k1 k2 => by rw [if_neg (show ¬ x = -10 - k by omega)]; simp, fun q => by simp, fun q => by omega, by simp, by simp, by funext k; simp, fun q => ⟨by simp, by funext k; simp⟩, fun q => by omega, fun q => q.1.elim, fun q => by simp, by funext k; simp⟩
