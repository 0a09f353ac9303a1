def cL : List Nat := [123, 132]
def cK : List (Nat × Int) := [(99, 0), (99, 50)]
theorem m_count {h : AH} {Q : Option AV → AH → Prop} {n : Nat} {Ds : Nat → DD} {Z : DD} {a : Int} (hF : Fix h) (m : MInv h n Ds Z) (cont : ∀ h' x, Fix h' → Fr cL cK h h' → aCount (Ds n) Z n a x → Q (some (vI x)) h') : Ok 293 0 [some (vR (some 99)), some (vI a)] [] h Q := by
  obtain ⟨m1, m2, m3, m4, m5, m6, m7⟩ := m
  have w := m4 n (Nat.le_refl _)
  obtain ⟨z1, _⟩ := m7
  have f0 : Fr cL cK h (si h 99 0 0) := Fr.refl.si (Or.inr (by decide))
  have F0 := hF.fr f0
  have r0 := m3.si (o := 99) (k := 0) (v := 0) (Or.inr (Or.inr (by decide)))
  have e1 := m3.n
  have e7 := m3.R
  have e11 := m3.T
  have e22 := m3.J
  have fin : ∀ x, aCount (Ds n) Z n a x → Q (some (vI x)) (si h 99 0 0) := fun x hx => cont _ x F0 f0 hx
  have bad : (a < 0 ∨ 12 < a) → Q (some (vI (-1))) (si h 99 0 0) := fun q => fin _ (by unfold aCount; refine ⟨fun _ => ?_, fun _ => ?_, fun _ => ?_, fun _ => ?_, fun _ => ?_, fun _ _ => ?_, fun _ => ?_, fun _ => ?_, fun _ => rfl⟩ <;> omega)
  have fnd : 5 ≤ a → a ≤ 10 → Q (some (vI (gi h 120 (a - 4)))) (si h 99 0 0) := fun q1 q2 => by
    rw [z1 (a - 4) (by omega) (by omega)]
    refine fin _ ?_
    unfold aCount
    refine ⟨fun _ => ?_, fun _ => ?_, fun _ => ?_, fun _ => ?_, fun _ => ?_, fun _ _ => rfl, fun _ => ?_, fun _ => ?_, fun _ => ?_⟩ <;> omega
  refine f_X12_count_0 hF _ ⟨fun c => ?_, fun c => ?_, fun c => ?_, fun c => ?_, fun c => ?_, fun c => ?_, fun c => ?_, fun c => ?_, fun c => ?_, fun c => ?_, fun c => ?_, fun c => ?_, fun c => ?_, fun c => ?_⟩
  · refine fin _ ?_; unfold aCount; rw [e1]; refine ⟨fun _ => rfl, fun _ => ?_, fun _ => ?_, fun _ => ?_, fun _ => ?_, fun _ _ => ?_, fun _ => ?_, fun _ => ?_, fun _ => ?_⟩ <;> omega
  · refine fin _ ?_; unfold aCount; rw [e7]; refine ⟨fun _ => ?_, fun _ => rfl, fun _ => ?_, fun _ => ?_, fun _ => ?_, fun _ _ => ?_, fun _ => ?_, fun _ => ?_, fun _ => ?_⟩ <;> omega
  · refine m_listed F0 r0 w (fun h2 F2 f2 _ _ => ⟨_, rfl, F2, cont h2 _ F2 (f0.trans (f2.mono (by decide) (by decide))) ?_⟩)
    unfold aCount; refine ⟨fun _ => ?_, fun _ => ?_, fun _ => rfl, fun _ => ?_, fun _ => ?_, fun _ _ => ?_, fun _ => ?_, fun _ => ?_, fun _ => ?_⟩ <;> omega
  · refine fin _ ?_; unfold aCount; rw [e11]; refine ⟨fun _ => ?_, fun _ => ?_, fun _ => ?_, fun _ => rfl, fun _ => ?_, fun _ _ => ?_, fun _ => ?_, fun _ => ?_, fun _ => ?_⟩ <;> omega
  · refine fin _ ?_; unfold aCount; rw [m2]; refine ⟨fun _ => ?_, fun _ => ?_, fun _ => ?_, fun _ => ?_, fun _ => rfl, fun _ _ => ?_, fun _ => ?_, fun _ => ?_, fun _ => ?_⟩ <;> omega
  · exact ⟨fun _ => by omega, fun _ => ⟨fun _ => by omega, fun _ => ⟨by omega, by omega, fnd (by omega) (by omega)⟩⟩⟩
  · exact ⟨fun _ => by omega, fun _ => ⟨fun _ => by omega, fun _ => ⟨by omega, by omega, fnd (by omega) (by omega)⟩⟩⟩
  · exact ⟨fun _ => by omega, fun _ => ⟨fun _ => by omega, fun _ => ⟨by omega, by omega, fnd (by omega) (by omega)⟩⟩⟩
  · exact ⟨fun _ => by omega, fun _ => ⟨fun _ => by omega, fun _ => ⟨by omega, by omega, fnd (by omega) (by omega)⟩⟩⟩
  · exact ⟨fun _ => by omega, fun _ => ⟨fun _ => by omega, fun _ => ⟨by omega, by omega, fnd (by omega) (by omega)⟩⟩⟩
  · exact ⟨fun _ => by omega, fun _ => ⟨fun _ => by omega, fun _ => ⟨by omega, by omega, fnd (by omega) (by omega)⟩⟩⟩
  · refine fin _ ?_; unfold aCount; rw [e22]; refine ⟨fun _ => ?_, fun _ => ?_, fun _ => ?_, fun _ => ?_, fun _ => ?_, fun _ _ => ?_, fun _ => rfl, fun _ => ?_, fun _ => ?_⟩ <;> omega
  · refine m_chartSize F0 r0 w (fun h2 f2 => ⟨_, rfl, F0.fr f2, cont h2 _ (F0.fr f2) (f0.trans (f2.mono (by decide) (by decide))) ?_⟩)
    unfold aCount; refine ⟨fun _ => ?_, fun _ => ?_, fun _ => ?_, fun _ => ?_, fun _ => ?_, fun _ _ => ?_, fun _ => ?_, fun _ => rfl, fun _ => ?_⟩ <;> omega
  · exact ⟨fun _ => bad c, fun _ => ⟨fun _ => bad c, fun _ => by omega⟩⟩
