/-! above, cut, fill on both sides -/
theorem val_rel {D : DD} {k a b : Int} (hk : 0 ≤ k ∧ k ≤ 2) (q : (0 ≤ a ∧ a < D 99 1) ∧ 0 ≤ b ∧ b < D 99 1) : ValA D (aF (k + 1) a b 0 0 0 0) := by
  unfold ValA isYr In R32
  simp only [aF0, aF1, aF2, aF3, aF4, aF5, aF6]
  refine ⟨?_, ?_, ?_, ?_, ?_, ?_, ?_, ?_, ?_, ?_, ?_, ?_, ?_, ?_⟩
  all_goals first | (intros; omega) | (intros; exfalso; omega)
theorem b_above {h : AH} {n : Nat} {Ds : Nat → DD} {Z : DD} {c a b : Int} (j : JI h n Ds Z c) (hc : c ≤ 600) : Both 139 [some (vR (some 1)), some (vI a), some (vI b)] 245 [some (vR (some 99)), some (vI a), some (vI b)] h c :=
  both_act (A := aF (0 + 1) a b 0 0 0 0) (P := (0 ≤ a ∧ a < Ds n 99 1) ∧ 0 ≤ b ∧ b < Ds n 99 1) j hc (fun q => val_rel (by decide) q) (fun p Q hp cq => f_X11_above_0 j.1 _ _ (c_relate j.1 j.2.1 j.w j.2.2.2.1 (by omega) (by decide) hp (fun h' x F r a => ⟨x, rfl, F, cq h' x F r a⟩))) (fun h1 Q F1 r1 k => m_aboveP F1 r1 j.w k)
theorem b_cut {h : AH} {n : Nat} {Ds : Nat → DD} {Z : DD} {c a b : Int} (j : JI h n Ds Z c) (hc : c ≤ 600) : Both 140 [some (vR (some 1)), some (vI a), some (vI b)] 246 [some (vR (some 99)), some (vI a), some (vI b)] h c :=
  both_act (A := aF (1 + 1) a b 0 0 0 0) (P := (0 ≤ a ∧ a < Ds n 99 1) ∧ 0 ≤ b ∧ b < Ds n 99 1) j hc (fun q => val_rel (by decide) q) (fun p Q hp cq => f_X11_cut_0 j.1 _ _ (c_relate j.1 j.2.1 j.w j.2.2.2.1 (by omega) (by decide) hp (fun h' x F r a => ⟨x, rfl, F, cq h' x F r a⟩))) (fun h1 Q F1 r1 k => m_cutP F1 r1 j.w k)
theorem b_fill {h : AH} {n : Nat} {Ds : Nat → DD} {Z : DD} {c a b : Int} (j : JI h n Ds Z c) (hc : c ≤ 600) : Both 141 [some (vR (some 1)), some (vI a), some (vI b)] 247 [some (vR (some 99)), some (vI a), some (vI b)] h c :=
  both_act (A := aF (2 + 1) a b 0 0 0 0) (P := (0 ≤ a ∧ a < Ds n 99 1) ∧ 0 ≤ b ∧ b < Ds n 99 1) j hc (fun q => val_rel (by decide) q) (fun p Q hp cq => f_X11_fill_0 j.1 _ _ (c_relate j.1 j.2.1 j.w j.2.2.2.1 (by omega) (by decide) hp (fun h' x F r a => ⟨x, rfl, F, cq h' x F r a⟩))) (fun h1 Q F1 r1 k => m_fillP F1 r1 j.w k)
