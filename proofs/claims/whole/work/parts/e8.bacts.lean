/-! the acts on both sides -/
theorem b_unit {h : AH} {n : Nat} {Ds : Nat → DD} {Z : DD} {c a b : Int} (j : JI h n Ds Z c) (hc : c ≤ 600) : Both 135 [some (vR (some 1)), some (vI a), some (vI b)] 244 [some (vR (some 99)), some (vI a), some (vI b)] h c := by
  refine both_act (A := aF 0 a b 0 0 0 0) (P := (0 ≤ a ∧ a ≤ 4) ∧ 0 ≤ b ∧ b ≤ 999) j hc (fun q => ?_) (fun p Q hp cq => c_unit j.1 j.2.1 j.w j.2.2.2.1 (by omega) hp cq) (fun h1 Q F1 r1 k => m_unitP F1 r1 j.w k)
  unfold ValA isYr In R32
  simp only [aF0, aF1, aF2, aF3, aF4, aF5, aF6]
  refine ⟨?_, ?_, ?_, ?_, ?_, ?_, ?_, ?_, ?_, ?_, ?_, ?_, ?_, ?_⟩
  all_goals first | (intros; omega) | (intros; exfalso; omega) | (skip)
theorem b_bond {h : AH} {n : Nat} {Ds : Nat → DD} {Z : DD} {c a b : Int} (j : JI h n Ds Z c) (hc : c ≤ 600) : Both 144 [some (vR (some 1)), some (vI a), some (vI b), none, none] 248 [some (vR (some 99)), some (vI a), some (vI b)] h c := by
  refine both_act (A := aF 4 a b 0 0 0 0) (P := (0 ≤ a ∧ a < Ds n 99 1) ∧ 0 ≤ b ∧ b < Ds n 99 1) j hc (fun q => ?_) (fun p Q hp cq => c_bond j.1 j.2.1 j.w j.2.2.2.1 (by omega) hp cq) (fun h1 Q F1 r1 k => m_bondP F1 r1 j.w k)
  unfold ValA isYr In R32
  simp only [aF0, aF1, aF2, aF3, aF4, aF5, aF6]
  refine ⟨?_, ?_, ?_, ?_, ?_, ?_, ?_, ?_, ?_, ?_, ?_, ?_, ?_, ?_⟩
  all_goals first | (intros; omega) | (intros; exfalso; omega) | (skip)
theorem b_tray {h : AH} {n : Nat} {Ds : Nat → DD} {Z : DD} {c a b : Int} (j : JI h n Ds Z c) (hc : c ≤ 600) : Both 151 [some (vR (some 1)), some (vI a), some (vI b)] 249 [some (vR (some 99)), some (vI a), some (vI b)] h c := by
  refine both_act (A := aF 5 a b 0 0 0 0) (P := (0 ≤ a ∧ a < Ds n 99 1) ∧ b ≤ 40) j hc (fun q => ?_) (fun p Q hp cq => c_tray j.1 j.2.1 j.w j.2.2.2.1 (by omega) hp cq) (fun h1 Q F1 r1 k => m_trayP F1 r1 j.w k)
  unfold ValA isYr In R32
  simp only [aF0, aF1, aF2, aF3, aF4, aF5, aF6]
  refine ⟨?_, ?_, ?_, ?_, ?_, ?_, ?_, ?_, ?_, ?_, ?_, ?_, ?_, ?_⟩
  all_goals first | (intros; omega) | (intros; exfalso; omega) | (skip)
theorem b_lose {h : AH} {n : Nat} {Ds : Nat → DD} {Z : DD} {c a : Int} (j : JI h n Ds Z c) (hc : c ≤ 600) : Both 152 [some (vR (some 1)), some (vI a)] 250 [some (vR (some 99)), some (vI a)] h c := by
  refine both_act (A := aF 6 a 0 0 0 0 0) (P := 0 ≤ a ∧ a < Ds n 99 11) j hc (fun q => ?_) (fun p Q hp cq => c_lose j.1 j.2.1 j.w j.2.2.2.1 (by omega) hp cq) (fun h1 Q F1 r1 k => m_loseP F1 r1 j.w k)
  unfold ValA isYr In R32
  simp only [aF0, aF1, aF2, aF3, aF4, aF5, aF6]
  refine ⟨?_, ?_, ?_, ?_, ?_, ?_, ?_, ?_, ?_, ?_, ?_, ?_, ?_, ?_⟩
  all_goals first | (intros; omega) | (intros; exfalso; omega) | (skip)
theorem b_coin {h : AH} {n : Nat} {Ds : Nat → DD} {Z : DD} {c a b d e : Int} (j : JI h n Ds Z c) (hc : c ≤ 600) : Both 153 [some (vR (some 1)), some (vI a), some (vI b), some (vI d), some (vI e), none] 251 [some (vR (some 99)), some (vI a), some (vI b), some (vI d), some (vI e)] h c := by
  refine both_act (A := aF 7 a b d e 0 0) (P := (0 ≤ a ∧ a < Ds n 99 11) ∧ -10000 ≤ d ∧ d ≤ e ∧ e ≤ 2100) j hc (fun q => ?_) (fun p Q hp cq => c_coin j.1 j.2.1 j.w j.2.2.2.1 (by omega) hp cq) (fun h1 Q F1 r1 k => m_coinP F1 r1 j.w k)
  unfold ValA isYr In R32
  simp only [aF0, aF1, aF2, aF3, aF4, aF5, aF6]
  refine ⟨?_, ?_, ?_, ?_, ?_, ?_, ?_, ?_, ?_, ?_, ?_, ?_, ?_, ?_⟩
  all_goals first | (intros; omega) | (intros; exfalso; omega) | (skip)
theorem b_sample {h : AH} {n : Nat} {Ds : Nat → DD} {Z : DD} {c a b d e : Int} (j : JI h n Ds Z c) (hc : c ≤ 600) (ra : R32 d) (rb : R32 e) : Both 154 [some (vR (some 1)), some (vI a), some (vI b), some (vI d), some (vI e), none, none] 253 [some (vR (some 99)), some (vI a), some (vI b), some (vI d), some (vI e)] h c := by
  refine both_act (A := aF 8 a b (bO d) (bO e) 0 0) (P := 0 ≤ a ∧ a < Ds n 99 11) j hc (fun q => ?_) (fun p Q hp cq => c_sample j.1 j.2.1 j.w j.2.2.2.1 (by omega) ra rb hp cq) (fun h1 Q F1 r1 k => m_sampleP F1 r1 j.w k)
  unfold ValA isYr In R32
  simp only [aF0, aF1, aF2, aF3, aF4, aF5, aF6]
  refine ⟨?_, ?_, ?_, ?_, ?_, ?_, ?_, ?_, ?_, ?_, ?_, ?_, ?_, ?_⟩
  all_goals first | (intros; omega) | (intros; exfalso; omega) | (exact fun _ => ⟨bO_r ra, bO_r rb⟩)
theorem b_sherds {h : AH} {n : Nat} {Ds : Nat → DD} {Z : DD} {c a b d e : Int} (j : JI h n Ds Z c) (hc : c ≤ 600) : Both 156 [some (vR (some 1)), some (vI a), some (vI b), some (vI d), some (vI e), none, none, none] 254 [some (vR (some 99)), some (vI a), some (vI b), some (vI d), some (vI e)] h c := by
  refine both_act (A := aF 9 a b d e 0 0) (P := (0 ≤ a ∧ a < Ds n 99 11) ∧ -100 ≤ e ∧ e ≤ 100) j hc (fun q => ?_) (fun p Q hp cq => c_sherds j.1 j.2.1 j.w j.2.2.2.1 (by omega) hp cq) (fun h1 Q F1 r1 k => m_sherdsP F1 r1 j.w k)
  unfold ValA isYr In R32
  simp only [aF0, aF1, aF2, aF3, aF4, aF5, aF6]
  refine ⟨?_, ?_, ?_, ?_, ?_, ?_, ?_, ?_, ?_, ?_, ?_, ?_, ?_, ?_⟩
  all_goals first | (intros; omega) | (intros; exfalso; omega) | (skip)
theorem b_note {h : AH} {n : Nat} {Ds : Nat → DD} {Z : DD} {c a b wd : Int} (j : JI h n Ds Z c) (hc : c ≤ 600) (ra : R64 wd) : Both 157 [some (vR (some 1)), some (vI a), some (vI b), some (vL wd), none, none, none, none, none] 256 [some (vR (some 99)), some (vI a), some (vI b), some (vL wd), none] h c := by
  refine both_act (A := aF 10 a b 0 0 0 wd) (P := (0 ≤ a ∧ a < Ds n 99 11) ∧ wd ≠ 0 ∧ okL wd) j hc (fun q => ?_) (fun p Q hp cq => c_note j.1 j.2.1 j.w j.2.2.2.1 (by omega) ra hp cq) (fun h1 Q F1 r1 k => m_noteP F1 r1 j.w k)
  unfold ValA isYr In R32
  simp only [aF0, aF1, aF2, aF3, aF4, aF5, aF6]
  refine ⟨?_, ?_, ?_, ?_, ?_, ?_, ?_, ?_, ?_, ?_, ?_, ?_, ?_, ?_⟩
  all_goals first | (intros; omega) | (intros; exfalso; omega) | (exact fun _ => ⟨q.2.2, q.2.1, ra⟩)
theorem b_bag {h : AH} {n : Nat} {Ds : Nat → DD} {Z : DD} {c a b d : Int} (j : JI h n Ds Z c) (hc : c ≤ 600) : Both 158 [some (vR (some 1)), some (vI a), some (vI b), some (vI d), none, none] 257 [some (vR (some 99)), some (vI a), some (vI b), some (vI d)] h c := by
  refine both_act (A := aF 11 a b d 0 0 0) (P := (0 ≤ a ∧ a < Ds n 99 11) ∧ d ≤ 40) j hc (fun q => ?_) (fun p Q hp cq => c_bag j.1 j.2.1 j.w j.2.2.2.1 (by omega) hp cq) (fun h1 Q F1 r1 k => m_bagP F1 r1 j.w k)
  unfold ValA isYr In R32
  simp only [aF0, aF1, aF2, aF3, aF4, aF5, aF6]
  refine ⟨?_, ?_, ?_, ?_, ?_, ?_, ?_, ?_, ?_, ?_, ?_, ?_, ?_, ?_⟩
  all_goals first | (intros; omega) | (intros; exfalso; omega) | (skip)
theorem b_take {h : AH} {n : Nat} {Ds : Nat → DD} {Z : DD} {c a b : Int} (j : JI h n Ds Z c) (hc : c ≤ 600) : Both 159 [some (vR (some 1)), some (vI a), some (vI b), none, none] 258 [some (vR (some 99)), some (vI a), some (vI b)] h c := by
  refine both_act (A := aF 12 a b 0 0 0 0) (P := 0 ≤ a ∧ a < Ds n 99 11) j hc (fun q => ?_) (fun p Q hp cq => c_take j.1 j.2.1 j.w j.2.2.2.1 (by omega) hp cq) (fun h1 Q F1 r1 k => m_takeP F1 r1 j.w k)
  unfold ValA isYr In R32
  simp only [aF0, aF1, aF2, aF3, aF4, aF5, aF6]
  refine ⟨?_, ?_, ?_, ?_, ?_, ?_, ?_, ?_, ?_, ?_, ?_, ?_, ?_, ?_⟩
  all_goals first | (intros; omega) | (intros; exfalso; omega) | (skip)
theorem b_move {h : AH} {n : Nat} {Ds : Nat → DD} {Z : DD} {c a b d e : Int} (j : JI h n Ds Z c) (hc : c ≤ 600) : Both 160 [some (vR (some 1)), some (vI a), some (vI b), some (vI d), some (vI e), none, none] 259 [some (vR (some 99)), some (vI a), some (vI b), some (vI d), some (vI e)] h c := by
  refine both_act (A := aF 13 a b d e 0 0) (P := (0 ≤ a ∧ a < Ds n 99 11) ∧ 0 ≤ d ∧ d < Ds n 99 11) j hc (fun q => ?_) (fun p Q hp cq => c_move j.1 j.2.1 j.w j.2.2.2.1 (by omega) hp cq) (fun h1 Q F1 r1 k => m_moveP F1 r1 j.w k)
  unfold ValA isYr In R32
  simp only [aF0, aF1, aF2, aF3, aF4, aF5, aF6]
  refine ⟨?_, ?_, ?_, ?_, ?_, ?_, ?_, ?_, ?_, ?_, ?_, ?_, ?_, ?_⟩
  all_goals first | (intros; omega) | (intros; exfalso; omega) | (skip)
theorem b_mark {h : AH} {n : Nat} {Ds : Nat → DD} {Z : DD} {c a b d : Int} (j : JI h n Ds Z c) (hc : c ≤ 600) : Both 170 [some (vR (some 1)), some (vI a), some (vI b), some (vI d), none, none] 260 [some (vR (some 99)), some (vI a), some (vI b), some (vI d)] h c := by
  refine both_act (A := aF 14 a b d 0 0 0) (P := (0 ≤ a ∧ a < Ds n 99 11) ∧ 0 ≤ d ∧ d ≤ 2) j hc (fun q => ?_) (fun p Q hp cq => c_mark j.1 j.2.1 j.w j.2.2.2.1 (by omega) hp cq) (fun h1 Q F1 r1 k => m_markP F1 r1 j.w k)
  unfold ValA isYr In R32
  simp only [aF0, aF1, aF2, aF3, aF4, aF5, aF6]
  refine ⟨?_, ?_, ?_, ?_, ?_, ?_, ?_, ?_, ?_, ?_, ?_, ?_, ?_, ?_⟩
  all_goals first | (intros; omega) | (intros; exfalso; omega) | (skip)
theorem b_copy {h : AH} {n : Nat} {Ds : Nat → DD} {Z : DD} {c a b d e f : Int} (j : JI h n Ds Z c) (hc : c ≤ 600) (ra : R32 b) (rb : R32 f) : Both 171 [some (vR (some 1)), some (vI a), some (vI b), some (vI d), some (vI e), some (vI f), none, none, none] 261 [some (vR (some 99)), some (vI a), some (vI b), some (vI d), some (vI e), some (vI f)] h c := by
  refine both_act (A := aF 15 a b d e f 0) (P := (0 ≤ a ∧ a < Ds n 99 11) ∧ (0 ≤ e ∧ e < Ds n 99 11) ∧ 0 ≤ d ∧ d ≤ 40) j hc (fun q => ?_) (fun p Q hp cq => c_copy j.1 j.2.1 j.w j.2.2.2.1 (by omega) ra rb hp cq) (fun h1 Q F1 r1 k => m_copyP F1 r1 j.w k)
  unfold ValA isYr In R32
  simp only [aF0, aF1, aF2, aF3, aF4, aF5, aF6]
  refine ⟨?_, ?_, ?_, ?_, ?_, ?_, ?_, ?_, ?_, ?_, ?_, ?_, ?_, ?_⟩
  all_goals first | (intros; omega) | (intros; exfalso; omega) | (exact fun _ => ⟨⟨q.2.1.1, q.2.1.2⟩, q.2.2, ra, rb⟩)
theorem b_join {h : AH} {n : Nat} {Ds : Nat → DD} {Z : DD} {c a b d e : Int} (j : JI h n Ds Z c) (hc : c ≤ 600) : Both 172 [some (vR (some 1)), some (vI a), some (vI b), some (vI d), some (vI e), none] 262 [some (vR (some 99)), some (vI a), some (vI b), some (vI d), some (vI e)] h c := by
  refine both_act (A := aF 16 a b d e 0 0) (P := (0 ≤ a ∧ a < Ds n 99 11) ∧ 0 ≤ d ∧ d < Ds n 99 11) j hc (fun q => ?_) (fun p Q hp cq => c_join j.1 j.2.1 j.w j.2.2.2.1 (by omega) hp cq) (fun h1 Q F1 r1 k => m_joinP F1 r1 j.w k)
  unfold ValA isYr In R32
  simp only [aF0, aF1, aF2, aF3, aF4, aF5, aF6]
  refine ⟨?_, ?_, ?_, ?_, ?_, ?_, ?_, ?_, ?_, ?_, ?_, ?_, ?_, ?_⟩
  all_goals first | (intros; omega) | (intros; exfalso; omega) | (skip)
theorem b_span {h : AH} {n : Nat} {Ds : Nat → DD} {Z : DD} {c a b d : Int} (j : JI h n Ds Z c) (hc : c ≤ 600) : Both 176 [some (vR (some 1)), some (vI a), some (vI b), some (vI d)] 263 [some (vR (some 99)), some (vI a), some (vI b), some (vI d)] h c := by
  refine both_act (A := aF 17 a b d 0 0 0) (P := (0 ≤ a ∧ a < Ds n 99 1) ∧ -10000 ≤ b ∧ b ≤ d ∧ d ≤ 2100) j hc (fun q => ?_) (fun p Q hp cq => c_span j.1 j.2.1 j.w j.2.2.2.1 (by omega) hp cq) (fun h1 Q F1 r1 k => m_spanP F1 r1 j.w k)
  unfold ValA isYr In R32
  simp only [aF0, aF1, aF2, aF3, aF4, aF5, aF6]
  refine ⟨?_, ?_, ?_, ?_, ?_, ?_, ?_, ?_, ?_, ?_, ?_, ?_, ?_, ?_⟩
  all_goals first | (intros; omega) | (intros; exfalso; omega) | (skip)
theorem b_rel {h : AH} {n : Nat} {Ds : Nat → DD} {Z : DD} {c k a b : Int} (j : JI h n Ds Z c) (hc : c ≤ 600) (hk : 0 ≤ k ∧ k ≤ 2) {tm : Nat} (mm : ∀ h1 Q, Fix h1 → RM h1 (Ds n) → (∀ p, rp ((0 ≤ a ∧ a < Ds n 99 1) ∧ 0 ≤ b ∧ b < Ds n 99 1) p → Ok 241 0 (actL p (k + 1) a b 0 0 0 0) [] h1 (Qx Q)) → Ok tm 0 [some (vR (some 99)), some (vI a), some (vI b)] [] h1 Q) : Both 142 [some (vR (some 1)), some (vI k), some (vI a), some (vI b), none, none] tm [some (vR (some 99)), some (vI a), some (vI b)] h c := by
  refine both_act (A := aF (k + 1) a b 0 0 0 0) (P := (0 ≤ a ∧ a < Ds n 99 1) ∧ 0 ≤ b ∧ b < Ds n 99 1) j hc (fun q => ?_) (fun p Q hp cq => c_relate j.1 j.2.1 j.w j.2.2.2.1 (by omega) hk hp cq) mm
  unfold ValA isYr In R32
  simp only [aF0, aF1, aF2, aF3, aF4, aF5, aF6]
  refine ⟨?_, ?_, ?_, ?_, ?_, ?_, ?_, ?_, ?_, ?_, ?_, ?_, ?_, ?_⟩
  all_goals first | (intros; omega) | (intros; exfalso; omega)
