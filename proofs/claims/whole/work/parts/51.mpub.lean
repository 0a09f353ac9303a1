/-! the calls that act: each is act() -/
def rp (P : Prop) (p : Int) : Prop := p = 1 ∧ P ∨ p = 0 ∧ ¬ P
/-- what a public call hands on -/
def Qx (Q : Option AV → AH → Prop) : Option AV → AH → Prop := fun v h1 => ∃ x, v = some (vI x) ∧ Fix h1 ∧ Q (some (vI x)) h1
abbrev actL (p c a b d e f w : Int) : aLs := [some (vR (some 99)), some (vI p), some (vI c), some (vI a), some (vI b), some (vI d), some (vI e), some (vI f), some (vL w), none, none]
theorem m_unitP {h : AH} {Q : Option AV → AH → Prop} {D : DD} {p1 p2 : Int} (hF : Fix h) (r : RM h D) (w : WF D) (k : ∀ p, rp ((0 ≤ p1 ∧ p1 ≤ 4) ∧ 0 ≤ p2 ∧ p2 ≤ 999) p → Ok 241 0 (actL p 0 p1 p2 0 0 0 0) [] h (Qx Q)) : Ok 244 0 [some (vR (some 99)), some (vI p1), some (vI p2)] [] h Q := by
  have c0 := w.1
  unfold Wc at c0
  have e1 := r.n
  have e2 := r.T
  have k0 := fun q => k 0 (Or.inr ⟨rfl, q⟩)
  have k1 := fun q => k 1 (Or.inl ⟨rfl, q⟩)
  clear k
  refine f_X12_unit_0 hF _ _ ?_
  repeat' (first | refine And.intro ?_ ?_ | intro _)
  all_goals first | omega | exact k0 (by omega) | exact k1 (by omega)
theorem m_aboveP {h : AH} {Q : Option AV → AH → Prop} {D : DD} {p1 p2 : Int} (hF : Fix h) (r : RM h D) (w : WF D) (k : ∀ p, rp ((0 ≤ p1 ∧ p1 < D 99 1) ∧ 0 ≤ p2 ∧ p2 < D 99 1) p → Ok 241 0 (actL p 1 p1 p2 0 0 0 0) [] h (Qx Q)) : Ok 245 0 [some (vR (some 99)), some (vI p1), some (vI p2)] [] h Q := by
  have c0 := w.1
  unfold Wc at c0
  have e1 := r.n
  have e2 := r.T
  have k0 := fun q => k 0 (Or.inr ⟨rfl, q⟩)
  have k1 := fun q => k 1 (Or.inl ⟨rfl, q⟩)
  clear k
  refine f_X12_above_0 hF _ _ ?_
  repeat' (first | refine And.intro ?_ ?_ | intro _)
  all_goals first | omega | exact k0 (by omega) | exact k1 (by omega)
theorem m_cutP {h : AH} {Q : Option AV → AH → Prop} {D : DD} {p1 p2 : Int} (hF : Fix h) (r : RM h D) (w : WF D) (k : ∀ p, rp ((0 ≤ p1 ∧ p1 < D 99 1) ∧ 0 ≤ p2 ∧ p2 < D 99 1) p → Ok 241 0 (actL p 2 p1 p2 0 0 0 0) [] h (Qx Q)) : Ok 246 0 [some (vR (some 99)), some (vI p1), some (vI p2)] [] h Q := by
  have c0 := w.1
  unfold Wc at c0
  have e1 := r.n
  have e2 := r.T
  have k0 := fun q => k 0 (Or.inr ⟨rfl, q⟩)
  have k1 := fun q => k 1 (Or.inl ⟨rfl, q⟩)
  clear k
  refine f_X12_cut_0 hF _ _ ?_
  repeat' (first | refine And.intro ?_ ?_ | intro _)
  all_goals first | omega | exact k0 (by omega) | exact k1 (by omega)
theorem m_fillP {h : AH} {Q : Option AV → AH → Prop} {D : DD} {p1 p2 : Int} (hF : Fix h) (r : RM h D) (w : WF D) (k : ∀ p, rp ((0 ≤ p1 ∧ p1 < D 99 1) ∧ 0 ≤ p2 ∧ p2 < D 99 1) p → Ok 241 0 (actL p 3 p1 p2 0 0 0 0) [] h (Qx Q)) : Ok 247 0 [some (vR (some 99)), some (vI p1), some (vI p2)] [] h Q := by
  have c0 := w.1
  unfold Wc at c0
  have e1 := r.n
  have e2 := r.T
  have k0 := fun q => k 0 (Or.inr ⟨rfl, q⟩)
  have k1 := fun q => k 1 (Or.inl ⟨rfl, q⟩)
  clear k
  refine f_X12_fill_0 hF _ _ ?_
  repeat' (first | refine And.intro ?_ ?_ | intro _)
  all_goals first | omega | exact k0 (by omega) | exact k1 (by omega)
theorem m_bondP {h : AH} {Q : Option AV → AH → Prop} {D : DD} {p1 p2 : Int} (hF : Fix h) (r : RM h D) (w : WF D) (k : ∀ p, rp ((0 ≤ p1 ∧ p1 < D 99 1) ∧ 0 ≤ p2 ∧ p2 < D 99 1) p → Ok 241 0 (actL p 4 p1 p2 0 0 0 0) [] h (Qx Q)) : Ok 248 0 [some (vR (some 99)), some (vI p1), some (vI p2)] [] h Q := by
  have c0 := w.1
  unfold Wc at c0
  have e1 := r.n
  have e2 := r.T
  have k0 := fun q => k 0 (Or.inr ⟨rfl, q⟩)
  have k1 := fun q => k 1 (Or.inl ⟨rfl, q⟩)
  clear k
  refine f_X12_bond_0 hF _ _ ?_
  repeat' (first | refine And.intro ?_ ?_ | intro _)
  all_goals first | omega | exact k0 (by omega) | exact k1 (by omega)
theorem m_trayP {h : AH} {Q : Option AV → AH → Prop} {D : DD} {p1 p2 : Int} (hF : Fix h) (r : RM h D) (w : WF D) (k : ∀ p, rp ((0 ≤ p1 ∧ p1 < D 99 1) ∧ p2 ≤ 40) p → Ok 241 0 (actL p 5 p1 p2 0 0 0 0) [] h (Qx Q)) : Ok 249 0 [some (vR (some 99)), some (vI p1), some (vI p2)] [] h Q := by
  have c0 := w.1
  unfold Wc at c0
  have e1 := r.n
  have e2 := r.T
  have k0 := fun q => k 0 (Or.inr ⟨rfl, q⟩)
  have k1 := fun q => k 1 (Or.inl ⟨rfl, q⟩)
  clear k
  refine f_X12_tray_0 hF _ _ ?_
  repeat' (first | refine And.intro ?_ ?_ | intro _)
  all_goals first | omega | exact k0 (by omega) | exact k1 (by omega)
theorem m_loseP {h : AH} {Q : Option AV → AH → Prop} {D : DD} {p1 : Int} (hF : Fix h) (r : RM h D) (w : WF D) (k : ∀ p, rp (0 ≤ p1 ∧ p1 < D 99 11) p → Ok 241 0 (actL p 6 p1 0 0 0 0 0) [] h (Qx Q)) : Ok 250 0 [some (vR (some 99)), some (vI p1)] [] h Q := by
  have c0 := w.1
  unfold Wc at c0
  have e1 := r.n
  have e2 := r.T
  have k0 := fun q => k 0 (Or.inr ⟨rfl, q⟩)
  have k1 := fun q => k 1 (Or.inl ⟨rfl, q⟩)
  clear k
  refine f_X12_lose_0 hF _ ?_
  repeat' (first | refine And.intro ?_ ?_ | intro _)
  all_goals first | omega | exact k0 (by omega) | exact k1 (by omega)
theorem m_coinP {h : AH} {Q : Option AV → AH → Prop} {D : DD} {p1 p2 p3 p4 : Int} (hF : Fix h) (r : RM h D) (w : WF D) (k : ∀ p, rp ((0 ≤ p1 ∧ p1 < D 99 11) ∧ -10000 ≤ p3 ∧ p3 ≤ p4 ∧ p4 ≤ 2100) p → Ok 241 0 (actL p 7 p1 p2 p3 p4 0 0) [] h (Qx Q)) : Ok 251 0 [some (vR (some 99)), some (vI p1), some (vI p2), some (vI p3), some (vI p4)] [] h Q := by
  have c0 := w.1
  unfold Wc at c0
  have e1 := r.n
  have e2 := r.T
  have k0 := fun q => k 0 (Or.inr ⟨rfl, q⟩)
  have k1 := fun q => k 1 (Or.inl ⟨rfl, q⟩)
  clear k
  refine f_X12_coin_0 hF _ _ _ _ ?_
  repeat' (first | refine And.intro ?_ ?_ | intro _)
  all_goals first | omega | exact k0 (by omega) | exact k1 (by omega)
theorem m_sherdsP {h : AH} {Q : Option AV → AH → Prop} {D : DD} {p1 p2 p3 p4 : Int} (hF : Fix h) (r : RM h D) (w : WF D) (k : ∀ p, rp ((0 ≤ p1 ∧ p1 < D 99 11) ∧ -100 ≤ p4 ∧ p4 ≤ 100) p → Ok 241 0 (actL p 9 p1 p2 p3 p4 0 0) [] h (Qx Q)) : Ok 254 0 [some (vR (some 99)), some (vI p1), some (vI p2), some (vI p3), some (vI p4)] [] h Q := by
  have c0 := w.1
  unfold Wc at c0
  have e1 := r.n
  have e2 := r.T
  have k0 := fun q => k 0 (Or.inr ⟨rfl, q⟩)
  have k1 := fun q => k 1 (Or.inl ⟨rfl, q⟩)
  clear k
  refine f_X12_sherds_0 hF _ _ _ _ ?_
  repeat' (first | refine And.intro ?_ ?_ | intro _)
  all_goals first | omega | exact k0 (by omega) | exact k1 (by omega)
theorem m_bagP {h : AH} {Q : Option AV → AH → Prop} {D : DD} {p1 p2 p3 : Int} (hF : Fix h) (r : RM h D) (w : WF D) (k : ∀ p, rp ((0 ≤ p1 ∧ p1 < D 99 11) ∧ p3 ≤ 40) p → Ok 241 0 (actL p 11 p1 p2 p3 0 0 0) [] h (Qx Q)) : Ok 257 0 [some (vR (some 99)), some (vI p1), some (vI p2), some (vI p3)] [] h Q := by
  have c0 := w.1
  unfold Wc at c0
  have e1 := r.n
  have e2 := r.T
  have k0 := fun q => k 0 (Or.inr ⟨rfl, q⟩)
  have k1 := fun q => k 1 (Or.inl ⟨rfl, q⟩)
  clear k
  refine f_X12_bag_0 hF _ _ _ ?_
  repeat' (first | refine And.intro ?_ ?_ | intro _)
  all_goals first | omega | exact k0 (by omega) | exact k1 (by omega)
theorem m_takeP {h : AH} {Q : Option AV → AH → Prop} {D : DD} {p1 p2 : Int} (hF : Fix h) (r : RM h D) (w : WF D) (k : ∀ p, rp (0 ≤ p1 ∧ p1 < D 99 11) p → Ok 241 0 (actL p 12 p1 p2 0 0 0 0) [] h (Qx Q)) : Ok 258 0 [some (vR (some 99)), some (vI p1), some (vI p2)] [] h Q := by
  have c0 := w.1
  unfold Wc at c0
  have e1 := r.n
  have e2 := r.T
  have k0 := fun q => k 0 (Or.inr ⟨rfl, q⟩)
  have k1 := fun q => k 1 (Or.inl ⟨rfl, q⟩)
  clear k
  refine f_X12_take_0 hF _ _ ?_
  repeat' (first | refine And.intro ?_ ?_ | intro _)
  all_goals first | omega | exact k0 (by omega) | exact k1 (by omega)
theorem m_moveP {h : AH} {Q : Option AV → AH → Prop} {D : DD} {p1 p2 p3 p4 : Int} (hF : Fix h) (r : RM h D) (w : WF D) (k : ∀ p, rp ((0 ≤ p1 ∧ p1 < D 99 11) ∧ 0 ≤ p3 ∧ p3 < D 99 11) p → Ok 241 0 (actL p 13 p1 p2 p3 p4 0 0) [] h (Qx Q)) : Ok 259 0 [some (vR (some 99)), some (vI p1), some (vI p2), some (vI p3), some (vI p4)] [] h Q := by
  have c0 := w.1
  unfold Wc at c0
  have e1 := r.n
  have e2 := r.T
  have k0 := fun q => k 0 (Or.inr ⟨rfl, q⟩)
  have k1 := fun q => k 1 (Or.inl ⟨rfl, q⟩)
  clear k
  refine f_X12_move_0 hF _ _ _ _ ?_
  repeat' (first | refine And.intro ?_ ?_ | intro _)
  all_goals first | omega | exact k0 (by omega) | exact k1 (by omega)
theorem m_markP {h : AH} {Q : Option AV → AH → Prop} {D : DD} {p1 p2 p3 : Int} (hF : Fix h) (r : RM h D) (w : WF D) (k : ∀ p, rp ((0 ≤ p1 ∧ p1 < D 99 11) ∧ 0 ≤ p3 ∧ p3 ≤ 2) p → Ok 241 0 (actL p 14 p1 p2 p3 0 0 0) [] h (Qx Q)) : Ok 260 0 [some (vR (some 99)), some (vI p1), some (vI p2), some (vI p3)] [] h Q := by
  have c0 := w.1
  unfold Wc at c0
  have e1 := r.n
  have e2 := r.T
  have k0 := fun q => k 0 (Or.inr ⟨rfl, q⟩)
  have k1 := fun q => k 1 (Or.inl ⟨rfl, q⟩)
  clear k
  refine f_X12_mark_0 hF _ _ _ ?_
  repeat' (first | refine And.intro ?_ ?_ | intro _)
  all_goals first | omega | exact k0 (by omega) | exact k1 (by omega)
theorem m_copyP {h : AH} {Q : Option AV → AH → Prop} {D : DD} {p1 p2 p3 p4 p5 : Int} (hF : Fix h) (r : RM h D) (w : WF D) (k : ∀ p, rp ((0 ≤ p1 ∧ p1 < D 99 11) ∧ (0 ≤ p4 ∧ p4 < D 99 11) ∧ 0 ≤ p3 ∧ p3 ≤ 40) p → Ok 241 0 (actL p 15 p1 p2 p3 p4 p5 0) [] h (Qx Q)) : Ok 261 0 [some (vR (some 99)), some (vI p1), some (vI p2), some (vI p3), some (vI p4), some (vI p5)] [] h Q := by
  have c0 := w.1
  unfold Wc at c0
  have e1 := r.n
  have e2 := r.T
  have k0 := fun q => k 0 (Or.inr ⟨rfl, q⟩)
  have k1 := fun q => k 1 (Or.inl ⟨rfl, q⟩)
  clear k
  refine f_X12_copy_0 hF _ _ _ _ _ ?_
  repeat' (first | refine And.intro ?_ ?_ | intro _)
  all_goals first | omega | exact k0 (by omega) | exact k1 (by omega)
theorem m_joinP {h : AH} {Q : Option AV → AH → Prop} {D : DD} {p1 p2 p3 p4 : Int} (hF : Fix h) (r : RM h D) (w : WF D) (k : ∀ p, rp ((0 ≤ p1 ∧ p1 < D 99 11) ∧ 0 ≤ p3 ∧ p3 < D 99 11) p → Ok 241 0 (actL p 16 p1 p2 p3 p4 0 0) [] h (Qx Q)) : Ok 262 0 [some (vR (some 99)), some (vI p1), some (vI p2), some (vI p3), some (vI p4)] [] h Q := by
  have c0 := w.1
  unfold Wc at c0
  have e1 := r.n
  have e2 := r.T
  have k0 := fun q => k 0 (Or.inr ⟨rfl, q⟩)
  have k1 := fun q => k 1 (Or.inl ⟨rfl, q⟩)
  clear k
  refine f_X12_join_0 hF _ _ _ _ ?_
  repeat' (first | refine And.intro ?_ ?_ | intro _)
  all_goals first | omega | exact k0 (by omega) | exact k1 (by omega)
theorem m_spanP {h : AH} {Q : Option AV → AH → Prop} {D : DD} {p1 p2 p3 : Int} (hF : Fix h) (r : RM h D) (w : WF D) (k : ∀ p, rp ((0 ≤ p1 ∧ p1 < D 99 1) ∧ -10000 ≤ p2 ∧ p2 ≤ p3 ∧ p3 ≤ 2100) p → Ok 241 0 (actL p 17 p1 p2 p3 0 0 0) [] h (Qx Q)) : Ok 263 0 [some (vR (some 99)), some (vI p1), some (vI p2), some (vI p3)] [] h Q := by
  have c0 := w.1
  unfold Wc at c0
  have e1 := r.n
  have e2 := r.T
  have k0 := fun q => k 0 (Or.inr ⟨rfl, q⟩)
  have k1 := fun q => k 1 (Or.inl ⟨rfl, q⟩)
  clear k
  refine f_X12_span_0 hF _ _ _ ?_
  repeat' (first | refine And.intro ?_ ?_ | intro _)
  all_goals first | omega | exact k0 (by omega) | exact k1 (by omega)
