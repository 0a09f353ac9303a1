/-! carrying D over writes -/
def UsN (D : DD) (o : Nat) (k : Int) : Prop :=
  o = 99 ∧ (k = 1 ∨ k = 7 ∨ k = 11 ∨ k = 22) ∨ 100 ≤ o ∧ o ≤ 104 ∧ 0 ≤ k ∧ k < D 99 1 ∨ 105 ≤ o ∧ o ≤ 107 ∧ 0 ≤ k ∧ k < D 99 7 ∨ 108 ≤ o ∧ o ≤ 111 ∧ 0 ≤ k ∧ k < D 99 11 ∨
  112 ≤ o ∧ o ≤ 115 ∧ 0 ≤ k ∧ k < 40 * D 99 11 ∨ o = 116 ∧ 0 ≤ k ∧ k < 320 * D 99 11 ∨ 118 ≤ o ∧ o ≤ 119 ∧ 0 ≤ k ∧ k < D 99 22
theorem Us_iff {D : DD} {o : Nat} {k : Int} : Us D o k ↔ UsN D o k ∨ o = 117 ∧ UsL D k := by
  unfold Us UsN In
  constructor
  · rintro (h | h | h | h | h | h | h | h)
    · exact Or.inl (Or.inl h)
    · exact Or.inl (Or.inr (Or.inl h))
    · exact Or.inl (Or.inr (Or.inr (Or.inl h)))
    · exact Or.inl (Or.inr (Or.inr (Or.inr (Or.inl h))))
    · exact Or.inl (Or.inr (Or.inr (Or.inr (Or.inr (Or.inl h)))))
    · exact Or.inl (Or.inr (Or.inr (Or.inr (Or.inr (Or.inr (Or.inl h))))))
    · exact Or.inr h
    · exact Or.inl (Or.inr (Or.inr (Or.inr (Or.inr (Or.inr (Or.inr h))))))
  · rintro ((h | h | h | h | h | h | h) | h)
    · exact Or.inl h
    · exact Or.inr (Or.inl h)
    · exact Or.inr (Or.inr (Or.inl h))
    · exact Or.inr (Or.inr (Or.inr (Or.inl h)))
    · exact Or.inr (Or.inr (Or.inr (Or.inr (Or.inl h))))
    · exact Or.inr (Or.inr (Or.inr (Or.inr (Or.inr (Or.inl h)))))
    · exact Or.inr (Or.inr (Or.inr (Or.inr (Or.inr (Or.inr (Or.inr h))))))
    · exact Or.inr (Or.inr (Or.inr (Or.inr (Or.inr (Or.inr (Or.inl h))))))
/-- h holds D on what is used of D0 and on W -/
def RMs (D0 : DD) (W : Nat → Int → Prop) (h : AH) (D : DD) : Prop := ∀ o j, Us D0 o j ∨ W o j → gi h o j = D o j
theorem RM.st {h : AH} {D : DD} (r : RM h D) : RMs D (fun _ _ => False) h D := fun o j q => r o j (q.resolve_right id)
theorem RMs.w1 {D0 D : DD} {W : Nat → Int → Prop} {h : AH} (r : RMs D0 W h D) (o : Nat) (k v : Int) : RMs D0 (fun p i => W p i ∨ p = o ∧ i = k) (si h o k v) (up D o k v) := fun p i q => by
  rw [gi_si_p]
  unfold up
  by_cases hc : p = o ∧ i = k
  · rw [if_pos hc, if_pos hc]
  · rw [if_neg hc, if_neg hc]
    exact r p i (q.imp id (fun q => q.resolve_right hc))
theorem RMs.off {D0 D : DD} {W : Nat → Int → Prop} {h : AH} (r : RMs D0 W h D) {o : Nat} {k v : Int} (hf : Off o k) (hw : ¬ W o k) : RMs D0 W (si h o k v) D := fun p i q => by
  rw [gi_si_p, if_neg]
  · exact r p i q
  · rintro ⟨rfl, rfl⟩
    rcases q with q | q
    · exact Us_off q hf
    · exact hw q
theorem RMs.tr {D0 D D' : DD} {W c : Nat → Int → Prop} {v : Nat → Int → Int} {h h' : AH} (r : RMs D0 W h D) (h1 : ∀ o j, (c o j → gi h' o j = v o j ∧ D' o j = v o j) ∧ (¬ c o j → gi h' o j = gi h o j ∧ D' o j = D o j)) : RMs D0 (fun p i => W p i ∨ c p i) h' D' := fun p i q => by
  by_cases hc : c p i
  · rw [((h1 p i).1 hc).1, ((h1 p i).1 hc).2]
  · rw [((h1 p i).2 hc).1, ((h1 p i).2 hc).2]
    exact r p i (q.imp id (fun q => q.resolve_right hc))
theorem RMs.rm {D0 D : DD} {W : Nat → Int → Prop} {h : AH} (r : RMs D0 W h D) (hs : ∀ o j, UsN D o j → UsN D0 o j ∨ W o j) (hl : ∀ j, UsL D j → UsL D0 j ∨ W 117 j) : RM h D := fun o j q => by
  rcases Us_iff.mp q with q1 | ⟨q0, q1⟩
  · exact r o j ((hs o j q1).imp (fun q => Us_iff.mpr (Or.inl q)) id)
  · subst q0
    exact r 117 j ((hl j q1).imp (fun q => Us_iff.mpr (Or.inr ⟨rfl, q⟩)) id)
theorem UsN_new {D D' : DD} {o : Nat} {j : Int} (q : UsN D' o j) : UsN D o j ∨ (100 ≤ o ∧ o ≤ 104 ∧ D 99 1 ≤ j ∧ j < D' 99 1) ∨ (105 ≤ o ∧ o ≤ 107 ∧ D 99 7 ≤ j ∧ j < D' 99 7) ∨ (108 ≤ o ∧ o ≤ 111 ∧ D 99 11 ≤ j ∧ j < D' 99 11) ∨
    (112 ≤ o ∧ o ≤ 115 ∧ 40 * D 99 11 ≤ j ∧ j < 40 * D' 99 11) ∨ (o = 116 ∧ 320 * D 99 11 ≤ j ∧ j < 320 * D' 99 11) ∨ (118 ≤ o ∧ o ≤ 119 ∧ D 99 22 ≤ j ∧ j < D' 99 22) := by
  rcases q with q | ⟨q1, q2, q3, q4⟩ | ⟨q1, q2, q3, q4⟩ | ⟨q1, q2, q3, q4⟩ | ⟨q1, q2, q3, q4⟩ | ⟨q1, q3, q4⟩ | ⟨q1, q2, q3, q4⟩
  · exact Or.inl (Or.inl q)
  · by_cases h : j < D 99 1
    · exact Or.inl (Or.inr (Or.inl ⟨q1, q2, q3, h⟩))
    · exact Or.inr (Or.inl ⟨q1, q2, Int.not_lt.mp h, q4⟩)
  · by_cases h : j < D 99 7
    · exact Or.inl (Or.inr (Or.inr (Or.inl ⟨q1, q2, q3, h⟩)))
    · exact Or.inr (Or.inr (Or.inl ⟨q1, q2, Int.not_lt.mp h, q4⟩))
  · by_cases h : j < D 99 11
    · exact Or.inl (Or.inr (Or.inr (Or.inr (Or.inl ⟨q1, q2, q3, h⟩))))
    · exact Or.inr (Or.inr (Or.inr (Or.inl ⟨q1, q2, Int.not_lt.mp h, q4⟩)))
  · by_cases h : j < 40 * D 99 11
    · exact Or.inl (Or.inr (Or.inr (Or.inr (Or.inr (Or.inl ⟨q1, q2, q3, h⟩)))))
    · exact Or.inr (Or.inr (Or.inr (Or.inr (Or.inl ⟨q1, q2, Int.not_lt.mp h, q4⟩))))
  · by_cases h : j < 320 * D 99 11
    · exact Or.inl (Or.inr (Or.inr (Or.inr (Or.inr (Or.inr (Or.inl ⟨q1, q3, h⟩))))))
    · exact Or.inr (Or.inr (Or.inr (Or.inr (Or.inr (Or.inl ⟨q1, Int.not_lt.mp h, q4⟩)))))
  · by_cases h : j < D 99 22
    · exact Or.inl (Or.inr (Or.inr (Or.inr (Or.inr (Or.inr (Or.inr ⟨q1, q2, q3, h⟩))))))
    · exact Or.inr (Or.inr (Or.inr (Or.inr (Or.inr (Or.inr ⟨q1, q2, Int.not_lt.mp h, q4⟩)))))
/-- letters stay told where kinds, lengths and trays are as they were -/
theorem UsL_same {D D' : DD} {j : Int} (h : UsL D' j) (hT : D' 99 11 = D 99 11) (hk : ∀ k, In (40 * D 99 11) k → D' 112 k = 3 → D 112 k = 3 ∧ D' 114 k ≤ D 114 k) : UsL D j := by
  obtain ⟨k, i, h1, h2, h3, h4⟩ := h
  rw [hT] at h1
  obtain ⟨a, b⟩ := hk k h1 h2
  exact ⟨k, i, h1, a, ⟨h3.1, by have := h3.2; omega⟩, h4⟩
/-- what an act of the reference leaves; x its answer, y what is counted -/
def DoP (h h' : AH) (D : DD) (x y : Int) (D' : DD) (dn : Prop) : Prop := Fr dL dK h h' ∧ Fnd h h' y ∧ (dn → RM h' D' ∧ gi h' 99 37 = 1) ∧ (¬ dn → RM h' D ∧ (gi h' 99 37 = gi h 99 37 ∨ gi h' 99 37 = 0)) ∧ (x ≠ -4 → gi h' 99 31 = gi h 99 31 ∧ gi h' 122 = gi h 122)
theorem DoP_found {h h' : AH} {D D' : DD} {f : Int} {dn : Prop} (r : RM h D) (hf : 1 ≤ f ∧ f ≤ 6) (f1 : Fr [120] [] h h') (f2 : Fnd h h' (-10 - f)) (hn : ¬ dn) : DoP h h' D (-10 - f) (-10 - f) D' dn :=
  ⟨f1.mono (by decide) (by decide), f2, fun q => absurd q hn, fun _ => ⟨r.fr f1 (by decide) (by decide), Or.inl (f1.1 99 37 (by decide) (by decide))⟩, fun _ => ⟨f1.1 99 31 (by decide) (by decide), f1.row (by decide) (by decide)⟩⟩
theorem DoP_same {h h' : AH} {D D' : DD} {x : Int} {dn : Prop} (r : RM h D) (f1 : Fr [123] [] h h') (hx : x < -16 ∨ -11 < x) (hn : ¬ dn) : DoP h h' D x x D' dn :=
  ⟨f1.mono (by decide) (by decide), Fnd_no (f1.row (by decide) (by decide)) hx, fun q => absurd q hn, fun _ => ⟨r.fr f1 (by decide) (by decide), Or.inl (f1.1 99 37 (by decide) (by decide))⟩, fun _ => ⟨f1.1 99 31 (by decide) (by decide), f1.row (by decide) (by decide)⟩⟩
/-- a done act that counts nothing and rings nothing -/
theorem DoP_done {h h' : AH} {D D' : DD} {x : Int} {dn : Prop} (r : RM h' D') (f1 : Fr (dL.filter (fun o => o != 120 && o != 122)) [(99, 1), (99, 7), (99, 11), (99, 22), (99, 37), (99, 38)] h h') (h37 : gi h' 99 37 = 1) (hx : -4 < x) (hd : dn) : DoP h h' D x x D' dn :=
  ⟨f1.mono (by decide) (by decide), Fnd_no (f1.row (by decide) (by decide)) (by omega), fun _ => ⟨r, h37⟩, fun q => absurd hd q, fun _ => ⟨f1.1 99 31 (by decide) (by decide), f1.row (by decide) (by decide)⟩⟩
def eL : List Nat := dL.filter (fun o => o != 120 && o != 122)
def eK : List (Nat × Int) := [(99, 1), (99, 7), (99, 11), (99, 22), (99, 37), (99, 38)]
/-! unit -/
def oUnit (D : DD) : Int := if D 99 1 = 100 then -3 else D 99 1
def sUnit (D : DD) (k m : Int) : DD := up (up (up (up (up (up D 100 (D 99 1) k) 101 (D 99 1) m) 102 (D 99 1) (D 99 1)) 103 (D 99 1) (-10000)) 104 (D 99 1) 2100) 99 1 (D 99 1 + 1)
theorem m_doUnit {h : AH} {Q : Option AV → AH → Prop} {D : DD} {k m : Int} (hF : Fix h) (r : RM h D) (w : WF D)
    (cont : ∀ h', DoP h h' D (oUnit D) (oUnit D) (sUnit D k m) (0 ≤ oUnit D) → Q (some (vI (oUnit D))) h') : Ok 218 0 [some (vR (some 99)), some (vI k), some (vI m)] [] h Q := by
  have e := r.n
  have c0 := w.1
  unfold Wc at c0
  refine f_X12_doUnit_0 hF _ _ ?_
  rw [e]
  refine ⟨fun c => ⟨by omega, by omega, by omega, ?_⟩, fun c => ?_⟩
  · have eo : oUnit D = D 99 1 := if_neg c
    have ea : D 99 1 + 1 - 1 = D 99 1 := by omega
    rw [ea]
    rw [eo] at cont
    have r1 := (((((r.st.w1 100 (D 99 1) k).w1 101 (D 99 1) m).w1 102 (D 99 1) (D 99 1)).w1 103 (D 99 1) (-10000)).w1 104 (D 99 1) 2100).w1 99 1 (D 99 1 + 1)
    have r2 := r1.off (o := 99) (k := 37) (v := 1) (Or.inr (Or.inr (by decide))) (by simp)
    have e1 : sUnit D k m 99 1 = D 99 1 + 1 := up_e
    have e7 : sUnit D k m 99 7 = D 99 7 := up_k (by decide)
    have e11 : sUnit D k m 99 11 = D 99 11 := up_k (by decide)
    have e22 : sUnit D k m 99 22 = D 99 22 := up_k (by decide)
    refine cont _ (DoP_done (RMs.rm r2 (fun o j q => ?_) (fun j q => Or.inl (UsL_same q e11 (fun k' hk' q' => ?_)))) ((((((((Fr.refl.si (Or.inl (by decide))).si (Or.inl (by decide))).si (Or.inl (by decide))).si (Or.inl (by decide))).si (Or.inl (by decide))).si (Or.inr (by decide))).si (Or.inr (by decide)))) gi_si_e (by omega) (by omega))
    · have q' : UsN (sUnit D k m) o j := q
      have q2 := UsN_new (D := D) q'
      rw [e1, e7, e11, e22] at q2
      rcases q2 with q2 | ⟨q3, q4, q5, q6⟩ | q2 | q2 | q2 | q2 | q2
      · exact Or.inl q2
      · have ej : j = D 99 1 := by omega
        have eo : o = 100 ∨ o = 101 ∨ o = 102 ∨ o = 103 ∨ o = 104 := by omega
        right
        rcases eo with rfl | rfl | rfl | rfl | rfl <;> simp [ej]
      all_goals omega
    · have a1 : sUnit D k m 112 k' = D 112 k' := rfl
      have a2 : sUnit D k m 114 k' = D 114 k' := rfl
      exact ⟨by rw [← a1]; exact q', Int.le_refl _⟩
  · have eo : oUnit D = -3 := if_pos (by omega)
    rw [eo] at cont
    exact cont h (DoP_same r Fr.refl (by omega) (by omega))
/-! relations -/
def fits (D : DD) (by_ a b : Int) : Prop := by_ = 0 ∨ by_ = 1 ∧ (D 100 a = 1 ∨ D 100 a = 4) ∨ by_ = 2 ∧ D 100 a = 2 ∧ (D 100 b = 1 ∨ D 100 b = 4)
def sRel (D : DD) (by_ a b : Int) : DD := up (up (up (up D 105 (D 99 7) by_) 106 (D 99 7) a) 107 (D 99 7) b) 99 7 (D 99 7 + 1)
/-- what an act that relates a to b answers: refused, ringed or done -/
def aRelate (D : DD) (by_ a b x : Int) : Prop :=
  D 99 7 = 200 ∧ x = -3 ∨ D 99 7 ≠ 200 ∧ ¬ fits D by_ a b ∧ x = -13 ∨ D 99 7 ≠ 200 ∧ fits D by_ a b ∧ (D 102 a = D 102 b ∨ Rch (D 99 7) (dla D) (dea D) (D 102 b) (D 102 a)) ∧ x = -4 ∨
  D 99 7 ≠ 200 ∧ fits D by_ a b ∧ ¬ (D 102 a = D 102 b ∨ Rch (D 99 7) (dla D) (dea D) (D 102 b) (D 102 a)) ∧ x = D 99 7
def dRing (D : DD) (h : AH) (a b : Int) : Prop := RingR (D 99 1) (D 99 7) (dla D) (dea D) (D 102 a) (D 102 b) (gi h 99 31) (gi h 122)
theorem DoP_ring {h h' : AH} {D D' : DD} {dn : Prop} (r : RM h D) (f1 : Fr [122, 123, 124] [(99, 31), (99, 34)] h h') (hn : ¬ dn) : DoP h h' D (-4) (-4) D' dn :=
  ⟨f1.mono (by decide) (by decide), Fnd_no (f1.row (by decide) (by decide)) (by omega), fun q => absurd q hn, fun _ => ⟨r.fr f1 (by decide) (by decide), Or.inl (f1.1 99 37 (by decide) (by decide))⟩, fun q => absurd rfl q⟩
theorem m_doRelation_32 {h : AH} {Q : Option AV → AH → Prop} {D : DD} {by_ a b m : Int} (hF : Fix h) (r : RM h D) (w : WF D) (hb : Fb h) (ha : In (D 99 1) a) (hbb : In (D 99 1) b) (hR : D 99 7 ≠ 200) (hm : m = 1 ∧ fits D by_ a b ∨ m = 0 ∧ ¬ fits D by_ a b)
    (cont : ∀ h' x, aRelate D by_ a b x → DoP h h' D x x (sRel D by_ a b) (0 ≤ x) → (x = -4 → dRing D h' b a) → Q (some (vI x)) h') : Ok 219 32 [some (vR (some 99)), some (vI by_), some (vI a), some (vI b), some (vI m), none, none] [] h Q := by
  have c0 := w.1
  unfold Wc at c0
  obtain ⟨rk, hk, hk2⟩ := w.rk
  have a0 := ha.1
  have a1 := ha.2
  have b0 := hbb.1
  have b1 := hbb.2
  refine f_X12_doRelation_32 hF _ _ _ _ ?_
  rw [r.u (o := 102) (by decide) ha, r.u (o := 102) (by decide) hbb]
  refine ⟨fun c => ⟨by omega, by omega, fun c1 => ?_, fun c1 => ?_⟩, fun c => ?_⟩
  · have hf : fits D by_ a b := by rcases hm with q | q; exact q.2; exact absurd q.1 c
    refine m_closes hk hk2 (w.blk hbb) (w.blk ha) (Or.inl c1.symm) hF (r.gv w) (fun h' f1 p1 => ⟨_, rfl, hF.fr f1, ?_⟩)
    exact cont h' _ (Or.inr (Or.inr (Or.inl ⟨hR, hf, Or.inl c1, rfl⟩))) (DoP_ring r f1 (by omega)) (fun _ => p1)
  · have hf : fits D by_ a b := by rcases hm with q | q; exact q.2; exact absurd q.1 c
    refine m_isLater hk hk2 (w.blk hbb) (w.blk ha) hF (r.gv w) (fun h1 x f1 hx => ⟨x, rfl, hF.fr f1, fun c2 => ?_, fun c2 => ?_⟩)
    · have hn : ¬ Rch (D 99 7) (dla D) (dea D) (D 102 b) (D 102 a) := by rcases hx with q | q; omega; exact q.2
      have e7 : gi h1 99 7 = D 99 7 := by rw [f1.1 99 7 (by decide) (by decide)]; exact r.R
      rw [e7]
      have ea : D 99 7 + 1 - 1 = D 99 7 := by omega
      rw [ea]
      refine ⟨by omega, by omega, by omega, ?_⟩
      have r0 := r.fr f1 (by decide) (by decide)
      have r1 := (((r0.st.w1 105 (D 99 7) by_).w1 106 (D 99 7) a).w1 107 (D 99 7) b).w1 99 7 (D 99 7 + 1)
      have r2 := r1.off (o := 99) (k := 37) (v := 1) (Or.inr (Or.inr (by decide))) (by simp)
      have e1 : sRel D by_ a b 99 1 = D 99 1 := up_k (by decide)
      have e7' : sRel D by_ a b 99 7 = D 99 7 + 1 := up_e
      have e11 : sRel D by_ a b 99 11 = D 99 11 := up_k (by decide)
      have e22 : sRel D by_ a b 99 22 = D 99 22 := up_k (by decide)
      refine cont _ _ (Or.inr (Or.inr (Or.inr ⟨hR, hf, fun q => q.elim c1 hn, rfl⟩))) (DoP_done (RMs.rm r2 (fun o j q => ?_) (fun j q => Or.inl (UsL_same q e11 (fun k' hk' q' => ⟨q', Int.le_refl _⟩)))) ((((((f1.mono (by decide) (by decide)).si (Or.inl (by decide))).si (Or.inl (by decide))).si (Or.inl (by decide))).si (Or.inr (by decide))).si (Or.inr (by decide))) gi_si_e (by omega) (by omega)) (fun q => by omega)
      have q' : UsN (sRel D by_ a b) o j := q
      have q2 := UsN_new (D := D) q'
      rw [e1, e7', e11, e22] at q2
      rcases q2 with q2 | q2 | ⟨q3, q4, q5, q6⟩ | q2 | q2 | q2 | q2
      · exact Or.inl q2
      · omega
      · have ej : j = D 99 7 := by omega
        have eo : o = 105 ∨ o = 106 ∨ o = 107 := by omega
        right
        rcases eo with rfl | rfl | rfl <;> simp [ej]
      all_goals omega
    · have hy : Rch (D 99 7) (dla D) (dea D) (D 102 b) (D 102 a) := by rcases hx with q | q; exact q.2; omega
      refine m_closes hk hk2 (w.blk hbb) (w.blk ha) (Or.inr hy) (hF.fr f1) ((r.gv w).fr f1 (by decide)) (fun h' f2 p1 => ⟨_, rfl, (hF.fr f1).fr f2, ?_⟩)
      exact cont h' _ (Or.inr (Or.inr (Or.inl ⟨hR, hf, Or.inr hy, rfl⟩))) (DoP_ring r ((f1.mono (by decide) (by decide)).trans f2) (by omega)) (fun _ => p1)
  · have hf : ¬ fits D by_ a b := by rcases hm with q | q; omega; exact q.2
    refine m_found hF (by omega) hb (fun h' f1 f2 => ⟨_, rfl, hF.fr f1, ?_⟩)
    exact cont h' _ (Or.inr (Or.inl ⟨hR, hf, rfl⟩)) (DoP_found r (by omega) f1 f2 (by omega)) (fun q => by omega)
theorem m_doRelation {h : AH} {Q : Option AV → AH → Prop} {D : DD} {by_ a b : Int} (hF : Fix h) (r : RM h D) (w : WF D) (hb : Fb h) (ha : In (D 99 1) a) (hbb : In (D 99 1) b)
    (cont : ∀ h' x, aRelate D by_ a b x → DoP h h' D x x (sRel D by_ a b) (0 ≤ x) → (x = -4 → dRing D h' b a) → Q (some (vI x)) h') : Ok 219 0 [some (vR (some 99)), some (vI by_), some (vI a), some (vI b), none, none, none] [] h Q := by
  have c0 := w.1
  unfold Wc at c0
  have a0 := ha.1
  have a1 := ha.2
  have b0 := hbb.1
  have b1 := hbb.2
  refine f_X12_doRelation_0 hF _ _ _ ?_
  rw [r.R, r.u (o := 100) (by decide) ha, r.u (o := 100) (by decide) hbb]
  by_cases hR : D 99 7 = 200
  · exact ⟨fun c => absurd hR c, fun c => cont h _ (Or.inl ⟨hR, rfl⟩) (DoP_same r Fr.refl (by omega) (by omega)) (fun q => by omega)⟩
  · have go1 : fits D by_ a b → Ok 219 32 [some (vR (some 99)), some (vI by_), some (vI a), some (vI b), some (vI 1), none, none] [] h Q := fun q => m_doRelation_32 hF r w hb ha hbb hR (Or.inl ⟨rfl, q⟩) cont
    have go0 : ¬ fits D by_ a b → Ok 219 32 [some (vR (some 99)), some (vI by_), some (vI a), some (vI b), some (vI 0), none, none] [] h Q := fun q => m_doRelation_32 hF r w hb ha hbb hR (Or.inr ⟨rfl, q⟩) cont
    refine ⟨fun _ => ⟨fun c => go1 (Or.inl c), fun c => ⟨fun c1 => ⟨fun c2 => go0 (fun q => by rcases q with q | ⟨q, _⟩ | ⟨q, _⟩; exact c q; exact c1 q; exact c2 q), fun c2 => ⟨by omega, fun c3 => go0 (fun q => by rcases q with q | ⟨q, _⟩ | ⟨q, q3, _⟩; exact c q; exact c1 q; exact c3 q3), fun c3 => ⟨by omega, fun c4 => go1 (Or.inr (Or.inr ⟨by omega, by omega, Or.inl c4⟩)), fun c4 => ⟨fun c5 => go0 (fun q => by rcases q with q | ⟨q, _⟩ | ⟨q, q3, q4⟩; exact c q; exact c1 q; exact q4.elim c4 c5), fun c5 => go1 (Or.inr (Or.inr ⟨by omega, by omega, Or.inr (by omega)⟩))⟩⟩⟩⟩, fun c1 => ⟨by omega, fun c2 => go1 (Or.inr (Or.inl ⟨by omega, Or.inl c2⟩)), fun c2 => ⟨fun c3 => ⟨fun c4 => go0 (fun q => by rcases q with q | ⟨q, q3⟩ | ⟨q, _⟩; exact c q; exact q3.elim c2 c3; exact c4 q), fun c4 => by omega⟩, fun c3 => go1 (Or.inr (Or.inl ⟨by omega, Or.inr (by omega)⟩))⟩⟩⟩⟩, fun c => absurd hR c⟩
