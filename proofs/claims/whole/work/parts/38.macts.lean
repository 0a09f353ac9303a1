/-! new trays -/
def empR (G : DD) (a b : Int) : DD := fun o j => if o = 112 ∧ a ≤ j ∧ j < b then -5 else if (o = 113 ∨ o = 114 ∨ o = 115) ∧ a ≤ j ∧ j < b then 0 else if o = 116 ∧ 8 * a ≤ j ∧ j < 8 * b then 0 else G o j
theorem emp_R (G : DD) (k : Int) : emp G k = empR G k (k + 1) := by
  funext o j
  unfold emp empR
  have e1 : (j = k) = (k ≤ j ∧ j < k + 1) := by apply propext; omega
  have e2 : 8 * (k + 1) = 8 * k + 8 := by omega
  simp only [e1, e2]
theorem empR_0 (G : DD) (a : Int) : empR G a a = G := by
  funext o j
  unfold empR
  rw [if_neg (by omega), if_neg (by omega), if_neg (by omega)]
theorem empR_step (G : DD) {a c b : Int} (h1 : a ≤ c) (h2 : c ≤ b) : empR (empR G a c) c b = empR G a b := by
  funext o j
  unfold empR
  by_cases h112 : o = 112
  · subst h112
    by_cases x1 : c ≤ j ∧ j < b
    · rw [if_pos ⟨rfl, x1⟩, if_pos ⟨rfl, by omega, x1.2⟩]
    · rw [if_neg (fun q => x1 q.2), if_neg (by omega), if_neg (by omega)]
      by_cases x2 : a ≤ j ∧ j < c
      · rw [if_pos ⟨rfl, x2⟩, if_pos ⟨rfl, x2.1, by omega⟩]
      · rw [if_neg (fun q => x2 q.2), if_neg (by omega), if_neg (by omega), if_neg (fun q => by omega), if_neg (by omega), if_neg (by omega)]
  · simp only [h112, false_and, if_false]
    by_cases h3 : o = 113 ∨ o = 114 ∨ o = 115
    · simp only [h3, true_and]
      have h6 : o ≠ 116 := by omega
      simp only [h6, false_and, if_false]
      by_cases x1 : c ≤ j ∧ j < b
      · rw [if_pos x1, if_pos (by omega)]
      · rw [if_neg x1]
        by_cases x2 : a ≤ j ∧ j < c
        · rw [if_pos x2, if_pos (by omega)]
        · rw [if_neg x2, if_neg (by omega)]
    · simp only [h3, false_and, if_false]
      by_cases h6 : o = 116
      · simp only [h6, true_and]
        by_cases x1 : 8 * c ≤ j ∧ j < 8 * b
        · rw [if_pos x1, if_pos (by omega)]
        · rw [if_neg x1]
          by_cases x2 : 8 * a ≤ j ∧ j < 8 * c
          · rw [if_pos x2, if_pos (by omega)]
          · rw [if_neg x2, if_neg (by omega)]
      · simp only [h6, false_and, if_false]
theorem empR_o {G : DD} {a b : Int} {o : Nat} {j : Int} (ho : o < 112 ∨ 116 < o) : empR G a b o j = G o j := by
  unfold empR
  rw [if_neg (by omega), if_neg (by omega), if_neg (by omega)]
theorem m_newTray_29 {Q : Option AV → AH → Prop} {h : AH} {u n T : Int} (hT : 0 ≤ T ∧ T < 60) (m : Nat) : ∀ (G : DD) (i : Int), (40 * T + 40 - i).toNat = m → Fix h → G 99 11 = T → 40 * T ≤ i → i ≤ 40 * T + 40 →
    Q (some (vI T)) (sg h (up (up (empR G i (40 * T + 40)) 99 11 (T + 1)) 99 37 1)) → Ok 221 29 [some (vR (some 99)), some (vI u), some (vI n), some (vI i)] [] (sg h G) Q := by
  induction m using Nat.strongRecOn with
  | ind m ih =>
    intro G i hm hF hG i0 i1 cont
    refine f_X12_newTray_29 hF.sg _ _ _ ?_
    rw [gi_sg, hG]
    have ea : T + 1 - 1 = T := by omega
    rw [ea]
    refine ⟨by omega, by omega, fun c => ⟨by omega, by omega, ?_⟩, fun c => ?_⟩
    · have e : i = 40 * T + 40 := by omega
      rw [e, empR_0] at cont
      exact cont
    · refine m_empty hF.sg (by omega) ⟨rfl, hF.sg.sg, by omega, ?_⟩ none
      rw [gi_sg, sg_sg]
      refine ih _ (by omega) _ (i + 1) rfl hF (by rw [emp_R, empR_o (by omega)]; exact hG) (by omega) (by omega) ?_
      rw [emp_R, empR_step G (by omega) (by omega)]
      exact cont
/-- a new tray of unit u with n slots -/
def sNew (G : DD) (u n : Int) : DD := up (up (empR (up (up (up (up G 108 (G 99 11) u) 109 (G 99 11) n) 110 (G 99 11) (-5)) 111 (G 99 11) (-5)) (40 * G 99 11) (40 * G 99 11 + 40)) 99 11 (G 99 11 + 1)) 99 37 1
theorem m_newTray {h : AH} {Q : Option AV → AH → Prop} {u n : Int} (hF : Fix h) (hT : 0 ≤ gi h 99 11 ∧ gi h 99 11 < 60) (cont : Q (some (vI (gi h 99 11))) (sg h (sNew (gi h) u n))) : Ok 221 0 [some (vR (some 99)), some (vI u), some (vI n), none] [] h Q := by
  refine f_X12_newTray_0 hF _ _ ⟨hT, by omega, ?_⟩
  show Ok 221 29 _ [] (sg h (up (up (up (up (gi h) 108 (gi h 99 11) u) 109 (gi h 99 11) n) 110 (gi h 99 11) (-5)) 111 (gi h 99 11) (-5))) Q
  exact m_newTray_29 hT _ _ _ rfl hF rfl (by omega) (by omega) cont
theorem RMs.er {D0 D : DD} {W : Nat → Int → Prop} {h : AH} (r : RMs D0 W h D) (a b : Int) : RMs D0 (fun p i => W p i ∨ (112 ≤ p ∧ p ≤ 115 ∧ a ≤ i ∧ i < b ∨ p = 116 ∧ 8 * a ≤ i ∧ i < 8 * b)) (sg h (empR (gi h) a b)) (empR D a b) := fun p i q => by
  rw [gi_sg]
  unfold empR
  by_cases h1 : p = 112 ∧ a ≤ i ∧ i < b
  · rw [if_pos h1, if_pos h1]
  · rw [if_neg h1, if_neg h1]
    by_cases h2 : (p = 113 ∨ p = 114 ∨ p = 115) ∧ a ≤ i ∧ i < b
    · rw [if_pos h2, if_pos h2]
    · rw [if_neg h2, if_neg h2]
      by_cases h3 : p = 116 ∧ 8 * a ≤ i ∧ i < 8 * b
      · rw [if_pos h3, if_pos h3]
      · rw [if_neg h3, if_neg h3]
        refine r p i (q.imp id (fun q => q.resolve_right (fun q' => ?_)))
        rcases q' with q' | q'
        · by_cases hp : p = 112
          · exact h1 ⟨hp, q'.2.2⟩
          · exact h2 ⟨by omega, q'.2.2⟩
        · exact h3 q'
theorem Fr_emp {L : List Nat} {K : List (Nat × Int)} {h h' : AH} (f : Fr L K h h') {a b : Int} (hL : 112 ∈ L ∧ 113 ∈ L ∧ 114 ∈ L ∧ 115 ∈ L ∧ 116 ∈ L) : Fr L K h (sg h' (empR (gi h') a b)) :=
  ⟨fun o k p q => by
    rw [gi_sg]
    have : o < 112 ∨ 116 < o := by
      by_cases ho : o < 112 ∨ 116 < o
      · exact ho
      · have : o = 112 ∨ o = 113 ∨ o = 114 ∨ o = 115 ∨ o = 116 := by omega
        rcases this with rfl | rfl | rfl | rfl | rfl
        · exact absurd hL.1 p
        · exact absurd hL.2.1 p
        · exact absurd hL.2.2.1 p
        · exact absurd hL.2.2.2.1 p
        · exact absurd hL.2.2.2.2 p
    rw [empR_o this]
    exact f.1 o k p q, f.2⟩
theorem sNew_c {D : DD} {u n : Int} : sNew D u n 99 1 = D 99 1 ∧ sNew D u n 99 7 = D 99 7 ∧ sNew D u n 99 11 = D 99 11 + 1 ∧ sNew D u n 99 22 = D 99 22 := by
  refine ⟨?_, ?_, ?_, ?_⟩ <;> unfold sNew
  · rw [up_k (by decide), up_k (by decide), empR_o (by omega)]; rfl
  · rw [up_k (by decide), up_k (by decide), empR_o (by omega)]; rfl
  · rw [up_k (by decide), up_e]
  · rw [up_k (by decide), up_k (by decide), empR_o (by omega)]; rfl
/-- the rows of slots in a new tray -/
theorem sNew_s {D : DD} {u n : Int} {o : Nat} {j : Int} (ho : o ≠ 99 ∧ (o < 108 ∨ 111 < o)) : sNew D u n o j = empR D (40 * D 99 11) (40 * D 99 11 + 40) o j := by
  have key : ∀ G : DD, G o j = D o j → empR G (40 * D 99 11) (40 * D 99 11 + 40) o j = empR D (40 * D 99 11) (40 * D 99 11 + 40) o j := fun G hG => by unfold empR; rw [hG]
  unfold sNew
  rw [up_o (by omega), up_o (by omega)]
  exact key _ (by rw [up_o (by omega), up_o (by omega), up_o (by omega), up_o (by omega)])
theorem sNew_rm {h : AH} {D : DD} {u n : Int} (r : RM h D) (w : WF D) : RM (sg h (sNew (gi h) u n)) (sNew D u n) := by
  have c0 := w.1
  unfold Wc at c0
  have eT := r.T
  obtain ⟨e1, e7, e11, e22⟩ := sNew_c (D := D) (u := u) (n := n)
  have r1 := ((((r.st.w1 108 (D 99 11) u).w1 109 (D 99 11) n).w1 110 (D 99 11) (-5)).w1 111 (D 99 11) (-5)).er (40 * D 99 11) (40 * D 99 11 + 40)
  have r2 := (r1.w1 99 11 (D 99 11 + 1)).w1 99 37 1
  have e : sg h (sNew (gi h) u n) = si (si (sg (si (si (si (si h 108 (D 99 11) u) 109 (D 99 11) n) 110 (D 99 11) (-5)) 111 (D 99 11) (-5)) (empR (gi (si (si (si (si h 108 (D 99 11) u) 109 (D 99 11) n) 110 (D 99 11) (-5)) 111 (D 99 11) (-5))) (40 * D 99 11) (40 * D 99 11 + 40))) 99 11 (D 99 11 + 1)) 99 37 1 := by
    unfold sNew
    rw [eT]
    rfl
  rw [e]
  refine RMs.rm r2 (fun o j q => ?_) (fun j q => Or.inl ?_)
  · have q2 := UsN_new (D := D) (D' := sNew D u n) q
    rw [e1, e7, e11, e22] at q2
    rcases q2 with q2 | q2 | q2 | ⟨q3, q4, q5, q6⟩ | q2 | q2 | q2
    · exact Or.inl q2
    · omega
    · omega
    · have ej : j = D 99 11 := by omega
      have eo : o = 108 ∨ o = 109 ∨ o = 110 ∨ o = 111 := by omega
      right
      rcases eo with rfl | rfl | rfl | rfl <;> simp [ej]
    · right
      exact Or.inl (Or.inl (Or.inr (Or.inl ⟨q2.1, q2.2.1, q2.2.2.1, by omega⟩)))
    · right
      exact Or.inl (Or.inl (Or.inr (Or.inr ⟨q2.1, by omega, by omega⟩)))
    · omega
  · obtain ⟨k, i, h1, h2, h3, h4⟩ := q
    have h1' : In (40 * sNew D u n 99 11) k := h1
    have h2' : sNew D u n 112 k = 3 := h2
    have h3' : In (sNew D u n 114 k) i := h3
    rw [e11] at h1'
    rw [sNew_s (by omega)] at h2' h3'
    have hk : k < 40 * D 99 11 := by
      by_cases hk : k < 40 * D 99 11
      · exact hk
      · have := h1'.2
        unfold empR at h2'
        rw [if_pos ⟨rfl, by omega, by omega⟩] at h2'
        omega
    have a1 : empR D (40 * D 99 11) (40 * D 99 11 + 40) 112 k = D 112 k := by
      unfold empR
      rw [if_neg (by omega), if_neg (by omega), if_neg (by omega)]
    have a2 : empR D (40 * D 99 11) (40 * D 99 11 + 40) 114 k = D 114 k := by
      unfold empR
      rw [if_neg (by omega), if_neg (by omega), if_neg (by omega)]
    rw [a1] at h2'
    rw [a2] at h3'
    exact ⟨k, i, ⟨h1'.1, hk⟩, h2', h3', h4⟩
theorem sNew_fr {h : AH} {u n : Int} : Fr eL eK h (sg h (sNew (gi h) u n)) := by
  have f1 : Fr eL eK h (si (si (si (si h 108 (gi h 99 11) u) 109 (gi h 99 11) n) 110 (gi h 99 11) (-5)) 111 (gi h 99 11) (-5)) := (((Fr.refl.si (Or.inl (by decide))).si (Or.inl (by decide))).si (Or.inl (by decide))).si (Or.inl (by decide))
  exact ((Fr_emp f1 (a := 40 * gi h 99 11) (b := 40 * gi h 99 11 + 40) (by decide)).si (o := 99) (k := 11) (v := gi h 99 11 + 1) (Or.inr (by decide))).si (o := 99) (k := 37) (v := 1) (Or.inr (by decide))
