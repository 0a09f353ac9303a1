theorem WF.nt {D : DD} (w : WF D) : Nt D := by
  intro k hk h3
  have c0 := w.1
  unfold Wc at c0
  have k0 := hk.1
  have k1 := hk.2
  have ht : In (D 99 11) (k / 40) := ⟨by omega, by omega⟩
  have e : 40 * (k / 40) + k % 40 = k := by omega
  by_cases hs : k % 40 < D 109 (k / 40)
  · have := w.2.2.2.2.2.1 (k / 40) (k % 40) ht ⟨by omega, hs⟩
    rw [e] at this
    exact (this.2.2.2.2.2.2.1 h3).1.2
  · have := w.2.2.2.2.2.2.2 (k / 40) (k % 40) ht ⟨by omega, by omega⟩ (by omega)
    rw [e] at this
    omega
/-! move -/
def oMove (D : DD) (t s to ot : Int) : Int := if heldF D t s (-5) ≠ 0 then -10 - heldF D t s (-5) else if slotF D to ot ≠ 0 then -10 - slotF D to ot else
  if D 112 (40 * t + s) = 4 ∧ li D (D 114 (40 * t + s)) to = true then -16 else if D 112 (40 * to + ot) ≠ -5 then -2 else D 112 (40 * t + s)
def sMove (G : DD) (t s to ot : Int) : DD := if G 112 (40 * t + s) = 4 then emp (up (up (sLay G (40 * t + s) (40 * to + ot)) 110 (G 114 (40 * t + s)) to) 111 (G 114 (40 * t + s)) ot) (40 * t + s) else emp (sLay G (40 * t + s) (40 * to + ot)) (40 * t + s)
theorem RM.emp {h : AH} {D : DD} {k : Int} (r : RM h D) : RM (sg h (emp (gi h) k)) (emp D k) := by
  rw [emp_R, emp_R]
  refine RMs.rm (r.st.er k (k + 1)) (fun o j q => Or.inl (UsN_same q ⟨empR_o (by omega), empR_o (by omega), empR_o (by omega), empR_o (by omega)⟩)) (fun j q => Or.inl (UsL_same q (empR_o (by omega)) (fun k' hk' q' => ?_)))
  rw [← emp_R] at q' ⊢
  rw [emp_112] at q'
  split at q'
  · omega
  · rename_i hne
    rw [emp_s (by decide) hne]
    exact ⟨q', Int.le_refl _⟩
theorem emp_fr {h : AH} {k : Int} : Fr eL eK h (sg h (emp (gi h) k)) := by
  rw [emp_R]
  exact Fr_emp Fr.refl (by decide)
theorem m_doMove {h : AH} {Q : Option AV → AH → Prop} {D : DD} {t s to ot : Int} (hF : Fix h) (r : RM h D) (w : WF D) (hb : Fb h) (ht : In (D 99 11) t) (ht2 : In (D 99 11) to)
    (cont : ∀ h', DoP h h' D (oMove D t s to ot) (oMove D t s to ot) (sMove D t s to ot) (0 ≤ oMove D t s to ot) → Q (some (vI (oMove D t s to ot))) h') : ∀ y1 y2 y3 y4, Ok 235 0 [some (vR (some 99)), some (vI t), some (vI s), some (vI to), some (vI ot), y1, y2, y3, y4] [] h Q := by
  intro y1 y2 y3 y4
  have c0 := w.1
  unfold Wc at c0
  have t0 := ht.1
  have t1 := ht.2
  have u0 := ht2.1
  have u1 := ht2.2
  have hr := heldF_rng D t s (-5)
  have hr2 := slotF_rng D to ot
  refine Ok.le (lle_s (lle_s (lle_s (lle_s (lle_s (lle_n (lle_n (lle_n (lle_n lle_0))))))))) (f_X12_doMove_0 hF _ _ _ _ (m_heldFault hF r w ht ⟨_, rfl, hF, fun c => ?_, fun c => m_slotFault hF r w ht2 ⟨_, rfl, hF, fun c1 => ?_, fun c1 => ?_⟩⟩ none none))
  · unfold oMove at cont
    rw [if_pos c] at cont
    exact m_found hF (by omega) hb (fun h' f1 f2 => ⟨_, rfl, hF.fr f1, cont h' (DoP_found r (by omega) f1 f2 (by omega))⟩)
  · obtain ⟨h1, h2, _⟩ := heldF_0 (kd := -5) (D := D) (t := t) (s := s) (by omega)
    obtain ⟨hk, hk2⟩ := slotF_k w ht h1
    obtain ⟨hj, hj2⟩ := slotF_k w ht2 c1
    have hk0 := hk.1
    have hj0 := hj.1
    have s0 := (slotF_0 h1).1
    have o0 := (slotF_0 c1).1
    have ws := w.2.2.2.2.2.1 t s ht (slotF_0 h1)
    have e112 := r.s (o := 112) (by decide) hk
    have e114 := r.s (o := 114) (by decide) hk
    have e112j := r.s (o := 112) (by decide) hj
    have hx : 0 ≤ D 112 (40 * t + s) := by rcases ws.1 with q | q; exact absurd q h2; exact q.1
    rw [e112, e114, e112j]
    unfold oMove at cont
    rw [if_neg c, if_neg (by omega)] at cont
    -- the laying itself
    have tail : ¬ (D 112 (40 * t + s) = 4 ∧ li D (D 114 (40 * t + s)) to = true) → (D 112 (40 * to + ot) = -5 → Ok 233 0 [some (vR (some 99)), some (vI (40 * t + s)), some (vI (40 * to + ot)), none] [] h (fun v h_7 => v = none ∧ Fix h_7 ∧ ((gi h_7 112 (40 * t + s) ≠ 4) → Ok 222 0 [some (vR (some 99)), some (vI (40 * t + s)), none] [] h_7 (fun v h_8 => v = none ∧ Fix h_8 ∧ Q (some (vI (gi h_7 112 (40 * t + s)))) (si h_8 99 37 1))) ∧ (¬ (gi h_7 112 (40 * t + s) ≠ 4) → (0 ≤ gi h_7 114 (40 * t + s) ∧ gi h_7 114 (40 * t + s) < 60) ∧ Ok 222 0 [some (vR (some 99)), some (vI (40 * t + s)), none] [] (si (si h_7 110 (gi h_7 114 (40 * t + s)) to) 111 (gi h_7 114 (40 * t + s)) ot) (fun v h_9 => v = none ∧ Fix h_9 ∧ Q (some (vI (gi h_7 112 (40 * t + s)))) (si h_9 99 37 1))))) ∧
        (¬ D 112 (40 * to + ot) = -5 → Q (some (vI (-2))) h) := by
      intro hc
      rw [if_neg hc] at cont
      refine ⟨fun c3 => ?_, fun c3 => ?_⟩
      · rw [if_neg (by omega)] at cont
        have hkj : 40 * t + s ≠ 40 * to + ot := fun e => by rw [← e] at c3; exact h2 c3
        refine m_lay hF ⟨hk0, hk2⟩ ⟨hj0, hj2⟩ hkj ⟨rfl, hF.sg, ?_⟩ none
        have r1 := sLay_rm r hk hj hkj w.nt
        have a1 : gi (sg h (sLay (gi h) (40 * t + s) (40 * to + ot))) 112 (40 * t + s) = D 112 (40 * t + s) := by rw [gi_sg, sLay_s (by decide) hkj]; exact e112
        have a2 : gi (sg h (sLay (gi h) (40 * t + s) (40 * to + ot))) 114 (40 * t + s) = D 114 (40 * t + s) := by rw [gi_sg, sLay_s (by decide) hkj]; exact e114
        rw [a1, a2]
        unfold sMove at cont
        refine ⟨fun c4 => ?_, fun c4 => ?_⟩
        · refine m_empty hF.sg ⟨hk0, hk2⟩ ⟨rfl, hF.sg.sg, ?_⟩ none
          rw [if_neg c4] at cont
          exact cont _ (DoP_done ((RM.emp r1).si (Or.inr (Or.inr (by decide)))) ((sLay_fr.trans emp_fr).si (Or.inr (by decide))) gi_si_e (by omega) hx)
        · have ek : D 112 (40 * t + s) = 4 := by omega
          rw [if_pos ek] at cont
          have wb := (ws.2.2.2.2.2.2.2 ek).1
          have wb0 := wb.1
          have wb1 := wb.2
          have r2 := (r1.st.w1 110 (D 114 (40 * t + s)) to).w1 111 (D 114 (40 * t + s)) ot
          have r3 : RM _ _ := RMs.rm r2 (fun o j q => Or.inl q) (fun j q => Or.inl (UsL_same q rfl (fun k' hk' q' => ⟨q', Int.le_refl _⟩)))
          have hFx : Fix (si (si (sg h (sLay (gi h) (40 * t + s) (40 * to + ot))) 110 (D 114 (40 * t + s)) to) 111 (D 114 (40 * t + s)) ot) := hF
          refine ⟨by omega, m_empty hFx ⟨hk0, hk2⟩ ⟨rfl, hF.sg, ?_⟩ none⟩
          exact cont _ (DoP_done ((RM.emp r3).si (Or.inr (Or.inr (by decide)))) ((((sLay_fr.si (Or.inl (by decide))).si (Or.inl (by decide))).trans emp_fr).si (Or.inr (by decide))) gi_si_e (by omega) hx)
      · rw [if_pos c3] at cont
        exact cont h (DoP_same r Fr.refl (by omega) (by omega))
    refine ⟨by omega, by omega, by omega, by omega, ⟨hk0, hk2⟩, fun c2 => ⟨⟨hj0, hj2⟩, tail (fun q => c2 q.1)⟩, fun c2 => ?_⟩
    have ek : D 112 (40 * t + s) = 4 := by omega
    have wb := (ws.2.2.2.2.2.2.2 ek).1
    refine m_liesIn hF r w wb.1 ht2 ⟨_, rfl, hF, fun c3 => ?_, fun c3 => ?_⟩ none
    · rw [e112j]
      exact ⟨⟨hj0, hj2⟩, tail (fun q => by rw [q.2] at c3; simp at c3)⟩
    · have hl : li D (D 114 (40 * t + s)) to = true := by
        cases hq : li D (D 114 (40 * t + s)) to with
        | true => rfl
        | false => rw [hq] at c3; simp at c3
      rw [if_pos ⟨ek, hl⟩] at cont
      exact m_found hF (by omega) hb (fun h' f1 f2 => ⟨_, rfl, hF.fr f1, cont h' (DoP_found (f := 6) r (by omega) f1 f2 (by omega))⟩)
  · unfold oMove at cont
    rw [if_neg c, if_pos c1] at cont
    exact m_found hF (by omega) hb (fun h' f1 f2 => ⟨_, rfl, hF.fr f1, cont h' (DoP_found r (by omega) f1 f2 (by omega))⟩)
