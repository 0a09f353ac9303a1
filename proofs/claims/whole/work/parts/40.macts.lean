def oSherds (D : DD) (t s ty n : Int) : Int := if slotF D t s ≠ 0 then -10 - slotF D t s else if D 112 (40 * t + s) ≠ -5 ∧ D 112 (40 * t + s) ≠ 0 then -13 else if ty < 0 ∨ 7 < ty then -12 else
  if D 116 (8 * (40 * t + s) + ty) + n < 0 ∨ 100 < D 116 (8 * (40 * t + s) + ty) + n then -2 else D 116 (8 * (40 * t + s) + ty) + n
def sSherds (D : DD) (t s ty n : Int) : DD := up (up D 112 (40 * t + s) 0) 116 (8 * (40 * t + s) + ty) (D 116 (8 * (40 * t + s) + ty) + n)
theorem m_doSherds {h : AH} {Q : Option AV → AH → Prop} {D : DD} {t s ty n : Int} (hF : Fix h) (r : RM h D) (w : WF D) (hb : Fb h) (ht : In (D 99 11) t) (hn : -100 ≤ n ∧ n ≤ 100)
    (cont : ∀ h', DoP h h' D (oSherds D t s ty n) (oSherds D t s ty n) (sSherds D t s ty n) (0 ≤ oSherds D t s ty n) → Q (some (vI (oSherds D t s ty n))) h') : ∀ y1 y2, Ok 229 0 [some (vR (some 99)), some (vI t), some (vI s), some (vI ty), some (vI n), y1, y2] [] h Q := by
  intro y1 y2
  have c0 := w.1
  unfold Wc at c0
  have t0 := ht.1
  have t1 := ht.2
  have hr := slotF_rng D t s
  refine Ok.le (lle_s (lle_s (lle_s (lle_s (lle_s (lle_n (lle_n lle_0))))))) (f_X12_doSherds_0 hF _ _ _ _ (m_slotFault hF r w ht ⟨_, rfl, hF, fun c => ?_, fun c => ?_⟩))
  · obtain ⟨hk, hk2⟩ := slotF_k w ht c
    have hk0 := hk.1
    have hk1 := hk.2
    have s0 := (slotF_0 c).1
    have ws := w.2.2.2.2.2.1 t s ht (slotF_0 c)
    rw [r.s (o := 112) (by decide) hk]
    unfold oSherds at cont
    rw [if_neg (by omega)] at cont
    have tail : ¬ (D 112 (40 * t + s) ≠ -5 ∧ D 112 (40 * t + s) ≠ 0) →
        ((ty < 0 → Ok 191 0 [some (vR (some 99)), some (vI 2)] [] h (fun v h_3 => ∃ x_4, v = some (vI x_4) ∧ Fix h_3 ∧ Q (some (vI x_4)) h_3)) ∧ (¬ ty < 0 → (7 < ty → Ok 191 0 [some (vR (some 99)), some (vI 2)] [] h (fun v h_5 => ∃ x_6, v = some (vI x_6) ∧ Fix h_5 ∧ Q (some (vI x_6)) h_5)) ∧ (¬ 7 < ty → (-2147483648 ≤ 8 * (40 * t + s) ∧ 8 * (40 * t + s) < 2147483648) ∧ (-2147483648 ≤ 8 * (40 * t + s) + ty ∧ 8 * (40 * t + s) + ty < 2147483648) ∧ (0 ≤ 8 * (40 * t + s) + ty ∧ 8 * (40 * t + s) + ty < 19200) ∧ (-2147483648 ≤ gi h 116 (8 * (40 * t + s) + ty) + n ∧ gi h 116 (8 * (40 * t + s) + ty) + n < 2147483648) ∧ (gi h 116 (8 * (40 * t + s) + ty) + n < 0 → Q (some (vI (-2))) h) ∧ (¬ gi h 116 (8 * (40 * t + s) + ty) + n < 0 → (100 < gi h 116 (8 * (40 * t + s) + ty) + n → Q (some (vI (-2))) h) ∧ (¬ 100 < gi h 116 (8 * (40 * t + s) + ty) + n → Q (some (vI (gi h 116 (8 * (40 * t + s) + ty) + n))) (si (si (si h 112 (40 * t + s) 0) 116 (8 * (40 * t + s) + ty) (gi h 116 (8 * (40 * t + s) + ty) + n)) 99 37 1)))))) := by
      intro hc
      rw [if_neg hc] at cont
      have bad : (ty < 0 ∨ 7 < ty) → Ok 191 0 [some (vR (some 99)), some (vI 2)] [] h (fun v h_3 => ∃ x_4, v = some (vI x_4) ∧ Fix h_3 ∧ Q (some (vI x_4)) h_3) := fun q => by
        rw [if_pos q] at cont
        exact m_found hF (by omega) hb (fun h' f1 f2 => ⟨_, rfl, hF.fr f1, cont h' (DoP_found (f := 2) r (by omega) f1 f2 (by omega))⟩)
      refine ⟨fun q => bad (Or.inl q), fun q1 => ⟨fun q => bad (Or.inr q), fun q2 => ?_⟩⟩
      have hq : In (320 * D 99 11) (8 * (40 * t + s) + ty) := ⟨by omega, by omega⟩
      have wq := ws.2.2.2.1 ty ⟨by omega, by omega⟩
      rw [r.q hq]
      rw [if_neg (by omega)] at cont
      refine ⟨by omega, by omega, by omega, by omega, fun q3 => ?_, fun q3 => ⟨fun q4 => ?_, fun q4 => ?_⟩⟩
      · rw [if_pos (Or.inl q3)] at cont
        exact cont h (DoP_same r Fr.refl (by omega) (by omega))
      · rw [if_pos (Or.inr q4)] at cont
        exact cont h (DoP_same r Fr.refl (by omega) (by omega))
      · rw [if_neg (by omega)] at cont
        have r2 := ((r.st.w1 112 (40 * t + s) 0).w1 116 (8 * (40 * t + s) + ty) (D 116 (8 * (40 * t + s) + ty) + n)).off (o := 99) (k := 37) (v := 1) (Or.inr (Or.inr (by decide))) (by simp)
        refine cont _ (DoP_done (RMs.rm r2 (fun o j q => Or.inl q) (fun j q => Or.inl (UsL_same q rfl (fun k' hk' q' => ?_)))) (((Fr.refl.si (Or.inl (by decide))).si (Or.inl (by decide))).si (Or.inr (by decide))) gi_si_e (by omega) (by omega))
        unfold sSherds at q' ⊢
        rw [up_o (by decide)] at q'
        rw [up_o (by decide), up_o (by decide)]
        by_cases hkk : k' = 40 * t + s
        · rw [hkk, up_e] at q'; omega
        · rw [up_k hkk] at q'
          exact ⟨q', Int.le_refl _⟩
    refine ⟨by omega, by omega, ⟨hk.1, hk2⟩, fun c1 => tail (by omega), fun c1 => ⟨fun c2 => tail (by omega), fun c2 => ?_⟩⟩
    rw [if_pos ⟨c1, c2⟩] at cont
    exact m_found hF (by omega) hb (fun h' f1 f2 => ⟨_, rfl, hF.fr f1, cont h' (DoP_found (f := 3) r (by omega) f1 f2 (by omega))⟩)
  · unfold oSherds at cont
    rw [if_pos c] at cont
    exact m_found hF (by omega) hb (fun h' f1 f2 => ⟨_, rfl, hF.fr f1, cont h' (DoP_found r (by omega) f1 f2 (by omega))⟩)
/-! marks -/
def oMark (D : DD) (t s : Int) : Int := if heldF D t s (-5) ≠ 0 then -10 - heldF D t s (-5) else if D 112 (40 * t + s) = 1 ∨ D 112 (40 * t + s) = 2 then D 113 (40 * t + s) else -13
def sMark (D : DD) (t s m : Int) : DD := up D 113 (40 * t + s) m
theorem m_doMark {h : AH} {Q : Option AV → AH → Prop} {D : DD} {t s m : Int} (hF : Fix h) (r : RM h D) (w : WF D) (hb : Fb h) (ht : In (D 99 11) t)
    (cont : ∀ h', DoP h h' D (oMark D t s) (oMark D t s) (sMark D t s m) (0 ≤ oMark D t s) → Q (some (vI (oMark D t s))) h') : ∀ y1 y2 y3, Ok 236 0 [some (vR (some 99)), some (vI t), some (vI s), some (vI m), y1, y2, y3] [] h Q := by
  intro y1 y2 y3
  have c0 := w.1
  unfold Wc at c0
  have t0 := ht.1
  have t1 := ht.2
  have hr := heldF_rng D t s (-5)
  refine Ok.le (lle_s (lle_s (lle_s (lle_s (lle_n (lle_n (lle_n lle_0))))))) (f_X12_doMark_0 hF _ _ _ (m_heldFault hF r w ht ⟨_, rfl, hF, fun c => ?_, fun c => ?_⟩ none none))
  · unfold oMark at cont
    rw [if_pos c] at cont
    exact m_found hF (by omega) hb (fun h' f1 f2 => ⟨_, rfl, hF.fr f1, cont h' (DoP_found r (by omega) f1 f2 (by omega))⟩)
  · obtain ⟨h1, h2, h3⟩ := heldF_0 (kd := -5) (D := D) (t := t) (s := s) (by omega)
    obtain ⟨hk, hk2⟩ := slotF_k w ht h1
    have ws := w.2.2.2.2.2.1 t s ht (slotF_0 h1)
    have wm := ws.2.1
    have hs0 := slotF_0 h1
    have e1 : w32 (40 * t) = 40 * t := w32_of ⟨by omega, by omega⟩
    have e2 : w32 (40 * t + s) = 40 * t + s := w32_of ⟨by have := hk.1; omega, by omega⟩
    rw [e1, e2]
    rw [r.s (o := 112) (by decide) hk, r.s (o := 113) (by decide) hk]
    unfold oMark at cont
    rw [if_neg c] at cont
    have done : (D 112 (40 * t + s) = 1 ∨ D 112 (40 * t + s) = 2) → Q (some (vI (D 113 (40 * t + s)))) (si (si h 113 (40 * t + s) m) 99 37 1) := fun q => by
      rw [if_pos q] at cont
      have r2 := (r.st.w1 113 (40 * t + s) m).off (o := 99) (k := 37) (v := 1) (Or.inr (Or.inr (by decide))) (by simp)
      exact cont _ (DoP_done (RMs.rm r2 (fun o j q => Or.inl q) (fun j q => Or.inl (UsL_same q rfl (fun k' hk' q' => ⟨q', Int.le_refl _⟩)))) ((Fr.refl.si (Or.inl (by decide))).si (Or.inr (by decide))) gi_si_e (by omega) (by omega))
    refine ⟨⟨hk.1, hk2⟩, fun c1 => done (Or.inl c1), fun c1 => ⟨fun c2 => done (Or.inr c2), fun c2 => ?_⟩⟩
    rw [if_neg (by omega)] at cont
    exact m_found hF (by omega) hb (fun h' f1 f2 => ⟨_, rfl, hF.fr f1, cont h' (DoP_found (f := 3) r (by omega) f1 f2 (by omega))⟩)
/-! bags -/
def oBag (D : DD) (t s n : Int) : Int := if D 99 11 = 60 then -3 else if n < 0 then -15 else if slotF D t s ≠ 0 then -10 - slotF D t s else if D 112 (40 * t + s) ≠ -5 then -2 else D 99 11
def sBag (D : DD) (t s n : Int) : DD := up (up (up (up (sNew D (-5) n) 112 (40 * t + s) 4) 114 (40 * t + s) (D 99 11)) 110 (D 99 11) t) 111 (D 99 11) s
theorem m_doBag {h : AH} {Q : Option AV → AH → Prop} {D : DD} {t s n : Int} (hF : Fix h) (r : RM h D) (w : WF D) (hb : Fb h) (ht : In (D 99 11) t)
    (cont : ∀ h', DoP h h' D (oBag D t s n) (oBag D t s n) (sBag D t s n) (0 ≤ oBag D t s n) → Q (some (vI (oBag D t s n))) h') : ∀ y1 y2 y3, Ok 231 0 [some (vR (some 99)), some (vI t), some (vI s), some (vI n), y1, y2, y3] [] h Q := by
  intro y1 y2 y3
  have c0 := w.1
  unfold Wc at c0
  have t0 := ht.1
  have t1 := ht.2
  have hr := slotF_rng D t s
  refine Ok.le (lle_s (lle_s (lle_s (lle_s (lle_n (lle_n (lle_n lle_0))))))) (f_X12_doBag_0 hF _ _ _ ?_)
  rw [r.T]
  unfold oBag at cont
  refine ⟨fun c => ⟨fun c1 => m_slotFault hF r w ht ⟨_, rfl, hF, fun c2 => ?_, fun c2 => ?_⟩, fun c1 => ?_⟩, fun c => ?_⟩
  · obtain ⟨hk, hk2⟩ := slotF_k w ht c2
    have s0 := (slotF_0 c2).1
    rw [r.s (o := 112) (by decide) hk]
    rw [if_neg c, if_neg (by omega), if_neg (by omega)] at cont
    refine ⟨by omega, by omega, ⟨hk.1, hk2⟩, fun c3 => m_newTray hF (by rw [r.T]; omega) ⟨_, rfl, hF.sg, by rw [r.T]; omega, ?_⟩, fun c3 => ?_⟩
    · rw [if_neg (by omega)] at cont
      rw [r.T]
      have r1 := sNew_rm (u := -5) (n := n) r w
      have r2 := (((r1.st.w1 112 (40 * t + s) 4).w1 114 (40 * t + s) (D 99 11)).w1 110 (D 99 11) t).w1 111 (D 99 11) s
      refine cont _ (DoP_done (RMs.rm r2 (fun o j q => Or.inl q) (fun j q => Or.inl (UsL_same q rfl (fun k' hk' q' => ?_)))) ((((sNew_fr.si (Or.inl (by decide))).si (Or.inl (by decide))).si (Or.inl (by decide))).si (Or.inl (by decide))) ?_ (by omega) (by omega))
      · unfold sBag at q' ⊢
        rw [up_o (by decide), up_o (by decide), up_o (by decide)] at q'
        rw [up_o (by decide), up_o (by decide)]
        by_cases hkk : k' = 40 * t + s
        · rw [hkk, up_e] at q'; omega
        · rw [up_k hkk] at q'
          rw [up_k hkk, up_o (by decide)]
          exact ⟨q', Int.le_refl _⟩
      · rw [gi_si_o (by decide), gi_si_o (by decide), gi_si_o (by decide), gi_si_o (by decide), gi_sg]
        unfold sNew
        exact up_e
    · rw [if_pos c3] at cont
      exact cont h (DoP_same r Fr.refl (by omega) (by omega))
  · rw [if_neg c, if_neg (by omega), if_pos c2] at cont
    exact m_found hF (by omega) hb (fun h' f1 f2 => ⟨_, rfl, hF.fr f1, cont h' (DoP_found r (by omega) f1 f2 (by omega))⟩)
  · rw [if_neg c, if_pos (by omega)] at cont
    exact m_found hF (by omega) hb (fun h' f1 f2 => ⟨_, rfl, hF.fr f1, cont h' (DoP_found (f := 5) r (by omega) f1 f2 (by omega))⟩)
  · rw [if_pos (by omega)] at cont
    exact cont h (DoP_same r Fr.refl (by omega) (by omega))
