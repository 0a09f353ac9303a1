theorem f0_fr {h : AH} {L : List Nat} {K : List (Nat × Int)} (hk : (99, 0) ∈ K) : Fr L K h (si h 99 0 0) := Fr.refl.si (Or.inr hk)
theorem Fnd_trans {h h1 h2 : AH} {x : Int} (f : Fr [] [(99, 0)] h h1) (g : Fnd h1 h2 x) : Fnd h h2 x := fun k k1 k2 => by
  have := g k k1 k2
  rw [f.1 120 k (by decide) (by simp), f.1 99 26 (by decide) (by decide)] at this
  exact this
theorem Fb_fr {h h1 : AH} (hb : Fb h) (f : Fr [] [(99, 0)] h h1) : Fb h1 := fun k k1 k2 => by rw [f.1 120 k (by decide) (by simp)]; exact hb k k1 k2
theorem Fnd_q {h : AH} {x : Int} (hx : x < -16 ∨ -11 < x) : Fnd h (si h 99 0 0) x := Fnd_no (gi_si_r (by decide)) hx
/-- a question that may count a finding -/
def Qf (h : AH) (Q : Option AV → AH → Prop) (x : Int) : Prop := ∀ h', Fix h' → Fr [120] [(99, 0)] h h' → Fnd h h' x → Q (some (vI x)) h'
theorem Qf_no {h : AH} {Q : Option AV → AH → Prop} {x : Int} (hF : Fix h) (q : Qf h Q x) (hx : x < -16 ∨ -11 < x) : Q (some (vI x)) (si h 99 0 0) := q _ hF (f0_fr (by decide)) (Fnd_q hx)
theorem Qf_fd {h : AH} {Q : Option AV → AH → Prop} {f : Int} (hF : Fix h) (hb : Fb h) (hf : 1 ≤ f ∧ f ≤ 6) (q : Qf h Q (-10 - f)) : Ok 191 0 [some (vR (some 99)), some (vI f)] [] (si h 99 0 0) (fun v h_3 => ∃ x_4, v = some (vI x_4) ∧ Fix h_3 ∧ Q (some (vI x_4)) h_3) := by
  have f0 : Fr [] [(99, 0)] h (si h 99 0 0) := f0_fr (by decide)
  refine m_found (h := si h 99 0 0) hF hf (Fb_fr hb f0) (fun h' f1 g1 => ?_)
  have f2 : Fr [120] [(99, 0)] h h' := (f0.mono (by decide) (by decide)).trans (f1.mono (by decide) (by decide))
  exact ⟨_, rfl, hF.fr f2, q h' (hF.fr f2) f2 (Fnd_trans f0 g1)⟩
noncomputable def oKind (D : DD) (t s : Int) : Int := if ¬ (0 ≤ t ∧ t < D 99 11) then -1 else if slotF D t s ≠ 0 then -10 - slotF D t s else D 112 (40 * t + s)
theorem m_kind {h : AH} {Q : Option AV → AH → Prop} {D : DD} {t s : Int} (hF : Fix h) (r : RM h D) (w : WF D) (hb : Fb h) (q : Qf h Q (oKind D t s)) : ∀ y, Ok 264 0 [some (vR (some 99)), some (vI t), some (vI s), y] [] h Q := by
  intro y
  have c0 := w.1
  unfold Wc at c0
  have e2 := r.T
  have r0 := r.si (o := 99) (k := 0) (v := 0) (Or.inr (Or.inr (by decide)))
  unfold oKind at q
  refine Ok.le (lle_s (lle_s (lle_s (lle_n lle_0)))) (f_X12_kind_0 hF _ _ ⟨by omega, fun c => ?_, fun c => ⟨fun c1 => ?_, fun c1 => ?_⟩⟩)
  · rw [if_pos (by omega)] at q; exact Qf_no hF q (by omega)
  · rw [if_pos (by omega)] at q; exact Qf_no hF q (by omega)
  · rw [if_neg (by omega)] at q
    have ht : In (D 99 11) t := ⟨by omega, by omega⟩
    have hr := slotF_rng D t s
    refine m_slotFault (h := si h 99 0 0) hF r0 w ht ⟨_, rfl, hF, fun c2 => ?_, fun c2 => ?_⟩
    · obtain ⟨hk, hk2⟩ := slotF_k w ht c2
      have s0 := (slotF_0 c2).1
      have ws := (w.2.2.2.2.2.1 t s ht (slotF_0 c2)).1
      rw [if_neg (by omega)] at q
      rw [r0.s (o := 112) (by decide) hk]
      exact ⟨by omega, by omega, ⟨hk.1, hk2⟩, Qf_no hF q (by omega)⟩
    · rw [if_pos c2] at q
      exact Qf_fd hF hb (by omega) q
noncomputable def oSherd (D : DD) (t s ty : Int) : Int := if ¬ (0 ≤ t ∧ t < D 99 11) then -1 else if heldF D t s 0 ≠ 0 then -10 - heldF D t s 0 else if ty < 0 ∨ 7 < ty then -12 else D 116 (8 * (40 * t + s) + ty)
theorem m_sherd {h : AH} {Q : Option AV → AH → Prop} {D : DD} {t s ty : Int} (hF : Fix h) (r : RM h D) (w : WF D) (hb : Fb h) (q : Qf h Q (oSherd D t s ty)) : ∀ y, Ok 265 0 [some (vR (some 99)), some (vI t), some (vI s), some (vI ty), y] [] h Q := by
  intro y
  have c0 := w.1
  unfold Wc at c0
  have e2 := r.T
  have r0 := r.si (o := 99) (k := 0) (v := 0) (Or.inr (Or.inr (by decide)))
  unfold oSherd at q
  refine Ok.le (lle_s (lle_s (lle_s (lle_s (lle_n lle_0))))) (f_X12_sherd_0 hF _ _ _ ⟨by omega, fun c => ?_, fun c => ⟨fun c1 => ?_, fun c1 => ?_⟩⟩)
  · rw [if_pos (by omega)] at q; exact Qf_no hF q (by omega)
  · rw [if_pos (by omega)] at q; exact Qf_no hF q (by omega)
  · rw [if_neg (by omega)] at q
    have ht : In (D 99 11) t := ⟨by omega, by omega⟩
    have hr := heldF_rng D t s 0
    refine m_heldFault (h := si h 99 0 0) hF r0 w ht ⟨_, rfl, hF, fun c2 => ?_, fun c2 => ?_⟩ none none
    · rw [if_pos c2] at q
      exact Qf_fd hF hb (by omega) q
    · rw [if_neg c2] at q
      obtain ⟨h1, h2, h3⟩ := heldF_0 (D := D) (t := t) (s := s) (kd := 0) (by omega)
      obtain ⟨hk, hk2⟩ := slotF_k w ht h1
      have hk0 := hk.1
      have s0 := (slotF_0 h1).1
      refine ⟨fun c3 => ?_, fun c3 => ⟨fun c4 => ?_, fun c4 => ?_⟩⟩
      · rw [if_pos (Or.inl c3)] at q; exact Qf_fd (f := 2) hF hb (by omega) q
      · rw [if_pos (Or.inr c4)] at q; exact Qf_fd (f := 2) hF hb (by omega) q
      · rw [if_neg (by omega)] at q
        have ws := (w.2.2.2.2.2.1 t s ht (slotF_0 h1)).2.2.2.1 ty ⟨by omega, by omega⟩
        rw [r0.q ⟨by omega, by have := hk.2; omega⟩]
        exact ⟨by omega, by omega, by omega, by omega, by omega, Qf_no hF q (by omega)⟩
noncomputable def oLetter (D : DD) (t s i : Int) : Int := if ¬ (0 ≤ t ∧ t < D 99 11) then -1 else if heldF D t s 3 ≠ 0 then -10 - heldF D t s 3 else if i < 0 ∨ D 114 (40 * t + s) ≤ i then -12 else D 117 (40 * (40 * t + s) + i)
theorem m_letter {h : AH} {Q : Option AV → AH → Prop} {D : DD} {t s i : Int} (hF : Fix h) (r : RM h D) (w : WF D) (hb : Fb h) (q : Qf h Q (oLetter D t s i)) : ∀ y1 y2, Ok 269 0 [some (vR (some 99)), some (vI t), some (vI s), some (vI i), y1, y2] [] h Q := by
  intro y1 y2
  have c0 := w.1
  unfold Wc at c0
  have e2 := r.T
  have r0 := r.si (o := 99) (k := 0) (v := 0) (Or.inr (Or.inr (by decide)))
  unfold oLetter at q
  refine Ok.le (lle_s (lle_s (lle_s (lle_s (lle_n (lle_n lle_0)))))) (f_X12_letter_0 hF _ _ _ ?_)
  refine ⟨by omega, fun c => ?_, fun c => ⟨fun c1 => ?_, fun c1 => ?_⟩⟩
  · rw [if_pos (by omega)] at q; exact Qf_no hF q (by omega)
  · rw [if_pos (by omega)] at q; exact Qf_no hF q (by omega)
  · rw [if_neg (by omega)] at q
    have ht : In (D 99 11) t := ⟨by omega, by omega⟩
    have hr := heldF_rng D t s 3
    refine m_heldFault (h := si h 99 0 0) hF r0 w ht ⟨_, rfl, hF, fun c2 => ?_, fun c2 => ?_⟩ none none
    · rw [if_pos c2] at q
      exact Qf_fd hF hb (by omega) q
    · rw [if_neg c2] at q
      obtain ⟨h1, h2, h3⟩ := heldF_0 (D := D) (t := t) (s := s) (kd := 3) (by omega)
      obtain ⟨hk, hk2⟩ := slotF_k w ht h1
      have hk0 := hk.1
      have s0 := (slotF_0 h1).1
      have hw3 : D 112 (40 * t + s) = 3 := by omega
      have ws := (w.2.2.2.2.2.1 t s ht (slotF_0 h1)).2.2.2.2.2.2.1 hw3
      have z1 : w32 (40 * t) = 40 * t := w32_of ⟨by omega, by omega⟩
      have z2 : w32 (40 * t + s) = 40 * t + s := w32_of ⟨by omega, by omega⟩
      rw [z1, z2, r0.s (o := 114) (by decide) hk]
      have z3 : w32 (D 114 (40 * t + s) - 1) = D 114 (40 * t + s) - 1 := w32_of ⟨by omega, by omega⟩
      have z4 : w32 (40 * (40 * t + s)) = 40 * (40 * t + s) := w32_of ⟨by omega, by omega⟩
      rw [z3, z4]
      refine ⟨⟨hk0, hk2⟩, fun c3 => ?_, fun c3 => ⟨fun c4 => ?_, fun c4 => ?_⟩⟩
      · rw [if_pos (Or.inl c3)] at q; exact Qf_fd (f := 2) hF hb (by omega) q
      · rw [if_pos (Or.inr (by omega))] at q; exact Qf_fd (f := 2) hF hb (by omega) q
      · rw [if_neg (by omega)] at q
        have wl := ws.2 i ⟨by omega, by omega⟩
        have z5 : w32 (40 * (40 * t + s) + i) = 40 * (40 * t + s) + i := w32_of ⟨by omega, by omega⟩
        rw [z5, r0.l ⟨40 * t + s, i, hk, hw3, ⟨by omega, by omega⟩, rfl⟩]
        exact ⟨by omega, Qf_no hF q (by omega)⟩
noncomputable def oBagged (D : DD) (t s : Int) : Int := if ¬ (0 ≤ t ∧ t < D 99 11) then -1 else if heldF D t s 4 ≠ 0 then -10 - heldF D t s 4 else D 114 (40 * t + s)
theorem m_bagged {h : AH} {Q : Option AV → AH → Prop} {D : DD} {t s : Int} (hF : Fix h) (r : RM h D) (w : WF D) (hb : Fb h) (q : Qf h Q (oBagged D t s)) : ∀ y, Ok 270 0 [some (vR (some 99)), some (vI t), some (vI s), y] [] h Q := by
  intro y
  have c0 := w.1
  unfold Wc at c0
  have e2 := r.T
  have r0 := r.si (o := 99) (k := 0) (v := 0) (Or.inr (Or.inr (by decide)))
  unfold oBagged at q
  refine Ok.le (lle_s (lle_s (lle_s (lle_n lle_0)))) (f_X12_bagged_0 hF _ _ ⟨by omega, fun c => ?_, fun c => ⟨fun c1 => ?_, fun c1 => ?_⟩⟩)
  · rw [if_pos (by omega)] at q; exact Qf_no hF q (by omega)
  · rw [if_pos (by omega)] at q; exact Qf_no hF q (by omega)
  · rw [if_neg (by omega)] at q
    have ht : In (D 99 11) t := ⟨by omega, by omega⟩
    have hr := heldF_rng D t s 4
    refine m_heldFault (h := si h 99 0 0) hF r0 w ht ⟨_, rfl, hF, fun c2 => ?_, fun c2 => ?_⟩ none none
    · rw [if_neg (by omega)] at q
      obtain ⟨h1, h2, h3⟩ := heldF_0 c2
      obtain ⟨hk, hk2⟩ := slotF_k w ht h1
      have hk0 := hk.1
      have s0 := (slotF_0 h1).1
      have ws := ((w.2.2.2.2.2.1 t s ht (slotF_0 h1)).2.2.2.2.2.2.2 (by omega)).1
      have w0 := ws.1
      rw [r0.s (o := 114) (by decide) hk]
      exact ⟨by omega, by omega, ⟨hk0, hk2⟩, Qf_no hF q (by omega)⟩
    · rw [if_pos c2] at q
      exact Qf_fd hF hb (by omega) q
