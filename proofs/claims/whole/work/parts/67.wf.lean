theorem WF_move {D : DD} (w : WF D) {t s to ot : Int} (ht : In (D 99 11) t) (ht2 : In (D 99 11) to) (hd : 0 ≤ oMove D t s to ot) : WF (sMove D t s to ot) := by
  have hr := heldF_rng D t s (-5)
  have hr2 := slotF_rng D to ot
  have hh : heldF D t s (-5) = 0 ∧ slotF D to ot = 0 ∧ ¬ (D 112 (40 * t + s) = 4 ∧ li D (D 114 (40 * t + s)) to = true) ∧ D 112 (40 * to + ot) = -5 := by
    unfold oMove at hd
    split at hd
    · omega
    · split at hd
      · omega
      · split at hd
        · omega
        · split at hd
          · omega
          · rename_i h1 h2 h3 h4
            exact ⟨by omega, by omega, h3, by omega⟩
  obtain ⟨g1, g2, g3, g4⟩ := hh
  obtain ⟨g5, g6, _⟩ := heldF_0 g1
  have hs := slotF_0 g5
  have hs2 := slotF_0 g2
  have h40 := (w.2.2.2.1 t ht).2.1
  have h41 := (w.2.2.2.1 to ht2).2.1
  have s0 := hs.1
  have s1 := hs.2
  have o0 := hs2.1
  have o1 := hs2.2
  have ws := w.2.2.2.2.2.1 t s ht hs
  unfold Ws1 at ws
  obtain ⟨a1, a2, a3, a4, a5, a6, a7, a8⟩ := ws
  have hkj : 40 * to + ot ≠ 40 * t + s := fun e => by rw [e] at g4; exact g6 g4
  have wE := WF_let w ht hs
  have E112 : sLet D (40 * t + s) 112 (40 * to + ot) = -5 := by rw [sLet_s (by decide) hkj]; exact g4
  have tE : In (sLet D (40 * t + s) 99 11) to := by rw [sLet_o (by omega)]; exact ht2
  have sE : In (sLet D (40 * t + s) 109 to) ot := by rw [sLet_o (by omega)]; exact hs2
  unfold sMove
  by_cases h : D 112 (40 * t + s) = 4
  · rw [if_pos h]
    obtain ⟨b1, b2, b3⟩ := a8 h
    refine WF_put wE (t := to) (s := ot) (b := D 114 (40 * t + s)) tE sE (by rw [sLet_o (by omega)]; exact b1) E112 (by rw [sLet_b (Or.inl rfl), if_pos ⟨h, rfl⟩]) (fun m => ?_) (fun c _ => ?_) (fun o p1 p2 => funext fun i => ?_) (fun x hx => ?_) (fun x hx => ?_) ?_ ?_ (fun o k p1 p2 hk => ?_) ?_ ?_ ?_ (fun i hi => ?_) (fun i hi => ?_)
    · rw [liN_c (D := D) (fun x hx => by rw [sLet_b (Or.inl rfl), if_neg (fun q => hx q.2)])]
      exact li_all w ht2 (fun q => g3 ⟨h, q⟩) m
    · rw [emp_o (by omega), up_o (by decide), up_o (by decide), sLay_o (by omega), sLet_o (by omega)]
    · rw [emp_o (by omega), up_o (by omega), up_o (by omega), sLet_o p2]
      by_cases e : o = 117
      · subst e
        rw [sLay_117, if_neg (by omega)]
      · rw [sLay_o (by omega)]
    · rw [emp_o (by omega), up_o (by decide), up_k hx, sLay_o (by omega), sLet_b (Or.inl rfl), if_neg (fun q => hx q.2)]
    · rw [emp_o (by omega), up_k hx, up_o (by decide), sLay_o (by omega), sLet_b (Or.inr rfl), if_neg (fun q => hx q.2)]
    · rw [emp_o (by omega), up_o (by decide), up_e]
    · rw [emp_o (by omega), up_e]
    · by_cases e : k = 40 * t + s
      · rw [e]
        by_cases e2 : o = 112
        · subst e2; rw [emp_112, if_pos rfl, sLet_112]
        · rw [emp_0 (by omega), sLet_0 (by omega)]
      · rw [emp_s ⟨p1, p2⟩ e, up_o (by omega), up_o (by omega), sLay_s ⟨p1, p2⟩ hk, sLet_s ⟨p1, p2⟩ e]
    · rw [emp_s (by decide) hkj, up_o (by decide), up_o (by decide), sLay_e (by decide)]; exact h
    · rw [emp_s (by decide) hkj, up_o (by decide), up_o (by decide), sLay_e (by decide)]
    · rw [emp_s (by decide) hkj, up_o (by decide), up_o (by decide), sLay_e (by decide)]
      by_cases e : D 113 (40 * t + s) = 0
      · exact e
      · have := a3 e; omega
    · have i0 := hi.1
      have i1 := hi.2
      rw [emp_116, if_neg (by omega), up_o (by decide), up_o (by decide), sLay_116, if_pos (by omega)]
      have e : 8 * (40 * t + s) + (8 * (40 * to + ot) + i - 8 * (40 * to + ot)) = 8 * (40 * t + s) + i := by omega
      rw [e]
      exact (a4 i hi).2.2 (by omega)
    · rw [emp_116, sLet_116, up_o (by decide), up_o (by decide), sLay_116, if_neg hi]
  · rw [if_neg h]
    refine WF_slot wE (t0 := to) (s0 := ot) tE sE (fun c _ => ?_) (fun o p1 p2 => funext fun i => ?_) (fun o k p1 p2 hk => ?_) (fun i hi => ?_) (fun i hi => ?_) (by rw [E112]; decide) ?_
    · rw [emp_o (by omega), sLay_o (by omega), sLet_o (by omega)]
    · rw [emp_o (by omega), sLay_o p2]
      by_cases e : o = 110 ∨ o = 111
      · rw [sLet_b e, if_neg (fun q => h q.1)]
      · rw [sLet_o (by omega)]
    · by_cases e : k = 40 * t + s
      · rw [e]
        by_cases e2 : o = 112
        · subst e2; rw [emp_112, if_pos rfl, sLet_112]
        · rw [emp_0 (by omega), sLet_0 (by omega)]
      · rw [emp_s ⟨p1, p2⟩ e, sLay_s ⟨p1, p2⟩ hk, sLet_s ⟨p1, p2⟩ e]
    · rw [emp_116, sLet_116, sLay_116, if_neg hi]
    · rw [emp_o (by omega), sLay_117, if_neg (fun q => hi q.2), sLet_o (by omega)]
    · unfold Ws1
      rw [emp_s (by decide) hkj, emp_s (by decide) hkj, emp_s (by decide) hkj, emp_s (by decide) hkj, sLay_e (by decide), sLay_e (by decide), sLay_e (by decide), sLay_e (by decide)]
      refine ⟨a1, a2, a3, fun i hi => ?_, a5, a6, fun q => ⟨(a7 q).1, fun i hi => ?_⟩, fun q => absurd q h⟩
      · have i0 := hi.1
        have i1 := hi.2
        rw [emp_116, if_neg (by omega), sLay_116, if_pos (by omega)]
        have e : 8 * (40 * t + s) + (8 * (40 * to + ot) + i - 8 * (40 * to + ot)) = 8 * (40 * t + s) + i := by omega
        rw [e]
        exact a4 i hi
      · have i0 := hi.1
        have i1 := hi.2
        have l40 := (a7 q).1
        rw [emp_o (by omega), sLay_117, if_pos ⟨q, by omega, by omega⟩]
        have e : 40 * (40 * t + s) + (40 * (40 * to + ot) + i - 40 * (40 * to + ot)) = 40 * (40 * t + s) + i := by omega
        rw [e]
        have := (a7 q).2 i hi
        rw [b8_of (by omega)]
        exact this
/-- a done act keeps what always holds -/
theorem WF_step {D : DD} {A : Int → Int} {x y : Int} (w : WF D) (v : ValA D A) (a : AnsA D A x y) (d : DnA A x) : WF (StepA D A) := by
  obtain ⟨v0, v1, v2, v3, v4, v5, v6, v7, v8, v9, v10, v11, v12, v13⟩ := v
  obtain ⟨a0, a1, a4, a5, a6, a7, a9, a10, a11, a12, a13, a14, a15, a16, _⟩ := a
  obtain ⟨d1, d2, d3⟩ := d
  have c0 := w.1
  unfold Wc at c0
  unfold StepA
  by_cases c : A 0 = 0
  · rw [if_pos c]
    have h := a0 c
    refine WF_unit w (fun e => ?_) (v1 c).1 (v1 c).2
    unfold oUnit at h
    split at h <;> omega
  rw [if_neg c]
  by_cases c : A 0 ≤ 3
  · rw [if_pos c]
    obtain ⟨p1, p2⟩ := v2 (by omega) (by omega)
    exact WF_rel w (by omega) p1 p2 (a1 (by omega) c) d3
  rw [if_neg c]
  by_cases c : A 0 = 4
  · rw [if_pos c]
    obtain ⟨p1, p2⟩ := v2 (by omega) (by omega)
    exact WF_bond w p1 p2 (a4 c) (d1 (Or.inl c))
  rw [if_neg c]
  by_cases c : A 0 = 5
  · rw [if_pos c]
    obtain ⟨p1, p2⟩ := v3 c
    have h := a5 c
    unfold oTray at h
    split at h
    · omega
    · split at h
      · omega
      · rename_i q1 q2
        exact WF_new w (Or.inr p1) ⟨by omega, p2⟩ (fun e => q1 (Or.inl e))
  rw [if_neg c]
  by_cases c : A 0 = 6
  · rw [if_pos c]
    have h := a6 c
    have h1 := d1 (Or.inr c)
    refine WF_lose w (v4 (by omega) (by omega)) ?_
    unfold oLose at h
    split at h <;> omega
  rw [if_neg c]
  by_cases c : A 0 = 7
  · rw [if_pos c]
    have h := a7 (Or.inl c)
    exact WF_place w (v4 (by omega) (by omega)) (Or.inl ⟨rfl, v5 c⟩) (by omega)
  rw [if_neg c]
  by_cases c : A 0 = 8
  · rw [if_pos c]
    have h := a7 (Or.inr c)
    exact WF_place w (v4 (by omega) (by omega)) (Or.inr ⟨rfl, v6 c⟩) (by omega)
  rw [if_neg c]
  by_cases c : A 0 = 9
  · rw [if_pos c]
    have h := a9 c
    exact WF_sherds w (v4 (by omega) (by omega)) (by omega)
  rw [if_neg c]
  by_cases c : A 0 = 10
  · rw [if_pos c]
    have h := a10 c
    obtain ⟨p1, p2, p3⟩ := v8 c
    exact WF_note w (v4 (by omega) (by omega)) p1 (lts_pos p3 p2) (by omega)
  rw [if_neg c]
  by_cases c : A 0 = 11
  · rw [if_pos c]
    have h := a11 c
    exact WF_bag w (v4 (by omega) (by omega)) (v9 c) (by omega)
  rw [if_neg c]
  by_cases c : A 0 = 12
  · rw [if_pos c]
    have h := a12 c
    have hr := heldF_rng D (A 1) (A 2) (-5)
    have h0 : heldF D (A 1) (A 2) (-5) = 0 := by
      unfold oTake at h
      split at h <;> omega
    exact WF_let w (v4 (by omega) (by omega)) (slotF_0 (heldF_0 h0).1)
  rw [if_neg c]
  by_cases c : A 0 = 13
  · rw [if_pos c]
    have h := a13 c
    exact WF_move w (v4 (by omega) (by omega)) (v10 (Or.inl c)) (by omega)
  rw [if_neg c]
  by_cases c : A 0 = 14
  · rw [if_pos c]
    have h := a14 c
    exact WF_mark w (v4 (by omega) (by omega)) (v11 c) (by omega)
  rw [if_neg c]
  by_cases c : A 0 = 15
  · rw [if_pos c]
    exact WF_copy w (v4 (by omega) (by omega)) (v12 c).1
  rw [if_neg c]
  by_cases c : A 0 = 16
  · rw [if_pos c]
    have h := a16 c
    exact WF_join (s := A 2) (ot := A 4) w (v4 (by omega) (by omega)) (v10 (Or.inr c)) (by omega)
  rw [if_neg c]
  have c : A 0 = 17 := by omega
  exact WF_span w (v13 c).1 (v13 c).2
