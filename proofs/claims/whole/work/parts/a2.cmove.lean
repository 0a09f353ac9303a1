/-! move, copy in the class -/
theorem b8_id {x : Int} (h : 0 ≤ x ∧ x ≤ 127) : b8 x = x := by
  obtain ⟨m, rfl⟩ : ∃ m : Nat, x = m := ⟨x.toNat, by omega⟩
  have : ∀ m : Fin 128, b8 ((m.val : Nat) : Int) = ((m.val : Nat) : Int) := by decide +kernel
  exact this ⟨m, by omega⟩
theorem W9_lay {D : DD} {t s to ot : Int} (w : W9 D) (ht : In (D 99 11) t) (hs : In (D 109 t) s) : W9 (sLay D (40 * t + s) (40 * to + ot)) := by
  refine ⟨fun v hv => ?_, fun v x hv hx h3 => ?_⟩
  · rw [sLay_o (by omega)] at hv ⊢; exact w.1 v hv
  · rw [sLay_o (by omega)] at hv hx
    by_cases e : 40 * v + x = 40 * to + ot
    · rw [e, sLay_e (by decide)] at h3 ⊢; exact w.2 t s ht hs h3
    · rw [sLay_s (by decide) e] at h3 ⊢; exact w.2 v x hv hx h3
theorem RC_lay {S D : DD} {T : FD} {t s to ot : Int} (w : WF D) (r : RC S T D) (ht : In (D 99 11) t) (hs : In (D 109 t) s) (ht2 : In (D 99 11) to) (hs2 : In (D 109 to) ot) : RC (up S 58 (40 * to + ot) (S 58 (40 * t + s))) T (sLay D (40 * t + s) (40 * to + ot)) := by
  refine RC_slot w r ht2 hs2 (fun o h1 h2 => up_r h1) (fun j hj => up_k hj) (by rw [up_o (by decide)]; exact Int.le_refl _) ?_ (fun c _ => sLay_o (by omega)) (fun o h1 h2 => funext fun j => sLay_o (by omega)) (fun o h1 h2 j hj => sLay_s ⟨h1, h2⟩ hj) (fun i hi => by rw [sLay_116, if_neg hi]) (fun i hi => by rw [sLay_117, if_neg (fun q => hi q.2)])
  have o := r.2.2.2.1.2.1 t s ht hs
  rw [up_e, up_o (p := 68) (o := 58) (by decide)]
  unfold SlotR
  rw [sLay_e (by decide), sLay_e (by decide), sLay_e (by decide), sLay_e (by decide)]
  rcases o with o | ⟨o1, o2, o3, o4, o5, o6, o7, o8, o9⟩
  · exact Or.inl o
  · refine Or.inr ⟨o1, o2, o3, o4, o5, fun q => ⟨(o6 q).1, fun i hi => ?_⟩, o7, fun q => ⟨(o8 q).1, fun i hi => ?_⟩, o9⟩
    · have := hi.1
      have := hi.2
      rw [sLay_116, if_pos ⟨by omega, by omega⟩, (o6 q).2 i hi]
      congr 1; omega
    · have i1 := hi.1
      have i2 := hi.2
      obtain ⟨l1, l2⟩ := (w.2.2.2.2.2.1 t s ht hs).2.2.2.2.2.2.1 q
      have lt := l2 i hi
      rw [sLay_117, if_pos ⟨q, by omega, by omega⟩, show 40 * (40 * t + s) + (40 * (40 * to + ot) + i - 40 * (40 * to + ot)) = 40 * (40 * t + s) + i by omega, b8_id ⟨by omega, by omega⟩]
      exact (o8 q).2 i hi
theorem RC_move {S D : DD} {T : FD} {t s to ot : Int} (w : WF D) (r : RC S T D) (ht : In (D 99 11) t) (hs : In (D 109 t) s) (ht2 : In (D 99 11) to) (hs2 : In (D 109 to) ot) (hne : 40 * t + s ≠ 40 * to + ot) :
    (D 112 (40 * t + s) ≠ 4 → RC (up (up S 58 (40 * to + ot) (S 58 (40 * t + s))) 58 (40 * t + s) (-1)) T (sMove D t s to ot)) ∧ (D 112 (40 * t + s) = 4 → RC (up (up (up S 58 (40 * to + ot) (S 58 (40 * t + s))) 58 (40 * t + s) (-1)) 56 (D 114 (40 * t + s)) (40 * to + ot)) T (sMove D t s to ot)) := by
  have wc := w.c
  have rl := RC_lay w r ht hs ht2 hs2
  have re := RC_emp (t := t) (s := s) (W9_lay (to := to) (ot := ot) w.w9 ht hs) rl (by rw [sLay_o (by omega)]; exact ht) (by rw [sLay_o (by omega)]; exact hs)
  unfold sMove
  refine ⟨fun h => by rw [if_neg h]; exact re, fun h => ?_⟩
  rw [if_pos h, emp_up (by decide), emp_up (by decide)]
  have a1 := ht2.1
  have a2 := ht2.2
  have a3 := hs2.1
  have a4 := hs2.2
  have q40 := (w.2.2.2.1 to ht2).2.1
  refine RC_plc re ?_ (Or.inr ⟨⟨by omega, by omega⟩, ?_, ?_, by omega, by omega⟩)
  · rw [emp_o (by omega), sLay_o (by omega)]
    exact ((w.2.2.2.2.2.1 t s ht hs).2.2.2.2.2.2.2 h).1
  · rw [emp_o (by omega), sLay_o (by omega), show (40 * to + ot) / 40 = to by omega]; exact ht2
  · rw [up_o (by decide), up_o (by decide), show (40 * to + ot) / 40 = to by omega]
    rcases (r.2.2.1.2.1 to ht2).2.1 with z | z
    · omega
    · exact z.1
theorem c_putSame {h0 h : AH} {Q : Option AV → AH → Prop} {G : Nat → Prop} {n : Nat} {Ds : Nat → DD} {c : Int} {S : DD} {T : FD} {k e f : Int} {t s to ot : Int} (hF : Fix h) (m : CMid h0 G n Ds c S T k e f h) (hk : k ≤ 100) (ht : In 60 t) (hs : In 40 s) (ht2 : In 60 to) (hs2 : In 40 ot) (cont : ∀ h', Fix h' → CMid h0 G n Ds c (up S 58 (40 * to + ot) (S 58 (40 * t + s))) T (k + 1) e f h' → Pr (Xs G) h h' → Q none h') : Ok 72 0 [some (vR (some 47)), some (vI t), some (vI s), some (vI to), some (vI ot), none] [] h Q := by
  have a1 := ht.1
  have a2 := ht.2
  have a3 := hs.1
  have a4 := hs.2
  have b1 := ht2.1
  have b2 := ht2.2
  have b3 := hs2.1
  have b4 := hs2.2
  refine f_X7_putSame_0 hF _ _ _ _ ?_
  rw [show t * 40 + s = 40 * t + s by omega, show to * 40 + ot = 40 * to + ot by omega, m.rd (o := 58) (N := 2400) (by decide) ⟨by omega, by omega⟩]
  exact ⟨⟨by omega, by omega⟩, ⟨by omega, by omega⟩, fun q => by omega, fun _ => ⟨fun q => by omega, fun _ => ⟨⟨by omega, by omega⟩, ⟨by omega, by omega⟩, ⟨by omega, by omega⟩, c_putM hF m hk (N := 2400) (by decide) (by decide) ⟨by omega, by omega⟩ (fun h1 F1 m1 p1 => ⟨rfl, F1, cont h1 F1 m1 p1⟩)⟩⟩⟩
theorem sMove_gsm {D : DD} {t s to ot : Int} : Gsm D (sMove D t s to ot) := by
  have e : ∀ o, o < 110 → ∀ j, sMove D t s to ot o j = D o j := fun o ho j => by
    unfold sMove
    split
    · rw [emp_o (by omega), up_o (by omega), up_o (by omega), sLay_o (by omega)]
    · rw [emp_o (by omega), sLay_o (by omega)]
  exact ⟨e 99 (by decide) 1, e 99 (by decide) 7, funext (e 102 (by decide)), funext (e 106 (by decide)), funext (e 107 (by decide))⟩
theorem c_move {h : AH} {Q : Option AV → AH → Prop} {n : Nat} {Ds : Nat → DD} {Z : DD} {c p t s to ot : Int} (hF : Fix h) (ci : CInv h n Ds Z c) (w : WF (Ds n)) (wz : WZ Z c) (hc : c ≤ 1000) (hp : rp ((0 ≤ t ∧ t < Ds n 99 11) ∧ 0 ≤ to ∧ to < Ds n 99 11) p)
    (cq : CQ h n Ds Z c (aF 13 t s to ot 0 0) p Q) : Ok 160 0 [some (vR (some 1)), some (vI t), some (vI s), some (vI to), some (vI ot), none, none] [] h Q := by
  obtain ⟨hp1, hp0, hp01⟩ := rp_of hp
  obtain ⟨G, S, T, m, rc⟩ := ci.mid
  obtain ⟨ed1, ed2, e21, n300⟩ := ci.ed
  have tr := m.tr (Or.inl (by decide)) rc
  have wc := w.c
  have h1 := heldF_r (D := Ds n) (t := t) (s := s) (kd := -5)
  have sr2 := slotF_r (D := Ds n) (t := to) (s := ot)
  refine f_X11_move_0 hF _ _ _ _ ?_
  rw [tr.T]
  refine ⟨fun q => c_bad hF ci wz hc (hp0.mpr (by omega)) cq, fun q => ⟨fun q2 => c_bad hF ci wz hc (hp0.mpr (by omega)) cq, fun q2 => ⟨fun q3 => c_bad hF ci wz hc (hp0.mpr (by omega)) cq, fun q3 => ⟨fun q4 => c_bad hF ci wz hc (hp0.mpr (by omega)) cq, fun q4 => ⟨fun q5 => ?_, fun q5 => c_full hF ci wz hc (hp1.mpr (by omega)) q5 cq⟩⟩⟩⟩⟩
  have hv : p = 1 := hp1.mpr (by omega)
  have ht : In (Ds n 99 11) t := ⟨by omega, by omega⟩
  have ht2 : In (Ds n 99 11) to := ⟨by omega, by omega⟩
  refine c_lookForSome hF tr w ht ⟨_, rfl, hF, c_findAt hF tr w (fun o fa => ⟨o, rfl, hF, fun q6 => ?_, fun q6 => ⟨fun e => ?_, fun a e => ?_⟩⟩)⟩
  · have m0 : heldF (Ds n) t s (-5) ≠ 0 := fun e => q6 (by rw [e]; rfl)
    rw [lkF_n m0]
    exact c_neg hF ci wz hc hv q5 (by omega) (by omega) (ansM (by unfold oMove; rw [if_pos m0])) cq
  · have m0 : heldF (Ds n) t s (-5) = 0 := (lkF0 h1.1).mp (Decidable.not_not.mp q6)
    subst e
    exfalso
    rcases FA_none fa with f | f | f
    · exact f ht
    · rw [heldF_slot f] at m0; exact f m0
    · by_cases z : slotF (Ds n) t s = 0
      · rw [heldF_none z f] at m0; omega
      · rw [heldF_slot z] at m0; exact z m0
  · have m0 : heldF (Ds n) t s (-5) = 0 := (lkF0 h1.1).mp (Decidable.not_not.mp q6)
    subst e
    obtain ⟨_, hs, s0, f5, g, g0, g1⟩ := FO.knd fa
    rcases fa with ⟨fa, _⟩ | ⟨o', fa, _, _, _, _, hid, fo, hl, sr⟩
    · cases fa
    cases fa
    have q40 := (w.2.2.2.1 t ht).2.1
    have s1 := hs.1
    have s2 := hs.2
    have ws := w.2.2.2.2.2.1 t s ht hs
    have hG : ∀ o, G o → 136 ≤ o ∧ o < nn h := by
      obtain ⟨Ss, E, L, w, cc, m1, _⟩ := m
      exact m1.1
    have xg : ∀ o, G o → Xs G o := fun o ho => Or.inr ⟨(hG o ho).1, ho⟩
    have z4 : Ds n 112 (40 * t + s) = 4 → T (S 58 (40 * t + s)) (-1) = 1 ∧ T (S 58 (40 * t + s)) 0 = Ds n 114 (40 * t + s) ∧ In (Ds n 99 11) (Ds n 114 (40 * t + s)) := fun k4 => by
      rcases sr with sl | sl
      · omega
      · exact ⟨(sl.2.2.2.2.2.2.2.2 k4).1, (sl.2.2.2.2.2.2.2.2 k4).2, (ws.2.2.2.2.2.2.2 k4).1⟩
    refine c_look hF tr w ht2 ⟨_, rfl, hF, fun q7 => ?_, fun q7 => ?_⟩
    · have t0 : slotF (Ds n) to ot = 0 := (lkF0 (by omega)).mp q7
      have hs2 := slotF0.mp t0
      have r40 := (w.2.2.2.1 to ht2).2.1
      have r1 := hs2.1
      have r2 := hs2.2
      -- the part that both share
      have fin : ¬ (Ds n 112 (40 * t + s) = 4 ∧ li (Ds n) (Ds n 114 (40 * t + s)) to = true) → Ok 70 0 [some (vR (some 47)), some (vI to), some (vI ot), none] [] h (fun v h_20 => ∃ q_21, v = some (vR q_21) ∧ Fix h_20 ∧ (q_21 = none → Ok 72 0 [some (vR (some 47)), some (vI t), some (vI s), some (vI to), some (vI ot), none] [] h_20 (fun v h_23 => v = none ∧ Fix h_23 ∧ Ok 73 0 [some (vR (some 47)), some (vI t), some (vI s)] [] h_23 (fun v h_24 => v = none ∧ Fix h_24 ∧ ((sh h_24 a).1 = 13) ∧ ((gi h_24 a 0 ≠ 4) → Ok 131 0 [some (vR (some 1)), some (vI (gi h_24 a 0))] [] h_24 (Qx Q)) ∧ (¬ (gi h_24 a 0 ≠ 4) → ((sh h_24 a).1 = 13) ∧ Ok 21 0 [some (vR (some a)), some (vI 0)] [] h_24 (fun v h_27 => ∃ x_28, v = some (vI x_28) ∧ Fix h_27 ∧ Ok 76 0 [some (vR (some 47)), some (vI x_28), some (vI to), some (vI ot)] [] h_27 (fun v h_29 => v = none ∧ Fix h_29 ∧ ((sh h_29 a).1 = 13) ∧ Ok 131 0 [some (vR (some 1)), some (vI (gi h_29 a 0))] [] h_29 (Qx Q))))))) ∧ (∀ a_22 : Nat, q_21 = some a_22 → Ok 130 0 [some (vR (some 1)), some (vI (-2))] [] h_20 (Qx Q))) := fun nl => by
        refine c_findAt hF tr w (fun o2 fa2 => ⟨o2, rfl, hF, fun e => ?_, fun b e => ?_⟩)
        · subst e
          have h5 : Ds n 112 (40 * to + ot) = -5 := by
            rcases FA_none fa2 with f | f | f
            · exact absurd ht2 f
            · exact absurd t0 f
            · exact f
          have hne : 40 * t + s ≠ 40 * to + ot := fun e => by rw [e] at f5; exact f5 h5
          obtain ⟨rm1, rm2⟩ := RC_move w rc ht hs ht2 hs2 hne
          have dn : ∀ (h' : AH) (S' : DD) (k : Int), k ≤ 40 → Fix h' → CMid h G n Ds c S' T k 0 0 h' → RC S' T (sMove (Ds n) t s to ot) → Ok 131 0 [some (vR (some 1)), some (vI (Ds n 112 (40 * t + s)))] [] h' (Qx Q) := fun h' S' k hk F' m' r' =>
            c_did (A := aF 13 t s to ot 0 0) F' m' ci hc hk (by omega) (Or.inl rfl) r' (Or.inr ⟨rfl, by rw [aF0]; decide, sMove_gsm⟩) hv (ansM (by unfold oMove; rw [if_neg (by omega), if_neg (by omega), if_neg nl, if_neg (by omega)])) (dnP (by rw [aF0]; decide) (by have := ws.1; omega)) (by rw [aF0]; decide) cq
          refine c_putSame hF m (by omega) ⟨by omega, by omega⟩ ⟨by omega, by omega⟩ ⟨by omega, by omega⟩ ⟨by omega, by omega⟩ (fun h2 F2 m2 p2 => ⟨rfl, F2, c_empty F2 m2 (by omega) ⟨by omega, by omega⟩ ⟨by omega, by omega⟩ (fun h3 F3 m3 p3 => ⟨rfl, F3, ?_⟩)⟩)
          have ka := (p2 a (xg a fo.1)).trans (p3 a (xg a fo.1))
          have fo3 := fo.kp (fun q hq => (p2 q (xg q hq)).trans (p3 q (xg q hq)))
          rw [ka.2.2.2.2, g, congrFun ka.1 0, g0]
          refine ⟨rfl, fun q8 => dn h3 _ _ (by omega) F3 m3 (rm1 q8), fun q8 => ⟨rfl, ?_⟩⟩
          have k4 : Ds n 112 (40 * t + s) = 4 := Decidable.not_not.mp q8
          obtain ⟨z1, z2, z3⟩ := z4 k4
          have hb1 := z3.1
          have hb2 := z3.2
          refine c_numberAt F3 fo3 (by rw [z1]; exact ⟨by decide, by decide⟩) ⟨_, rfl, F3, ?_⟩
          rw [z2]
          refine f_X7_setPlace_0 F3 _ _ _ ⟨⟨by omega, by omega⟩, ⟨by omega, by omega⟩, ?_⟩
          rw [show to * 40 + ot = 40 * to + ot by omega]
          refine c_putM F3 m3 (by omega) (N := 60) (by decide) (by decide) ⟨by omega, by omega⟩ (fun h4 F4 m4 p4 => ⟨rfl, F4, rfl, F4, ?_⟩)
          have kb := p4 a (xg a fo.1)
          rw [kb.2.2.2.2, ka.2.2.2.2, g, congrFun kb.1 0, congrFun ka.1 0, g0]
          exact ⟨rfl, dn h4 _ _ (by omega) F4 m4 (rm2 k4)⟩
        · subst e
          obtain ⟨_, _, _, f6, _⟩ := FO.knd fa2
          exact c_neg hF ci wz hc hv q5 (by omega) (by omega) (ansM (by unfold oMove; rw [if_neg (by omega), if_neg (by omega), if_neg nl, if_pos f6])) cq
      rw [g0]
      refine ⟨by rw [g], fun q8 => fin (fun q => q8 q.1), fun q8 => ⟨by rw [g], ?_⟩⟩
      have k4 : Ds n 112 (40 * t + s) = 4 := Decidable.not_not.mp q8
      obtain ⟨z1, z2, z3⟩ := z4 k4
      refine c_numberAt hF fo (by rw [z1]; exact ⟨by decide, by decide⟩) ⟨_, rfl, hF, ?_⟩
      rw [z2]
      refine c_isWithin hF tr w ht2 z3.1 ⟨_, rfl, hF, fun q9 => fin (fun q => ?_), fun q9 => ?_⟩
      · rw [q.2] at q9; exact absurd q9 (by decide)
      · have l : li (Ds n) (Ds n 114 (40 * t + s)) to = true := by
          cases e : li (Ds n) (Ds n 114 (40 * t + s)) to
          · rw [e] at q9; exact absurd rfl q9
          · rfl
        exact c_neg hF ci wz hc hv q5 (by omega) (by omega) (ansM (by unfold oMove; rw [if_neg (by omega), if_neg (by omega), if_pos ⟨k4, l⟩])) cq
    · have t0 : slotF (Ds n) to ot ≠ 0 := fun e => q7 (by rw [e]; rfl)
      rw [lkF_n t0]
      exact c_neg hF ci wz hc hv q5 (by omega) (by omega) (ansM (by unfold oMove; rw [if_neg (by omega), if_pos t0])) cq
