/-! sample, mark in the class -/
theorem c_plainBits {h : AH} {Q : Option AV → AH → Prop} {p : Int} (hF : Fix h) (cont : Q (some (vI (bO p))) h) : Ok 26 0 [some (vI p)] [] h Q := by
  unfold bO at cont
  exact f_X3_plainBits_0 hF _ ⟨fun q => by rw [if_pos q] at cont; exact cont, fun q => by rw [if_neg q] at cont; exact cont⟩
theorem c_sample {h : AH} {Q : Option AV → AH → Prop} {n : Nat} {Ds : Nat → DD} {Z : DD} {c p t s a b : Int} (hF : Fix h) (ci : CInv h n Ds Z c) (w : WF (Ds n)) (wz : WZ Z c) (hc : c ≤ 1000) (ra : R32 a) (rb : R32 b) (hp : rp (0 ≤ t ∧ t < Ds n 99 11) p)
    (cq : CQ h n Ds Z c (aF 8 t s (bO a) (bO b) 0 0) p Q) : Ok 154 0 [some (vR (some 1)), some (vI t), some (vI s), some (vI a), some (vI b), none, none] [] h Q := by
  obtain ⟨hp1, hp0, hp01⟩ := rp_of hp
  obtain ⟨G, S, T, m, rc⟩ := ci.mid
  obtain ⟨ed1, ed2, e21, n300⟩ := ci.ed
  have tr := m.tr (Or.inl (by decide)) rc
  have wc := w.c
  have n0 := hF.2.2
  refine f_X11_sample_0 hF _ _ _ _ ?_
  rw [tr.T]
  refine ⟨fun q => c_bad hF ci wz hc (hp0.mpr (by omega)) cq, fun q => ⟨fun q2 => c_bad hF ci wz hc (hp0.mpr (by omega)) cq, fun q2 => ?_⟩⟩
  have hv : p = 1 := hp1.mpr ⟨by omega, by omega⟩
  have ht : In (Ds n 99 11) t := ⟨by omega, by omega⟩
  refine c_barrier hF tr w ht (fun x hx => ⟨x, rfl, hF, fun q4 => ?_, fun q4 => ?_⟩)
  · have hx' : gi h 2 1 < 300 ∧ slotF (Ds n) t s = 0 ∧ Ds n 112 (40 * t + s) = -5 := by
      have := slotF_r (D := Ds n) (t := t) (s := s)
      rcases hx with h1 | ⟨h1, ⟨h2, h3⟩ | ⟨h2, ⟨h3, h4⟩ | ⟨h3, h4⟩⟩⟩
      · omega
      · omega
      · omega
      · exact ⟨h1, h2, h3⟩
    have hs := slotF0.mp hx'.2.1
    have q40 := (w.2.2.2.1 t ht).2.1
    have s1 := hs.1
    have s2 := hs.2
    have sa : sh (al h 0 2) (nn h) = (0, 2) := sh_al_e
    have F2 : Fix (al h 0 2) := hF.al
    refine c_plainBits F2 ⟨_, rfl, F2, ⟨by rw [sa], by decide, by rw [sa]; show (0 : Int) < 2; decide⟩, c_plainBits (h := si (al h 0 2) (nn h) 0 (bO a)) F2 ⟨_, rfl, F2, ⟨by show (sh (al h 0 2) (nn h)).1 = 0; rw [sa], by decide, by show 1 < (sh (al h 0 2) (nn h)).2; rw [sa]; show (1 : Int) < 2; decide⟩, ?_⟩⟩
    have eo : nn (si (si (al h 0 2) (nn h) 0 (bO a)) (nn h) 1 (bO b)) = nn h + 1 := rfl
    have kp2 : ∀ r, r < nn h → Kp r h (al (si (si (al h 0 2) (nn h) 0 (bO a)) (nn h) 1 (bO b)) 13 6) := fun r hr => (((Kp.refl.al hr).si (by omega)).si (by omega)).al (by rw [eo]; omega)
    have sa3 : sh (al (si (si (al h 0 2) (nn h) 0 (bO a)) (nn h) 1 (bO b)) 13 6) (nn h) = (0, 2) := by rw [sh_al_p (by rw [eo]; omega)]; exact sa
    rw [eo]
    refine c_init (G := fun x => G x ∨ nn h ≤ x ∧ x < nn h + 2) (t := t2F 2 0 (bO a) (bO b)) (Fix.al (h := si (si (al h 0 2) (nn h) 0 (bO a)) (nn h) 1 (bO b)) F2) (by omega) sh_al_e sa3 (by omega) (Or.inr ⟨by omega, by omega⟩) (Or.inr ⟨by omega, by omega⟩) rfl rfl (fun i hi => ?_) (fun _ _ => ⟨bO_r ra, bO_r rb⟩) (fun h9 F9 k9 nn9 us9 fo9 => ⟨rfl, F9, ?_⟩)
    · have i0 := hi.1
      have i1 : i < 2 := hi.2
      rw [gi_al_p (by rw [eo]; omega)]
      by_cases e : i = 0
      · rw [e, gi_si_k (by decide), gi_si_e]; rfl
      · have e1 : i = 1 := by omega
        rw [e1, gi_si_e]; rfl
    · have nn9' : nn h9 = nn h + 2 := nn9
      have us9' : us h9 = us h + 2 + 6 := us9
      refine c_putNew F9 hF m (by omega) (by omega) (fun r hr => (kp2 r hr).trans (k9 r (by omega))) ⟨by omega, by omega⟩ (by omega) (by rw [nn9']; exact fo9) ⟨by show (0 : Int) ≤ 2; decide, by show (2 : Int) ≤ 40; decide⟩ ⟨by omega, by omega⟩ ⟨by omega, by omega⟩ (fun h' G' F' m' _ => ⟨rfl, F', ?_⟩)
      exact c_did (A := aF 8 t s (bO a) (bO b) 0 0) F' m' ci hc (by omega) (by omega) (Or.inr rfl) (RC_place w rc ht hs hx'.2.2 (Or.inr rfl)) (Or.inr ⟨rfl, by rw [aF0]; decide, sPlace_gsm⟩) hv (ansS (oPlace_of (Or.inr ⟨hx'.2.1, Or.inr ⟨hx'.2.2, rfl⟩⟩))) (dnP (by rw [aF0]; decide) (by decide)) (by rw [aF0]; decide) cq
  · rcases hx with ⟨h1, h2⟩ | ⟨h1, h2⟩
    · rw [h2]; exact c_full hF ci wz hc hv h1 cq
    · have := slotF_r (D := Ds n) (t := t) (s := s)
      refine c_neg hF ci wz hc hv h1 (by omega) (by omega) (ansS (oPlace_of ?_)) cq
      rcases h2 with h2 | ⟨h2, h3 | h3⟩
      · exact Or.inl h2
      · exact Or.inr ⟨h2, Or.inl h3⟩
      · exact absurd h3.2 q4
/-- a find with another mark -/
def tMk (t : Int → Int) (m : Int) : Int → Int := fun i => if i = -2 then m else t i
theorem RC_mark {S D : DD} {T : FD} {t s mk : Int} (w : WF D) (r : RC S T D) (ht : In (D 99 11) t) (hs : In (D 109 t) s) (h5 : D 112 (40 * t + s) = 1 ∨ D 112 (40 * t + s) = 2) : RC (up (up S 68 0 (S 68 0 + 1)) 58 (40 * t + s) (S 68 0)) (tNew T (S 68 0) (tMk (T (S 58 (40 * t + s))) mk)) (sMark D t s mk) := by
  have hm := r.2.2.2.1.1
  refine RC_slot w (r.T (T' := tNew T (S 68 0) (tMk (T (S 58 (40 * t + s))) mk)) (fun i _ h => tNew_o (by omega))) ht hs (fun o h1 h2 => by rw [up_r h1, up_r h2]) (fun j hj => by rw [up_k hj, up_o (by decide)]) (by rw [up_o (by decide), up_e]; omega) ?_ (fun c _ => by unfold sMark; rw [up_o (by decide)]) (fun o h1 h2 => by unfold sMark; rw [up_r (by omega)]) (fun o h1 h2 j hj => by unfold sMark up; rw [if_neg (fun q => hj q.2)]) (fun i _ => by unfold sMark; rw [up_o (by decide)]) (fun i _ => by unfold sMark; rw [up_o (by decide)])
  rw [up_e, up_o (p := 68) (o := 58) (by decide), up_e]
  have e : ∀ o, o ≠ 113 → sMark D t s mk o = D o := fun o ho => by unfold sMark; rw [up_r ho]
  have e3 : sMark D t s mk 113 (40 * t + s) = mk := by unfold sMark; rw [up_e]
  have o := r.2.2.2.1.2.1 t s ht hs
  unfold SlotR
  rw [e 112 (by decide), e3, e 114 (by decide), e 115 (by decide), tNew_e]
  rcases o with o | ⟨o1, o2, o3, o4, o5, o6, o7, o8, o9⟩
  · omega
  · exact Or.inr ⟨hm, by omega, by omega, o4, rfl, fun q => by omega, fun q => o7 q, fun q => by omega, fun q => by omega⟩
theorem c_mark {h : AH} {Q : Option AV → AH → Prop} {n : Nat} {Ds : Nat → DD} {Z : DD} {c p t s mk : Int} (hF : Fix h) (ci : CInv h n Ds Z c) (w : WF (Ds n)) (wz : WZ Z c) (hc : c ≤ 1000) (hp : rp ((0 ≤ t ∧ t < Ds n 99 11) ∧ 0 ≤ mk ∧ mk ≤ 2) p)
    (cq : CQ h n Ds Z c (aF 14 t s mk 0 0 0) p Q) : Ok 170 0 [some (vR (some 1)), some (vI t), some (vI s), some (vI mk), none, none] [] h Q := by
  obtain ⟨hp1, hp0, hp01⟩ := rp_of hp
  obtain ⟨G, S, T, m, rc⟩ := ci.mid
  obtain ⟨ed1, ed2, e21, n300⟩ := ci.ed
  have tr := m.tr (Or.inl (by decide)) rc
  have wc := w.c
  have n0 := hF.2.2
  have h1 := heldF_r (D := Ds n) (t := t) (s := s) (kd := -5)
  refine f_X11_mark_0 hF _ _ _ ?_
  rw [tr.T]
  refine ⟨fun q => c_bad hF ci wz hc (hp0.mpr (by omega)) cq, fun q => ⟨fun q2 => c_bad hF ci wz hc (hp0.mpr (by omega)) cq, fun q2 => ⟨fun q3 => c_bad hF ci wz hc (hp0.mpr (by omega)) cq, fun q3 => ⟨fun q4 => ⟨fun q5 => ?_, fun q5 => c_full hF ci wz hc (hp1.mpr (by omega)) q5 cq⟩, fun q4 => c_bad hF ci wz hc (hp0.mpr (by omega)) cq⟩⟩⟩⟩
  have hv : p = 1 := hp1.mpr (by omega)
  have ht : In (Ds n 99 11) t := ⟨by omega, by omega⟩
  refine c_lookForSome hF tr w ht ⟨_, rfl, hF, c_findAt hF tr w (fun o fa => ⟨o, rfl, hF, fun q6 => ?_, fun q6 => ⟨fun e => ?_, fun a e => ?_⟩⟩)⟩
  · have m0 : heldF (Ds n) t s (-5) ≠ 0 := fun e => q6 (by rw [e]; rfl)
    rw [lkF_n m0]
    exact c_neg hF ci wz hc hv q5 (by omega) (by omega) (ansR (by unfold oMark; rw [if_pos m0])) cq
  · have m0 : heldF (Ds n) t s (-5) = 0 := (lkF0 h1.1).mp (Decidable.not_not.mp q6)
    subst e
    exfalso
    rcases FA_none fa with f | f | f
    · exact f ht
    · rw [heldF_slot f] at m0; exact f m0
    · by_cases z : slotF (Ds n) t s = 0
      · rw [heldF_none z f] at m0; omega
      · rw [heldF_slot z] at m0; exact z m0
  · have m0 : heldF (Ds n) t s (-5) = 0 := (lkF0 h1.1).mp (Decidable.not_not.mp q6)
    subst e
    obtain ⟨_, hs, s0, f5, g, g0, g1⟩ := FO.knd fa
    rcases fa with ⟨fa, _⟩ | ⟨o', fa, _, _, _, _, hid, fo, hl, sr⟩
    · cases fa
    cases fa
    have q40 := (w.2.2.2.1 t ht).2.1
    have s1 := hs.1
    have s2 := hs.2
    obtain ⟨gA1, gA2⟩ : 136 ≤ a ∧ a < nn h := by
      obtain ⟨Ss, E, L, w, cc, m1, _⟩ := m
      exact m1.1 a fo.1
    obtain ⟨b, fb, gb, sb, nb⟩ := fo.2.2.2.2.1
    obtain ⟨gB1, gB2⟩ : 136 ≤ b ∧ b < nn h := by
      obtain ⟨Ss, E, L, w, cc, m1, _⟩ := m
      exact m1.1 b gb
    have kpa := Kp.refl.al (h := h) (h' := h) (t := 13) (n := 6) gA2
    have sA : (sh (al h 13 6) a).1 = 13 := by rw [kpa.2.2.2.2, g]
    have go : (Ds n 112 (40 * t + s) = 1 ∨ Ds n 112 (40 * t + s) = 2) → ∃ a_16 : Nat, gr (al h 13 6) a 2 = some a_16 ∧ Ok 20 0 [some (vR (some (nn h))), some (vI (gi (al h 13 6) a 0)), some (vI mk), some (vR (some a_16)), none] [] (al h 13 6) (fun v h_17 => v = none ∧ Fix h_17 ∧ Ok 71 0 [some (vR (some 47)), some (vI t), some (vI s), some (vR (some (nn h))), none] [] h_17 (fun v h_18 => v = none ∧ Fix h_18 ∧ ((sh h_18 a).1 = 13) ∧ Ok 131 0 [some (vR (some 1)), some (vI (gi h_18 a 1))] [] h_18 (Qx Q))) := fun hk => by
      refine ⟨b, by rw [kpa.2.2.2.1]; exact fb, ?_⟩
      rw [kpa.1, g0]
      have rl : In (T (S 58 (40 * t + s)) (-1)) 0 ∧ In (T (S 58 (40 * t + s)) (-1)) 1 ∧ T (S 58 (40 * t + s)) (-3) = Ds n 112 (40 * t + s) ∧ (Ds n 112 (40 * t + s) = 2 → R32 (T (S 58 (40 * t + s)) 0) ∧ R32 (T (S 58 (40 * t + s)) 1)) := by
        rcases sr with o | ⟨o1, o2, o3, o4, o5, o6, o7, o8, o9⟩
        · omega
        · obtain ⟨z1, z2, z3⟩ := o7 hk
          rw [z1, z2, z3]
          exact ⟨⟨by decide, by decide⟩, ⟨by decide, by decide⟩, o4, fun q => (w.2.2.2.2.2.1 t s ht hs).2.2.2.2.2.1 q⟩
      refine c_init (G := fun x => G x ∨ nn h ≤ x ∧ x < nn h + 1) (t := tMk (T (S 58 (40 * t + s))) mk) hF.al n0 sh_al_e (by rw [(Kp.refl.al (h := h) (h' := h) (t := 13) (n := 6) gB2).2.2.2.2]; exact sb) (by omega) (Or.inr ⟨by omega, by omega⟩) (Or.inl gb) rl.2.2.1 rfl (fun i hi => ?_) (fun q _ => rl.2.2.2 q) (fun h9 F9 k9 nn9 us9 fo9 => ⟨rfl, F9, ?_⟩)
      · have i0 := hi.1
        rw [(Kp.refl.al (h := h) (h' := h) (t := 13) (n := 6) gB2).1, nb i hi]
        unfold tMk
        rw [if_neg (by omega)]
      · have nn9' : nn h9 = nn h + 1 := nn9
        have us9' : us h9 = us h + 6 := us9
        refine c_putNew (t := tMk (T (S 58 (40 * t + s))) mk) F9 hF m (by omega) (by omega) (fun r hr => (Kp.refl.al hr).trans (k9 r (by omega))) ⟨by omega, by omega⟩ (by omega) (by rw [nn9']; exact fo9) hl ⟨by omega, by omega⟩ ⟨by omega, by omega⟩ (fun h' G' F' m' k' => ⟨rfl, F', by rw [(k' a fo.1).2.2.2.2, g], ?_⟩)
        rw [congrFun (k' a fo.1).1 1, g1]
        have wm := (w.2.2.2.2.2.1 t s ht hs).2.1
        exact c_did (A := aF 14 t s mk 0 0 0) F' m' ci hc (by omega) (by omega) (Or.inr rfl) (RC_mark w rc ht hs hk) (Or.inr ⟨rfl, by rw [aF0]; decide, rfl, rfl, rfl, rfl, rfl⟩) hv (ansR (by unfold oMark; rw [if_neg (by omega), if_pos hk])) (dnP (by rw [aF0]; decide) wm.1) (by rw [aF0]; decide) cq
    rw [g0]
    refine ⟨by rw [g], fun q7 => ⟨sA, sA, go (Or.inl q7)⟩, fun q7 => ⟨fun q8 => ⟨sA, sA, go (Or.inr q8)⟩, fun q8 => c_neg hF ci wz hc hv q5 (by omega) (by omega) (ansR (by unfold oMark; rw [if_neg (by omega), if_neg (by omega)])) cq⟩⟩
