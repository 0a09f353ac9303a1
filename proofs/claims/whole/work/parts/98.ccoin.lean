/-! coin, sample, mark in the class -/
theorem c_barrier {h : AH} {Q : Option AV → AH → Prop} {G : Nat → Prop} {S : DD} {T : FD} {D : DD} {t s : Int} (hF : Fix h) (r : TR h G S T D) (w : WF D) (ht : In (D 99 11) t) (cont : ∀ x, (¬ gi h 2 1 < 300 ∧ x = -3 ∨ gi h 2 1 < 300 ∧ (slotF D t s ≠ 0 ∧ x = -10 - slotF D t s ∨ slotF D t s = 0 ∧ (D 112 (40 * t + s) ≠ -5 ∧ x = -2 ∨ D 112 (40 * t + s) = -5 ∧ x = 0))) → Q (some (vI x)) h) : Ok 155 0 [some (vR (some 1)), some (vI t), some (vI s), none] [] h Q := by
  refine f_X11_barrierToNew_0 hF _ _ ⟨fun q => c_look hF r w ht ⟨_, rfl, hF, fun q2 => ?_, fun q2 => ?_⟩, fun q => cont _ (Or.inl ⟨q, rfl⟩)⟩
  · have s0 : slotF D t s = 0 := (lkF0 (by rcases slotF_r (D := D) (t := t) (s := s) with h | h | h <;> omega)).mp q2
    refine c_findAt hF r w (fun o fa => ⟨o, rfl, hF, fun e => ?_, fun a e => ?_⟩)
    · subst e
      refine cont _ (Or.inr ⟨q, Or.inr ⟨s0, Or.inr ⟨?_, rfl⟩⟩⟩)
      rcases FA_none fa with f | f | f
      · exact absurd ht f
      · exact absurd s0 f
      · exact f
    · subst e
      obtain ⟨_, _, _, f, _⟩ := FO.knd fa
      exact cont _ (Or.inr ⟨q, Or.inr ⟨s0, Or.inl ⟨f, rfl⟩⟩⟩)
  · have s0 : slotF D t s ≠ 0 := fun e => q2 ((lkF0 (by omega)).mpr e)
    rw [lkF_n s0]
    exact cont _ (Or.inr ⟨q, Or.inl ⟨s0, rfl⟩⟩)
/-- two numbers of a find -/
def t2F (kd mk a b : Int) : Int → Int := fun i => if i = -3 then kd else if i = -2 then mk else if i = -1 then 2 else if i = 0 then a else b
theorem RC_place {S D : DD} {T : FD} {t s kd a b : Int} (w : WF D) (r : RC S T D) (ht : In (D 99 11) t) (hs : In (D 109 t) s) (h5 : D 112 (40 * t + s) = -5) (hk : kd = 1 ∨ kd = 2) : RC (up (up S 68 0 (S 68 0 + 1)) 58 (40 * t + s) (S 68 0)) (tNew T (S 68 0) (t2F kd 0 a b)) (sPlace D t s kd a b) := by
  have m0 : D 113 (40 * t + s) = 0 := by
    have := w.2.2.2.2.2.1 t s ht hs
    have h1 := this.2.2.1
    by_cases z : D 113 (40 * t + s) = 0
    · exact z
    · have := h1 z; omega
  have hm := r.2.2.2.1.1
  refine RC_slot w (r.T (T' := tNew T (S 68 0) (t2F kd 0 a b)) (fun i _ h => tNew_o (by omega))) ht hs (fun o h1 h2 => by rw [up_r h1, up_r h2]) (fun j hj => by rw [up_k hj, up_o (by decide)]) (by rw [up_o (by decide), up_e]; omega) ?_ (fun c _ => by unfold sPlace; rw [up_o (by decide), up_o (by decide), up_o (by decide)]) (fun o h1 h2 => by unfold sPlace; rw [up_r (by omega), up_r (by omega), up_r (by omega)]) (fun o h1 h2 j hj => by unfold sPlace up; rw [if_neg (fun q => hj q.2), if_neg (fun q => hj q.2), if_neg (fun q => hj q.2)]) (fun i _ => by unfold sPlace; rw [up_o (by decide), up_o (by decide), up_o (by decide)]) (fun i _ => by unfold sPlace; rw [up_o (by decide), up_o (by decide), up_o (by decide)])
  rw [up_e, up_o (p := 68) (o := 58) (by decide), up_e]
  have e2 : sPlace D t s kd a b 112 (40 * t + s) = kd := by unfold sPlace; rw [up_o (by decide), up_o (by decide), up_e]
  have e3 : sPlace D t s kd a b 113 (40 * t + s) = 0 := by unfold sPlace; rw [up_o (by decide), up_o (by decide), up_o (by decide)]; exact m0
  have e4 : sPlace D t s kd a b 114 (40 * t + s) = a := by unfold sPlace; rw [up_o (by decide), up_e]
  have e5 : sPlace D t s kd a b 115 (40 * t + s) = b := by unfold sPlace; rw [up_e]
  unfold SlotR
  rw [e2, e3, e4, e5, tNew_e]
  exact Or.inr ⟨hm, by omega, by omega, rfl, rfl, fun q => by omega, fun _ => ⟨rfl, rfl, rfl⟩, fun q => by omega, fun q => by omega⟩
theorem oPlace_of {D : DD} {t s x : Int} (h : slotF D t s ≠ 0 ∧ x = -10 - slotF D t s ∨ slotF D t s = 0 ∧ (D 112 (40 * t + s) ≠ -5 ∧ x = -2 ∨ D 112 (40 * t + s) = -5 ∧ x = 1)) : x = oPlace D t s := by
  unfold oPlace
  rcases h with ⟨h1, h2⟩ | ⟨h1, ⟨h2, h3⟩ | ⟨h2, h3⟩⟩
  · rw [if_pos h1]; exact h2
  · rw [if_neg (by omega), if_pos h2]; exact h3
  · rw [if_neg (by omega), if_neg (by omega)]; exact h3
theorem sPlace_gsm {D : DD} {t s kd a b : Int} : Gsm D (sPlace D t s kd a b) := ⟨rfl, rfl, rfl, rfl, rfl⟩
theorem c_coin {h : AH} {Q : Option AV → AH → Prop} {n : Nat} {Ds : Nat → DD} {Z : DD} {c p t s a b : Int} (hF : Fix h) (ci : CInv h n Ds Z c) (w : WF (Ds n)) (wz : WZ Z c) (hc : c ≤ 1000) (hp : rp ((0 ≤ t ∧ t < Ds n 99 11) ∧ -10000 ≤ a ∧ a ≤ b ∧ b ≤ 2100) p)
    (cq : CQ h n Ds Z c (aF 7 t s a b 0 0) p Q) : Ok 153 0 [some (vR (some 1)), some (vI t), some (vI s), some (vI a), some (vI b), none] [] h Q := by
  obtain ⟨hp1, hp0, hp01⟩ := rp_of hp
  obtain ⟨G, S, T, m, rc⟩ := ci.mid
  obtain ⟨ed1, ed2, e21, n300⟩ := ci.ed
  have tr := m.tr (Or.inl (by decide)) rc
  have wc := w.c
  have n0 := hF.2.2
  refine f_X11_coin_0 hF _ _ _ _ ?_
  rw [tr.T]
  refine ⟨fun q => c_bad hF ci wz hc (hp0.mpr (by omega)) cq, fun q => ⟨fun q2 => c_bad hF ci wz hc (hp0.mpr (by omega)) cq, fun q2 => c_areYears hF (fun y hy => ⟨y, rfl, hF, fun q3 => ?_, fun q3 => ?_⟩)⟩⟩
  · have yr := (rp_of hy).1.mp (by have := (rp_of hy).2.2; omega)
    have hv : p = 1 := hp1.mpr ⟨⟨by omega, by omega⟩, yr⟩
    have ht : In (Ds n 99 11) t := ⟨by omega, by omega⟩
    refine c_barrier hF tr w ht (fun x hx => ⟨x, rfl, hF, fun q4 => ?_, fun q4 => ?_⟩)
    · have hx' : gi h 2 1 < 300 ∧ slotF (Ds n) t s = 0 ∧ Ds n 112 (40 * t + s) = -5 := by
        have := slotF_r (D := Ds n) (t := t) (s := s)
        rcases hx with h1 | ⟨h1, ⟨h2, h3⟩ | ⟨h2, ⟨h3, h4⟩ | ⟨h3, h4⟩⟩⟩
        · omega
        · omega
        · omega
        · exact ⟨h1, h2, h3⟩
      have hs := slotF0.mp hx'.2.1
      have q40 := (w.2.2.2.1 t ht).2.1
      have s1 := hs.1
      have s2 := hs.2
      have eo : nn (al h 13 6) = nn h + 1 := rfl
      have kp2 : ∀ r, r < nn h → Kp r h (si (si (al (al h 13 6) 0 2) (nn (al h 13 6)) 0 a) (nn (al h 13 6)) 1 b) := fun r hr => (((Kp.refl.al hr).al (by rw [eo]; omega)).si (by rw [eo]; omega)).si (by rw [eo]; omega)
      have so : sh (si (si (al (al h 13 6) 0 2) (nn (al h 13 6)) 0 a) (nn (al h 13 6)) 1 b) (nn h) = (13, 6) := by
        show sh (al (al h 13 6) 0 2) (nn h) = _
        rw [sh_al_p (by rw [eo]; omega)]; exact sh_al_e
      refine c_init (G := fun x => G x ∨ nn h ≤ x ∧ x < nn h + 2) (t := t2F 1 0 a b) (hF.al.al) n0 so sh_al_e (by rw [eo]; omega) (Or.inr ⟨by omega, by omega⟩) (Or.inr ⟨by rw [eo]; omega, by rw [eo]; omega⟩) rfl rfl (fun i hi => ?_) (fun q => absurd q (by decide)) (fun h9 F9 k9 nn9 us9 fo9 => ⟨rfl, F9, ?_⟩)
      · have i0 := hi.1
        have i1 : i < 2 := hi.2
        by_cases e : i = 0
        · rw [e, gi_si_k (by decide), gi_si_e]; rfl
        · have e1 : i = 1 := by omega
          rw [e1, gi_si_e]; rfl
      · have nn9' : nn h9 = nn h + 2 := nn9
        have us9' : us h9 = us h + 6 + 2 := us9
        refine c_putNew F9 hF m (by omega) (by omega) (fun r hr => (kp2 r hr).trans (k9 r (by omega))) ⟨by omega, by omega⟩ (by omega) (by rw [nn9']; exact fo9) ⟨by show (0 : Int) ≤ 2; decide, by show (2 : Int) ≤ 40; decide⟩ ⟨by omega, by omega⟩ ⟨by omega, by omega⟩ (fun h' G' F' m' _ => ⟨rfl, F', ?_⟩)
        exact c_did (A := aF 7 t s a b 0 0) F' m' ci hc (by omega) (by omega) (Or.inr rfl) (RC_place w rc ht hs hx'.2.2 (Or.inl rfl)) (Or.inr ⟨rfl, by rw [aF0]; decide, sPlace_gsm⟩) hv (ansC (oPlace_of (Or.inr ⟨hx'.2.1, Or.inr ⟨hx'.2.2, rfl⟩⟩))) (dnP (by rw [aF0]; decide) (by decide)) (by rw [aF0]; decide) cq
    · rcases hx with ⟨h1, h2⟩ | ⟨h1, h2⟩
      · rw [h2]; exact c_full hF ci wz hc hv h1 cq
      · have := slotF_r (D := Ds n) (t := t) (s := s)
        refine c_neg hF ci wz hc hv h1 (by omega) (by omega) (ansC (oPlace_of ?_)) cq
        rcases h2 with h2 | ⟨h2, h3 | h3⟩
        · exact Or.inl h2
        · exact Or.inr ⟨h2, Or.inl h3⟩
        · exact absurd h3.2 q4
  · refine c_bad hF ci wz hc (hp0.mpr (fun r => ?_)) cq
    have := (rp_of hy).1.mpr r.2
    omega
