/-! sherds, bag, take in the class -/
def tSh (b : Int → Int) (ty v : Int) : Int → Int := fun i => if i = -3 then 0 else if i = -2 then 0 else if i = -1 then 8 else if i = ty then v else b i
theorem tSh_i {b : Int → Int} {ty v i : Int} (h : 0 ≤ i) : tSh b ty v i = if i = ty then v else b i := by
  unfold tSh; rw [if_neg (by omega), if_neg (by omega), if_neg (by omega)]
theorem c_numberAt {h : AH} {Q : Option AV → AH → Prop} {G : Nat → Prop} {o : Nat} {t : Int → Int} {i : Int} (hF : Fix h) (fo : FO h G o t) (hi : In (t (-1)) i) (cont : Q (some (vI (t i))) h) : Ok 21 0 [some (vR (some o)), some (vI i)] [] h Q := by
  obtain ⟨f1, f2, f3, f4, ⟨a, f5, f6, f7, f8⟩, f9⟩ := fo
  have i0 := hi.1
  have i1 := hi.2
  refine f_X3_numberAt_0 hF _ _ ⟨fun q => by omega, fun _ => ⟨by rw [f2], a, f5, by rw [f7]; show (0 : Nat) < 10; decide, fun q => ?_, fun _ => ⟨by rw [f2], a, f5, ⟨by rw [f7], i0, by rw [f7]; exact i1⟩, by rw [f8 i hi]; exact cont⟩⟩⟩
  rw [f7] at q
  exact absurd (show t (-1) ≤ i from q) (by omega)
theorem c_withSherds {h : AH} {Q : Option AV → AH → Prop} {G : Nat → Prop} {q : Option Nat} {b : Int → Int} {ty v : Int} (hF : Fix h) (hG : ∀ o, G o → 136 ≤ o ∧ o < nn h) (hq : (q = none ∧ ∀ i, In 8 i → b i = 0) ∨ ∃ o, q = some o ∧ FO h G o b ∧ b (-1) = 8) (hty : In 8 ty)
    (cont : ∀ h' o', Fix h' → (∀ r, r < nn h → Kp r h h') → nn h' = nn h + 2 → (us h' : Int) = us h + 14 → FO h' (fun x => G x ∨ nn h ≤ x ∧ x < nn h') o' (tSh b ty v) → Q (some (vR (some o'))) h') : Ok 23 0 [some (vR q), some (vI ty), some (vI v), none] [] h Q := by
  have y0 := hty.1
  have y1 := hty.2
  have n0 := hF.2.2
  refine f_X3_withSherds_0 hF _ _ _ ⟨fun e => ⟨fun q2 => by omega, fun _ => ⟨fun q2 => by omega, fun _ => ⟨⟨y0, y1⟩, ?_⟩⟩⟩, fun a e => ?_⟩
  · have eo : nn (si (al h 0 8) (nn h) ty v) = nn h + 1 := rfl
    have b0 : ∀ i, In 8 i → b i = 0 := by
      rcases hq with hq | ⟨o, hq, _⟩
      · exact hq.2
      · rw [e] at hq; cases hq
    rw [eo]
    refine c_init (G := fun x => G x ∨ nn h ≤ x ∧ x < nn h + 2) (t := tSh b ty v) (Fix.al (h := si (al h 0 8) (nn h) ty v) hF.al) (by omega) sh_al_e (by rw [sh_al_p (by rw [eo]; omega)]; exact sh_al_e) (by omega) (Or.inr ⟨by omega, by omega⟩) (Or.inr ⟨by omega, by omega⟩) rfl rfl (fun i hi => ?_) (fun q => absurd q (by decide)) (fun h9 F9 k9 nn9 us9 fo9 => ⟨rfl, F9, ?_⟩)
    · have hi' : In 8 i := hi
      rw [gi_al_p (by rw [eo]; omega), tSh_i hi'.1]
      by_cases z : i = ty
      · rw [z, gi_si_e, if_pos rfl]
      · rw [gi_si_k z, if_neg z, b0 i hi']
        exact if_pos rfl
    · have nn9' : nn h9 = nn h + 2 := nn9
      have us9' : us h9 = us h + 8 + 6 := us9
      exact cont h9 _ F9 (fun r hr => (((Kp.refl.al hr).si (by omega)).al (by rw [eo]; omega)).trans (k9 r (by omega))) nn9' (by omega) (by rw [nn9']; exact fo9)
  · rcases hq with hq | ⟨o, hq, fo, b8⟩
    · rw [e] at hq; cases hq.1
    · rw [e] at hq
      cases hq
      obtain ⟨f1, f2, f3, f4, ⟨a2, f5, f6, f7, f8⟩, f9⟩ := fo
      have g2 := (hG a2 f6).2
      rw [b8] at f7 f8
      have eo : nn (si (alf h 8 (gi h a2)) (nn h) ty v) = nn h + 1 := rfl
      refine ⟨by rw [f2], a2, f5, by rw [f7], by rw [sh_alf_e], fun q2 => by omega, fun _ => ?_⟩
      rw [f7]
      refine ⟨fun q2 => absurd (show (8 : Int) ≤ ty from q2) (by omega), fun _ => ⟨⟨y0, y1⟩, ?_⟩⟩
      show Ok 20 0 [some (vR (some (nn h + 1))), _, _, _, _] [] (al (si (alf h 8 (gi h a2)) (nn h) ty v) 13 6) _
      refine c_init (G := fun x => G x ∨ nn h ≤ x ∧ x < nn h + 2) (t := tSh b ty v) (Fix.al (h := si (alf h 8 (gi h a2)) (nn h) ty v) (hF.alf (f := gi h a2))) (by omega) sh_al_e (by rw [sh_al_p (by rw [eo]; omega)]; exact sh_alf_e (f := gi h a2)) (by omega) (Or.inr ⟨by omega, by omega⟩) (Or.inr ⟨by omega, by omega⟩) rfl rfl (fun i hi => ?_) (fun q => absurd q (by decide)) (fun h9 F9 k9 nn9 us9 fo9 => ⟨rfl, F9, ?_⟩)
      · have hi' : In 8 i := hi
        rw [gi_al_p (by rw [eo]; omega), tSh_i hi'.1]
        by_cases z : i = ty
        · rw [z, gi_si_e, if_pos rfl]
        · rw [gi_si_k z, if_neg z, ← f8 i hi']
          exact if_pos rfl
      · have nn9' : nn h9 = nn h + 2 := nn9
        have us9' : us h9 = us h + 8 + 6 := us9
        have kaf : ∀ r, r < nn h → Kp r h (alf h 8 (gi h a2)) := fun r hr => ⟨funext fun k => gi_alf_p hr, funext fun k => gl_alf_p hr, funext fun k => gf_alf_p hr, funext fun k => gr_alf_p hr, sh_alf_p hr⟩
        exact cont h9 _ F9 (fun r hr => (((kaf r hr).si (by omega)).al (by rw [eo]; omega)).trans (k9 r (by omega))) nn9' (by omega) (by rw [nn9']; exact fo9)
theorem RC_sherds {S D : DD} {T : FD} {t s ty v : Int} {b : Int → Int} (w : WF D) (r : RC S T D) (ht : In (D 99 11) t) (hs : In (D 109 t) s) (h5 : D 112 (40 * t + s) = -5 ∨ D 112 (40 * t + s) = 0) (hty : In 8 ty) (hb : ∀ i, In 8 i → b i = D 116 (8 * (40 * t + s) + i)) : RC (up (up S 68 0 (S 68 0 + 1)) 58 (40 * t + s) (S 68 0)) (tNew T (S 68 0) (tSh b ty (D 116 (8 * (40 * t + s) + ty) + v))) (sSherds D t s ty v) := by
  have m0 : D 113 (40 * t + s) = 0 := by
    have := (w.2.2.2.2.2.1 t s ht hs).2.2.1
    by_cases z : D 113 (40 * t + s) = 0
    · exact z
    · have := this z; omega
  have hm := r.2.2.2.1.1
  have y0 := hty.1
  have y1 := hty.2
  refine RC_slot w (r.T (T' := tNew T (S 68 0) (tSh b ty (D 116 (8 * (40 * t + s) + ty) + v))) (fun i _ h => tNew_o (by omega))) ht hs (fun o h1 h2 => by rw [up_r h1, up_r h2]) (fun j hj => by rw [up_k hj, up_o (by decide)]) (by rw [up_o (by decide), up_e]; omega) ?_ (fun c _ => by unfold sSherds; rw [up_o (by decide), up_o (by decide)]) (fun o h1 h2 => by unfold sSherds; rw [up_r (by omega), up_r (by omega)]) (fun o h1 h2 j hj => by unfold sSherds; rw [up_o (by omega)]; unfold up; rw [if_neg (fun q => hj q.2)]) (fun i hi => by unfold sSherds; rw [up_k (by omega), up_o (by decide)]) (fun i _ => by unfold sSherds; rw [up_o (by decide), up_o (by decide)])
  rw [up_e, up_o (p := 68) (o := 58) (by decide), up_e]
  have e2 : sSherds D t s ty v 112 (40 * t + s) = 0 := by unfold sSherds; rw [up_o (by decide), up_e]
  have e3 : sSherds D t s ty v 113 (40 * t + s) = 0 := by unfold sSherds; rw [up_o (by decide), up_o (by decide)]; exact m0
  unfold SlotR
  rw [e2, e3, tNew_e]
  refine Or.inr ⟨hm, by omega, by omega, rfl, rfl, fun _ => ⟨rfl, fun i hi => ?_⟩, fun q => by omega, fun q => by omega, fun q => by omega⟩
  rw [tSh_i hi.1]
  unfold sSherds
  by_cases z : i = ty
  · rw [if_pos z, z, up_e]
  · rw [if_neg z, up_k (by omega), up_o (by decide)]; exact hb i hi
theorem c_sherds {h : AH} {Q : Option AV → AH → Prop} {n : Nat} {Ds : Nat → DD} {Z : DD} {c p t s ty v : Int} (hF : Fix h) (ci : CInv h n Ds Z c) (w : WF (Ds n)) (wz : WZ Z c) (hc : c ≤ 1000) (hp : rp ((0 ≤ t ∧ t < Ds n 99 11) ∧ -100 ≤ v ∧ v ≤ 100) p)
    (cq : CQ h n Ds Z c (aF 9 t s ty v 0 0) p Q) : Ok 156 0 [some (vR (some 1)), some (vI t), some (vI s), some (vI ty), some (vI v), none, none, none] [] h Q := by
  obtain ⟨hp1, hp0, hp01⟩ := rp_of hp
  obtain ⟨G, S, T, m, rc⟩ := ci.mid
  obtain ⟨ed1, ed2, e21, n300⟩ := ci.ed
  have tr := m.tr (Or.inl (by decide)) rc
  have wc := w.c
  have n0 := hF.2.2
  have hG : ∀ o, G o → 136 ≤ o ∧ o < nn h := by
    obtain ⟨Ss, E, L, w, cc, m1, _⟩ := m
    exact m1.1
  refine f_X11_sherds_0 hF _ _ _ _ ?_
  rw [tr.T]
  refine ⟨fun q => c_bad hF ci wz hc (hp0.mpr (by omega)) cq, fun q => ⟨fun q2 => c_bad hF ci wz hc (hp0.mpr (by omega)) cq, fun q2 => ⟨fun q3 => c_bad hF ci wz hc (hp0.mpr (by omega)) cq, fun q3 => ⟨fun q4 => ⟨fun q5 => ?_, fun q5 => c_full hF ci wz hc (hp1.mpr (by omega)) q5 cq⟩, fun q4 => c_bad hF ci wz hc (hp0.mpr (by omega)) cq⟩⟩⟩⟩
  have hv : p = 1 := hp1.mpr (by omega)
  have ht : In (Ds n 99 11) t := ⟨by omega, by omega⟩
  have sr := slotF_r (D := Ds n) (t := t) (s := s)
  refine c_lookForMore hF tr w ht ⟨_, rfl, hF, fun q6 => ?_, fun q6 => ?_⟩
  · have g : slotF (Ds n) t s = 0 ∧ (Ds n 112 (40 * t + s) = -5 ∨ Ds n 112 (40 * t + s) = 0) := by
      unfold morF at q6
      split at q6
      · omega
      · split at q6
        · omega
        · omega
    have hs := slotF0.mp g.1
    have q40 := (w.2.2.2.1 t ht).2.1
    have s1 := hs.1
    have s2 := hs.2
    have ws := w.2.2.2.2.2.1 t s ht hs
    have oS : ∀ x, (ty < 0 ∨ 7 < ty) ∧ x = -12 ∨ (0 ≤ ty ∧ ty ≤ 7) ∧ ((Ds n 116 (8 * (40 * t + s) + ty) + v < 0 ∨ 100 < Ds n 116 (8 * (40 * t + s) + ty) + v) ∧ x = -2 ∨ (0 ≤ Ds n 116 (8 * (40 * t + s) + ty) + v ∧ Ds n 116 (8 * (40 * t + s) + ty) + v ≤ 100) ∧ x = Ds n 116 (8 * (40 * t + s) + ty) + v) → x = oSherds (Ds n) t s ty v := fun x hx => by
      unfold oSherds
      rw [if_neg (by omega), if_neg (by omega)]
      rcases hx with ⟨x1, x2⟩ | ⟨x1, ⟨x2, x3⟩ | ⟨x2, x3⟩⟩
      · rw [if_pos x1]; exact x2
      · rw [if_neg (by omega), if_pos x2]; exact x3
      · rw [if_neg (by omega), if_neg (by omega)]; exact x3
    refine ⟨fun q7 => c_neg hF ci wz hc hv q5 (by omega) (by omega) (ansH (oS _ (Or.inl ⟨Or.inl q7, rfl⟩))) cq, fun q7 => ⟨fun q8 => c_findAt hF tr w (fun o fa => ⟨o, rfl, hF, ?_⟩), fun q8 => c_neg hF ci wz hc hv q5 (by omega) (by omega) (ansH (oS _ (Or.inl ⟨Or.inr (by omega), rfl⟩))) cq⟩⟩
    have hty : In 8 ty := ⟨by omega, by omega⟩
    have wb := ws.2.2.2.1 ty hty
    -- the end that both share
    have go : ∀ (b : Int → Int), ((o = none ∧ ∀ i, In 8 i → b i = 0) ∨ ∃ o', o = some o' ∧ FO h G o' b ∧ b (-1) = 8) → (∀ i, In 8 i → b i = Ds n 116 (8 * (40 * t + s) + i)) → 0 ≤ Ds n 116 (8 * (40 * t + s) + ty) + v → Ds n 116 (8 * (40 * t + s) + ty) + v ≤ 100 → Ok 23 0 [some (vR o), some (vI ty), some (vI (Ds n 116 (8 * (40 * t + s) + ty) + v)), none] [] h (fun v_1 h_16 => ∃ q_17 : Option Nat, v_1 = some (vR q_17) ∧ Fix h_16 ∧ Ok 71 0 [some (vR (some 47)), some (vI t), some (vI s), some (vR q_17), none] [] h_16 (fun v_1 h_18 => v_1 = none ∧ Fix h_18 ∧ Ok 131 0 [some (vR (some 1)), some (vI (Ds n 116 (8 * (40 * t + s) + ty) + v))] [] h_18 (Qx Q))) := fun b h1 h2 l1 l2 => by
      refine c_withSherds hF hG h1 hty (fun h9 o' F9 k9 nn9 us9 fo9 => ⟨some o', rfl, F9, ?_⟩)
      refine c_putNew (t := tSh b ty (Ds n 116 (8 * (40 * t + s) + ty) + v)) F9 hF m (by omega) (by omega) k9 ⟨by omega, by omega⟩ (by omega) fo9 ⟨by show (0 : Int) ≤ 8; decide, by show (8 : Int) ≤ 40; decide⟩ ⟨by omega, by omega⟩ ⟨by omega, by omega⟩ (fun h' G' F' m' _ => ⟨rfl, F', ?_⟩)
      exact c_did (A := aF 9 t s ty v 0 0) F' m' ci hc (by omega) (by omega) (Or.inr rfl) (RC_sherds w rc ht hs g.2 hty h2) (Or.inr ⟨rfl, by rw [aF0]; decide, rfl, rfl, rfl, rfl, rfl⟩) hv (ansH (oS _ (Or.inr ⟨⟨by omega, by omega⟩, Or.inr ⟨⟨l1, l2⟩, rfl⟩⟩))) (dnP (by rw [aF0]; decide) l1) (by rw [aF0]; decide) cq
    have ng : (Ds n 116 (8 * (40 * t + s) + ty) + v < 0 ∨ 100 < Ds n 116 (8 * (40 * t + s) + ty) + v) → Ok 130 0 [some (vR (some 1)), some (vI (-2))] [] h (Qx Q) := fun l => c_neg hF ci wz hc hv q5 (by omega) (by omega) (ansH (oS _ (Or.inr ⟨⟨by omega, by omega⟩, Or.inl ⟨l, rfl⟩⟩))) cq
    refine ⟨fun e => ?_, fun a e => ?_⟩
    · have h5 : Ds n 112 (40 * t + s) = -5 := by
        subst e
        rcases FA_none fa with f | f | f
        · exact absurd ht f
        · exact absurd g.1 f
        · exact f
      have z : ∀ i, In 8 i → Ds n 116 (8 * (40 * t + s) + i) = 0 := fun i hi => (ws.2.2.2.1 i hi).2.2 (by omega)
      have zt := z ty hty
      have ev : (0 : Int) + v = Ds n 116 (8 * (40 * t + s) + ty) + v := by rw [zt]
      rw [ev]
      subst e
      exact ⟨⟨by omega, by omega⟩, fun l => ng (Or.inl l), fun l => ⟨fun l2 => go (fun _ => 0) (Or.inl ⟨rfl, fun _ _ => rfl⟩) (fun i hi => (z i hi).symm) (by omega) l2, fun l2 => ng (Or.inr (by omega))⟩⟩
    · subst e
      obtain ⟨_, _, _, f5, gk, g0, g1⟩ := FO.knd fa
      rcases fa with ⟨fa, _⟩ | ⟨o', fa, _, _, _, _, hid, fo, hl, sl⟩
      · cases fa
      cases fa
      have k0 : Ds n 112 (40 * t + s) = 0 := by omega
      obtain ⟨z1, z2⟩ : T (S 58 (40 * t + s)) (-1) = 8 ∧ ∀ i, In 8 i → T (S 58 (40 * t + s)) i = Ds n 116 (8 * (40 * t + s) + i) := by
        rcases sl with sl | sl
        · omega
        · exact sl.2.2.2.2.2.1 k0
      refine ⟨by rw [gk], c_numberAt hF fo (by rw [z1]; exact hty) ⟨_, rfl, hF, ?_⟩⟩
      rw [z2 ty hty]
      exact ⟨⟨by omega, by omega⟩, fun l => ng (Or.inl l), fun l => ⟨fun l2 => go (T (S 58 (40 * t + s))) (Or.inr ⟨a, rfl, fo, z1⟩) z2 (by omega) l2, fun l2 => ng (Or.inr (by omega))⟩⟩
  · have g : morF (Ds n) t s 0 = oSherds (Ds n) t s ty v ∧ -100 ≤ morF (Ds n) t s 0 ∧ morF (Ds n) t s 0 < 0 ∧ morF (Ds n) t s 0 ≠ -4 := by
      unfold morF oSherds at *
      split
      · exact ⟨rfl, by omega, by omega, by omega⟩
      · rename_i z
        rw [if_neg z] at q6
        split
        · exact ⟨rfl, by omega, by omega, by omega⟩
        · rename_i z2
          rw [if_neg z2] at q6
          exact absurd rfl q6
    exact c_neg hF ci wz hc hv q5 ⟨g.2.1, g.2.2.1⟩ g.2.2.2 (ansH g.1) cq
