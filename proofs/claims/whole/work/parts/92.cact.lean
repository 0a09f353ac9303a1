/-! join, tray, lose in the class -/
theorem RC_join {S D : DD} {T : FD} {x y : Int} {t to : Int} (r : RC S T D) (hx : x = uo D t) (hy : y = uo D to) : RC (up (up (up S 60 (D 99 22) x) 62 (D 99 22) y) 66 0 (D 99 22 + 1)) T (sJoin D t to) := by
  obtain ⟨r1, r2, r3, r4, ⟨j1, j2⟩⟩ := r
  subst hx hy
  have eS : ∀ o, o ≠ 60 → o ≠ 62 → o ≠ 66 → up (up (up S 60 (D 99 22) (uo D t)) 62 (D 99 22) (uo D to)) 66 0 (D 99 22 + 1) o = S o := fun o h1 h2 h3 => by rw [up_r h3, up_r h2, up_r h1]
  have eD : ∀ o, o ≠ 118 → o ≠ 119 → o ≠ 99 → sJoin D t to o = D o := fun o h1 h2 h3 => by unfold sJoin; rw [up_r h3, up_r h2, up_r h1]
  have e9 : ∀ i, i ≠ 22 → sJoin D t to 99 i = D 99 i := fun i hi => by unfold sJoin; rw [up_k hi, up_o (by decide), up_o (by decide)]
  refine ⟨RCu_c r1 (fun o _ => eS o (by omega) (by omega) (by omega)) (e9 1 (by decide)) (fun o _ _ => eD o (by omega) (by omega) (by omega)), RCr_c r2 (fun o _ _ => eS o (by omega) (by omega) (by omega)) (e9 7 (by decide)) (fun o _ _ => eD o (by omega) (by omega) (by omega)), RCt_c r3 (fun o _ => eS o (by omega) (by omega) (by omega)) (e9 11 (by decide)) (fun o _ _ => eD o (by omega) (by omega) (by omega)), RCs_c r4 (fun o _ => eS o (by omega) (by omega) (by omega)) (e9 11 (by decide)) (fun o _ => eD o (by omega) (by omega) (by omega)), by unfold sJoin; rw [up_e, up_e], fun j hj => ?_⟩
  have e22 : sJoin D t to 99 22 = D 99 22 + 1 := by unfold sJoin; rw [up_e]
  rw [e22] at hj
  have a1 : up (up (up S 60 (D 99 22) (uo D t)) 62 (D 99 22) (uo D to)) 66 0 (D 99 22 + 1) 60 = uq (S 60) (D 99 22) (uo D t) := by rw [up_r (by decide), up_r (by decide), up_f]
  have a2 : up (up (up S 60 (D 99 22) (uo D t)) 62 (D 99 22) (uo D to)) 66 0 (D 99 22 + 1) 62 = uq (S 62) (D 99 22) (uo D to) := by rw [up_r (by decide), up_f, up_r (by decide)]
  have a3 : sJoin D t to 118 = uq (D 118) (D 99 22) (uo D t) := by unfold sJoin; rw [up_r (by decide), up_r (by decide), up_f]
  have a4 : sJoin D t to 119 = uq (D 119) (D 99 22) (uo D to) := by unfold sJoin; rw [up_r (by decide), up_f, up_r (by decide)]
  rw [a1, a2, a3, a4]
  unfold uq
  by_cases e : j = D 99 22
  · rw [if_pos e, if_pos e, if_pos e, if_pos e]; exact ⟨rfl, rfl⟩
  · rw [if_neg e, if_neg e, if_neg e, if_neg e]; exact j2 j ⟨hj.1, by have := hj.2; omega⟩
theorem heldF_r {D : DD} {t s kd : Int} : 0 ≤ heldF D t s kd ∧ heldF D t s kd ≤ 3 := by
  unfold heldF
  have := slotF_r (D := D) (t := t) (s := s)
  split
  · omega
  · split
    · omega
    · split <;> omega
theorem c_join {h : AH} {Q : Option AV → AH → Prop} {n : Nat} {Ds : Nat → DD} {Z : DD} {c p t s to ot : Int} (hF : Fix h) (ci : CInv h n Ds Z c) (w : WF (Ds n)) (wz : WZ Z c) (hc : c ≤ 1000) (hp : rp ((0 ≤ t ∧ t < Ds n 99 11) ∧ 0 ≤ to ∧ to < Ds n 99 11) p)
    (cq : CQ h n Ds Z c (aF 16 t s to ot 0 0) p Q) : Ok 172 0 [some (vR (some 1)), some (vI t), some (vI s), some (vI to), some (vI ot), none] [] h Q := by
  obtain ⟨hp1, hp0, hp01⟩ := rp_of hp
  obtain ⟨G, S, T, m, rc⟩ := ci.mid
  obtain ⟨ed1, ed2, e21, n300⟩ := ci.ed
  have tr := m.tr (Or.inl (by decide)) rc
  have wc := w.c
  have e66 : gi h 66 0 = Ds n 99 22 := by rw [tr.1 66 1 0 (by decide) in10]; exact rc.2.2.2.2.1
  have h1 := heldF_r (D := Ds n) (t := t) (s := s) (kd := 0)
  have h2 := heldF_r (D := Ds n) (t := to) (s := ot) (kd := 0)
  refine f_X11_join_0 hF _ _ _ _ ?_
  rw [tr.T]
  refine ⟨fun q => c_bad hF ci wz hc (hp0.mpr (by omega)) cq, fun q => ⟨fun q2 => c_bad hF ci wz hc (hp0.mpr (by omega)) cq, fun q2 => ⟨fun q3 => c_bad hF ci wz hc (hp0.mpr (by omega)) cq, fun q3 => ⟨fun q4 => c_bad hF ci wz hc (hp0.mpr (by omega)) cq, fun q4 => ⟨fun q5 => ?_, fun q5 => c_full hF ci wz hc (hp1.mpr (by omega)) q5 cq⟩⟩⟩⟩⟩
  have hv : p = 1 := hp1.mpr (by omega)
  refine c_lookFor hF tr w ⟨by omega, by omega⟩ (by decide) ⟨_, rfl, hF, fun q6 => ?_, fun q6 => c_lookFor hF tr w ⟨by omega, by omega⟩ (by decide) ⟨_, rfl, hF, fun q7 => ?_, fun q7 => ?_⟩⟩
  · have n0 : heldF (Ds n) t s 0 ≠ 0 := fun e => q6 (by rw [e]; rfl)
    rw [lkF_n n0]
    refine c_neg hF ci wz hc hv q5 (by omega) (by omega) ?_ cq
    unfold AnsA; simp [aF0, aF1, aF2, aF3, aF4, oJoin, n0]
  · have m0 : heldF (Ds n) t s 0 = 0 := (lkF0 h1.1).mp (Decidable.not_not.mp q6)
    have n0 : heldF (Ds n) to ot 0 = 0 := (lkF0 h2.1).mp q7
    rw [e66]
    refine ⟨fun q8 => c_unitOf hF tr w ⟨by omega, by omega⟩ ⟨_, rfl, hF, c_unitOf hF tr w ⟨by omega, by omega⟩ ⟨_, rfl, hF, ?_⟩⟩, fun q8 => ?_⟩
    · refine f_X7_addJoin_0 hF _ _ ?_
      rw [e66]
      refine c_putM hF m (by omega) (N := 80) (by decide) (by decide) ⟨by omega, by omega⟩ (fun h1 F1 m1 _ => ⟨rfl, F1, c_putM F1 m1 (by omega) (N := 80) (by decide) (by decide) ⟨by omega, by omega⟩ (fun h2 F2 m2 _ => ⟨rfl, F2, ⟨by omega, by omega⟩, c_putM F2 m2 (by omega) (N := 1) (by decide) (by decide) in10 (fun h3 F3 m3 _ => ⟨rfl, F3, _, rfl, F3, ?_⟩)⟩)⟩)
      refine c_did F3 m3 ci hc (by omega) (by omega) (Or.inl rfl) (RC_join rc rfl rfl) (Or.inr ⟨rfl, by rw [aF0]; decide, rfl, rfl, rfl, rfl, rfl⟩) hv ?_ ?_ (by rw [aF0]; decide) cq
      · unfold AnsA; simp [aF0, aF1, aF2, aF3, aF4, oJoin, n0, m0]; omega
      · unfold DnA; simp [aF0]; omega
    · refine c_neg hF ci wz hc hv q5 (by omega) (by omega) ?_ cq
      unfold AnsA; simp [aF0, aF1, aF2, aF3, aF4, oJoin, n0, m0]; omega
  · have m0 : heldF (Ds n) t s 0 = 0 := (lkF0 h1.1).mp (Decidable.not_not.mp q6)
    have n0 : heldF (Ds n) to ot 0 ≠ 0 := fun e => q7 (by rw [e]; rfl)
    rw [lkF_n n0]
    refine c_neg hF ci wz hc hv q5 (by omega) (by omega) ?_ cq
    unfold AnsA; simp [aF0, aF1, aF2, aF3, aF4, oJoin, n0, m0]
/-- a new tray, by its rows -/
theorem sNewE {D : DD} {u n : Int} : (∀ c, c ≠ 11 → c ≠ 37 → sNew D u n 99 c = D 99 c) ∧ sNew D u n 99 11 = D 99 11 + 1 ∧ (∀ o, o < 99 ∨ 99 < o ∧ o < 108 ∨ 116 < o → sNew D u n o = D o) ∧ (∀ o, 108 ≤ o → o ≤ 111 → ∀ j, j ≠ D 99 11 → sNew D u n o j = D o j) ∧ sNew D u n 108 (D 99 11) = u ∧ sNew D u n 109 (D 99 11) = n ∧ sNew D u n 110 (D 99 11) = -5 ∧ sNew D u n 111 (D 99 11) = -5 ∧
    (∀ o, 112 ≤ o → o ≤ 115 → ∀ j, j < 40 * D 99 11 → sNew D u n o j = D o j) ∧ (∀ j, 40 * D 99 11 ≤ j → j < 40 * D 99 11 + 40 → sNew D u n 112 j = -5) ∧ (∀ i, i < 320 * D 99 11 → sNew D u n 116 i = D 116 i) := by
  obtain ⟨T, eT⟩ : ∃ T, T = D 99 11 := ⟨_, rfl⟩
  have eN : sNew D u n = up (up (empR (up (up (up (up D 108 T u) 109 T n) 110 T (-5)) 111 T (-5)) (40 * T) (40 * T + 40)) 99 11 (T + 1)) 99 37 1 := by rw [eT]; rfl
  rw [eN, ← eT]
  refine ⟨fun c h1 h2 => ?_, ?_, fun o h => funext fun j => ?_, fun o h1 h2 j hj => ?_, ?_, ?_, ?_, ?_, fun o h1 h2 j hj => ?_, fun j h1 h2 => ?_, fun i hi => ?_⟩
  · rw [up_k h2, up_k h1, empR_o (by omega), up_o (by decide), up_o (by decide), up_o (by decide), up_o (by decide)]
  · rw [up_k (by decide), up_e]
  · rw [up_o (by omega), up_o (by omega), empR_o (by omega), up_o (by omega), up_o (by omega), up_o (by omega), up_o (by omega)]
  · rw [up_o (by omega), up_o (by omega), empR_o (by omega)]
    unfold up
    rw [if_neg (fun q => hj q.2), if_neg (fun q => hj q.2), if_neg (fun q => hj q.2), if_neg (fun q => hj q.2)]
  · rw [up_o (by decide), up_o (by decide), empR_o (by omega), up_o (by decide), up_o (by decide), up_o (by decide), up_e]
  · rw [up_o (by decide), up_o (by decide), empR_o (by omega), up_o (by decide), up_o (by decide), up_e]
  · rw [up_o (by decide), up_o (by decide), empR_o (by omega), up_o (by decide), up_e]
  · rw [up_o (by decide), up_o (by decide), empR_o (by omega), up_e]
  · rw [up_o (by omega), up_o (by omega), empR_s ⟨h1, h2⟩ (by omega), up_o (by omega), up_o (by omega), up_o (by omega), up_o (by omega)]
  · rw [up_o (by decide), up_o (by decide), empR_112, if_pos ⟨h1, h2⟩]
  · rw [up_o (by decide), up_o (by decide), empR_116, if_neg (by omega), up_o (by decide), up_o (by decide), up_o (by decide), up_o (by decide)]
theorem SlotR_c {T : FD} {m id k : Int} {D D' : DD} (h : SlotR T m id D k) (d : ∀ o, 112 ≤ o → o ≤ 115 → D' o k = D o k) (d6 : ∀ i, In 8 i → D' 116 (8 * k + i) = D 116 (8 * k + i)) (d7 : D 112 k = 3 → ∀ i, In (D 114 k) i → D' 117 (40 * k + i) = D 117 (40 * k + i)) : SlotR T m id D' k := by
  unfold SlotR
  rw [d 112 (by decide) (by decide), d 113 (by decide) (by decide), d 114 (by decide) (by decide), d 115 (by decide) (by decide)]
  rcases h with h | ⟨h1, h2, h3, h4, h5, h6, h7, h8, h9⟩
  · exact Or.inl h
  · exact Or.inr ⟨h1, h2, h3, h4, h5, fun q => ⟨(h6 q).1, fun i hi => by rw [d6 i hi]; exact (h6 q).2 i hi⟩, h7, fun q => ⟨(h8 q).1, fun i hi => by rw [d7 q i hi]; exact (h8 q).2 i hi⟩, h9⟩
theorem RC_new {S D : DD} {T : FD} {u n : Int} (w : WF D) (r : RC S T D) (h60 : D 99 11 < 60) (hn : 0 ≤ n ∧ n ≤ 40) : RC (up (up (up S 50 (D 99 11) u) 52 (D 99 11) n) 64 0 (D 99 11 + 1)) T (sNew D u n) := by
  obtain ⟨r1, r2, ⟨t1, t2, t3⟩, ⟨s1, s2, s3⟩, r5⟩ := r
  have wc := w.c
  obtain ⟨ec, e11, er, ot, e108, e109, e110, e111, os, n112, e116⟩ := sNewE (D := D) (u := u) (n := n)
  generalize sNew D u n = E at ec e11 er ot e108 e109 e110 e111 os n112 e116 ⊢
  have eS : ∀ o, o ≠ 50 → o ≠ 52 → o ≠ 64 → up (up (up S 50 (D 99 11) u) 52 (D 99 11) n) 64 0 (D 99 11 + 1) o = S o := fun o h1 h2 h3 => by rw [up_r h3, up_r h2, up_r h1]
  have a1 : up (up (up S 50 (D 99 11) u) 52 (D 99 11) n) 64 0 (D 99 11 + 1) 50 = uq (S 50) (D 99 11) u := by rw [up_r (by decide), up_r (by decide), up_f]
  have a2 : up (up (up S 50 (D 99 11) u) 52 (D 99 11) n) 64 0 (D 99 11 + 1) 52 = uq (S 52) (D 99 11) n := by rw [up_r (by decide), up_f, up_r (by decide)]
  refine ⟨RCu_c r1 (fun o _ => eS o (by omega) (by omega) (by omega)) (ec 1 (by decide) (by decide)) (fun o _ _ => er o (by omega)), RCr_c r2 (fun o _ _ => eS o (by omega) (by omega) (by omega)) (ec 7 (by decide) (by decide)) (fun o _ _ => er o (by omega)), ⟨by rw [up_e, e11], fun t ht => ?_, fun t h1 h2 => ?_⟩, ⟨by rw [eS 68 (by decide) (by decide) (by decide)]; exact s1, fun t s ht hs => ?_, fun t s ht hs hq => ?_⟩, RCj_c r5 (fun o _ => eS o (by omega) (by omega) (by omega)) (ec 22 (by decide) (by decide)) (fun o _ => er o (by omega))⟩
  · rw [e11] at ht
    unfold Plc
    rw [a1, a2, eS 54 (by decide) (by decide) (by decide), eS 56 (by decide) (by decide) (by decide), e11]
    by_cases e : t = D 99 11
    · obtain ⟨b1, b2, b3, b4⟩ := t3 t (by omega) (by omega)
      rw [e] at b3 b4
      rw [e, uq_e, uq_e, e108, e109, e110]
      exact ⟨rfl, Or.inr ⟨b3, hn.1, rfl⟩, Or.inl ⟨b4, rfl⟩⟩
    · have ht' : In (D 99 11) t := ⟨ht.1, by have := ht.2; omega⟩
      obtain ⟨b1, b2, b3⟩ := t2 t ht'
      rw [uq_o e, uq_o e, ot 108 (by decide) (by decide) t e, ot 109 (by decide) (by decide) t e, ot 110 (by decide) (by decide) t e, ot 111 (by decide) (by decide) t e]
      refine ⟨b1, b2, ?_⟩
      rcases b3 with b3 | ⟨c1, c2, c3, c4⟩
      · exact Or.inl b3
      · exact Or.inr ⟨c1, ⟨c2.1, by have := c2.2; omega⟩, c3, c4⟩
  · rw [e11] at h1
    rw [a1, a2, eS 54 (by decide) (by decide) (by decide), eS 56 (by decide) (by decide) (by decide), uq_o (by omega), uq_o (by omega)]
    exact t3 t (by omega) h2
  · rw [e11] at ht
    rw [eS 68 (by decide) (by decide) (by decide), eS 58 (by decide) (by decide) (by decide)]
    by_cases e : t = D 99 11
    · rw [e, e109] at hs
      have q1 := hs.1
      have q2 := hs.2
      refine Or.inl ⟨n112 _ (by omega) (by omega), s3 t s ⟨ht.1, by omega⟩ ⟨q1, by omega⟩ (Or.inl (by omega))⟩
    · have ht' : In (D 99 11) t := ⟨ht.1, by have := ht.2; omega⟩
      rw [ot 109 (by decide) (by decide) t e] at hs
      have q1 := hs.1
      have q2 := hs.2
      have q3 := ht'.2
      have q4 := (w.2.2.2.1 t ht').2.1
      exact SlotR_c (s2 t s ht' hs) (fun o h1 h2 => os o h1 h2 _ (by omega)) (fun i hi => e116 _ (by have := hi.2; omega)) (fun _ i hi => by rw [er 117 (by omega)])
  · rw [eS 54 (by decide) (by decide) (by decide), e11] at hq
    rw [eS 58 (by decide) (by decide) (by decide)]
    refine s3 t s ht hs ?_
    rcases hq with hq | hq
    · exact Or.inl (by omega)
    · by_cases e : D 99 11 ≤ t
      · exact Or.inl e
      · rw [ot 109 (by decide) (by decide) t (by omega)] at hq
        exact Or.inr hq
