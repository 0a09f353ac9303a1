/-! the class seeks the quarrel -/
def qG : List Nat := [7, 8, 73, 82, 83, 84, 85]
def QG (h h' : AH) : Prop := (∀ o, o ∉ qG → Kp o h h') ∧ nn h' = nn h ∧ us h' = us h ∧ gi h' 7 8 = gi h 7 8 ∧ (gr h' = gr h ∧ sh h' = sh h) ∧ ∀ i, i ≠ 16 → i ≠ 17 → gi h' 73 i = gi h 73 i
theorem QG.refl {h : AH} : QG h h := ⟨fun _ _ => Kp.refl, rfl, rfl, rfl, ⟨rfl, rfl⟩, fun _ _ _ => rfl⟩
theorem QG.trans {h1 h2 h3 : AH} (a : QG h1 h2) (b : QG h2 h3) : QG h1 h3 := ⟨fun o ho => (a.1 o ho).trans (b.1 o ho), by rw [b.2.1]; exact a.2.1, by rw [b.2.2.1]; exact a.2.2.1, by rw [b.2.2.2.1]; exact a.2.2.2.1, ⟨by rw [b.2.2.2.2.1.1]; exact a.2.2.2.2.1.1, by rw [b.2.2.2.2.1.2]; exact a.2.2.2.2.1.2⟩, fun i hi hj => by rw [b.2.2.2.2.2 i hi hj]; exact a.2.2.2.2.2 i hi hj⟩
theorem QG.nm {h h1 h' : AH} (f : QG h h1) (k : ∀ o, o ≠ 7 → o ≠ 8 → Kp o h1 h') (n' : nn h' = nn h1) (u' : us h' = us h1) (e' : gi h' 7 8 = gi h1 7 8) (g' : gr h' = gr h1 ∧ sh h' = sh h1) : QG h h' :=
  f.trans ⟨fun o ho => k o (fun e => ho (by rw [e]; decide)) (fun e => ho (by rw [e]; decide)), n', u', e', g', fun i _ _ => by rw [(k 73 (by decide) (by decide)).1]⟩
theorem QG.tf {h h1 h' : AH} (f : QG h h1) (t : TF 82 h1 h') : QG h h' := by
  refine f.trans ⟨fun o ho => t.1 o (fun e => ho (by rw [e]; decide)) (fun e => ho (by rw [e]; decide)) (fun e => ho (by rw [e]; decide)) (fun e => ho (by rw [e]; decide)), t.2.2.2.1, t.2.2.2.2.1, ?_, t.2.2.2.2.2, fun i _ _ => ?_⟩
  · rw [(t.1 7 (by decide) (by decide) (by decide) (by decide)).1]
  · rw [(t.1 73 (by decide) (by decide) (by decide) (by decide)).1]
theorem QG.si {h h1 : AH} {k v : Int} (f : QG h h1) (hk : k = 16 ∨ k = 17) : QG h (si h1 73 k v) :=
  ⟨fun p hp => (f.1 p hp).si (fun e => hp (by rw [e]; decide)), f.2.1, f.2.2.1, by rw [gi_si_o (by decide)]; exact f.2.2.2.1, f.2.2.2.2.1, fun i h6 h7 => by rw [gi_si_k (by omega)]; exact f.2.2.2.2.2 i h6 h7⟩
def QI (D : DD) (h : AH) (p q l : Int) : Prop := (l = 100 ∧ gi h 73 16 = -5 ∧ Qst D (dts D) p q (-5) 0 0) ∨ (In 100 l ∧ Qst D (dts D) p q l (gi h 73 16) (gi h 73 17))
theorem QI.kp {D : DD} {h h' : AH} {p q l : Int} (i : QI D h p q l) (k : gi h' 73 = gi h 73) : QI D h' p q l := by unfold QI; rw [k]; exact i
theorem QI.map {D : DD} {h : AH} {p q p' q' l : Int} (i : QI D h p q l) (f : ∀ y1 y2 y3, Qst D (dts D) p q y1 y2 y3 → y1 = -5 ∨ y1 = l → Qst D (dts D) p' q' y1 y2 y3) : QI D h p' q' l := by
  rcases i with ⟨a, b, c⟩ | ⟨a, c⟩
  · exact Or.inl ⟨a, b, f _ _ _ c (Or.inl rfl)⟩
  · exact Or.inr ⟨a, f _ _ _ c (Or.inr rfl)⟩
theorem Qd_nn {D : DD} {a b d : Int} (q : Qd D (dts D) a b d) : 0 ≤ d := by
  obtain ⟨_, q2, _, _, q5, ⟨f, q6, q7⟩, _⟩ := q
  have := Far_neg q6 b q2
  omega
theorem Qst_zero {D : DD} {p y2 y3 : Int} (h : Qst D (dts D) p 0 0 y2 y3) : Qst D (dts D) (p + 1) 0 0 y2 y3 := by
  rcases h with ⟨h1, h2⟩ | ⟨h1, h2, h3⟩
  · exact absurd h1 (by decide)
  · have y0 := h1.2.1.1
    have hy : y2 < p := by
      unfold Bef at h2
      omega
    refine Or.inr ⟨h1, Or.inl (by omega), fun a b d hb hq => ?_⟩
    by_cases e : Bef a b p 0
    · exact h3 a b d e hq
    · have := Qd_nn hq
      have b0 := hq.2.1.1
      unfold Bef at hb e
      omega
theorem c_seek_35 {Q : Option AV → AH → Prop} {D : DD} {h0 : AH} {p : Int} (w : WF D) (hF0 : Fix h0) (uc0 : UC h0 D) (yr : YrOk h0 D) (hp : In (D 99 1) p) (hpp : D 102 p = p) (hf : Far (D 99 1) (D 99 7) (dla D) (dea D) p (gi h0 84))
    (cont : ∀ h' l, Fix h' → QG h0 h' → CaU h' D → QI D h' (p + 1) 0 l → Ok 125 13 [some (vR (some 73)), some (vI l), some (vI (p + 1)), none, none] [] h' Q) (m : Nat) :
    ∀ (h : AH) (q l : Int), (D 99 1 - q).toNat = m → 0 ≤ q → q ≤ D 99 1 → Fix h → QG h0 h → gi h 84 = gi h0 84 → CaU h D → QI D h p q l → Ok 125 35 [some (vR (some 73)), some (vI l), some (vI p), some (vI q), none] [] h Q := by
  have wc := w.c
  have p0 := hp.1
  have p1 := hp.2
  obtain ⟨rk, hk, hk2⟩ := w.rk
  induction m using Nat.strongRecOn with
  | ind m ih =>
    intro h q l hm q0 q1 hF g e84 cu i
    have uc : UC h D := uc0.kp (g.1 20 (by decide)).1 (g.1 18 (by decide)).1
    refine f_X10_seekQuarrel_35 hF _ _ _ ?_
    rw [uc.1, e84]
    refine ⟨fun c => ⟨⟨by omega, by omega⟩, cont h l hF g cu ?_⟩, fun c => ⟨⟨by omega, by omega⟩, ?_⟩⟩
    · rw [show q = D 99 1 by omega] at i
      exact i.map (fun _ _ _ z _ => Qst_row z)
    have hq : In (D 99 1) q := ⟨q0, by omega⟩
    have nx : QI D h p (q + 1) l → Ok 125 35 [some (vR (some 73)), some (vI l), some (vI p), some (vI (q + 1)), none] [] h Q := fun i' => ih _ (by omega) h (q + 1) l rfl (by omega) (by omega) hF g e84 cu i'
    have dq : ∀ d, Qd D (dts D) p q d → d = gi h0 84 q := fun d hd => by
      obtain ⟨_, _, _, _, _, ⟨f, g6, g7⟩, _⟩ := hd
      rw [← g7]
      exact Far_uniq hk w.ea g6 hf q hq
    have frk := Far_rk hk w.ea hf q hq
    have fk2 := hk2 q hq
    refine ⟨fun c2 => ⟨⟨by omega, by omega⟩, nx (i.map (fun _ _ _ z _ => Qst_skip z (fun d hd => by have := dq d hd; have := Qd_nn hd; omega)))⟩, fun c2 => ⟨fun c3 => ⟨⟨by omega, by omega⟩, nx ?_⟩, fun c3 => ?_⟩⟩
    · rcases i with ⟨a, b, c⟩ | ⟨a, c⟩
      · exfalso; omega
      · refine Or.inr ⟨a, ?_⟩
        by_cases z : ∃ d, Qd D (dts D) p q d
        · obtain ⟨d, hd⟩ := z
          exact Qst_keep w c hd (by have := a.1; omega) (by rw [dq d hd]; exact c3)
        · exact Qst_skip c (fun d hd => z ⟨d, hd⟩)
    · have hqq : D 102 q = q := by
        by_cases e : q = p
        · rw [e]; exact hpp
        · rcases hf.2 q hq e with z | ⟨_, ⟨r, hr, er, _⟩, _⟩
          · exfalso; have := z.1; omega
          · rw [← er]
            exact (w.2.1 _ (w.2.2.1.1 r hr).1).2.2.1.2.2
      have e80 : gi h 80 = gi h0 80 := (g.1 80 (by decide)).1
      have e81 : gi h 81 = gi h0 81 := (g.1 81 (by decide)).1
      have bl := (yr.2 p hp hpp).1
      have bh := (yr.2 q hq hqq).2
      have e74 : gi h 74 (gi h0 80 p) = dts D 129 (gi h0 80 p) := by rw [(g.1 74 (by decide)).1]; exact (yr.1 _ bl.1).1
      have e77 : gi h 77 (gi h0 81 q) = dts D 129 (100 + gi h0 81 q) := by rw [(g.1 77 (by decide)).1]; exact (yr.1 _ bh.1).2.2.2.1
      rw [e80, e81, e74, e77]
      have b1 := bl.1.1
      have b2 := bl.1.2
      have b3 := bh.1.1
      have b4 := bh.1.2
      refine ⟨⟨by omega, by omega⟩, ⟨by omega, by omega⟩, ⟨by omega, by omega⟩, fun c4 => ⟨⟨by omega, by omega⟩, nx (i.map (fun _ _ _ z _ => Qst_skip z (fun d hd => ?_)))⟩, fun c4 => ⟨⟨by omega, by omega⟩, ?_⟩⟩
      · obtain ⟨_, _, _, _, _, _, x', z', d1, d2, d3⟩ := hd
        have t1 := Best_uniq (Or.inl rfl) d1 bl
        have t2 := Best_uniq (Or.inr rfl) d2 bh
        rw [t1, t2] at d3
        omega
      · have hQ : Qd D (dts D) p q (gi h0 84 q) := ⟨hp, hq, hpp, hqq, by omega, ⟨_, hf, rfl⟩, _, _, bl, bh, by omega⟩
        have e16 : gi (si (si h 73 16 p) 73 17 q) 73 16 = p := by rw [gi_si_k (by decide), gi_si_e]
        have e17 : gi (si (si h 73 16 p) 73 17 q) 73 17 = q := gi_si_e
        refine ih _ (by omega) _ (q + 1) _ rfl (by omega) (by omega) hF ((g.si (Or.inl rfl)).si (Or.inr rfl)) ?_ ((cu.si (by decide) (by decide)).si (by decide) (by decide)) (Or.inr ⟨⟨by omega, by omega⟩, ?_⟩)
        · rw [gi_si_r (by decide), gi_si_r (by decide)]; exact e84
        · rw [e16, e17]
          rcases i with ⟨a, b, c⟩ | ⟨a, c⟩
          · exact Qst_take w c hQ (Or.inl rfl)
          · exact Qst_take w c hQ (Or.inr (by omega))
theorem c_seek_13 {Q : Option AV → AH → Prop} {D : DD} {h0 : AH} (w : WF D) (hF0 : Fix h0) (uc0 : UC h0 D) (yr : YrOk h0 D) (tp : TP h0 (D 99 1) (D 99 7) (dla D) (dea D))
    (cont : ∀ h', Fix h' → QG h0 h' → CaU h' D → QrOk h' D → Q none h') (m : Nat) :
    ∀ (h : AH) (p l : Int), (D 99 1 - p).toNat = m → 0 ≤ p → p ≤ D 99 1 → Fix h → QG h0 h → CaU h D → QI D h p 0 l → Ok 125 13 [some (vR (some 73)), some (vI l), some (vI p), none, none] [] h Q := by
  have wc := w.c
  obtain ⟨rk, hk, hk2⟩ := w.rk
  induction m using Nat.strongRecOn with
  | ind m ih =>
    intro h p l hm p0 p1 hF g cu i
    have uc : UC h D := uc0.kp (g.1 20 (by decide)).1 (g.1 18 (by decide)).1
    have tp' : ∀ h', QG h0 h' → TP h' (D 99 1) (D 99 7) (dla D) (dea D) := fun h' g' => by
      unfold TP
      rw [(g'.1 22 (by decide)).1, (g'.1 23 (by decide)).1, (g'.1 24 (by decide)).1, (g'.1 25 (by decide)).1, (g'.1 26 (by decide)).1, (g'.1 27 (by decide)).1]; exact tp
    refine f_X10_seekQuarrel_13 hF _ _ ?_
    rw [uc.1]
    refine ⟨fun c => ?_, fun c => ?_⟩
    · rw [show p = D 99 1 by omega] at i
      rcases i with ⟨a, b, z⟩ | ⟨a, z⟩
      · refine ⟨fun _ => cont h hF g cu (Or.inl ⟨b, ?_⟩), fun c2 => by omega⟩
        rcases Qst_end z with y | y
        · exact y.2
        · exact absurd rfl y.1.2.2.2.2.1
      · rcases Qst_end z with y | y
        · have := a.1; omega
        · have k := y.1
          have a0 := k.1.1
          obtain ⟨f0, f1, f2⟩ := k.2.2.2.2.2.1
          refine ⟨fun c2 => by omega, fun c2 => ?_⟩
          have hr := (Far_rch hk w.ea f1 _ k.2.1).mp (by rw [f2]; exact k.2.2.2.2.1)
          refine c_walk hF (Or.inl rfl) hk hk2 (tp' h g) k.1 k.2.1 hr (fun h' f F' t' w1 w2 w3 w4 => ⟨rfl, F', cont h' F' (g.tf t') (cu.w (t'.1 7 (by decide) (by decide) (by decide) (by decide)).1 (t'.1 8 (by decide) (by decide) (by decide) (by decide)).1) ?_⟩)
          have e73 : gi h' 73 = gi h 73 := (t'.1 73 (by decide) (by decide) (by decide) (by decide)).1
          have e : f (gi h 73 17) = l := by rw [← f2]; exact Far_uniq hk w.ea w1 f1 _ k.2.1
          refine Or.inr ⟨by rw [e73]; exact a0, l, f, ?_⟩
          rw [e73]
          exact ⟨y, by rw [w3, e], w1, e, by rw [← e]; exact w4⟩
    have hp : In (D 99 1) p := ⟨p0, by omega⟩
    refine c_blockOf hF w uc cu hp (fun h2 F2 k2 n2 u2 e2 g2 _ cu2 => ⟨_, rfl, F2, ?_⟩)
    have gg := g.nm k2 n2 u2 e2 g2
    have i2 := i.kp (k2 73 (by decide) (by decide)).1
    refine ⟨fun c2 => ⟨⟨by omega, by omega⟩, ih _ (by omega) h2 (p + 1) l rfl (by omega) (by omega) F2 gg cu2 (i2.map (fun _ _ _ z _ => Qst_none z c2))⟩, fun c2 => ⟨fun c3 => ?_, fun c3 => ⟨⟨by omega, by omega⟩, ih _ (by omega) h2 (p + 1) l rfl (by omega) (by omega) F2 gg cu2 ?_⟩⟩⟩
    · have hpp : D 102 p = p := Decidable.not_not.mp c2
      refine c_measure F2 (Or.inl rfl) hk hk2 (tp' h2 gg) hp (fun h4 F4 t4 _ _ far => ⟨rfl, F4, ?_⟩)
      have g4 := gg.tf t4
      have cu4 := cu2.w (t4.1 7 (by decide) (by decide) (by decide) (by decide)).1 (t4.1 8 (by decide) (by decide) (by decide) (by decide)).1
      have yr4 : YrOk h4 D := by
        unfold YrOk
        rw [(g4.1 74 (by decide)).1, (g4.1 75 (by decide)).1, (g4.1 76 (by decide)).1, (g4.1 77 (by decide)).1, (g4.1 78 (by decide)).1, (g4.1 79 (by decide)).1, (g4.1 80 (by decide)).1, (g4.1 81 (by decide)).1]; exact yr
      exact c_seek_35 (h0 := h4) w F4 (uc0.kp (g4.1 20 (by decide)).1 (g4.1 18 (by decide)).1) yr4 hp hpp far (fun h5 l5 F5 g5 cu5 i5 => ih _ (by omega) h5 (p + 1) l5 rfl (by omega) (by omega) F5 (g4.trans g5) cu5 i5) _ h4 0 l rfl (by decide) wc.1 F4 QG.refl rfl cu4 (i2.kp (t4.1 73 (by decide) (by decide) (by decide) (by decide)).1)
    · have e0 : l = 0 := Decidable.not_not.mp c3
      rcases i2 with ⟨a, b, z⟩ | ⟨a, z⟩
      · omega
      · subst e0
        exact Or.inr ⟨a, Qst_zero z⟩
