/-! the web is made fresh -/
def WC (h : AH) (D : DD) : Prop := gi h 46 0 = D 99 7 ∧ ∀ r, In (D 99 7) r → gi h 42 r = D 106 r ∧ gi h 44 r = D 107 r
def wO : List Nat := [7, 8, 21, 22, 23, 24, 25, 26, 27, 28, 29, 30, 32, 33, 35, 36, 37, 38]
/-- rows but those of names and web -/
def WbF (h h' : AH) : Prop := (∀ o, o ∉ wO → Kp o h h') ∧ nn h' = nn h ∧ us h' = us h ∧ gi h' 7 8 = gi h 7 8 ∧ gr h' = gr h ∧ sh h' = sh h
theorem WbF.refl {h : AH} : WbF h h := ⟨fun _ _ => Kp.refl, rfl, rfl, rfl, rfl, rfl⟩
theorem WbF.trans {h1 h2 h3 : AH} (a : WbF h1 h2) (b : WbF h2 h3) : WbF h1 h3 := ⟨fun o ho => (a.1 o ho).trans (b.1 o ho), by rw [b.2.1]; exact a.2.1, by rw [b.2.2.1]; exact a.2.2.1, by rw [b.2.2.2.1]; exact a.2.2.2.1, by rw [b.2.2.2.2.1]; exact a.2.2.2.2.1, by rw [b.2.2.2.2.2]; exact a.2.2.2.2.2⟩
theorem WbF.fix {h h' : AH} (g : WbF h h') (hF : Fix h) : Fix h' := ⟨fun e he => by rw [g.2.2.2.2.1]; exact hF.1 e he, fun e he => by rw [g.2.2.2.2.2]; exact hF.2.1 e he, by rw [g.2.1]; exact hF.2.2⟩
theorem WbF.si {h h' : AH} {o : Nat} {k v : Int} (g : WbF h h') (ho : o ∈ wO ∧ o ≠ 7) : WbF h (si h' o k v) := ⟨fun p hp => (g.1 p hp).si (fun e => hp (e ▸ ho.1)), g.2.1, g.2.2.1, by rw [gi_si_o (fun e => ho.2 e.symm)]; exact g.2.2.2.1, g.2.2.2.2⟩
theorem WbF.nm {h h' : AH} (k : ∀ o, o ≠ 7 → o ≠ 8 → Kp o h h') (hn : nn h' = nn h) (hu : us h' = us h) (e8 : gi h' 7 8 = gi h 7 8) (hr : gr h' = gr h ∧ sh h' = sh h) : WbF h h' := ⟨fun o ho => k o (fun e => ho (by rw [e]; decide)) (fun e => ho (by rw [e]; decide)), hn, hu, e8, hr.1, hr.2⟩
theorem WbF.gf {h h1 h2 : AH} {p2 p3 : Nat} (g : WbF h h1) (f : GF p2 p3 h1 h2) (hp : p2 ∈ wO ∧ p3 ∈ wO ∧ p2 ≠ 7 ∧ p3 ≠ 7) : WbF h h2 := ⟨fun o ho => (g.1 o ho).trans (f.1 o (fun e => ho (e ▸ hp.1)) (fun e => ho (e ▸ hp.2.1)) (fun e => ho (by rw [e]; decide))), by rw [f.2.1]; exact g.2.1, by rw [f.2.2.1]; exact g.2.2.1, by rw [(f.1 7 (fun e => hp.2.2.1 e.symm) (fun e => hp.2.2.2 e.symm) (by decide)).1]; exact g.2.2.2.1, by rw [f.2.2.2.1]; exact g.2.2.2.2.1, by rw [f.2.2.2.2.1]; exact g.2.2.2.2.2⟩
theorem WbF.fw {h h1 h2 : AH} (g : WbF h h1) (f : FwF h1 h2) : WbF h h2 := ⟨fun o ho => (g.1 o ho).trans (f.1 o (fun e => ho (by
    have : ∀ x ∈ fwO, x ∈ wO := by decide
    exact this o e))), by rw [f.2.1]; exact g.2.1, by rw [f.2.2.1]; exact g.2.2.1, by rw [(f.1 7 (by decide)).1]; exact g.2.2.2.1, by rw [f.2.2.2.1]; exact g.2.2.2.2.1, by rw [f.2.2.2.2]; exact g.2.2.2.2.2⟩
theorem WbF.jd {h h1 h2 : AH} (g : WbF h h1) (f : JdF h1 h2) : WbF h h2 := ⟨fun o ho => (g.1 o ho).trans (f.1 o (fun e => ho (by rw [e]; decide)) (fun e => ho (by rw [e]; decide)) (fun e => ho (by rw [e]; decide)) (fun e => ho (by rw [e]; decide)) (fun e => ho (by rw [e]; decide))), by rw [f.2.2.1]; exact g.2.1, by rw [f.2.2.2.1]; exact g.2.2.1, by rw [(f.1 7 (by decide) (by decide) (by decide) (by decide) (by decide)).1]; exact g.2.2.2.1, by rw [f.2.2.2.2.1]; exact g.2.2.2.2.1, by rw [f.2.2.2.2.2]; exact g.2.2.2.2.2⟩
theorem CaU.w {h h' : AH} {D : DD} (a : CaU h D) (k7 : gi h' 7 = gi h 7) (k8 : gi h' 8 = gi h 8) : CaU h' D := by unfold CaU; rw [k7, k8]; exact a
theorem WC.k {h h' : AH} {D : DD} (c : WC h D) (f : WbF h h') : WC h' D := by unfold WC; rw [(f.1 46 (by decide)).1, (f.1 42 (by decide)).1, (f.1 44 (by decide)).1]; exact c
theorem UC.k {h h' : AH} {D : DD} (c : UC h D) (f : WbF h h') : UC h' D := c.kp (f.1 20 (by decide)).1 (f.1 18 (by decide)).1
theorem c_refresh_14 {h0 : AH} {Q : Option AV → AH → Prop} {D : DD} (hF0 : Fix h0) (w : WF D) (uc0 : UC h0 D) (wc0 : WC h0 D) (e19 : gi h0 21 19 = gi h0 7 8)
    (cont : ∀ h', Fix h' → WbF h0 h' → CaU h' D → CaW h' D → gi h' 21 19 = gi h' 7 8 → Q none h') (m : Nat) :
    ∀ (h : AH) (r : Int), (D 99 7 - r).toNat = m → 0 ≤ r → r ≤ D 99 7 → WbF h0 h → gi h 21 19 = gi h 7 8 → CaU h D → (∀ q, In r q → gi h 22 q = dla D q ∧ gi h 23 q = dea D q) → Ok 109 14 [some (vR (some 21)), some (vI r)] [] h Q := by
  have wc := w.c
  induction m using Nat.strongRecOn with
  | ind m ih =>
    intro h r hm r0 r1 wf e19 cu hI
    have hF := wf.fix hF0
    have uc := uc0.k wf
    obtain ⟨c46, c42⟩ := wc0.k wf
    refine f_X9_refresh_14 hF _ ?_
    rw [c46]
    refine ⟨fun q => ?_, fun q => ?_⟩
    · have e : r = D 99 7 := by omega
      rw [e] at hI
      obtain ⟨rk, hk, hk2⟩ := w.rk
      have s22 := hF.2.1 (22, 0, 200) (by decide +kernel)
      have s25 := hF.2.1 (25, 0, 101) (by decide +kernel)
      have s24 := hF.2.1 (24, 0, 200) (by decide +kernel)
      refine c_group (n := D 99 1) (R := D 99 7) (key := dla D) hF ⟨by decide, by decide, s22, s25, s24, c46, uc.1, ⟨wc.1, wc.2.1⟩, ⟨wc.2.2.1, wc.2.2.2.1⟩, fun q hq => ⟨(hI q hq).1, w.la q hq⟩⟩ (fun h1 F1 g1 p1 => ⟨rfl, F1, ?_⟩)
      have s23 := F1.2.1 (23, 0, 200) (by decide +kernel)
      have s27 := F1.2.1 (27, 0, 101) (by decide +kernel)
      have s26 := F1.2.1 (26, 0, 200) (by decide +kernel)
      have k1 : ∀ o, o ≠ 25 → o ≠ 24 → o ≠ 29 → gi h1 o = gi h o := fun o a b c => (g1.1 o a b c).1
      refine c_group (n := D 99 1) (R := D 99 7) (key := dea D) F1 ⟨by decide, by decide, s23, s27, s26, by rw [k1 46 (by decide) (by decide) (by decide)]; exact c46, by rw [k1 20 (by decide) (by decide) (by decide)]; exact uc.1, ⟨wc.1, wc.2.1⟩, ⟨wc.2.2.1, wc.2.2.2.1⟩, fun q hq => ⟨by rw [k1 23 (by decide) (by decide) (by decide)]; exact (hI q hq).2, w.ea q hq⟩⟩ (fun h2 F2 g2 p2 => ⟨rfl, F2, ?_⟩)
      have k2 : ∀ o, o ≠ 27 → o ≠ 26 → o ≠ 29 → gi h2 o = gi h1 o := fun o a b c => (g2.1 o a b c).1
      have r22 : gi h2 22 = gi h 22 := by rw [k2 22 (by decide) (by decide) (by decide), k1 22 (by decide) (by decide) (by decide)]
      have r23 : gi h2 23 = gi h 23 := by rw [k2 23 (by decide) (by decide) (by decide), k1 23 (by decide) (by decide) (by decide)]
      have r24 : gi h2 24 = gi h1 24 := k2 24 (by decide) (by decide) (by decide)
      have r25 : gi h2 25 = gi h1 25 := k2 25 (by decide) (by decide) (by decide)
      have r46 : gi h2 46 = gi h 46 := by rw [k2 46 (by decide) (by decide) (by decide), k1 46 (by decide) (by decide) (by decide)]
      have r20 : gi h2 20 = gi h 20 := by rw [k2 20 (by decide) (by decide) (by decide), k1 20 (by decide) (by decide) (by decide)]
      refine c_follow (n := D 99 1) (R := D 99 7) (la := dla D) (ea := dea D) F2 hk hk2 ⟨by rw [r20]; exact uc.1, ⟨wc.1, wc.2.1⟩, ⟨wc.2.2.1, wc.2.2.2.1⟩, fun q hq => ⟨by rw [r22]; exact (hI q hq).1, w.la q hq, w.ea q hq⟩, by rw [r24, r25]; exact p1, p2⟩ (fun h3 F3 f3 a3 b3 l3 => ⟨rfl, F3, ?_⟩)
      have q46 : gi h3 46 0 = D 99 7 := by rw [(f3.1 46 (by decide)).1, r46]; exact c46
      refine f_X9_judge_0 F3 (c_judge_5 (h0 := si h3 21 18 0) F3 w hk (by rw [gi_si_o (by decide)]; exact q46) (fun q hq => by rw [gi_si_o (by decide), gi_si_o (by decide), (f3.1 22 (by decide)).1, (f3.1 23 (by decide)).1, r22, r23]; exact hI q hq) (fun h4 F4 j4 a4 b4 c4 => ⟨rfl, F4, ?_⟩) _ _ 0 rfl (by omega) wc.2.2.1 ⟨fun _ _ _ _ _ _ => Kp.refl, fun _ _ => rfl, rfl, rfl, rfl, rfl⟩ (fun u b hu hb => ?_) (fun q hq => by have := hq.1; have := hq.2; omega) (fun q hq => by have := hq.1; have := hq.2; omega) gi_si_e)
      · show sB h3 34 u b = true ↔ _
        rw [b3 u b hu hb]
        exact ⟨fun q => Or.inl q, fun q => by
          rcases q with q | ⟨s, s1, _⟩
          · exact q
          · have := s1.1; have := s1.2; omega⟩
      · have wf3 : WbF h0 h3 := ((wf.gf g1 (by decide)).gf g2 (by decide)).fw f3
        have wf4 : WbF h0 h4 := (wf3.si (o := 21) (k := 18) (v := 0) (by decide)).jd j4
        have kj : ∀ o, o ≠ 21 → o ≠ 37 → o ≠ 38 → o ≠ 35 → o ≠ 36 → Kp o h3 h4 := fun o a b c d e => (Kp.refl.si a).trans (j4.1 o a b c d e)
        have x7 : gi h4 7 = gi h 7 := by rw [(kj 7 (by decide) (by decide) (by decide) (by decide) (by decide)).1, (f3.1 7 (by decide)).1, k2 7 (by decide) (by decide) (by decide), k1 7 (by decide) (by decide) (by decide)]
        have x8 : gi h4 8 = gi h 8 := by rw [(kj 8 (by decide) (by decide) (by decide) (by decide) (by decide)).1, (f3.1 8 (by decide)).1, k2 8 (by decide) (by decide) (by decide), k1 8 (by decide) (by decide) (by decide)]
        have x19 : gi h4 21 19 = gi h 21 19 := by rw [j4.2.1 19 (by decide), gi_si_k (by decide), (f3.1 21 (by decide)).1, k2 21 (by decide) (by decide) (by decide), k1 21 (by decide) (by decide) (by decide)]
        have e19' : gi h4 21 19 = gi h4 7 8 := by rw [x19, x7]; exact e19
        refine cont h4 F4 wf4 (cu.w x7 x8) ⟨by rw [e19']; exact Int.le_refl _, fun _ => ⟨fun q hq => ?_, ?_, ?_, ?_, fun u b hu hb => ?_, a4, b4, c4⟩⟩ e19'
        · rw [(kj 22 (by decide) (by decide) (by decide) (by decide) (by decide)).1, (kj 23 (by decide) (by decide) (by decide) (by decide) (by decide)).1, (f3.1 22 (by decide)).1, (f3.1 23 (by decide)).1, r22, r23]; exact hI q hq
        · rw [(kj 25 (by decide) (by decide) (by decide) (by decide) (by decide)).1, (kj 24 (by decide) (by decide) (by decide) (by decide) (by decide)).1, (f3.1 25 (by decide)).1, (f3.1 24 (by decide)).1, r24, r25]; exact p1
        · rw [(kj 27 (by decide) (by decide) (by decide) (by decide) (by decide)).1, (kj 26 (by decide) (by decide) (by decide) (by decide) (by decide)).1, (f3.1 27 (by decide)).1, (f3.1 26 (by decide)).1]; exact p2
        · rw [(kj 28 (by decide) (by decide) (by decide) (by decide) (by decide)).1]; exact l3
        · have e31 : sB h4 31 = sB h3 31 := sB_row (kj 32 (by decide) (by decide) (by decide) (by decide) (by decide)).2.1 (kj 33 (by decide) (by decide) (by decide) (by decide) (by decide)).2.1
          have := a3 u b hu hb
          rw [← e31] at this
          exact this
    · have hr : In (D 99 7) r := ⟨r0, by omega⟩
      obtain ⟨d1, d2, _⟩ := w.2.2.1.1 r hr
      obtain ⟨x42, x44⟩ := c42 r hr
      rw [x42]
      refine ⟨⟨r0, by omega⟩, c_blockOf hF w uc cu d1 (fun h1 F1 k1 n1 u1 e1 g1 f1 cu1 => ⟨_, rfl, F1, ?_⟩)⟩
      have wf1 : WbF h0 h1 := wf.trans (WbF.nm k1 n1 u1 e1 g1)
      have y44 : gi h1 44 r = D 107 r := by rw [(k1 44 (by decide) (by decide)).1]; exact x44
      rw [y44]
      have wf1' : WbF h0 (si h1 22 r (D 102 (D 106 r))) := wf1.si (by decide)
      refine c_blockOf (h := si h1 22 r (D 102 (D 106 r))) F1 w (uc0.k wf1') (cu1.w (gi_si_r (by decide)) (gi_si_r (by decide))) d2 (fun h2 F2 k2 n2 u2 e2 g2 f2 cu2 => ⟨_, rfl, F2, ⟨by omega, by omega⟩, ?_⟩)
      have wf2 : WbF h0 h2 := wf1'.trans (WbF.nm k2 n2 u2 e2 g2)
      refine ih _ (by omega) _ (r + 1) rfl (by omega) (by omega) (wf2.si (by decide)) ?_ (cu2.w (gi_si_r (by decide)) (gi_si_r (by decide))) (fun q hq => ?_)
      · rw [gi_si_o (by decide), gi_si_o (by decide), (k2 21 (by decide) (by decide)).1, gi_si_o (by decide), (k1 21 (by decide) (by decide)).1, e2, gi_si_o (by decide), e1]; exact e19
      · rw [gi_si_o (by decide), (k2 22 (by decide) (by decide)).1]
        by_cases e : q = r
        · rw [e, gi_si_e, gi_si_e]; exact ⟨rfl, rfl⟩
        · rw [gi_si_k e, gi_si_k e, (k2 23 (by decide) (by decide)).1, gi_si_o (by decide), (k1 22 (by decide) (by decide)).1, (k1 23 (by decide) (by decide)).1]
          exact hI q ⟨hq.1, by have := hq.2; omega⟩
theorem c_refresh {h : AH} {Q : Option AV → AH → Prop} {D : DD} (hF : Fix h) (w : WF D) (uc : UC h D) (wc : WC h D) (cu : CaU h D) (cw : CaW h D) (cont : ∀ h', Fix h' → WbF h h' → CaU h' D → CaW h' D → gi h' 21 19 = gi h' 7 8 → Q none h') : Ok 109 0 [some (vR (some 21)), none] [] h Q := by
  refine f_X9_refresh_0 hF ⟨fun q => ?_, fun q => cont h hF WbF.refl cu cw (Decidable.not_not.mp q)⟩
  have w0 : WbF h (si h 21 19 (gi h 7 8)) := WbF.refl.si (by decide)
  exact c_refresh_14 (h0 := si h 21 19 (gi h 7 8)) hF w (uc.k w0) (wc.k w0) (by rw [gi_si_e, gi_si_o (by decide)]) (fun h' F' f' => cont h' F' (w0.trans f')) _ _ 0 rfl (by omega) w.c.2.2.1 WbF.refl (by rw [gi_si_e, gi_si_o (by decide)]) (cu.w (gi_si_r (by decide)) (gi_si_r (by decide))) (fun q hq => by have := hq.1; have := hq.2; omega)
