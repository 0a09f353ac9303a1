/-! is there a quarrel; because of what -/
noncomputable def bcV (D : DD) (p q : Int) (wk : Int → Int) (i : Int) : Int := if i = 0 then p else if i = 1 then dts D 129 p else if i = 2 then dts D 130 p else if i = 3 then dts D 131 p else if i = 4 then q else if i = 5 then dts D 129 (100 + q) else if i = 6 then dts D 130 (100 + q) else if i = 7 then dts D 131 (100 + q) else wk (i - 8)
def aBecN (D : DD) (i : Int) : Prop := i < 0 ∨ (∀ a b d, ¬ Qd D (dts D) a b d) ∨ ∃ a b d, IsQ D (dts D) a b d ∧ 7 + d < i
def aBecV (D : DD) (i v : Int) : Prop := ∃ a b d p q f wk, IsQ D (dts D) a b d ∧ Best D (dts D) 0 a p ∧ Best D (dts D) 1 b q ∧ Far (D 99 1) (D 99 7) (dla D) (dea D) a f ∧ f b = d ∧ PathR (D 99 7) (dla D) (dea D) f d.toNat b wk 0 ∧ 0 ≤ i ∧ i ≤ 7 + d ∧ v = bcV D p q wk i
theorem aBec_no {D : DD} {i v : Int} (h : aBecN D i) (h' : aBecV D i v) : False := by
  obtain ⟨a, b, d, p, q, f, wk, g1, _, _, _, _, _, g7, g8, _⟩ := h'
  rcases h with h | h | ⟨a', b', d', h1, h2⟩
  · omega
  · exact h _ _ _ g1.1
  · have := IsQ_uniq g1 h1
    omega
theorem aBec_uniq {D : DD} (w : WF D) {i v v' : Int} (h : aBecV D i v) (h' : aBecV D i v') : v = v' := by
  obtain ⟨a, b, d, p, q, f, wk, g1, g2, g3, g4, g5, g6, g7, g8, g9⟩ := h
  obtain ⟨a', b', d', p', q', f', wk', k1, k2, k3, k4, k5, k6, k7, k8, k9⟩ := h'
  obtain ⟨e1, e2, e3⟩ := IsQ_uniq g1 k1
  subst e1
  subst e2
  subst e3
  have e4 := Best_uniq (Or.inl rfl) g2 k2
  have e5 := Best_uniq (Or.inr rfl) g3 k3
  subst e4
  subst e5
  obtain ⟨rk, hk, _⟩ := w.rk
  have e6 := PathR_uniq (PathR_congr w.ea w.la (Far_uniq hk w.ea g4 k4) g1.1.2.1 g6) k6
  have d0 := Qd_nn g1.1
  rw [g9, k9]
  unfold bcV
  split; rfl
  split; rfl
  split; rfl
  split; rfl
  split; rfl
  split; rfl
  split; rfl
  split; rfl
  exact e6.2 (i - 8) (by omega) (by omega)
def sG : List Nat := [7, 8, 21, 22, 23, 24, 25, 26, 27, 28, 29, 30, 32, 33, 35, 36, 37, 38, 73, 82, 83, 84, 85]
theorem c_seek {h : AH} {Q : Option AV → AH → Prop} {D : DD} (hF : Fix h) (w : WF D) (uc : UC h D) (wc : WC h D) (cu : CaU h D) (cw : CaW h D) (yr : YrOk h D)
    (cont : ∀ h', Fix h' → (∀ o, o ∉ sG → Kp o h h') → nn h' = nn h → us h' = us h → gi h' 7 8 = gi h 7 8 → gr h' = gr h → (∀ i, i ≠ 16 → i ≠ 17 → gi h' 73 i = gi h 73 i) → CaU h' D → CaW h' D → QrOk h' D → Q none h') : Ok 125 0 [some (vR (some 73)), none, none, none, none] [] h Q := by
  have c0 := w.c
  refine f_X10_seekQuarrel_0 hF (c_refresh hF w uc wc cu cw (fun h1 F1 f1 cu1 cw1 e1 => ⟨rfl, F1, ?_⟩))
  have w1 := cw1.2 e1
  have g1 : QG h1 (si (si h1 73 16 (-5)) 73 17 (-5)) := (QG.refl.si (Or.inl rfl)).si (Or.inr rfl)
  have tp : TP h1 (D 99 1) (D 99 7) (dla D) (dea D) := ⟨⟨c0.1, c0.2.1⟩, ⟨c0.2.2.1, c0.2.2.2.1⟩, fun r hr => ⟨(w1.1 r hr).1, (w1.1 r hr).2, w.la r hr, w.ea r hr⟩, w1.2.1, w1.2.2.1⟩
  have yr1 : YrOk h1 D := by
    unfold YrOk
    rw [(f1.1 74 (by decide)).1, (f1.1 75 (by decide)).1, (f1.1 76 (by decide)).1, (f1.1 77 (by decide)).1, (f1.1 78 (by decide)).1, (f1.1 79 (by decide)).1, (f1.1 80 (by decide)).1, (f1.1 81 (by decide)).1]; exact yr
  have e16 : gi (si (si h1 73 16 (-5)) 73 17 (-5)) 73 16 = -5 := by rw [gi_si_k (by decide), gi_si_e]
  refine c_seek_13 (h0 := h1) w F1 (uc.k f1) yr1 tp (fun h2 F2 g2 cu2 qr => ?_) _ _ 0 100 rfl (by decide) c0.1 F1 g1 ((cu1.si (by decide) (by decide)).si (by decide) (by decide)) (Or.inl ⟨rfl, e16, Or.inl ⟨rfl, fun a b d hb hq => ?_⟩⟩)
  · refine cont h2 F2 (fun o ho => (f1.1 o (fun hm => ho ?_)).trans (g2.1 o (fun hm => ho ?_))) (by rw [g2.2.1]; exact f1.2.1) (by rw [g2.2.2.1]; exact f1.2.2.1) (by rw [g2.2.2.2.1]; exact f1.2.2.2.1) (by rw [g2.2.2.2.2.1.1]; exact f1.2.2.2.2.1) (fun i h6 h7 => by rw [g2.2.2.2.2.2 i h6 h7, (f1.1 73 (by decide)).1]) cu2 (cw1.kp3 (fun o p q => g2.1 o (fun hm => ?_)) g2.2.2.2.1) qr
    · have : ∀ o ∈ wO, o ∈ sG := by decide
      exact this o hm
    · have : ∀ o ∈ qG, o ∈ sG := by decide
      exact this o hm
    · have : ∀ o ∈ qG, o < 21 ∨ 38 < o := by decide
      have := this o hm
      omega
  · have h0 := hq.1.1
    have h1 := hq.2.1.1
    unfold Bef at hb
    omega
theorem c_isQuarrel {h : AH} {Q : Option AV → AH → Prop} {n : Nat} {Ds : Nat → DD} {Z : DD} {c : Int} (hF : Fix h) (ci : CInv h n Ds Z c) (w : WF (Ds n)) (cont : ∀ h', Fix h' → Rf h h' → CInv h' n Ds Z c → YrOk h' (Ds n) → QrOk h' (Ds n) → Q (some (vI (if gi h' 73 16 < 0 then 0 else 1))) h') : Ok 124 0 [some (vR (some 73))] [] h Q := by
  refine f_X10_isQuarrel_0 hF (c_yearsI hF ci w (fun h1 F1 y1 c1 e1 r1 => ⟨rfl, F1, ?_⟩))
  have ca := c1.ca
  have fin : ∀ h', Fix h' → Rf h h' → CInv h' n Ds Z c → YrOk h' (Ds n) → QrOk h' (Ds n) → ((gi h' 73 16 < 0) → Q (some (vI 0)) h') ∧ (¬ (gi h' 73 16 < 0) → Q (some (vI 1)) h') := fun h' F' f' c' y' q' => ⟨fun z => by have := cont h' F' f' c' y' q'; rw [if_pos z] at this; exact this, fun z => by have := cont h' F' f' c' y' q'; rw [if_neg z] at this; exact this⟩
  refine ⟨fun q => fin h1 F1 y1.rf c1 r1 ((ca.2.2.1.2.2 e1).2 q), fun q => ?_⟩
  have F2 : Fix (si h1 73 15 (gi h1 73 14)) := F1
  have yr2 : YrOk (si h1 73 15 (gi h1 73 14)) (Ds n) := r1
  have cu2 : CaU (si h1 73 15 (gi h1 73 14)) (Ds n) := ca.1.si (by decide) (by decide)
  have cw2 : CaW (si h1 73 15 (gi h1 73 14)) (Ds n) := ca.2.1.kp3 (fun o p q => Kp.refl.si (by omega)) (gi_si_o (by decide))
  have wc2 : WC (si h1 73 15 (gi h1 73 14)) (Ds n) := c1.wc w
  refine c_seek F2 w ((c1.uc w).kp (gi_si_r (by decide)) (gi_si_r (by decide))) wc2 cu2 cw2 yr2 (fun h3 F3 k3 n3 u3 e3 g3 k73 cu3 cw3 qr => ?_)
  have k13 : ∀ o, o ∉ sG → Kp o h1 h3 := fun o ho => (Kp.refl.si (fun e => ho (by rw [e]; decide))).trans (k3 o ho)
  have e78 : gi h3 7 8 = gi h1 7 8 := by rw [e3, gi_si_o (by decide)]
  have yr3 : YrOk h3 (Ds n) := by
    unfold YrOk
    rw [(k13 74 (by decide)).1, (k13 75 (by decide)).1, (k13 76 (by decide)).1, (k13 77 (by decide)).1, (k13 78 (by decide)).1, (k13 79 (by decide)).1, (k13 80 (by decide)).1, (k13 81 (by decide)).1]; exact r1
  have e14 : gi h3 73 14 = gi h1 73 14 := by rw [k73 14 (by decide) (by decide), gi_si_k (by decide)]
  have e15 : gi h3 73 15 = gi h1 73 14 := by rw [k73 15 (by decide) (by decide), gi_si_e]
  have e2 : gi h3 2 6 = gi h1 2 6 := by rw [(k13 2 (by decide)).1]
  have c3 : CInv h3 n Ds Z c := by
    have cz := c1.cz
    have cw0 : ∀ o ∈ sG, o < 136 ∧ (o ≠ 2 ∧ o ≠ 3 ∧ o ≠ 4 ∧ o ≠ 5 ∧ o ≠ 6 ∧ o ≠ 48 ∧ o ≠ 93) ∧ ∀ e ∈ colL, e.1 ≠ o := by decide +kernel
    refine c1.core (fun o ho => k13 o (fun hm => ?_)) (by rw [g3]; rfl) n3 u3 e78 ?_ ⟨cu3, cw3, ⟨by rw [e14, e2]; exact ca.2.2.1.1, by rw [e14, e15]; exact Int.le_refl _, fun _ => ⟨yr3, fun _ => qr⟩⟩, ?_⟩
    · obtain ⟨a1, a2, a3⟩ := cw0 o hm
      rcases ho with c | c | c | c | c | c | c | ⟨n, c⟩ | c
      all_goals first | omega | exact a3 _ c rfl
    · unfold CZ at cz ⊢
      rw [e78, (k13 98 (by decide)).1, (k13 1 (by decide)).1, (k13 69 (by decide)).1, (k13 70 (by decide)).1, (k13 94 (by decide)).1, (k13 95 (by decide)).1, (k13 86 (by decide)).1, (k13 90 (by decide)).1]
      exact cz
    · have cs := ca.2.2.2
      unfold CaS SeqOk at cs ⊢
      rw [e78, (k13 86 (by decide)).1, (k13 86 (by decide)).2.1, (k13 87 (by decide)).1, (k13 88 (by decide)).1, (k13 89 (by decide)).1]; exact cs
  have rf : Rf h1 h3 := Rf.of (P := fun o => o ∉ sG) k13 (fun o p q => by
    have : ∀ o ∈ sG, o < 99 := by decide
    intro hm
    have := this o hm
    omega)
  exact ⟨rfl, F3, fin h3 F3 (y1.rf.trans rf) c3 yr3 qr⟩
theorem c_quarrel {h : AH} {Q : Option AV → AH → Prop} {n : Nat} {Ds : Nat → DD} {Z : DD} {c : Int} (hF : Fix h) (ci : CInv h n Ds Z c) (w : WF (Ds n)) (cont : ∀ h' x, Fix h' → Rf h h' → CInv h' n Ds Z c → aQuar (Ds n) x → Q (some (vI x)) h') : Ok 178 0 [some (vR (some 1))] [] h Q := by
  obtain ⟨rk, hk, hk2⟩ := w.rk
  refine f_X11_quarrel_0 hF (c_isQuarrel hF ci w (fun h1 F1 f1 c1 y1 q1 => ⟨_, rfl, F1, ?_⟩))
  rcases q1 with ⟨a, b⟩ | ⟨a, d, f, g1, g2, g3, g4, g5⟩
  · exact ⟨fun _ => cont h1 0 F1 f1 c1 (Or.inl ⟨rfl, b⟩), fun z => absurd (by rw [if_pos (by omega)]) z⟩
  · have := Far_rk hk w.ea g3 _ g1.1.2.1
    have := hk2 _ g1.1.2.1
    have := Qd_nn g1.1
    refine ⟨fun z => ?_, fun _ => ⟨⟨by omega, by omega⟩, cont h1 _ F1 f1 c1 (Or.inr ⟨_, _, d, g1, by rw [g2]⟩)⟩⟩
    rw [if_neg (by omega)] at z
    omega
theorem c_because {h : AH} {Q : Option AV → AH → Prop} {n : Nat} {Ds : Nat → DD} {Z : DD} {c i : Int} (hF : Fix h) (ci : CInv h n Ds Z c) (w : WF (Ds n)) (no : ∀ h', Fix h' → Rf h h' → CInv h' n Ds Z c → aBecN (Ds n) i → Q (some (vI (-5))) h')
    (yes : ∀ h' v, Fix h' → Rf h h' → CInv h' n Ds (zT Z v) c → aBecV (Ds n) i v → Q (some (vI 1)) h') : Ok 179 0 [some (vR (some 1)), some (vI i)] [] h Q := by
  obtain ⟨rk, hk, hk2⟩ := w.rk
  have wc := w.c
  refine f_X11_because_0 hF _ ⟨fun q => no h hF Rf.refl ci (Or.inl q), fun q => c_isQuarrel hF ci w (fun h1 F1 f1 c1 y1 q1 => ⟨_, rfl, F1, ?_⟩)⟩
  rcases q1 with ⟨a, b⟩ | ⟨a, d, f, g1, g2, g3, g4, g5⟩
  · exact ⟨fun _ => no h1 F1 f1 c1 (Or.inr (Or.inl b)), fun z => absurd (by rw [if_pos (by omega)]) z⟩
  · have := Far_rk hk w.ea g3 _ g1.1.2.1
    have := hk2 _ g1.1.2.1
    have := Qd_nn g1.1
    obtain ⟨⟨a0, a1⟩, ⟨b0, b1⟩, ha, hb, _⟩ := g1.1
    have bl := (y1.2 _ ⟨a0, a1⟩ ha).1
    have bh := (y1.2 _ ⟨b0, b1⟩ hb).2
    refine ⟨fun z => ?_, fun _ => ?_⟩
    · rw [if_neg (by omega)] at z
      omega
    rw [g2]
    refine ⟨⟨by omega, by omega⟩, fun q2 => ?_, fun q2 => no h1 F1 f1 c1 (Or.inr (Or.inr ⟨_, _, d, g1, by omega⟩))⟩
    have fin : ∀ v, v = bcV (Ds n) (gi h1 80 (gi h1 73 16)) (gi h1 81 (gi h1 73 17)) (gi h1 83) i → ∃ x_4, (some (vI v) : Option AV) = some (vI x_4) ∧ Fix h1 ∧ Q (some (vI 1)) (si h1 1 10 x_4) := fun v hv => ⟨v, rfl, F1, yes _ v F1 (f1.si (by decide)) c1.tell ⟨_, _, d, _, _, f, _, g1, bl, bh, g3, g4, g5, by omega, by omega, hv⟩⟩
    obtain ⟨l0, l1⟩ := bl.1
    obtain ⟨r0, r1⟩ := bh.1
    obtain ⟨z1, z2, z3, _⟩ := y1.1 _ bl.1
    obtain ⟨_, _, _, z4, z5, z6⟩ := y1.1 _ bh.1
    refine f_X10_quarrelPart_0 F1 _ ?_
    rw [if_neg (by omega), if_neg (by omega), z1, z2, z3, z4, z5, z6, g2]
    refine ⟨⟨by omega, by omega⟩, ⟨by omega, by omega⟩, fun e => fin _ ?_, fun e => ⟨⟨by omega, by omega⟩, fin _ ?_⟩, fun e => ⟨⟨by omega, by omega⟩, fin _ ?_⟩, fun e => ⟨⟨by omega, by omega⟩, fin _ ?_⟩, fun e => fin _ ?_, fun e => ⟨⟨by omega, by omega⟩, fin _ ?_⟩, fun e => ⟨⟨by omega, by omega⟩, fin _ ?_⟩, fun e => ⟨⟨by omega, by omega⟩, fin _ ?_⟩, fun e => ⟨⟨by omega, by omega⟩, fun e2 => by omega, fun e2 => ⟨fun e3 => by omega, fun e3 => ⟨⟨by omega, by omega⟩, fin _ ?_⟩⟩⟩⟩
    all_goals unfold bcV
    · simp [e]
    · simp [e]
    · simp [e]
    · simp [e]
    · simp [e]
    · simp [e]
    · simp [e]
    · simp [e]
    · rw [if_neg (by omega), if_neg (by omega), if_neg (by omega), if_neg (by omega), if_neg (by omega), if_neg (by omega), if_neg (by omega), if_neg (by omega)]
theorem m_because {h : AH} {Q : Option AV → AH → Prop} {D : DD} {i : Int} (hF : Fix h) (r : RM h D) (w : WF D) (hi : -2147483648 ≤ i ∧ i ≤ 2147483647) (no : ∀ h', Fix h' → Fr qL qK0 h h' → aBecN D i → Q (some (vI (-5))) h')
    (yes : ∀ h' v, Fix h' → Fr qL ((99, 28) :: qK0) h h' → gi h' 99 28 = v → aBecV D i v → Q (some (vI 1)) h') : Ok 285 0 [some (vR (some 99)), some (vI i), none] [] h Q := by
  have f0 : Fr [] [(99, 0)] h (si h 99 0 0) := Fr.refl.si (Or.inr (by decide))
  have F0 := hF.fr f0
  have r0 := r.fr f0 (by decide) (by decide)
  have wc := w.c
  obtain ⟨rk, hk, hk2⟩ := w.rk
  refine f_X12_because_0 hF _ (m_quarrels F0 r0 w (fun h1 F1 f1 _ g => ?_) (fun h1 a b d x y F1 f1 rb g bx yb e46 e47 e34 gf => ?_))
  · exact ⟨0, rfl, F1, fun _ => no h1 F1 ((f0.mono (by decide) (by decide)).trans (f1.mono (by decide) (by decide))) (Or.inr (Or.inl g)), fun c => absurd rfl c⟩
  · obtain ⟨f, g1, g2, g3⟩ := gf
    have hb := g.1.2.1
    have b1 := Far_rk hk w.ea g1 b hb
    have b2 := hk2 b hb
    have b3 := Qd_nn g.1
    have fq : Fr qL qK0 h h1 := (f0.mono (by decide) (by decide)).trans (f1.mono (by decide) (by decide))
    refine ⟨1, rfl, F1, fun c => by omega, fun _ => ?_⟩
    rw [e34, e46, e47]
    have x0 := bx.1.1
    have x1 := bx.1.2
    have y0 := yb.1.1
    have y1 := yb.1.2
    have rx : ∀ o, 129 ≤ o ∧ o ≤ 131 → gi h1 o x = dts D o x := fun o ho => rb o x ho (Or.inl bx.1)
    have ry : ∀ o, 129 ≤ o ∧ o ≤ 131 → gi h1 o (100 + y) = dts D o (100 + y) := fun o ho => rb o (100 + y) ho (Or.inr ⟨by omega, by omega⟩)
    rw [rx 129 (by decide), rx 130 (by decide), rx 131 (by decide), ry 129 (by decide), ry 130 (by decide), ry 131 (by decide)]
    refine ⟨⟨by omega, by omega⟩, fun q1 => no h1 F1 fq (Or.inl q1), fun q1 => ⟨fun q2 => no h1 F1 fq (Or.inr (Or.inr ⟨_, _, d, g, q2⟩)), fun q2 => ?_⟩⟩
    have e3 : iAnd i 3 = i % 4 := by
      rw [iAnd_nn ⟨by omega, by omega⟩ ⟨by decide, by decide⟩]
      have := Nat.and_two_pow_sub_one_eq_mod i.toNat 2
      have e : i.toNat &&& 3 = i.toNat % 4 := this
      show ((i.toNat &&& 3 : Nat) : Int) = _
      rw [e]; omega
    rw [e3]
    have fin : ∀ u v, v = bcV D x y (gi h1 124) i → Q (some (vI 1)) (si (si h1 99 28 u) 99 28 v) := fun u v hv => by
      have f3 : Fr qL ((99, 28) :: qK0) h (si (si h1 99 28 u) 99 28 v) := ((fq.mono (by decide) (by decide)).si (Or.inr (by decide))).si (Or.inr (by decide))
      exact yes _ v (hF.fr f3) f3 gi_si_e ⟨a, b, d, x, y, f, _, g, bx, yb, g1, g2, g3, by omega, by omega, hv⟩
    have fw : ¬ i ≤ 7 → gi h1 124 (i - 8) = bcV D x y (gi h1 124) i := fun q => by
      unfold bcV
      rw [if_neg (by omega), if_neg (by omega), if_neg (by omega), if_neg (by omega), if_neg (by omega), if_neg (by omega), if_neg (by omega), if_neg (by omega)]
    have fv : ∀ j v, i = j → bcV D x y (gi h1 124) j = v → v = bcV D x y (gi h1 124) i := fun j v e1 e2 => by rw [e1, e2]
    have hi8 : ¬ i ≤ 7 → (-2147483648 ≤ i - 8 ∧ i - 8 < 2147483648) ∧ (0 ≤ i - 8 ∧ i - 8 < 200) := fun q => ⟨⟨by omega, by omega⟩, ⟨by omega, by omega⟩⟩
    refine ⟨fun q3 => ⟨⟨by omega, by omega⟩, fun q4 => ⟨fun q5 => fin _ _ (fv 4 _ (by omega) (by simp [bcV])), fun q5 => ⟨(hi8 q5).1, (hi8 q5).2, fin _ _ (fw q5)⟩⟩, fun q4 => ⟨⟨by omega, by omega⟩, fun q5 => fin _ _ (fv 5 _ (by omega) (by simp [bcV])), fun q5 => ⟨(hi8 q5).1, (hi8 q5).2, fin _ _ (fw q5)⟩⟩, fun q4 => ⟨⟨by omega, by omega⟩, fun q5 => fin _ _ (fv 6 _ (by omega) (by simp [bcV])), fun q5 => ⟨(hi8 q5).1, (hi8 q5).2, fin _ _ (fw q5)⟩⟩, fun q4 => ⟨⟨by omega, by omega⟩, fun q5 => fin _ _ (fv 7 _ (by omega) (by simp [bcV])), fun q5 => ⟨(hi8 q5).1, (hi8 q5).2, fin _ _ (fw q5)⟩⟩⟩, fun q3 => ?_⟩
    exact ⟨fun q4 => ⟨fun q5 => fin _ _ (fv 0 _ (by omega) (by simp [bcV])), fun q5 => by omega⟩, fun q4 => ⟨⟨by omega, by omega⟩, fun q5 => fin _ _ (fv 1 _ (by omega) (by simp [bcV])), fun q5 => by omega⟩, fun q4 => ⟨⟨by omega, by omega⟩, fun q5 => fin _ _ (fv 2 _ (by omega) (by simp [bcV])), fun q5 => by omega⟩, fun q4 => ⟨⟨by omega, by omega⟩, fun q5 => fin _ _ (fv 3 _ (by omega) (by simp [bcV])), fun q5 => by omega⟩⟩
