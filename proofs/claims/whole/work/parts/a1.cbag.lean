/-! bag, take in the class -/
theorem RC_plc {S D : DD} {T : FD} {b v x y : Int} (r : RC S T D) (hb : In (D 99 11) b) (hv : v = -1 ∧ x = -5 ∨ In 2400 v ∧ In (D 99 11) (v / 40) ∧ S 54 (v / 40) = 0 ∧ x = v / 40 ∧ y = v % 40) : RC (up S 56 b v) T (up (up D 110 b x) 111 b y) := by
  obtain ⟨r1, r2, ⟨t1, t2, t3⟩, r4, r5⟩ := r
  have eS : ∀ o, o ≠ 56 → up S 56 b v o = S o := fun o h1 => up_r h1
  have eD : ∀ o, o ≠ 110 → o ≠ 111 → up (up D 110 b x) 111 b y o = D o := fun o h1 h2 => by rw [up_r h2, up_r h1]
  have e9 : up (up D 110 b x) 111 b y 99 = D 99 := eD 99 (by decide) (by decide)
  refine ⟨RCu_c r1 (fun o _ => eS o (by omega)) (by rw [e9]) (fun o _ _ => eD o (by omega) (by omega)), RCr_c r2 (fun o _ _ => eS o (by omega)) (by rw [e9]) (fun o _ _ => eD o (by omega) (by omega)), ⟨by rw [eS 64 (by decide), e9]; exact t1, fun t ht => ?_, fun t h1 h2 => ?_⟩, RCs_c r4 (fun o _ => eS o (by omega)) (by rw [e9]) (fun o _ => eD o (by omega) (by omega)), RCj_c r5 (fun o _ => eS o (by omega)) (by rw [e9]) (fun o _ => eD o (by omega) (by omega))⟩
  · rw [e9] at ht
    obtain ⟨a1, a2, a3⟩ := t2 t ht
    unfold Plc
    rw [eS 50 (by decide), eS 52 (by decide), eS 54 (by decide), eD 108 (by decide) (by decide), eD 109 (by decide) (by decide), e9]
    refine ⟨a1, a2, ?_⟩
    by_cases e : t = b
    · subst e
      rw [up_e, up_e, up_o (p := 110) (o := 111) (by decide), up_e]
      rcases hv with ⟨h1, h2⟩ | ⟨h1, h2, h3, h4, h5⟩
      · exact Or.inl ⟨h1, h2⟩
      · exact Or.inr ⟨h1, h2, fun q => by omega, fun _ => ⟨h4, h5⟩⟩
    · rw [up_k e, up_k e, up_o (p := 110) (o := 111) (by decide), up_k e, up_o (p := 111) (o := 110) (by decide)]
      exact a3
  · rw [e9] at h1
    rw [eS 50 (by decide), eS 52 (by decide), eS 54 (by decide), up_k (by have := hb.2; omega)]
    exact t3 t h1 h2
/-- a slot is emptied -/
theorem RC_emp {S D : DD} {T : FD} {t s : Int} (w : W9 D) (r : RC S T D) (ht : In (D 99 11) t) (hs : In (D 109 t) s) : RC (up S 58 (40 * t + s) (-1)) T (emp D (40 * t + s)) := by
  refine RC_slot9 w r ht hs (fun o h1 h2 => up_r h1) (fun j hj => up_k hj) (by rw [up_o (by decide)]; exact Int.le_refl _) ?_ (fun c _ => emp_o (by omega)) (fun o h1 h2 => funext fun j => emp_o (by omega)) (fun o h1 h2 j hj => emp_s ⟨h1, h2⟩ hj) (fun i hi => by rw [emp_116, if_neg hi]) (fun i _ => emp_o (by omega))
  refine Or.inl ⟨?_, up_e⟩
  unfold emp; rw [if_pos ⟨rfl, rfl⟩]
theorem emp_up {D : DD} {k j v : Int} {o : Nat} (ho : o < 112) : emp (up D o j v) k = up (emp D k) o j v := by
  funext a b
  by_cases h : a = o
  · subst h
    rw [emp_o (by omega)]
    unfold up
    by_cases e : b = j
    · rw [if_pos ⟨rfl, e⟩, if_pos ⟨rfl, e⟩]
    · rw [if_neg (fun q => e q.2), if_neg (fun q => e q.2), emp_o (by omega)]
  · rw [up_o h]
    unfold emp
    simp only [up_o (D := D) (k := j) (v := v) h]
theorem RC_let {S D : DD} {T : FD} {t s : Int} (w : WF D) (r : RC S T D) (ht : In (D 99 11) t) (hs : In (D 109 t) s) : (D 112 (40 * t + s) ≠ 4 → RC (up S 58 (40 * t + s) (-1)) T (sLet D (40 * t + s))) ∧ (D 112 (40 * t + s) = 4 → RC (up (up S 58 (40 * t + s) (-1)) 56 (D 114 (40 * t + s)) (-1)) T (sLet D (40 * t + s))) := by
  have re := RC_emp w.w9 r ht hs
  unfold sLet
  refine ⟨fun h => by rw [if_neg h]; exact re, fun h => ?_⟩
  rw [if_pos h, emp_up (by decide), emp_up (by decide)]
  refine RC_plc re ?_ (Or.inl ⟨rfl, rfl⟩)
  rw [emp_o (by omega)]
  exact ((w.2.2.2.2.2.1 t s ht hs).2.2.2.2.2.2.2 h).1
theorem c_empty {h0 h : AH} {Q : Option AV → AH → Prop} {G : Nat → Prop} {n : Nat} {Ds : Nat → DD} {c : Int} {S : DD} {T : FD} {k e f : Int} {t s : Int} (hF : Fix h) (m : CMid h0 G n Ds c S T k e f h) (hk : k ≤ 100) (ht : In 60 t) (hs : In 40 s) (cont : ∀ h', Fix h' → CMid h0 G n Ds c (up S 58 (40 * t + s) (-1)) T (k + 1) e f h' → Pr (Xs G) h h' → Q none h') : Ok 73 0 [some (vR (some 47)), some (vI t), some (vI s)] [] h Q := by
  have a1 := ht.1
  have a2 := ht.2
  have a3 := hs.1
  have a4 := hs.2
  refine f_X7_empty_0 hF _ _ ⟨⟨by omega, by omega⟩, ⟨by omega, by omega⟩, ?_⟩
  rw [show t * 40 + s = 40 * t + s by omega]
  exact c_putM hF m hk (N := 2400) (by decide) (by decide) ⟨by omega, by omega⟩ (fun h1 F1 m1 p1 => ⟨rfl, F1, cont h1 F1 m1 p1⟩)
theorem oTake_of {D : DD} {t s : Int} (h : heldF D t s (-5) = 0) : D 112 (40 * t + s) = oTake D t s := by unfold oTake; rw [if_neg (by omega)]
theorem sLet_gsm {D : DD} {k : Int} : Gsm D (sLet D k) := ⟨sLet_o (by omega), sLet_o (by omega), funext fun j => sLet_o (by omega), funext fun j => sLet_o (by omega), funext fun j => sLet_o (by omega)⟩
theorem c_take {h : AH} {Q : Option AV → AH → Prop} {n : Nat} {Ds : Nat → DD} {Z : DD} {c p t s : Int} (hF : Fix h) (ci : CInv h n Ds Z c) (w : WF (Ds n)) (wz : WZ Z c) (hc : c ≤ 1000) (hp : rp (0 ≤ t ∧ t < Ds n 99 11) p)
    (cq : CQ h n Ds Z c (aF 12 t s 0 0 0 0) p Q) : Ok 159 0 [some (vR (some 1)), some (vI t), some (vI s), none, none] [] h Q := by
  obtain ⟨hp1, hp0, hp01⟩ := rp_of hp
  obtain ⟨G, S, T, m, rc⟩ := ci.mid
  obtain ⟨ed1, ed2, e21, n300⟩ := ci.ed
  have tr := m.tr (Or.inl (by decide)) rc
  have wc := w.c
  have h1 := heldF_r (D := Ds n) (t := t) (s := s) (kd := -5)
  refine f_X11_take_0 hF _ _ ?_
  rw [tr.T]
  refine ⟨fun q => c_bad hF ci wz hc (hp0.mpr (by omega)) cq, fun q => ⟨fun q2 => c_bad hF ci wz hc (hp0.mpr (by omega)) cq, fun q2 => ⟨fun q5 => ?_, fun q5 => c_full hF ci wz hc (hp1.mpr (by omega)) q5 cq⟩⟩⟩
  have hv : p = 1 := hp1.mpr (by omega)
  have ht : In (Ds n 99 11) t := ⟨by omega, by omega⟩
  refine c_lookForSome hF tr w ht ⟨_, rfl, hF, c_findAt hF tr w (fun o fa => ⟨o, rfl, hF, fun q6 => ?_, fun q6 => ⟨fun e => ?_, fun a e => ?_⟩⟩)⟩
  · have m0 : heldF (Ds n) t s (-5) ≠ 0 := fun e => q6 (by rw [e]; rfl)
    rw [lkF_n m0]
    exact c_neg hF ci wz hc hv q5 (by omega) (by omega) (ansK (by unfold oTake; rw [if_pos m0])) cq
  · have m0 : heldF (Ds n) t s (-5) = 0 := (lkF0 h1.1).mp (Decidable.not_not.mp q6)
    subst e
    exfalso
    rcases FA_none fa with f | f | f
    · exact f ht
    · rw [heldF_slot f] at m0; exact f m0
    · by_cases z : slotF (Ds n) t s = 0
      · rw [heldF_none z f] at m0; omega
      · rw [heldF_slot z] at m0; exact z m0
  · have m0 : heldF (Ds n) t s (-5) = 0 := (lkF0 h1.1).mp (Decidable.not_not.mp q6)
    subst e
    obtain ⟨_, hs, s0, f5, g, g0, g1⟩ := FO.knd fa
    rcases fa with ⟨fa, _⟩ | ⟨o', fa, _, _, _, _, hid, fo, hl, sr⟩
    · cases fa
    cases fa
    have q40 := (w.2.2.2.1 t ht).2.1
    have s1 := hs.1
    have s2 := hs.2
    have ws := w.2.2.2.2.2.1 t s ht hs
    have hG : ∀ o, G o → 136 ≤ o ∧ o < nn h := by
      obtain ⟨Ss, E, L, w, cc, m1, _⟩ := m
      exact m1.1
    obtain ⟨rl1, rl2⟩ := RC_let w rc ht hs
    have xg : ∀ o, G o → Xs G o := fun o ho => Or.inr ⟨(hG o ho).1, ho⟩
    have fin : ∀ (h' : AH) (S' : DD) (k : Int), k ≤ 40 → Fix h' → CMid h G n Ds c S' T k 0 0 h' → RC S' T (sLet (Ds n) (40 * t + s)) → Ok 131 0 [some (vR (some 1)), some (vI (Ds n 112 (40 * t + s)))] [] h' (Qx Q) := fun h' S' k hk F' m' r' =>
      c_did (A := aF 12 t s 0 0 0 0) F' m' ci hc hk (by omega) (Or.inl rfl) r' (Or.inr ⟨rfl, by rw [aF0]; decide, sLet_gsm⟩) hv (ansK (oTake_of m0)) (dnP (by rw [aF0]; decide) (by have := ws.1; omega)) (by rw [aF0]; decide) cq
    refine c_empty hF m (by omega) ⟨by omega, by omega⟩ ⟨by omega, by omega⟩ (fun h2 F2 m2 p2 => ⟨rfl, F2, ?_⟩)
    have ka := p2 a (xg a fo.1)
    have fo2 := fo.kp (fun q hq => p2 q (xg q hq))
    rw [ka.2.2.2.2, g, congrFun ka.1 0, g0]
    refine ⟨rfl, fun q7 => fin h2 _ _ (by omega) F2 m2 (rl1 q7), fun q7 => ⟨rfl, ?_⟩⟩
    have k4 : Ds n 112 (40 * t + s) = 4 := Decidable.not_not.mp q7
    obtain ⟨z1, z2⟩ : T (S 58 (40 * t + s)) (-1) = 1 ∧ T (S 58 (40 * t + s)) 0 = Ds n 114 (40 * t + s) := by
      rcases sr with sl | sl
      · omega
      · exact sl.2.2.2.2.2.2.2.2 k4
    have hb := (ws.2.2.2.2.2.2.2 k4).1
    have hb1 := hb.1
    have hb2 := hb.2
    refine c_numberAt F2 fo2 (by rw [z1]; exact ⟨by decide, by decide⟩) ⟨_, rfl, F2, ?_⟩
    rw [z2]
    refine f_X7_unplace_0 F2 _ (c_putM F2 m2 (by omega) (N := 60) (by decide) (by decide) ⟨by omega, by omega⟩ (fun h3 F3 m3 p3 => ⟨rfl, F3, rfl, F3, ?_⟩))
    have kb := p3 a (xg a fo.1)
    rw [kb.2.2.2.2, ka.2.2.2.2, g, congrFun kb.1 0, congrFun ka.1 0, g0]
    exact ⟨rfl, fin h3 _ _ (by omega) F3 m3 (rl2 k4)⟩
def t1F (b : Int) : Int → Int := fun i => if i = -3 then 4 else if i = -2 then 0 else if i = -1 then 1 else b
theorem RC_bag {S D : DD} {T : FD} {t s k : Int} (w : WF D) (r : RC S T D) (ht : In (D 99 11) t) (hs : In (D 109 t) s) (h5 : D 112 (40 * t + s) = -5) (hk : 0 ≤ k ∧ k ≤ 40) (h60 : D 99 11 < 60) :
    RC (up (up (up (up (up (up S 50 (D 99 11) (-5)) 52 (D 99 11) k) 64 0 (D 99 11 + 1)) 68 0 (S 68 0 + 1)) 58 (40 * t + s) (S 68 0)) 56 (D 99 11) (40 * t + s)) (tNew T (S 68 0) (t1F (D 99 11))) (sBag D t s k) := by
  have wc := w.c
  have h1 := ht.1
  have h2 := ht.2
  have q40 := (w.2.2.2.1 t ht).2.1
  have s1 := hs.1
  have s2 := hs.2
  have rn := RC_new (u := -5) (n := k) w r h60 hk
  have wn := WF_new w (u := -5) (n := k) (Or.inl rfl) hk (by omega)
  obtain ⟨ec, e11, er, ot, e108, e109, e110, e111, os, n112, e116⟩ := sNewE (D := D) (u := -5) (n := k)
  have hm := r.2.2.2.1.1
  have m0 : D 113 (40 * t + s) = 0 := by
    have := (w.2.2.2.2.2.1 t s ht hs).2.2.1
    by_cases z : D 113 (40 * t + s) = 0
    · exact z
    · have := this z; omega
  unfold sBag
  have ht' : In (sNew D (-5) k 99 11) t := by rw [e11]; exact ⟨h1, by omega⟩
  have hs' : In (sNew D (-5) k 109 t) s := by rw [ot 109 (by decide) (by decide) t (by omega)]; exact hs
  have m0' : sNew D (-5) k 113 (40 * t + s) = 0 := by rw [os 113 (by decide) (by decide) _ (by omega)]; exact m0
  generalize sNew D (-5) k = E at rn wn ec e11 er ot e108 e109 e110 e111 os n112 e116 ht' hs' m0' ⊢
  have S68 : up (up (up S 50 (D 99 11) (-5)) 52 (D 99 11) k) 64 0 (D 99 11 + 1) 68 0 = S 68 0 := by rw [up_o (by decide), up_o (by decide), up_o (by decide)]
  have S54 : up (up (up S 50 (D 99 11) (-5)) 52 (D 99 11) k) 64 0 (D 99 11 + 1) 54 = S 54 := by rw [up_r (by decide), up_r (by decide), up_r (by decide)]
  generalize up (up (up S 50 (D 99 11) (-5)) 52 (D 99 11) k) 64 0 (D 99 11 + 1) = S7 at rn S68 S54 ⊢
  have r1 : RC (up (up S7 68 0 (S 68 0 + 1)) 58 (40 * t + s) (S 68 0)) (tNew T (S 68 0) (t1F (D 99 11))) (up (up E 112 (40 * t + s) 4) 114 (40 * t + s) (D 99 11)) := by
    refine RC_slot wn (rn.T (T' := tNew T (S 68 0) (t1F (D 99 11))) (fun i _ h => tNew_o (by omega))) ht' hs' (fun o h1 h2 => by rw [up_r h1, up_r h2]) (fun j hj => by rw [up_k hj, up_o (by decide)]) (by rw [up_o (by decide), up_e]; omega) ?_ (fun c _ => by rw [up_o (by decide), up_o (by decide)]) (fun o h1 h2 => by rw [up_r (by omega), up_r (by omega)]) (fun o h1 h2 j hj => by unfold up; rw [if_neg (fun q => hj q.2), if_neg (fun q => hj q.2)]) (fun i _ => by rw [up_o (by decide), up_o (by decide)]) (fun i _ => by rw [up_o (by decide), up_o (by decide)])
    rw [up_e, up_o (p := 68) (o := 58) (by decide), up_e]
    unfold SlotR
    rw [up_o (p := 112) (o := 114) (by decide), up_e, up_o (p := 113) (o := 114) (by decide), up_o (p := 113) (o := 112) (by decide), m0', up_e, tNew_e]
    exact Or.inr ⟨hm, by omega, by omega, rfl, rfl, fun q => by omega, fun q => by omega, fun q => by omega, fun _ => ⟨rfl, rfl⟩⟩
  refine RC_plc r1 ?_ (Or.inr ⟨⟨by omega, by omega⟩, ?_, ?_, by omega, by omega⟩)
  · rw [up_o (by decide), up_o (by decide), e11]; exact ⟨by omega, by omega⟩
  · rw [up_o (by decide), up_o (by decide), show (40 * t + s) / 40 = t by omega]; exact ht'
  · rw [up_o (by decide), up_o (by decide), S54, show (40 * t + s) / 40 = t by omega]
    rcases (r.2.2.1.2.1 t ht).2.1 with z | z
    · omega
    · exact z.1
theorem oBag_of {D : DD} {t s k x : Int} (h : D 99 11 = 60 ∧ x = -3 ∨ D 99 11 ≠ 60 ∧ (k < 0 ∧ x = -15 ∨ 0 ≤ k ∧ (slotF D t s ≠ 0 ∧ x = -10 - slotF D t s ∨ slotF D t s = 0 ∧ (D 112 (40 * t + s) ≠ -5 ∧ x = -2 ∨ D 112 (40 * t + s) = -5 ∧ x = D 99 11)))) : x = oBag D t s k := by
  unfold oBag
  rcases h with ⟨h1, h2⟩ | ⟨h1, ⟨h2, h3⟩ | ⟨h2, ⟨h3, h4⟩ | ⟨h3, ⟨h4, h5⟩ | ⟨h4, h5⟩⟩⟩⟩
  · rw [if_pos h1]; exact h2
  · rw [if_neg h1, if_pos h2]; exact h3
  · rw [if_neg h1, if_neg (by omega), if_pos h3]; exact h4
  · rw [if_neg h1, if_neg (by omega), if_neg (by omega), if_pos h4]; exact h5
  · rw [if_neg h1, if_neg (by omega), if_neg (by omega), if_neg (by omega)]; exact h5
theorem c_bag {h : AH} {Q : Option AV → AH → Prop} {n : Nat} {Ds : Nat → DD} {Z : DD} {c p t s k : Int} (hF : Fix h) (ci : CInv h n Ds Z c) (w : WF (Ds n)) (wz : WZ Z c) (hc : c ≤ 1000) (hp : rp ((0 ≤ t ∧ t < Ds n 99 11) ∧ k ≤ 40) p)
    (cq : CQ h n Ds Z c (aF 11 t s k 0 0 0) p Q) : Ok 158 0 [some (vR (some 1)), some (vI t), some (vI s), some (vI k), none, none] [] h Q := by
  obtain ⟨hp1, hp0, hp01⟩ := rp_of hp
  obtain ⟨G, S, T, m, rc⟩ := ci.mid
  obtain ⟨ed1, ed2, e21, n300⟩ := ci.ed
  have tr := m.tr (Or.inl (by decide)) rc
  have wc := w.c
  refine f_X11_bag_0 hF _ _ _ ?_
  rw [tr.T]
  refine ⟨fun q => c_bad hF ci wz hc (hp0.mpr (by omega)) cq, fun q => ⟨fun q2 => c_bad hF ci wz hc (hp0.mpr (by omega)) cq, fun q2 => ⟨fun q3 => ⟨fun q5 => ⟨fun q6 => ⟨fun q7 => ?_, fun q7 => ?_⟩, fun q6 => ?_⟩, fun q5 => c_full hF ci wz hc (hp1.mpr (by omega)) q5 cq⟩, fun q3 => c_bad hF ci wz hc (hp0.mpr (by omega)) cq⟩⟩⟩
  · have hv : p = 1 := hp1.mpr (by omega)
    have ht : In (Ds n 99 11) t := ⟨by omega, by omega⟩
    refine c_barrier hF tr w ht (fun x hx => ⟨x, rfl, hF, fun q4 => ?_, fun q4 => ?_⟩)
    · have hx' : slotF (Ds n) t s = 0 ∧ Ds n 112 (40 * t + s) = -5 := by
        have := slotF_r (D := Ds n) (t := t) (s := s)
        rcases hx with h1 | ⟨h1, ⟨h2, h3⟩ | ⟨h2, ⟨h3, h4⟩ | ⟨h3, h4⟩⟩⟩
        · omega
        · omega
        · omega
        · exact ⟨h2, h3⟩
      have hs := slotF0.mp hx'.1
      have q40 := (w.2.2.2.1 t ht).2.1
      have s1 := hs.1
      have s2 := hs.2
      refine f_X7_add_0 hF _ _ ?_
      rw [tr.T]
      refine c_putM hF m (by omega) (N := 60) (by decide) (by decide) ⟨by omega, by omega⟩ (fun h1 F1 m1 _ => ⟨rfl, F1, c_putM F1 m1 (by omega) (N := 60) (by decide) (by decide) ⟨by omega, by omega⟩ (fun h2 F2 m2 _ => ⟨rfl, F2, ⟨by omega, by omega⟩, c_putM F2 m2 (by omega) (N := 1) (by decide) (by decide) in10 (fun h7 F7 m7 _ => ⟨rfl, F7, _, rfl, F7, ?_⟩)⟩)⟩)
      have n0 := F7.2.2
      have eo : nn (al h7 13 6) = nn h7 + 1 := rfl
      have kp2 : ∀ r, r < nn h7 → Kp r h7 (si (al (al h7 13 6) 0 1) (nn (al h7 13 6)) 0 (Ds n 99 11)) := fun r hr => ((Kp.refl.al hr).al (by rw [eo]; omega)).si (by rw [eo]; omega)
      have so : sh (si (al (al h7 13 6) 0 1) (nn (al h7 13 6)) 0 (Ds n 99 11)) (nn h7) = (13, 6) := by
        show sh (al (al h7 13 6) 0 1) (nn h7) = _
        rw [sh_al_p (by rw [eo]; omega)]; exact sh_al_e
      refine c_init (G := fun x => G x ∨ nn h7 ≤ x ∧ x < nn h7 + 2) (t := t1F (Ds n 99 11)) (F7.al.al) n0 so sh_al_e (by rw [eo]; omega) (Or.inr ⟨by omega, by omega⟩) (Or.inr ⟨by rw [eo]; omega, by rw [eo]; omega⟩) rfl rfl (fun i hi => ?_) (fun q => absurd q (by decide)) (fun h9 F9 k9 nn9 us9 fo9 => ⟨rfl, F9, ?_⟩)
      · have i0 := hi.1
        have i1 : i < 1 := hi.2
        have e : i = 0 := by omega
        rw [e, gi_si_e]; rfl
      · have nn9' : nn h9 = nn h7 + 2 := nn9
        have us9' : us h9 = us h7 + 6 + 1 := us9
        have S68 : up (up (up S (49 + 1) (Ds n 99 11) (-5)) (51 + 1) (Ds n 99 11) k) (63 + 1) 0 (Ds n 99 11 + 1) 68 0 = S 68 0 := by rw [up_o (by decide), up_o (by decide), up_o (by decide)]
        refine c_putNew (t := t1F (Ds n 99 11)) F9 F7 m7 (by omega) (by omega) (fun r hr => (kp2 r hr).trans (k9 r (by omega))) ⟨by omega, by omega⟩ (by omega) (by rw [nn9']; exact fo9) ⟨by show (0 : Int) ≤ 1; decide, by show (1 : Int) ≤ 40; decide⟩ ⟨by omega, by omega⟩ ⟨by omega, by omega⟩ (fun h' G' F' m' _ => ⟨rfl, F', f_X7_setPlace_0 F' _ _ _ ⟨⟨by omega, by omega⟩, ⟨by omega, by omega⟩, ?_⟩⟩)
        rw [show t * 40 + s = 40 * t + s by omega]
        refine c_putM F' m' (by omega) (N := 60) (by decide) (by decide) ⟨by omega, by omega⟩ (fun h3 F3 m3 _ => ⟨rfl, F3, rfl, F3, ?_⟩)
        rw [S68] at m3
        refine c_did (A := aF 11 t s k 0 0 0) F3 m3 ci hc (by omega) (by omega) (Or.inr rfl) (RC_bag w rc ht hs hx'.2 (by omega) (by omega)) (Or.inr ⟨rfl, by rw [aF0]; decide, ?_⟩) hv (ansB (oBag_of (Or.inr ⟨by omega, Or.inr ⟨by omega, Or.inr ⟨hx'.1, Or.inr ⟨hx'.2, rfl⟩⟩⟩⟩))) (dnP (by rw [aF0]; decide) (by omega)) (by rw [aF0]; decide) cq
        obtain ⟨ec, e11, er, _⟩ := sNewE (D := Ds n) (u := -5) (n := k)
        exact ⟨ec 1 (by decide) (by decide), ec 7 (by decide) (by decide), er 102 (by omega), er 106 (by omega), er 107 (by omega)⟩
    · rcases hx with ⟨h1, h2⟩ | ⟨h1, h2⟩
      · rw [h2]; exact c_full hF ci wz hc hv h1 cq
      · have := slotF_r (D := Ds n) (t := t) (s := s)
        refine c_neg hF ci wz hc hv h1 (by omega) (by omega) (ansB (oBag_of (Or.inr ⟨by omega, Or.inr ⟨by omega, ?_⟩⟩))) cq
        rcases h2 with h2 | ⟨h2, h3 | h3⟩
        · exact Or.inl h2
        · exact Or.inr ⟨h2, Or.inl h3⟩
        · exact absurd h3.2 q4
  · exact c_neg hF ci wz hc (hp1.mpr (by omega)) q5 (by omega) (by omega) (ansB (oBag_of (Or.inr ⟨by omega, Or.inl ⟨by omega, rfl⟩⟩))) cq
  · exact c_neg hF ci wz hc (hp1.mpr (by omega)) q5 (by omega) (by omega) (ansB (oBag_of (Or.inl ⟨by omega, rfl⟩))) cq
