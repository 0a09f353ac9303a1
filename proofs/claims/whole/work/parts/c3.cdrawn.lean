/-! begins, ends, what is drawn -/
theorem CInv.yr {h h' : AH} {n : Nat} {Ds : Nat → DD} {Z : DD} {c : Int} (ci : CInv h' n Ds Z c) (f : WbF h h') (e : gi h 73 14 = gi h 2 6) : gi h' 73 14 = gi h' 2 6 ∧ YrOk h' (Ds n) := by
  have : gi h' 73 14 = gi h' 2 6 := by rw [(f.1 73 (by decide)).1, (f.1 2 (by decide)).1]; exact e
  exact ⟨this, (ci.ca.2.2.1.2.2 this).1⟩
theorem c_begin_6 {h0 : AH} {Q : Option AV → AH → Prop} {n : Nat} {Ds : Nat → DD} {Z : DD} {c b : Int} (w : WF (Ds n)) (hb : In (Ds n 99 1) b) (hbb : Ds n 102 b = b)
    (cont : ∀ h' x, Fix h' → WbF h0 h' → CInv h' n Ds Z c → aBeg (Ds n) (dts (Ds n)) b x → Q (some (vI x)) h') (m : Nat) :
    ∀ (h : AH) (u y : Int), (Ds n 99 1 - u).toNat = m → 0 ≤ u → u ≤ Ds n 99 1 → Fix h → WbF h0 h → CInv h n Ds Z c → gi h 73 14 = gi h 2 6 → YrOk h (Ds n) → (y = -10000 ∨ ∃ v, In (Ds n 99 1) v ∧ Bel (Ds n) b v ∧ dts (Ds n) 129 v = y) → -10000 ≤ y → (∀ v, In u v → Bel (Ds n) b v → dts (Ds n) 129 v ≤ y) → Ok 114 6 [some (vR (some 73)), some (vI b), some (vI y), some (vI u), none] [] h Q := by
  have wc := w.c
  induction m using Nat.strongRecOn with
  | ind m ih =>
    intro h u y hm u0 u1 hF f ci e14 yr i1 i2 i3
    refine f_X10_beginOf_6 hF _ _ _ ?_
    rw [(ci.uc w).1]
    refine ⟨fun q => cont h y hF f ci ⟨?_, fun v hv hB => i3 v ⟨hv.1, by have := hv.2; omega⟩ hB⟩, fun q => ?_⟩
    · rcases i1 with e | e
      · refine ⟨b, hb, Or.inl hbb, ?_⟩
        have := i3 b ⟨hb.1, by have := hb.2; omega⟩ (Or.inl hbb)
        have := (dts_b w hb).1
        omega
      · exact e
    have hu : In (Ds n 99 1) u := ⟨u0, by omega⟩
    refine c_blockI hF ci w hu (fun h1 F1 f1 c1 => ⟨_, rfl, F1, ⟨by omega, by omega⟩, ?_⟩)
    obtain ⟨e1, y1⟩ := c1.yr f1 e14
    rw [(y1.1 u hu).1]
    have no : ∀ h', Fix h' → WbF h0 h' → CInv h' n Ds Z c → gi h' 73 14 = gi h' 2 6 ∧ YrOk h' (Ds n) → (¬ Bel (Ds n) b u ∨ dts (Ds n) 129 u ≤ y) → In 2147483647 u ∧ Ok 114 6 [some (vR (some 73)), some (vI b), some (vI y), some (vI (u + 1)), none] [] h' Q := fun h' F' f' c' y' hq => ⟨⟨by omega, by omega⟩, ih _ (by clear i1; omega) h' (u + 1) y rfl (by omega) (by omega) F' f' c' y'.1 y'.2 i1 i2 (fun v hv hB => by
      by_cases e : v = u
      · subst e
        rcases hq with z | z
        · exact absurd hB z
        · exact z
      · exact i3 v ⟨hv.1, by have := hv.2; omega⟩ hB)⟩
    have yes : ∀ h', Fix h' → WbF h0 h' → CInv h' n Ds Z c → gi h' 73 14 = gi h' 2 6 ∧ YrOk h' (Ds n) → Bel (Ds n) b u → ¬ dts (Ds n) 129 u ≤ y → Ok 114 6 [some (vR (some 73)), some (vI b), some (vI (dts (Ds n) 129 u)), some (vI (u + 1)), none] [] h' Q := fun h' F' f' c' y' hB hq => ih _ (by clear i1; omega) h' (u + 1) _ rfl (by omega) (by omega) F' f' c' y'.1 y'.2 (Or.inr ⟨u, hu, hB, rfl⟩) (by omega) (fun v hv hB' => by
      by_cases e : v = u
      · subst e; exact Int.le_refl _
      · have := i3 v ⟨hv.1, by have := hv.2; omega⟩ hB'
        omega)
    refine ⟨fun q2 => ⟨⟨by omega, by omega⟩, (no h1 F1 (f.trans f1) c1 ⟨e1, y1⟩ (Or.inr q2)).2⟩, fun q2 => ⟨fun q3 => ⟨⟨by omega, by omega⟩, yes h1 F1 (f.trans f1) c1 ⟨e1, y1⟩ (Or.inl q3) q2⟩, fun q3 => ?_⟩⟩
    refine c_leadsI F1 c1 w hb (w.blk hu) (fun h3 x F3 f3 c3 _ hx => ⟨_, rfl, F3, ?_⟩)
    have y3 := c3.yr f3 e1
    rw [(y3.2.1 u hu).1]
    refine ⟨fun q4 => ⟨⟨by omega, by omega⟩, (no h3 F3 ((f.trans f1).trans f3) c3 y3 (Or.inl (fun hB => ?_))).2⟩, fun q4 => ⟨⟨by omega, by omega⟩, yes h3 F3 ((f.trans f1).trans f3) c3 y3 (Or.inr ?_) q2⟩⟩
    · rcases hB with z | z
      · exact q3 z
      · rcases hx with t | t
        · omega
        · exact t.2 z
    · rcases hx with t | t
      · exact t.2
      · omega
theorem c_end_6 {h0 : AH} {Q : Option AV → AH → Prop} {n : Nat} {Ds : Nat → DD} {Z : DD} {c b : Int} (w : WF (Ds n)) (hb : In (Ds n 99 1) b) (hbb : Ds n 102 b = b)
    (cont : ∀ h' x, Fix h' → WbF h0 h' → CInv h' n Ds Z c → aEnd (Ds n) (dts (Ds n)) b x → Q (some (vI x)) h') (m : Nat) :
    ∀ (h : AH) (u y : Int), (Ds n 99 1 - u).toNat = m → 0 ≤ u → u ≤ Ds n 99 1 → Fix h → WbF h0 h → CInv h n Ds Z c → gi h 73 14 = gi h 2 6 → YrOk h (Ds n) → (y = 2100 ∨ ∃ v, In (Ds n 99 1) v ∧ Abo (Ds n) b v ∧ dts (Ds n) 129 (100 + v) = y) → y ≤ 2100 → (∀ v, In u v → Abo (Ds n) b v → y ≤ dts (Ds n) 129 (100 + v)) → Ok 115 6 [some (vR (some 73)), some (vI b), some (vI y), some (vI u), none] [] h Q := by
  have wc := w.c
  induction m using Nat.strongRecOn with
  | ind m ih =>
    intro h u y hm u0 u1 hF f ci e14 yr i1 i2 i3
    refine f_X10_endOf_6 hF _ _ _ ?_
    rw [(ci.uc w).1]
    refine ⟨fun q => cont h y hF f ci ⟨?_, fun v hv hB => i3 v ⟨hv.1, by have := hv.2; omega⟩ hB⟩, fun q => ?_⟩
    · rcases i1 with e | e
      · refine ⟨b, hb, Or.inl hbb, ?_⟩
        have := i3 b ⟨hb.1, by have := hb.2; omega⟩ (Or.inl hbb)
        have := (dts_b w hb).2
        omega
      · exact e
    have hu : In (Ds n 99 1) u := ⟨u0, by omega⟩
    refine c_blockI hF ci w hu (fun h1 F1 f1 c1 => ⟨_, rfl, F1, ⟨by omega, by omega⟩, ?_⟩)
    obtain ⟨e1, y1⟩ := c1.yr f1 e14
    rw [(y1.1 u hu).2.2.2.1]
    have no : ∀ h', Fix h' → WbF h0 h' → CInv h' n Ds Z c → gi h' 73 14 = gi h' 2 6 ∧ YrOk h' (Ds n) → (¬ Abo (Ds n) b u ∨ y ≤ dts (Ds n) 129 (100 + u)) → In 2147483647 u ∧ Ok 115 6 [some (vR (some 73)), some (vI b), some (vI y), some (vI (u + 1)), none] [] h' Q := fun h' F' f' c' y' hq => ⟨⟨by omega, by omega⟩, ih _ (by clear i1; omega) h' (u + 1) y rfl (by omega) (by omega) F' f' c' y'.1 y'.2 i1 i2 (fun v hv hB => by
      by_cases e : v = u
      · subst e
        rcases hq with z | z
        · exact absurd hB z
        · exact z
      · exact i3 v ⟨hv.1, by have := hv.2; omega⟩ hB)⟩
    have yes : ∀ h', Fix h' → WbF h0 h' → CInv h' n Ds Z c → gi h' 73 14 = gi h' 2 6 ∧ YrOk h' (Ds n) → Abo (Ds n) b u → ¬ y ≤ dts (Ds n) 129 (100 + u) → Ok 115 6 [some (vR (some 73)), some (vI b), some (vI (dts (Ds n) 129 (100 + u))), some (vI (u + 1)), none] [] h' Q := fun h' F' f' c' y' hB hq => ih _ (by clear i1; omega) h' (u + 1) _ rfl (by omega) (by omega) F' f' c' y'.1 y'.2 (Or.inr ⟨u, hu, hB, rfl⟩) (by omega) (fun v hv hB' => by
      by_cases e : v = u
      · subst e; exact Int.le_refl _
      · have := i3 v ⟨hv.1, by have := hv.2; omega⟩ hB'
        omega)
    refine ⟨fun q2 => ⟨⟨by omega, by omega⟩, (no h1 F1 (f.trans f1) c1 ⟨e1, y1⟩ (Or.inr q2)).2⟩, fun q2 => ⟨fun q3 => ⟨⟨by omega, by omega⟩, yes h1 F1 (f.trans f1) c1 ⟨e1, y1⟩ (Or.inl q3) q2⟩, fun q3 => ?_⟩⟩
    refine c_leadsI F1 c1 w (w.blk hu) hb (fun h3 x F3 f3 c3 _ hx => ⟨_, rfl, F3, ?_⟩)
    have y3 := c3.yr f3 e1
    rw [(y3.2.1 u hu).2.2.2.1]
    refine ⟨fun q4 => ⟨⟨by omega, by omega⟩, (no h3 F3 ((f.trans f1).trans f3) c3 y3 (Or.inl (fun hB => ?_))).2⟩, fun q4 => ⟨⟨by omega, by omega⟩, yes h3 F3 ((f.trans f1).trans f3) c3 y3 (Or.inr ?_) q2⟩⟩
    · rcases hB with z | z
      · exact q3 z
      · rcases hx with t | t
        · omega
        · exact t.2 z
    · rcases hx with t | t
      · exact t.2
      · omega
theorem c_beginOf {h : AH} {Q : Option AV → AH → Prop} {n : Nat} {Ds : Nat → DD} {Z : DD} {c b : Int} (hF : Fix h) (ci : CInv h n Ds Z c) (w : WF (Ds n)) (hb : In (Ds n 99 1) b) (hbb : Ds n 102 b = b) (cont : ∀ h' x, Fix h' → Rf h h' → CInv h' n Ds Z c → aBeg (Ds n) (dts (Ds n)) b x → Q (some (vI x)) h') : Ok 114 0 [some (vR (some 73)), some (vI b), none, none, none] [] h Q := by
  refine f_X10_beginOf_0 hF _ (c_yearsI hF ci w (fun h1 F1 y1 c1 e1 r1 => ⟨rfl, F1, ?_⟩))
  exact c_begin_6 (h0 := h1) w hb hbb (fun h' x F' f' c' a' => cont h' x F' (y1.rf.trans f'.rf) c' a') _ h1 0 (-10000) rfl (by decide) w.c.1 F1 WbF.refl c1 e1 r1 (Or.inl rfl) (by decide) (fun v hv => by have := hv.1; have := hv.2; omega)
theorem c_endOf {h : AH} {Q : Option AV → AH → Prop} {n : Nat} {Ds : Nat → DD} {Z : DD} {c b : Int} (hF : Fix h) (ci : CInv h n Ds Z c) (w : WF (Ds n)) (hb : In (Ds n 99 1) b) (hbb : Ds n 102 b = b) (cont : ∀ h' x, Fix h' → Rf h h' → CInv h' n Ds Z c → aEnd (Ds n) (dts (Ds n)) b x → Q (some (vI x)) h') : Ok 115 0 [some (vR (some 73)), some (vI b), none, none, none] [] h Q := by
  refine f_X10_endOf_0 hF _ (c_yearsI hF ci w (fun h1 F1 y1 c1 e1 r1 => ⟨rfl, F1, ?_⟩))
  exact c_end_6 (h0 := h1) w hb hbb (fun h' x F' f' c' a' => cont h' x F' (y1.rf.trans f'.rf) c' a') _ h1 0 2100 rfl (by decide) w.c.1 F1 WbF.refl c1 e1 r1 (Or.inl rfl) (by decide) (fun v hv => by have := hv.1; have := hv.2; omega)
theorem c_drawn {h : AH} {Q : Option AV → AH → Prop} {n : Nat} {Ds : Nat → DD} {Z : DD} {c u a : Int} (hF : Fix h) (ci : CInv h n Ds Z c) (w : WF (Ds n)) (bad : ¬ ((0 ≤ u ∧ u < Ds n 99 1) ∧ 0 ≤ a ∧ a ≤ 2) → Q (some (vI (-1))) h)
    (tell : ∀ h' bg en, (0 ≤ u ∧ u < Ds n 99 1) ∧ 0 ≤ a ∧ a ≤ 2 → Fix h' → Rf h h' → aBeg (Ds n) (dts (Ds n)) (Ds n 102 u) bg → aEnd (Ds n) (dts (Ds n)) (Ds n 102 u) en → CInv h' n Ds (zT Z (if a = 0 then bg else if a = 1 then en else if en < bg then 1 else 0)) c → Q (some (vI 1)) h') :
    Ok 177 0 [some (vR (some 1)), some (vI u), some (vI a), none, none, none] [] h Q := by
  refine f_X11_drawn_0 hF _ _ ?_
  rw [(ci.uc w).1]
  refine ⟨fun q => bad (by omega), fun q => ⟨fun q2 => bad (by omega), fun q2 => ⟨fun q3 => bad (by omega), fun q3 => ⟨fun q4 => ?_, fun q4 => bad (by omega)⟩⟩⟩⟩
  have hu : In (Ds n 99 1) u := ⟨by omega, by omega⟩
  have hb := w.blk hu
  have hbb := (w.2.1 u hu).2.2.1.2.2
  refine c_blockI hF ci w hu (fun h1 F1 f1 c1 => ⟨_, rfl, F1, c_beginOf F1 c1 w hb hbb (fun h2 bg F2 f2 c2 a2 => ⟨_, rfl, F2, c_endOf F2 c2 w hb hbb (fun h3 en F3 f3 c3 a3 => ⟨_, rfl, F3, ?_⟩)⟩)⟩)
  have fin : ∀ v, v = (if a = 0 then bg else if a = 1 then en else if en < bg then 1 else 0) → Q (some (vI 1)) (si h3 1 10 v) := fun v hv => tell _ bg en (by omega) F3 ((f1.rf.trans f2).trans f3 |>.si (by decide)) a2 a3 (by rw [← hv]; exact c3.tell)
  refine ⟨fun q5 => ⟨fun q6 => fin _ ?_, fun q6 => fin _ ?_⟩, fun q5 => ⟨fun q6 => fin _ ?_, fun q6 => fin _ ?_⟩⟩
  · rw [if_neg (by omega), if_pos (by omega)]
  · rw [if_pos (by omega)]
  · rw [if_neg (by omega), if_neg (by omega), if_neg (by omega)]
  · rw [if_neg (by omega), if_neg (by omega), if_pos (by omega)]
