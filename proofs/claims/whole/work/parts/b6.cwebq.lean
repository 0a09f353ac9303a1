/-! questions to the web -/
theorem CaS.kp2 {h h' : AH} {D : DD} (k : ∀ o, o ∉ wO → Kp o h h') (k7 : gi h' 7 8 = gi h 7 8) (a : CaS h D) : CaS h' D := by
  unfold CaS SeqOk
  rw [k7, (k 86 (by decide)).1, (k 86 (by decide)).2.1, (k 87 (by decide)).1, (k 88 (by decide)).1, (k 89 (by decide)).1]; exact a
theorem CaY.kp2 {h h' : AH} {D : DD} (k : ∀ o, o ∉ wO → Kp o h h') (a : CaY h D) : CaY h' D := by
  unfold CaY YrOk QrOk
  rw [(k 2 (by decide)).1, (k 73 (by decide)).1, (k 74 (by decide)).1, (k 75 (by decide)).1, (k 76 (by decide)).1, (k 77 (by decide)).1, (k 78 (by decide)).1, (k 79 (by decide)).1, (k 80 (by decide)).1, (k 81 (by decide)).1, (k 82 (by decide)).1, (k 83 (by decide)).1]; exact a
theorem CInv.wb {h h' : AH} {n : Nat} {Ds : Nat → DD} {Z : DD} {c : Int} (ci : CInv h n Ds Z c) (f : WbF h h') (cu : CaU h' (Ds n)) (cw : CaW h' (Ds n)) : CInv h' n Ds Z c := by
  have ca := ci.ca
  have cz := ci.cz
  have cw0 : ∀ o ∈ wO, o < 136 ∧ (o ≠ 2 ∧ o ≠ 3 ∧ o ≠ 4 ∧ o ≠ 5 ∧ o ≠ 6 ∧ o ≠ 48 ∧ o ≠ 93) ∧ ∀ e ∈ colL, e.1 ≠ o := by decide +kernel
  have nc : ∀ o, Cr o → o ∉ wO := fun o ho hm => by
    obtain ⟨a1, a2, a3⟩ := cw0 o hm
    rcases ho with c | c | c | c | c | c | c | ⟨n, c⟩ | c
    all_goals first | omega | exact a3 _ c rfl
  refine ci.core (fun o ho => f.1 o (nc o ho)) (by rw [f.2.2.2.2.1]) f.2.1 f.2.2.1 f.2.2.2.1 ?_ ⟨cu, cw, ca.2.2.1.kp2 f.1, ca.2.2.2.kp2 f.1 f.2.2.2.1⟩
  unfold CZ at cz ⊢
  rw [f.2.2.2.1, (f.1 98 (by decide)).1, (f.1 1 (by decide)).1, (f.1 69 (by decide)).1, (f.1 70 (by decide)).1, (f.1 94 (by decide)).1, (f.1 95 (by decide)).1, (f.1 86 (by decide)).1, (f.1 90 (by decide)).1]
  exact cz
theorem WbF.rf {h h' : AH} (f : WbF h h') : Rf h h' := Rf.of (P := fun o => o ∉ wO) f.1 (fun o p q => by
  have : ∀ o ∈ wO, o < 99 := by decide
  intro hm
  have := this o hm
  omega)
theorem CInv.wc {h : AH} {n : Nat} {Ds : Nat → DD} {Z : DD} {c : Int} (ci : CInv h n Ds Z c) (w : WF (Ds n)) : WC h (Ds n) := by
  obtain ⟨G, S, T, m, rc⟩ := ci.mid
  have wc := w.c
  refine ⟨by rw [m.rd (o := 46) (N := 1) (by decide) in10]; exact rc.2.1.1, fun r hr => ?_⟩
  have h1 := hr.1
  have h2 := hr.2
  rw [m.rd (o := 42) (N := 200) (by decide) ⟨by omega, by omega⟩, m.rd (o := 44) (N := 200) (by decide) ⟨by omega, by omega⟩]
  exact (rc.2.1.2 r hr).2
theorem c_webI {h : AH} {Q : Option AV → AH → Prop} {n : Nat} {Ds : Nat → DD} {Z : DD} {c : Int} (hF : Fix h) (ci : CInv h n Ds Z c) (w : WF (Ds n)) (cont : ∀ h', Fix h' → WbF h h' → CInv h' n Ds Z c → WebOk h' (Ds n) → Q none h') : Ok 109 0 [some (vR (some 21)), none] [] h Q :=
  c_refresh hF w (ci.uc w) (ci.wc w) ci.ca.1 ci.ca.2.1 (fun h' F' f' cu cw e => cont h' F' f' (ci.wb f' cu cw) (cw.2 e))
theorem c_blockI {h : AH} {Q : Option AV → AH → Prop} {n : Nat} {Ds : Nat → DD} {Z : DD} {c u : Int} (hF : Fix h) (ci : CInv h n Ds Z c) (w : WF (Ds n)) (hu : In (Ds n 99 1) u) (cont : ∀ h', Fix h' → WbF h h' → CInv h' n Ds Z c → Q (some (vI (Ds n 102 u))) h') : Ok 94 0 [some (vR (some 7)), some (vI u)] [] h Q :=
  c_blockOf hF w (ci.uc w) ci.ca.1 hu (fun h' F' k' n' u' e' g' _ cu => cont h' F' (WbF.nm k' n' u' e' g') (ci.wb (WbF.nm k' n' u' e' g') cu (by
    have cw := ci.ca.2.1
    unfold CaW WebOk at cw ⊢
    have e : ∀ b : Int, gl h' (if b < 64 then 32 else 33) = gl h (if b < 64 then 32 else 33) := fun b => by
      by_cases q : b < 64
      · rw [if_pos q]; exact (k' 32 (by decide) (by decide)).2.1
      · rw [if_neg q]; exact (k' 33 (by decide) (by decide)).2.1
    rw [e', (k' 21 (by decide) (by decide)).1, (k' 22 (by decide) (by decide)).1, (k' 23 (by decide) (by decide)).1, (k' 24 (by decide) (by decide)).1, (k' 25 (by decide) (by decide)).1, (k' 26 (by decide) (by decide)).1, (k' 27 (by decide) (by decide)).1, (k' 28 (by decide) (by decide)).1, (k' 37 (by decide) (by decide)).1, (k' 38 (by decide) (by decide)).1]
    refine ⟨cw.1, fun q => ?_⟩
    obtain ⟨a1, a2, a3, a4, a5, a6⟩ := cw.2 q
    exact ⟨a1, a2, a3, a4, fun x y hx hy => by rw [e]; exact a5 x y hx hy, a6⟩)))
theorem c_blocksI {h : AH} {Q : Option AV → AH → Prop} {n : Nat} {Ds : Nat → DD} {Z : DD} {c : Int} (hF : Fix h) (ci : CInv h n Ds Z c) (w : WF (Ds n)) (cont : ∀ h', Fix h' → WbF h h' → CInv h' n Ds Z c → Q (some (vI (nBlk (Ds n)))) h') : Ok 95 0 [some (vR (some 7))] [] h Q :=
  c_blocks hF w (ci.uc w) ci.ca.1 (fun h' F' k' n' u' e' g' _ cu => cont h' F' (WbF.nm k' n' u' e' g') (ci.wb (WbF.nm k' n' u' e' g') cu (by
    have cw := ci.ca.2.1
    unfold CaW WebOk at cw ⊢
    have e : ∀ b : Int, gl h' (if b < 64 then 32 else 33) = gl h (if b < 64 then 32 else 33) := fun b => by
      by_cases q : b < 64
      · rw [if_pos q]; exact (k' 32 (by decide) (by decide)).2.1
      · rw [if_neg q]; exact (k' 33 (by decide) (by decide)).2.1
    rw [e', (k' 21 (by decide) (by decide)).1, (k' 22 (by decide) (by decide)).1, (k' 23 (by decide) (by decide)).1, (k' 24 (by decide) (by decide)).1, (k' 25 (by decide) (by decide)).1, (k' 26 (by decide) (by decide)).1, (k' 27 (by decide) (by decide)).1, (k' 28 (by decide) (by decide)).1, (k' 37 (by decide) (by decide)).1, (k' 38 (by decide) (by decide)).1]
    refine ⟨cw.1, fun q => ?_⟩
    obtain ⟨a1, a2, a3, a4, a5, a6⟩ := cw.2 q
    exact ⟨a1, a2, a3, a4, fun x y hx hy => by rw [e]; exact a5 x y hx hy, a6⟩)))
theorem c_leadsI {h : AH} {Q : Option AV → AH → Prop} {n : Nat} {Ds : Nat → DD} {Z : DD} {c a b : Int} (hF : Fix h) (ci : CInv h n Ds Z c) (w : WF (Ds n)) (ha : In (Ds n 99 1) a) (hb : In (Ds n 99 1) b) (cont : ∀ h' x, Fix h' → WbF h h' → CInv h' n Ds Z c → WebOk h' (Ds n) → (x = 1 ∧ Rch (Ds n 99 7) (dla (Ds n)) (dea (Ds n)) a b ∨ x = 0 ∧ ¬ Rch (Ds n 99 7) (dla (Ds n)) (dea (Ds n)) a b) → Q (some (vI x)) h') : Ok 104 0 [some (vR (some 21)), some (vI a), some (vI b)] [] h Q := by
  have wc := w.c
  refine f_X9_leads_0 hF _ _ (c_webI hF ci w (fun h1 F1 f1 c1 w1 => ⟨rfl, F1, c_has F1 (Or.inl rfl) ⟨ha.1, by have := ha.2; omega⟩ ⟨hb.1, by have := hb.2; omega⟩ ⟨_, rfl, F1, ?_, ?_⟩⟩))
  · cases sB h1 31 a b
    · exact Or.inl rfl
    · exact Or.inr rfl
  · have k := w1.2.2.2.2.1 a b ha hb
    refine cont h1 _ F1 f1 c1 w1 ?_
    have e : sB h1 31 a b = lbit (gl h1 (if b < 64 then 32 else 33) a) (b % 64).toNat := rfl
    rw [← e] at k
    cases q : sB h1 31 a b
    · exact Or.inr ⟨rfl, fun z => by rw [k.mpr z] at q; cases q⟩
    · exact Or.inl ⟨rfl, k.mp q⟩
theorem c_later {h : AH} {Q : Option AV → AH → Prop} {n : Nat} {Ds : Nat → DD} {Z : DD} {c a b : Int} (hF : Fix h) (ci : CInv h n Ds Z c) (w : WF (Ds n)) (cont : ∀ h' x, Fix h' → Rf h h' → CInv h' n Ds Z c → aLater (Ds n) a b x → Q (some (vI x)) h') : Ok 147 0 [some (vR (some 1)), some (vI a), some (vI b)] [] h Q := by
  have bad : ¬ (In (Ds n 99 1) a ∧ In (Ds n 99 1) b) → Q (some (vI (-1))) h := fun q => cont h (-1) hF Rf.refl ci (Or.inl ⟨q, rfl⟩)
  unfold In at bad
  refine f_X11_later_0 hF _ _ ?_
  rw [(ci.uc w).1]
  refine ⟨fun q => bad (by omega), fun q => ⟨fun q2 => bad (by omega), fun q2 => ⟨fun q3 => bad (by omega), fun q3 => ⟨fun q4 => bad (by omega), fun q4 => ?_⟩⟩⟩⟩
  have ha : In (Ds n 99 1) a := ⟨by omega, by omega⟩
  have hb : In (Ds n 99 1) b := ⟨by omega, by omega⟩
  refine c_blockI hF ci w ha (fun h1 F1 f1 c1 => ⟨_, rfl, F1, c_blockI F1 c1 w hb (fun h2 F2 f2 c2 => ⟨_, rfl, F2, c_leadsI F2 c2 w (w.blk ha) (w.blk hb) (fun h3 x F3 f3 c3 _ hx => ⟨_, rfl, F3, fun q => ?_, fun q => ?_⟩)⟩)⟩)
  · exact cont h3 0 F3 ((f1.trans f2).trans f3).rf c3 (Or.inr ⟨ha, hb, Or.inr ⟨rfl, by rcases hx with z | z; omega; exact z.2⟩⟩)
  · exact cont h3 1 F3 ((f1.trans f2).trans f3).rf c3 (Or.inr ⟨ha, hb, Or.inl ⟨rfl, by rcases hx with z | z; exact z.2; omega⟩⟩)
theorem c_block {h : AH} {Q : Option AV → AH → Prop} {n : Nat} {Ds : Nat → DD} {Z : DD} {c u : Int} (hF : Fix h) (ci : CInv h n Ds Z c) (w : WF (Ds n)) (cont : ∀ h', Fix h' → Rf h h' → CInv h' n Ds Z c → Q (some (vI (if 0 ≤ u ∧ u < Ds n 99 1 then Ds n 102 u else -1))) h') : Ok 148 0 [some (vR (some 1)), some (vI u)] [] h Q := by
  have bad : ¬ (0 ≤ u ∧ u < Ds n 99 1) → Q (some (vI (-1))) h := fun q => by have := cont h hF Rf.refl ci; rw [if_neg q] at this; exact this
  refine f_X11_block_0 hF _ ?_
  rw [(ci.uc w).1]
  refine ⟨fun q => bad (by omega), fun q => ⟨fun q2 => bad (by omega), fun q2 => c_blockI hF ci w ⟨by omega, by omega⟩ (fun h1 F1 f1 c1 => ⟨_, rfl, F1, ?_⟩)⟩⟩
  have := cont h1 F1 f1.rf c1
  rw [if_pos ⟨by omega, by omega⟩] at this
  exact this
theorem c_row {h : AH} {Q : Option AV → AH → Prop} {n : Nat} {Ds : Nat → DD} {Z : DD} {c u : Int} (hF : Fix h) (ci : CInv h n Ds Z c) (w : WF (Ds n)) (cont : ∀ h' x, Fix h' → Rf h h' → CInv h' n Ds Z c → aRow (Ds n) u x → Q (some (vI x)) h') : Ok 150 0 [some (vR (some 1)), some (vI u)] [] h Q := by
  have wc := w.c
  have bad : ¬ (0 ≤ u ∧ u < Ds n 99 1) → Q (some (vI (-1))) h := fun q => cont h (-1) hF Rf.refl ci (Or.inl ⟨q, rfl⟩)
  refine f_X11_row_0 hF _ ?_
  rw [(ci.uc w).1]
  refine ⟨fun q => bad (by omega), fun q => ⟨fun q2 => bad (by omega), fun q2 => ?_⟩⟩
  have hu : In (Ds n 99 1) u := ⟨by omega, by omega⟩
  have hb := w.blk hu
  refine c_blockI hF ci w hu (fun h1 F1 f1 c1 => ⟨_, rfl, F1, f_X9_rowOf_0 F1 _ (c_webI F1 c1 w (fun h2 F2 f2 c2 w2 => ⟨rfl, F2, ⟨hb.1, by have := hb.2; omega⟩, ⟨_, rfl, F2, cont h2 _ F2 (f1.trans f2).rf c2 (Or.inr ⟨hu, gi h2 28, w2.2.2.2.1, rfl⟩)⟩⟩))⟩)
theorem c_chart {h : AH} {Q : Option AV → AH → Prop} {n : Nat} {Ds : Nat → DD} {Z : DD} {c i : Int} (hF : Fix h) (ci : CInv h n Ds Z c) (w : WF (Ds n)) (cont : ∀ h' x, Fix h' → Rf h h' → CInv h' n Ds Z c → aChart (Ds n) i x → Q (some (vI x)) h') : Ok 149 0 [some (vR (some 1)), some (vI i)] [] h Q := by
  have wc := w.c
  refine f_X11_chart_0 hF _ (f_X9_chartAt_0 hF _ (c_webI hF ci w (fun h2 F2 f2 c2 w2 => ⟨rfl, F2, ?_⟩)))
  obtain ⟨_, _, _, _, _, w6, w7, w8⟩ := w2
  have cl := cnt_le (dnd (Ds n)) (Ds n 99 7).toNat
  rw [w8]
  refine ⟨fun q => ⟨_, rfl, F2, cont h2 _ F2 f2.rf c2 (Or.inr ⟨Or.inl q, rfl⟩)⟩, fun q => ⟨fun q2 => ⟨_, rfl, F2, cont h2 _ F2 f2.rf c2 (Or.inr ⟨Or.inr q2, rfl⟩)⟩, fun q2 => ⟨⟨by omega, by omega⟩, ⟨_, rfl, F2, ?_⟩⟩⟩⟩
  obtain ⟨r, r1, r2, r3⟩ := cnt_surj (p := dnd (Ds n)) (n := (Ds n 99 7).toNat) (j := i.toNat) (by omega)
  have hr : In (Ds n 99 7) r := ⟨r1.1, by have := r1.2; omega⟩
  have e := w7 r hr r2
  rw [r3, show ((i.toNat : Nat) : Int) = i by omega] at e
  rw [e]
  exact cont h2 r F2 f2.rf c2 (Or.inl ⟨hr, r2, by rw [r3]; omega⟩)
theorem c_relation {h : AH} {Q : Option AV → AH → Prop} {n : Nat} {Ds : Nat → DD} {Z : DD} {c r a : Int} (hF : Fix h) (ci : CInv h n Ds Z c) (w : WF (Ds n)) (cont : ∀ h' x, Fix h' → Rf h h' → CInv h' n Ds Z c → aRel (Ds n) r a x → Q (some (vI x)) h') : Ok 146 0 [some (vR (some 1)), some (vI r), some (vI a)] [] h Q := by
  have wc := w.c
  obtain ⟨G, S, T, m, rc⟩ := ci.mid
  obtain ⟨c46, c42⟩ := ci.wc w
  have bad : (¬ In (Ds n 99 7) r ∨ a < 0 ∨ 3 < a) → Q (some (vI (-1))) h := fun q => cont h (-1) hF Rf.refl ci (Or.inl ⟨q, rfl⟩)
  unfold In at bad
  refine f_X11_relation_0 hF _ _ ?_
  rw [c46]
  refine ⟨fun q => bad (by omega), fun q => ⟨fun q2 => bad (by omega), fun q2 => ?_⟩⟩
  have hr : In (Ds n 99 7) r := ⟨by omega, by omega⟩
  have e40 : gi h 40 r = Ds n 105 r := by rw [m.rd (o := 40) (N := 200) (by decide) ⟨by omega, by omega⟩]; exact (rc.2.1.2 r hr).1
  have e42 := (c42 r hr).1
  have e44 := (c42 r hr).2
  rw [e40, e42, e44]
  refine ⟨fun e => ⟨⟨by omega, by omega⟩, cont h _ hF Rf.refl ci (Or.inr ⟨hr, Or.inl ⟨e, rfl⟩⟩)⟩, fun e => ⟨⟨by omega, by omega⟩, cont h _ hF Rf.refl ci (Or.inr ⟨hr, Or.inr (Or.inl ⟨e, rfl⟩)⟩)⟩, fun e => ⟨⟨by omega, by omega⟩, cont h _ hF Rf.refl ci (Or.inr ⟨hr, Or.inr (Or.inr (Or.inl ⟨e, rfl⟩))⟩)⟩, fun e => ?_, fun e => bad (by omega)⟩
  refine f_X9_isNeedless_0 hF _ (c_webI hF ci w (fun h2 F2 f2 c2 w2 => ⟨rfl, F2, ⟨by omega, by omega⟩, ?_⟩))
  have w6 := w2.2.2.2.2.2.1 r hr
  have nd : (Needless (Ds n 99 7) (dla (Ds n)) (dea (Ds n)) r → Q (some (vI 1)) h2) ∧ (¬ Needless (Ds n 99 7) (dla (Ds n)) (dea (Ds n)) r → Q (some (vI 0)) h2) := ⟨fun z => cont h2 1 F2 f2.rf c2 (Or.inr ⟨hr, Or.inr (Or.inr (Or.inr ⟨e, Or.inl ⟨rfl, z⟩⟩))⟩), fun z => cont h2 0 F2 f2.rf c2 (Or.inr ⟨hr, Or.inr (Or.inr (Or.inr ⟨e, Or.inr ⟨rfl, z⟩⟩))⟩)⟩
  rw [w6]
  cases q : dnd (Ds n) r
  · exact ⟨fun z => absurd rfl z, fun _ => ⟨1, rfl, F2, fun z => by omega, fun _ => nd.1 (dnd_f.mp q)⟩⟩
  · exact ⟨fun _ => ⟨0, rfl, F2, fun _ => nd.2 (dnd_t.mp q), fun z => absurd rfl z⟩, fun z => absurd (by decide) z⟩
theorem c_count {h : AH} {Q : Option AV → AH → Prop} {n : Nat} {Ds : Nat → DD} {Z : DD} {c a : Int} (hF : Fix h) (ci : CInv h n Ds Z c) (w : WF (Ds n)) (cont : ∀ h' x, Fix h' → Rf h h' → CInv h' n Ds Z c → aCount (Ds n) Z n a x → Q (some (vI x)) h') : Ok 185 0 [some (vR (some 1)), some (vI a)] [] h Q := by
  obtain ⟨G, S, T, m, rc⟩ := ci.mid
  have tr := m.tr (Or.inl (by decide)) rc
  have e66 : gi h 66 0 = Ds n 99 22 := by rw [tr.1 66 1 0 (by decide) in10]; exact rc.2.2.2.2.1
  have here : ∀ x, aCount (Ds n) Z n a x → Q (some (vI x)) h := fun x hx => cont h x hF Rf.refl ci hx
  have bk : a = 2 → Ok 95 0 [some (vR (some 7))] [] h (Qx Q) := fun e => c_blocksI hF ci w (fun h1 F1 f1 c1 => ⟨_, rfl, F1, cont h1 _ F1 f1.rf c1 ⟨fun z => by omega, fun z => by omega, fun _ => rfl, fun z => by omega, fun z => by omega, fun z1 z2 => by omega, fun z => by omega, fun z => by omega, fun z => by omega⟩⟩)
  have cs : a = 12 → Ok 107 0 [some (vR (some 21))] [] h (Qx Q) := fun e => f_X9_chartSize_0 hF (c_webI hF ci w (fun h2 F2 f2 c2 w2 => ⟨rfl, F2, _, rfl, F2, cont h2 _ F2 f2.rf c2 ⟨fun z => by omega, fun z => by omega, fun z => by omega, fun z => by omega, fun z => by omega, fun z1 z2 => by omega, fun z => by omega, fun _ => w2.2.2.2.2.2.2.2, fun z => by omega⟩⟩))
  refine f_X11_count_0 hF _ ?_
  rw [tr.n, tr.T, e66, (ci.wc w).1, ci.ed.2.2.1]
  refine ⟨fun q => ⟨fun e => here _ ?_, fun e => here _ ?_, fun e => bk e, fun e => here _ ?_, fun e => here _ ?_, fun e => by omega, fun e => by omega, fun e => by omega, fun e => by omega, fun e => by omega, fun e => by omega, fun e => by omega, fun e => by omega, fun e => here _ ?_⟩, fun q => ⟨fun q2 => ⟨fun e => by omega, fun e => by omega, fun e => by omega, fun e => by omega, fun e => by omega, fun e => by omega, fun e => by omega, fun e => by omega, fun e => by omega, fun e => by omega, fun e => by omega, fun e => here _ ?_, fun e => cs e, fun e => here _ ?_⟩, fun q2 => ⟨⟨by omega, by omega⟩, ⟨by omega, by omega⟩, here _ ?_⟩⟩⟩
  all_goals refine ⟨fun z => ?_, fun z => ?_, fun z => ?_, fun z => ?_, fun z => ?_, fun z1 z2 => ?_, fun z => ?_, fun z => ?_, fun z => ?_⟩
  all_goals first | rfl | omega | skip
  have := ci.cz.1 (a - 4) (by omega) (by omega)
  rw [show a - 4 - 1 = a - 5 by omega] at this
  exact this
