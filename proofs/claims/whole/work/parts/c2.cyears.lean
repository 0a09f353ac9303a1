/-! the units that bound a block; begins and ends -/
def BU (D B : DD) (sd b x u : Int) : Prop := In (D 99 1) x ∧ D 102 x = b ∧ x < u ∧ ∀ v, In (D 99 1) v → v < u → D 102 v = b → (sd = 0 → B 129 v ≤ B 129 x ∧ (v < x → B 129 v < B 129 x)) ∧ (sd = 1 → B 129 (100 + x) ≤ B 129 (100 + v) ∧ (v < x → B 129 (100 + x) < B 129 (100 + v)))
theorem BU.other {D B : DD} {sd b x u : Int} (a : BU D B sd b x u) (hn : D 102 u ≠ b) : BU D B sd b x (u + 1) := by
  obtain ⟨a1, a2, a3, a4⟩ := a
  refine ⟨a1, a2, by omega, fun v hv h1 h2 => a4 v hv ?_ h2⟩
  have : v ≠ u := fun e => hn (by rw [← e]; exact h2)
  omega
theorem BU.new {D B : DD} {sd u : Int} (w : WF D) (hu : In (D 99 1) u) (e : D 102 u = u) : BU D B sd u u (u + 1) := by
  refine ⟨hu, e, by omega, fun v hv h1 h2 => ?_⟩
  have := (w.2.1 v hv).2.2.1.2.1
  have e : v = u := by omega
  subst e
  exact ⟨fun _ => ⟨Int.le_refl _, fun z => by omega⟩, fun _ => ⟨Int.le_refl _, fun z => by omega⟩⟩
theorem BU.keep0 {D B : DD} {b x u : Int} (a : BU D B 0 b x u) (hc : B 129 u ≤ B 129 x) : BU D B 0 b x (u + 1) := by
  obtain ⟨a1, a2, a3, a4⟩ := a
  refine ⟨a1, a2, by omega, fun v hv h1 h2 => ?_⟩
  by_cases e : v = u
  · subst e; exact ⟨fun _ => ⟨hc, fun z => by omega⟩, fun z => by omega⟩
  · exact a4 v hv (by omega) h2
theorem BU.set0 {D B : DD} {b x u : Int} (a : BU D B 0 b x u) (hu : In (D 99 1) u) (hb : D 102 u = b) (hc : ¬ B 129 u ≤ B 129 x) : BU D B 0 b u (u + 1) := by
  obtain ⟨a1, a2, a3, a4⟩ := a
  refine ⟨hu, hb, by omega, fun v hv h1 h2 => ⟨fun _ => ?_, fun z => by omega⟩⟩
  by_cases e : v = u
  · subst e; exact ⟨Int.le_refl _, fun z => by omega⟩
  · have := ((a4 v hv (by omega) h2).1 rfl).1
    omega
theorem BU.keep1 {D B : DD} {b x u : Int} (a : BU D B 1 b x u) (hc : B 129 (100 + x) ≤ B 129 (100 + u)) : BU D B 1 b x (u + 1) := by
  obtain ⟨a1, a2, a3, a4⟩ := a
  refine ⟨a1, a2, by omega, fun v hv h1 h2 => ?_⟩
  by_cases e : v = u
  · subst e; exact ⟨fun z => by omega, fun _ => ⟨hc, fun z => by omega⟩⟩
  · exact a4 v hv (by omega) h2
theorem BU.set1 {D B : DD} {b x u : Int} (a : BU D B 1 b x u) (hu : In (D 99 1) u) (hb : D 102 u = b) (hc : ¬ B 129 (100 + x) ≤ B 129 (100 + u)) : BU D B 1 b u (u + 1) := by
  obtain ⟨a1, a2, a3, a4⟩ := a
  refine ⟨hu, hb, by omega, fun v hv h1 h2 => ⟨fun z => by omega, fun _ => ?_⟩⟩
  by_cases e : v = u
  · subst e; exact ⟨Int.le_refl _, fun z => by omega⟩
  · have := ((a4 v hv (by omega) h2).2 rfl).1
    omega
theorem BU.fin {D B : DD} {sd b x : Int} (a : BU D B sd b x (D 99 1)) : Best D B sd b x := ⟨a.1, a.2.1, fun v hv h2 => a.2.2.2 v hv hv.2 h2⟩
theorem si_same {h : AH} {o : Nat} {k : Int} : si h o k (gi h o k) = h := by
  obtain ⟨h1, h2⟩ := h
  show ((fun a b => if a = o ∧ b = k then h1 o k else h1 a b), h2) = (h1, h2)
  congr 1
  funext a b
  split
  · rename_i e; rw [e.1, e.2]
  · rfl
/-- frame of the years' refresh -/
def yG : List Nat := [7, 8, 71, 72, 73, 74, 75, 76, 77, 78, 79, 80, 81]
def YG (h h' : AH) : Prop := (∀ o, o ∉ yG → Kp o h h') ∧ nn h' = nn h ∧ us h' = us h ∧ gi h' 7 8 = gi h 7 8 ∧ (gr h' = gr h ∧ sh h' = sh h) ∧ ∀ i, i ≠ 14 → gi h' 73 i = gi h 73 i
theorem YG.refl {h : AH} : YG h h := ⟨fun _ _ => Kp.refl, rfl, rfl, rfl, ⟨rfl, rfl⟩, fun _ _ => rfl⟩
theorem YG.trans {h1 h2 h3 : AH} (a : YG h1 h2) (b : YG h2 h3) : YG h1 h3 := ⟨fun o ho => (a.1 o ho).trans (b.1 o ho), by rw [b.2.1]; exact a.2.1, by rw [b.2.2.1]; exact a.2.2.1, by rw [b.2.2.2.1]; exact a.2.2.2.1, ⟨by rw [b.2.2.2.2.1.1]; exact a.2.2.2.2.1.1, by rw [b.2.2.2.2.1.2]; exact a.2.2.2.2.1.2⟩, fun i hi => by rw [b.2.2.2.2.2 i hi]; exact a.2.2.2.2.2 i hi⟩
theorem YF.g {h h' : AH} (f : YF h h') : YG h h' := by
  have k7 := f.1 7 (by decide)
  have k73 := f.1 73 (by decide)
  refine ⟨fun o ho => f.1 o (fun hm => ho ?_), f.2.1, f.2.2.1, by rw [k7.1], ⟨f.2.2.2.1, f.2.2.2.2.1⟩, fun i _ => by rw [k73.1]⟩
  have : ∀ o ∈ yO, o ∈ yG := by decide
  exact this o hm
theorem YG.nm {h h1 h' : AH} (f : YG h h1) (k : ∀ o, o ≠ 7 → o ≠ 8 → Kp o h1 h') (n' : nn h' = nn h1) (u' : us h' = us h1) (e' : gi h' 7 8 = gi h1 7 8) (g' : gr h' = gr h1 ∧ sh h' = sh h1) : YG h h' :=
  f.trans ⟨fun o ho => k o (fun e => ho (by rw [e]; decide)) (fun e => ho (by rw [e]; decide)), n', u', e', g', fun i _ => by rw [(k 73 (by decide) (by decide)).1]⟩
theorem YG.si {h h1 : AH} {o : Nat} {k v : Int} (f : YG h h1) (ho : o ∈ yG) (h7 : o ≠ 7) (h73 : o ≠ 73 ∨ k = 14) : YG h (si h1 o k v) := by
  refine ⟨fun p hp => (f.1 p hp).si (fun e => hp (e ▸ ho)), f.2.1, f.2.2.1, by rw [gi_si_o (fun e => h7 e.symm)]; exact f.2.2.2.1, f.2.2.2.2.1, fun i hi => ?_⟩
  rcases h73 with z | z
  · rw [gi_si_o (fun e => z e.symm)]; exact f.2.2.2.2.2 i hi
  · by_cases e : o = 73
    · subst e
      rw [gi_si_k (by omega)]; exact f.2.2.2.2.2 i hi
    · rw [gi_si_o (fun x => e x.symm)]; exact f.2.2.2.2.2 i hi
theorem CaU.si {h : AH} {D : DD} {o : Nat} {k v : Int} (a : CaU h D) (h7 : o ≠ 7) (h8 : o ≠ 8) : CaU (si h o k v) D := by
  unfold CaU
  rw [gi_si_r (Ne.symm h7), gi_si_r (Ne.symm h8)]; exact a
theorem c_choose_2 {h0 : AH} {Q : Option AV → AH → Prop} {D B : DD} (w : WF D) (uc0 : UC h0 D)
    (cont : ∀ h', Fix h' → YG h0 h' → gi h' 73 = gi h0 73 → CaU h' D → YB h' (D 99 1) B → (∀ b, In (D 99 1) b → D 102 b = b → Best D B 0 b (gi h' 80 b) ∧ Best D B 1 b (gi h' 81 b)) → Q none h') (m : Nat) :
    ∀ (h : AH) (u : Int), (D 99 1 - u).toNat = m → 0 ≤ u → u ≤ D 99 1 → Fix h → YG h0 h → gi h 73 = gi h0 73 → CaU h D → YB h (D 99 1) B → (∀ b, In u b → D 102 b = b → BU D B 0 b (gi h 80 b) u ∧ BU D B 1 b (gi h 81 b) u) → Ok 123 2 [some (vR (some 73)), some (vI u), none] [] h Q := by
  have wc := w.c
  induction m using Nat.strongRecOn with
  | ind m ih =>
    intro h u hm u0 u1 hF yg e73 ca yb hI
    have uc : UC h D := uc0.kp (yg.1 20 (by decide)).1 (yg.1 18 (by decide)).1
    refine f_X10_chooseForBlocks_2 hF _ ?_
    rw [uc.1]
    refine ⟨fun q => cont h hF yg e73 ca yb (fun b hb e => ?_), fun q => ?_⟩
    · have eu : u = D 99 1 := by omega
      rw [eu] at hI
      exact ⟨(hI b hb e).1.fin, (hI b hb e).2.fin⟩
    have hu : In (D 99 1) u := ⟨u0, by omega⟩
    refine c_blockOf hF w uc ca hu (fun h1 F1 k1 n1 u1' e1 g1 _ ca1 => ⟨_, rfl, F1, ?_⟩)
    have y1 := yg.nm k1 n1 u1' e1 g1
    have e80 : gi h1 80 = gi h 80 := (k1 80 (by decide) (by decide)).1
    have e81 : gi h1 81 = gi h 81 := (k1 81 (by decide) (by decide)).1
    have e731 : gi h1 73 = gi h0 73 := by rw [(k1 73 (by decide) (by decide)).1]; exact e73
    have yb1 : YB h1 (D 99 1) B := YF.yb yb (fun o p q => (k1 o (by omega) (by omega)).1)
    have hx := w.blk hu
    have wu := (w.2.1 u hu).2.2.1
    have nx : ∀ h' p q, h' = si (si h1 80 (D 102 u) p) 81 (D 102 u) q → BU D B 0 (D 102 u) p (u + 1) → BU D B 1 (D 102 u) q (u + 1) → Ok 123 2 [some (vR (some 73)), some (vI (u + 1)), none] [] h' Q := fun h' p q eh b0 b1 => by
      subst eh
      refine ih _ (by omega) _ (u + 1) rfl (by omega) (by omega) F1 ((y1.si (by decide) (by decide) (Or.inl (by decide))).si (by decide) (by decide) (Or.inl (by decide))) ?_ ((ca1.si (by decide) (by decide)).si (by decide) (by decide)) (YF.yb yb1 (fun o p' q' => by rw [gi_si_r (by omega), gi_si_r (by omega)])) (fun b hb eb => ?_)
      · rw [gi_si_r (by decide), gi_si_r (by decide)]; exact e731
      · by_cases c : b = D 102 u
        · rw [c]
          have z : gi (si (si h1 80 (D 102 u) p) 81 (D 102 u) q) 80 (D 102 u) = p := by rw [gi_si_o (by decide), gi_si_e]
          rw [z, gi_si_e]
          exact ⟨b0, b1⟩
        · have z : gi (si (si h1 80 (D 102 u) p) 81 (D 102 u) q) 80 b = gi h 80 b := by rw [gi_si_o (by decide), gi_si_k c, e80]
          have z2 : gi (si (si h1 80 (D 102 u) p) 81 (D 102 u) q) 81 b = gi h 81 b := by rw [gi_si_k c, gi_si_o (by decide), e81]
          rw [z, z2]
          have hbu : In u b := ⟨hb.1, by
            have := hb.2
            have : b ≠ u := fun e => c (by rw [← e, eb])
            omega⟩
          have := hI b hbu eb
          exact ⟨this.1.other (Ne.symm c), this.2.other (Ne.symm c)⟩
    refine ⟨fun q2 => ⟨⟨by omega, by omega⟩, ⟨by omega, by omega⟩, nx _ u u rfl (by rw [q2]; exact BU.new w hu q2) (by rw [q2]; exact BU.new w hu q2)⟩, fun q2 => ?_⟩
    have hxu : In u (D 102 u) := ⟨wu.1, by omega⟩
    obtain ⟨i0, i1⟩ := hI _ hxu wu.2.2
    rw [e80, e81]
    have a0 := i0.1.1
    have a1 := i0.1.2
    have b0 := i1.1.1
    have b1 := i1.1.2
    rw [(yb1 u hu).1, (yb1 u hu).2.2.2.1, (yb1 _ i0.1).1, (yb1 _ i1.1).2.2.2.1]
    have s80 : si h1 80 (D 102 u) (gi h 80 (D 102 u)) = h1 := by rw [← e80]; exact si_same
    have s81 : ∀ v, si (si h1 80 (D 102 u) v) 81 (D 102 u) (gi h 81 (D 102 u)) = si h1 80 (D 102 u) v := fun v => by
      have : gi h 81 (D 102 u) = gi (si h1 80 (D 102 u) v) 81 (D 102 u) := by rw [gi_si_o (by decide), e81]
      rw [this]; exact si_same
    refine ⟨⟨by omega, by omega⟩, ⟨by omega, by omega⟩, ⟨by omega, by omega⟩, fun q3 => ⟨⟨by omega, by omega⟩, fun q4 => ⟨⟨by omega, by omega⟩, ?_⟩, fun q4 => ⟨⟨by omega, by omega⟩, ?_⟩⟩, fun q3 => ?_⟩
    · exact nx _ _ _ (by rw [s81, s80]) (i0.keep0 q3) (i1.keep1 q4)
    · exact nx _ _ _ (by rw [s80]) (i0.keep0 q3) (i1.set1 hu rfl q4)
    · refine ⟨⟨by omega, by omega⟩, fun q4 => ⟨⟨by omega, by omega⟩, ?_⟩, fun q4 => ⟨⟨by omega, by omega⟩, ?_⟩⟩
      · exact nx _ _ _ (by rw [s81]) (i0.set0 hu rfl q3) (i1.keep1 q4)
      · exact nx _ _ _ rfl (i0.set0 hu rfl q3) (i1.set1 hu rfl q4)
theorem CaW.kp3 {h h' : AH} {D : DD} (k : ∀ o, 21 ≤ o → o ≤ 38 → Kp o h h') (k7 : gi h' 7 8 = gi h 7 8) (a : CaW h D) : CaW h' D := by
  unfold CaW WebOk at a ⊢
  have e : ∀ b : Int, gl h' (if b < 64 then 32 else 33) = gl h (if b < 64 then 32 else 33) := fun b => by
    by_cases q : b < 64
    · rw [if_pos q]; exact (k 32 (by decide) (by decide)).2.1
    · rw [if_neg q]; exact (k 33 (by decide) (by decide)).2.1
  rw [k7, (k 21 (by decide) (by decide)).1, (k 22 (by decide) (by decide)).1, (k 23 (by decide) (by decide)).1, (k 24 (by decide) (by decide)).1, (k 25 (by decide) (by decide)).1, (k 26 (by decide) (by decide)).1, (k 27 (by decide) (by decide)).1, (k 28 (by decide) (by decide)).1, (k 37 (by decide) (by decide)).1, (k 38 (by decide) (by decide)).1]
  refine ⟨a.1, fun q => ?_⟩
  obtain ⟨a1, a2, a3, a4, a5, a6⟩ := a.2 q
  exact ⟨a1, a2, a3, a4, fun x y hx hy => by rw [e]; exact a5 x y hx hy, a6⟩
theorem Cr.yg {o : Nat} (ho : Cr o) : o ∉ yG := fun hm => by
  have cw0 : ∀ o ∈ yG, o < 136 ∧ (o ≠ 2 ∧ o ≠ 3 ∧ o ≠ 4 ∧ o ≠ 5 ∧ o ≠ 6 ∧ o ≠ 48 ∧ o ≠ 93) ∧ ∀ e ∈ colL, e.1 ≠ o := by decide +kernel
  obtain ⟨a1, a2, a3⟩ := cw0 o hm
  rcases ho with c | c | c | c | c | c | c | ⟨n, c⟩ | c
  all_goals first | omega | exact a3 _ c rfl
theorem YG.rf {h h' : AH} (f : YG h h') : Rf h h' := Rf.of (P := fun o => o ∉ yG) f.1 (fun o p q => by
  have : ∀ o ∈ yG, o < 99 := by decide
  intro hm
  have := this o hm
  omega)
theorem CInv.yg {h h' : AH} {n : Nat} {Ds : Nat → DD} {Z : DD} {c : Int} (ci : CInv h n Ds Z c) (f : YG h h') (cu : CaU h' (Ds n)) (cy : CaY h' (Ds n)) : CInv h' n Ds Z c := by
  have ca := ci.ca
  have cz := ci.cz
  refine ci.core (fun o ho => f.1 o ho.yg) (by rw [f.2.2.2.2.1.1]) f.2.1 f.2.2.1 f.2.2.2.1 ?_ ⟨cu, ca.2.1.kp3 (fun o p q => f.1 o (fun hm => by
    have : ∀ o ∈ yG, o < 21 ∨ 38 < o := by decide
    have := this o hm
    omega)) f.2.2.2.1, cy, ?_⟩
  · unfold CZ at cz ⊢
    rw [f.2.2.2.1, (f.1 98 (by decide)).1, (f.1 1 (by decide)).1, (f.1 69 (by decide)).1, (f.1 70 (by decide)).1, (f.1 94 (by decide)).1, (f.1 95 (by decide)).1, (f.1 86 (by decide)).1, (f.1 90 (by decide)).1]
    exact cz
  · have cs := ca.2.2.2
    unfold CaS SeqOk at cs ⊢
    rw [f.2.2.2.1, (f.1 86 (by decide)).1, (f.1 86 (by decide)).2.1, (f.1 87 (by decide)).1, (f.1 88 (by decide)).1, (f.1 89 (by decide)).1]; exact cs
theorem CInv.tr {h : AH} {n : Nat} {Ds : Nat → DD} {Z : DD} {c : Int} (ci : CInv h n Ds Z c) : ∃ G S T, TR h G S T (Ds n) ∧ ∀ o, G o → 136 ≤ o := by
  obtain ⟨G, S, T, m, rc⟩ := ci.mid
  have tr := m.tr (Or.inl (by decide)) rc
  obtain ⟨Ss, E, L, w, cc, m1, _⟩ := m
  exact ⟨G, S, T, tr, fun o ho => (m1.1 o ho).1⟩
theorem c_yearsI {h : AH} {Q : Option AV → AH → Prop} {n : Nat} {Ds : Nat → DD} {Z : DD} {c : Int} (hF : Fix h) (ci : CInv h n Ds Z c) (w : WF (Ds n)) (cont : ∀ h', Fix h' → YG h h' → CInv h' n Ds Z c → gi h' 73 14 = gi h' 2 6 → YrOk h' (Ds n) → Q none h') : Ok 116 0 [some (vR (some 73)), none, none] [] h Q := by
  have wc := w.c
  have ca := ci.ca
  have cy := ca.2.2.1
  refine f_X10_refresh_0 hF ⟨fun q => ?_, fun q => ?_⟩
  · obtain ⟨G, S, T, tr, hG⟩ := ci.tr
    have y0 : YG h (si h 73 14 (gi h 2 6)) := YG.refl.si (by decide) (by decide) (Or.inr rfl)
    have F0 : Fix (si h 73 14 (gi h 2 6)) := hF
    have tr0 : TR (si h 73 14 (gi h 2 6)) G S T (Ds n) := tr.kp hG (fun o ho => y0.1 o ho.yg)
    have uc0 : UC (si h 73 14 (gi h 2 6)) (Ds n) := (ci.uc w).kp (gi_si_r (by decide)) (gi_si_r (by decide))
    refine c_yr_14 F0 tr0 hG w (fun h1 F1 f1 b1 => ?_) _ _ 0 rfl (by decide) wc.1 YF.refl (fun v hv => by have := hv.1; have := hv.2; omega)
    refine c_yr_63 F1 (f1.tr tr0 hG) hG w (fun h2 F2 f2 b2 => ?_) _ h1 0 rfl wc.2.2.2.2.1 YF.refl b1
    have f12 := f1.trans f2
    have y2 := y0.trans f12.g
    have k7 := f12.1 7 (by decide)
    have k8 := f12.1 8 (by decide)
    have k73 := f12.1 73 (by decide)
    have cu2 : CaU h2 (Ds n) := by
      have := ca.1.si (o := 73) (k := 14) (v := gi h 2 6) (by decide) (by decide)
      unfold CaU at this ⊢
      rw [k7.1, k8.1]; exact this
    refine f_X10_chooseForBlocks_0 F2 (c_choose_2 (h0 := h2) (B := dts (Ds n)) w (uc0.kp (f12.1 20 (by decide)).1 (f12.1 18 (by decide)).1) (fun h3 F3 y3 e73 cu3 b3 best => ?_) _ h2 0 rfl (by decide) wc.1 F2 YG.refl rfl cu2 b2 (fun b hb => by have := hb.1; have := hb.2; omega))
    have y := y2.trans y3
    have e14 : gi h3 73 14 = gi h 2 6 := by rw [e73, k73.1, gi_si_e]
    have e2 : gi h3 2 6 = gi h 2 6 := by rw [(y.1 2 (by decide)).1]
    have e15 : gi h3 73 15 = gi h 73 15 := y.2.2.2.2.2 15 (by decide)
    have yr : YrOk h3 (Ds n) := ⟨b3, best⟩
    refine ⟨rfl, F3, cont h3 F3 y (ci.yg y cu3 ⟨by rw [e14, e2]; exact Int.le_refl _, by rw [e14, e15]; have := cy.1; have := cy.2.1; omega, fun _ => ⟨yr, fun z => ?_⟩⟩) (by rw [e14, e2]) yr⟩
    rw [e15, e14] at z
    have := cy.1
    have := cy.2.1
    exact absurd (show gi h 73 14 = gi h 2 6 by omega) q
  · have q' : gi h 73 14 = gi h 2 6 := Decidable.not_not.mp q
    exact cont h hF YG.refl ci q' (cy.2.2 q').1
