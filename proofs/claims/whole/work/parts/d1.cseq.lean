/-! the class's sequences: names, places, what must come before -/
def brP (D : DD) (r : Int) (i j : Nat) : Prop := ∃ q, In r q ∧ cnt (bn D) (dla D q).toNat = i ∧ cnt (bn D) (dea D q).toNat = j
def brD (D : DD) : Nat → Nat → Prop := brP D (D 99 7)
theorem WF.lab {D : DD} (w : WF D) {r : Int} (hr : In (D 99 7) r) : D 102 (dla D r) = dla D r := (w.2.1 _ (w.2.2.1.1 r hr).1).2.2.1.2.2
theorem WF.eab {D : DD} (w : WF D) {r : Int} (hr : In (D 99 7) r) : D 102 (dea D r) = dea D r := (w.2.1 _ (w.2.2.1.1 r hr).2.1).2.2.1.2.2
theorem brD_lt {D : DD} (w : WF D) {i j : Nat} (h : brD D i j) : i < nBlk D ∧ j < nBlk D := by
  obtain ⟨q, q1, q2, q3⟩ := h
  exact ⟨by rw [← q2]; exact nm_lt w (w.la q q1) (w.lab q1), by rw [← q3]; exact nm_lt w (w.ea q q1) (w.eab q1)⟩
theorem br_clo {D : DD} (w : WF D) : Clo (brD D) (bfD D) := by
  constructor
  · rintro i j ⟨q, q1, q2, q3⟩
    exact ⟨_, _, w.la q q1, w.lab q1, q2, w.ea q q1, w.eab q1, q3, Rch_eq.mpr ⟨q, q1, rfl, Or.inl rfl⟩⟩
  · rintro i j ⟨a, b, a1, a2, a3, b1, b2, b3, rc⟩
    obtain ⟨r, r1, r2, r3⟩ := Rch_eq.mp rc
    rcases r3 with e | e
    · exact Or.inl ⟨r, r1, by rw [r2]; exact a3, by rw [e]; exact b3⟩
    · exact Or.inr ⟨_, ⟨r, r1, by rw [r2]; exact a3, rfl⟩, _, b, w.ea r r1, w.eab r1, rfl, b1, b2, b3, e⟩
theorem lt_of_bits {x m : Nat} (h : ∀ j, x.testBit j = true → j < m) : x < 2 ^ m := Nat.lt_pow_two_of_testBit x (fun i hi => by
  cases q : x.testBit i
  · rfl
  · have := h i q; omega)
theorem SeqOk.ba {h : AH} {D : DD} (s : SeqOk h D) (w : WF D) : BA (gi h 89) (nBlk D) (brD D) := fun i hi => by
  obtain ⟨s1, s2, s3, s4, s5⟩ := s
  obtain ⟨p1, p2⟩ := pw16 s1
  obtain ⟨a1, a2⟩ := s4 (i : Int) ⟨by omega, by omega⟩
  refine ⟨⟨a1, by omega⟩, fun j => ?_⟩
  obtain ⟨a, b1, b2, b3⟩ := nm_ex w hi
  by_cases hj : j < nBlk D
  · obtain ⟨b, c1, c2, c3⟩ := nm_ex w hj
    have := s5 a b b1 b2 c1 c2
    rw [b3, c3] at this
    rw [this]
    constructor
    · rintro ⟨r, r1, r2, r3⟩
      exact ⟨r, r1, by rw [r2, b3], by rw [r3, c3]⟩
    · rintro ⟨r, r1, r2, r3⟩
      exact ⟨r, r1, nm_inj (w.la r r1) b1 (w.lab r1) b2 (by rw [r2, b3]), nm_inj (w.ea r r1) c1 (w.eab r1) c2 (by rw [r3, c3])⟩
  · constructor
    · exact fun z => absurd (tb_m a2 z) hj
    · exact fun z => absurd (brD_lt w z).2 hj
theorem SeqOk.of {h : AH} {D : DD} (w : WF D) (s1 : nBlk D ≤ 16) (s2 : gi h 86 6 = nBlk D) (s3 : ∀ u, In (D 99 1) u → D 102 u = u → gi h 87 (cnt (bn D) u.toNat) = u ∧ gi h 88 u = cnt (bn D) u.toNat) (ba : BA (gi h 89) (nBlk D) (brD D)) : SeqOk h D := by
  refine ⟨s1, s2, s3, fun i hi => ?_, fun a b a1 a2 b1 b2 => ?_⟩
  · have i0 := hi.1
    have := ba i.toNat (by have := hi.2; omega)
    rw [show ((i.toNat : Nat) : Int) = i by omega] at this
    exact ⟨this.1.1, lt_of_bits (fun j hj => (brD_lt w ((this.2 j).mp hj)).2)⟩
  · rw [(ba _ (nm_lt w a1 a2)).2]
    constructor
    · rintro ⟨r, r1, r2, r3⟩
      exact ⟨r, r1, nm_inj (w.la r r1) a1 (w.lab r1) a2 r2, nm_inj (w.ea r r1) b1 (w.eab r1) b2 r3⟩
    · rintro ⟨r, r1, r2, r3⟩
      exact ⟨r, r1, by rw [r2], by rw [r3]⟩
/-- frame of the sequences' refresh, behind the web's -/
def eG : List Nat := [7, 8, 86, 87, 88, 89]
def EG (h h' : AH) : Prop := (∀ o, o ∉ eG → Kp o h h') ∧ nn h' = nn h ∧ us h' = us h ∧ gi h' 7 8 = gi h 7 8 ∧ (gr h' = gr h ∧ sh h' = sh h) ∧ (∀ i, i ≠ 6 → gi h' 86 i = gi h 86 i) ∧ gl h' 86 = gl h 86
theorem EG.refl {h : AH} : EG h h := ⟨fun _ _ => Kp.refl, rfl, rfl, rfl, ⟨rfl, rfl⟩, fun _ _ => rfl, rfl⟩
theorem EG.trans {h1 h2 h3 : AH} (a : EG h1 h2) (b : EG h2 h3) : EG h1 h3 := ⟨fun o ho => (a.1 o ho).trans (b.1 o ho), by rw [b.2.1]; exact a.2.1, by rw [b.2.2.1]; exact a.2.2.1, by rw [b.2.2.2.1]; exact a.2.2.2.1, ⟨by rw [b.2.2.2.2.1.1]; exact a.2.2.2.2.1.1, by rw [b.2.2.2.2.1.2]; exact a.2.2.2.2.1.2⟩, fun i hi => by rw [b.2.2.2.2.2.1 i hi]; exact a.2.2.2.2.2.1 i hi, by rw [b.2.2.2.2.2.2]; exact a.2.2.2.2.2.2⟩
theorem EG.nm {h h1 h' : AH} (f : EG h h1) (k : ∀ o, o ≠ 7 → o ≠ 8 → Kp o h1 h') (n' : nn h' = nn h1) (u' : us h' = us h1) (e' : gi h' 7 8 = gi h1 7 8) (g' : gr h' = gr h1 ∧ sh h' = sh h1) : EG h h' :=
  f.trans ⟨fun o ho => k o (fun e => ho (by rw [e]; decide)) (fun e => ho (by rw [e]; decide)), n', u', e', g', fun i _ => by rw [(k 86 (by decide) (by decide)).1], (k 86 (by decide) (by decide)).2.1⟩
theorem EG.si {h h1 : AH} {o : Nat} {k v : Int} (f : EG h h1) (ho : o = 87 ∨ o = 88 ∨ o = 89 ∨ o = 86 ∧ k = 6) : EG h (si h1 o k v) := by
  refine ⟨fun p hp => (f.1 p hp).si (fun e => hp ?_), f.2.1, f.2.2.1, by rw [gi_si_o (by omega)]; exact f.2.2.2.1, f.2.2.2.2.1, fun i hi => ?_, f.2.2.2.2.2.2⟩
  · rw [e]
    rcases ho with z | z | z | z
    · rw [z]; decide
    · rw [z]; decide
    · rw [z]; decide
    · rw [z.1]; decide
  · rw [gi_si_p, if_neg (by omega)]; exact f.2.2.2.2.2.1 i hi
theorem c_sq_70 {h0 : AH} {Q : Option AV → AH → Prop} {D : DD} {m : Int} (w : WF D) (wc0 : WC h0 D) (hW : ∀ r, In (D 99 7) r → gi h0 22 r = dla D r ∧ gi h0 23 r = dea D r) (s1 : nBlk D ≤ 16)
    (cont : ∀ h', Fix h' → EG h0 h' → CaU h' D → SeqOk h' D → Q none h') (k : Nat) :
    ∀ (h : AH) (r : Int), (D 99 7 - r).toNat = k → 0 ≤ r → r ≤ D 99 7 → Fix h → EG h0 h → CaU h D → gi h 86 6 = nBlk D → (∀ u, In (D 99 1) u → D 102 u = u → gi h 87 (cnt (bn D) u.toNat) = u ∧ gi h 88 u = cnt (bn D) u.toNat) → BA (gi h 89) (nBlk D) (brP D r) → Ok 31 70 [some (vR (some 86)), some (vI m), some (vI r), none] [] h Q := by
  have wc := w.c
  induction k using Nat.strongRecOn with
  | ind k ih =>
    intro h r hk r0 r1 hF g cu e6 nms ba
    refine f_X4_refresh_70 hF _ _ ?_
    rw [show gi h 46 0 = D 99 7 by rw [(g.1 46 (by decide)).1]; exact wc0.1]
    refine ⟨fun c => cont h hF g cu (SeqOk.of w s1 e6 nms (by rw [show r = D 99 7 by omega] at ba; exact ba)), fun c => ?_⟩
    have hr : In (D 99 7) r := ⟨r0, by omega⟩
    have e22 : gi h 22 r = dla D r := by rw [(g.1 22 (by decide)).1]; exact (hW r hr).1
    have e23 : gi h 23 r = dea D r := by rw [(g.1 23 (by decide)).1]; exact (hW r hr).2
    have la := w.la r hr
    have ea := w.ea r hr
    have n1 := (nms _ la (w.lab hr)).2
    have n2 := (nms _ ea (w.eab hr)).2
    have l1 := nm_lt w la (w.lab hr)
    have l2 := nm_lt w ea (w.eab hr)
    rw [e22, e23, n1, n2]
    have bi := ba _ l1
    obtain ⟨o1, o2⟩ := or_bit (x := gi h 89 (cnt (bn D) (dla D r).toNat : Nat)) (k := (cnt (bn D) (dea D r).toNat : Nat)) bi.1 ⟨by omega, by omega⟩
    rw [o1]
    refine ⟨⟨r0, by omega⟩, ⟨la.1, by have := la.2; omega⟩, ⟨by omega, by omega⟩, ⟨ea.1, by have := ea.2; omega⟩, ⟨by omega, by omega⟩, ?_⟩
    refine ih _ (by omega) _ (r + 1) rfl (by omega) (by omega) hF (g.si (Or.inr (Or.inr (Or.inl rfl)))) (cu.si (by decide) (by decide)) (by rw [gi_si_o (by decide)]; exact e6) (fun u h1 h2 => by rw [gi_si_o (by decide), gi_si_o (by decide)]; exact nms u h1 h2) (fun i hi => ?_)
    by_cases e : i = cnt (bn D) (dla D r).toNat
    · subst e
      rw [gi_si_e]
      refine ⟨⟨by omega, by omega⟩, fun j => ?_⟩
      rw [show ∀ z : Nat, ((z : Int)).toNat = z by intro z; omega, show ((cnt (bn D) (dea D r).toNat : Nat) : Int).toNat = cnt (bn D) (dea D r).toNat by omega, tb_o]
      by_cases e2 : cnt (bn D) (dea D r).toNat = j
      · simp [e2]
        exact ⟨r, ⟨r0, by omega⟩, rfl, e2⟩
      · simp [e2]
        rw [bi.2 j]
        constructor
        · rintro ⟨q, q1, q2, q3⟩
          exact ⟨q, ⟨q1.1, by have := q1.2; omega⟩, q2, q3⟩
        · rintro ⟨q, q1, q2, q3⟩
          have : q ≠ r := fun z => e2 (by rw [← z]; exact q3)
          exact ⟨q, ⟨q1.1, by have := q1.2; omega⟩, q2, q3⟩
    · rw [gi_si_k (by omega)]
      refine ⟨(ba i hi).1, fun j => ((ba i hi).2 j).trans ?_⟩
      constructor
      · rintro ⟨q, q1, q2, q3⟩
        exact ⟨q, ⟨q1.1, by have := q1.2; omega⟩, q2, q3⟩
      · rintro ⟨q, q1, q2, q3⟩
        have : q ≠ r := fun z => e (by rw [← z]; exact q2.symm)
        exact ⟨q, ⟨q1.1, by have := q1.2; omega⟩, q2, q3⟩
theorem c_sq_27 {h0 : AH} {Q : Option AV → AH → Prop} {D : DD} (w : WF D) (uc0 : UC h0 D) (wc0 : WC h0 D) (hW : ∀ r, In (D 99 7) r → gi h0 22 r = dla D r ∧ gi h0 23 r = dea D r) (s1 : nBlk D ≤ 16)
    (cont : ∀ h', Fix h' → EG h0 h' → CaU h' D → SeqOk h' D → Q none h') (k : Nat) :
    ∀ (h : AH) (u : Int), (D 99 1 - u).toNat = k → 0 ≤ u → u ≤ D 99 1 → Fix h → EG h0 h → CaU h D → gi h 86 6 = (cnt (bn D) u.toNat : Nat) → (∀ v, In u v → D 102 v = v → gi h 87 (cnt (bn D) v.toNat) = v ∧ gi h 88 v = cnt (bn D) v.toNat) → (∀ i : Nat, i < cnt (bn D) u.toNat → gi h 89 i = 0) → Ok 31 27 [some (vR (some 86)), some (vI (nBlk D : Int)), some (vI u), none] [] h Q := by
  have wc := w.c
  induction k using Nat.strongRecOn with
  | ind k ih =>
    intro h u hk u0 u1 hF g cu e6 nms hz
    have uc : UC h D := uc0.kp (g.1 20 (by decide)).1 (g.1 18 (by decide)).1
    have cl : cnt (bn D) u.toNat ≤ nBlk D := cnt_mono (by omega)
    have go : cnt (bn D) u.toNat = nBlk D → Ok 31 70 [some (vR (some 86)), some (vI (nBlk D : Int)), some (vI 0), none] [] h Q := fun e => by
      refine c_sq_70 (h0 := h0) w wc0 hW s1 cont _ h 0 rfl (by decide) wc.2.2.1 hF g cu (by rw [e6, e]) (fun v h1 h2 => nms v ⟨h1.1, ?_⟩ h2) (fun i hi => ?_)
      · have l := nm_lt w h1 h2
        refine Classical.byContradiction (fun q => ?_)
        have := cnt_mono (p := bn D) (n := u.toNat) (m := v.toNat) (by omega)
        omega
      · rw [hz i (by omega)]
        exact ⟨by decide, fun j => ⟨fun z => by simp at z, fun ⟨q, q1, _⟩ => by have := q1.1; have := q1.2; omega⟩⟩
    refine f_X4_refresh_27 hF _ _ ?_
    rw [uc.1, e6]
    refine ⟨fun c => go (by rw [show u = D 99 1 by omega]; rfl), fun c => ⟨fun c2 => go (by omega), fun c2 => ?_⟩⟩
    have hu : In (D 99 1) u := ⟨u0, by omega⟩
    refine c_blockOf hF w uc cu hu (fun h1 F1 k1 n1 u1' e1 g1 _ cu1 => ⟨_, rfl, F1, ?_⟩)
    have gg := g.nm k1 n1 u1' e1 g1
    have hs := cnt_succ (p := bn D) u0
    rw [show gi h1 86 6 = (cnt (bn D) u.toNat : Nat) by rw [(k1 86 (by decide) (by decide)).1]; exact e6]
    have k87 := (k1 87 (by decide) (by decide)).1
    have k88 := (k1 88 (by decide) (by decide)).1
    have k89 := (k1 89 (by decide) (by decide)).1
    refine ⟨fun c3 => ⟨⟨by omega, by omega⟩, ?_⟩, fun c3 => ?_⟩
    · have eb : bn D u = false := by unfold bn; simp [c3]
      rw [eb] at hs
      simp at hs
      refine ih _ (by omega) h1 (u + 1) rfl (by omega) (by omega) F1 gg cu1 (by rw [(k1 86 (by decide) (by decide)).1, hs]; exact e6) (fun v hv hb => ?_) (fun i hi => by rw [k89]; exact hz i (by omega))
      rw [k87, k88]
      have : v ≠ u := fun z => c3 (by rw [← z]; exact hb)
      exact nms v ⟨hv.1, by have := hv.2; omega⟩ hb
    · have he : D 102 u = u := Decidable.not_not.mp c3
      rw [bn_t he] at hs
      simp at hs
      refine ⟨⟨by omega, by omega⟩, ⟨by omega, by omega⟩, ⟨by omega, by omega⟩, ⟨by omega, by omega⟩, ?_⟩
      refine ih _ (by omega) _ (u + 1) rfl (by omega) (by omega) F1 ((((gg.si (Or.inl rfl)).si (Or.inr (Or.inl rfl))).si (Or.inr (Or.inr (Or.inl rfl)))).si (Or.inr (Or.inr (Or.inr ⟨rfl, rfl⟩)))) ((((cu1.si (by decide) (by decide)).si (by decide) (by decide)).si (by decide) (by decide)).si (by decide) (by decide)) (by rw [gi_si_e, hs]; rfl) (fun v hv hb => ?_) (fun i hi => ?_)
      · have r87 : ∀ (x y : Int) j, gi (si (si (si (si h1 87 x u) 88 u x) 89 x 0) 86 6 y) 87 j = gi (si h1 87 x u) 87 j := fun x y j => by rw [gi_si_o (by decide), gi_si_o (by decide), gi_si_o (by decide)]
        have r88 : ∀ (x y : Int) j, gi (si (si (si (si h1 87 x u) 88 u x) 89 x 0) 86 6 y) 88 j = gi (si h1 88 u x) 88 j := fun x y j => by simp [gi_si_p]
        rw [r87, r88]
        by_cases e : v = u
        · subst e
          rw [gi_si_e, gi_si_e]
          exact ⟨rfl, rfl⟩
        · have hv2 := cnt_succ (p := bn D) hv.1
          rw [bn_t hb] at hv2
          simp at hv2
          have := cnt_mono (p := bn D) (n := (v + 1).toNat) (m := u.toNat) (by have := hv.2; omega)
          rw [gi_si_k (by omega), gi_si_k e, k87, k88]
          exact nms v ⟨hv.1, by have := hv.2; omega⟩ hb
      · rw [gi_si_o (by decide)]
        by_cases e : i = cnt (bn D) u.toNat
        · subst e; rw [gi_si_e]
        · rw [gi_si_k (by omega), gi_si_o (by decide), gi_si_o (by decide), k89]
          exact hz i (by omega)
def eO : List Nat := [7, 8, 21, 22, 23, 24, 25, 26, 27, 28, 29, 30, 32, 33, 35, 36, 37, 38, 86, 87, 88, 89]
def SqF (h h' : AH) : Prop := (∀ o, o ∉ eO → Kp o h h') ∧ nn h' = nn h ∧ us h' = us h ∧ gi h' 7 8 = gi h 7 8 ∧ (gr h' = gr h ∧ sh h' = sh h) ∧ (∀ i, i ≠ 6 → i ≠ 7 → gi h' 86 i = gi h 86 i) ∧ gl h' 86 = gl h 86
theorem SqF.refl {h : AH} : SqF h h := ⟨fun _ _ => Kp.refl, rfl, rfl, rfl, ⟨rfl, rfl⟩, fun _ _ _ => rfl, rfl⟩
theorem SqF.trans {h1 h2 h3 : AH} (a : SqF h1 h2) (b : SqF h2 h3) : SqF h1 h3 := ⟨fun o ho => (a.1 o ho).trans (b.1 o ho), by rw [b.2.1]; exact a.2.1, by rw [b.2.2.1]; exact a.2.2.1, by rw [b.2.2.2.1]; exact a.2.2.2.1, ⟨by rw [b.2.2.2.2.1.1]; exact a.2.2.2.2.1.1, by rw [b.2.2.2.2.1.2]; exact a.2.2.2.2.1.2⟩, fun i hi hj => by rw [b.2.2.2.2.2.1 i hi hj]; exact a.2.2.2.2.2.1 i hi hj, by rw [b.2.2.2.2.2.2]; exact a.2.2.2.2.2.2⟩
theorem WbF.sq {h h' : AH} (f : WbF h h') : SqF h h' := ⟨fun o ho => f.1 o (fun hm => ho (by
  have : ∀ o ∈ wO, o ∈ eO := by decide
  exact this o hm)), f.2.1, f.2.2.1, f.2.2.2.1, ⟨f.2.2.2.2.1, f.2.2.2.2.2⟩, fun i _ _ => by rw [(f.1 86 (by decide)).1], (f.1 86 (by decide)).2.1⟩
theorem EG.sq {h h' : AH} (f : EG h h') : SqF h h' := ⟨fun o ho => f.1 o (fun hm => ho (by
  have : ∀ o ∈ eG, o ∈ eO := by decide
  exact this o hm)), f.2.1, f.2.2.1, f.2.2.2.1, f.2.2.2.2.1, fun i h6 _ => f.2.2.2.2.2.1 i h6, f.2.2.2.2.2.2⟩
theorem SqF.s86 {h : AH} {k v : Int} (hk : k = 6 ∨ k = 7) : SqF h (si h 86 k v) := ⟨fun o ho => Kp.refl.si (fun e => ho (by rw [e]; decide)), rfl, rfl, by rw [gi_si_o (by decide)], ⟨rfl, rfl⟩, fun i h6 h7 => by rw [gi_si_k (by omega)], rfl⟩
theorem SqF.rf {h h' : AH} (f : SqF h h') : Rf h h' := Rf.of (P := fun o => o ∉ eO) f.1 (fun o p q => by
  have : ∀ o ∈ eO, o < 99 := by decide
  intro hm
  have := this o hm
  omega)
theorem CInv.sq {h h' : AH} {n : Nat} {Ds : Nat → DD} {Z : DD} {c : Int} (ci : CInv h n Ds Z c) (f : SqF h h') (cu : CaU h' (Ds n)) (cw : CaW h' (Ds n)) (e7 : gi h' 86 7 = gi h' 7 8) (sq : SeqOk h' (Ds n)) : CInv h' n Ds Z c := by
  have ca := ci.ca
  have cz := ci.cz
  have cw0 : ∀ o ∈ eO, o < 136 ∧ (o ≠ 2 ∧ o ≠ 3 ∧ o ≠ 4 ∧ o ≠ 5 ∧ o ≠ 6 ∧ o ≠ 48 ∧ o ≠ 93) ∧ ∀ e ∈ colL, e.1 ≠ o := by decide +kernel
  have e8 : gi h' 86 8 = gi h 86 8 := f.2.2.2.2.2.1 8 (by decide) (by decide)
  have e9 : gi h' 86 9 = gi h 86 9 := f.2.2.2.2.2.1 9 (by decide) (by decide)
  refine ci.core (fun o ho => f.1 o (fun hm => ?_)) (by rw [f.2.2.2.2.1.1]) f.2.1 f.2.2.1 f.2.2.2.1 ?_ ⟨cu, cw, ?_, ?_⟩
  · obtain ⟨a1, a2, a3⟩ := cw0 o hm
    rcases ho with c | c | c | c | c | c | c | ⟨n, c⟩ | c
    all_goals first | omega | exact a3 _ c rfl
  · unfold CZ at cz ⊢
    rw [e8, e7, f.2.2.2.1, (f.1 98 (by decide)).1, (f.1 1 (by decide)).1, (f.1 69 (by decide)).1, (f.1 70 (by decide)).1, (f.1 94 (by decide)).1, (f.1 95 (by decide)).1, (f.1 90 (by decide)).1]
    exact ⟨cz.1, cz.2.1, cz.2.2.1, cz.2.2.2.1, cz.2.2.2.2.1, cz.2.2.2.2.2.1, cz.2.2.2.2.2.2.1, cz.2.2.2.2.2.2.2.1, fun z => ⟨rfl, (cz.2.2.2.2.2.2.2.2 z).2⟩⟩
  · have cy := ca.2.2.1
    unfold CaY YrOk QrOk at cy ⊢
    rw [(f.1 2 (by decide)).1, (f.1 73 (by decide)).1, (f.1 74 (by decide)).1, (f.1 75 (by decide)).1, (f.1 76 (by decide)).1, (f.1 77 (by decide)).1, (f.1 78 (by decide)).1, (f.1 79 (by decide)).1, (f.1 80 (by decide)).1, (f.1 81 (by decide)).1, (f.1 82 (by decide)).1, (f.1 83 (by decide)).1]
    exact cy
  · obtain ⟨c1, c2, c3, c4, c5⟩ := ca.2.2.2
    refine ⟨by rw [e7]; exact Int.le_refl _, by rw [e8, f.2.2.2.1]; exact c2, by rw [e9, f.2.2.2.1]; exact c3, fun _ => sq, fun z => ?_⟩
    rw [f.2.2.2.2.2.2]
    exact c5 (by rw [← e9, ← f.2.2.2.1]; exact z)
theorem c_seqI {h : AH} {Q : Option AV → AH → Prop} {n : Nat} {Ds : Nat → DD} {Z : DD} {c : Int} (hF : Fix h) (ci : CInv h n Ds Z c) (w : WF (Ds n)) (hm : nBlk (Ds n) ≤ 16) (cont : ∀ h', Fix h' → SqF h h' → CInv h' n Ds Z c → gi h' 86 7 = gi h' 7 8 → SeqOk h' (Ds n) → Q none h') : Ok 31 0 [some (vR (some 86)), none, none, none] [] h Q := by
  have wc := w.c
  refine f_X4_refresh_0 hF (c_blocksI hF ci w (fun h1 F1 f1 c1 => ⟨_, rfl, F1, fun q => cont h1 F1 f1.sq c1 q (c1.ca.2.2.2.2.2.2.1 q), fun q => ⟨fun q2 => ?_, fun q2 => by omega⟩⟩))
  have ca := c1.ca
  have F2 : Fix (si h1 86 7 (gi h1 7 8)) := F1
  have s2 : SqF h1 (si h1 86 7 (gi h1 7 8)) := SqF.s86 (Or.inr rfl)
  have wc2 : WC (si h1 86 7 (gi h1 7 8)) (Ds n) := c1.wc w
  refine c_refresh F2 w ((c1.uc w).kp (gi_si_r (by decide)) (gi_si_r (by decide))) wc2 (ca.1.si (by decide) (by decide)) (ca.2.1.kp3 (fun o p q => Kp.refl.si (by omega)) (gi_si_o (by decide))) (fun h3 F3 f3 cu3 cw3 e3 => ⟨rfl, F3, ?_⟩)
  have w3 := cw3.2 e3
  have uc3 : UC h3 (Ds n) := ((c1.uc w).kp (gi_si_r (by decide)) (gi_si_r (by decide)) : UC (si h1 86 7 (gi h1 7 8)) (Ds n)).k f3
  have F4 : Fix (si h3 86 6 0) := F3
  have wc3 : WC h3 (Ds n) := WC.k wc2 f3
  have wc4 : WC (si h3 86 6 0) (Ds n) := wc3
  refine c_sq_27 (h0 := si h3 86 6 0) w (uc3.kp (gi_si_r (by decide)) (gi_si_r (by decide))) wc4 w3.1 hm (fun h5 F5 g5 cu5 sq => ?_) _ _ 0 rfl (by decide) wc.1 F4 EG.refl (cu3.si (by decide) (by decide)) gi_si_e (fun v hv => by have := hv.1; have := hv.2; omega) (fun i hi => absurd hi (Nat.not_lt_zero i))
  have s5 : SqF h3 h5 := (SqF.s86 (Or.inl rfl)).trans g5.sq
  have ss : SqF h h5 := f1.sq.trans (s2.trans (f3.sq.trans s5))
  have e7 : gi h5 86 7 = gi h5 7 8 := by
    rw [g5.2.2.2.2.2.1 7 (by decide), gi_si_k (by decide), (f3.1 86 (by decide)).1, gi_si_e, s5.2.2.2.1, f3.2.2.2.1, gi_si_o (by decide)]
  have cw5 : CaW h5 (Ds n) := cw3.kp3 (fun o p q => (Kp.refl.si (by omega)).trans (g5.1 o (fun hm => by
    have : ∀ o ∈ eG, o < 21 ∨ 38 < o := by decide
    have := this o hm
    omega))) (by rw [s5.2.2.2.1])
  exact cont h5 F5 ss (ci.sq ss cu5 cw5 e7 sq) e7 sq
