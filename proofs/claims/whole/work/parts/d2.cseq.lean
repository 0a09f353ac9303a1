/-! the class's first and next sequence -/
theorem Clo.cplF {d t : Nat → Nat → Prop} (c : Clo d t) {m : Nat} (pg : Prg t m) : ∀ (k i T : Nat) (a a' : Int → Int), m - i = k → T < 2 ^ m → Cls t T → pcn m T = i → (∀ j : Nat, j < i → a j = a' j) → ∀ j : Nat, j < m → cpl d m i T a j = cpl t m i T a' j := by
  intro k
  induction k with
  | zero =>
    intro i T a a' hk hT h hp e j hj
    rw [cpl_end (by omega), cpl_end (by omega)]; exact e j (by omega)
  | succ k ih =>
    intro i T a a' hk hT h hp e j hj
    have el := c.lfE (m := m) (f := 0) h (by omega)
    have q := pg T hT h (by omega)
    obtain ⟨_, _, s3, _⟩ := lf_spec (bf := t) (T := T) m 0 rfl (by omega)
    obtain ⟨s5, s6⟩ := s3 q
    rw [cpl_hit (by omega) (by rw [el]; exact q), cpl_hit (by omega) q, el]
    refine ih (i + 1) _ _ _ (by omega) (o_lt2 hT q) (h.o s6) ?_ (fun x hx => ?_) j hj
    · rw [o_x s5, pcn_x (i := lf t m T 0) (by rw [tb_x, s5]; simp) q, x_x, hp]
    · by_cases e2 : x = i
      · subst e2; rw [uq_e, uq_e]
      · rw [uq_o (by omega), uq_o (by omega)]; exact e x (by omega)
theorem c_least {h : AH} {Q : Option AV → AH → Prop} {bf : Nat → Nat → Prop} {m T f : Nat} (hF : Fix h) (hm : m ≤ 16) (e6 : gi h 86 6 = m) (ba : BA (gi h 89) m bf) (hT : T < 2 ^ m) (hf : f ≤ m) (cont : Q (some (vI (lf bf m T f : Nat))) h) : Ok 36 0 [some (vR (some 86)), some (vI (f : Int)), some (vI (T : Int)), none] [] h Q := by
  obtain ⟨p1, p2⟩ := pw16 hm
  refine f_X4_leastFrom_0 hF _ _ ?_
  have key : ∀ k b, m - b = k → b ≤ m → lf bf m T f = lf bf m T b → Ok 36 2 [some (vR (some 86)), some (vI (f : Int)), some (vI (T : Int)), some (vI (b : Int))] [] h Q := by
    intro k
    induction k using Nat.strongRecOn with
    | ind k ih =>
      intro b hk hb el
      refine f_X4_leastFrom_2 hF _ _ _ ?_
      rw [e6]
      refine ⟨fun c => ?_, fun c => ?_⟩
      · rw [show b = m by omega, lf_end] at el
        rw [el] at cont
        exact cont
      rw [bitS (by omega) (by omega)]
      have nx : ¬ (T.testBit b = false ∧ okB bf T b) → (-2147483648 ≤ (b : Int) + 1 ∧ (b : Int) + 1 < 2147483648) ∧ Ok 36 2 [some (vR (some 86)), some (vI (f : Int)), some (vI (T : Int)), some (vI ((b : Int) + 1))] [] h Q := fun hn => ⟨⟨by omega, by omega⟩, ih _ (by omega) (b + 1) rfl (by omega) (by rw [el]; exact lf_miss (by omega) hn)⟩
      refine ⟨fun c3 => nx (fun z => by rw [z.1] at c3; exact absurd rfl c3), fun c3 => ⟨⟨by omega, by omega⟩, fun c4 => nx (fun z => c4 ((ba.ok (by omega) (by omega)).mpr z.2)), fun c4 => ?_⟩⟩
      have t0 : T.testBit b = false := by
        cases q : T.testBit b
        · rfl
        · rw [q] at c3; exact absurd (by decide) c3
      rw [lf_hit (by omega) ⟨t0, (ba.ok (by omega) (by omega)).mp (Decidable.not_not.mp c4)⟩] at el
      rw [el] at cont
      exact cont
  exact key _ f rfl hf rfl
def F90 (h h' : AH) : Prop := (∀ o, o ≠ 90 → Kp o h h') ∧ nn h' = nn h ∧ us h' = us h ∧ gr h' = gr h ∧ sh h' = sh h
theorem F90.refl {h : AH} : F90 h h := ⟨fun _ _ => Kp.refl, rfl, rfl, rfl, rfl⟩
theorem F90.trans {h1 h2 h3 : AH} (a : F90 h1 h2) (b : F90 h2 h3) : F90 h1 h3 := ⟨fun o ho => (a.1 o ho).trans (b.1 o ho), by rw [b.2.1]; exact a.2.1, by rw [b.2.2.1]; exact a.2.2.1, by rw [b.2.2.2.1]; exact a.2.2.2.1, by rw [b.2.2.2.2]; exact a.2.2.2.2⟩
theorem F90.si {h h1 : AH} {k v : Int} (f : F90 h h1) : F90 h (si h1 90 k v) := ⟨fun o ho => (f.1 o ho).si ho, f.2⟩
theorem F90.fix {h h' : AH} (g : F90 h h') (hF : Fix h) : Fix h' := ⟨fun e he => by rw [g.2.2.2.1]; exact hF.1 e he, fun e he => by rw [g.2.2.2.2]; exact hF.2.1 e he, by rw [g.2.1]; exact hF.2.2⟩
theorem c_complete {h : AH} {Q : Option AV → AH → Prop} {bf : Nat → Nat → Prop} {m i T : Nat} (hF : Fix h) (hm : m ≤ 16) (e6 : gi h 86 6 = m) (ba : BA (gi h 89) m bf) (hT : T < 2 ^ m) (cont : ∀ h', Fix h' → F90 h h' → gi h' 90 = cpl bf m i T (gi h 90) → Q none h') : Ok 35 0 [some (vR (some 86)), some (vI (i : Int)), some (vI (T : Int)), none, none, none] [] h Q := by
  refine f_X4_complete_0 hF _ _ ?_
  have key : ∀ k (h1 : AH) (j S : Nat), m - j = k → S < 2 ^ m → F90 h h1 → cpl bf m i T (gi h 90) = cpl bf m j S (gi h1 90) → Ok 35 4 [some (vR (some 86)), some (vI (i : Int)), some (vI (T : Int)), some (vI (S : Int)), some (vI (j : Int)), none] [] h1 Q := by
    intro k
    induction k using Nat.strongRecOn with
    | ind k ih =>
      intro h1 j S hk hS f e
      have F1 := f.fix hF
      have e6' : gi h1 86 6 = m := by rw [(f.1 86 (by decide)).1]; exact e6
      have ba' : BA (gi h1 89) m bf := by rw [(f.1 89 (by decide)).1]; exact ba
      obtain ⟨p1, p2⟩ := pw16 hm
      refine f_X4_complete_4 F1 _ _ _ _ ?_
      rw [e6']
      refine ⟨fun c => cont h1 F1 f (by rw [e, cpl_end (by omega)]), fun c => ?_⟩
      refine c_least (f := 0) F1 hm e6' ba' hS (by omega) ⟨_, rfl, F1, ?_⟩
      rw [e6']
      refine ⟨fun c2 => ⟨⟨by omega, by omega⟩, ⟨by omega, by omega⟩, ?_⟩, fun c2 => cont h1 F1 f (by rw [e, cpl_miss (by omega) (by omega)])⟩
      have hl : lf bf m S 0 < m := by omega
      rw [(orS (S := S) (b := lf bf m S 0) (by omega) (by omega)).1]
      refine ih _ (by omega) _ (j + 1) _ rfl (o_lt2 hS hl) f.si ?_
      rw [e, cpl_hit (by omega) hl, gi_si_f]
  exact key _ h i T rfl hT F90.refl rfl
theorem c_step {h : AH} {Q : Option AV → AH → Prop} {bf : Nat → Nat → Prop} {m : Nat} (hF : Fix h) (hm : m ≤ 16) (e6 : gi h 86 6 = m) (ba : BA (gi h 89) m bf) (ha : ∀ j : Nat, j < m → 0 ≤ gi h 90 j ∧ gi h 90 j < m)
    (c0 : stpN bf m m (2 ^ m - 1) (gi h 90) = none → Q (some (vI 0)) h) (c1 : ∀ h' A, stpN bf m m (2 ^ m - 1) (gi h 90) = some A → Fix h' → F90 h h' → gi h' 90 = A → Q (some (vI 1)) h') : Ok 37 0 [some (vR (some 86)), none, none, none] [] h Q := by
  obtain ⟨p1, p2⟩ := pw16 hm
  have es : iShl 1 (gi h 86 6) - 1 = ((2 ^ m - 1 : Nat) : Int) := by
    rw [e6, iShl_1 ⟨by omega, by omega⟩, show ((m : Int)).toNat = m by omega]
    omega
  refine f_X4_step_0 hF ?_
  rw [es, e6]
  refine ⟨⟨by omega, by omega⟩, ⟨by omega, by omega⟩, ?_⟩
  have key : ∀ k T : Nat, k ≤ m → T < 2 ^ m → stpN bf m m (2 ^ m - 1) (gi h 90) = stpN bf m k T (gi h 90) → Ok 37 12 [some (vR (some 86)), some (vI (T : Int)), some (vI ((k : Int) - 1)), none] [] h Q := by
    intro k
    induction k with
    | zero =>
      intro T _ _ e
      exact f_X4_step_12 hF _ _ ⟨fun _ => c0 e, fun c => by omega⟩
    | succ k ih =>
      intro T hk hT e
      rw [show (((k + 1 : Nat) : Int)) - 1 = (k : Int) by omega]
      obtain ⟨a0, a1⟩ := ha k (by omega)
      rw [stp_s] at e
      have eb : gi h 90 (k : Int) = ((gi h 90 (k : Int)).toNat : Int) := by omega
      have en : iAnd (T : Int) (iXor (iShl 1 (gi h 90 (k : Int))) (-1)) = ((clr T (gi h 90 (k : Int)).toNat : Nat) : Int) := by
        have := andN (T := T) (b := (gi h 90 (k : Int)).toNat) (by omega) (by omega)
        rw [← eb] at this
        exact this
      have hc : clr T (gi h 90 (k : Int)).toNat < 2 ^ m := clr_lt hT
      refine f_X4_step_12 hF _ _ ?_
      rw [en, show gi h 90 (k : Int) + 1 = (((gi h 90 (k : Int)).toNat + 1 : Nat) : Int) by omega]
      refine ⟨fun c => by omega, fun c => ⟨⟨by omega, by omega⟩, ⟨by omega, by omega⟩, c_least hF hm e6 ba hc (by omega) ⟨_, rfl, hF, ?_⟩⟩⟩
      rw [e6]
      refine ⟨fun c2 => ⟨⟨by omega, by omega⟩, ?_⟩, fun c2 => ⟨⟨by omega, by omega⟩, ?_⟩⟩
      · rw [show (k : Int) + (-1) = (k : Int) - 1 by omega]
        rw [if_neg (by omega)] at e
        exact ih _ (by omega) hc e
      · have hl : lf bf m (clr T (gi h 90 (k : Int)).toNat) ((gi h 90 (k : Int)).toNat + 1) < m := by omega
        rw [if_pos hl] at e
        rw [(orS (S := clr T (gi h 90 (k : Int)).toNat) (b := lf bf m (clr T (gi h 90 (k : Int)).toNat) ((gi h 90 (k : Int)).toNat + 1)) (by omega) (by omega)).1, show (k : Int) + 1 = ((k + 1 : Nat) : Int) by omega]
        refine c_complete (h := si h 90 (k : Int) (lf bf m (clr T (gi h 90 (k : Int)).toNat) ((gi h 90 (k : Int)).toNat + 1) : Nat)) hF hm (by rw [gi_si_o (by decide)]; exact e6) (by rw [gi_si_r (by decide)]; exact ba) (o_lt2 hc hl) (fun h2 F2 f2 e2 => ⟨rfl, F2, c1 h2 _ e F2 (F90.refl.si.trans f2) ?_⟩)
        rw [e2, gi_si_f]
  exact key m _ (Nat.le_refl _) (by omega) rfl
/-- another sequence is shown -/
def zS (Z : DD) (A : Int → Int) : DD := fun o k => if o = 99 ∧ k = 48 then 1 else if o = 134 then A k else Z o k
theorem CInv.hand {h h' : AH} {n : Nat} {Ds : Nat → DD} {Z : DD} {c : Int} {A : Int → Int} (ci : CInv h n Ds Z c) (k : ∀ o, o ≠ 90 → o ≠ 86 → Kp o h h') (k86 : ∀ i, i ≠ 8 → gi h' 86 i = gi h 86 i) (l86 : gl h' 86 = gl h 86) (r86 : gr h' 86 = gr h 86) (hn : nn h' = nn h) (hu : us h' = us h) (e8 : gi h' 86 8 = gi h 7 8) (e7 : gi h 86 7 = gi h 7 8) (hA : ∀ i : Int, In (nBlk (Ds n)) i → gi h' 90 i = A i ∧ In (nBlk (Ds n)) (A i)) : CInv h' n Ds (zS Z A) c := by
  have ca := ci.ca
  obtain ⟨z1, z2, z3, z4, z5, z6, z7, z8, z9⟩ := ci.cz
  have e78 : gi h' 7 8 = gi h 7 8 := by rw [(k 7 (by decide) (by decide)).1]
  have e86 := k86 7 (by decide)
  have ncr : ∀ o, (o = 90 ∨ o = 86) → ¬ Cr o := fun o ho => Cr_no (by omega) (by omega) (by omega)
  refine ci.core (fun o ho => k o (fun e => ncr o (Or.inl e) ho) (fun e => ncr o (Or.inr e) ho)) r86 hn hu e78 ?_ ⟨?_, ca.2.1.kp3 (fun o p q => k o (by omega) (by omega)) e78, ?_, ?_⟩
  · have s : ∀ o i, ¬ (o = 99 ∧ i = 48) → o ≠ 134 → zS Z A o i = Z o i := fun o i p q => by unfold zS; rw [if_neg p, if_neg q]
    have sr : ∀ o, o ≠ 99 → o ≠ 134 → zS Z A o = Z o := fun o p q => funext fun i => s o i (fun z => p z.1) q
    unfold CZ
    rw [s 99 27 (by decide) (by decide), s 99 28 (by decide) (by decide), s 99 29 (by decide) (by decide), s 99 31 (by decide) (by decide), sr 120 (by decide) (by decide), sr 121 (by decide) (by decide), sr 122 (by decide) (by decide), (k 98 (by decide) (by decide)).1, (k 1 (by decide) (by decide)).1, (k 69 (by decide) (by decide)).1, (k 70 (by decide) (by decide)).1, (k 94 (by decide) (by decide)).1, (k 95 (by decide) (by decide)).1, e8, e78, e86]
    exact ⟨z1, z2, z3, z4, z5, z6, z7, ⟨fun _ => rfl, fun _ => rfl⟩, fun _ => ⟨e7, hA⟩⟩
  · exact ca.1.w (k 7 (by decide) (by decide)).1 (k 8 (by decide) (by decide)).1
  · have cy := ca.2.2.1
    unfold CaY YrOk QrOk at cy ⊢
    rw [(k 2 (by decide) (by decide)).1, (k 73 (by decide) (by decide)).1, (k 74 (by decide) (by decide)).1, (k 75 (by decide) (by decide)).1, (k 76 (by decide) (by decide)).1, (k 77 (by decide) (by decide)).1, (k 78 (by decide) (by decide)).1, (k 79 (by decide) (by decide)).1, (k 80 (by decide) (by decide)).1, (k 81 (by decide) (by decide)).1, (k 82 (by decide) (by decide)).1, (k 83 (by decide) (by decide)).1]
    exact cy
  · have cs := ca.2.2.2
    obtain ⟨c1, c2, c3, c4, c5⟩ := cs
    refine ⟨by rw [e86, e78]; exact c1, by rw [e8, e78]; exact Int.le_refl _, by rw [k86 9 (by decide), e78]; exact c3, fun q => ?_, fun q => ?_⟩
    · have := c4 (by rw [← e86, ← e78]; exact q)
      unfold SeqOk at this ⊢
      rw [k86 6 (by decide), (k 87 (by decide) (by decide)).1, (k 88 (by decide) (by decide)).1, (k 89 (by decide) (by decide)).1]; exact this
    · rw [l86]
      exact c5 (by rw [← k86 9 (by decide), ← e78]; exact q)
theorem c_first {h : AH} {Q : Option AV → AH → Prop} {n : Nat} {Ds : Nat → DD} {Z : DD} {c : Int} (hF : Fix h) (ci : CInv h n Ds Z c) (w : WF (Ds n)) (many : ∀ h', 16 < nBlk (Ds n) → Fix h' → Rf h h' → CInv h' n Ds Z c → Q (some (vI (-2))) h')
    (cont : ∀ h', nBlk (Ds n) ≤ 16 → Fix h' → Rf h h' → (∀ A a0 : Int → Int, (∀ i : Nat, i < nBlk (Ds n) → A i = cpl (bfD (Ds n)) (nBlk (Ds n)) 0 0 a0 i) → CInv h' n Ds (zS Z A) c) → Q (some (vI (nBlk (Ds n)))) h') : Ok 181 0 [some (vR (some 1))] [] h Q := by
  refine f_X11_first_0 hF (c_blocksI hF ci w (fun h1 F1 f1 c1 => ⟨_, rfl, F1, fun q => ?_, fun q => many h1 (by omega) F1 f1.rf c1⟩))
  have hm : nBlk (Ds n) ≤ 16 := by omega
  refine f_X4_begin_0 F1 (c_seqI F1 c1 w hm (fun h2 F2 f2 c2 e7 sq => ⟨rfl, F2, ?_⟩))
  have ba := sq.ba w
  have e6 := sq.2.1
  have pg := bfD_prg w
  have F3 : Fix (si h2 86 8 (gi h2 7 8)) := F2
  refine c_complete (i := 0) (T := 0) F3 hm (by rw [gi_si_k (by decide)]; exact e6) (by rw [gi_si_r (by decide)]; exact ba) (Nat.two_pow_pos _) (fun h4 F4 f4 e4 => ⟨rfl, F4, ?_⟩)
  have k4 : ∀ o, o ≠ 90 → o ≠ 86 → Kp o h2 h4 := fun o p q => (Kp.refl.si q).trans (f4.1 o p)
  have k86 := f4.1 86 (by decide)
  have e64 : gi h4 86 6 = nBlk (Ds n) := by rw [k86.1, gi_si_k (by decide)]; exact e6
  rw [e64]
  refine ⟨_, rfl, F4, cont h4 hm F4 ((f1.rf.trans f2.rf).trans (Rf.of (P := fun o => 99 ≤ o) (fun o ho => k4 o (by omega) (by omega)) (fun o p _ => p))) (fun A a0 hA => c2.hand k4 (fun i hi => by rw [k86.1, gi_si_k hi]) k86.2.1 (by rw [k86.2.2.2.1]; rfl) f4.2.1 f4.2.2.1 (by rw [k86.1, gi_si_e]) e7 (fun i hi => ?_))⟩
  have i0 := hi.1
  have i1 := hi.2
  have ei : ((i.toNat : Nat) : Int) = i := by omega
  have ev := (br_clo w).cplF pg _ 0 0 (gi (si h2 86 8 (gi h2 7 8)) 90) a0 rfl (Nat.two_pow_pos _) (fun x y hx => by simp at hx) pcn_0 (fun x hx => by omega) i.toNat (by omega)
  have hv := (cpl_vld pg _ 0 a0 rfl (by omega) (fun x hx => by omega)).1 i.toNat (by omega)
  have hAi := hA i.toNat (by omega)
  rw [ei] at ev hAi hv
  rw [e4, ev, hAi]
  exact ⟨rfl, hv.1.1, hv.1.2⟩
theorem c_next {h : AH} {Q : Option AV → AH → Prop} {n : Nat} {Ds : Nat → DD} {Z : DD} {c : Int} (hF : Fix h) (ci : CInv h n Ds Z c) (w : WF (Ds n)) (hv : Z 99 48 = 1 → nBlk (Ds n) ≤ 16 ∧ Vld (bfD (Ds n)) (nBlk (Ds n)) (Z 134) (nBlk (Ds n))) (no : Z 99 48 ≠ 1 → Q (some (vI (-2))) h)
    (c0 : Z 99 48 = 1 → stpN (bfD (Ds n)) (nBlk (Ds n)) (nBlk (Ds n)) (pfx (Z 134) (nBlk (Ds n))) (Z 134) = none → Q (some (vI 0)) h)
    (c1 : ∀ h' A', Z 99 48 = 1 → stpN (bfD (Ds n)) (nBlk (Ds n)) (nBlk (Ds n)) (pfx (Z 134) (nBlk (Ds n))) (Z 134) = some A' → Fix h' → Rf h h' → CInv h' n Ds (zS Z A') c → Q (some (vI 1)) h') : Ok 182 0 [some (vR (some 1))] [] h Q := by
  obtain ⟨_, _, _, _, _, _, _, z8, z9⟩ := ci.cz
  refine f_X11_next_0 hF ⟨fun q => no (fun z => q (z8.mp z)), fun q => ?_⟩
  have on : Z 99 48 = 1 := z8.mpr (Decidable.not_not.mp q)
  obtain ⟨hm, v⟩ := hv on
  obtain ⟨e7, hz⟩ := z9 on
  have sq := ci.ca.2.2.2.2.2.2.1 e7
  have ba := sq.ba w
  have hz' : ∀ j : Nat, j < nBlk (Ds n) → gi h 90 j = Z 134 j := fun j hj => (hz j ⟨by omega, by omega⟩).1
  obtain ⟨v1, v2, v3⟩ := v.lt
  have ef := pcn_full v1 v3
  have st := (br_clo w).stpE hz' (nBlk (Ds n)) (Nat.le_refl _) v
  rw [ef] at st
  rw [ef] at c0 c1
  refine c_step (bf := brD (Ds n)) hF hm sq.2.1 ba (fun j hj => by
    have := hz j ⟨by omega, by omega⟩
    rw [this.1]; exact this.2) (fun hs => ⟨_, rfl, hF, fun _ => c0 on ?_, fun z => absurd rfl z⟩) (fun h' A hs F' f' e' => ⟨_, rfl, F', fun z => by omega, fun _ => ?_⟩)
  · rcases st with s | ⟨b, b', s1, s2, s3⟩
    · exact s.1
    · rw [hs] at s2; cases s2
  · rcases st with s | ⟨b, b', s1, s2, s3⟩
    · rw [hs] at s; cases s.2
    · rw [hs] at s2
      cases s2
      have k86 := f'.1 86 (by decide)
      have vb : Vld (bfD (Ds n)) (nBlk (Ds n)) b' (nBlk (Ds n)) := stp_vld (bfD_prg w) (nBlk (Ds n)) (Nat.le_refl _) v b' (by rw [ef]; exact s1)
      refine c1 h' b' on s1 F' (Rf.of (P := fun o => 99 ≤ o) (fun o ho => f'.1 o (by omega)) (fun o p _ => p)) (ci.hand (fun o p _ => f'.1 o p) (fun i _ => by rw [k86.1]) k86.2.1 k86.2.2.2.1 f'.2.1 f'.2.2.1 (by rw [k86.1]; exact z8.mp on) e7 (fun i hi => ?_))
      have i0 := hi.1
      have i1 := hi.2
      have ei : ((i.toNat : Nat) : Int) = i := by omega
      have t := s3 i.toNat (by omega)
      have u := (vb i.toNat (by omega)).1
      rw [ei] at t u
      rw [e', t]
      exact ⟨rfl, u.1, u.2⟩
theorem c_place {h : AH} {Q : Option AV → AH → Prop} {n : Nat} {Ds : Nat → DD} {Z : DD} {c i : Int} (hF : Fix h) (ci : CInv h n Ds Z c) (w : WF (Ds n)) (cont : ∀ x, aPlace (Ds n) (Z 99 48 = 1) (Z 134) i x → Q (some (vI x)) h) : Ok 183 0 [some (vR (some 1)), some (vI i)] [] h Q := by
  obtain ⟨_, _, _, _, _, _, _, z8, z9⟩ := ci.cz
  refine f_X11_place_0 hF _ (f_X4_nameAt_0 hF _ ⟨fun q => ⟨_, rfl, hF, cont _ (Or.inl ⟨fun z => q (z8.mp z.1), rfl⟩)⟩, fun q => ?_⟩)
  have on : Z 99 48 = 1 := z8.mpr (Decidable.not_not.mp q)
  obtain ⟨e7, hz⟩ := z9 on
  obtain ⟨s1, s2, s3, _⟩ := ci.ca.2.2.2.2.2.2.1 e7
  rw [s2]
  refine ⟨fun c => ⟨_, rfl, hF, cont _ (Or.inl ⟨fun z => by have := z.2.1; omega, rfl⟩)⟩, fun c => ⟨fun c2 => ⟨_, rfl, hF, cont _ (Or.inl ⟨fun z => by have := z.2.2; omega, rfl⟩)⟩, fun c2 => ?_⟩⟩
  have hi : In (nBlk (Ds n)) i := ⟨by omega, by omega⟩
  obtain ⟨t1, t2, t3⟩ := hz i hi
  obtain ⟨u, u1, u2, u3⟩ := nm_ex (i := (Z 134 i).toNat) w (by omega)
  rw [t1]
  refine ⟨⟨by omega, by omega⟩, ⟨by omega, by omega⟩, ⟨_, rfl, hF, ?_⟩⟩
  have e := (s3 u u1 u2).1
  rw [u3, show (((Z 134 i).toNat : Nat) : Int) = Z 134 i by omega] at e
  rw [e]
  exact cont u (Or.inr ⟨on, hi, u, u1, u2, by omega, rfl⟩)
