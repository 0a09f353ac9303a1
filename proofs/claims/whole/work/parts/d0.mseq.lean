/-! the reference's sequences -/
theorem andN {T b : Nat} (hT : T < 65536) (hb : b < 16) : iAnd (T : Int) (iXor (iShl 1 (b : Int)) (-1)) = ((clr T b : Nat) : Int) := by
  have p : 2 ^ b < 2 ^ 16 := Nat.pow_lt_pow_right (by decide) hb
  have e : iShl 1 (b : Int) = ((2 ^ b : Nat) : Int) := by rw [iShl_1 ⟨by omega, by omega⟩, show ((b : Int)).toNat = b by omega]
  rw [e]
  have p' : 2 ^ b < 65536 := p
  unfold clr
  clear e p
  generalize 2 ^ b = z at p' ⊢
  rw [iAndN_nn ⟨by omega, by omega⟩ ⟨by omega, by omega⟩, show ((T : Int)).toNat = T by omega, show ((z : Int)).toNat = z by omega]
theorem clr_lt {T b m : Nat} (h : T < 2 ^ m) : clr T b < 2 ^ m := Nat.lt_of_le_of_lt Nat.and_le_left h
theorem m_goOn_4 {h0 : AH} {Q : Option AV → AH → Prop} {bf : Nat → Nat → Prop} {m : Nat} {p1 p2 : Int} (hm : m ≤ 16) (pg : Prg bf m) (e50 : gi h0 99 50 = m) (ba : BA (gi h0 133) m bf) {A : Int → Int}
    (cont : ∀ h', Fix h' → Fr [134] [] h0 h' → gi h' 134 = A → Q none h') (k : Nat) :
    ∀ (h : AH) (i T : Nat), m - i = k → i ≤ m → Fix h → Fr [134] [] h0 h → T < 2 ^ m → Cls bf T → pcn m T = i → cpl bf m i T (gi h 134) = A → Ok 289 4 [some (vR (some 99)), some (vI p1), some (vI p2), some (vI (T : Int)), some (vI (i : Int)), none] [] h Q := by
  obtain ⟨q1, q2⟩ := pw16 hm
  induction k using Nat.strongRecOn with
  | ind k ih =>
    intro h i T hk hi hF f hT cl hp hA
    have e50' : gi h 99 50 = m := by rw [f.1 99 50 (by decide) (by decide)]; exact e50
    have e133 : gi h 133 = gi h0 133 := f.row (by decide) (by decide)
    refine f_X12_goOn_4 hF _ _ _ _ ?_
    rw [e50']
    refine ⟨fun c => cont h hF f (by rw [cpl_end (by omega)] at hA; exact hA), fun c => ?_⟩
    have hb := pg T hT cl (by omega)
    obtain ⟨_, _, s3, s4⟩ := lf_spec (bf := bf) (T := T) m 0 rfl (by omega)
    have key : ∀ j b, m - b = j → b ≤ lf bf m T 0 → Ok 289 10 [some (vR (some 99)), some (vI p1), some (vI p2), some (vI (T : Int)), some (vI (i : Int)), some (vI (b : Int))] [] h Q := by
      intro j
      induction j using Nat.strongRecOn with
      | ind j jh =>
        intro b hj hbl
        refine f_X12_goOn_10 hF _ _ _ _ _ ?_
        rw [bitS (by omega) (by omega), e133]
        have nx : ¬ (T.testBit b = false ∧ okB bf T b) → (-2147483648 ≤ (b : Int) + 1 ∧ (b : Int) + 1 < 2147483648) ∧ Ok 289 10 [some (vR (some 99)), some (vI p1), some (vI p2), some (vI (T : Int)), some (vI (i : Int)), some (vI ((b : Int) + 1))] [] h Q := fun hn => ⟨⟨by omega, by omega⟩, jh _ (by omega) (b + 1) rfl (by
          have : b ≠ lf bf m T 0 := fun e => hn (by rw [e]; exact s3 hb)
          omega)⟩
        refine ⟨fun c2 => nx (fun z => by rw [z.1] at c2; exact absurd c2 (by decide)), fun c2 => ⟨⟨by omega, by omega⟩, fun c3 => ?_, fun c3 => nx (fun z => c3 ((ba.ok (by omega) (by omega)).mpr z.2))⟩⟩
        have t0 : T.testBit b = false := by
          cases q : T.testBit b
          · rfl
          · rw [q] at c2; exact absurd rfl c2
        have hok := (ba.ok (by omega) (by omega)).mp c3
        have e : b = lf bf m T 0 := Classical.byContradiction (fun q => s4 b (by omega) (by omega) ⟨t0, hok⟩)
        rw [(orS (S := T) (b := b) (by omega) (by omega)).1]
        refine ⟨⟨by omega, by omega⟩, ⟨by omega, by omega⟩, ih _ (by omega) _ (i + 1) _ rfl (by omega) hF (f.si (Or.inl (by decide))) (o_lt2 hT (by omega)) (cl.o hok) ?_ ?_⟩
        · rw [o_x t0, pcn_x (i := b) (by rw [tb_x, t0]; simp) (by omega), x_x, hp]
        · rw [gi_si_f, e, ← cpl_hit (by omega) hb]; exact hA
    exact key _ 0 rfl (by omega)
theorem m_next_25 {h : AH} {Q : Option AV → AH → Prop} {bf : Nat → Nat → Prop} {m : Nat} (hm : m ≤ 16) (pg : Prg bf m) (hF : Fix h) (e50 : gi h 99 50 = m) (ba : BA (gi h 133) m bf)
    (c0 : ∀ h', Fix h' → Fr [134] [] h h' → stpN bf m m (pfx (gi h 134) m) (gi h 134) = none → gi h' 134 = gi h 134 → Q (some (vI 0)) h')
    (c1 : ∀ h' A, Fix h' → Fr [134] [] h h' → stpN bf m m (pfx (gi h 134) m) (gi h 134) = some A → gi h' 134 = A → Q (some (vI 1)) h') :
    ∀ (k : Nat), k ≤ m → Vld bf m (gi h 134) k → stpN bf m m (pfx (gi h 134) m) (gi h 134) = stpN bf m k (pfx (gi h 134) k) (gi h 134) → Ok 291 25 [some (vR (some 99)), some (vI (pfx (gi h 134) k : Int)), some (vI ((k : Int) - 1)), none] [] h Q := by
  obtain ⟨q1, q2⟩ := pw16 hm
  intro k
  induction k with
  | zero =>
    intro _ _ hs
    exact f_X12_next_25 hF _ _ ⟨fun _ => c0 h hF Fr.refl hs rfl, fun c => by omega⟩
  | succ k ih =>
    intro hk v hs
    have vk : Vld bf m (gi h 134) k := fun j hj => v j (by omega)
    obtain ⟨⟨b0, b1⟩, b2, b3⟩ := v k (by omega)
    have ek : (((k + 1 : Nat) : Int)) - 1 = (k : Int) := by omega
    rw [ek]
    have hT1 := v.lt.1
    have hT := vk.lt.1
    have eb : gi h 134 (k : Int) = ((gi h 134 (k : Int)).toNat : Int) := by omega
    have ea : iAnd (pfx (gi h 134) (k + 1) : Int) (iXor (iShl 1 (gi h 134 (k : Int))) (-1)) = (pfx (gi h 134) k : Int) := by
      rw [eb, andN (by omega) (by omega)]
      rw [clr_pfx v]
    refine f_X12_next_25 hF _ _ ⟨fun c => by omega, fun c => ⟨⟨by omega, by omega⟩, ⟨by omega, by omega⟩, ?_⟩⟩
    rw [ea]
    have hs' := hs
    rw [stp_s, clr_pfx v] at hs'
    have key : ∀ j b, m - b = j → b ≤ m → lf bf m (pfx (gi h 134) k) ((gi h 134 (k : Int)).toNat + 1) = lf bf m (pfx (gi h 134) k) b → Ok 291 45 [some (vR (some 99)), some (vI (pfx (gi h 134) k : Int)), some (vI (k : Int)), some (vI (b : Int))] [] h Q := by
      intro j
      induction j using Nat.strongRecOn with
      | ind j jh =>
        intro b hj hb el
        refine f_X12_next_45 hF _ _ _ ?_
        rw [e50]
        refine ⟨fun c2 => ⟨⟨by omega, by omega⟩, ?_⟩, fun c2 => ?_⟩
        · rw [show b = m by omega, lf_end] at el
          rw [if_neg (by omega)] at hs'
          rw [show (k : Int) + (-1) = (k : Int) - 1 by omega]
          exact ih (by omega) vk hs'
        rw [bitS (by omega) (by omega)]
        have nx : ¬ ((pfx (gi h 134) k).testBit b = false ∧ okB bf (pfx (gi h 134) k) b) → (-2147483648 ≤ (b : Int) + 1 ∧ (b : Int) + 1 < 2147483648) ∧ Ok 291 45 [some (vR (some 99)), some (vI (pfx (gi h 134) k : Int)), some (vI (k : Int)), some (vI ((b : Int) + 1))] [] h Q := fun hn => ⟨⟨by omega, by omega⟩, jh _ (by omega) (b + 1) rfl (by omega) (by rw [el]; exact lf_miss (by omega) hn)⟩
        refine ⟨fun c3 => nx (fun z => by rw [z.1] at c3; exact absurd rfl c3), fun c3 => ⟨⟨by omega, by omega⟩, fun c4 => nx (fun z => c4 ((ba.ok (by omega) (by omega)).mpr z.2)), fun c4 => ?_⟩⟩
        have t0 : (pfx (gi h 134) k).testBit b = false := by
          cases q : (pfx (gi h 134) k).testBit b
          · rfl
          · rw [q] at c3; exact absurd (by decide) c3
        have hok := (ba.ok (by omega) (by omega)).mp (Decidable.not_not.mp c4)
        rw [lf_hit (by omega) ⟨t0, hok⟩] at el
        rw [el, if_pos (by omega)] at hs'
        rw [(orS (S := pfx (gi h 134) k) (b := b) (by omega) (by omega)).1]
        obtain ⟨_, l2, l3⟩ := vk.lt
        refine ⟨⟨by omega, by omega⟩, ⟨by omega, by omega⟩, f_X12_goOn_0 (show Fix (si h 134 (k : Int) (b : Int)) from hF) _ _ ?_⟩
        have f1 : Fr [134] [] h (si h 134 (k : Int) (b : Int)) := Fr.refl.si (Or.inl (by decide))
        refine m_goOn_4 (h0 := si h 134 (k : Int) (b : Int)) hm pg (by rw [gi_si_o (by decide)]; exact e50) (by rw [gi_si_r (by decide)]; exact ba) (fun h2 F2 f2 e2 => ⟨rfl, F2, c1 h2 _ F2 (f1.trans f2) hs' e2⟩) _ _ (k + 1) _ rfl (by omega) hF Fr.refl (o_lt2 hT (by omega)) (l2.o hok) ?_ (by rw [gi_si_f])
        rw [o_x t0, pcn_x (i := b) (by rw [tb_x, t0]; simp) (by omega), x_x, l3]
    have e1 : gi h 134 (k : Int) + 1 = (((gi h 134 (k : Int)).toNat + 1 : Nat) : Int) := by omega
    rw [e1]
    exact key _ _ rfl (by omega) rfl
theorem bfD_prg {D : DD} (w : WF D) : Prg (bfD D) (nBlk D) := by
  obtain ⟨rk, hk, _⟩ := w.rk
  have : ∃ r : Nat → Nat, ∀ i u, In (D 99 1) u → D 102 u = u → cnt (bn D) u.toNat = i → r i = rk u := by
    refine ⟨fun i => @dite _ (∃ u, In (D 99 1) u ∧ D 102 u = u ∧ cnt (bn D) u.toNat = i) (Classical.propDecidable _) (fun z => rk z.choose) (fun _ => 0), fun i u h1 h2 h3 => ?_⟩
    have ex : ∃ u, In (D 99 1) u ∧ D 102 u = u ∧ cnt (bn D) u.toNat = i := ⟨u, h1, h2, h3⟩
    show @dite _ _ (Classical.propDecidable _) _ _ = _
    rw [dif_pos ex]
    obtain ⟨c1, c2, c3⟩ := ex.choose_spec
    rw [nm_inj c1 h1 c2 h2 (by rw [c3, h3])]
  obtain ⟨r, hr⟩ := this
  refine Prg_of (rk := r) (fun i j hb => ⟨?_, (bfD_lt w hb).2⟩)
  obtain ⟨a, b, a1, a2, a3, b1, b2, b3, rc⟩ := hb
  rw [hr i a a1 a2 a3, hr j b b1 b2 b3]
  exact Rch_rk hk rc
def sqL : List Nat := [123, 132, 133, 134]
def sqK : List (Nat × Int) := [(99, 0), (99, 48), (99, 50)]
theorem m_first {h : AH} {Q : Option AV → AH → Prop} {D : DD} (hF : Fix h) (r : RM h D) (w : WF D) (many : ∀ h', 16 < nBlk D → Fix h' → Fr [132] [(99, 0), (99, 50)] h h' → Q (some (vI (-2))) h')
    (cont : ∀ h', nBlk D ≤ 16 → Fix h' → Fr sqL sqK h h' → gi h' 99 48 = 1 → gi h' 134 = cpl (bfD D) (nBlk D) 0 0 (gi h 134) → Q (some (vI (nBlk D))) h') : Ok 290 0 [some (vR (some 99))] [] h Q := by
  have f0 : Fr [] [(99, 0)] h (si h 99 0 0) := Fr.refl.si (Or.inr (by decide))
  have F0 := hF.fr f0
  have r0 := r.fr f0 (by decide) (by decide)
  refine f_X12_first_0 hF (m_listed F0 r0 w (fun h1 F1 f1 e50 nms => ⟨_, rfl, F1, ?_⟩))
  have f01 : Fr [132] [(99, 0), (99, 50)] h h1 := (f0.mono (by decide) (by decide)).trans (f1.mono (by decide) (by decide))
  refine ⟨fun c => ?_, fun c => many h1 (by omega) F1 f01⟩
  have hm : nBlk D ≤ 16 := by omega
  refine m_readBefore F1 (r0.fr f1 (by decide) (by decide)) w hm e50 nms (fun h3 F3 f3 ba => ⟨rfl, F3, ?_⟩)
  have e503 : gi h3 99 50 = nBlk D := by rw [f3.1 99 50 (by decide) (by decide)]; exact e50
  have e134 : gi h3 134 = gi h 134 := by rw [f3.row (by decide) (by decide), f01.row (by decide) (by decide)]
  refine f_X12_goOn_0 F3 _ _ (m_goOn_4 (h0 := h3) hm (bfD_prg w) e503 ba (fun h4 F4 f4 e4 => ⟨rfl, F4, ?_⟩) _ h3 0 0 rfl (by omega) F3 Fr.refl (Nat.two_pow_pos _) (fun i j hi => by simp at hi) pcn_0 rfl)
  rw [show gi h4 99 50 = (nBlk D : Int) by rw [f4.1 99 50 (by decide) (by decide)]; exact e503]
  have ff : Fr sqL sqK h (si h4 99 48 1) := (((f01.mono (by decide) (by decide)).trans (f3.mono (by decide) (by decide))).trans (f4.mono (by decide) (by decide))).si (Or.inr (by decide))
  exact cont _ hm (hF.fr ff) ff gi_si_e (by rw [gi_si_r (by decide), e4, e134])
theorem m_next {h : AH} {Q : Option AV → AH → Prop} {D : DD} (hF : Fix h) (r : RM h D) (w : WF D) (no : gi h 99 48 = 0 → Q (some (vI (-2))) (si h 99 0 0)) (hv : gi h 99 48 ≠ 0 → nBlk D ≤ 16 ∧ Vld (bfD D) (nBlk D) (gi h 134) (nBlk D))
    (c0 : ∀ h', gi h 99 48 ≠ 0 → Fix h' → Fr sqL sqK h h' → gi h' 99 48 = gi h 99 48 → stpN (bfD D) (nBlk D) (nBlk D) (pfx (gi h 134) (nBlk D)) (gi h 134) = none → gi h' 134 = gi h 134 → Q (some (vI 0)) h')
    (c1 : ∀ h' A, gi h 99 48 ≠ 0 → Fix h' → Fr sqL sqK h h' → gi h' 99 48 = gi h 99 48 → stpN (bfD D) (nBlk D) (nBlk D) (pfx (gi h 134) (nBlk D)) (gi h 134) = some A → gi h' 134 = A → Q (some (vI 1)) h') : Ok 291 0 [some (vR (some 99)), none, none, none] [] h Q := by
  refine f_X12_next_0 hF ⟨fun q => ?_, fun q => no (Decidable.not_not.mp q)⟩
  obtain ⟨hm, v⟩ := hv q
  have f0 : Fr [] [(99, 0)] h (si h 99 0 0) := Fr.refl.si (Or.inr (by decide))
  have F0 := hF.fr f0
  have r0 := r.fr f0 (by decide) (by decide)
  refine m_listed F0 r0 w (fun h1 F1 f1 e50 nms => ⟨_, rfl, F1, ?_⟩)
  refine m_readBefore F1 (r0.fr f1 (by decide) (by decide)) w hm e50 nms (fun h3 F3 f3 ba => ⟨rfl, F3, ?_⟩)
  have f03 : Fr sqL sqK h h3 := ((f0.mono (by decide) (by decide)).trans (f1.mono (by decide) (by decide))).trans (f3.mono (by decide) (by decide))
  have e503 : gi h3 99 50 = nBlk D := by rw [f3.1 99 50 (by decide) (by decide)]; exact e50
  have e134 : gi h3 134 = gi h 134 := by rw [f3.row (by decide) (by decide), f1.row (by decide) (by decide)]; rfl
  have e48 : gi h3 99 48 = gi h 99 48 := by rw [f3.1 99 48 (by decide) (by decide), f1.1 99 48 (by decide) (by decide), gi_si_k (by decide)]
  obtain ⟨p1, p2⟩ := pw16 hm
  obtain ⟨v1, v2, v3⟩ := v.lt
  have es : iShl 1 (gi h3 99 50) - 1 = (pfx (gi h3 134) (nBlk D) : Int) := by
    rw [e503, iShl_1 ⟨by omega, by omega⟩, show ((nBlk D : Int)).toNat = nBlk D by omega, e134, pcn_full v1 v3]
    omega
  rw [es, e503]
  refine ⟨⟨by omega, by rw [e134]; omega⟩, ⟨by omega, by omega⟩, ?_⟩
  refine m_next_25 (bf := bfD D) hm (bfD_prg w) F3 e503 ba (fun h' F' f' hs e' => ?_) (fun h' A F' f' hs e' => ?_) (nBlk D) (Nat.le_refl _) (by rw [e134]; exact v) rfl
  · rw [e134] at hs e'
    exact c0 h' q F' (f03.trans (f'.mono (by decide) (by decide))) (by rw [f'.1 99 48 (by decide) (by decide)]; exact e48) hs e'
  · rw [e134] at hs
    exact c1 h' A q F' (f03.trans (f'.mono (by decide) (by decide))) (by rw [f'.1 99 48 (by decide) (by decide)]; exact e48) hs e'
/-- what place answers -/
def aPlace (D : DD) (on : Prop) (a : Int → Int) (i x : Int) : Prop := (¬ (on ∧ In (nBlk D) i) ∧ x = -5) ∨ (on ∧ In (nBlk D) i ∧ ∃ u, In (D 99 1) u ∧ D 102 u = u ∧ (cnt (bn D) u.toNat : Int) = a i ∧ x = u)
theorem m_place_ {h : AH} {Q : Option AV → AH → Prop} {D : DD} {i : Int} (hF : Fix h) (r : RM h D) (w : WF D) (hv : gi h 99 48 ≠ 0 → nBlk D ≤ 16 ∧ Vld (bfD D) (nBlk D) (gi h 134) (nBlk D))
    (cont : ∀ h' x, Fix h' → Fr [132] [(99, 0), (99, 50)] h h' → aPlace D (gi h 99 48 ≠ 0) (gi h 134) i x → Q (some (vI x)) h') : Ok 292 0 [some (vR (some 99)), some (vI i)] [] h Q := by
  have f0 : Fr [] [(99, 0)] h (si h 99 0 0) := Fr.refl.si (Or.inr (by decide))
  have F0 := hF.fr f0
  have r0 := r.fr f0 (by decide) (by decide)
  have wc := w.c
  refine f_X12_place__0 hF _ ⟨fun q => ?_, fun q => cont _ (-5) F0 (f0.mono (by decide) (by decide)) (Or.inl ⟨fun z => q z.1, rfl⟩)⟩
  obtain ⟨hm, v⟩ := hv q
  refine m_listed F0 r0 w (fun h1 F1 f1 e50 nms => ⟨_, rfl, F1, ?_⟩)
  have f01 : Fr [132] [(99, 0), (99, 50)] h h1 := (f0.mono (by decide) (by decide)).trans (f1.mono (by decide) (by decide))
  have e134 : gi h1 134 = gi h 134 := f01.row (by decide) (by decide)
  have bad : ¬ In (nBlk D) i → Q (some (vI (-5))) h1 := fun z => cont h1 (-5) F1 f01 (Or.inl ⟨fun y => z y.2, rfl⟩)
  rw [e50, e134]
  refine ⟨⟨by omega, by omega⟩, fun c => bad (fun z => by have := z.1; omega), fun c => ⟨fun c2 => bad (fun z => by have := z.2; omega), fun c2 => ?_⟩⟩
  have hi : In (nBlk D) i := ⟨by omega, by omega⟩
  have b1 := (v i.toNat (by omega)).1
  rw [show ((i.toNat : Nat) : Int) = i by omega] at b1
  obtain ⟨u, u1, u2, u3⟩ := nm_ex (i := (gi h 134 i).toNat) w (by omega)
  refine ⟨⟨by omega, by omega⟩, ⟨by omega, by omega⟩, ?_⟩
  have e : gi h1 132 (gi h 134 i) = u := by
    have := nms u u1 u2
    rw [u3] at this
    rw [show ((((gi h 134 i).toNat : Nat)) : Int) = gi h 134 i by omega] at this
    exact this
  rw [e]
  exact cont h1 u F1 f01 (Or.inr ⟨q, hi, u, u1, u2, by omega, rfl⟩)
theorem aPlace_uniq {D : DD} {on : Prop} {a a' : Int → Int} {i x y : Int} (ha : on → In (nBlk D) i → a i = a' i) (h : aPlace D on a i x) (h' : aPlace D on a' i y) : x = y := by
  rcases h with ⟨h1, h2⟩ | ⟨h1, h2, u, u1, u2, u3, u4⟩
  · rcases h' with ⟨g1, g2⟩ | ⟨g1, g2, _⟩
    · omega
    · exact absurd ⟨g1, g2⟩ h1
  · rcases h' with ⟨g1, g2⟩ | ⟨g1, g2, v, v1, v2, v3, v4⟩
    · exact absurd ⟨h1, h2⟩ g1
    · rw [ha h1 h2, ← v3] at u3
      have := nm_inj u1 v1 u2 v2 (by omega)
      omega
