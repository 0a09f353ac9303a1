/-! the reference counts the orders -/
theorem or_bit {x k : Int} (hx : 0 ≤ x ∧ x < 65536) (hk : 0 ≤ k ∧ k < 16) : iOr x (iShl 1 k) = ((x.toNat ||| 2 ^ k.toNat : Nat) : Int) ∧ x.toNat ||| 2 ^ k.toNat < 65536 := by
  have p : 2 ^ k.toNat < 2 ^ 16 := Nat.pow_lt_pow_right (by decide) (by omega)
  have e : iShl 1 k = ((2 ^ k.toNat : Nat) : Int) := iShl_1 ⟨by omega, by omega⟩
  have q : x.toNat ||| 2 ^ k.toNat < 2 ^ 16 := Nat.or_lt_two_pow (by show x.toNat < 65536; omega) p
  refine ⟨?_, q⟩
  rw [e]
  clear e q
  generalize 2 ^ k.toNat = z at p ⊢
  have p' : z < 65536 := p
  rw [iOr_nn ⟨hx.1, by omega⟩ ⟨by omega, by omega⟩]
  rfl
theorem or_0 {x : Int} (hx : 0 ≤ x ∧ x < 65536) : iOr x 0 = x := by
  rw [iOr_nn ⟨hx.1, by omega⟩ ⟨by decide, by decide⟩]
  show ((x.toNat ||| 0 : Nat) : Int) = x
  rw [Nat.or_zero]; omega
theorem may {x S : Int} (hx : 0 ≤ x ∧ x < 65536) (hS : 0 ≤ S ∧ S < 65536) : iAnd x (iXor S (-1)) = 0 ↔ ∀ j, x.toNat.testBit j = true → S.toNat.testBit j = true := by
  rw [iAndN_nn ⟨hx.1, by omega⟩ ⟨hS.1, by omega⟩]
  constructor
  · intro h j hj
    have h' : x.toNat &&& (x.toNat ^^^ (x.toNat &&& S.toNat)) = 0 := by omega
    have := congrArg (fun z => Nat.testBit z j) h'
    simp only [Nat.testBit_and, Nat.testBit_xor, hj, Nat.zero_testBit] at this
    cases q : S.toNat.testBit j
    · rw [q] at this; simp at this
    · rfl
  · intro h
    have : x.toNat &&& (x.toNat ^^^ (x.toNat &&& S.toNat)) = 0 := by
      refine Nat.eq_of_testBit_eq (fun j => ?_)
      simp only [Nat.testBit_and, Nat.testBit_xor, Nat.zero_testBit]
      cases q : x.toNat.testBit j
      · simp
      · rw [h j q]; simp
    omega
/-- block i by its place among the names -/
theorem nm_ex {D : DD} {i : Nat} (w : WF D) (hi : i < nBlk D) : ∃ u, In (D 99 1) u ∧ D 102 u = u ∧ cnt (bn D) u.toNat = i := by
  obtain ⟨r, r1, r2, r3⟩ := cnt_surj (p := bn D) (n := (D 99 1).toNat) hi
  exact ⟨r, ⟨r1.1, by have := r1.2; have := w.c; omega⟩, by unfold bn at r2; simpa using r2, r3⟩
theorem bn_t {D : DD} {u : Int} (h : D 102 u = u) : bn D u = true := by unfold bn; simp [h]
theorem nm_lt {D : DD} {u : Int} (w : WF D) (hu : In (D 99 1) u) (h : D 102 u = u) : cnt (bn D) u.toNat < nBlk D := by
  have := cnt_succ (p := bn D) hu.1
  rw [bn_t h] at this
  simp at this
  have t := cnt_mono (p := bn D) (n := (u + 1).toNat) (m := (D 99 1).toNat) (by have := hu.2; have := hu.1; omega)
  unfold nBlk
  omega
theorem nm_inj {D : DD} {u v : Int} (hu : In (D 99 1) u) (hv : In (D 99 1) v) (e : D 102 u = u) (f : D 102 v = v) (h : cnt (bn D) u.toNat = cnt (bn D) v.toNat) : u = v := cnt_inj hu.1 hv.1 (bn_t e) (bn_t f) h
theorem bfD_lt {D : DD} (w : WF D) {i j : Nat} (h : bfD D i j) : i < nBlk D ∧ j < nBlk D := by
  obtain ⟨a, b, a1, a2, a3, b1, b2, b3, _⟩ := h
  exact ⟨by rw [← a3]; exact nm_lt w a1 a2, by rw [← b3]; exact nm_lt w b1 b2⟩
theorem bfD_nm {D : DD} {u v : Int} (hu : In (D 99 1) u) (hv : In (D 99 1) v) (e : D 102 u = u) (f : D 102 v = v) : bfD D (cnt (bn D) u.toNat) (cnt (bn D) v.toNat) ↔ Rch (D 99 7) (dla D) (dea D) u v := by
  constructor
  · rintro ⟨a, b, a1, a2, a3, b1, b2, b3, r⟩
    have e1 := nm_inj a1 hu a2 e a3
    have e2 := nm_inj b1 hv b2 f b3
    rw [← e1, ← e2]; exact r
  · exact fun r => ⟨u, v, hu, e, rfl, hv, f, rfl, r⟩
/-- array a says, by bits, what must come before -/
def BA (a : Int → Int) (m : Nat) (bf : Nat → Nat → Prop) : Prop := ∀ i : Nat, i < m → (0 ≤ a i ∧ a i < 65536) ∧ ∀ j, (a i).toNat.testBit j = true ↔ bf i j
def bfP (D : DD) (y1 y2 : Nat) (i j : Nat) : Prop := bfD D i j ∧ (j < y1 ∨ j = y1 ∧ i < y2)
theorem BA.congr {a : Int → Int} {m : Nat} {bf bf' : Nat → Nat → Prop} (h : BA a m bf) (e : ∀ i j, i < m → (bf i j ↔ bf' i j)) : BA a m bf' := fun i hi => ⟨(h i hi).1, fun j => ((h i hi).2 j).trans (e i j hi)⟩
def rbL : List Nat := [123, 133]
theorem m_rb_27 {h0 : AH} {Q : Option AV → AH → Prop} {D : DD} {y1 : Nat} (w : WF D) (r0 : RM h0 D) (hm : nBlk D ≤ 16) (e50 : gi h0 99 50 = nBlk D) (hy1 : y1 < nBlk D)
    (cont : ∀ h', Fix h' → Fr rbL [] h0 h' → BA (gi h' 133) (nBlk D) (bfP D (y1 + 1) 0) → Ok 287 15 [some (vR (some 99)), some (vI ((y1 : Int) + 1)), none] [] h' Q) (k : Nat) :
    ∀ (h : AH) (y2 : Nat), nBlk D - y2 = k → y2 ≤ nBlk D → Fix h → Fr rbL [] h0 h → (∀ i : Nat, i < nBlk D → i ≠ y1 → In 100 (gi h 132 i) ∧ (gi h 123 (gi h 132 i) ≠ -5 ↔ bfD D i y1)) → BA (gi h 133) (nBlk D) (bfP D y1 y2) → Ok 287 27 [some (vR (some 99)), some (vI (y1 : Int)), some (vI (y2 : Int))] [] h Q := by
  obtain ⟨rk, hk, _⟩ := w.rk
  have irr : ¬ bfD D y1 y1 := fun z => by
    obtain ⟨a, b, a1, a2, a3, b1, b2, b3, r⟩ := z
    have := nm_inj a1 b1 a2 b2 (by rw [a3, b3])
    rw [this] at r
    exact Rch_irr hk r
  induction k using Nat.strongRecOn with
  | ind k ih =>
    intro h y2 hk1 h2 hF f hf ba
    have e50' : gi h 99 50 = nBlk D := by rw [f.1 99 50 (by decide) (by decide)]; exact e50
    refine f_X12_readBefore_27 hF _ _ ?_
    rw [e50']
    refine ⟨fun c => ⟨⟨by omega, by omega⟩, cont h hF f (ba.congr (fun i j hi => ?_))⟩, fun c => ⟨⟨by omega, by omega⟩, ?_⟩⟩
    · unfold bfP
      refine and_congr_right (fun _ => ?_)
      omega
    have nx : ∀ v : Nat, v < 65536 → (∀ j, v.testBit j = true ↔ bfP D y1 (y2 + 1) y2 j) → Ok 287 27 [some (vR (some 99)), some (vI (y1 : Int)), some (vI ((y2 : Int) + 1))] [] (si h 133 (y2 : Int) (v : Int)) Q := fun v hv hb => by
      have f' : Fr rbL [] h0 (si h 133 (y2 : Int) (v : Int)) := f.si (Or.inl (by decide))
      refine ih _ (by omega) _ (y2 + 1) rfl (by omega) hF f' ?_ (fun i hi => ?_)
      · intro i hi hne
        rw [gi_si_r (by decide), gi_si_r (by decide)]
        exact hf i hi hne
      · by_cases e : i = y2
        · subst e
          rw [gi_si_e]
          exact ⟨⟨by omega, by omega⟩, fun j => by rw [show ((v : Int)).toNat = v by omega]; exact hb j⟩
        · rw [gi_si_k (by omega)]
          refine ⟨(ba i hi).1, fun j => ((ba i hi).2 j).trans ?_⟩
          unfold bfP
          refine and_congr_right (fun _ => ?_)
          omega
    have b2 := ba y2 (by omega)
    have nx0 : ¬ bfD D y2 y1 → Ok 287 27 [some (vR (some 99)), some (vI (y1 : Int)), some (vI ((y2 : Int) + 1))] [] (si h 133 (y2 : Int) (iOr (gi h 133 (y2 : Int)) 0)) Q := fun hn => by
      rw [or_0 b2.1]
      have e : gi h 133 (y2 : Int) = ((gi h 133 (y2 : Int)).toNat : Int) := by have := b2.1; omega
      rw [e]
      refine nx _ (by have := b2.1; omega) (fun j => (b2.2 j).trans ?_)
      unfold bfP
      refine and_congr_right (fun hj => ?_)
      constructor
      · omega
      · rintro (z | z)
        · exact Or.inl z
        · rw [z.1] at hj; exact absurd hj hn
    refine ⟨fun c2 => ⟨⟨by omega, by omega⟩, nx0 (by rw [show y2 = y1 by omega]; exact irr)⟩, fun c2 => ?_⟩
    obtain ⟨g1, g2⟩ := hf y2 (by omega) (by omega)
    refine ⟨⟨by omega, by omega⟩, g1, fun c3 => ⟨⟨by omega, by omega⟩, nx0 (fun z => g2.mpr z c3)⟩, fun c3 => ⟨⟨by omega, by omega⟩, ?_⟩⟩
    obtain ⟨o1, o2⟩ := or_bit (k := (y1 : Int)) b2.1 ⟨by omega, by omega⟩
    rw [o1]
    refine nx _ o2 (fun j => ?_)
    rw [show ((y1 : Int)).toNat = y1 by omega, tb_o]
    have hy : bfD D y2 y1 := g2.mp c3
    unfold bfP
    by_cases e : y1 = j
    · subst e
      simp [hy]
    · have t := b2.2 j
      unfold bfP at t
      simp [e]
      rw [t]
      refine and_congr_right (fun _ => ?_)
      omega
theorem m_rb_15 {h0 : AH} {Q : Option AV → AH → Prop} {D : DD} (w : WF D) (r0 : RM h0 D) (hm : nBlk D ≤ 16) (e50 : gi h0 99 50 = nBlk D) (nms : Names D (gi h0 132))
    (cont : ∀ h', Fix h' → Fr rbL [] h0 h' → BA (gi h' 133) (nBlk D) (bfD D) → Q none h') (k : Nat) :
    ∀ (h : AH) (y1 : Nat), nBlk D - y1 = k → y1 ≤ nBlk D → Fix h → Fr rbL [] h0 h → BA (gi h 133) (nBlk D) (bfP D y1 0) → Ok 287 15 [some (vR (some 99)), some (vI (y1 : Int)), none] [] h Q := by
  obtain ⟨rk, hk, hk2⟩ := w.rk
  have wc := w.c
  induction k using Nat.strongRecOn with
  | ind k ih =>
    intro h y1 hk1 h1 hF f ba
    have e50' : gi h 99 50 = nBlk D := by rw [f.1 99 50 (by decide) (by decide)]; exact e50
    refine f_X12_readBefore_15 hF _ ?_
    rw [e50']
    refine ⟨fun c => cont h hF f (ba.congr (fun i j hi => ?_)), fun c => ⟨⟨by omega, by omega⟩, ?_⟩⟩
    · unfold bfP
      constructor
      · exact fun z => z.1
      · intro z
        have := (bfD_lt w z).2
        exact ⟨z, by omega⟩
    obtain ⟨u1, v1, v2, v3⟩ := nm_ex (i := y1) w (by omega)
    have e132 : gi h 132 = gi h0 132 := f.row (by decide) (by decide)
    have n1 : gi h 132 (y1 : Int) = u1 := by rw [e132, ← v3]; exact nms u1 v1 v2
    rw [n1]
    refine m_layers hk hk2 v1 hF ((r0.fr f (by decide) (by decide)).gv w) (fun h2 f2 far => ?_)
    have F2 := hF.fr f2
    have f02 : Fr rbL [] h0 h2 := f.trans (f2.mono (by decide) (by decide))
    refine ⟨rfl, F2, m_rb_27 w r0 hm e50 (by omega) (fun h3 F3 f3 b3 => ih _ (by omega) h3 (y1 + 1) rfl (by omega) F3 f3 b3) _ h2 0 rfl (by omega) F2 f02 (fun i hi hne => ?_) ?_⟩
    · obtain ⟨u, w1, w2, w3⟩ := nm_ex w hi
      have e2 : gi h2 132 (i : Int) = u := by rw [f02.row (by decide) (by decide), ← w3]; exact nms u w1 w2
      rw [e2]
      refine ⟨⟨w1.1, by have := w1.2; omega⟩, ?_⟩
      rw [Far_rch hk w.ea far u w1, ← w3, ← v3, bfD_nm w1 v1 w2 v2]
      constructor
      · rintro (z | z)
        · exact absurd (by rw [← w3, ← v3, z]) hne
        · exact z
      · exact Or.inr
    · rw [f2.row (by decide) (by decide)]; exact ba
theorem m_readBefore {h : AH} {Q : Option AV → AH → Prop} {D : DD} (hF : Fix h) (r : RM h D) (w : WF D) (hm : nBlk D ≤ 16) (e50 : gi h 99 50 = nBlk D) (nms : Names D (gi h 132))
    (cont : ∀ h', Fix h' → Fr rbL [] h h' → BA (gi h' 133) (nBlk D) (bfD D) → Q none h') : Ok 287 0 [some (vR (some 99)), none, none] [] h Q := by
  refine f_X12_readBefore_0 hF ?_
  have key : ∀ k (h1 : AH) (y : Nat), nBlk D - y = k → y ≤ nBlk D → Fr rbL [] h h1 → (∀ i : Nat, i < y → gi h1 133 i = 0) → Ok 287 2 [some (vR (some 99)), some (vI (y : Int)), none] [] h1 Q := by
    intro k
    induction k using Nat.strongRecOn with
    | ind k ih =>
      intro h1 y hk hy f hz
      have F1 := hF.fr f
      have e50' : gi h1 99 50 = nBlk D := by rw [f.1 99 50 (by decide) (by decide)]; exact e50
      refine f_X12_readBefore_2 F1 _ ?_
      rw [e50']
      refine ⟨fun c => ?_, fun c => ⟨⟨by omega, by omega⟩, ⟨by omega, by omega⟩, ?_⟩⟩
      · refine m_rb_15 (h0 := h) w r hm e50 nms cont _ h1 0 rfl (by omega) F1 f (fun i hi => ?_)
        rw [hz i (by omega)]
        refine ⟨by decide, fun j => ⟨fun z => by simp at z, fun z => ?_⟩⟩
        have := z.2
        omega
      · refine ih _ (by omega) _ (y + 1) rfl (by omega) (f.si (Or.inl (by decide))) (fun i hi => ?_)
        by_cases e : i = y
        · subst e; rw [gi_si_e]
        · rw [gi_si_k (by omega)]; exact hz i (by omega)
  exact key _ h 0 rfl (by omega) Fr.refl (fun i hi => by omega)
