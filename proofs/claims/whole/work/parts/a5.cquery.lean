/-! questions of the class that need nothing kept; undo -/
theorem zF_n {Z : DD} {x : Int} : Zn Z (zF Z x) x ∧ zF Z x 99 27 = Z 99 27 := by
  refine ⟨⟨fun k _ _ => zF_e, ?_, ?_, zF_o (by decide), ?_, zF_o (by decide), ?_, zF_o (by decide)⟩, ?_⟩ <;> rw [zF_o (by decide)]
def CQf (h : AH) (n : Nat) (Ds : Nat → DD) (Z : DD) (c : Int) (x : Int) (Q : Option AV → AH → Prop) : Prop := ∀ h', Fix h' → Rf h h' → CInv h' n Ds (zF Z x) c → Q (some (vI x)) h'
theorem CZ.zn {h : AH} {D Z Z' : DD} {x : Int} (z : CZ h D Z) (zn : Zn Z Z' x) (e27 : Z' 99 27 = Z 99 27) (hx : x < -16 ∨ -11 < x) : CZ h D Z' := by
  obtain ⟨d1, d2, d3, d4, d5, d6, d7, d8⟩ := zn
  obtain ⟨z1, z2, z3, z4, z5, z6, z7, z8, z9⟩ := z
  unfold CZ
  rw [e27, d2, d3, d4, d5, d6, d7, d8]
  refine ⟨fun k k1 k2 => ?_, z2, z3, z4, z5, z6, z7, z8, z9⟩
  rw [d1 k k1 k2, if_neg (by omega), z1 k k1 k2]; omega
theorem CInv.zn {h : AH} {n : Nat} {Ds : Nat → DD} {Z : DD} {c x : Int} (ci : CInv h n Ds Z c) (hx : x < -16 ∨ -11 < x) : CInv h n Ds (zF Z x) c :=
  ci.z (fun _ _ _ _ _ _ _ _ _ _ _ => Kp.refl) rfl rfl (ci.cz.zn zF_n.1 zF_n.2 hx)
theorem c_q {h : AH} {Q : Option AV → AH → Prop} {n : Nat} {Ds : Nat → DD} {Z : DD} {c x : Int} (hF : Fix h) (ci : CInv h n Ds Z c) (hx : x < -16 ∨ -11 < x) (cq : CQf h n Ds Z c x Q) : Q (some (vI x)) h := cq h hF Rf.refl (ci.zn hx)
theorem c_qc {h : AH} {Q : Option AV → AH → Prop} {n : Nat} {Ds : Nat → DD} {Z : DD} {c x : Int} (hF : Fix h) (ci : CInv h n Ds Z c) (wz : WZ Z c) (hc : c ≤ 1000) (hx : -1000 ≤ x ∧ x ≤ 1000) (cq : CQf h n Ds Z c x Q) : Ok 129 0 [some (vR (some 1)), some (vI x), none] [] h (Qx Q) :=
  c_countZ hF ci wz (by omega) hx (fun h' F' r' k' => ⟨x, rfl, F', cq h' F' r' (k' _ zF_n.1 zF_n.2)⟩)
theorem c_kind {h : AH} {Q : Option AV → AH → Prop} {n : Nat} {Ds : Nat → DD} {Z : DD} {c t s : Int} (hF : Fix h) (ci : CInv h n Ds Z c) (w : WF (Ds n)) (wz : WZ Z c) (hc : c ≤ 1000) (cq : CQf h n Ds Z c (oKind (Ds n) t s) Q) : Ok 161 0 [some (vR (some 1)), some (vI t), some (vI s), none, none] [] h Q := by
  obtain ⟨G, S, T, m, rc⟩ := ci.mid
  have tr := m.tr (Or.inl (by decide)) rc
  have sr := slotF_r (D := Ds n) (t := t) (s := s)
  unfold oKind at cq
  have bad : ¬ (0 ≤ t ∧ t < Ds n 99 11) → Q (some (vI (-1))) h := fun q => by rw [if_pos q] at cq; exact c_q hF ci (by omega) cq
  refine f_X11_kind_0 hF _ _ ?_
  rw [tr.T]
  refine ⟨fun q => bad (by omega), fun q => ⟨fun q2 => bad (by omega), fun q2 => ?_⟩⟩
  have ht : In (Ds n 99 11) t := ⟨by omega, by omega⟩
  rw [if_neg (fun q => q ⟨ht.1, ht.2⟩)] at cq
  refine c_look hF tr w ht ⟨_, rfl, hF, fun q3 => ?_, fun q3 => ?_⟩
  · have s0 : slotF (Ds n) t s = 0 := (lkF0 (by omega)).mp q3
    rw [if_neg (by omega)] at cq
    refine c_findAt hF tr w (fun o fa => ⟨o, rfl, hF, fun e => ?_, fun a e => ?_⟩)
    · subst e
      have : Ds n 112 (40 * t + s) = -5 := by
        rcases FA_none fa with f | f | f
        · exact absurd ht f
        · exact absurd s0 f
        · exact f
      rw [this] at cq
      exact c_q hF ci (by omega) cq
    · subst e
      obtain ⟨_, hs, _, f, g, g0, _⟩ := FO.knd fa
      have ws := (w.2.2.2.2.2.1 t s ht hs).1
      rw [g, g0]
      exact ⟨rfl, c_q hF ci (by omega) cq⟩
  · have s0 : slotF (Ds n) t s ≠ 0 := fun e => q3 (by rw [e]; rfl)
    rw [if_pos s0] at cq
    rw [lkF_n s0]
    exact c_qc hF ci wz hc (by omega) cq
theorem c_lookInto {h : AH} {Q : Option AV → AH → Prop} {G : Nat → Prop} {S : DD} {T : FD} {D : DD} {t s kd : Int} (hF : Fix h) (r : TR h G S T D) (w : WF D) (hk : kd ≠ -5) (bad : ¬ (0 ≤ t ∧ t < D 99 11) → Q (some (vI (-1))) h) (cont : In (D 99 11) t → Q (some (vI (lkF (heldF D t s kd)))) h) : Ok 166 0 [some (vR (some 1)), some (vI t), some (vI s), some (vI kd)] [] h Q := by
  refine f_X11_lookInto_0 hF _ _ _ ?_
  rw [r.T]
  refine ⟨fun q => bad (by omega), fun q => ⟨fun q2 => bad (by omega), fun q2 => ?_⟩⟩
  have ht : In (D 99 11) t := ⟨by omega, by omega⟩
  exact c_lookFor hF r w ht hk ⟨_, rfl, hF, cont ht⟩
/-- a number of a find: x its answer where the slot holds the kind -/
theorem c_numberOf {h : AH} {Q : Option AV → AH → Prop} {n : Nat} {Ds : Nat → DD} {Z : DD} {c t s kd i : Int} (hF : Fix h) (ci : CInv h n Ds Z c) (w : WF (Ds n)) (wz : WZ Z c) (hc : c ≤ 1000) (hk : 0 ≤ kd)
    (bad : ¬ (0 ≤ t ∧ t < Ds n 99 11) → CQf h n Ds Z c (-1) Q) (neg : In (Ds n 99 11) t → heldF (Ds n) t s kd ≠ 0 → CQf h n Ds Z c (-10 - heldF (Ds n) t s kd) Q)
    (bey : ∀ l : Int, In (Ds n 99 11) t → heldF (Ds n) t s kd = 0 → (kd = 0 → l = 8) → (kd = 3 → l = Ds n 114 (40 * t + s)) → (kd = 4 → l = 1) → (i < 0 ∨ l ≤ i) → CQf h n Ds Z c (-12) Q)
    (ok : ∀ x l : Int, In (Ds n 99 11) t → heldF (Ds n) t s kd = 0 → In l i → (kd = 0 → l = 8 ∧ x = Ds n 116 (8 * (40 * t + s) + i)) → (kd = 3 → l = Ds n 114 (40 * t + s) ∧ x = Ds n 117 (40 * (40 * t + s) + i)) → (kd = 4 → l = 1 ∧ x = Ds n 114 (40 * t + s)) → Q (some (vI x)) h) : Ok 165 0 [some (vR (some 1)), some (vI t), some (vI s), some (vI kd), some (vI i), none, none] [] h Q := by
  obtain ⟨G, S, T, m, rc⟩ := ci.mid
  have tr := m.tr (Or.inl (by decide)) rc
  have h1 := heldF_r (D := Ds n) (t := t) (s := s) (kd := kd)
  refine f_X11_numberOf_0 hF _ _ _ _ (c_lookInto hF tr w (by omega) (fun q => ⟨-1, rfl, hF, fun q2 => by omega, fun _ => c_qc hF ci wz hc (by decide) (bad q)⟩) (fun ht => ⟨_, rfl, hF, fun q => ?_, fun q => ?_⟩))
  · have m0 : heldF (Ds n) t s kd = 0 := (lkF0 h1.1).mp q
    refine c_findAt hF tr w (fun o fa => ⟨o, rfl, hF, fun e => ?_, fun a e => ?_⟩)
    · subst e
      exfalso
      rcases FA_none fa with f | f | f
      · exact f ht
      · rw [heldF_slot f] at m0; exact f m0
      · by_cases z : slotF (Ds n) t s = 0
        · rw [heldF_none z f] at m0; omega
        · rw [heldF_slot z] at m0; exact z m0
    · subst e
      obtain ⟨_, hs, s0, f5, g, g0, g1⟩ := FO.knd fa
      rcases fa with ⟨fa, _⟩ | ⟨o', fa, _, _, _, _, hid, fo, hl, sl⟩
      · cases fa
      cases fa
      have ek : Ds n 112 (40 * t + s) = kd := by
        by_cases z : Ds n 112 (40 * t + s) = kd
        · exact z
        · rw [heldF_cast s0 f5 (by omega)] at m0; omega
      obtain ⟨b, fb, gb, sb, nb⟩ := fo.2.2.2.2.1
      have z : (kd = 0 → T (S 58 (40 * t + s)) (-1) = 8 ∧ ∀ i, In 8 i → T (S 58 (40 * t + s)) i = Ds n 116 (8 * (40 * t + s) + i)) ∧ (kd = 3 → T (S 58 (40 * t + s)) (-1) = Ds n 114 (40 * t + s) ∧ ∀ i, In (Ds n 114 (40 * t + s)) i → T (S 58 (40 * t + s)) i = Ds n 117 (40 * (40 * t + s) + i)) ∧ (kd = 4 → T (S 58 (40 * t + s)) (-1) = 1 ∧ T (S 58 (40 * t + s)) 0 = Ds n 114 (40 * t + s)) := by
        rcases sl with sl | sl
        · omega
        · exact ⟨fun q => sl.2.2.2.2.2.1 (by omega), fun q => sl.2.2.2.2.2.2.2.1 (by omega), fun q => sl.2.2.2.2.2.2.2.2 (by omega)⟩
      have by' : (i < 0 ∨ T (S 58 (40 * t + s)) (-1) ≤ i) → Ok 129 0 [some (vR (some 1)), some (vI (-12)), none] [] h (Qx Q) := fun q => c_qc hF ci wz hc (by decide) (bey _ ht m0 (fun k => (z.1 k).1) (fun k => (z.2.1 k).1) (fun k => (z.2.2 k).1) q)
      refine ⟨fun q2 => by' (Or.inl q2), fun q2 => ⟨by rw [g], b, fb, ?_⟩⟩
      rw [sb]
      refine ⟨by show (0 : Nat) < 10; decide, fun q3 => ⟨by rw [g], b, fb, ?_⟩, fun q3 => by' (Or.inr (by have : ¬ i < T (S 58 (40 * t + s)) (-1) := q3; omega))⟩
      have hi : In (T (S 58 (40 * t + s)) (-1)) i := ⟨by omega, q3⟩
      rw [sb, nb i hi]
      refine ⟨⟨rfl, hi.1, hi.2⟩, ok _ _ ht m0 hi (fun k => ⟨(z.1 k).1, (z.1 k).2 i (by rw [← (z.1 k).1]; exact hi)⟩) (fun k => ⟨(z.2.1 k).1, (z.2.1 k).2 i (by rw [← (z.2.1 k).1]; exact hi)⟩) (fun k => ⟨(z.2.2 k).1, ?_⟩)⟩
      have i0 : i = 0 := by
        rw [(z.2.2 k).1] at hi
        have := hi.1; have := hi.2; omega
      rw [i0]; exact (z.2.2 k).2
  · have n0 : heldF (Ds n) t s kd ≠ 0 := fun e => q (by rw [e]; rfl)
    rw [lkF_n n0]
    exact c_qc hF ci wz hc (by omega) (neg ht n0)
theorem c_sherd {h : AH} {Q : Option AV → AH → Prop} {n : Nat} {Ds : Nat → DD} {Z : DD} {c t s ty : Int} (hF : Fix h) (ci : CInv h n Ds Z c) (w : WF (Ds n)) (wz : WZ Z c) (hc : c ≤ 1000) (cq : CQf h n Ds Z c (oSherd (Ds n) t s ty) Q) : Ok 162 0 [some (vR (some 1)), some (vI t), some (vI s), some (vI ty)] [] h Q := by
  unfold oSherd at cq
  refine f_X11_sherd_0 hF _ _ _ (c_numberOf (Q := Qx Q) hF ci w wz hc (by decide) (fun q h' F' r' i' => ?_) (fun ht q h' F' r' i' => ?_) (fun l ht q l8 _ _ hl h' F' r' i' => ?_) (fun x l ht q hi l8 _ _ => ?_))
  · rw [if_pos q] at cq; exact ⟨_, rfl, F', cq h' F' r' i'⟩
  · rw [if_neg (fun z => z ⟨ht.1, ht.2⟩), if_pos q] at cq; exact ⟨_, rfl, F', cq h' F' r' i'⟩
  · have := l8 rfl
    rw [if_neg (fun z => z ⟨ht.1, ht.2⟩), if_neg (by omega), if_pos (by omega)] at cq; exact ⟨_, rfl, F', cq h' F' r' i'⟩
  · obtain ⟨e1, e2⟩ := l8 rfl
    rw [e1] at hi
    have i0 := hi.1
    have i1 := hi.2
    rw [if_neg (fun z => z ⟨ht.1, ht.2⟩), if_neg (by omega), if_neg (by omega), ← e2] at cq
    have hs : In (Ds n 109 t) s := by
      by_cases z : slotF (Ds n) t s = 0
      · exact slotF0.mp z
      · rw [heldF_slot z] at q; exact absurd q z
    have := (w.2.2.2.2.2.1 t s ht hs).2.2.2.1 ty hi
    exact ⟨_, rfl, hF, c_q hF ci (by omega) cq⟩
theorem c_letter {h : AH} {Q : Option AV → AH → Prop} {n : Nat} {Ds : Nat → DD} {Z : DD} {c t s k : Int} (hF : Fix h) (ci : CInv h n Ds Z c) (w : WF (Ds n)) (wz : WZ Z c) (hc : c ≤ 1000) (cq : CQf h n Ds Z c (oLetter (Ds n) t s k) Q) : Ok 163 0 [some (vR (some 1)), some (vI t), some (vI s), some (vI k)] [] h Q := by
  unfold oLetter at cq
  refine f_X11_letter_0 hF _ _ _ (c_numberOf (Q := Qx Q) hF ci w wz hc (by decide) (fun q h' F' r' i' => ?_) (fun ht q h' F' r' i' => ?_) (fun l ht q _ l8 _ hl h' F' r' i' => ?_) (fun x l ht q hi _ l8 _ => ?_))
  · rw [if_pos q] at cq; exact ⟨_, rfl, F', cq h' F' r' i'⟩
  · rw [if_neg (fun z => z ⟨ht.1, ht.2⟩), if_pos q] at cq; exact ⟨_, rfl, F', cq h' F' r' i'⟩
  · have := l8 rfl
    rw [if_neg (fun z => z ⟨ht.1, ht.2⟩), if_neg (by omega), if_pos (by omega)] at cq; exact ⟨_, rfl, F', cq h' F' r' i'⟩
  · obtain ⟨e1, e2⟩ := l8 rfl
    rw [e1] at hi
    have i0 := hi.1
    have i1 := hi.2
    rw [if_neg (fun z => z ⟨ht.1, ht.2⟩), if_neg (by omega), if_neg (by omega), ← e2] at cq
    have hs : In (Ds n 109 t) s ∧ Ds n 112 (40 * t + s) = 3 := by
      by_cases z : slotF (Ds n) t s = 0
      · refine ⟨slotF0.mp z, ?_⟩
        by_cases f : Ds n 112 (40 * t + s) = -5
        · rw [heldF_none z f] at q; omega
        · by_cases g : Ds n 112 (40 * t + s) = 3
          · exact g
          · rw [heldF_cast z f (by omega)] at q; omega
      · rw [heldF_slot z] at q; exact absurd q z
    have := ((w.2.2.2.2.2.1 t s ht hs.1).2.2.2.2.2.2.1 hs.2).2 k hi
    exact ⟨_, rfl, hF, c_q hF ci (by omega) cq⟩
theorem c_bagged {h : AH} {Q : Option AV → AH → Prop} {n : Nat} {Ds : Nat → DD} {Z : DD} {c t s : Int} (hF : Fix h) (ci : CInv h n Ds Z c) (w : WF (Ds n)) (wz : WZ Z c) (hc : c ≤ 1000) (cq : CQf h n Ds Z c (oBagged (Ds n) t s) Q) : Ok 164 0 [some (vR (some 1)), some (vI t), some (vI s)] [] h Q := by
  unfold oBagged at cq
  refine f_X11_bagged_0 hF _ _ (c_numberOf (Q := Qx Q) hF ci w wz hc (by decide) (fun q h' F' r' i' => ?_) (fun ht q h' F' r' i' => ?_) (fun l ht q _ _ l8 hl h' F' r' i' => ?_) (fun x l ht q hi _ _ l8 => ?_))
  · rw [if_pos q] at cq; exact ⟨_, rfl, F', cq h' F' r' i'⟩
  · rw [if_neg (fun z => z ⟨ht.1, ht.2⟩), if_pos q] at cq; exact ⟨_, rfl, F', cq h' F' r' i'⟩
  · have := l8 rfl
    omega
  · obtain ⟨e1, e2⟩ := l8 rfl
    rw [if_neg (fun z => z ⟨ht.1, ht.2⟩), if_neg (by omega), ← e2] at cq
    have hs : In (Ds n 109 t) s ∧ Ds n 112 (40 * t + s) = 4 := by
      by_cases z : slotF (Ds n) t s = 0
      · refine ⟨slotF0.mp z, ?_⟩
        by_cases f : Ds n 112 (40 * t + s) = -5
        · rw [heldF_none z f] at q; omega
        · by_cases g : Ds n 112 (40 * t + s) = 4
          · exact g
          · rw [heldF_cast z f (by omega)] at q; omega
      · rw [heldF_slot z] at q; exact absurd q z
    have := ((w.2.2.2.2.2.1 t s ht hs.1).2.2.2.2.2.2.2 hs.2).1.1
    exact ⟨_, rfl, hF, c_q hF ci (by omega) cq⟩
/-- Z with what was asked -/
def zT (Z : DD) (v : Int) : DD := fun o k => if o = 99 ∧ k = 28 then v else Z o k
theorem CInv.tell {h : AH} {n : Nat} {Ds : Nat → DD} {Z : DD} {c v : Int} (ci : CInv h n Ds Z c) : CInv (si h 1 10 v) n Ds (zT Z v) c := by
  refine ci.z (fun o o1 _ _ _ _ _ _ _ _ _ => Kp.refl.si o1) rfl rfl ?_
  obtain ⟨z1, z2, z3, z4, z5, z6, z7, z8, z9⟩ := ci.cz
  have r : ∀ o, o ≠ 1 → gi (si h 1 10 v) o = gi h o := fun o o1 => gi_si_r o1
  unfold CZ
  rw [r 98 (by decide), r 69 (by decide), r 70 (by decide), r 94 (by decide), r 95 (by decide), r 86 (by decide), r 7 (by decide), r 90 (by decide), gi_si_e, gi_si_k (by decide)]
  exact ⟨z1, z2, rfl, z4, z5, z6, z7, z8, z9⟩
theorem c_tells {h : AH} {Q : Option AV → AH → Prop} {n : Nat} {Ds : Nat → DD} {Z : DD} {c t s kd b : Int} (hF : Fix h) (ci : CInv h n Ds Z c) (w : WF (Ds n)) (wz : WZ Z c) (hc : c ≤ 1000) (hk : kd = 1 ∨ kd = 2)
    (qn : oTell (Ds n) t s kd ≠ 1 → CQf h n Ds Z c (oTell (Ds n) t s kd) Q) (q1 : oTell (Ds n) t s kd = 1 → ∀ h', Fix h' → Rf h h' → CInv h' n Ds (zT Z (if b = 0 then Ds n 114 (40 * t + s) else Ds n 115 (40 * t + s))) c → Q (some (vI 1)) h') : Ok 169 0 [some (vR (some 1)), some (vI t), some (vI s), some (vI kd), some (vI b), none, none] [] h Q := by
  obtain ⟨G, S, T, m, rc⟩ := ci.mid
  have tr := m.tr (Or.inl (by decide)) rc
  have h1 := heldF_r (D := Ds n) (t := t) (s := s) (kd := kd)
  unfold oTell at qn q1
  refine f_X11_tellNumberOf_0 hF _ _ _ _ (c_lookInto hF tr w (by omega) (fun q => ⟨-1, rfl, hF, c_findAt hF tr w (fun o fa => ⟨o, rfl, hF, fun _ => ?_, fun q2 => absurd (by decide) q2⟩)⟩) (fun ht => ⟨_, rfl, hF, c_findAt hF tr w (fun o fa => ⟨o, rfl, hF, fun q => ?_, fun q => ⟨fun e => ?_, fun a e => ?_⟩⟩)⟩))
  · rw [if_pos q] at qn; exact c_qc hF ci wz hc (by decide) (qn (by decide))
  · have n0 : heldF (Ds n) t s kd ≠ 0 := fun e => q (by rw [e]; rfl)
    rw [lkF_n n0]
    rw [if_neg (fun z => z ⟨ht.1, ht.2⟩), if_pos n0] at qn
    exact c_qc hF ci wz hc (by omega) (qn (by omega))
  · have m0 : heldF (Ds n) t s kd = 0 := (lkF0 h1.1).mp (Decidable.not_not.mp q)
    subst e
    exfalso
    rcases FA_none fa with f | f | f
    · exact f ht
    · rw [heldF_slot f] at m0; exact f m0
    · by_cases z : slotF (Ds n) t s = 0
      · rw [heldF_none z f] at m0; omega
      · rw [heldF_slot z] at m0; exact z m0
  · have m0 : heldF (Ds n) t s kd = 0 := (lkF0 h1.1).mp (Decidable.not_not.mp q)
    subst e
    obtain ⟨_, hs, s0, f5, g, g0, g1⟩ := FO.knd fa
    rcases fa with ⟨fa, _⟩ | ⟨o', fa, _, _, _, _, hid, fo, hl, sl⟩
    · cases fa
    cases fa
    have ek : Ds n 112 (40 * t + s) = kd := by
      by_cases z : Ds n 112 (40 * t + s) = kd
      · exact z
      · rw [heldF_cast s0 f5 (by omega)] at m0; omega
    obtain ⟨z1, z2, z3⟩ : T (S 58 (40 * t + s)) (-1) = 2 ∧ T (S 58 (40 * t + s)) 0 = Ds n 114 (40 * t + s) ∧ T (S 58 (40 * t + s)) 1 = Ds n 115 (40 * t + s) := by
      rcases sl with sl | sl
      · omega
      · exact sl.2.2.2.2.2.2.1 (by omega)
    rw [if_neg (fun z => z ⟨ht.1, ht.2⟩), if_neg (by omega)] at q1
    refine ⟨fun b0 => ⟨by rw [g], c_numberAt hF fo (by rw [z1]; exact ⟨by decide, by decide⟩) ⟨_, rfl, hF, ?_⟩⟩, fun b0 => ⟨by rw [g], c_numberAt hF fo (by rw [z1]; exact ⟨by decide, by decide⟩) ⟨_, rfl, hF, ?_⟩⟩⟩
    · rw [if_pos b0] at q1
      rw [z2]
      exact q1 rfl _ hF (Rf.refl.si (by omega)) ci.tell
    · rw [if_neg b0] at q1
      rw [z3]
      exact q1 rfl _ hF (Rf.refl.si (by omega)) ci.tell
theorem c_asked {h : AH} {Q : Option AV → AH → Prop} {n : Nat} {Ds : Nat → DD} {Z : DD} {c : Int} (hF : Fix h) (ci : CInv h n Ds Z c) (cont : Q (some (vI (Z 99 28))) h) : Ok 137 0 [some (vR (some 1))] [] h Q := f_X11_asked_0 hF (by rw [ci.cz.2.2.1]; exact cont)
theorem c_status {h : AH} {Q : Option AV → AH → Prop} {n : Nat} {Ds : Nat → DD} {Z : DD} {c : Int} (hF : Fix h) (ci : CInv h n Ds Z c) (cont : Q (some (vI (Z 99 27))) h) : Ok 186 0 [some (vR (some 1))] [] h Q := f_X11_status_0 hF (by rw [ci.cz.2.1]; exact cont)
theorem c_trace {h : AH} {Q : Option AV → AH → Prop} {n : Nat} {Ds : Nat → DD} {Z : DD} {c i : Int} (hF : Fix h) (ci : CInv h n Ds Z c) (wz : WZ Z c) (cont : Q (some (vI (oTrace Z i))) h) : Ok 138 0 [some (vR (some 1)), some (vI i)] [] h Q := by
  obtain ⟨z1, z2, z3, z4, z5, z6, z7, z8, z9⟩ := ci.cz
  have := wz.2.1
  unfold oTrace at cont
  refine f_X11_trace_0 hF _ ?_
  rw [z4]
  refine ⟨fun q => by rw [if_neg (by omega)] at cont; exact cont, fun q => ⟨fun q2 => by rw [if_neg (by omega)] at cont; exact cont, fun q2 => ⟨⟨by omega, by omega⟩, ?_⟩⟩⟩
  rw [if_pos (by omega)] at cont
  rw [z5 i ⟨by omega, by omega⟩]; exact cont
theorem c_ring {h : AH} {Q : Option AV → AH → Prop} {n : Nat} {Ds : Nat → DD} {Z : DD} {c i : Int} (hF : Fix h) (ci : CInv h n Ds Z c) (wz : WZ Z c) (cont : Q (some (vI (oRing Z i))) h) : Ok 145 0 [some (vR (some 1)), some (vI i)] [] h Q := by
  obtain ⟨z1, z2, z3, z4, z5, z6, z7, z8, z9⟩ := ci.cz
  have := wz.2.2.1
  unfold oRing at cont
  refine f_X11_ring_0 hF _ ?_
  rw [z6]
  refine ⟨fun q => by rw [if_neg (by omega)] at cont; exact cont, fun q => ⟨fun q2 => by rw [if_neg (by omega)] at cont; exact cont, fun q2 => ⟨⟨by omega, by omega⟩, ?_⟩⟩⟩
  rw [if_pos (by omega)] at cont
  rw [z7 i ⟨by omega, by omega⟩]; exact cont
