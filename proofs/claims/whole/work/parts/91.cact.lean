/-! acts of the class: what they share -/
def CQ (h : AH) (n : Nat) (Ds : Nat → DD) (Z : DD) (c : Int) (A : Int → Int) (p : Int) (Q : Option AV → AH → Prop) : Prop := ∀ h' x, Fix h' → Rf h h' → CAct h' n Ds Z c A p x → Q (some (vI x)) h'
theorem CQ.sub {h h1 : AH} {n : Nat} {Ds : Nat → DD} {Z : DD} {c : Int} {A : Int → Int} {p : Int} {Q : Option AV → AH → Prop} (q : CQ h n Ds Z c A p Q) (r : Rf h h1) : CQ h1 n Ds Z c A p Q := fun h' x F' r' a' => q h' x F' (r.trans r') a'
theorem Rf.refl {h : AH} : Rf h h := fun _ _ _ => ⟨rfl, rfl⟩
theorem Rf.of {h h' : AH} {P : Nat → Prop} (k : ∀ o, P o → Kp o h h') (hp : ∀ o, 99 ≤ o → o ≤ 135 → P o) : Rf h h' := fun o p q => ⟨(k o (hp o p q)).1, (k o (hp o p q)).2.1⟩
theorem c_bad {h : AH} {Q : Option AV → AH → Prop} {n : Nat} {Ds : Nat → DD} {Z : DD} {c p : Int} {A : Int → Int} (hF : Fix h) (ci : CInv h n Ds Z c) (wz : WZ Z c) (hc : c ≤ 1000) (hp : p = 0) (cq : CQ h n Ds Z c A p Q) : Ok 130 0 [some (vR (some 1)), some (vI (-1))] [] h (Qx Q) :=
  c_no hF ci wz hc (by decide) (by decide) (Or.inl ⟨hp, rfl, rfl⟩) (fun h' F' r' a' => ⟨-1, rfl, F', cq h' (-1) F' r' a'⟩)
theorem c_full {h : AH} {Q : Option AV → AH → Prop} {n : Nat} {Ds : Nat → DD} {Z : DD} {c p : Int} {A : Int → Int} (hF : Fix h) (ci : CInv h n Ds Z c) (wz : WZ Z c) (hc : c ≤ 1000) (hp : p = 1) (hn : ¬ gi h 2 1 < 300) (cq : CQ h n Ds Z c A p Q) : Ok 130 0 [some (vR (some 1)), some (vI (-3))] [] h (Qx Q) := by
  have e := ci.ed.2.2
  exact c_no hF ci wz hc (by decide) (by decide) (Or.inr (Or.inl ⟨hp, by omega, rfl, rfl⟩)) (fun h' F' r' a' => ⟨-3, rfl, F', cq h' (-3) F' r' a'⟩)
theorem c_neg {h : AH} {Q : Option AV → AH → Prop} {n : Nat} {Ds : Nat → DD} {Z : DD} {c p x : Int} {A : Int → Int} (hF : Fix h) (ci : CInv h n Ds Z c) (wz : WZ Z c) (hc : c ≤ 1000) (hp : p = 1) (hn : gi h 2 1 < 300) (hx : -100 ≤ x ∧ x < 0) (h4 : x ≠ -4) (an : AnsA (Ds n) A x x) (cq : CQ h n Ds Z c A p Q) : Ok 130 0 [some (vR (some 1)), some (vI x)] [] h (Qx Q) := by
  have e := ci.ed.2.2
  exact c_no hF ci wz hc hx h4 (Or.inr (Or.inr ⟨hp, by omega, an, fun d => by have := d.2.2; omega⟩)) (fun h' F' r' a' => ⟨x, rfl, F', cq h' x F' r' a'⟩)
theorem c_did {h0 h : AH} {Q : Option AV → AH → Prop} {G : Nat → Prop} {n : Nat} {Ds : Nat → DD} {c : Int} {S : DD} {T : FD} {k e f x p : Int} {Z : DD} {A : Int → Int} (hF : Fix h) (m : CMid h0 G n Ds c S T k e f h) (ci : CInv h0 n Ds Z c) (hc : c ≤ 1000) (hk : k ≤ 40) (hn : n < 300) (hf : f = 0 ∨ f = 1) (rc : RC S T (StepA (Ds n) A)) (he : e = 1 ∧ A 0 ≤ 4 ∨ e = 0 ∧ 4 < A 0 ∧ Gsm (Ds n) (StepA (Ds n) A))
    (hp : p = 1) (an : AnsA (Ds n) A x x) (dn : DnA A x) (h15 : A 0 ≠ 15) (cq : CQ h0 n Ds Z c A p Q) : Ok 131 0 [some (vR (some 1)), some (vI x)] [] h (Qx Q) := by
  obtain ⟨ed1, ed2, e21, n300⟩ := ci.ed
  refine c_done (D' := StepA (Ds n) A) hF m ci.cz ci.ca ed1 ed2 hc hk hn hf rc (by rcases he with q | q; exact Or.inl q.1; exact Or.inr ⟨q.1, q.2.2⟩) (fun h' F' r' k' => ⟨_, rfl, F', cq h' _ F' r' (Or.inr ⟨x, hp, hn, an, dn, fun Z' z => ?_⟩)⟩)
  obtain ⟨a, b⟩ := z.d (e := e) dn.2.2 h15 (by rcases he with q | q; exact Or.inl q; exact Or.inr ⟨q.1, q.2.1⟩)
  exact k' Z' a b
/-! parts of RC that an act leaves -/
theorem RCu_c {S S' D D' : DD} (h : RCu S D) (s : ∀ o, o ≤ 20 → S' o = S o) (d1 : D' 99 1 = D 99 1) (d : ∀ o, 100 ≤ o → o ≤ 104 → D' o = D o) : RCu S' D' := by
  unfold RCu; rw [s 20 (by decide), s 10 (by decide), s 12 (by decide), s 14 (by decide), s 16 (by decide), s 18 (by decide), d1, d 100 (by decide) (by decide), d 101 (by decide) (by decide), d 102 (by decide) (by decide), d 103 (by decide) (by decide), d 104 (by decide) (by decide)]; exact h
theorem RCr_c {S S' D D' : DD} (h : RCr S D) (s : ∀ o, 40 ≤ o → o ≤ 46 → S' o = S o) (d1 : D' 99 7 = D 99 7) (d : ∀ o, 105 ≤ o → o ≤ 107 → D' o = D o) : RCr S' D' := by
  unfold RCr; rw [s 46 (by decide) (by decide), s 40 (by decide) (by decide), s 42 (by decide) (by decide), s 44 (by decide) (by decide), d1, d 105 (by decide) (by decide), d 106 (by decide) (by decide), d 107 (by decide) (by decide)]; exact h
theorem RCt_c {S S' D D' : DD} (h : RCt S D) (s : ∀ o, o = 64 ∨ o = 50 ∨ o = 52 ∨ o = 54 ∨ o = 56 → S' o = S o) (d1 : D' 99 11 = D 99 11) (d : ∀ o, 108 ≤ o → o ≤ 111 → D' o = D o) : RCt S' D' := by
  unfold RCt Plc; rw [s 64 (by decide), s 50 (by decide), s 52 (by decide), s 54 (by decide), s 56 (by decide), d1, d 108 (by decide) (by decide), d 109 (by decide) (by decide), d 110 (by decide) (by decide), d 111 (by decide) (by decide)]; exact h
theorem RCs_c {S S' D D' : DD} {T : FD} (h : RCs S T D) (s : ∀ o, o = 68 ∨ o = 58 ∨ o = 54 → S' o = S o) (d1 : D' 99 11 = D 99 11) (d : ∀ o, o = 109 ∨ 112 ≤ o ∧ o ≤ 117 → D' o = D o) : RCs S' T D' := by
  unfold RCs SlotR; rw [s 68 (by decide), s 58 (by decide), s 54 (by decide), d1, d 109 (by decide), d 112 (by decide), d 113 (by decide), d 114 (by decide), d 115 (by decide), d 116 (by decide), d 117 (by decide)]; exact h
theorem RCj_c {S S' D D' : DD} (h : RCj S D) (s : ∀ o, o = 66 ∨ o = 60 ∨ o = 62 → S' o = S o) (d1 : D' 99 22 = D 99 22) (d : ∀ o, o = 118 ∨ o = 119 → D' o = D o) : RCj S' D' := by
  unfold RCj; rw [s 66 (by decide), s 60 (by decide), s 62 (by decide), d1, d 118 (by decide), d 119 (by decide)]; exact h
/-! span -/
theorem c_areYears {h : AH} {Q : Option AV → AH → Prop} {a b : Int} (hF : Fix h) (cont : ∀ x, rp (-10000 ≤ a ∧ a ≤ b ∧ b ≤ 2100) x → Q (some (vI x)) h) : Ok 134 0 [some (vI a), some (vI b)] [] h Q :=
  f_X11_areYears_0 hF _ _ ⟨fun q => cont 0 (Or.inr ⟨rfl, by omega⟩), fun q => ⟨fun q2 => cont 0 (Or.inr ⟨rfl, by omega⟩), fun q2 => ⟨fun q3 => cont 0 (Or.inr ⟨rfl, by omega⟩), fun q3 => cont 1 (Or.inl ⟨rfl, by omega, by omega, by omega⟩)⟩⟩⟩
theorem RC_span {S D : DD} {T : FD} {u a b : Int} (r : RC S T D) : RC (up (up S 14 u a) 16 u b) T (sSpan D u a b) := by
  obtain ⟨⟨u1, u2⟩, r2, r3, r4, r5⟩ := r
  have eS : ∀ o, o ≠ 14 → o ≠ 16 → up (up S 14 u a) 16 u b o = S o := fun o h1 h2 => by rw [up_r h2, up_r h1]
  have eD : ∀ o, o ≠ 103 → o ≠ 104 → sSpan D u a b o = D o := fun o h1 h2 => by unfold sSpan; rw [up_r h2, up_r h1]
  have e9 : sSpan D u a b 99 = D 99 := eD 99 (by decide) (by decide)
  refine ⟨⟨by rw [eS 20 (by decide) (by decide), e9]; exact u1, fun v hv => ?_⟩, RCr_c r2 (fun o _ _ => eS o (by omega) (by omega)) (by rw [e9]) (fun o _ _ => eD o (by omega) (by omega)), RCt_c r3 (fun o _ => eS o (by omega) (by omega)) (by rw [e9]) (fun o _ _ => eD o (by omega) (by omega)), RCs_c r4 (fun o _ => eS o (by omega) (by omega)) (by rw [e9]) (fun o _ => eD o (by omega) (by omega)), RCj_c r5 (fun o _ => eS o (by omega) (by omega)) (by rw [e9]) (fun o _ => eD o (by omega) (by omega))⟩
  rw [e9] at hv
  obtain ⟨a1, a2, a3, a4, a5⟩ := u2 v hv
  rw [eS 10 (by decide) (by decide), eS 12 (by decide) (by decide), eS 18 (by decide) (by decide), eD 100 (by decide) (by decide), eD 101 (by decide) (by decide), eD 102 (by decide) (by decide)]
  refine ⟨a1, a2, ?_, ?_, a5⟩
  · unfold sSpan
    rw [up_o (p := 14) (o := 16) (by decide), up_o (p := 103) (o := 104) (by decide), up_f, up_f]
    unfold uq
    by_cases e : v = u
    · rw [if_pos e, if_pos e]
    · rw [if_neg e, if_neg e]; exact a3
  · unfold sSpan
    rw [up_f, up_f]
    unfold uq
    by_cases e : v = u
    · rw [if_pos e, if_pos e]
    · rw [if_neg e, if_neg e, up_o (p := 16) (o := 14) (by decide), up_o (p := 104) (o := 103) (by decide)]; exact a4
theorem c_span {h : AH} {Q : Option AV → AH → Prop} {n : Nat} {Ds : Nat → DD} {Z : DD} {c p u a b : Int} (hF : Fix h) (ci : CInv h n Ds Z c) (w : WF (Ds n)) (wz : WZ Z c) (hc : c ≤ 1000) (hp : rp ((0 ≤ u ∧ u < Ds n 99 1) ∧ -10000 ≤ a ∧ a ≤ b ∧ b ≤ 2100) p)
    (cq : CQ h n Ds Z c (aF 17 u a b 0 0 0) p Q) : Ok 176 0 [some (vR (some 1)), some (vI u), some (vI a), some (vI b)] [] h Q := by
  obtain ⟨hp1, hp0, hp01⟩ := rp_of hp
  obtain ⟨G, S, T, m, rc⟩ := ci.mid
  obtain ⟨ed1, ed2, e21, n300⟩ := ci.ed
  have tr := m.tr (Or.inl (by decide)) rc
  have wc := w.c
  refine f_X11_span_0 hF _ _ _ ?_
  rw [tr.n]
  refine ⟨fun q => c_bad hF ci wz hc (hp0.mpr (by omega)) cq, fun q => ⟨fun q2 => c_bad hF ci wz hc (hp0.mpr (by omega)) cq, fun q2 => c_areYears hF (fun y hy => ⟨y, rfl, hF, fun q3 => ⟨fun q4 => ?_, fun q4 => ?_⟩, fun q3 => ?_⟩)⟩⟩
  · have hv : p = 1 := hp1.mpr ⟨⟨by omega, by omega⟩, (rp_of hy).1.mp (by have := (rp_of hy).2.2; omega)⟩
    refine c_putM hF m (by omega) (N := 100) (by decide) (by decide) ⟨by omega, by omega⟩ (fun h1 F1 m1 _ => ⟨rfl, F1, c_putM F1 m1 (by omega) (N := 100) (by decide) (by decide) ⟨by omega, by omega⟩ (fun h2 F2 m2 _ => ⟨rfl, F2, ?_⟩)⟩)
    refine c_did F2 m2 ci hc (by omega) (by omega) (Or.inl rfl) ?_ (Or.inr ⟨rfl, by rw [aF0]; decide, ?_⟩) hv (by unfold AnsA; simp [aF0]) (by unfold DnA; simp [aF0]) (by rw [aF0]; decide) cq
    · exact RC_span rc
    · exact ⟨rfl, rfl, rfl, rfl, rfl⟩
  · have hv : p = 1 := hp1.mpr ⟨⟨by omega, by omega⟩, (rp_of hy).1.mp (by have := (rp_of hy).2.2; omega)⟩
    exact c_full hF ci wz hc hv q4 cq
  · refine c_bad hF ci wz hc (hp0.mpr (fun r => ?_)) cq
    have := (rp_of hy).1.mpr r.2
    omega
