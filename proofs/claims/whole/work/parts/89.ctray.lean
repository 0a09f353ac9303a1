/-! the class looks into trays -/
def TR (h : AH) (G : Nat → Prop) (S : DD) (T : FD) (D : DD) : Prop := (∀ o n k, Cl o n → In n k → gi h o k = S o k) ∧ RC S T D ∧ FTo h G T (S 68 0) ∧ S 68 0 ≤ 300
theorem CMid.tr {h0 h : AH} {G : Nat → Prop} {n : Nat} {Ds : Nat → DD} {c : Int} {S : DD} {T : FD} {k e f : Int} (m : CMid h0 G n Ds c S T k e f h) (hf : f ≤ 0 ∨ n < 300 ∧ f ≤ 1) {D : DD} (rc : RC S T D) : TR h G S T D := by
  obtain ⟨Ss, E, L, w, cc, m1, m2, m3, m4, m5, m6, m7, _⟩ := m
  have := m4.bd n (Nat.le_refl _)
  have := m4.1
  exact ⟨m1.2.1, rc, m6, by omega⟩
theorem TR.T {h : AH} {G : Nat → Prop} {S : DD} {T : FD} {D : DD} (t : TR h G S T D) : gi h 64 0 = D 99 11 := by rw [t.1 64 1 0 (by decide) in10]; exact t.2.1.2.2.1.1
theorem TR.n {h : AH} {G : Nat → Prop} {S : DD} {T : FD} {D : DD} (t : TR h G S T D) : gi h 20 0 = D 99 1 := by rw [t.1 20 1 0 (by decide) in10]; exact t.2.1.1.1
theorem TR.ts {h : AH} {G : Nat → Prop} {S : DD} {T : FD} {D : DD} (r : TR h G S T D) (w : WF D) {t : Int} (ht : In (D 99 11) t) : (gi h 54 t = 1 ∧ D 109 t = -1 ∨ gi h 54 t = 0 ∧ 0 ≤ D 109 t ∧ gi h 52 t = D 109 t) ∧ D 109 t ≤ 40 ∧ t < 60 := by
  have wc := w.c
  have h1 := ht.1
  have h2 := ht.2
  have q := (r.2.1.2.2.1.2.1 t ht).2.1
  have v := (w.2.2.2.1 t ht).2.1
  rw [r.1 54 60 t (by decide) ⟨by omega, by omega⟩, r.1 52 60 t (by decide) ⟨by omega, by omega⟩]
  refine ⟨?_, v.2, by omega⟩
  rcases q with q | q
  · exact Or.inl q
  · exact Or.inr ⟨q.1, by omega, q.2.2⟩
/-- an answer of the class for a fault of the reference -/
def lkF (f : Int) : Int := if f = 0 then 0 else -10 - f
theorem c_look {h : AH} {Q : Option AV → AH → Prop} {G : Nat → Prop} {S : DD} {T : FD} {D : DD} {t s : Int} (hF : Fix h) (r : TR h G S T D) (w : WF D) (ht : In (D 99 11) t) (cont : Q (some (vI (lkF (slotF D t s)))) h) : Ok 66 0 [some (vR (some 47)), some (vI t), some (vI s)] [] h Q := by
  obtain ⟨a, b, c⟩ := r.ts w ht
  have h1 := ht.1
  unfold lkF slotF at cont
  refine f_X7_look_0 hF _ _ ⟨⟨by omega, by omega⟩, fun q => ⟨fun q2 => ?_, fun q2 => ⟨fun q3 => ?_, fun q3 => ?_⟩⟩, fun q => ?_⟩
  · rw [if_neg (show ¬ D 109 t < 0 by omega), if_neg (show ¬ (0 ≤ s ∧ s < D 109 t) by omega)] at cont; exact cont
  · rw [if_neg (show ¬ D 109 t < 0 by omega), if_pos (show (0 ≤ s ∧ s < D 109 t) by omega)] at cont; exact cont
  · rw [if_neg (show ¬ D 109 t < 0 by omega), if_neg (show ¬ (0 ≤ s ∧ s < D 109 t) by omega)] at cont; exact cont
  · rw [if_pos (show D 109 t < 0 by omega)] at cont; exact cont
/-- what findAt answers -/
def FA (h : AH) (G : Nat → Prop) (S : DD) (T : FD) (D : DD) (t s : Int) (q : Option Nat) : Prop :=
  (q = none ∧ (¬ In (D 99 11) t ∨ slotF D t s ≠ 0 ∨ D 112 (40 * t + s) = -5)) ∨ (∃ o, q = some o ∧ In (D 99 11) t ∧ In (D 109 t) s ∧ slotF D t s = 0 ∧ D 112 (40 * t + s) ≠ -5 ∧ In (S 68 0) (S 58 (40 * t + s)) ∧ FO h G o (T (S 58 (40 * t + s))) ∧ (0 ≤ T (S 58 (40 * t + s)) (-1) ∧ T (S 58 (40 * t + s)) (-1) ≤ 40) ∧ SlotR T (S 68 0) (S 58 (40 * t + s)) D (40 * t + s))
theorem slotF0 {D : DD} {t s : Int} : slotF D t s = 0 ↔ In (D 109 t) s := by
  unfold slotF In
  by_cases h1 : D 109 t < 0
  · rw [if_pos h1]; omega
  · rw [if_neg h1]
    by_cases h2 : 0 ≤ s ∧ s < D 109 t
    · rw [if_pos h2]; exact ⟨fun _ => h2, fun _ => rfl⟩
    · rw [if_neg h2]; exact ⟨fun q => absurd q (by decide), fun q => absurd q h2⟩
theorem c_findAt {h : AH} {Q : Option AV → AH → Prop} {G : Nat → Prop} {S : DD} {T : FD} {D : DD} {t s : Int} (hF : Fix h) (r : TR h G S T D) (w : WF D) (cont : ∀ q, FA h G S T D t s q → Q (some (vR q)) h) : Ok 70 0 [some (vR (some 47)), some (vI t), some (vI s), none] [] h Q := by
  have wc := w.c
  have no : (¬ In (D 99 11) t ∨ slotF D t s ≠ 0 ∨ D 112 (40 * t + s) = -5) → Q (some (vR none)) h := fun q => cont none (Or.inl ⟨rfl, q⟩)
  refine f_X7_findAt_0 hF _ _ ?_
  rw [r.T]
  refine ⟨fun q => no (Or.inl (fun i => by have := i.1; omega)), fun q => ⟨fun q2 => no (Or.inl (fun i => by have := i.2; omega)), fun q2 => ?_⟩⟩
  have ht : In (D 99 11) t := ⟨by omega, by omega⟩
  obtain ⟨a, b, c⟩ := r.ts w ht
  refine ⟨fun q3 => no (Or.inr (Or.inl (fun e => by have := (slotF0.mp e).1; omega))), fun q3 => ⟨⟨by omega, by omega⟩, fun q4 => ⟨fun q5 => ?_, fun q5 => no (Or.inr (Or.inl (fun e => by have := (slotF0.mp e).2; omega)))⟩, fun q4 => no (Or.inr (Or.inl (fun e => by have := (slotF0.mp e).2; omega)))⟩⟩
  have hs : In (D 109 t) s := ⟨by omega, by omega⟩
  have ek : t * 40 + s = 40 * t + s := by omega
  have sr := r.2.1.2.2.2.1.2.1 t s ht hs
  have e58 : gi h 58 (40 * t + s) = S 58 (40 * t + s) := r.1 58 2400 _ (by decide) ⟨by omega, by omega⟩
  have r300 := r.2.2.2
  rw [ek, e58]
  refine ⟨⟨by omega, by omega⟩, ⟨by omega, by omega⟩, ⟨by omega, by omega⟩, fun q6 => ?_, fun q6 => ⟨fun q7 => ⟨⟨by omega, by omega⟩, fun q hq => ?_⟩, fun q7 => ?_⟩⟩
  · rcases sr with sr | sr
    · exact no (Or.inr (Or.inr sr.1))
    · omega
  · rcases sr with sr | sr
    · omega
    · have hid : In (S 68 0) (S 58 (40 * t + s)) := ⟨by omega, sr.2.1⟩
      obtain ⟨f1, f2, o, f3, f4⟩ := r.2.2.1 _ hid
      refine cont q (Or.inr ⟨o, by rw [← hq]; exact f3, ht, hs, slotF0.mpr hs, by have := sr.2.2.1; omega, hid, f4, ⟨f1, f2⟩, Or.inr sr⟩)
  · rcases sr with sr | sr
    · omega
    · omega
theorem heldF_none {D : DD} {t s kd : Int} (h0 : slotF D t s = 0) (h : D 112 (40 * t + s) = -5) : heldF D t s kd = 1 := by unfold heldF; rw [if_neg (by rw [h0]; decide), if_pos h]
theorem heldF_slot {D : DD} {t s kd : Int} (h0 : slotF D t s ≠ 0) : heldF D t s kd = slotF D t s := by unfold heldF; rw [if_pos h0]
theorem heldF_ok {D : DD} {t s kd : Int} (h0 : slotF D t s = 0) (h : D 112 (40 * t + s) ≠ -5) (hk : kd = -5 ∨ D 112 (40 * t + s) = kd) : heldF D t s kd = 0 := by unfold heldF; rw [if_neg (by rw [h0]; decide), if_neg h, if_pos hk]
theorem heldF_cast {D : DD} {t s kd : Int} (h0 : slotF D t s = 0) (h : D 112 (40 * t + s) ≠ -5) (hk : ¬ (kd = -5 ∨ D 112 (40 * t + s) = kd)) : heldF D t s kd = 3 := by unfold heldF; rw [if_neg (by rw [h0]; decide), if_neg h, if_neg hk]
theorem slotF_r {D : DD} {t s : Int} : slotF D t s = 0 ∨ slotF D t s = 1 ∨ slotF D t s = 2 := by
  unfold slotF; split
  · exact Or.inr (Or.inl rfl)
  · split
    · exact Or.inl rfl
    · exact Or.inr (Or.inr rfl)
theorem lkF0 {f : Int} (h : 0 ≤ f) : lkF f = 0 ↔ f = 0 := by
  unfold lkF; split
  · simp [*]
  · constructor <;> intro q <;> omega
theorem lkF_n {f : Int} (h : f ≠ 0) : lkF f = -10 - f := if_neg h
theorem FO.knd {h : AH} {G : Nat → Prop} {S : DD} {T : FD} {D : DD} {t s : Int} {o : Nat} (f : FA h G S T D t s (some o)) : In (D 99 11) t ∧ In (D 109 t) s ∧ slotF D t s = 0 ∧ D 112 (40 * t + s) ≠ -5 ∧ sh h o = (13, 6) ∧ gi h o 0 = D 112 (40 * t + s) ∧ gi h o 1 = D 113 (40 * t + s) := by
  rcases f with ⟨f, _⟩ | ⟨o', f, f1, f2, f3, f4, f5, f6, f7, f8⟩
  · cases f
  · cases f
    rcases f8 with g | g
    · exact absurd g.1 f4
    · exact ⟨f1, f2, f3, f4, f6.2.1, by rw [f6.2.2.1]; exact g.2.2.2.1, by rw [f6.2.2.2.1]; exact g.2.2.2.2.1⟩
theorem FA_none {h : AH} {G : Nat → Prop} {S : DD} {T : FD} {D : DD} {t s : Int} (f : FA h G S T D t s none) : ¬ In (D 99 11) t ∨ slotF D t s ≠ 0 ∨ D 112 (40 * t + s) = -5 := by
  rcases f with ⟨_, f⟩ | ⟨o', f, _⟩
  · exact f
  · cases f
theorem c_lookForSome {h : AH} {Q : Option AV → AH → Prop} {G : Nat → Prop} {S : DD} {T : FD} {D : DD} {t s : Int} (hF : Fix h) (r : TR h G S T D) (w : WF D) (ht : In (D 99 11) t) (cont : Q (some (vI (lkF (heldF D t s (-5))))) h) : Ok 67 0 [some (vR (some 47)), some (vI t), some (vI s), none] [] h Q := by
  refine f_X7_lookForSome_0 hF _ _ (c_look hF r w ht ⟨_, rfl, hF, fun q => ?_, fun q => ?_⟩)
  · have s0 : slotF D t s = 0 := (lkF0 (by rcases slotF_r (D := D) (t := t) (s := s) with h | h | h <;> omega)).mp q
    refine c_findAt hF r w (fun o fa => ⟨o, rfl, hF, fun e => ?_, fun a e => ?_⟩)
    · subst e
      have : D 112 (40 * t + s) = -5 := by
        rcases FA_none fa with f | f | f
        · exact absurd ht f
        · exact absurd s0 f
        · exact f
      rw [heldF_none s0 this] at cont
      exact cont
    · subst e
      obtain ⟨_, _, _, f, _⟩ := FO.knd fa
      rw [heldF_ok s0 f (Or.inl rfl)] at cont
      exact cont
  · have s0 : slotF D t s ≠ 0 := fun e => q ((lkF0 (by omega)).mpr e)
    rw [heldF_slot s0] at cont
    exact cont
theorem c_lookFor {h : AH} {Q : Option AV → AH → Prop} {G : Nat → Prop} {S : DD} {T : FD} {D : DD} {t s kd : Int} (hF : Fix h) (r : TR h G S T D) (w : WF D) (ht : In (D 99 11) t) (hk : kd ≠ -5) (cont : Q (some (vI (lkF (heldF D t s kd)))) h) : Ok 68 0 [some (vR (some 47)), some (vI t), some (vI s), some (vI kd), none, none] [] h Q := by
  refine f_X7_lookFor_0 hF _ _ _ (c_look hF r w ht ⟨_, rfl, hF, fun q => ?_, fun q => ?_⟩)
  · have s0 : slotF D t s = 0 := (lkF0 (by rcases slotF_r (D := D) (t := t) (s := s) with h | h | h <;> omega)).mp q
    refine c_findAt hF r w (fun o fa => ⟨o, rfl, hF, fun e => ?_, fun a e => ?_⟩)
    · subst e
      have : D 112 (40 * t + s) = -5 := by
        rcases FA_none fa with f | f | f
        · exact absurd ht f
        · exact absurd s0 f
        · exact f
      rw [heldF_none s0 this] at cont
      exact cont
    · subst e
      obtain ⟨_, _, _, f, g, g0, _⟩ := FO.knd fa
      rw [g0]
      refine ⟨by rw [g], fun q2 => ?_, fun q2 => ?_⟩
      · rw [heldF_cast s0 f (by omega)] at cont
        exact cont
      · rw [heldF_ok s0 f (Or.inr (Decidable.not_not.mp q2))] at cont
        exact cont
  · have s0 : slotF D t s ≠ 0 := fun e => q ((lkF0 (by omega)).mpr e)
    rw [heldF_slot s0] at cont
    exact cont
def morF (D : DD) (t s kd : Int) : Int := if slotF D t s ≠ 0 then -10 - slotF D t s else if D 112 (40 * t + s) ≠ -5 ∧ D 112 (40 * t + s) ≠ kd then -13 else 0
theorem c_lookForMore {h : AH} {Q : Option AV → AH → Prop} {G : Nat → Prop} {S : DD} {T : FD} {D : DD} {t s kd : Int} (hF : Fix h) (r : TR h G S T D) (w : WF D) (ht : In (D 99 11) t) (cont : Q (some (vI (morF D t s kd))) h) : Ok 69 0 [some (vR (some 47)), some (vI t), some (vI s), some (vI kd), none, none] [] h Q := by
  unfold morF at cont
  refine f_X7_lookForMore_0 hF _ _ _ (c_look hF r w ht ⟨_, rfl, hF, fun q => ?_, fun q => ?_⟩)
  · have s0 : slotF D t s = 0 := (lkF0 (by rcases slotF_r (D := D) (t := t) (s := s) with h | h | h <;> omega)).mp q
    rw [if_neg (by rw [s0]; decide)] at cont
    refine c_findAt hF r w (fun o fa => ⟨o, rfl, hF, fun e => ?_, fun a e => ?_⟩)
    · subst e
      have : D 112 (40 * t + s) = -5 := by
        rcases FA_none fa with f | f | f
        · exact absurd ht f
        · exact absurd s0 f
        · exact f
      rw [if_neg (fun q => q.1 this)] at cont
      exact cont
    · subst e
      obtain ⟨_, _, _, f, g, g0, _⟩ := FO.knd fa
      rw [g0]
      refine ⟨by rw [g], fun q2 => ?_, fun q2 => ?_⟩
      · rw [if_pos ⟨f, q2⟩] at cont
        exact cont
      · rw [if_neg (fun q => q2 q.2)] at cont
        exact cont
  · have s0 : slotF D t s ≠ 0 := fun e => q ((lkF0 (by omega)).mpr e)
    rw [if_pos s0] at cont
    rw [lkF_n s0]
    exact cont
