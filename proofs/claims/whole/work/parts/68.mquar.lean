/-! THE QUARREL: a block a, and a block b that leads to it by d steps, with the last year b can end before the first that a can begin -/
def Qd (D B : DD) (a b d : Int) : Prop := In (D 99 1) a ∧ In (D 99 1) b ∧ D 102 a = a ∧ D 102 b = b ∧ d ≠ -5 ∧ (∃ f, Far (D 99 1) (D 99 7) (dla D) (dea D) a f ∧ f b = d) ∧ ∃ x y, Best D B 0 a x ∧ Best D B 1 b y ∧ B 129 (100 + y) < B 129 x
theorem Qd_d {D B : DD} (w : WF D) {a b d d' : Int} (h : Qd D B a b d) (h' : Qd D B a b d') : d = d' := by
  obtain ⟨h1, h2, _, _, _, ⟨f, h6, h7⟩, _⟩ := h
  obtain ⟨_, _, _, _, _, ⟨f', g6, g7⟩, _⟩ := h'
  obtain ⟨rk, hk⟩ := w.2.2.1.2
  have he : ∀ r, In (D 99 7) r → In (D 99 1) (dea D r) := fun r hr => by
    have q2 := (w.2.2.1.1 r hr).2.1
    have u2 := (w.2.1 _ q2).2.2.1
    exact ⟨u2.1, by have := q2.2; show D 102 (D 107 r) < _; omega⟩
  rw [← h7, ← g7]
  exact Far_uniq hk he h6 g6 b h2
/-- pair a b comes before pair p q -/
def Bef (a b p q : Int) : Prop := a < p ∨ a = p ∧ b < q
/-- y2 y3 at y1 is the least of the quarrels before p q -/
def Qst (D B : DD) (p q y1 y2 y3 : Int) : Prop := (y1 = -5 ∧ ∀ a b d, Bef a b p q → ¬ Qd D B a b d) ∨ (Qd D B y2 y3 y1 ∧ Bef y2 y3 p q ∧ ∀ a b d, Bef a b p q → Qd D B a b d → y1 ≤ d ∧ (d = y1 → y2 < a ∨ y2 = a ∧ y3 ≤ b))
theorem Bef_s {a b p q : Int} (h : Bef a b p (q + 1)) : Bef a b p q ∨ a = p ∧ b = q := by unfold Bef at h ⊢; omega
theorem Bef_m {a b p q : Int} (h : Bef a b p q) : Bef a b p (q + 1) := by unfold Bef at h ⊢; omega
theorem Qst_skip {D B : DD} {p q y1 y2 y3 : Int} (h : Qst D B p q y1 y2 y3) (hn : ∀ d, ¬ Qd D B p q d) : Qst D B p (q + 1) y1 y2 y3 := by
  rcases h with ⟨h1, h2⟩ | ⟨h1, h2, h3⟩
  · refine Or.inl ⟨h1, fun a b d hb hq => ?_⟩
    rcases Bef_s hb with e | ⟨rfl, rfl⟩
    · exact h2 a b d e hq
    · exact hn d hq
  · refine Or.inr ⟨h1, Bef_m h2, fun a b d hb hq => ?_⟩
    rcases Bef_s hb with e | ⟨rfl, rfl⟩
    · exact h3 a b d e hq
    · exact absurd hq (hn d)
theorem Qst_keep {D B : DD} (w : WF D) {p q y1 y2 y3 d : Int} (h : Qst D B p q y1 y2 y3) (hq : Qd D B p q d) (h5 : y1 ≠ -5) (hle : y1 ≤ d) : Qst D B p (q + 1) y1 y2 y3 := by
  rcases h with ⟨h1, h2⟩ | ⟨h1, h2, h3⟩
  · exact absurd h1 h5
  · refine Or.inr ⟨h1, Bef_m h2, fun a b d' hb hq' => ?_⟩
    rcases Bef_s hb with e | ⟨rfl, rfl⟩
    · exact h3 a b d' e hq'
    · have := Qd_d w hq hq'
      unfold Bef at h2
      omega
theorem Qst_take {D B : DD} (w : WF D) {p q y1 y2 y3 d : Int} (h : Qst D B p q y1 y2 y3) (hq : Qd D B p q d) (hlt : y1 = -5 ∨ d < y1) : Qst D B p (q + 1) d p q := by
  refine Or.inr ⟨hq, by unfold Bef; omega, fun a b d' hb hq' => ?_⟩
  rcases Bef_s hb with e | ⟨rfl, rfl⟩
  · rcases h with ⟨h1, h2⟩ | ⟨h1, h2, h3⟩
    · exact absurd hq' (h2 a b d' e)
    · have h6 := (h3 a b d' e hq').1
      have h7 := h1.2.2.2.2.1
      omega
  · have := Qd_d w hq hq'
    omega
theorem Qst_row {D B : DD} {p y1 y2 y3 : Int} (h : Qst D B p (D 99 1) y1 y2 y3) : Qst D B (p + 1) 0 y1 y2 y3 := by
  have key : ∀ a b d, Bef a b (p + 1) 0 → Qd D B a b d → Bef a b p (D 99 1) := fun a b d hb hq => by
    have h0 := hq.2.1.1
    have h1 := hq.2.1.2
    unfold Bef at hb ⊢
    omega
  rcases h with ⟨h1, h2⟩ | ⟨h1, h2, h3⟩
  · exact Or.inl ⟨h1, fun a b d hb hq => h2 a b d (key a b d hb hq) hq⟩
  · refine Or.inr ⟨h1, ?_, fun a b d hb hq => h3 a b d (key a b d hb hq) hq⟩
    unfold Bef at h2 ⊢
    omega
theorem Qst_none {D B : DD} {p y1 y2 y3 : Int} (h : Qst D B p 0 y1 y2 y3) (hn : D 102 p ≠ p) : Qst D B (p + 1) 0 y1 y2 y3 := by
  have key : ∀ a b d, Bef a b (p + 1) 0 → Qd D B a b d → Bef a b p 0 := fun a b d hb hq => by
    have h0 := hq.2.1.1
    have h1 := hq.2.2.1
    have h2 : a ≠ p := fun e => hn (by rw [← e]; exact h1)
    unfold Bef at hb ⊢
    omega
  rcases h with ⟨h1, h2⟩ | ⟨h1, h2, h3⟩
  · exact Or.inl ⟨h1, fun a b d hb hq => h2 a b d (key a b d hb hq) hq⟩
  · refine Or.inr ⟨h1, ?_, fun a b d hb hq => h3 a b d (key a b d hb hq) hq⟩
    unfold Bef at h2 ⊢
    omega
/-- the quarrel that is told of -/
def IsQ (D B : DD) (a b d : Int) : Prop := Qd D B a b d ∧ ∀ a' b' d', Qd D B a' b' d' → d ≤ d' ∧ (d' = d → a < a' ∨ a = a' ∧ b ≤ b')
theorem IsQ_uniq {D B : DD} {a b d a' b' d' : Int} (h : IsQ D B a b d) (h' : IsQ D B a' b' d') : a = a' ∧ b = b' ∧ d = d' := by
  have h1 := h.2 _ _ _ h'.1
  have h2 := h'.2 _ _ _ h.1
  omega
theorem Qst_end {D B : DD} {y1 y2 y3 : Int} (h : Qst D B (D 99 1) 0 y1 y2 y3) : (y1 = -5 ∧ ∀ a b d, ¬ Qd D B a b d) ∨ IsQ D B y2 y3 y1 := by
  have key : ∀ a b d, Qd D B a b d → Bef a b (D 99 1) 0 := fun a b d hq => Or.inl hq.1.2
  rcases h with ⟨h1, h2⟩ | ⟨h1, h2, h3⟩
  · exact Or.inl ⟨h1, fun a b d hq => h2 a b d (key a b d hq) hq⟩
  · exact Or.inr ⟨h1, fun a b d hq => h3 a b d (key a b d hq) hq⟩
