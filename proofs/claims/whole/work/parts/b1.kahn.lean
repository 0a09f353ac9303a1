/-! what follows from the relations: settled from the earliest on -/
def FI (n R : Int) (la ea : Int → Int) (rk : Int → Nat) (f : Int) (qu sc ro : Int → Int) (re mo : Int → Int → Bool) (pr : Int → Bool) : Prop :=
  (∀ u, In n u → sc u = (cnt (fun r => decide (la r = u) && !pr r) R.toNat : Nat)) ∧ f = (cnt (fun u => decide (sc u = 0)) n.toNat : Nat) ∧ (∀ i, In f i → In n (qu i) ∧ sc (qu i) = 0) ∧ (∀ u, In n u → sc u = 0 → ∃ i, In f i ∧ qu i = u) ∧ (∀ i j, In f i → In f j → qu i = qu j → i = j) ∧
  (∀ r, In R r → pr r = true → sc (ea r) = 0) ∧ (∀ u b, In n u → In n b → (re u b = true ↔ ∃ r, In R r ∧ pr r = true ∧ la r = u ∧ (ea r = b ∨ Rch R la ea (ea r) b))) ∧ (∀ u b, In n u → In n b → (mo u b = true ↔ ∃ r, In R r ∧ pr r = true ∧ la r = u ∧ Rch R la ea (ea r) b)) ∧
  (∀ u, In n u → 0 ≤ ro u ∧ ro u ≤ rk u ∧ (∀ r, In R r → pr r = true → la r = u → ro (ea r) + 1 ≤ ro u) ∧ (ro u = 0 ∨ ∃ r, In R r ∧ pr r = true ∧ la r = u ∧ ro u = ro (ea r) + 1))
/-- all relations of a settled block have been followed -/
theorem FI_all {n R : Int} {la ea : Int → Int} {rk : Int → Nat} {f : Int} {qu sc ro : Int → Int} {re mo : Int → Int → Bool} {pr : Int → Bool} (h : FI n R la ea rk f qu sc ro re mo pr) {b : Int} (hb : In n b) (h0 : sc b = 0) : ∀ r, In R r → la r = b → pr r = true := fun r hr hl => by
  have e := h.1 b hb
  rw [h0] at e
  cases hp : pr r
  · have := cnt_pos (p := fun r => decide (la r = b) && !pr r) (x := r) (n := R.toNat) ⟨hr.1, by have := hr.2; omega⟩ (by simp [hl, hp])
    omega
  · rfl
theorem FI_re {n R : Int} {la ea : Int → Int} {rk : Int → Nat} {f : Int} {qu sc ro : Int → Int} {re mo : Int → Int → Bool} {pr : Int → Bool} (h : FI n R la ea rk f qu sc ro re mo pr) {b c : Int} (hb : In n b) (hc : In n c) (h0 : sc b = 0) : re b c = true ↔ Rch R la ea b c := by
  rw [h.2.2.2.2.2.2.1 b c hb hc, Rch_eq]
  exact ⟨fun ⟨r, r1, _, r3, r4⟩ => ⟨r, r1, r3, r4⟩, fun ⟨r, r1, r3, r4⟩ => ⟨r, r1, FI_all h hb h0 r r1 r3, r3, r4⟩⟩
def mx (a b : Int) : Int := if a < b then b else a
theorem FI_step {n R : Int} {la ea : Int → Int} {rk : Int → Nat} {f : Int} {qu sc ro : Int → Int} {re mo re' mo' : Int → Int → Bool} {pr pr' : Int → Bool} {r0 b : Int} (hk : Rk R la ea rk) (hla : ∀ r, In R r → In n (la r)) (hea : ∀ r, In R r → In n (ea r)) (hR : 0 ≤ R) (hn : 0 ≤ n) (h : FI n R la ea rk f qu sc ro re mo pr) (hr0 : In R r0) (hp0 : pr r0 = false) (hb : ea r0 = b) (h0 : sc b = 0)
    (epr : ∀ r, In R r → pr' r = (pr r || decide (r = r0))) (ere : ∀ u c, In n u → In n c → re' u c = (re u c || (decide (u = la r0) && (re b c || decide (c = b))))) (emo : ∀ u c, In n u → In n c → mo' u c = (mo u c || (decide (u = la r0) && re b c))) :
    0 < sc (la r0) ∧ f < n ∧ (sc (la r0) - 1 ≠ 0 → FI n R la ea rk f qu (uq sc (la r0) (sc (la r0) - 1)) (uq ro (la r0) (mx (ro (la r0)) (ro b + 1))) re' mo' pr') ∧ (sc (la r0) - 1 = 0 → FI n R la ea rk (f + 1) (uq qu f (la r0)) (uq sc (la r0) (sc (la r0) - 1)) (uq ro (la r0) (mx (ro (la r0)) (ro b + 1))) re' mo' pr') := by
  have hf := hla r0 hr0
  have hbn : In n b := hb ▸ hea r0 hr0
  have kr := hk r0 hr0
  rw [hb] at kr
  have hne : b ≠ la r0 := fun e => by rw [e] at kr; omega
  have hall := FI_all h hbn h0
  have hreb : ∀ c, In n c → (re b c = true ↔ Rch R la ea b c) := fun c hc => FI_re h hbn hc h0
  obtain ⟨i1, i2, i3, i4, i5, i6, i7, i8, i9⟩ := h
  have hpos : 0 < sc (la r0) := by
    rw [i1 _ hf]
    have := cnt_pos (p := fun r => decide (la r = la r0) && !pr r) (x := r0) (n := R.toNat) ⟨hr0.1, by have := hr0.2; omega⟩ (by simp [hp0])
    omega
  have hfn : f < n := by
    rw [i2]
    have := cnt_lt (p := fun u => decide (sc u = 0)) (x := la r0) (n := n.toNat) ⟨hf.1, by have := hf.2; omega⟩ (by simp; omega)
    omega
  have hso : ∀ u, u ≠ la r0 → uq sc (la r0) (sc (la r0) - 1) u = sc u := fun u hu => uq_o hu
  have hse : uq sc (la r0) (sc (la r0) - 1) (la r0) = sc (la r0) - 1 := uq_e
  have ero : ∀ r, In R r → pr r = true → ea r ≠ la r0 := fun r hr hp e => by have := i6 r hr hp; rw [e] at this; omega
  -- pr' by pr
  have ep : ∀ r, In R r → (pr' r = true ↔ pr r = true ∨ r = r0) := fun r hr => by rw [epr r hr]; simp
  have j1 : ∀ u, In n u → uq sc (la r0) (sc (la r0) - 1) u = (cnt (fun r => decide (la r = u) && !pr' r) R.toNat : Nat) := fun u hu => by
    by_cases e : u = la r0
    · subst e
      have hc := cnt_up (p := fun r => decide (la r = la r0) && !pr' r) (q := fun r => decide (la r = la r0) && !pr r) (x := r0) (n := R.toNat) ⟨hr0.1, by have := hr0.2; omega⟩ (by simp [epr r0 hr0]) (by simp [hp0]) (fun y hy hne => by
        have := epr y ⟨hy.1, by have := hy.2; omega⟩
        simp [this, hne])
      rw [hse, i1 _ hf, hc]; push_cast; omega
    · rw [hso u e, i1 u hu]
      congr 1
      refine cnt_congr (fun y hy => ?_)
      by_cases ey : y = r0
      · subst ey
        have : ¬ la y = u := fun z => e z.symm
        simp [this]
      · have := epr y ⟨hy.1, by have := hy.2; omega⟩
        simp [this, ey]
  have j6 : ∀ r, In R r → pr' r = true → uq sc (la r0) (sc (la r0) - 1) (ea r) = 0 := fun r hr hp => by
    rcases (ep r hr).mp hp with q | q
    · rw [hso _ (ero r hr q)]; exact i6 r hr q
    · rw [q, hb, hso b hne]; exact h0
  have j7 : ∀ u c, In n u → In n c → (re' u c = true ↔ ∃ r, In R r ∧ pr' r = true ∧ la r = u ∧ (ea r = c ∨ Rch R la ea (ea r) c)) := fun u c hu hc => by
    rw [ere u c hu hc]
    simp only [Bool.or_eq_true, Bool.and_eq_true, decide_eq_true_eq]
    constructor
    · rintro (q | ⟨q1, q2⟩)
      · obtain ⟨r, r1, r2, r3, r4⟩ := (i7 u c hu hc).mp q
        exact ⟨r, r1, (ep r r1).mpr (Or.inl r2), r3, r4⟩
      · refine ⟨r0, hr0, (ep r0 hr0).mpr (Or.inr rfl), q1.symm, ?_⟩
        rw [hb]
        rcases q2 with q2 | q2
        · exact Or.inr ((hreb c hc).mp q2)
        · exact Or.inl q2.symm
    · rintro ⟨r, r1, r2, r3, r4⟩
      rcases (ep r r1).mp r2 with q | q
      · exact Or.inl ((i7 u c hu hc).mpr ⟨r, r1, q, r3, r4⟩)
      · rw [q] at r3 r4
        rw [hb] at r4
        refine Or.inr ⟨r3.symm, ?_⟩
        rcases r4 with r4 | r4
        · exact Or.inr r4.symm
        · exact Or.inl ((hreb c hc).mpr r4)
  have j8 : ∀ u c, In n u → In n c → (mo' u c = true ↔ ∃ r, In R r ∧ pr' r = true ∧ la r = u ∧ Rch R la ea (ea r) c) := fun u c hu hc => by
    rw [emo u c hu hc]
    simp only [Bool.or_eq_true, Bool.and_eq_true, decide_eq_true_eq]
    constructor
    · rintro (q | ⟨q1, q2⟩)
      · obtain ⟨r, r1, r2, r3, r4⟩ := (i8 u c hu hc).mp q
        exact ⟨r, r1, (ep r r1).mpr (Or.inl r2), r3, r4⟩
      · refine ⟨r0, hr0, (ep r0 hr0).mpr (Or.inr rfl), q1.symm, ?_⟩
        rw [hb]
        exact (hreb c hc).mp q2
    · rintro ⟨r, r1, r2, r3, r4⟩
      rcases (ep r r1).mp r2 with q | q
      · exact Or.inl ((i8 u c hu hc).mpr ⟨r, r1, q, r3, r4⟩)
      · rw [q] at r3 r4
        rw [hb] at r4
        exact Or.inr ⟨r3.symm, (hreb c hc).mpr r4⟩
  have mxl : ∀ a c : Int, a ≤ mx a c ∧ c ≤ mx a c ∧ (mx a c = a ∨ mx a c = c) := fun a c => by unfold mx; split <;> omega
  have j9 : ∀ u, In n u → 0 ≤ uq ro (la r0) (mx (ro (la r0)) (ro b + 1)) u ∧ uq ro (la r0) (mx (ro (la r0)) (ro b + 1)) u ≤ rk u ∧ (∀ r, In R r → pr' r = true → la r = u → uq ro (la r0) (mx (ro (la r0)) (ro b + 1)) (ea r) + 1 ≤ uq ro (la r0) (mx (ro (la r0)) (ro b + 1)) u) ∧ (uq ro (la r0) (mx (ro (la r0)) (ro b + 1)) u = 0 ∨ ∃ r, In R r ∧ pr' r = true ∧ la r = u ∧ uq ro (la r0) (mx (ro (la r0)) (ro b + 1)) u = uq ro (la r0) (mx (ro (la r0)) (ro b + 1)) (ea r) + 1) := fun u hu => by
    have nea : ∀ r, In R r → pr' r = true → uq ro (la r0) (mx (ro (la r0)) (ro b + 1)) (ea r) = ro (ea r) := fun r hr hp => by
      rcases (ep r hr).mp hp with q | q
      · exact uq_o (ero r hr q)
      · rw [q, hb]; exact uq_o hne
    obtain ⟨a1, a2, a3, a4⟩ := i9 u hu
    obtain ⟨b1, b2, b3, b4⟩ := i9 b hbn
    obtain ⟨m1, m2, m3⟩ := mxl (ro (la r0)) (ro b + 1)
    by_cases e : u = la r0
    · subst e
      rw [uq_e]
      refine ⟨by omega, by omega, fun r hr hp hl => ?_, ?_⟩
      · rw [nea r hr hp]
        rcases (ep r hr).mp hp with q | q
        · have := a3 r hr q hl; omega
        · rw [q, hb]; omega
      · rcases m3 with m3 | m3
        · rcases a4 with a4 | ⟨r, r1, r2, r3, r4⟩
          · exact Or.inl (m3.trans a4)
          · exact Or.inr ⟨r, r1, (ep r r1).mpr (Or.inl r2), r3, by rw [nea r r1 ((ep r r1).mpr (Or.inl r2))]; exact m3.trans r4⟩
        · refine Or.inr ⟨r0, hr0, (ep r0 hr0).mpr (Or.inr rfl), rfl, ?_⟩
          rw [nea r0 hr0 ((ep r0 hr0).mpr (Or.inr rfl)), hb]; exact m3
    · rw [uq_o e]
      refine ⟨a1, a2, fun r hr hp hl => ?_, ?_⟩
      · rw [nea r hr hp]
        rcases (ep r hr).mp hp with q | q
        · exact a3 r hr q hl
        · rw [q] at hl; exact absurd hl.symm e
      · rcases a4 with a4 | ⟨r, r1, r2, r3, r4⟩
        · exact Or.inl a4
        · exact Or.inr ⟨r, r1, (ep r r1).mpr (Or.inl r2), r3, by rw [nea r r1 ((ep r r1).mpr (Or.inl r2))]; exact r4⟩
  have qn : ∀ i, In f i → qu i ≠ la r0 := fun i hi e => by have := (i3 i hi).2; rw [e] at this; omega
  refine ⟨hpos, hfn, fun hz => ⟨j1, ?_, fun i hi => ⟨(i3 i hi).1, by rw [hso _ (qn i hi)]; exact (i3 i hi).2⟩, fun u hu hs => ?_, i5, j6, j7, j8, j9⟩, fun hz => ⟨j1, ?_, fun i hi => ?_, fun u hu hs => ?_, fun i j hi hj he => ?_, j6, j7, j8, j9⟩⟩
  · rw [i2]
    congr 1
    refine cnt_congr (fun y hy => ?_)
    by_cases e : y = la r0
    · rw [e, hse]
      have z1 : ¬ sc (la r0) = 0 := by omega
      simp [z1, hz]
    · rw [hso y e]
  · by_cases e : u = la r0
    · rw [e, hse] at hs; omega
    · rw [hso u e] at hs; exact i4 u hu hs
  · have hc := cnt_up (p := fun u => decide (sc u = 0)) (q := fun u => decide (uq sc (la r0) (sc (la r0) - 1) u = 0)) (x := la r0) (n := n.toNat) ⟨hf.1, by have := hf.2; omega⟩ (by simp; omega) (by simp [hse]; omega) (fun y hy hne => by rw [hso y hne])
    rw [hc, i2]; push_cast; rfl
  · by_cases e : i = f
    · rw [e, uq_e, hse]; exact ⟨hf, hz⟩
    · have hi' : In f i := ⟨hi.1, by have := hi.2; omega⟩
      rw [uq_o e, hso _ (qn i hi')]; exact i3 i hi'
  · have f0 : 0 ≤ f := by rw [i2]; omega
    by_cases e : u = la r0
    · exact ⟨f, ⟨f0, by omega⟩, by rw [uq_e, e]⟩
    · rw [hso u e] at hs
      obtain ⟨i, h1, h2⟩ := i4 u hu hs
      exact ⟨i, ⟨h1.1, by have := h1.2; omega⟩, by rw [uq_o (by have := h1.2; omega)]; exact h2⟩
  · by_cases e1 : i = f
    · by_cases e2 : j = f
      · omega
      · have hj' : In f j := ⟨hj.1, by have := hj.2; omega⟩
        rw [e1, uq_e, uq_o e2] at he
        exact absurd he.symm (qn j hj')
    · have hi' : In f i := ⟨hi.1, by have := hi.2; omega⟩
      by_cases e2 : j = f
      · rw [e2, uq_e, uq_o e1] at he
        exact absurd he (qn i hi')
      · rw [uq_o e1, uq_o e2] at he
        exact i5 i j hi' ⟨hj.1, by have := hj.2; omega⟩ he
/-- in the end all are settled -/
theorem FI_end {n R : Int} {la ea : Int → Int} {rk : Int → Nat} {f : Int} {qu sc ro : Int → Int} {re mo : Int → Int → Bool} {pr : Int → Bool} (hk : Rk R la ea rk) (hla : ∀ r, In R r → In n (la r)) (hea : ∀ r, In R r → In n (ea r)) (hR : 0 ≤ R) (h : FI n R la ea rk f qu sc ro re mo pr) (hp : ∀ r, In R r → (pr r = true ↔ ∃ i, In f i ∧ qu i = ea r)) :
    (∀ u b, In n u → In n b → (re u b = true ↔ Rch R la ea u b)) ∧ (∀ u b, In n u → In n b → (mo u b = true ↔ ∃ r, In R r ∧ la r = u ∧ Rch R la ea (ea r) b)) ∧ Long n R la ea ro := by
  have key : ∀ k : Nat, ∀ u, rk u < k → In n u → sc u = 0 := by
    intro k
    induction k with
    | zero => intro u h; omega
    | succ k ih =>
      intro u hu hn
      rw [h.1 u hn, cnt_zero]
      · rfl
      · intro r hr
        have hr' : In R r := ⟨hr.1, by have := hr.2; omega⟩
        by_cases e : la r = u
        · have k1 := hk r hr'
          rw [e] at k1
          have z := ih (ea r) (by omega) (hea r hr')
          obtain ⟨i, i1, i2⟩ := h.2.2.2.1 (ea r) (hea r hr') z
          have := (hp r hr').mpr ⟨i, i1, i2⟩
          simp [this]
        · simp [e]
  have all : ∀ u, In n u → sc u = 0 := fun u hu => key (rk u + 1) u (by omega) hu
  have pra : ∀ r, In R r → pr r = true := fun r hr => FI_all h (hla r hr) (all _ (hla r hr)) r hr rfl
  refine ⟨fun u b hu hb => FI_re h hu hb (all u hu), fun u b hu hb => ?_, fun u hu => ?_⟩
  · rw [h.2.2.2.2.2.2.2.1 u b hu hb]
    exact ⟨fun ⟨r, r1, _, r3, r4⟩ => ⟨r, r1, r3, r4⟩, fun ⟨r, r1, r3, r4⟩ => ⟨r, r1, pra r r1, r3, r4⟩⟩
  · obtain ⟨a1, a2, a3, a4⟩ := h.2.2.2.2.2.2.2.2 u hu
    refine ⟨a1, fun r hr hl => a3 r hr (pra r hr) hl, ?_⟩
    rcases a4 with a4 | ⟨r, r1, _, r3, r4⟩
    · exact Or.inl a4
    · exact Or.inr ⟨r, r1, r3, r4⟩
