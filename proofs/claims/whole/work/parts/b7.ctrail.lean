/-! the shortest row of relations in the class -/
theorem c_fill_5 {h0 : AH} {Q : Option AV → AH → Prop} {p : Nat} {v N : Int} (hF0 : Fix h0) (s : sh h0 p = (0, N)) (hN : 0 ≤ N ∧ N ≤ 10000) (cont : ∀ h', Fix h' → (∀ o, o ≠ p → Kp o h0 h') → nn h' = nn h0 → us h' = us h0 → gr h' = gr h0 → sh h' = sh h0 ∧ gl h' = gl h0 → (∀ i, In N i → gi h' p i = v) → Q none h') (m : Nat) :
    ∀ (h : AH) (i : Int), (N - i).toNat = m → 0 ≤ i → i ≤ N → (∀ o, o ≠ p → Kp o h0 h) → nn h = nn h0 → us h = us h0 → gr h = gr h0 → sh h = sh h0 ∧ gl h = gl h0 → (∀ k, In i k → gi h p k = v) → Ok 297 5 [some (vR (some p)), some (vI v), some (vI i), some (vI N)] [] h Q := by
  induction m using Nat.strongRecOn with
  | ind m ih =>
    intro h i hm i0 i1 kp hn hu hr hs hI
    have hF : Fix h := ⟨fun e he => by rw [hr]; exact hF0.1 e he, fun e he => by rw [hs.1]; exact hF0.2.1 e he, by rw [hn]; exact hF0.2.2⟩
    refine f_J7_fill_53178_5 hF _ _ _ _ ⟨fun q => ?_, fun q => ?_⟩
    · have e : i = N := by omega
      rw [e] at hI
      exact cont h hF kp hn hu hr hs hI
    · have s' : sh h p = (0, N) := by rw [hs.1]; exact s
      rw [s']
      refine ⟨⟨rfl, i0, by show i < N; omega⟩, ⟨by omega, by omega⟩, ih _ (by omega) _ (i + 1) rfl (by omega) (by omega) (fun o ho => (kp o ho).si ho) hn hu hr hs (fun k hk => ?_)⟩
      by_cases e : k = i
      · rw [e, gi_si_e]
      · rw [gi_si_k e]; exact hI k ⟨hk.1, by have := hk.2; omega⟩
theorem c_fill {h : AH} {Q : Option AV → AH → Prop} {p : Nat} {v N : Int} (hF : Fix h) (s : sh h p = (0, N)) (hN : 0 ≤ N ∧ N ≤ 10000) (cont : ∀ h', Fix h' → (∀ o, o ≠ p → Kp o h h') → nn h' = nn h → us h' = us h → gr h' = gr h → sh h' = sh h ∧ gl h' = gl h → (∀ i, In N i → gi h' p i = v) → Q none h') : Ok 297 0 [some (vR (some p)), some (vI v), none, none] [] h Q := by
  refine f_J7_fill_53178_0 hF _ _ ?_
  rw [s]
  exact ⟨by show (0 : Nat) < 10; decide, c_fill_5 hF s hN cont _ h 0 rfl (by omega) hN.1 (fun _ _ => Kp.refl) rfl rfl rfl ⟨rfl, rfl⟩ (fun k hk => by have := hk.1; have := hk.2; omega)⟩
/-- steps to g, found from g on: the queue qu of f blocks, of which those before a have been followed, and of b those relations before y -/
def BF (n R : Int) (la ea : Int → Int) (g f a : Int) (qu st : Int → Int) (dn : Int → Prop) : Prop :=
  (0 ≤ a ∧ a ≤ f) ∧ (∀ i, In f i → In n (qu i) ∧ 0 ≤ st (qu i)) ∧ (∀ u, In n u → st u ≠ -5 → ∃ i, In f i ∧ qu i = u) ∧ (∀ u, In n u → st u = -5 ∨ 0 ≤ st u) ∧ st g = 0 ∧ In n g ∧ (∀ u, In n u → st u = 0 → u = g) ∧ (∀ i j, In f i → In f j → i ≤ j → st (qu i) ≤ st (qu j)) ∧ (∀ i, In f i → a ≤ i → a < f → st (qu i) ≤ st (qu a) + 1) ∧
  (∀ u, In n u → 0 < st u → ∃ r, In R r ∧ la r = u ∧ st (ea r) = st u - 1) ∧ (∀ r, In R r → dn r → st (la r) ≠ -5 ∧ st (la r) ≤ st (ea r) + 1) ∧ (∀ i j, In f i → In f j → qu i = qu j → i = j) ∧ f = (cnt (fun u => decide (st u ≠ -5)) n.toNat : Nat)
theorem BF_end {n R : Int} {la ea : Int → Int} {g f : Int} {qu st : Int → Int} {dn : Int → Prop} (hea : ∀ r, In R r → In n (ea r)) (b : BF n R la ea g f f qu st dn) (hd : ∀ r, In R r → st (ea r) ≠ -5 → dn r) : Far n R la ea g st := by
  obtain ⟨b1, b2, b3, b4, b5, b6, b7, b8, b9, b10, b11, b12, b13⟩ := b
  refine ⟨b5, fun u hu hg => ?_⟩
  rcases b4 u hu with e | e
  · refine Or.inl ⟨e, fun r hr hl => ?_⟩
    by_cases z : st (ea r) = -5
    · exact z
    · have := (b11 r hr (hd r hr z)).1
      rw [hl] at this
      exact absurd e this
  · have hp : 0 < st u := by
      by_cases z : st u = 0
      · exact absurd (b7 u hu z) hg
      · omega
    refine Or.inr ⟨hp, b10 u hu hp, fun r hr hl => ?_⟩
    by_cases z : st (ea r) = -5
    · exact Or.inl z
    · have := (b11 r hr (hd r hr z)).2
      rw [hl] at this
      exact Or.inr (by omega)
/-- a block is found -/
theorem BF_new {n R : Int} {la ea : Int → Int} {g f a : Int} {qu st : Int → Int} {dn dn' : Int → Prop} {r0 b : Int} (hn : 0 ≤ n) (hla : ∀ r, In R r → In n (la r)) (hea : ∀ r, In R r → In n (ea r)) (B : BF n R la ea g f a qu st dn) (haf : a < f) (hb : qu a = b) (hr0 : In R r0) (er0 : ea r0 = b) (h5 : st (la r0) = -5) (hdn : ∀ r, In R r → (dn' r ↔ dn r ∨ r = r0)) (hdq : ∀ r, In R r → dn r → ∃ i, In f i ∧ qu i = ea r) :
    f < n ∧ BF n R la ea g (f + 1) a (uq qu f (la r0)) (uq st (la r0) (st b + 1)) dn' := by
  obtain ⟨b1, b2, b3, b4, b5, b6, b7, b8, b9, b10, b11, b12, b13⟩ := B
  have hf := hla r0 hr0
  have ha : In f a := ⟨b1.1, haf⟩
  have hb0 := (b2 a ha).2
  rw [hb] at hb0
  have hbn : In n b := hb ▸ (b2 a ha).1
  have qn : ∀ i, In f i → qu i ≠ la r0 := fun i hi e => by have := (b2 i hi).2; rw [e] at this; omega
  have so : ∀ u, u ≠ la r0 → uq st (la r0) (st b + 1) u = st u := fun u hu => uq_o hu
  have se : uq st (la r0) (st b + 1) (la r0) = st b + 1 := uq_e
  have sq : ∀ i, In f i → uq st (la r0) (st b + 1) (qu i) = st (qu i) := fun i hi => so _ (qn i hi)
  have qo : ∀ i, In f i → uq qu f (la r0) i = qu i := fun i hi => uq_o (by have := hi.2; omega)
  have qe : uq qu f (la r0) f = la r0 := uq_e
  have s5 : ∀ u, st u ≠ -5 → uq st (la r0) (st b + 1) u = st u := fun u hu => so u (fun e => hu (by rw [e]; exact h5))
  have last : ∀ i, In f i → st (qu i) ≤ st b + 1 := fun i hi => by
    by_cases z : a ≤ i
    · have := b9 i hi z haf; rw [hb] at this; exact this
    · have := b8 i a hi ha (by omega); rw [hb] at this; omega
  have hfn : f < n := by
    rw [b13]
    have := cnt_lt (p := fun u => decide (st u ≠ -5)) (x := la r0) (n := n.toNat) ⟨hf.1, by have := hf.2; omega⟩ (by simp [h5])
    omega
  have cases_i : ∀ i, In (f + 1) i → i = f ∨ In f i := fun i hi => by
    by_cases z : i = f
    · exact Or.inl z
    · exact Or.inr ⟨hi.1, by have := hi.2; omega⟩
  refine ⟨hfn, ⟨b1.1, by omega⟩, fun i hi => ?_, fun u hu hne => ?_, fun u hu => ?_, ?_, b6, fun u hu hz => ?_, fun i j hi hj hij => ?_, fun i hi hai _ => ?_, fun u hu hp => ?_, fun r hr hd => ?_, fun i j hi hj he => ?_, ?_⟩
  · rcases cases_i i hi with z | z
    · rw [z, qe, se]; exact ⟨hf, by omega⟩
    · rw [qo i z, sq i z]; exact b2 i z
  · by_cases z : u = la r0
    · exact ⟨f, ⟨by omega, by omega⟩, by rw [qe, z]⟩
    · rw [so u z] at hne
      obtain ⟨i, i1, i2⟩ := b3 u hu hne
      exact ⟨i, ⟨i1.1, by have := i1.2; omega⟩, by rw [qo i i1]; exact i2⟩
  · by_cases z : u = la r0
    · rw [z, se]; omega
    · rw [so u z]; exact b4 u hu
  · rw [s5 g (by omega)]; exact b5
  · by_cases z : u = la r0
    · rw [z, se] at hz; omega
    · rw [so u z] at hz; exact b7 u hu hz
  · rcases cases_i i hi with z | z
    · rcases cases_i j hj with y | y
      · rw [z, y]; exact Int.le_refl _
      · have := y.2; omega
    · rcases cases_i j hj with y | y
      · rw [y, qo i z, qe, sq i z, se]; exact last i z
      · rw [qo i z, qo j y, sq i z, sq j y]; exact b8 i j z y hij
  · rw [qo a ha, sq a ha, hb]
    rcases cases_i i hi with z | z
    · rw [z, qe, se]; exact Int.le_refl _
    · rw [qo i z, sq i z]; exact last i z
  · by_cases z : u = la r0
    · refine ⟨r0, hr0, z.symm, ?_⟩
      rw [z, se, er0, so b (fun e => by rw [e] at hb0; omega)]; omega
    · rw [so u z] at hp ⊢
      obtain ⟨r, r1, r2, r3⟩ := b10 u hu hp
      exact ⟨r, r1, r2, by rw [s5 (ea r) (by omega)]; exact r3⟩
  · rcases (hdn r hr).mp hd with d | d
    · obtain ⟨i, i1, i2⟩ := hdq r hr d
      have e1 : uq st (la r0) (st b + 1) (ea r) = st (ea r) := by rw [← i2]; exact sq i i1
      have := b11 r hr d
      rw [e1, s5 _ this.1]; exact this
    · rw [d, se, er0, so b (fun e => by rw [e] at hb0; omega)]
      exact ⟨by omega, Int.le_refl _⟩
  · rcases cases_i i hi with z | z
    · rcases cases_i j hj with y | y
      · omega
      · rw [z, qe, qo j y] at he; exact absurd he.symm (qn j y)
    · rcases cases_i j hj with y | y
      · rw [y, qe, qo i z] at he; exact absurd he (qn i z)
      · rw [qo i z, qo j y] at he; exact b12 i j z y he
  · have hc := cnt_up (p := fun u => decide (st u ≠ -5)) (q := fun u => decide (uq st (la r0) (st b + 1) u ≠ -5)) (x := la r0) (n := n.toNat) ⟨hf.1, by have := hf.2; omega⟩ (by simp [h5]) (by simp [se]; omega) (fun y hy hne => by rw [so y hne])
    rw [hc, b13]; push_cast; rfl
/-- a relation leads to one already found -/
theorem BF_old {n R : Int} {la ea : Int → Int} {g f a : Int} {qu st : Int → Int} {dn dn' : Int → Prop} {r0 b : Int} (hla : ∀ r, In R r → In n (la r)) (B : BF n R la ea g f a qu st dn) (haf : a < f) (hb : qu a = b) (hr0 : In R r0) (er0 : ea r0 = b) (h5 : st (la r0) ≠ -5) (hdn : ∀ r, In R r → (dn' r ↔ dn r ∨ r = r0)) : BF n R la ea g f a qu st dn' := by
  obtain ⟨b1, b2, b3, b4, b5, b6, b7, b8, b9, b10, b11, b12, b13⟩ := B
  refine ⟨b1, b2, b3, b4, b5, b6, b7, b8, b9, b10, fun r hr hd => ?_, b12, b13⟩
  rcases (hdn r hr).mp hd with d | d
  · exact b11 r hr d
  · rw [d, er0]
    refine ⟨h5, ?_⟩
    obtain ⟨i, i1, i2⟩ := b3 _ (hla r0 hr0) h5
    rw [← i2]
    have ha : In f a := ⟨b1.1, haf⟩
    by_cases z : a ≤ i
    · have := b9 i i1 z haf; rw [hb] at this; exact this
    · have := b8 i a i1 ha (by omega); rw [hb] at this; omega
