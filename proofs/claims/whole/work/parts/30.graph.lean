/-! GRAPHS: relations r < R lead from la r to ea r; a rank falls along each -/
def In (n x : Int) : Prop := 0 ≤ x ∧ x < n
def Rk (R : Int) (la ea : Int → Int) (rk : Int → Nat) : Prop := ∀ r, In R r → rk (ea r) < rk (la r)
/-- reaches in at most k steps, at least one -/
def rchN (R : Int) (la ea : Int → Int) : Nat → Int → Int → Prop
  | 0, _, _ => False
  | k + 1, a, b => ∃ r, In R r ∧ la r = a ∧ (ea r = b ∨ rchN R la ea k (ea r) b)
def Rch (R : Int) (la ea : Int → Int) (a b : Int) : Prop := ∃ k, rchN R la ea k a b
theorem Rch_eq {R : Int} {la ea : Int → Int} {a b : Int} : Rch R la ea a b ↔ ∃ r, In R r ∧ la r = a ∧ (ea r = b ∨ Rch R la ea (ea r) b) := by
  constructor
  · rintro ⟨k, hk⟩
    cases k with
    | zero => exact hk.elim
    | succ k =>
      obtain ⟨r, h1, h2, h3⟩ := hk
      exact ⟨r, h1, h2, h3.imp id (fun h => ⟨k, h⟩)⟩
  · rintro ⟨r, h1, h2, h3⟩
    rcases h3 with h3 | ⟨k, h3⟩
    · exact ⟨1, r, h1, h2, Or.inl h3⟩
    · exact ⟨k + 1, r, h1, h2, Or.inr h3⟩
theorem Rch_rk {R : Int} {la ea : Int → Int} {rk : Int → Nat} (hk : Rk R la ea rk) {a b : Int} (h : Rch R la ea a b) : rk b < rk a := by
  obtain ⟨k, h⟩ := h
  induction k generalizing a with
  | zero => exact h.elim
  | succ k ih =>
    obtain ⟨r, h1, rfl, h3⟩ := h
    have := hk r h1
    rcases h3 with rfl | h3
    · exact this
    · exact Nat.lt_trans (ih h3) this
theorem Rch_irr {R : Int} {la ea : Int → Int} {rk : Int → Nat} (hk : Rk R la ea rk) {a : Int} : ¬ Rch R la ea a a := fun h => Nat.lt_irrefl _ (Rch_rk hk h)
theorem Rch_trans {R : Int} {la ea : Int → Int} {a b c : Int} (h1 : Rch R la ea a b) (h2 : Rch R la ea b c) : Rch R la ea a c := by
  obtain ⟨k, h1⟩ := h1
  induction k generalizing a with
  | zero => exact h1.elim
  | succ k ih =>
    obtain ⟨r, g1, g2, g3⟩ := h1
    rw [Rch_eq]
    refine ⟨r, g1, g2, Or.inr ?_⟩
    rcases g3 with rfl | g3
    · exact h2
    · exact ih g3
/-- how far each is from g: -5 if it doesn't lead there -/
def Far (n R : Int) (la ea : Int → Int) (g : Int) (f : Int → Int) : Prop :=
  f g = 0 ∧ ∀ u, In n u → u ≠ g → (f u = -5 ∧ ∀ r, In R r → la r = u → f (ea r) = -5) ∨
    (0 < f u ∧ (∃ r, In R r ∧ la r = u ∧ f (ea r) = f u - 1) ∧ ∀ r, In R r → la r = u → f (ea r) = -5 ∨ f u - 1 ≤ f (ea r))
theorem Far_uniq {n R : Int} {la ea : Int → Int} {rk : Int → Nat} (hk : Rk R la ea rk) (he : ∀ r, In R r → In n (ea r)) {g : Int} {f f' : Int → Int} (h : Far n R la ea g f) (h' : Far n R la ea g f') : ∀ u, In n u → f u = f' u := by
  have key : ∀ k : Nat, ∀ u, rk u < k → In n u → f u = f' u := by
    intro k
    induction k with
    | zero => intro u h; omega
    | succ k ih =>
      intro u hu hn
      by_cases hg : u = g
      · rw [hg, h.1, h'.1]
      · have hs : ∀ r, In R r → la r = u → f (ea r) = f' (ea r) := fun r h1 h2 => ih _ (by have := hk r h1; rw [h2] at this; omega) (he r h1)
        rcases h.2 u hn hg with ⟨a1, a2⟩ | ⟨a1, ⟨r, r1, r2, r3⟩, a3⟩ <;> rcases h'.2 u hn hg with ⟨b1, b2⟩ | ⟨b1, ⟨q, q1, q2, q3⟩, b3⟩
        · omega
        · have e1 := a2 q q1 q2
          have e2 := hs q q1 q2
          omega
        · have e1 := b2 r r1 r2
          have e2 := hs r r1 r2
          omega
        · have e1 := hs r r1 r2
          have e2 := hs q q1 q2
          have e3 := a3 q q1 q2
          have e4 := b3 r r1 r2
          omega
  exact fun u hn => key (rk u + 1) u (Nat.lt_succ_self _) hn
theorem Far_rch {n R : Int} {la ea : Int → Int} {rk : Int → Nat} (hk : Rk R la ea rk) (he : ∀ r, In R r → In n (ea r)) {g : Int} {f : Int → Int} (h : Far n R la ea g f) : ∀ u, In n u → (f u ≠ -5 ↔ u = g ∨ Rch R la ea u g) := by
  have key : ∀ k : Nat, ∀ u, rk u < k → In n u → (f u ≠ -5 ↔ u = g ∨ Rch R la ea u g) := by
    intro k
    induction k with
    | zero => intro u h; omega
    | succ k ih =>
      intro u hu hn
      by_cases hg : u = g
      · exact ⟨fun _ => Or.inl hg, fun _ => by rw [hg, h.1]; decide⟩
      · have hs : ∀ r, In R r → la r = u → (f (ea r) ≠ -5 ↔ ea r = g ∨ Rch R la ea (ea r) g) := fun r h1 h2 => ih _ (by have := hk r h1; rw [h2] at this; omega) (he r h1)
        rcases h.2 u hn hg with ⟨a1, a2⟩ | ⟨a1, ⟨r, r1, r2, r3⟩, a3⟩
        · refine ⟨fun q => absurd a1 q, fun q => ?_⟩
          rcases q with q | q
          · exact absurd q hg
          · obtain ⟨r, r1, r2, r3⟩ := Rch_eq.mp q
            exact absurd (a2 r r1 r2) ((hs r r1 r2).mpr r3)
        · refine ⟨fun _ => Or.inr (Rch_eq.mpr ⟨r, r1, r2, (hs r r1 r2).mp (by omega)⟩), fun _ => by omega⟩
  exact fun u hn => key (rk u + 1) u (Nat.lt_succ_self _) hn
theorem Far_rk {n R : Int} {la ea : Int → Int} {rk : Int → Nat} (hk : Rk R la ea rk) (he : ∀ r, In R r → In n (ea r)) {g : Int} {f : Int → Int} (h : Far n R la ea g f) : ∀ u, In n u → f u ≤ rk u := by
  have key : ∀ k : Nat, ∀ u, rk u < k → In n u → f u ≤ rk u := by
    intro k
    induction k with
    | zero => intro u h; omega
    | succ k ih =>
      intro u hu hn
      by_cases hg : u = g
      · rw [hg, h.1]; omega
      · rcases h.2 u hn hg with ⟨a1, a2⟩ | ⟨a1, ⟨r, r1, r2, r3⟩, a3⟩
        · omega
        · have h1 := hk r r1
          have h2 := ih (ea r) (by rw [r2] at h1; omega) (he r r1)
          rw [r2] at h1
          omega
  exact fun u hn => key (rk u + 1) u (Nat.lt_succ_self _) hn
theorem Far_neg {n R : Int} {la ea : Int → Int} {g : Int} {f : Int → Int} (h : Far n R la ea g f) : ∀ u, In n u → f u = -5 ∨ 0 ≤ f u := by
  intro u hn
  by_cases hg : u = g
  · rw [hg, h.1]; omega
  · rcases h.2 u hn hg with ⟨a1, _⟩ | ⟨a1, _⟩ <;> omega
theorem Far_pos {n R : Int} {la ea : Int → Int} {g : Int} {f : Int → Int} (h : Far n R la ea g f) : ∀ u, In n u → f u = 0 → u = g := by
  intro u hn h0
  by_cases hg : u = g
  · exact hg
  · rcases h.2 u hn hg with ⟨a1, _⟩ | ⟨a1, _⟩ <;> omega
/-- the first relation of a shortest row -/
def FirstR (R : Int) (la ea : Int → Int) (f : Int → Int) (at_ r : Int) : Prop :=
  In R r ∧ la r = at_ ∧ f (ea r) = f at_ - 1 ∧ ∀ q, 0 ≤ q → q < r → ¬ (la q = at_ ∧ f (ea q) = f at_ - 1)
theorem FirstR_uniq {R : Int} {la ea : Int → Int} {f : Int → Int} {a r q : Int} (h : FirstR R la ea f a r) (h' : FirstR R la ea f a q) : r = q := by
  obtain ⟨⟨a1, a2⟩, a3, a4, a5⟩ := h
  obtain ⟨⟨b1, b2⟩, b3, b4, b5⟩ := h'
  rcases Int.lt_trichotomy r q with h | h | h
  · exact absurd ⟨a3, a4⟩ (b5 r a1 h)
  · exact h
  · exact absurd ⟨b3, b4⟩ (a5 q b1 h)
/-- the row w of relations, k of them, from a on -/
def PathR (R : Int) (la ea : Int → Int) (f : Int → Int) : Nat → Int → (Int → Int) → Int → Prop
  | 0, a, _, _ => f a ≤ 0
  | k + 1, a, w, i => 0 < f a ∧ FirstR R la ea f a (w i) ∧ PathR R la ea f k (ea (w i)) w (i + 1)
theorem PathR_uniq {R : Int} {la ea : Int → Int} {f : Int → Int} : ∀ {k k' : Nat} {a : Int} {w w' : Int → Int} {i : Int}, PathR R la ea f k a w i → PathR R la ea f k' a w' i → k = k' ∧ ∀ j, i ≤ j → j < i + k → w j = w' j
  | 0, 0, _, _, _, _, _, _ => ⟨rfl, fun j h1 h2 => by omega⟩
  | 0, k' + 1, a, _, _, _, h, h' => by have h1 : f a ≤ 0 := h; have h2 := h'.1; omega
  | k + 1, 0, a, _, _, _, h, h' => by have h1 : f a ≤ 0 := h'; have h2 := h.1; omega
  | k + 1, k' + 1, a, w, w', i, h, h' => by
    have e := FirstR_uniq h.2.1 h'.2.1
    have h3 := h'.2.2
    rw [← e] at h3
    obtain ⟨e1, e2⟩ := PathR_uniq h.2.2 h3
    refine ⟨by omega, fun j h1 h2 => ?_⟩
    by_cases hj : j = i
    · rw [hj, e]
    · exact e2 j (by omega) (by push_cast at h2; omega)
theorem PathR_congr {R : Int} {la ea : Int → Int} {f f' : Int → Int} {n : Int} (he : ∀ r, In R r → In n (ea r)) (hla : ∀ r, In R r → In n (la r)) (hf : ∀ u, In n u → f u = f' u) : ∀ {k : Nat} {a : Int} {w : Int → Int} {i : Int}, In n a → PathR R la ea f k a w i → PathR R la ea f' k a w i
  | 0, a, _, _, ha, h => by
    show f' a ≤ 0
    rw [← hf a ha]; exact h
  | k + 1, a, w, i, ha, h => by
    obtain ⟨h1, ⟨h2, h3, h4, h5⟩, h6⟩ := h
    refine ⟨by rw [← hf a ha]; exact h1, ⟨h2, h3, by rw [← hf _ (he _ h2), ← hf a ha]; exact h4, fun q q1 q2 q3 => h5 q q1 q2 ⟨q3.1, ?_⟩⟩, PathR_congr he hla hf (he _ h2) h6⟩
    have hq : In R q := ⟨q1, Int.lt_trans q2 h2.2⟩
    rw [hf _ (he _ hq), hf a ha]
    exact q3.2
theorem PathR_len {n R : Int} {la ea : Int → Int} {g : Int} {f : Int → Int} (hF : Far n R la ea g f) (he : ∀ r, In R r → In n (ea r)) : ∀ {k : Nat} {a : Int} {w : Int → Int} {i : Int}, In n a → PathR R la ea f k a w i → f a ≠ -5 → (k : Int) = f a
  | 0, a, _, _, ha, h, h5 => by
    have h1 : f a ≤ 0 := h
    have := Far_neg hF a ha
    show (0 : Int) = f a
    omega
  | k + 1, a, w, i, ha, h, h5 => by
    obtain ⟨h1, ⟨h2, h3, h4, _⟩, h6⟩ := h
    have := PathR_len hF he (he _ h2) h6 (by omega)
    push_cast
    omega
/-- the longest row from each -/
def Long (n R : Int) (la ea : Int → Int) (L : Int → Int) : Prop :=
  ∀ u, In n u → 0 ≤ L u ∧ (∀ r, In R r → la r = u → L (ea r) + 1 ≤ L u) ∧ (L u = 0 ∨ ∃ r, In R r ∧ la r = u ∧ L u = L (ea r) + 1)
theorem Long_uniq {n R : Int} {la ea : Int → Int} {rk : Int → Nat} (hk : Rk R la ea rk) (he : ∀ r, In R r → In n (ea r)) {L L' : Int → Int} (h : Long n R la ea L) (h' : Long n R la ea L') : ∀ u, In n u → L u = L' u := by
  have key : ∀ k : Nat, ∀ u, rk u < k → In n u → L u = L' u := by
    intro k
    induction k with
    | zero => intro u h; omega
    | succ k ih =>
      intro u hu hn
      have hs : ∀ r, In R r → la r = u → L (ea r) = L' (ea r) := fun r h1 h2 => ih _ (by have := hk r h1; rw [h2] at this; omega) (he r h1)
      obtain ⟨a0, a1, a2⟩ := h u hn
      obtain ⟨b0, b1, b2⟩ := h' u hn
      rcases a2 with a2 | ⟨r, r1, r2, r3⟩ <;> rcases b2 with b2 | ⟨q, q1, q2, q3⟩
      · omega
      · have e1 := a1 q q1 q2
        have e2 := hs q q1 q2
        omega
      · have e1 := b1 r r1 r2
        have e2 := hs r r1 r2
        omega
      · have e1 := a1 q q1 q2
        have e2 := hs q q1 q2
        have e3 := b1 r r1 r2
        have e4 := hs r r1 r2
        omega
  exact fun u hn => key (rk u + 1) u (Nat.lt_succ_self _) hn
/-! counting -/
def cnt (p : Int → Bool) : Nat → Nat
  | 0 => 0
  | n + 1 => cnt p n + if p n then 1 else 0
theorem cnt_le (p : Int → Bool) : ∀ n, cnt p n ≤ n
  | 0 => Nat.le_refl _
  | n + 1 => by
    have := cnt_le p n
    unfold cnt
    split <;> omega
theorem cnt_congr {p q : Int → Bool} : ∀ {n : Nat}, (∀ x : Int, In n x → p x = q x) → cnt p n = cnt q n
  | 0, _ => rfl
  | n + 1, h => by
    unfold cnt
    rw [cnt_congr (n := n) (fun x hx => h x ⟨hx.1, by have := hx.2; push_cast; omega⟩), h n ⟨by omega, by push_cast; omega⟩]
theorem cnt_mono {p : Int → Bool} {n m : Nat} (h : n ≤ m) : cnt p n ≤ cnt p m := by
  obtain ⟨d, rfl⟩ := Nat.exists_eq_add_of_le h
  induction d with
  | zero => exact Nat.le_refl _
  | succ d ih =>
    have : cnt p (n + (d + 1)) = cnt p (n + d) + if p ((n + d : Nat) : Int) then 1 else 0 := rfl
    have := ih (by omega)
    omega
/-- one more -/
theorem cnt_up {p q : Int → Bool} {x : Int} : ∀ {n : Nat}, In n x → p x = false → q x = true → (∀ y : Int, In n y → y ≠ x → q y = p y) → cnt q n = cnt p n + 1
  | 0, hx, _, _, _ => by have := hx.1; have := hx.2; omega
  | n + 1, hx, h1, h2, h3 => by
    unfold cnt
    by_cases hxn : x = (n : Int)
    · subst hxn
      rw [h1, h2, cnt_congr (p := q) (q := p) (fun y hy => h3 y ⟨hy.1, by have := hy.2; push_cast; omega⟩ (by have := hy.2; omega))]
      simp
    · have hx' : In n x := ⟨hx.1, by have := hx.2; push_cast at this; omega⟩
      rw [cnt_up hx' h1 h2 (fun y hy hne => h3 y ⟨hy.1, by have := hy.2; push_cast; omega⟩ hne), h3 n ⟨by omega, by push_cast; omega⟩ (fun e => hxn e.symm)]
      omega
theorem cnt_lt {p : Int → Bool} {x : Int} {n : Nat} (hx : In n x) (h : p x = false) : cnt p n < n := by
  have h1 := cnt_up (p := p) (q := fun y => if y = x then true else p y) hx h (by simp) (fun y _ hy => by simp [hy])
  have h2 := cnt_le (fun y => if y = x then true else p y) n
  omega
theorem cnt_zero {p : Int → Bool} : ∀ {n : Nat}, (∀ x : Int, In n x → p x = false) → cnt p n = 0
  | 0, _ => rfl
  | n + 1, h => by
    unfold cnt
    rw [cnt_zero (n := n) (fun x hx => h x ⟨hx.1, by have := hx.2; push_cast; omega⟩), h n ⟨by omega, by push_cast; omega⟩]
    rfl
theorem cnt_pos {p : Int → Bool} {x : Int} {n : Nat} (hx : In n x) (h : p x = true) : 0 < cnt p n := by
  have h1 := cnt_up (p := fun y => if y = x then false else p y) (q := p) hx (by simp) h (fun y _ hy => by simp [hy])
  omega
theorem cnt_sub {p q : Int → Bool} : ∀ {n : Nat}, (∀ x : Int, In n x → p x = true → q x = true) → cnt p n ≤ cnt q n
  | 0, _ => Nat.le_refl _
  | n + 1, h => by
    have h1 := cnt_sub (n := n) (fun x hx => h x ⟨hx.1, by have := hx.2; push_cast; omega⟩)
    have h2 := h n ⟨by omega, by push_cast; omega⟩
    unfold cnt
    split <;> split <;> first | omega | (rename_i a b; exact absurd (h2 a) b)
/-- any rank gives one below n -/
theorem Rk_small {n : Nat} {R : Int} {la ea : Int → Int} {rk : Int → Nat} (hk : Rk R la ea rk) (he : ∀ r, In R r → In n (ea r)) : ∃ rk' : Int → Nat, Rk R la ea rk' ∧ ∀ u, In n u → rk' u < n := by
  refine ⟨fun u => cnt (fun v => decide (rk v < rk u)) n, fun r hr => ?_, fun u hu => cnt_lt hu (by simp)⟩
  have h1 := hk r hr
  have h2 := cnt_up (p := fun v => decide (rk v < rk (ea r))) (q := fun v => if v = ea r then true else decide (rk v < rk (ea r))) (he r hr) (by simp) (by simp) (fun y _ hy => by simp [hy])
  have h3 : cnt (fun v => if v = ea r then true else decide (rk v < rk (ea r))) n ≤ cnt (fun v => decide (rk v < rk (la r))) n := cnt_sub (fun x hx h => by
    by_cases hxe : x = ea r
    · subst hxe; simpa using h1
    · simp [hxe] at h
      simp
      omega)
  show cnt (fun v => decide (rk v < rk (ea r))) n < cnt (fun v => decide (rk v < rk (la r))) n
  omega
theorem Rk_add {R : Int} {la ea la' ea' : Int → Int} {rk : Int → Nat} (hk : Rk R la ea rk) (h1 : ∀ r, In R r → la' r = la r ∧ ea' r = ea r) (hab : la' R ≠ ea' R) (hn : ¬ Rch R la ea (ea' R) (la' R)) : ∃ rk', Rk (R + 1) la' ea' rk' := by
  classical
  refine ⟨fun x => if x = la' R ∨ Rch R la ea x (la' R) then rk x + rk (ea' R) + 1 else rk x, fun r hr => ?_⟩
  by_cases hrR : r = R
  · subst hrR
    show (if ea' r = la' r ∨ Rch r la ea (ea' r) (la' r) then _ else _) < (if la' r = la' r ∨ _ then _ else _)
    rw [if_pos (Or.inl rfl), if_neg (fun q => by rcases q with q | q; exact hab q.symm; exact hn q)]
    omega
  · have hr' : In R r := ⟨hr.1, by have := hr.2; omega⟩
    obtain ⟨e1, e2⟩ := h1 r hr'
    have h2 := hk r hr'
    show (if ea' r = la' R ∨ Rch R la ea (ea' r) (la' R) then _ else _) < (if la' r = la' R ∨ Rch R la ea (la' r) (la' R) then _ else _)
    rw [e1, e2]
    by_cases hc : ea r = la' R ∨ Rch R la ea (ea r) (la' R)
    · rw [if_pos hc, if_pos (Or.inr (Rch_eq.mpr ⟨r, hr', rfl, hc⟩))]
      omega
    · rw [if_neg hc]
      split <;> omega
theorem Rk_lift {R : Int} {la ea : Int → Int} {rk : Int → Nat} (hk : Rk R la ea rk) {x y : Int} (hxy : x ≠ y) (hn : ¬ Rch R la ea y x) (hle : rk x ≤ rk y) : ∃ rk', Rk R la ea rk' ∧ rk' x = rk' y := by
  classical
  refine ⟨fun z => if z = x ∨ Rch R la ea z x then rk z + (rk y - rk x) else rk z, fun r hr => ?_, ?_⟩
  · have h2 := hk r hr
    show (if ea r = x ∨ Rch R la ea (ea r) x then _ else _) < (if la r = x ∨ Rch R la ea (la r) x then _ else _)
    by_cases hc : ea r = x ∨ Rch R la ea (ea r) x
    · rw [if_pos hc, if_pos (Or.inr (Rch_eq.mpr ⟨r, hr, rfl, hc⟩))]
      omega
    · rw [if_neg hc]
      split <;> omega
  · show (if x = x ∨ _ then _ else _) = (if y = x ∨ Rch R la ea y x then _ else _)
    rw [if_pos (Or.inl rfl), if_neg (fun q => by rcases q with q | q; exact hxy q.symm; exact hn q)]
    omega
theorem Rk_bond {R : Int} {la ea la' ea' : Int → Int} {rk : Int → Nat} (hk : Rk R la ea rk) {x y l : Int} (hxy : x ≠ y) (h1 : ¬ Rch R la ea x y) (h2 : ¬ Rch R la ea y x) (hl : l = x ∨ l = y)
    (e1 : ∀ r, In R r → la' r = if la r = x ∨ la r = y then l else la r) (e2 : ∀ r, In R r → ea' r = if ea r = x ∨ ea r = y then l else ea r) : ∃ rk', Rk R la' ea' rk' := by
  have hq : ∃ rk', Rk R la ea rk' ∧ rk' x = rk' y := by
    rcases Nat.le_total (rk x) (rk y) with h | h
    · exact Rk_lift hk hxy h2 h
    · obtain ⟨q, q1, q2⟩ := Rk_lift hk (fun e => hxy e.symm) h1 h
      exact ⟨q, q1, q2.symm⟩
  obtain ⟨q, q1, q2⟩ := hq
  have hm : ∀ z, q (if z = x ∨ z = y then l else z) = q z := by
    intro z
    split
    · rename_i hz
      rcases hl with rfl | rfl <;> rcases hz with rfl | rfl <;> first | rfl | exact q2 | exact q2.symm
    · rfl
  refine ⟨q, fun r hr => ?_⟩
  rw [e1 r hr, e2 r hr, hm, hm]
  exact q1 r hr
