def ent (t : Nat) (as : List AV) : aLs := pad (mMl t) (lsOf as)
def push (v : Option AV) (s : aSt) : aSt := match v with
  | some v => v :: s
  | none => s
/-- at most n steps deep -/
def run : Nat → Nat → Nat → aLs → aSt → AH → Option (Option AV × AH)
  | 0, _, _, _, _, _ => none
  | n + 1, i, k, ls, st, h => match nth (cd i) k with
    | none => none
    | some (_, d, r, z) => match axf d r z k ls st h with
      | some (.inl (k', ls', st', h')) => run n i k' ls' st' h'
      | some (.inr (.inl (t, as, s))) => match run n t 0 (ent t as) [] h with
        | some (v, h') => run n i (k + 1) ls (push v s) h'
        | none => none
      | some (.inr (.inr v)) => some (v, h)
      | none => none
theorem run_eq (n i k : Nat) (ls : aLs) (st : aSt) (h : AH) : run (n + 1) i k ls st h = (match nth (cd i) k with
    | none => none
    | some (_, d, r, z) => match axf d r z k ls st h with
      | some (.inl (k', ls', st', h')) => run n i k' ls' st' h'
      | some (.inr (.inl (t, as, s))) => match run n t 0 (ent t as) [] h with
        | some (v, h') => run n i (k + 1) ls (push v s) h'
        | none => none
      | some (.inr (.inr v)) => some (v, h)
      | none => none) := rfl
theorem run_succ {n i k : Nat} {ls : aLs} {st : aSt} {h : AH} {x : Option AV × AH} : run n i k ls st h = some x → run (n + 1) i k ls st h = some x := by
  induction n generalizing i k ls st h x with
  | zero => intro h; simp [run] at h
  | succ n ih =>
    intro e
    rw [run_eq] at e
    rw [run_eq]
    cases hd : nth (cd i) k with
    | none => rw [hd] at e; cases e
    | some q =>
      obtain ⟨pc, d, r, z⟩ := q
      rw [hd] at e
      dsimp only at e ⊢
      cases ha : axf d r z k ls st h with
      | none => rw [ha] at e; cases e
      | some y =>
        rw [ha] at e
        rcases y with ⟨k', ls', st', h'⟩ | ⟨t, as, s⟩ | v
        · exact ih e
        · dsimp only at e ⊢
          cases hb : run n t 0 (ent t as) [] h with
          | none => rw [hb] at e; cases e
          | some w =>
            rw [hb] at e
            rw [ih hb]
            exact ih e
        · exact e
theorem run_le {n m i k : Nat} {ls : aLs} {st : aSt} {h : AH} {x : Option AV × AH} (hm : n ≤ m) (e : run n i k ls st h = some x) : run m i k ls st h = some x := by
  obtain ⟨d, rfl⟩ := Nat.exists_eq_add_of_le hm
  induction d with
  | zero => exact e
  | succ d ih => exact run_succ (ih (by omega))
/-- it comes to its end, with Q -/
def Ok (i k : Nat) (ls : aLs) (st : aSt) (h : AH) (Q : Option AV → AH → Prop) : Prop := ∃ n v h', run n i k ls st h = some (v, h') ∧ Q v h'
theorem Ok.mono {i k : Nat} {ls : aLs} {st : aSt} {h : AH} {Q Q' : Option AV → AH → Prop} (o : Ok i k ls st h Q) (hq : ∀ v h', Q v h' → Q' v h') : Ok i k ls st h Q' := by
  obtain ⟨n, v, h', e, q⟩ := o
  exact ⟨n, v, h', e, hq _ _ q⟩
theorem Ok.go {i k k' pc r : Nat} {d : Instr} {z : Int} {ls ls' : aLs} {st st' : aSt} {h h' : AH} {Q : Option AV → AH → Prop} (hc : nth (cd i) k = some (pc, d, r, z)) (ha : axf d r z k ls st h = some (.inl (k', ls', st', h'))) (o : Ok i k' ls' st' h' Q) : Ok i k ls st h Q := by
  obtain ⟨n, v, h2, e, q⟩ := o
  exact ⟨n + 1, v, h2, by rw [run_eq, hc]; dsimp only; rw [ha]; exact e, q⟩
theorem Ok.ret {i k pc r : Nat} {d : Instr} {z : Int} {ls : aLs} {st : aSt} {h : AH} {v : Option AV} {Q : Option AV → AH → Prop} (hc : nth (cd i) k = some (pc, d, r, z)) (ha : axf d r z k ls st h = some (.inr (.inr v))) (q : Q v h) : Ok i k ls st h Q :=
  ⟨1, v, h, by rw [run_eq, hc]; dsimp only; rw [ha], q⟩
theorem Ok.call {i k pc r t : Nat} {d : Instr} {z : Int} {ls : aLs} {as : List AV} {st s : aSt} {h : AH} {Q : Option AV → AH → Prop} (hc : nth (cd i) k = some (pc, d, r, z)) (ha : axf d r z k ls st h = some (.inr (.inl (t, as, s))))
    (o : Ok t 0 (ent t as) [] h (fun v h' => Ok i (k + 1) ls (push v s) h' Q)) : Ok i k ls st h Q := by
  obtain ⟨n, v, h1, e, m, v2, h2, e2, q⟩ := o
  refine ⟨Nat.max n m + 1, v2, h2, ?_, q⟩
  rw [run_eq, hc]
  dsimp only
  rw [ha]
  dsimp only
  rw [run_le (Nat.le_max_left n m) e]
  exact run_le (Nat.le_max_right n m) e2
