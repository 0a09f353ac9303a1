/-! what every run keeps: the kinds and lengths of objects -/
def PS (h h2 : AH) : Prop := nn h ≤ nn h2 ∧ ∀ o, o < nn h → sh h2 o = sh h o
theorem PS.rf (h : AH) : PS h h := ⟨Nat.le_refl _, fun _ _ => rfl⟩
theorem PS.tr {a b c : AH} (h1 : PS a b) (h2 : PS b c) : PS a c := ⟨Nat.le_trans h1.1 h2.1, fun o g => (h2.2 o (Nat.lt_of_lt_of_le g h1.1)).trans (h1.2 o g)⟩
theorem PS.si {h : AH} {o : Nat} {k v : Int} : PS h (si h o k v) := ⟨Nat.le_refl _, fun _ _ => rfl⟩
theorem PS.sl {h : AH} {o : Nat} {k v : Int} : PS h (sl h o k v) := ⟨Nat.le_refl _, fun _ _ => rfl⟩
theorem PS.sf {h : AH} {o : Nat} {k : Int} {v : UInt32} : PS h (sf h o k v) := ⟨Nat.le_refl _, fun _ _ => rfl⟩
theorem PS.sr {h : AH} {o : Nat} {k : Int} {v : Option Nat} : PS h (sr h o k v) := ⟨Nat.le_refl _, fun _ _ => rfl⟩
theorem PS.wI {h : AH} {o : Nat} {f : Int → Int} : PS h (wI h o f) := ⟨Nat.le_refl _, fun _ _ => rfl⟩
theorem PS.al {h : AH} {t : Nat} {n : Int} : PS h (al h t n) := ⟨Nat.le_succ _, fun _ g => sh_al_p g⟩
theorem PS.alf {h : AH} {n : Int} {f : Int → Int} : PS h (alf h n f) := ⟨Nat.le_succ _, fun _ g => sh_alf_p g⟩
def Ms (h : AH) (o : Option aSp) : Prop := ∀ k ls st h2, o = some (.inl (k, ls, st, h2)) → PS h h2
theorem Ms.jp {h h2 : AH} {k : Nat} {ls : aLs} {st : aSt} (p : PS h h2) : Ms h (jp k ls st h2) := by
  intro k' ls' st' h' e
  obtain ⟨-, -, -, rfl⟩ := jp_inv e
  exact p
theorem Ms.none {h : AH} : Ms h none := fun _ _ _ _ e => by cases e
theorem Ms.inr {h : AH} {x : (Nat × List AV × aSt) ⊕ Option AV} : Ms h (some (.inr x)) := fun _ _ _ _ e => by cases e
theorem Ms.gd {h : AH} {c : Prop} [Decidable c] {x : Option aSp} (p : c → Ms h x) : Ms h (gd c x) := fun k ls st h2 e => p (gd_inv e).1 k ls st h2 (gd_inv e).2
theorem Ms.br {h : AH} {c : Prop} [Decidable c] {x y : Option aSp} (p : Ms h x) (q : Ms h y) : Ms h (br c x y) := fun k ls st h2 e => by
  rcases br_inv e with ⟨-, e⟩ | ⟨-, e⟩
  · exact p k ls st h2 e
  · exact q k ls st h2 e
theorem Ms.ite {h : AH} {c : Prop} [Decidable c] {x y : Option aSp} (p : Ms h x) (q : Ms h y) : Ms h (if c then x else y) := by
  split
  · exact p
  · exact q
theorem Ms.cal {h : AH} {t : Nat} {st : aSt} : Ms h (cal t st h) := fun _ _ _ _ e => (cal_inl e).elim
theorem Ms.p1I {h : AH} {st : aSt} {f : Int → aSt → Option aSp} (p : ∀ x s, Ms h (f x s)) : Ms h (p1I st f) := fun k ls st' h2 e => by
  obtain ⟨x, s, -, e⟩ := p1I_inv e
  exact p x s k ls st' h2 e
theorem Ms.p1L {h : AH} {st : aSt} {f : Int → aSt → Option aSp} (p : ∀ x s, Ms h (f x s)) : Ms h (p1L st f) := fun k ls st' h2 e => by
  obtain ⟨x, s, -, e⟩ := p1L_inv e
  exact p x s k ls st' h2 e
theorem Ms.p1F {h : AH} {st : aSt} {f : UInt32 → aSt → Option aSp} (p : ∀ x s, Ms h (f x s)) : Ms h (p1F st f) := fun k ls st' h2 e => by
  obtain ⟨x, s, -, e⟩ := p1F_inv e
  exact p x s k ls st' h2 e
theorem Ms.p1Q {h : AH} {st : aSt} {f : Option Nat → aSt → Option aSp} (p : ∀ x s, Ms h (f x s)) : Ms h (p1Q st f) := fun k ls st' h2 e => by
  obtain ⟨x, s, -, e⟩ := p1Q_inv e
  exact p x s k ls st' h2 e
theorem Ms.p1R {h : AH} {st : aSt} {f : Nat → aSt → Option aSp} (p : ∀ x s, Ms h (f x s)) : Ms h (p1R st f) := fun k ls st' h2 e => by
  obtain ⟨x, s, -, e⟩ := p1R_inv e
  exact p x s k ls st' h2 e
theorem Ms.p2I {h : AH} {st : aSt} {f : Int → Int → aSt → Option aSp} (p : ∀ x y s, Ms h (f x y s)) : Ms h (p2I st f) := fun k ls st' h2 e => by
  obtain ⟨x, y, s, -, e⟩ := p2I_inv e
  exact p x y s k ls st' h2 e
theorem Ms.p2L {h : AH} {st : aSt} {f : Int → Int → aSt → Option aSp} (p : ∀ x y s, Ms h (f x y s)) : Ms h (p2L st f) := fun k ls st' h2 e => by
  obtain ⟨x, y, s, -, e⟩ := p2L_inv e
  exact p x y s k ls st' h2 e
theorem Ms.p2LI {h : AH} {st : aSt} {f : Int → Int → aSt → Option aSp} (p : ∀ x y s, Ms h (f x y s)) : Ms h (p2LI st f) := fun k ls st' h2 e => by
  obtain ⟨x, y, s, -, e⟩ := p2LI_inv e
  exact p x y s k ls st' h2 e
theorem Ms.p2F {h : AH} {st : aSt} {f : UInt32 → UInt32 → aSt → Option aSp} (p : ∀ x y s, Ms h (f x y s)) : Ms h (p2F st f) := fun k ls st' h2 e => by
  obtain ⟨x, y, s, -, e⟩ := p2F_inv e
  exact p x y s k ls st' h2 e
theorem Ms.pAI {h : AH} {st : aSt} {f : Nat → Int → aSt → Option aSp} (p : ∀ x y s, Ms h (f x y s)) : Ms h (pAI st f) := fun k ls st' h2 e => by
  obtain ⟨x, y, s, -, e⟩ := pAI_inv e
  exact p x y s k ls st' h2 e
theorem Ms.ldI {h : AH} {ls0 : aLs} {i : Nat} {f : Int → Option aSp} (p : ∀ x, Ms h (f x)) : Ms h (ldI ls0 i f) := fun k ls st' h2 e => by
  obtain ⟨x, -, e⟩ := ldI_inv e
  exact p x k ls st' h2 e
theorem Ms.ldL {h : AH} {ls0 : aLs} {i : Nat} {f : Int → Option aSp} (p : ∀ x, Ms h (f x)) : Ms h (ldL ls0 i f) := fun k ls st' h2 e => by
  obtain ⟨x, -, e⟩ := ldL_inv e
  exact p x k ls st' h2 e
theorem Ms.ldF {h : AH} {ls0 : aLs} {i : Nat} {f : UInt32 → Option aSp} (p : ∀ x, Ms h (f x)) : Ms h (ldF ls0 i f) := fun k ls st' h2 e => by
  obtain ⟨x, -, e⟩ := ldF_inv e
  exact p x k ls st' h2 e
theorem Ms.ldR {h : AH} {ls0 : aLs} {i : Nat} {f : Option Nat → Option aSp} (p : ∀ x, Ms h (f x)) : Ms h (ldR ls0 i f) := fun k ls st' h2 e => by
  obtain ⟨x, -, e⟩ := ldR_inv e
  exact p x k ls st' h2 e
theorem axf_sh (d : Instr) (r : Nat) (z : Int) (k : Nat) (ls : aLs) (st : aSt) (h : AH) : Ms h (axf d r z k ls st h) := by
  unfold axf
  split
  all_goals repeat' (first | exact Ms.none | exact Ms.inr | exact Ms.cal | exact Ms.jp (PS.rf h) | exact Ms.jp PS.sl | exact Ms.jp PS.sf | exact Ms.jp PS.sr | exact Ms.jp PS.al | exact Ms.jp PS.alf | exact Ms.jp PS.si | exact Ms.jp PS.wI | (refine Ms.p2I (fun _ _ _ => ?_)) | (refine Ms.p2L (fun _ _ _ => ?_)) | (refine Ms.p2LI (fun _ _ _ => ?_)) | (refine Ms.p2F (fun _ _ _ => ?_)) | (refine Ms.pAI (fun _ _ _ => ?_)) | (refine Ms.p1I (fun _ _ => ?_)) | (refine Ms.p1L (fun _ _ => ?_)) | (refine Ms.p1F (fun _ _ => ?_)) | (refine Ms.p1Q (fun _ _ => ?_)) | (refine Ms.p1R (fun _ _ => ?_)) | (refine Ms.ldI (fun _ => ?_)) | (refine Ms.ldL (fun _ => ?_)) | (refine Ms.ldF (fun _ => ?_)) | (refine Ms.ldR (fun _ => ?_)) | (refine Ms.gd (fun _ => ?_)) | (refine Ms.br ?_ ?_) | (refine Ms.ite ?_ ?_) | split)
theorem run_sh {n i k : Nat} {ls : aLs} {st : aSt} {h h' : AH} {v : Option AV} (e : run n i k ls st h = some (v, h')) : PS h h' := by
  induction n generalizing i k ls st h h' v with
  | zero => simp [run] at e
  | succ n ih =>
    rw [run_eq] at e
    cases hd : nth (cd i) k with
    | none => rw [hd] at e; cases e
    | some q =>
      obtain ⟨pc, d, r, z⟩ := q
      rw [hd] at e
      dsimp only at e
      cases ha : axf d r z k ls st h with
      | none => rw [ha] at e; cases e
      | some y =>
        rw [ha] at e
        rcases y with ⟨k', ls', st', h2⟩ | ⟨t, as, s⟩ | w
        · exact (axf_sh d r z k ls st h k' ls' st' h2 ha).tr (ih e)
        · dsimp only at e
          cases hb : run n t 0 (ent t as) [] h with
          | none => rw [hb] at e; cases e
          | some w =>
            obtain ⟨w1, w2⟩ := w
            rw [hb] at e
            exact (ih hb).tr (ih e)
        · cases e
          exact PS.rf h
/-- no call -/
theorem Ok.ps {i k : Nat} {ls : aLs} {st : aSt} {h : AH} {Q : Option AV → AH → Prop} (o : Ok i k ls st h Q) : Ok i k ls st h (fun v h' => Q v h' ∧ P0 h h' ∧ PS h h') := by
  obtain ⟨n, v, h', e, q⟩ := o
  exact ⟨n, v, h', e, q, run_pure e, run_sh e⟩
