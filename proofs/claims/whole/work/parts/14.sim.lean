/-! what every run keeps: objects and slots only grow, the script stays -/
def P0 (h h2 : AH) : Prop := nn h ≤ nn h2 ∧ us h ≤ us h2 ∧ (1 ≤ nn h → (sh h 0).1 = 9 → sh h2 0 = sh h 0 ∧ gi h2 0 = gi h 0)
theorem P0.rf (h : AH) : P0 h h := ⟨Nat.le_refl _, Nat.le_refl _, fun _ _ => ⟨rfl, rfl⟩⟩
theorem P0.tr {a b c : AH} (h1 : P0 a b) (h2 : P0 b c) : P0 a c := by
  refine ⟨Nat.le_trans h1.1 h2.1, Nat.le_trans h1.2.1 h2.2.1, fun g1 g2 => ?_⟩
  obtain ⟨e1, e2⟩ := h1.2.2 g1 g2
  obtain ⟨e3, e4⟩ := h2.2.2 (Nat.le_trans g1 h1.1) (by rw [e1]; exact g2)
  exact ⟨e3.trans e1, e4.trans e2⟩
theorem P0.si {h : AH} {o : Nat} {k v : Int} (ho : (sh h o).1 ≠ 9) : P0 h (si h o k v) := ⟨Nat.le_refl _, Nat.le_refl _, fun _ g => ⟨rfl, u2_row (fun e => ho (by rw [← e]; exact g))⟩⟩
theorem P0.sl {h : AH} {o : Nat} {k v : Int} : P0 h (sl h o k v) := ⟨Nat.le_refl _, Nat.le_refl _, fun _ _ => ⟨rfl, rfl⟩⟩
theorem P0.sf {h : AH} {o : Nat} {k : Int} {v : UInt32} : P0 h (sf h o k v) := ⟨Nat.le_refl _, Nat.le_refl _, fun _ _ => ⟨rfl, rfl⟩⟩
theorem P0.sr {h : AH} {o : Nat} {k : Int} {v : Option Nat} : P0 h (sr h o k v) := ⟨Nat.le_refl _, Nat.le_refl _, fun _ _ => ⟨rfl, rfl⟩⟩
theorem P0.wI {h : AH} {o : Nat} {f : Int → Int} (ho : (sh h o).1 ≠ 9) : P0 h (wI h o f) := ⟨Nat.le_refl _, Nat.le_refl _, fun _ g => ⟨rfl, wI_row (fun e => ho (by rw [← e]; exact g))⟩⟩
theorem P0.al {h : AH} {t : Nat} {n : Int} : P0 h (al h t n) := by
  refine ⟨Nat.le_succ _, Nat.le_add_right _ _, fun g _ => ⟨?_, ?_⟩⟩
  · show (if 0 = nn h then _ else _) = _; rw [if_neg (by omega)]
  · funext b; show (if 0 = nn h then _ else _) = _; rw [if_neg (by omega)]
theorem P0.alf {h : AH} {n : Int} {f : Int → Int} : P0 h (alf h n f) := by
  refine ⟨Nat.le_succ _, Nat.le_add_right _ _, fun g _ => ⟨?_, ?_⟩⟩
  · show (if 0 = nn h then _ else _) = _; rw [if_neg (by omega)]
  · funext b; show (if 0 = nn h then _ else _) = _; rw [if_neg (by omega)]
def Mn (h : AH) (o : Option aSp) : Prop := ∀ k ls st h2, o = some (.inl (k, ls, st, h2)) → P0 h h2
theorem Mn.jp {h h2 : AH} {k : Nat} {ls : aLs} {st : aSt} (p : P0 h h2) : Mn h (jp k ls st h2) := by
  intro k' ls' st' h' e
  obtain ⟨-, -, -, rfl⟩ := jp_inv e
  exact p
theorem Mn.none {h : AH} : Mn h none := fun _ _ _ _ e => by cases e
theorem Mn.inr {h : AH} {x : (Nat × List AV × aSt) ⊕ Option AV} : Mn h (some (.inr x)) := fun _ _ _ _ e => by cases e
theorem Mn.gd {h : AH} {c : Prop} [Decidable c] {x : Option aSp} (p : c → Mn h x) : Mn h (gd c x) := fun k ls st h2 e => p (gd_inv e).1 k ls st h2 (gd_inv e).2
theorem Mn.br {h : AH} {c : Prop} [Decidable c] {x y : Option aSp} (p : Mn h x) (q : Mn h y) : Mn h (br c x y) := fun k ls st h2 e => by
  rcases br_inv e with ⟨-, e⟩ | ⟨-, e⟩
  · exact p k ls st h2 e
  · exact q k ls st h2 e
theorem Mn.ite {h : AH} {c : Prop} [Decidable c] {x y : Option aSp} (p : Mn h x) (q : Mn h y) : Mn h (if c then x else y) := by
  split
  · exact p
  · exact q
theorem Mn.cal {h : AH} {t : Nat} {st : aSt} : Mn h (cal t st h) := fun _ _ _ _ e => (cal_inl e).elim
theorem Mn.p1I {h : AH} {st : aSt} {f : Int → aSt → Option aSp} (p : ∀ x s, Mn h (f x s)) : Mn h (p1I st f) := fun k ls st' h2 e => by
  obtain ⟨x, s, -, e⟩ := p1I_inv e
  exact p x s k ls st' h2 e
theorem Mn.p1L {h : AH} {st : aSt} {f : Int → aSt → Option aSp} (p : ∀ x s, Mn h (f x s)) : Mn h (p1L st f) := fun k ls st' h2 e => by
  obtain ⟨x, s, -, e⟩ := p1L_inv e
  exact p x s k ls st' h2 e
theorem Mn.p1F {h : AH} {st : aSt} {f : UInt32 → aSt → Option aSp} (p : ∀ x s, Mn h (f x s)) : Mn h (p1F st f) := fun k ls st' h2 e => by
  obtain ⟨x, s, -, e⟩ := p1F_inv e
  exact p x s k ls st' h2 e
theorem Mn.p1Q {h : AH} {st : aSt} {f : Option Nat → aSt → Option aSp} (p : ∀ x s, Mn h (f x s)) : Mn h (p1Q st f) := fun k ls st' h2 e => by
  obtain ⟨x, s, -, e⟩ := p1Q_inv e
  exact p x s k ls st' h2 e
theorem Mn.p1R {h : AH} {st : aSt} {f : Nat → aSt → Option aSp} (p : ∀ x s, Mn h (f x s)) : Mn h (p1R st f) := fun k ls st' h2 e => by
  obtain ⟨x, s, -, e⟩ := p1R_inv e
  exact p x s k ls st' h2 e
theorem Mn.p2I {h : AH} {st : aSt} {f : Int → Int → aSt → Option aSp} (p : ∀ x y s, Mn h (f x y s)) : Mn h (p2I st f) := fun k ls st' h2 e => by
  obtain ⟨x, y, s, -, e⟩ := p2I_inv e
  exact p x y s k ls st' h2 e
theorem Mn.p2L {h : AH} {st : aSt} {f : Int → Int → aSt → Option aSp} (p : ∀ x y s, Mn h (f x y s)) : Mn h (p2L st f) := fun k ls st' h2 e => by
  obtain ⟨x, y, s, -, e⟩ := p2L_inv e
  exact p x y s k ls st' h2 e
theorem Mn.p2LI {h : AH} {st : aSt} {f : Int → Int → aSt → Option aSp} (p : ∀ x y s, Mn h (f x y s)) : Mn h (p2LI st f) := fun k ls st' h2 e => by
  obtain ⟨x, y, s, -, e⟩ := p2LI_inv e
  exact p x y s k ls st' h2 e
theorem Mn.p2F {h : AH} {st : aSt} {f : UInt32 → UInt32 → aSt → Option aSp} (p : ∀ x y s, Mn h (f x y s)) : Mn h (p2F st f) := fun k ls st' h2 e => by
  obtain ⟨x, y, s, -, e⟩ := p2F_inv e
  exact p x y s k ls st' h2 e
theorem Mn.pAI {h : AH} {st : aSt} {f : Nat → Int → aSt → Option aSp} (p : ∀ x y s, Mn h (f x y s)) : Mn h (pAI st f) := fun k ls st' h2 e => by
  obtain ⟨x, y, s, -, e⟩ := pAI_inv e
  exact p x y s k ls st' h2 e
theorem Mn.ldI {h : AH} {ls0 : aLs} {i : Nat} {f : Int → Option aSp} (p : ∀ x, Mn h (f x)) : Mn h (ldI ls0 i f) := fun k ls st' h2 e => by
  obtain ⟨x, -, e⟩ := ldI_inv e
  exact p x k ls st' h2 e
theorem Mn.ldL {h : AH} {ls0 : aLs} {i : Nat} {f : Int → Option aSp} (p : ∀ x, Mn h (f x)) : Mn h (ldL ls0 i f) := fun k ls st' h2 e => by
  obtain ⟨x, -, e⟩ := ldL_inv e
  exact p x k ls st' h2 e
theorem Mn.ldF {h : AH} {ls0 : aLs} {i : Nat} {f : UInt32 → Option aSp} (p : ∀ x, Mn h (f x)) : Mn h (ldF ls0 i f) := fun k ls st' h2 e => by
  obtain ⟨x, -, e⟩ := ldF_inv e
  exact p x k ls st' h2 e
theorem Mn.ldR {h : AH} {ls0 : aLs} {i : Nat} {f : Option Nat → Option aSp} (p : ∀ x, Mn h (f x)) : Mn h (ldR ls0 i f) := fun k ls st' h2 e => by
  obtain ⟨x, -, e⟩ := ldR_inv e
  exact p x k ls st' h2 e
theorem axf_mono (d : Instr) (r : Nat) (z : Int) (k : Nat) (ls : aLs) (st : aSt) (h : AH) : Mn h (axf d r z k ls st h) := by
  unfold axf
  split
  all_goals repeat' (first | exact Mn.none | exact Mn.inr | exact Mn.cal | exact Mn.jp (P0.rf h) | exact Mn.jp P0.sl | exact Mn.jp P0.sf | exact Mn.jp P0.sr | exact Mn.jp P0.al | exact Mn.jp P0.alf | (refine Mn.jp (P0.si ?_); omega) | (refine Mn.jp (P0.wI ?_); omega) | (refine Mn.p2I (fun _ _ _ => ?_)) | (refine Mn.p2L (fun _ _ _ => ?_)) | (refine Mn.p2LI (fun _ _ _ => ?_)) | (refine Mn.p2F (fun _ _ _ => ?_)) | (refine Mn.pAI (fun _ _ _ => ?_)) | (refine Mn.p1I (fun _ _ => ?_)) | (refine Mn.p1L (fun _ _ => ?_)) | (refine Mn.p1F (fun _ _ => ?_)) | (refine Mn.p1Q (fun _ _ => ?_)) | (refine Mn.p1R (fun _ _ => ?_)) | (refine Mn.ldI (fun _ => ?_)) | (refine Mn.ldL (fun _ => ?_)) | (refine Mn.ldF (fun _ => ?_)) | (refine Mn.ldR (fun _ => ?_)) | (refine Mn.gd (fun _ => ?_)) | (refine Mn.br ?_ ?_) | (refine Mn.ite ?_ ?_) | split)
theorem run_pure {n i k : Nat} {ls : aLs} {st : aSt} {h h' : AH} {v : Option AV} (e : run n i k ls st h = some (v, h')) : P0 h h' := by
  induction n generalizing i k ls st h h' v with
  | zero => simp [run] at e
  | succ n ih =>
    rw [run_eq] at e
    cases hd : nth (cd i) k with
    | none => rw [hd] at e; cases e
    | some q =>
      obtain ⟨pc, d, r, z⟩ := q
      rw [hd] at e
      dsimp only at e
      cases ha : axf d r z k ls st h with
      | none => rw [ha] at e; cases e
      | some y =>
        rw [ha] at e
        rcases y with ⟨k', ls', st', h2⟩ | ⟨t, as, s⟩ | w
        · exact (axf_mono d r z k ls st h k' ls' st' h2 ha).tr (ih e)
        · dsimp only at e
          cases hb : run n t 0 (ent t as) [] h with
          | none => rw [hb] at e; cases e
          | some w =>
            obtain ⟨w1, w2⟩ := w
            rw [hb] at e
            exact (ih hb).tr (ih e)
        · cases e
          exact P0.rf h
/-- no call -/
def Nc (o : Option aSp) : Prop := ∀ x, o ≠ some (.inr (.inl x))
theorem Nc_jp {h2 : AH} {k : Nat} {ls : aLs} {st : aSt} : Nc (jp k ls st h2) := fun x e => by unfold jp at e; cases e
theorem Nc_none : Nc none := fun _ e => by cases e
theorem Nc_ret {x : Option AV} : Nc (some (.inr (.inr x))) := fun _ e => by cases e
theorem Nc_gd {c : Prop} [Decidable c] {x : Option aSp} (p : Nc x) : Nc (gd c x) := fun y e => p y (gd_inv e).2
theorem Nc_br {c : Prop} [Decidable c] {x y : Option aSp} (p : Nc x) (q : Nc y) : Nc (br c x y) := fun w e => by
  rcases br_inv e with ⟨-, e⟩ | ⟨-, e⟩
  · exact p w e
  · exact q w e
theorem Nc_ite {c : Prop} [Decidable c] {x y : Option aSp} (p : Nc x) (q : Nc y) : Nc (if c then x else y) := by
  split
  · exact p
  · exact q
theorem Nc_p1I {st : aSt} {f : Int → aSt → Option aSp} (p : ∀ x s, Nc (f x s)) : Nc (p1I st f) := fun w e => by
  obtain ⟨x, s, -, e⟩ := p1I_inv e
  exact p x s w e
theorem Nc_p1L {st : aSt} {f : Int → aSt → Option aSp} (p : ∀ x s, Nc (f x s)) : Nc (p1L st f) := fun w e => by
  obtain ⟨x, s, -, e⟩ := p1L_inv e
  exact p x s w e
theorem Nc_p1F {st : aSt} {f : UInt32 → aSt → Option aSp} (p : ∀ x s, Nc (f x s)) : Nc (p1F st f) := fun w e => by
  obtain ⟨x, s, -, e⟩ := p1F_inv e
  exact p x s w e
theorem Nc_p1Q {st : aSt} {f : Option Nat → aSt → Option aSp} (p : ∀ x s, Nc (f x s)) : Nc (p1Q st f) := fun w e => by
  obtain ⟨x, s, -, e⟩ := p1Q_inv e
  exact p x s w e
theorem Nc_p1R {st : aSt} {f : Nat → aSt → Option aSp} (p : ∀ x s, Nc (f x s)) : Nc (p1R st f) := fun w e => by
  obtain ⟨x, s, -, e⟩ := p1R_inv e
  exact p x s w e
theorem Nc_p2I {st : aSt} {f : Int → Int → aSt → Option aSp} (p : ∀ x y s, Nc (f x y s)) : Nc (p2I st f) := fun w e => by
  obtain ⟨x, y, s, -, e⟩ := p2I_inv e
  exact p x y s w e
theorem Nc_p2L {st : aSt} {f : Int → Int → aSt → Option aSp} (p : ∀ x y s, Nc (f x y s)) : Nc (p2L st f) := fun w e => by
  obtain ⟨x, y, s, -, e⟩ := p2L_inv e
  exact p x y s w e
theorem Nc_p2LI {st : aSt} {f : Int → Int → aSt → Option aSp} (p : ∀ x y s, Nc (f x y s)) : Nc (p2LI st f) := fun w e => by
  obtain ⟨x, y, s, -, e⟩ := p2LI_inv e
  exact p x y s w e
theorem Nc_p2F {st : aSt} {f : UInt32 → UInt32 → aSt → Option aSp} (p : ∀ x y s, Nc (f x y s)) : Nc (p2F st f) := fun w e => by
  obtain ⟨x, y, s, -, e⟩ := p2F_inv e
  exact p x y s w e
theorem Nc_pAI {st : aSt} {f : Nat → Int → aSt → Option aSp} (p : ∀ x y s, Nc (f x y s)) : Nc (pAI st f) := fun w e => by
  obtain ⟨x, y, s, -, e⟩ := pAI_inv e
  exact p x y s w e
theorem Nc_ldI {ls0 : aLs} {i : Nat} {f : Int → Option aSp} (p : ∀ x, Nc (f x)) : Nc (ldI ls0 i f) := fun w e => by
  obtain ⟨x, -, e⟩ := ldI_inv e
  exact p x w e
theorem Nc_ldL {ls0 : aLs} {i : Nat} {f : Int → Option aSp} (p : ∀ x, Nc (f x)) : Nc (ldL ls0 i f) := fun w e => by
  obtain ⟨x, -, e⟩ := ldL_inv e
  exact p x w e
theorem Nc_ldF {ls0 : aLs} {i : Nat} {f : UInt32 → Option aSp} (p : ∀ x, Nc (f x)) : Nc (ldF ls0 i f) := fun w e => by
  obtain ⟨x, -, e⟩ := ldF_inv e
  exact p x w e
theorem Nc_ldR {ls0 : aLs} {i : Nat} {f : Option Nat → Option aSp} (p : ∀ x, Nc (f x)) : Nc (ldR ls0 i f) := fun w e => by
  obtain ⟨x, -, e⟩ := ldR_inv e
  exact p x w e
def isInv (d : Instr) : Bool := match d with
  | .invokevirtual _ => true
  | .invokespecial _ => true
  | .invokestatic _ => true
  | _ => false
theorem axf_nocall (d : Instr) (r : Nat) (z : Int) (k : Nat) (ls : aLs) (st : aSt) (h : AH) (hd : isInv d = false) : Nc (axf d r z k ls st h) := by
  unfold axf
  split
  all_goals first | (exfalso; simp [isInv] at hd; done) | (repeat' (first | exact Nc_none | exact Nc_ret | exact Nc_jp | (refine Nc_p2I (fun _ _ _ => ?_)) | (refine Nc_p2L (fun _ _ _ => ?_)) | (refine Nc_p2LI (fun _ _ _ => ?_)) | (refine Nc_p2F (fun _ _ _ => ?_)) | (refine Nc_pAI (fun _ _ _ => ?_)) | (refine Nc_p1I (fun _ _ => ?_)) | (refine Nc_p1L (fun _ _ => ?_)) | (refine Nc_p1F (fun _ _ => ?_)) | (refine Nc_p1Q (fun _ _ => ?_)) | (refine Nc_p1R (fun _ _ => ?_)) | (refine Nc_ldI (fun _ => ?_)) | (refine Nc_ldL (fun _ => ?_)) | (refine Nc_ldF (fun _ => ?_)) | (refine Nc_ldR (fun _ => ?_)) | (refine Nc_gd ?_) | (refine Nc_br ?_ ?_) | (refine Nc_ite ?_ ?_) | split))
/-! calls, returns, whole runs -/
theorem word_warm {w : Cond} {args a' : Array Value} {s U : State} (hk : wkind w = true) (hW : s.WarmedH U.vm) (h : w.before args s = true) : w.before a' U = true := by
  unfold wkind at hk
  split at hk
  · exact va_Nw.use rfl (va_Nw.warmF hW (va_Nw.of rfl h))
  · exact va_Nw.use rfl (va_Nw.warmM hW (va_Nw.of rfl h))
  · exact va_Nw.use rfl (va_Nw.warmC hW (va_Nw.of rfl h))
  · exact va_AO.use (va_AO.moved hW.alike (va_AO.of h))
  · exact word_at hW (good_of_word hk) h
def Wds (U : State) : Prop := ∀ w ∈ lw_tbl, wkind w = true → w.before #[] U = true
def PcA (E : EE) (ad : Nat → Nat) (as : List AV) (h : AH) (sz : Nat) : Array Value → State → Prop := va_Pc (as.map (cv ad)) (fun U => U.heap.size = sz ∧ Wds U ∧ va_K E.1 vwCl (tysE E) U ∧ va_P E.1 vwCl (wl E ad h) U.heap ∧ va_D (fun _ => True) (wl E ad h) ∧ va_X (ad 0) (sh h 0).2.toNat (fun j : Nat => Int32.ofInt (gi h 0 j)) U U.heap ∧ (∀ o, 1 ≤ o → o < nn h → ad o ≠ ad 0) ∧ ad 0 < sz)
def QcA (E : EE) (ad : Nat → Nat) (h : AH) (sz : Nat) (v : Option AV) (h' : AH) : Array Value → State → Outcome → State → Prop := fun _ st oc t => ∃ ad' : Nat → Nat, okh h' ∧ (∀ x, v = some x → okv (nn h') x) ∧ (∀ o, o < nn h → ad' o = ad o) ∧ oc = .returned (v.map (cv ad')) ∧ va_P E.1 vwCl (wl E ad' h') t.heap ∧ va_D (va_A (wl E ad h) sz) (wl E ad' h') ∧ sz ≤ t.heap.size ∧ ∀ q : Nat, q < sz → ¬ va_A (wl E ad h) sz q → t.heap[q]? = st.heap[q]?
def MetA (l : Launch) (t : Nat) (as : List AV) (h : AH) (v : Option AV) (h' : AH) : Prop := ∀ (E : EE) (ad : Nat → Nat) (sz : Nat), Met l (mY t) [Cond.code (mY t) (mC t) (mMl t) (mR t)] { frames := (mI t).2.2.1, cells := nn h' - nn h, slots := us h' - us h, locals := (mI t).2.2.2 } (PcA E ad as h sz) (QcA E ad h sz v h') (nn h' - nn h) (us h' - us h) (va_A (wl E ad h) sz)
theorem PcA_blind {E : EE} {ad : Nat → Nat} {as : List AV} {h : AH} {sz : Nat} : FrameBlind (PcA E ad as h sz) := by
  intro a U g mk q
  obtain ⟨q0, q1, q2, q3, q4, q5, q6, q7, q8⟩ := q
  exact ⟨q0, q1, fun w hw hk => word_warm (U := U.calling g mk a) hk (State.WarmedH.refl U) (q2 w hw hk), va_K.moved (u := U) (U := U.calling g mk a) (Vm.Alike.refl U.vm) q3, q4, q5, va_X.moved (u := U) (U := U.calling g mk a) (Vm.Alike.refl U.vm) q6, q7, q8⟩
theorem tk_inv : ∀ (n : Nat) (acc : List AV) (st : aSt) (as : List AV) (s : aSt), tk n acc st = some (as, s) → ∃ xs, xs.length = n ∧ st = xs ++ s ∧ as = xs.reverse ++ acc
  | 0, acc, st, as, s, h => by
    simp only [tk, Option.some.injEq, Prod.mk.injEq] at h
    exact ⟨[], rfl, h.2, h.1.symm⟩
  | n + 1, acc, [], as, s, h => by simp [tk] at h
  | n + 1, acc, v :: st, as, s, h => by
    obtain ⟨xs, h1, h2, h3⟩ := tk_inv n (v :: acc) st as s h
    refine ⟨v :: xs, by simp [h1], by rw [h2]; rfl, by rw [h3]; simp⟩
theorem cal_inv {t t' : Nat} {st s : aSt} {as : List AV} {h : AH} (e : cal t st h = some (.inr (.inl (t', as, s)))) : t' = t ∧ st = as.reverse ++ s ∧ as.length = mNa t ∧ cats s ≤ 8 ∧ cats as ≤ mMl t ∧ rcv h t as = true := by
  unfold cal at e
  split at e
  · rename_i as1 s1 htk
    obtain ⟨⟨h1, h2, h3⟩, e⟩ := gd_inv e
    simp only [Option.some.injEq, Sum.inr.injEq, Sum.inl.injEq, Prod.mk.injEq] at e
    obtain ⟨rfl, rfl, rfl⟩ := e
    obtain ⟨xs, e1, e2, e3⟩ := tk_inv _ _ _ _ _ htk
    rw [List.append_nil] at e3
    subst e3
    exact ⟨rfl, by rw [List.reverse_reverse]; exact e2, by rw [List.length_reverse]; exact e1, h1, h2, h3⟩
  · cases e
/-- a call, once the callee's run is known -/
theorem call_ok {p : Program} {l : Launch} {e : Env} {R : Room} {s : State} {m : MethodId} {args : Array Value} {below : List Frame} {meth : Method} {c : Code} {Q : State → Prop} {E : EE} {A : Nat → Prop} {H0 : Heap} {i n0 u0 k pc r : Nat} {d : Instr} {z : Int} {ls : aLs} {st s1 : aSt} {h h1 : AH} {t : Nat} {as : List AV} {v : Option AV} {ad : Nat → Nat} {H : Heap} {locs : List Loc} {cl : Array Slot} {pc2 : Nat} {q2 : Instr × Nat × Int}
    (C : Cx i R p s m args meth c) (hi : i < 300) (hd : nth (cd i) k = some (pc, d, r, z)) (ha : axf d r z k ls st h = some (.inr (.inl (t, as, s1)))) (hk2 : nth (cd i) (k + 1) = some (pc2, q2)) (hh : okh h) (hs : oks (nn h) st) (hR : Rl E ad h A H0 H locs s) (hlv : lvr ad ls cl (mMl i)) (hn0 : n0 ≤ nn h) (hu0 : u0 ≤ us h)
    (hP0 : P0 h h1) (hcells : nn h1 - n0 ≤ R.cells) (hslots : us h1 - u0 ≤ R.slots) (hM : MetA l t as h v h1)
    (KK : ∀ (ad2 : Nat → Nat) (H2 : Heap) (locs2 : List Loc), okh h1 → (∀ x, v = some x → okv (nn h1) x) → (∀ o, o < nn h → ad2 o = ad o) → Rl E ad2 h1 A H0 H2 locs2 s → W p l e R s m args below meth c H2 locs2 (nn h1 - n0) (us h1 - u0) Q (F0 m pc2 cl ((v.map (cv ad2)).toList ++ s1.map (cv ad)))) :
    W p l e R s m args below meth c H locs (nn h - n0) (us h - u0) Q (F0 m pc cl (st.map (cv ad))) := by
  obtain ⟨hx, hb, hml, hown, hts, hfr, hlo, hin⟩ := C
  obtain ⟨-, hE2, hck⟩ := eok_all i k hi pc _ r z hd
  have hR0 := hR
  obtain ⟨rK, rP, rD, rS, rA, rX, rb, rn⟩ := hR
  have hszH : H0.size ≤ H.size := rS.1
  obtain ⟨hn1, hu1, -⟩ := id hP0
  -- what the callee is handed
  have hpre : ∀ U : State, U.heap = H → s.WarmedH U.vm → PcA E ad as h H.size (as.map (cv ad)).toArray U := by
    intro U hU hW
    refine ⟨rfl, by rw [hU], fun w hw hk => word_warm hk hW (hts w hw hk), va_K.moved hW.alike rK, by rw [hU]; exact rP, rD.weaken (fun _ _ _ _ => trivial), ?_, fun o h1 h2 e0 => rn ?_, Nat.lt_of_lt_of_le rb hszH⟩
    · exact (va_X.moved hW.alike rX).kept (by rw [hU]; exact rS.2.1 _ rb rn)
    · rw [← e0]
      exact rD.2 _ _ (wl_at h1 h2)
  have hAA : ∀ q, va_A (wl E ad h) H.size q → A q := by
    rintro q (⟨k, e, hq⟩ | hq)
    · exact rD.2 _ _ hq
    · exact rA q (Nat.le_trans hszH hq)
  -- what comes back
  have back : ∀ rest : List Value, rest = s1.map (cv ad) → ∀ Qv, va_Run p l e R s m args below meth c H locs (nn h - n0) (us h - u0) (nn h1 - nn h) (us h1 - us h) (F0 m pc cl (st.map (cv ad))) rest (QcA E ad h H.size v h1 Qv) (va_A (wl E ad h) H.size) → pc2 = pc + 3 →
      W p l e R s m args below meth c H locs (nn h - n0) (us h - u0) Q (F0 m pc cl (st.map (cv ad))) := by
    intro rest hrest Qv hrun hpc T hT X
    obtain ⟨v', st₀, t', T', L, h0, X', hL, e1, e2, ⟨ad2, b01, b02, a1, a2, a3, a4, a5, a6⟩, stp⟩ := hrun T hT X
    rw [show nn h - n0 + (nn h1 - nn h) = nn h1 - n0 by omega, show us h - u0 + (us h1 - us h) = us h1 - u0 by omega] at X'
    have hv : v' = v.map (cv ad2) := Outcome.returned.inj a2
    have hR2 : Rl E ad2 h1 A H0 T'.heap (locs ++ L) s := by
      have ad0 : ad2 0 = ad 0 := a1 0 hh.1
      refine ⟨rK, by rw [e1]; exact a3, a4.weaken (fun _ q _ hq => hAA q.1 hq), ⟨Nat.le_trans hszH (by rw [e1]; exact a5), fun q h1 h2 => ?_, fun q hq => ?_⟩, rA, ?_, by rw [ad0]; exact rb, by rw [ad0]; exact rn⟩
      · rw [e1, a6 q (Nat.lt_of_lt_of_le h1 hszH) (fun z => h2 (hAA q z)), h0]
        exact rS.2.1 q h1 h2
      · rcases List.mem_append.mp hq with hq | hq
        · exact rS.2.2 q hq
        · exact hAA _ (hL q hq)
      · obtain ⟨x1, x2⟩ := hP0.2.2 hh.1 hh.2.1
        rw [ad0, x1, x2]
        exact rX
    obtain ⟨t2, b1, b2⟩ := KK ad2 T'.heap (locs ++ L) b01 b02 a1 hR2 T' rfl X'
    refine ⟨t2, stp t2 ?_, b2⟩
    rw [hrest, hv]
    subst hpc
    exact b1
  have hcl : nn h - n0 + (nn h1 - nn h) ≤ R.cells ∧ us h - u0 + (us h1 - us h) ≤ R.slots := ⟨by omega, by omega⟩
  -- the words
  have all : ∀ {y : MethodName} {x : Nat}, ∀ {cc : ByteArray} {mL : Nat} {rt : Option FieldType}, Cond.code y cc mL rt ∈ lw_tbl → ∀ w ∈ [Cond.code y cc mL rt], ∀ (a' : Array Value) (U : State), s.WarmedH U.vm → w.before a' U = true := by
    intro y x cc mL rt hm w hw a' U hW
    rw [List.mem_singleton.mp hw]
    exact word_warm rfl hW (hts _ hm rfl)
  have sz0 : cl.size = mMl i := hlv.1.1
  have hWr : ∀ s2 : aSt, cats s2 ≤ 8 → ((s2.map (cv ad)).map fun v => v.category).sum ≤ 8 := fun s2 h2 => by rw [cats_sum]; exact h2
  have main : ∀ x : Nat, d = .invokevirtual x ∨ d = .invokespecial x ∨ d = .invokestatic x → cal r st h = some (.inr (.inl (t, as, s1))) → ((mI i).1, x, r) ∈ cpM → room i r = true → (d = .invokevirtual x → (mI r).2.1 = 1) → (d = .invokespecial x → (mI r).2.1 = 2) → (d = .invokestatic x → (mI r).2.1 = 3) →
      W p l e R s m args below meth c H locs (nn h - n0) (us h - u0) Q (F0 m pc cl (st.map (cv ad))) := by
    intro x hdd hc hm hrm hk1 hk2' hk3
    obtain ⟨rfl, hst, hna, hca, hcm, hrc⟩ := cal_inv hc
    have hx0 := xok_all _ hm
    unfold XOK at hx0
    simp only at hx0
    obtain ⟨hlt, hlink⟩ := hx0
    obtain ⟨m1, m2, m3, m4, m5, m6, m7⟩ := mok_all _ hlt
    simp only [room, Bool.and_eq_true, decide_eq_true_eq] at hrm
    have hsw : isSw d = false := by rcases hdd with rfl | rfl | rfl <;> rfl
    obtain ⟨hdec, hnx⟩ := hE2 hsw
    have hpc : pc2 = pc + 3 := by
      have := hnx _ _ hk2
      rcases hdd with rfl | rfl | rfl <;> exact this
    have hln : ∀ nr : Nat, (mI t).2.1 ≠ 3 ∧ nr + 1 = mNa t ∨ (mI t).2.1 = 3 ∧ nr = mNa t → ∀ sig, parseMethodDescriptor (mY t).desc = some sig → nr = sig.parameters.length := by
      intro nr hnr sig hsg
      rw [hsg] at m6
      simp only [Option.map_some, Option.some.injEq] at m6
      rcases hnr with ⟨g1, g2⟩ | ⟨g1, g2⟩
      · rw [if_neg g1] at m6; omega
      · rw [if_pos g1] at m6; omega
    have recvOf : mRc t = 10 + (mI t).1 → (mI t).1 < 13 → ∃ o as', as = vR (some o) :: as' ∧ 1 ≤ o ∧ o < nn h ∧ (sh h o).1 = 10 + (mI t).1 := by
      intro g1 g2
      unfold rcv at hrc
      rw [if_neg (by omega)] at hrc
      split at hrc
      · rename_i o as'
        have htag : (sh h o).1 = mRc t := by simpa using hrc
        have hoN : o < nn h := by
          have := hs (vR (some o)) (by rw [hst]; simp)
          exact this o rfl
        refine ⟨o, as', rfl, ?_, hoN, by rw [htag, g1]⟩
        rcases Nat.eq_zero_or_pos o with h0 | h0
        · subst h0
          have := hh.2.1
          omega
        · exact h0
      · cases hrc
    have B0 : ({ frames := (mI t).2.2.1, cells := nn h1 - nn h, slots := us h1 - us h, locals := (mI t).2.2.2 } : Room).frames + 1 ≤ R.frames ∧ 8 + (mMl t + 11) + ({ frames := (mI t).2.2.1, cells := nn h1 - nn h, slots := us h1 - us h, locals := (mI t).2.2.2 } : Room).locals ≤ R.locals := ⟨Nat.le_trans hrm.1 hfr, Nat.le_trans hrm.2 hlo⟩
    have Fx : CallFix p m c (mC i) (mMl i) s args [] (cnm (mI i).1) := ⟨hx, hb, hml, hown, fun w hw => absurd hw List.not_mem_nil⟩
    rcases m7 with ⟨g1, g2, g3, g4, g5⟩ | ⟨g1, g2, g3, g4, g5, g6⟩ | ⟨g1, g2, g3⟩
    · -- a method of an object
      obtain ⟨o, as', rfl, ho1, hoN, hot⟩ := recvOf g2 g3
      have hdv : d = .invokevirtual x := by
        rcases hdd with rfl | rfl | rfl
        · rfl
        · have := hk2' rfl; omega
        · have := hk3 rfl; omega
      subst hdv
      have he := wl_at (E := E) (ad := ad) ho1 hoN
      rw [ob_c hot] at he
      obtain ⟨C, T, N, ty, c1, c2, -⟩ := cls_ok _ g3
      have hcls : (mY t).cls = C := by rw [m1, c2]
      have hrv := va_recv rK rP (ci := (mI t).1) (q0 := o - 1) c1 he
      simp only at hrv
      have hstk : st.map (cv ad) = (as'.map (cv ad)).reverse ++ .ref (ad o) :: s1.map (cv ad) := by
        rw [hst]
        simp only [List.reverse_cons, List.append_assoc, List.map_append, List.map_cons, List.map_nil, List.map_reverse, List.singleton_append, cv, Option.map_some, va_rf, List.cons_append, List.nil_append]
      have hal : (as'.map (cv ad)).length + 1 = mNa t := by rw [List.length_map]; rw [List.length_cons] at hna; exact hna
      rcases hlink with hlink | ⟨host, hlink⟩
      · refine back (s1.map (cv ad)) rfl _ (va_runV (As := as'.map (cv ad)) (n := (as'.map (cv ad)).length) (C := C) Fx (hM E ad H.size) ⟨⟨rfl, rfl, B0.1, B0.2, all (x := 0) m2, List.mem_singleton.mpr rfl, hts _ m2 rfl, hts _ m3 rfl, m5, hln _ (Or.inl ⟨by omega, hal⟩), hts _ hlink rfl⟩, hts _ g4 rfl, by rw [← hcls]; exact hts _ g5 rfl⟩ ⟨PcA_blind, hrv, hpre⟩ rfl rfl sz0 hstk (lv_room (hWr s1 hca)) hdec hcl) hpc
      · refine back (s1.map (cv ad)) rfl _ (va_runVN (As := as'.map (cv ad)) (n := (as'.map (cv ad)).length) (C := C) Fx (hM E ad H.size) ⟨⟨⟨rfl, rfl, B0.1, B0.2, all (x := 0) m2, List.mem_singleton.mpr rfl⟩, hts _ m2 rfl, hts _ m3 rfl, m5, hln _ (Or.inl ⟨by omega, hal⟩), hts _ hlink rfl⟩, hts _ g4 rfl, by rw [← hcls]; exact hts _ g5 rfl⟩ ⟨PcA_blind, hrv, hpre⟩ rfl rfl sz0 hstk (lv_room (hWr s1 hca)) hdec hcl) hpc
    · -- a constructor
      obtain ⟨o, as', rfl, ho1, hoN, hot⟩ := recvOf g2 g3
      have hdv : d = .invokespecial x := by
        rcases hdd with rfl | rfl | rfl
        · have := hk1 rfl; omega
        · rfl
        · have := hk3 rfl; omega
      subst hdv
      have hstk : st.map (cv ad) = (as'.map (cv ad)).reverse ++ .ref (ad o) :: s1.map (cv ad) := by
        rw [hst]
        simp only [List.reverse_cons, List.append_assoc, List.map_append, List.map_cons, List.map_nil, List.map_reverse, List.singleton_append, cv, Option.map_some, va_rf, List.cons_append, List.nil_append]
      have hal : (as'.map (cv ad)).length + 1 = mNa t := by rw [List.length_map]; rw [List.length_cons] at hna; exact hna
      have hM2 := hM E ad H.size
      rw [g5] at hM2
      rw [g5] at m2
      rcases hlink with hlink | ⟨host, hlink⟩
      · refine back (s1.map (cv ad)) rfl _ (va_runI (As := as'.map (cv ad)) (n := (as'.map (cv ad)).length) Fx hM2 ⟨⟨rfl, rfl, B0.1, B0.2, all (x := 0) m2, List.mem_singleton.mpr rfl, hts _ m2 rfl, hts _ m3 rfl, m5, hln _ (Or.inl ⟨by omega, hal⟩), hts _ hlink rfl⟩, g4, hts _ g6 rfl⟩ ⟨PcA_blind, hpre⟩ rfl rfl sz0 hstk (lv_room (hWr s1 hca)) hdec hcl) hpc
      · refine back (s1.map (cv ad)) rfl _ (va_runIN (As := as'.map (cv ad)) (n := (as'.map (cv ad)).length) Fx hM2 ⟨⟨⟨rfl, rfl, B0.1, B0.2, all (x := 0) m2, List.mem_singleton.mpr rfl⟩, hts _ m2 rfl, hts _ m3 rfl, m5, hln _ (Or.inl ⟨by omega, hal⟩), hts _ hlink rfl⟩, g4, hts _ g6 rfl⟩ ⟨PcA_blind, hpre⟩ rfl rfl sz0 hstk (lv_room (hWr s1 hca)) hdec hcl) hpc
    · -- a static method
      have hdv : d = .invokestatic x := by
        rcases hdd with rfl | rfl | rfl
        · have := hk1 rfl; omega
        · have := hk2' rfl; omega
        · rfl
      subst hdv
      have hstk : st.map (cv ad) = (as.map (cv ad)).reverse ++ s1.map (cv ad) := by
        rw [hst, List.map_append, List.map_reverse]
      have hal : (as.map (cv ad)).length = mNa t := by rw [List.length_map]; exact hna
      rcases hlink with hlink | ⟨host, hlink⟩
      · refine back (s1.map (cv ad)) rfl _ (va_runS (As := as.map (cv ad)) (n := (as.map (cv ad)).length) Fx (hM E ad H.size) ⟨⟨rfl, rfl, B0.1, B0.2, all (x := 0) m2, List.mem_singleton.mpr rfl, hts _ m2 rfl, hts _ m3 rfl, m5, hln _ (Or.inr ⟨by omega, hal⟩), hts _ hlink rfl⟩, hts _ g3 rfl⟩ ⟨PcA_blind, hpre⟩ rfl rfl sz0 hstk (lv_room (hWr s1 hca)) hdec hcl) hpc
      · refine back (s1.map (cv ad)) rfl _ (va_runSN (As := as.map (cv ad)) (n := (as.map (cv ad)).length) Fx (hM E ad H.size) ⟨⟨⟨rfl, rfl, B0.1, B0.2, all (x := 0) m2, List.mem_singleton.mpr rfl⟩, hts _ m2 rfl, hts _ m3 rfl, m5, hln _ (Or.inr ⟨by omega, hal⟩), hts _ hlink rfl⟩, hts _ g3 rfl, trivial⟩ ⟨PcA_blind, hpre⟩ rfl rfl sz0 hstk (lv_room (hWr s1 hca)) hdec hcl) hpc
  cases hiv : isInv d with
  | false => exact absurd ha (axf_nocall d r z k ls st h hiv _)
  | true =>
    cases d with
    | invokevirtual x =>
      dsimp only [axf] at ha
      simp only [ckS] at hck
      by_cases hr : r = 1007
      · rw [if_pos hr] at ha
        exact absurd ha ((Nc_p1R (fun _ _ => Nc_gd Nc_jp)) _)
      · rw [if_neg hr] at ha hck
        simp only [Bool.and_eq_true, decide_eq_true_eq] at hck
        exact main x (Or.inl rfl) ha hck.1.1 hck.2 (fun _ => hck.1.2) (fun e => by cases e) (fun e => by cases e)
    | invokespecial x =>
      dsimp only [axf] at ha
      simp only [ckS] at hck
      by_cases hr : r = 1000
      · rw [if_pos hr] at ha
        exact absurd ha ((Nc_p1R (fun _ _ => Nc_gd Nc_jp)) _)
      · rw [if_neg hr] at ha hck
        simp only [Bool.and_eq_true, decide_eq_true_eq] at hck
        exact main x (Or.inr (Or.inl rfl)) ha hck.1.1 hck.2 (fun e => by cases e) (fun _ => hck.1.2) (fun e => by cases e)
    | invokestatic x =>
      dsimp only [axf] at ha
      simp only [ckS] at hck
      by_cases h1 : r = 1001
      · rw [if_pos h1] at ha
        exact absurd ha ((Nc_p2I (fun _ _ _ => Nc_gd Nc_jp)) _)
      rw [if_neg h1] at ha
      by_cases h2 : r = 1002
      · rw [if_pos h2] at ha
        exact absurd ha ((Nc_p2I (fun _ _ _ => Nc_gd Nc_jp)) _)
      rw [if_neg h2] at ha
      by_cases h3 : r = 1003
      · rw [if_pos h3] at ha
        exact absurd ha ((Nc_p1I (fun _ _ => Nc_gd Nc_jp)) _)
      rw [if_neg h3] at ha
      by_cases h4 : r = 1006
      · rw [if_pos h4] at ha
        exact absurd ha ((Nc_p1I (fun _ _ => Nc_gd Nc_jp)) _)
      rw [if_neg h4] at ha
      by_cases h5 : r = 1008
      · rw [if_pos h5] at ha
        exact absurd ha ((Nc_p1I (fun _ _ => Nc_pAI (fun _ _ _ => Nc_pAI (fun _ _ _ => Nc_gd Nc_jp)))) _)
      rw [if_neg h5] at ha
      rw [if_neg (by omega), if_neg h4, if_neg h5] at hck
      simp only [Bool.and_eq_true, decide_eq_true_eq] at hck
      exact main x (Or.inr (Or.inr rfl)) ha hck.1.1 hck.2 (fun e => by cases e) (fun e => by cases e) (fun _ => hck.1.2)
    | _ => cases hiv
