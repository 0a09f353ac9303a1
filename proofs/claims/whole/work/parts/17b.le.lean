/-! locals that aren't read don't matter -/
def lle : aLs → aLs → Prop
  | [], [] => True
  | none :: t, _ :: t' => lle t t'
  | some v :: t, x :: t' => x = some v ∧ lle t t'
  | _, _ => False
theorem lle_refl : ∀ ls : aLs, lle ls ls
  | [] => trivial
  | none :: t => lle_refl t
  | some _ :: t => ⟨rfl, lle_refl t⟩
theorem lle_0 : lle [] [] := trivial
theorem lle_s {v : AV} {t t' : aLs} (h : lle t t') : lle (some v :: t) (some v :: t') := ⟨rfl, h⟩
theorem lle_n {x : Option AV} {t t' : aLs} (h : lle t t') : lle (none :: t) (x :: t') := h
theorem lle_nth : ∀ {ls ls' : aLs}, lle ls ls' → ∀ {k : Nat} {v : AV}, nth ls k = some (some v) → nth ls' k = some (some v)
  | [], [], _, _, _, e => by cases e
  | none :: t, _ :: t', h, 0, _, e => by cases e
  | none :: t, _ :: t', h, k + 1, _, e => lle_nth (ls := t) (ls' := t') h (k := k) e
  | some w :: t, x :: t', h, 0, _, e => by
    have : x = some w := h.1
    subst this
    exact e
  | some w :: t, x :: t', h, k + 1, _, e => lle_nth (ls := t) (ls' := t') h.2 (k := k) e
theorem lle_ld {ls ls' : aLs} (h : lle ls ls') {k : Nat} {v : AV} (e : ld ls k = some v) : ld ls' k = some v := by
  unfold ld at e ⊢
  split at e
  · rename_i w hw
    rw [lle_nth h hw]
    exact e
  · cases e
theorem lle_lset0 : ∀ {ls ls' : aLs}, lle ls ls' → ∀ v, lle (lset ls 0 v) (lset ls' 0 v)
  | [], [], _, _ => trivial
  | none :: _, _ :: _, h, _ => ⟨rfl, h⟩
  | some _ :: _, _ :: _, h, _ => ⟨rfl, h.2⟩
theorem lle_lset : ∀ (k : Nat) {ls ls' : aLs}, lle ls ls' → ∀ v, lle (lset ls k v) (lset ls' k v)
  | 0, _, _, h, v => lle_lset0 h v
  | 1, [], [], _, _ => trivial
  | 1, none :: t, x :: t', h, v => lle_lset0 (ls := t) (ls' := t') h v
  | 1, some w :: t, x :: t', h, v => by
    have e : x = some w := h.1
    subst e
    have h2 : lle t t' := h.2
    show lle ((match some w with | some (.inr (.inl _)) => none | y => y) :: lset t 0 v) ((match some w with | some (.inr (.inl _)) => none | y => y) :: lset t' 0 v)
    split
    · exact lle_lset0 h2 v
    · exact ⟨rfl, lle_lset0 h2 v⟩
  | k + 2, [], [], _, _ => trivial
  | k + 2, none :: t, x :: t', h, v => lle_lset (k + 1) (ls := t) (ls' := t') h v
  | k + 2, some w :: t, x :: t', h, v => ⟨h.1, lle_lset (k + 1) (ls := t) (ls' := t') h.2 v⟩
theorem lle_setn : ∀ (k : Nat) {ls ls' : aLs}, lle ls ls' → lle (ls.set k none) (ls'.set k none)
  | _, [], [], _ => trivial
  | 0, none :: _, _ :: _, h => h
  | 0, some _ :: _, _ :: _, h => h.2
  | k + 1, none :: t, _ :: t', h => lle_setn k (ls := t) (ls' := t') h
  | k + 1, some _ :: t, _ :: t', h => ⟨h.1, lle_setn k (ls := t) (ls' := t') h.2⟩
theorem lle_lset2 (k : Nat) {ls ls' : aLs} (h : lle ls ls') (v : AV) : lle (lset2 ls k v) (lset2 ls' k v) := lle_setn _ (lle_lset k h v)
def Le2 (x y : Option aSp) : Prop := match x with
  | none => True
  | some (.inl (k, l, s, h)) => ∃ l', lle l l' ∧ y = some (.inl (k, l', s, h))
  | some (.inr a) => y = some (.inr a)
theorem Le2_none {y : Option aSp} : Le2 none y := trivial
theorem Le2_inr {a : (Nat × List AV × aSt) ⊕ Option AV} : Le2 (some (.inr a)) (some (.inr a)) := rfl
theorem Le2_jp {k : Nat} {l l' : aLs} {s : aSt} {h : AH} (hl : lle l l') : Le2 (jp k l s h) (jp k l' s h) := ⟨l', hl, rfl⟩
theorem Le2_gd {c : Prop} [Decidable c] {x y : Option aSp} (hx : Le2 x y) : Le2 (gd c x) (gd c y) := by
  unfold gd
  split
  · exact hx
  · exact trivial
theorem Le2_ite {c : Prop} [Decidable c] {x y x' y' : Option aSp} (hx : Le2 x y) (hx' : Le2 x' y') : Le2 (if c then x else x') (if c then y else y') := by
  split
  · exact hx
  · exact hx'
theorem Le2_br {c : Prop} [Decidable c] {x y x' y' : Option aSp} (hx : Le2 x y) (hx' : Le2 x' y') : Le2 (br c x x') (br c y y') := Le2_ite hx hx'
theorem Le2_p1I {st : aSt} {F G : Int → aSt → Option aSp} (hf : ∀ x s, Le2 (F x s) (G x s)) : Le2 (p1I st F) (p1I st G) := by
  unfold p1I
  split
  · exact hf _ _
  · exact trivial
theorem Le2_p1L {st : aSt} {F G : Int → aSt → Option aSp} (hf : ∀ x s, Le2 (F x s) (G x s)) : Le2 (p1L st F) (p1L st G) := by
  unfold p1L
  split
  · exact hf _ _
  · exact trivial
theorem Le2_p1F {st : aSt} {F G : UInt32 → aSt → Option aSp} (hf : ∀ x s, Le2 (F x s) (G x s)) : Le2 (p1F st F) (p1F st G) := by
  unfold p1F
  split
  · exact hf _ _
  · exact trivial
theorem Le2_p1Q {st : aSt} {F G : Option Nat → aSt → Option aSp} (hf : ∀ x s, Le2 (F x s) (G x s)) : Le2 (p1Q st F) (p1Q st G) := by
  unfold p1Q
  split
  · exact hf _ _
  · exact trivial
theorem Le2_p1R {st : aSt} {F G : Nat → aSt → Option aSp} (hf : ∀ x s, Le2 (F x s) (G x s)) : Le2 (p1R st F) (p1R st G) := by
  unfold p1R
  split
  · exact hf _ _
  · exact trivial
theorem Le2_p2I {st : aSt} {F G : Int → Int → aSt → Option aSp} (hf : ∀ x y s, Le2 (F x y s) (G x y s)) : Le2 (p2I st F) (p2I st G) := Le2_p1I fun _ _ => Le2_p1I fun _ _ => hf _ _ _
theorem Le2_p2L {st : aSt} {F G : Int → Int → aSt → Option aSp} (hf : ∀ x y s, Le2 (F x y s) (G x y s)) : Le2 (p2L st F) (p2L st G) := Le2_p1L fun _ _ => Le2_p1L fun _ _ => hf _ _ _
theorem Le2_p2LI {st : aSt} {F G : Int → Int → aSt → Option aSp} (hf : ∀ x y s, Le2 (F x y s) (G x y s)) : Le2 (p2LI st F) (p2LI st G) := Le2_p1I fun _ _ => Le2_p1L fun _ _ => hf _ _ _
theorem Le2_p2F {st : aSt} {F G : UInt32 → UInt32 → aSt → Option aSp} (hf : ∀ x y s, Le2 (F x y s) (G x y s)) : Le2 (p2F st F) (p2F st G) := Le2_p1F fun _ _ => Le2_p1F fun _ _ => hf _ _ _
theorem Le2_pAI {st : aSt} {F G : Nat → Int → aSt → Option aSp} (hf : ∀ x y s, Le2 (F x y s) (G x y s)) : Le2 (pAI st F) (pAI st G) := Le2_p1I fun _ _ => Le2_p1R fun _ _ => hf _ _ _
theorem Le2_ldI {ls ls' : aLs} (hl : lle ls ls') {k : Nat} {F G : Int → Option aSp} (hf : ∀ x, Le2 (F x) (G x)) : Le2 (ldI ls k F) (ldI ls' k G) := by
  unfold ldI
  split
  · rename_i x hx
    rw [lle_ld hl hx]
    exact hf _
  · exact trivial
theorem Le2_ldL {ls ls' : aLs} (hl : lle ls ls') {k : Nat} {F G : Int → Option aSp} (hf : ∀ x, Le2 (F x) (G x)) : Le2 (ldL ls k F) (ldL ls' k G) := by
  unfold ldL
  split
  · rename_i x hx
    rw [lle_ld hl hx]
    exact hf _
  · exact trivial
theorem Le2_ldF {ls ls' : aLs} (hl : lle ls ls') {k : Nat} {F G : UInt32 → Option aSp} (hf : ∀ x, Le2 (F x) (G x)) : Le2 (ldF ls k F) (ldF ls' k G) := by
  unfold ldF
  split
  · rename_i x hx
    rw [lle_ld hl hx]
    exact hf _
  · exact trivial
theorem Le2_ldR {ls ls' : aLs} (hl : lle ls ls') {k : Nat} {F G : Option Nat → Option aSp} (hf : ∀ x, Le2 (F x) (G x)) : Le2 (ldR ls k F) (ldR ls' k G) := by
  unfold ldR
  split
  · rename_i x hx
    rw [lle_ld hl hx]
    exact hf _
  · exact trivial
theorem Le2_cal {t : Nat} {st : aSt} {h : AH} : Le2 (cal t st h) (cal t st h) := by
  unfold cal
  split
  · exact Le2_gd Le2_inr
  · exact trivial
set_option maxHeartbeats 4000000 in
theorem axf_le (d : Instr) (r : Nat) (z : Int) (k : Nat) {ls ls' : aLs} (hl : lle ls ls') (st : aSt) (h : AH) : Le2 (axf d r z k ls st h) (axf d r z k ls' st h) := by
  unfold axf
  split
  all_goals (try dsimp only)
  all_goals (repeat' (first | exact Le2_none | exact Le2_inr | exact Le2_cal | exact Le2_jp hl | exact Le2_jp (lle_lset _ hl _) | exact Le2_jp (lle_lset2 _ hl _) | (refine Le2_p2I (fun _ _ _ => ?_)) | (refine Le2_p2L (fun _ _ _ => ?_)) | (refine Le2_p2LI (fun _ _ _ => ?_)) | (refine Le2_p2F (fun _ _ _ => ?_)) | (refine Le2_pAI (fun _ _ _ => ?_)) | (refine Le2_p1I (fun _ _ => ?_)) | (refine Le2_p1L (fun _ _ => ?_)) | (refine Le2_p1F (fun _ _ => ?_)) | (refine Le2_p1Q (fun _ _ => ?_)) | (refine Le2_p1R (fun _ _ => ?_)) | (refine Le2_ldI hl (fun _ => ?_)) | (refine Le2_ldL hl (fun _ => ?_)) | (refine Le2_ldF hl (fun _ => ?_)) | (refine Le2_ldR hl (fun _ => ?_)) | (refine Le2_gd ?_) | (refine Le2_br ?_ ?_) | (refine Le2_ite ?_ ?_) | split))
theorem run_lle {n : Nat} : ∀ {i k : Nat} {ls ls' : aLs} {st : aSt} {h : AH} {x : Option AV × AH}, lle ls ls' → run n i k ls st h = some x → run n i k ls' st h = some x := by
  induction n with
  | zero => intro i k ls ls' st h x _ e; cases e
  | succ n ih =>
    intro i k ls ls' st h x hl e
    rw [run_eq] at e
    rw [run_eq]
    cases hd : nth (cd i) k with
    | none => rw [hd] at e; cases e
    | some q =>
      obtain ⟨pc, d, r, z⟩ := q
      rw [hd] at e
      dsimp only at e ⊢
      have hle := axf_le d r z k hl st h
      cases ha : axf d r z k ls st h with
      | none => rw [ha] at e; cases e
      | some y =>
        rw [ha] at e hle
        rcases y with ⟨k', l1, st', h'⟩ | ⟨t, as, s⟩ | v
        · obtain ⟨l2, hl2, e2⟩ := hle
          rw [e2]
          exact ih hl2 e
        · have e2 : axf d r z k ls' st h = _ := hle
          rw [e2]
          dsimp only at e ⊢
          cases hb : run n t 0 (ent t as) [] h with
          | none => rw [hb] at e; cases e
          | some w =>
            rw [hb] at e
            exact ih hl e
        · have e2 : axf d r z k ls' st h = _ := hle
          rw [e2]
          exact e
theorem Ok.le {i k : Nat} {ls ls' : aLs} {st : aSt} {h : AH} {Q : Option AV → AH → Prop} (hl : lle ls ls') (o : Ok i k ls st h Q) : Ok i k ls' st h Q := by
  obtain ⟨n, v, h', e, q⟩ := o
  exact ⟨n, v, h', run_lle hl e, q⟩
