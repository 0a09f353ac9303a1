/-! numbers -/
def R32 (z : Int) : Prop := -2147483648 ≤ z ∧ z < 2147483648
def R64 (z : Int) : Prop := -9223372036854775808 ≤ z ∧ z < 9223372036854775808
theorem w32_of {z : Int} (h : R32 z) : w32 z = z := by
  unfold R32 at h
  unfold w32
  rw [Int.bmod_eq_of_le] <;> omega
theorem w64_of {z : Int} (h : R64 z) : w64 z = z := by
  unfold R64 at h
  unfold w64
  rw [Int.bmod_eq_of_le] <;> omega
theorem w32_rng (z : Int) : R32 (w32 z) := by
  unfold R32 w32
  have h1 := Int.le_bmod (x := z) (m := 4294967296) (by decide)
  have h2 := Int.bmod_lt (x := z) (m := 4294967296) (by decide)
  omega
theorem w64_rng (z : Int) : R64 (w64 z) := by
  unfold R64 w64
  have h1 := Int.le_bmod (x := z) (m := 18446744073709551616) (by decide)
  have h2 := Int.bmod_lt (x := z) (m := 18446744073709551616) (by decide)
  omega
theorem i32_toInt {z : Int} (h : R32 z) : (Int32.ofInt z).toInt = z := by
  have := w32_of h
  unfold w32 at this
  rw [Int32.toInt_ofInt]
  exact this
theorem i64_toInt {z : Int} (h : R64 z) : (Int64.ofInt z).toInt = z := by
  have := w64_of h
  unfold w64 at this
  rw [Int64.toInt_ofInt]
  exact this
theorem i32_rng (x : Int32) : R32 x.toInt := ⟨Int32.le_toInt x, Int32.toInt_lt x⟩
theorem i64_rng (x : Int64) : R64 x.toInt := ⟨Int64.le_toInt x, Int64.toInt_lt x⟩
theorem i32_w (z : Int) : Int32.ofInt (w32 z) = Int32.ofInt z := by
  rw [← Int32.toInt_inj, Int32.toInt_ofInt, Int32.toInt_ofInt]
  unfold w32
  exact Int.bmod_bmod
theorem i64_w (z : Int) : Int64.ofInt (w64 z) = Int64.ofInt z := by
  rw [← Int64.toInt_inj, Int64.toInt_ofInt, Int64.toInt_ofInt]
  unfold w64
  exact Int.bmod_bmod
theorem i32_lt {x y : Int} (hx : R32 x) (hy : R32 y) : Int32.ofInt x < Int32.ofInt y ↔ x < y := by
  rw [Int32.lt_iff_toInt_lt, i32_toInt hx, i32_toInt hy]
theorem i32_le {x y : Int} (hx : R32 x) (hy : R32 y) : Int32.ofInt x ≤ Int32.ofInt y ↔ x ≤ y := by
  rw [Int32.le_iff_toInt_le, i32_toInt hx, i32_toInt hy]
theorem i32_eq {x y : Int} (hx : R32 x) (hy : R32 y) : Int32.ofInt x = Int32.ofInt y ↔ x = y := by
  rw [← Int32.toInt_inj, i32_toInt hx, i32_toInt hy]
theorem i64_lt {x y : Int} (hx : R64 x) (hy : R64 y) : Int64.ofInt x < Int64.ofInt y ↔ x < y := by
  rw [Int64.lt_iff_toInt_lt, i64_toInt hx, i64_toInt hy]
theorem i64_eq {x y : Int} (hx : R64 x) (hy : R64 y) : Int64.ofInt x = Int64.ofInt y ↔ x = y := by
  rw [← Int64.toInt_inj, i64_toInt hx, i64_toInt hy]
theorem r32_0 : R32 0 := ⟨by decide, by decide⟩
theorem i32_0 : Int32.ofInt 0 = 0 := by decide
theorem i32_clamp {z : Int} (h : R32 z) : (Int32.ofInt z).toNatClampNeg = z.toNat := by
  show (Int32.ofInt z).toInt.toNat = z.toNat
  rw [i32_toInt h]
theorem i32_in {z : Int} {n : Nat} (h : R32 z) (h1 : 0 ≤ z) (h2 : z < n) : vp_in (Int32.ofInt z) n := by
  rw [vp_in_iff, i32_toInt h]
  exact ⟨h1, h2⟩
theorem i32_nneg {z : Int} (h : R32 z) (h1 : 0 ≤ z) : ¬ Int32.ofInt z < 0 := by
  rw [← i32_0, i32_lt h r32_0]
  omega
theorem i32_ext {z : Int} (h : R32 z) : (Int32.ofInt z).toInt64 = Int64.ofInt z := by
  rw [← Int64.toInt_inj, Int32.toInt_toInt64, i32_toInt h, i64_toInt ⟨by unfold R32 at h; omega, by unfold R32 at h; omega⟩]
theorem i64_cut {z : Int} : (Int64.ofInt z).toInt32 = Int32.ofInt (w32 z) := by
  rw [i32_w]
  exact Int64.toInt32_ofInt
def wkind (w : Cond) : Bool := match w with
  | .fieldLinkNest .. => true
  | .methodLinkNest .. => true
  | .castable .. => true
  | .arrayOver (.object _) => true
  | w => goodWord w
theorem uws_k {C : String} {T : u_T} {N : Nat} : ∀ w ∈ u_ws C T N, wkind w = true := by
  intro w hw
  obtain ⟨k, -, rfl⟩ := List.mem_map.mp hw
  unfold u_lay
  split <;> rfl
/-! values, heaps -/
def cv (ad : Nat → Nat) (v : AV) : Value := match v with
  | .inl z => .int (Int32.ofInt z)
  | .inr (.inl z) => .long (Int64.ofInt z)
  | .inr (.inr (.inl u)) => .float u
  | .inr (.inr (.inr r)) => va_rf (r.map ad)
/-- a value as it may stand among n objects -/
def okv (n : Nat) (v : AV) : Prop := match v with
  | .inl z => R32 z
  | .inr (.inl z) => R64 z
  | .inr (.inr (.inl _)) => True
  | .inr (.inr (.inr r)) => ∀ a, r = some a → a < n
def oks (n : Nat) (st : aSt) : Prop := ∀ v ∈ st, okv n v
def okl (n : Nat) (ls : aLs) : Prop := ∀ k v, ld ls k = some v → okv n v
def okt (q : Nat × Int) : Prop := (q.1 < 5 ∧ 0 ≤ q.2 ∧ q.2 ≤ 1000000) ∨ (10 ≤ q.1 ∧ q.1 < 23)
def okh (h : AH) : Prop := 1 ≤ nn h ∧ (sh h 0).1 = 9 ∧ 0 ≤ (sh h 0).2 ∧ (sh h 0).2 ≤ 1000000 ∧ (∀ o k, R32 (gi h o k)) ∧ (∀ o k, R64 (gl h o k)) ∧ (∀ o k a, gr h o k = some a → a < nn h) ∧ ∀ o, 1 ≤ o → o < nn h → okt (sh h o)
theorem okv_le {n n' : Nat} (hn : n ≤ n') {v : AV} (h : okv n v) : okv n' v := by
  rcases v with z | z | u | r
  · exact h
  · exact h
  · trivial
  · exact fun a e => Nat.lt_of_lt_of_le (h a e) hn
theorem oks_le {n n' : Nat} (hn : n ≤ n') {st : aSt} (h : oks n st) : oks n' st := fun v hv => okv_le hn (h v hv)
theorem okl_le {n n' : Nat} (hn : n ≤ n') {ls : aLs} (h : okl n ls) : okl n' ls := fun k v hv => okv_le hn (h k v hv)
theorem oks_cons {n : Nat} {v : AV} {st : aSt} : oks n (v :: st) ↔ okv n v ∧ oks n st := by
  constructor
  · exact fun h => ⟨h v List.mem_cons_self, fun w hw => h w (List.mem_cons_of_mem _ hw)⟩
  · rintro ⟨h1, h2⟩ w hw
    rcases List.mem_cons.mp hw with rfl | hw
    · exact h1
    · exact h2 w hw
theorem cv_eq {ad ad' : Nat → Nat} {n : Nat} (hn : ∀ o, o < n → ad' o = ad o) {v : AV} (h : okv n v) : cv ad' v = cv ad v := by
  rcases v with z | z | u | r
  · rfl
  · rfl
  · rfl
  · cases r with
    | none => rfl
    | some a => show va_rf (some (ad' a)) = va_rf (some (ad a)); rw [hn a (h a rfl)]
theorem map_cv_eq {ad ad' : Nat → Nat} {n : Nat} (hn : ∀ o, o < n → ad' o = ad o) {st : aSt} (h : oks n st) : st.map (cv ad') = st.map (cv ad) := List.map_congr_left (fun v hv => cv_eq hn (h v hv))
theorem cv_cat (ad : Nat → Nat) (v : AV) : (cv ad v).category = cat1 v := by
  rcases v with z | z | u | r
  · rfl
  · rfl
  · rfl
  · cases r <;> rfl
theorem cats_sum (ad : Nat → Nat) : ∀ st : aSt, ((st.map (cv ad)).map fun v => v.category).sum = cats st
  | [] => rfl
  | v :: st => by
    simp only [List.map_cons, List.sum_cons, cats, cv_cat]
    rw [← cats_sum ad st]
abbrev EE : Type := va_G × ClassId × ClassId × ClassId × ClassId × ClassId
def tysE (E : EE) : List (ClassId × FieldType) := [(E.2.1, .int), (E.2.2.1, .byte), (E.2.2.2.1, .long), (E.2.2.2.2.1, .object RX2), (E.2.2.2.2.2, .object RX3)]
def flv (ad : Nat → Nat) (h : AH) (o c : Nat) : List Value := (List.range ((nth nfl c).getD 0).toNat).map (fun k => cv ad (rdF h o (ftAt c k) k))
def ob (E : EE) (ad : Nat → Nat) (h : AH) (o : Nat) : va_E := match (sh h o).1 with
  | 0 => .inl (E.2.1, (sh h o).2.toNat, .inl (fun j : Nat => Int32.ofInt (gi h o j)))
  | 1 => .inl (E.2.2.1, (sh h o).2.toNat, .inl (fun j : Nat => Int32.ofInt (gi h o j)))
  | 2 => .inl (E.2.2.2.1, (sh h o).2.toNat, .inr (.inl (fun j : Nat => Int64.ofInt (gl h o j))))
  | 3 => .inl (E.2.2.2.2.1, (sh h o).2.toNat, .inr (.inr (.inr (.inr (fun j : Nat => (gr h o j).map ad)))))
  | 4 => .inl (E.2.2.2.2.2, (sh h o).2.toNat, .inr (.inr (.inr (.inr (fun j : Nat => (gr h o j).map ad)))))
  | t => .inr (t - 10, flv ad h o (t - 10))
def wl (E : EE) (ad : Nat → Nat) (h : AH) : va_W := (List.range (nn h - 1)).map (fun j => (ad (j + 1), ob E ad h (j + 1)))
theorem wl_at {E : EE} {ad : Nat → Nat} {h : AH} {o : Nat} (h1 : 1 ≤ o) (h2 : o < nn h) : (wl E ad h)[o - 1]? = some (ad o, ob E ad h o) := by
  unfold wl
  rw [List.getElem?_map, List.getElem?_range (by omega)]
  simp only [Option.map_some, Nat.sub_add_cancel h1]
theorem wl_len (E : EE) (ad : Nat → Nat) (h : AH) : (wl E ad h).length = nn h - 1 := by simp [wl]
theorem wl_ext {E : EE} {ad : Nat → Nat} {h : AH} {ws : va_W} (hl : ws.length = nn h - 1) (hw : ∀ o, 1 ≤ o → o < nn h → ws[o - 1]? = some (ad o, ob E ad h o)) : ws = wl E ad h := by
  apply List.ext_getElem?
  intro j
  by_cases hj : j < nn h - 1
  · have := hw (j + 1) (by omega) (by omega)
    rw [Nat.add_sub_cancel] at this
    rw [this]
    have := wl_at (E := E) (ad := ad) (h := h) (o := j + 1) (by omega) (by omega)
    rw [Nat.add_sub_cancel] at this
    exact this.symm
  · rw [List.getElem?_eq_none (by omega), List.getElem?_eq_none (by rw [wl_len]; omega)]
/-- one object is another now -/
theorem wl_set {E : EE} {ad : Nat → Nat} {h h' : AH} {o : Nat} {e : va_E} (h1 : 1 ≤ o) (h2 : o < nn h) (hn : nn h' = nn h) (he : ob E ad h' o = e) (hr : ∀ a, 1 ≤ a → a < nn h → a ≠ o → ob E ad h' a = ob E ad h a) : (wl E ad h).set (o - 1) (ad o, e) = wl E ad h' := by
  apply wl_ext
  · rw [List.length_set, wl_len, hn]
  · intro a ha hb
    by_cases hao : a = o
    · subst hao
      rw [List.getElem?_set_self (by rw [wl_len]; omega), he]
    · rw [List.getElem?_set_ne (by omega), wl_at ha (by omega), hr a ha (by omega) hao]
/-- one object more -/
theorem wl_push {E : EE} {ad ad' : Nat → Nat} {h h' : AH} {q : Nat} {e : va_E} (h0 : 1 ≤ nn h) (hn : nn h' = nn h + 1) (hq : ad' (nn h) = q) (ha : ∀ o, o < nn h → ad' o = ad o) (he : ob E ad' h' (nn h) = e) (hr : ∀ a, 1 ≤ a → a < nn h → ob E ad' h' a = ob E ad h a) : wl E ad h ++ [(q, e)] = wl E ad' h' := by
  apply wl_ext
  · rw [List.length_append, wl_len, List.length_singleton]; omega
  · intro a h1 h2
    by_cases hao : a = nn h
    · subst hao
      rw [List.getElem?_append_right (by rw [wl_len]; omega), wl_len, Nat.sub_self, hq, he]
      rfl
    · rw [List.getElem?_append_left (by rw [wl_len]; omega), wl_at h1 (by omega), hr a h1 (by omega), ha a (by omega)]
def Rl (E : EE) (ad : Nat → Nat) (h : AH) (A : Nat → Prop) (H0 H : Heap) (locs : List Loc) (s : State) : Prop :=
  va_K E.1 vwCl (tysE E) s ∧ va_P E.1 vwCl (wl E ad h) H ∧ va_D A (wl E ad h) ∧ va_S A H0 H locs ∧ (∀ q, H0.size ≤ q → A q) ∧ va_X (ad 0) (sh h 0).2.toNat (fun j : Nat => Int32.ofInt (gi h 0 j)) s H0 ∧ ad 0 < H0.size ∧ ¬ A (ad 0)
/-! locals -/
def lvl (ad : Nat → Nat) (ls : aLs) : List (Nat × Value) := (List.range ls.length).filterMap (fun k => (ld ls k).map (fun v => (k, cv ad v)))
theorem nth_lt {α : Type} : ∀ {l : List α} {k : Nat} {x : α}, nth l k = some x → k < l.length
  | [], _, _, h => by simp [nth] at h
  | _ :: _, 0, _, _ => Nat.succ_pos _
  | _ :: t, k + 1, x, h => Nat.succ_lt_succ (nth_lt (l := t) (k := k) (x := x) h)
theorem ld_lt {ls : aLs} {k : Nat} {v : AV} (h : ld ls k = some v) : k < ls.length := by
  unfold ld at h
  split at h
  · rename_i hn; exact nth_lt hn
  · cases h
theorem lvl_mem {ad : Nat → Nat} {ls : aLs} {k : Nat} {v : AV} (h : ld ls k = some v) : (k, cv ad v) ∈ lvl ad ls :=
  List.mem_filterMap.mpr ⟨k, List.mem_range.mpr (ld_lt h), by rw [h]; rfl⟩
theorem lvl_of {ad : Nat → Nat} {ls : aLs} {q : Nat × Value} (h : q ∈ lvl ad ls) : ∃ v, ld ls q.1 = some v ∧ q.2 = cv ad v := by
  obtain ⟨k, -, hk⟩ := List.mem_filterMap.mp h
  cases hv : ld ls k with
  | none => rw [hv] at hk; cases hk
  | some v =>
    rw [hv] at hk
    cases hk
    exact ⟨v, hv, rfl⟩
def lvr (ad : Nat → Nat) (ls : aLs) (cl : Array Slot) (nL : Nat) : Prop := lv_has cl nL (lvl ad ls) ∧ ls.length = nL
theorem lvr_at {ad : Nat → Nat} {ls : aLs} {cl : Array Slot} {nL k : Nat} {v : AV} (h : lvr ad ls cl nL) (hv : ld ls k = some v) : cl[k]? = some (.val (cv ad v)) := h.1.2.2 _ (lvl_mem hv)
theorem lvr_of {ad : Nat → Nat} {ls : aLs} {cl : Array Slot} {nL : Nat} {lv : List (Nat × Value)} (h : lv_has cl nL lv) (hl : ls.length = nL) (hm : ∀ k v, ld ls k = some v → (k, cv ad v) ∈ lv) : lvr ad ls cl nL := by
  refine ⟨⟨h.1, h.2.1, fun q hq => ?_⟩, hl⟩
  obtain ⟨v, h1, h2⟩ := lvl_of hq
  have := h.2.2 _ (hm _ _ h1)
  rw [h2]
  exact this
theorem lset_len : ∀ (ls : aLs) (k : Nat) (v : AV), (lset ls k v).length = ls.length
  | [], k, v => by cases k <;> rfl
  | x :: t, 0, v => rfl
  | x :: t, 1, v => by simp only [lset, List.length_cons]; rw [lset_len t 0 v]
  | x :: t, k + 2, v => by simp only [lset, List.length_cons]; rw [lset_len t (k + 1) v]
/-- what stands after a store: the new value, or what stood there and was no long cut in two -/
theorem ld_lset : ∀ (ls : aLs) (i : Nat) (v w : AV) (k : Nat), ld (lset ls i v) k = some w → (k = i ∧ w = v) ∨ (k ≠ i ∧ ld ls k = some w ∧ ¬ (k + 1 = i ∧ cat1 w = 2))
  | [], i, v, w, k, h => by
    cases i <;> simp [lset, ld, nth] at h
  | x :: t, 0, v, w, 0, h => by
    simp only [lset, ld, nth, Option.some.injEq] at h
    exact Or.inl ⟨rfl, h.symm⟩
  | x :: t, 0, v, w, k + 1, h => Or.inr ⟨by omega, h, by omega⟩
  | x :: t, 1, v, w, 0, h => by
    refine Or.inr ⟨by omega, ?_⟩
    rcases x with _ | (z | z | y)
    · simp [lset, ld, nth] at h
    · refine ⟨h, ?_⟩
      simp only [lset, ld, nth, Option.some.injEq] at h
      rw [← h]
      simp [cat1]
    · simp [lset, ld, nth] at h
    · refine ⟨h, ?_⟩
      simp only [lset, ld, nth, Option.some.injEq] at h
      rw [← h]
      simp [cat1]
  | x :: t, 1, v, w, k + 1, h => by
    rcases ld_lset t 0 v w k h with ⟨rfl, h2⟩ | ⟨h1, h2, h3⟩
    · exact Or.inl ⟨rfl, h2⟩
    · exact Or.inr ⟨by omega, h2, by omega⟩
  | x :: t, i + 2, v, w, 0, h => Or.inr ⟨by omega, h, by omega⟩
  | x :: t, i + 2, v, w, k + 1, h => by
    rcases ld_lset t (i + 1) v w k h with ⟨rfl, h2⟩ | ⟨h1, h2, h3⟩
    · exact Or.inl ⟨rfl, h2⟩
    · exact Or.inr ⟨by omega, h2, fun q => h3 ⟨by omega, q.2⟩⟩
theorem nth_set_none : ∀ (ls : aLs) (i k : Nat) (v : AV), nth (ls.set i none) k = some (some v) → k ≠ i ∧ nth ls k = some (some v)
  | [], i, k, v, h => by simp [nth] at h
  | x :: t, 0, 0, v, h => by simp [nth] at h
  | x :: t, 0, k + 1, v, h => ⟨by omega, h⟩
  | x :: t, i + 1, 0, v, h => ⟨by omega, h⟩
  | x :: t, i + 1, k + 1, v, h => by
    obtain ⟨h1, h2⟩ := nth_set_none t i k v h
    exact ⟨by omega, h2⟩
theorem ld_lset2 {ls : aLs} {i : Nat} {v w : AV} {k : Nat} (h : ld (lset2 ls i v) k = some w) : k ≠ i + 1 ∧ ((k = i ∧ w = v) ∨ (k ≠ i ∧ ld ls k = some w ∧ ¬ (k + 1 = i ∧ cat1 w = 2))) := by
  unfold lset2 ld at h
  split at h
  · rename_i v' hn
    obtain ⟨h1, h2⟩ := nth_set_none _ _ _ _ hn
    refine ⟨h1, ld_lset ls i v w k ?_⟩
    unfold ld
    rw [h2]
    exact h
  · cases h
theorem okl_lset {n : Nat} {ls : aLs} {i : Nat} {v : AV} (h : okl n ls) (hv : okv n v) : okl n (lset ls i v) := by
  intro k w hk
  rcases ld_lset ls i v w k hk with ⟨-, rfl⟩ | ⟨-, h2, -⟩
  · exact hv
  · exact h k w h2
theorem okl_lset2 {n : Nat} {ls : aLs} {i : Nat} {v : AV} (h : okl n ls) (hv : okv n v) : okl n (lset2 ls i v) := by
  intro k w hk
  rcases (ld_lset2 hk).2 with ⟨-, rfl⟩ | ⟨-, h2, -⟩
  · exact hv
  · exact h k w h2
theorem lvr_lset {ad : Nat → Nat} {ls : aLs} {cl cl' : Array Slot} {nL i : Nat} {v : AV} {lv' : List (Nat × Value)} (h : lvr ad ls cl nL) (h' : lv_has cl' nL lv') (he : (i, cv ad v) :: (lvl ad ls).filter (fun q => !(q.1 == i) && !(q.1 + 1 == i && q.2.category == 2)) = lv') : lvr ad (lset ls i v) cl' nL := by
  refine lvr_of h' (by rw [lset_len]; exact h.2) (fun k w hk => ?_)
  rw [← he]
  rcases ld_lset ls i v w k hk with ⟨rfl, rfl⟩ | ⟨h1, h2, h3⟩
  · exact List.mem_cons_self
  · refine List.mem_cons_of_mem _ (List.mem_filter.mpr ⟨lvl_mem h2, ?_⟩)
    simp only [cv_cat, Bool.and_eq_true, Bool.not_eq_true', beq_eq_false_iff_ne, ne_eq, Bool.and_eq_false_iff]
    refine ⟨h1, ?_⟩
    by_cases h4 : k + 1 = i
    · exact Or.inr (fun h5 => h3 ⟨h4, h5⟩)
    · exact Or.inl h4
theorem lvr_lset2 {ad : Nat → Nat} {ls : aLs} {cl cl' : Array Slot} {nL i : Nat} {v : AV} {lv' : List (Nat × Value)} (h : lvr ad ls cl nL) (h' : lv_has cl' nL lv') (he : (i, cv ad v) :: (lvl ad ls).filter (fun q => !(q.1 == i) && (!(q.1 == i + 1) && !(q.1 + 1 == i && q.2.category == 2))) = lv') : lvr ad (lset2 ls i v) cl' nL := by
  refine lvr_of h' (by unfold lset2; rw [List.length_set, lset_len]; exact h.2) (fun k w hk => ?_)
  rw [← he]
  obtain ⟨h0, hk⟩ := ld_lset2 hk
  rcases hk with ⟨rfl, rfl⟩ | ⟨h1, h2, h3⟩
  · exact List.mem_cons_self
  · refine List.mem_cons_of_mem _ (List.mem_filter.mpr ⟨lvl_mem h2, ?_⟩)
    simp only [cv_cat, Bool.and_eq_true, Bool.not_eq_true', beq_eq_false_iff_ne, ne_eq, Bool.and_eq_false_iff]
    refine ⟨h1, h0, ?_⟩
    by_cases h4 : k + 1 = i
    · exact Or.inr (fun h5 => h3 ⟨h4, h5⟩)
    · exact Or.inl h4
theorem lvr_ad {ad ad' : Nat → Nat} {ls : aLs} {cl : Array Slot} {nL n : Nat} (hn : ∀ o, o < n → ad' o = ad o) (hl : okl n ls) (h : lvr ad ls cl nL) : lvr ad' ls cl nL :=
  lvr_of h.1 h.2 (fun k v hk => by rw [cv_eq hn (hl k v hk)]; exact lvl_mem hk)
