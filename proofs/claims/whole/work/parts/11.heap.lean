/-! the objects as the machine has them -/
theorem ob_i {E : EE} {ad : Nat → Nat} {h : AH} {o : Nat} (e : (sh h o).1 = 0) : ob E ad h o = .inl (E.2.1, (sh h o).2.toNat, .inl (fun j : Nat => Int32.ofInt (gi h o j))) := by unfold ob; rw [e]; rfl
theorem ob_b {E : EE} {ad : Nat → Nat} {h : AH} {o : Nat} (e : (sh h o).1 = 1) : ob E ad h o = .inl (E.2.2.1, (sh h o).2.toNat, .inl (fun j : Nat => Int32.ofInt (gi h o j))) := by unfold ob; rw [e]; rfl
theorem ob_l {E : EE} {ad : Nat → Nat} {h : AH} {o : Nat} (e : (sh h o).1 = 2) : ob E ad h o = .inl (E.2.2.2.1, (sh h o).2.toNat, .inr (.inl (fun j : Nat => Int64.ofInt (gl h o j)))) := by unfold ob; rw [e]; rfl
theorem ob_q {E : EE} {ad : Nat → Nat} {h : AH} {o : Nat} (e : (sh h o).1 = 3) : ob E ad h o = .inl (E.2.2.2.2.1, (sh h o).2.toNat, .inr (.inr (.inr (.inr (fun j : Nat => (gr h o j).map ad))))) := by unfold ob; rw [e]; rfl
theorem ob_p {E : EE} {ad : Nat → Nat} {h : AH} {o : Nat} (e : (sh h o).1 = 4) : ob E ad h o = .inl (E.2.2.2.2.2, (sh h o).2.toNat, .inr (.inr (.inr (.inr (fun j : Nat => (gr h o j).map ad))))) := by unfold ob; rw [e]; rfl
theorem ob_c {E : EE} {ad : Nat → Nat} {h : AH} {o c : Nat} (e : (sh h o).1 = 10 + c) : ob E ad h o = .inr (c, flv ad h o c) := by
  unfold ob
  rw [e, Nat.add_comm 10 c]
  show (Sum.inr (c + 10 - 10, flv ad h o (c + 10 - 10)) : va_E) = _
  rw [Nat.add_sub_cancel]
theorem rdF_congr {h h' : AH} {o ty k : Nat} (h1 : gi h' o = gi h o) (h2 : gl h' o = gl h o) (h3 : gf h' o = gf h o) (h4 : gr h' o = gr h o) : rdF h' o ty k = rdF h o ty k := by
  unfold rdF
  rw [h1, h2, h3, h4]
theorem ob_congr {E : EE} {ad : Nat → Nat} {h h' : AH} {o : Nat} (h0 : sh h' o = sh h o) (h1 : gi h' o = gi h o) (h2 : gl h' o = gl h o) (h3 : gf h' o = gf h o) (h4 : gr h' o = gr h o) : ob E ad h' o = ob E ad h o := by
  unfold ob flv
  simp only [h0, h1, h2, h4, rdF_congr h1 h2 h3 h4]
theorem map_ad {ad ad' : Nat → Nat} {n : Nat} (hn : ∀ o, o < n → ad' o = ad o) {r : Option Nat} (h : ∀ a, r = some a → a < n) : r.map ad' = r.map ad := by
  cases r with
  | none => rfl
  | some a => simp only [Option.map_some, hn a (h a rfl)]
theorem ok_rdF {h : AH} (hh : okh h) (o ty k : Nat) : okv (nn h) (rdF h o ty k) := by
  obtain ⟨-, -, -, -, h1, h2, h3, -⟩ := hh
  unfold rdF
  split
  · exact h1 _ _
  · exact h1 _ _
  · exact h2 _ _
  · trivial
  · exact h3 _ _
theorem ob_ad {E : EE} {ad ad' : Nat → Nat} {h : AH} (hh : okh h) (hn : ∀ o, o < nn h → ad' o = ad o) (o : Nat) : ob E ad' h o = ob E ad h o := by
  have hg : ∀ j : Nat, (gr h o j).map ad' = (gr h o j).map ad := fun j => map_ad hn (fun a e => hh.2.2.2.2.2.2.1 o j a e)
  have hf : ∀ c, flv ad' h o c = flv ad h o c := fun c => List.map_congr_left (fun k _ => cv_eq hn (ok_rdF hh _ _ _))
  unfold ob
  simp only [hg, hf]
theorem flv_at {ad : Nat → Nat} {h : AH} {o c k : Nat} (hk : k < ((nth nfl c).getD 0).toNat) : (flv ad h o c)[k]? = some (cv ad (rdF h o (ftAt c k) k)) := by
  unfold flv
  rw [List.getElem?_map, List.getElem?_range hk]
  rfl
theorem flv_len {ad : Nat → Nat} {h : AH} {o c : Nat} : (flv ad h o c).length = ((nth nfl c).getD 0).toNat := by simp [flv]
theorem flv_set {ad : Nat → Nat} {h h' : AH} {o c k : Nat} {w : AV} (h1 : rdF h' o (ftAt c k) k = w) (h2 : ∀ j, j ≠ k → rdF h' o (ftAt c j) j = rdF h o (ftAt c j) j) : (flv ad h o c).set k (cv ad w) = flv ad h' o c := by
  apply List.ext_getElem?
  intro j
  by_cases hj : j < ((nth nfl c).getD 0).toNat
  · rw [flv_at hj]
    by_cases hjk : j = k
    · subst hjk
      rw [List.getElem?_set_self (by rw [flv_len]; exact hj), h1]
    · rw [List.getElem?_set_ne (fun e => hjk e.symm), flv_at hj, h2 j hjk]
  · rw [List.getElem?_eq_none (by rw [List.length_set, flv_len]; omega), List.getElem?_eq_none (by rw [flv_len]; omega)]
/-! what the heaps are after a write -/
theorem u2_row {α : Type} {f : Nat → Int → α} {o a : Nat} {k : Int} {v : α} (h : a ≠ o) : u2 f o k v a = f a := by
  funext b
  unfold u2
  rw [if_neg (fun q => h q.1)]
theorem u2_self {α : Type} {f : Nat → Int → α} {o : Nat} {k j : Int} {v : α} : u2 f o k v o j = if j = k then v else f o j := by
  unfold u2
  by_cases h : j = k
  · rw [if_pos ⟨rfl, h⟩, if_pos h]
  · rw [if_neg (fun q => h q.2), if_neg h]
theorem okh_si {h : AH} (hh : okh h) {o : Nat} {k v : Int} (hv : R32 v) : okh (si h o k v) := by
  obtain ⟨a1, a2, a3, a4, a5, a6, a7, a8⟩ := hh
  refine ⟨a1, a2, a3, a4, fun a b => ?_, a6, a7, a8⟩
  show R32 (u2 h.1 o k v a b)
  unfold u2
  split
  · exact hv
  · exact a5 a b
theorem okh_sl {h : AH} (hh : okh h) {o : Nat} {k v : Int} (hv : R64 v) : okh (sl h o k v) := by
  obtain ⟨a1, a2, a3, a4, a5, a6, a7, a8⟩ := hh
  refine ⟨a1, a2, a3, a4, a5, fun a b => ?_, a7, a8⟩
  show R64 (u2 h.2.1 o k v a b)
  unfold u2
  split
  · exact hv
  · exact a6 a b
theorem okh_sf {h : AH} (hh : okh h) {o : Nat} {k : Int} {v : UInt32} : okh (sf h o k v) := hh
theorem okh_sr {h : AH} (hh : okh h) {o : Nat} {k : Int} {v : Option Nat} (hv : ∀ a, v = some a → a < nn h) : okh (sr h o k v) := by
  obtain ⟨a1, a2, a3, a4, a5, a6, a7, a8⟩ := hh
  refine ⟨a1, a2, a3, a4, a5, a6, fun a b c e => ?_, a8⟩
  have e : u2 h.2.2.2.1 o k v a b = some c := e
  show c < nn h
  unfold u2 at e
  split at e
  · exact hv c e
  · exact a7 a b c e
/-- the script stays, when other objects are written -/
theorem Rl_set {E : EE} {ad : Nat → Nat} {h h' : AH} {A : Nat → Prop} {H0 H H1 : Heap} {locs locs1 : List Loc} {s : State} (hR : Rl E ad h A H0 H locs s) (h0 : sh h' 0 = sh h 0) (h1 : gi h' 0 = gi h 0) {ws : va_W} (he : ws = wl E ad h')
    (hP : va_P E.1 vwCl ws H1) (hD : va_D A ws) (hS : va_S A H0 H1 locs1) : Rl E ad h' A H0 H1 locs1 s := by
  obtain ⟨r1, r2, r3, r4, r5, r6, r7, r8⟩ := hR
  subst he
  exact ⟨r1, hP, hD, hS, r5, by rw [h0, h1]; exact r6, r7, r8⟩
theorem Rl_push {E : EE} {ad ad' : Nat → Nat} {h h' : AH} {A : Nat → Prop} {H0 H H1 : Heap} {locs locs1 : List Loc} {s : State} (hR : Rl E ad h A H0 H locs s) (h0 : sh h' 0 = sh h 0) (h1 : gi h' 0 = gi h 0) (ha : ad' 0 = ad 0) {ws : va_W} (he : ws = wl E ad' h')
    (hP : va_P E.1 vwCl ws H1) (hD : va_D A ws) (hS : va_S A H0 H1 locs1) : Rl E ad' h' A H0 H1 locs1 s := by
  obtain ⟨r1, r2, r3, r4, r5, r6, r7, r8⟩ := hR
  subst he
  exact ⟨r1, hP, hD, hS, r5, by rw [h0, h1, ha]; exact r6, by rw [ha]; exact r7, by rw [ha]; exact r8⟩
def adp (ad : Nat → Nat) (n q : Nat) : Nat → Nat := fun o => if o = n then q else ad o
theorem adp_lt {ad : Nat → Nat} {n q : Nat} : ∀ o, o < n → adp ad n q o = ad o := fun o h => by unfold adp; rw [if_neg (by omega)]
theorem adp_self {ad : Nat → Nat} {n q : Nat} : adp ad n q n = q := by unfold adp; rw [if_pos rfl]
/-- a new object of kind t beside the old ones -/
theorem okh_al {h : AH} (hh : okh h) {t : Nat} {n : Int} (ht : okt (t, n)) : okh (al h t n) := by
  obtain ⟨a1, a2, a3, a4, a5, a6, a7, a8⟩ := hh
  have e0 : sh (al h t n) 0 = sh h 0 := by show (if 0 = nn h then _ else _) = _; rw [if_neg (by omega)]
  refine ⟨Nat.succ_pos _, by rw [e0]; exact a2, by rw [e0]; exact a3, by rw [e0]; exact a4, fun a b => ?_, fun a b => ?_, fun a b c e => ?_, fun a h1 h2 => ?_⟩
  · show R32 (if a = nn h then 0 else gi h a b)
    split
    · exact r32_0
    · exact a5 a b
  · show R64 (if a = nn h then 0 else gl h a b)
    split
    · exact ⟨by decide, by decide⟩
    · exact a6 a b
  · have e : (if a = nn h then none else gr h a b) = some c := e
    show c < nn h + 1
    split at e
    · cases e
    · exact Nat.lt_succ_of_lt (a7 a b c e)
  · show okt (if a = nn h then (t, n) else sh h a)
    have h2 : a < nn h + 1 := h2
    split
    · exact ht
    · exact a8 a h1 (by omega)
theorem okh_alf {h : AH} (hh : okh h) {n : Int} {f : Int → Int} (ht : okt (0, n)) (hf : ∀ j, R32 (f j)) : okh (alf h n f) := by
  obtain ⟨a1, a2, a3, a4, a5, a6, a7, a8⟩ := hh
  have e0 : sh (alf h n f) 0 = sh h 0 := by show (if 0 = nn h then _ else _) = _; rw [if_neg (by omega)]
  refine ⟨Nat.succ_pos _, by rw [e0]; exact a2, by rw [e0]; exact a3, by rw [e0]; exact a4, fun a b => ?_, fun a b => ?_, fun a b c e => ?_, fun a h1 h2 => ?_⟩
  · show R32 (if a = nn h then f b else gi h a b)
    split
    · exact hf b
    · exact a5 a b
  · show R64 (if a = nn h then 0 else gl h a b)
    split
    · exact ⟨by decide, by decide⟩
    · exact a6 a b
  · have e : (if a = nn h then none else gr h a b) = some c := e
    show c < nn h + 1
    split at e
    · cases e
    · exact Nat.lt_succ_of_lt (a7 a b c e)
  · show okt (if a = nn h then (0, n) else sh h a)
    have h2 : a < nn h + 1 := h2
    split
    · exact ht
    · exact a8 a h1 (by omega)
theorem al_old {E : EE} {ad : Nat → Nat} {h : AH} (hh : okh h) {t : Nat} {n : Int} {q : Nat} : ∀ a, 1 ≤ a → a < nn h → ob E (adp ad (nn h) q) (al h t n) a = ob E ad h a := by
  intro a h1 h2
  have hne : ¬ a = nn h := by omega
  rw [← ob_ad hh (adp_lt (q := q))]
  refine ob_congr ?_ ?_ ?_ ?_ ?_
  · show (if a = nn h then _ else _) = _; rw [if_neg hne]
  · funext b; show (if a = nn h then _ else _) = _; rw [if_neg hne]
  · funext b; show (if a = nn h then _ else _) = _; rw [if_neg hne]
  · funext b; show (if a = nn h then _ else _) = _; rw [if_neg hne]
  · funext b; show (if a = nn h then _ else _) = _; rw [if_neg hne]
theorem alf_old {E : EE} {ad : Nat → Nat} {h : AH} (hh : okh h) {n : Int} {f : Int → Int} {q : Nat} : ∀ a, 1 ≤ a → a < nn h → ob E (adp ad (nn h) q) (alf h n f) a = ob E ad h a := by
  intro a h1 h2
  have hne : ¬ a = nn h := by omega
  rw [← ob_ad hh (adp_lt (q := q))]
  refine ob_congr ?_ ?_ ?_ ?_ ?_
  · show (if a = nn h then _ else _) = _; rw [if_neg hne]
  · funext b; show (if a = nn h then _ else _) = _; rw [if_neg hne]
  · funext b; show (if a = nn h then _ else _) = _; rw [if_neg hne]
  · funext b; show (if a = nn h then _ else _) = _; rw [if_neg hne]
  · funext b; show (if a = nn h then _ else _) = _; rw [if_neg hne]
theorem al_sh {h : AH} {t : Nat} {n : Int} : sh (al h t n) (nn h) = (t, n) := by show (if nn h = nn h then _ else _) = _; rw [if_pos rfl]
theorem alf_sh {h : AH} {n : Int} {f : Int → Int} : sh (alf h n f) (nn h) = (0, n) := by show (if nn h = nn h then _ else _) = _; rw [if_pos rfl]
theorem al_gi {h : AH} {t : Nat} {n : Int} (b : Int) : gi (al h t n) (nn h) b = 0 := by show (if nn h = nn h then _ else _) = _; rw [if_pos rfl]
theorem al_gl {h : AH} {t : Nat} {n : Int} (b : Int) : gl (al h t n) (nn h) b = 0 := by show (if nn h = nn h then _ else _) = _; rw [if_pos rfl]
theorem al_gf {h : AH} {t : Nat} {n : Int} (b : Int) : gf (al h t n) (nn h) b = 0 := by show (if nn h = nn h then _ else _) = _; rw [if_pos rfl]
theorem al_gr {h : AH} {t : Nat} {n : Int} (b : Int) : gr (al h t n) (nn h) b = none := by show (if nn h = nn h then _ else _) = _; rw [if_pos rfl]
theorem alf_gi {h : AH} {n : Int} {f : Int → Int} (b : Int) : gi (alf h n f) (nn h) b = f b := by show (if nn h = nn h then _ else _) = _; rw [if_pos rfl]
theorem al_sh0 {h : AH} (hh : okh h) {t : Nat} {n : Int} : sh (al h t n) 0 = sh h 0 := by have := hh.1; show (if 0 = nn h then _ else _) = _; rw [if_neg (by omega)]
theorem al_gi0 {h : AH} (hh : okh h) {t : Nat} {n : Int} : gi (al h t n) 0 = gi h 0 := by have := hh.1; funext b; show (if 0 = nn h then _ else _) = _; rw [if_neg (by omega)]
theorem alf_sh0 {h : AH} (hh : okh h) {n : Int} {f : Int → Int} : sh (alf h n f) 0 = sh h 0 := by have := hh.1; show (if 0 = nn h then _ else _) = _; rw [if_neg (by omega)]
theorem alf_gi0 {h : AH} (hh : okh h) {n : Int} {f : Int → Int} : gi (alf h n f) 0 = gi h 0 := by have := hh.1; funext b; show (if 0 = nn h then _ else _) = _; rw [if_neg (by omega)]
theorem rdF_si {h : AH} {o k j t : Nat} {v : Int} (hj : j ≠ k) : rdF (si h o (k : Int) v) o t j = rdF h o t j := by
  have e : gi (si h o (k : Int) v) o (j : Int) = gi h o (j : Int) := u2_self.trans (if_neg (by omega))
  unfold rdF
  split <;> first | exact congrArg vI e | rfl
theorem si_at {h : AH} {o : Nat} {k : Int} {v : Int} : gi (si h o k v) o k = v := u2_self.trans (if_pos rfl)
theorem rdF_sl {h : AH} {o k j t : Nat} {v : Int} (hj : j ≠ k) : rdF (sl h o (k : Int) v) o t j = rdF h o t j := by
  have e : gl (sl h o (k : Int) v) o (j : Int) = gl h o (j : Int) := u2_self.trans (if_neg (by omega))
  unfold rdF
  split <;> first | exact congrArg vL e | rfl
theorem sl_at {h : AH} {o : Nat} {k : Int} {v : Int} : gl (sl h o k v) o k = v := u2_self.trans (if_pos rfl)
theorem rdF_sf {h : AH} {o k j t : Nat} {v : UInt32} (hj : j ≠ k) : rdF (sf h o (k : Int) v) o t j = rdF h o t j := by
  have e : gf (sf h o (k : Int) v) o (j : Int) = gf h o (j : Int) := u2_self.trans (if_neg (by omega))
  unfold rdF
  split <;> first | exact congrArg vF e | rfl
theorem sf_at {h : AH} {o : Nat} {k : Int} {v : UInt32} : gf (sf h o k v) o k = v := u2_self.trans (if_pos rfl)
theorem rdF_sr {h : AH} {o k j t : Nat} {v : Option Nat} (hj : j ≠ k) : rdF (sr h o (k : Int) v) o t j = rdF h o t j := by
  have e : gr (sr h o (k : Int) v) o (j : Int) = gr h o (j : Int) := u2_self.trans (if_neg (by omega))
  unfold rdF
  split <;> first | exact congrArg vR e | rfl
theorem sr_at {h : AH} {o : Nat} {k : Int} {v : Option Nat} : gr (sr h o k v) o k = v := u2_self.trans (if_pos rfl)
theorem jw_aint : Cond.arrayClass .int ∈ lw_tbl := tm1 56 (by decide +kernel)
theorem jw_along : Cond.arrayClass .long ∈ lw_tbl := tm1 146 (by decide +kernel)
theorem jw_abyte : Cond.arrayClass .byte ∈ lw_tbl := tm6 235 (by decide +kernel)
theorem jw_oRX2 : Cond.arrayOver (.object RX2) ∈ lw_tbl := tm1 33 (by decide +kernel)
theorem jw_oRX3 : Cond.arrayOver (.object RX3) ∈ lw_tbl := tm1 228 (by decide +kernel)
theorem jw_oi : Cond.instanceMethod objectInit ∈ lw_tbl := tm1 24 (by decide +kernel)
theorem jw_oc : Cond.code objectInit ⟨#[0xb1]⟩ 1 none ∈ lw_tbl := tm1 25 (by decide +kernel)
theorem jw_maxs : Cond.static Lib.Math.max.name ∈ lw_tbl := tm3 149 (by decide +kernel)
theorem jw_maxc : Cond.code Lib.Math.max.name Lib.Math.max.code 2 (some .int) ∈ lw_tbl := tm3 150 (by decide +kernel)
theorem jw_mins : Cond.static Lib.Math.min.name ∈ lw_tbl := tm3 21 (by decide +kernel)
theorem jw_minc : Cond.code Lib.Math.min.name Lib.Math.min.code 2 (some .int) ∈ lw_tbl := tm3 22 (by decide +kernel)
theorem jw_abss : Cond.static Lib.Math.abs.name ∈ lw_tbl := tm4 91 (by decide +kernel)
theorem jw_absc : Cond.code Lib.Math.abs.name Lib.Math.abs.code 1 (some .int) ∈ lw_tbl := tm4 92 (by decide +kernel)
theorem jw_mi : Cond.initialized "java/lang/Math" ∈ lw_tbl := tm1 14 (by decide +kernel)
theorem jw_si : Cond.initialized "java/lang/System" ∈ lw_tbl := tm1 15 (by decide +kernel)
theorem jw_fi : Cond.initialized "java/lang/Float" ∈ lw_tbl := tm1 17 (by decide +kernel)
theorem jw_fn : Cond.native ⟨"java/lang/Float", "intBitsToFloat", "(I)F"⟩ ∈ lw_tbl := tm8 111 (by decide +kernel)
theorem jw_fs : Cond.static ⟨"java/lang/Float", "intBitsToFloat", "(I)F"⟩ ∈ lw_tbl := tm8 110 (by decide +kernel)
theorem jw_an : Cond.native arraycopyName ∈ lw_tbl := tm3 25 (by decide +kernel)
theorem jw_as : Cond.static arraycopyName ∈ lw_tbl := tm3 24 (by decide +kernel)
theorem jw_cs : Cond.sameMethod "[I" "java/lang/Object" "clone" "()Ljava/lang/Object;" ∈ lw_tbl := tm3 14 (by decide +kernel)
theorem jw_cn : Cond.native ⟨"java/lang/Object", "clone", "()Ljava/lang/Object;"⟩ ∈ lw_tbl := tm3 15 (by decide +kernel)
theorem jw_ci : Cond.instanceMethod ⟨"java/lang/Object", "clone", "()Ljava/lang/Object;"⟩ ∈ lw_tbl := tm3 16 (by decide +kernel)
theorem jw_cl : Cond.selects "[I" ⟨"[I", "clone", "()Ljava/lang/Object;"⟩ ⟨"java/lang/Object", "clone", "()Ljava/lang/Object;"⟩ ∈ lw_tbl := tm3 17 (by decide +kernel)
theorem jw_cc : Cond.castable "[I" "java/lang/Cloneable" ∈ lw_tbl := tm3 18 (by decide +kernel)
