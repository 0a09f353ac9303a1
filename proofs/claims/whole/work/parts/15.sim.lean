/-! whole runs -/
def Nr (o : Option aSp) : Prop := ∀ x, o ≠ some (.inr (.inr x))
theorem Nr_jp {h2 : AH} {k : Nat} {ls : aLs} {st : aSt} : Nr (jp k ls st h2) := fun x e => by unfold jp at e; cases e
theorem Nr_none : Nr none := fun _ e => by cases e
theorem Nr_gd {c : Prop} [Decidable c] {x : Option aSp} (p : Nr x) : Nr (gd c x) := fun y e => p y (gd_inv e).2
theorem Nr_br {c : Prop} [Decidable c] {x y : Option aSp} (p : Nr x) (q : Nr y) : Nr (br c x y) := fun w e => by
  rcases br_inv e with ⟨-, e⟩ | ⟨-, e⟩
  · exact p w e
  · exact q w e
theorem Nr_ite {c : Prop} [Decidable c] {x y : Option aSp} (p : Nr x) (q : Nr y) : Nr (if c then x else y) := by
  split
  · exact p
  · exact q
theorem Nr_cal {t : Nat} {st : aSt} {h : AH} : Nr (cal t st h) := fun x e => by
  unfold cal at e
  split at e
  · have := (gd_inv e).2
    cases this
  · cases e
theorem Nr_p1I {st : aSt} {f : Int → aSt → Option aSp} (p : ∀ x s, Nr (f x s)) : Nr (p1I st f) := fun w e => by
  obtain ⟨x, s, -, e⟩ := p1I_inv e
  exact p x s w e
theorem Nr_p1L {st : aSt} {f : Int → aSt → Option aSp} (p : ∀ x s, Nr (f x s)) : Nr (p1L st f) := fun w e => by
  obtain ⟨x, s, -, e⟩ := p1L_inv e
  exact p x s w e
theorem Nr_p1F {st : aSt} {f : UInt32 → aSt → Option aSp} (p : ∀ x s, Nr (f x s)) : Nr (p1F st f) := fun w e => by
  obtain ⟨x, s, -, e⟩ := p1F_inv e
  exact p x s w e
theorem Nr_p1Q {st : aSt} {f : Option Nat → aSt → Option aSp} (p : ∀ x s, Nr (f x s)) : Nr (p1Q st f) := fun w e => by
  obtain ⟨x, s, -, e⟩ := p1Q_inv e
  exact p x s w e
theorem Nr_p1R {st : aSt} {f : Nat → aSt → Option aSp} (p : ∀ x s, Nr (f x s)) : Nr (p1R st f) := fun w e => by
  obtain ⟨x, s, -, e⟩ := p1R_inv e
  exact p x s w e
theorem Nr_p2I {st : aSt} {f : Int → Int → aSt → Option aSp} (p : ∀ x y s, Nr (f x y s)) : Nr (p2I st f) := fun w e => by
  obtain ⟨x, y, s, -, e⟩ := p2I_inv e
  exact p x y s w e
theorem Nr_p2L {st : aSt} {f : Int → Int → aSt → Option aSp} (p : ∀ x y s, Nr (f x y s)) : Nr (p2L st f) := fun w e => by
  obtain ⟨x, y, s, -, e⟩ := p2L_inv e
  exact p x y s w e
theorem Nr_p2LI {st : aSt} {f : Int → Int → aSt → Option aSp} (p : ∀ x y s, Nr (f x y s)) : Nr (p2LI st f) := fun w e => by
  obtain ⟨x, y, s, -, e⟩ := p2LI_inv e
  exact p x y s w e
theorem Nr_p2F {st : aSt} {f : UInt32 → UInt32 → aSt → Option aSp} (p : ∀ x y s, Nr (f x y s)) : Nr (p2F st f) := fun w e => by
  obtain ⟨x, y, s, -, e⟩ := p2F_inv e
  exact p x y s w e
theorem Nr_pAI {st : aSt} {f : Nat → Int → aSt → Option aSp} (p : ∀ x y s, Nr (f x y s)) : Nr (pAI st f) := fun w e => by
  obtain ⟨x, y, s, -, e⟩ := pAI_inv e
  exact p x y s w e
theorem Nr_ldI {ls0 : aLs} {i : Nat} {f : Int → Option aSp} (p : ∀ x, Nr (f x)) : Nr (ldI ls0 i f) := fun w e => by
  obtain ⟨x, -, e⟩ := ldI_inv e
  exact p x w e
theorem Nr_ldL {ls0 : aLs} {i : Nat} {f : Int → Option aSp} (p : ∀ x, Nr (f x)) : Nr (ldL ls0 i f) := fun w e => by
  obtain ⟨x, -, e⟩ := ldL_inv e
  exact p x w e
theorem Nr_ldF {ls0 : aLs} {i : Nat} {f : UInt32 → Option aSp} (p : ∀ x, Nr (f x)) : Nr (ldF ls0 i f) := fun w e => by
  obtain ⟨x, -, e⟩ := ldF_inv e
  exact p x w e
theorem Nr_ldR {ls0 : aLs} {i : Nat} {f : Option Nat → Option aSp} (p : ∀ x, Nr (f x)) : Nr (ldR ls0 i f) := fun w e => by
  obtain ⟨x, -, e⟩ := ldR_inv e
  exact p x w e

def isRet (d : Instr) : Bool := match d with
  | .ireturn => true
  | .lreturn => true
  | .freturn => true
  | .areturn => true
  | .return_ => true
  | _ => false
theorem axf_noret (d : Instr) (r : Nat) (z : Int) (k : Nat) (ls : aLs) (st : aSt) (h : AH) (hd : isRet d = false) : Nr (axf d r z k ls st h) := by
  unfold axf
  split
  all_goals first | (exfalso; simp [isRet] at hd; done) | (repeat' (first | exact Nr_none | exact Nr_cal | exact Nr_jp | (refine Nr_p2I (fun _ _ _ => ?_)) | (refine Nr_p2L (fun _ _ _ => ?_)) | (refine Nr_p2LI (fun _ _ _ => ?_)) | (refine Nr_p2F (fun _ _ _ => ?_)) | (refine Nr_pAI (fun _ _ _ => ?_)) | (refine Nr_p1I (fun _ _ => ?_)) | (refine Nr_p1L (fun _ _ => ?_)) | (refine Nr_p1F (fun _ _ => ?_)) | (refine Nr_p1Q (fun _ _ => ?_)) | (refine Nr_p1R (fun _ _ => ?_)) | (refine Nr_ldI (fun _ => ?_)) | (refine Nr_ldL (fun _ => ?_)) | (refine Nr_ldF (fun _ => ?_)) | (refine Nr_ldR (fun _ => ?_)) | (refine Nr_gd ?_) | (refine Nr_br ?_ ?_) | (refine Nr_ite ?_ ?_) | split))
/-- a return, of a method -/
theorem ret_ok {p : Program} {l : Launch} {e : Env} {R : Room} {s : State} {m : MethodId} {args : Array Value} {below : List Frame} {meth : Method} {c : Code} {E : EE} {i n0 u0 k pc r : Nat} {d : Instr} {z : Int} {ls : aLs} {st : aSt} {h0 h' : AH} {v : Option AV} {ad0 ad : Nat → Nat} {H : Heap} {locs : List Loc} {cl : Array Slot}
    (hx : p.tables.exec = Jvm.exec) (hb : c.code = mC i) (hr : meth.sig.returnType = mR i) (hlocks : meth.locks = false) (hi : i < 300) (hd : nth (cd i) k = some (pc, d, r, z)) (ha : axf d r z k ls st h' = some (.inr (.inr v))) (hh : okh h') (hs : oks (nn h') st) (hag : ∀ o, o < nn h0 → ad o = ad0 o)
    (hR : Rl E ad h' (va_A (wl E ad0 h0) s.heap.size) s.heap H locs s) :
    W p l e R s m args below meth c H locs n0 u0 (MQ below (QcA E ad0 h0 s.heap.size v h') args s n0 u0 (va_A (wl E ad0 h0) s.heap.size)) (F0 m pc cl (st.map (cv ad))) := by
  obtain ⟨-, hE2, hck⟩ := eok_all i k hi pc _ r z hd
  obtain ⟨rK, rP, rD, rS, rA, rX, rb, rn⟩ := hR
  have hq : ∀ (w : Option Value), w = v.map (cv ad) → (∀ x, v = some x → okv (nn h') x) → ∀ t : State, t.heap = H → s.WarmedH t.vm → QcA E ad0 h0 s.heap.size v h' args s (.returned w) t := by
    intro w hw hv t ht _
    exact ⟨ad, hh, hv, hag, by rw [hw], by rw [ht]; exact rP, rD, by rw [ht]; exact rS.1, fun q h1 h2 => by rw [ht]; exact rS.2.1 q h1 h2⟩
  have hf : ∀ q ∈ locs, va_A (wl E ad0 h0) s.heap.size q.base := rS.2.2
  cases hir : isRet d with
  | false => exact absurd ha (axf_noret d r z k ls st h' hir _)
  | true =>
    cases d with
    | ireturn =>
      obtain ⟨hdec, -⟩ := hE2 rfl
      obtain ⟨x, s1, rfl, ha⟩ := p1I_inv ha
      obtain ⟨hg, ha2⟩ := gd_inv ha
      clear ha
      obtain rfl : s1 = [] := List.isEmpty_iff.mp hg.2
      cases ha2
      have hv : ∀ y, some (vI x) = some y → okv (nn h') y := fun y hy => by cases hy; exact (oks_cons.mp hs).1
      simp only [ckS, Bool.or_eq_true, Bool.and_eq_true, decide_eq_true_eq] at hck
      rcases hck with ⟨h1, h2⟩ | ⟨h1, h2⟩
      · exact W.iret hx hb (hr.trans h2) (hq _ rfl hv) hf hdec hlocks
      · refine W.zret (ty := .boolean) hx hb (hr.trans h2) ?_ (hq _ rfl hv) hf hdec hlocks
        rcases hg.1 h1 with rfl | rfl <;> decide
    | lreturn =>
      obtain ⟨hdec, -⟩ := hE2 rfl
      obtain ⟨x, s1, rfl, ha⟩ := p1L_inv ha
      obtain ⟨hg, ha⟩ := gd_inv ha
      obtain rfl : s1 = [] := List.isEmpty_iff.mp hg
      cases ha
      have hv : ∀ y, some (vL x) = some y → okv (nn h') y := fun y hy => by cases hy; exact (oks_cons.mp hs).1
      simp only [ckS, decide_eq_true_eq] at hck
      exact W.lret hx hb (hr.trans hck) (hq _ rfl hv) hf hdec hlocks
    | freturn =>
      obtain ⟨hdec, -⟩ := hE2 rfl
      obtain ⟨x, s1, rfl, ha⟩ := p1F_inv ha
      obtain ⟨hg, ha⟩ := gd_inv ha
      obtain rfl : s1 = [] := List.isEmpty_iff.mp hg
      cases ha
      have hv : ∀ y, some (vF x) = some y → okv (nn h') y := fun y hy => by cases hy; exact (oks_cons.mp hs).1
      simp only [ckS, decide_eq_true_eq] at hck
      exact W.fret hx hb (hr.trans hck) (hq _ rfl hv) hf hdec hlocks
    | areturn =>
      obtain ⟨hdec, -⟩ := hE2 rfl
      obtain ⟨x, s1, rfl, ha⟩ := p1Q_inv ha
      obtain ⟨hg, ha⟩ := gd_inv ha
      obtain rfl : s1 = [] := List.isEmpty_iff.mp hg
      cases ha
      have hv : ∀ y, some (vR x) = some y → okv (nn h') y := fun y hy => by cases hy; exact (oks_cons.mp hs).1
      have hvv : cv ad (vR x) = .null ∨ ∃ a, cv ad (vR x) = .ref a := by
        cases x with
        | none => exact Or.inl rfl
        | some a => exact Or.inr ⟨ad a, rfl⟩
      simp only [ckS] at hck
      split at hck
      · rename_i nm hm
        exact W.aret hx hb (hr.trans hm) (Or.inl ⟨nm, rfl⟩) hvv (hq _ rfl hv) hf hdec hlocks
      · rename_i nm hm
        exact W.aret hx hb (hr.trans hm) (Or.inr ⟨nm, rfl⟩) hvv (hq _ rfl hv) hf hdec hlocks
      · cases hck
    | return_ =>
      obtain ⟨hdec, -⟩ := hE2 rfl
      obtain ⟨hg, ha⟩ := gd_inv ha
      obtain rfl : st = [] := List.isEmpty_iff.mp hg
      cases ha
      simp only [ckS, decide_eq_true_eq] at hck
      exact W.vret hx hb (hr.trans hck) (hq _ rfl (fun y hy => by cases hy)) hf hdec hlocks
    | _ => cases hir
def BodyP (n : Nat) : Prop := ∀ (p : Program) (l : Launch) (e : Env) (R : Room) (s : State) (m : MethodId) (args : Array Value) (below : List Frame) (meth : Method) (c : Code) (Q : State → Prop) (E : EE) (A : Nat → Prop) (H0 : Heap) (i n0 u0 N0 k : Nat) (ls : aLs) (st : aSt) (h : AH) (v : Option AV) (h' : AH) (ad0 ad : Nat → Nat) (H : Heap) (locs : List Loc) (cl : Array Slot) (pc : Nat) (q : Instr × Nat × Int),
  Cx i R p s m args meth c → i < 300 → nth (cd i) k = some (pc, q) → run n i k ls st h = some (v, h') → okh h → okl (nn h) ls → oks (nn h) st → N0 ≤ nn h → (∀ o, o < N0 → ad o = ad0 o) → Rl E ad h A H0 H locs s → lvr ad ls cl (mMl i) → n0 ≤ nn h → u0 ≤ us h → nn h' - n0 ≤ R.cells → us h' - u0 ≤ R.slots →
  (∀ (k2 pc2 r : Nat) (d : Instr) (z : Int) (ls2 : aLs) (st2 : aSt) (ad2 : Nat → Nat) (H2 : Heap) (locs2 : List Loc) (cl2 : Array Slot), nth (cd i) k2 = some (pc2, d, r, z) → axf d r z k2 ls2 st2 h' = some (.inr (.inr v)) → okh h' → oks (nn h') st2 → (∀ o, o < N0 → ad2 o = ad0 o) → Rl E ad2 h' A H0 H2 locs2 s → W p l e R s m args below meth c H2 locs2 (nn h' - n0) (us h' - u0) Q (F0 m pc2 cl2 (st2.map (cv ad2)))) →
  W p l e R s m args below meth c H locs (nn h - n0) (us h - u0) Q (F0 m pc cl (st.map (cv ad)))
def SIMs (n : Nat) : Prop := ∀ (l : Launch) (t : Nat) (as : List AV) (h : AH) (v : Option AV) (h' : AH), t < 299 → run n t 0 (ent t as) [] h = some (v, h') → okh h → oks (nn h) as → cats as ≤ mMl t → MetA l t as h v h'
theorem run_nth {n i k : Nat} {ls : aLs} {st : aSt} {h : AH} {x : Option AV × AH} (e : run n i k ls st h = some x) : ∃ pc q, nth (cd i) k = some (pc, q) := by
  cases n with
  | zero => simp [run] at e
  | succ n =>
    rw [run_eq] at e
    cases hd : nth (cd i) k with
    | none => rw [hd] at e; cases e
    | some q => exact ⟨q.1, q.2, rfl⟩
theorem ld_pad : ∀ (n : Nat) (l : aLs) (k : Nat) (v : AV), ld (pad n l) k = some v → ld l k = some v
  | 0, l, k, v, h => by simp [pad, ld, nth] at h
  | n + 1, [], 0, v, h => by simp [pad, ld, nth] at h
  | n + 1, [], k + 1, v, h => by
    have := ld_pad n [] k v h
    simp [ld, nth] at this
  | n + 1, x :: l, 0, v, h => h
  | n + 1, x :: l, k + 1, v, h => ld_pad n l k v h
theorem pad_len : ∀ (n : Nat) (l : aLs), (pad n l).length = n
  | 0, l => rfl
  | n + 1, [] => by simp only [pad, List.length_cons, pad_len n []]
  | n + 1, x :: l => by simp only [pad, List.length_cons, pad_len n l]
theorem ld_lsOf (ad : Nat → Nat) : ∀ (as : List AV) (j k : Nat) (v : AV), ld (lsOf as) k = some v → v ∈ as ∧ (j + k, cv ad v) ∈ lv_args j (as.map (cv ad))
  | [], j, k, v, h => by simp [lsOf, ld, nth] at h
  | a :: as, j, k, v, h => by
    by_cases hc : cat1 a = 2
    · simp only [lsOf, hc, if_true] at h
      match k, h with
      | 0, h =>
        simp only [ld, nth, Option.some.injEq] at h
        subst h
        exact ⟨List.mem_cons_self, List.mem_cons_self⟩
      | 1, h => simp [ld, nth] at h
      | k + 2, h =>
        obtain ⟨h1, h2⟩ := ld_lsOf ad as (j + 2) k v h
        refine ⟨List.mem_cons_of_mem _ h1, ?_⟩
        simp only [List.map_cons, lv_args, cv_cat, hc, if_true]
        rw [show j + (k + 2) = j + 2 + k by omega]
        exact List.mem_cons_of_mem _ h2
    · simp only [lsOf, hc, if_false] at h
      match k, h with
      | 0, h =>
        simp only [ld, nth, Option.some.injEq] at h
        subst h
        exact ⟨List.mem_cons_self, List.mem_cons_self⟩
      | k + 1, h =>
        obtain ⟨h1, h2⟩ := ld_lsOf ad as (j + 1) k v h
        refine ⟨List.mem_cons_of_mem _ h1, ?_⟩
        simp only [List.map_cons, lv_args, cv_cat, hc, if_false]
        rw [show j + (k + 1) = j + 1 + k by omega]
        exact List.mem_cons_of_mem _ h2
theorem sl_len (ad : Nat → Nat) : ∀ as : List AV, (lg_sl (as.map (cv ad))).length = cats as
  | [] => rfl
  | a :: as => by
    have ih := sl_len ad as
    unfold lg_sl at ih ⊢
    simp only [List.map_cons, List.flatMap_cons, List.length_append, cats, ih, cv_cat]
    rcases a with z | z | u | r <;> simp [cat1]
theorem cd0 : ∀ t, t < 300 → (nth (cd t) 0).map (fun q => q.1) = some 0 := by decide +kernel
theorem sims_of {n : Nat} (hB : BodyP n) : SIMs n := by
  intro l t as h v h' ht e hh hs hc E ad sz
  obtain ⟨m1, m2, m3, m4, m5, m6, m7⟩ := mok_all _ ht
  have hp0 := run_pure e
  refine Met.ofW (cc := mC t) (maxL := mMl t) (ret := mR t) m4 rfl ?_
  intro p ev s m args below meth c s₁ B hml hv
  obtain ⟨rfl, hsz, hW, hK, hP, hD, hX, hne, hb0⟩ := hv
  have hown : s.vm.findClass (cnm (mI t).1) = some m.cls := by rw [← m1]; exact findClass_of_methodNamed B.named
  have hin : meth.name = (mY t).name := (name_of_methodNamed B.named B.method).1
  have C : Cx t (headSpec [Cond.code (mY t) (mC t) (mMl t) (mR t)] { frames := (mI t).2.2.1, cells := nn h' - nn h, slots := us h' - us h, locals := (mI t).2.2.2 }).room p s m (as.map (cv ad)).toArray meth c := by
    refine ⟨B.exec, B.bytes, hml, hown, fun w hw hk => word_warm hk (State.WarmedH.refl s) (hW w hw hk), Nat.le_refl _, Nat.le_refl _, fun h2 => ?_⟩
    rw [hin]
    rcases m7 with ⟨g1, -⟩ | ⟨-, -, -, g4, -⟩ | ⟨g1, -⟩
    · omega
    · exact g4
    · omega
  subst hsz
  obtain ⟨pc, q, hn⟩ := run_nth e
  have hpc : pc = 0 := by
    have := cd0 t (by omega)
    rw [hn] at this
    simpa using this
  subst hpc
  have hl := lv_entry (as.map (cv ad)) (n := mMl t) (by rw [sl_len]; exact hc)
  rw [lg_entry_eq]
  generalize (lg_sl (as.map (cv ad)) ++ List.replicate (mMl t - (lg_sl (as.map (cv ad))).length) Slot.unset).toArray = cl at hl ⊢
  have hlv : lvr ad (ent t as) cl (mMl t) := lvr_of hl (pad_len _ _) (fun k w hk => by
    have := (ld_lsOf ad as 0 k w (ld_pad _ _ _ _ hk)).2
    rwa [Nat.zero_add] at this)
  have hokl : okl (nn h) (ent t as) := fun k w hk => hs w (ld_lsOf ad as 0 k w (ld_pad _ _ _ _ hk)).1
  have hnA : ¬ va_A (wl E ad h) s.heap.size (ad 0) := by
    rintro (⟨k, e0, hk⟩ | h0)
    · have hlt : k < nn h - 1 := by
        have := (List.getElem?_eq_some_iff.mp hk).1
        rwa [wl_len] at this
      have := wl_at (E := E) (ad := ad) (h := h) (o := k + 1) (by omega) (by omega)
      rw [Nat.add_sub_cancel] at this
      rw [this] at hk
      simp only [Option.some.injEq, Prod.mk.injEq] at hk
      exact hne (k + 1) (by omega) (by omega) hk.1
    · omega
  have hR : Rl E ad h (va_A (wl E ad h) s.heap.size) s.heap s.heap [] s := ⟨hK, hP, hD.self, va_S.rf, fun q h => Or.inr h, hX, hb0, hnA⟩
  have key := hB p l ev (headSpec [Cond.code (mY t) (mC t) (mMl t) (mR t)] { frames := (mI t).2.2.1, cells := nn h' - nn h, slots := us h' - us h, locals := (mI t).2.2.2 }).room s m (as.map (cv ad)).toArray below meth c
    (MQ below (QcA E ad h s.heap.size v h') (as.map (cv ad)).toArray s (nn h' - nn h) (us h' - us h) (va_A (wl E ad h) s.heap.size)) E (va_A (wl E ad h) s.heap.size) s.heap t (nn h) (us h) (nn h) 0 (ent t as) [] h v h' ad ad s.heap [] cl 0 q
    C (by omega) hn e hh hokl (fun _ hx => absurd hx List.not_mem_nil) (Nat.le_refl _) (fun _ _ => rfl) hR hlv (Nat.le_refl _) (Nat.le_refl _) (Nat.le_refl _) (Nat.le_refl _)
    (fun k2 pc2 r d z ls2 st2 ad2 H2 locs2 cl2 g1 g2 g3 g4 g5 g6 => ret_ok B.exec B.bytes B.returns B.notSynchronized (by omega) g1 g2 g3 g4 g5 g6)
  rw [Nat.sub_self, Nat.sub_self] at key
  exact key
theorem call_facts {i k pc r : Nat} {d : Instr} {z : Int} {ls : aLs} {st s1 : aSt} {h : AH} {t : Nat} {as : List AV} (hi : i < 300) (hd : nth (cd i) k = some (pc, d, r, z)) (ha : axf d r z k ls st h = some (.inr (.inl (t, as, s1)))) : t < 299 ∧ st = as.reverse ++ s1 ∧ cats as ≤ mMl t := by
  obtain ⟨-, -, hck⟩ := eok_all i k hi pc _ r z hd
  have main : ∀ x : Nat, cal r st h = some (.inr (.inl (t, as, s1))) → ((mI i).1, x, r) ∈ cpM → t < 299 ∧ st = as.reverse ++ s1 ∧ cats as ≤ mMl t := by
    intro x hc hm
    obtain ⟨rfl, hst, hna, hca, hcm, hrc⟩ := cal_inv hc
    have hx0 := xok_all _ hm
    unfold XOK at hx0
    simp only at hx0
    exact ⟨hx0.1, hst, hcm⟩
  cases hiv : isInv d with
  | false => exact absurd ha (axf_nocall d r z k ls st h hiv _)
  | true =>
    cases d with
    | invokevirtual x =>
      dsimp only [axf] at ha
      simp only [ckS] at hck
      by_cases hr : r = 1007
      · rw [if_pos hr] at ha
        exact absurd ha ((Nc_p1R (fun _ _ => Nc_gd Nc_jp)) _)
      · rw [if_neg hr] at ha hck
        simp only [Bool.and_eq_true, decide_eq_true_eq] at hck
        exact main x ha hck.1.1
    | invokespecial x =>
      dsimp only [axf] at ha
      simp only [ckS] at hck
      by_cases hr : r = 1000
      · rw [if_pos hr] at ha
        exact absurd ha ((Nc_p1R (fun _ _ => Nc_gd Nc_jp)) _)
      · rw [if_neg hr] at ha hck
        simp only [Bool.and_eq_true, decide_eq_true_eq] at hck
        exact main x ha hck.1.1
    | invokestatic x =>
      dsimp only [axf] at ha
      simp only [ckS] at hck
      by_cases h1 : r = 1001
      · rw [if_pos h1] at ha
        exact absurd ha ((Nc_p2I (fun _ _ _ => Nc_gd Nc_jp)) _)
      rw [if_neg h1] at ha
      by_cases h2 : r = 1002
      · rw [if_pos h2] at ha
        exact absurd ha ((Nc_p2I (fun _ _ _ => Nc_gd Nc_jp)) _)
      rw [if_neg h2] at ha
      by_cases h3 : r = 1003
      · rw [if_pos h3] at ha
        exact absurd ha ((Nc_p1I (fun _ _ => Nc_gd Nc_jp)) _)
      rw [if_neg h3] at ha
      by_cases h4 : r = 1006
      · rw [if_pos h4] at ha
        exact absurd ha ((Nc_p1I (fun _ _ => Nc_gd Nc_jp)) _)
      rw [if_neg h4] at ha
      by_cases h5 : r = 1008
      · rw [if_pos h5] at ha
        exact absurd ha ((Nc_p1I (fun _ _ => Nc_pAI (fun _ _ _ => Nc_pAI (fun _ _ _ => Nc_gd Nc_jp)))) _)
      rw [if_neg h5] at ha
      rw [if_neg (by omega), if_neg h4, if_neg h5] at hck
      simp only [Bool.and_eq_true, decide_eq_true_eq] at hck
      exact main x ha hck.1.1
    | _ => cases hiv
theorem body_all : ∀ n, BodyP n := by
  intro n
  induction n with
  | zero =>
    intro p l e R s m args below meth c Q E A H0 i n0 u0 N0 k ls st h v h' ad0 ad H locs cl pc q C hi hn hrun
    simp [run] at hrun
  | succ n ih =>
    have hS := sims_of ih
    intro p l e R s m args below meth c Q E A H0 i n0 u0 N0 k ls st h v h' ad0 ad H locs cl pc q C hi hn hrun hh hl hs hN0 hag hR hlv hn0 hu0 hcells hslots hret
    rw [run_eq] at hrun
    obtain ⟨d, r, z⟩ := q
    rw [hn] at hrun
    dsimp only at hrun
    cases ha : axf d r z k ls st h with
    | none => rw [ha] at hrun; cases hrun
    | some y =>
      rw [ha] at hrun
      rcases y with ⟨k', ls', st', h2⟩ | ⟨t, as, s1⟩ | w
      · have hrun : run n i k' ls' st' h2 = some (v, h') := hrun
        obtain ⟨pc2, q2, hn2⟩ := run_nth hrun
        have hp1 := axf_mono d r z k ls st h k' ls' st' h2 ha
        have hp2 := run_pure hrun
        have g1 := hp1.1
        have g2 := hp2.1
        have g3 := hp1.2.1
        have g4 := hp2.2.1
        refine step_ok d p l e R s m args below meth c Q E A H0 i n0 u0 k pc r z ls st h k' ls' st' h2 pc2 q2 ad H locs cl C hi hn ha hn2 hh hl hs hR hlv hn0 hu0 (by omega) (by omega) (fun ad2 H2 locs2 cl2 hag2 hh2 hl2 hs2 hR2 hlv2 => ?_)
        exact ih p l e R s m args below meth c Q E A H0 i n0 u0 N0 k' ls' st' h2 v h' ad0 ad2 H2 locs2 cl2 pc2 q2 C hi hn2 hrun hh2 hl2 hs2 (by omega) (fun o ho => (hag2 o (by omega)).trans (hag o ho)) hR2 hlv2 (by omega) (by omega) hcells hslots hret
      · dsimp only at hrun
        cases hb : run n t 0 (ent t as) [] h with
        | none => rw [hb] at hrun; cases hrun
        | some w =>
          obtain ⟨w1, h1⟩ := w
          rw [hb] at hrun
          have hrun : run n i (k + 1) ls (push w1 s1) h1 = some (v, h') := hrun
          obtain ⟨pc2, q2, hn2⟩ := run_nth hrun
          have hp1 := run_pure hb
          have hp2 := run_pure hrun
          have g1 := hp1.1
          have g2 := hp2.1
          have g3 := hp1.2.1
          have g4 := hp2.2.1
          obtain ⟨hlt, hst, hcm⟩ := call_facts hi hn ha
          have hsa : oks (nn h) as := fun x hx => hs x (by rw [hst]; exact List.mem_append_left _ (List.mem_reverse.mpr hx))
          have hs1 : oks (nn h) s1 := fun x hx => hs x (by rw [hst]; exact List.mem_append_right _ hx)
          refine call_ok C hi hn ha hn2 hh hs hR hlv hn0 hu0 hp1 (by omega) (by omega) (hS l t as h w1 h1 hlt hb hh hsa hcm) (fun ad2 H2 locs2 hh1 hv1 hag2 hR2 => ?_)
          have hpush : oks (nn h1) (push w1 s1) := by
            cases w1 with
            | none => exact oks_le g1 hs1
            | some x => exact oks_cons.mpr ⟨hv1 x rfl, oks_le g1 hs1⟩
          have key := ih p l e R s m args below meth c Q E A H0 i n0 u0 N0 (k + 1) ls (push w1 s1) h1 v h' ad0 ad2 H2 locs2 cl pc2 q2 C hi hn2 hrun hh1 (okl_le g1 hl) hpush (by omega) (fun o ho => (hag2 o (by omega)).trans (hag o ho)) hR2 (lvr_ad hag2 hl hlv) (by omega) (by omega) hcells hslots hret
          have hmap : (push w1 s1).map (cv ad2) = (w1.map (cv ad2)).toList ++ s1.map (cv ad) := by
            cases w1 with
            | none => exact map_cv_eq hag2 hs1
            | some x => show cv ad2 x :: s1.map (cv ad2) = cv ad2 x :: s1.map (cv ad); rw [map_cv_eq hag2 hs1]
          rw [hmap] at key
          exact key
      · cases hrun
        exact hret k pc r d z ls st ad H locs cl hn ha hh hs hag hR
