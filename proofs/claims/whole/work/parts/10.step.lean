/-! one step -/
theorem jp_inv {k k2 : Nat} {ls ls2 : aLs} {st st2 : aSt} {h h2 : AH} (e : jp k ls st h = some (.inl (k2, ls2, st2, h2))) : k = k2 ∧ ls = ls2 ∧ st = st2 ∧ h = h2 := by
  unfold jp at e
  simp only [Option.some.injEq, Sum.inl.injEq, Prod.mk.injEq] at e
  exact e
theorem p1I_inv {st : aSt} {f : Int → aSt → Option aSp} {S : aSp} (e : p1I st f = some S) : ∃ x s, st = vI x :: s ∧ f x s = some S := by
  unfold p1I at e
  split at e
  · exact ⟨_, _, rfl, e⟩
  · cases e
theorem p1L_inv {st : aSt} {f : Int → aSt → Option aSp} {S : aSp} (e : p1L st f = some S) : ∃ x s, st = vL x :: s ∧ f x s = some S := by
  unfold p1L at e
  split at e
  · exact ⟨_, _, rfl, e⟩
  · cases e
theorem p1F_inv {st : aSt} {f : UInt32 → aSt → Option aSp} {S : aSp} (e : p1F st f = some S) : ∃ x s, st = vF x :: s ∧ f x s = some S := by
  unfold p1F at e
  split at e
  · exact ⟨_, _, rfl, e⟩
  · cases e
theorem p1Q_inv {st : aSt} {f : Option Nat → aSt → Option aSp} {S : aSp} (e : p1Q st f = some S) : ∃ x s, st = vR x :: s ∧ f x s = some S := by
  unfold p1Q at e
  split at e
  · exact ⟨_, _, rfl, e⟩
  · cases e
theorem p1R_inv {st : aSt} {f : Nat → aSt → Option aSp} {S : aSp} (e : p1R st f = some S) : ∃ x s, st = vR (some x) :: s ∧ f x s = some S := by
  unfold p1R at e
  split at e
  · exact ⟨_, _, rfl, e⟩
  · cases e
theorem p2I_inv {st : aSt} {f : Int → Int → aSt → Option aSp} {S : aSp} (e : p2I st f = some S) : ∃ x y s, st = vI y :: vI x :: s ∧ f x y s = some S := by
  obtain ⟨y, s, rfl, e1⟩ := p1I_inv e
  obtain ⟨x, s, rfl, e2⟩ := p1I_inv e1
  exact ⟨x, y, s, rfl, e2⟩
theorem p2L_inv {st : aSt} {f : Int → Int → aSt → Option aSp} {S : aSp} (e : p2L st f = some S) : ∃ x y s, st = vL y :: vL x :: s ∧ f x y s = some S := by
  obtain ⟨y, s, rfl, e1⟩ := p1L_inv e
  obtain ⟨x, s, rfl, e2⟩ := p1L_inv e1
  exact ⟨x, y, s, rfl, e2⟩
theorem p2LI_inv {st : aSt} {f : Int → Int → aSt → Option aSp} {S : aSp} (e : p2LI st f = some S) : ∃ x y s, st = vI y :: vL x :: s ∧ f x y s = some S := by
  obtain ⟨y, s, rfl, e⟩ := p1I_inv e
  obtain ⟨x, s, rfl, e⟩ := p1L_inv e
  exact ⟨x, y, s, rfl, e⟩
theorem p2F_inv {st : aSt} {f : UInt32 → UInt32 → aSt → Option aSp} {S : aSp} (e : p2F st f = some S) : ∃ x y s, st = vF y :: vF x :: s ∧ f x y s = some S := by
  obtain ⟨y, s, rfl, e1⟩ := p1F_inv e
  obtain ⟨x, s, rfl, e2⟩ := p1F_inv e1
  exact ⟨x, y, s, rfl, e2⟩
theorem pAI_inv {st : aSt} {f : Nat → Int → aSt → Option aSp} {S : aSp} (e : pAI st f = some S) : ∃ a x s, st = vI x :: vR (some a) :: s ∧ f a x s = some S := by
  obtain ⟨x, s, rfl, e⟩ := p1I_inv e
  obtain ⟨a, s, rfl, e⟩ := p1R_inv e
  exact ⟨a, x, s, rfl, e⟩
theorem gd_inv {c : Prop} [Decidable c] {x : Option aSp} {S : aSp} (e : gd c x = some S) : c ∧ x = some S := by
  unfold gd at e
  split at e
  · exact ⟨by assumption, e⟩
  · cases e
theorem br_inv {c : Prop} [Decidable c] {x y : Option aSp} {S : aSp} (e : br c x y = some S) : (c ∧ x = some S) ∨ (¬ c ∧ y = some S) := by
  unfold br at e
  split at e
  · exact Or.inl ⟨by assumption, e⟩
  · exact Or.inr ⟨by assumption, e⟩
theorem ldI_inv {ls : aLs} {k : Nat} {f : Int → Option aSp} {S : aSp} (e : ldI ls k f = some S) : ∃ x, ld ls k = some (vI x) ∧ f x = some S := by
  unfold ldI at e
  split at e
  · exact ⟨_, by assumption, e⟩
  · cases e
theorem ldL_inv {ls : aLs} {k : Nat} {f : Int → Option aSp} {S : aSp} (e : ldL ls k f = some S) : ∃ x, ld ls k = some (vL x) ∧ f x = some S := by
  unfold ldL at e
  split at e
  · exact ⟨_, by assumption, e⟩
  · cases e
theorem ldF_inv {ls : aLs} {k : Nat} {f : UInt32 → Option aSp} {S : aSp} (e : ldF ls k f = some S) : ∃ x, ld ls k = some (vF x) ∧ f x = some S := by
  unfold ldF at e
  split at e
  · exact ⟨_, by assumption, e⟩
  · cases e
theorem ldR_inv {ls : aLs} {k : Nat} {f : Option Nat → Option aSp} {S : aSp} (e : ldR ls k f = some S) : ∃ x, ld ls k = some (vR x) ∧ f x = some S := by
  unfold ldR at e
  split at e
  · exact ⟨_, by assumption, e⟩
  · cases e
theorem lcmp_rng (x y : Int) : R32 (if y < x then 1 else if x = y then 0 else -1) := by
  split
  · exact ⟨by decide, by decide⟩
  · split <;> exact ⟨by decide, by decide⟩
theorem lcn : ∀ n : Fin 2, Int64.ofNat n.val = Int64.ofInt (n.val : Int) := by decide
/-- the method i stands: its code, its class, the tables, its room -/
def Cx (i : Nat) (R : Room) (p : Program) (s : State) (m : MethodId) (args : Array Value) (meth : Method) (c : Code) : Prop :=
  p.tables.exec = Jvm.exec ∧ c.code = mC i ∧ c.maxLocals = mMl i ∧ s.vm.findClass (cnm (mI i).1) = some m.cls ∧ (∀ w ∈ lw_tbl, wkind w = true → w.before args s = true) ∧ (mI i).2.2.1 ≤ R.frames ∧ (mI i).2.2.2 ≤ R.locals ∧ ((mI i).2.1 = 2 → meth.name = "<init>")
def StepOK (d : Instr) : Prop := ∀ (p : Program) (l : Launch) (e : Env) (R : Room) (s : State) (m : MethodId) (args : Array Value) (below : List Frame) (meth : Method) (c : Code) (Q : State → Prop) (E : EE) (A : Nat → Prop) (H0 : Heap) (i n0 u0 k pc r : Nat) (z : Int) (ls : aLs) (st : aSt) (h : AH) (k2 : Nat) (ls2 : aLs) (st2 : aSt) (h2 : AH) (pc2 : Nat) (q2 : Instr × Nat × Int) (ad : Nat → Nat) (H : Heap) (locs : List Loc) (cl : Array Slot),
  Cx i R p s m args meth c → i < 300 → nth (cd i) k = some (pc, d, r, z) → axf d r z k ls st h = some (.inl (k2, ls2, st2, h2)) → nth (cd i) k2 = some (pc2, q2) →
  okh h → okl (nn h) ls → oks (nn h) st → Rl E ad h A H0 H locs s → lvr ad ls cl (mMl i) → n0 ≤ nn h → u0 ≤ us h → nn h2 - n0 ≤ R.cells → us h2 - u0 ≤ R.slots →
  (∀ (ad2 : Nat → Nat) (H2 : Heap) (locs2 : List Loc) (cl2 : Array Slot), (∀ o, o < nn h → ad2 o = ad o) → okh h2 → okl (nn h2) ls2 → oks (nn h2) st2 → Rl E ad2 h2 A H0 H2 locs2 s → lvr ad2 ls2 cl2 (mMl i) →
    W p l e R s m args below meth c H2 locs2 (nn h2 - n0) (us h2 - u0) Q (F0 m pc2 cl2 (st2.map (cv ad2)))) →
  W p l e R s m args below meth c H locs (nn h - n0) (us h - u0) Q (F0 m pc cl (st.map (cv ad)))
theorem tgt_of {i r pc pc2 : Nat} {off : Int} {q : Instr × Nat × Int} (h : tgt i r pc off = true) (hk : nth (cd i) r = some (pc2, q)) : (pc : Int) + off = (pc2 : Int) := by
  unfold tgt pcAt at h
  rw [hk] at h
  simpa using h
theorem tgt_some {i r pc : Nat} {off : Int} (h : tgt i r pc off = true) : ∃ t : Nat, (pc : Int) + off = (t : Int) := by
  unfold tgt at h
  split at h
  · exact ⟨_, by simpa using h⟩
  · cases h
section LdcW
variable {p : Program} {l : Launch} {e : Env} {R : Room} {s : State} {m : MethodId} {args : Array Value} {below : List Frame} {meth : Method} {c : Code} {H : Heap} {locs : List Loc} {cells slots : Nat} {Q : State → Prop} {cc : ByteArray} {pc : Nat} {ls : Array Slot} {rest : List Value}
theorem lv_ldcwf0 {T : State} (X : Stand p l e R s m args below meth c T locs cells slots) (hexec : p.tables.exec = Jvm.exec) {own : String} {index : Nat} {v : UInt32} (hown : s.vm.findClass own = some m.cls)
    (hconst : (Cond.constantFloat own index v).before args s = true) {g : JFrame} (hg : g.method = m) (hdg : decode c.code g.pc = .ok (.ldc_w index, 3)) :
    ∀ target, Steps p.tables e below (T.setTop { g with pc := g.pc + 3, stack := .float v :: g.stack }) target → Steps p.tables e below (T.setTop g) target := by
  obtain ⟨k, cf, hk, hcf, hcp⟩ := Cond.constantFloat_spec hown hconst
  obtain ⟨k', hk', he⟩ := X.warmed.alike.2.2 _ _ hk
  intro target hrest
  subst hg
  jvm_step X.here [hexec, hdg, ldc_w.wp_float (s := T) (f := g) X.here.top hk' (by rw [he]; exact hcf) hcp]
  exact hrest
theorem lv_ldcwf (hexec : p.tables.exec = Jvm.exec) (hb : c.code = cc) {own : String} {index : Nat} {v : UInt32} (hown : s.vm.findClass own = some m.cls) (hconst : (Jvm.Cond.constantFloat own index v).before args s = true) (hdg : decode cc pc = .ok (.ldc_w index, 3)) (k : W p l e R s m args below meth c H locs cells slots Q (F0 m (pc + 3) ls (.float v :: rest))) : W p l e R s m args below meth c H locs cells slots Q (F0 m pc ls rest) := by
  intro T hT X
  obtain ⟨t, a, b⟩ := k T hT X
  exact ⟨t, lv_ldcwf0 X hexec hown hconst (g := F0 m pc ls rest) rfl (by rw [hb]; exact hdg) t a, b⟩
end LdcW
theorem st_iconst (n : Int) : StepOK (.iconst n) := by
  intro p l e R s m args below meth c Q E A H0 i n0 u0 k pc r z ls st h k2 ls2 st2 h2 pc2 q2 ad H locs cl C hi hd ha hk2 hh hl hs hR hlv hn0 hu0 hcells hslots KK
  obtain ⟨hx, hb, hml, hown, hts, hfr, hlo, hin⟩ := C
  obtain ⟨-, hE2, hck⟩ := eok_all i k hi pc _ r z hd
  obtain ⟨hdec, hnx⟩ := hE2 rfl
  dsimp only [lenOf] at hdec hnx
  dsimp only [axf] at ha
  simp only [ckS, decide_eq_true_eq] at hck
  obtain ⟨rfl, rfl, rfl, rfl⟩ := jp_inv ha
  obtain rfl := hnx _ _ hk2
  have k0 := KK ad H locs cl (fun _ _ => rfl) hh hl (oks_cons.mpr ⟨⟨by omega, by omega⟩, hs⟩) hR hlv
  simp only [List.map_cons, cv] at k0 ⊢
  exact lv_iconst hx hb hdec rfl k0

theorem st_bipush (n : Int) : StepOK (.bipush n) := by
  intro p l e R s m args below meth c Q E A H0 i n0 u0 k pc r z ls st h k2 ls2 st2 h2 pc2 q2 ad H locs cl C hi hd ha hk2 hh hl hs hR hlv hn0 hu0 hcells hslots KK
  obtain ⟨hx, hb, hml, hown, hts, hfr, hlo, hin⟩ := C
  obtain ⟨-, hE2, hck⟩ := eok_all i k hi pc _ r z hd
  obtain ⟨hdec, hnx⟩ := hE2 rfl
  dsimp only [lenOf] at hdec hnx
  dsimp only [axf] at ha
  simp only [ckS, Bool.and_eq_true, decide_eq_true_eq] at hck
  obtain ⟨rfl, rfl, rfl, rfl⟩ := jp_inv ha
  obtain rfl := hnx _ _ hk2
  have k0 := KK ad H locs cl (fun _ _ => rfl) hh hl (oks_cons.mpr ⟨⟨by omega, by omega⟩, hs⟩) hR hlv
  simp only [List.map_cons, cv] at k0 ⊢
  exact lv_bipush hx hb hdec hck.1 k0

theorem st_sipush (n : Int) : StepOK (.sipush n) := by
  intro p l e R s m args below meth c Q E A H0 i n0 u0 k pc r z ls st h k2 ls2 st2 h2 pc2 q2 ad H locs cl C hi hd ha hk2 hh hl hs hR hlv hn0 hu0 hcells hslots KK
  obtain ⟨hx, hb, hml, hown, hts, hfr, hlo, hin⟩ := C
  obtain ⟨-, hE2, hck⟩ := eok_all i k hi pc _ r z hd
  obtain ⟨hdec, hnx⟩ := hE2 rfl
  dsimp only [lenOf] at hdec hnx
  dsimp only [axf] at ha
  simp only [ckS, Bool.and_eq_true, decide_eq_true_eq] at hck
  obtain ⟨rfl, rfl, rfl, rfl⟩ := jp_inv ha
  obtain rfl := hnx _ _ hk2
  have k0 := KK ad H locs cl (fun _ _ => rfl) hh hl (oks_cons.mpr ⟨⟨by omega, by omega⟩, hs⟩) hR hlv
  simp only [List.map_cons, cv] at k0 ⊢
  exact lv_sipush hx hb hdec hck.1 k0

theorem st_lconst (n : Fin 2) : StepOK (.lconst n) := by
  intro p l e R s m args below meth c Q E A H0 i n0 u0 k pc r z ls st h k2 ls2 st2 h2 pc2 q2 ad H locs cl C hi hd ha hk2 hh hl hs hR hlv hn0 hu0 hcells hslots KK
  obtain ⟨hx, hb, hml, hown, hts, hfr, hlo, hin⟩ := C
  obtain ⟨-, hE2, hck⟩ := eok_all i k hi pc _ r z hd
  obtain ⟨hdec, hnx⟩ := hE2 rfl
  dsimp only [lenOf] at hdec hnx
  dsimp only [axf] at ha
  have hnn : (n.val : Int) < 2 := by have := n.isLt; omega
  obtain ⟨rfl, rfl, rfl, rfl⟩ := jp_inv ha
  obtain rfl := hnx _ _ hk2
  have k0 := KK ad H locs cl (fun _ _ => rfl) hh hl (oks_cons.mpr ⟨⟨by omega, by omega⟩, hs⟩) hR hlv
  simp only [List.map_cons, cv] at k0 ⊢
  exact lv_lconst hx hb hdec (lcn n) k0

theorem st_fconst (n : Fin 3) : StepOK (.fconst n) := by
  intro p l e R s m args below meth c Q E A H0 i n0 u0 k pc r z ls st h k2 ls2 st2 h2 pc2 q2 ad H locs cl C hi hd ha hk2 hh hl hs hR hlv hn0 hu0 hcells hslots KK
  obtain ⟨hx, hb, hml, hown, hts, hfr, hlo, hin⟩ := C
  obtain ⟨-, hE2, hck⟩ := eok_all i k hi pc _ r z hd
  obtain ⟨hdec, hnx⟩ := hE2 rfl
  dsimp only [lenOf] at hdec hnx
  dsimp only [axf] at ha
  obtain ⟨rfl, rfl, rfl, rfl⟩ := jp_inv ha
  obtain rfl := hnx _ _ hk2
  have k0 := KK ad H locs cl (fun _ _ => rfl) hh hl (oks_cons.mpr ⟨trivial, hs⟩) hR hlv
  simp only [List.map_cons, cv] at k0 ⊢
  match n, hdec, k0 with
  | 0, hdec, k0 => exact lv_fconst0 hx hb hdec k0
  | 1, hdec, k0 => exact lv_fconst1 hx hb hdec k0
  | 2, hdec, k0 => exact lv_fconst2 hx hb hdec k0

theorem st_aconst_null : StepOK (.aconst_null) := by
  intro p l e R s m args below meth c Q E A H0 i n0 u0 k pc r z ls st h k2 ls2 st2 h2 pc2 q2 ad H locs cl C hi hd ha hk2 hh hl hs hR hlv hn0 hu0 hcells hslots KK
  obtain ⟨hx, hb, hml, hown, hts, hfr, hlo, hin⟩ := C
  obtain ⟨-, hE2, hck⟩ := eok_all i k hi pc _ r z hd
  obtain ⟨hdec, hnx⟩ := hE2 rfl
  dsimp only [lenOf] at hdec hnx
  dsimp only [axf] at ha
  obtain ⟨rfl, rfl, rfl, rfl⟩ := jp_inv ha
  obtain rfl := hnx _ _ hk2
  have k0 := KK ad H locs cl (fun _ _ => rfl) hh hl (oks_cons.mpr ⟨(fun _ h => by cases h), hs⟩) hR hlv
  simp only [List.map_cons, cv] at k0 ⊢
  exact lv_null hx hb hdec k0

theorem st_ldc (x : Nat) : StepOK (.ldc x) := by
  intro p l e R s m args below meth c Q E A H0 i n0 u0 k pc r z ls st h k2 ls2 st2 h2 pc2 q2 ad H locs cl C hi hd ha hk2 hh hl hs hR hlv hn0 hu0 hcells hslots KK
  obtain ⟨hx, hb, hml, hown, hts, hfr, hlo, hin⟩ := C
  obtain ⟨-, hE2, hck⟩ := eok_all i k hi pc _ r z hd
  obtain ⟨hdec, hnx⟩ := hE2 rfl
  dsimp only [lenOf] at hdec hnx
  dsimp only [axf] at ha
  simp only [ckS, Bool.and_eq_true, decide_eq_true_eq] at hck
  obtain ⟨hr, hm⟩ := hck
  have hv := vok_all _ hm
  unfold VOK at hv
  rcases hr with rfl | rfl
  · rw [if_pos rfl] at ha
    obtain ⟨rfl, rfl, rfl, rfl⟩ := jp_inv ha
    obtain rfl := hnx _ _ hk2
    rcases hv with ⟨-, hv, h1, h2⟩ | ⟨h0, -⟩ | ⟨h0, -⟩
    · have k0 := KK ad H locs cl (fun _ _ => rfl) hh hl (oks_cons.mpr ⟨⟨h1, h2⟩, hs⟩) hR hlv
      simp only [List.map_cons, cv] at k0 ⊢
      exact lv_ldc hx hb hown (hts _ hv rfl) hdec k0
    · simp at h0
    · simp at h0
  · rw [if_neg (by decide)] at ha
    obtain ⟨rfl, rfl, rfl, rfl⟩ := jp_inv ha
    obtain rfl := hnx _ _ hk2
    rcases hv with ⟨h0, -⟩ | ⟨h0, -⟩ | ⟨-, hv⟩
    · simp at h0
    · simp at h0
    · have k0 := KK ad H locs cl (fun _ _ => rfl) hh hl (oks_cons.mpr ⟨trivial, hs⟩) hR hlv
      simp only [List.map_cons, cv] at k0 ⊢
      exact lv_ldcf hx hb hown (hts _ hv rfl) hdec k0

theorem st_ldc_w (x : Nat) : StepOK (.ldc_w x) := by
  intro p l e R s m args below meth c Q E A H0 i n0 u0 k pc r z ls st h k2 ls2 st2 h2 pc2 q2 ad H locs cl C hi hd ha hk2 hh hl hs hR hlv hn0 hu0 hcells hslots KK
  obtain ⟨hx, hb, hml, hown, hts, hfr, hlo, hin⟩ := C
  obtain ⟨-, hE2, hck⟩ := eok_all i k hi pc _ r z hd
  obtain ⟨hdec, hnx⟩ := hE2 rfl
  dsimp only [lenOf] at hdec hnx
  dsimp only [axf] at ha
  simp only [ckS, Bool.and_eq_true, decide_eq_true_eq] at hck
  obtain ⟨hr, hm⟩ := hck
  have hv := vok_all _ hm
  unfold VOK at hv
  rcases hr with rfl | rfl
  · rw [if_pos rfl] at ha
    obtain ⟨rfl, rfl, rfl, rfl⟩ := jp_inv ha
    obtain rfl := hnx _ _ hk2
    rcases hv with ⟨-, hv, h1, h2⟩ | ⟨h0, -⟩ | ⟨h0, -⟩
    · have k0 := KK ad H locs cl (fun _ _ => rfl) hh hl (oks_cons.mpr ⟨⟨h1, h2⟩, hs⟩) hR hlv
      simp only [List.map_cons, cv] at k0 ⊢
      exact lv_ldcw hx hb hown (hts _ hv rfl) hdec k0
    · simp at h0
    · simp at h0
  · rw [if_neg (by decide)] at ha
    obtain ⟨rfl, rfl, rfl, rfl⟩ := jp_inv ha
    obtain rfl := hnx _ _ hk2
    rcases hv with ⟨h0, -⟩ | ⟨h0, -⟩ | ⟨-, hv⟩
    · simp at h0
    · simp at h0
    · have k0 := KK ad H locs cl (fun _ _ => rfl) hh hl (oks_cons.mpr ⟨trivial, hs⟩) hR hlv
      simp only [List.map_cons, cv] at k0 ⊢
      exact lv_ldcwf hx hb hown (hts _ hv rfl) hdec k0

theorem st_ldc2_w (x : Nat) : StepOK (.ldc2_w x) := by
  intro p l e R s m args below meth c Q E A H0 i n0 u0 k pc r z ls st h k2 ls2 st2 h2 pc2 q2 ad H locs cl C hi hd ha hk2 hh hl hs hR hlv hn0 hu0 hcells hslots KK
  obtain ⟨hx, hb, hml, hown, hts, hfr, hlo, hin⟩ := C
  obtain ⟨-, hE2, hck⟩ := eok_all i k hi pc _ r z hd
  obtain ⟨hdec, hnx⟩ := hE2 rfl
  dsimp only [lenOf] at hdec hnx
  dsimp only [axf] at ha
  simp only [ckS, decide_eq_true_eq] at hck
  have hv := vok_all _ hck
  unfold VOK at hv
  obtain ⟨rfl, rfl, rfl, rfl⟩ := jp_inv ha
  obtain rfl := hnx _ _ hk2
  rcases hv with ⟨h0, -⟩ | ⟨-, hv, h1, h2⟩ | ⟨h0, -⟩
  · simp at h0
  · have k0 := KK ad H locs cl (fun _ _ => rfl) hh hl (oks_cons.mpr ⟨⟨h1, h2⟩, hs⟩) hR hlv
    simp only [List.map_cons, cv] at k0 ⊢
    exact lv_ldc2 hx hb hown (hts _ hv rfl) hdec k0
  · simp at h0

theorem st_iload (j : Nat) : StepOK (.iload j) := by
  intro p l e R s m args below meth c Q E A H0 i n0 u0 k pc r z ls st h k2 ls2 st2 h2 pc2 q2 ad H locs cl C hi hd ha hk2 hh hl hs hR hlv hn0 hu0 hcells hslots KK
  obtain ⟨hx, hb, hml, hown, hts, hfr, hlo, hin⟩ := C
  obtain ⟨-, hE2, hck⟩ := eok_all i k hi pc _ r z hd
  obtain ⟨hdec, hnx⟩ := hE2 rfl
  dsimp only [lenOf] at hdec hnx
  dsimp only [axf] at ha
  obtain ⟨x, hld, ha⟩ := ldI_inv ha
  obtain ⟨rfl, rfl, rfl, rfl⟩ := jp_inv ha
  obtain rfl := hnx _ _ hk2
  have k0 := KK ad H locs cl (fun _ _ => rfl) hh hl (oks_cons.mpr ⟨hl _ _ hld, hs⟩) hR hlv
  simp only [List.map_cons, cv] at k0 ⊢
  exact lv_iload hx hb hdec (lvr_at hlv hld) k0

theorem st_iload_n (j : Fin 4) : StepOK (.iload_n j) := by
  intro p l e R s m args below meth c Q E A H0 i n0 u0 k pc r z ls st h k2 ls2 st2 h2 pc2 q2 ad H locs cl C hi hd ha hk2 hh hl hs hR hlv hn0 hu0 hcells hslots KK
  obtain ⟨hx, hb, hml, hown, hts, hfr, hlo, hin⟩ := C
  obtain ⟨-, hE2, hck⟩ := eok_all i k hi pc _ r z hd
  obtain ⟨hdec, hnx⟩ := hE2 rfl
  dsimp only [lenOf] at hdec hnx
  dsimp only [axf] at ha
  obtain ⟨x, hld, ha⟩ := ldI_inv ha
  obtain ⟨rfl, rfl, rfl, rfl⟩ := jp_inv ha
  obtain rfl := hnx _ _ hk2
  have k0 := KK ad H locs cl (fun _ _ => rfl) hh hl (oks_cons.mpr ⟨hl _ _ hld, hs⟩) hR hlv
  simp only [List.map_cons, cv] at k0 ⊢
  exact lv_iload_n hx hb hdec rfl (lvr_at hlv hld) k0

theorem st_lload (j : Nat) : StepOK (.lload j) := by
  intro p l e R s m args below meth c Q E A H0 i n0 u0 k pc r z ls st h k2 ls2 st2 h2 pc2 q2 ad H locs cl C hi hd ha hk2 hh hl hs hR hlv hn0 hu0 hcells hslots KK
  obtain ⟨hx, hb, hml, hown, hts, hfr, hlo, hin⟩ := C
  obtain ⟨-, hE2, hck⟩ := eok_all i k hi pc _ r z hd
  obtain ⟨hdec, hnx⟩ := hE2 rfl
  dsimp only [lenOf] at hdec hnx
  dsimp only [axf] at ha
  obtain ⟨x, hld, ha⟩ := ldL_inv ha
  obtain ⟨rfl, rfl, rfl, rfl⟩ := jp_inv ha
  obtain rfl := hnx _ _ hk2
  have k0 := KK ad H locs cl (fun _ _ => rfl) hh hl (oks_cons.mpr ⟨hl _ _ hld, hs⟩) hR hlv
  simp only [List.map_cons, cv] at k0 ⊢
  exact lv_lload hx hb hdec (lvr_at hlv hld) k0

theorem st_lload_n (j : Fin 4) : StepOK (.lload_n j) := by
  intro p l e R s m args below meth c Q E A H0 i n0 u0 k pc r z ls st h k2 ls2 st2 h2 pc2 q2 ad H locs cl C hi hd ha hk2 hh hl hs hR hlv hn0 hu0 hcells hslots KK
  obtain ⟨hx, hb, hml, hown, hts, hfr, hlo, hin⟩ := C
  obtain ⟨-, hE2, hck⟩ := eok_all i k hi pc _ r z hd
  obtain ⟨hdec, hnx⟩ := hE2 rfl
  dsimp only [lenOf] at hdec hnx
  dsimp only [axf] at ha
  obtain ⟨x, hld, ha⟩ := ldL_inv ha
  obtain ⟨rfl, rfl, rfl, rfl⟩ := jp_inv ha
  obtain rfl := hnx _ _ hk2
  have k0 := KK ad H locs cl (fun _ _ => rfl) hh hl (oks_cons.mpr ⟨hl _ _ hld, hs⟩) hR hlv
  simp only [List.map_cons, cv] at k0 ⊢
  exact lv_lload_n hx hb hdec rfl (lvr_at hlv hld) k0

theorem st_fload (j : Nat) : StepOK (.fload j) := by
  intro p l e R s m args below meth c Q E A H0 i n0 u0 k pc r z ls st h k2 ls2 st2 h2 pc2 q2 ad H locs cl C hi hd ha hk2 hh hl hs hR hlv hn0 hu0 hcells hslots KK
  obtain ⟨hx, hb, hml, hown, hts, hfr, hlo, hin⟩ := C
  obtain ⟨-, hE2, hck⟩ := eok_all i k hi pc _ r z hd
  obtain ⟨hdec, hnx⟩ := hE2 rfl
  dsimp only [lenOf] at hdec hnx
  dsimp only [axf] at ha
  obtain ⟨x, hld, ha⟩ := ldF_inv ha
  obtain ⟨rfl, rfl, rfl, rfl⟩ := jp_inv ha
  obtain rfl := hnx _ _ hk2
  have k0 := KK ad H locs cl (fun _ _ => rfl) hh hl (oks_cons.mpr ⟨hl _ _ hld, hs⟩) hR hlv
  simp only [List.map_cons, cv] at k0 ⊢
  exact lv_fload hx hb hdec (lvr_at hlv hld) k0

theorem st_fload_n (j : Fin 4) : StepOK (.fload_n j) := by
  intro p l e R s m args below meth c Q E A H0 i n0 u0 k pc r z ls st h k2 ls2 st2 h2 pc2 q2 ad H locs cl C hi hd ha hk2 hh hl hs hR hlv hn0 hu0 hcells hslots KK
  obtain ⟨hx, hb, hml, hown, hts, hfr, hlo, hin⟩ := C
  obtain ⟨-, hE2, hck⟩ := eok_all i k hi pc _ r z hd
  obtain ⟨hdec, hnx⟩ := hE2 rfl
  dsimp only [lenOf] at hdec hnx
  dsimp only [axf] at ha
  obtain ⟨x, hld, ha⟩ := ldF_inv ha
  obtain ⟨rfl, rfl, rfl, rfl⟩ := jp_inv ha
  obtain rfl := hnx _ _ hk2
  have k0 := KK ad H locs cl (fun _ _ => rfl) hh hl (oks_cons.mpr ⟨hl _ _ hld, hs⟩) hR hlv
  simp only [List.map_cons, cv] at k0 ⊢
  exact lv_fload_n hx hb hdec rfl (lvr_at hlv hld) k0

theorem st_aload (j : Nat) : StepOK (.aload j) := by
  intro p l e R s m args below meth c Q E A H0 i n0 u0 k pc r z ls st h k2 ls2 st2 h2 pc2 q2 ad H locs cl C hi hd ha hk2 hh hl hs hR hlv hn0 hu0 hcells hslots KK
  obtain ⟨hx, hb, hml, hown, hts, hfr, hlo, hin⟩ := C
  obtain ⟨-, hE2, hck⟩ := eok_all i k hi pc _ r z hd
  obtain ⟨hdec, hnx⟩ := hE2 rfl
  dsimp only [lenOf] at hdec hnx
  dsimp only [axf] at ha
  obtain ⟨x, hld, ha⟩ := ldR_inv ha
  obtain ⟨rfl, rfl, rfl, rfl⟩ := jp_inv ha
  obtain rfl := hnx _ _ hk2
  have k0 := KK ad H locs cl (fun _ _ => rfl) hh hl (oks_cons.mpr ⟨hl _ _ hld, hs⟩) hR hlv
  simp only [List.map_cons, cv] at k0 ⊢
  cases x with
  | none => exact lv_aloadN hx hb hdec (lvr_at hlv hld) k0
  | some a => exact lv_aload hx hb hdec (lvr_at hlv hld) k0

theorem st_aload_n (j : Fin 4) : StepOK (.aload_n j) := by
  intro p l e R s m args below meth c Q E A H0 i n0 u0 k pc r z ls st h k2 ls2 st2 h2 pc2 q2 ad H locs cl C hi hd ha hk2 hh hl hs hR hlv hn0 hu0 hcells hslots KK
  obtain ⟨hx, hb, hml, hown, hts, hfr, hlo, hin⟩ := C
  obtain ⟨-, hE2, hck⟩ := eok_all i k hi pc _ r z hd
  obtain ⟨hdec, hnx⟩ := hE2 rfl
  dsimp only [lenOf] at hdec hnx
  dsimp only [axf] at ha
  obtain ⟨x, hld, ha⟩ := ldR_inv ha
  obtain ⟨rfl, rfl, rfl, rfl⟩ := jp_inv ha
  obtain rfl := hnx _ _ hk2
  have k0 := KK ad H locs cl (fun _ _ => rfl) hh hl (oks_cons.mpr ⟨hl _ _ hld, hs⟩) hR hlv
  simp only [List.map_cons, cv] at k0 ⊢
  cases x with
  | none => exact lv_aload_nN hx hb hdec rfl (lvr_at hlv hld) k0
  | some a => exact lv_aload_n hx hb hdec rfl (lvr_at hlv hld) k0

theorem st_istore (j : Nat) : StepOK (.istore j) := by
  intro p l e R s m args below meth c Q E A H0 i n0 u0 k pc r z ls st h k2 ls2 st2 h2 pc2 q2 ad H locs cl C hi hd ha hk2 hh hl hs hR hlv hn0 hu0 hcells hslots KK
  obtain ⟨hx, hb, hml, hown, hts, hfr, hlo, hin⟩ := C
  obtain ⟨-, hE2, hck⟩ := eok_all i k hi pc _ r z hd
  obtain ⟨hdec, hnx⟩ := hE2 rfl
  dsimp only [lenOf] at hdec hnx
  dsimp only [axf] at ha
  simp only [ckS, decide_eq_true_eq] at hck
  obtain ⟨x, s1, rfl, ha⟩ := p1I_inv ha
  obtain ⟨rfl, rfl, rfl, rfl⟩ := jp_inv ha
  obtain rfl := hnx _ _ hk2
  obtain ⟨hv, hs⟩ := oks_cons.mp hs
  simp only [List.map_cons, cv] at KK ⊢
  exact lv_istore hx hb hdec hlv.1 hck rfl (fun cl2 h2 => KK ad H locs cl2 (fun _ _ => rfl) hh (okl_lset hl hv) hs hR (lvr_lset hlv h2 rfl))

theorem st_istore_n (j : Fin 4) : StepOK (.istore_n j) := by
  intro p l e R s m args below meth c Q E A H0 i n0 u0 k pc r z ls st h k2 ls2 st2 h2 pc2 q2 ad H locs cl C hi hd ha hk2 hh hl hs hR hlv hn0 hu0 hcells hslots KK
  obtain ⟨hx, hb, hml, hown, hts, hfr, hlo, hin⟩ := C
  obtain ⟨-, hE2, hck⟩ := eok_all i k hi pc _ r z hd
  obtain ⟨hdec, hnx⟩ := hE2 rfl
  dsimp only [lenOf] at hdec hnx
  dsimp only [axf] at ha
  simp only [ckS, decide_eq_true_eq] at hck
  obtain ⟨x, s1, rfl, ha⟩ := p1I_inv ha
  obtain ⟨rfl, rfl, rfl, rfl⟩ := jp_inv ha
  obtain rfl := hnx _ _ hk2
  obtain ⟨hv, hs⟩ := oks_cons.mp hs
  simp only [List.map_cons, cv] at KK ⊢
  exact lv_istore_n hx hb hdec rfl hlv.1 hck rfl (fun cl2 h2 => KK ad H locs cl2 (fun _ _ => rfl) hh (okl_lset hl hv) hs hR (lvr_lset hlv h2 rfl))

theorem st_lstore (j : Nat) : StepOK (.lstore j) := by
  intro p l e R s m args below meth c Q E A H0 i n0 u0 k pc r z ls st h k2 ls2 st2 h2 pc2 q2 ad H locs cl C hi hd ha hk2 hh hl hs hR hlv hn0 hu0 hcells hslots KK
  obtain ⟨hx, hb, hml, hown, hts, hfr, hlo, hin⟩ := C
  obtain ⟨-, hE2, hck⟩ := eok_all i k hi pc _ r z hd
  obtain ⟨hdec, hnx⟩ := hE2 rfl
  dsimp only [lenOf] at hdec hnx
  dsimp only [axf] at ha
  simp only [ckS, decide_eq_true_eq] at hck
  obtain ⟨x, s1, rfl, ha⟩ := p1L_inv ha
  obtain ⟨rfl, rfl, rfl, rfl⟩ := jp_inv ha
  obtain rfl := hnx _ _ hk2
  obtain ⟨hv, hs⟩ := oks_cons.mp hs
  simp only [List.map_cons, cv] at KK ⊢
  exact lv_lstore hx hb hdec hlv.1 hck rfl (fun cl2 h2 => KK ad H locs cl2 (fun _ _ => rfl) hh (okl_lset2 hl hv) hs hR (lvr_lset2 hlv h2 rfl))

theorem st_lstore_n (j : Fin 4) : StepOK (.lstore_n j) := by
  intro p l e R s m args below meth c Q E A H0 i n0 u0 k pc r z ls st h k2 ls2 st2 h2 pc2 q2 ad H locs cl C hi hd ha hk2 hh hl hs hR hlv hn0 hu0 hcells hslots KK
  obtain ⟨hx, hb, hml, hown, hts, hfr, hlo, hin⟩ := C
  obtain ⟨-, hE2, hck⟩ := eok_all i k hi pc _ r z hd
  obtain ⟨hdec, hnx⟩ := hE2 rfl
  dsimp only [lenOf] at hdec hnx
  dsimp only [axf] at ha
  simp only [ckS, decide_eq_true_eq] at hck
  obtain ⟨x, s1, rfl, ha⟩ := p1L_inv ha
  obtain ⟨rfl, rfl, rfl, rfl⟩ := jp_inv ha
  obtain rfl := hnx _ _ hk2
  obtain ⟨hv, hs⟩ := oks_cons.mp hs
  simp only [List.map_cons, cv] at KK ⊢
  exact lv_lstore_n hx hb hdec rfl hlv.1 hck rfl (fun cl2 h2 => KK ad H locs cl2 (fun _ _ => rfl) hh (okl_lset2 hl hv) hs hR (lvr_lset2 hlv h2 rfl))

theorem st_fstore (j : Nat) : StepOK (.fstore j) := by
  intro p l e R s m args below meth c Q E A H0 i n0 u0 k pc r z ls st h k2 ls2 st2 h2 pc2 q2 ad H locs cl C hi hd ha hk2 hh hl hs hR hlv hn0 hu0 hcells hslots KK
  obtain ⟨hx, hb, hml, hown, hts, hfr, hlo, hin⟩ := C
  obtain ⟨-, hE2, hck⟩ := eok_all i k hi pc _ r z hd
  obtain ⟨hdec, hnx⟩ := hE2 rfl
  dsimp only [lenOf] at hdec hnx
  dsimp only [axf] at ha
  simp only [ckS, decide_eq_true_eq] at hck
  obtain ⟨x, s1, rfl, ha⟩ := p1F_inv ha
  obtain ⟨rfl, rfl, rfl, rfl⟩ := jp_inv ha
  obtain rfl := hnx _ _ hk2
  obtain ⟨hv, hs⟩ := oks_cons.mp hs
  simp only [List.map_cons, cv] at KK ⊢
  exact lv_fstore hx hb hdec hlv.1 hck rfl (fun cl2 h2 => KK ad H locs cl2 (fun _ _ => rfl) hh (okl_lset hl hv) hs hR (lvr_lset hlv h2 rfl))

theorem st_fstore_n (j : Fin 4) : StepOK (.fstore_n j) := by
  intro p l e R s m args below meth c Q E A H0 i n0 u0 k pc r z ls st h k2 ls2 st2 h2 pc2 q2 ad H locs cl C hi hd ha hk2 hh hl hs hR hlv hn0 hu0 hcells hslots KK
  obtain ⟨hx, hb, hml, hown, hts, hfr, hlo, hin⟩ := C
  obtain ⟨-, hE2, hck⟩ := eok_all i k hi pc _ r z hd
  obtain ⟨hdec, hnx⟩ := hE2 rfl
  dsimp only [lenOf] at hdec hnx
  dsimp only [axf] at ha
  simp only [ckS, decide_eq_true_eq] at hck
  obtain ⟨x, s1, rfl, ha⟩ := p1F_inv ha
  obtain ⟨rfl, rfl, rfl, rfl⟩ := jp_inv ha
  obtain rfl := hnx _ _ hk2
  obtain ⟨hv, hs⟩ := oks_cons.mp hs
  simp only [List.map_cons, cv] at KK ⊢
  exact lv_fstore_n hx hb hdec rfl hlv.1 hck rfl (fun cl2 h2 => KK ad H locs cl2 (fun _ _ => rfl) hh (okl_lset hl hv) hs hR (lvr_lset hlv h2 rfl))

theorem st_astore (j : Nat) : StepOK (.astore j) := by
  intro p l e R s m args below meth c Q E A H0 i n0 u0 k pc r z ls st h k2 ls2 st2 h2 pc2 q2 ad H locs cl C hi hd ha hk2 hh hl hs hR hlv hn0 hu0 hcells hslots KK
  obtain ⟨hx, hb, hml, hown, hts, hfr, hlo, hin⟩ := C
  obtain ⟨-, hE2, hck⟩ := eok_all i k hi pc _ r z hd
  obtain ⟨hdec, hnx⟩ := hE2 rfl
  dsimp only [lenOf] at hdec hnx
  dsimp only [axf] at ha
  simp only [ckS, decide_eq_true_eq] at hck
  obtain ⟨x, s1, rfl, ha⟩ := p1Q_inv ha
  obtain ⟨rfl, rfl, rfl, rfl⟩ := jp_inv ha
  obtain rfl := hnx _ _ hk2
  obtain ⟨hv, hs1⟩ := oks_cons.mp hs
  cases x with
  | none => exact lv_astoreN hx hb hdec hlv.1 hck rfl (fun cl2 h2 => KK ad H locs cl2 (fun _ _ => rfl) hh (okl_lset hl hv) hs1 hR (lvr_lset hlv h2 rfl))
  | some a => exact lv_astore hx hb hdec hlv.1 hck rfl (fun cl2 h2 => KK ad H locs cl2 (fun _ _ => rfl) hh (okl_lset hl hv) hs1 hR (lvr_lset hlv h2 rfl))

theorem st_astore_n (j : Fin 4) : StepOK (.astore_n j) := by
  intro p l e R s m args below meth c Q E A H0 i n0 u0 k pc r z ls st h k2 ls2 st2 h2 pc2 q2 ad H locs cl C hi hd ha hk2 hh hl hs hR hlv hn0 hu0 hcells hslots KK
  obtain ⟨hx, hb, hml, hown, hts, hfr, hlo, hin⟩ := C
  obtain ⟨-, hE2, hck⟩ := eok_all i k hi pc _ r z hd
  obtain ⟨hdec, hnx⟩ := hE2 rfl
  dsimp only [lenOf] at hdec hnx
  dsimp only [axf] at ha
  simp only [ckS, decide_eq_true_eq] at hck
  obtain ⟨x, s1, rfl, ha⟩ := p1Q_inv ha
  obtain ⟨rfl, rfl, rfl, rfl⟩ := jp_inv ha
  obtain rfl := hnx _ _ hk2
  obtain ⟨hv, hs1⟩ := oks_cons.mp hs
  cases x with
  | none => exact lv_astore_nN hx hb hdec rfl hlv.1 hck rfl (fun cl2 h2 => KK ad H locs cl2 (fun _ _ => rfl) hh (okl_lset hl hv) hs1 hR (lvr_lset hlv h2 rfl))
  | some a => exact lv_astore_n hx hb hdec rfl hlv.1 hck rfl (fun cl2 h2 => KK ad H locs cl2 (fun _ _ => rfl) hh (okl_lset hl hv) hs1 hR (lvr_lset hlv h2 rfl))

theorem st_iinc (j : Nat) (n : Int) : StepOK (.iinc j n) := by
  intro p l e R s m args below meth c Q E A H0 i n0 u0 k pc r z ls st h k2 ls2 st2 h2 pc2 q2 ad H locs cl C hi hd ha hk2 hh hl hs hR hlv hn0 hu0 hcells hslots KK
  obtain ⟨hx, hb, hml, hown, hts, hfr, hlo, hin⟩ := C
  obtain ⟨-, hE2, hck⟩ := eok_all i k hi pc _ r z hd
  obtain ⟨hdec, hnx⟩ := hE2 rfl
  dsimp only [lenOf] at hdec hnx
  dsimp only [axf] at ha
  simp only [ckS, Bool.and_eq_true, decide_eq_true_eq] at hck
  obtain ⟨x, hld, ha⟩ := ldI_inv ha
  obtain ⟨rfl, rfl, rfl, rfl⟩ := jp_inv ha
  obtain rfl := hnx _ _ hk2
  obtain ⟨kk, hkk⟩ := List.getElem?_of_mem (lvl_mem (ad := ad) hld)
  refine lv_iinc (v := Int32.ofInt (w32 (x + n))) hx hb hdec hlv.1 (x := Int32.ofInt x) hkk (by rw [i32_w, Int32.ofInt_add]) hck.1 rfl (fun cl2 h2 => ?_)
  exact KK ad H locs cl2 (fun _ _ => rfl) hh (okl_lset hl (w32_rng _)) hs hR (lvr_lset (v := vI (w32 (x + n))) hlv h2 rfl)

theorem st_iadd : StepOK (.iadd) := by
  intro p l e R s m args below meth c Q E A H0 i n0 u0 k pc r z ls st h k2 ls2 st2 h2 pc2 q2 ad H locs cl C hi hd ha hk2 hh hl hs hR hlv hn0 hu0 hcells hslots KK
  obtain ⟨hx, hb, hml, hown, hts, hfr, hlo, hin⟩ := C
  obtain ⟨-, hE2, hck⟩ := eok_all i k hi pc _ r z hd
  obtain ⟨hdec, hnx⟩ := hE2 rfl
  dsimp only [lenOf] at hdec hnx
  dsimp only [axf] at ha
  obtain ⟨x, y, s1, rfl, ha⟩ := p2I_inv ha
  obtain ⟨hy0, hs⟩ := oks_cons.mp hs
  obtain ⟨hx0, hs⟩ := oks_cons.mp hs
  obtain ⟨rfl, rfl, rfl, rfl⟩ := jp_inv ha
  obtain rfl := hnx _ _ hk2
  have k0 := KK ad H locs cl (fun _ _ => rfl) hh hl (oks_cons.mpr ⟨w32_rng _, hs⟩) hR hlv
  simp only [List.map_cons, cv] at k0 ⊢
  rw [i32_w, Int32.ofInt_add] at k0
  exact lv_iadd hx hb hdec k0

theorem st_isub : StepOK (.isub) := by
  intro p l e R s m args below meth c Q E A H0 i n0 u0 k pc r z ls st h k2 ls2 st2 h2 pc2 q2 ad H locs cl C hi hd ha hk2 hh hl hs hR hlv hn0 hu0 hcells hslots KK
  obtain ⟨hx, hb, hml, hown, hts, hfr, hlo, hin⟩ := C
  obtain ⟨-, hE2, hck⟩ := eok_all i k hi pc _ r z hd
  obtain ⟨hdec, hnx⟩ := hE2 rfl
  dsimp only [lenOf] at hdec hnx
  dsimp only [axf] at ha
  obtain ⟨x, y, s1, rfl, ha⟩ := p2I_inv ha
  obtain ⟨hy0, hs⟩ := oks_cons.mp hs
  obtain ⟨hx0, hs⟩ := oks_cons.mp hs
  obtain ⟨rfl, rfl, rfl, rfl⟩ := jp_inv ha
  obtain rfl := hnx _ _ hk2
  have k0 := KK ad H locs cl (fun _ _ => rfl) hh hl (oks_cons.mpr ⟨w32_rng _, hs⟩) hR hlv
  simp only [List.map_cons, cv] at k0 ⊢
  rw [i32_w, Int32.ofInt_sub] at k0
  exact lv_isub hx hb hdec k0

theorem st_imul : StepOK (.imul) := by
  intro p l e R s m args below meth c Q E A H0 i n0 u0 k pc r z ls st h k2 ls2 st2 h2 pc2 q2 ad H locs cl C hi hd ha hk2 hh hl hs hR hlv hn0 hu0 hcells hslots KK
  obtain ⟨hx, hb, hml, hown, hts, hfr, hlo, hin⟩ := C
  obtain ⟨-, hE2, hck⟩ := eok_all i k hi pc _ r z hd
  obtain ⟨hdec, hnx⟩ := hE2 rfl
  dsimp only [lenOf] at hdec hnx
  dsimp only [axf] at ha
  obtain ⟨x, y, s1, rfl, ha⟩ := p2I_inv ha
  obtain ⟨hy0, hs⟩ := oks_cons.mp hs
  obtain ⟨hx0, hs⟩ := oks_cons.mp hs
  obtain ⟨rfl, rfl, rfl, rfl⟩ := jp_inv ha
  obtain rfl := hnx _ _ hk2
  have k0 := KK ad H locs cl (fun _ _ => rfl) hh hl (oks_cons.mpr ⟨w32_rng _, hs⟩) hR hlv
  simp only [List.map_cons, cv] at k0 ⊢
  rw [i32_w, Int32.ofInt_mul] at k0
  exact lv_imul hx hb hdec k0

theorem st_iand : StepOK (.iand) := by
  intro p l e R s m args below meth c Q E A H0 i n0 u0 k pc r z ls st h k2 ls2 st2 h2 pc2 q2 ad H locs cl C hi hd ha hk2 hh hl hs hR hlv hn0 hu0 hcells hslots KK
  obtain ⟨hx, hb, hml, hown, hts, hfr, hlo, hin⟩ := C
  obtain ⟨-, hE2, hck⟩ := eok_all i k hi pc _ r z hd
  obtain ⟨hdec, hnx⟩ := hE2 rfl
  dsimp only [lenOf] at hdec hnx
  dsimp only [axf] at ha
  obtain ⟨x, y, s1, rfl, ha⟩ := p2I_inv ha
  obtain ⟨hy0, hs⟩ := oks_cons.mp hs
  obtain ⟨hx0, hs⟩ := oks_cons.mp hs
  obtain ⟨rfl, rfl, rfl, rfl⟩ := jp_inv ha
  obtain rfl := hnx _ _ hk2
  have k0 := KK ad H locs cl (fun _ _ => rfl) hh hl (oks_cons.mpr ⟨i32_rng _, hs⟩) hR hlv
  simp only [List.map_cons, cv] at k0 ⊢
  unfold i2 at k0
  rw [Int32.ofInt_toInt] at k0
  exact lv_iand hx hb hdec k0

theorem st_ior : StepOK (.ior) := by
  intro p l e R s m args below meth c Q E A H0 i n0 u0 k pc r z ls st h k2 ls2 st2 h2 pc2 q2 ad H locs cl C hi hd ha hk2 hh hl hs hR hlv hn0 hu0 hcells hslots KK
  obtain ⟨hx, hb, hml, hown, hts, hfr, hlo, hin⟩ := C
  obtain ⟨-, hE2, hck⟩ := eok_all i k hi pc _ r z hd
  obtain ⟨hdec, hnx⟩ := hE2 rfl
  dsimp only [lenOf] at hdec hnx
  dsimp only [axf] at ha
  obtain ⟨x, y, s1, rfl, ha⟩ := p2I_inv ha
  obtain ⟨hy0, hs⟩ := oks_cons.mp hs
  obtain ⟨hx0, hs⟩ := oks_cons.mp hs
  obtain ⟨rfl, rfl, rfl, rfl⟩ := jp_inv ha
  obtain rfl := hnx _ _ hk2
  have k0 := KK ad H locs cl (fun _ _ => rfl) hh hl (oks_cons.mpr ⟨i32_rng _, hs⟩) hR hlv
  simp only [List.map_cons, cv] at k0 ⊢
  unfold i2 at k0
  rw [Int32.ofInt_toInt] at k0
  exact lv_ior hx hb hdec k0

theorem st_ixor : StepOK (.ixor) := by
  intro p l e R s m args below meth c Q E A H0 i n0 u0 k pc r z ls st h k2 ls2 st2 h2 pc2 q2 ad H locs cl C hi hd ha hk2 hh hl hs hR hlv hn0 hu0 hcells hslots KK
  obtain ⟨hx, hb, hml, hown, hts, hfr, hlo, hin⟩ := C
  obtain ⟨-, hE2, hck⟩ := eok_all i k hi pc _ r z hd
  obtain ⟨hdec, hnx⟩ := hE2 rfl
  dsimp only [lenOf] at hdec hnx
  dsimp only [axf] at ha
  obtain ⟨x, y, s1, rfl, ha⟩ := p2I_inv ha
  obtain ⟨hy0, hs⟩ := oks_cons.mp hs
  obtain ⟨hx0, hs⟩ := oks_cons.mp hs
  obtain ⟨rfl, rfl, rfl, rfl⟩ := jp_inv ha
  obtain rfl := hnx _ _ hk2
  have k0 := KK ad H locs cl (fun _ _ => rfl) hh hl (oks_cons.mpr ⟨i32_rng _, hs⟩) hR hlv
  simp only [List.map_cons, cv] at k0 ⊢
  unfold i2 at k0
  rw [Int32.ofInt_toInt] at k0
  exact lv_ixor hx hb hdec k0

theorem st_ishl : StepOK (.ishl) := by
  intro p l e R s m args below meth c Q E A H0 i n0 u0 k pc r z ls st h k2 ls2 st2 h2 pc2 q2 ad H locs cl C hi hd ha hk2 hh hl hs hR hlv hn0 hu0 hcells hslots KK
  obtain ⟨hx, hb, hml, hown, hts, hfr, hlo, hin⟩ := C
  obtain ⟨-, hE2, hck⟩ := eok_all i k hi pc _ r z hd
  obtain ⟨hdec, hnx⟩ := hE2 rfl
  dsimp only [lenOf] at hdec hnx
  dsimp only [axf] at ha
  obtain ⟨x, y, s1, rfl, ha⟩ := p2I_inv ha
  obtain ⟨hy0, hs⟩ := oks_cons.mp hs
  obtain ⟨hx0, hs⟩ := oks_cons.mp hs
  obtain ⟨rfl, rfl, rfl, rfl⟩ := jp_inv ha
  obtain rfl := hnx _ _ hk2
  have k0 := KK ad H locs cl (fun _ _ => rfl) hh hl (oks_cons.mpr ⟨i32_rng _, hs⟩) hR hlv
  simp only [List.map_cons, cv] at k0 ⊢
  unfold i2 at k0
  rw [Int32.ofInt_toInt] at k0
  exact lv_ishl hx hb hdec k0

theorem st_ishr : StepOK (.ishr) := by
  intro p l e R s m args below meth c Q E A H0 i n0 u0 k pc r z ls st h k2 ls2 st2 h2 pc2 q2 ad H locs cl C hi hd ha hk2 hh hl hs hR hlv hn0 hu0 hcells hslots KK
  obtain ⟨hx, hb, hml, hown, hts, hfr, hlo, hin⟩ := C
  obtain ⟨-, hE2, hck⟩ := eok_all i k hi pc _ r z hd
  obtain ⟨hdec, hnx⟩ := hE2 rfl
  dsimp only [lenOf] at hdec hnx
  dsimp only [axf] at ha
  obtain ⟨x, y, s1, rfl, ha⟩ := p2I_inv ha
  obtain ⟨hy0, hs⟩ := oks_cons.mp hs
  obtain ⟨hx0, hs⟩ := oks_cons.mp hs
  obtain ⟨rfl, rfl, rfl, rfl⟩ := jp_inv ha
  obtain rfl := hnx _ _ hk2
  have k0 := KK ad H locs cl (fun _ _ => rfl) hh hl (oks_cons.mpr ⟨i32_rng _, hs⟩) hR hlv
  simp only [List.map_cons, cv] at k0 ⊢
  unfold i2 at k0
  rw [Int32.ofInt_toInt] at k0
  exact lv_ishr hx hb hdec k0

theorem st_idiv : StepOK (.idiv) := by
  intro p l e R s m args below meth c Q E A H0 i n0 u0 k pc r z ls st h k2 ls2 st2 h2 pc2 q2 ad H locs cl C hi hd ha hk2 hh hl hs hR hlv hn0 hu0 hcells hslots KK
  obtain ⟨hx, hb, hml, hown, hts, hfr, hlo, hin⟩ := C
  obtain ⟨-, hE2, hck⟩ := eok_all i k hi pc _ r z hd
  obtain ⟨hdec, hnx⟩ := hE2 rfl
  dsimp only [lenOf] at hdec hnx
  dsimp only [axf] at ha
  obtain ⟨x, y, s1, rfl, ha⟩ := p2I_inv ha
  obtain ⟨hy0, hs⟩ := oks_cons.mp hs
  obtain ⟨hx0, hs⟩ := oks_cons.mp hs
  obtain ⟨hg, ha⟩ := gd_inv ha
  obtain ⟨rfl, rfl, rfl, rfl⟩ := jp_inv ha
  obtain rfl := hnx _ _ hk2
  have k0 := KK ad H locs cl (fun _ _ => rfl) hh hl (oks_cons.mpr ⟨i32_rng _, hs⟩) hR hlv
  simp only [List.map_cons, cv] at k0 ⊢
  unfold i2 at k0
  rw [Int32.ofInt_toInt] at k0
  exact lv_idiv hx hb hdec (fun h0 => hg ((i32_eq hy0 r32_0).mp (by rw [i32_0]; exact h0))) k0

theorem st_irem : StepOK (.irem) := by
  intro p l e R s m args below meth c Q E A H0 i n0 u0 k pc r z ls st h k2 ls2 st2 h2 pc2 q2 ad H locs cl C hi hd ha hk2 hh hl hs hR hlv hn0 hu0 hcells hslots KK
  obtain ⟨hx, hb, hml, hown, hts, hfr, hlo, hin⟩ := C
  obtain ⟨-, hE2, hck⟩ := eok_all i k hi pc _ r z hd
  obtain ⟨hdec, hnx⟩ := hE2 rfl
  dsimp only [lenOf] at hdec hnx
  dsimp only [axf] at ha
  obtain ⟨x, y, s1, rfl, ha⟩ := p2I_inv ha
  obtain ⟨hy0, hs⟩ := oks_cons.mp hs
  obtain ⟨hx0, hs⟩ := oks_cons.mp hs
  obtain ⟨hg, ha⟩ := gd_inv ha
  obtain ⟨rfl, rfl, rfl, rfl⟩ := jp_inv ha
  obtain rfl := hnx _ _ hk2
  have k0 := KK ad H locs cl (fun _ _ => rfl) hh hl (oks_cons.mpr ⟨i32_rng _, hs⟩) hR hlv
  simp only [List.map_cons, cv] at k0 ⊢
  unfold i2 at k0
  rw [Int32.ofInt_toInt] at k0
  exact lv_irem hx hb hdec (fun h0 => hg ((i32_eq hy0 r32_0).mp (by rw [i32_0]; exact h0))) k0

theorem st_ladd : StepOK (.ladd) := by
  intro p l e R s m args below meth c Q E A H0 i n0 u0 k pc r z ls st h k2 ls2 st2 h2 pc2 q2 ad H locs cl C hi hd ha hk2 hh hl hs hR hlv hn0 hu0 hcells hslots KK
  obtain ⟨hx, hb, hml, hown, hts, hfr, hlo, hin⟩ := C
  obtain ⟨-, hE2, hck⟩ := eok_all i k hi pc _ r z hd
  obtain ⟨hdec, hnx⟩ := hE2 rfl
  dsimp only [lenOf] at hdec hnx
  dsimp only [axf] at ha
  obtain ⟨x, y, s1, rfl, ha⟩ := p2L_inv ha
  obtain ⟨hy0, hs⟩ := oks_cons.mp hs
  obtain ⟨hx0, hs⟩ := oks_cons.mp hs
  obtain ⟨rfl, rfl, rfl, rfl⟩ := jp_inv ha
  obtain rfl := hnx _ _ hk2
  have k0 := KK ad H locs cl (fun _ _ => rfl) hh hl (oks_cons.mpr ⟨w64_rng _, hs⟩) hR hlv
  simp only [List.map_cons, cv] at k0 ⊢
  rw [i64_w, Int64.ofInt_add] at k0
  exact lv_ladd hx hb hdec k0

theorem st_lmul : StepOK (.lmul) := by
  intro p l e R s m args below meth c Q E A H0 i n0 u0 k pc r z ls st h k2 ls2 st2 h2 pc2 q2 ad H locs cl C hi hd ha hk2 hh hl hs hR hlv hn0 hu0 hcells hslots KK
  obtain ⟨hx, hb, hml, hown, hts, hfr, hlo, hin⟩ := C
  obtain ⟨-, hE2, hck⟩ := eok_all i k hi pc _ r z hd
  obtain ⟨hdec, hnx⟩ := hE2 rfl
  dsimp only [lenOf] at hdec hnx
  dsimp only [axf] at ha
  obtain ⟨x, y, s1, rfl, ha⟩ := p2L_inv ha
  obtain ⟨hy0, hs⟩ := oks_cons.mp hs
  obtain ⟨hx0, hs⟩ := oks_cons.mp hs
  obtain ⟨rfl, rfl, rfl, rfl⟩ := jp_inv ha
  obtain rfl := hnx _ _ hk2
  have k0 := KK ad H locs cl (fun _ _ => rfl) hh hl (oks_cons.mpr ⟨w64_rng _, hs⟩) hR hlv
  simp only [List.map_cons, cv] at k0 ⊢
  rw [i64_w, Int64.ofInt_mul] at k0
  exact lv_lmul hx hb hdec k0

theorem st_land : StepOK (.land) := by
  intro p l e R s m args below meth c Q E A H0 i n0 u0 k pc r z ls st h k2 ls2 st2 h2 pc2 q2 ad H locs cl C hi hd ha hk2 hh hl hs hR hlv hn0 hu0 hcells hslots KK
  obtain ⟨hx, hb, hml, hown, hts, hfr, hlo, hin⟩ := C
  obtain ⟨-, hE2, hck⟩ := eok_all i k hi pc _ r z hd
  obtain ⟨hdec, hnx⟩ := hE2 rfl
  dsimp only [lenOf] at hdec hnx
  dsimp only [axf] at ha
  obtain ⟨x, y, s1, rfl, ha⟩ := p2L_inv ha
  obtain ⟨hy0, hs⟩ := oks_cons.mp hs
  obtain ⟨hx0, hs⟩ := oks_cons.mp hs
  obtain ⟨rfl, rfl, rfl, rfl⟩ := jp_inv ha
  obtain rfl := hnx _ _ hk2
  have k0 := KK ad H locs cl (fun _ _ => rfl) hh hl (oks_cons.mpr ⟨i64_rng _, hs⟩) hR hlv
  simp only [List.map_cons, cv] at k0 ⊢
  unfold l2 at k0
  rw [Int64.ofInt_toInt] at k0
  exact lv_land hx hb hdec k0

theorem st_lor : StepOK (.lor) := by
  intro p l e R s m args below meth c Q E A H0 i n0 u0 k pc r z ls st h k2 ls2 st2 h2 pc2 q2 ad H locs cl C hi hd ha hk2 hh hl hs hR hlv hn0 hu0 hcells hslots KK
  obtain ⟨hx, hb, hml, hown, hts, hfr, hlo, hin⟩ := C
  obtain ⟨-, hE2, hck⟩ := eok_all i k hi pc _ r z hd
  obtain ⟨hdec, hnx⟩ := hE2 rfl
  dsimp only [lenOf] at hdec hnx
  dsimp only [axf] at ha
  obtain ⟨x, y, s1, rfl, ha⟩ := p2L_inv ha
  obtain ⟨hy0, hs⟩ := oks_cons.mp hs
  obtain ⟨hx0, hs⟩ := oks_cons.mp hs
  obtain ⟨rfl, rfl, rfl, rfl⟩ := jp_inv ha
  obtain rfl := hnx _ _ hk2
  have k0 := KK ad H locs cl (fun _ _ => rfl) hh hl (oks_cons.mpr ⟨i64_rng _, hs⟩) hR hlv
  simp only [List.map_cons, cv] at k0 ⊢
  unfold l2 at k0
  rw [Int64.ofInt_toInt] at k0
  exact lv_lor hx hb hdec k0

theorem st_ldiv : StepOK (.ldiv) := by
  intro p l e R s m args below meth c Q E A H0 i n0 u0 k pc r z ls st h k2 ls2 st2 h2 pc2 q2 ad H locs cl C hi hd ha hk2 hh hl hs hR hlv hn0 hu0 hcells hslots KK
  obtain ⟨hx, hb, hml, hown, hts, hfr, hlo, hin⟩ := C
  obtain ⟨-, hE2, hck⟩ := eok_all i k hi pc _ r z hd
  obtain ⟨hdec, hnx⟩ := hE2 rfl
  dsimp only [lenOf] at hdec hnx
  dsimp only [axf] at ha
  obtain ⟨x, y, s1, rfl, ha⟩ := p2L_inv ha
  obtain ⟨hy0, hs⟩ := oks_cons.mp hs
  obtain ⟨hx0, hs⟩ := oks_cons.mp hs
  obtain ⟨hg, ha⟩ := gd_inv ha
  obtain ⟨rfl, rfl, rfl, rfl⟩ := jp_inv ha
  obtain rfl := hnx _ _ hk2
  have k0 := KK ad H locs cl (fun _ _ => rfl) hh hl (oks_cons.mpr ⟨i64_rng _, hs⟩) hR hlv
  simp only [List.map_cons, cv] at k0 ⊢
  unfold l2 at k0
  rw [Int64.ofInt_toInt] at k0
  exact lv_ldiv hx hb hdec (fun h0 => hg ((i64_eq hy0 ⟨by decide, by decide⟩).mp (by rw [h0]; rfl))) k0

theorem st_lcmp : StepOK (.lcmp) := by
  intro p l e R s m args below meth c Q E A H0 i n0 u0 k pc r z ls st h k2 ls2 st2 h2 pc2 q2 ad H locs cl C hi hd ha hk2 hh hl hs hR hlv hn0 hu0 hcells hslots KK
  obtain ⟨hx, hb, hml, hown, hts, hfr, hlo, hin⟩ := C
  obtain ⟨-, hE2, hck⟩ := eok_all i k hi pc _ r z hd
  obtain ⟨hdec, hnx⟩ := hE2 rfl
  dsimp only [lenOf] at hdec hnx
  dsimp only [axf] at ha
  obtain ⟨x, y, s1, rfl, ha⟩ := p2L_inv ha
  obtain ⟨hy0, hs⟩ := oks_cons.mp hs
  obtain ⟨hx0, hs⟩ := oks_cons.mp hs
  obtain ⟨rfl, rfl, rfl, rfl⟩ := jp_inv ha
  obtain rfl := hnx _ _ hk2
  have k0 := KK ad H locs cl (fun _ _ => rfl) hh hl (oks_cons.mpr ⟨lcmp_rng x y, hs⟩) hR hlv
  simp only [List.map_cons, cv] at k0 ⊢
  have hc : Int32.ofInt (if y < x then 1 else if x = y then 0 else -1) = lg_cmp (Int64.ofInt x) (Int64.ofInt y) := by
    unfold lg_cmp
    simp only [GT.gt, i64_lt hy0 hx0, i64_eq hx0 hy0]
    split
    · decide
    · split <;> decide
  rw [hc] at k0
  exact W.lcmp hx hb hdec k0

theorem st_lshl : StepOK (.lshl) := by
  intro p l e R s m args below meth c Q E A H0 i n0 u0 k pc r z ls st h k2 ls2 st2 h2 pc2 q2 ad H locs cl C hi hd ha hk2 hh hl hs hR hlv hn0 hu0 hcells hslots KK
  obtain ⟨hx, hb, hml, hown, hts, hfr, hlo, hin⟩ := C
  obtain ⟨-, hE2, hck⟩ := eok_all i k hi pc _ r z hd
  obtain ⟨hdec, hnx⟩ := hE2 rfl
  dsimp only [lenOf] at hdec hnx
  dsimp only [axf] at ha
  obtain ⟨x, y, s1, rfl, ha⟩ := p2LI_inv ha
  obtain ⟨hy0, hs⟩ := oks_cons.mp hs
  obtain ⟨hx0, hs⟩ := oks_cons.mp hs
  obtain ⟨rfl, rfl, rfl, rfl⟩ := jp_inv ha
  obtain rfl := hnx _ _ hk2
  have k0 := KK ad H locs cl (fun _ _ => rfl) hh hl (oks_cons.mpr ⟨i64_rng _, hs⟩) hR hlv
  simp only [List.map_cons, cv] at k0 ⊢
  unfold l1 at k0
  rw [Int64.ofInt_toInt] at k0
  exact lv_lshl hx hb hdec rfl k0

theorem st_lshr : StepOK (.lshr) := by
  intro p l e R s m args below meth c Q E A H0 i n0 u0 k pc r z ls st h k2 ls2 st2 h2 pc2 q2 ad H locs cl C hi hd ha hk2 hh hl hs hR hlv hn0 hu0 hcells hslots KK
  obtain ⟨hx, hb, hml, hown, hts, hfr, hlo, hin⟩ := C
  obtain ⟨-, hE2, hck⟩ := eok_all i k hi pc _ r z hd
  obtain ⟨hdec, hnx⟩ := hE2 rfl
  dsimp only [lenOf] at hdec hnx
  dsimp only [axf] at ha
  obtain ⟨x, y, s1, rfl, ha⟩ := p2LI_inv ha
  obtain ⟨hy0, hs⟩ := oks_cons.mp hs
  obtain ⟨hx0, hs⟩ := oks_cons.mp hs
  obtain ⟨rfl, rfl, rfl, rfl⟩ := jp_inv ha
  obtain rfl := hnx _ _ hk2
  have k0 := KK ad H locs cl (fun _ _ => rfl) hh hl (oks_cons.mpr ⟨i64_rng _, hs⟩) hR hlv
  simp only [List.map_cons, cv] at k0 ⊢
  unfold l1 at k0
  rw [Int64.ofInt_toInt] at k0
  exact lv_lshr hx hb hdec rfl k0

theorem st_lushr : StepOK (.lushr) := by
  intro p l e R s m args below meth c Q E A H0 i n0 u0 k pc r z ls st h k2 ls2 st2 h2 pc2 q2 ad H locs cl C hi hd ha hk2 hh hl hs hR hlv hn0 hu0 hcells hslots KK
  obtain ⟨hx, hb, hml, hown, hts, hfr, hlo, hin⟩ := C
  obtain ⟨-, hE2, hck⟩ := eok_all i k hi pc _ r z hd
  obtain ⟨hdec, hnx⟩ := hE2 rfl
  dsimp only [lenOf] at hdec hnx
  dsimp only [axf] at ha
  obtain ⟨x, y, s1, rfl, ha⟩ := p2LI_inv ha
  obtain ⟨hy0, hs⟩ := oks_cons.mp hs
  obtain ⟨hx0, hs⟩ := oks_cons.mp hs
  obtain ⟨rfl, rfl, rfl, rfl⟩ := jp_inv ha
  obtain rfl := hnx _ _ hk2
  have k0 := KK ad H locs cl (fun _ _ => rfl) hh hl (oks_cons.mpr ⟨i64_rng _, hs⟩) hR hlv
  simp only [List.map_cons, cv] at k0 ⊢
  unfold l1 at k0
  rw [Int64.ofInt_toInt] at k0
  exact lv_lushr hx hb hdec rfl k0

theorem st_i2l : StepOK (.i2l) := by
  intro p l e R s m args below meth c Q E A H0 i n0 u0 k pc r z ls st h k2 ls2 st2 h2 pc2 q2 ad H locs cl C hi hd ha hk2 hh hl hs hR hlv hn0 hu0 hcells hslots KK
  obtain ⟨hx, hb, hml, hown, hts, hfr, hlo, hin⟩ := C
  obtain ⟨-, hE2, hck⟩ := eok_all i k hi pc _ r z hd
  obtain ⟨hdec, hnx⟩ := hE2 rfl
  dsimp only [lenOf] at hdec hnx
  dsimp only [axf] at ha
  obtain ⟨x, s1, rfl, ha⟩ := p1I_inv ha
  obtain ⟨hx0, hs⟩ := oks_cons.mp hs
  obtain ⟨rfl, rfl, rfl, rfl⟩ := jp_inv ha
  obtain rfl := hnx _ _ hk2
  have k0 := KK ad H locs cl (fun _ _ => rfl) hh hl (oks_cons.mpr ⟨⟨by have := hx0.1; omega, by have := hx0.2; omega⟩, hs⟩) hR hlv
  simp only [List.map_cons, cv] at k0 ⊢
  exact lv_i2l hx hb hdec (i32_ext hx0) k0

theorem st_l2i : StepOK (.l2i) := by
  intro p l e R s m args below meth c Q E A H0 i n0 u0 k pc r z ls st h k2 ls2 st2 h2 pc2 q2 ad H locs cl C hi hd ha hk2 hh hl hs hR hlv hn0 hu0 hcells hslots KK
  obtain ⟨hx, hb, hml, hown, hts, hfr, hlo, hin⟩ := C
  obtain ⟨-, hE2, hck⟩ := eok_all i k hi pc _ r z hd
  obtain ⟨hdec, hnx⟩ := hE2 rfl
  dsimp only [lenOf] at hdec hnx
  dsimp only [axf] at ha
  obtain ⟨x, s1, rfl, ha⟩ := p1L_inv ha
  obtain ⟨hx0, hs⟩ := oks_cons.mp hs
  obtain ⟨rfl, rfl, rfl, rfl⟩ := jp_inv ha
  obtain rfl := hnx _ _ hk2
  have k0 := KK ad H locs cl (fun _ _ => rfl) hh hl (oks_cons.mpr ⟨w32_rng _, hs⟩) hR hlv
  simp only [List.map_cons, cv] at k0 ⊢
  exact lv_l2i hx hb hdec i64_cut k0

theorem st_i2b : StepOK (.i2b) := by
  intro p l e R s m args below meth c Q E A H0 i n0 u0 k pc r z ls st h k2 ls2 st2 h2 pc2 q2 ad H locs cl C hi hd ha hk2 hh hl hs hR hlv hn0 hu0 hcells hslots KK
  obtain ⟨hx, hb, hml, hown, hts, hfr, hlo, hin⟩ := C
  obtain ⟨-, hE2, hck⟩ := eok_all i k hi pc _ r z hd
  obtain ⟨hdec, hnx⟩ := hE2 rfl
  dsimp only [lenOf] at hdec hnx
  dsimp only [axf] at ha
  obtain ⟨x, s1, rfl, ha⟩ := p1I_inv ha
  obtain ⟨hx0, hs⟩ := oks_cons.mp hs
  obtain ⟨rfl, rfl, rfl, rfl⟩ := jp_inv ha
  obtain rfl := hnx _ _ hk2
  have k0 := KK ad H locs cl (fun _ _ => rfl) hh hl (oks_cons.mpr ⟨i32_rng _, hs⟩) hR hlv
  simp only [List.map_cons, cv] at k0 ⊢
  rw [Int32.ofInt_toInt] at k0
  exact lv_i2b hx hb hdec rfl k0

theorem st_i2f : StepOK (.i2f) := by
  intro p l e R s m args below meth c Q E A H0 i n0 u0 k pc r z ls st h k2 ls2 st2 h2 pc2 q2 ad H locs cl C hi hd ha hk2 hh hl hs hR hlv hn0 hu0 hcells hslots KK
  obtain ⟨hx, hb, hml, hown, hts, hfr, hlo, hin⟩ := C
  obtain ⟨-, hE2, hck⟩ := eok_all i k hi pc _ r z hd
  obtain ⟨hdec, hnx⟩ := hE2 rfl
  dsimp only [lenOf] at hdec hnx
  dsimp only [axf] at ha
  obtain ⟨x, s1, rfl, ha⟩ := p1I_inv ha
  obtain ⟨hx0, hs⟩ := oks_cons.mp hs
  obtain ⟨rfl, rfl, rfl, rfl⟩ := jp_inv ha
  obtain rfl := hnx _ _ hk2
  have k0 := KK ad H locs cl (fun _ _ => rfl) hh hl (oks_cons.mpr ⟨trivial, hs⟩) hR hlv
  simp only [List.map_cons, cv] at k0 ⊢
  exact lv_i2f hx hb hdec k0

theorem st_f2i : StepOK (.f2i) := by
  intro p l e R s m args below meth c Q E A H0 i n0 u0 k pc r z ls st h k2 ls2 st2 h2 pc2 q2 ad H locs cl C hi hd ha hk2 hh hl hs hR hlv hn0 hu0 hcells hslots KK
  obtain ⟨hx, hb, hml, hown, hts, hfr, hlo, hin⟩ := C
  obtain ⟨-, hE2, hck⟩ := eok_all i k hi pc _ r z hd
  obtain ⟨hdec, hnx⟩ := hE2 rfl
  dsimp only [lenOf] at hdec hnx
  dsimp only [axf] at ha
  obtain ⟨x, s1, rfl, ha⟩ := p1F_inv ha
  obtain ⟨hx0, hs⟩ := oks_cons.mp hs
  obtain ⟨rfl, rfl, rfl, rfl⟩ := jp_inv ha
  obtain rfl := hnx _ _ hk2
  have k0 := KK ad H locs cl (fun _ _ => rfl) hh hl (oks_cons.mpr ⟨i32_rng _, hs⟩) hR hlv
  simp only [List.map_cons, cv] at k0 ⊢
  rw [Int32.ofInt_toInt] at k0
  exact lv_f2i hx hb hdec k0

theorem st_fneg : StepOK (.fneg) := by
  intro p l e R s m args below meth c Q E A H0 i n0 u0 k pc r z ls st h k2 ls2 st2 h2 pc2 q2 ad H locs cl C hi hd ha hk2 hh hl hs hR hlv hn0 hu0 hcells hslots KK
  obtain ⟨hx, hb, hml, hown, hts, hfr, hlo, hin⟩ := C
  obtain ⟨-, hE2, hck⟩ := eok_all i k hi pc _ r z hd
  obtain ⟨hdec, hnx⟩ := hE2 rfl
  dsimp only [lenOf] at hdec hnx
  dsimp only [axf] at ha
  obtain ⟨x, s1, rfl, ha⟩ := p1F_inv ha
  obtain ⟨hx0, hs⟩ := oks_cons.mp hs
  obtain ⟨rfl, rfl, rfl, rfl⟩ := jp_inv ha
  obtain rfl := hnx _ _ hk2
  have k0 := KK ad H locs cl (fun _ _ => rfl) hh hl (oks_cons.mpr ⟨trivial, hs⟩) hR hlv
  simp only [List.map_cons, cv] at k0 ⊢
  exact lv_fneg hx hb hdec k0

theorem st_fadd : StepOK (.fadd) := by
  intro p l e R s m args below meth c Q E A H0 i n0 u0 k pc r z ls st h k2 ls2 st2 h2 pc2 q2 ad H locs cl C hi hd ha hk2 hh hl hs hR hlv hn0 hu0 hcells hslots KK
  obtain ⟨hx, hb, hml, hown, hts, hfr, hlo, hin⟩ := C
  obtain ⟨-, hE2, hck⟩ := eok_all i k hi pc _ r z hd
  obtain ⟨hdec, hnx⟩ := hE2 rfl
  dsimp only [lenOf] at hdec hnx
  dsimp only [axf] at ha
  obtain ⟨x, y, s1, rfl, ha⟩ := p2F_inv ha
  obtain ⟨hy0, hs⟩ := oks_cons.mp hs
  obtain ⟨hx0, hs⟩ := oks_cons.mp hs
  obtain ⟨hg, ha⟩ := gd_inv ha
  obtain ⟨rfl, rfl, rfl, rfl⟩ := jp_inv ha
  obtain rfl := hnx _ _ hk2
  have k0 := KK ad H locs cl (fun _ _ => rfl) hh hl (oks_cons.mpr ⟨trivial, hs⟩) hR hlv
  simp only [List.map_cons, cv] at k0 ⊢
  exact lv_fadd hx hb hdec hg k0

theorem st_fsub : StepOK (.fsub) := by
  intro p l e R s m args below meth c Q E A H0 i n0 u0 k pc r z ls st h k2 ls2 st2 h2 pc2 q2 ad H locs cl C hi hd ha hk2 hh hl hs hR hlv hn0 hu0 hcells hslots KK
  obtain ⟨hx, hb, hml, hown, hts, hfr, hlo, hin⟩ := C
  obtain ⟨-, hE2, hck⟩ := eok_all i k hi pc _ r z hd
  obtain ⟨hdec, hnx⟩ := hE2 rfl
  dsimp only [lenOf] at hdec hnx
  dsimp only [axf] at ha
  obtain ⟨x, y, s1, rfl, ha⟩ := p2F_inv ha
  obtain ⟨hy0, hs⟩ := oks_cons.mp hs
  obtain ⟨hx0, hs⟩ := oks_cons.mp hs
  obtain ⟨hg, ha⟩ := gd_inv ha
  obtain ⟨rfl, rfl, rfl, rfl⟩ := jp_inv ha
  obtain rfl := hnx _ _ hk2
  have k0 := KK ad H locs cl (fun _ _ => rfl) hh hl (oks_cons.mpr ⟨trivial, hs⟩) hR hlv
  simp only [List.map_cons, cv] at k0 ⊢
  exact lv_fsub hx hb hdec hg k0

theorem st_fmul : StepOK (.fmul) := by
  intro p l e R s m args below meth c Q E A H0 i n0 u0 k pc r z ls st h k2 ls2 st2 h2 pc2 q2 ad H locs cl C hi hd ha hk2 hh hl hs hR hlv hn0 hu0 hcells hslots KK
  obtain ⟨hx, hb, hml, hown, hts, hfr, hlo, hin⟩ := C
  obtain ⟨-, hE2, hck⟩ := eok_all i k hi pc _ r z hd
  obtain ⟨hdec, hnx⟩ := hE2 rfl
  dsimp only [lenOf] at hdec hnx
  dsimp only [axf] at ha
  obtain ⟨x, y, s1, rfl, ha⟩ := p2F_inv ha
  obtain ⟨hy0, hs⟩ := oks_cons.mp hs
  obtain ⟨hx0, hs⟩ := oks_cons.mp hs
  obtain ⟨hg, ha⟩ := gd_inv ha
  obtain ⟨rfl, rfl, rfl, rfl⟩ := jp_inv ha
  obtain rfl := hnx _ _ hk2
  have k0 := KK ad H locs cl (fun _ _ => rfl) hh hl (oks_cons.mpr ⟨trivial, hs⟩) hR hlv
  simp only [List.map_cons, cv] at k0 ⊢
  exact lv_fmul hx hb hdec hg k0

theorem st_fcmp (op : CmpOp) : StepOK (.fcmp op) := by
  intro p l e R s m args below meth c Q E A H0 i n0 u0 k pc r z ls st h k2 ls2 st2 h2 pc2 q2 ad H locs cl C hi hd ha hk2 hh hl hs hR hlv hn0 hu0 hcells hslots KK
  obtain ⟨hx, hb, hml, hown, hts, hfr, hlo, hin⟩ := C
  obtain ⟨-, hE2, hck⟩ := eok_all i k hi pc _ r z hd
  obtain ⟨hdec, hnx⟩ := hE2 rfl
  dsimp only [lenOf] at hdec hnx
  dsimp only [axf] at ha
  obtain ⟨x, y, s1, rfl, ha⟩ := p2F_inv ha
  obtain ⟨hy0, hs⟩ := oks_cons.mp hs
  obtain ⟨hx0, hs⟩ := oks_cons.mp hs
  obtain ⟨rfl, rfl, rfl, rfl⟩ := jp_inv ha
  obtain rfl := hnx _ _ hk2
  have k0 := KK ad H locs cl (fun _ _ => rfl) hh hl (oks_cons.mpr ⟨i32_rng _, hs⟩) hR hlv
  simp only [List.map_cons, cv] at k0 ⊢
  rw [Int32.ofInt_toInt] at k0
  exact lv_fcmp hx hb hdec k0

theorem st_dup : StepOK (.dup) := by
  intro p l e R s m args below meth c Q E A H0 i n0 u0 k pc r z ls st h k2 ls2 st2 h2 pc2 q2 ad H locs cl C hi hd ha hk2 hh hl hs hR hlv hn0 hu0 hcells hslots KK
  obtain ⟨hx, hb, hml, hown, hts, hfr, hlo, hin⟩ := C
  obtain ⟨-, hE2, hck⟩ := eok_all i k hi pc _ r z hd
  obtain ⟨hdec, hnx⟩ := hE2 rfl
  dsimp only [lenOf] at hdec hnx
  dsimp only [axf] at ha
  cases st with
  | nil => cases ha
  | cons v s1 =>
    dsimp only at ha
    obtain ⟨hg, ha⟩ := gd_inv ha
    obtain ⟨rfl, rfl, rfl, rfl⟩ := jp_inv ha
    obtain rfl := hnx _ _ hk2
    have h1 := oks_cons.mp hs
    have k0 := KK ad H locs cl (fun _ _ => rfl) hh hl (oks_cons.mpr ⟨h1.1, hs⟩) hR hlv
    simp only [List.map_cons] at k0 ⊢
    exact lv_dup hx hb hdec (by rw [cv_cat]; exact hg) k0

theorem st_pop : StepOK (.pop) := by
  intro p l e R s m args below meth c Q E A H0 i n0 u0 k pc r z ls st h k2 ls2 st2 h2 pc2 q2 ad H locs cl C hi hd ha hk2 hh hl hs hR hlv hn0 hu0 hcells hslots KK
  obtain ⟨hx, hb, hml, hown, hts, hfr, hlo, hin⟩ := C
  obtain ⟨-, hE2, hck⟩ := eok_all i k hi pc _ r z hd
  obtain ⟨hdec, hnx⟩ := hE2 rfl
  dsimp only [lenOf] at hdec hnx
  dsimp only [axf] at ha
  cases st with
  | nil => cases ha
  | cons v s1 =>
    dsimp only at ha
    obtain ⟨hg, ha⟩ := gd_inv ha
    obtain ⟨rfl, rfl, rfl, rfl⟩ := jp_inv ha
    obtain rfl := hnx _ _ hk2
    have k0 := KK ad H locs cl (fun _ _ => rfl) hh hl (oks_cons.mp hs).2 hR hlv
    simp only [List.map_cons] at k0 ⊢
    exact lv_pop hx hb hdec (by rw [cv_cat]; exact hg) k0

theorem st_dup2 : StepOK (.dup2) := by
  intro p l e R s m args below meth c Q E A H0 i n0 u0 k pc r z ls st h k2 ls2 st2 h2 pc2 q2 ad H locs cl C hi hd ha hk2 hh hl hs hR hlv hn0 hu0 hcells hslots KK
  obtain ⟨hx, hb, hml, hown, hts, hfr, hlo, hin⟩ := C
  obtain ⟨-, hE2, hck⟩ := eok_all i k hi pc _ r z hd
  obtain ⟨hdec, hnx⟩ := hE2 rfl
  dsimp only [lenOf] at hdec hnx
  dsimp only [axf] at ha
  match st, ha with
  | [], ha => cases ha
  | [_], ha => cases ha
  | v :: w :: s1, ha =>
    dsimp only at ha
    obtain ⟨hg, ha⟩ := gd_inv ha
    obtain ⟨rfl, rfl, rfl, rfl⟩ := jp_inv ha
    obtain rfl := hnx _ _ hk2
    have h1 := oks_cons.mp hs
    have h2 := oks_cons.mp h1.2
    have k0 := KK ad H locs cl (fun _ _ => rfl) hh hl (oks_cons.mpr ⟨h1.1, oks_cons.mpr ⟨h2.1, hs⟩⟩) hR hlv
    simp only [List.map_cons] at k0 ⊢
    exact lv_dup2_11 hx hb hdec (by rw [cv_cat]; exact hg.1) (by rw [cv_cat]; exact hg.2) k0

theorem st_goto (off : Int) : StepOK (.goto off) := by
  intro p l e R s m args below meth c Q E A H0 i n0 u0 k pc r z ls st h k2 ls2 st2 h2 pc2 q2 ad H locs cl C hi hd ha hk2 hh hl hs hR hlv hn0 hu0 hcells hslots KK
  obtain ⟨hx, hb, hml, hown, hts, hfr, hlo, hin⟩ := C
  obtain ⟨-, hE2, hck⟩ := eok_all i k hi pc _ r z hd
  obtain ⟨hdec, hnx⟩ := hE2 rfl
  dsimp only [lenOf] at hdec hnx
  dsimp only [axf] at ha
  simp only [ckS] at hck
  obtain ⟨rfl, rfl, rfl, rfl⟩ := jp_inv ha
  exact lv_goto hx hb hdec (tgt_of hck hk2) (KK ad H locs cl (fun _ _ => rfl) hh hl hs hR hlv)

theorem st_ifCond_eq (off : Int) : StepOK (.ifCond .eq off) := by
  intro p l e R s m args below meth c Q E A H0 i n0 u0 k pc r z ls st h k2 ls2 st2 h2 pc2 q2 ad H locs cl C hi hd ha hk2 hh hl hs hR hlv hn0 hu0 hcells hslots KK
  obtain ⟨hx, hb, hml, hown, hts, hfr, hlo, hin⟩ := C
  obtain ⟨-, hE2, hck⟩ := eok_all i k hi pc _ r z hd
  obtain ⟨hdec, hnx⟩ := hE2 rfl
  dsimp only [lenOf] at hdec hnx
  dsimp only [axf] at ha
  simp only [ckS] at hck
  obtain ⟨x, s1, rfl, ha⟩ := p1I_inv ha
  obtain ⟨hx0, hs⟩ := oks_cons.mp hs
  simp only [List.map_cons, cv]
  have hif := (i32_eq hx0 r32_0)
  rw [i32_0] at hif
  rcases br_inv ha with ⟨hc, ha⟩ | ⟨hc, ha⟩
  · obtain ⟨rfl, rfl, rfl, rfl⟩ := jp_inv ha
    exact lv_if_eq hx hb hdec (tgt_of hck hk2) (fun _ => KK ad H locs cl (fun _ _ => rfl) hh hl hs hR hlv) (fun h0 => absurd (hif.mpr hc) h0)
  · obtain ⟨rfl, rfl, rfl, rfl⟩ := jp_inv ha
    obtain rfl := hnx _ _ hk2
    obtain ⟨tg, htg⟩ := tgt_some hck
    exact lv_if_eq hx hb hdec htg (fun h0 => absurd (hif.mp h0) hc) (fun _ => KK ad H locs cl (fun _ _ => rfl) hh hl hs hR hlv)

theorem st_if_icmp_eq (off : Int) : StepOK (.if_icmp .eq off) := by
  intro p l e R s m args below meth c Q E A H0 i n0 u0 k pc r z ls st h k2 ls2 st2 h2 pc2 q2 ad H locs cl C hi hd ha hk2 hh hl hs hR hlv hn0 hu0 hcells hslots KK
  obtain ⟨hx, hb, hml, hown, hts, hfr, hlo, hin⟩ := C
  obtain ⟨-, hE2, hck⟩ := eok_all i k hi pc _ r z hd
  obtain ⟨hdec, hnx⟩ := hE2 rfl
  dsimp only [lenOf] at hdec hnx
  dsimp only [axf] at ha
  simp only [ckS] at hck
  obtain ⟨x, y, s1, rfl, ha⟩ := p2I_inv ha
  obtain ⟨hy0, hs⟩ := oks_cons.mp hs
  obtain ⟨hx0, hs⟩ := oks_cons.mp hs
  simp only [List.map_cons, cv]
  have hif := (i32_eq hx0 hy0)
  rcases br_inv ha with ⟨hc, ha⟩ | ⟨hc, ha⟩
  · obtain ⟨rfl, rfl, rfl, rfl⟩ := jp_inv ha
    exact lv_icmp_eq hx hb hdec (tgt_of hck hk2) (fun _ => KK ad H locs cl (fun _ _ => rfl) hh hl hs hR hlv) (fun h0 => absurd (hif.mpr hc) h0)
  · obtain ⟨rfl, rfl, rfl, rfl⟩ := jp_inv ha
    obtain rfl := hnx _ _ hk2
    obtain ⟨tg, htg⟩ := tgt_some hck
    exact lv_icmp_eq hx hb hdec htg (fun h0 => absurd (hif.mp h0) hc) (fun _ => KK ad H locs cl (fun _ _ => rfl) hh hl hs hR hlv)

theorem st_ifCond_ne (off : Int) : StepOK (.ifCond .ne off) := by
  intro p l e R s m args below meth c Q E A H0 i n0 u0 k pc r z ls st h k2 ls2 st2 h2 pc2 q2 ad H locs cl C hi hd ha hk2 hh hl hs hR hlv hn0 hu0 hcells hslots KK
  obtain ⟨hx, hb, hml, hown, hts, hfr, hlo, hin⟩ := C
  obtain ⟨-, hE2, hck⟩ := eok_all i k hi pc _ r z hd
  obtain ⟨hdec, hnx⟩ := hE2 rfl
  dsimp only [lenOf] at hdec hnx
  dsimp only [axf] at ha
  simp only [ckS] at hck
  obtain ⟨x, s1, rfl, ha⟩ := p1I_inv ha
  obtain ⟨hx0, hs⟩ := oks_cons.mp hs
  simp only [List.map_cons, cv]
  have hif := (not_congr (i32_eq hx0 r32_0))
  rw [i32_0] at hif
  rcases br_inv ha with ⟨hc, ha⟩ | ⟨hc, ha⟩
  · obtain ⟨rfl, rfl, rfl, rfl⟩ := jp_inv ha
    exact lv_if_ne hx hb hdec (tgt_of hck hk2) (fun _ => KK ad H locs cl (fun _ _ => rfl) hh hl hs hR hlv) (fun h0 => absurd h0 (hif.mpr hc))
  · obtain ⟨rfl, rfl, rfl, rfl⟩ := jp_inv ha
    obtain rfl := hnx _ _ hk2
    obtain ⟨tg, htg⟩ := tgt_some hck
    exact lv_if_ne hx hb hdec htg (fun h0 => absurd (hif.mp h0) hc) (fun _ => KK ad H locs cl (fun _ _ => rfl) hh hl hs hR hlv)

theorem st_if_icmp_ne (off : Int) : StepOK (.if_icmp .ne off) := by
  intro p l e R s m args below meth c Q E A H0 i n0 u0 k pc r z ls st h k2 ls2 st2 h2 pc2 q2 ad H locs cl C hi hd ha hk2 hh hl hs hR hlv hn0 hu0 hcells hslots KK
  obtain ⟨hx, hb, hml, hown, hts, hfr, hlo, hin⟩ := C
  obtain ⟨-, hE2, hck⟩ := eok_all i k hi pc _ r z hd
  obtain ⟨hdec, hnx⟩ := hE2 rfl
  dsimp only [lenOf] at hdec hnx
  dsimp only [axf] at ha
  simp only [ckS] at hck
  obtain ⟨x, y, s1, rfl, ha⟩ := p2I_inv ha
  obtain ⟨hy0, hs⟩ := oks_cons.mp hs
  obtain ⟨hx0, hs⟩ := oks_cons.mp hs
  simp only [List.map_cons, cv]
  have hif := (not_congr (i32_eq hx0 hy0))
  rcases br_inv ha with ⟨hc, ha⟩ | ⟨hc, ha⟩
  · obtain ⟨rfl, rfl, rfl, rfl⟩ := jp_inv ha
    exact lv_icmp_ne hx hb hdec (tgt_of hck hk2) (fun _ => KK ad H locs cl (fun _ _ => rfl) hh hl hs hR hlv) (fun h0 => absurd h0 (hif.mpr hc))
  · obtain ⟨rfl, rfl, rfl, rfl⟩ := jp_inv ha
    obtain rfl := hnx _ _ hk2
    obtain ⟨tg, htg⟩ := tgt_some hck
    exact lv_icmp_ne hx hb hdec htg (fun h0 => absurd (hif.mp h0) hc) (fun _ => KK ad H locs cl (fun _ _ => rfl) hh hl hs hR hlv)

theorem st_ifCond_lt (off : Int) : StepOK (.ifCond .lt off) := by
  intro p l e R s m args below meth c Q E A H0 i n0 u0 k pc r z ls st h k2 ls2 st2 h2 pc2 q2 ad H locs cl C hi hd ha hk2 hh hl hs hR hlv hn0 hu0 hcells hslots KK
  obtain ⟨hx, hb, hml, hown, hts, hfr, hlo, hin⟩ := C
  obtain ⟨-, hE2, hck⟩ := eok_all i k hi pc _ r z hd
  obtain ⟨hdec, hnx⟩ := hE2 rfl
  dsimp only [lenOf] at hdec hnx
  dsimp only [axf] at ha
  simp only [ckS] at hck
  obtain ⟨x, s1, rfl, ha⟩ := p1I_inv ha
  obtain ⟨hx0, hs⟩ := oks_cons.mp hs
  simp only [List.map_cons, cv]
  have hif := (i32_lt hx0 r32_0)
  rw [i32_0] at hif
  rcases br_inv ha with ⟨hc, ha⟩ | ⟨hc, ha⟩
  · obtain ⟨rfl, rfl, rfl, rfl⟩ := jp_inv ha
    exact lv_if_lt hx hb hdec (tgt_of hck hk2) (fun _ => KK ad H locs cl (fun _ _ => rfl) hh hl hs hR hlv) (fun h0 => absurd (hif.mpr hc) h0)
  · obtain ⟨rfl, rfl, rfl, rfl⟩ := jp_inv ha
    obtain rfl := hnx _ _ hk2
    obtain ⟨tg, htg⟩ := tgt_some hck
    exact lv_if_lt hx hb hdec htg (fun h0 => absurd (hif.mp h0) hc) (fun _ => KK ad H locs cl (fun _ _ => rfl) hh hl hs hR hlv)

theorem st_if_icmp_lt (off : Int) : StepOK (.if_icmp .lt off) := by
  intro p l e R s m args below meth c Q E A H0 i n0 u0 k pc r z ls st h k2 ls2 st2 h2 pc2 q2 ad H locs cl C hi hd ha hk2 hh hl hs hR hlv hn0 hu0 hcells hslots KK
  obtain ⟨hx, hb, hml, hown, hts, hfr, hlo, hin⟩ := C
  obtain ⟨-, hE2, hck⟩ := eok_all i k hi pc _ r z hd
  obtain ⟨hdec, hnx⟩ := hE2 rfl
  dsimp only [lenOf] at hdec hnx
  dsimp only [axf] at ha
  simp only [ckS] at hck
  obtain ⟨x, y, s1, rfl, ha⟩ := p2I_inv ha
  obtain ⟨hy0, hs⟩ := oks_cons.mp hs
  obtain ⟨hx0, hs⟩ := oks_cons.mp hs
  simp only [List.map_cons, cv]
  have hif := (i32_lt hx0 hy0)
  rcases br_inv ha with ⟨hc, ha⟩ | ⟨hc, ha⟩
  · obtain ⟨rfl, rfl, rfl, rfl⟩ := jp_inv ha
    exact lv_icmp_lt hx hb hdec (tgt_of hck hk2) (fun _ => KK ad H locs cl (fun _ _ => rfl) hh hl hs hR hlv) (fun h0 => absurd (hif.mpr hc) h0)
  · obtain ⟨rfl, rfl, rfl, rfl⟩ := jp_inv ha
    obtain rfl := hnx _ _ hk2
    obtain ⟨tg, htg⟩ := tgt_some hck
    exact lv_icmp_lt hx hb hdec htg (fun h0 => absurd (hif.mp h0) hc) (fun _ => KK ad H locs cl (fun _ _ => rfl) hh hl hs hR hlv)

theorem st_ifCond_ge (off : Int) : StepOK (.ifCond .ge off) := by
  intro p l e R s m args below meth c Q E A H0 i n0 u0 k pc r z ls st h k2 ls2 st2 h2 pc2 q2 ad H locs cl C hi hd ha hk2 hh hl hs hR hlv hn0 hu0 hcells hslots KK
  obtain ⟨hx, hb, hml, hown, hts, hfr, hlo, hin⟩ := C
  obtain ⟨-, hE2, hck⟩ := eok_all i k hi pc _ r z hd
  obtain ⟨hdec, hnx⟩ := hE2 rfl
  dsimp only [lenOf] at hdec hnx
  dsimp only [axf] at ha
  simp only [ckS] at hck
  obtain ⟨x, s1, rfl, ha⟩ := p1I_inv ha
  obtain ⟨hx0, hs⟩ := oks_cons.mp hs
  simp only [List.map_cons, cv]
  have hif := (i32_le r32_0 hx0)
  rw [i32_0] at hif
  rcases br_inv ha with ⟨hc, ha⟩ | ⟨hc, ha⟩
  · obtain ⟨rfl, rfl, rfl, rfl⟩ := jp_inv ha
    exact lv_if_ge hx hb hdec (tgt_of hck hk2) (fun _ => KK ad H locs cl (fun _ _ => rfl) hh hl hs hR hlv) (fun h0 => absurd (hif.mpr hc) h0)
  · obtain ⟨rfl, rfl, rfl, rfl⟩ := jp_inv ha
    obtain rfl := hnx _ _ hk2
    obtain ⟨tg, htg⟩ := tgt_some hck
    exact lv_if_ge hx hb hdec htg (fun h0 => absurd (hif.mp h0) hc) (fun _ => KK ad H locs cl (fun _ _ => rfl) hh hl hs hR hlv)

theorem st_if_icmp_ge (off : Int) : StepOK (.if_icmp .ge off) := by
  intro p l e R s m args below meth c Q E A H0 i n0 u0 k pc r z ls st h k2 ls2 st2 h2 pc2 q2 ad H locs cl C hi hd ha hk2 hh hl hs hR hlv hn0 hu0 hcells hslots KK
  obtain ⟨hx, hb, hml, hown, hts, hfr, hlo, hin⟩ := C
  obtain ⟨-, hE2, hck⟩ := eok_all i k hi pc _ r z hd
  obtain ⟨hdec, hnx⟩ := hE2 rfl
  dsimp only [lenOf] at hdec hnx
  dsimp only [axf] at ha
  simp only [ckS] at hck
  obtain ⟨x, y, s1, rfl, ha⟩ := p2I_inv ha
  obtain ⟨hy0, hs⟩ := oks_cons.mp hs
  obtain ⟨hx0, hs⟩ := oks_cons.mp hs
  simp only [List.map_cons, cv]
  have hif := (i32_le hy0 hx0)
  rcases br_inv ha with ⟨hc, ha⟩ | ⟨hc, ha⟩
  · obtain ⟨rfl, rfl, rfl, rfl⟩ := jp_inv ha
    exact lv_icmp_ge hx hb hdec (tgt_of hck hk2) (fun _ => KK ad H locs cl (fun _ _ => rfl) hh hl hs hR hlv) (fun h0 => absurd (hif.mpr hc) h0)
  · obtain ⟨rfl, rfl, rfl, rfl⟩ := jp_inv ha
    obtain rfl := hnx _ _ hk2
    obtain ⟨tg, htg⟩ := tgt_some hck
    exact lv_icmp_ge hx hb hdec htg (fun h0 => absurd (hif.mp h0) hc) (fun _ => KK ad H locs cl (fun _ _ => rfl) hh hl hs hR hlv)

theorem st_ifCond_gt (off : Int) : StepOK (.ifCond .gt off) := by
  intro p l e R s m args below meth c Q E A H0 i n0 u0 k pc r z ls st h k2 ls2 st2 h2 pc2 q2 ad H locs cl C hi hd ha hk2 hh hl hs hR hlv hn0 hu0 hcells hslots KK
  obtain ⟨hx, hb, hml, hown, hts, hfr, hlo, hin⟩ := C
  obtain ⟨-, hE2, hck⟩ := eok_all i k hi pc _ r z hd
  obtain ⟨hdec, hnx⟩ := hE2 rfl
  dsimp only [lenOf] at hdec hnx
  dsimp only [axf] at ha
  simp only [ckS] at hck
  obtain ⟨x, s1, rfl, ha⟩ := p1I_inv ha
  obtain ⟨hx0, hs⟩ := oks_cons.mp hs
  simp only [List.map_cons, cv]
  have hif := (i32_lt r32_0 hx0)
  rw [i32_0] at hif
  rcases br_inv ha with ⟨hc, ha⟩ | ⟨hc, ha⟩
  · obtain ⟨rfl, rfl, rfl, rfl⟩ := jp_inv ha
    exact lv_if_gt hx hb hdec (tgt_of hck hk2) (fun _ => KK ad H locs cl (fun _ _ => rfl) hh hl hs hR hlv) (fun h0 => absurd (hif.mpr hc) h0)
  · obtain ⟨rfl, rfl, rfl, rfl⟩ := jp_inv ha
    obtain rfl := hnx _ _ hk2
    obtain ⟨tg, htg⟩ := tgt_some hck
    exact lv_if_gt hx hb hdec htg (fun h0 => absurd (hif.mp h0) hc) (fun _ => KK ad H locs cl (fun _ _ => rfl) hh hl hs hR hlv)

theorem st_if_icmp_gt (off : Int) : StepOK (.if_icmp .gt off) := by
  intro p l e R s m args below meth c Q E A H0 i n0 u0 k pc r z ls st h k2 ls2 st2 h2 pc2 q2 ad H locs cl C hi hd ha hk2 hh hl hs hR hlv hn0 hu0 hcells hslots KK
  obtain ⟨hx, hb, hml, hown, hts, hfr, hlo, hin⟩ := C
  obtain ⟨-, hE2, hck⟩ := eok_all i k hi pc _ r z hd
  obtain ⟨hdec, hnx⟩ := hE2 rfl
  dsimp only [lenOf] at hdec hnx
  dsimp only [axf] at ha
  simp only [ckS] at hck
  obtain ⟨x, y, s1, rfl, ha⟩ := p2I_inv ha
  obtain ⟨hy0, hs⟩ := oks_cons.mp hs
  obtain ⟨hx0, hs⟩ := oks_cons.mp hs
  simp only [List.map_cons, cv]
  have hif := (i32_lt hy0 hx0)
  rcases br_inv ha with ⟨hc, ha⟩ | ⟨hc, ha⟩
  · obtain ⟨rfl, rfl, rfl, rfl⟩ := jp_inv ha
    exact lv_icmp_gt hx hb hdec (tgt_of hck hk2) (fun _ => KK ad H locs cl (fun _ _ => rfl) hh hl hs hR hlv) (fun h0 => absurd (hif.mpr hc) h0)
  · obtain ⟨rfl, rfl, rfl, rfl⟩ := jp_inv ha
    obtain rfl := hnx _ _ hk2
    obtain ⟨tg, htg⟩ := tgt_some hck
    exact lv_icmp_gt hx hb hdec htg (fun h0 => absurd (hif.mp h0) hc) (fun _ => KK ad H locs cl (fun _ _ => rfl) hh hl hs hR hlv)

theorem st_ifCond_le (off : Int) : StepOK (.ifCond .le off) := by
  intro p l e R s m args below meth c Q E A H0 i n0 u0 k pc r z ls st h k2 ls2 st2 h2 pc2 q2 ad H locs cl C hi hd ha hk2 hh hl hs hR hlv hn0 hu0 hcells hslots KK
  obtain ⟨hx, hb, hml, hown, hts, hfr, hlo, hin⟩ := C
  obtain ⟨-, hE2, hck⟩ := eok_all i k hi pc _ r z hd
  obtain ⟨hdec, hnx⟩ := hE2 rfl
  dsimp only [lenOf] at hdec hnx
  dsimp only [axf] at ha
  simp only [ckS] at hck
  obtain ⟨x, s1, rfl, ha⟩ := p1I_inv ha
  obtain ⟨hx0, hs⟩ := oks_cons.mp hs
  simp only [List.map_cons, cv]
  have hif := (i32_le hx0 r32_0)
  rw [i32_0] at hif
  rcases br_inv ha with ⟨hc, ha⟩ | ⟨hc, ha⟩
  · obtain ⟨rfl, rfl, rfl, rfl⟩ := jp_inv ha
    exact lv_if_le hx hb hdec (tgt_of hck hk2) (fun _ => KK ad H locs cl (fun _ _ => rfl) hh hl hs hR hlv) (fun h0 => absurd (hif.mpr hc) h0)
  · obtain ⟨rfl, rfl, rfl, rfl⟩ := jp_inv ha
    obtain rfl := hnx _ _ hk2
    obtain ⟨tg, htg⟩ := tgt_some hck
    exact lv_if_le hx hb hdec htg (fun h0 => absurd (hif.mp h0) hc) (fun _ => KK ad H locs cl (fun _ _ => rfl) hh hl hs hR hlv)

theorem st_if_icmp_le (off : Int) : StepOK (.if_icmp .le off) := by
  intro p l e R s m args below meth c Q E A H0 i n0 u0 k pc r z ls st h k2 ls2 st2 h2 pc2 q2 ad H locs cl C hi hd ha hk2 hh hl hs hR hlv hn0 hu0 hcells hslots KK
  obtain ⟨hx, hb, hml, hown, hts, hfr, hlo, hin⟩ := C
  obtain ⟨-, hE2, hck⟩ := eok_all i k hi pc _ r z hd
  obtain ⟨hdec, hnx⟩ := hE2 rfl
  dsimp only [lenOf] at hdec hnx
  dsimp only [axf] at ha
  simp only [ckS] at hck
  obtain ⟨x, y, s1, rfl, ha⟩ := p2I_inv ha
  obtain ⟨hy0, hs⟩ := oks_cons.mp hs
  obtain ⟨hx0, hs⟩ := oks_cons.mp hs
  simp only [List.map_cons, cv]
  have hif := (i32_le hx0 hy0)
  rcases br_inv ha with ⟨hc, ha⟩ | ⟨hc, ha⟩
  · obtain ⟨rfl, rfl, rfl, rfl⟩ := jp_inv ha
    exact lv_icmp_le hx hb hdec (tgt_of hck hk2) (fun _ => KK ad H locs cl (fun _ _ => rfl) hh hl hs hR hlv) (fun h0 => absurd (hif.mpr hc) h0)
  · obtain ⟨rfl, rfl, rfl, rfl⟩ := jp_inv ha
    obtain rfl := hnx _ _ hk2
    obtain ⟨tg, htg⟩ := tgt_some hck
    exact lv_icmp_le hx hb hdec htg (fun h0 => absurd (hif.mp h0) hc) (fun _ => KK ad H locs cl (fun _ _ => rfl) hh hl hs hR hlv)

theorem st_ifnull (off : Int) : StepOK (.ifnull off) := by
  intro p l e R s m args below meth c Q E A H0 i n0 u0 k pc r z ls st h k2 ls2 st2 h2 pc2 q2 ad H locs cl C hi hd ha hk2 hh hl hs hR hlv hn0 hu0 hcells hslots KK
  obtain ⟨hx, hb, hml, hown, hts, hfr, hlo, hin⟩ := C
  obtain ⟨-, hE2, hck⟩ := eok_all i k hi pc _ r z hd
  obtain ⟨hdec, hnx⟩ := hE2 rfl
  dsimp only [lenOf] at hdec hnx
  dsimp only [axf] at ha
  simp only [ckS] at hck
  obtain ⟨x, s1, rfl, ha⟩ := p1Q_inv ha
  rcases br_inv ha with ⟨rfl, ha⟩ | ⟨hc, ha⟩
  · obtain ⟨rfl, rfl, rfl, rfl⟩ := jp_inv ha
    exact lv_ifnullN hx hb hdec (tgt_of hck hk2) (KK ad H locs cl (fun _ _ => rfl) hh hl (oks_cons.mp hs).2 hR hlv)
  · obtain ⟨rfl, rfl, rfl, rfl⟩ := jp_inv ha
    obtain ⟨a, rfl⟩ := Option.ne_none_iff_exists'.mp hc
    obtain rfl := hnx _ _ hk2
    exact lv_ifnull hx hb hdec (KK ad H locs cl (fun _ _ => rfl) hh hl (oks_cons.mp hs).2 hR hlv)

theorem st_ifnonnull (off : Int) : StepOK (.ifnonnull off) := by
  intro p l e R s m args below meth c Q E A H0 i n0 u0 k pc r z ls st h k2 ls2 st2 h2 pc2 q2 ad H locs cl C hi hd ha hk2 hh hl hs hR hlv hn0 hu0 hcells hslots KK
  obtain ⟨hx, hb, hml, hown, hts, hfr, hlo, hin⟩ := C
  obtain ⟨-, hE2, hck⟩ := eok_all i k hi pc _ r z hd
  obtain ⟨hdec, hnx⟩ := hE2 rfl
  dsimp only [lenOf] at hdec hnx
  dsimp only [axf] at ha
  simp only [ckS] at hck
  obtain ⟨x, s1, rfl, ha⟩ := p1Q_inv ha
  rcases br_inv ha with ⟨rfl, ha⟩ | ⟨hc, ha⟩
  · obtain ⟨rfl, rfl, rfl, rfl⟩ := jp_inv ha
    obtain rfl := hnx _ _ hk2
    exact lv_ifnonnullN hx hb hdec (KK ad H locs cl (fun _ _ => rfl) hh hl (oks_cons.mp hs).2 hR hlv)
  · obtain ⟨rfl, rfl, rfl, rfl⟩ := jp_inv ha
    obtain ⟨a, rfl⟩ := Option.ne_none_iff_exists'.mp hc
    exact lv_ifnonnull hx hb hdec (tgt_of hck hk2) (KK ad H locs cl (fun _ _ => rfl) hh hl (oks_cons.mp hs).2 hR hlv)
