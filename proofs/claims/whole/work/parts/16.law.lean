/-! THE CLAIM OUT OF ONE WALK OF THE LAW'S BODY. Your part is whole_start (and what it stands on); all else here is the same for every law, but numbers. -/
def R_law : String := "DigHouseLaw"
def lw_P (b : Addr) (xs : List Int32) (args : Array Value) (s : State) : Prop := args = #[.ref b] ∧ s.IntsAt b xs ∧ xs.length ≤ 3072 ∧ (Jvm.Cond.and given_1 narrow_1).before args s = true
/-- what a walk over the start with the record d0 says of its end, said of the start itself -/
theorem lw_closed {s t : State} {o : Outcome} {d0 : Drawn} {L : List Loc} {k n : Nat} (hd0 : s.drawn.sameBut d0 lw_cs) (hv : ∃ v, o = .returned v) (hW : (s.setDrawn d0).WarmedH t.vm) (hs : (s.setDrawn d0).sameButNew ({ t with vm := s.vm } : State) L k n) : State.butDraws s t lw_cs (fun t1 => Framed s o t1 L k n) := by
  have h2 : t.drawn = d0 := congrArg State.drawn hs.1
  refine ⟨⟨hv, hW, State.sameButNew.setDrawn hs s.drawn⟩, ?_, by decide⟩
  rw [h2]
  exact hd0
def lw_Q (_ : Array Value) (s : State) (o : Outcome) (t : State) : Prop := o = .returned (some (.int 1)) ∧ State.butDraws s t lw_cs (fun t1 => Framed s o t1 [] 600000 7302250)
def lw_Z (below : List Frame) (a : Array Value) (s : State) : State → Prop := fun t => ∃ o, t.status = .running ∧ Ended t below o ∧ lw_Q a s o t
/-- the law's own end, with 1 on the stack, nothing written that was there before, its room as the claim has it; d0: the record of draws at this point (at the entry s.drawn: begin with 'refine W.base ?_' and 'have hd0 := Drawn.sameBut.refl s.drawn lw_cs') -/
theorem lw_ret {p : Program} {l : Launch} {e : Env} {s : State} {m : MethodId} {below : List Frame} {meth : Method} {c : Code} {b : Nat} {d0 : Drawn} (hd0 : s.drawn.sameBut d0 lw_cs) (hx : p.tables.exec = Jvm.exec) (hb : c.code = code) (hr : meth.sig.returnType = ret) (hlocks : meth.locks = false) {pc : Nat} {H : Heap} {ls : Array Slot} (hdg : decode code pc = .ok (.ireturn, 1)) : W p l e room_1 (s.setDrawn d0) m #[Value.ref b] below meth c H [] 600000 7302250 (lw_Z below #[Value.ref b] s) (F0 m pc ls [.int 1]) := by
  intro T hT X
  obtain ⟨fs, hret, hrun, hended, hW, hframe⟩ := X.leave (v := some (.int 1)) (hlocks := hlocks) (fun h => by rw [hr] at h; cases h)
  have hmeth' : T.vm.method? m = some meth := X.method'
  refine ⟨T.setFrames fs, ?_, .returned (some (.int 1)), hrun, hended, rfl, lw_closed hd0 ⟨_, rfl⟩ hW hframe⟩
  jvm_step X.here [X.here.top, hx, hb, hdg, hmeth', hr, ret, narrow_b1]
  (try refine ⟨rfl, ?_⟩); (try refine ⟨rfl, ?_⟩)
  first | (intro acts; rw [hret _ acts rfl rfl rfl]) | rw [hret _ _ rfl rfl rfl]
  exact Steps.refl _
/-- what holds at the law's entry: the machine, the code, the tables' words (any of lw_tbl by 'hts w (by decide +kernel)'), the script of L ints xs at the cell b, what the Statement gives of the start (any of its parts by flat_of_before) -/
def lw_At (p : Program) (s : State) (m : MethodId) (meth : Method) (c : Code) (b L : Nat) (xs : Nat → Int32) : Prop :=
  p.tables.exec = Jvm.exec ∧ c.code = code ∧ meth.sig.returnType = ret ∧ c.maxLocals = 4 ∧ s.vm.findClass R_law = some m.cls ∧ (∀ w ∈ lw_tbl, w.before #[Value.ref b] s = true) ∧ va_X b L xs s s.heap ∧ b < s.heap.size ∧ meth.locks = false ∧ (Jvm.Cond.and given_1 narrow_1).before #[Value.ref b] s = true
/-! from a run of the abstract machine to the law's walk -/
/-- the heap at the law's entry: the script alone -/
def hB (L : Nat) (xs : Nat → Int32) : AH := (fun o j => if o = 0 then (xs j.toNat).toInt else 0, fun _ _ => 0, fun _ _ => 0, fun _ _ => none, fun o => if o = 0 then (9, (L : Int)) else (0, 0), 1, 0)
theorem hB_ok {L : Nat} (hL : L ≤ 3072) (xs : Nat → Int32) : okh (hB L xs) := by
  refine ⟨Nat.le_refl _, rfl, ?_, ?_, fun o k => ?_, fun o k => ⟨by show (-9223372036854775808 : Int) ≤ 0; decide, by show (0 : Int) < 9223372036854775808; decide⟩, fun o k a e => (by cases e), fun o h1 h2 => ?_⟩
  · show (0 : Int) ≤ (L : Int); omega
  · show (L : Int) ≤ 1000000; omega
  · show R32 (if o = 0 then (xs k.toNat).toInt else 0)
    split
    · exact i32_rng _
    · exact r32_0
  · have h2 : o < 1 := h2
    omega
/-- what is to be shown of the abstract machine -/
def LawOk : Prop := ∀ (L : Nat) (xs : Nat → Int32), L ≤ 3072 → Ok 299 0 (ent 299 [vR (some 0)]) [] (hB L xs) (fun v h' => v = some (vI 1) ∧ nn h' ≤ 600001 ∧ us h' ≤ 7302250)
theorem law_K {s : State} {args : Array Value} (hts : ∀ w ∈ lw_tbl, w.before args s = true) : ∃ E : EE, va_K E.1 vwCl (tysE E) s := by
  have hk : ∀ c : Nat, ∃ x : ClassId × (Nat → Nat), ∀ q, vwCl[c]? = some q → u_Kn s q.1 q.2.1 q.2.2 x.1 x.2 := by
    intro c
    by_cases hc : c < 13
    · obtain ⟨C, T, N, ty, c1, c2, c3, c4, c5, c6, c7, c8, c9, c10, c11⟩ := cls_ok c hc
      obtain ⟨cC, iS, h1⟩ := u_known (C := C) (T := T) (N := N) (n := N) hts c4 (hts _ c7)
      refine ⟨(cC, iS), fun q hq => ?_⟩
      rw [c1] at hq
      cases hq
      exact h1
    · refine ⟨(0, fun _ => 0), fun q hq => ?_⟩
      have : vwCl[c]? = none := List.getElem?_eq_none (by show 13 ≤ c; omega)
      rw [this] at hq
      cases hq
  obtain ⟨f, hf⟩ := Classical.axiomOfChoice hk
  have arr : ∀ ty : FieldType, Cond.arrayClass ty ∈ lw_tbl → (match ty with | .object _ => False | _ => True) → ∃ cA, ArrOfT s cA ty ∧ va_RA s cA ty := by
    intro ty hm hn
    obtain ⟨cA, kA, comp, h1, h2, h3⟩ := Cond.arrayClass_spec (hts _ hm)
    refine ⟨cA, fun n z => ⟨(fun k h => by cases h), kA, h2, comp, h3⟩, ?_⟩
    cases ty with
    | object C => exact hn.elim
    | _ => exact h1
  have arq : ∀ C : String, Cond.arrayOver (.object C) ∈ lw_tbl → ∃ cA, ArrOfT s cA (.object C) ∧ va_RA s cA (.object C) := by
    intro C hm
    obtain ⟨comp, cA, kA, h1, h2, h3, h4, h5⟩ := Cond.arrayOver_spec (hts _ hm)
    exact ⟨cA, fun n z => ⟨(fun k h => by cases h), kA, h3, comp, h4⟩, kA, comp, h3, h4, h1, h5⟩
  obtain ⟨c0, h0⟩ := arr .int jw_aint trivial
  obtain ⟨c1, h1⟩ := arr .byte jw_abyte trivial
  obtain ⟨c2, h2⟩ := arr .long jw_along trivial
  obtain ⟨c3, h3⟩ := arq RX2 jw_oRX2
  obtain ⟨c4, h4⟩ := arq RX3 jw_oRX3
  refine ⟨((fun c => (f c).1, fun c => (f c).2), c0, c1, c2, c3, c4), fun c q hq => hf c q hq, fun k q hq => ?_⟩
  match k, hq with
  | 0, hq => cases hq; exact h0
  | 1, hq => cases hq; exact h1
  | 2, hq => cases hq; exact h2
  | 3, hq => cases hq; exact h3
  | 4, hq => cases hq; exact h4
  | k + 5, hq => simp [tysE] at hq
theorem mC_law : mC 299 = code := rfl
theorem law_start (hLaw : LawOk) {p : Program} {e : Env} {s : State} {m : MethodId} {below : List Frame} {meth : Method} {c : Code} (l : Launch) {b L : Nat} {xs : Nat → Int32} (hL : L ≤ 3072) (C0 : lw_At p s m meth c b L xs) : W p l e room_1 s m #[Value.ref b] below meth c s.heap [] 0 0 (lw_Z below #[Value.ref b] s) (entryFrame m ([Value.ref b] : List Value).toArray 4) := by
  obtain ⟨hx, hb, hr, hml, hown, hts, hX, hbl, hlocks, hgv⟩ := C0
  obtain ⟨n, v, h', hrun, rfl, hn', hu'⟩ := hLaw L xs hL
  obtain ⟨E, hK⟩ := law_K hts
  have C : Cx 299 room_1 p s m #[Value.ref b] meth c := ⟨hx, hb, hml, hown, fun w hw _ => hts w hw, by decide, by decide, fun h => absurd h (by decide)⟩
  have hl := lv_entry ([.ref b]) (n := 4) (Nat.le_of_ble_eq_true rfl)
  rw [lg_entry_eq]
  generalize (lg_sl ([.ref b]) ++ List.replicate (4 - (lg_sl ([.ref b])).length) Slot.unset).toArray = cl at hl ⊢
  have hl : lv_has cl 4 [(0, .ref b)] := hl
  obtain ⟨pc, q, hn⟩ := run_nth hrun
  have hpc : pc = 0 := by
    have := cd0 299 (by decide)
    rw [hn] at this
    simpa using this
  subst hpc
  have hok := hB_ok hL xs
  have hlv : lvr (fun _ => b) (ent 299 [vR (some 0)]) cl (mMl 299) := lvr_of hl rfl (fun k w hk => by
    have := (ld_lsOf (fun _ => b) [vR (some 0)] 0 k w (ld_pad _ _ _ _ hk)).2
    rw [Nat.zero_add] at this
    exact this)
  have hokl : okl (nn (hB L xs)) (ent 299 [vR (some 0)]) := fun k w hk => by
    have := (ld_lsOf (fun _ => b) [vR (some 0)] 0 k w (ld_pad _ _ _ _ hk)).1
    rw [List.mem_singleton.mp this]
    intro a ha
    cases ha
    exact Nat.one_pos
  have hR : Rl E (fun _ => b) (hB L xs) (fun q => s.heap.size ≤ q) s.heap s.heap [] s := by
    refine ⟨hK, fun k q h => ?_, ⟨fun i j p q h => ?_, fun k q h => ?_⟩, va_S.rf, fun q h => h, ?_, hbl, Nat.not_le.mpr hbl⟩
    · exact absurd h (by simp [wl, hB, nn])
    · exact absurd h (by simp [wl, hB, nn])
    · exact absurd h (by simp [wl, hB, nn])
    · have e1 : (sh (hB L xs) 0).2.toNat = L := by show ((L : Int)).toNat = L; simp
      have e2 : (fun j : Nat => Int32.ofInt (gi (hB L xs) 0 j)) = xs := by
        funext j
        show Int32.ofInt (if 0 = 0 then (xs (j : Int).toNat).toInt else 0) = xs j
        rw [if_pos rfl, Int32.ofInt_toInt]
        rfl
      rw [e1, e2]
      exact hX
  have key := body_all n p l e room_1 s m #[Value.ref b] below meth c (lw_Z below #[Value.ref b] s) E (fun q => s.heap.size ≤ q) s.heap 299 1 0 1 0 (ent 299 [vR (some 0)]) [] (hB L xs) (some (vI 1)) h' (fun _ => b) (fun _ => b) s.heap [] cl 0 q C (by decide) hn hrun hok hokl (fun _ hx => absurd hx List.not_mem_nil) (Nat.le_refl _) (fun _ _ => rfl) hR hlv (Nat.le_refl _) (Nat.le_refl _) (by show nn h' - 1 ≤ 600000; omega) (by show us h' - 0 ≤ 7302250; omega)
    (fun k2 pc2 r d z ls2 st2 ad2 H2 locs2 cl2 g1 g2 g3 g4 g5 g6 => by
      obtain ⟨-, hE2, hck⟩ := eok_all 299 k2 (by decide) pc2 _ r z g1
      cases hir : isRet d with
      | false => exact absurd g2 (axf_noret d r z k2 ls2 st2 h' hir _)
      | true =>
        refine va_forget (fun q hq => g6.2.2.2.1.2.2 q hq) ?_
        refine W.widen (k := 600000) (n := 7302250) (by omega) (by omega) ?_
        cases d with
        | ireturn =>
          obtain ⟨hdec, -⟩ := hE2 rfl
          obtain ⟨x, s1, rfl, ha⟩ := p1I_inv g2
          obtain ⟨hg, ha2⟩ := gd_inv ha
          clear ha
          obtain rfl : s1 = [] := List.isEmpty_iff.mp hg.2
          cases ha2
          refine W.base ?_
          exact lw_ret (Drawn.sameBut.refl s.drawn lw_cs) hx hb hr hlocks hdec
        | lreturn => simp only [ckS] at hck; exact absurd hck (by decide)
        | freturn => simp only [ckS] at hck; exact absurd hck (by decide)
        | areturn => simp only [ckS] at hck; exact absurd hck (by decide)
        | return_ => simp only [ckS] at hck; exact absurd hck (by decide)
        | _ => cases hir)
  exact key
