/-! THE LAW -/
theorem hB_rep (L : Nat) (xs : Nat → Int32) : Rep (hB L xs) cB (hB L xs) := by
  refine ⟨rfl, Nat.le_refl _, fun o o1 o2 => ?_, fun o k v e => ?_, fun o k o1 => ?_, fun o k o1 => rfl, fun o k => rfl, rfl, rfl, rfl⟩
  · have : o < 1 := o2; omega
  · cases e
  · show (if o = 0 then (xs k.toNat).toInt else 0) = 0
    rw [if_neg (by omega)]
set_option maxRecDepth 20000 in
theorem law_ok : LawOk := by
  intro L xs hL
  show Ok 299 0 [some (vR (some 0)), none, none, none] [] (hB L xs) _
  have R0 := (hB_rep L xs).nw (t := 21) (n := 12)
  refine ok_new (k := 0) (n := 12) lk_299_0 (by decide) (ok_dup (k := 1) lk_299_1 rfl ?_)
  refine ok_cspecial (k := 2) lk_299_2 (Nat.le_of_ble_eq_true rfl) (as := [vR (some 1)]) (s := [vR (some 1)]) (ls0 := ent 128 [vR (some 1)]) rfl ⟨Nat.le_of_ble_eq_true rfl, Nat.le_of_ble_eq_true rfl, rcv_of (c := 11) rfl (congrArg Prod.fst (R0.2.2.1 1 (by decide) (by decide)))⟩ rfl ?_
  refine Ok.mono (crun_ok _ crun_C R0) (fun v h1 H => ?_)
  obtain ⟨rfl, R1⟩ := H
  have R2 := R1.nw (t := 22) (n := 56)
  show Ok 299 3 [some (vR (some 0)), none, none, none] [vR (some 1)] h1 _
  refine ok_astore_n (ls2 := [some (vR (some 0)), some (vR (some 1)), none, none]) (k := 3) lk_299_3 rfl (ok_new (k := 4) (n := 56) lk_299_4 (by decide) ?_)
  rw [R1.1]
  refine ok_dup (k := 5) lk_299_5 rfl ?_
  refine ok_cspecial (k := 6) lk_299_6 (Nat.le_of_ble_eq_true rfl) (as := [vR (some 99)]) (s := [vR (some 99)]) (ls0 := ent 188 [vR (some 99)]) rfl ⟨Nat.le_of_ble_eq_true rfl, Nat.le_of_ble_eq_true rfl, rcv_of (c := 12) rfl (congrArg Prod.fst (R2.2.2.1 99 (by decide) (by decide)))⟩ rfl ?_
  refine Ok.mono (crun_ok _ crun_M R2) (fun v h2 H => ?_)
  obtain ⟨rfl, R3⟩ := H
  show Ok 299 7 [some (vR (some 0)), some (vR (some 1)), none, none] [vR (some 99)] h2 _
  refine ok_astore_n (ls2 := [some (vR (some 0)), some (vR (some 1)), some (vR (some 99)), none]) (k := 7) lk_299_7 rfl (ok_iconst (k := 8) lk_299_8 (ok_istore_n (ls2 := lwl 0) (k := 9) lk_299_9 rfl ?_))
  refine law_loop (L := (L : Int)) (s := gi (hB L xs) 0) (fun k => ?_) (by omega) _ h2 0 0 rfl ⟨R3.2.2.2.2.2.2.2.2.1, R3.2.2.2.2.2.2.2.2.2⟩ (by decide) (by omega) rfl ⟨0, _, _, E_ji R3⟩
  show R32 (if 0 = 0 then (xs k.toNat).toInt else 0)
  rw [if_pos rfl]
  exact i32_rng _
