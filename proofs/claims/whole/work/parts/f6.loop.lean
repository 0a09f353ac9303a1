/-! THE LAW'S LOOP (generated: gen/lawgen.py) -/
theorem JI.idle {h : AH} {n : Nat} {Ds : Nat → DD} {Z : DD} {c : Int} (j : JI h n Ds Z c) : JI h n Ds Z (c + 1) := j.same j.1 Rf.refl j.2.1 Fr.refl
theorem JI.room {h : AH} {n : Nat} {Ds : Nat → DD} {Z : DD} {c : Int} (j : JI h n Ds Z c) (hc : c ≤ 512) : nn h ≤ 600001 ∧ us h ≤ 7302250 := by
  obtain ⟨G, Ss, T, E, L, w, cl, _, _, _, _, _, _, cr⟩ := j.2.1
  obtain ⟨_, _, _, _, a, b, d, K, _, _, _, _, _, _, _, _, _, _, _, _, hK, hu, _⟩ := cl
  obtain ⟨_, _, hn, x, K2, _, _, _, _, _, _, hK2, hw⟩ := cr
  have := hK2.1
  exact ⟨by omega, by omega⟩
set_option maxRecDepth 20000 in
theorem law_sw {h : AH} {L c i x : Int} {s : Int → Int} {Q : Option AV → AH → Prop} (S : Scr h L s) (hi : 0 ≤ i ∧ i + 6 ≤ L ∧ L ≤ 3072) (hs : ∀ k, R32 (s k)) (hc : c ≤ 600) {n : Nat} {Ds : Nat → DD} {Z : DD} (j : JI h n Ds Z c) (K : ∀ h2, Scr h2 L s → (∃ n Ds Z, JI h2 n Ds Z (c + 1)) → Ok 299 1293 (lwl i) [] h2 Q) : Ok 299 21 (lwl i) [vI x] h Q := by
  by_cases e0 : x = 0
  · exact ok_tsw (k := 21) (k2 := 22) lk_299_21 (by rw [e0]; decide) (lc_unit S hi hs hc j K)
  by_cases e1 : x = 1
  · exact ok_tsw (k := 21) (k2 := 49) lk_299_21 (by rw [e1]; decide) (lc_asks S hi hs hc j K)
  by_cases e2 : x = 2
  · exact ok_tsw (k := 21) (k2 := 76) lk_299_21 (by rw [e2]; decide) (lc_asked S hi hs hc j K)
  by_cases e3 : x = 3
  · exact ok_tsw (k := 21) (k2 := 83) lk_299_21 (by rw [e3]; decide) (lc_trace S hi hs hc j K)
  by_cases e4 : x = 4
  · exact ok_tsw (k := 21) (k2 := 100) lk_299_21 (by rw [e4]; decide) (lc_above S hi hs hc j K)
  by_cases e5 : x = 5
  · exact ok_tsw (k := 21) (k2 := 127) lk_299_21 (by rw [e5]; decide) (lc_cut S hi hs hc j K)
  by_cases e6 : x = 6
  · exact ok_tsw (k := 21) (k2 := 154) lk_299_21 (by rw [e6]; decide) (lc_fill S hi hs hc j K)
  by_cases e7 : x = 7
  · exact ok_tsw (k := 21) (k2 := 181) lk_299_21 (by rw [e7]; decide) (lc_bond S hi hs hc j K)
  by_cases e8 : x = 8
  · exact ok_tsw (k := 21) (k2 := 208) lk_299_21 (by rw [e8]; decide) (lc_ring S hi hs hc j K)
  by_cases e9 : x = 9
  · exact ok_tsw (k := 21) (k2 := 225) lk_299_21 (by rw [e9]; decide) (lc_relation S hi hs hc j K)
  by_cases e10 : x = 10
  · exact ok_tsw (k := 21) (k2 := 252) lk_299_21 (by rw [e10]; decide) (lc_later S hi hs hc j K)
  by_cases e11 : x = 11
  · exact ok_tsw (k := 21) (k2 := 279) lk_299_21 (by rw [e11]; decide) (lc_block S hi hs hc j K)
  by_cases e12 : x = 12
  · exact ok_tsw (k := 21) (k2 := 296) lk_299_21 (by rw [e12]; decide) (lc_chart S hi hs hc j K)
  by_cases e13 : x = 13
  · exact ok_tsw (k := 21) (k2 := 313) lk_299_21 (by rw [e13]; decide) (lc_row S hi hs hc j K)
  by_cases e14 : x = 14
  · exact ok_tsw (k := 21) (k2 := 330) lk_299_21 (by rw [e14]; decide) (lc_tray S hi hs hc j K)
  by_cases e15 : x = 15
  · exact ok_tsw (k := 21) (k2 := 357) lk_299_21 (by rw [e15]; decide) (lc_lose S hi hs hc j K)
  by_cases e16 : x = 16
  · exact ok_tsw (k := 21) (k2 := 374) lk_299_21 (by rw [e16]; decide) (lc_coin S hi hs hc j K)
  by_cases e17 : x = 17
  · exact ok_tsw (k := 21) (k2 := 421) lk_299_21 (by rw [e17]; decide) (lc_sample S hi hs hc j K)
  by_cases e18 : x = 18
  · exact ok_tsw (k := 21) (k2 := 468) lk_299_21 (by rw [e18]; decide) (lc_sherds S hi hs hc j K)
  by_cases e19 : x = 19
  · exact ok_tsw (k := 21) (k2 := 515) lk_299_21 (by rw [e19]; decide) (lc_note S hi hs hc j K)
  by_cases e20 : x = 20
  · exact ok_tsw (k := 21) (k2 := 576) lk_299_21 (by rw [e20]; decide) (lc_bag S hi hs hc j K)
  by_cases e21 : x = 21
  · exact ok_tsw (k := 21) (k2 := 613) lk_299_21 (by rw [e21]; decide) (lc_take S hi hs hc j K)
  by_cases e22 : x = 22
  · exact ok_tsw (k := 21) (k2 := 640) lk_299_21 (by rw [e22]; decide) (lc_move S hi hs hc j K)
  by_cases e23 : x = 23
  · exact ok_tsw (k := 21) (k2 := 687) lk_299_21 (by rw [e23]; decide) (lc_kind S hi hs hc j K)
  by_cases e24 : x = 24
  · exact ok_tsw (k := 21) (k2 := 714) lk_299_21 (by rw [e24]; decide) (lc_sherd S hi hs hc j K)
  by_cases e25 : x = 25
  · exact ok_tsw (k := 21) (k2 := 751) lk_299_21 (by rw [e25]; decide) (lc_year S hi hs hc j K)
  by_cases e26 : x = 26
  · exact ok_tsw (k := 21) (k2 := 796) lk_299_21 (by rw [e26]; decide) (lc_grain S hi hs hc j K)
  by_cases e27 : x = 27
  · exact ok_tsw (k := 21) (k2 := 841) lk_299_21 (by rw [e27]; decide) (lc_letter S hi hs hc j K)
  by_cases e28 : x = 28
  · exact ok_tsw (k := 21) (k2 := 878) lk_299_21 (by rw [e28]; decide) (lc_bagged S hi hs hc j K)
  by_cases e29 : x = 29
  · exact ok_tsw (k := 21) (k2 := 905) lk_299_21 (by rw [e29]; decide) (lc_mark S hi hs hc j K)
  by_cases e30 : x = 30
  · exact ok_tsw (k := 21) (k2 := 942) lk_299_21 (by rw [e30]; decide) (lc_copy S hi hs hc j K)
  by_cases e31 : x = 31
  · exact ok_tsw (k := 21) (k2 := 999) lk_299_21 (by rw [e31]; decide) (lc_join S hi hs hc j K)
  by_cases e32 : x = 32
  · exact ok_tsw (k := 21) (k2 := 1046) lk_299_21 (by rw [e32]; decide) (lc_joins S hi hs hc j K)
  by_cases e33 : x = 33
  · exact ok_tsw (k := 21) (k2 := 1073) lk_299_21 (by rw [e33]; decide) (lc_total S hi hs hc j K)
  by_cases e34 : x = 34
  · exact ok_tsw (k := 21) (k2 := 1100) lk_299_21 (by rw [e34]; decide) (lc_share S hi hs hc j K)
  by_cases e35 : x = 35
  · exact ok_tsw (k := 21) (k2 := 1127) lk_299_21 (by rw [e35]; decide) (lc_span S hi hs hc j K)
  by_cases e36 : x = 36
  · exact ok_tsw (k := 21) (k2 := 1164) lk_299_21 (by rw [e36]; decide) (lc_drawn S hi hs hc j K)
  by_cases e37 : x = 37
  · exact ok_tsw (k := 21) (k2 := 1191) lk_299_21 (by rw [e37]; decide) (lc_quarrel S hi hs hc j K)
  by_cases e38 : x = 38
  · exact ok_tsw (k := 21) (k2 := 1198) lk_299_21 (by rw [e38]; decide) (lc_because S hi hs hc j K)
  by_cases e39 : x = 39
  · exact ok_tsw (k := 21) (k2 := 1215) lk_299_21 (by rw [e39]; decide) (lc_orders S hi hs hc j K)
  by_cases e40 : x = 40
  · exact ok_tsw (k := 21) (k2 := 1223) lk_299_21 (by rw [e40]; decide) (lc_first S hi hs hc j K)
  by_cases e41 : x = 41
  · exact ok_tsw (k := 21) (k2 := 1230) lk_299_21 (by rw [e41]; decide) (lc_next S hi hs hc j K)
  by_cases e42 : x = 42
  · exact ok_tsw (k := 21) (k2 := 1237) lk_299_21 (by rw [e42]; decide) (lc_place S hi hs hc j K)
  by_cases e43 : x = 43
  · exact ok_tsw (k := 21) (k2 := 1254) lk_299_21 (by rw [e43]; decide) (lc_undo S hi hs hc j K)
  by_cases e44 : x = 44
  · exact ok_tsw (k := 21) (k2 := 1261) lk_299_21 (by rw [e44]; decide) (lc_count S hi hs hc j K)
  by_cases e45 : x = 45
  · exact ok_tsw (k := 21) (k2 := 1278) lk_299_21 (by rw [e45]; decide) (lc_status S hi hs hc j K)
  by_cases e46 : x = 46
  · exact ok_tsw (k := 21) (k2 := 1285) lk_299_21 (by rw [e46]; decide) (lc_digest S hi hs hc j K)
  exact ok_tsw (k := 21) (k2 := 1293) lk_299_21 (by rw [if_pos (by omega)]; decide) (K h S ⟨n, Ds, Z, j.idle⟩)
theorem law_loop {L : Int} {s : Int → Int} (hs : ∀ k, R32 (s k)) (hL : L ≤ 3072) : ∀ (m : Nat) (h : AH) (c i : Int), (L - i).toNat = m → Scr h L s → 0 ≤ i → i ≤ L → i = 6 * c → (∃ n Ds Z, JI h n Ds Z c) → Ok 299 10 (lwl i) [] h (fun v h' => v = some (vI 1) ∧ nn h' ≤ 600001 ∧ us h' ≤ 7302250) := by
  intro m
  induction m using Nat.strongRecOn with
  | ind m ih =>
    intro h c i hm S i0 i1 ic jj
    obtain ⟨n, Ds, Z, j⟩ := jj
    refine ok_iload_n (k := 10) lk_299_10 rfl (ok_aload_n (k := 11) lk_299_11 rfl (ok_alen (k := 12) lk_299_12 (by rw [S.1]; show 9 < 10; decide) (ok_bipush (k := 13) lk_299_13 (ok_isub (k := 14) lk_299_14 (by rw [S.1]; exact ⟨by show -2147483648 ≤ L - 6; omega, by show L - 6 < 2147483648; omega⟩) ?_))))
    rw [S.1]
    refine ok_icmp_gt (k := 15) lk_299_15 (fun e => ?_) (fun e => ?_)
    · exact ok_iconst (k := 1295) lk_299_1295 (ok_zret (k := 1296) lk_299_1296 (Or.inr rfl) ⟨rfl, j.room (by omega)⟩)
    · have e' : ¬ L - 6 < i := e
      refine ok_aload_n (k := 16) lk_299_16 rfl (ok_iload_n (k := 17) lk_299_17 rfl (ok_iaload (k := 18) lk_299_18 ⟨Or.inr (by rw [S.1]), i0, by rw [S.1]; show i < L; omega⟩ (ok_bipush (k := 19) lk_299_19 (ok_iand (k := 20) lk_299_20 ?_))))
      refine law_sw (c := c) S ⟨i0, by omega, hL⟩ hs (by omega) j (fun h2 S2 j2 => ?_)
      exact ok_iinc (k := 1293) lk_299_1293 (ls2 := lwl (i + 6)) rfl ⟨by omega, by omega⟩ rfl (ok_goto (k := 1294) lk_299_1294 (ih (L - (i + 6)).toNat (by omega) h2 (c + 1) (i + 6) rfl S2 (by omega) (by omega) (by omega) j2))
