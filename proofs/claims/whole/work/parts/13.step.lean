theorem i64_0 : Int64.ofInt 0 = 0 := by decide
theorem ft_lt : ∀ c j, j < ((nth nfl c).getD 0).toNat → c < 13 → ftAt c j = 9 → False := by
  have key : ∀ c, c < 13 → ∀ j, j < 60 → j < ((nth nfl c).getD 0).toNat → ftAt c j ≠ 9 := by decide +kernel
  intro c j h1 h2 h3
  have hb : ∀ c, c < 13 → ((nth nfl c).getD 0).toNat < 60 := by decide +kernel
  exact key c h2 j (by have := hb c h2; omega) h1 h3
theorem cal_inl {t : Nat} {st : aSt} {h : AH} {q : Nat × aLs × aSt × AH} (e : cal t st h = some (.inl q)) : False := by
  unfold cal at e
  split at e
  · have := (gd_inv e).2
    cases this
  · cases e
theorem va_nw {a b : String} {args : Array Value} {s : State} (h : (Cond.castable a b).before args s = true) : va_Nw (.castable a b) s := h
theorem arr_fits {cA : ClassId} {n : Nat} {f : Nat → Int32} {j : Nat} {v : Value} (hv : (arrV cA n (fun j => .int (f j))).slots[j]? = some v) : fits .int v = true := by
  unfold arrV at hv
  simp only [Array.getElem?_ofFn] at hv
  split at hv
  · cases hv; rfl
  · cases hv
theorem wI_row {h : AH} {o a : Nat} {f : Int → Int} (hne : a ≠ o) : gi (wI h o f) a = gi h a := by
  show (if a = o then f else gi h a) = gi h a
  rw [if_neg hne]
theorem wI_self {h : AH} {o : Nat} {f : Int → Int} : gi (wI h o f) o = f := by
  show (if o = o then f else gi h o) = f
  rw [if_pos rfl]
theorem okh_wI {h : AH} (hh : okh h) {o : Nat} {f : Int → Int} (hf : ∀ j, R32 (f j)) : okh (wI h o f) := by
  obtain ⟨a1, a2, a3, a4, a5, a6, a7, a8⟩ := hh
  refine ⟨a1, a2, a3, a4, fun a b => ?_, a6, a7, a8⟩
  show R32 ((if a = o then f else gi h a) b)
  split
  · exact hf b
  · exact a5 a b
theorem lk_tgt {i r pc : Nat} {df x : Int} : ∀ (l : List (Int × Int)) (j : Nat), (∀ n, n < l.length → tgt i (swAt r (j + n)) pc (l.getD n (0, 0)).2 = true) → tgt i (swAt r 0) pc df = true → tgt i (swAt r (lkup l x j)) pc (Op.lookupswitch.offset l df x) = true
  | [], _, _, h0 => h0
  | (a, o) :: t, j, h, h0 => by
    rw [Op.lookupswitch.offset_cons]
    unfold lkup
    by_cases ha : a = x
    · rw [if_pos ha, if_pos ha]
      exact h 0 (Nat.succ_pos _)
    · rw [if_neg ha, if_neg ha]
      refine lk_tgt t (j + 1) (fun n hn => ?_) h0
      have := h (n + 1) (Nat.succ_lt_succ hn)
      rw [show j + 1 + n = j + (n + 1) by omega]
      exact this
theorem tgt_of' {i pc r pc2 : Nat} {off : Int} {q : Instr × Nat × Int} (h : tgt i r pc off = true) (hk : nth (cd i) r = some (pc2, q)) : (pc : Int) + off = (pc2 : Int) := tgt_of h hk
theorem st_newarray_int : StepOK (.newarray .int) := by
  intro p l e R s m args below meth c Q E A H0 i n0 u0 k pc r z ls st h k2 ls2 st2 h2 pc2 q2 ad H locs cl C hi hd ha hk2 hh hl hs hR hlv hn0 hu0 hcells hslots KK
  obtain ⟨hx, hb, hml, hown, hts, hfr, hlo, hin⟩ := C
  obtain ⟨-, hE2, hck⟩ := eok_all i k hi pc _ r z hd
  obtain ⟨hdec, hnx⟩ := hE2 rfl
  dsimp only [lenOf] at hdec hnx
  dsimp only [axf] at ha
  obtain ⟨x, s1, rfl, ha⟩ := p1I_inv ha
  obtain ⟨hg, ha⟩ := gd_inv ha
  obtain ⟨rfl, rfl, rfl, rfl⟩ := jp_inv ha
  obtain rfl := hnx _ _ hk2
  have hx0 : R32 x := (oks_cons.mp hs).1
  have hR0 := hR
  obtain ⟨rK, rP, rD, rS, rA, rX, rb, rn⟩ := hR
  have hcl : nn h - n0 + 1 ≤ R.cells := by have e1 : nn (al h 0 x) = nn h + 1 := rfl; omega
  have hsl : us h - u0 + x.toNat ≤ R.slots := by have e1 : us (al h 0 x) = us h + x.toNat := rfl; omega
  simp only [List.map_cons, cv]
  refine va_newa (atype := .int) (a0 := (x.toNat, .inl (fun _ => 0))) hx hb (hts _ jw_aint rfl) rfl rK rP rD rS rA (fun cA => rfl) (i32_nneg hx0 hg.1) (i32_clamp hx0) (by show x.toNat * 4 ≤ 536870912; omega) hcl hsl hdec (fun q cA H1 k1 p1 p2 p3 => ?_)
  have hcA : cA = E.2.1 := by
    have e1 := (k1.2 5 _ rfl).2
    have e2 := (rK.2 0 _ rfl).2
    exact Option.some.inj (e1.symm.trans e2)
  subst hcA
  have hob : ob E (adp ad (nn h) q) (al h 0 x) (nn h) = .inl (E.2.1, x.toNat, .inl (fun _ => 0)) := by
    rw [ob_i (by rw [al_sh])]
    simp only [al_sh, al_gi, i32_0]
  have k0 := KK (adp ad (nn h) q) H1 locs cl adp_lt (okh_al hh (Or.inl ⟨by simp, hg.1, hg.2⟩)) (okl_le (Nat.le_succ _) hl) (oks_cons.mpr ⟨fun b e => by cases e; exact Nat.lt_succ_self _, oks_le (Nat.le_succ _) (oks_cons.mp hs).2⟩)
    (Rl_push hR0 (al_sh0 hh) (al_gi0 hh) (adp_lt 0 hh.1) (wl_push hh.1 rfl adp_self adp_lt hob (al_old hh)) p1 p2 p3) (lvr_ad adp_lt hl hlv)
  simp only [List.map_cons, map_cv_eq adp_lt (oks_cons.mp hs).2] at k0
  rw [show nn (al h 0 x) - n0 = nn h - n0 + 1 from by have e1 : nn (al h 0 x) = nn h + 1 := rfl; omega, show us (al h 0 x) - u0 = us h - u0 + x.toNat from by have e1 : us (al h 0 x) = us h + x.toNat := rfl; omega] at k0
  have hq : cv (adp ad (nn h) q) (vR (some (nn h))) = .ref q := by show va_rf (some (adp ad (nn h) q (nn h))) = _; rw [adp_self]; rfl
  rw [hq] at k0
  exact k0

theorem st_newarray_byte : StepOK (.newarray .byte) := by
  intro p l e R s m args below meth c Q E A H0 i n0 u0 k pc r z ls st h k2 ls2 st2 h2 pc2 q2 ad H locs cl C hi hd ha hk2 hh hl hs hR hlv hn0 hu0 hcells hslots KK
  obtain ⟨hx, hb, hml, hown, hts, hfr, hlo, hin⟩ := C
  obtain ⟨-, hE2, hck⟩ := eok_all i k hi pc _ r z hd
  obtain ⟨hdec, hnx⟩ := hE2 rfl
  dsimp only [lenOf] at hdec hnx
  dsimp only [axf] at ha
  obtain ⟨x, s1, rfl, ha⟩ := p1I_inv ha
  obtain ⟨hg, ha⟩ := gd_inv ha
  obtain ⟨rfl, rfl, rfl, rfl⟩ := jp_inv ha
  obtain rfl := hnx _ _ hk2
  have hx0 : R32 x := (oks_cons.mp hs).1
  have hR0 := hR
  obtain ⟨rK, rP, rD, rS, rA, rX, rb, rn⟩ := hR
  have hcl : nn h - n0 + 1 ≤ R.cells := by have e1 : nn (al h 1 x) = nn h + 1 := rfl; omega
  have hsl : us h - u0 + x.toNat ≤ R.slots := by have e1 : us (al h 1 x) = us h + x.toNat := rfl; omega
  simp only [List.map_cons, cv]
  refine va_newa (atype := .byte) (a0 := (x.toNat, .inl (fun _ => 0))) hx hb (hts _ jw_abyte rfl) rfl rK rP rD rS rA (fun cA => rfl) (i32_nneg hx0 hg.1) (i32_clamp hx0) (by show x.toNat * 1 ≤ 536870912; omega) hcl hsl hdec (fun q cA H1 k1 p1 p2 p3 => ?_)
  have hcA : cA = E.2.2.1 := by
    have e1 := (k1.2 5 _ rfl).2
    have e2 := (rK.2 1 _ rfl).2
    exact Option.some.inj (e1.symm.trans e2)
  subst hcA
  have hob : ob E (adp ad (nn h) q) (al h 1 x) (nn h) = .inl (E.2.2.1, x.toNat, .inl (fun _ => 0)) := by
    rw [ob_b (by rw [al_sh])]
    simp only [al_sh, al_gi, i32_0]
  have k0 := KK (adp ad (nn h) q) H1 locs cl adp_lt (okh_al hh (Or.inl ⟨by simp, hg.1, hg.2⟩)) (okl_le (Nat.le_succ _) hl) (oks_cons.mpr ⟨fun b e => by cases e; exact Nat.lt_succ_self _, oks_le (Nat.le_succ _) (oks_cons.mp hs).2⟩)
    (Rl_push hR0 (al_sh0 hh) (al_gi0 hh) (adp_lt 0 hh.1) (wl_push hh.1 rfl adp_self adp_lt hob (al_old hh)) p1 p2 p3) (lvr_ad adp_lt hl hlv)
  simp only [List.map_cons, map_cv_eq adp_lt (oks_cons.mp hs).2] at k0
  rw [show nn (al h 1 x) - n0 = nn h - n0 + 1 from by have e1 : nn (al h 1 x) = nn h + 1 := rfl; omega, show us (al h 1 x) - u0 = us h - u0 + x.toNat from by have e1 : us (al h 1 x) = us h + x.toNat := rfl; omega] at k0
  have hq : cv (adp ad (nn h) q) (vR (some (nn h))) = .ref q := by show va_rf (some (adp ad (nn h) q (nn h))) = _; rw [adp_self]; rfl
  rw [hq] at k0
  exact k0

theorem st_newarray_long : StepOK (.newarray .long) := by
  intro p l e R s m args below meth c Q E A H0 i n0 u0 k pc r z ls st h k2 ls2 st2 h2 pc2 q2 ad H locs cl C hi hd ha hk2 hh hl hs hR hlv hn0 hu0 hcells hslots KK
  obtain ⟨hx, hb, hml, hown, hts, hfr, hlo, hin⟩ := C
  obtain ⟨-, hE2, hck⟩ := eok_all i k hi pc _ r z hd
  obtain ⟨hdec, hnx⟩ := hE2 rfl
  dsimp only [lenOf] at hdec hnx
  dsimp only [axf] at ha
  obtain ⟨x, s1, rfl, ha⟩ := p1I_inv ha
  obtain ⟨hg, ha⟩ := gd_inv ha
  obtain ⟨rfl, rfl, rfl, rfl⟩ := jp_inv ha
  obtain rfl := hnx _ _ hk2
  have hx0 : R32 x := (oks_cons.mp hs).1
  have hR0 := hR
  obtain ⟨rK, rP, rD, rS, rA, rX, rb, rn⟩ := hR
  have hcl : nn h - n0 + 1 ≤ R.cells := by have e1 : nn (al h 2 x) = nn h + 1 := rfl; omega
  have hsl : us h - u0 + x.toNat ≤ R.slots := by have e1 : us (al h 2 x) = us h + x.toNat := rfl; omega
  simp only [List.map_cons, cv]
  refine va_newa (atype := .long) (a0 := (x.toNat, .inr (.inl (fun _ => 0)))) hx hb (hts _ jw_along rfl) rfl rK rP rD rS rA (fun cA => rfl) (i32_nneg hx0 hg.1) (i32_clamp hx0) (by show x.toNat * 8 ≤ 536870912; omega) hcl hsl hdec (fun q cA H1 k1 p1 p2 p3 => ?_)
  have hcA : cA = E.2.2.2.1 := by
    have e1 := (k1.2 5 _ rfl).2
    have e2 := (rK.2 2 _ rfl).2
    exact Option.some.inj (e1.symm.trans e2)
  subst hcA
  have hob : ob E (adp ad (nn h) q) (al h 2 x) (nn h) = .inl (E.2.2.2.1, x.toNat, .inr (.inl (fun _ => 0))) := by
    rw [ob_l (by rw [al_sh])]
    simp only [al_sh, al_gl, i64_0]
  have k0 := KK (adp ad (nn h) q) H1 locs cl adp_lt (okh_al hh (Or.inl ⟨by simp, hg.1, hg.2⟩)) (okl_le (Nat.le_succ _) hl) (oks_cons.mpr ⟨fun b e => by cases e; exact Nat.lt_succ_self _, oks_le (Nat.le_succ _) (oks_cons.mp hs).2⟩)
    (Rl_push hR0 (al_sh0 hh) (al_gi0 hh) (adp_lt 0 hh.1) (wl_push hh.1 rfl adp_self adp_lt hob (al_old hh)) p1 p2 p3) (lvr_ad adp_lt hl hlv)
  simp only [List.map_cons, map_cv_eq adp_lt (oks_cons.mp hs).2] at k0
  rw [show nn (al h 2 x) - n0 = nn h - n0 + 1 from by have e1 : nn (al h 2 x) = nn h + 1 := rfl; omega, show us (al h 2 x) - u0 = us h - u0 + x.toNat from by have e1 : us (al h 2 x) = us h + x.toNat := rfl; omega] at k0
  have hq : cv (adp ad (nn h) q) (vR (some (nn h))) = .ref q := by show va_rf (some (adp ad (nn h) q (nn h))) = _; rw [adp_self]; rfl
  rw [hq] at k0
  exact k0

theorem st_anewarray (x0 : Nat) : StepOK (.anewarray x0) := by
  intro p l e R s m args below meth c Q E A H0 i n0 u0 k pc r z ls st h k2 ls2 st2 h2 pc2 q2 ad H locs cl C hi hd ha hk2 hh hl hs hR hlv hn0 hu0 hcells hslots KK
  obtain ⟨hx, hb, hml, hown, hts, hfr, hlo, hin⟩ := C
  obtain ⟨-, hE2, hck⟩ := eok_all i k hi pc _ r z hd
  obtain ⟨hdec, hnx⟩ := hE2 rfl
  dsimp only [lenOf] at hdec hnx
  dsimp only [axf] at ha
  simp only [ckS, Bool.and_eq_true, decide_eq_true_eq] at hck
  obtain ⟨hr, hm⟩ := hck
  have hlk := kok_all _ hm
  unfold KOK at hlk
  obtain ⟨x, s1, rfl, ha⟩ := p1I_inv ha
  obtain ⟨hg, ha⟩ := gd_inv ha
  obtain ⟨rfl, rfl, rfl, rfl⟩ := jp_inv ha
  obtain rfl := hnx _ _ hk2
  have hx0 : R32 x := (oks_cons.mp hs).1
  have hR0 := hR
  obtain ⟨rK, rP, rD, rS, rA, rX, rb, rn⟩ := hR
  rcases hr with rfl | rfl
  · have hlk : Cond.classLink (cnm (mI i).1) x0 RX2 ∈ lw_tbl := hlk
    have hcl : nn h - n0 + 1 ≤ R.cells := by have e1 : nn (al h 3 x) = nn h + 1 := rfl; omega
    have hsl : us h - u0 + x.toNat ≤ R.slots := by have e1 : us (al h 3 x) = us h + x.toNat := rfl; omega
    simp only [List.map_cons, cv]
    refine va_newq hx hb hown (hts _ hlk rfl) (hts _ jw_oRX2 rfl) rK rP rD rS rA (i32_nneg hx0 hg.1) (i32_clamp hx0) (by omega) hcl hsl hdec (fun q cA H1 k1 p1 p2 p3 => ?_)
    have hcA : cA = E.2.2.2.2.1 := by
      have e1 := (k1.2 5 _ rfl).2
      have e2 := (rK.2 3 _ rfl).2
      obtain ⟨_, _, _, _, _, e1⟩ := e1
      obtain ⟨_, _, _, _, _, e2⟩ := e2
      exact Option.some.inj (e1.symm.trans e2)
    subst hcA
    have hob : ob E (adp ad (nn h) q) (al h 3 x) (nn h) = .inl (E.2.2.2.2.1, x.toNat, .inr (.inr (.inr (.inr (fun _ => none))))) := by
      rw [ob_q (by rw [al_sh])]
      simp only [al_sh, al_gr, Option.map_none]
    have k0 := KK (adp ad (nn h) q) H1 locs cl adp_lt (okh_al hh (Or.inl ⟨by simp, hg.1, hg.2⟩)) (okl_le (Nat.le_succ _) hl) (oks_cons.mpr ⟨fun b e => by cases e; exact Nat.lt_succ_self _, oks_le (Nat.le_succ _) (oks_cons.mp hs).2⟩)
      (Rl_push hR0 (al_sh0 hh) (al_gi0 hh) (adp_lt 0 hh.1) (wl_push hh.1 rfl adp_self adp_lt hob (al_old hh)) p1 p2 p3) (lvr_ad adp_lt hl hlv)
    simp only [List.map_cons, map_cv_eq adp_lt (oks_cons.mp hs).2] at k0
    rw [show nn (al h 3 x) - n0 = nn h - n0 + 1 from by have e1 : nn (al h 3 x) = nn h + 1 := rfl; omega, show us (al h 3 x) - u0 = us h - u0 + x.toNat from by have e1 : us (al h 3 x) = us h + x.toNat := rfl; omega] at k0
    have hq : cv (adp ad (nn h) q) (vR (some (nn h))) = .ref q := by show va_rf (some (adp ad (nn h) q (nn h))) = _; rw [adp_self]; rfl
    rw [hq] at k0
    exact k0
  · have hlk : Cond.classLink (cnm (mI i).1) x0 RX3 ∈ lw_tbl := hlk
    have hcl : nn h - n0 + 1 ≤ R.cells := by have e1 : nn (al h 4 x) = nn h + 1 := rfl; omega
    have hsl : us h - u0 + x.toNat ≤ R.slots := by have e1 : us (al h 4 x) = us h + x.toNat := rfl; omega
    simp only [List.map_cons, cv]
    refine va_newq hx hb hown (hts _ hlk rfl) (hts _ jw_oRX3 rfl) rK rP rD rS rA (i32_nneg hx0 hg.1) (i32_clamp hx0) (by omega) hcl hsl hdec (fun q cA H1 k1 p1 p2 p3 => ?_)
    have hcA : cA = E.2.2.2.2.2 := by
      have e1 := (k1.2 5 _ rfl).2
      have e2 := (rK.2 4 _ rfl).2
      obtain ⟨_, _, _, _, _, e1⟩ := e1
      obtain ⟨_, _, _, _, _, e2⟩ := e2
      exact Option.some.inj (e1.symm.trans e2)
    subst hcA
    have hob : ob E (adp ad (nn h) q) (al h 4 x) (nn h) = .inl (E.2.2.2.2.2, x.toNat, .inr (.inr (.inr (.inr (fun _ => none))))) := by
      rw [ob_p (by rw [al_sh])]
      simp only [al_sh, al_gr, Option.map_none]
    have k0 := KK (adp ad (nn h) q) H1 locs cl adp_lt (okh_al hh (Or.inl ⟨by simp, hg.1, hg.2⟩)) (okl_le (Nat.le_succ _) hl) (oks_cons.mpr ⟨fun b e => by cases e; exact Nat.lt_succ_self _, oks_le (Nat.le_succ _) (oks_cons.mp hs).2⟩)
      (Rl_push hR0 (al_sh0 hh) (al_gi0 hh) (adp_lt 0 hh.1) (wl_push hh.1 rfl adp_self adp_lt hob (al_old hh)) p1 p2 p3) (lvr_ad adp_lt hl hlv)
    simp only [List.map_cons, map_cv_eq adp_lt (oks_cons.mp hs).2] at k0
    rw [show nn (al h 4 x) - n0 = nn h - n0 + 1 from by have e1 : nn (al h 4 x) = nn h + 1 := rfl; omega, show us (al h 4 x) - u0 = us h - u0 + x.toNat from by have e1 : us (al h 4 x) = us h + x.toNat := rfl; omega] at k0
    have hq : cv (adp ad (nn h) q) (vR (some (nn h))) = .ref q := by show va_rf (some (adp ad (nn h) q (nn h))) = _; rw [adp_self]; rfl
    rw [hq] at k0
    exact k0

theorem st_new (x0 : Nat) : StepOK (.new x0) := by
  intro p l e R s m args below meth c Q E A H0 i n0 u0 k pc r z ls st h k2 ls2 st2 h2 pc2 q2 ad H locs cl C hi hd ha hk2 hh hl hs hR hlv hn0 hu0 hcells hslots KK
  obtain ⟨hx, hb, hml, hown, hts, hfr, hlo, hin⟩ := C
  obtain ⟨-, hE2, hck⟩ := eok_all i k hi pc _ r z hd
  obtain ⟨hdec, hnx⟩ := hE2 rfl
  dsimp only [lenOf] at hdec hnx
  dsimp only [axf] at ha
  simp only [ckS, Bool.and_eq_true, decide_eq_true_eq] at hck
  obtain ⟨hm, hr⟩ := hck
  have hlk := kok_all _ hm
  unfold KOK at hlk
  simp only at hlk
  rw [if_neg (by omega)] at hlk
  obtain ⟨C, T, N, ty, c1, c2, c3, c4, c5, c6, c7, c8, c9, c10, c11⟩ := cls_ok _ hr
  rw [c2] at hlk
  rw [c3] at ha
  obtain ⟨rfl, rfl, rfl, rfl⟩ := jp_inv ha
  obtain rfl := hnx _ _ hk2
  have hR0 := hR
  obtain ⟨rK, rP, rD, rS, rA, rX, rb, rn⟩ := hR
  have hcl : nn h - n0 + 1 ≤ R.cells := by have e1 : nn (al h (10 + r) N) = nn h + 1 := rfl; omega
  have hus : us (al h (10 + r) N) = us h + N := by show us h + (N : Int).toNat = _; simp
  have hsl : us h - u0 + N ≤ R.slots := by omega
  have hob : ∀ q, ob E (adp ad (nn h) q) (al h (10 + r) N) (nn h) = .inr (r, flv (adp ad (nn h) q) (al h (10 + r) N) (nn h) r) := fun q => ob_c (by rw [al_sh])
  have hfl : ∀ q, flv (adp ad (nn h) q) (al h (10 + r) N) (nn h) r = flv ad (al h (10 + r) N) (nn h) r := fun q => by
    refine List.map_congr_left (fun k _ => ?_)
    unfold rdF
    split <;> simp only [al_gr, cv, Option.map_none]
  refine va_new (fs := flv ad (al h (10 + r) N) (nn h) r) hx hb (fun w hw => hts w (c4 w hw) (uws_k w hw)) (fun _ h => h) ty c5 hown (hts _ hlk rfl) (hts _ c7 rfl) (hts _ c8 rfl) rK rP rD rS rA c1 (fun j hj => ?_) hcl hsl hdec (fun q H1 p1 p2 p3 => ?_)
  · unfold vp_V
    rw [List.getD_eq_getElem?_getD, flv_at (by rw [c3]; simpa using hj)]
    have := c9 j hj
    rw [← this]
    show defaultValue (ty j) = cv ad (rdF _ _ (tyc (ty j)) _)
    have hlt : tyc (ty j) ≠ 9 := fun h9 => by
      rw [this] at h9
      exact ft_lt r j (by rw [c3]; simpa using hj) hr h9
    revert hlt
    generalize ty j = t
    intro hlt
    cases t <;> first | exact absurd rfl hlt | simp only [tyc, rdF, al_gi, al_gl, al_gf, al_gr, cv, Option.map_none, va_rf, i32_0, i64_0, defaultValue]
  · have k0 := KK (adp ad (nn h) q) H1 locs cl adp_lt (okh_al hh (Or.inr ⟨by omega, by omega⟩)) (okl_le (Nat.le_succ _) hl) (oks_cons.mpr ⟨fun b e => by cases e; exact Nat.lt_succ_self _, oks_le (Nat.le_succ _) hs⟩)
      (Rl_push hR0 (al_sh0 hh) (al_gi0 hh) (adp_lt 0 hh.1) (wl_push hh.1 rfl adp_self adp_lt ((hob q).trans (by rw [hfl])) (al_old hh)) p1 p2 p3) (lvr_ad adp_lt hl hlv)
    simp only [List.map_cons, map_cv_eq adp_lt hs] at k0
    rw [show nn (al h (10 + r) N) - n0 = nn h - n0 + 1 from by have e1 : nn (al h (10 + r) N) = nn h + 1 := rfl; omega, show us (al h (10 + r) N) - u0 = us h - u0 + N from by omega] at k0
    have hq : cv (adp ad (nn h) q) (vR (some (nn h))) = .ref q := by show va_rf (some (adp ad (nn h) q (nn h))) = _; rw [adp_self]; rfl
    rw [hq] at k0
    exact k0

theorem st_checkcast (x0 : Nat) : StepOK (.checkcast x0) := by
  intro p l e R s m args below meth c Q E A H0 i n0 u0 k pc r z ls st h k2 ls2 st2 h2 pc2 q2 ad H locs cl C hi hd ha hk2 hh hl hs hR hlv hn0 hu0 hcells hslots KK
  obtain ⟨hx, hb, hml, hown, hts, hfr, hlo, hin⟩ := C
  obtain ⟨-, hE2, hck⟩ := eok_all i k hi pc _ r z hd
  obtain ⟨hdec, hnx⟩ := hE2 rfl
  dsimp only [lenOf] at hdec hnx
  dsimp only [axf] at ha
  simp only [ckS, decide_eq_true_eq] at hck
  have hlk := kok_all _ hck
  unfold KOK at hlk
  simp only [if_true] at hlk
  obtain ⟨a, s1, rfl, ha⟩ := p1R_inv ha
  obtain ⟨hg, ha⟩ := gd_inv ha
  obtain ⟨rfl, rfl, rfl, rfl⟩ := jp_inv ha
  obtain rfl := hnx _ _ hk2
  have haN : a < nn h := (oks_cons.mp hs).1 a rfl
  have ha1 : 1 ≤ a := by
    rcases Nat.eq_zero_or_pos a with h0 | h0
    · subst h0
      have := hh.2.1
      omega
    · exact h0
  have hR0 := hR
  obtain ⟨rK, rP, rD, rS, rA, rX, rb, rn⟩ := hR
  have he := wl_at (E := E) (ad := ad) ha1 haN
  rw [ob_i hg] at he
  exact va_castA hx hb hown (hts _ hlk rfl) rP (a - 1) he (va_nm_int (rK.2 0 _ rfl).2) hdec (KK ad H locs cl (fun _ _ => rfl) hh hl hs hR0 hlv)

theorem st_invokespecial (x0 : Nat) : StepOK (.invokespecial x0) := by
  intro p l e R s m args below meth c Q E A H0 i n0 u0 k pc r z ls st h k2 ls2 st2 h2 pc2 q2 ad H locs cl C hi hd ha hk2 hh hl hs hR hlv hn0 hu0 hcells hslots KK
  obtain ⟨hx, hb, hml, hown, hts, hfr, hlo, hin⟩ := C
  obtain ⟨-, hE2, hck⟩ := eok_all i k hi pc _ r z hd
  obtain ⟨hdec, hnx⟩ := hE2 rfl
  dsimp only [lenOf] at hdec hnx
  dsimp only [axf] at ha
  by_cases hr : r = 1000
  · subst hr
    simp only [ckS, if_true, Bool.and_eq_true, decide_eq_true_eq] at hck
    obtain ⟨hm, hrj⟩ := hck
    simp only [roomJ, Bool.and_eq_true, decide_eq_true_eq] at hrj
    have hlk := jok_all _ hm
    rw [if_pos rfl] at ha
    obtain ⟨a, s1, rfl, ha⟩ := p1R_inv ha
    obtain ⟨hg, ha⟩ := gd_inv ha
    obtain ⟨rfl, rfl, rfl, rfl⟩ := jp_inv ha
    obtain rfl := hnx _ _ hk2
    refine W.objInit hx hb hown (hts _ hlk rfl) (hts _ jw_oi rfl) (hts _ jw_oc rfl) rfl (by rw [hml]; exact hlv.1.1) (a := ad a) (rest := s1.map (cv ad)) rfl hdec (by omega) ?_ ?_
    · show 2 * 0 + _ + 12 ≤ _
      rw [cats_sum]
      omega
    · exact KK ad H locs cl (fun _ _ => rfl) hh hl (oks_cons.mp hs).2 hR hlv
  · rw [if_neg hr] at ha
    exact (cal_inl ha).elim

theorem st_invokevirtual (x0 : Nat) : StepOK (.invokevirtual x0) := by
  intro p l e R s m args below meth c Q E A H0 i n0 u0 k pc r z ls st h k2 ls2 st2 h2 pc2 q2 ad H locs cl C hi hd ha hk2 hh hl hs hR hlv hn0 hu0 hcells hslots KK
  obtain ⟨hx, hb, hml, hown, hts, hfr, hlo, hin⟩ := C
  obtain ⟨-, hE2, hck⟩ := eok_all i k hi pc _ r z hd
  obtain ⟨hdec, hnx⟩ := hE2 rfl
  dsimp only [lenOf] at hdec hnx
  dsimp only [axf] at ha
  by_cases hr : r = 1007
  · subst hr
    simp only [ckS, if_true, Bool.and_eq_true, decide_eq_true_eq] at hck
    obtain ⟨hm, hrj⟩ := hck
    simp only [roomJ, Bool.and_eq_true, decide_eq_true_eq] at hrj
    have hlk := jok_all _ hm
    rw [if_pos rfl] at ha
    obtain ⟨a, s1, rfl, ha⟩ := p1R_inv ha
    obtain ⟨hg, ha⟩ := gd_inv ha
    have hg := And.intro hg.2 hg.1
    obtain ⟨rfl, rfl, rfl, rfl⟩ := jp_inv ha
    obtain rfl := hnx _ _ hk2
    have haN : a < nn h := (oks_cons.mp hs).1 a rfl
    have ha1 : 1 ≤ a := by
      rcases Nat.eq_zero_or_pos a with h0 | h0
      · subst h0
        have := hh.2.1
        omega
      · exact h0
    have hR0 := hR
    obtain ⟨rK, rP, rD, rS, rA, rX, rb, rn⟩ := hR
    have hot : (sh h a).2 ≤ 1000000 ∧ 0 ≤ (sh h a).2 := by
      have := hh.2.2.2.2.2.2.2 a ha1 haN
      unfold okt at this
      omega
    have he := wl_at (E := E) (ad := ad) ha1 haN
    rw [ob_i hg.1] at he
    have hcl : nn h - n0 + 1 ≤ R.cells := by have e1 : nn (alf h (sh h a).2 (gi h a)) = nn h + 1 := rfl; omega
    have hsl : us h - u0 + (sh h a).2.toNat ≤ R.slots := by have e1 : us (alf h (sh h a).2 (gi h a)) = us h + (sh h a).2.toNat := rfl; omega
    simp only [List.map_cons, cv]
    refine va_clone (a := ad a) (ad := "[I") (rest := s1.map (cv ad)) (ty := .int) hx hb (by rw [hml]; exact hlv.1.1.symm) hown (hts _ hlk rfl) (hts _ jw_cs rfl) (hts _ jw_cn rfl) (hts _ jw_ci rfl) (hts _ jw_cl rfl) (va_nw (hts _ jw_cc rfl)) rK rP rD rS rA (a - 1) 0 he rfl (va_nm_int (rK.2 0 _ rfl).2) ?_ (by omega) (by rw [cats_sum]; omega) hcl hsl hdec (fun q H1 k1 p1 p2 p3 => ?_)
    · intro j v hv
      rw [vp_cell_i] at hv
      exact arr_fits hv
    have hob : ob E (adp ad (nn h) q) (alf h (sh h a).2 (gi h a)) (nn h) = .inl (E.2.1, (sh h a).2.toNat, .inl (fun j : Nat => Int32.ofInt (gi h a j))) := by
      rw [ob_i (by rw [alf_sh])]
      simp only [alf_sh, alf_gi]
    have k0 := KK (adp ad (nn h) q) H1 locs cl adp_lt (okh_alf hh (Or.inl ⟨by simp, hot.2, hot.1⟩) (fun j => hh.2.2.2.2.1 _ _)) (okl_le (Nat.le_succ _) hl) (oks_cons.mpr ⟨fun b e => by cases e; exact Nat.lt_succ_self _, oks_le (Nat.le_succ _) (oks_cons.mp hs).2⟩)
      (Rl_push hR0 (alf_sh0 hh) (alf_gi0 hh) (adp_lt 0 hh.1) (wl_push hh.1 rfl adp_self adp_lt hob (alf_old hh)) p1 p2 p3) (lvr_ad adp_lt hl hlv)
    simp only [List.map_cons, map_cv_eq adp_lt (oks_cons.mp hs).2] at k0
    rw [show nn (alf h (sh h a).2 (gi h a)) - n0 = nn h - n0 + 1 from by have e1 : nn (alf h (sh h a).2 (gi h a)) = nn h + 1 := rfl; omega, show us (alf h (sh h a).2 (gi h a)) - u0 = us h - u0 + (sh h a).2.toNat from by have e1 : us (alf h (sh h a).2 (gi h a)) = us h + (sh h a).2.toNat := rfl; omega] at k0
    have hq : cv (adp ad (nn h) q) (vR (some (nn h))) = .ref q := by show va_rf (some (adp ad (nn h) q (nn h))) = _; rw [adp_self]; rfl
    rw [hq] at k0
    exact k0
  · rw [if_neg hr] at ha
    exact (cal_inl ha).elim

theorem st_invokestatic (x0 : Nat) : StepOK (.invokestatic x0) := by
  intro p l e R s m args below meth c Q E A H0 i n0 u0 k pc r z ls st h k2 ls2 st2 h2 pc2 q2 ad H locs cl C hi hd ha hk2 hh hl hs hR hlv hn0 hu0 hcells hslots KK
  obtain ⟨hx, hb, hml, hown, hts, hfr, hlo, hin⟩ := C
  obtain ⟨-, hE2, hck⟩ := eok_all i k hi pc _ r z hd
  obtain ⟨hdec, hnx⟩ := hE2 rfl
  dsimp only [lenOf] at hdec hnx
  dsimp only [axf] at ha
  by_cases hr : r = 1001
  · subst hr
    simp only [ckS, Nat.reduceEqDiff, true_or, or_true, if_true, if_false, Bool.and_eq_true, decide_eq_true_eq] at hck
    obtain ⟨hm, hrj⟩ := hck
    simp only [roomJ, Bool.and_eq_true, decide_eq_true_eq] at hrj
    have hlk := jok_all _ hm
    rw [if_pos rfl] at ha
    obtain ⟨x, y, s1, rfl, ha⟩ := p2I_inv ha
    obtain ⟨hg, ha⟩ := gd_inv ha
    obtain ⟨rfl, rfl, rfl, rfl⟩ := jp_inv ha
    obtain rfl := hnx _ _ hk2
    obtain ⟨hy0, hs⟩ := oks_cons.mp hs
    obtain ⟨hx0, hs⟩ := oks_cons.mp hs
    have k0 := KK ad H locs cl (fun _ _ => rfl) hh hl (oks_cons.mpr ⟨by split <;> assumption, hs⟩) hR hlv
    simp only [List.map_cons, cv] at k0 ⊢
    refine va_mmax hx hb (by rw [hml]; exact hlv.1.1.symm) hown (hts _ hlk rfl) (hts _ jw_maxs rfl) (hts _ jw_mi rfl) (hts _ jw_maxc rfl) (by omega) (by rw [cats_sum]; omega) hcells hslots hdec ?_
    have hc : (if Int32.ofInt x < Int32.ofInt y then Int32.ofInt y else Int32.ofInt x) = Int32.ofInt (if x < y then y else x) := by
      simp only [i32_lt hx0 hy0]
      split <;> rfl
    rw [hc]
    exact k0
  rw [if_neg hr] at ha
  clear hr
  by_cases hr : r = 1002
  · subst hr
    simp only [ckS, Nat.reduceEqDiff, true_or, or_true, if_true, if_false, Bool.and_eq_true, decide_eq_true_eq] at hck
    obtain ⟨hm, hrj⟩ := hck
    simp only [roomJ, Bool.and_eq_true, decide_eq_true_eq] at hrj
    have hlk := jok_all _ hm
    rw [if_pos rfl] at ha
    obtain ⟨x, y, s1, rfl, ha⟩ := p2I_inv ha
    obtain ⟨hg, ha⟩ := gd_inv ha
    obtain ⟨rfl, rfl, rfl, rfl⟩ := jp_inv ha
    obtain rfl := hnx _ _ hk2
    obtain ⟨hy0, hs⟩ := oks_cons.mp hs
    obtain ⟨hx0, hs⟩ := oks_cons.mp hs
    have k0 := KK ad H locs cl (fun _ _ => rfl) hh hl (oks_cons.mpr ⟨by split <;> assumption, hs⟩) hR hlv
    simp only [List.map_cons, cv] at k0 ⊢
    refine va_mmin hx hb (by rw [hml]; exact hlv.1.1.symm) hown (hts _ hlk rfl) (hts _ jw_mins rfl) (hts _ jw_mi rfl) (hts _ jw_minc rfl) (by omega) (by rw [cats_sum]; omega) hcells hslots hdec ?_
    have hc : (if Int32.ofInt y < Int32.ofInt x then Int32.ofInt y else Int32.ofInt x) = Int32.ofInt (if y < x then y else x) := by
      simp only [i32_lt hy0 hx0]
      split <;> rfl
    rw [hc]
    exact k0
  rw [if_neg hr] at ha
  clear hr
  by_cases hr : r = 1003
  · subst hr
    simp only [ckS, Nat.reduceEqDiff, true_or, or_true, if_true, if_false, Bool.and_eq_true, decide_eq_true_eq] at hck
    obtain ⟨hm, hrj⟩ := hck
    simp only [roomJ, Bool.and_eq_true, decide_eq_true_eq] at hrj
    have hlk := jok_all _ hm
    rw [if_pos rfl] at ha
    obtain ⟨x, s1, rfl, ha⟩ := p1I_inv ha
    obtain ⟨hg, ha⟩ := gd_inv ha
    obtain ⟨rfl, rfl, rfl, rfl⟩ := jp_inv ha
    obtain rfl := hnx _ _ hk2
    obtain ⟨hx0, hs⟩ := oks_cons.mp hs
    have k0 := KK ad H locs cl (fun _ _ => rfl) hh hl (oks_cons.mpr ⟨by split; exact hx0; exact w32_rng _, hs⟩) hR hlv
    simp only [List.map_cons, cv] at k0 ⊢
    refine va_mabs hx hb (by rw [hml]; exact hlv.1.1.symm) hown (hts _ hlk rfl) (hts _ jw_abss rfl) (hts _ jw_mi rfl) (hts _ jw_absc rfl) (by omega) (by rw [cats_sum]; omega) hcells hslots hdec ?_
    have hc : (if 0 ≤ Int32.ofInt x then Int32.ofInt x else 0 - Int32.ofInt x) = Int32.ofInt (if 0 ≤ x then x else w32 (0 - x)) := by
      have e1 := i32_le r32_0 hx0
      rw [i32_0] at e1
      simp only [e1]
      split
      · rfl
      · rw [i32_w, Int32.ofInt_sub, i32_0]
    rw [hc]
    exact k0
  rw [if_neg hr] at ha
  clear hr
  by_cases hr : r = 1006
  · subst hr
    simp only [ckS, Nat.reduceEqDiff, true_or, or_true, or_self, if_true, if_false, Bool.and_eq_true, decide_eq_true_eq] at hck
    obtain ⟨⟨hm, hrj⟩, hlo2⟩ := hck
    simp only [roomJ, Bool.and_eq_true, decide_eq_true_eq] at hrj
    have hlk := jok_all _ hm
    rw [if_pos rfl] at ha
    obtain ⟨x, s1, rfl, ha⟩ := p1I_inv ha
    obtain ⟨hg, ha⟩ := gd_inv ha
    obtain ⟨rfl, rfl, rfl, rfl⟩ := jp_inv ha
    obtain rfl := hnx _ _ hk2
    obtain ⟨hx0, hs⟩ := oks_cons.mp hs
    have k0 := KK ad H locs cl (fun _ _ => rfl) hh hl (oks_cons.mpr ⟨trivial, hs⟩) hR hlv
    simp only [List.map_cons, cv] at k0 ⊢
    exact vn_i2f hx hb (by rw [hml]; exact hlv.1.1.symm) hown (hts _ hlk rfl) (hts _ jw_fn rfl) (hts _ jw_fs rfl) (hts _ jw_fi rfl) hg.2 (by omega) (by rw [cats_sum]; omega) hdec k0
  rw [if_neg hr] at ha
  clear hr
  by_cases hr : r = 1008
  · subst hr
    simp only [ckS, Nat.reduceEqDiff, true_or, or_true, or_self, if_true, if_false, Bool.and_eq_true, decide_eq_true_eq] at hck
    obtain ⟨⟨hm, hrj⟩, hlo2⟩ := hck
    simp only [roomJ, Bool.and_eq_true, decide_eq_true_eq] at hrj
    have hlk := jok_all _ hm
    rw [if_pos rfl] at ha
    obtain ⟨n, s0, rfl, ha⟩ := p1I_inv ha
    obtain ⟨d, j, s0, rfl, ha⟩ := pAI_inv ha
    obtain ⟨a, x, s1, rfl, ha⟩ := pAI_inv ha
    obtain ⟨⟨g1, g2, g3, g4, g5, g6, g7, g8, g9⟩, ha⟩ := gd_inv ha
    obtain ⟨rfl, rfl, rfl, rfl⟩ := jp_inv ha
    obtain rfl := hnx _ _ hk2
    obtain ⟨hn1, hs⟩ := oks_cons.mp hs
    obtain ⟨hj1, hs⟩ := oks_cons.mp hs
    obtain ⟨hd1, hs⟩ := oks_cons.mp hs
    obtain ⟨hx1, hs⟩ := oks_cons.mp hs
    obtain ⟨ha1, hs⟩ := oks_cons.mp hs
    have hdN : d < nn h := hd1 d rfl
    have haN : a < nn h := ha1 a rfl
    have hd1 : 1 ≤ d := by
      rcases Nat.eq_zero_or_pos d with h0 | h0
      · subst h0
        have := hh.2.1
        omega
      · exact h0
    have ha1 : 1 ≤ a := by
      rcases Nat.eq_zero_or_pos a with h0 | h0
      · subst h0
        have := hh.2.1
        omega
      · exact h0
    have hR0 := hR
    obtain ⟨rK, rP, rD, rS, rA, rX, rb, rn⟩ := hR
    have he := wl_at (E := E) (ad := ad) ha1 haN
    have hed := wl_at (E := E) (ad := ad) hd1 hdN
    rw [ob_i g2] at he
    rw [ob_i g3] at hed
    have hn1 : R32 n := hn1
    have hj1 : R32 j := hj1
    have hx1 : R32 x := hx1
    simp only [List.map_cons, cv]
    refine va_copyi (rest := s1.map (cv ad)) hx hb (by rw [hml]; exact hlv.1.1.symm) hown (hts _ hlk rfl) (hts _ jw_an rfl) (hts _ jw_as rfl) (hts _ jw_si rfl) rK rP rD rS (a - 1) (d - 1) 0 0 he hed (ty := .int) rfl rfl rfl (sp := Int32.ofInt x) (dp := Int32.ofInt j) (n := Int32.ofInt n) (i32_nneg hx1 g5) (i32_nneg hj1 g6) (i32_nneg hn1 g7) (by rw [i32_clamp hx1, i32_clamp hn1]; omega) (by rw [i32_clamp hj1, i32_clamp hn1]; omega) (fun _ _ => rfl) (by omega) (by rw [cats_sum]; omega) hdec (fun H1 locs1 p1 p2 p3 => ?_)
    refine KK ad H1 locs1 cl (fun _ _ => rfl) (okh_wI hh (fun q => by split <;> exact hh.2.2.2.2.1 _ _)) hl hs (Rl_set hR0 rfl (wI_row (by omega)) (wl_set hd1 hdN rfl ?_ (fun b _ _ hne => ob_congr rfl (wI_row hne) rfl rfl rfl)) p1 p2 p3) hlv
    rw [ob_i (h := wI h d _) g3]
    refine congrArg (fun f => (Sum.inl (_, _, .inl f) : va_E)) ?_
    funext q
    rw [wI_self]
    unfold va_cpy
    rw [i32_clamp hx1, i32_clamp hj1, i32_clamp hn1]
    by_cases hq : j ≤ (q : Int) ∧ (q : Int) < j + n
    · rw [if_pos hq, if_pos (by omega)]
      refine congrArg (fun k => Int32.ofInt (gi h a k)) ?_
      omega
    · rw [if_neg hq, if_neg (by omega)]
  rw [if_neg hr] at ha
  exact (cal_inl ha).elim

theorem st_tableswitch (df lo hi0 : Int) (offs : Array Int) : StepOK (.tableswitch df lo hi0 offs) := by
  intro p l e R s m args below meth c Q E A H0 i n0 u0 k pc r z ls st h k2 ls2 st2 h2 pc2 q2 ad H locs cl C hi hd ha hk2 hh hl hs hR hlv hn0 hu0 hcells hslots KK
  obtain ⟨hx, hb, hml, hown, hts, hfr, hlo, hin⟩ := C
  obtain ⟨hE1, -, hck⟩ := eok_all i k hi pc _ r z hd
  obtain ⟨len, hdec⟩ := hE1 rfl
  dsimp only [axf] at ha
  simp only [ckS, Bool.and_eq_true, decide_eq_true_eq] at hck
  obtain ⟨⟨⟨t0, t1⟩, t2⟩, t3⟩ := hck
  obtain ⟨x, s1, rfl, ha⟩ := p1I_inv ha
  obtain ⟨hx0, hs⟩ := oks_cons.mp hs
  have hx1 : R32 x := hx0
  simp only [List.map_cons, cv]
  rcases br_inv ha with ⟨hc, ha⟩ | ⟨hc, ha⟩
  · obtain ⟨rfl, rfl, rfl, rfl⟩ := jp_inv ha
    exact lv_tableOut hx hb hdec (by rw [i32_toInt hx1]; exact hc) (tgt_of t0 hk2) (KK ad H locs cl (fun _ _ => rfl) hh hl hs hR hlv)
  · obtain ⟨rfl, rfl, rfl, rfl⟩ := jp_inv ha
    have hlt : (x - lo).toNat < offs.size := by omega
    have ho : offs[(x - lo).toNat]? = some (offs.toList.getD (x - lo).toNat 0) := by
      rw [List.getD_eq_getElem?_getD, Array.getElem?_toList, Array.getElem?_eq_getElem hlt]
      rfl
    have t4 := List.all_eq_true.mp t3 (x - lo).toNat (List.mem_range.mpr hlt)
    exact lv_tableIn hx hb hdec (by rw [i32_toInt hx1]; omega) (by rw [i32_toInt hx1]; omega) (by rw [i32_toInt hx1]; exact ho) (tgt_of t4 hk2) (KK ad H locs cl (fun _ _ => rfl) hh hl hs hR hlv)

theorem st_lookupswitch (df : Int) (ps : Array (Int × Int)) : StepOK (.lookupswitch df ps) := by
  intro p l e R s m args below meth c Q E A H0 i n0 u0 k pc r z ls st h k2 ls2 st2 h2 pc2 q2 ad H locs cl C hi hd ha hk2 hh hl hs hR hlv hn0 hu0 hcells hslots KK
  obtain ⟨hx, hb, hml, hown, hts, hfr, hlo, hin⟩ := C
  obtain ⟨hE1, -, hck⟩ := eok_all i k hi pc _ r z hd
  obtain ⟨len, hdec⟩ := hE1 rfl
  dsimp only [axf] at ha
  simp only [ckS, Bool.and_eq_true] at hck
  obtain ⟨⟨t0, t1⟩, t3⟩ := hck
  obtain ⟨x, s1, rfl, ha⟩ := p1I_inv ha
  obtain ⟨hx0, hs⟩ := oks_cons.mp hs
  have hx1 : R32 x := hx0
  obtain ⟨rfl, rfl, rfl, rfl⟩ := jp_inv ha
  simp only [List.map_cons, cv]
  refine lv_lookup hx hb hdec t1 rfl ?_ (KK ad H locs cl (fun _ _ => rfl) hh hl hs hR hlv)
  rw [i32_toInt hx1]
  refine tgt_of (lk_tgt ps.toList 1 (fun j hj => ?_) t0) hk2
  have := List.all_eq_true.mp t3 j (List.mem_range.mpr (by simpa using hj))
  rw [Nat.add_comm 1 j]
  exact this
/-- every step of the abstract machine is the machine's -/
theorem step_ok (d : Instr) : StepOK d := by
  have nope : (∀ r z k ls st h, axf d r z k ls st h = none) → StepOK d := fun hn => by
    intro p l e R s m args below meth c Q E A H0 i n0 u0 k pc r z ls st h k2 ls2 st2 h2 pc2 q2 ad H locs cl C hi hd ha
    rw [hn] at ha
    cases ha
  have retn : (∀ r z k ls st h x, axf d r z k ls st h ≠ some (.inl x)) → StepOK d := fun hn => by
    intro p l e R s m args below meth c Q E A H0 i n0 u0 k pc r z ls st h k2 ls2 st2 h2 pc2 q2 ad H locs cl C hi hd ha
    exact absurd ha (hn _ _ _ _ _ _ _)
  cases d with
  | iconst n => exact st_iconst n
  | bipush n => exact st_bipush n
  | sipush n => exact st_sipush n
  | lconst n => exact st_lconst n
  | fconst n => exact st_fconst n
  | aconst_null  => exact st_aconst_null 
  | ldc x => exact st_ldc x
  | ldc_w x => exact st_ldc_w x
  | ldc2_w x => exact st_ldc2_w x
  | iload j => exact st_iload j
  | iload_n j => exact st_iload_n j
  | lload j => exact st_lload j
  | lload_n j => exact st_lload_n j
  | fload j => exact st_fload j
  | fload_n j => exact st_fload_n j
  | aload j => exact st_aload j
  | aload_n j => exact st_aload_n j
  | istore j => exact st_istore j
  | istore_n j => exact st_istore_n j
  | lstore j => exact st_lstore j
  | lstore_n j => exact st_lstore_n j
  | fstore j => exact st_fstore j
  | fstore_n j => exact st_fstore_n j
  | astore j => exact st_astore j
  | astore_n j => exact st_astore_n j
  | iinc j n => exact st_iinc j n
  | iadd  => exact st_iadd 
  | isub  => exact st_isub 
  | imul  => exact st_imul 
  | iand  => exact st_iand 
  | ior  => exact st_ior 
  | ixor  => exact st_ixor 
  | ishl  => exact st_ishl 
  | ishr  => exact st_ishr 
  | idiv  => exact st_idiv 
  | irem  => exact st_irem 
  | ladd  => exact st_ladd 
  | lmul  => exact st_lmul 
  | land  => exact st_land 
  | lor  => exact st_lor 
  | ldiv  => exact st_ldiv 
  | lcmp  => exact st_lcmp 
  | lshl  => exact st_lshl 
  | lshr  => exact st_lshr 
  | lushr  => exact st_lushr 
  | i2l  => exact st_i2l 
  | l2i  => exact st_l2i 
  | i2b  => exact st_i2b 
  | i2f  => exact st_i2f 
  | f2i  => exact st_f2i 
  | fneg  => exact st_fneg 
  | fadd  => exact st_fadd 
  | fsub  => exact st_fsub 
  | fmul  => exact st_fmul 
  | fcmp op => exact st_fcmp op
  | dup  => exact st_dup 
  | pop  => exact st_pop 
  | dup2  => exact st_dup2 
  | goto off => exact st_goto off
  | ifCond c off =>
    cases c with
    | eq => exact st_ifCond_eq off
    | ne => exact st_ifCond_ne off
    | lt => exact st_ifCond_lt off
    | ge => exact st_ifCond_ge off
    | gt => exact st_ifCond_gt off
    | le => exact st_ifCond_le off
  | if_icmp c off =>
    cases c with
    | eq => exact st_if_icmp_eq off
    | ne => exact st_if_icmp_ne off
    | lt => exact st_if_icmp_lt off
    | ge => exact st_if_icmp_ge off
    | gt => exact st_if_icmp_gt off
    | le => exact st_if_icmp_le off
  | ifnull off => exact st_ifnull off
  | ifnonnull off => exact st_ifnonnull off
  | getfield x => exact st_getfield x
  | putfield x => exact st_putfield x
  | baload  => exact st_baload 
  | laload  => exact st_laload 
  | iaload  => exact st_iaload 
  | aaload  => exact st_aaload 
  | arraylength  => exact st_arraylength 
  | iastore  => exact st_iastore 
  | bastore  => exact st_bastore 
  | lastore  => exact st_lastore 
  | aastore  => exact st_aastore 
  | newarray t =>
    cases t with
    | int => exact st_newarray_int
    | byte => exact st_newarray_byte
    | long => exact st_newarray_long
    | _ => exact nope (fun _ _ _ _ _ _ => rfl)
  | anewarray x0 => exact st_anewarray x0
  | new x0 => exact st_new x0
  | checkcast x0 => exact st_checkcast x0
  | invokespecial x0 => exact st_invokespecial x0
  | invokevirtual x0 => exact st_invokevirtual x0
  | invokestatic x0 => exact st_invokestatic x0
  | tableswitch df lo hi offs => exact st_tableswitch df lo hi offs
  | lookupswitch df ps => exact st_lookupswitch df ps
  | ireturn => exact retn (fun r z k ls st h x e => by
      obtain ⟨v, s1, -, e⟩ := p1I_inv e
      obtain ⟨-, e⟩ := gd_inv e
      cases e)
  | lreturn => exact retn (fun r z k ls st h x e => by
      obtain ⟨v, s1, -, e⟩ := p1L_inv e
      obtain ⟨-, e⟩ := gd_inv e
      cases e)
  | freturn => exact retn (fun r z k ls st h x e => by
      obtain ⟨v, s1, -, e⟩ := p1F_inv e
      obtain ⟨-, e⟩ := gd_inv e
      cases e)
  | areturn => exact retn (fun r z k ls st h x e => by
      obtain ⟨v, s1, -, e⟩ := p1Q_inv e
      obtain ⟨-, e⟩ := gd_inv e
      cases e)
  | return_ => exact retn (fun r z k ls st h x e => by
      obtain ⟨-, e⟩ := gd_inv e
      cases e)
  | _ => exact nope (fun _ _ _ _ _ _ => rfl)
