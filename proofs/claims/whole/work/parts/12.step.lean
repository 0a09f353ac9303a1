theorem cpF_ty : ∀ x ∈ cpF, x.2.2 % 8 = 0 ∨ x.2.2 % 8 = 1 ∨ x.2.2 % 8 = 2 ∨ x.2.2 % 8 = 3 ∨ x.2.2 % 8 = 4 := by decide +kernel

theorem st_getfield (x : Nat) : StepOK (.getfield x) := by
  intro p l e R s m args below meth c Q E A H0 i n0 u0 k pc r z ls st h k2 ls2 st2 h2 pc2 q2 ad H locs cl C hi hd ha hk2 hh hl hs hR hlv hn0 hu0 hcells hslots KK
  obtain ⟨hx, hb, hml, hown, hts, hfr, hlo, hin⟩ := C
  obtain ⟨-, hE2, hck⟩ := eok_all i k hi pc _ r z hd
  obtain ⟨hdec, hnx⟩ := hE2 rfl
  dsimp only [lenOf] at hdec hnx
  dsimp only [axf] at ha
  simp only [ckS, decide_eq_true_eq] at hck
  have hm := hck
  obtain ⟨o, s1, rfl, ha⟩ := p1R_inv ha
  obtain ⟨hg, ha⟩ := gd_inv ha
  obtain ⟨rfl, rfl, rfl, rfl⟩ := jp_inv ha
  obtain rfl := hnx _ _ hk2
  have hoN : o < nn h := (oks_cons.mp hs).1 o rfl
  have ho1 : 1 ≤ o := by
    rcases Nat.eq_zero_or_pos o with h0 | h0
    · subst h0
      have := hh.2.1
      omega
    · exact h0
  obtain ⟨f1, f2, f3, q, f4, f5, f6⟩ := fok_all _ hm
  obtain ⟨C, T, N, ty, c1, c2, c3, c4, c5, c6, c7, c8, c9, c10, c11⟩ := cls_ok _ f1
  have hq : q = (C, T, N) := Option.some.inj (f4.symm.trans c1)
  subst hq
  rw [c3] at f2
  have hkN : r / 8 % 64 < N := by simpa using f2
  have hR0 := hR
  obtain ⟨rK, rP, rD, rS, rA, rX, rb, rn⟩ := hR
  have he := wl_at (E := E) (ad := ad) ho1 hoN
  rw [ob_c hg] at he
  have hv : (flv ad h o (r / 512))[r / 8 % 64]? = some (cv ad (rdF h o (r % 8) (r / 8 % 64))) := by rw [flv_at (by rw [c3]; simpa using hkN), f3]
  have k0 := KK ad H locs cl (fun _ _ => rfl) hh hl (oks_cons.mpr ⟨ok_rdF hh _ _ _, (oks_cons.mp hs).2⟩) hR0 hlv
  simp only [List.map_cons] at k0 ⊢
  have hT : ∀ y, s.fieldFound? (T (r / 8 % 64)).1 (T (r / 8 % 64)).2.1 (T (r / 8 % 64)).2.2.1 = some y → s.fieldFound? C (T (r / 8 % 64)).2.1 (T (r / 8 % 64)).2.2.1 = some y := fun y hy => by rw [← c10 _ hkN]; exact hy
  rcases f5 with f5 | ⟨host, f5⟩
  · exact va_get hx hb (fun w hw => hts w (c4 w hw) (uws_k w hw)) (fun _ h => h) hown rK rP (o - 1) he c1 (r / 8 % 64) hkN (hts _ f5 rfl) hT hv hdec k0
  · exact va_getN hx hb (fun w hw => hts w (c4 w hw) (uws_k w hw)) (fun _ h => h) hown rK rP (o - 1) he c1 (r / 8 % 64) hkN (hts _ f5 rfl) hT hv hdec k0

/-- a field is written -/
theorem st_put {p : Program} {l : Launch} {e : Env} {R : Room} {s : State} {m : MethodId} {args : Array Value} {below : List Frame} {meth : Method} {c : Code} {Q : State → Prop} {E : EE} {A : Nat → Prop} {H0 : Heap} {i pc r x o : Nat} {h h2 : AH} {s1 : aSt} {w : AV} {ad : Nat → Nat} {H : Heap} {locs : List Loc} {cl : Array Slot} {cells slots : Nat}
    (C : Cx i R p s m args meth c) (hck : ckS i pc (.putfield x) r 0 = true) (hdec : decode (mC i) pc = .ok (.putfield x, 3)) (hh : okh h) (hs : oks (nn h) (vR (some o) :: s1)) (hR : Rl E ad h A H0 H locs s) (hg : (sh h o).1 = 10 + r / 512)
    (hty : ∀ ty : FieldType, tyc ty = r % 8 → narrow ty (cv ad w) = cv ad w ∧ fits ty (cv ad w) = true) (hn2 : nn h2 = nn h) (hs2 : sh h2 = sh h) (hi0 : gi h2 0 = gi h 0)
    (hold : ∀ a, a ≠ o → gi h2 a = gi h a ∧ gl h2 a = gl h a ∧ gf h2 a = gf h a ∧ gr h2 a = gr h a) (hnew : rdF h2 o (r % 8) (r / 8 % 64) = w) (hoth : ∀ j t, j ≠ r / 8 % 64 → rdF h2 o t j = rdF h o t j)
    (kk : ∀ (H2 : Heap) (locs2 : List Loc), Rl E ad h2 A H0 H2 locs2 s → W p l e R s m args below meth c H2 locs2 cells slots Q (F0 m (pc + 3) cl (s1.map (cv ad)))) :
    W p l e R s m args below meth c H locs cells slots Q (F0 m pc cl (cv ad w :: .ref (ad o) :: s1.map (cv ad))) := by
  obtain ⟨hx, hb, hml, hown, hts, hfr, hlo, hin⟩ := C
  simp only [ckS, Bool.and_eq_true, decide_eq_true_eq, Bool.or_eq_true, Bool.not_eq_true'] at hck
  obtain ⟨hm, hfin⟩ := hck
  have hoN : o < nn h := (oks_cons.mp hs).1 o rfl
  have ho1 : 1 ≤ o := by
    rcases Nat.eq_zero_or_pos o with h0 | h0
    · subst h0
      have := hh.2.1
      omega
    · exact h0
  obtain ⟨f1, f2, f3, q, f4, f5, f6⟩ := fok_all _ hm
  obtain ⟨C, T, N, ty, c1, c2, c3, c4, c5, c6, c7, c8, c9, c10, c11⟩ := cls_ok _ f1
  have hq : q = (C, T, N) := Option.some.inj (f4.symm.trans c1)
  subst hq
  rw [c3] at f2
  have hkN : r / 8 % 64 < N := by simpa using f2
  have hR0 := hR
  obtain ⟨rK, rP, rD, rS, rA, rX, rb, rn⟩ := hR
  have he := wl_at (E := E) (ad := ad) ho1 hoN
  rw [ob_c hg] at he
  have hT : ∀ y, s.fieldFound? (T (r / 8 % 64)).1 (T (r / 8 % 64)).2.1 (T (r / 8 % 64)).2.2.1 = some y → s.fieldFound? C (T (r / 8 % 64)).2.1 (T (r / 8 % 64)).2.2.1 = some y := fun y hy => by rw [← c10 _ hkN]; exact hy
  have hF : finF r = (T (r / 8 % 64)).2.2.2 := by unfold finF; rw [c1]
  rw [hF] at hfin
  obtain ⟨t1, t2⟩ := hty (ty (r / 8 % 64)) (by rw [c9 _ hkN]; exact f3)
  have hlen : r / 8 % 64 < (flv ad h o (r / 512)).length := by rw [flv_len, c3]; simpa using hkN
  have hset : (wl E ad h).set (o - 1) (ad o, .inr (r / 512, (flv ad h o (r / 512)).set (r / 8 % 64) (cv ad w))) = wl E ad h2 := by
    refine wl_set ho1 hoN hn2 ?_ (fun a _ _ hne => ?_)
    · rw [ob_c (by rw [hs2]; exact hg), flv_set (by rw [f3]; exact hnew) (fun j hj => hoth _ _ hj)]
    · obtain ⟨g1, g2, g3, g4⟩ := hold a hne
      exact ob_congr (by rw [hs2]) g1 g2 g3 g4
  have fin : ∀ (H1 : Heap) (locs1 : List Loc), va_P E.1 vwCl ((wl E ad h).set (o - 1) (ad o, .inr (r / 512, (flv ad h o (r / 512)).set (r / 8 % 64) (cv ad w)))) H1 → va_D A ((wl E ad h).set (o - 1) (ad o, .inr (r / 512, (flv ad h o (r / 512)).set (r / 8 % 64) (cv ad w)))) → va_S A H0 H1 locs1 → W p l e R s m args below meth c H1 locs1 cells slots Q (F0 m (pc + 3) cl (s1.map (cv ad))) :=
    fun H1 locs1 p1 p2 p3 => kk H1 locs1 (Rl_set hR0 (by rw [hs2]) hi0 hset p1 p2 p3)
  cases hfl : (T (r / 8 % 64)).2.2.2 with
  | false =>
    rcases f5 with f5 | ⟨host, f5⟩
    · exact va_put hx hb (fun w hw => hts w (c4 w hw) (uws_k w hw)) (fun _ h => h) ty c5 c6 hown rK rP rD rS (o - 1) he c1 (r / 8 % 64) hkN (hts _ f5 rfl) hT hfl (c5 _ hkN) t1 t2 hlen hdec fin
    · exact va_putN hx hb (fun w hw => hts w (c4 w hw) (uws_k w hw)) (fun _ h => h) ty c5 c6 hown rK rP rD rS (o - 1) he c1 (r / 8 % 64) hkN (hts _ f5 rfl) hT hfl (c5 _ hkN) t1 t2 hlen hdec fin
  | true =>
    rcases hfin with h0 | ⟨h1, h2⟩
    · rw [hfl] at h0; cases h0
    · exact va_putF hx hb (fun w hw => hts w (c4 w hw) (uws_k w hw)) (fun _ h => h) ty c5 c6 hown rK rP rD rS (o - 1) he c1 (r / 8 % 64) hkN (hts _ (f6 h2) rfl) hT hfl (hin h1) (by rw [c10 _ hkN, h2, c2]) (c5 _ hkN) t1 t2 hlen hdec fin

theorem st_putfield (x : Nat) : StepOK (.putfield x) := by
  intro p l e R s m args below meth c Q E A H0 i n0 u0 k pc r z ls st h k2 ls2 st2 h2 pc2 q2 ad H locs cl C hi hd ha hk2 hh hl hs hR hlv hn0 hu0 hcells hslots KK
  have C0 := C
  obtain ⟨hx, hb, hml, hown, hts, hfr, hlo, hin⟩ := C
  obtain ⟨-, hE2, hck⟩ := eok_all i k hi pc _ r z hd
  obtain ⟨hdec, hnx⟩ := hE2 rfl
  dsimp only [lenOf] at hdec hnx
  dsimp only [axf] at ha
  have hck : ckS i pc (.putfield x) r 0 = true := hck
  by_cases hr : r % 8 = 0
  · rw [if_pos hr] at ha
    obtain ⟨v, s0, rfl, ha⟩ := p1I_inv ha
    obtain ⟨o, s1, rfl, ha⟩ := p1R_inv ha
    obtain ⟨hg, ha⟩ := gd_inv ha
    obtain ⟨rfl, rfl, rfl, rfl⟩ := jp_inv ha
    obtain rfl := hnx _ _ hk2
    obtain ⟨hv, hs⟩ := oks_cons.mp hs
    refine st_put (h2 := si h o ((r / 8 % 64 : Nat) : Int) v) (w := vI v) C0 hck hdec hh hs hR hg (fun ty ht => ?_) rfl rfl (u2_row (fun e0 => by subst e0; have := hh.2.1; omega)) (fun a hne => ⟨u2_row hne, rfl, rfl, rfl⟩) (by rw [hr]; exact congrArg vI si_at) (fun j t hj => rdF_si hj) (fun H2 locs2 hR2 => KK ad H2 locs2 cl (fun _ _ => rfl) (okh_si hh hv) hl (oks_cons.mp hs).2 hR2 hlv)
    rw [hr] at ht
    cases ty <;> first | (exfalso; simp [tyc] at ht; done) | exact ⟨rfl, rfl⟩
  rw [if_neg hr] at ha
  have hr_0 := hr
  clear hr
  by_cases hr : r % 8 = 1
  · rw [if_pos hr] at ha
    obtain ⟨v, s0, rfl, ha⟩ := p1I_inv ha
    obtain ⟨o, s1, rfl, ha⟩ := p1R_inv ha
    obtain ⟨hg, ha⟩ := gd_inv ha
    obtain ⟨rfl, rfl, rfl, rfl⟩ := jp_inv ha
    obtain rfl := hnx _ _ hk2
    obtain ⟨hv, hs⟩ := oks_cons.mp hs
    refine st_put (h2 := si h o ((r / 8 % 64 : Nat) : Int) v) (w := vI v) C0 hck hdec hh hs hR hg.1 (fun ty ht => ?_) rfl rfl (u2_row (fun e0 => by subst e0; have := hh.2.1; omega)) (fun a hne => ⟨u2_row hne, rfl, rfl, rfl⟩) (by rw [hr]; exact congrArg vI si_at) (fun j t hj => rdF_si hj) (fun H2 locs2 hR2 => KK ad H2 locs2 cl (fun _ _ => rfl) (okh_si hh hv) hl (oks_cons.mp hs).2 hR2 hlv)
    rw [hr] at ht
    cases ty <;> first | (exfalso; simp [tyc] at ht; done) | (rcases hg.2 with rfl | rfl <;> (simp only [cv]; decide))
  rw [if_neg hr] at ha
  have hr_1 := hr
  clear hr
  by_cases hr : r % 8 = 2
  · rw [if_pos hr] at ha
    obtain ⟨v, s0, rfl, ha⟩ := p1L_inv ha
    obtain ⟨o, s1, rfl, ha⟩ := p1R_inv ha
    obtain ⟨hg, ha⟩ := gd_inv ha
    obtain ⟨rfl, rfl, rfl, rfl⟩ := jp_inv ha
    obtain rfl := hnx _ _ hk2
    obtain ⟨hv, hs⟩ := oks_cons.mp hs
    refine st_put (h2 := sl h o ((r / 8 % 64 : Nat) : Int) v) (w := vL v) C0 hck hdec hh hs hR hg (fun ty ht => ?_) rfl rfl (rfl) (fun a hne => ⟨rfl, u2_row hne, rfl, rfl⟩) (by rw [hr]; exact congrArg vL sl_at) (fun j t hj => rdF_sl hj) (fun H2 locs2 hR2 => KK ad H2 locs2 cl (fun _ _ => rfl) (okh_sl hh hv) hl (oks_cons.mp hs).2 hR2 hlv)
    rw [hr] at ht
    cases ty <;> first | (exfalso; simp [tyc] at ht; done) | exact ⟨rfl, rfl⟩
  rw [if_neg hr] at ha
  have hr_2 := hr
  clear hr
  by_cases hr : r % 8 = 3
  · rw [if_pos hr] at ha
    obtain ⟨v, s0, rfl, ha⟩ := p1F_inv ha
    obtain ⟨o, s1, rfl, ha⟩ := p1R_inv ha
    obtain ⟨hg, ha⟩ := gd_inv ha
    obtain ⟨rfl, rfl, rfl, rfl⟩ := jp_inv ha
    obtain rfl := hnx _ _ hk2
    obtain ⟨hv, hs⟩ := oks_cons.mp hs
    refine st_put (h2 := sf h o ((r / 8 % 64 : Nat) : Int) v) (w := vF v) C0 hck hdec hh hs hR hg (fun ty ht => ?_) rfl rfl (rfl) (fun a hne => ⟨rfl, rfl, u2_row hne, rfl⟩) (by rw [hr]; exact congrArg vF sf_at) (fun j t hj => rdF_sf hj) (fun H2 locs2 hR2 => KK ad H2 locs2 cl (fun _ _ => rfl) (okh_sf hh) hl (oks_cons.mp hs).2 hR2 hlv)
    rw [hr] at ht
    cases ty <;> first | (exfalso; simp [tyc] at ht; done) | exact ⟨rfl, rfl⟩
  rw [if_neg hr] at ha
  obtain ⟨v, s0, rfl, ha⟩ := p1Q_inv ha
  obtain ⟨o, s1, rfl, ha⟩ := p1R_inv ha
  obtain ⟨hg, ha⟩ := gd_inv ha
  have hr4 : r % 8 = 4 := by
    have hm := hck
    simp only [ckS, Bool.and_eq_true, decide_eq_true_eq] at hm
    have := cpF_ty _ hm.1
    simp only at this
    omega
  clear hr
  have hr := hr4
  obtain ⟨rfl, rfl, rfl, rfl⟩ := jp_inv ha
  obtain rfl := hnx _ _ hk2
  obtain ⟨hv, hs⟩ := oks_cons.mp hs
  refine st_put (h2 := sr h o ((r / 8 % 64 : Nat) : Int) v) (w := vR v) C0 hck hdec hh hs hR hg (fun ty ht => ?_) rfl rfl rfl (fun a hne => ⟨rfl, rfl, rfl, u2_row hne⟩) (by rw [hr]; exact congrArg vR sr_at) (fun j t hj => rdF_sr hj) (fun H2 locs2 hR2 => KK ad H2 locs2 cl (fun _ _ => rfl) (okh_sr hh hv) hl (oks_cons.mp hs).2 hR2 hlv)
  rw [hr] at ht
  cases ty <;> first | (exfalso; simp [tyc] at ht; done) | (cases v <;> exact ⟨rfl, rfl⟩)

theorem st_baload : StepOK (.baload) := by
  intro p l e R s m args below meth c Q E A H0 i n0 u0 k pc r z ls st h k2 ls2 st2 h2 pc2 q2 ad H locs cl C hi hd ha hk2 hh hl hs hR hlv hn0 hu0 hcells hslots KK
  obtain ⟨hx, hb, hml, hown, hts, hfr, hlo, hin⟩ := C
  obtain ⟨-, hE2, hck⟩ := eok_all i k hi pc _ r z hd
  obtain ⟨hdec, hnx⟩ := hE2 rfl
  dsimp only [lenOf] at hdec hnx
  dsimp only [axf] at ha
  obtain ⟨a, x, s1, rfl, ha⟩ := pAI_inv ha
  obtain ⟨hg, ha⟩ := gd_inv ha
  obtain ⟨rfl, rfl, rfl, rfl⟩ := jp_inv ha
  obtain rfl := hnx _ _ hk2
  have hx0 : R32 x := (oks_cons.mp hs).1
  have haN : a < nn h := ((oks_cons.mp hs).2 _ List.mem_cons_self) a rfl
  have ha1 : 1 ≤ a := by
    rcases Nat.eq_zero_or_pos a with h0 | h0
    · subst h0
      have := hh.2.1
      omega
    · exact h0
  have hot : (sh h a).2 ≤ 1000000 ∧ 0 ≤ (sh h a).2 := by
    have := hh.2.2.2.2.2.2.2 a ha1 haN
    unfold okt at this
    omega
  have hR0 := hR
  obtain ⟨rK, rP, rD, rS, rA, rX, rb, rn⟩ := hR
  have he := wl_at (E := E) (ad := ad) ha1 haN
  rw [ob_b hg.1] at he
  have k0 := KK ad H locs cl (fun _ _ => rfl) hh hl (oks_cons.mpr ⟨hh.2.2.2.2.1 _ _, (oks_cons.mp (oks_cons.mp hs).2).2⟩) hR0 hlv
  have hxi : ((x.toNat : Nat) : Int) = x := Int.toNat_of_nonneg hg.2.1
  simp only [List.map_cons, cv] at k0 ⊢
  refine va_bald hx hb rK rP (a - 1) 1 he rfl (i32_in hx0 hg.2.1 (by have := hg.2.2; omega)) hdec ?_
  simp only [i32_clamp hx0, hxi]
  exact k0

theorem st_laload : StepOK (.laload) := by
  intro p l e R s m args below meth c Q E A H0 i n0 u0 k pc r z ls st h k2 ls2 st2 h2 pc2 q2 ad H locs cl C hi hd ha hk2 hh hl hs hR hlv hn0 hu0 hcells hslots KK
  obtain ⟨hx, hb, hml, hown, hts, hfr, hlo, hin⟩ := C
  obtain ⟨-, hE2, hck⟩ := eok_all i k hi pc _ r z hd
  obtain ⟨hdec, hnx⟩ := hE2 rfl
  dsimp only [lenOf] at hdec hnx
  dsimp only [axf] at ha
  obtain ⟨a, x, s1, rfl, ha⟩ := pAI_inv ha
  obtain ⟨hg, ha⟩ := gd_inv ha
  obtain ⟨rfl, rfl, rfl, rfl⟩ := jp_inv ha
  obtain rfl := hnx _ _ hk2
  have hx0 : R32 x := (oks_cons.mp hs).1
  have haN : a < nn h := ((oks_cons.mp hs).2 _ List.mem_cons_self) a rfl
  have ha1 : 1 ≤ a := by
    rcases Nat.eq_zero_or_pos a with h0 | h0
    · subst h0
      have := hh.2.1
      omega
    · exact h0
  have hot : (sh h a).2 ≤ 1000000 ∧ 0 ≤ (sh h a).2 := by
    have := hh.2.2.2.2.2.2.2 a ha1 haN
    unfold okt at this
    omega
  have hR0 := hR
  obtain ⟨rK, rP, rD, rS, rA, rX, rb, rn⟩ := hR
  have he := wl_at (E := E) (ad := ad) ha1 haN
  rw [ob_l hg.1] at he
  have k0 := KK ad H locs cl (fun _ _ => rfl) hh hl (oks_cons.mpr ⟨hh.2.2.2.2.2.1 _ _, (oks_cons.mp (oks_cons.mp hs).2).2⟩) hR0 hlv
  have hxi : ((x.toNat : Nat) : Int) = x := Int.toNat_of_nonneg hg.2.1
  simp only [List.map_cons, cv] at k0 ⊢
  refine va_lald hx hb rK rP (a - 1) 2 he rfl (i32_in hx0 hg.2.1 (by have := hg.2.2; omega)) hdec ?_
  simp only [i32_clamp hx0, hxi]
  exact k0

theorem st_iaload : StepOK (.iaload) := by
  intro p l e R s m args below meth c Q E A H0 i n0 u0 k pc r z ls st h k2 ls2 st2 h2 pc2 q2 ad H locs cl C hi hd ha hk2 hh hl hs hR hlv hn0 hu0 hcells hslots KK
  obtain ⟨hx, hb, hml, hown, hts, hfr, hlo, hin⟩ := C
  obtain ⟨-, hE2, hck⟩ := eok_all i k hi pc _ r z hd
  obtain ⟨hdec, hnx⟩ := hE2 rfl
  dsimp only [lenOf] at hdec hnx
  dsimp only [axf] at ha
  obtain ⟨a, x, s1, rfl, ha⟩ := pAI_inv ha
  obtain ⟨hg, ha⟩ := gd_inv ha
  obtain ⟨rfl, rfl, rfl, rfl⟩ := jp_inv ha
  obtain rfl := hnx _ _ hk2
  have hx0 : R32 x := (oks_cons.mp hs).1
  have haN : a < nn h := ((oks_cons.mp hs).2 _ List.mem_cons_self) a rfl
  have hR0 := hR
  obtain ⟨rK, rP, rD, rS, rA, rX, rb, rn⟩ := hR
  have k0 := KK ad H locs cl (fun _ _ => rfl) hh hl (oks_cons.mpr ⟨hh.2.2.2.2.1 _ _, (oks_cons.mp (oks_cons.mp hs).2).2⟩) hR0 hlv
  have hxi : ((x.toNat : Nat) : Int) = x := Int.toNat_of_nonneg hg.2.1
  simp only [List.map_cons, cv] at k0 ⊢
  rcases hg.1 with h0 | h9
  · have ha1 : 1 ≤ a := by
      rcases Nat.eq_zero_or_pos a with h1 | h1
      · subst h1
        have := hh.2.1
        omega
      · exact h1
    have he := wl_at (E := E) (ad := ad) ha1 haN
    rw [ob_i h0] at he
    refine va_iald hx hb rK rP (a - 1) 0 he rfl (i32_in hx0 hg.2.1 (by have := hg.2.2; omega)) hdec ?_
    simp only [i32_clamp hx0, hxi]
    exact k0
  · have ha0 : a = 0 := by
      rcases Nat.eq_zero_or_pos a with h1 | h1
      · exact h1
      · have := hh.2.2.2.2.2.2.2 a h1 haN
        unfold okt at this
        omega
    subst ha0
    refine va_sld hx hb rX rb rn rS (i32_in hx0 hg.2.1 (by have := hg.2.2; omega)) hdec ?_
    simp only [i32_clamp hx0, hxi]
    exact k0

theorem st_aaload : StepOK (.aaload) := by
  intro p l e R s m args below meth c Q E A H0 i n0 u0 k pc r z ls st h k2 ls2 st2 h2 pc2 q2 ad H locs cl C hi hd ha hk2 hh hl hs hR hlv hn0 hu0 hcells hslots KK
  obtain ⟨hx, hb, hml, hown, hts, hfr, hlo, hin⟩ := C
  obtain ⟨-, hE2, hck⟩ := eok_all i k hi pc _ r z hd
  obtain ⟨hdec, hnx⟩ := hE2 rfl
  dsimp only [lenOf] at hdec hnx
  dsimp only [axf] at ha
  obtain ⟨a, x, s1, rfl, ha⟩ := pAI_inv ha
  obtain ⟨hg, ha⟩ := gd_inv ha
  obtain ⟨rfl, rfl, rfl, rfl⟩ := jp_inv ha
  obtain rfl := hnx _ _ hk2
  have hx0 : R32 x := (oks_cons.mp hs).1
  have haN : a < nn h := ((oks_cons.mp hs).2 _ List.mem_cons_self) a rfl
  have ha1 : 1 ≤ a := by
    rcases Nat.eq_zero_or_pos a with h0 | h0
    · subst h0
      have := hh.2.1
      omega
    · exact h0
  have hR0 := hR
  obtain ⟨rK, rP, rD, rS, rA, rX, rb, rn⟩ := hR
  have k0 := KK ad H locs cl (fun _ _ => rfl) hh hl (oks_cons.mpr ⟨hh.2.2.2.2.2.2.1 _ _, (oks_cons.mp (oks_cons.mp hs).2).2⟩) hR0 hlv
  have hxi : ((x.toNat : Nat) : Int) = x := Int.toNat_of_nonneg hg.2.1
  have he := wl_at (E := E) (ad := ad) ha1 haN
  simp only [List.map_cons, cv] at k0 ⊢
  rcases hg.1 with h0 | h0
  · rw [ob_q h0] at he
    refine va_aldq hx hb rK rP (a - 1) 3 he rfl (i32_in hx0 hg.2.1 (by have := hg.2.2; omega)) hdec ?_
    simp only [i32_clamp hx0, hxi]
    exact k0
  · rw [ob_p h0] at he
    refine va_aldq hx hb rK rP (a - 1) 4 he rfl (i32_in hx0 hg.2.1 (by have := hg.2.2; omega)) hdec ?_
    simp only [i32_clamp hx0, hxi]
    exact k0

theorem st_arraylength : StepOK (.arraylength) := by
  intro p l e R s m args below meth c Q E A H0 i n0 u0 k pc r z ls st h k2 ls2 st2 h2 pc2 q2 ad H locs cl C hi hd ha hk2 hh hl hs hR hlv hn0 hu0 hcells hslots KK
  obtain ⟨hx, hb, hml, hown, hts, hfr, hlo, hin⟩ := C
  obtain ⟨-, hE2, hck⟩ := eok_all i k hi pc _ r z hd
  obtain ⟨hdec, hnx⟩ := hE2 rfl
  dsimp only [lenOf] at hdec hnx
  dsimp only [axf] at ha
  obtain ⟨a, s1, rfl, ha⟩ := p1R_inv ha
  obtain ⟨hg, ha⟩ := gd_inv ha
  obtain ⟨rfl, rfl, rfl, rfl⟩ := jp_inv ha
  obtain rfl := hnx _ _ hk2
  have haN : a < nn h := (oks_cons.mp hs).1 a rfl
  have hR0 := hR
  obtain ⟨rK, rP, rD, rS, rA, rX, rb, rn⟩ := hR
  have hln : 0 ≤ (sh h a).2 ∧ (sh h a).2 ≤ 1000000 := by
    rcases Nat.eq_zero_or_pos a with h1 | h1
    · subst h1; exact ⟨hh.2.2.1, hh.2.2.2.1⟩
    · have := hh.2.2.2.2.2.2.2 a h1 haN
      unfold okt at this
      omega
  have hof : Int32.ofNat (sh h a).2.toNat = Int32.ofInt (sh h a).2 := by
    rw [← Int32.ofInt_eq_ofNat, Int.toNat_of_nonneg hln.1]
  have k0 := KK ad H locs cl (fun _ _ => rfl) hh hl (oks_cons.mpr ⟨⟨by omega, by omega⟩, (oks_cons.mp hs).2⟩) hR0 hlv
  simp only [List.map_cons, cv] at k0 ⊢
  rcases Nat.eq_zero_or_pos a with h1 | h1
  · subst h1
    refine va_slen hx hb rX rb rn rS hdec ?_
    rw [hof]
    exact k0
  · have he := wl_at (E := E) (ad := ad) h1 haN
    have ht := hh.2.2.2.2.2.2.2 a h1 haN
    unfold okt at ht
    rcases (show (sh h a).1 = 0 ∨ (sh h a).1 = 1 ∨ (sh h a).1 = 2 ∨ (sh h a).1 = 3 ∨ (sh h a).1 = 4 by omega) with h0 | h0 | h0 | h0 | h0
    · rw [ob_i h0] at he
      exact va_alen hx hb rK rP (a - 1) 0 he rfl hof hdec k0
    · rw [ob_b h0] at he
      exact va_alen hx hb rK rP (a - 1) 1 he rfl hof hdec k0
    · rw [ob_l h0] at he
      exact va_alen hx hb rK rP (a - 1) 2 he rfl hof hdec k0
    · rw [ob_q h0] at he
      exact va_alen hx hb rK rP (a - 1) 3 he rfl hof hdec k0
    · rw [ob_p h0] at he
      exact va_alen hx hb rK rP (a - 1) 4 he rfl hof hdec k0

theorem st_iastore : StepOK (.iastore) := by
  intro p l e R s m args below meth c Q E A H0 i n0 u0 k pc r z ls st h k2 ls2 st2 h2 pc2 q2 ad H locs cl C hi hd ha hk2 hh hl hs hR hlv hn0 hu0 hcells hslots KK
  obtain ⟨hx, hb, hml, hown, hts, hfr, hlo, hin⟩ := C
  obtain ⟨-, hE2, hck⟩ := eok_all i k hi pc _ r z hd
  obtain ⟨hdec, hnx⟩ := hE2 rfl
  dsimp only [lenOf] at hdec hnx
  dsimp only [axf] at ha
  obtain ⟨v, s0, rfl, ha⟩ := p1I_inv ha
  obtain ⟨a, x, s1, rfl, ha⟩ := pAI_inv ha
  obtain ⟨hg, ha⟩ := gd_inv ha
  obtain ⟨rfl, rfl, rfl, rfl⟩ := jp_inv ha
  obtain rfl := hnx _ _ hk2
  obtain ⟨hv0, hs⟩ := oks_cons.mp hs
  have hx0 : R32 x := (oks_cons.mp hs).1
  have haN : a < nn h := ((oks_cons.mp hs).2 _ List.mem_cons_self) a rfl
  have ha1 : 1 ≤ a := by
    rcases Nat.eq_zero_or_pos a with h0 | h0
    · subst h0
      have := hh.2.1
      omega
    · exact h0
  have hR0 := hR
  obtain ⟨rK, rP, rD, rS, rA, rX, rb, rn⟩ := hR
  have he := wl_at (E := E) (ad := ad) ha1 haN
  rw [ob_i hg.1] at he
  have hxi : ((x.toNat : Nat) : Int) = x := Int.toNat_of_nonneg hg.2.1
  simp only [List.map_cons, cv]
  refine va_iast hx hb rK rP rD rS (a - 1) 0 he rfl (i32_in hx0 hg.2.1 (by have := hg.2.2; omega)) hdec (fun H1 locs1 p1 p2 p3 => ?_)
  refine KK ad H1 locs1 cl (fun _ _ => rfl) (okh_si hh hv0) hl (oks_cons.mp (oks_cons.mp hs).2).2 (Rl_set hR0 rfl (u2_row (by omega)) (wl_set ha1 haN rfl ?_ (fun b _ _ hne => ob_congr (h' := si h a x v) (h := h) rfl (u2_row hne) (rfl) (rfl) (rfl))) p1 p2 p3) hlv
  rw [ob_i (h := si h a x v) hg.1]
  refine congrArg (fun f => (Sum.inl (_, _, .inl f) : va_E)) ?_
  funext j
  show Int32.ofInt (u2 _ a x _ a _) = upd _ _ _ j
  rw [u2_self]
  unfold upd
  rw [i32_clamp hx0]
  by_cases hj : j = x.toNat
  · rw [if_pos (by rw [hj]; exact hxi), if_pos hj]
  · rw [if_neg (by omega), if_neg hj]
    rfl

theorem st_bastore : StepOK (.bastore) := by
  intro p l e R s m args below meth c Q E A H0 i n0 u0 k pc r z ls st h k2 ls2 st2 h2 pc2 q2 ad H locs cl C hi hd ha hk2 hh hl hs hR hlv hn0 hu0 hcells hslots KK
  obtain ⟨hx, hb, hml, hown, hts, hfr, hlo, hin⟩ := C
  obtain ⟨-, hE2, hck⟩ := eok_all i k hi pc _ r z hd
  obtain ⟨hdec, hnx⟩ := hE2 rfl
  dsimp only [lenOf] at hdec hnx
  dsimp only [axf] at ha
  obtain ⟨v, s0, rfl, ha⟩ := p1I_inv ha
  obtain ⟨a, x, s1, rfl, ha⟩ := pAI_inv ha
  obtain ⟨hg, ha⟩ := gd_inv ha
  obtain ⟨rfl, rfl, rfl, rfl⟩ := jp_inv ha
  obtain rfl := hnx _ _ hk2
  obtain ⟨hv0, hs⟩ := oks_cons.mp hs
  have hx0 : R32 x := (oks_cons.mp hs).1
  have haN : a < nn h := ((oks_cons.mp hs).2 _ List.mem_cons_self) a rfl
  have ha1 : 1 ≤ a := by
    rcases Nat.eq_zero_or_pos a with h0 | h0
    · subst h0
      have := hh.2.1
      omega
    · exact h0
  have hR0 := hR
  obtain ⟨rK, rP, rD, rS, rA, rX, rb, rn⟩ := hR
  have he := wl_at (E := E) (ad := ad) ha1 haN
  rw [ob_b hg.1] at he
  have hxi : ((x.toNat : Nat) : Int) = x := Int.toNat_of_nonneg hg.2.1
  simp only [List.map_cons, cv]
  refine va_bast hx hb rK rP rD rS (a - 1) 1 he rfl (i32_in hx0 hg.2.1 (by have := hg.2.2; omega)) hdec (fun H1 locs1 p1 p2 p3 => ?_)
  refine KK ad H1 locs1 cl (fun _ _ => rfl) (okh_si hh (i32_rng _)) hl (oks_cons.mp (oks_cons.mp hs).2).2 (Rl_set hR0 rfl (u2_row (by omega)) (wl_set ha1 haN rfl ?_ (fun b _ _ hne => ob_congr (h' := si h a x (Int32.ofInt v).toInt8.toInt32.toInt) (h := h) rfl (u2_row hne) (rfl) (rfl) (rfl))) p1 p2 p3) hlv
  rw [ob_b (h := si h a x (Int32.ofInt v).toInt8.toInt32.toInt) hg.1]
  refine congrArg (fun f => (Sum.inl (_, _, .inl f) : va_E)) ?_
  funext j
  show Int32.ofInt (u2 _ a x _ a _) = upd _ _ _ j
  rw [u2_self]
  unfold upd
  rw [i32_clamp hx0]
  by_cases hj : j = x.toNat
  · rw [if_pos (by rw [hj]; exact hxi), if_pos hj]
    rw [Int32.ofInt_toInt, vp_nar_byte]
  · rw [if_neg (by omega), if_neg hj]
    rfl

theorem st_lastore : StepOK (.lastore) := by
  intro p l e R s m args below meth c Q E A H0 i n0 u0 k pc r z ls st h k2 ls2 st2 h2 pc2 q2 ad H locs cl C hi hd ha hk2 hh hl hs hR hlv hn0 hu0 hcells hslots KK
  obtain ⟨hx, hb, hml, hown, hts, hfr, hlo, hin⟩ := C
  obtain ⟨-, hE2, hck⟩ := eok_all i k hi pc _ r z hd
  obtain ⟨hdec, hnx⟩ := hE2 rfl
  dsimp only [lenOf] at hdec hnx
  dsimp only [axf] at ha
  obtain ⟨v, s0, rfl, ha⟩ := p1L_inv ha
  obtain ⟨a, x, s1, rfl, ha⟩ := pAI_inv ha
  obtain ⟨hg, ha⟩ := gd_inv ha
  obtain ⟨rfl, rfl, rfl, rfl⟩ := jp_inv ha
  obtain rfl := hnx _ _ hk2
  obtain ⟨hv0, hs⟩ := oks_cons.mp hs
  have hx0 : R32 x := (oks_cons.mp hs).1
  have haN : a < nn h := ((oks_cons.mp hs).2 _ List.mem_cons_self) a rfl
  have ha1 : 1 ≤ a := by
    rcases Nat.eq_zero_or_pos a with h0 | h0
    · subst h0
      have := hh.2.1
      omega
    · exact h0
  have hR0 := hR
  obtain ⟨rK, rP, rD, rS, rA, rX, rb, rn⟩ := hR
  have he := wl_at (E := E) (ad := ad) ha1 haN
  rw [ob_l hg.1] at he
  have hxi : ((x.toNat : Nat) : Int) = x := Int.toNat_of_nonneg hg.2.1
  simp only [List.map_cons, cv]
  refine va_last hx hb rK rP rD rS (a - 1) 2 he rfl (i32_in hx0 hg.2.1 (by have := hg.2.2; omega)) hdec (fun H1 locs1 p1 p2 p3 => ?_)
  refine KK ad H1 locs1 cl (fun _ _ => rfl) (okh_sl hh hv0) hl (oks_cons.mp (oks_cons.mp hs).2).2 (Rl_set hR0 rfl (rfl) (wl_set ha1 haN rfl ?_ (fun b _ _ hne => ob_congr (h' := sl h a x v) (h := h) rfl (rfl) (u2_row hne) (rfl) (rfl))) p1 p2 p3) hlv
  rw [ob_l (h := sl h a x v) hg.1]
  refine congrArg (fun f => (Sum.inl (_, _, .inr (.inl f)) : va_E)) ?_
  funext j
  show Int64.ofInt (u2 _ a x _ a _) = vp_updL _ _ _ j
  rw [u2_self]
  unfold vp_updL
  rw [i32_clamp hx0]
  by_cases hj : j = x.toNat
  · rw [if_pos (by rw [hj]; exact hxi), if_pos hj]
  · rw [if_neg (by omega), if_neg hj]
    rfl

theorem st_aastore : StepOK (.aastore) := by
  intro p l e R s m args below meth c Q E A H0 i n0 u0 k pc r z ls st h k2 ls2 st2 h2 pc2 q2 ad H locs cl C hi hd ha hk2 hh hl hs hR hlv hn0 hu0 hcells hslots KK
  obtain ⟨hx, hb, hml, hown, hts, hfr, hlo, hin⟩ := C
  obtain ⟨-, hE2, hck⟩ := eok_all i k hi pc _ r z hd
  obtain ⟨hdec, hnx⟩ := hE2 rfl
  dsimp only [lenOf] at hdec hnx
  dsimp only [axf] at ha
  obtain ⟨v, s0, rfl, ha⟩ := p1R_inv ha
  obtain ⟨a, x, s1, rfl, ha⟩ := pAI_inv ha
  obtain ⟨hg, ha⟩ := gd_inv ha
  obtain ⟨rfl, rfl, rfl, rfl⟩ := jp_inv ha
  obtain rfl := hnx _ _ hk2
  obtain ⟨hv0, hs⟩ := oks_cons.mp hs
  have hvN : v < nn h := hv0 v rfl
  have hx0 : R32 x := (oks_cons.mp hs).1
  have haN : a < nn h := ((oks_cons.mp hs).2 _ List.mem_cons_self) a rfl
  have ha1 : 1 ≤ a := by
    rcases Nat.eq_zero_or_pos a with h0 | h0
    · subst h0
      have := hh.2.1
      omega
    · exact h0
  have hv1 : 1 ≤ v := by
    rcases Nat.eq_zero_or_pos v with h0 | h0
    · subst h0
      have := hh.2.1
      omega
    · exact h0
  have hR0 := hR
  obtain ⟨rK, rP, rD, rS, rA, rX, rb, rn⟩ := hR
  have he := wl_at (E := E) (ad := ad) ha1 haN
  have hev := wl_at (E := E) (ad := ad) hv1 hvN
  have hxi : ((x.toNat : Nat) : Int) = x := Int.toNat_of_nonneg hg.2.1
  have hf : (fun j : Nat => (gr (sr h a x (some v)) a j).map ad) = va_up (fun j : Nat => (gr h a j).map ad) (Int32.ofInt x).toNatClampNeg (some (ad v)) := by
    funext j
    show Option.map ad (u2 _ a x _ a _) = va_up _ _ _ j
    rw [u2_self]
    unfold va_up
    rw [i32_clamp hx0]
    by_cases hj : j = x.toNat
    · rw [if_pos (by rw [hj]; exact hxi), if_pos hj]
      rfl
    · rw [if_neg (by omega), if_neg hj]
      rfl
  have hset : ∀ e, ob E ad (sr h a x (some v)) a = e → (wl E ad h).set (a - 1) (ad a, e) = wl E ad (sr h a x (some v)) := fun e he => wl_set ha1 haN rfl he (fun b _ _ hne => ob_congr rfl rfl rfl rfl (u2_row hne))
  simp only [List.map_cons, cv]
  rcases hg.1 with ⟨h0, h1⟩ | ⟨h0, h1⟩
  · rw [ob_q h0] at he
    rw [ob_c (c := 2) (by rw [h1])] at hev
    refine va_astq hx hb rK rP rD rS (a - 1) 3 (v - 1) 2 he (r := (RX2, TX2, 2)) rfl hev rfl (i32_in hx0 hg.2.1 (by have := hg.2.2; omega)) hdec (fun H1 locs1 p1 p2 p3 => ?_)
    exact KK ad H1 locs1 cl (fun _ _ => rfl) (okh_sr hh (fun b e => by cases e; exact hvN)) hl (oks_cons.mp (oks_cons.mp hs).2).2 (Rl_set hR0 rfl rfl (hset _ (by rw [ob_q (h := sr h a x (some v)) h0, hf]; rfl)) p1 p2 p3) hlv
  · rw [ob_p h0] at he
    rw [ob_c (c := 3) (by rw [h1])] at hev
    refine va_astq hx hb rK rP rD rS (a - 1) 4 (v - 1) 3 he (r := (RX3, TX3, 6)) rfl hev rfl (i32_in hx0 hg.2.1 (by have := hg.2.2; omega)) hdec (fun H1 locs1 p1 p2 p3 => ?_)
    exact KK ad H1 locs1 cl (fun _ _ => rfl) (okh_sr hh (fun b e => by cases e; exact hvN)) hl (oks_cons.mp (oks_cons.mp hs).2).2 (Rl_set hR0 rfl rfl (hset _ (by rw [ob_p (h := sr h a x (some v)) h0, hf]; rfl)) p1 p2 p3) hlv
