/-! bounds of years in the class -/
theorem c_roundedDown {h : AH} {Q : Option AV → AH → Prop} {v : UInt32} (hF : Fix h) (hn : dcF v ≠ .nan) (cont : Q (some (vI (dnF v))) h) : Ok 119 0 [some (vF v), none] [] h Q := by
  refine f_X10_roundedDown_0 hF _ ?_
  rw [cvl, cvl, cvg]
  unfold dnF at cont
  refine ⟨fun c => ?_, fun c => ⟨fun c1 => ?_, fun c1 => ⟨fun c2 => ?_, fun c2 => ?_⟩⟩⟩
  · rw [if_neg (fun q => c (sm_cmp q.1 k24n (by decide)))] at cont; exact cont
  · rw [if_neg (fun q => c1 (sm_cmp q.1 k24 (by decide)))] at cont; exact cont
  · rw [if_neg (fun q => c2 q.2)] at cont; exact cont
  · have g1 : FP.fcmp (FP.i2f (Int32.ofInt (FP.f2i v).toInt)) v = some .gt := Classical.byContradiction c2
    have g2 : FP.fcmp v (UInt32.ofNat (3414163456 : Int).toNat) = some .gt := Classical.byContradiction c
    have hs : smF v := Classical.byContradiction (fun q => (big_v hn q).2.1 ⟨g1, g2⟩)
    have hr := sm_f2i hs
    rw [if_pos ⟨hs, g1⟩] at cont
    exact ⟨by omega, cont⟩
theorem c_roundedUp {h : AH} {Q : Option AV → AH → Prop} {v : UInt32} (hF : Fix h) (hn : dcF v ≠ .nan) (cont : Q (some (vI (upF v))) h) : Ok 120 0 [some (vF v), none] [] h Q := by
  refine f_X10_roundedUp_0 hF _ ?_
  rw [cvl, cvg, cvg]
  unfold upF at cont
  refine ⟨fun c => ?_, fun c => ⟨fun c1 => ?_, fun c1 => ⟨fun c2 => ?_, fun c2 => ?_⟩⟩⟩
  · rw [if_neg (fun q => c (sm_cmp q.1 k24n (by decide)))] at cont; exact cont
  · rw [if_neg (fun q => c1 (sm_cmp q.1 k24 (by decide)))] at cont; exact cont
  · rw [if_neg (fun q => c2 q.2)] at cont; exact cont
  · have g1 : FP.fcmp (FP.i2f (Int32.ofInt (FP.f2i v).toInt)) v = some .lt := Classical.byContradiction c2
    have g2 : FP.fcmp v (UInt32.ofNat (1266679808 : Int).toNat) = some .lt := Classical.byContradiction c1
    have hs : smF v := Classical.byContradiction (fun q => (big_v hn q).2.2.2 ⟨g1, g2⟩)
    have hr := sm_f2i hs
    rw [if_pos ⟨hs, g1⟩] at cont
    exact ⟨by omega, cont⟩
/-- the class's bounds are B's -/
def YB (h : AH) (n : Int) (B : DD) : Prop := ∀ u, In n u → gi h 74 u = B 129 u ∧ gi h 75 u = B 130 u ∧ gi h 76 u = B 131 u ∧ gi h 77 u = B 129 (100 + u) ∧ gi h 78 u = B 130 (100 + u) ∧ gi h 79 u = B 131 (100 + u)
def yO : List Nat := [71, 72, 74, 75, 76, 77, 78, 79, 80, 81]
def YF (h h' : AH) : Prop := (∀ o, o ∉ yO → Kp o h h') ∧ nn h' = nn h ∧ us h' = us h ∧ gr h' = gr h ∧ sh h' = sh h ∧ gl h' = gl h
theorem YF.refl {h : AH} : YF h h := ⟨fun _ _ => Kp.refl, rfl, rfl, rfl, rfl, rfl⟩
theorem YF.trans {h1 h2 h3 : AH} (a : YF h1 h2) (b : YF h2 h3) : YF h1 h3 := ⟨fun o ho => (a.1 o ho).trans (b.1 o ho), by rw [b.2.1]; exact a.2.1, by rw [b.2.2.1]; exact a.2.2.1, by rw [b.2.2.2.1]; exact a.2.2.2.1, by rw [b.2.2.2.2.1]; exact a.2.2.2.2.1, by rw [b.2.2.2.2.2]; exact a.2.2.2.2.2⟩
theorem YF.fix {h h' : AH} (g : YF h h') (hF : Fix h) : Fix h' := ⟨fun e he => by rw [g.2.2.2.1]; exact hF.1 e he, fun e he => by rw [g.2.2.2.2.1]; exact hF.2.1 e he, by rw [g.2.1]; exact hF.2.2⟩
theorem YF.si {h h' : AH} {o : Nat} {k v : Int} (g : YF h h') (ho : o ∈ yO) : YF h (si h' o k v) := ⟨fun p hp => (g.1 p hp).si (fun e => hp (e ▸ ho)), g.2⟩
theorem YF.bo {h h1 h2 : AH} {l : List Int} {b : Int} (g : YF h h1) (o : Bo h1 71 l b h2) : YF h h2 := by
  obtain ⟨b1, b2, b3, b4, b5, b5', _⟩ := o
  exact ⟨fun p hp => (g.1 p hp).trans (b1 p (fun e => hp (by rw [e]; decide)) (fun e => hp (by rw [e]; decide))), by rw [b2]; exact g.2.1, by rw [b3]; exact g.2.2.1, by rw [b4]; exact g.2.2.2.1, by rw [b5]; exact g.2.2.2.2.1, by rw [b5']; exact g.2.2.2.2.2⟩
theorem TR.kp {h h' : AH} {G : Nat → Prop} {S : DD} {T : FD} {D : DD} (r : TR h G S T D) (hG : ∀ o, G o → 136 ≤ o) (k : ∀ o, Cr o → Kp o h h') : TR h' G S T D := by
  refine ⟨fun o n i hc hi => ?_, r.2.1, ?_, r.2.2.2⟩
  · rw [(k o (Or.inr (Or.inr (Or.inr (Or.inr (Or.inr (Or.inr (Or.inr (Or.inl ⟨n, hc⟩))))))))).1]; exact r.1 o n i hc hi
  · exact r.2.2.1.kp (fun o ho => k o (by unfold Cr; have := hG o ho; omega)) (k 48 (by unfold Cr; simp)).2.2.2.1
theorem YF.tr {h h' : AH} {G : Nat → Prop} {S : DD} {T : FD} {D : DD} (f : YF h h') (r : TR h G S T D) (hG : ∀ o, G o → 136 ≤ o) : TR h' G S T D := r.kp hG (fun o ho => f.1 o (fun hm => by
  have : ∀ o ∈ yO, 68 < o ∧ o < 93 := by decide
  have := this o hm
  rcases ho with c | c | c | c | c | c | c | ⟨n, c⟩ | c
  all_goals first | omega | (have := c.rng; omega)))
theorem YF.yb {h h' : AH} {n : Int} {B : DD} (y : YB h n B) (k : ∀ o, 74 ≤ o → o ≤ 79 → gi h' o = gi h o) : YB h' n B := fun u hu => by
  rw [k 74 (by decide) (by decide), k 75 (by decide) (by decide), k 76 (by decide) (by decide), k 77 (by decide) (by decide), k 78 (by decide) (by decide), k 79 (by decide) (by decide)]; exact y u hu
theorem c_boundBelow {h : AH} {Q : Option AV → AH → Prop} {n u t s v : Int} {o : Nat} {B : DD} (hF : Fix h) (so : sh h o = (13, 6)) (y : YB h n B) (hn : n ≤ 100) (hu : In n u) (cont : ∀ h', Fix h' → YF h h' → YB h' n (if gi h o 1 = 1 then B else bdS B 0 u v t s) → Q none h') : Ok 121 0 [some (vR (some 73)), some (vI u), some (vI t), some (vI s), some (vR (some o)), some (vI v)] [] h Q := by
  have u0 := hu.1
  have u1 := hu.2
  refine f_X10_boundBelow_0 hF _ _ _ _ _ ⟨by rw [so], fun q => cont h hF YF.refl (by rw [if_pos q]; exact y), fun q => ?_⟩
  rw [if_neg q] at cont
  rw [(y u hu).1]
  refine ⟨⟨u0, by omega⟩, fun q2 => cont h hF YF.refl (by unfold bdS; rw [if_neg (by omega)]; exact y), fun q2 => ?_⟩
  refine cont _ hF (((YF.refl.si (by decide)).si (by decide)).si (by decide)) (fun w hw => ?_)
  unfold bdS
  rw [if_pos (Or.inl ⟨rfl, by omega⟩), show (100 : Int) * 0 + u = u by omega]
  have w0 := hw.1
  have w1 := hw.2
  obtain ⟨a1, a2, a3, a4, a5, a6⟩ := y w hw
  have z : ¬ (100 + w = u) := by omega
  by_cases e : w = u
  · subst e
    simp [gi_si_p, up]
    have z2 : ¬ (100 + w = w) := by omega
    simp [z2]
    exact ⟨a4, a5, a6⟩
  · simp [gi_si_p, up, e, z]
    exact ⟨a1, a2, a3, a4, a5, a6⟩
theorem c_boundAbove {h : AH} {Q : Option AV → AH → Prop} {n u t s v : Int} {o : Nat} {B : DD} (hF : Fix h) (so : sh h o = (13, 6)) (y : YB h n B) (hn : n ≤ 100) (hu : In n u) (cont : ∀ h', Fix h' → YF h h' → YB h' n (if gi h o 1 = 2 then B else bdS B 1 u v t s) → Q none h') : Ok 122 0 [some (vR (some 73)), some (vI u), some (vI t), some (vI s), some (vR (some o)), some (vI v)] [] h Q := by
  have u0 := hu.1
  have u1 := hu.2
  refine f_X10_boundAbove_0 hF _ _ _ _ _ ⟨by rw [so], fun q => cont h hF YF.refl (by rw [if_pos q]; exact y), fun q => ?_⟩
  rw [if_neg q] at cont
  rw [(y u hu).2.2.2.1]
  refine ⟨⟨u0, by omega⟩, fun q2 => cont h hF YF.refl (by unfold bdS; rw [if_neg (by omega)]; exact y), fun q2 => ?_⟩
  refine cont _ hF (((YF.refl.si (by decide)).si (by decide)).si (by decide)) (fun w hw => ?_)
  unfold bdS
  rw [if_pos (Or.inr ⟨rfl, by omega⟩), show (100 : Int) * 1 + u = 100 + u by omega]
  have w0 := hw.1
  have w1 := hw.2
  obtain ⟨a1, a2, a3, a4, a5, a6⟩ := y w hw
  have z : ¬ (w = 100 + u) := by omega
  by_cases e : w = u
  · subst e
    simp [gi_si_p, up]
    have z2 : ¬ (w = 100 + w) := by omega
    simp [z2]
    exact ⟨a1, a2, a3⟩
  · have z2 : ¬ (100 + w = 100 + u) := by omega
    simp [gi_si_p, up, e, z, z2]
    exact ⟨a1, a2, a3, a4, a5, a6⟩
theorem aM_lt {x : Int} : aM x < 2139095040 ↔ iAnd x 2139095040 ≠ 2139095040 := by
  have hN := (uB x).toNat_lt
  rw [aM31, iAnd_u ⟨by decide, by decide⟩]
  show _ ↔ (((uB x).toNat &&& 2139095040 : Nat) : Int) ≠ 2139095040
  rw [and_expo]
  omega
/-- what a find is, by D -/
theorem isSm_iff {T : FD} {m id k : Int} {D : DD} (sl : SlotR T m id D k) (h5 : D 112 k ≠ -5) (h1 : D 112 k ≠ 1) : isSm (T id) ↔ hasB D k := by
  rcases sl with sl | ⟨o1, o2, o3, o4, o5, o6, o7, o8, o9⟩
  · exact absurd sl.1 h5
  · unfold isSm hasB
    rw [o4]
    by_cases k2 : D 112 k = 2
    · obtain ⟨z1, z2, z3⟩ := o7 (Or.inr k2)
      rw [z1, z2, z3, aM_lt, aM_lt, iAnd_aM]
      constructor
      · rintro ⟨_, _, a, b, c⟩
        exact Or.inr ⟨k2, a, b, by omega⟩
      · rintro (q | ⟨_, a, b, c⟩)
        · exact absurd q h1
        · exact ⟨k2, rfl, a, b, by omega⟩
    · exact ⟨fun q => absurd q.1 k2, fun q => by
        rcases q with q | q
        · exact absurd q h1
        · exact absurd q.1 k2⟩
theorem c_bbt_23 {h0 : AH} {Q : Option AV → AH → Prop} {G : Nat → Prop} {S : DD} {T : FD} {D B : DD} {t u mg bo : Int} (hF0 : Fix h0) (r0 : TR h0 G S T D) (hG : ∀ o, G o → 136 ≤ o) (w : WF D) (ht : In (D 99 11) t) (hu : In (D 99 1) u) (hmg : mg = gives 2 (D 100 u) (D 101 u)) (hbo : bo = 1 ∧ D 100 u = 4 ∨ bo = 0 ∧ D 100 u ≠ 4)
    (cont : ∀ h', Fix h' → YF h0 h' → YB h' (D 99 1) (dtS D B t u (D 109 t).toNat) → Q none h') (m : Nat) : ∀ (h : AH) (s : Nat), (D 109 t - s).toNat = m → ((s : Int) ≤ D 109 t ∨ s = 0) → YF h0 h → YB h (D 99 1) (dtS D B t u s) → Ok 117 23 [some (vR (some 73)), some (vI u), some (vI t), some (vI mg), some (vI bo), some (vI (s : Int)), none, none] [] h Q := by
  have wc := w.c
  induction m using Nat.strongRecOn with
  | ind m ih =>
    intro h s hm hs yf yb
    have hF := yf.fix hF0
    have r := yf.tr r0 hG
    obtain ⟨a1, a2, a3⟩ := r.ts w ht
    have t0 := ht.1
    have fin : ((D 109 t).toNat = s) → Q none h := fun e => cont h hF yf (by rw [e]; exact yb)
    refine f_X10_boundByTray_23 hF _ _ _ _ _ ⟨⟨t0, a3⟩, fun q => ?_, fun q => ⟨fun _ => fin (by omega), fun q2 => by omega⟩⟩
    have e52 : gi h 52 t = D 109 t := by omega
    rw [e52]
    refine ⟨fun q2 => fin (by omega), fun q2 => ?_⟩
    have hss : In (D 109 t) (s : Int) := ⟨by omega, by omega⟩
    have nx : ∀ (h' : AH) (y6 : Option Nat), Fix h' → YF h0 h' → YB h' (D 99 1) (bbS D (dtS D B t u s) t s u) → Ok 117 96 [some (vR (some 73)), some (vI u), some (vI t), some (vI mg), some (vI bo), some (vI (s : Int)), some (vR y6), none] [] h' Q := fun h' y6 F' f' y' => by
      refine f_X10_boundByTray_96 F' _ _ _ _ _ _ ⟨⟨by omega, by omega⟩, ?_⟩
      have := ih _ (by omega) h' (s + 1) rfl (by push_cast; omega) f' y'
      rw [show (((s + 1 : Nat)) : Int) = (s : Int) + 1 by push_cast; rfl] at this
      exact this
    have skip : ∀ y6, ¬ hasB D (40 * t + s) → Ok 117 96 [some (vR (some 73)), some (vI u), some (vI t), some (vI mg), some (vI bo), some (vI (s : Int)), some (vR y6), none] [] h Q := fun y6 nb => nx h y6 hF yf (by unfold bbS; rw [if_neg nb]; exact yb)
    refine c_findAt hF r w (fun o fa => ⟨o, rfl, hF, fun e => ?_, fun a e => ?_⟩)
    · subst e
      refine skip none (fun hb => ?_)
      have h5 : D 112 (40 * t + s) = -5 := by
        rcases FA_none fa with f | f | f
        · exact absurd ht f
        · exact absurd (slotF0.mpr hss) f
        · exact f
      rcases hb with z | z
      · omega
      · omega
    · subst e
      obtain ⟨_, _, _, f5, gk, g0, g1⟩ := FO.knd fa
      rcases fa with ⟨fa, _⟩ | ⟨o', fa, _, _, _, _, hid, fo, hl, sl⟩
      · cases fa
      cases fa
      have ga : 136 ≤ a := hG a fo.1
      have na : a ∉ yO := fun hm => by
        have : ∀ o ∈ yO, o < 136 := by decide
        have := this a hm
        omega
      have ws := w.2.2.2.2.2.1 t s ht hss
      rw [gk, g0]
      refine ⟨rfl, fun q3 => ?_, fun q3 => ⟨rfl, ?_⟩⟩
      · have si := isSm_iff sl f5 q3
        obtain ⟨_, _, _, _, _, fs1, fs2⟩ := fo
        refine ⟨fun q4 => skip (some a) (fun hb => by rw [(fs1 (si.mpr hb)).1] at q4; omega), fun q4 => ?_⟩
        have sm : isSm (T (S 58 (40 * t + s))) := Classical.byContradiction (fun z => q4 (fs2 z))
        have hb := si.mp sm
        obtain ⟨_, f4, f5'⟩ := fs1 sm
        have k2 : D 112 (40 * t + s) = 2 := by
          rcases hb with z | z
          · exact absurd z q3
          · exact z.1
        obtain ⟨z1, z2, z3⟩ : T (S 58 (40 * t + s)) (-1) = 2 ∧ T (S 58 (40 * t + s)) 0 = D 114 (40 * t + s) ∧ T (S 58 (40 * t + s)) 1 = D 115 (40 * t + s) := by
          rcases sl with z | z
          · omega
          · exact z.2.2.2.2.2.2.1 (Or.inr k2)
        obtain ⟨b1, b2, b3⟩ : aM (D 114 (40 * t + s)) < 2139095040 ∧ aM (D 115 (40 * t + s)) < 2139095040 ∧ ¬ (D 115 (40 * t + s) < 0 ∧ aM (D 115 (40 * t + s)) ≠ 0) := by
          rcases hb with z | z
          · exact absurd z q3
          · exact z.2
        rw [z2] at f4
        rw [z3] at f5'
        have ew : FP.fadd (uB (D 115 (40 * t + s))) (FP.i2f (Int32.ofInt mg)) = wF D u (40 * t + s) := by rw [hmg]; rfl
        rw [f4, f5', ew]
        have nw : dcF (wF D u (40 * t + s)) ≠ .nan := by
          unfold wF
          rw [dc_add]
          exact round_nn (sum_nn (fin_bits b2) (i2f_nn _))
        have ny := fin_bits b1
        have ns : dcF (FP.fsub (uB (D 114 (40 * t + s))) (wF D u (40 * t + s))) ≠ .nan := by
          rw [dc_sub]
          exact round_nn (sum_nn ny (neg_nn nw))
        have nad : dcF (FP.fadd (uB (D 114 (40 * t + s))) (wF D u (40 * t + s))) ≠ .nan := by
          rw [dc_add]
          exact round_nn (sum_nn ny nw)
        have el : loB D u (40 * t + s) = dnF (FP.fsub (uB (D 114 (40 * t + s))) (wF D u (40 * t + s))) := by unfold loB; rw [if_neg q3]
        have eh : hiB D u (40 * t + s) = upF (FP.fadd (uB (D 114 (40 * t + s))) (wF D u (40 * t + s))) := by unfold hiB; rw [if_neg q3]
        refine ⟨nn_bits nw, nn_bits ns, c_roundedDown hF ns ⟨_, rfl, hF, c_boundBelow hF gk yb wc.2.1 hu (fun h6 F6 y6 yb6 => ⟨rfl, F6, ?_⟩)⟩⟩
        have ka := y6.1 a na
        rw [ka.2.2.2.2, gk, ka.2.2.1, f4]
        refine ⟨rfl, nn_bits nad, c_roundedUp F6 nad ⟨_, rfl, F6, c_boundAbove F6 (by rw [ka.2.2.2.2]; exact gk) yb6 wc.2.1 hu (fun h9 F9 y9 yb9 => ⟨rfl, F9, nx h9 _ F9 ((yf.trans y6).trans y9) ?_⟩)⟩⟩
        rw [congrFun ka.1 1, g1] at yb9
        unfold bbS
        rw [if_pos hb]
        unfold bb1
        have e0 : bb0 D (dtS D B t u s) t s u = if D 113 (40 * t + s) = 1 then dtS D B t u s else bdS (dtS D B t u s) 0 u (dnF (FP.fsub (uB (D 114 (40 * t + s))) (wF D u (40 * t + s)))) t s := by unfold bb0; rw [el]
        rw [e0, eh]
        by_cases c2 : D 113 (40 * t + s) = 2
        · rw [if_pos (Or.inl c2)]
          rw [if_pos c2] at yb9
          exact yb9
        · rw [if_neg (fun z => by
            rcases z with z | z
            · exact c2 z
            · exact z (fun k1 => absurd k1 q3))]
          rw [if_neg c2] at yb9
          exact yb9
      · have k1 : D 112 (40 * t + s) = 1 := Decidable.not_not.mp q3
        have hb : hasB D (40 * t + s) := Or.inl k1
        obtain ⟨z1, z2, z3⟩ : T (S 58 (40 * t + s)) (-1) = 2 ∧ T (S 58 (40 * t + s)) 0 = D 114 (40 * t + s) ∧ T (S 58 (40 * t + s)) 1 = D 115 (40 * t + s) := by
          rcases sl with z | z
          · omega
          · exact z.2.2.2.2.2.2.1 (Or.inl k1)
        have wy := ws.2.2.2.2.1 k1
        have el : loB D u (40 * t + s) = D 114 (40 * t + s) := by unfold loB; rw [if_pos k1]
        have eh : hiB D u (40 * t + s) = D 115 (40 * t + s) + 60 := by unfold hiB; rw [if_pos k1]
        refine c_numberAt hF fo (by rw [z1]; exact ⟨by decide, by decide⟩) ⟨_, rfl, hF, ?_⟩
        rw [z2]
        refine c_boundBelow hF gk yb wc.2.1 hu (fun h6 F6 y6 yb6 => ⟨rfl, F6, fun q4 => nx h6 _ F6 (yf.trans y6) ?_, fun q4 => ⟨?_, ?_⟩⟩)
        · unfold bbS
          rw [if_pos hb]
          unfold bb1
          rw [if_pos (Or.inr (fun z => by have := z k1; omega))]
          unfold bb0
          rw [el]
          rw [g1] at yb6
          exact yb6
        · rw [(y6.1 a na).2.2.2.2, gk]
        · have ka := y6.1 a na
          have fo6 : FO h6 G a (T (S 58 (40 * t + s))) := fo.kp (fun q hq => y6.1 q (fun hm => by
            have : ∀ o ∈ yO, o < 136 := by decide
            have := this q hm
            have := hG q hq
            omega))
          refine c_numberAt F6 fo6 (by rw [z1]; exact ⟨by decide, by decide⟩) ⟨_, rfl, F6, ?_, ?_⟩
          · rw [z3]; omega
          · rw [z3]
            refine c_boundAbove F6 (by rw [ka.2.2.2.2]; exact gk) yb6 wc.2.1 hu (fun h9 F9 y9 yb9 => ⟨rfl, F9, nx h9 _ F9 ((yf.trans y6).trans y9) ?_⟩)
            rw [congrFun ka.1 1, g1] at yb9
            unfold bbS
            rw [if_pos hb]
            unfold bb1
            have e0 : bb0 D (dtS D B t u s) t s u = if D 113 (40 * t + s) = 1 then dtS D B t u s else bdS (dtS D B t u s) 0 u (D 114 (40 * t + s)) t s := by unfold bb0; rw [el]
            rw [e0, eh]
            by_cases c2 : D 113 (40 * t + s) = 2
            · rw [if_pos (Or.inl c2)]
              rw [if_pos c2] at yb9
              exact yb9
            · rw [if_neg (fun z => by
                rcases z with z | z
                · exact c2 z
                · exact z (fun _ => by omega))]
              rw [if_neg c2] at yb9
              exact yb9
