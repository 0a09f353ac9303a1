/-! relations and bonds in the class -/
theorem WebOk.tp {h : AH} {D : DD} (w : WF D) (o : WebOk h D) : TP h (D 99 1) (D 99 7) (dla D) (dea D) := by
  have wc := w.c
  obtain ⟨a1, a2, a3, _⟩ := o
  exact ⟨⟨wc.1, wc.2.1⟩, ⟨wc.2.2.1, wc.2.2.2.1⟩, fun r hr => ⟨(a1 r hr).1, (a1 r hr).2, w.la r hr, w.ea r hr⟩, a2, a3⟩
theorem c_ringed {h : AH} {Q : Option AV → AH → Prop} {n : Nat} {Ds : Nat → DD} {Z : DD} {c p a b : Int} {A : Int → Int} (hF : Fix h) (ci : CInv h n Ds Z c) (w : WF (Ds n)) (wz : WZ Z c) (hc : c ≤ 1000) (hp : p = 1) (hn : n < 300) (ha : In (Ds n 99 1) a) (hb : In (Ds n 99 1) b) (hr : a = b ∨ Rch (Ds n 99 7) (dla (Ds n)) (dea (Ds n)) a b) (an : AnsA (Ds n) A (-4) (-4))
    (rg : ∀ Z', RgZ (Ds n) A Z' → RingR (Ds n 99 1) (Ds n 99 7) (dla (Ds n)) (dea (Ds n)) a b (Z' 99 31) (Z' 122)) (cq : CQ h n Ds Z c A p Q) : Ok 143 0 [some (vR (some 1)), some (vI a), some (vI b)] [] h (Qx Q) := by
  obtain ⟨rk, hk, hk2⟩ := w.rk
  refine f_X11_ringed_0 hF _ _ (c_webI hF ci w (fun h1 F1 f1 c1 w1 => ⟨rfl, F1, c_walk F1 (Or.inr rfl) hk hk2 (w1.tp w) hb ha hr (fun h2 f F2 t2 fa f0 e1 pa => ⟨rfl, F2, ?_⟩)⟩))
  -- the ring that the class has
  have myr : RingR (Ds n 99 1) (Ds n 99 7) (dla (Ds n)) (dea (Ds n)) a b (gi h2 94 1) (gi h2 95) := by
    by_cases e : a = b
    · left
      refine ⟨e, ?_⟩
      rw [e1, e]; exact fa.1
    · right
      exact ⟨e, f, fa, e1, by rw [e1]; exact f0, by rw [e1]; exact pa⟩
  have fb : f a < 100 := by
    have := Far_rk hk w.ea fa a ha
    have := hk2 a ha
    omega
  obtain ⟨Z1, hZ1⟩ : ∃ Z1 : DD, Z1 = fun o k => if o = 122 then gi h2 95 k else if o = 99 ∧ k = 31 then gi h2 94 1 else Z o k := ⟨_, rfl⟩
  have z122 : Z1 122 = gi h2 95 := by rw [hZ1]; funext k; exact if_pos rfl
  have z31 : Z1 99 31 = gi h2 94 1 := by rw [hZ1]; show (if (99 : Nat) = 122 then _ else if 99 = 99 ∧ (31 : Int) = 31 then _ else _) = _; rw [if_neg (by decide), if_pos ⟨rfl, rfl⟩]
  have zo : ∀ o k, o ≠ 122 → ¬ (o = 99 ∧ k = 31) → Z1 o k = Z o k := fun o k h1 h2' => by rw [hZ1]; show (if o = 122 then _ else if o = 99 ∧ k = 31 then _ else _) = _; rw [if_neg h1, if_neg h2']
  have zr : ∀ o, o ≠ 122 → o ≠ 99 → Z1 o = Z o := fun o h1 h2' => funext fun k => zo o k h1 (fun q => h2' q.1)
  have kt : ∀ o, o ≠ 94 → o ≠ 95 → o ≠ 96 → o ≠ 97 → gi h2 o = gi h1 o := fun o a b c d => (t2.1 o a b c d).1
  have c2 : CInv h2 n Ds Z1 c := by
    refine c1.z (fun o _ _ _ _ _ _ o1 o2 o3 o4 => t2.1 o o1 o2 o3 o4) t2.2.2.2.1 t2.2.2.2.2.1 ?_
    obtain ⟨z1, z2, z3, z4, z5, z6, z7, z8, z9⟩ := c1.cz
    unfold CZ
    rw [kt 98 (by decide) (by decide) (by decide) (by decide), kt 1 (by decide) (by decide) (by decide) (by decide), kt 69 (by decide) (by decide) (by decide) (by decide), kt 70 (by decide) (by decide) (by decide) (by decide), kt 86 (by decide) (by decide) (by decide) (by decide), kt 7 (by decide) (by decide) (by decide) (by decide), kt 90 (by decide) (by decide) (by decide) (by decide), z122, z31, zr 120 (by decide) (by decide), zr 121 (by decide) (by decide), zr 134 (by decide) (by decide), zo 99 27 (by decide) (by decide), zo 99 28 (by decide) (by decide), zo 99 29 (by decide) (by decide), zo 99 48 (by decide) (by decide)]
    exact ⟨z1, z2, z3, z4, z5, rfl, fun _ _ => rfl, z8, z9⟩
  have wz1 : WZ Z1 c := by
    obtain ⟨v1, v2, v3, v4⟩ := wz
    refine ⟨fun k k1 k2 => by rw [zr 120 (by decide) (by decide)]; exact v1 k k1 k2, by rw [zo 99 29 (by decide) (by decide)]; exact v2, by rw [z31, e1]; omega, by rw [zo 99 48 (by decide) (by decide)]; exact v4⟩
  have rf2 : Rf h h2 := f1.rf.trans (fun o p q => ⟨kt o (by omega) (by omega) (by omega) (by omega), by rw [t2.2.2.1]⟩)
  refine c_refused F2 c2 wz1 hc (by decide) (fun h3 F3 r3 k3 => ⟨_, rfl, F3, _, rfl, F3, cq h3 (-4) F3 (rf2.trans r3) (Or.inl ⟨-4, Or.inr (Or.inr ⟨hp, hn, an, fun d => by have := d.2.2; omega⟩), fun Z' z => ?_⟩)⟩)
  obtain ⟨r1, r2, r3', r4, r5, r6, r7, r8, r9, r10, r11⟩ := z
  -- Z'' : as Z', but with the ring of the class
  have ring' := rg Z' (r8 rfl)
  obtain ⟨u1, u2⟩ := RingR_uniq hk w.ea w.la ha myr ring'
  have c3 := k3 (fun o k => if o = 122 then gi h2 95 k else Z' o k) ⟨fun k k1 k2 => ?_, ?_, ?_, ?_, ?_, ?_, ?_, ?_⟩ ?_
  · refine CInv.mono (c := c) ?_ (by omega)
    refine c3.z (fun _ _ _ _ _ _ _ _ _ _ _ => Kp.refl) rfl rfl ?_
    obtain ⟨z1, z2, z3, z4, z5, z6, z7, z8, z9⟩ := c3.cz
    refine ⟨z1, z2, z3, z4, z5, z6, fun i hi => ?_, z8, z9⟩
    have z7' := z7 i hi
    rw [z7']
    show (if (122 : Nat) = 122 then gi h2 95 i else _) = _
    rw [if_pos rfl]
    exact u2 i hi.1 (by rw [u1]; exact hi.2)
  · show (if (120 : Nat) = 122 then _ else Z' 120 k) = _
    rw [if_neg (by decide), r1 k k1 k2, zr 120 (by decide) (by decide)]
  · show (if (99 : Nat) = 122 then _ else Z' 99 28) = _
    rw [if_neg (by decide), r4, zo 99 28 (by decide) (by decide)]
  · show (if (99 : Nat) = 122 then _ else Z' 99 29) = _
    rw [if_neg (by decide), r5, zo 99 29 (by decide) (by decide)]
  · funext k
    show (if (121 : Nat) = 122 then _ else Z' 121 k) = _
    rw [if_neg (by decide), r6, zr 121 (by decide) (by decide)]
  · show (if (99 : Nat) = 122 then _ else Z' 99 31) = _
    rw [if_neg (by decide), z31, u1]
  · funext k
    show (if (122 : Nat) = 122 then _ else Z' 122 k) = _
    rw [if_pos rfl, z122]
  · show (if (99 : Nat) = 122 then _ else Z' 99 48) = _
    rw [if_neg (by decide), r10 (fun q => q.1), zo 99 48 (by decide) (by decide)]
  · funext k
    show (if (134 : Nat) = 122 then _ else Z' 134 k) = _
    rw [if_neg (by decide), r11, zr 134 (by decide) (by decide)]
  · show (if (99 : Nat) = 122 then _ else Z' 99 27) = _
    rw [if_neg (by decide)]; exact r2 (by decide)
theorem RC_rel {S D : DD} {T : FD} {k a b : Int} (r : RC S T D) : RC (up (up (up (up S 40 (D 99 7) k) 42 (D 99 7) a) 44 (D 99 7) b) 46 0 (D 99 7 + 1)) T (sRel D k a b) := by
  obtain ⟨r1, ⟨t1, t2⟩, r3, r4, r5⟩ := r
  have eS : ∀ o, o ≠ 40 → o ≠ 42 → o ≠ 44 → o ≠ 46 → up (up (up (up S 40 (D 99 7) k) 42 (D 99 7) a) 44 (D 99 7) b) 46 0 (D 99 7 + 1) o = S o := fun o h1 h2 h3 h4 => by rw [up_r h4, up_r h3, up_r h2, up_r h1]
  have eD : ∀ o, o ≠ 105 → o ≠ 106 → o ≠ 107 → o ≠ 99 → sRel D k a b o = D o := fun o h1 h2 h3 h4 => by unfold sRel; rw [up_r h4, up_r h3, up_r h2, up_r h1]
  have e9 : ∀ i, i ≠ 7 → sRel D k a b 99 i = D 99 i := fun i hi => by unfold sRel; rw [up_k hi, up_o (by decide), up_o (by decide), up_o (by decide)]
  refine ⟨RCu_c r1 (fun o _ => eS o (by omega) (by omega) (by omega) (by omega)) (e9 1 (by decide)) (fun o _ _ => eD o (by omega) (by omega) (by omega) (by omega)), ⟨by unfold sRel; rw [up_e, up_e], fun j hj => ?_⟩, RCt_c r3 (fun o _ => eS o (by omega) (by omega) (by omega) (by omega)) (e9 11 (by decide)) (fun o _ _ => eD o (by omega) (by omega) (by omega) (by omega)), RCs_c r4 (fun o _ => eS o (by omega) (by omega) (by omega) (by omega)) (e9 11 (by decide)) (fun o _ => eD o (by omega) (by omega) (by omega) (by omega)), RCj_c r5 (fun o _ => eS o (by omega) (by omega) (by omega) (by omega)) (e9 22 (by decide)) (fun o _ => eD o (by omega) (by omega) (by omega) (by omega))⟩
  have e7 : sRel D k a b 99 7 = D 99 7 + 1 := by unfold sRel; rw [up_e]
  rw [e7] at hj
  have a1 : up (up (up (up S 40 (D 99 7) k) 42 (D 99 7) a) 44 (D 99 7) b) 46 0 (D 99 7 + 1) 40 = uq (S 40) (D 99 7) k := by rw [up_r (by decide), up_r (by decide), up_r (by decide), up_f]
  have a2 : up (up (up (up S 40 (D 99 7) k) 42 (D 99 7) a) 44 (D 99 7) b) 46 0 (D 99 7 + 1) 42 = uq (S 42) (D 99 7) a := by rw [up_r (by decide), up_r (by decide), up_f, up_r (by decide)]
  have a3 : up (up (up (up S 40 (D 99 7) k) 42 (D 99 7) a) 44 (D 99 7) b) 46 0 (D 99 7 + 1) 44 = uq (S 44) (D 99 7) b := by rw [up_r (by decide), up_f, up_r (by decide), up_r (by decide)]
  have d1 : sRel D k a b 105 = uq (D 105) (D 99 7) k := by unfold sRel; rw [up_r (by decide), up_r (by decide), up_r (by decide), up_f]
  have d2 : sRel D k a b 106 = uq (D 106) (D 99 7) a := by unfold sRel; rw [up_r (by decide), up_r (by decide), up_f, up_r (by decide)]
  have d3 : sRel D k a b 107 = uq (D 107) (D 99 7) b := by unfold sRel; rw [up_r (by decide), up_f, up_r (by decide), up_r (by decide)]
  rw [a1, a2, a3, d1, d2, d3]
  unfold uq
  by_cases e : j = D 99 7
  · rw [if_pos e, if_pos e, if_pos e, if_pos e, if_pos e, if_pos e]; exact ⟨rfl, rfl, rfl⟩
  · rw [if_neg e, if_neg e, if_neg e, if_neg e, if_neg e, if_neg e]; exact t2 j ⟨hj.1, by have := hj.2; omega⟩
theorem ansV {D : DD} {k a b x : Int} (hk : 0 ≤ k ∧ k ≤ 2) (h : aRelate D k a b x) : AnsA D (aF (k + 1) a b 0 0 0 0) x x := by
  unfold AnsA
  simp only [aF0, aF1, aF2]
  refine ⟨fun q => by omega, fun _ _ => by rw [show k + 1 - 1 = k by omega]; exact h, fun q => by omega, fun q => by omega, fun q => by omega, fun q => by omega, fun q => by omega, fun q => by omega, fun q => by omega, fun q => by omega, fun q => by omega, fun q => by omega, fun q => by omega, fun q => by omega, fun q => by omega, fun _ => trivial⟩
theorem c_relate {h : AH} {Q : Option AV → AH → Prop} {n : Nat} {Ds : Nat → DD} {Z : DD} {c p k a b : Int} (hF : Fix h) (ci : CInv h n Ds Z c) (w : WF (Ds n)) (wz : WZ Z c) (hc : c ≤ 1000) (hk : 0 ≤ k ∧ k ≤ 2) (hp : rp ((0 ≤ a ∧ a < Ds n 99 1) ∧ 0 ≤ b ∧ b < Ds n 99 1) p)
    (cq : CQ h n Ds Z c (aF (k + 1) a b 0 0 0 0) p Q) : Ok 142 0 [some (vR (some 1)), some (vI k), some (vI a), some (vI b), none, none] [] h Q := by
  obtain ⟨hp1, hp0, hp01⟩ := rp_of hp
  obtain ⟨G, S, T, m, rc⟩ := ci.mid
  obtain ⟨ed1, ed2, e21, n300⟩ := ci.ed
  have tr := m.tr (Or.inl (by decide)) rc
  have wc := w.c
  refine f_X11_relate_0 hF _ _ _ ?_
  rw [tr.n, (ci.wc w).1]
  refine ⟨fun q => c_bad hF ci wz hc (hp0.mpr (by omega)) cq, fun q => ⟨fun q2 => c_bad hF ci wz hc (hp0.mpr (by omega)) cq, fun q2 => ⟨fun q3 => c_bad hF ci wz hc (hp0.mpr (by omega)) cq, fun q3 => ⟨fun q4 => c_bad hF ci wz hc (hp0.mpr (by omega)) cq, fun q4 => ⟨fun q5 => ⟨fun q6 => ?_, fun q6 => ?_⟩, fun q5 => c_full hF ci wz hc (hp1.mpr (by omega)) q5 cq⟩⟩⟩⟩⟩
  · have hv : p = 1 := hp1.mpr (by omega)
    have ha : In (Ds n 99 1) a := ⟨by omega, by omega⟩
    have hb : In (Ds n 99 1) b := ⟨by omega, by omega⟩
    have e10a : gi h 10 a = Ds n 100 a := by rw [tr.1 10 100 a (by decide) ⟨by omega, by omega⟩]; exact (rc.1.2 a ha).1
    have e10b : gi h 10 b = Ds n 100 b := by rw [tr.1 10 100 b (by decide) ⟨by omega, by omega⟩]; exact (rc.1.2 b hb).1
    -- what suit answers
    have suit : Ok 98 0 [some (vR (some 7)), some (vI k), some (vI a), some (vI b)] [] h (fun v h' => ∃ x, v = some (vI x) ∧ h' = h ∧ (x = 1 ∧ fits (Ds n) k a b ∨ x = 0 ∧ ¬ fits (Ds n) k a b)) := by
      refine f_X8_suit_0 hF _ _ _ ?_
      rw [e10a, e10b]
      unfold fits
      refine ⟨fun e => ⟨⟨by omega, by omega⟩, fun z => ⟨1, rfl, rfl, Or.inl ⟨rfl, by omega⟩⟩, fun z => ⟨fun z2 => ⟨0, rfl, rfl, Or.inr ⟨rfl, by omega⟩⟩, fun z2 => ⟨1, rfl, rfl, Or.inl ⟨rfl, by omega⟩⟩⟩⟩, fun e => ⟨⟨by omega, by omega⟩, fun z => ⟨0, rfl, rfl, Or.inr ⟨rfl, by omega⟩⟩, fun z => ⟨⟨by omega, by omega⟩, fun z2 => ⟨1, rfl, rfl, Or.inl ⟨rfl, by omega⟩⟩, fun z2 => ⟨fun z3 => ⟨0, rfl, rfl, Or.inr ⟨rfl, by omega⟩⟩, fun z3 => ⟨1, rfl, rfl, Or.inl ⟨rfl, by omega⟩⟩⟩⟩⟩, fun e => ⟨1, rfl, rfl, Or.inl ⟨rfl, by omega⟩⟩⟩
    refine Ok.mono suit ?_
    rintro v h' ⟨x, rfl, rfl, hx⟩
    refine ⟨x, rfl, hF, fun q7 => ?_, fun q7 => ?_⟩
    · have hfit : fits (Ds n) k a b := by
        rcases hx with z | z
        · exact z.2
        · exact absurd z.1 q7
      refine c_blockI hF ci w ha (fun h1 F1 f1 c1 => ⟨_, rfl, F1, c_blockI F1 c1 w hb (fun h2 F2 f2 c2 => ⟨_, rfl, F2, fun q8 => ?_, fun q8 => c_leadsI F2 c2 w (w.blk hb) (w.blk ha) (fun h3 x3 F3 f3 c3 _ hx3 => ⟨_, rfl, F3, fun q9 => ?_, fun q9 => ?_⟩)⟩)⟩)
      · have rf := (f1.trans f2).rf
        refine c_ringed F2 c2 w wz hc hv (by omega) (w.blk hb) (w.blk ha) (Or.inl q8.symm) (ansV hk (Or.inr (Or.inr (Or.inl ⟨by omega, hfit, Or.inl q8, rfl⟩)))) (fun Z' rz => ?_) (cq.sub rf)
        exact rz.1 (by rw [aF0]; omega)
      · have nr : ¬ (Ds n 102 a = Ds n 102 b ∨ Rch (Ds n 99 7) (dla (Ds n)) (dea (Ds n)) (Ds n 102 b) (Ds n 102 a)) := fun z => by
          rcases z with z | z
          · exact q8 z
          · rcases hx3 with y | y
            · omega
            · exact y.2 z
        obtain ⟨G3, S3, T3, m3, rc3⟩ := c3.mid
        have e46 := (c3.wc w).1
        refine f_X9_add_0 F3 _ _ _ ?_
        rw [e46]
        refine c_putM F3 m3 (by omega) (N := 200) (by decide) (by decide) ⟨by omega, by omega⟩ (fun h4 F4 m4 _ => ⟨rfl, F4, c_putM F4 m4 (by omega) (N := 200) (by decide) (by decide) ⟨by omega, by omega⟩ (fun h5 F5 m5 _ => ⟨rfl, F5, c_putM F5 m5 (by omega) (N := 200) (by decide) (by decide) ⟨by omega, by omega⟩ (fun h6 F6 m6 _ => ⟨rfl, F6, ⟨by omega, by omega⟩, c_putM F6 m6 (by omega) (N := 1) (by decide) (by decide) in10 (fun h7 F7 m7 _ => ⟨rfl, F7, ?_, ?_⟩)⟩)⟩)⟩)
        · have e3 := c3.ed.1
          obtain ⟨Ss, E, L, w, cc, _, _, _, _, _, _, _, _, _, _, m11, _⟩ := m7
          omega
        · refine ⟨_, rfl, F7, ?_⟩
          have es : StepA (Ds n) (aF (k + 1) a b 0 0 0 0) = sRel (Ds n) k a b := by
            unfold StepA
            rw [if_neg (show ¬ aF (k + 1) a b 0 0 0 0 0 = 0 by rw [aF0]; omega), if_pos (show aF (k + 1) a b 0 0 0 0 0 ≤ 3 by rw [aF0]; omega)]
            show sRel (Ds n) (k + 1 - 1) a b = _
            rw [show k + 1 - 1 = k by omega]
          refine c_did (A := aF (k + 1) a b 0 0 0 0) F7 m7.ed c3 hc (by omega) (by omega) (Or.inl rfl) (by rw [es]; exact RC_rel rc3) (Or.inl ⟨rfl, by rw [aF0]; omega⟩) hv (ansV hk (Or.inr (Or.inr (Or.inr ⟨by omega, hfit, nr, rfl⟩)))) (dnP (by rw [aF0]; omega) (by omega)) (by rw [aF0]; omega) (cq.sub ((f1.trans f2).trans f3).rf)
      · have rf := ((f1.trans f2).trans f3).rf
        have rch : Rch (Ds n 99 7) (dla (Ds n)) (dea (Ds n)) (Ds n 102 b) (Ds n 102 a) := by
          rcases hx3 with y | y
          · exact y.2
          · exact absurd y.1 q9
        refine c_ringed F3 c3 w wz hc hv (by omega) (w.blk hb) (w.blk ha) (Or.inr rch) (ansV hk (Or.inr (Or.inr (Or.inl ⟨by omega, hfit, Or.inr rch, rfl⟩)))) (fun Z' rz => ?_) (cq.sub rf)
        exact rz.1 (by rw [aF0]; omega)
    · have nf : ¬ fits (Ds n) k a b := by
        rcases hx with z | z
        · exact absurd (by omega) q7
        · exact z.2
      exact c_neg hF ci wz hc hv q5 (by omega) (by omega) (ansV hk (Or.inr (Or.inl ⟨by omega, nf, rfl⟩))) cq
  · exact c_neg hF ci wz hc (hp1.mpr (by omega)) q5 (by omega) (by omega) (ansV hk (Or.inl ⟨by omega, rfl⟩)) cq
theorem RC_bond {S D : DD} {T : FD} {a b : Int} (w : WF D) (r : RC S T D) (ha : In (D 99 1) a) (hb : In (D 99 1) b) (hne : D 102 a ≠ D 102 b) : RC (up S 18 (if D 102 a < D 102 b then D 102 b else D 102 a) (if D 102 b < D 102 a then D 102 b else D 102 a)) T (sBond D a b) := by
  obtain ⟨⟨u1, u2⟩, r2, r3, r4, r5⟩ := r
  have ba := w.blk ha
  have bb := w.blk hb
  have na : D 102 (D 102 a) = D 102 a := (w.2.1 a ha).2.2.1.2.2
  have nb : D 102 (D 102 b) = D 102 b := (w.2.1 b hb).2.2.1.2.2
  obtain ⟨x, hx⟩ : ∃ x, x = D 102 a := ⟨_, rfl⟩
  obtain ⟨y, hy⟩ : ∃ y, y = D 102 b := ⟨_, rfl⟩
  have eo : ∀ o, o ≠ 102 → sBond D a b o = D o := fun o ho => funext fun j => by unfold sBond; rw [if_neg (fun q => ho q.1)]
  have e2 : ∀ j, In (D 99 1) j → sBond D a b 102 j = if D 102 j = x ∨ D 102 j = y then (if x < y then x else y) else D 102 j := fun j hj => by
    unfold sBond
    rw [← hx, ← hy]
    by_cases q : D 102 j = x ∨ D 102 j = y
    · rw [if_pos ⟨rfl, ⟨hj.1, hj.2⟩, q⟩, if_pos q]
    · rw [if_neg (fun z => q z.2.2), if_neg q]
  rw [← hx] at ba na hne
  rw [← hy] at bb nb hne
  rw [← hx, ← hy]
  obtain ⟨M, hM⟩ : ∃ M, M = if x < y then y else x := ⟨_, rfl⟩
  obtain ⟨m, hm⟩ : ∃ m, m = if y < x then y else x := ⟨_, rfl⟩
  have hl : (if x < y then x else y) = m := by rw [hm]; split <;> split <;> omega
  have mM : m < M ∧ (m = x ∧ M = y ∨ m = y ∧ M = x) := by rw [hm, hM]; split <;> split <;> omega
  rw [← hM, ← hm]
  rw [hl] at e2
  have mIn : In (D 99 1) m ∧ D 102 m = m := by
    rcases mM.2 with z | z
    · rw [z.1]; exact ⟨ba, na⟩
    · rw [z.1]; exact ⟨bb, nb⟩
  have MIn : In (D 99 1) M ∧ D 102 M = M := by
    rcases mM.2 with z | z
    · rw [z.2]; exact ⟨bb, nb⟩
    · rw [z.2]; exact ⟨ba, na⟩
  have xy : ∀ v, (v = x ∨ v = y) ↔ (v = m ∨ v = M) := fun v => by have := mM.2; omega
  have e2' : ∀ j, In (D 99 1) j → sBond D a b 102 j = if D 102 j = m ∨ D 102 j = M then m else D 102 j := fun j hj => by
    rw [e2 j hj]
    by_cases q : D 102 j = x ∨ D 102 j = y
    · rw [if_pos q, if_pos ((xy _).mp q)]
    · rw [if_neg q, if_neg (fun z => q ((xy _).mpr z))]
  have eS : ∀ o, o ≠ 18 → up S 18 M m o = S o := fun o h1 => up_r h1
  have e99 : sBond D a b 99 = D 99 := eo 99 (by decide)
  have m0 := mIn.1.1
  refine ⟨⟨by rw [eS 20 (by decide), e99]; exact u1, fun u hu => ?_⟩, RCr_c r2 (fun o _ _ => eS o (by omega)) (by rw [e99]) (fun o _ _ => eo o (by omega)), RCt_c r3 (fun o _ => eS o (by omega)) (by rw [e99]) (fun o _ _ => eo o (by omega)), RCs_c r4 (fun o _ => eS o (by omega)) (by rw [e99]) (fun o _ => eo o (by omega)), RCj_c r5 (fun o _ => eS o (by omega)) (by rw [e99]) (fun o _ => eo o (by omega))⟩
  rw [e99] at hu
  obtain ⟨a1, a2, a3, a4, a5, a6, a7, a8⟩ := u2 u hu
  rw [eS 10 (by decide), eS 12 (by decide), eS 14 (by decide), eS 16 (by decide), eo 100 (by decide), eo 101 (by decide), eo 103 (by decide), eo 104 (by decide)]
  refine ⟨a1, a2, a3, a4, ?_⟩
  by_cases e : u = M
  · rw [e, up_e, e2' M MIn.1, e2' m mIn.1, if_pos (Or.inr MIn.2), if_pos (Or.inl mIn.2)]
    exact ⟨m0, by omega, fun q => by omega, fun _ => rfl⟩
  · rw [up_k e]
    have su : In (D 99 1) (S 18 u) := ⟨a5, by have := hu.2; omega⟩
    refine ⟨a5, a6, fun q => ?_, fun q => ?_⟩
    · have du := a7 q
      rw [e2' u hu, du]
      by_cases z : u = m
      · rw [if_pos (Or.inl z), z]
      · rw [if_neg (by omega)]
    · have du := a8 q
      rw [e2' u hu, e2' _ su, du]
theorem ansBd {D : DD} {a b x : Int} (h : aBond D a b x) : AnsA D (aF 4 a b 0 0 0 0) x x := by unfold AnsA; simp [aF0]; exact h
theorem c_bond {h : AH} {Q : Option AV → AH → Prop} {n : Nat} {Ds : Nat → DD} {Z : DD} {c p a b : Int} (hF : Fix h) (ci : CInv h n Ds Z c) (w : WF (Ds n)) (wz : WZ Z c) (hc : c ≤ 1000) (hp : rp ((0 ≤ a ∧ a < Ds n 99 1) ∧ 0 ≤ b ∧ b < Ds n 99 1) p)
    (cq : CQ h n Ds Z c (aF 4 a b 0 0 0 0) p Q) : Ok 144 0 [some (vR (some 1)), some (vI a), some (vI b), none, none] [] h Q := by
  obtain ⟨hp1, hp0, hp01⟩ := rp_of hp
  obtain ⟨ed1, ed2, e21, n300⟩ := ci.ed
  have wc := w.c
  refine f_X11_bond_0 hF _ _ ?_
  rw [(ci.uc w).1]
  refine ⟨fun q => c_bad hF ci wz hc (hp0.mpr (by omega)) cq, fun q => ⟨fun q2 => c_bad hF ci wz hc (hp0.mpr (by omega)) cq, fun q2 => ⟨fun q3 => c_bad hF ci wz hc (hp0.mpr (by omega)) cq, fun q3 => ⟨fun q4 => c_bad hF ci wz hc (hp0.mpr (by omega)) cq, fun q4 => ⟨fun q5 => ?_, fun q5 => c_full hF ci wz hc (hp1.mpr (by omega)) q5 cq⟩⟩⟩⟩⟩
  have hv : p = 1 := hp1.mpr (by omega)
  have ha : In (Ds n 99 1) a := ⟨by omega, by omega⟩
  have hb : In (Ds n 99 1) b := ⟨by omega, by omega⟩
  have ba := w.blk ha
  have bb := w.blk hb
  refine c_blockI hF ci w ha (fun h1 F1 f1 c1 => ⟨_, rfl, F1, c_blockI F1 c1 w hb (fun h2 F2 f2 c2 => ⟨_, rfl, F2, fun q8 => c_leadsI F2 c2 w ba bb (fun h3 x3 F3 f3 c3 _ hx3 => ⟨_, rfl, F3, fun q9 => c_leadsI F3 c3 w bb ba (fun h4 x4 F4 f4 c4 _ hx4 => ⟨_, rfl, F4, fun q10 => ?_, fun q10 => ?_⟩), fun q9 => ?_⟩), fun q8 => ?_⟩)⟩)
  · have n1 : ¬ Rch (Ds n 99 7) (dla (Ds n)) (dea (Ds n)) (Ds n 102 a) (Ds n 102 b) := by
      rcases hx3 with z | z
      · omega
      · exact z.2
    have n2 : ¬ Rch (Ds n 99 7) (dla (Ds n)) (dea (Ds n)) (Ds n 102 b) (Ds n 102 a) := by
      rcases hx4 with z | z
      · omega
      · exact z.2
    obtain ⟨G4, S4, T4, m4, rc4⟩ := c4.mid
    have ba0 := ba.1
    have ba1 := ba.2
    have bb0 := bb.1
    have bb1 := bb.2
    refine f_X8_tie_0 F4 _ _ (c_putM F4 m4 (by omega) (N := 100) (by decide) (by decide) ⟨by split <;> omega, by split <;> omega⟩ (fun h7 F7 m7 _ => ⟨rfl, F7, ?_, ?_⟩))
    · have e3 := c4.ed.1
      obtain ⟨Ss, E, L, w, cc, _, _, _, _, _, _, _, _, _, _, m11, _⟩ := m7
      omega
    · refine ⟨rfl, F7, c_did (A := aF 4 a b 0 0 0 0) F7 m7.ed c4 hc (by omega) (by omega) (Or.inl rfl) (RC_bond w rc4 ha hb q8) (Or.inl ⟨rfl, by rw [aF0]; decide⟩) hv (ansBd (Or.inr (Or.inr (Or.inr ⟨q8, n1, n2, rfl⟩)))) ⟨fun _ => rfl, fun q => by rw [aF0] at q; omega, by decide⟩ (by rw [aF0]; decide) (cq.sub (((f1.trans f2).trans f3).trans f4).rf)⟩
  · have n1 : ¬ Rch (Ds n 99 7) (dla (Ds n)) (dea (Ds n)) (Ds n 102 a) (Ds n 102 b) := by
      rcases hx3 with z | z
      · omega
      · exact z.2
    have y2 : Rch (Ds n 99 7) (dla (Ds n)) (dea (Ds n)) (Ds n 102 b) (Ds n 102 a) := by
      rcases hx4 with z | z
      · exact z.2
      · exact absurd z.1 q10
    exact c_ringed F4 c4 w wz hc hv (by omega) bb ba (Or.inr y2) (ansBd (Or.inr (Or.inr (Or.inl ⟨q8, n1, y2, rfl⟩)))) (fun Z' rz => (rz.2 rfl).2 n1) (cq.sub (((f1.trans f2).trans f3).trans f4).rf)
  · have y1 : Rch (Ds n 99 7) (dla (Ds n)) (dea (Ds n)) (Ds n 102 a) (Ds n 102 b) := by
      rcases hx3 with z | z
      · exact z.2
      · exact absurd z.1 q9
    exact c_ringed F3 c3 w wz hc hv (by omega) ba bb (Or.inr y1) (ansBd (Or.inr (Or.inl ⟨q8, y1, rfl⟩))) (fun Z' rz => (rz.2 rfl).1 y1) (cq.sub ((f1.trans f2).trans f3).rf)
  · have e := Decidable.not_not.mp q8
    refine cq _ 0 F2 ((f1.trans f2).rf.trans (Rf.refl.si (by omega))) (Or.inl ⟨0, Or.inr (Or.inr ⟨hv, by omega, ansBd (Or.inl ⟨e, rfl⟩), fun d => by have := d.1 (Or.inl rfl); omega⟩), fun Z' z => ?_⟩)
    refine CInv.mono (c := c) ?_ (by omega)
    refine c2.z (fun o o1 _ _ _ _ _ _ _ _ _ => Kp.refl.si o1) rfl rfl ?_
    obtain ⟨r1, r2, r3, r4, r5, r6, r7, r8, r9, r10, r11⟩ := z
    obtain ⟨z1, z2, z3, z4, z5, z6, z7, z8, z9⟩ := c2.cz
    have r : ∀ o, o ≠ 1 → gi (si h2 1 11 0) o = gi h2 o := fun o o1 => gi_si_r o1
    unfold CZ
    rw [r 98 (by decide), r 69 (by decide), r 70 (by decide), r 94 (by decide), r 95 (by decide), r 86 (by decide), r 7 (by decide), r 90 (by decide), gi_si_e, gi_si_k (by decide), r4, r5, r6, (r7 (by decide)).1, (r7 (by decide)).2, r10 (fun q => q.1), r11]
    refine ⟨fun k k1 k2 => by rw [r1 k k1 k2, if_neg (by omega), z1 k k1 k2]; omega, ?_, z3, z4, z5, z6, z7, z8, z9⟩
    rw [r3 (by decide), if_neg (by rw [aF0]; decide)]
