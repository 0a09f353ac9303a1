def aL : List Nat := dL ++ [126, 127, 128]
def aK : List (Nat × Int) := dK ++ [(99, 0), (99, 27), (99, 39), (99, 48), (99, 49)]
def ext (Ds : Nat → DD) (n : Nat) (D : DD) : Nat → DD := fun j => if j = n + 1 then D else Ds j
theorem ext_le {Ds : Nat → DD} {n : Nat} {D : DD} {j : Nat} (h : j ≤ n) : ext Ds n D j = Ds j := if_neg (by omega)
theorem ext_n {Ds : Nat → DD} {n : Nat} {D : DD} : ext Ds n D (n + 1) = D := if_pos rfl
def ActN (D : DD) (n : Nat) (A : Int → Int) (p x y : Int) : Prop := p = 0 ∧ x = -1 ∧ y = -1 ∨ p = 1 ∧ n = 300 ∧ x = -3 ∧ y = -3 ∨ p = 1 ∧ n < 300 ∧ AnsA D A x y ∧ ¬ DnA A x
/-- the ring in the heap is the ring of Z' -/
theorem Rg_eq {h : AH} {D Z' : DD} {A : Int → Int} (w : WF D) (v : ValA D A) (r : RgA D A h) (z : RgZ D A Z') : gi h 99 31 = Z' 99 31 ∧ ∀ i, In (Z' 99 31) i → gi h 122 i = Z' 122 i := by
  obtain ⟨rk, hk, _⟩ := w.rk
  obtain ⟨ha, r⟩ := r
  obtain ⟨v1, v2⟩ := v.2.2.1 ha.1 ha.2
  have key : ∀ a b, In (D 99 1) a → dRing D h a b → dRingZ D Z' a b → gi h 99 31 = Z' 99 31 ∧ ∀ i, In (Z' 99 31) i → gi h 122 i = Z' 122 i := fun a b h1 h2 h3 => by
    obtain ⟨e1, e2⟩ := RingR_uniq hk w.ea w.la (w.blk h1) h2 h3
    exact ⟨e1, fun i hi => e2 i hi.1 (by rw [e1]; exact hi.2)⟩
  by_cases h3 : A 0 ≤ 3
  · exact key _ _ v2 (r.1 h3) (z.1 h3)
  · have h4 : A 0 = 4 := by omega
    by_cases hr : Rch (D 99 7) (dla D) (dea D) (D 102 (A 1)) (D 102 (A 2))
    · exact key _ _ v1 ((r.2 h4).1 hr) ((z.2 h4).1 hr)
    · exact key _ _ v2 ((r.2 h4).2 hr) ((z.2 h4).2 hr)
/-- a heap whose marks are those of an act not entered -/
theorem m_act_42 {h0 h : AH} {Q : Option AV → AH → Prop} {y1 x a1 a2 a3 a4 a5 a6 a0 : Int} (hF : Fix h) (h37 : gi h 99 37 = 0) (q : Q (some (vI x)) h) : Ok 241 42 [some (vR (some 99)), some (vI y1), some (vI a0), some (vI a1), some (vI a2), some (vI a3), some (vI a4), some (vI a5), some (vL a6), none, some (vI x)] [] h Q :=
  f_X12_act_42 hF _ _ _ _ _ _ _ _ _ ⟨fun _ => q, fun c => absurd h37 c⟩
theorem m_act_29 {h : AH} {Q : Option AV → AH → Prop} {y1 x a1 a2 a3 a4 a5 a6 a0 : Int} (hF : Fix h) (q : ∀ v, (x < 0 → v = x) → (0 ≤ x → v = if a0 = 15 then gi h 99 38 else 0) → Ok 241 42 [some (vR (some 99)), some (vI y1), some (vI a0), some (vI a1), some (vI a2), some (vI a3), some (vI a4), some (vI a5), some (vL a6), none, some (vI x)] [] (si h 99 27 v) Q) :
    Ok 241 29 [some (vR (some 99)), some (vI y1), some (vI a0), some (vI a1), some (vI a2), some (vI a3), some (vI a4), some (vI a5), some (vL a6), none, some (vI x)] [] h Q :=
  f_X12_act_29 hF _ _ _ _ _ _ _ _ _ ⟨fun c => ⟨fun c1 => q 0 (fun c2 => by omega) (fun _ => by rw [if_neg c1]), fun c1 => q _ (fun c2 => by omega) (fun _ => by rw [if_pos (by omega)])⟩, fun c => q x (fun _ => rfl) (fun c2 => absurd c2 c)⟩
/-- the heap when an act has been entered -/
def entH (h : AH) (n a0 a1 a2 a3 a4 a5 a6 b c : Int) : AH := si (si (si (sl (si (si (si (si (si (si h 126 n a0) 127 (5 * n) a1) 127 (5 * n + 1) a2) 127 (5 * n + 2) a3) 127 (5 * n + 3) a4) 127 (5 * n + 4) a5) 128 n a6) 99 39 (n + 1)) 99 48 b) 99 49 c
theorem ent_fr {h : AH} {n a0 a1 a2 a3 a4 a5 a6 b c : Int} : Fr [126, 127, 128] [(99, 39), (99, 48), (99, 49)] h (entH h n a0 a1 a2 a3 a4 a5 a6 b c) := by
  unfold entH
  exact ((((((((((Fr.refl.si (Or.inl (by decide))).si (Or.inl (by decide))).si (Or.inl (by decide))).si (Or.inl (by decide))).si (Or.inl (by decide))).si (Or.inl (by decide))).sl (Or.inl (by decide))).si (Or.inr (by decide))).si (Or.inr (by decide))).si (Or.inr (by decide)))
theorem m_act_45 {h : AH} {Q : Option AV → AH → Prop} {y1 x a0 a1 a2 a3 a4 a5 a6 n : Int} (hF : Fix h) (hn : gi h 99 39 = n) (h0 : 0 ≤ n ∧ n < 300) (h48 : gi h 99 48 = 0 ∨ gi h 99 48 = 1) (h49 : gi h 99 49 = 0 ∨ gi h 99 49 = 1)
    (q : Q (some (vI x)) (entH h n a0 a1 a2 a3 a4 a5 a6 (if a0 ≤ 4 then 0 else gi h 99 48) (if a0 ≤ 4 then 0 else gi h 99 49))) : Ok 241 45 [some (vR (some 99)), some (vI y1), some (vI a0), some (vI a1), some (vI a2), some (vI a3), some (vI a4), some (vI a5), some (vL a6), none, some (vI x)] [] h Q := by
  refine f_X12_act_45 hF _ _ _ _ _ _ _ _ _ ?_
  rw [hn]
  unfold entH at q
  refine ⟨by omega, by omega, by omega, by omega, by omega, by omega, by omega, by omega, by omega, by omega, by omega, by omega, fun c => ⟨fun c1 => ?_, fun c1 => ⟨fun c2 => ?_, fun c2 => ?_⟩⟩, fun c => ⟨fun c1 => ⟨fun c2 => ?_, fun c2 => ?_⟩, fun c1 => ⟨fun c2 => ?_, fun c2 => ?_⟩⟩⟩
  · have e : ∀ z : Int, (if a0 ≤ 4 then 0 else z) = 0 ∨ z ≠ 0 := fun z => by split <;> omega
    rw [(e (gi h 99 48)).resolve_right (by omega), (e (gi h 99 49)).resolve_right (by omega)] at q
    exact q
  · rw [if_pos c2, if_pos c2] at q; exact q
  · rw [if_neg c2, if_neg c2, c] at q
    have e : gi h 99 49 = 1 := by omega
    rw [e] at q; exact q
  · rw [if_pos c1, if_pos c1] at q; exact q
  · rw [if_pos c1, if_pos c1] at q; exact q
  · rw [if_neg c1, if_neg c1, c2] at q
    have e : gi h 99 48 = 1 := by omega
    rw [e] at q; exact q
  · rw [if_neg c1, if_neg c1] at q
    have e : gi h 99 48 = 1 := by omega
    have e2 : gi h 99 49 = 1 := by omega
    rw [e, e2] at q; exact q
theorem LogM.ent {h : AH} {n : Nat} {Ds : Nat → DD} {A : Int → Int} {b c : Int} (l : LogM h n Ds) (v : ValA (Ds n) A) (ax : ∃ x y, AnsA (Ds n) A x y ∧ DnA A x) : LogM (entH h n (A 0) (A 1) (A 2) (A 3) (A 4) (A 5) (A 6) b c) (n + 1) (ext Ds n (StepA (Ds n) A)) := by
  obtain ⟨As, l⟩ := l
  have e126 : ∀ k, gi (entH h n (A 0) (A 1) (A 2) (A 3) (A 4) (A 5) (A 6) b c) 126 k = if k = (n : Int) then A 0 else gi h 126 k := fun k => by
    unfold entH
    rw [gi_si_o (by decide), gi_si_o (by decide), gi_si_o (by decide), gi_sl, gi_si_o (by decide), gi_si_o (by decide), gi_si_o (by decide), gi_si_o (by decide), gi_si_o (by decide)]
    by_cases hk : k = (n : Int)
    · rw [hk, gi_si_e, if_pos rfl]
    · rw [gi_si_k hk, if_neg hk]
  have e128 : ∀ k, gl (entH h n (A 0) (A 1) (A 2) (A 3) (A 4) (A 5) (A 6) b c) 128 k = if k = (n : Int) then A 6 else gl h 128 k := fun k => by
    unfold entH
    rw [gl_si, gl_si, gl_si]
    by_cases hk : k = (n : Int)
    · rw [hk, gl_sl_e, if_pos rfl]
    · rw [gl_sl_k hk, if_neg hk]; rfl
  have e127 : ∀ k, gi (entH h n (A 0) (A 1) (A 2) (A 3) (A 4) (A 5) (A 6) b c) 127 k = gi (si (si (si (si (si h 127 (5 * n) (A 1)) 127 (5 * n + 1) (A 2)) 127 (5 * n + 2) (A 3)) 127 (5 * n + 3) (A 4)) 127 (5 * n + 4) (A 5)) 127 k := fun k => by
    unfold entH
    rw [gi_si_o (by decide), gi_si_o (by decide), gi_si_o (by decide), gi_sl]
    simp only [gi_si_p]
    simp
  refine ⟨fun j => if j = n then A else As j, fun j hj => ?_⟩
  by_cases hjn : j = n
  · subst hjn
    simp only [if_true]
    rw [ext_le (Nat.le_refl _), ext_n, e126, e128, e127, e127, e127, e127, e127]
    refine ⟨v, ax, rfl, if_pos rfl, ?_, ?_, ?_, ?_, ?_, if_pos rfl⟩
    · rw [gi_si_k (by omega), gi_si_k (by omega), gi_si_k (by omega), gi_si_k (by omega), gi_si_e]
    · rw [gi_si_k (by omega), gi_si_k (by omega), gi_si_k (by omega), gi_si_e]
    · rw [gi_si_k (by omega), gi_si_k (by omega), gi_si_e]
    · rw [gi_si_k (by omega), gi_si_e]
    · rw [gi_si_e]
  · simp only [hjn, if_false]
    obtain ⟨a1, a2, a3, a4, a5, a6, a7, a8, a9, a10⟩ := l j (by omega)
    rw [ext_le (by omega), ext_le (by omega), e126, e128, e127, e127, e127, e127, e127]
    have hnn : ∀ i : Int, 0 ≤ i → i ≤ 4 → gi (si (si (si (si (si h 127 (5 * n) (A 1)) 127 (5 * n + 1) (A 2)) 127 (5 * n + 2) (A 3)) 127 (5 * n + 3) (A 4)) 127 (5 * n + 4) (A 5)) 127 (5 * j + i) = gi h 127 (5 * j + i) := fun i i0 i1 => by
      rw [gi_si_k (by omega), gi_si_k (by omega), gi_si_k (by omega), gi_si_k (by omega), gi_si_k (by omega)]
    have h0 := hnn 0 (by omega) (by omega)
    rw [Int.add_zero] at h0
    rw [h0, hnn 1 (by omega) (by omega), hnn 2 (by omega) (by omega), hnn 3 (by omega) (by omega), hnn 4 (by omega) (by omega), if_neg (by omega), if_neg (by omega)]
    exact ⟨a1, a2, a3, a4, a5, a6, a7, a8, a9, a10⟩
theorem m_act {h : AH} {Q : Option AV → AH → Prop} {n : Nat} {Ds : Nat → DD} {Z : DD} {A : Int → Int} {p c : Int} (hF : Fix h) (m : MInv h n Ds Z) (hz : WZ Z c) (hc : c ≤ 1000) (hp : p = 0 ∨ p = 1 ∧ ValA (Ds n) A) (hws : ∀ x y, AnsA (Ds n) A x y → DnA A x → WF (StepA (Ds n) A))
    (contN : ∀ h' x y, Fix h' → Fr aL aK h h' → ActN (Ds n) n A p x y → gi h' 99 49 = gi h 99 49 → (∀ Z', Zrel (Ds n) A x y False Z Z' → MInv h' n Ds Z') → Q (some (vI x)) h')
    (contD : ∀ h' x y, Fix h' → Fr aL aK h h' → p = 1 → n < 300 → AnsA (Ds n) A x y → DnA A x → gi h' 99 49 = (if A 0 ≤ 4 then 0 else gi h 99 49) → (∀ Z', Zrel (Ds n) A x y True Z Z' → MInv h' (n + 1) (ext Ds n (StepA (Ds n) A)) Z') → Q (some (vI x)) h')
    (h49 : gi h 99 49 = 0 ∨ gi h 99 49 = 1) :
    Ok 241 0 [some (vR (some 99)), some (vI p), some (vI (A 0)), some (vI (A 1)), some (vI (A 2)), some (vI (A 3)), some (vI (A 4)), some (vI (A 5)), some (vL (A 6)), none, none] [] h Q := by
  obtain ⟨m1, m2, m3, m4, m5, m6, m7⟩ := m
  obtain ⟨z1, z2, z3, z4, z5, z6, z7, z8, z9, z10⟩ := m7
  have hb : Fb h := fun k k1 k2 => by rw [z1 k k1 k2]; have := hz.1 k k1 k2; omega
  have w := m4 n (Nat.le_refl _)
  -- refused before it begins
  have bad : ∀ x : Int, (x = -1 ∨ x = -3) → ActN (Ds n) n A p x x → Ok 241 29 [some (vR (some 99)), some (vI p), some (vI (A 0)), some (vI (A 1)), some (vI (A 2)), some (vI (A 3)), some (vI (A 4)), some (vI (A 5)), some (vL (A 6)), none, some (vI x)] [] (si (si (si h 99 0 0) 99 37 0) 99 38 0) Q := fun x hx ha => by
    have f1 : Fr aL aK h (si (si (si h 99 0 0) 99 37 0) 99 38 0) := ((Fr.refl.si (Or.inr (by decide))).si (Or.inr (by decide))).si (Or.inr (by decide))
    have hF1 := hF.fr f1
    refine m_act_29 hF1 (fun v hv _ => ?_)
    have ev : v = x := hv (by omega)
    subst ev
    have f2 := f1.si (o := 99) (k := 27) (v := v) (Or.inr (by decide))
    have hF2 := hF.fr f2
    refine m_act_42 (h0 := h) hF2 (by rw [gi_si_k (by decide), gi_si_k (by decide), gi_si_e]) ?_
    have g : Fr [] [(99, 0), (99, 37), (99, 38), (99, 27)] h (si (si (si (si h 99 0 0) 99 37 0) 99 38 0) 99 27 v) := (((Fr.refl.si (Or.inr (by decide))).si (Or.inr (by decide))).si (Or.inr (by decide))).si (Or.inr (by decide))
    refine contN _ v v hF2 f2 ha (g.1 99 49 (by decide) (by decide)) (fun Z' zr => ?_)
    obtain ⟨r1, r2, r3, r4, r5, r6, r7, r8, r9, r10, r11⟩ := zr
    refine ⟨m1, by rw [g.1 99 39 (by decide) (by decide)]; exact m2, m3.fr g (by decide) (by decide), m4, m5, m6.fr (fun k => g.1 126 k (by decide) (by simp)) (fun k => g.1 127 k (by decide) (by simp)) (fun k => g.2.1 128 k (by simp) (by simp)), ?_⟩
    have e120 := g.row (o := 120) (by decide) (by decide)
    have e121 := g.row (o := 121) (by decide) (by decide)
    have e122 := g.row (o := 122) (by decide) (by decide)
    have e134 := g.row (o := 134) (by decide) (by decide)
    have rr := r7 (by omega)
    have r10' := r10 (fun q => q.1)
    unfold RZ
    rw [e120, e121, e122, e134, g.1 99 28 (by decide) (by decide), g.1 99 29 (by decide) (by decide), g.1 99 31 (by decide) (by decide), g.1 99 48 (by decide) (by decide), g.1 99 26 (by decide) (by decide), gi_si_e, r2 (by omega), r4, r5, r6, rr.1, rr.2, r10', r11]
    refine ⟨fun k k1 k2 => ?_, rfl, z3, z4, z5, z6, z7, z8, z9, z10⟩
    rw [r1 k k1 k2, if_neg (by omega), z1 k k1 k2]; omega
  refine f_X12_act_0 hF _ _ _ _ _ _ _ _ ⟨fun c1 => ⟨fun c2 => ?_, fun c2 => ?_⟩, fun c1 => ?_⟩
  · have hp1 : p = 1 ∧ ValA (Ds n) A := by rcases hp with q | q; exact absurd q c1; exact q
    have hn : n < 300 := by omega
    have f1 : Fr [] [(99, 0), (99, 37), (99, 38)] h (si (si (si h 99 0 0) 99 37 0) 99 38 0) := ((Fr.refl.si (Or.inr (by decide))).si (Or.inr (by decide))).si (Or.inr (by decide))
    have hF1 := hF.fr f1
    have r1 := m3.fr f1 (by decide) (by decide)
    have hb1 : Fb (si (si (si h 99 0 0) 99 37 0) 99 38 0) := fun k k1 k2 => by rw [f1.1 120 k (by decide) (by simp)]; exact hb k k1 k2
    refine m_does hF1 r1 w hb1 hp1.2 (fun h1 x y hF2 ax dp rg h38 => ⟨x, rfl, hF2, ?_⟩)
    obtain ⟨p1, p2, p3, p4, p5⟩ := dp
    have e26 : gi h1 99 26 = gi h 99 26 := by rw [p1.1 99 26 (by decide) (by decide), f1.1 99 26 (by decide) (by decide)]
    have e26' : gi (si (si (si h 99 0 0) 99 37 0) 99 38 0) 99 26 = 0 := by rw [f1.1 99 26 (by decide) (by decide)]; exact z10
    have e37 : gi (si (si (si h 99 0 0) 99 37 0) 99 38 0) 99 37 = 0 := by rw [gi_si_k (by decide), gi_si_e]
    have f01 : Fr aL aK h h1 := (f1.mono (by decide) (by decide)).trans (p1.mono (by decide) (by decide))
    refine m_act_29 hF2 (fun v hv1 hv2 => ?_)
    have f02 := f01.si (o := 99) (k := 27) (v := v) (Or.inr (by decide))
    have hF3 := hF.fr f02
    -- what of Z an act leaves, but for the hand
    have zz : ∀ (Z' : DD) (dn : Prop), Zrel (Ds n) A x y dn Z Z' → (∀ k, 1 ≤ k → k ≤ 6 → gi h1 120 k = Z' 120 k) ∧ v = Z' 99 27 ∧ gi h1 99 28 = Z' 99 28 ∧ gi h1 99 29 = Z' 99 29 ∧ (∀ i, In (Z' 99 29) i → gi h1 121 i = Z' 121 i) ∧ gi h1 99 31 = Z' 99 31 ∧ (∀ i, In (Z' 99 31) i → gi h1 122 i = Z' 122 i) ∧ gi h1 99 26 = 0 := fun Z' dn zr => by
      obtain ⟨r1, r2, r3, r4, r5, r6, r7, r8, r9, r10, r11⟩ := zr
      refine ⟨fun k k1 k2 => ?_, ?_, ?_, ?_, fun i hi => ?_, ?_⟩
      · rw [p2 k k1 k2, e26', f1.1 120 k (by decide) (by simp), z1 k k1 k2, r1 k k1 k2]
        by_cases hy : y = -10 - k
        · rw [if_pos ⟨rfl, hy⟩, if_pos hy]
        · rw [if_neg (fun q => hy q.2), if_neg hy]
      · by_cases hx : x < 0
        · rw [hv1 hx, r2 hx]
        · rw [hv2 (by omega), r3 (by omega)]
          by_cases h15 : A 0 = 15
          · rw [if_pos h15, if_pos h15, h38 h15]
          · rw [if_neg h15, if_neg h15]
      · rw [p1.1 99 28 (by decide) (by decide), f1.1 99 28 (by decide) (by decide), r4]; exact z3
      · rw [p1.1 99 29 (by decide) (by decide), f1.1 99 29 (by decide) (by decide), r5]; exact z4
      · rw [p1.1 121 i (by decide) (by simp [dK]), f1.1 121 i (by decide) (by simp), r6]
        exact z5 i (by rw [← r5]; exact hi)
      · rw [e26]
        by_cases hx : x = -4
        · obtain ⟨q1, q2⟩ := Rg_eq w hp1.2 (rg hx) (r8 hx)
          exact ⟨q1, q2, z10⟩
        · obtain ⟨q1, q2⟩ := p5 hx
          obtain ⟨q3, q4⟩ := r7 hx
          rw [q1, q2, f1.1 99 31 (by decide) (by decide), f1.row (o := 122) (by decide) (by decide), q3, q4]
          exact ⟨z6, z7, z10⟩
    have l1 : LogM (si h1 99 27 v) n Ds := m6.fr (fun k => by rw [gi_si_o (by decide), p1.1 126 k (by decide) (by simp [dK]), f1.1 126 k (by decide) (by simp)]) (fun k => by rw [gi_si_o (by decide), p1.1 127 k (by decide) (by simp [dK]), f1.1 127 k (by decide) (by simp)]) (fun k => by
      show gl h1 128 k = _
      rw [p1.2.1 128 k (by decide) (by simp [dK, lgK]), f1.2.1 128 k (by decide) (by simp)])
    have e48 : gi (si h1 99 27 v) 99 48 = gi h 99 48 := by rw [gi_si_k (by decide), p1.1 99 48 (by decide) (by decide), f1.1 99 48 (by decide) (by decide)]
    have e49 : gi (si h1 99 27 v) 99 49 = gi h 99 49 := by rw [gi_si_k (by decide), p1.1 99 49 (by decide) (by decide), f1.1 99 49 (by decide) (by decide)]
    have e39 : gi (si h1 99 27 v) 99 39 = n := by rw [gi_si_k (by decide), p1.1 99 39 (by decide) (by decide), f1.1 99 39 (by decide) (by decide)]; exact m2
    have e134 : gi (si h1 99 27 v) 134 = gi h 134 := by rw [gi_si_r (by decide), p1.row (by decide) (by decide), f1.row (by decide) (by decide)]
    by_cases hd : DnA A x
    · obtain ⟨rm, h37⟩ := p3 hd
      refine f_X12_act_42 hF3 _ _ _ _ _ _ _ _ _ ⟨fun q => ?_, fun _ => m_act_45 hF3 e39 (by omega) (by rw [e48, z8]; exact hz.2.2.2) (by rw [e49]; exact h49) ?_⟩
      · rw [gi_si_k (by decide), h37] at q; omega
      · rw [e48, e49]
        have fe := ent_fr (h := si h1 99 27 v) (n := n) (a0 := A 0) (a1 := A 1) (a2 := A 2) (a3 := A 3) (a4 := A 4) (a5 := A 5) (a6 := A 6) (b := if A 0 ≤ 4 then 0 else gi h 99 48) (c := if A 0 ≤ 4 then 0 else gi h 99 49)
        refine contD _ x y (hF3.fr fe) (f02.trans (fe.mono (by decide) (by decide))) hp1.1 hn ax hd (by unfold entH; rw [gi_si_e]) (fun Z' zr => ?_)
        obtain ⟨q1, q2, q3, q4, q5, q6, q7, q8⟩ := zz Z' True zr
        have g120 := fe.row (o := 120) (by decide) (by decide)
        have g121 := fe.row (o := 121) (by decide) (by decide)
        have g122 := fe.row (o := 122) (by decide) (by decide)
        have g134 := fe.row (o := 134) (by decide) (by decide)
        refine ⟨by omega, ?_, ?_, fun j hj => ?_, by rw [ext_le (Nat.zero_le _)]; exact m5, l1.ent hp1.2 ⟨x, y, ax, hd⟩, ?_⟩
        · unfold entH
          rw [gi_si_k (by decide), gi_si_k (by decide), gi_si_e]
          push_cast; rfl
        · rw [ext_n]
          exact (rm.si (Or.inr (Or.inr (by decide)))).fr fe (by decide) (by decide)
        · by_cases hj2 : j = n + 1
          · rw [hj2, ext_n]; exact hws x y ax hd
          · rw [ext_le (by omega)]; exact m4 j (by omega)
        · unfold RZ
          rw [g120, g121, g122, g134, fe.1 99 27 (by decide) (by decide), fe.1 99 28 (by decide) (by decide), fe.1 99 29 (by decide) (by decide), fe.1 99 31 (by decide) (by decide), fe.1 99 26 (by decide) (by decide), e134, gi_si_e, gi_si_k (by decide), gi_si_k (by decide), gi_si_k (by decide), gi_si_k (by decide), gi_si_r (by decide), gi_si_r (by decide), gi_si_r (by decide)]
          obtain ⟨r1', r2, r3, r4, r5, r6, r7, r8, r9, r10, r11⟩ := zr
          refine ⟨q1, q2, q3, q4, q5, q6, q7, ?_, ?_, q8⟩
          · unfold entH
            rw [gi_si_k (by decide), gi_si_e]
            by_cases h4 : A 0 ≤ 4
            · rw [if_pos h4, r9 ⟨trivial, h4⟩]
            · rw [if_neg h4, r10 (fun q => h4 q.2)]; exact z8
          · intro i hi h48
            rw [r11]
            by_cases h4 : A 0 ≤ 4
            · rw [r9 ⟨trivial, h4⟩] at h48; omega
            · rw [r10 (fun q => h4 q.2)] at h48
              exact z9 i hi h48
    · obtain ⟨rm, h37⟩ := p4 hd
      refine m_act_42 (h0 := h) hF3 (by rw [gi_si_k (by decide)]; rcases h37 with q | q; rw [q]; exact e37; exact q) ?_
      refine contN _ x y hF3 f02 (Or.inr (Or.inr ⟨hp1.1, hn, ax, hd⟩)) e49 (fun Z' zr => ?_)
      obtain ⟨q1, q2, q3, q4, q5, q6, q7, q8⟩ := zz Z' False zr
      obtain ⟨r1', r2, r3, r4, r5, r6, r7, r8, r9, r10, r11⟩ := zr
      refine ⟨m1, e39, rm.si (Or.inr (Or.inr (by decide))), m4, m5, l1, ?_⟩
      unfold RZ
      rw [e134, e48, gi_si_e, gi_si_k (by decide), gi_si_k (by decide), gi_si_k (by decide), gi_si_k (by decide), gi_si_r (by decide), gi_si_r (by decide), gi_si_r (by decide), r10 (fun q => q.1), r11]
      exact ⟨q1, q2, q3, q4, q5, q6, q7, z8, z9, q8⟩
  · have hp1 : p = 1 ∧ ValA (Ds n) A := by rcases hp with q | q; exact absurd q c1; exact q
    exact bad (-3) (Or.inr rfl) (Or.inr (Or.inl ⟨hp1.1, by omega, rfl, rfl⟩))
  · have hp0 : p = 0 := by omega
    exact bad (-1) (Or.inl rfl) (Or.inl ⟨hp0, rfl, rfl⟩)
