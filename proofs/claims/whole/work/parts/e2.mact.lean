/-! the reference's act, with nothing asked -/
theorem m_actW {h : AH} {Q : Option AV → AH → Prop} {n : Nat} {Ds : Nat → DD} {Z : DD} {A : Int → Int} {p c : Int} (hF : Fix h) (m : MInv h n Ds Z) (hz : WZ Z c) (hc : c ≤ 1000) (hp : p = 0 ∨ p = 1 ∧ ValA (Ds n) A)
    (contN : ∀ h' x y, Fix h' → Fr aL aK h h' → ActN (Ds n) n A p x y → gi h' 99 49 = gi h 99 49 → (∀ Z', Zrel (Ds n) A x y False Z Z' → MInv h' n Ds Z') → Q (some (vI x)) h')
    (contD : ∀ h' x y, Fix h' → Fr aL aK h h' → p = 1 → n < 300 → AnsA (Ds n) A x y → DnA A x → gi h' 99 49 = (if A 0 ≤ 4 then 0 else gi h 99 49) → (∀ Z', Zrel (Ds n) A x y True Z Z' → MInv h' (n + 1) (ext Ds n (StepA (Ds n) A)) Z') → Q (some (vI x)) h')
    (h49 : gi h 99 49 = 0 ∨ gi h 99 49 = 1) : Ok 241 0 [some (vR (some 99)), some (vI p), some (vI (A 0)), some (vI (A 1)), some (vI (A 2)), some (vI (A 3)), some (vI (A 4)), some (vI (A 5)), some (vL (A 6)), none, none] [] h Q := by
  rcases hp with hp | hp
  · obtain ⟨m1, m2, m3, m4, m5, m6, m7⟩ := m
    obtain ⟨z1, z2, z3, z4, z5, z6, z7, z8, z9, z10⟩ := m7
    have bad : ∀ x : Int, (x = -1 ∨ x = -3) → ActN (Ds n) n A p x x → Ok 241 29 [some (vR (some 99)), some (vI p), some (vI (A 0)), some (vI (A 1)), some (vI (A 2)), some (vI (A 3)), some (vI (A 4)), some (vI (A 5)), some (vL (A 6)), none, some (vI x)] [] (si (si (si h 99 0 0) 99 37 0) 99 38 0) Q := fun x hx ha => by
      have f1 : Fr aL aK h (si (si (si h 99 0 0) 99 37 0) 99 38 0) := ((Fr.refl.si (Or.inr (by decide))).si (Or.inr (by decide))).si (Or.inr (by decide))
      have hF1 := hF.fr f1
      refine m_act_29 hF1 (fun v hv _ => ?_)
      have ev : v = x := hv (by omega)
      subst ev
      have f2 := f1.si (o := 99) (k := 27) (v := v) (Or.inr (by decide))
      have hF2 := hF.fr f2
      refine m_act_42 (h0 := h) hF2 (by rw [gi_si_k (by decide), gi_si_k (by decide), gi_si_e]) ?_
      have g : Fr [] [(99, 0), (99, 37), (99, 38), (99, 27)] h (si (si (si (si h 99 0 0) 99 37 0) 99 38 0) 99 27 v) := (((Fr.refl.si (Or.inr (by decide))).si (Or.inr (by decide))).si (Or.inr (by decide))).si (Or.inr (by decide))
      refine contN _ v v hF2 f2 ha (g.1 99 49 (by decide) (by decide)) (fun Z' zr => ?_)
      obtain ⟨r1, r2, r3, r4, r5, r6, r7, r8, r9, r10, r11⟩ := zr
      refine ⟨m1, by rw [g.1 99 39 (by decide) (by decide)]; exact m2, m3.fr g (by decide) (by decide), m4, m5, m6.fr (fun k => g.1 126 k (by decide) (by simp)) (fun k => g.1 127 k (by decide) (by simp)) (fun k => g.2.1 128 k (by simp) (by simp)), ?_⟩
      have e120 := g.row (o := 120) (by decide) (by decide)
      have e121 := g.row (o := 121) (by decide) (by decide)
      have e122 := g.row (o := 122) (by decide) (by decide)
      have e134 := g.row (o := 134) (by decide) (by decide)
      have rr := r7 (by omega)
      have r10' := r10 (fun q => q.1)
      unfold RZ
      rw [e120, e121, e122, e134, g.1 99 28 (by decide) (by decide), g.1 99 29 (by decide) (by decide), g.1 99 31 (by decide) (by decide), g.1 99 48 (by decide) (by decide), g.1 99 26 (by decide) (by decide), gi_si_e, r2 (by omega), r4, r5, r6, rr.1, rr.2, r10', r11]
      refine ⟨fun k k1 k2 => ?_, rfl, z3, z4, z5, z6, z7, z8, z9, z10⟩
      rw [r1 k k1 k2, if_neg (by omega), z1 k k1 k2]; omega
    exact f_X12_act_0 hF _ _ _ _ _ _ _ _ ⟨fun c1 => absurd hp c1, fun c1 => bad (-1) (Or.inl rfl) (Or.inl ⟨hp, rfl, rfl⟩)⟩
  · have w := m.2.2.2.1 n (Nat.le_refl _)
    exact m_act hF m hz hc (Or.inr hp) (fun x y a d => WF_step w hp.2 a d) contN contD h49
