/-! questions that count a finding, or tell -/
theorem WZ.zF {Z : DD} {c x : Int} (wz : WZ Z c) : WZ (zF Z x) (c + 1) := by
  refine ⟨fun k a b => ?_, by rw [zF_o (by decide)]; exact wz.2⟩
  have := wz.1 k a b
  rw [zF_e]
  split <;> omega
theorem ZS.zF {D Z : DD} {x : Int} (z : ZS D Z) : ZS D (zF Z x) := by
  unfold ZS
  rw [zF_o (o := 99) (by decide), zF_o (o := 134) (by decide)]
  exact z
theorem JI.find {h h1 h2 : AH} {n : Nat} {Ds : Nat → DD} {Z : DD} {c x : Int} (j : JI h n Ds Z c) (F1 : Fix h1) (r1 : Rf h h1) (ci : CInv h1 n Ds (zF Z x) c) (f : Fr [120] [(99, 0)] h1 h2) (fd : Fnd h1 h2 x) : JI h2 n Ds (zF Z x) (c + 1) := by
  obtain ⟨hF, _, mi, wz, c49, zs, z48⟩ := j
  exact ⟨F1.fr f, (ci.frR f (by decide) (by decide)).mono (by omega), (mi.rf r1).fd (f.mono (by decide) (by decide)) (f.row (by decide) (by decide)) fd, wz.zF, (c49.rf r1).fr f (by decide) (by decide), zs.zF, by rw [zF_o (by decide)]; exact z48⟩
theorem both_f {h : AH} {n : Nat} {Ds : Nat → DD} {Z : DD} {c x : Int} {tc tm : Nat} {lc lm : aLs} (j : JI h n Ds Z c) (hc : c ≤ 600)
    (cC : ∀ Q, CQf h n Ds Z c x Q → Ok tc 0 lc [] h Q) (cM : ∀ h1 Q, Fix h1 → MInv h1 n Ds Z → Fb h1 → Qf h1 Q x → Ok tm 0 lm [] h1 Q) : Both tc lc tm lm h c :=
  both_of (cC _ (fun h1 F1 r1 ci => ⟨x, rfl, cM h1 _ F1 (j.2.2.1.rf r1) ((j.2.2.1.rf r1).fb j.2.2.2.1 (by omega)) (fun h2 _ f fd => ⟨rfl, n, Ds, zF Z x, j.find F1 r1 ci f fd⟩)⟩))
theorem b_kind {h : AH} {n : Nat} {Ds : Nat → DD} {Z : DD} {c t s : Int} (j : JI h n Ds Z c) (hc : c ≤ 600) : Both 161 [some (vR (some 1)), some (vI t), some (vI s), none, none] 264 [some (vR (some 99)), some (vI t), some (vI s), none] h c :=
  both_f j hc (fun _ k => c_kind j.1 j.2.1 j.w j.2.2.2.1 (by omega) k) (fun _ _ F m b k => m_kind F m.2.2.1 j.w b k _)
theorem b_sherd {h : AH} {n : Nat} {Ds : Nat → DD} {Z : DD} {c t s ty : Int} (j : JI h n Ds Z c) (hc : c ≤ 600) : Both 162 [some (vR (some 1)), some (vI t), some (vI s), some (vI ty)] 265 [some (vR (some 99)), some (vI t), some (vI s), some (vI ty), none] h c :=
  both_f j hc (fun _ k => c_sherd j.1 j.2.1 j.w j.2.2.2.1 (by omega) k) (fun _ _ F m b k => m_sherd F m.2.2.1 j.w b k _)
theorem b_letter {h : AH} {n : Nat} {Ds : Nat → DD} {Z : DD} {c t s i : Int} (j : JI h n Ds Z c) (hc : c ≤ 600) : Both 163 [some (vR (some 1)), some (vI t), some (vI s), some (vI i)] 269 [some (vR (some 99)), some (vI t), some (vI s), some (vI i), none, none] h c :=
  both_f j hc (fun _ k => c_letter j.1 j.2.1 j.w j.2.2.2.1 (by omega) k) (fun _ _ F m b k => m_letter F m.2.2.1 j.w b k _ _)
theorem b_bagged {h : AH} {n : Nat} {Ds : Nat → DD} {Z : DD} {c t s : Int} (j : JI h n Ds Z c) (hc : c ≤ 600) : Both 164 [some (vR (some 1)), some (vI t), some (vI s)] 270 [some (vR (some 99)), some (vI t), some (vI s), none] h c :=
  both_f j hc (fun _ k => c_bagged j.1 j.2.1 j.w j.2.2.2.1 (by omega) k) (fun _ _ F m b k => m_bagged F m.2.2.1 j.w b k _)
theorem aShare_ex (D : DD) (u ty : Int) : ∃ x, ∀ y, aShare D u ty y → y = x := by
  refine Classical.byContradiction (fun q => ?_)
  by_cases e : ∃ x, aShare D u ty x
  · obtain ⟨x, a⟩ := e
    refine q ⟨x, fun y b => ?_⟩
    rcases a with ⟨a, e⟩ | ⟨a1, a2, a3⟩
    · rcases b with ⟨b, e'⟩ | ⟨b1, b2, _⟩
      · rw [e, e']
      · rcases a with a | a
        · exact absurd b1 a
        · exact absurd b2 a
    · rcases b with ⟨b, e'⟩ | ⟨b1, b2, b3⟩
      · rcases b with b | b
        · exact absurd a1 b
        · exact absurd a2 b
      · rcases a3 with ⟨p, e⟩ | ⟨p, e⟩
        · rcases b3 with ⟨p', e'⟩ | ⟨p', e'⟩
          · rw [e, e']
          · exact absurd p p'
        · rcases b3 with ⟨p', e'⟩ | ⟨p', e'⟩
          · exact absurd p' p
          · rw [e, e']
  · exact q ⟨0, fun y b => absurd ⟨y, b⟩ e⟩
theorem b_share {h : AH} {n : Nat} {Ds : Nat → DD} {Z : DD} {c u ty : Int} (j : JI h n Ds Z c) (hc : c ≤ 600) : Both 175 [some (vR (some 1)), some (vI u), some (vI ty), none] 274 [some (vR (some 99)), some (vI u), some (vI ty), none] h c := by
  obtain ⟨x, hx⟩ := aShare_ex (Ds n) u ty
  exact both_f (x := x) j hc (fun _ k => c_share j.1 j.2.1 j.w j.2.2.2.1 (by omega) (fun y a => by rw [hx y a]; exact k)) (fun _ _ F m b k => m_share F m.2.2.1 j.w b (fun y a => by rw [hx y a]; exact k))
/-- an answer laid by -/
theorem MInv.tell {h h' : AH} {n : Nat} {Ds : Nat → DD} {Z : DD} {v : Int} (m : MInv h n Ds Z) (f : Fr qLs ((99, 28) :: qKs) h h') (e : gi h' 99 28 = v) : MInv h' n Ds (zT Z v) := by
  obtain ⟨m1, m2, m3, m4, m5, m6, m7⟩ := m
  obtain ⟨z1, z2, z3, z4, z5, z6, z7, z8, z9, z10⟩ := m7
  refine ⟨m1, by rw [f.1 99 39 (by decide) (by decide)]; exact m2, m3.fr f (by decide) (by decide), m4, m5, m6.fr (fun k => by rw [f.row (by decide) (by decide)]) (fun k => by rw [f.row (by decide) (by decide)]) (fun k => by rw [f.rowl (by decide) (by decide)]), ?_⟩
  have g : ∀ o, o = 120 ∨ o = 121 ∨ o = 122 ∨ o = 134 → gi h' o = gi h o := by
    rintro o (c | c | c | c) <;> (subst c; exact f.row (by decide) (by decide))
  unfold RZ
  rw [g 120 (by decide), g 121 (by decide), g 122 (by decide), g 134 (by decide), f.1 99 27 (by decide) (by decide), e, f.1 99 29 (by decide) (by decide), f.1 99 31 (by decide) (by decide), f.1 99 48 (by decide) (by decide), f.1 99 26 (by decide) (by decide)]
  exact ⟨z1, z2, rfl, z4, z5, z6, z7, z8, z9, z10⟩
theorem JI.tell {h h1 h2 : AH} {n : Nat} {Ds : Nat → DD} {Z : DD} {c v : Int} (j : JI h n Ds Z c) (F1 : Fix h1) (r1 : Rf h h1) (ci : CInv h1 n Ds (zT Z v) c) (f : Fr qLs ((99, 28) :: qKs) h1 h2) (e : gi h2 99 28 = v) : JI h2 n Ds (zT Z v) (c + 1) := by
  obtain ⟨hF, _, mi, wz, c49, zs, z48⟩ := j
  exact ⟨F1.fr f, (ci.frR f (by decide) (by decide)).mono (by omega), (mi.rf r1).tell f e, ⟨fun k a b => by have := wz.1 k a b; show 0 ≤ Z 120 k ∧ Z 120 k ≤ c + 1; omega, wz.2⟩, (c49.rf r1).fr f (by decide) (by decide), zs, z48⟩
theorem b_tells {h : AH} {n : Nat} {Ds : Nat → DD} {Z : DD} {c t s b kd : Int} {tc tm : Nat} (j : JI h n Ds Z c) (hc : c ≤ 600) (hk : kd = 1 ∨ kd = 2) (hC : ∀ Q : Option AV → AH → Prop, Ok 169 0 [some (vR (some 1)), some (vI t), some (vI s), some (vI kd), some (vI b), none, none] [] h (fun v h1 => ∃ x, v = some (vI x) ∧ Fix h1 ∧ Q (some (vI x)) h1) → Ok tc 0 [some (vR (some 1)), some (vI t), some (vI s), some (vI b)] [] h Q)
    (hM : ∀ (h1 : AH) (Q : Option AV → AH → Prop), Fix h1 → MInv h1 n Ds Z → Fb h1 → (oTell (Ds n) t s kd ≠ 1 → Qf h1 Q (oTell (Ds n) t s kd)) → (oTell (Ds n) t s kd = 1 → Q (some (vI 1)) (si (si h1 99 0 0) 99 28 (if b = 0 then Ds n 114 (40 * t + s) else Ds n 115 (40 * t + s)))) → Ok tm 0 [some (vR (some 99)), some (vI t), some (vI s), some (vI b)] [] h1 Q) :
    Both tc [some (vR (some 1)), some (vI t), some (vI s), some (vI b)] tm [some (vR (some 99)), some (vI t), some (vI s), some (vI b)] h c := by
  refine both_of (hC _ (c_tells j.1 j.2.1 j.w j.2.2.2.1 (by omega) hk (fun ne h1 F1 r1 ci => ⟨_, rfl, F1, _, rfl, ?_⟩) (fun e1 h1 F1 r1 ci => ⟨_, rfl, F1, _, rfl, ?_⟩)))
  · exact hM h1 _ F1 (j.2.2.1.rf r1) ((j.2.2.1.rf r1).fb j.2.2.2.1 (by omega)) (fun _ h2 _ f fd => ⟨rfl, n, Ds, _, j.find F1 r1 ci f fd⟩) (fun e => absurd e ne)
  · exact hM h1 _ F1 (j.2.2.1.rf r1) ((j.2.2.1.rf r1).fb j.2.2.2.1 (by omega)) (fun ne => absurd e1 ne) (fun _ => ⟨rfl, n, Ds, _, j.tell F1 r1 ci ((f0_fr (by decide)).si (Or.inr (by decide))) gi_si_e⟩)
theorem b_year {h : AH} {n : Nat} {Ds : Nat → DD} {Z : DD} {c t s b : Int} (j : JI h n Ds Z c) (hc : c ≤ 600) : Both 167 [some (vR (some 1)), some (vI t), some (vI s), some (vI b)] 267 [some (vR (some 99)), some (vI t), some (vI s), some (vI b)] h c :=
  b_tells (kd := 1) j hc (Or.inl rfl) (fun _ k => f_X11_year_0 j.1 _ _ _ k) (fun h1 Q F m fb k1 k2 => (m_tellC F m.2.2.1 j.w fb k1 k2).1 rfl)
theorem b_grain {h : AH} {n : Nat} {Ds : Nat → DD} {Z : DD} {c t s b : Int} (j : JI h n Ds Z c) (hc : c ≤ 600) : Both 168 [some (vR (some 1)), some (vI t), some (vI s), some (vI b)] 268 [some (vR (some 99)), some (vI t), some (vI s), some (vI b)] h c :=
  b_tells (kd := 2) j hc (Or.inr rfl) (fun _ k => f_X11_grain_0 j.1 _ _ _ k) (fun h1 Q F m fb k1 k2 => (m_tellC F m.2.2.1 j.w fb k1 k2).2 rfl)
theorem b_drawn {h : AH} {n : Nat} {Ds : Nat → DD} {Z : DD} {c u a : Int} (j : JI h n Ds Z c) : Both 177 [some (vR (some 1)), some (vI u), some (vI a), none, none, none] 282 [some (vR (some 99)), some (vI u), some (vI a), none, none, none, none, none, none] h c := by
  refine both_of (c_drawn j.1 j.2.1 j.w (fun nq => ⟨_, rfl, ?_⟩) (fun h1 bg en q F1 r1 ab ae ci => ⟨_, rfl, ?_⟩))
  · exact m_drawn j.1 j.2.2.1.2.2.1 j.w (fun _ => ⟨rfl, n, Ds, Z, j.same j.1 Rf.refl j.2.1 (f0_fr (by decide))⟩) (fun _ _ _ q _ _ _ _ _ => absurd q nq)
  · refine m_drawn F1 (j.2.2.1.rf r1).2.2.1 j.w (fun nq => absurd q nq) (fun h2 bg' en' _ F2 f2 ab' ae' e => ⟨rfl, n, Ds, _, j.tell F1 r1 ci (f2.mono (by decide) (by decide)) ?_⟩)
    rw [e, aBeg_uniq ab ab', aEnd_uniq ae ae']
theorem b_because {h : AH} {n : Nat} {Ds : Nat → DD} {Z : DD} {c i : Int} (j : JI h n Ds Z c) (hi : R32 i) : Both 179 [some (vR (some 1)), some (vI i)] 285 [some (vR (some 99)), some (vI i), none] h c := by
  have hi' : -2147483648 ≤ i ∧ i ≤ 2147483647 := by unfold R32 at hi; omega
  refine both_of (c_because j.1 j.2.1 j.w (fun h1 F1 r1 ci a => ⟨_, rfl, ?_⟩) (fun h1 v F1 r1 ci a => ⟨_, rfl, ?_⟩))
  · exact m_because F1 (j.2.2.1.rf r1).2.2.1 j.w hi' (fun h2 F2 f2 _ => ⟨rfl, n, Ds, Z, j.same F1 r1 ci (f2.mono (by decide) (by decide))⟩) (fun _ _ _ _ _ b => (aBec_no a b).elim)
  · exact m_because F1 (j.2.2.1.rf r1).2.2.1 j.w hi' (fun _ _ _ b => (aBec_no b a).elim) (fun h2 v' F2 f2 e b => ⟨rfl, n, Ds, _, j.tell F1 r1 ci (f2.mono (by decide) (by decide)) (by rw [e, aBec_uniq j.w a b])⟩)
