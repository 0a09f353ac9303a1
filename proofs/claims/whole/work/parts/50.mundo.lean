/-! undo: all acts but the last done again -/
theorem m_undo_31 {Q : Option AV → AH → Prop} {h0 : AH} {N : Nat} {Ds : Nat → DD} (hN : N < 300) (hw : ∀ j, j ≤ N → WF (Ds j)) (l : LogM h0 N Ds) (hb0 : Fb h0) (h26 : gi h0 99 26 = 1) (h39 : gi h0 99 39 = N) (k : Nat) :
    ∀ (h : AH) (j : Nat), N - j = k → j ≤ N → Fix h → RM h (Ds j) → Fr dL dK h0 h → (∀ i, 1 ≤ i → i ≤ 6 → gi h 120 i = gi h0 120 i) →
    (∀ h', Fix h' → Fr dL dK h0 h' → RM h' (Ds N) → (∀ i, 1 ≤ i → i ≤ 6 → gi h' 120 i = gi h0 120 i) → Q (some (vI N)) (si (si (si (si h' 99 26 0) 99 31 0) 99 48 0) 99 49 0)) →
    Ok 242 31 [some (vR (some 99)), some (vI j), none] [] h Q := by
  obtain ⟨As, hl⟩ := l
  induction k with
  | zero =>
    intro h j hk hj hF r f hfd cont
    have e : j = N := by omega
    subst e
    have e39 : gi h 99 39 = j := by rw [f.1 99 39 (by decide) (by decide)]; exact h39
    refine f_X12_undo_31 hF _ ?_
    rw [e39]
    exact ⟨fun _ => cont h hF f r hfd, fun c => absurd (Int.le_refl _) c⟩
  | succ k ih =>
    intro h j hk hj hF r f hfd cont
    have hjN : j < N := by omega
    have e39 : gi h 99 39 = N := by rw [f.1 99 39 (by decide) (by decide)]; exact h39
    have e26 : gi h 99 26 = 1 := by rw [f.1 99 26 (by decide) (by decide)]; exact h26
    obtain ⟨a1, ⟨x0, y0, a2, a2'⟩, a3, a4, a5, a6, a7, a8, a9, a10⟩ := hl j hjN
    have g126 : ∀ i, gi h 126 i = gi h0 126 i := fun i => f.1 126 i (by decide) (by simp [dK])
    have g127 : ∀ i, gi h 127 i = gi h0 127 i := fun i => f.1 127 i (by decide) (by simp [dK])
    have g128 : ∀ i, gl h 128 i = gl h0 128 i := fun i => f.2.1 128 i (by decide) (by simp [dK, lgK])
    have hb : Fb h := fun i i1 i2 => by rw [hfd i i1 i2]; exact hb0 i i1 i2
    refine f_X12_undo_31 hF _ ?_
    rw [e39, g126, g127, g127, g127, g127, g127, g128, a4, a5, a6, a7, a8, a9, a10]
    refine ⟨fun c => by omega, fun c => ⟨by omega, by omega, by omega, by omega, by omega, by omega, by omega, by omega, by omega, by omega, by omega, ?_⟩⟩
    refine m_does hF r (hw j hj) hb a1 (fun h1 x y hF1 ax dp rg h38 => ⟨x, rfl, hF1, by omega, ?_⟩)
    obtain ⟨ex, ey⟩ := AnsA_fun a1.1 ax a2
    subst ex
    obtain ⟨p1, p2, p3, p4, p5⟩ := dp
    have ej : ((j : Int) + 1) = ((j + 1 : Nat) : Int) := by push_cast; rfl
    rw [ej]
    refine ih h1 (j + 1) (by omega) (by omega) hF1 (by rw [a3]; exact (p3 a2').1) (f.trans p1) (fun i i1 i2 => ?_) cont
    rw [p2 i i1 i2, e26, if_neg (fun q => by omega), hfd i i1 i2]
    omega
/-- what undo makes of Z -/
def ZU (Z Z' : DD) : Prop := (∀ k, 1 ≤ k → k ≤ 6 → Z' 120 k = Z 120 k) ∧ Z' 99 27 = Z 99 27 ∧ Z' 99 28 = Z 99 28 ∧ Z' 99 29 = Z 99 29 ∧ Z' 121 = Z 121 ∧ Z' 99 31 = 0 ∧ Z' 99 48 = 0
theorem D0_rm {h : AH} (h1 : gi h 99 1 = 0 ∧ gi h 99 7 = 0 ∧ gi h 99 11 = 0 ∧ gi h 99 22 = 0) : RM h D0 := by
  intro o k q
  rcases Us_iff.mp q with p | ⟨_, k', i', q1, _⟩
  · clear q
    have e : ∀ c, D0 99 c = 0 := fun _ => rfl
    unfold UsN at p
    rw [e, e, e, e] at p
    rcases p with ⟨rfl, p1⟩ | p | p | p | p | p | p
    · show gi h 99 k = 0
      rcases p1 with rfl | rfl | rfl | rfl
      · exact h1.1
      · exact h1.2.1
      · exact h1.2.2.1
      · exact h1.2.2.2
    all_goals omega
  · have := q1.1
    have := q1.2
    have e : D0 99 11 = 0 := rfl
    rw [e] at this
    omega
theorem m_undo {h : AH} {Q : Option AV → AH → Prop} {n : Nat} {Ds : Nat → DD} {Z : DD} {c : Int} (hF : Fix h) (m : MInv h n Ds Z) (hz : WZ Z c) (hc : c ≤ 1000)
    (cont0 : n = 0 → ∀ h', Fix h' → Fr [] [(99, 0)] h h' → Q (some (vI (-2))) h')
    (cont1 : ∀ N : Nat, n = N + 1 → ∀ h', Fix h' → Fr aL ((99, 26) :: aK) h h' → gi h' 99 49 = 0 → (∀ Z', ZU Z Z' → MInv h' N Ds Z') → Q (some (vI N)) h') : Ok 242 0 [some (vR (some 99)), none, none] [] h Q := by
  obtain ⟨m1, m2, m3, m4, m5, m6, m7⟩ := m
  obtain ⟨z1, z2, z3, z4, z5, z6, z7, z8, z9, z10⟩ := m7
  refine f_X12_undo_0 hF ?_
  rw [m2]
  refine ⟨fun c1 => ⟨by omega, ?_⟩, fun c1 => ?_⟩
  · obtain ⟨N, rfl⟩ : ∃ N, n = N + 1 := ⟨n - 1, by omega⟩
    have eN : (((N + 1 : Nat) : Int) - 1) = (N : Int) := by push_cast; omega
    rw [eN]
    have f1 : Fr [] [(99, 0), (99, 39), (99, 1), (99, 7), (99, 11), (99, 22), (99, 26)] h (si (si (si (si (si (si (si h 99 0 0) 99 39 N) 99 1 0) 99 7 0) 99 11 0) 99 22 0) 99 26 1) := ((((((Fr.refl.si (Or.inr (by decide))).si (Or.inr (by decide))).si (Or.inr (by decide))).si (Or.inr (by decide))).si (Or.inr (by decide))).si (Or.inr (by decide))).si (Or.inr (by decide))
    have hF1 := hF.fr f1
    have l1 : LogM (si (si (si (si (si (si (si h 99 0 0) 99 39 N) 99 1 0) 99 7 0) 99 11 0) 99 22 0) 99 26 1) N Ds := by
      obtain ⟨As, l⟩ := m6.fr (h' := si (si (si (si (si (si (si h 99 0 0) 99 39 N) 99 1 0) 99 7 0) 99 11 0) 99 22 0) 99 26 1) (fun k => f1.1 126 k (by decide) (by simp)) (fun k => f1.1 127 k (by decide) (by simp)) (fun k => f1.2.1 128 k (by decide) (by simp))
      exact ⟨As, fun j hj => l j (by omega)⟩
    have hb1 : Fb (si (si (si (si (si (si (si h 99 0 0) 99 39 N) 99 1 0) 99 7 0) 99 11 0) 99 22 0) 99 26 1) := fun k k1 k2 => by
      rw [f1.1 120 k (by decide) (by simp), z1 k k1 k2]; have := hz.1 k k1 k2; omega
    refine m_undo_31 (by omega) (fun j hj => m4 j (by omega)) l1 hb1 gi_si_e ?_ _ _ 0 rfl (Nat.zero_le _) hF1 ?_ Fr.refl (fun _ _ _ => rfl) (fun h' hF' f2 r2 fd2 => ?_)
    · rw [gi_si_k (by decide), gi_si_k (by decide), gi_si_k (by decide), gi_si_k (by decide), gi_si_k (by decide), gi_si_e]
    · rw [m5]
      refine D0_rm ⟨?_, ?_, ?_, ?_⟩
      · rw [gi_si_k (by decide), gi_si_k (by decide), gi_si_k (by decide), gi_si_k (by decide), gi_si_e]
      · rw [gi_si_k (by decide), gi_si_k (by decide), gi_si_k (by decide), gi_si_e]
      · rw [gi_si_k (by decide), gi_si_k (by decide), gi_si_e]
      · rw [gi_si_k (by decide), gi_si_e]
    · have f3 : Fr [] [(99, 26), (99, 31), (99, 48), (99, 49)] h' (si (si (si (si h' 99 26 0) 99 31 0) 99 48 0) 99 49 0) := (((Fr.refl.si (Or.inr (by decide))).si (Or.inr (by decide))).si (Or.inr (by decide))).si (Or.inr (by decide))
      have f13 : Fr aL ((99, 26) :: aK) h (si (si (si (si h' 99 26 0) 99 31 0) 99 48 0) 99 49 0) := ((f1.mono (by decide) (by decide)).trans (f2.mono (by decide) (by decide))).trans (f3.mono (by decide) (by decide))
      refine cont1 N rfl _ (hF'.fr f3) f13 gi_si_e (fun Z' zu => ?_)
      obtain ⟨u1, u2, u3, u4, u5, u6, u7⟩ := zu
      refine ⟨by omega, ?_, r2.fr f3 (by decide) (by decide), fun j hj => m4 j (by omega), m5, l1.fr (fun k => ?_) (fun k => ?_) (fun k => ?_), ?_⟩
      · rw [f3.1 99 39 (by decide) (by decide), f2.1 99 39 (by decide) (by decide), gi_si_k (by decide), gi_si_k (by decide), gi_si_k (by decide), gi_si_k (by decide), gi_si_k (by decide), gi_si_e]
      · rw [f3.1 126 k (by decide) (by simp), f2.1 126 k (by decide) (by simp [dK])]
      · rw [f3.1 127 k (by decide) (by simp), f2.1 127 k (by decide) (by simp [dK])]
      · rw [f3.2.1 128 k (by decide) (by simp), f2.2.1 128 k (by decide) (by simp [dK, lgK])]
      · refine ⟨fun k k1 k2 => ?_, ?_, ?_, ?_, fun i hi => ?_, ?_, fun i hi => ?_, ?_, fun i hi q => ?_, ?_⟩
        · rw [f3.1 120 k (by decide) (by simp), fd2 k k1 k2, f1.1 120 k (by decide) (by simp), u1 k k1 k2]; exact z1 k k1 k2
        · rw [f3.1 99 27 (by decide) (by decide), f2.1 99 27 (by decide) (by decide), f1.1 99 27 (by decide) (by decide), u2]; exact z2
        · rw [f3.1 99 28 (by decide) (by decide), f2.1 99 28 (by decide) (by decide), f1.1 99 28 (by decide) (by decide), u3]; exact z3
        · rw [f3.1 99 29 (by decide) (by decide), f2.1 99 29 (by decide) (by decide), f1.1 99 29 (by decide) (by decide), u4]; exact z4
        · rw [f3.1 121 i (by decide) (by simp), f2.1 121 i (by decide) (by simp [dK]), f1.1 121 i (by decide) (by simp), u5]
          exact z5 i (by rw [← u4]; exact hi)
        · rw [u6, gi_si_k (by decide), gi_si_k (by decide), gi_si_e]
        · rw [u6] at hi; have := hi.1; have := hi.2; omega
        · rw [u7, gi_si_k (by decide), gi_si_e]
        · rw [u7] at q; omega
        · rw [gi_si_k (by decide), gi_si_k (by decide), gi_si_k (by decide), gi_si_e]
  · have f1 : Fr [] [(99, 0)] h (si h 99 0 0) := Fr.refl.si (Or.inr (by decide))
    exact cont0 (by omega) _ (hF.fr f1) f1
