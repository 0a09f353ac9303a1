theorem m_quarrels {h : AH} {Q : Option AV → AH → Prop} {D : DD} (hF : Fix h) (r : RM h D) (w : WF D) (cont0 : ∀ h', Fix h' → Fr qL qK h h' → RB h' (D 99 1) (dts D) → (∀ a b d, ¬ Qd D (dts D) a b d) → Q (some (vI 0)) h')
    (cont1 : ∀ h' a b d x y, Fix h' → Fr qL qK h h' → RB h' (D 99 1) (dts D) → IsQ D (dts D) a b d → Best D (dts D) 0 a x → Best D (dts D) 1 b y → gi h' 99 46 = x → gi h' 99 47 = y → gi h' 99 34 = d → (∃ f, Far (D 99 1) (D 99 7) (dla D) (dea D) a f ∧ f b = d ∧ PathR (D 99 7) (dla D) (dea D) f d.toNat b (gi h' 124) 0) → Q (some (vI 1)) h') :
    Ok 283 0 [some (vR (some 99)), none, none, none, none, none, none, none] [] h Q := by
  refine f_X12_quarrels_0 hF (m_dates hF r w (fun h1 F1 f1 r1 rb1 => ⟨rfl, F1, ?_⟩))
  refine m_quarrels_10 (h0 := h) w cont0 cont1 _ h1 0 (-5) (-5) (-5) rfl (by omega) w.1.1 F1 r1 rb1 (f1.mono (by decide) (by decide)) (Or.inl ⟨rfl, fun a b d hb hq => ?_⟩)
  have h0 := hq.1.1
  have h1 := hq.2.1.1
  unfold Bef at hb
  omega
/-- what quarrel answers -/
def aQuar (D : DD) (x : Int) : Prop := (x = 0 ∧ ∀ a b d, ¬ Qd D (dts D) a b d) ∨ ∃ a b d, IsQ D (dts D) a b d ∧ x = d + 1
def qK0 : List (Nat × Int) := [(99, 0), (99, 34), (99, 46), (99, 47)]
theorem m_quarrel {h : AH} {Q : Option AV → AH → Prop} {D : DD} (hF : Fix h) (r : RM h D) (w : WF D) (cont : ∀ h' x, Fix h' → Fr qL qK0 h h' → aQuar D x → Q (some (vI x)) h') : Ok 284 0 [some (vR (some 99))] [] h Q := by
  have f0 : Fr [] [(99, 0)] h (si h 99 0 0) := Fr.refl.si (Or.inr (by decide))
  have F0 := hF.fr f0
  have r0 := r.fr f0 (by decide) (by decide)
  obtain ⟨rk, hk1, hk2⟩ := w.rk
  have he : ∀ r, In (D 99 7) r → In (D 99 1) (dea D r) := fun r hr => by
    have q2 := (w.2.2.1.1 r hr).2.1
    have u2 := (w.2.1 _ q2).2.2.1
    exact ⟨u2.1, by have := q2.2; show D 102 (D 107 r) < _; omega⟩
  refine f_X12_quarrel_0 hF (m_quarrels F0 r0 w (fun h1 F1 f1 _ g => ?_) (fun h1 a b d x y F1 f1 _ g _ _ _ _ e34 gf => ?_))
  · exact ⟨0, rfl, F1, fun _ => cont h1 0 F1 ((f0.mono (by decide) (by decide)).trans (f1.mono (by decide) (by decide))) (Or.inl ⟨rfl, g⟩), fun c => absurd rfl c⟩
  · obtain ⟨f, g1, g2, _⟩ := gf
    have hb := g.1.2.1
    have b1 := Far_rk hk1 he g1 b hb
    have b2 := hk2 b hb
    have b3 := Far_neg g1 b hb
    refine ⟨1, rfl, F1, fun c => by omega, fun _ => ?_⟩
    rw [e34]
    exact ⟨by omega, cont h1 (d + 1) F1 ((f0.mono (by decide) (by decide)).trans (f1.mono (by decide) (by decide))) (Or.inr ⟨a, b, d, g, rfl⟩)⟩
theorem aQuar_uniq {D : DD} {x y : Int} (h : aQuar D x) (h' : aQuar D y) : x = y := by
  rcases h with ⟨h1, h2⟩ | ⟨a, b, d, h1, h2⟩
  · rcases h' with ⟨g1, _⟩ | ⟨a, b, d, g1, _⟩
    · omega
    · exact absurd g1.1 (h2 a b d)
  · rcases h' with ⟨_, g2⟩ | ⟨a', b', d', g1, g2⟩
    · exact absurd h1.1 (g2 a b d)
    · have := IsQ_uniq h1 g1
      omega
