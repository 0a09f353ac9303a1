theorem m_quarrels_34 {Q : Option AV → AH → Prop} {D : DD} {h : AH} (w : WF D) (hF : Fix h) (r : RM h D) (rb : RB h (D 99 1) (dts D)) {p x : Int} (hp : In (D 99 1) p) (hpp : D 102 p = p) (hx : Best D (dts D) 0 p x) (hf : Far (D 99 1) (D 99 7) (dla D) (dea D) p (gi h 123))
    (cont : ∀ z1 z2 z3, Qst D (dts D) (p + 1) 0 z1 z2 z3 → Ok 283 10 [some (vR (some 99)), some (vI z1), some (vI z2), some (vI z3), some (vI (p + 1)), none, none, none] [] h Q) (k : Nat) :
    ∀ (q y1 y2 y3 : Int), (D 99 1 - q).toNat = k → 0 ≤ q → q ≤ D 99 1 → Qst D (dts D) p q y1 y2 y3 → Ok 283 34 [some (vR (some 99)), some (vI y1), some (vI y2), some (vI y3), some (vI p), some (vI (dts D 129 x)), some (vI q), none] [] h Q := by
  have c0 := w.1
  unfold Wc at c0
  have p0 := hp.1
  have p1 := hp.2
  induction k using Nat.strongRecOn with
  | ind k ih =>
    intro q y1 y2 y3 hk q0 q1 hq
    have next : q < D 99 1 → ∀ z1 z2 z3, Qst D (dts D) p (q + 1) z1 z2 z3 → Ok 283 34 [some (vR (some 99)), some (vI z1), some (vI z2), some (vI z3), some (vI p), some (vI (dts D 129 x)), some (vI (q + 1)), none] [] h Q := fun hlt z1 z2 z3 hz => ih _ (by omega) (q + 1) z1 z2 z3 rfl (by omega) (by omega) hz
    refine f_X12_quarrels_34 hF _ _ _ _ _ _ ?_
    rw [r.n]
    refine ⟨fun c => ⟨by omega, cont _ _ _ (Qst_row (by rw [show q = D 99 1 by omega] at hq; exact hq))⟩, fun c => ?_⟩
    have hqn : In (D 99 1) q := ⟨q0, by omega⟩
    have nx := next (by omega)
    have far : D 102 q = q → gi h 123 q ≠ -5 → ∀ z, Best D (dts D) 1 q z → dts D 129 (100 + z) < dts D 129 x → Qd D (dts D) p q (gi h 123 q) := fun e1 e2 z hz hlt => ⟨hp, hqn, hpp, e1, e2, ⟨_, hf, rfl⟩, x, z, hx, hz, hlt⟩
    have nofar : gi h 123 q = -5 → ∀ d, ¬ Qd D (dts D) p q d := fun e d hd => by
      obtain ⟨_, _, _, _, g5, ⟨f, g6, g7⟩, _⟩ := hd
      obtain ⟨rk, hk⟩ := w.2.2.1.2
      have := Far_uniq hk (fun r hr => by
        have q2 := (w.2.2.1.1 r hr).2.1
        have u2 := (w.2.1 _ q2).2.2.1
        exact ⟨u2.1, by have := q2.2; show D 102 (D 107 r) < _; omega⟩) g6 hf q hqn
      omega
    have nobest : ∀ z, Best D (dts D) 1 q z → dts D 129 x ≤ dts D 129 (100 + z) → ∀ d, ¬ Qd D (dts D) p q d := fun z hz hle d hd => by
      obtain ⟨_, _, _, _, _, _, x', z', b1, b2, b3⟩ := hd
      have e1 := Best_uniq (Or.inl rfl) b1 hx
      have e2 := Best_uniq (Or.inr rfl) b2 hz
      rw [e1, e2] at b3
      omega
    have ask : D 102 q = q → gi h 123 q ≠ -5 → (y1 = -5 ∨ gi h 123 q < y1) → ∀ z, Best D (dts D) 1 q z → (0 ≤ 100 + z ∧ 100 + z < 200) ∧ gi h 129 (100 + z) = dts D 129 (100 + z) := fun _ _ _ z hz => by
      have z0 := hz.1.1
      have z1 := hz.1.2
      exact ⟨by omega, rb 129 (100 + z) (by decide) (Or.inr ⟨by omega, by omega⟩)⟩
    rw [r.u (o := 102) (by decide) hqn]
    refine ⟨by omega, fun c1 => ⟨by omega, nx _ _ _ (Qst_skip hq (fun d hd => c1 hd.2.2.2.1))⟩, fun c1 => ?_⟩
    have e1 : D 102 q = q := by omega
    refine ⟨fun c2 => ⟨by omega, nx _ _ _ (Qst_skip hq (nofar c2))⟩, fun c2 => ⟨fun c3 => ?_, fun c3 => ⟨fun c4 => ⟨by omega, ?_⟩, fun c4 => ?_⟩⟩⟩
    · refine m_bounder hF r w rb (Or.inr rfl) hqn e1 (fun z hz => ?_)
      obtain ⟨z2, z3⟩ := ask e1 c2 (Or.inl c3) z hz
      refine ⟨z, rfl, hF, by omega, by omega, ?_⟩
      rw [z3]
      exact ⟨fun c5 => ⟨by omega, nx _ _ _ (Qst_skip hq (nobest z hz c5))⟩, fun c5 => ⟨by omega, nx _ _ _ (Qst_take w hq (far e1 c2 z hz (by omega)) (Or.inl c3))⟩⟩
    · -- a quarrel here, if there is one, is no nearer
      by_cases hz : ∃ d, Qd D (dts D) p q d
      · obtain ⟨d, hd⟩ := hz
        refine nx _ _ _ (Qst_keep w hq hd c3 ?_)
        obtain ⟨_, _, _, _, g5, ⟨f, g6, g7⟩, _⟩ := hd
        obtain ⟨rk, hk⟩ := w.2.2.1.2
        have := Far_uniq hk (fun r hr => by
          have q2 := (w.2.2.1.1 r hr).2.1
          have u2 := (w.2.1 _ q2).2.2.1
          exact ⟨u2.1, by have := q2.2; show D 102 (D 107 r) < _; omega⟩) g6 hf q hqn
        omega
      · exact nx _ _ _ (Qst_skip hq (fun d hd => hz ⟨d, hd⟩))
    · refine m_bounder hF r w rb (Or.inr rfl) hqn e1 (fun z hz => ?_)
      obtain ⟨z2, z3⟩ := ask e1 c2 (Or.inr (by omega)) z hz
      refine ⟨z, rfl, hF, by omega, by omega, ?_⟩
      rw [z3]
      exact ⟨fun c5 => ⟨by omega, nx _ _ _ (Qst_skip hq (nobest z hz c5))⟩, fun c5 => ⟨by omega, nx _ _ _ (Qst_take w hq (far e1 c2 z hz (by omega)) (Or.inr (by omega)))⟩⟩
theorem RB_fr {L : List Nat} {K : List (Nat × Int)} {h h' : AH} {n : Int} {B : DD} (rb : RB h n B) (f : Fr L K h h') (h1 : ∀ o ∈ L, o < 129 ∨ 131 < o) (h2 : ∀ q ∈ K, q.1 < 129 ∨ 131 < q.1) : RB h' n B := fun o k ho hk => by
  rw [f.1 o k (fun m => by have := h1 o m; omega) (fun m => by have := h2 _ m; simp at this; omega)]
  exact rb o k ho hk
def qL : List Nat := [123, 124, 129, 130, 131]
def qK : List (Nat × Int) := [(99, 34), (99, 46), (99, 47)]
theorem m_quarrels_10 {Q : Option AV → AH → Prop} {D : DD} {h0 : AH} (w : WF D) (cont0 : ∀ h', Fix h' → Fr qL qK h0 h' → RB h' (D 99 1) (dts D) → (∀ a b d, ¬ Qd D (dts D) a b d) → Q (some (vI 0)) h')
    (cont1 : ∀ h' a b d x y, Fix h' → Fr qL qK h0 h' → RB h' (D 99 1) (dts D) → IsQ D (dts D) a b d → Best D (dts D) 0 a x → Best D (dts D) 1 b y → gi h' 99 46 = x → gi h' 99 47 = y → gi h' 99 34 = d → (∃ f, Far (D 99 1) (D 99 7) (dla D) (dea D) a f ∧ f b = d ∧ PathR (D 99 7) (dla D) (dea D) f d.toNat b (gi h' 124) 0) → Q (some (vI 1)) h') (k : Nat) :
    ∀ (h : AH) (p y1 y2 y3 : Int), (D 99 1 - p).toNat = k → 0 ≤ p → p ≤ D 99 1 → Fix h → RM h D → RB h (D 99 1) (dts D) → Fr qL qK h0 h → Qst D (dts D) p 0 y1 y2 y3 → Ok 283 10 [some (vR (some 99)), some (vI y1), some (vI y2), some (vI y3), some (vI p), none, none, none] [] h Q := by
  have c0 := w.1
  unfold Wc at c0
  obtain ⟨rk, hk1, hk2⟩ := w.rk
  have he : ∀ r, In (D 99 7) r → In (D 99 1) (dea D r) := fun r hr => by
    have q2 := (w.2.2.1.1 r hr).2.1
    have u2 := (w.2.1 _ q2).2.2.1
    exact ⟨u2.1, by have := q2.2; show D 102 (D 107 r) < _; omega⟩
  induction k using Nat.strongRecOn with
  | ind k ih =>
    intro h p y1 y2 y3 hk p0 p1 hF r rb f hq
    refine f_X12_quarrels_10 hF _ _ _ _ ?_
    rw [r.n]
    refine ⟨fun c => ⟨fun c1 => ?_, fun c1 => ?_⟩, fun c => ⟨by omega, fun c1 => ?_, fun c1 => ⟨by omega, ?_⟩⟩⟩
    · have e : p = D 99 1 := by omega
      rw [e] at hq
      rcases Qst_end hq with ⟨g1, _⟩ | g
      · exact absurd g1 c1
      · obtain ⟨g1, g2, g3, g4, g5, ⟨fa, g6, g7⟩, _⟩ := g.1
        refine m_bounder hF r w rb (Or.inl rfl) g1 g3 (fun x hx => ⟨x, rfl, hF, ?_⟩)
        have f1 : Fr [] [(99, 46)] h (si h 99 46 x) := Fr.refl.si (Or.inr (by decide))
        have F1 := hF.fr f1
        have r1 := r.fr f1 (by decide) (by decide)
        have rb1 := RB_fr rb f1 (by decide) (by decide)
        refine m_bounder F1 r1 w rb1 (Or.inr rfl) g2 g4 (fun y hy => ⟨y, rfl, F1, ?_⟩)
        have f2 : Fr [] [(99, 46), (99, 47)] h (si (si h 99 46 x) 99 47 y) := (f1.mono (by decide) (by decide)).si (Or.inr (by decide))
        have F2 := hF.fr f2
        have r2 := r.fr f2 (by decide) (by decide)
        refine m_layers hk1 hk2 g1 F2 (r2.gv w) (fun h3 f3 i3 => ⟨rfl, F2.fr f3, ?_⟩)
        have f4 : Fr [123] [(99, 46), (99, 47)] h h3 := (f2.mono (by decide) (by decide)).trans (f3.mono (by decide) (by decide))
        have F3 := hF.fr f4
        have r3 := r.fr f4 (by decide) (by decide)
        have eb : gi h3 123 y3 = y1 := by rw [← g7]; exact Far_uniq hk1 he i3 g6 y3 g2
        refine m_follow F3 (r3.gv w) i3 (fun u hu => by have := Far_rk hk1 he i3 u hu; have := hk2 u hu; omega) g2 (by rw [eb]; exact g5) (fun h5 f5 i5 i6 => ⟨rfl, F3.fr f5, ?_⟩)
        rw [eb] at i5 i6
        have f6 : Fr qL qK h h5 := (f4.mono (by decide) (by decide)).trans (f5.mono (by decide) (by decide))
        refine cont1 h5 y2 y3 y1 x y (F3.fr f5) (f.trans f6) (RB_fr (RB_fr rb f4 (by decide) (by decide)) f5 (by decide) (by decide)) g hx hy ?_ ?_ i5 ⟨_, i3, eb, i6⟩
        · rw [f5.1 99 46 (by decide) (by decide), f3.1 99 46 (by decide) (by decide), gi_si_k (by decide), gi_si_e]
        · rw [f5.1 99 47 (by decide) (by decide), f3.1 99 47 (by decide) (by decide), gi_si_e]
    · have e : p = D 99 1 := by omega
      rw [e] at hq
      rcases Qst_end hq with ⟨_, g⟩ | g
      · exact cont0 h hF f rb g
      · exact absurd (by omega) g.1.2.2.2.2.1
    · have hp : In (D 99 1) p := ⟨p0, by omega⟩
      rw [r.u (o := 102) (by decide) hp] at c1
      refine m_bounder hF r w rb (Or.inl rfl) hp c1 (fun x hx => ?_)
      have x0 := hx.1.1
      have x1 := hx.1.2
      refine ⟨x, rfl, hF, by omega, ?_⟩
      rw [rb 129 x (by decide) (Or.inl hx.1)]
      refine m_layers hk1 hk2 hp hF (r.gv w) (fun h3 f3 i3 => ⟨rfl, hF.fr f3, ?_⟩)
      have r3 := r.fr f3 (by decide) (by decide)
      have rb3 := RB_fr rb f3 (by decide) (by decide)
      exact m_quarrels_34 w (hF.fr f3) r3 rb3 hp c1 hx i3 (fun z1 z2 z3 hz => ih _ (by omega) h3 (p + 1) z1 z2 z3 rfl (by omega) (by omega) (hF.fr f3) r3 rb3 (f.trans (f3.mono (by decide) (by decide))) hz) _ 0 y1 y2 y3 rfl (by omega) c0.1 hq
    · have hp : In (D 99 1) p := ⟨p0, by omega⟩
      rw [r.u (o := 102) (by decide) hp] at c1
      exact ih _ (by omega) h (p + 1) y1 y2 y3 rfl (by omega) (by omega) hF r rb f (Qst_none hq c1)
