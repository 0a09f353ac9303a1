/-! the class's years are fresh -/
def MonB (B B' : DD) : Prop := ∀ u : Int, In 100 u → B 129 u ≤ B' 129 u ∧ B' 129 (100 + u) ≤ B 129 (100 + u)
theorem MonB.refl {B : DD} : MonB B B := fun _ _ => ⟨Int.le_refl _, Int.le_refl _⟩
theorem MonB.trans {B1 B2 B3 : DD} (a : MonB B1 B2) (b : MonB B2 B3) : MonB B1 B3 := fun u hu => ⟨Int.le_trans (a u hu).1 (b u hu).1, Int.le_trans (b u hu).2 (a u hu).2⟩
theorem MonB.bd {B : DD} {sd u v t s : Int} (hu : In 100 u) (hs : sd = 0 ∨ sd = 1) : MonB B (bdS B sd u v t s) := by
  unfold bdS
  split
  · rename_i hc
    intro x hx
    have x0 := hx.1
    have x1 := hx.2
    have u0 := hu.1
    have u1 := hu.2
    unfold up
    rcases hs with e | e
    · subst e
      have z1 : ¬ (100 + x = 100 * 0 + u) := by omega
      by_cases e : x = u
      · subst e; simp; omega
      · have z2 : ¬ (x = 100 * 0 + u) := by omega
        simp [z1, z2]
        rw [if_neg (by omega), if_neg (by omega)]
        exact ⟨Int.le_refl _, Int.le_refl _⟩
    · subst e
      have z1 : ¬ (x = 100 * 1 + u) := by omega
      by_cases e : x = u
      · subst e
        simp [z1]
        rw [if_neg (by omega)]; omega
      · have z2 : ¬ (100 + x = 100 * 1 + u) := by omega
        simp [z1, z2]
        rw [if_neg (by omega), if_neg (by omega)]
        exact ⟨Int.le_refl _, Int.le_refl _⟩
  · exact MonB.refl
theorem MonB.bb {D B : DD} {t s u : Int} (hu : In 100 u) : MonB B (bbS D B t s u) := by
  have m0 : MonB B (bb0 D B t s u) := by
    unfold bb0
    split
    · exact MonB.refl
    · exact MonB.bd hu (Or.inl rfl)
  unfold bbS
  by_cases q : hasB D (40 * t + s)
  · rw [if_pos q]
    unfold bb1
    by_cases q2 : D 113 (40 * t + s) = 2 ∨ ¬ abB D u (40 * t + s)
    · rw [if_pos q2]; exact m0
    · rw [if_neg q2]; exact m0.trans (MonB.bd hu (Or.inr rfl))
  · rw [if_neg q]; exact MonB.refl
theorem MonB.dS {D B : DD} {t u : Int} (hu : In 100 u) : ∀ m, MonB B (dtS D B t u m)
  | 0 => MonB.refl
  | m + 1 => (MonB.dS hu m).trans (MonB.bb hu)
theorem MonB.dT {D : DD} (w : WF D) : ∀ m : Nat, (m : Int) ≤ D 99 11 → MonB (dB0 D) (dtT D m)
  | 0, _ => MonB.refl
  | m + 1, hm => by
    have ih := MonB.dT w m (by omega)
    unfold dtT
    by_cases q : uo D m = -5
    · rw [if_pos q]; exact ih
    · rw [if_neg q]
      have := w.c
      have hu : In (D 99 1) (uo D m) := by
        rcases uo_rng w 60 (m : Int) ⟨by omega, by omega⟩ with z | z
        · exact absurd z q
        · exact z
      exact ih.trans (MonB.dS ⟨hu.1, by have := hu.2; omega⟩ _)
theorem dts_b {D : DD} (w : WF D) {u : Int} (hu : In (D 99 1) u) : -10000 ≤ dts D 129 u ∧ dts D 129 (100 + u) ≤ 2100 := by
  have wc := w.c
  have u0 := hu.1
  have u1 := hu.2
  have := MonB.dT w (D 99 11).toNat (by omega) u ⟨u0, by omega⟩
  have wu := (w.2.1 u hu).2.2.2
  unfold dts
  have e1 : dB0 D 129 u = D 103 u := by unfold dB0; rw [if_pos rfl, if_pos (by omega)]
  have e2 : dB0 D 129 (100 + u) = D 104 u := by unfold dB0; rw [if_pos rfl, if_neg (by omega), show 100 + u - 100 = u by omega]
  rw [e1, e2] at this
  omega
theorem c_yr_14 {h0 : AH} {Q : Option AV → AH → Prop} {G : Nat → Prop} {S : DD} {T : FD} {D : DD} (hF0 : Fix h0) (r0 : TR h0 G S T D) (hG : ∀ o, G o → 136 ≤ o) (w : WF D)
    (cont : ∀ h', Fix h' → YF h0 h' → YB h' (D 99 1) (dB0 D) → Ok 116 63 [some (vR (some 73)), some (vI 0), none] [] h' Q) (m : Nat) : ∀ (h : AH) (u : Int), (D 99 1 - u).toNat = m → 0 ≤ u → u ≤ D 99 1 → YF h0 h → YB h u (dB0 D) → Ok 116 14 [some (vR (some 73)), some (vI u), none] [] h Q := by
  have wc := w.c
  induction m using Nat.strongRecOn with
  | ind m ih =>
    intro h u hm u0 u1 yf yb
    have hF := yf.fix hF0
    have r := yf.tr r0 hG
    refine f_X10_refresh_14 hF _ ?_
    rw [r.n]
    refine ⟨fun q => cont h hF yf (by rw [show D 99 1 = u by omega]; exact yb), fun q => ⟨⟨by omega, by omega⟩, ⟨by omega, by omega⟩, ?_⟩⟩
    have hu : In (D 99 1) u := ⟨u0, by omega⟩
    have e14 : gi h 14 u = D 103 u := by rw [r.1 14 100 u (by decide) ⟨u0, by omega⟩]; exact (r.2.1.1.2 u hu).2.2.1
    have e16 : gi h 16 u = D 104 u := by rw [r.1 16 100 u (by decide) ⟨u0, by omega⟩]; exact (r.2.1.1.2 u hu).2.2.2.1
    rw [e14, e16]
    refine ih _ (by omega) _ (u + 1) rfl (by omega) (by omega) ((((((yf.si (by decide)).si (by decide)).si (by decide)).si (by decide)).si (by decide)).si (by decide)) (fun v hv => ?_)
    have v0 := hv.1
    have v1 := hv.2
    by_cases e : v = u
    · subst e
      have z : ¬ (100 + v < 100) := by omega
      have z1 : v < 100 := by omega
      have z2 : 100 + v - 100 = v := by omega
      simp [gi_si_p, dB0, z, z1, z2]
    · simp [gi_si_p, e]
      exact yb v ⟨v0, by omega⟩
theorem c_boundByTray {h : AH} {Q : Option AV → AH → Prop} {G : Nat → Prop} {S : DD} {T : FD} {D B : DD} {t u : Int} (hF : Fix h) (r : TR h G S T D) (hG : ∀ o, G o → 136 ≤ o) (w : WF D) (ht : In (D 99 11) t) (hu : In (D 99 1) u) (yb : YB h (D 99 1) B)
    (cont : ∀ h', Fix h' → YF h h' → YB h' (D 99 1) (dtS D B t u (D 109 t).toNat) → Q none h') : Ok 117 0 [some (vR (some 73)), some (vI u), some (vI t), none, none, none, none, none] [] h Q := by
  have wc := w.c
  have hu' : In 100 u := ⟨hu.1, by have := hu.2; omega⟩
  have wu := w.2.1 u hu
  have rd : ∀ h', YF h h' → gi h' 10 u = D 100 u ∧ gi h' 12 u = D 101 u := fun h' f => by
    have r' := f.tr r hG
    exact ⟨by rw [r'.1 10 100 u (by decide) hu']; exact (r.2.1.1.2 u hu).1, by rw [r'.1 12 100 u (by decide) hu']; exact (r.2.1.1.2 u hu).2.1⟩
  refine f_X10_boundByTray_0 hF _ _ ?_
  refine c_answer hF (Or.inr rfl) hu' (rd h YF.refl).1 (rd h YF.refl).2 wu.1 wu.2.1 (by decide) (fun h1 v1 F1 b1 e1 => ⟨_, rfl, F1, ?_⟩)
  have y1 : YF h h1 := YF.refl.bo b1
  refine c_answer F1 (Or.inr rfl) hu' (rd h1 y1).1 (rd h1 y1).2 wu.1 wu.2.1 (by decide) (fun h2 v2 F2 b2 e2 => ⟨_, rfl, F2, ?_⟩)
  have y2 : YF h h2 := y1.bo b2
  have yb2 : YB h2 (D 99 1) B := YF.yb yb (fun o p q => by rw [(b2.1 o (by omega) (by omega)).1, (b1.1 o (by omega) (by omega)).1])
  have g1 : v1 = gives 2 (D 100 u) (D 101 u) := e1 (by omega)
  have g2 : v2 = gives 4 (D 100 u) (D 101 u) := e2 (by omega)
  have g4 : gives 4 (D 100 u) (D 101 u) = if D 100 u = 4 then 1 else 0 := by simp [gives]
  rw [g4] at g2
  refine ⟨fun q => ?_, fun q => ?_⟩
  · refine c_bbt_23 F2 (y2.tr r hG) hG w ht hu g1 (Or.inr ⟨rfl, fun z => ?_⟩) (fun h3 F3 y3 yb3 => cont h3 F3 (y2.trans y3) yb3) _ h2 0 rfl (Or.inr rfl) YF.refl yb2
    rw [if_pos z] at g2; exact q g2
  · refine c_bbt_23 F2 (y2.tr r hG) hG w ht hu g1 (Or.inl ⟨rfl, ?_⟩) (fun h3 F3 y3 yb3 => cont h3 F3 (y2.trans y3) yb3) _ h2 0 rfl (Or.inr rfl) YF.refl yb2
    refine Classical.byContradiction (fun z => ?_)
    rw [if_neg z] at g2; omega
theorem c_yr_63 {h0 : AH} {Q : Option AV → AH → Prop} {G : Nat → Prop} {S : DD} {T : FD} {D : DD} (hF0 : Fix h0) (r0 : TR h0 G S T D) (hG : ∀ o, G o → 136 ≤ o) (w : WF D)
    (cont : ∀ h', Fix h' → YF h0 h' → YB h' (D 99 1) (dts D) → Ok 123 0 [some (vR (some 73)), none, none] [] h' (fun v h_1 => v = none ∧ Fix h_1 ∧ Q none h_1)) (m : Nat) : ∀ (h : AH) (t : Nat), (D 99 11 - t).toNat = m → (t : Int) ≤ D 99 11 → YF h0 h → YB h (D 99 1) (dtT D t) → Ok 116 63 [some (vR (some 73)), some (vI (t : Int)), none] [] h Q := by
  have wc := w.c
  induction m using Nat.strongRecOn with
  | ind m ih =>
    intro h t hm t1 yf yb
    have hF := yf.fix hF0
    have r := yf.tr r0 hG
    refine f_X10_refresh_63 hF _ ?_
    rw [r.T]
    refine ⟨fun q => cont h hF yf (by unfold dts; rw [show (D 99 11).toNat = t by omega]; exact yb), fun q => ?_⟩
    have ht : In (D 99 11) (t : Int) := ⟨by omega, by omega⟩
    have nx : ∀ h', Fix h' → YF h0 h' → YB h' (D 99 1) (dtT D (t + 1)) → Ok 116 63 [some (vR (some 73)), some (vI ((t : Int) + 1)), none] [] h' Q := fun h' F' y' b' => ih _ (by omega) h' (t + 1) rfl (by omega) y' b'
    refine c_unitOf hF r w ht ⟨_, rfl, hF, fun q2 => ⟨⟨by omega, by omega⟩, nx h hF yf ?_⟩, fun q2 => ?_⟩
    · unfold dtT
      rw [if_pos (by rcases uo_rng w 60 (t : Int) ht with z | z; exact z; have := z.1; exact absurd q2 (by unfold uo; omega))]
      exact yb
    · have hu : In (D 99 1) (uo D t) := by
        rcases uo_rng w 60 (t : Int) ht with z | z
        · exact absurd (show uo D t < 0 by unfold uo; omega) q2
        · exact z
      have u1 := hu.2
      rw [r.n]
      refine ⟨fun q3 => by omega, fun _ => c_boundByTray hF r hG w ht hu yb (fun h4 F4 y4 b4 => ⟨rfl, F4, ⟨by omega, by omega⟩, nx h4 F4 (yf.trans y4) ?_⟩)⟩
      unfold dtT
      rw [if_neg (by omega)]
      exact b4
