/-! copy -/
def cyF (E : DD) (t s to o : Int) : Int := if E 109 t < 0 ∨ E 109 to < 0 then -11 else if ¬ (0 ≤ s ∧ s < E 109 t) ∨ ¬ (0 ≤ o ∧ o < E 109 to) then -12 else if E 112 (40 * t + s) = 4 ∨ E 112 (40 * to + o) = 4 then -2 else 0
def cyS (E : DD) (t s to o : Int) : DD := if 40 * t + s = 40 * to + o then E else sLay E (40 * t + s) (40 * to + o)
def cyGo (t s to o : Int) : Nat → Int → DD → Int × Int × DD
  | 0, m, E => (m, 0, E)
  | k + 1, m, E => if cyF E t (s + m) to (o + m) ≠ 0 then (m, cyF E t (s + m) to (o + m), E) else cyGo t s to o k (m + 1) (cyS E t (s + m) to (o + m))
/-- what stays of D in the course of a copy -/
def CpE (D E : DD) : Prop := (∀ o j, o < 112 ∨ 117 < o → E o j = D o j) ∧ Nt E
theorem CpE_lay {D E : DD} (e : CpE D E) {k j : Int} (hk : In (40 * D 99 11) k) : CpE D (sLay E k j) := by
  refine ⟨fun o i ho => by rw [sLay_o ho]; exact e.1 o i ho, fun k' hk' h3 => ?_⟩
  rw [sLay_o (by omega), e.1 99 11 (by omega)] at hk'
  by_cases hkj : k' = j
  · rw [hkj, sLay_e (by decide)] at h3 ⊢
    exact e.2 k (by rw [e.1 99 11 (by omega)]; exact hk) h3
  · rw [sLay_s (by decide) hkj] at h3 ⊢
    exact e.2 k' (by rw [e.1 99 11 (by omega)]; exact hk') h3
/-- a copy's end -/
def CpP (h0 h' : AH) (x : Int × Int × DD) : Prop := Fr dL dK h0 h' ∧ Fnd h0 h' x.2.1 ∧ RM h' x.2.2 ∧ gi h' 99 38 = x.2.1 ∧ gi h' 99 37 = (if x.1 ≤ 0 then 0 else 1) ∧ gi h' 99 31 = gi h0 99 31 ∧ gi h' 122 = gi h0 122
theorem w32_in {s m l : Int} (hs : R32 s) (hm : 0 ≤ m ∧ m ≤ 40) (hl : l ≤ 40) : (0 ≤ w32 (s + m) ∧ w32 (s + m) < l ↔ 0 ≤ s + m ∧ s + m < l) ∧ (0 ≤ s + m → s + m < l → w32 (s + m) = s + m) := by
  have h1 := hs.1
  have h2 := hs.2
  by_cases hr : s + m < 2147483648
  · have : w32 (s + m) = s + m := w32_of ⟨by omega, hr⟩
    rw [this]
    exact ⟨Iff.rfl, fun _ _ => rfl⟩
  · have : w32 (s + m) = s + m - 4294967296 := by
      unfold w32
      rw [Int.bmod_def]
      split <;> omega
    rw [this]
    exact ⟨⟨fun q => by omega, fun q => by omega⟩, fun _ _ => by omega⟩
theorem m_doCopy_end {Q : Option AV → AH → Prop} {h0 h : AH} {m y : Int} {E : DD} (hp : Fr dL dK h0 h ∧ Fnd h0 h y ∧ RM h E ∧ gi h 99 38 = y ∧ gi h 99 31 = gi h0 99 31 ∧ gi h 122 = gi h0 122) (cont : ∀ h', CpP h0 h' (m, y, E) → Q (some (vI m)) h') :
    ((m ≤ 0) → Q (some (vI m)) (si h 99 37 0)) ∧ (¬ (m ≤ 0) → Q (some (vI m)) (si h 99 37 1)) := by
  obtain ⟨p1, p2, p3, p4, p5, p6⟩ := hp
  have key : ∀ v, v = (if m ≤ 0 then (0 : Int) else 1) → Q (some (vI m)) (si h 99 37 v) := fun v hv => by
    refine cont _ ⟨p1.si (Or.inr (by decide)), fun k k1 k2 => ?_, p3.si (Or.inr (Or.inr (by decide))), ?_, ?_, ?_, ?_⟩
    · rw [gi_si_o (by decide)]; exact p2 k k1 k2
    · rw [gi_si_k (by decide)]; exact p4
    · rw [gi_si_e]; exact hv
    · rw [gi_si_k (by decide)]; exact p5
    · rw [gi_si_r (by decide)]; exact p6
  exact ⟨fun c => key 0 (by rw [if_pos c]), fun c => key 1 (by rw [if_neg c])⟩
theorem m_doCopy_5 {Q : Option AV → AH → Prop} {h0 : AH} {D : DD} {t s n to o : Int} (w : WF D) (hb0 : Fb h0) (ht : In (D 99 11) t) (ht2 : In (D 99 11) to) (hs : R32 s) (ho : R32 o) (hn : 0 ≤ n ∧ n ≤ 40) (k : Nat) :
    ∀ (h : AH) (m : Int) (E : DD), (n - m).toNat = k → 0 ≤ m → m ≤ n → Fix h → RM h E → CpE D E → Fr eL eK h0 h → gi h 99 38 = 0 → (∀ h', CpP h0 h' (cyGo t s to o k m E) → Q (some (vI (cyGo t s to o k m E).1)) h') →
    Ok 237 5 [some (vR (some 99)), some (vI t), some (vI s), some (vI n), some (vI to), some (vI o), some (vI m), none, none, none, none] [] h Q := by
  have c0 := w.1
  unfold Wc at c0
  have t0 := ht.1
  have t1 := ht.2
  have u0 := ht2.1
  have u1 := ht2.2
  have wt1 := (w.2.2.2.1 t ht).2.1
  have wt2 := (w.2.2.2.1 to ht2).2.1
  induction k with
  | zero =>
    intro h m E hk m0 mn hF r e f h38 cont
    have hfin : Fr dL dK h0 h ∧ Fnd h0 h 0 ∧ RM h E ∧ gi h 99 38 = 0 ∧ gi h 99 31 = gi h0 99 31 ∧ gi h 122 = gi h0 122 := ⟨f.mono (by decide) (by decide), Fnd_no (f.row (by decide) (by decide)) (by omega), r, h38, f.1 99 31 (by decide) (by decide), f.row (by decide) (by decide)⟩
    exact f_X12_doCopy_5 hF _ _ _ _ _ _ ⟨fun c => m_doCopy_end hfin cont, fun c => by omega⟩
  | succ k ih =>
    intro h m E hk m0 mn hF r e f h38 cont
    have hb : Fb h := fun q q1 q2 => by rw [f.1 120 q (by decide) (by simp [eK])]; exact hb0 q q1 q2
    have eT : E 99 11 = D 99 11 := e.1 99 11 (by omega)
    have e109 : gi h 109 t = D 109 t := by rw [r.t (o := 109) (by decide) (by rw [eT]; exact ht)]; exact e.1 109 t (by omega)
    have e109' : gi h 109 to = D 109 to := by rw [r.t (o := 109) (by decide) (by rw [eT]; exact ht2)]; exact e.1 109 to (by omega)
    have f109 : E 109 t = D 109 t := e.1 109 t (by omega)
    have f109' : E 109 to = D 109 to := e.1 109 to (by omega)
    unfold cyGo at cont
    -- it ends with why y
    have stop : ∀ (h' : AH) (y : Int), Fix h' → cyF E t (s + m) to (o + m) = y → y ≠ 0 → Fr dL dK h0 h' → Fnd h0 h' y → RM h' E → gi h' 99 38 = y → gi h' 99 31 = gi h0 99 31 → gi h' 122 = gi h0 122 → Ok 237 5 [some (vR (some 99)), some (vI t), some (vI s), some (vI n), some (vI to), some (vI o), some (vI m), none, none, none, none] [] h' Q := fun h' y hF' hy hy0 p1 p2 p3 p4 p5 p6 => by
      rw [hy, if_pos hy0] at cont
      exact f_X12_doCopy_5 hF' _ _ _ _ _ _ ⟨fun c => m_doCopy_end ⟨p1, p2, p3, p4, p5, p6⟩ cont, fun c => ⟨fun _ => m_doCopy_end ⟨p1, p2, p3, p4, p5, p6⟩ cont, fun q => absurd (by rw [p4]; exact hy0) q⟩⟩
    have fnd : ∀ fd : Int, 1 ≤ fd ∧ fd ≤ 6 → cyF E t (s + m) to (o + m) = -10 - fd → Ok 191 0 [some (vR (some 99)), some (vI fd)] [] h (fun v h_1 => ∃ x_2, v = some (vI x_2) ∧ Fix h_1 ∧ Ok 237 5 [some (vR (some 99)), some (vI t), some (vI s), some (vI n), some (vI to), some (vI o), some (vI m), none, none, none, none] [] (si h_1 99 38 x_2) Q) := fun fd hfd hc => by
      refine m_found hF hfd hb (fun h1 f1 g1 => ⟨_, rfl, hF.fr f1, ?_⟩)
      have f01 : Fr dL dK h0 h1 := (f.mono (by decide) (by decide)).trans (f1.mono (by decide) (by decide))
      have hF0 := hF.fr f1
      have hF1 : Fix (si h1 99 38 (-10 - fd)) := hF0
      refine stop _ (-10 - fd) hF1 hc (by omega) (f01.si (Or.inr (by decide))) (fun q q1 q2 => ?_) ((r.fr f1 (by decide) (by decide)).si (Or.inr (Or.inr (by decide)))) gi_si_e ?_ ?_
      · rw [gi_si_o (by decide)]
        have := g1 q q1 q2
        rw [f.1 120 q (by decide) (by simp [eK]), f.1 99 26 (by decide) (by decide)] at this
        exact this
      · rw [gi_si_k (by decide), f1.1 99 31 (by decide) (by decide), f.1 99 31 (by decide) (by decide)]
      · rw [gi_si_r (by decide), f1.row (by decide) (by decide), f.row (by decide) (by decide)]
    have ws := w32_in (s := s) (m := m) (l := D 109 t) hs (by omega) wt1.2
    have wo := w32_in (s := o) (m := m) (l := D 109 to) ho (by omega) wt2.2
    have wl1 : w32 (D 109 t - 1) = D 109 t - 1 := w32_of ⟨by omega, by omega⟩
    have wl2 : w32 (D 109 to - 1) = D 109 to - 1 := w32_of ⟨by omega, by omega⟩
    have beyond : ¬ (D 109 t < 0 ∨ D 109 to < 0) → (¬ (0 ≤ w32 (s + m) ∧ w32 (s + m) < D 109 t) ∨ ¬ (0 ≤ w32 (o + m) ∧ w32 (o + m) < D 109 to)) → cyF E t (s + m) to (o + m) = -10 - 2 := fun h1 h2 => by
      unfold cyF
      rw [f109, f109', if_neg h1, if_pos (by rw [← ws.1, ← wo.1]; exact h2)]
      rfl
    refine f_X12_doCopy_5 hF _ _ _ _ _ _ ?_
    rw [h38, e109, e109', wl1, wl2]
    refine ⟨fun c => by omega, fun c => ⟨fun q => absurd rfl q, fun _ => ⟨by omega, fun c1 => fnd 1 (by omega) (by unfold cyF; rw [f109, f109', if_pos (Or.inl c1)]; rfl), fun c1 => ⟨by omega, fun c2 => fnd 1 (by omega) (by unfold cyF; rw [f109, f109', if_pos (Or.inr c2)]; rfl), fun c2 => ?_⟩⟩⟩⟩
    have hl : ¬ (D 109 t < 0 ∨ D 109 to < 0) := fun q => q.elim c1 c2
    refine ⟨fun c3 => fnd 2 (by omega) (beyond hl (Or.inl (fun q => by omega))), fun c3 => ⟨fun c4 => fnd 2 (by omega) (beyond hl (Or.inl (fun q => by omega))), fun c4 => ⟨fun c5 => fnd 2 (by omega) (beyond hl (Or.inr (fun q => by omega))), fun c5 => ⟨fun c6 => fnd 2 (by omega) (beyond hl (Or.inr (fun q => by omega))), fun c6 => ?_⟩⟩⟩⟩
    have i1 := ws.1.mp ⟨by omega, by omega⟩
    have i2 := wo.1.mp ⟨by omega, by omega⟩
    have z1 : w32 (40 * t) = 40 * t := w32_of ⟨by omega, by omega⟩
    have z2 : w32 (40 * to) = 40 * to := w32_of ⟨by omega, by omega⟩
    have z3 : w32 (w32 (w32 (40 * t) + s) + m) = 40 * t + (s + m) := by
      have := hs.1
      have := hs.2
      rw [z1, w32_of (z := 40 * t + s) ⟨by omega, by omega⟩, w32_of ⟨by omega, by omega⟩]
      omega
    have z4 : w32 (w32 (w32 (40 * to) + o) + m) = 40 * to + (o + m) := by
      have := ho.1
      have := ho.2
      rw [z2, w32_of (z := 40 * to + o) ⟨by omega, by omega⟩, w32_of ⟨by omega, by omega⟩]
      omega
    have hk1 : In (40 * D 99 11) (40 * t + (s + m)) := ⟨by omega, by omega⟩
    have hk2 : In (40 * D 99 11) (40 * to + (o + m)) := ⟨by omega, by omega⟩
    rw [z3, z4, r.s (o := 112) (by decide) (by rw [eT]; exact hk1), r.s (o := 112) (by decide) (by rw [eT]; exact hk2)]
    have bag : (E 112 (40 * t + (s + m)) = 4 ∨ E 112 (40 * to + (o + m)) = 4) → Ok 237 5 [some (vR (some 99)), some (vI t), some (vI s), some (vI n), some (vI to), some (vI o), some (vI m), none, none, none, none] [] (si h 99 38 (-2)) Q := fun q => by
      refine stop _ (-2) hF ?_ (by omega) ((f.mono (by decide) (by decide)).si (Or.inr (by decide))) ?_ (r.si (Or.inr (Or.inr (by decide)))) gi_si_e ?_ ?_
      · unfold cyF
        rw [f109, f109', if_neg hl, if_neg (fun q => q.elim (fun a => a i1) (fun a => a i2)), if_pos q]
      · exact Fnd_no (by rw [gi_si_r (by decide)]; exact f.row (by decide) (by decide)) (by omega)
      · rw [gi_si_k (by decide)]; exact f.1 99 31 (by decide) (by decide)
      · rw [gi_si_r (by decide)]; exact f.row (by decide) (by decide)
    refine ⟨by omega, fun c7 => bag (Or.inl c7), fun c7 => ⟨by omega, fun c8 => ⟨fun c9 => ⟨by omega, ?_⟩, fun c9 => ?_⟩, fun c8 => bag (Or.inr (by omega))⟩⟩
    · have ec : cyF E t (s + m) to (o + m) = 0 := by
        unfold cyF
        rw [f109, f109', if_neg hl, if_neg (fun q => q.elim (fun a => a i1) (fun a => a i2)), if_neg (fun q => q.elim c7 c8)]
      rw [ec, if_neg (by omega)] at cont
      have es : cyS E t (s + m) to (o + m) = E := if_pos c9
      rw [es] at cont
      exact ih h (m + 1) E (by omega) (by omega) (by omega) hF r e f h38 cont
    · have ec : cyF E t (s + m) to (o + m) = 0 := by
        unfold cyF
        rw [f109, f109', if_neg hl, if_neg (fun q => q.elim (fun a => a i1) (fun a => a i2)), if_neg (fun q => q.elim c7 c8)]
      rw [ec, if_neg (by omega)] at cont
      have es : cyS E t (s + m) to (o + m) = sLay E (40 * t + (s + m)) (40 * to + (o + m)) := if_neg c9
      rw [es] at cont
      refine m_lay hF ⟨by omega, by omega⟩ ⟨by omega, by omega⟩ c9 ⟨rfl, hF.sg, by omega, ?_⟩ none
      refine ih _ (m + 1) _ (by omega) (by omega) (by omega) hF.sg (sLay_rm r (by rw [eT]; exact hk1) (by rw [eT]; exact hk2) c9 e.2) (CpE_lay e hk1) (f.trans sLay_fr) ?_ cont
      rw [gi_sg, sLay_o (by omega)]
      exact h38
def cyp (D : DD) (t s n to o : Int) : Int × Int × DD := cyGo t s to o n.toNat 0 D
theorem m_doCopy {h : AH} {Q : Option AV → AH → Prop} {D : DD} {t s n to o : Int} (hF : Fix h) (r : RM h D) (w : WF D) (hb : Fb h) (ht : In (D 99 11) t) (ht2 : In (D 99 11) to) (hs : R32 s) (ho : R32 o) (hn : 0 ≤ n ∧ n ≤ 40)
    (cont : ∀ h', CpP h h' (cyp D t s n to o) → Q (some (vI (cyp D t s n to o).1)) h') : Ok 237 0 [some (vR (some 99)), some (vI t), some (vI s), some (vI n), some (vI to), some (vI o), none, none, none, none, none] [] h Q :=
  f_X12_doCopy_0 hF _ _ _ _ _ (m_doCopy_5 w hb ht ht2 hs ho hn _ _ 0 D (by rw [Int.sub_zero]) (by omega) hn.1 hF (r.si (Or.inr (Or.inr (by decide)))) ⟨fun _ _ _ => rfl, w.nt⟩ (Fr.refl.si (Or.inr (by decide))) gi_si_e cont)
