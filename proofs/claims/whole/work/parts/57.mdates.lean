/-! all bounds -/
def dB0 (D : DD) : DD := fun o k => if o = 129 then (if k < 100 then D 103 k else D 104 (k - 100)) else -5
noncomputable def dtS (D B : DD) (t u : Int) : Nat → DD
  | 0 => B
  | m + 1 => bbS D (dtS D B t u m) t m u
noncomputable def dtT (D : DD) : Nat → DD
  | 0 => dB0 D
  | t + 1 => if uo D t = -5 then dtT D t else dtS D (dtT D t) t (uo D t) (D 109 t).toNat
noncomputable def dts (D : DD) : DD := dtT D (D 99 11).toNat
theorem uo_rng {D : DD} (w : WF D) : ∀ (k : Nat) (t : Int), In (D 99 11) t → uoN D k t = -5 ∨ In (D 99 1) (uoN D k t)
  | 0, t, ht => (w.2.2.2.1 t ht).1
  | k + 1, t, ht => by
    unfold uoN
    split
    · exact (w.2.2.2.1 t ht).1
    · rename_i h5
      rcases (w.2.2.2.1 t ht).2.2 with q | q
      · exact absurd q h5
      · exact uo_rng w k _ q.1
theorem m_dates_62 {Q : Option AV → AH → Prop} {D B : DD} {h0 : AH} {t u : Int} (w : WF D) (ht : In (D 99 11) t) (hu : u = -5 ∨ In (D 99 1) u) (k : Nat) :
    ∀ (h : AH) (s : Nat), (D 109 t - s).toNat = k → ((s : Int) ≤ D 109 t ∨ s = 0) → Fix h → RM h D → Fr [129, 130, 131] [] h0 h → RB h (D 99 1) (if u = -5 then B else dtS D B t u s) →
    (∀ h', Fix h' → Fr [129, 130, 131] [] h0 h' → RM h' D → RB h' (D 99 1) (if u = -5 then B else dtS D B t u (D 109 t).toNat) → Ok 280 52 [some (vR (some 99)), some (vI (t + 1)), none, none] [] h' Q) →
    Ok 280 62 [some (vR (some 99)), some (vI t), some (vI u), some (vI s)] [] h Q := by
  have c0 := w.1
  unfold Wc at c0
  have t0 := ht.1
  have t1 := ht.2
  have h2 := (w.2.2.2.1 t ht).2.1
  induction k using Nat.strongRecOn with
  | ind k ih =>
    intro h s hk hs hF r f rb cont
    refine f_X12_dates_62 hF _ _ _ ?_
    rw [r.t (o := 109) (by decide) ht]
    refine ⟨by omega, fun c => ⟨by omega, cont h hF f r ?_⟩, fun c => ⟨fun c1 => ⟨by omega, cont h hF f r ?_⟩, fun c1 => ?_⟩⟩
    · have e : s = (D 109 t).toNat := by omega
      rw [← e]; exact rb
    · rw [if_pos c1] at rb ⊢; exact rb
    · rw [if_neg c1] at rb
      have hsx : In (D 109 t) s := ⟨by omega, by omega⟩
      refine m_bindBy hF r w rb ht hsx (hu.resolve_left c1) (fun h1 hF1 f1 rb1 => ⟨rfl, hF1, by omega, ?_⟩)
      have e : ((s : Int) + 1) = ((s + 1 : Nat) : Int) := by push_cast; rfl
      rw [e]
      refine ih _ (by omega) h1 (s + 1) rfl (by omega) hF1 (r.fr f1 (by decide) (by decide)) (f.trans f1) ?_ cont
      rw [if_neg c1]; exact rb1
theorem m_dates_52 {Q : Option AV → AH → Prop} {D : DD} {h0 : AH} (w : WF D) (k : Nat) :
    ∀ (h : AH) (t : Nat), (D 99 11 - t).toNat = k → (t : Int) ≤ D 99 11 → Fix h → RM h D → Fr [129, 130, 131] [] h0 h → RB h (D 99 1) (dtT D t) →
    (∀ h', Fix h' → Fr [129, 130, 131] [] h0 h' → RM h' D → RB h' (D 99 1) (dts D) → Q none h') → Ok 280 52 [some (vR (some 99)), some (vI t), none, none] [] h Q := by
  have c0 := w.1
  unfold Wc at c0
  induction k using Nat.strongRecOn with
  | ind k ih =>
    intro h t hk ht hF r f rb cont
    refine f_X12_dates_52 hF _ ?_
    rw [r.T]
    refine ⟨fun c => cont h hF f r ?_, fun c => ?_⟩
    · have e : t = (D 99 11).toNat := by omega
      unfold dts
      rw [← e]; exact rb
    · have hti : In (D 99 11) t := ⟨by omega, by omega⟩
      have hu := uo_rng w 60 (t : Int) hti
      refine m_unitOf hF r w hti ⟨_, rfl, hF, ?_⟩ none
      refine m_dates_62 (B := dtT D t) (h0 := h0) w hti hu _ h 0 rfl (Or.inr rfl) hF r f ?_ (fun h1 hF1 f1 r1 rb1 => ?_)
      · show RB h (D 99 1) (if uo D t = -5 then dtT D t else dtT D t)
        rw [ite_self]; exact rb
      · have e : ((t : Int) + 1) = ((t + 1 : Nat) : Int) := by push_cast; rfl
        rw [e]
        exact ih _ (by omega) h1 (t + 1) rfl (by omega) hF1 r1 f1 rb1 cont
theorem m_dates_2 {Q : Option AV → AH → Prop} {D : DD} {h0 : AH} (w : WF D) (k : Nat) :
    ∀ (h : AH) (u : Int), (D 99 1 - u).toNat = k → 0 ≤ u → u ≤ D 99 1 → Fix h → RM h D → Fr [129, 130, 131] [] h0 h → (∀ o v, 129 ≤ o ∧ o ≤ 131 → 0 ≤ v → v < u → gi h o v = dB0 D o v ∧ gi h o (100 + v) = dB0 D o (100 + v)) →
    (∀ h', Fix h' → Fr [129, 130, 131] [] h0 h' → RM h' D → RB h' (D 99 1) (dts D) → Q none h') → Ok 280 2 [some (vR (some 99)), some (vI u), none, none] [] h Q := by
  have c0 := w.1
  unfold Wc at c0
  induction k using Nat.strongRecOn with
  | ind k ih =>
    intro h u hk u0 u1 hF r f hB cont
    refine f_X12_dates_2 hF _ ?_
    rw [r.n]
    refine ⟨fun c => ?_, fun c => ?_⟩
    · refine m_dates_52 (h0 := h0) w _ h 0 rfl (by omega) hF r f (fun o k h1 h2 => ?_) cont
      rcases h2 with h2 | h2
      · exact (hB o k h1 h2.1 (by have := h2.2; omega)).1
      · have := (hB o (k - 100) h1 h2.1 (by have := h2.2; omega)).2
        have e : 100 + (k - 100) = k := by omega
        rw [e] at this
        exact this
    · have hu : In (D 99 1) u := ⟨u0, by omega⟩
      rw [r.u (o := 103) (by decide) hu, r.u (o := 104) (by decide) hu]
      refine ⟨by omega, by omega, by omega, by omega, by omega, ?_⟩
      have f1 : Fr [129, 130, 131] [] h (si (si (si (si (si (si h 129 u (D 103 u)) 129 (100 + u) (D 104 u)) 130 u (-5)) 131 u (-5)) 130 (100 + u) (-5)) 131 (100 + u) (-5)) := (((((Fr.refl.si (Or.inl (by decide))).si (Or.inl (by decide))).si (Or.inl (by decide))).si (Or.inl (by decide))).si (Or.inl (by decide))).si (Or.inl (by decide))
      refine ih _ (by omega) _ (u + 1) rfl (by omega) (by omega) (hF.fr f1) (r.fr f1 (by decide) (by decide)) (f.trans f1) (fun o v h1 v0 v1 => ?_) cont
      have eo : o = 129 ∨ o = 130 ∨ o = 131 := by omega
      by_cases hv : v = u
      · subst hv
        rcases eo with rfl | rfl | rfl
        · constructor
          · rw [gi_si_o (by decide), gi_si_o (by decide), gi_si_o (by decide), gi_si_o (by decide), gi_si_k (by omega), gi_si_e]
            unfold dB0; rw [if_pos rfl, if_pos (by omega)]
          · rw [gi_si_o (by decide), gi_si_o (by decide), gi_si_o (by decide), gi_si_o (by decide), gi_si_e]
            unfold dB0; rw [if_pos rfl, if_neg (by omega)]; congr 1; omega
        · constructor
          · rw [gi_si_o (by decide), gi_si_k (by omega), gi_si_o (by decide), gi_si_e]; rfl
          · rw [gi_si_o (by decide), gi_si_e]; rfl
        · constructor
          · rw [gi_si_k (by omega), gi_si_o (by decide), gi_si_e]; rfl
          · rw [gi_si_e]; rfl
      · have hb := hB o v h1 v0 (by omega)
        rcases eo with rfl | rfl | rfl
        · constructor
          · rw [gi_si_o (by decide), gi_si_o (by decide), gi_si_o (by decide), gi_si_o (by decide), gi_si_k (by omega), gi_si_k (by omega)]; exact hb.1
          · rw [gi_si_o (by decide), gi_si_o (by decide), gi_si_o (by decide), gi_si_o (by decide), gi_si_k (by omega), gi_si_k (by omega)]; exact hb.2
        · constructor
          · rw [gi_si_o (by decide), gi_si_k (by omega), gi_si_o (by decide), gi_si_k (by omega), gi_si_o (by decide), gi_si_o (by decide)]; exact hb.1
          · rw [gi_si_o (by decide), gi_si_k (by omega), gi_si_o (by decide), gi_si_k (by omega), gi_si_o (by decide), gi_si_o (by decide)]; exact hb.2
        · constructor
          · rw [gi_si_k (by omega), gi_si_o (by decide), gi_si_k (by omega), gi_si_o (by decide), gi_si_o (by decide), gi_si_o (by decide)]; exact hb.1
          · rw [gi_si_k (by omega), gi_si_o (by decide), gi_si_k (by omega), gi_si_o (by decide), gi_si_o (by decide), gi_si_o (by decide)]; exact hb.2
theorem m_dates {h : AH} {Q : Option AV → AH → Prop} {D : DD} (hF : Fix h) (r : RM h D) (w : WF D) (cont : ∀ h', Fix h' → Fr [129, 130, 131] [] h h' → RM h' D → RB h' (D 99 1) (dts D) → Q none h') : Ok 280 0 [some (vR (some 99)), none, none, none] [] h Q :=
  f_X12_dates_0 hF (m_dates_2 (h0 := h) w _ h 0 rfl (by omega) w.1.1 hF r Fr.refl (fun o v _ v0 v1 => by omega) cont)
/-- unit x has the greatest bound from below (side 0), the least one from above (side 1), of block b; of like ones the first -/
def Best (D B : DD) (sd b x : Int) : Prop := In (D 99 1) x ∧ D 102 x = b ∧ ∀ v, In (D 99 1) v → D 102 v = b → (sd = 0 → B 129 v ≤ B 129 x ∧ (v < x → B 129 v < B 129 x)) ∧ (sd = 1 → B 129 (100 + x) ≤ B 129 (100 + v) ∧ (v < x → B 129 (100 + x) < B 129 (100 + v)))
theorem Best_uniq {D B : DD} {sd b x y : Int} (hs : sd = 0 ∨ sd = 1) (h : Best D B sd b x) (h' : Best D B sd b y) : x = y := by
  obtain ⟨a1, a2, a3⟩ := h
  obtain ⟨b1, b2, b3⟩ := h'
  have p := a3 y b1 b2
  have q := b3 x a1 a2
  rcases Int.lt_trichotomy x y with h | h | h
  · rcases hs with e | e
    · have := (p.1 e).1; have := (q.1 e).2 h; omega
    · have := (p.2 e).1; have := (q.2 e).2 h; omega
  · exact h
  · rcases hs with e | e
    · have := (p.1 e).2 h; have := (q.1 e).1; omega
    · have := (p.2 e).2 h; have := (q.2 e).1; omega
theorem m_bounder_4 {h : AH} {Q : Option AV → AH → Prop} {D B : DD} {sd b : Int} (hF : Fix h) (r : RM h D) (w : WF D) (rb : RB h (D 99 1) B) (hs : sd = 0 ∨ sd = 1) (hb : In (D 99 1) b) (hbb : D 102 b = b) (cont : ∀ x, Best D B sd b x → Q (some (vI x)) h) (k : Nat) :
    ∀ (u x : Int), (D 99 1 - u).toNat = k → 0 ≤ u → u ≤ D 99 1 → (x = -5 ∧ (∀ v, 0 ≤ v → v < u → D 102 v ≠ b) ∨ (0 ≤ x ∧ x < u) ∧ D 102 x = b ∧ ∀ v, 0 ≤ v → v < u → D 102 v = b → (sd = 0 → B 129 v ≤ B 129 x ∧ (v < x → B 129 v < B 129 x)) ∧ (sd = 1 → B 129 (100 + x) ≤ B 129 (100 + v) ∧ (v < x → B 129 (100 + x) < B 129 (100 + v)))) →
    Ok 281 4 [some (vR (some 99)), some (vI sd), some (vI b), some (vI x), some (vI u), none] [] h Q := by
  have c0 := w.1
  unfold Wc at c0
  induction k using Nat.strongRecOn with
  | ind k ih =>
    intro u x hk u0 u1 hI
    refine f_X12_bounder_4 hF _ _ _ _ ?_
    rw [r.n]
    refine ⟨fun c => cont x ?_, fun c => ?_⟩
    · have e : u = D 99 1 := by omega
      rcases hI with ⟨_, hI⟩ | ⟨h1, h2, h3⟩
      · exact absurd hbb (hI b hb.1 (by have := hb.2; omega))
      · exact ⟨⟨h1.1, by omega⟩, h2, fun v hv hvb => h3 v hv.1 (by have := hv.2; omega) hvb⟩
    · have hu : In (D 99 1) u := ⟨u0, by omega⟩
      have e102 := r.u (o := 102) (by decide) hu
      have eu : gi h 129 (100 * sd + u) = B 129 (100 * sd + u) := rb 129 _ (by omega) (by
        rcases hs with e | e
        · exact Or.inl ⟨by omega, by omega⟩
        · exact Or.inr ⟨by omega, by omega⟩)
      rw [e102, eu]
      refine ⟨by omega, by omega, by omega, by omega, fun c1 => ⟨by omega, ?_⟩, fun c1 => ⟨fun c2 => ⟨by omega, ?_⟩, fun c2 => ?_⟩⟩
      · refine ih _ (by omega) (u + 1) x rfl (by omega) (by omega) ?_
        rcases hI with ⟨h0, hI⟩ | ⟨h1, h2, h3⟩
        · refine Or.inl ⟨h0, fun v v0 v1 => ?_⟩
          by_cases hv : v = u
          · rw [hv]; exact c1
          · exact hI v v0 (by omega)
        · refine Or.inr ⟨by omega, h2, fun v v0 v1 hvb => ?_⟩
          by_cases hv : v = u
          · rw [hv] at hvb; exact absurd hvb c1
          · exact h3 v v0 (by omega) hvb
      · refine ih _ (by omega) (u + 1) u rfl (by omega) (by omega) (Or.inr ⟨by omega, by omega, fun v v0 v1 hvb => ?_⟩)
        rcases hI with ⟨_, hI⟩ | ⟨h1, _⟩
        · by_cases hv : v = u
          · subst hv; exact ⟨fun _ => ⟨by omega, fun q => by omega⟩, fun _ => ⟨by omega, fun q => by omega⟩⟩
          · exact absurd hvb (hI v v0 (by omega))
        · omega
      · obtain ⟨h1, h2, h3⟩ : (0 ≤ x ∧ x < u) ∧ D 102 x = b ∧ ∀ v, 0 ≤ v → v < u → D 102 v = b → (sd = 0 → B 129 v ≤ B 129 x ∧ (v < x → B 129 v < B 129 x)) ∧ (sd = 1 → B 129 (100 + x) ≤ B 129 (100 + v) ∧ (v < x → B 129 (100 + x) < B 129 (100 + v))) := by
          rcases hI with ⟨h0, _⟩ | hI
          · exact absurd h0 c2
          · exact hI
        have keep : (sd = 0 → B 129 u ≤ B 129 x) → (sd = 1 → B 129 (100 + x) ≤ B 129 (100 + u)) → Ok 281 4 [some (vR (some 99)), some (vI sd), some (vI b), some (vI x), some (vI (u + 1)), none] [] h Q := fun q0 q1 => by
          refine ih _ (by omega) (u + 1) x rfl (by omega) (by omega) (Or.inr ⟨by omega, h2, fun v v0 v1 hvb => ?_⟩)
          by_cases hv : v = u
          · subst hv; exact ⟨fun e => ⟨q0 e, fun q => by omega⟩, fun e => ⟨q1 e, fun q => by omega⟩⟩
          · exact h3 v v0 (by omega) hvb
        have take : (sd = 0 → B 129 x < B 129 u) → (sd = 1 → B 129 (100 + u) < B 129 (100 + x)) → Ok 281 4 [some (vR (some 99)), some (vI sd), some (vI b), some (vI u), some (vI (u + 1)), none] [] h Q := fun q0 q1 => by
          refine ih _ (by omega) (u + 1) u rfl (by omega) (by omega) (Or.inr ⟨by omega, by omega, fun v v0 v1 hvb => ?_⟩)
          by_cases hv : v = u
          · subst hv; exact ⟨fun _ => ⟨by omega, fun q => by omega⟩, fun _ => ⟨by omega, fun q => by omega⟩⟩
          · have h4 := h3 v v0 (by omega) hvb
            exact ⟨fun e => by have a := (h4.1 e).1; have b := q0 e; exact ⟨by omega, fun _ => by omega⟩, fun e => by have a := (h4.2 e).1; have b := q1 e; exact ⟨by omega, fun _ => by omega⟩⟩
        have ex0 : gi h 129 x = B 129 x := rb 129 _ (by omega) (Or.inl ⟨h1.1, by omega⟩)
        have ex1 : gi h 129 (100 + x) = B 129 (100 + x) := rb 129 _ (by omega) (Or.inr ⟨by omega, by omega⟩)
        rw [ex0, ex1]
        refine ⟨fun c3 => ?_, fun c3 => ?_⟩
        · have e1 : sd = 1 := by omega
          have e2 : 100 * sd + u = 100 + u := by omega
          rw [e2]
          exact ⟨by omega, by omega, fun c4 => ⟨by omega, keep (fun q => by omega) (fun _ => c4)⟩, fun c4 => ⟨by omega, take (fun q => by omega) (fun _ => by omega)⟩⟩
        · have e1 : sd = 0 := by omega
          have e2 : 100 * sd + u = u := by omega
          rw [e2]
          exact ⟨by omega, fun c4 => ⟨by omega, keep (fun _ => c4) (fun q => by omega)⟩, fun c4 => ⟨by omega, take (fun _ => by omega) (fun q => by omega)⟩⟩
theorem m_bounder {h : AH} {Q : Option AV → AH → Prop} {D B : DD} {sd b : Int} (hF : Fix h) (r : RM h D) (w : WF D) (rb : RB h (D 99 1) B) (hs : sd = 0 ∨ sd = 1) (hb : In (D 99 1) b) (hbb : D 102 b = b) (cont : ∀ x, Best D B sd b x → Q (some (vI x)) h) : Ok 281 0 [some (vR (some 99)), some (vI sd), some (vI b), none, none, none] [] h Q :=
  f_X12_bounder_0 hF _ _ (m_bounder_4 hF r w rb hs hb hbb cont _ 0 (-5) rfl (by omega) w.1.1 (Or.inl ⟨rfl, fun v v0 v1 => by omega⟩))
