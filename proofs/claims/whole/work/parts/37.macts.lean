/-! bond -/
def sBond (D : DD) (a b : Int) : DD := fun o j => if o = 102 ∧ (0 ≤ j ∧ j < D 99 1) ∧ (D 102 j = D 102 a ∨ D 102 j = D 102 b) then (if D 102 a < D 102 b then D 102 a else D 102 b) else D o j
def aBond (D : DD) (a b x : Int) : Prop := D 102 a = D 102 b ∧ x = 0 ∨ D 102 a ≠ D 102 b ∧ Rch (D 99 7) (dla D) (dea D) (D 102 a) (D 102 b) ∧ x = -4 ∨
  D 102 a ≠ D 102 b ∧ ¬ Rch (D 99 7) (dla D) (dea D) (D 102 a) (D 102 b) ∧ Rch (D 99 7) (dla D) (dea D) (D 102 b) (D 102 a) ∧ x = -4 ∨
  D 102 a ≠ D 102 b ∧ ¬ Rch (D 99 7) (dla D) (dea D) (D 102 a) (D 102 b) ∧ ¬ Rch (D 99 7) (dla D) (dea D) (D 102 b) (D 102 a) ∧ x = 1
theorem m_doBond_44 {Q : Option AV → AH → Prop} {h0 : AH} {g : Int → Int} {a b x y l n : Int} (hn : 0 ≤ n ∧ n ≤ 100) (k : Nat) : ∀ (h : AH) (u : Int), (n - u).toNat = k → Fix h → gi h 99 1 = n → 0 ≤ u → u ≤ n → Fr [102] [] h0 h → (∀ j, (0 ≤ j ∧ j < u ∧ (g j = x ∨ g j = y) → gi h 102 j = l) ∧ (¬ (0 ≤ j ∧ j < u ∧ (g j = x ∨ g j = y)) → gi h 102 j = g j)) →
    (∀ h', Fr [102] [] h0 h' → (∀ j, (In n j ∧ (g j = x ∨ g j = y) → gi h' 102 j = l) ∧ (¬ (In n j ∧ (g j = x ∨ g j = y)) → gi h' 102 j = g j)) → Q (some (vI 1)) (si h' 99 37 1)) →
    Ok 220 44 [some (vR (some 99)), some (vI a), some (vI b), some (vI x), some (vI y), some (vI l), some (vI u)] [] h Q := by
  induction k using Nat.strongRecOn with
  | ind k ih =>
    intro h u hk hF hn1 u0 un hfr hI cont
    have hu := (hI u).2 (by omega)
    have nxt : ∀ v, ((g u = x ∨ g u = y) → v = l) → (¬ (g u = x ∨ g u = y) → v = g u) → ¬ n ≤ u → Ok 220 44 [some (vR (some 99)), some (vI a), some (vI b), some (vI x), some (vI y), some (vI l), some (vI (u + 1))] [] (si h 102 u v) Q := fun v h1 h2 hc => by
      have f1 : Fr [102] [] h (si h 102 u v) := Fr.refl.si (Or.inl (by decide))
      refine ih _ (by omega) _ (u + 1) rfl (hF.fr f1) (by rw [gi_si_o (by decide)]; exact hn1) (by omega) (by omega) (hfr.trans f1) (fun j => ?_) cont
      rw [gi_si_f]
      by_cases hj : j = u
      · subst hj
        rw [uq_e]
        exact ⟨fun q => h1 q.2.2, fun q => h2 (fun q' => q ⟨u0, by omega, q'⟩)⟩
      · rw [uq_o hj]
        exact ⟨fun q => (hI j).1 ⟨q.1, by omega, q.2.2⟩, fun q => (hI j).2 (fun q' => q ⟨q'.1, by omega, q'.2.2⟩)⟩
    refine f_X12_doBond_44 hF _ _ _ _ _ _ ?_
    rw [hn1]
    refine ⟨fun c => ?_, fun c => ⟨by omega, fun c1 => ⟨by omega, ?_⟩, fun c1 => ⟨fun c2 => ⟨by omega, ?_⟩, fun c2 => ⟨by omega, ?_⟩⟩⟩⟩
    · have e : u = n := by omega
      subst e
      exact cont h hfr (fun j => ⟨fun q => (hI j).1 ⟨q.1.1, q.1.2, q.2⟩, fun q => (hI j).2 (fun q' => q ⟨⟨q'.1, q'.2.1⟩, q'.2.2⟩)⟩)
    · exact nxt l (fun _ => rfl) (fun q => absurd (Or.inl (by omega)) q) c
    · exact nxt _ (fun q => by rcases q with q | q <;> omega) (fun _ => hu) c
    · exact nxt l (fun _ => rfl) (fun q => absurd (Or.inr (by omega)) q) c
theorem m_doBond {h : AH} {Q : Option AV → AH → Prop} {D : DD} {a b : Int} (hF : Fix h) (r : RM h D) (w : WF D) (ha : In (D 99 1) a) (hbb : In (D 99 1) b)
    (cont : ∀ h' x, aBond D a b x → DoP h h' D x x (sBond D a b) (x = 1) → (x = -4 → (Rch (D 99 7) (dla D) (dea D) (D 102 a) (D 102 b) → dRing D h' a b) ∧ (¬ Rch (D 99 7) (dla D) (dea D) (D 102 a) (D 102 b) → dRing D h' b a)) → Q (some (vI x)) h') :
    ∀ y1 y2 y3 y4, Ok 220 0 [some (vR (some 99)), some (vI a), some (vI b), y1, y2, y3, y4] [] h Q := by
  intro y1 y2 y3 y4
  have c0 := w.1
  unfold Wc at c0
  obtain ⟨rk, hk, hk2⟩ := w.rk
  have a0 := ha.1
  have a1 := ha.2
  have b0 := hbb.1
  have b1 := hbb.2
  have hG := r.gv w
  refine Ok.le (lle_s (lle_s (lle_s (lle_n (lle_n (lle_n (lle_n lle_0))))))) (f_X12_doBond_0 hF _ _ ?_)
  rw [r.u (o := 102) (by decide) ha, r.u (o := 102) (by decide) hbb]
  refine ⟨by omega, by omega, fun c => ?_, fun c => ?_⟩
  · refine m_isLater hk hk2 (w.blk ha) (w.blk hbb) hF hG (fun h1 x1 f1 hx1 => ⟨x1, rfl, hF.fr f1, fun c1 => ?_, fun c1 => ?_⟩)
    · have n1 : ¬ Rch (D 99 7) (dla D) (dea D) (D 102 a) (D 102 b) := by rcases hx1 with q | q; omega; exact q.2
      refine m_isLater hk hk2 (w.blk hbb) (w.blk ha) (hF.fr f1) (hG.fr f1 (by decide)) (fun h2 x2 f2 hx2 => ⟨x2, rfl, (hF.fr f1).fr f2, fun c2 => ?_, fun c2 => ?_⟩)
      · have n2 : ¬ Rch (D 99 7) (dla D) (dea D) (D 102 b) (D 102 a) := by rcases hx2 with q | q; omega; exact q.2
        have f12 := f1.trans f2
        have r2 := r.fr f12 (by decide) (by decide)
        have fin : ∀ l, l = (if D 102 a < D 102 b then D 102 a else D 102 b) → Ok 220 44 [some (vR (some 99)), some (vI a), some (vI b), some (vI (D 102 a)), some (vI (D 102 b)), some (vI l), some (vI 0)] [] h2 Q := fun l hl => by
          refine m_doBond_44 (g := gi h2 102) (n := D 99 1) ⟨c0.1, c0.2.1⟩ _ h2 0 rfl ((hF.fr f1).fr f2) r2.n (by omega) (by omega) Fr.refl (fun j => ⟨fun q => by omega, fun _ => rfl⟩) (fun h' f3 p => ?_)
          have hfr : Fr (dL.filter (fun o => o != 120 && o != 122)) [(99, 1), (99, 7), (99, 11), (99, 22), (99, 37), (99, 38)] h (si h' 99 37 1) := ((f12.mono (by decide) (by decide)).trans (f3.mono (by decide) (by decide))).si (Or.inr (by decide))
          refine cont _ 1 (Or.inr (Or.inr (Or.inr ⟨c, n1, n2, rfl⟩))) (DoP_done ?_ hfr gi_si_e (by omega) rfl) (fun q => by omega)
          intro o j q
          rw [gi_si_p, if_neg (fun q' => by obtain ⟨rfl, rfl⟩ := q'; exact Us_off q (Or.inr (Or.inr (by decide))))]
          have q0 : Us D o j := by
            rcases Us_iff.mp q with q1 | ⟨q0, q1⟩
            · exact Us_iff.mpr (Or.inl q1)
            · exact Us_iff.mpr (Or.inr ⟨q0, UsL_same q1 rfl (fun k' hk' q' => ⟨q', Int.le_refl _⟩)⟩)
          by_cases ho : o = 102
          · subst ho
            have hj : In (D 99 1) j := by
              rcases Us_iff.mp q0 with q1 | q1
              · unfold UsN at q1
                rcases q1 with q1 | q1 | q1 | q1 | q1 | q1 | q1
                · omega
                · exact ⟨q1.2.2.1, q1.2.2.2⟩
                all_goals omega
              · omega
            have ej := r2.u (o := 102) (by decide) hj
            unfold sBond
            by_cases hc : D 102 j = D 102 a ∨ D 102 j = D 102 b
            · rw [if_pos ⟨rfl, hj, hc⟩, ← hl]
              exact (p j).1 ⟨hj, by rw [ej]; exact hc⟩
            · rw [if_neg (fun q => hc q.2.2), ← ej]
              exact (p j).2 (fun q => hc (by rw [← ej]; exact q.2))
          · have e1 : gi h' o j = gi h2 o j := f3.1 o j (by simpa using ho) (by simp)
            rw [e1]
            show gi h2 o j = if o = 102 ∧ _ then _ else D o j
            rw [if_neg (fun q => ho q.1)]
            exact r2 o j q0
        refine ⟨fun c3 => fin _ (by rw [if_neg (by omega)]), fun c3 => fin _ (by rw [if_pos (by omega)])⟩
      · have y2 : Rch (D 99 7) (dla D) (dea D) (D 102 b) (D 102 a) := by rcases hx2 with q | q; exact q.2; omega
        refine m_closes hk hk2 (w.blk hbb) (w.blk ha) (Or.inr y2) ((hF.fr f1).fr f2) ((hG.fr f1 (by decide)).fr f2 (by decide)) (fun h' f3 p1 => ⟨_, rfl, ((hF.fr f1).fr f2).fr f3, ?_⟩)
        exact cont h' _ (Or.inr (Or.inr (Or.inl ⟨c, n1, y2, rfl⟩))) (DoP_ring r (((f1.trans f2).mono (by decide) (by decide)).trans f3) (by omega)) (fun _ => ⟨fun q => absurd q n1, fun _ => p1⟩)
    · have y1 : Rch (D 99 7) (dla D) (dea D) (D 102 a) (D 102 b) := by rcases hx1 with q | q; exact q.2; omega
      refine m_closes hk hk2 (w.blk ha) (w.blk hbb) (Or.inr y1) (hF.fr f1) (hG.fr f1 (by decide)) (fun h' f3 p1 => ⟨_, rfl, (hF.fr f1).fr f3, ?_⟩)
      exact cont h' _ (Or.inr (Or.inl ⟨c, y1, rfl⟩)) (DoP_ring r ((f1.mono (by decide) (by decide)).trans f3) (by omega)) (fun _ => ⟨fun _ => p1, fun q => absurd y1 q⟩)
  · exact cont h 0 (Or.inl ⟨by omega, rfl⟩) (DoP_same r Fr.refl (by omega) (by omega)) (fun q => by omega)
/-! slots -/
def emp (G : DD) (k : Int) : DD := fun o j => if o = 112 ∧ j = k then -5 else if (o = 113 ∨ o = 114 ∨ o = 115) ∧ j = k then 0 else if o = 116 ∧ 8 * k ≤ j ∧ j < 8 * k + 8 then 0 else G o j
theorem m_empty_24 {Q : Option AV → AH → Prop} {h : AH} {k : Int} (hk : 0 ≤ k ∧ k < 2400) (m : Nat) : ∀ (G : DD) (i : Int), (8 * k + 8 - i).toNat = m → Fix h → 8 * k ≤ i → i ≤ 8 * k + 8 → Q none (sg h (fun o j => if o = 116 ∧ i ≤ j ∧ j < 8 * k + 8 then 0 else G o j)) → Ok 222 24 [some (vR (some 99)), some (vI k), some (vI i)] [] (sg h G) Q := by
  induction m using Nat.strongRecOn with
  | ind m ih =>
    intro G i hm hF i0 i1 cont
    refine f_X12_empty_24 hF.sg _ _ ⟨by omega, by omega, fun c => ?_, fun c => ⟨by omega, by omega, ?_⟩⟩
    · have e : (fun o j => if o = 116 ∧ i ≤ j ∧ j < 8 * k + 8 then 0 else G o j) = G := by
        funext o j
        rw [if_neg (by omega)]
      rw [e] at cont
      exact cont
    · rw [si_sg, sg_sg, gi_sg]
      refine ih _ (by omega) _ (i + 1) rfl hF (by omega) (by omega) ?_
      have e : (fun o j => if o = 116 ∧ i + 1 ≤ j ∧ j < 8 * k + 8 then 0 else up G 116 i 0 o j) = (fun o j => if o = 116 ∧ i ≤ j ∧ j < 8 * k + 8 then 0 else G o j) := by
        funext o j
        unfold up
        by_cases h1 : o = 116 ∧ i ≤ j ∧ j < 8 * k + 8
        · rw [if_pos h1]
          by_cases h2 : j = i
          · rw [if_neg (by omega), if_pos ⟨h1.1, h2⟩]
          · rw [if_pos (by omega)]
        · rw [if_neg h1, if_neg (by omega), if_neg (by omega)]
      rw [e]
      exact cont
theorem m_empty {h : AH} {Q : Option AV → AH → Prop} {k : Int} (hF : Fix h) (hk : 0 ≤ k ∧ k < 2400) (cont : Q none (sg h (emp (gi h) k))) : ∀ y, Ok 222 0 [some (vR (some 99)), some (vI k), y] [] h Q := by
  intro y
  refine Ok.le (lle_s (lle_s (lle_n lle_0))) (f_X12_empty_0 hF _ ⟨hk, by omega, ?_⟩)
  show Ok 222 24 _ [] (sg h (up (up (up (up (gi h) 112 k (-5)) 113 k 0) 114 k 0) 115 k 0)) Q
  refine m_empty_24 hk _ _ _ rfl hF (by omega) (by omega) ?_
  have e : (fun o j => if o = 116 ∧ 8 * k ≤ j ∧ j < 8 * k + 8 then 0 else up (up (up (up (gi h) 112 k (-5)) 113 k 0) 114 k 0) 115 k 0 o j) = emp (gi h) k := by
    funext o j
    unfold emp up
    by_cases h1 : o = 116 ∧ 8 * k ≤ j ∧ j < 8 * k + 8
    · rw [if_pos h1, if_neg (by omega), if_neg (by omega), if_pos h1]
    · rw [if_neg h1]
      by_cases hj : j = k
      · by_cases h2 : o = 112
        · rw [if_neg (by omega), if_neg (by omega), if_neg (by omega), if_pos ⟨h2, hj⟩, if_pos ⟨h2, hj⟩]
        · rw [if_neg (c := o = 112 ∧ j = k) (by omega), if_neg (c := o = 112 ∧ j = k) (by omega)]
          by_cases h3 : o = 113 ∨ o = 114 ∨ o = 115
          · rw [if_pos (c := (o = 113 ∨ o = 114 ∨ o = 115) ∧ j = k) ⟨h3, hj⟩]
            rcases h3 with h3 | h3 | h3 <;> subst h3 <;> subst hj <;> simp
          · rw [if_neg (c := (o = 113 ∨ o = 114 ∨ o = 115) ∧ j = k) (fun q => h3 q.1), if_neg h1, if_neg (by omega), if_neg (by omega), if_neg (by omega)]
      · rw [if_neg (by omega), if_neg (by omega), if_neg (by omega), if_neg (by omega), if_neg (by omega), if_neg (fun q => hj q.2), if_neg h1]
  rw [e]
  exact cont
def slotF (D : DD) (t s : Int) : Int := if D 109 t < 0 then 1 else if 0 ≤ s ∧ s < D 109 t then 0 else 2
def heldF (D : DD) (t s kd : Int) : Int := if slotF D t s ≠ 0 then slotF D t s else if D 112 (40 * t + s) = -5 then 1 else if kd = -5 ∨ D 112 (40 * t + s) = kd then 0 else 3
theorem slotF_rng (D : DD) (t s : Int) : slotF D t s = 0 ∨ slotF D t s = 1 ∨ slotF D t s = 2 := by
  unfold slotF
  split
  · omega
  · split <;> omega
theorem slotF_0 {D : DD} {t s : Int} (h : slotF D t s = 0) : In (D 109 t) s := by
  unfold slotF at h
  split at h
  · omega
  · split at h
    · assumption
    · omega
theorem slotF_k {D : DD} (w : WF D) {t s : Int} (ht : In (D 99 11) t) (h : slotF D t s = 0) : In (40 * D 99 11) (40 * t + s) ∧ 40 * t + s < 2400 := by
  have h1 := slotF_0 h
  have h2 := (w.2.2.2.1 t ht).2.1
  have c0 := w.1
  unfold Wc at c0
  have t0 := ht.1
  have t1 := ht.2
  have s0 := h1.1
  have s1 := h1.2
  exact ⟨⟨by omega, by omega⟩, by omega⟩
theorem m_slotFault {h : AH} {Q : Option AV → AH → Prop} {D : DD} {t s : Int} (hF : Fix h) (r : RM h D) (w : WF D) (ht : In (D 99 11) t) (cont : Q (some (vI (slotF D t s))) h) : Ok 226 0 [some (vR (some 99)), some (vI t), some (vI s)] [] h Q := by
  have c0 := w.1
  unfold Wc at c0
  have t0 := ht.1
  have t1 := ht.2
  have h2 := (w.2.2.2.1 t ht).2.1
  refine f_X12_slotFault_0 hF _ _ ?_
  rw [r.t (o := 109) (by decide) ht]
  unfold slotF at cont
  refine ⟨by omega, fun c => ⟨by omega, fun c1 => ?_, fun c1 => ⟨fun c2 => ?_, fun c2 => ?_⟩⟩, fun c => ?_⟩
  · rw [if_neg (by omega), if_neg (by omega)] at cont; exact cont
  · rw [if_neg (by omega), if_neg (by omega)] at cont; exact cont
  · rw [if_neg (by omega), if_pos (by omega)] at cont; exact cont
  · rw [if_pos (by omega)] at cont; exact cont
theorem m_heldFault {h : AH} {Q : Option AV → AH → Prop} {D : DD} {t s kd : Int} (hF : Fix h) (r : RM h D) (w : WF D) (ht : In (D 99 11) t) (cont : Q (some (vI (heldF D t s kd))) h) : ∀ y1 y2, Ok 227 0 [some (vR (some 99)), some (vI t), some (vI s), some (vI kd), y1, y2] [] h Q := by
  intro y1 y2
  have c0 := w.1
  unfold Wc at c0
  have t0 := ht.1
  have t1 := ht.2
  refine Ok.le (lle_s (lle_s (lle_s (lle_s (lle_n (lle_n lle_0)))))) (f_X12_heldFault_0 hF _ _ _ (m_slotFault hF r w ht ⟨_, rfl, hF, fun c => ?_, fun c => ?_⟩))
  · obtain ⟨hk, hk2⟩ := slotF_k w ht c
    have k0 := hk.1
    have s1 := slotF_0 c
    have s2 := s1.1
    rw [r.s (o := 112) (by decide) hk]
    unfold heldF at cont
    rw [if_neg (by omega)] at cont
    refine ⟨by omega, by omega, ⟨k0, hk2⟩, fun c1 => ⟨fun c2 => ?_, fun c2 => ⟨fun c3 => ?_, fun c3 => ?_⟩⟩, fun c1 => ?_⟩
    · rw [if_neg c1, if_pos (Or.inl c2)] at cont; exact cont
    · rw [if_neg c1, if_pos (Or.inr c3)] at cont; exact cont
    · rw [if_neg c1, if_neg (fun q => q.elim c2 c3)] at cont; exact cont
    · rw [if_pos (by omega)] at cont; exact cont
  · unfold heldF at cont
    rw [if_pos c] at cont
    exact cont
theorem heldF_rng (D : DD) (t s kd : Int) : 0 ≤ heldF D t s kd ∧ heldF D t s kd ≤ 3 := by
  unfold heldF
  have := slotF_rng D t s
  split
  · omega
  · split
    · omega
    · split <;> omega
theorem heldF_0 {D : DD} {t s kd : Int} (h : heldF D t s kd = 0) : slotF D t s = 0 ∧ D 112 (40 * t + s) ≠ -5 ∧ (kd = -5 ∨ D 112 (40 * t + s) = kd) := by
  unfold heldF at h
  split at h
  · omega
  · split at h
    · omega
    · split at h
      · exact ⟨by omega, by assumption, by assumption⟩
      · omega
