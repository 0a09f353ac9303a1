theorem WF_note {D : DD} (w : WF D) {t s wd : Int} (ht : In (D 99 11) t) (ho : okL wd) (hl : 1 ≤ (lts wd 8).length) (hd : 0 ≤ oNote D t s wd) : WF (sNote D t s wd) := by
  have hr := slotF_rng D t s
  have hh : slotF D t s = 0 ∧ (D 112 (40 * t + s) = -5 ∨ D 112 (40 * t + s) = 3) ∧ had D (40 * t + s) + (lts wd 8).length ≤ 40 := by
    unfold oNote at hd
    split at hd
    · omega
    · split at hd
      · omega
      · split at hd
        · omega
        · rename_i h1 h2 h3
          exact ⟨by omega, by omega, by omega⟩
  obtain ⟨h1, h2, h3⟩ := hh
  have hs := slotF_0 h1
  have ws := w.2.2.2.2.2.1 t s ht hs
  have ws0 := ws
  unfold Ws1 at ws0
  obtain ⟨a1, a2, a3, a4, a5, a6, a7, a8⟩ := ws0
  have hr : 0 ≤ had D (40 * t + s) ∧ (D 112 (40 * t + s) = -5 → had D (40 * t + s) = 0) ∧ (D 112 (40 * t + s) = 3 → had D (40 * t + s) = D 114 (40 * t + s)) := by
    unfold had
    split
    · exact ⟨Int.le_refl _, fun _ => rfl, fun q => by omega⟩
    · refine ⟨?_, fun q => by omega, fun _ => rfl⟩
      have := (a7 (by omega)).1
      omega
  obtain ⟨r1, r2, r3⟩ := hr
  have ec : ∀ c, c ≠ 37 → sNote D t s wd 99 c = D 99 c := fun c hc => by unfold sNote; rw [up_k hc, up_o (by decide), apL_o (by decide), up_o (by decide)]
  have er : ∀ o, o ≠ 99 → o ≠ 112 → o ≠ 114 → o ≠ 117 → sNote D t s wd o = D o := fun o b1 b2 b3 b4 => funext fun j => by unfold sNote; rw [up_o b1, up_o b3, apL_o b4, up_o b2]
  have e112 : sNote D t s wd 112 (40 * t + s) = 3 := by unfold sNote; rw [up_o (by decide), up_o (by decide), apL_o (by decide), up_e]
  have e114 : sNote D t s wd 114 (40 * t + s) = had D (40 * t + s) + (lts wd 8).length := by unfold sNote; rw [up_o (by decide), up_e]
  have e117 : ∀ i, sNote D t s wd 117 i = apL (up D 112 (40 * t + s) 3) (40 * (40 * t + s) + had D (40 * t + s)) (lts wd 8) 117 i := fun i => by unfold sNote; rw [up_o (by decide), up_o (by decide)]
  refine WF_slot w ht hs (fun c hc => ec c (by omega)) (fun o b1 b2 => er o b1 (by omega) (by omega) (by omega)) (fun o k b1 b2 hk => ?_) (fun i _ => by rw [er 116 (by decide) (by decide) (by decide) (by decide)]) (fun i hi => ?_) (by omega) ?_
  · unfold sNote
    rw [up_o (by omega)]
    by_cases b3 : o = 114
    · subst b3; rw [up_k hk, apL_o (by decide), up_o (by decide)]
    · rw [up_o b3, apL_o (by omega)]
      by_cases b4 : o = 112
      · subst b4; rw [up_k hk]
      · rw [up_o b4]
  · rw [e117]
    by_cases hi2 : i < 40 * (40 * t + s)
    · rw [apL_lt _ _ _ (by omega), up_o (by decide)]
    · rw [apL_ge _ _ _ (by omega), up_o (by decide)]
  · unfold Ws1
    rw [e112, e114, er 113 (by decide) (by decide) (by decide) (by decide), er 115 (by decide) (by decide) (by decide) (by decide), er 116 (by decide) (by decide) (by decide) (by decide)]
    refine ⟨by omega, a2, fun q => by have := a3 q; omega, fun i hi => ?_, fun q => by omega, fun q => by omega, fun _ => ⟨by omega, fun i hi => ?_⟩, fun q => by omega⟩
    · have := a4 i hi
      exact ⟨this.1, this.2.1, fun _ => this.2.2 (by omega)⟩
    · have i0 := hi.1
      have i1 := hi.2
      rw [e117]
      by_cases hi2 : i < had D (40 * t + s)
      · have h3 : D 112 (40 * t + s) = 3 := by
          rcases h2 with h | h
          · have := r2 h; omega
          · exact h
        have hi3 := r3 h3
        rw [apL_lt _ _ _ (by omega), up_o (by decide)]
        exact (a7 h3).2 i ⟨i0, by omega⟩
      · have hj : (i - had D (40 * t + s)).toNat < (lts wd 8).length := by omega
        have e : 40 * (40 * t + s) + i = 40 * (40 * t + s) + had D (40 * t + s) + ((i - had D (40 * t + s)).toNat : Int) := by omega
        rw [e, apL_in _ _ _ _ hj]
        exact lts_ok ho 8 (Nat.le_refl _) _ (List.getElem_mem hj)
theorem cyF_0 {E : DD} {t s to o : Int} (h : cyF E t s to o = 0) : In (E 109 t) s ∧ In (E 109 to) o ∧ E 112 (40 * t + s) ≠ 4 ∧ E 112 (40 * to + o) ≠ 4 := by
  unfold cyF at h
  split at h
  · omega
  · split at h
    · omega
    · split at h
      · omega
      · rename_i h1 h2 h3
        exact ⟨⟨by omega, by omega⟩, ⟨by omega, by omega⟩, by omega, by omega⟩
theorem sLay_116 {G : DD} {k j i : Int} : sLay G k j 116 i = if 8 * j ≤ i ∧ i < 8 * j + 8 then G 116 (8 * k + (i - 8 * j)) else G 116 i := by
  unfold sLay
  rw [if_neg (by omega)]
  by_cases h : 8 * j ≤ i ∧ i < 8 * j + 8
  · rw [if_pos ⟨rfl, h⟩, if_pos h]
  · rw [if_neg (fun q => h q.2), if_neg (by omega), if_neg h]
theorem WF_cyS {E : DD} (w : WF E) {t s to o : Int} (ht : In (E 99 11) t) (ht2 : In (E 99 11) to) (h0 : cyF E t s to o = 0) : WF (cyS E t s to o) := by
  obtain ⟨h1, h2, h3, h4⟩ := cyF_0 h0
  have ws := w.2.2.2.2.2.1 t s ht h1
  unfold Ws1 at ws
  obtain ⟨a1, a2, a3, a4, a5, a6, a7, a8⟩ := ws
  unfold cyS
  split
  · exact w
  · rename_i hkj
    refine WF_slot w ht2 h2 (fun c _ => sLay_o (by omega)) (fun p b1 b2 => funext fun i => sLay_o b2) (fun p k b1 b2 hk => sLay_s ⟨b1, b2⟩ hk) (fun i hi => ?_) (fun i hi => ?_) h4 ?_
    · rw [sLay_116, if_neg hi]
    · rw [sLay_117, if_neg (fun q => hi q.2)]
    · unfold Ws1
      rw [sLay_e (by decide), sLay_e (by decide), sLay_e (by decide), sLay_e (by decide)]
      refine ⟨a1, a2, a3, fun i hi => ?_, a5, a6, fun q => ⟨(a7 q).1, fun i hi => ?_⟩, fun q => absurd q h3⟩
      · have i0 := hi.1
        have i1 := hi.2
        rw [sLay_116, if_pos (by omega)]
        have e : 8 * (40 * t + s) + (8 * (40 * to + o) + i - 8 * (40 * to + o)) = 8 * (40 * t + s) + i := by omega
        rw [e]
        exact a4 i hi
      · have i0 := hi.1
        have i1 := hi.2
        have l40 := (a7 q).1
        rw [sLay_117, if_pos ⟨q, by omega, by omega⟩]
        have e : 40 * (40 * t + s) + (40 * (40 * to + o) + i - 40 * (40 * to + o)) = 40 * (40 * t + s) + i := by omega
        rw [e]
        have := (a7 q).2 i hi
        rw [b8_of (by omega)]
        exact this
theorem WF_cyGo {t s to o : Int} : ∀ (k : Nat) (m : Int) (E : DD), WF E → In (E 99 11) t → In (E 99 11) to → WF (cyGo t s to o k m E).2.2
  | 0, m, E, w, _, _ => w
  | k + 1, m, E, w, h1, h2 => by
    unfold cyGo
    split
    · exact w
    · rename_i hc
      have e99 : cyS E t (s + m) to (o + m) 99 11 = E 99 11 := by
        unfold cyS
        split
        · rfl
        · exact sLay_o (by omega)
      exact WF_cyGo k (m + 1) _ (WF_cyS w h1 h2 (by omega)) (by rw [e99]; exact h1) (by rw [e99]; exact h2)
theorem WF_copy {D : DD} (w : WF D) {t s n to o : Int} (ht : In (D 99 11) t) (ht2 : In (D 99 11) to) : WF (cyp D t s n to o).2.2 := WF_cyGo _ _ _ w ht ht2
