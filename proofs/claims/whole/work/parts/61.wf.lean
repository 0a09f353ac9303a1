/-- only slot s0 of tray t0 has become another, and it neither held nor holds a bag -/
theorem WF_slot {D D' : DD} (w : WF D) {t0 s0 : Int} (ht : In (D 99 11) t0) (hs : In (D 109 t0) s0) (ec : ∀ c, c = 1 ∨ c = 7 ∨ c = 11 ∨ c = 22 → D' 99 c = D 99 c) (er : ∀ o, o ≠ 99 → o < 112 ∨ 117 < o → D' o = D o)
    (e2 : ∀ o k, 112 ≤ o → o ≤ 115 → k ≠ 40 * t0 + s0 → D' o k = D o k) (e3 : ∀ i, ¬ (8 * (40 * t0 + s0) ≤ i ∧ i < 8 * (40 * t0 + s0) + 8) → D' 116 i = D 116 i) (e4 : ∀ i, ¬ (40 * (40 * t0 + s0) ≤ i ∧ i < 40 * (40 * t0 + s0) + 40) → D' 117 i = D 117 i)
    (h4 : D 112 (40 * t0 + s0) ≠ 4) (hn : Ws1 D' t0 s0 (40 * t0 + s0)) : WF D' := by
  obtain ⟨w1, w2, w3, w4, w5, w6, w7, w8⟩ := w
  have c1 := ec 1 (by decide)
  have c7 := ec 7 (by decide)
  have c11 := ec 11 (by decide)
  have c22 := ec 22 (by decide)
  have r := fun (o : Nat) (h : o ≠ 99 ∧ (o < 112 ∨ 117 < o)) => er o h.1 h.2
  have h40 := (w4 t0 ht).2.1
  have hs0 := hs.1
  have hs1 := hs.2
  have inj : ∀ t s, In (D 99 11) t → 0 ≤ s → s < 40 → 40 * t + s = 40 * t0 + s0 → t = t0 ∧ s = s0 := fun t s h1 h2 h3 h4 => by omega
  refine ⟨Wc_c w1 c1 c7 c11 c22, Wu_c w2 c1 (r _ (by decide)) (r _ (by decide)) (r _ (by decide)) (r _ (by decide)) (r _ (by decide)), Wr_c w3 c1 c7 (r _ (by decide)) (r _ (by decide)) (r _ (by decide)) (r _ (by decide)), ?_, Wb_c w5 c11 (r _ (by decide)), ?_, Wj_c w7 c1 c22 (r _ (by decide)) (r _ (by decide)), ?_⟩
  · intro t htt
    rw [c11] at htt
    rw [c1, c11, r 108 (by decide), r 109 (by decide), r 110 (by decide), r 111 (by decide)]
    obtain ⟨a1, a2, a3⟩ := w4 t htt
    refine ⟨a1, a2, a3.imp id (fun ⟨b1, b2, b3, b4⟩ => ⟨b1, b2, ?_⟩)⟩
    have hk : 40 * D 110 t + D 111 t ≠ 40 * t0 + s0 := fun e => h4 (by rw [← e]; exact b3)
    rw [e2 112 _ (by decide) (by decide) hk, e2 114 _ (by decide) (by decide) hk]
    exact ⟨b3, b4⟩
  · intro t s htt hss
    rw [c11] at htt
    rw [r 109 (by decide)] at hss
    by_cases hk : 40 * t + s = 40 * t0 + s0
    · have := (w4 t htt).2.1
      obtain ⟨rfl, rfl⟩ := inj t s htt hss.1 (by have := hss.2; omega) hk
      exact hn
    · have hw := w6 t s htt hss
      have hs40 := (w4 t htt).2.1
      have k2 := hss.2
      have k1 := hss.1
      unfold Ws1 at hw ⊢
      rw [e2 112 _ (by decide) (by decide) hk, e2 113 _ (by decide) (by decide) hk, e2 114 _ (by decide) (by decide) hk, e2 115 _ (by decide) (by decide) hk, c11, r 110 (by decide), r 111 (by decide)]
      obtain ⟨a1, a2, a3, a4, a5, a6, a7, a8⟩ := hw
      refine ⟨a1, a2, a3, fun i hi => ?_, a5, a6, fun q => ⟨(a7 q).1, fun i hi => ?_⟩, a8⟩
      · have i0 := hi.1
        have i1 := hi.2
        rw [e3 _ (by omega)]
        exact a4 i hi
      · have i0 := hi.1
        have i1 := hi.2
        have := (a7 q).1
        rw [e4 _ (by omega)]
        exact (a7 q).2 i hi
  · intro t s htt hss hle
    rw [c11] at htt
    rw [r 109 (by decide)] at hle
    have hk : 40 * t + s ≠ 40 * t0 + s0 := fun e => by
      obtain ⟨rfl, rfl⟩ := inj t s htt hss.1 hss.2 e
      omega
    rw [e2 112 _ (by decide) (by decide) hk]
    exact w8 t s htt hss hle
theorem WF_mark {D : DD} (w : WF D) {t s m : Int} (ht : In (D 99 11) t) (hm : 0 ≤ m ∧ m ≤ 2) (hd : 0 ≤ oMark D t s) : WF (sMark D t s m) := by
  have hr := heldF_rng D t s (-5)
  have hh : heldF D t s (-5) = 0 ∧ (D 112 (40 * t + s) = 1 ∨ D 112 (40 * t + s) = 2) := by
    unfold oMark at hd
    split at hd
    · omega
    · rename_i h1
      split at hd
      · rename_i h2
        exact ⟨by omega, h2⟩
      · omega
  obtain ⟨h1, _, _⟩ := heldF_0 hh.1
  have hs := slotF_0 h1
  have ws := w.2.2.2.2.2.1 t s ht hs
  have e113 : sMark D t s m 113 (40 * t + s) = m := up_e
  have er : ∀ o, o ≠ 113 → sMark D t s m o = D o := fun o h => by unfold sMark; exact up_r h
  refine WF_slot w ht hs (fun c _ => by rw [er 99 (by decide)]) (fun o _ h => er o (by omega)) (fun o k h1 h2 hk => ?_) (fun i _ => by rw [er 116 (by decide)]) (fun i _ => by rw [er 117 (by decide)]) (by omega) ?_
  · by_cases ho : o = 113
    · subst ho; exact up_k hk
    · rw [er o ho]
  · unfold Ws1 at ws ⊢
    rw [e113, er 112 (by decide), er 114 (by decide), er 115 (by decide), er 116 (by decide), er 117 (by decide), er 99 (by decide), er 110 (by decide), er 111 (by decide)]
    obtain ⟨a1, a2, a3, a4, a5, a6, a7, a8⟩ := ws
    exact ⟨a1, hm, fun _ => hh.2, a4, a5, a6, a7, a8⟩
theorem WF_place {D : DD} (w : WF D) {t s kd a b : Int} (ht : In (D 99 11) t) (hk : kd = 1 ∧ isYr a b ∨ kd = 2 ∧ R32 a ∧ R32 b) (hd : 0 ≤ oPlace D t s) : WF (sPlace D t s kd a b) := by
  have hr := slotF_rng D t s
  have hh : slotF D t s = 0 ∧ D 112 (40 * t + s) = -5 := by
    unfold oPlace at hd
    split at hd
    · omega
    · split at hd
      · omega
      · rename_i h1 h2
        exact ⟨by omega, by omega⟩
  have hs := slotF_0 hh.1
  have ws := w.2.2.2.2.2.1 t s ht hs
  have er : ∀ o, o ≠ 112 → o ≠ 114 → o ≠ 115 → sPlace D t s kd a b o = D o := fun o h1 h2 h3 => by unfold sPlace; rw [up_r h3, up_r h2, up_r h1]
  have e112 : sPlace D t s kd a b 112 (40 * t + s) = kd := by unfold sPlace; rw [up_o (by decide), up_o (by decide), up_e]
  have e114 : sPlace D t s kd a b 114 (40 * t + s) = a := by unfold sPlace; rw [up_o (by decide), up_e]
  have e115 : sPlace D t s kd a b 115 (40 * t + s) = b := up_e
  refine WF_slot w ht hs (fun c _ => by rw [er 99 (by decide) (by decide) (by decide)]) (fun o _ h => er o (by omega) (by omega) (by omega)) (fun o k h1 h2 hk => ?_) (fun i _ => by rw [er 116 (by decide) (by decide) (by decide)]) (fun i _ => by rw [er 117 (by decide) (by decide) (by decide)]) (by omega) ?_
  · unfold sPlace up
    rw [if_neg (fun q => hk q.2), if_neg (fun q => hk q.2), if_neg (fun q => hk q.2)]
  · unfold Ws1 at ws ⊢
    rw [e112, e114, e115, er 113 (by decide) (by decide) (by decide), er 116 (by decide) (by decide) (by decide), er 117 (by decide) (by decide) (by decide), er 99 (by decide) (by decide) (by decide), er 110 (by decide) (by decide) (by decide), er 111 (by decide) (by decide) (by decide)]
    obtain ⟨a1, a2, a3, a4, a5, a6, a7, a8⟩ := ws
    refine ⟨by omega, a2, fun q => by have := a3 q; omega, fun i hi => ?_, fun q => ?_, fun q => ?_, fun q => by omega, fun q => by omega⟩
    · have := a4 i hi
      exact ⟨this.1, this.2.1, fun _ => this.2.2 (by omega)⟩
    · rcases hk with ⟨_, h⟩ | ⟨h, _⟩
      · exact h
      · omega
    · rcases hk with ⟨h, _⟩ | ⟨_, h⟩
      · omega
      · exact h
theorem WF_sherds {D : DD} (w : WF D) {t s ty n : Int} (ht : In (D 99 11) t) (hd : 0 ≤ oSherds D t s ty n) : WF (sSherds D t s ty n) := by
  have hr := slotF_rng D t s
  have hh : slotF D t s = 0 ∧ (D 112 (40 * t + s) = -5 ∨ D 112 (40 * t + s) = 0) ∧ (0 ≤ ty ∧ ty ≤ 7) ∧ 0 ≤ D 116 (8 * (40 * t + s) + ty) + n ∧ D 116 (8 * (40 * t + s) + ty) + n ≤ 100 := by
    unfold oSherds at hd
    split at hd
    · omega
    · split at hd
      · omega
      · split at hd
        · omega
        · split at hd
          · omega
          · rename_i h1 h2 h3 h4
            exact ⟨by omega, by omega, by omega, by omega, by omega⟩
  obtain ⟨h0, h1, h2, h3, h4⟩ := hh
  have hs := slotF_0 h0
  have ws := w.2.2.2.2.2.1 t s ht hs
  have er : ∀ o, o ≠ 112 → o ≠ 116 → sSherds D t s ty n o = D o := fun o h1 h2 => by unfold sSherds; rw [up_r h2, up_r h1]
  have e112 : sSherds D t s ty n 112 (40 * t + s) = 0 := by unfold sSherds; rw [up_o (by decide), up_e]
  have e116 : ∀ i, sSherds D t s ty n 116 i = if i = 8 * (40 * t + s) + ty then D 116 (8 * (40 * t + s) + ty) + n else D 116 i := fun i => by
    unfold sSherds
    by_cases h : i = 8 * (40 * t + s) + ty
    · rw [h, up_e, if_pos rfl]
    · rw [up_k h, up_o (by decide), if_neg h]
  refine WF_slot w ht hs (fun c _ => by rw [er 99 (by decide) (by decide)]) (fun o _ h => er o (by omega) (by omega)) (fun o k h1 h2 hk => ?_) (fun i hi => ?_) (fun i _ => by rw [er 117 (by decide) (by decide)]) (by omega) ?_
  · by_cases ho : o = 112
    · subst ho; unfold sSherds; rw [up_o (by decide), up_k hk]
    · rw [er o ho (by omega)]
  · rw [e116, if_neg (by omega)]
  · unfold Ws1 at ws ⊢
    rw [e112, er 113 (by decide) (by decide), er 114 (by decide) (by decide), er 115 (by decide) (by decide), er 117 (by decide) (by decide), er 99 (by decide) (by decide), er 110 (by decide) (by decide), er 111 (by decide) (by decide)]
    obtain ⟨a1, a2, a3, a4, a5, a6, a7, a8⟩ := ws
    refine ⟨by omega, a2, fun q => by have := a3 q; omega, fun i hi => ?_, fun q => by omega, fun q => by omega, fun q => by omega, fun q => by omega⟩
    rw [e116]
    have := a4 i hi
    by_cases hi2 : 8 * (40 * t + s) + i = 8 * (40 * t + s) + ty
    · rw [if_pos hi2]; exact ⟨by omega, by omega, fun q => absurd rfl q⟩
    · rw [if_neg hi2]; exact ⟨this.1, this.2.1, fun q => absurd rfl q⟩
theorem WF_join {D : DD} (w : WF D) {t s to ot : Int} (ht : In (D 99 11) t) (ht2 : In (D 99 11) to) (hd : 0 ≤ oJoin D t s to ot) : WF (sJoin D t to) := by
  have u1 := uo_rng w 60 t ht
  have u2 := uo_rng w 60 to ht2
  obtain ⟨w1, w2, w3, w4, w5, w6, w7, w8⟩ := w
  have c0 := w1
  unfold Wc at c0
  have hr := heldF_rng D t s 0
  have hr2 := heldF_rng D to ot 0
  have hj : D 99 22 ≠ 80 := by
    unfold oJoin at hd
    split at hd
    · omega
    · split at hd
      · omega
      · split at hd
        · omega
        · assumption
  have e22 : sJoin D t to 99 22 = D 99 22 + 1 := up_e
  have ec : ∀ c, c ≠ 22 → sJoin D t to 99 c = D 99 c := fun c hc => by unfold sJoin; rw [up_k hc]; rfl
  have er : ∀ o, o ≠ 99 → o ≠ 118 → o ≠ 119 → sJoin D t to o = D o := fun o h1 h2 h3 => by unfold sJoin; rw [up_r h1, up_r h3, up_r h2]
  have r := fun (o : Nat) (h : o ≠ 99 ∧ o ≠ 118 ∧ o ≠ 119) => er o h.1 h.2.1 h.2.2
  refine ⟨?_, Wu_c w2 (ec 1 (by decide)) (r _ (by decide)) (r _ (by decide)) (r _ (by decide)) (r _ (by decide)) (r _ (by decide)), Wr_c w3 (ec 1 (by decide)) (ec 7 (by decide)) (r _ (by decide)) (r _ (by decide)) (r _ (by decide)) (r _ (by decide)), Wt_c w4 (ec 1 (by decide)) (ec 11 (by decide)) (r _ (by decide)) (r _ (by decide)) (r _ (by decide)) (r _ (by decide)) (r _ (by decide)) (r _ (by decide)), Wb_c w5 (ec 11 (by decide)) (r _ (by decide)), Ws_c w6 (ec 11 (by decide)) (fun o h1 h2 => r o (by omega)), ?_, Wv_c w8 (ec 11 (by decide)) (r _ (by decide)) (r _ (by decide))⟩
  · unfold Wc
    rw [e22, ec 1 (by decide), ec 7 (by decide), ec 11 (by decide)]
    omega
  · intro j hj2
    rw [e22] at hj2
    rw [ec 1 (by decide)]
    by_cases h : j = D 99 22
    · have h118 : sJoin D t to 118 j = uo D t := by unfold sJoin; rw [h, up_o (by decide), up_o (by decide), up_e]
      have h119 : sJoin D t to 119 j = uo D to := by unfold sJoin; rw [h, up_o (by decide), up_e]
      rw [h118, h119]
      exact ⟨u1, u2⟩
    · have h118 : sJoin D t to 118 j = D 118 j := by unfold sJoin; rw [up_o (by decide), up_o (by decide), up_k h]
      have h119 : sJoin D t to 119 j = D 119 j := by unfold sJoin; rw [up_o (by decide), up_k h, up_o (by decide)]
      rw [h118, h119]
      exact w7 j ⟨hj2.1, by have := hj2.2; omega⟩
