theorem WF_bond {D : DD} (w : WF D) {a b x : Int} (ha : In (D 99 1) a) (hb : In (D 99 1) b) (hx : aBond D a b x) (hd : x = 1) : WF (sBond D a b) := by
  obtain ⟨w1, w2, w3, w4, w5, w6, w7, w8⟩ := w
  have er : ∀ o, o ≠ 102 → sBond D a b o = D o := fun o h => funext fun j => if_neg (fun q => h q.1)
  have e99 := er 99 (by decide)
  have hq : D 102 a ≠ D 102 b ∧ ¬ Rch (D 99 7) (dla D) (dea D) (D 102 a) (D 102 b) ∧ ¬ Rch (D 99 7) (dla D) (dea D) (D 102 b) (D 102 a) := by
    rcases hx with ⟨_, h⟩ | ⟨_, _, h⟩ | ⟨_, _, _, h⟩ | ⟨h1, h2, h3, _⟩
    · omega
    · omega
    · omega
    · exact ⟨h1, h2, h3⟩
  obtain ⟨q1, q2, q3⟩ := hq
  obtain ⟨l, hl⟩ : ∃ l, l = if D 102 a < D 102 b then D 102 a else D 102 b := ⟨_, rfl⟩
  have hl2 : (l = D 102 a ∨ l = D 102 b) ∧ l ≤ D 102 a ∧ l ≤ D 102 b := by rw [hl]; split <;> omega
  have e : ∀ j, In (D 99 1) j → sBond D a b 102 j = if D 102 j = D 102 a ∨ D 102 j = D 102 b then l else D 102 j := fun j hj => by
    unfold sBond
    rw [← hl]
    by_cases h : D 102 j = D 102 a ∨ D 102 j = D 102 b
    · rw [if_pos ⟨rfl, hj, h⟩, if_pos h]
    · rw [if_neg (fun q => h q.2.2), if_neg h]
  have ua := (w2 a ha).2.2.1
  have ub := (w2 b hb).2.2.1
  have a1 := ha.2
  have b1 := hb.2
  have dl : D 102 l = l ∧ In (D 99 1) l := by
    rcases hl2.1 with h | h
    · rw [h]; exact ⟨ua.2.2, ua.1, by omega⟩
    · rw [h]; exact ⟨ub.2.2, ub.1, by omega⟩
  refine ⟨Wc_c w1 (by rw [e99]) (by rw [e99]) (by rw [e99]) (by rw [e99]), ?_, ?_,
    Wt_c w4 (by rw [e99]) (by rw [e99]) (er _ (by decide)) (er _ (by decide)) (er _ (by decide)) (er _ (by decide)) (er _ (by decide)) (er _ (by decide)), Wb_c w5 (by rw [e99]) (er _ (by decide)), Ws_c w6 (by rw [e99]) (fun o h1 h2 => er o (by omega)), Wj_c w7 (by rw [e99]) (by rw [e99]) (er _ (by decide)) (er _ (by decide)), Wv_c w8 (by rw [e99]) (er _ (by decide)) (er _ (by decide))⟩
  · intro v hv
    rw [e99] at hv
    obtain ⟨p1, p2, ⟨p3, p4, p5⟩, p6⟩ := w2 v hv
    rw [er 100 (by decide), er 101 (by decide), er 103 (by decide), er 104 (by decide)]
    refine ⟨p1, p2, ?_, p6⟩
    rw [e v hv]
    by_cases h : D 102 v = D 102 a ∨ D 102 v = D 102 b
    · rw [if_pos h, e l dl.2, if_pos (by rw [dl.1]; exact hl2.1)]
      have := dl.2.1
      exact ⟨this, by omega, rfl⟩
    · have hv2 := hv.2
      rw [if_neg h, e _ ⟨p3, by omega⟩, if_neg (by rw [p5]; exact h)]
      exact ⟨p3, p4, p5⟩
  · refine ⟨fun r hr => ?_, ?_⟩
    · rw [e99] at hr ⊢
      rw [er 105 (by decide), er 106 (by decide), er 107 (by decide)]
      exact w3.1 r hr
    · obtain ⟨rk, hk⟩ := w3.2
      rw [e99]
      refine Rk_bond hk (l := l) q1 q2 q3 hl2.1 (fun r hr => ?_) (fun r hr => ?_)
      · show sBond D a b 102 (sBond D a b 106 r) = _
        rw [er 106 (by decide), e _ (w3.1 r hr).1]
        rfl
      · show sBond D a b 102 (sBond D a b 107 r) = _
        rw [er 107 (by decide), e _ (w3.1 r hr).2.1]
        rfl
/-! what a let go slot leaves -/
theorem emp_0 {G : DD} {k : Int} {o : Nat} (ho : 113 ≤ o ∧ o ≤ 115) : emp G k o k = 0 := by
  unfold emp
  rw [if_neg (by omega), if_pos ⟨by omega, rfl⟩]
theorem emp_116 {G : DD} {k i : Int} : emp G k 116 i = if 8 * k ≤ i ∧ i < 8 * k + 8 then 0 else G 116 i := by
  unfold emp
  rw [if_neg (by omega), if_neg (by omega)]
  by_cases h : 8 * k ≤ i ∧ i < 8 * k + 8
  · rw [if_pos ⟨rfl, h⟩, if_pos h]
  · rw [if_neg (fun q => h q.2), if_neg h]
theorem sLet_if {G : DD} {k j : Int} : sLet G k 112 j = if j = k then -5 else G 112 j := by
  by_cases h : j = k
  · rw [h, sLet_112, if_pos rfl]
  · rw [sLet_s (by decide) h, if_neg h]
theorem sLet_0 {G : DD} {k : Int} {o : Nat} (ho : 113 ≤ o ∧ o ≤ 115) : sLet G k o k = 0 := by
  unfold sLet
  split <;> rw [emp_0 ho]
theorem sLet_116 {G : DD} {k i : Int} : sLet G k 116 i = if 8 * k ≤ i ∧ i < 8 * k + 8 then 0 else G 116 i := by
  unfold sLet
  split
  · rw [emp_116, up_o (by decide), up_o (by decide)]
  · rw [emp_116]
theorem sLet_b {G : DD} {k : Int} {o : Nat} (ho : o = 110 ∨ o = 111) {j : Int} : sLet G k o j = if G 112 k = 4 ∧ j = G 114 k then -5 else G o j := by
  unfold sLet
  by_cases h : G 112 k = 4
  · rw [if_pos h, emp_o (by omega)]
    by_cases hj : j = G 114 k
    · rw [if_pos ⟨h, hj⟩, hj]
      rcases ho with rfl | rfl
      · rw [up_o (by decide), up_e]
      · rw [up_e]
    · rw [if_neg (fun q => hj q.2)]
      unfold up
      rw [if_neg (fun q => hj q.2), if_neg (fun q => hj q.2)]
  · rw [if_neg h, if_neg (fun q => h q.1), emp_o (by omega)]
theorem WF_let {D : DD} (w : WF D) {t s : Int} (ht : In (D 99 11) t) (hs : In (D 109 t) s) : WF (sLet D (40 * t + s)) := by
  obtain ⟨w1, w2, w3, w4, w5, w6, w7, w8⟩ := w
  have er : ∀ o, o < 110 ∨ 116 < o → sLet D (40 * t + s) o = D o := fun o h => funext fun j => sLet_o h
  have e99 := er 99 (by omega)
  have h40 := (w4 t ht).2.1
  have hs0 := hs.1
  have hs1 := hs.2
  have inj : ∀ t' s', 0 ≤ s' → s' < 40 → 40 * t' + s' = 40 * t + s → t' = t ∧ s' = s := fun t' s' h1 h2 h3 => by omega
  have wk := w6 t s ht hs
  unfold Ws1 at wk
  have hb : D 112 (40 * t + s) = 4 → In (D 99 11) (D 114 (40 * t + s)) ∧ D 110 (D 114 (40 * t + s)) = t ∧ D 111 (D 114 (40 * t + s)) = s := wk.2.2.2.2.2.2.2
  refine ⟨Wc_c w1 (by rw [e99]) (by rw [e99]) (by rw [e99]) (by rw [e99]), Wu_c w2 (by rw [e99]) (er _ (by omega)) (er _ (by omega)) (er _ (by omega)) (er _ (by omega)) (er _ (by omega)), Wr_c w3 (by rw [e99]) (by rw [e99]) (er _ (by omega)) (er _ (by omega)) (er _ (by omega)) (er _ (by omega)), ?_, ?_, ?_, Wj_c w7 (by rw [e99]) (by rw [e99]) (er _ (by omega)) (er _ (by omega)), ?_⟩
  · intro t' ht'
    rw [e99] at ht' ⊢
    rw [er 108 (by omega), er 109 (by omega)]
    obtain ⟨a1, a2, a3⟩ := w4 t' ht'
    refine ⟨a1, a2, ?_⟩
    rw [sLet_b (Or.inl rfl), sLet_b (Or.inr rfl)]
    by_cases h : D 112 (40 * t + s) = 4 ∧ t' = D 114 (40 * t + s)
    · rw [if_pos h]; exact Or.inl rfl
    · rw [if_neg h, if_neg h]
      refine a3.imp id (fun ⟨b1, b2, b3, b4⟩ => ⟨b1, b2, ?_⟩)
      have hk : 40 * D 110 t' + D 111 t' ≠ 40 * t + s := fun q => h (by rw [← q]; exact ⟨b3, b4.symm⟩)
      rw [sLet_s (by decide) hk, sLet_s (by decide) hk]
      exact ⟨b3, b4⟩
  · obtain ⟨bk, hbk⟩ := w5
    refine ⟨bk, fun t' ht' => ?_⟩
    rw [e99] at ht'
    rw [sLet_b (Or.inl rfl)]
    by_cases h : D 112 (40 * t + s) = 4 ∧ t' = D 114 (40 * t + s)
    · rw [if_pos h]; exact fun q => absurd rfl q
    · rw [if_neg h]; exact hbk t' ht'
  · intro t' s' ht' hs'
    rw [e99] at ht'
    rw [er 109 (by omega)] at hs'
    have hw := w6 t' s' ht' hs'
    have h40' := (w4 t' ht').2.1
    have k0 := hs'.1
    have k1 := hs'.2
    unfold Ws1 at hw ⊢
    by_cases hk : 40 * t' + s' = 40 * t + s
    · rw [hk, sLet_112, sLet_0 (by decide)]
      refine ⟨Or.inl rfl, by decide, fun q => absurd rfl q, fun i hi => ?_, fun q => absurd q (by decide), fun q => absurd q (by decide), fun q => absurd q (by decide), fun q => absurd q (by decide)⟩
      have i0 := hi.1
      have i1 := hi.2
      rw [sLet_116, if_pos (by omega)]
      exact ⟨by decide, by decide, fun _ => rfl⟩
    · rw [sLet_s (by decide) hk, sLet_s (by decide) hk, sLet_s (by decide) hk, sLet_s (by decide) hk, e99, er 117 (by omega)]
      obtain ⟨a1, a2, a3, a4, a5, a6, a7, a8⟩ := hw
      refine ⟨a1, a2, a3, fun i hi => ?_, a5, a6, a7, fun q => ?_⟩
      · have i0 := hi.1
        have i1 := hi.2
        rw [sLet_116, if_neg (by omega)]
        exact a4 i hi
      · obtain ⟨b1, b2, b3⟩ := a8 q
        have hn : ¬ (D 112 (40 * t + s) = 4 ∧ D 114 (40 * t' + s') = D 114 (40 * t + s)) := fun p => by
          obtain ⟨_, c2, c3⟩ := hb p.1
          rw [← p.2] at c2 c3
          omega
        rw [sLet_b (Or.inl rfl), sLet_b (Or.inr rfl), if_neg hn, if_neg hn]
        exact ⟨b1, b2, b3⟩
  · intro t' s' ht' hs' hle
    rw [e99] at ht'
    rw [er 109 (by omega)] at hle
    rw [sLet_if]
    split
    · rfl
    · exact w8 t' s' ht' hs' hle
theorem WF_lets {D : DD} (w : WF D) {t : Int} (ht : In (D 99 11) t) : ∀ m : Nat, (m : Int) ≤ D 109 t → WF (sLets D t m) ∧ ∀ s : Int, 0 ≤ s → s < m → sLets D t m 112 (40 * t + s) = -5
  | 0, _ => ⟨w, fun s h1 h2 => absurd h2 (by omega)⟩
  | m + 1, hm => by
    obtain ⟨h1, h2⟩ := WF_lets w ht m (by omega)
    refine ⟨?_, fun s a1 a2 => ?_⟩
    · show WF (sLet (sLets D t m) (40 * t + m))
      exact WF_let h1 (by rw [sLets_o (by omega)]; exact ht) ⟨by omega, by rw [sLets_o (by omega)]; omega⟩
    · show sLet (sLets D t m) (40 * t + m) 112 (40 * t + s) = -5
      rw [sLet_if]
      by_cases h : 40 * t + s = 40 * t + m
      · rw [if_pos h]
      · rw [if_neg h]; exact h2 s a1 (by omega)
theorem WF_lose {D : DD} (w : WF D) {t : Int} (ht : In (D 99 11) t) (hp : 0 ≤ D 109 t) : WF (sLose D t) := by
  obtain ⟨E, hE⟩ : ∃ E, E = sLets D t (D 109 t).toNat := ⟨_, rfl⟩
  obtain ⟨wE, h5⟩ := WF_lets w ht (D 109 t).toNat (by omega)
  have e109 : E 109 t = D 109 t := by rw [hE, sLets_o (by omega)]
  have htE : In (E 99 11) t := by rw [hE, sLets_o (by omega)]; exact ht
  unfold sLose
  rw [← hE] at wE h5 ⊢
  obtain ⟨w1, w2, w3, w4, w5, w6, w7, w8⟩ := wE
  have h40 := (w4 t htE).2.1
  have all : ∀ s, In 40 s → E 112 (40 * t + s) = -5 := fun s hs => by
    have h0 := hs.1
    by_cases h : s < D 109 t
    · exact h5 s h0 (by omega)
    · exact w8 t s htE hs (by omega)
  have er : ∀ o, o ≠ 109 → up E 109 t (-1) o = E o := fun o h => up_r h
  have e99 := er 99 (by decide)
  have el : ∀ v, up E 109 t (-1) 109 v = if v = t then -1 else E 109 v := fun v => by
    by_cases h : v = t
    · rw [if_pos h, h, up_e]
    · rw [if_neg h, up_k h]
  refine ⟨Wc_c w1 (by rw [e99]) (by rw [e99]) (by rw [e99]) (by rw [e99]), Wu_c w2 (by rw [e99]) (er _ (by decide)) (er _ (by decide)) (er _ (by decide)) (er _ (by decide)) (er _ (by decide)), Wr_c w3 (by rw [e99]) (by rw [e99]) (er _ (by decide)) (er _ (by decide)) (er _ (by decide)) (er _ (by decide)), ?_, Wb_c w5 (by rw [e99]) (er _ (by decide)), ?_, Wj_c w7 (by rw [e99]) (by rw [e99]) (er _ (by decide)) (er _ (by decide)), ?_⟩
  · intro t' ht'
    rw [e99] at ht' ⊢
    obtain ⟨a1, a2, a3⟩ := w4 t' ht'
    rw [er 108 (by decide), er 110 (by decide), er 111 (by decide), er 112 (by decide), er 114 (by decide), el, el]
    refine ⟨a1, ?_, a3.imp id (fun ⟨b1, b2, b3, b4⟩ => ⟨b1, ?_, b3, b4⟩)⟩
    · split <;> omega
    · by_cases h : E 110 t' = t
      · rw [h] at b2 b3
        have := all _ ⟨b2.1, by have := b2.2; omega⟩
        omega
      · rw [if_neg h]; exact b2
  · intro t' s' ht' hs'
    rw [e99] at ht'
    rw [el] at hs'
    by_cases h : t' = t
    · rw [if_pos h] at hs'
      have h0 := hs'.1
      have h1 := hs'.2
      omega
    · rw [if_neg h] at hs'
      have hw := w6 t' s' ht' hs'
      unfold Ws1 at hw ⊢
      rw [e99, er 110 (by decide), er 111 (by decide), er 112 (by decide), er 113 (by decide), er 114 (by decide), er 115 (by decide), er 116 (by decide), er 117 (by decide)]
      exact hw
  · intro t' s' ht' hs' hle
    rw [e99] at ht'
    rw [el] at hle
    rw [er 112 (by decide)]
    by_cases h : t' = t
    · rw [h]; exact all s' hs'
    · rw [if_neg h] at hle; exact w8 t' s' ht' hs' hle
