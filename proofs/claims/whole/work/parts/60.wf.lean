/-! done acts keep WF: what hangs on which rows -/
theorem Wu_c {D D' : DD} (h : Wu D) (e1 : D' 99 1 = D 99 1) (e2 : D' 100 = D 100) (e3 : D' 101 = D 101) (e4 : D' 102 = D 102) (e5 : D' 103 = D 103) (e6 : D' 104 = D 104) : Wu D' := by
  unfold Wu at h ⊢
  rw [e1, e2, e3, e4, e5, e6]; exact h
theorem dla_c {D D' : DD} (e4 : D' 102 = D 102) (e5 : D' 106 = D 106) : dla D' = dla D := funext fun r => by unfold dla; rw [e4, e5]
theorem dea_c {D D' : DD} (e4 : D' 102 = D 102) (e5 : D' 107 = D 107) : dea D' = dea D := funext fun r => by unfold dea; rw [e4, e5]
theorem Wr_c {D D' : DD} (h : Wr D) (e1 : D' 99 1 = D 99 1) (e7 : D' 99 7 = D 99 7) (e4 : D' 102 = D 102) (e5 : D' 105 = D 105) (e6 : D' 106 = D 106) (e8 : D' 107 = D 107) : Wr D' := by
  unfold Wr at h ⊢
  rw [dla_c e4 e6, dea_c e4 e8, e1, e7, e5, e6, e8]; exact h
theorem Wt_c {D D' : DD} (h : Wt D) (e1 : D' 99 1 = D 99 1) (e11 : D' 99 11 = D 99 11) (e2 : D' 108 = D 108) (e3 : D' 109 = D 109) (e4 : D' 110 = D 110) (e5 : D' 111 = D 111) (e6 : D' 112 = D 112) (e7 : D' 114 = D 114) : Wt D' := by
  unfold Wt at h ⊢
  rw [e1, e11, e2, e3, e4, e5, e6, e7]; exact h
theorem Wb_c {D D' : DD} (h : Wb D) (e11 : D' 99 11 = D 99 11) (e4 : D' 110 = D 110) : Wb D' := by
  unfold Wb at h ⊢
  rw [e11, e4]; exact h
theorem Ws_c {D D' : DD} (h : Ws D) (e11 : D' 99 11 = D 99 11) (e : ∀ o, 109 ≤ o → o ≤ 117 → D' o = D o) : Ws D' := by
  unfold Ws Ws1 at h ⊢
  rw [e11, e 109 (by decide) (by decide), e 110 (by decide) (by decide), e 111 (by decide) (by decide), e 112 (by decide) (by decide), e 113 (by decide) (by decide), e 114 (by decide) (by decide), e 115 (by decide) (by decide), e 116 (by decide) (by decide), e 117 (by decide) (by decide)]; exact h
theorem Wj_c {D D' : DD} (h : Wj D) (e1 : D' 99 1 = D 99 1) (e22 : D' 99 22 = D 99 22) (e2 : D' 118 = D 118) (e3 : D' 119 = D 119) : Wj D' := by
  unfold Wj at h ⊢
  rw [e1, e22, e2, e3]; exact h
theorem Wv_c {D D' : DD} (h : Wv D) (e11 : D' 99 11 = D 99 11) (e2 : D' 109 = D 109) (e3 : D' 112 = D 112) : Wv D' := by
  unfold Wv at h ⊢
  rw [e11, e2, e3]; exact h
theorem Wc_c {D D' : DD} (h : Wc D) (e1 : D' 99 1 = D 99 1) (e7 : D' 99 7 = D 99 7) (e11 : D' 99 11 = D 99 11) (e22 : D' 99 22 = D 99 22) : Wc D' := by
  unfold Wc at h ⊢
  rw [e1, e7, e11, e22]; exact h
theorem WF_span {D : DD} (w : WF D) {u a b : Int} (hu : In (D 99 1) u) (hy : isYr a b) : WF (sSpan D u a b) := by
  obtain ⟨w1, w2, w3, w4, w5, w6, w7, w8⟩ := w
  have er : ∀ o, o ≠ 103 → o ≠ 104 → sSpan D u a b o = D o := fun o h1 h2 => by unfold sSpan; rw [up_r h2, up_r h1]
  have e99 : sSpan D u a b 99 = D 99 := er 99 (by decide) (by decide)
  refine ⟨Wc_c w1 (by rw [e99]) (by rw [e99]) (by rw [e99]) (by rw [e99]), ?_, Wr_c w3 (by rw [e99]) (by rw [e99]) (er _ (by decide) (by decide)) (er _ (by decide) (by decide)) (er _ (by decide) (by decide)) (er _ (by decide) (by decide)),
    Wt_c w4 (by rw [e99]) (by rw [e99]) (er _ (by decide) (by decide)) (er _ (by decide) (by decide)) (er _ (by decide) (by decide)) (er _ (by decide) (by decide)) (er _ (by decide) (by decide)) (er _ (by decide) (by decide)), Wb_c w5 (by rw [e99]) (er _ (by decide) (by decide)), Ws_c w6 (by rw [e99]) (fun o h1 h2 => er o (by omega) (by omega)), Wj_c w7 (by rw [e99]) (by rw [e99]) (er _ (by decide) (by decide)) (er _ (by decide) (by decide)), Wv_c w8 (by rw [e99]) (er _ (by decide) (by decide)) (er _ (by decide) (by decide))⟩
  intro v hv
  rw [e99] at hv
  obtain ⟨a1, a2, a3, a4⟩ := w2 v hv
  rw [er 100 (by decide) (by decide), er 101 (by decide) (by decide), er 102 (by decide) (by decide)]
  refine ⟨a1, a2, a3, ?_⟩
  have e103 : sSpan D u a b 103 v = if v = u then a else D 103 v := by
    unfold sSpan
    rw [up_o (by decide)]
    by_cases h : v = u
    · rw [h, up_e, if_pos rfl]
    · rw [up_k h, if_neg h]
  have e104 : sSpan D u a b 104 v = if v = u then b else D 104 v := by
    unfold sSpan
    by_cases h : v = u
    · rw [h, up_e, if_pos rfl]
    · rw [up_k h, if_neg h, up_o (by decide)]
  rw [e103, e104]
  by_cases h : v = u
  · rw [if_pos h, if_pos h]; exact hy
  · rw [if_neg h, if_neg h]; exact a4
theorem WF_unit {D : DD} (w : WF D) {k m : Int} (hn : D 99 1 ≠ 100) (hk : 0 ≤ k ∧ k ≤ 4) (hm : 0 ≤ m ∧ m ≤ 999) : WF (sUnit D k m) := by
  obtain ⟨w1, w2, w3, w4, w5, w6, w7, w8⟩ := w
  have c0 := w1
  unfold Wc at c0
  have e1 : sUnit D k m 99 1 = D 99 1 + 1 := up_e
  have ec : ∀ c, c ≠ 1 → sUnit D k m 99 c = D 99 c := fun c hc => by unfold sUnit; rw [up_k hc]; rfl
  have er : ∀ o, o < 99 ∨ 104 < o → sUnit D k m o = D o := fun o h => by unfold sUnit; rw [up_r (by omega), up_r (by omega), up_r (by omega), up_r (by omega), up_r (by omega), up_r (by omega)]
  have old : ∀ o, 100 ≤ o → o ≤ 104 → ∀ v, v ≠ D 99 1 → sUnit D k m o v = D o v := fun o h1 h2 v hv => by
    unfold sUnit up
    rw [if_neg (by omega), if_neg (fun q => hv q.2), if_neg (fun q => hv q.2), if_neg (fun q => hv q.2), if_neg (fun q => hv q.2), if_neg (fun q => hv q.2)]
  have e100 : sUnit D k m 100 (D 99 1) = k := by unfold sUnit; rw [up_o (by decide), up_o (by decide), up_o (by decide), up_o (by decide), up_o (by decide), up_e]
  have e101 : sUnit D k m 101 (D 99 1) = m := by unfold sUnit; rw [up_o (by decide), up_o (by decide), up_o (by decide), up_o (by decide), up_e]
  have e102 : sUnit D k m 102 (D 99 1) = D 99 1 := by unfold sUnit; rw [up_o (by decide), up_o (by decide), up_o (by decide), up_e]
  have e103 : sUnit D k m 103 (D 99 1) = -10000 := by unfold sUnit; rw [up_o (by decide), up_o (by decide), up_e]
  have e104 : sUnit D k m 104 (D 99 1) = 2100 := by unfold sUnit; rw [up_o (by decide), up_e]
  have mono : ∀ x, In (D 99 1) x → In (D 99 1 + 1) x := fun x hx => ⟨hx.1, by have := hx.2; omega⟩
  refine ⟨?_, ?_, ?_, ?_, Wb_c w5 (ec 11 (by decide)) (er 110 (by omega)), Ws_c w6 (ec 11 (by decide)) (fun o h1 h2 => er o (by omega)), ?_, Wv_c w8 (ec 11 (by decide)) (er _ (by omega)) (er _ (by omega))⟩
  · unfold Wc
    rw [e1, ec 7 (by decide), ec 11 (by decide), ec 22 (by decide)]
    omega
  · intro v hv
    rw [e1] at hv
    by_cases h : v = D 99 1
    · rw [h, e100, e101, e102, e103, e104, e102]
      omega
    · have hv' : In (D 99 1) v := ⟨hv.1, by have := hv.2; omega⟩
      obtain ⟨a1, a2, a3, a4⟩ := w2 v hv'
      have hv2 := hv'.2
      rw [old 100 (by decide) (by decide) v h, old 101 (by decide) (by decide) v h, old 102 (by decide) (by decide) v h, old 103 (by decide) (by decide) v h, old 104 (by decide) (by decide) v h, old 102 (by decide) (by decide) _ (by omega)]
      exact ⟨a1, a2, a3, a4⟩
  · refine ⟨fun r hr => ?_, ?_⟩
    · rw [ec 7 (by decide)] at hr
      rw [e1, er 105 (by omega), er 106 (by omega), er 107 (by omega)]
      obtain ⟨a1, a2, a3⟩ := w3.1 r hr
      exact ⟨mono _ a1, mono _ a2, a3⟩
    · obtain ⟨rk, hk⟩ := w3.2
      refine ⟨rk, fun r hr => ?_⟩
      rw [ec 7 (by decide)] at hr
      obtain ⟨a1, a2, _⟩ := w3.1 r hr
      have a1' := a1.2
      have a2' := a2.2
      have h1 : dla (sUnit D k m) r = dla D r := by unfold dla; rw [er 106 (by omega), old 102 (by decide) (by decide) _ (by omega)]
      have h2 : dea (sUnit D k m) r = dea D r := by unfold dea; rw [er 107 (by omega), old 102 (by decide) (by decide) _ (by omega)]
      rw [h1, h2]
      exact hk r hr
  · unfold Wt
    rw [e1, ec 11 (by decide), er 108 (by omega), er 109 (by omega), er 110 (by omega), er 111 (by omega), er 112 (by omega), er 114 (by omega)]
    exact fun t ht => ⟨(w4 t ht).1.imp id (mono _), (w4 t ht).2⟩
  · unfold Wj
    rw [e1, ec 22 (by decide), er 118 (by omega), er 119 (by omega)]
    exact fun j hj => ⟨(w7 j hj).1.imp id (mono _), (w7 j hj).2.imp id (mono _)⟩
theorem WF_rel {D : DD} (w : WF D) {by_ a b x : Int} (hb : 0 ≤ by_ ∧ by_ ≤ 2) (ha : In (D 99 1) a) (hbb : In (D 99 1) b) (hx : aRelate D by_ a b x) (hd : 0 ≤ x) : WF (sRel D by_ a b) := by
  obtain ⟨w1, w2, w3, w4, w5, w6, w7, w8⟩ := w
  have c0 := w1
  unfold Wc at c0
  have hq : D 99 7 ≠ 200 ∧ D 102 a ≠ D 102 b ∧ ¬ Rch (D 99 7) (dla D) (dea D) (D 102 b) (D 102 a) := by
    rcases hx with h | h | h | ⟨h1, h2, h3, h4⟩
    · omega
    · omega
    · omega
    · exact ⟨h1, fun e => h3 (Or.inl e), fun e => h3 (Or.inr e)⟩
  obtain ⟨q1, q2, q3⟩ := hq
  have e7 : sRel D by_ a b 99 7 = D 99 7 + 1 := up_e
  have ec : ∀ c, c ≠ 7 → sRel D by_ a b 99 c = D 99 c := fun c hc => by unfold sRel; rw [up_k hc]; rfl
  have er : ∀ o, o < 99 ∨ 99 < o ∧ o < 105 ∨ 107 < o → sRel D by_ a b o = D o := fun o h => by unfold sRel; rw [up_r (by omega), up_r (by omega), up_r (by omega), up_r (by omega)]
  have old : ∀ o, 105 ≤ o → o ≤ 107 → ∀ v, v ≠ D 99 7 → sRel D by_ a b o v = D o v := fun o h1 h2 v hv => by
    unfold sRel up
    rw [if_neg (by omega), if_neg (fun q => hv q.2), if_neg (fun q => hv q.2), if_neg (fun q => hv q.2)]
  have e105 : sRel D by_ a b 105 (D 99 7) = by_ := by unfold sRel; rw [up_o (by decide), up_o (by decide), up_o (by decide), up_e]
  have e106 : sRel D by_ a b 106 (D 99 7) = a := by unfold sRel; rw [up_o (by decide), up_o (by decide), up_e]
  have e107 : sRel D by_ a b 107 (D 99 7) = b := by unfold sRel; rw [up_o (by decide), up_e]
  refine ⟨?_, Wu_c w2 (ec 1 (by decide)) (er _ (by omega)) (er _ (by omega)) (er _ (by omega)) (er _ (by omega)) (er _ (by omega)), ?_, Wt_c w4 (ec 1 (by decide)) (ec 11 (by decide)) (er _ (by omega)) (er _ (by omega)) (er _ (by omega)) (er _ (by omega)) (er _ (by omega)) (er _ (by omega)), Wb_c w5 (ec 11 (by decide)) (er 110 (by omega)), Ws_c w6 (ec 11 (by decide)) (fun o h1 h2 => er o (by omega)), Wj_c w7 (ec 1 (by decide)) (ec 22 (by decide)) (er _ (by omega)) (er _ (by omega)), Wv_c w8 (ec 11 (by decide)) (er _ (by omega)) (er _ (by omega))⟩
  · unfold Wc
    rw [e7, ec 1 (by decide), ec 11 (by decide), ec 22 (by decide)]
    omega
  · refine ⟨fun r hr => ?_, ?_⟩
    · rw [e7] at hr
      rw [ec 1 (by decide)]
      by_cases h : r = D 99 7
      · rw [h, e105, e106, e107]; exact ⟨ha, hbb, hb⟩
      · rw [old 105 (by decide) (by decide) r h, old 106 (by decide) (by decide) r h, old 107 (by decide) (by decide) r h]
        exact w3.1 r ⟨hr.1, by have := hr.2; omega⟩
    · obtain ⟨rk, hk⟩ := w3.2
      have e102 := er 102 (by omega)
      rw [e7]
      have h1 : dla (sRel D by_ a b) (D 99 7) = D 102 a := by unfold dla; rw [e106, e102]
      have h2 : dea (sRel D by_ a b) (D 99 7) = D 102 b := by unfold dea; rw [e107, e102]
      refine Rk_add hk (fun r hr => ?_) (by rw [h1, h2]; exact q2) (by rw [h1, h2]; exact q3)
      have hne : r ≠ D 99 7 := by have := hr.2; omega
      exact ⟨by unfold dla; rw [old 106 (by decide) (by decide) r hne, e102], by unfold dea; rw [old 107 (by decide) (by decide) r hne, e102]⟩
