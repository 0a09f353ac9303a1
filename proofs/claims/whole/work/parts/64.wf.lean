theorem empR_112 {G : DD} {a b j : Int} : empR G a b 112 j = if a ≤ j ∧ j < b then -5 else G 112 j := by
  unfold empR
  by_cases h : a ≤ j ∧ j < b
  · rw [if_pos ⟨rfl, h⟩, if_pos h]
  · rw [if_neg (fun q => h q.2), if_neg (by omega), if_neg (by omega), if_neg h]
theorem empR_0s {G : DD} {a b j : Int} {o : Nat} (ho : 113 ≤ o ∧ o ≤ 115) (hj : a ≤ j ∧ j < b) : empR G a b o j = 0 := by
  unfold empR
  rw [if_neg (by omega), if_pos ⟨by omega, hj⟩]
theorem empR_s {G : DD} {a b j : Int} {o : Nat} (ho : 112 ≤ o ∧ o ≤ 115) (hj : ¬ (a ≤ j ∧ j < b)) : empR G a b o j = G o j := by
  unfold empR
  rw [if_neg (fun q => hj q.2), if_neg (fun q => hj q.2), if_neg (by omega)]
theorem empR_116 {G : DD} {a b i : Int} : empR G a b 116 i = if 8 * a ≤ i ∧ i < 8 * b then 0 else G 116 i := by
  unfold empR
  rw [if_neg (by omega), if_neg (by omega)]
  by_cases h : 8 * a ≤ i ∧ i < 8 * b
  · rw [if_pos ⟨rfl, h⟩, if_pos h]
  · rw [if_neg (fun q => h q.2), if_neg h]
theorem WF_new {D : DD} (w : WF D) {u n : Int} (hu : u = -5 ∨ In (D 99 1) u) (hn : 0 ≤ n ∧ n ≤ 40) (hT : D 99 11 ≠ 60) : WF (sNew D u n) := by
  obtain ⟨w1, w2, w3, w4, w5, w6, w7, w8⟩ := w
  have c0 := w1
  unfold Wc at c0
  obtain ⟨T, eT⟩ : ∃ T, T = D 99 11 := ⟨_, rfl⟩
  have eN : sNew D u n = up (up (empR (up (up (up (up D 108 T u) 109 T n) 110 T (-5)) 111 T (-5)) (40 * T) (40 * T + 40)) 99 11 (T + 1)) 99 37 1 := by rw [eT]; rfl
  rw [eN]
  obtain ⟨E, eE⟩ : ∃ E, E = up (up (empR (up (up (up (up D 108 T u) 109 T n) 110 T (-5)) 111 T (-5)) (40 * T) (40 * T + 40)) 99 11 (T + 1)) 99 37 1 := ⟨_, rfl⟩
  rw [← eE]
  have e11 : E 99 11 = T + 1 := by rw [eE, up_k (by decide), up_e]
  have ec : ∀ c, c ≠ 11 → c ≠ 37 → E 99 c = D 99 c := fun c h1 h2 => by rw [eE, up_k h2, up_k h1, empR_o (by omega), up_o (by decide), up_o (by decide), up_o (by decide), up_o (by decide)]
  have er : ∀ o, o < 99 ∨ 99 < o ∧ o < 108 ∨ 116 < o → E o = D o := fun o h => funext fun j => by
    rw [eE, up_o (by omega), up_o (by omega), empR_o (by omega), up_o (by omega), up_o (by omega), up_o (by omega), up_o (by omega)]
  have ot : ∀ o, 108 ≤ o → o ≤ 111 → ∀ j, j ≠ T → E o j = D o j := fun o h1 h2 j hj => by
    rw [eE, up_o (by omega), up_o (by omega), empR_o (by omega)]
    unfold up
    rw [if_neg (fun q => hj q.2), if_neg (fun q => hj q.2), if_neg (fun q => hj q.2), if_neg (fun q => hj q.2)]
  have e108 : E 108 T = u := by rw [eE, up_o (by decide), up_o (by decide), empR_o (by omega), up_o (by decide), up_o (by decide), up_o (by decide), up_e]
  have e109 : E 109 T = n := by rw [eE, up_o (by decide), up_o (by decide), empR_o (by omega), up_o (by decide), up_o (by decide), up_e]
  have e110 : E 110 T = -5 := by rw [eE, up_o (by decide), up_o (by decide), empR_o (by omega), up_o (by decide), up_e]
  have os : ∀ o, 112 ≤ o → o ≤ 115 → ∀ j, j < 40 * T → E o j = D o j := fun o h1 h2 j hj => by
    rw [eE, up_o (by omega), up_o (by omega), empR_s ⟨h1, h2⟩ (by omega), up_o (by omega), up_o (by omega), up_o (by omega), up_o (by omega)]
  have n112 : ∀ j, 40 * T ≤ j → j < 40 * T + 40 → E 112 j = -5 := fun j h1 h2 => by rw [eE, up_o (by decide), up_o (by decide), empR_112, if_pos ⟨h1, h2⟩]
  have n113 : ∀ j, 40 * T ≤ j → j < 40 * T + 40 → E 113 j = 0 := fun j h1 h2 => by rw [eE, up_o (by decide), up_o (by decide), empR_0s (by decide) ⟨h1, h2⟩]
  have e116 : ∀ i, E 116 i = if 8 * (40 * T) ≤ i ∧ i < 8 * (40 * T + 40) then 0 else D 116 i := fun i => by rw [eE, up_o (by decide), up_o (by decide), empR_116, up_o (by decide), up_o (by decide), up_o (by decide), up_o (by decide)]
  have mono : ∀ x, In (D 99 11) x → In (T + 1) x := fun x hx => ⟨hx.1, by have := hx.2; omega⟩
  have mem : ∀ x, In (T + 1) x → x ≠ T → In (D 99 11) x := fun x hx hne => ⟨hx.1, by have := hx.2; omega⟩
  refine ⟨?_, Wu_c w2 (ec 1 (by decide) (by decide)) (er _ (by omega)) (er _ (by omega)) (er _ (by omega)) (er _ (by omega)) (er _ (by omega)), Wr_c w3 (ec 1 (by decide) (by decide)) (ec 7 (by decide) (by decide)) (er _ (by omega)) (er _ (by omega)) (er _ (by omega)) (er _ (by omega)), ?_, ?_, ?_, Wj_c w7 (ec 1 (by decide) (by decide)) (ec 22 (by decide) (by decide)) (er _ (by omega)) (er _ (by omega)), ?_⟩
  · unfold Wc
    rw [e11, ec 1 (by decide) (by decide), ec 7 (by decide) (by decide), ec 22 (by decide) (by decide)]
    omega
  · intro t ht
    rw [e11] at ht ⊢
    rw [ec 1 (by decide) (by decide)]
    by_cases h : t = T
    · rw [h, e108, e109, e110]
      exact ⟨hu, by omega, Or.inl rfl⟩
    · have ht' := mem t ht h
      obtain ⟨a1, a2, a3⟩ := w4 t ht'
      rw [ot 108 (by decide) (by decide) t h, ot 109 (by decide) (by decide) t h, ot 110 (by decide) (by decide) t h, ot 111 (by decide) (by decide) t h]
      refine ⟨a1, a2, a3.imp id (fun ⟨b1, b2, b3, b4⟩ => ?_)⟩
      have p1 := b1.2
      have p2 := (w4 _ b1).2.1
      have p3 := b2.2
      have p4 := b2.1
      rw [ot 109 (by decide) (by decide) _ (by omega), os 112 (by decide) (by decide) _ (by omega), os 114 (by decide) (by decide) _ (by omega)]
      exact ⟨mono _ b1, b2, b3, b4⟩
  · obtain ⟨bk, hbk⟩ := w5
    refine ⟨bk, fun t ht => ?_⟩
    rw [e11] at ht
    by_cases h : t = T
    · rw [h, e110]; exact fun q => absurd rfl q
    · rw [ot 110 (by decide) (by decide) t h]; exact hbk t (mem t ht h)
  · intro t s ht hs
    rw [e11] at ht
    by_cases h : t = T
    · rw [h, e109] at hs
      have s0 := hs.1
      have s1 := hs.2
      unfold Ws1
      rw [h, n112 _ (by omega) (by omega), n113 _ (by omega) (by omega)]
      refine ⟨Or.inl rfl, by decide, fun q => absurd rfl q, fun i hi => ?_, fun q => absurd q (by decide), fun q => absurd q (by decide), fun q => absurd q (by decide), fun q => absurd q (by decide)⟩
      have i0 := hi.1
      have i1 := hi.2
      rw [e116, if_pos (by omega)]
      exact ⟨by decide, by decide, fun _ => rfl⟩
    · have ht' := mem t ht h
      rw [ot 109 (by decide) (by decide) t h] at hs
      have hw := w6 t s ht' hs
      have p1 := ht'.2
      have p2 := (w4 _ ht').2.1
      have p3 := hs.2
      have p4 := hs.1
      unfold Ws1 at hw ⊢
      rw [os 112 (by decide) (by decide) _ (by omega), os 113 (by decide) (by decide) _ (by omega), os 114 (by decide) (by decide) _ (by omega), os 115 (by decide) (by decide) _ (by omega), e11, er 117 (by omega)]
      obtain ⟨a1, a2, a3, a4, a5, a6, a7, a8⟩ := hw
      refine ⟨a1, a2, a3, fun i hi => ?_, a5, a6, a7, fun q => ?_⟩
      · have i0 := hi.1
        have i1 := hi.2
        rw [e116, if_neg (by omega)]
        exact a4 i hi
      · obtain ⟨b1, b2, b3⟩ := a8 q
        have b1' := b1.2
        rw [ot 110 (by decide) (by decide) _ (by omega), ot 111 (by decide) (by decide) _ (by omega)]
        exact ⟨mono _ b1, b2, b3⟩
  · intro t s ht hs hle
    rw [e11] at ht
    have s0 := hs.1
    have s1 := hs.2
    by_cases h : t = T
    · rw [h]; exact n112 _ (by omega) (by omega)
    · have ht' := mem t ht h
      have p1 := ht'.2
      rw [ot 109 (by decide) (by decide) t h] at hle
      rw [os 112 (by decide) (by decide) _ (by omega)]
      exact w8 t s ht' hs hle
