theorem lts_nil {w : Int} : ∀ j, (lts w j).length = 0 → ∀ i, i < j → byt w i = 0
  | 0, _, i, hi => absurd hi (Nat.not_lt_zero _)
  | j + 1, h, i, hi => by
    unfold lts at h
    split at h
    · rename_i h0
      by_cases e : i = j
      · rw [e]; exact h0
      · exact lts_nil j h i (by omega)
    · simp at h
theorem lts_pos {w : Int} (h : R64 w) (h0 : w ≠ 0) : 1 ≤ (lts w 8).length := by
  by_cases e : (lts w 8).length = 0
  · exact absurd (byt_zero h (lts_nil 8 e)) h0
  · omega
theorem liN_new {D : DD} (w : WF D) {u n : Int} : ∀ (m : Nat) (x : Int), In (D 99 11) x → liN (sNew D u n) (D 99 11) m x = false
  | 0, x, hx => by
    have := hx.2
    unfold liN
    simp
    omega
  | m + 1, x, hx => by
    have hlt := hx.2
    have e : sNew D u n 110 x = D 110 x := by unfold sNew; rw [up_o (by decide), up_o (by decide), empR_o (by omega), up_o (by decide), up_k (by omega), up_o (by decide), up_o (by decide)]
    unfold liN
    rw [if_neg (by omega), e]
    by_cases h5 : D 110 x = -5
    · rw [if_pos h5]
    · rw [if_neg h5]
      rcases (w.2.2.2.1 x hx).2.2 with q | q
      · exact absurd q h5
      · exact liN_new w m _ q.1
theorem WF_bag {D : DD} (w : WF D) {t s n : Int} (ht : In (D 99 11) t) (hn : n ≤ 40) (hd : 0 ≤ oBag D t s n) : WF (sBag D t s n) := by
  have c0 := w.1
  unfold Wc at c0
  have hr := slotF_rng D t s
  have hh : D 99 11 ≠ 60 ∧ 0 ≤ n ∧ slotF D t s = 0 ∧ D 112 (40 * t + s) = -5 := by
    unfold oBag at hd
    split at hd
    · omega
    · split at hd
      · omega
      · split at hd
        · omega
        · split at hd
          · omega
          · rename_i h1 h2 h3 h4
            exact ⟨h1, by omega, by omega, by omega⟩
  obtain ⟨h1, h2, h3, h4⟩ := hh
  have hs := slotF_0 h3
  have h40 := (w.2.2.2.1 t ht).2.1
  have t1 := ht.2
  have s0 := hs.1
  have s1 := hs.2
  have ws := w.2.2.2.2.2.1 t s ht hs
  unfold Ws1 at ws
  obtain ⟨a1, a2, a3, a4, _⟩ := ws
  have wE := WF_new w (u := -5) (n := n) (Or.inl rfl) ⟨h2, hn⟩ h1
  have e11 : sNew D (-5) n 99 11 = D 99 11 + 1 := by unfold sNew; rw [up_k (by decide), up_e]
  have e109 : sNew D (-5) n 109 t = D 109 t := by unfold sNew; rw [up_o (by decide), up_o (by decide), empR_o (by omega), up_o (by decide), up_o (by decide), up_k (by omega), up_o (by decide)]
  have e110 : sNew D (-5) n 110 (D 99 11) = -5 := by unfold sNew; rw [up_o (by decide), up_o (by decide), empR_o (by omega), up_o (by decide), up_e]
  have e112 : sNew D (-5) n 112 (40 * t + s) = D 112 (40 * t + s) := by unfold sNew; rw [up_o (by decide), up_o (by decide), empR_s (by decide) (by omega), up_o (by decide), up_o (by decide), up_o (by decide), up_o (by decide)]
  have e113 : sNew D (-5) n 113 (40 * t + s) = D 113 (40 * t + s) := by unfold sNew; rw [up_o (by decide), up_o (by decide), empR_s (by decide) (by omega), up_o (by decide), up_o (by decide), up_o (by decide), up_o (by decide)]
  have e116 : ∀ i, In 8 i → sNew D (-5) n 116 (8 * (40 * t + s) + i) = D 116 (8 * (40 * t + s) + i) := fun i hi => by
    have i0 := hi.1
    have i1 := hi.2
    unfold sNew
    rw [up_o (by decide), up_o (by decide), empR_116, if_neg (by omega), up_o (by decide), up_o (by decide), up_o (by decide), up_o (by decide)]
  have hli := liN_new w (u := -5) (n := n)
  obtain ⟨E, eE⟩ : ∃ E, E = sNew D (-5) n := ⟨_, rfl⟩
  unfold sBag
  rw [← eE] at wE e11 e109 e110 e112 e113 e116 hli ⊢
  refine WF_put wE (t := t) (s := s) (b := D 99 11) ⟨ht.1, by omega⟩ (by rw [e109]; exact hs) ⟨by omega, by omega⟩ (by rw [e112]; exact h4) e110 (fun m => hli m t ht) (fun c _ => ?_) (fun o b1 b2 => ?_) (fun x hx => ?_) (fun x hx => ?_) ?_ ?_ (fun o k b1 b2 hk => ?_) ?_ ?_ ?_ (fun i hi => ?_) (fun i hi => ?_)
  · rw [up_o (by decide), up_o (by decide), up_o (by decide), up_o (by decide)]
  · rw [up_r (by omega), up_r (by omega), up_r (by omega), up_r (by omega)]
  · rw [up_o (by decide), up_k hx, up_o (by decide), up_o (by decide)]
  · rw [up_k hx, up_o (by decide), up_o (by decide), up_o (by decide)]
  · rw [up_o (by decide), up_e]
  · rw [up_e]
  · rw [up_o (by omega), up_o (by omega)]
    unfold up
    rw [if_neg (fun q => hk q.2), if_neg (fun q => hk q.2)]
  · rw [up_o (by decide), up_o (by decide), up_o (by decide), up_e]
  · rw [up_o (by decide), up_o (by decide), up_e]
  · rw [up_o (by decide), up_o (by decide), up_o (by decide), up_o (by decide), e113]
    by_cases h : D 113 (40 * t + s) = 0
    · exact h
    · have := a3 h; omega
  · rw [up_o (by decide), up_o (by decide), up_o (by decide), up_o (by decide), e116 i hi]
    exact (a4 i hi).2.2 (by omega)
  · rw [up_o (by decide), up_o (by decide), up_o (by decide), up_o (by decide)]
