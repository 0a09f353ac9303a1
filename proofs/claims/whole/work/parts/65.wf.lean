theorem liN_b {D : DD} {b : Int} : ∀ k : Nat, liN D b k b = true
  | 0 => by unfold liN; simp
  | k + 1 => by unfold liN; rw [if_pos rfl]
/-- enough steps are enough -/
theorem liN_up {D : DD} (w : WF D) {b : Int} {bk : Int → Nat} (hb : ∀ t, In (D 99 11) t → D 110 t ≠ -5 → bk (D 110 t) < bk t) : ∀ (m : Nat) (x : Int) (k : Nat), In (D 99 11) x → bk x < k → liN D b m x = true → liN D b k x = true
  | 0, x, k, hx, hk, h => by
    unfold liN at h
    have e : x = b := by simpa using h
    rw [e]; exact liN_b k
  | m + 1, x, k, hx, hk, h => by
    by_cases e : x = b
    · rw [e]; exact liN_b k
    · unfold liN at h
      rw [if_neg e] at h
      by_cases h5 : D 110 x = -5
      · rw [if_pos h5] at h; exact absurd h (by decide)
      · rw [if_neg h5] at h
        have hp : In (D 99 11) (D 110 x) := by
          rcases (w.2.2.2.1 x hx).2.2 with q | q
          · exact absurd q h5
          · exact q.1
        have hlt := hb x hx h5
        obtain ⟨k', rfl⟩ : ∃ k', k = k' + 1 := ⟨k - 1, by omega⟩
        unfold liN
        rw [if_neg e, if_neg h5]
        exact liN_up w hb m _ k' hp (by omega) h
theorem li_all {D : DD} (w : WF D) {b t : Int} (ht : In (D 99 11) t) (h : li D b t ≠ true) (m : Nat) : liN D b m t = false := by
  obtain ⟨bk, h1, h2⟩ := Wb_small w
  cases e : liN D b m t with
  | false => rfl
  | true => exact absurd (liN_up w h1 m t 60 ht (h2 t ht) e) h
theorem liN_c {D D' : DD} {b : Int} (h : ∀ x, x ≠ b → D' 110 x = D 110 x) : ∀ (m : Nat) (x : Int), liN D' b m x = liN D b m x
  | 0, x => rfl
  | m + 1, x => by
    unfold liN
    by_cases e : x = b
    · rw [if_pos e, if_pos e]
    · rw [if_neg e, if_neg e, h x e, liN_c h m]
/-- a bag b that lies nowhere is laid into the empty slot s of t -/
theorem WF_put {E D' : DD} (w : WF E) {t s b : Int} (ht : In (E 99 11) t) (hs : In (E 109 t) s) (hb : In (E 99 11) b) (h5 : E 112 (40 * t + s) = -5) (hf : E 110 b = -5) (hli : ∀ m, liN E b m t = false)
    (ec : ∀ c, c = 1 ∨ c = 7 ∨ c = 11 ∨ c = 22 → D' 99 c = E 99 c) (er : ∀ o, o ≠ 99 → o < 110 ∨ 116 < o → D' o = E o) (e110 : ∀ x, x ≠ b → D' 110 x = E 110 x) (e111 : ∀ x, x ≠ b → D' 111 x = E 111 x) (b110 : D' 110 b = t) (b111 : D' 111 b = s)
    (es : ∀ o k, 112 ≤ o → o ≤ 115 → k ≠ 40 * t + s → D' o k = E o k) (s112 : D' 112 (40 * t + s) = 4) (s114 : D' 114 (40 * t + s) = b) (s113 : D' 113 (40 * t + s) = 0) (s116 : ∀ i, In 8 i → D' 116 (8 * (40 * t + s) + i) = 0)
    (e116 : ∀ i, ¬ (8 * (40 * t + s) ≤ i ∧ i < 8 * (40 * t + s) + 8) → D' 116 i = E 116 i) : WF D' := by
  obtain ⟨w1, w2, w3, w4, w5, w6, w7, w8⟩ := w
  have c1 := ec 1 (by decide)
  have c7 := ec 7 (by decide)
  have c11 := ec 11 (by decide)
  have c22 := ec 22 (by decide)
  have r := fun (o : Nat) (h : o ≠ 99 ∧ (o < 110 ∨ 116 < o)) => er o h.1 h.2
  have h40 := (w4 t ht).2.1
  have hs0 := hs.1
  have hs1 := hs.2
  have inj : ∀ t' s', 0 ≤ s' → s' < 40 → 40 * t' + s' = 40 * t + s → t' = t ∧ s' = s := fun t' s' h2 h3 h4 => by omega
  refine ⟨Wc_c w1 c1 c7 c11 c22, Wu_c w2 c1 (r _ (by decide)) (r _ (by decide)) (r _ (by decide)) (r _ (by decide)) (r _ (by decide)), Wr_c w3 c1 c7 (r _ (by decide)) (r _ (by decide)) (r _ (by decide)) (r _ (by decide)), ?_, ?_, ?_, Wj_c w7 c1 c22 (r _ (by decide)) (r _ (by decide)), ?_⟩
  · intro t' ht'
    rw [c11] at ht'
    rw [c1, c11, r 108 (by decide), r 109 (by decide)]
    obtain ⟨a1, a2, a3⟩ := w4 t' ht'
    refine ⟨a1, a2, ?_⟩
    by_cases h : t' = b
    · rw [h, b110, b111, s112, s114]
      exact Or.inr ⟨ht, hs, rfl, rfl⟩
    · rw [e110 _ h, e111 _ h]
      refine a3.imp id (fun ⟨b1, b2, b3, b4⟩ => ⟨b1, b2, ?_⟩)
      have hk : 40 * E 110 t' + E 111 t' ≠ 40 * t + s := fun q => by rw [q] at b3; omega
      rw [es 112 _ (by decide) (by decide) hk, es 114 _ (by decide) (by decide) hk]
      exact ⟨b3, b4⟩
  · classical
    obtain ⟨bk, hbk⟩ := w5
    refine ⟨fun x => if ∃ m, liN E b m x = true then bk x + bk t + 1 else bk x, fun t' ht' hne => ?_⟩
    rw [c11] at ht'
    show (if ∃ m, liN E b m (D' 110 t') = true then _ else _) < (if ∃ m, liN E b m t' = true then _ else _)
    by_cases h : t' = b
    · rw [h, b110, if_neg (fun ⟨m, q⟩ => by rw [hli m] at q; exact absurd q (by decide)), if_pos ⟨0, liN_b 0⟩]
      omega
    · rw [e110 _ h] at hne ⊢
      have hlt := hbk t' ht' hne
      by_cases hin : ∃ m, liN E b m (E 110 t') = true
      · obtain ⟨m, hm⟩ := hin
        have h2 : liN E b (m + 1) t' = true := by
          unfold liN
          rw [if_neg h, if_neg hne]; exact hm
        rw [if_pos ⟨m, hm⟩, if_pos ⟨m + 1, h2⟩]
        omega
      · rw [if_neg hin]
        split <;> omega
  · intro t' s' ht' hs'
    rw [c11] at ht'
    rw [r 109 (by decide)] at hs'
    have hw := w6 t' s' ht' hs'
    have h40' := (w4 t' ht').2.1
    have k0 := hs'.1
    have k1 := hs'.2
    by_cases hk : 40 * t' + s' = 40 * t + s
    · obtain ⟨rfl, rfl⟩ := inj t' s' k0 (by omega) hk
      unfold Ws1
      rw [s112, s113, s114, b110, b111, c11]
      refine ⟨by omega, by decide, fun q => absurd rfl q, fun i hi => ?_, fun q => absurd q (by decide), fun q => absurd q (by decide), fun q => absurd q (by decide), fun _ => ⟨hb, rfl, rfl⟩⟩
      rw [s116 i hi]
      exact ⟨by decide, by decide, fun _ => rfl⟩
    · unfold Ws1 at hw ⊢
      rw [es 112 _ (by decide) (by decide) hk, es 113 _ (by decide) (by decide) hk, es 114 _ (by decide) (by decide) hk, es 115 _ (by decide) (by decide) hk, c11, r 117 (by decide)]
      obtain ⟨a1, a2, a3, a4, a5, a6, a7, a8⟩ := hw
      refine ⟨a1, a2, a3, fun i hi => ?_, a5, a6, a7, fun q => ?_⟩
      · have i0 := hi.1
        have i1 := hi.2
        rw [e116 _ (by omega)]
        exact a4 i hi
      · obtain ⟨b1, b2, b3⟩ := a8 q
        have hn : E 114 (40 * t' + s') ≠ b := fun p => by
          rw [p, hf] at b2
          have := ht'.1
          omega
        rw [e110 _ hn, e111 _ hn]
        exact ⟨b1, b2, b3⟩
  · intro t' s' ht' hs' hle
    rw [c11] at ht'
    rw [r 109 (by decide)] at hle
    have hk : 40 * t' + s' ≠ 40 * t + s := fun e => by
      obtain ⟨rfl, rfl⟩ := inj t' s' hs'.1 hs'.2 e
      omega
    rw [es 112 _ (by decide) (by decide) hk]
    exact w8 t' s' ht' hs' hle
