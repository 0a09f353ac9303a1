/-! what a slot holds is laid into another -/
def b8 (x : Int) : Int := (Int32.ofInt x).toInt8.toInt32.toInt
def sLay (G : DD) (k j : Int) : DD := fun o i => if (112 ≤ o ∧ o ≤ 115) ∧ i = j then G o k else if o = 116 ∧ 8 * j ≤ i ∧ i < 8 * j + 8 then G 116 (8 * k + (i - 8 * j)) else
  if o = 117 ∧ G 112 k = 3 ∧ 40 * j ≤ i ∧ i < 40 * j + 40 then b8 (G 117 (40 * k + (i - 40 * j))) else G o i
theorem m_lay_57 {Q : Option AV → AH → Prop} {h : AH} {k j : Int} (hk : 0 ≤ k ∧ k < 2400) (hj : 0 ≤ j ∧ j < 2400) (hkj : k ≠ j) (m : Nat) : ∀ (G : DD) (i : Int), (40 - i).toNat = m → Fix h → 0 ≤ i → i ≤ 40 →
    Q none (sg h (fun o q => if o = 117 ∧ G 112 k = 3 ∧ 40 * j + i ≤ q ∧ q < 40 * j + 40 then b8 (G 117 (40 * k + (q - 40 * j))) else G o q)) → Ok 233 57 [some (vR (some 99)), some (vI k), some (vI j), some (vI i)] [] (sg h G) Q := by
  induction m using Nat.strongRecOn with
  | ind m ih =>
    intro G i hm hF i0 i1 cont
    refine f_X12_lay_57 hF.sg _ _ _ ?_
    rw [gi_sg]
    refine ⟨fun c => ?_, fun c => ⟨hk, fun c1 => ?_, fun c1 => ⟨by omega, by omega, by omega, by omega, by omega, by omega, by omega, ?_⟩⟩⟩
    · have e : (fun o q => if o = 117 ∧ G 112 k = 3 ∧ 40 * j + i ≤ q ∧ q < 40 * j + 40 then b8 (G 117 (40 * k + (q - 40 * j))) else G o q) = G := by
        funext o q
        rw [if_neg (by omega)]
      rw [e] at cont
      exact cont
    · have e : (fun o q => if o = 117 ∧ G 112 k = 3 ∧ 40 * j + i ≤ q ∧ q < 40 * j + 40 then b8 (G 117 (40 * k + (q - 40 * j))) else G o q) = G := by
        funext o q
        rw [if_neg (fun q => c1 q.2.1)]
      rw [e] at cont
      exact cont
    · rw [si_sg, sg_sg, gi_sg]
      refine ih _ (by omega) _ (i + 1) rfl hF (by omega) (by omega) ?_
      have e : (fun o q => if o = 117 ∧ up G 117 (40 * j + i) (b8 (G 117 (40 * k + i))) 112 k = 3 ∧ 40 * j + (i + 1) ≤ q ∧ q < 40 * j + 40 then b8 (up G 117 (40 * j + i) (b8 (G 117 (40 * k + i))) 117 (40 * k + (q - 40 * j))) else up G 117 (40 * j + i) (b8 (G 117 (40 * k + i))) o q) =
          (fun o q => if o = 117 ∧ G 112 k = 3 ∧ 40 * j + i ≤ q ∧ q < 40 * j + 40 then b8 (G 117 (40 * k + (q - 40 * j))) else G o q) := by
        funext o q
        rw [up_o (by decide)]
        by_cases h1 : o = 117 ∧ G 112 k = 3 ∧ 40 * j + i ≤ q ∧ q < 40 * j + 40
        · rw [if_pos h1]
          by_cases h2 : q = 40 * j + i
          · rw [if_neg (by omega), h1.1, h2, up_e]
            congr 2
            omega
          · rw [if_pos (by omega), up_k (by omega)]
        · rw [if_neg h1, if_neg (by omega)]
          unfold up
          rw [if_neg (by omega)]
      rw [← e] at cont
      exact cont
theorem m_lay_34 {Q : Option AV → AH → Prop} {h : AH} {k j : Int} (hk : 0 ≤ k ∧ k < 2400) (hj : 0 ≤ j ∧ j < 2400) (hkj : k ≠ j) (m : Nat) : ∀ (G : DD) (i : Int), (8 - i).toNat = m → Fix h → 0 ≤ i → i ≤ 8 →
    Q none (sg h (fun o q => if o = 116 ∧ 8 * j + i ≤ q ∧ q < 8 * j + 8 then G 116 (8 * k + (q - 8 * j)) else if o = 117 ∧ G 112 k = 3 ∧ 40 * j ≤ q ∧ q < 40 * j + 40 then b8 (G 117 (40 * k + (q - 40 * j))) else G o q)) → Ok 233 34 [some (vR (some 99)), some (vI k), some (vI j), some (vI i)] [] (sg h G) Q := by
  induction m using Nat.strongRecOn with
  | ind m ih =>
    intro G i hm hF i0 i1 cont
    refine f_X12_lay_34 hF.sg _ _ _ ?_
    rw [gi_sg]
    refine ⟨fun c => ?_, fun c => ⟨by omega, by omega, by omega, by omega, by omega, by omega, by omega, ?_⟩⟩
    · refine m_lay_57 hk hj hkj _ G 0 rfl hF (by omega) (by omega) ?_
      have e : (fun o q => if o = 116 ∧ 8 * j + i ≤ q ∧ q < 8 * j + 8 then G 116 (8 * k + (q - 8 * j)) else if o = 117 ∧ G 112 k = 3 ∧ 40 * j ≤ q ∧ q < 40 * j + 40 then b8 (G 117 (40 * k + (q - 40 * j))) else G o q) =
          (fun o q => if o = 117 ∧ G 112 k = 3 ∧ 40 * j + 0 ≤ q ∧ q < 40 * j + 40 then b8 (G 117 (40 * k + (q - 40 * j))) else G o q) := by
        funext o q
        rw [if_neg (by omega), Int.add_zero]
      rw [e] at cont
      exact cont
    · rw [si_sg, sg_sg, gi_sg]
      refine ih _ (by omega) _ (i + 1) rfl hF (by omega) (by omega) ?_
      have e : (fun o q => if o = 116 ∧ 8 * j + (i + 1) ≤ q ∧ q < 8 * j + 8 then up G 116 (8 * j + i) (G 116 (8 * k + i)) 116 (8 * k + (q - 8 * j)) else if o = 117 ∧ up G 116 (8 * j + i) (G 116 (8 * k + i)) 112 k = 3 ∧ 40 * j ≤ q ∧ q < 40 * j + 40 then b8 (up G 116 (8 * j + i) (G 116 (8 * k + i)) 117 (40 * k + (q - 40 * j))) else up G 116 (8 * j + i) (G 116 (8 * k + i)) o q) =
          (fun o q => if o = 116 ∧ 8 * j + i ≤ q ∧ q < 8 * j + 8 then G 116 (8 * k + (q - 8 * j)) else if o = 117 ∧ G 112 k = 3 ∧ 40 * j ≤ q ∧ q < 40 * j + 40 then b8 (G 117 (40 * k + (q - 40 * j))) else G o q) := by
        funext o q
        rw [up_o (p := 112) (by decide), up_o (p := 117) (by decide)]
        by_cases h1 : o = 116 ∧ 8 * j + i ≤ q ∧ q < 8 * j + 8
        · rw [if_pos h1]
          by_cases h2 : q = 8 * j + i
          · rw [if_neg (by omega), if_neg (by omega), h1.1, h2, up_e]
            congr 2
            omega
          · rw [if_pos (by omega), up_k (by omega)]
        · rw [if_neg h1, if_neg (by omega)]
          by_cases h2 : o = 117 ∧ G 112 k = 3 ∧ 40 * j ≤ q ∧ q < 40 * j + 40
          · rw [if_pos h2, if_pos h2]
          · rw [if_neg h2, if_neg h2]
            unfold up
            rw [if_neg (by omega)]
      rw [← e] at cont
      exact cont
theorem m_lay {h : AH} {Q : Option AV → AH → Prop} {k j : Int} (hF : Fix h) (hk : 0 ≤ k ∧ k < 2400) (hj : 0 ≤ j ∧ j < 2400) (hkj : k ≠ j) (cont : Q none (sg h (sLay (gi h) k j))) : ∀ y, Ok 233 0 [some (vR (some 99)), some (vI k), some (vI j), y] [] h Q := by
  intro y
  refine Ok.le (lle_s (lle_s (lle_s (lle_n lle_0)))) (f_X12_lay_0 hF _ _ ⟨hk, hj, ?_⟩)
  show Ok 233 34 _ [] (sg h (up (up (up (up (gi h) 112 j (gi h 112 k)) 113 j (gi h 113 k)) 114 j (gi h 114 k)) 115 j (gi h 115 k))) Q
  refine m_lay_34 hk hj hkj _ _ 0 rfl hF (by omega) (by omega) ?_
  have e : (fun o q => if o = 116 ∧ 8 * j + 0 ≤ q ∧ q < 8 * j + 8 then up (up (up (up (gi h) 112 j (gi h 112 k)) 113 j (gi h 113 k)) 114 j (gi h 114 k)) 115 j (gi h 115 k) 116 (8 * k + (q - 8 * j)) else if o = 117 ∧ up (up (up (up (gi h) 112 j (gi h 112 k)) 113 j (gi h 113 k)) 114 j (gi h 114 k)) 115 j (gi h 115 k) 112 k = 3 ∧ 40 * j ≤ q ∧ q < 40 * j + 40 then b8 (up (up (up (up (gi h) 112 j (gi h 112 k)) 113 j (gi h 113 k)) 114 j (gi h 114 k)) 115 j (gi h 115 k) 117 (40 * k + (q - 40 * j))) else up (up (up (up (gi h) 112 j (gi h 112 k)) 113 j (gi h 113 k)) 114 j (gi h 114 k)) 115 j (gi h 115 k) o q) = sLay (gi h) k j := by
    funext o q
    unfold sLay
    rw [up_o (p := 116) (by decide), up_o (p := 116) (by decide), up_o (p := 116) (by decide), up_o (p := 116) (by decide), up_o (p := 117) (by decide), up_o (p := 117) (by decide), up_o (p := 117) (by decide), up_o (p := 117) (by decide),
      up_o (p := 112) (by decide), up_o (p := 112) (by decide), up_o (p := 112) (by decide), up_k hkj, Int.add_zero]
    by_cases h1 : (112 ≤ o ∧ o ≤ 115) ∧ q = j
    · rw [if_pos h1, if_neg (by omega), if_neg (by omega), h1.2]
      have : o = 112 ∨ o = 113 ∨ o = 114 ∨ o = 115 := by omega
      rcases this with rfl | rfl | rfl | rfl
      · rw [up_o (by decide), up_o (by decide), up_o (by decide), up_e]
      · rw [up_o (by decide), up_o (by decide), up_e]
      · rw [up_o (by decide), up_e]
      · rw [up_e]
    · rw [if_neg h1]
      by_cases h2 : o = 116 ∧ 8 * j ≤ q ∧ q < 8 * j + 8
      · rw [if_pos h2, if_pos h2]
      · rw [if_neg h2, if_neg h2]
        by_cases h3 : o = 117 ∧ gi h 112 k = 3 ∧ 40 * j ≤ q ∧ q < 40 * j + 40
        · rw [if_pos h3, if_pos h3]
        · rw [if_neg h3, if_neg h3]
          unfold up
          rw [if_neg (by omega), if_neg (by omega), if_neg (by omega), if_neg (by omega)]
  rw [e]
  exact cont
theorem sLay_o {G : DD} {k j : Int} {o : Nat} {i : Int} (ho : o < 112 ∨ 117 < o) : sLay G k j o i = G o i := by
  unfold sLay
  rw [if_neg (by omega), if_neg (by omega), if_neg (by omega)]
theorem sLay_s {G : DD} {k j : Int} {o : Nat} {i : Int} (ho : 112 ≤ o ∧ o ≤ 115) (hi : i ≠ j) : sLay G k j o i = G o i := by
  unfold sLay
  rw [if_neg (by omega), if_neg (by omega), if_neg (by omega)]
theorem sLay_e {G : DD} {k j : Int} {o : Nat} (ho : 112 ≤ o ∧ o ≤ 115) : sLay G k j o j = G o k := by
  unfold sLay
  rw [if_pos ⟨ho, rfl⟩]
theorem sLay_117 {G : DD} {k j i : Int} : sLay G k j 117 i = if G 112 k = 3 ∧ 40 * j ≤ i ∧ i < 40 * j + 40 then b8 (G 117 (40 * k + (i - 40 * j))) else G 117 i := by
  unfold sLay
  rw [if_neg (by omega), if_neg (by omega)]
  by_cases h : G 112 k = 3 ∧ 40 * j ≤ i ∧ i < 40 * j + 40
  · rw [if_pos ⟨rfl, h⟩, if_pos h]
  · rw [if_neg (fun q => h q.2), if_neg h]
theorem sLay_fr {h : AH} {k j : Int} : Fr eL eK h (sg h (sLay (gi h) k j)) := ⟨fun o i p q => by
  rw [gi_sg]
  refine sLay_o ?_
  by_cases ho : o < 112 ∨ 117 < o
  · exact ho
  · have : o = 112 ∨ o = 113 ∨ o = 114 ∨ o = 115 ∨ o = 116 ∨ o = 117 := by omega
    rcases this with rfl | rfl | rfl | rfl | rfl | rfl <;> exact absurd (by decide) p, fun _ _ _ _ => rfl, rfl, rfl, rfl, rfl, rfl⟩
/-- notes have at most 40 letters -/
def Nt (D : DD) : Prop := ∀ k, In (40 * D 99 11) k → D 112 k = 3 → D 114 k ≤ 40
theorem sLay_rm {h : AH} {D : DD} {k j : Int} (r : RM h D) (hk : In (40 * D 99 11) k) (hj : In (40 * D 99 11) j) (hkj : k ≠ j) (hn : Nt D) : RM (sg h (sLay (gi h) k j)) (sLay D k j) := by
  have k0 := hk.1
  have k1 := hk.2
  have e112 := r.s (o := 112) (by decide) hk
  intro o i q
  rw [gi_sg]
  rcases Us_iff.mp q with q1 | ⟨rfl, k', i', q1, q2, q3, q4⟩
  · have q1 := UsN_same (D := D) q1 ⟨sLay_o (by omega), sLay_o (by omega), sLay_o (by omega), sLay_o (by omega)⟩
    unfold sLay
    by_cases h1 : (112 ≤ o ∧ o ≤ 115) ∧ i = j
    · rw [if_pos h1, if_pos h1]
      exact r.s h1.1 hk
    · rw [if_neg h1, if_neg h1]
      by_cases h2 : o = 116 ∧ 8 * j ≤ i ∧ i < 8 * j + 8
      · rw [if_pos h2, if_pos h2]
        exact r.q ⟨by omega, by omega⟩
      · have h3 : o ≠ 117 := by
          unfold UsN at q1
          rcases q1 with q | q | q | q | q | q | q <;> omega
        rw [if_neg h2, if_neg h2, if_neg (fun q => h3 q.1), if_neg (fun q => h3 q.1)]
        exact r o i (Us_iff.mpr (Or.inl q1))
  · rw [sLay_o (o := 99) (by omega)] at q1
    rw [sLay_117, sLay_117, e112]
    by_cases hkj' : k' = j
    · subst hkj'
      rw [sLay_e (by decide)] at q2 q3
      have := hn k hk q2
      have i0 := q3.1
      have i1 := q3.2
      rw [if_pos ⟨q2, by omega, by omega⟩, if_pos ⟨q2, by omega, by omega⟩]
      congr 1
      exact r.l ⟨k, i', hk, q2, q3, by omega⟩
    · rw [sLay_s (by decide) hkj'] at q2 q3
      have := hn k' q1 q2
      have i0 := q3.1
      have i1 := q3.2
      have hno : ¬ (40 * j ≤ i ∧ i < 40 * j + 40) := by omega
      rw [if_neg (fun q => hno q.2), if_neg (fun q => hno q.2)]
      exact r.l ⟨k', i', q1, q2, q3, q4⟩
