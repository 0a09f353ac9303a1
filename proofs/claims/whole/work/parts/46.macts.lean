/-! notes -/
theorem b8_of {x : Int} (h : -128 ≤ x ∧ x < 128) : b8 x = x := by
  unfold b8
  rw [Int8.toInt_toInt32, Int32.toInt_toInt8, ofI ⟨by omega, by omega⟩, Int.bmod_def]
  split <;> omega
/-- the letters of w, the highest byte first, of the lowest j bytes -/
def lts (w : Int) : Nat → List Int
  | 0 => []
  | j + 1 => if byt w j = 0 then lts w j else byt w j :: lts w j
theorem lts_len (w : Int) : ∀ j, (lts w j).length ≤ j
  | 0 => Nat.le_refl _
  | j + 1 => by
    have := lts_len w j
    unfold lts
    split
    · omega
    · simp only [List.length_cons]; omega
def okL (w : Int) : Prop := ∀ j, j < 8 → byt w j = 0 ∨ 32 ≤ byt w j ∧ byt w j ≤ 126
theorem lts_ok {w : Int} (h : okL w) : ∀ j, j ≤ 8 → ∀ x ∈ lts w j, 32 ≤ x ∧ x ≤ 126
  | 0, _, x, hx => by cases hx
  | j + 1, hj, x, hx => by
    unfold lts at hx
    split at hx
    · exact lts_ok h j (by omega) x hx
    · rename_i h0
      rcases List.mem_cons.mp hx with rfl | hx
      · exact (h j (by omega)).resolve_left h0
      · exact lts_ok h j (by omega) x hx
def apL (G : DD) (p : Int) : List Int → DD
  | [] => G
  | x :: l => apL (up G 117 p x) (p + 1) l
theorem apL_o {o : Nat} {i : Int} (ho : o ≠ 117) : ∀ (l : List Int) (G : DD) (p : Int), apL G p l o i = G o i
  | [], _, _ => rfl
  | x :: l, G, p => by
    show apL (up G 117 p x) (p + 1) l o i = _
    rw [apL_o ho l, up_o ho]
theorem apL_lt {i : Int} : ∀ (l : List Int) (G : DD) (p : Int), i < p → apL G p l 117 i = G 117 i
  | [], _, _, _ => rfl
  | x :: l, G, p, h => by
    show apL (up G 117 p x) (p + 1) l 117 i = _
    rw [apL_lt l _ _ (by omega), up_k (by omega)]
theorem apL_in : ∀ (l : List Int) (G : DD) (p : Int) (j : Nat) (hj : j < l.length), apL G p l 117 (p + j) = l[j]
  | [], _, _, _, hj => absurd hj (Nat.not_lt_zero _)
  | x :: l, G, p, 0, _ => by
    show apL (up G 117 p x) (p + 1) l 117 (p + ((0 : Nat) : Int)) = x
    have e : p + ((0 : Nat) : Int) = p := by omega
    rw [e, apL_lt l _ _ (by omega), up_e]
  | x :: l, G, p, j + 1, hj => by
    show apL (up G 117 p x) (p + 1) l 117 (p + ((j + 1 : Nat) : Int)) = l[j]'(by simpa using hj)
    have e : p + ((j + 1 : Nat) : Int) = p + 1 + (j : Int) := by push_cast; omega
    rw [e]
    exact apL_in l _ _ j (by simpa using hj)
theorem apL_ge {i : Int} : ∀ (l : List Int) (G : DD) (p : Int), p + l.length ≤ i → apL G p l 117 i = G 117 i
  | [], _, _, _ => rfl
  | x :: l, G, p, h => by
    simp only [List.length_cons] at h
    push_cast at h
    show apL (up G 117 p x) (p + 1) l 117 i = _
    rw [apL_ge l _ _ (by omega), up_k (by omega)]
theorem RMs.ap {D0 : DD} : ∀ (l : List Int) {D : DD} {W : Nat → Int → Prop} {h : AH} (_ : RMs D0 W h D) (p : Int), RMs D0 (fun o i => W o i ∨ o = 117 ∧ p ≤ i ∧ i < p + l.length) (sg h (apL (gi h) p l)) (apL D p l)
  | [], D, W, h, r, p => fun o i q => by
    show gi h o i = D o i
    refine r o i (q.imp id (fun q => q.resolve_right (fun q => ?_)))
    have := q.2.2
    simp at this
    omega
  | x :: l, D, W, h, r, p => fun o i q => by
    have := RMs.ap l (r.w1 117 p x) (p + 1)
    refine this o i (q.imp id (fun q => ?_))
    rcases q with q | ⟨q1, q2, q3⟩
    · exact Or.inl (Or.inl q)
    · by_cases hi : i = p
      · exact Or.inl (Or.inr ⟨q1, hi⟩)
      · simp only [List.length_cons] at q3
        push_cast at q3
        exact Or.inr ⟨q1, by omega, by omega⟩
theorem m_doNote_82 {Q : Option AV → AH → Prop} {h : AH} {t s w y5 y8 k : Int} (hw : okL w) (hF : Fix h) (hk : 0 ≤ k ∧ k < 2400) : ∀ (j : Nat) (G : DD) (had : Int), j ≤ 8 → 0 ≤ had → had + (lts w j).length ≤ 40 →
    Q (some (vI (had + (lts w j).length))) (sg h (up (up (apL G (40 * k + had) (lts w j)) 114 k (had + (lts w j).length)) 99 37 1)) →
    Ok 230 82 [some (vR (some 99)), some (vI t), some (vI s), some (vL w), none, some (vI y5), some (vI k), some (vI had), some (vI y8), some (vI (8 * (j : Int) - 8)), none] [] (sg h G) Q
  | 0, G, had, _, h0, h1, cont => by
    refine f_X12_doNote_82 hF.sg _ _ _ _ _ _ _ _ ⟨fun c => ⟨hk, ?_⟩, fun c => absurd (by omega) c⟩
    have e : had + (([] : List Int).length : Int) = had := by simp
    unfold lts at cont
    rw [e] at cont
    exact cont
  | j + 1, G, had, hj, h0, h1, cont => by
    have ei : 8 * ((j + 1 : Nat) : Int) - 8 = 8 * (j : Int) := by push_cast; omega
    have eb := byt_shr (w := w) (j := j) (by omega)
    have br := byt_rng w j
    have e32 : w32 (byt w j) = byt w j := w32_of ⟨by omega, by omega⟩
    have es : 8 * (j : Int) + (-8) = 8 * (j : Int) - 8 := by omega
    rw [ei]
    refine f_X12_doNote_82 hF.sg _ _ _ _ _ _ _ _ ⟨fun c => by omega, fun c => ?_⟩
    rw [eb, e32, es]
    unfold lts at cont h1
    refine ⟨fun c1 => ⟨by omega, ?_⟩, fun c1 => ?_⟩
    · rw [if_pos c1] at cont h1
      exact m_doNote_82 hw hF hk j G had (by omega) h0 h1 cont
    · rw [if_neg c1] at cont h1
      have hl := (hw j (by omega)).resolve_left c1
      have hb : (Int32.ofInt ((Int32.ofInt (byt w j)).toInt8.toInt32.toInt)).toInt8.toInt32.toInt = byt w j := by
        show b8 (b8 (byt w j)) = _
        have e0 : b8 (byt w j) = byt w j := b8_of (by omega)
        rw [e0, e0]
      rw [hb]
      simp only [List.length_cons] at h1 cont
      push_cast at h1 cont
      refine ⟨by omega, by omega, by omega, by omega, by omega, ?_⟩
      rw [si_sg, sg_sg, gi_sg]
      have e1 : had + (((lts w j).length : Int) + 1) = had + 1 + ((lts w j).length : Int) := by omega
      have e2 : 40 * k + had + 1 = 40 * k + (had + 1) := by omega
      have e3 : apL G (40 * k + had) (byt w j :: lts w j) = apL (up G 117 (40 * k + had) (byt w j)) (40 * k + (had + 1)) (lts w j) := by rw [← e2]; rfl
      rw [e1, e3] at cont
      exact m_doNote_82 hw hF hk j _ (had + 1) (by omega) (by omega) (by omega) cont
def had (D : DD) (k : Int) : Int := if D 112 k = -5 then 0 else D 114 k
def oNote (D : DD) (t s w : Int) : Int := if slotF D t s ≠ 0 then -10 - slotF D t s else if D 112 (40 * t + s) ≠ -5 ∧ D 112 (40 * t + s) ≠ 3 then -13 else if 40 < had D (40 * t + s) + (lts w 8).length then -2 else had D (40 * t + s) + (lts w 8).length
def sNote (D : DD) (t s w : Int) : DD := up (up (apL (up D 112 (40 * t + s) 3) (40 * (40 * t + s) + had D (40 * t + s)) (lts w 8)) 114 (40 * t + s) (had D (40 * t + s) + (lts w 8).length)) 99 37 1
theorem m_doNote_50 {Q : Option AV → AH → Prop} {h : AH} {t s w y5 k hd : Int} (hF : Fix h) (hk : 0 ≤ k ∧ k < 2400) (h0 : 0 ≤ hd ∧ hd ≤ 40) : ∀ (j : Nat) (m : Int), j ≤ 8 → 0 ≤ m → m ≤ 8 - j →
    ((hd + (m + (lts w j).length) ≤ 40) → ∀ y8, Ok 230 82 [some (vR (some 99)), some (vI t), some (vI s), some (vL w), none, some (vI y5), some (vI k), some (vI hd), some (vI y8), some (vI 56), none] [] (si h 112 k 3) Q) → (¬ (hd + (m + (lts w j).length) ≤ 40) → Q (some (vI (-2))) h) →
    Ok 230 50 [some (vR (some 99)), some (vI t), some (vI s), some (vL w), none, some (vI y5), some (vI k), some (vI hd), some (vI m), some (vI (8 * (j : Int) - 8)), none] [] h Q
  | 0, m, _, m0, m1, c1, c2 => by
    unfold lts at c1 c2
    simp at c1 c2
    refine f_X12_doNote_50 hF _ _ _ _ _ _ _ _ ⟨fun c => ⟨by omega, fun q => ⟨hk, c1 q _⟩, fun q => c2 (by omega)⟩, fun c => absurd (by omega) c⟩
  | j + 1, m, hj, m0, m1, c1, c2 => by
    have ei : 8 * ((j + 1 : Nat) : Int) - 8 = 8 * (j : Int) := by push_cast; omega
    have eb := byt_shr (w := w) (j := j) (by omega)
    have br := byt_rng w j
    have es : 8 * (j : Int) + (-8) = 8 * (j : Int) - 8 := by omega
    have ec : ((if 0 < byt w j then (1 : Int) else if byt w j = 0 then 0 else -1) = 0) ↔ byt w j = 0 := by
      split
      · omega
      · split <;> omega
    rw [ei]
    refine f_X12_doNote_50 hF _ _ _ _ _ _ _ _ ⟨fun c => by omega, fun c => ?_⟩
    rw [eb, es, ec]
    unfold lts at c1 c2
    push_cast at m1
    refine ⟨fun q => ⟨by omega, by omega, ?_⟩, fun q => ⟨by omega, by omega, ?_⟩⟩
    · rw [if_pos q] at c1 c2
      rw [Int.add_zero]
      exact m_doNote_50 hF hk h0 j m (by omega) m0 (by omega) c1 c2
    · rw [if_neg q] at c1 c2
      simp only [List.length_cons] at c1 c2
      push_cast at c1 c2
      have e : m + (((lts w j).length : Int) + 1) = m + 1 + ((lts w j).length : Int) := by omega
      rw [e] at c1 c2
      exact m_doNote_50 hF hk h0 j (m + 1) (by omega) (by omega) (by omega) c1 c2
theorem had_rng {D : DD} (w : WF D) {t s : Int} (ht : In (D 99 11) t) (hs : In (D 109 t) s) (h3 : ¬ (D 112 (40 * t + s) ≠ -5 ∧ D 112 (40 * t + s) ≠ 3)) : 0 ≤ had D (40 * t + s) ∧ had D (40 * t + s) ≤ 40 := by
  unfold had
  split
  · omega
  · have := ((w.2.2.2.2.2.1 t s ht hs).2.2.2.2.2.2.1 (by omega)).1
    omega
theorem sNote_rm {h : AH} {D : DD} (r : RM h D) (w : WF D) {t s wd : Int} (ht : In (D 99 11) t) (hs : slotF D t s = 0) (h3 : ¬ (D 112 (40 * t + s) ≠ -5 ∧ D 112 (40 * t + s) ≠ 3)) :
    RM (sg h (up (up (apL (up (gi h) 112 (40 * t + s) 3) (40 * (40 * t + s) + had D (40 * t + s)) (lts wd 8)) 114 (40 * t + s) (had D (40 * t + s) + (lts wd 8).length)) 99 37 1)) (sNote D t s wd) := by
  obtain ⟨hk, hk2⟩ := slotF_k w ht hs
  have r1 := (((RMs.ap (lts wd 8) (r.st.w1 112 (40 * t + s) 3) (40 * (40 * t + s) + had D (40 * t + s))).w1 114 (40 * t + s) (had D (40 * t + s) + (lts wd 8).length)).w1 99 37 1)
  have ec : ∀ c : Int, c ≠ 37 → sNote D t s wd 99 c = D 99 c := fun c hc => by
    unfold sNote
    rw [up_k hc, up_o (by decide), apL_o (by decide), up_o (by decide)]
  refine RMs.rm r1 (fun o j q => Or.inl (UsN_same q ⟨ec 1 (by decide), ec 7 (by decide), ec 11 (by decide), ec 22 (by decide)⟩)) (fun j q => ?_)
  obtain ⟨k', i', q1, q2, q3, q4⟩ := q
  have q1' : In (40 * D 99 11) k' := by rw [ec 11 (by decide)] at q1; exact q1
  unfold sNote at q2 q3
  rw [up_o (by decide), up_o (by decide), apL_o (by decide)] at q2
  rw [up_o (by decide)] at q3
  by_cases hkk : k' = 40 * t + s
  · rw [hkk, up_e] at q3
    have i0 := q3.1
    have i1 := q3.2
    by_cases hh : i' < had D (40 * t + s)
    · left
      refine ⟨k', i', q1', ?_, ⟨i0, ?_⟩, q4⟩ <;> unfold had at hh <;> rw [hkk] <;> split at hh
      · omega
      · omega
      · omega
      · exact hh
    · right
      refine Or.inl (Or.inl (Or.inr ⟨rfl, ?_, ?_⟩)) <;> omega
  · rw [up_k hkk] at q2
    rw [up_k hkk, apL_o (by decide), up_o (by decide)] at q3
    exact Or.inl ⟨k', i', q1', q2, q3, q4⟩
theorem apL_fr {L : List Nat} {K : List (Nat × Int)} {h h' : AH} (f : Fr L K h h') (hL : 117 ∈ L) (p : Int) (l : List Int) : Fr L K h (sg h' (apL (gi h') p l)) := ⟨fun o i q1 q2 => by
  rw [gi_sg, apL_o (fun e => q1 (by rw [e]; exact hL))]
  exact f.1 o i q1 q2, f.2⟩
theorem m_doNote {h : AH} {Q : Option AV → AH → Prop} {D : DD} {t s wd : Int} (hF : Fix h) (r : RM h D) (w : WF D) (hb : Fb h) (ht : In (D 99 11) t) (hw : okL wd)
    (cont : ∀ h', DoP h h' D (oNote D t s wd) (oNote D t s wd) (sNote D t s wd) (0 ≤ oNote D t s wd) → Q (some (vI (oNote D t s wd))) h') : Ok 230 0 [some (vR (some 99)), some (vI t), some (vI s), some (vL wd), none, none, none, none, none, none, none] [] h Q := by
  have c0 := w.1
  unfold Wc at c0
  have t0 := ht.1
  have t1 := ht.2
  have hr := slotF_rng D t s
  refine f_X12_doNote_0 hF _ _ _ (m_slotFault hF r w ht ⟨_, rfl, hF, fun c => ?_, fun c => ?_⟩)
  · obtain ⟨hk, hk2⟩ := slotF_k w ht c
    have hk0 := hk.1
    have s0 := (slotF_0 c).1
    rw [r.s (o := 112) (by decide) hk, r.s (o := 114) (by decide) hk]
    unfold oNote at cont
    rw [if_neg (by omega)] at cont
    have tail : ¬ (D 112 (40 * t + s) ≠ -5 ∧ D 112 (40 * t + s) ≠ 3) → ∀ hd, hd = had D (40 * t + s) → Ok 230 50 [some (vR (some 99)), some (vI t), some (vI s), some (vL wd), none, some (vI (slotF D t s)), some (vI (40 * t + s)), some (vI hd), some (vI 0), some (vI 56), none] [] h Q := by
      intro h3 hd hhd
      rw [if_neg h3] at cont
      have hr3 := had_rng w ht (slotF_0 c) h3
      subst hhd
      refine m_doNote_50 hF ⟨hk0, hk2⟩ hr3 8 0 (by omega) (by omega) (by omega) (fun q y8 => ?_) (fun q => ?_)
      · rw [Int.zero_add] at q
        rw [if_neg (by omega)] at cont
        refine m_doNote_82 hw hF ⟨hk0, hk2⟩ 8 (up (gi h) 112 (40 * t + s) 3) _ (by omega) hr3.1 q ?_
        have f1 : Fr eL eK h (si h 112 (40 * t + s) 3) := Fr.refl.si (Or.inl (by decide))
        have f2 := ((apL_fr f1 (by decide) (40 * (40 * t + s) + had D (40 * t + s)) (lts wd 8)).si (o := 114) (k := 40 * t + s) (v := had D (40 * t + s) + (lts wd 8).length) (Or.inl (by decide))).si (o := 99) (k := 37) (v := 1) (Or.inr (by decide))
        exact cont _ (DoP_done (sNote_rm r w ht c h3) f2 (by rw [gi_sg]; exact up_e) (by omega) (by omega))
      · rw [Int.zero_add] at q
        rw [if_pos (by omega)] at cont
        exact cont h (DoP_same r Fr.refl (by omega) (by omega))
    refine ⟨by omega, by omega, ⟨hk0, hk2⟩, fun c1 => tail (by omega) 0 (by unfold had; rw [if_pos c1]), fun c1 => ⟨fun c2 => tail (by omega) _ (by unfold had; rw [if_neg c1]), fun c2 => ?_⟩⟩
    rw [if_pos ⟨c1, c2⟩] at cont
    exact m_found hF (by omega) hb (fun h' f1 f2 => ⟨_, rfl, hF.fr f1, cont h' (DoP_found (f := 3) r (by omega) f1 f2 (by omega))⟩)
  · unfold oNote at cont
    rw [if_pos c] at cont
    exact m_found hF (by omega) hb (fun h' f1 f2 => ⟨_, rfl, hF.fr f1, cont h' (DoP_found r (by omega) f1 f2 (by omega))⟩)
