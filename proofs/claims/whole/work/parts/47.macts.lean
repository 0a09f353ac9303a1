/-! ANY ACT: A 0 its code, A 1 .. A 5 its numbers, A 6 its word -/
def isYr (a b : Int) : Prop := -10000 ≤ a ∧ a ≤ b ∧ b ≤ 2100
def ValA (D : DD) (A : Int → Int) : Prop := (0 ≤ A 0 ∧ A 0 ≤ 17) ∧ (A 0 = 0 → (0 ≤ A 1 ∧ A 1 ≤ 4) ∧ 0 ≤ A 2 ∧ A 2 ≤ 999) ∧ (1 ≤ A 0 → A 0 ≤ 4 → In (D 99 1) (A 1) ∧ In (D 99 1) (A 2)) ∧ (A 0 = 5 → In (D 99 1) (A 1) ∧ A 2 ≤ 40) ∧ (6 ≤ A 0 → A 0 ≤ 16 → In (D 99 11) (A 1)) ∧
  (A 0 = 7 → isYr (A 3) (A 4)) ∧ (A 0 = 8 → R32 (A 3) ∧ R32 (A 4)) ∧ (A 0 = 9 → -100 ≤ A 4 ∧ A 4 ≤ 100) ∧ (A 0 = 10 → okL (A 6) ∧ A 6 ≠ 0 ∧ R64 (A 6)) ∧ (A 0 = 11 → A 3 ≤ 40) ∧ (A 0 = 13 ∨ A 0 = 16 → In (D 99 11) (A 3)) ∧ (A 0 = 14 → 0 ≤ A 3 ∧ A 3 ≤ 2) ∧
  (A 0 = 15 → In (D 99 11) (A 4) ∧ (0 ≤ A 3 ∧ A 3 ≤ 40) ∧ R32 (A 2) ∧ R32 (A 5)) ∧ (A 0 = 17 → In (D 99 1) (A 1) ∧ isYr (A 2) (A 3))
def AnsA (D : DD) (A : Int → Int) (x y : Int) : Prop := (A 0 = 0 → x = oUnit D) ∧ (1 ≤ A 0 → A 0 ≤ 3 → aRelate D (A 0 - 1) (A 1) (A 2) x) ∧ (A 0 = 4 → aBond D (A 1) (A 2) x) ∧ (A 0 = 5 → x = oTray D (A 1) (A 2)) ∧ (A 0 = 6 → x = oLose D (A 1)) ∧ (A 0 = 7 ∨ A 0 = 8 → x = oPlace D (A 1) (A 2)) ∧
  (A 0 = 9 → x = oSherds D (A 1) (A 2) (A 3) (A 4)) ∧ (A 0 = 10 → x = oNote D (A 1) (A 2) (A 6)) ∧ (A 0 = 11 → x = oBag D (A 1) (A 2) (A 3)) ∧ (A 0 = 12 → x = oTake D (A 1) (A 2)) ∧ (A 0 = 13 → x = oMove D (A 1) (A 2) (A 3) (A 4)) ∧ (A 0 = 14 → x = oMark D (A 1) (A 2)) ∧
  (A 0 = 15 → x = (cyp D (A 1) (A 2) (A 3) (A 4) (A 5)).1 ∧ y = (cyp D (A 1) (A 2) (A 3) (A 4) (A 5)).2.1) ∧ (A 0 = 16 → x = oJoin D (A 1) (A 2) (A 3) (A 4)) ∧ (A 0 = 17 → x = 1) ∧ (A 0 ≠ 15 → y = x)
def sSpan (D : DD) (u a b : Int) : DD := up (up D 103 u a) 104 u b
def StepA (D : DD) (A : Int → Int) : DD := if A 0 = 0 then sUnit D (A 1) (A 2) else if A 0 ≤ 3 then sRel D (A 0 - 1) (A 1) (A 2) else if A 0 = 4 then sBond D (A 1) (A 2) else if A 0 = 5 then sNew D (A 1) (A 2) else if A 0 = 6 then sLose D (A 1) else
  if A 0 = 7 then sPlace D (A 1) (A 2) 1 (A 3) (A 4) else if A 0 = 8 then sPlace D (A 1) (A 2) 2 (A 3) (A 4) else if A 0 = 9 then sSherds D (A 1) (A 2) (A 3) (A 4) else if A 0 = 10 then sNote D (A 1) (A 2) (A 6) else if A 0 = 11 then sBag D (A 1) (A 2) (A 3) else
  if A 0 = 12 then sLet D (40 * A 1 + A 2) else if A 0 = 13 then sMove D (A 1) (A 2) (A 3) (A 4) else if A 0 = 14 then sMark D (A 1) (A 2) (A 3) else if A 0 = 15 then (cyp D (A 1) (A 2) (A 3) (A 4) (A 5)).2.2 else if A 0 = 16 then sJoin D (A 1) (A 3) else sSpan D (A 1) (A 2) (A 3)
def DnA (A : Int → Int) (x : Int) : Prop := (A 0 = 4 ∨ A 0 = 6 → x = 1) ∧ (A 0 = 15 → 0 < x) ∧ 0 ≤ x
def RgA (D : DD) (A : Int → Int) (h : AH) : Prop := (1 ≤ A 0 ∧ A 0 ≤ 4) ∧ (A 0 ≤ 3 → dRing D h (A 2) (A 1)) ∧ (A 0 = 4 → (Rch (D 99 7) (dla D) (dea D) (D 102 (A 1)) (D 102 (A 2)) → dRing D h (A 1) (A 2)) ∧ (¬ Rch (D 99 7) (dla D) (dea D) (D 102 (A 1)) (D 102 (A 2)) → dRing D h (A 2) (A 1)))
theorem cyGo_ge (t s to o : Int) : ∀ (k : Nat) (m : Int) (E : DD), m ≤ (cyGo t s to o k m E).1
  | 0, m, E => Int.le_refl _
  | k + 1, m, E => by
    unfold cyGo
    split
    · exact Int.le_refl _
    · have := cyGo_ge t s to o k (m + 1) (cyS E t (s + m) to (o + m))
      omega
theorem cyGo_0 (t s to o : Int) : ∀ (k : Nat) (m : Int) (E : DD), (cyGo t s to o k m E).1 ≤ m → (cyGo t s to o k m E).2.2 = E
  | 0, m, E, _ => rfl
  | k + 1, m, E, h => by
    unfold cyGo at h ⊢
    split
    · rfl
    · rename_i hc
      rw [if_neg hc] at h
      have := cyGo_ge t s to o k (m + 1) (cyS E t (s + m) to (o + m))
      omega
theorem DoP_cong {h h' : AH} {D D' D2 : DD} {x y : Int} {dn dn2 : Prop} (p : DoP h h' D x y D' dn) (e : D2 = D') (hd : dn ↔ dn2) : DoP h h' D x y D2 dn2 := by
  subst e
  obtain ⟨p1, p2, p3, p4, p5⟩ := p
  exact ⟨p1, p2, fun q => p3 (hd.mpr q), fun q => p4 (fun q' => q (hd.mp q')), p5⟩
theorem m_does {h : AH} {Q : Option AV → AH → Prop} {D : DD} {A : Int → Int} (hF : Fix h) (r : RM h D) (w : WF D) (hb : Fb h) (v : ValA D A)
    (cont : ∀ h' x y, Fix h' → AnsA D A x y → DoP h h' D x y (StepA D A) (DnA A x) → (x = -4 → RgA D A h') → (A 0 = 15 → gi h' 99 38 = y) → Q (some (vI x)) h') :
    Ok 240 0 [some (vR (some 99)), some (vI (A 0)), some (vI (A 1)), some (vI (A 2)), some (vI (A 3)), some (vI (A 4)), some (vI (A 5)), some (vL (A 6)), none] [] h Q := by
  have c0 := w.1
  unfold Wc at c0
  obtain ⟨v0, v1, v2, v3, v4, v5, v6, v7, v8, v9, v10, v11, v12, v13⟩ := v
  -- an act whose answer is counted as it is
  have fin : A 0 ≠ 15 → ∀ (h' : AH) (x : Int) (D' : DD) (dn : Prop), AnsA D A x x → DoP h h' D x x D' dn → StepA D A = D' → (dn ↔ DnA A x) → (x = -4 → RgA D A h') → ∃ x2, (some (vI x) : Option AV) = some (vI x2) ∧ Fix h' ∧ Q (some (vI x2)) h' := fun h15 h' x D' dn a p e hd hr =>
    ⟨x, rfl, hF.fr p.1, cont h' x x (hF.fr p.1) a (DoP_cong p e hd) hr (fun q => absurd q h15)⟩
  refine f_X12_does_0 hF _ _ _ _ _ _ _ ⟨fun c => ?_, fun c => ?_, fun c => ?_, fun c => ?_, fun c => ?_, fun c => ?_, fun c => ?_, fun c => ?_, fun c => ?_, fun c => ?_, fun c => ?_, fun c => ?_, fun c => ?_, fun c => ?_, fun c => ?_, fun c => ?_, fun c => ?_, fun c => ?_⟩
  · refine m_doUnit hF r w (fun h' p => fin (by omega) h' _ _ _ ?_ p (by unfold StepA; rw [if_pos c]) ?_ (fun q => ?_))
    · unfold AnsA; simp [c]
    · unfold DnA; simp [c]
    · unfold oUnit at q; split at q <;> omega
  · obtain ⟨a1, a2⟩ := v2 (by omega) (by omega)
    refine m_doRelation hF r w hb a1 a2 (fun h' x ax p hr => fin (by omega) h' x _ _ ?_ p (by unfold StepA; rw [if_neg (by omega), if_pos (by omega), c]; rfl) ?_ (fun q => ⟨by omega, fun _ => hr q, fun q => by omega⟩))
    · unfold AnsA; simp [c]; exact ax
    · unfold DnA; simp [c]
  · obtain ⟨a1, a2⟩ := v2 (by omega) (by omega)
    refine m_doRelation hF r w hb a1 a2 (fun h' x ax p hr => fin (by omega) h' x _ _ ?_ p (by unfold StepA; rw [if_neg (by omega), if_pos (by omega), c]; rfl) ?_ (fun q => ⟨by omega, fun _ => hr q, fun q => by omega⟩))
    · unfold AnsA; simp [c]; exact ax
    · unfold DnA; simp [c]
  · obtain ⟨a1, a2⟩ := v2 (by omega) (by omega)
    refine m_doRelation hF r w hb a1 a2 (fun h' x ax p hr => fin (by omega) h' x _ _ ?_ p (by unfold StepA; rw [if_neg (by omega), if_pos (by omega), c]; rfl) ?_ (fun q => ⟨by omega, fun _ => hr q, fun q => by omega⟩))
    · unfold AnsA; simp [c]; exact ax
    · unfold DnA; simp [c]
  · obtain ⟨a1, a2⟩ := v2 (by omega) (by omega)
    refine m_doBond hF r w a1 a2 (fun h' x ax p hr => fin (by omega) h' x _ _ ?_ p (by unfold StepA; rw [if_neg (by omega), if_neg (by omega), if_pos c]) ?_ (fun q => ⟨by omega, fun q => by omega, fun _ => hr q⟩)) none none none none
    · unfold AnsA; simp [c]; exact ax
    · unfold DnA; simp [c]; omega
  · obtain ⟨a1, a2⟩ := v3 c
    refine m_doTray hF r w hb a1 (fun h' p => fin (by omega) h' _ _ _ ?_ p (by unfold StepA; rw [if_neg (by omega), if_neg (by omega), if_neg (by omega), if_pos c]) ?_ (fun q => ?_))
    · unfold AnsA; simp [c]
    · unfold DnA; simp [c]
    · unfold oTray at q; split at q
      · omega
      · split at q <;> omega
  · have a1 := v4 (by omega) (by omega)
    refine m_doLose hF r w a1 (fun h' p => fin (by omega) h' _ _ _ ?_ p (by unfold StepA; rw [if_neg (by omega), if_neg (by omega), if_neg (by omega), if_neg (by omega), if_pos c]) ?_ (fun q => ?_))
    · unfold AnsA; simp [c]
    · unfold DnA; simp [c]; omega
    · unfold oLose at q; split at q <;> omega
  · have a1 := v4 (by omega) (by omega)
    refine m_place hF r w hb a1 (by omega) (fun h' p => fin (by omega) h' _ _ _ ?_ p (by unfold StepA; rw [c]; rfl) ?_ (fun q => ?_)) none none
    · unfold AnsA; simp [c]
    · unfold DnA; simp [c]
    · have := slotF_rng D (A 1) (A 2)
      unfold oPlace at q; split at q
      · omega
      · split at q <;> omega
  · have a1 := v4 (by omega) (by omega)
    refine m_place hF r w hb a1 (by omega) (fun h' p => fin (by omega) h' _ _ _ ?_ p (by unfold StepA; rw [c]; rfl) ?_ (fun q => ?_)) none none
    · unfold AnsA; simp [c]
    · unfold DnA; simp [c]
    · have := slotF_rng D (A 1) (A 2)
      unfold oPlace at q; split at q
      · omega
      · split at q <;> omega
  · have a1 := v4 (by omega) (by omega)
    refine m_doSherds hF r w hb a1 (v7 c) (fun h' p => fin (by omega) h' _ _ _ ?_ p (by unfold StepA; rw [c]; rfl) ?_ (fun q => ?_)) none none
    · unfold AnsA; simp [c]
    · unfold DnA; simp [c]
    · have := slotF_rng D (A 1) (A 2)
      unfold oSherds at q; split at q
      · omega
      · split at q
        · omega
        · split at q
          · omega
          · split at q <;> omega
  · have a1 := v4 (by omega) (by omega)
    refine m_doNote hF r w hb a1 (v8 c).1 (fun h' p => fin (by omega) h' _ _ _ ?_ p (by unfold StepA; rw [c]; rfl) ?_ (fun q => ?_))
    · unfold AnsA; simp [c]
    · unfold DnA; simp [c]
    · have := slotF_rng D (A 1) (A 2)
      unfold oNote at q; split at q
      · omega
      · rename_i hs
        split at q
        · omega
        · rename_i h3
          have := had_rng w a1 (slotF_0 (by omega)) h3
          split at q <;> omega
  · have a1 := v4 (by omega) (by omega)
    refine m_doBag hF r w hb a1 (fun h' p => fin (by omega) h' _ _ _ ?_ p (by unfold StepA; rw [c]; rfl) ?_ (fun q => ?_)) none none none
    · unfold AnsA; simp [c]
    · unfold DnA; simp [c]
    · have := slotF_rng D (A 1) (A 2)
      unfold oBag at q; split at q
      · omega
      · split at q
        · omega
        · split at q
          · omega
          · split at q <;> omega
  · have a1 := v4 (by omega) (by omega)
    refine m_doTake hF r w hb a1 (fun h' p => fin (by omega) h' _ _ _ ?_ p (by unfold StepA; rw [c]; rfl) ?_ (fun q => ?_))
    · unfold AnsA; simp [c]
    · unfold DnA; simp [c]
    · have := heldF_rng D (A 1) (A 2) (-5)
      unfold oTake at q; split at q
      · omega
      · rename_i hh
        obtain ⟨h1, h2, _⟩ := heldF_0 (D := D) (t := A 1) (s := A 2) (kd := -5) (by omega)
        rcases (w.2.2.2.2.2.1 _ _ a1 (slotF_0 h1)).1 with q1 | q1 <;> omega
  · have a1 := v4 (by omega) (by omega)
    refine m_doMove hF r w hb a1 (v10 (Or.inl c)) (fun h' p => fin (by omega) h' _ _ _ ?_ p (by unfold StepA; rw [c]; rfl) ?_ (fun q => ?_)) none none none none
    · unfold AnsA; simp [c]
    · unfold DnA; simp [c]
    · have := heldF_rng D (A 1) (A 2) (-5)
      have := slotF_rng D (A 3) (A 4)
      unfold oMove at q; split at q
      · omega
      · rename_i hh
        obtain ⟨h1, h2, _⟩ := heldF_0 (D := D) (t := A 1) (s := A 2) (kd := -5) (by omega)
        have ws := (w.2.2.2.2.2.1 _ _ a1 (slotF_0 h1)).1
        split at q
        · omega
        · split at q
          · omega
          · split at q
            · omega
            · rcases ws with q1 | q1 <;> omega
  · have a1 := v4 (by omega) (by omega)
    refine m_doMark hF r w hb a1 (fun h' p => fin (by omega) h' _ _ _ ?_ p (by unfold StepA; rw [c]; rfl) ?_ (fun q => ?_)) none none none
    · unfold AnsA; simp [c]
    · unfold DnA; simp [c]
    · have := heldF_rng D (A 1) (A 2) (-5)
      unfold oMark at q; split at q
      · omega
      · rename_i hh
        obtain ⟨h1, h2, _⟩ := heldF_0 (D := D) (t := A 1) (s := A 2) (kd := -5) (by omega)
        have := (w.2.2.2.2.2.1 _ _ a1 (slotF_0 h1)).2.1
        split at q <;> omega
  · have a1 := v4 (by omega) (by omega)
    obtain ⟨b1, b2, b3, b4⟩ := v12 c
    refine m_doCopy hF r w hb a1 b1 b3 b4 b2 (fun h' p => ?_)
    obtain ⟨p1, p2, p3, p4, p5, p6, p7⟩ := p
    have hge : 0 ≤ (cyp D (A 1) (A 2) (A 3) (A 4) (A 5)).1 := cyGo_ge _ _ _ _ _ 0 D
    refine ⟨_, rfl, hF.fr p1, cont h' _ _ (hF.fr p1) ?_ ⟨p1, p2, fun q => ⟨?_, ?_⟩, fun q => ⟨?_, Or.inr ?_⟩, fun _ => ⟨p6, p7⟩⟩ (fun q => by omega) (fun _ => p4)⟩
    · unfold AnsA; simp [c]
    · have : StepA D A = (cyp D (A 1) (A 2) (A 3) (A 4) (A 5)).2.2 := by unfold StepA; rw [c]; rfl
      rw [this]; exact p3
    · have := q.2.1 c
      rw [p5, if_neg (by omega)]
    · have hx : (cyp D (A 1) (A 2) (A 3) (A 4) (A 5)).1 ≤ 0 := by
        by_cases hx : (cyp D (A 1) (A 2) (A 3) (A 4) (A 5)).1 ≤ 0
        · exact hx
        · exact absurd ⟨fun q => by omega, fun _ => by omega, by omega⟩ q
      have := cyGo_0 (A 1) (A 2) (A 4) (A 5) (A 3).toNat 0 D hx
      have e : (cyp D (A 1) (A 2) (A 3) (A 4) (A 5)).2.2 = D := this
      rw [e] at p3
      exact p3
    · have hx : (cyp D (A 1) (A 2) (A 3) (A 4) (A 5)).1 ≤ 0 := by
        by_cases hx : (cyp D (A 1) (A 2) (A 3) (A 4) (A 5)).1 ≤ 0
        · exact hx
        · exact absurd ⟨fun q => by omega, fun _ => by omega, by omega⟩ q
      rw [p5, if_pos hx]
  · have a1 := v4 (by omega) (by omega)
    refine m_doJoin hF r w hb a1 (v10 (Or.inr c)) (fun h' p => fin (by omega) h' _ _ _ ?_ p (by unfold StepA; rw [c]; rfl) ?_ (fun q => ?_)) none
    · unfold AnsA; simp [c]
    · unfold DnA; simp [c]
    · have := heldF_rng D (A 1) (A 2) 0
      have := heldF_rng D (A 3) (A 4) 0
      unfold oJoin at q; split at q
      · omega
      · split at q
        · omega
        · split at q <;> omega
  · have c17 : A 0 = 17 := by omega
    obtain ⟨a1, a2⟩ := v13 c17
    have a10 := a1.1
    have a11 := a1.2
    have r2 := ((r.st.w1 103 (A 1) (A 2)).w1 104 (A 1) (A 3)).off (o := 99) (k := 37) (v := 1) (Or.inr (Or.inr (by decide))) (by simp)
    have p : DoP h (si (si (si h 103 (A 1) (A 2)) 104 (A 1) (A 3)) 99 37 1) D 1 1 (sSpan D (A 1) (A 2) (A 3)) True := DoP_done (RMs.rm r2 (fun o j q => Or.inl q) (fun j q => Or.inl (UsL_same q rfl (fun k' hk' q' => ⟨q', Int.le_refl _⟩)))) (((Fr.refl.si (Or.inl (by decide))).si (Or.inl (by decide))).si (Or.inr (by decide))) gi_si_e (by omega) trivial
    refine ⟨by omega, cont _ 1 1 (hF.fr p.1) ?_ (DoP_cong p (by unfold StepA; rw [c17]; rfl) ?_) (fun q => by omega) (fun q => by omega)⟩
    · unfold AnsA; simp [c17]
    · unfold DnA; simp [c17]
