/-! where trays lie; the bodies -/
theorem c_holderOf {h : AH} {Q : Option AV → AH → Prop} {G : Nat → Prop} {S : DD} {T : FD} {D : DD} {t : Int} (hF : Fix h) (r : TR h G S T D) (w : WF D) (ht : In (D 99 11) t) (cont : Q (some (vI (D 110 t))) h) : Ok 78 0 [some (vR (some 47)), some (vI t), none] [] h Q := by
  have wc := w.c
  have h1 := ht.1
  have h2 := ht.2
  have p := (r.2.1.2.2.1.2.1 t ht).2.2
  have e56 : gi h 56 t = S 56 t := r.1 56 60 t (by decide) ⟨by omega, by omega⟩
  refine f_X7_holderOf_0 hF _ ?_
  rw [e56]
  rcases p with ⟨p1, p2⟩ | ⟨p1, p2, p3, p4⟩
  · rw [p1]
    refine ⟨⟨by omega, by omega⟩, fun _ => by rw [p2] at cont; exact cont, fun q => absurd (by decide) q⟩
  · have i1 := p1.1
    have i2 := p1.2
    have ed : iDiv (S 56 t) 40 = S 56 t / 40 := iDiv_pos ⟨by omega, by omega⟩ ⟨by omega, by omega⟩
    have e54 : gi h 54 (S 56 t / 40) = S 54 (S 56 t / 40) := r.1 54 60 _ (by decide) ⟨by omega, by omega⟩
    have l := (r.2.1.2.2.1.2.1 _ p2).2.1
    rw [ed, e54]
    refine ⟨⟨by omega, by omega⟩, fun q => by omega, fun _ => ⟨⟨by omega, by omega⟩, fun q => ?_, fun q => ?_⟩⟩
    · rw [(p4 (by omega)).1] at cont; exact cont
    · rw [p3 (by omega)] at cont; exact cont
theorem c_unitOf_4 {h : AH} {Q : Option AV → AH → Prop} {G : Nat → Prop} {S : DD} {T : FD} {D : DD} {t0 : Int} (hF : Fix h) (r : TR h G S T D) (w : WF D) : ∀ (k : Nat) (t j : Int), (60 - j).toNat = k → 0 ≤ j → j ≤ 60 → In (D 99 11) t → Q (some (vI (uoN D k t))) h → Ok 80 4 [some (vR (some 47)), some (vI t0), some (vI t), some (vI j)] [] h Q := by
  have wc := w.c
  intro k
  induction k with
  | zero =>
    intro t j hk j0 j1 ht cont
    have h1 := ht.1
    have h2 := ht.2
    have e50 : gi h 50 t = D 108 t := by rw [r.1 50 60 t (by decide) ⟨by omega, by omega⟩]; exact (r.2.1.2.2.1.2.1 t ht).1
    refine f_X7_unitOf_4 hF _ _ _ ⟨fun _ => ⟨⟨by omega, by omega⟩, by rw [e50]; exact cont⟩, fun q => by omega⟩
  | succ k ih =>
    intro t j hk j0 j1 ht cont
    have h1 := ht.1
    have h2 := ht.2
    have e50 : gi h 50 t = D 108 t := by rw [r.1 50 60 t (by decide) ⟨by omega, by omega⟩]; exact (r.2.1.2.2.1.2.1 t ht).1
    have wt := (w.2.2.2.1 t ht).2.2
    refine f_X7_unitOf_4 hF _ _ _ ⟨fun q => by omega, fun _ => c_holderOf hF r w ht ⟨_, rfl, hF, fun q => ⟨⟨by omega, by omega⟩, ?_⟩, fun q => c_holderOf hF r w ht ⟨_, rfl, hF, ⟨by omega, by omega⟩, ?_⟩⟩⟩
    · unfold uoN at cont
      rw [e50]
      rcases wt with wt | wt
      · rw [if_pos wt] at cont; exact cont
      · have := wt.1.1; omega
    · unfold uoN at cont
      rcases wt with wt | wt
      · omega
      · rw [if_neg (by have := wt.1.1; omega)] at cont
        exact ih _ _ (by omega) (by omega) (by omega) wt.1 cont
theorem c_unitOf {h : AH} {Q : Option AV → AH → Prop} {G : Nat → Prop} {S : DD} {T : FD} {D : DD} {t : Int} (hF : Fix h) (r : TR h G S T D) (w : WF D) (ht : In (D 99 11) t) (cont : Q (some (vI (uo D t))) h) : Ok 80 0 [some (vR (some 47)), some (vI t), none, none] [] h Q :=
  f_X7_unitOf_0 hF _ (c_unitOf_4 hF r w 60 t 0 rfl (by omega) (by omega) ht cont)
theorem c_isWithin_4 {h : AH} {Q : Option AV → AH → Prop} {G : Nat → Prop} {S : DD} {T : FD} {D : DD} {t0 b : Int} (hF : Fix h) (r : TR h G S T D) (w : WF D) (hb : 0 ≤ b) : ∀ (k : Nat) (t j : Int), (60 - j).toNat = k → 0 ≤ j → j ≤ 60 → In (D 99 11) t → Q (some (vI (if liN D b k t then 1 else 0))) h → Ok 79 4 [some (vR (some 47)), some (vI t0), some (vI b), some (vI t), some (vI j)] [] h Q := by
  intro k
  induction k with
  | zero =>
    intro t j hk j0 j1 ht cont
    unfold liN at cont
    refine f_X7_isWithin_4 hF _ _ _ _ ⟨fun _ => ⟨fun q => ?_, fun q => ?_⟩, fun q => by omega⟩
    · simp [q] at cont; exact cont
    · simp [Decidable.not_not.mp q] at cont; exact cont
  | succ k ih =>
    intro t j hk j0 j1 ht cont
    have h1 := ht.1
    unfold liN at cont
    have wt := (w.2.2.2.1 t ht).2.2
    refine f_X7_isWithin_4 hF _ _ _ _ ⟨fun q => by omega, fun _ => ⟨fun q => ?_, fun q => ⟨fun q2 => by omega, fun q2 => c_holderOf hF r w ht ⟨_, rfl, hF, ⟨by omega, by omega⟩, ?_⟩⟩⟩⟩
    · rw [if_pos q] at cont; exact cont
    · rw [if_neg q] at cont
      rcases wt with wt | wt
      · rw [if_pos wt] at cont
        rw [wt]
        refine f_X7_isWithin_4 hF _ _ _ _ ⟨fun q => ⟨fun q => cont, fun q => by omega⟩, fun q => ⟨fun q => by omega, fun q => ⟨fun q2 => cont, fun q2 => by omega⟩⟩⟩
      · rw [if_neg (show ¬ D 110 t = -5 by have := wt.1.1; omega)] at cont
        exact ih _ _ (by omega) (by omega) (by omega) wt.1 cont
theorem c_isWithin {h : AH} {Q : Option AV → AH → Prop} {G : Nat → Prop} {S : DD} {T : FD} {D : DD} {t b : Int} (hF : Fix h) (r : TR h G S T D) (w : WF D) (ht : In (D 99 11) t) (hb : 0 ≤ b) (cont : Q (some (vI (if li D b t then 1 else 0))) h) : Ok 79 0 [some (vR (some 47)), some (vI t), some (vI b), none, none] [] h Q :=
  f_X7_isWithin_0 hF _ _ (c_isWithin_4 hF r w hb 60 t 0 rfl (by omega) (by omega) ht cont)
theorem c_ownedBy_4 {h : AH} {Q : Option AV → AH → Prop} {G : Nat → Prop} {S : DD} {T : FD} {D : DD} {u : Int} (hF : Fix h) (r : TR h G S T D) (w : WF D) (cont : Q (some (vI (nTr D u (D 99 11)))) h) (m : Nat) : ∀ (t x : Int), (D 99 11 - t).toNat = m → 0 ≤ t → t ≤ D 99 11 → x = (cnt (fun t => decide (D 108 t = u)) t.toNat : Nat) → Ok 61 4 [some (vR (some 47)), some (vI u), some (vI x), some (vI t)] [] h Q := by
  have wc := w.c
  induction m using Nat.strongRecOn with
  | ind m ih =>
    intro t x hm t0 t1 hx
    refine f_X7_ownedBy_4 hF _ _ _ ?_
    rw [r.T]
    refine ⟨fun q => ?_, fun q => ?_⟩
    · have e : t = D 99 11 := by omega
      subst e
      rw [hx]; exact cont
    · have ht : In (D 99 11) t := ⟨t0, by omega⟩
      have e50 : gi h 50 t = D 108 t := by rw [r.1 50 60 t (by decide) ⟨by omega, by omega⟩]; exact (r.2.1.2.2.1.2.1 t ht).1
      have hcl := cnt_le (fun t => decide (D 108 t = u)) t.toNat
      have hs := cnt_succ (p := fun t => decide (D 108 t = u)) t0
      rw [e50]
      refine ⟨⟨by omega, by omega⟩, fun q2 => ⟨⟨by omega, by omega⟩, ⟨by omega, by omega⟩, ih _ (by omega) _ _ rfl (by omega) (by omega) ?_⟩, fun q2 => ⟨⟨by omega, by omega⟩, ⟨by omega, by omega⟩, ih _ (by omega) _ _ rfl (by omega) (by omega) ?_⟩⟩
      · rw [hs, hx]; simp [q2]
      · rw [hs, hx]; simp [Decidable.not_not.mp q2]
theorem c_ownedBy {h : AH} {Q : Option AV → AH → Prop} {G : Nat → Prop} {S : DD} {T : FD} {D : DD} {u : Int} (hF : Fix h) (r : TR h G S T D) (w : WF D) (cont : Q (some (vI (nTr D u (D 99 11)))) h) : Ok 61 0 [some (vR (some 47)), some (vI u), none, none] [] h Q :=
  f_X7_ownedBy_0 hF _ (c_ownedBy_4 hF r w cont _ 0 0 rfl (by omega) w.c.2.2.2.2.1 rfl)
/-! bodies -/
def Bo (h0 : AH) (o : Nat) (l : List Int) (b : Int) (h : AH) : Prop := (∀ p, p ≠ o → p ≠ o + 1 → Kp p h0 h) ∧ nn h = nn h0 ∧ us h = us h0 ∧ gr h = gr h0 ∧ sh h = sh h0 ∧ gl h = gl h0 ∧ gi h o 1 = l.length ∧ (∀ j : Nat, (hj : j < l.length) → gi h (o + 1) j = l[j]) ∧ gi h o 2 = b
theorem c_give {h0 h : AH} {Q : Option AV → AH → Prop} {o : Nat} {l : List Int} {b x v : Int} (hF : Fix h) (hO : ObB h o) (bo : Bo h0 o l b h) (hl : l.length < 4) (cont : ∀ h', Fix h' → ObB h' o → Bo h0 o (l ++ [x]) b h' → Q (some (vI v)) h') : Ok 2 0 [some (vR (some o)), some (vI x), some (vI v)] [] h Q := by
  obtain ⟨b1, b2, b3, b4, b5, b5', b6, b7, b8⟩ := bo
  have e1 : ∀ (k : Int), gi (si h (o + 1) k x) o 1 = l.length := fun k => by rw [gi_si_o (by omega)]; exact b6
  refine f_X0_give_0 hF _ _ _ hO ?_
  rw [hO.2.2, b6, e1]
  refine ⟨by show (0 : Nat) < 10; decide, fun q => ?_, fun q => ⟨⟨rfl, by omega, by show (l.length : Int) < 4; omega⟩, ⟨by omega, by omega⟩, ?_⟩⟩
  · exact absurd (show (4 : Int) ≤ l.length from q) (by omega)
  · refine cont _ hF hO ⟨fun p p1 p2 => ((b1 p p1 p2).si p2).si p1, b2, b3, b4, b5, b5', by rw [gi_si_e]; simp, fun j hj => ?_, by rw [gi_si_k (by decide), gi_si_o (by omega)]; exact b8⟩
    rw [gi_si_o (by omega)]
    by_cases e : j = l.length
    · subst e
      rw [gi_si_e]; simp
    · have hj' : j < l.length := by simp at hj; omega
      rw [gi_si_k (by omega), b7 j hj', List.getElem_append_left hj']
theorem c_answer {h : AH} {Q : Option AV → AH → Prop} {o : Nat} {u a k n : Int} (hF : Fix h) (ho : o = 69 ∨ o = 71) (hu : In 100 u) (ek : gi h 10 u = k) (en : gi h 12 u = n) (hk : 0 ≤ k ∧ k ≤ 4) (hn : 0 ≤ n ∧ n ≤ 999) (ha : 0 ≤ a ∧ a ≤ 4)
    (cont : ∀ h' v, Fix h' → Bo h o (bods a k) (if a = 0 ∧ k = 4 ∧ n = 0 then 1 else 0) h' → (¬ (a = 0 ∧ k = 4 ∧ n = 0) → v = gives a k n) → Q (some (vI v)) h') : Ok 3 0 [some (vR (some o)), some (vR (some 7)), some (vI u), some (vI a), none, none] [] h Q := by
  have hO : ObB h o := by
    rcases ho with e | e
    · subst e; exact ⟨by rw [show sh h 69 = (10, 3) from hF.2.1 (69, 10, 3) (by decide +kernel)], hF.1 (69, 0, 70) (by decide +kernel), hF.2.1 (70, 0, 4) (by decide +kernel)⟩
    · subst e; exact ⟨by rw [show sh h 71 = (10, 3) from hF.2.1 (71, 10, 3) (by decide +kernel)], hF.1 (71, 0, 72) (by decide +kernel), hF.2.1 (72, 0, 4) (by decide +kernel)⟩
  have b0 : Bo h o [] 0 (si (si h o 1 0) o 2 0) := ⟨fun p p1 p2 => (Kp.refl.si p1).si p1, rfl, rfl, rfl, rfl, rfl, by rw [gi_si_k (by decide), gi_si_e]; rfl, fun j hj => absurd hj (Nat.not_lt_zero _), gi_si_e⟩
  have F0 : Fix (si (si h o 1 0) o 2 0) := hF
  have O0 : ObB (si (si h o 1 0) o 2 0) o := hO
  have rem : 0 ≤ iRem n 50 ∧ iRem n 50 < 50 := by rw [iRem_pos ⟨by omega, by omega⟩ ⟨by decide, by decide⟩]; omega
  have fin : ∀ (h' : AH) (l : List Int) (b v : Int), Fix h' → ObB h' o → Bo h o l b h' → l = bods a k → b = (if a = 0 ∧ k = 4 ∧ n = 0 then 1 else 0) → (¬ (a = 0 ∧ k = 4 ∧ n = 0) → v = gives a k n) → ∃ x_2, (some (vI v) : Option AV) = some (vI x_2) ∧ Fix h' ∧ ObB h' o ∧ Q (some (vI x_2)) h' := fun h' l b v F' O' b' e1 e2 e3 => ⟨v, rfl, F', O', cont h' v F' (by rw [← e1, ← e2]; exact b') e3⟩
  refine f_X0_answer_0 hF _ _ _ hO ⟨hu, fun e => ?_, fun e => ?_, fun e => ?_, fun e => ?_, fun e => ?_⟩
  · subst e
    rw [ek, en]
    refine f_X0_thickness_0 F0 _ _ _ O0 ⟨fun c => ?_, fun c => ?_, fun c => ?_, fun c => ?_, fun c => ?_⟩
    · subst c
      exact c_give F0 O0 b0 (by decide) (fun h1 F1 O1 b1 => ⟨_, rfl, F1, O1, c_give F1 O1 b1 (by decide) (fun h2 F2 O2 b2 => ⟨_, rfl, F2, O2, ⟨by omega, by omega⟩, fin h2 _ _ _ F2 O2 b2 rfl (by rw [if_neg (by omega)]) (fun _ => by simp [gives])⟩)⟩)
    · subst c
      exact c_give F0 O0 b0 (by decide) (fun h1 F1 O1 b1 => ⟨_, rfl, F1, O1, c_give F1 O1 b1 (by decide) (fun h2 F2 O2 b2 => ⟨_, rfl, F2, O2, ⟨by omega, by omega⟩, fin h2 _ _ _ F2 O2 b2 rfl (by rw [if_neg (by omega)]) (fun _ => by simp [gives]; omega)⟩)⟩)
    · subst c
      exact c_give F0 O0 b0 (by decide) (fun h1 F1 O1 b1 => ⟨_, rfl, F1, O1, c_give F1 O1 b1 (by decide) (fun h2 F2 O2 b2 => ⟨_, rfl, F2, O2, ⟨by omega, by omega⟩, fin h2 _ _ _ F2 O2 b2 rfl (by rw [if_neg (by omega)]) (fun _ => by simp [gives])⟩)⟩)
    · subst c
      refine c_give F0 O0 b0 (by decide) (fun h1 F1 O1 b1 => ⟨_, rfl, F1, O1, c_give F1 O1 b1 (by decide) (fun h2 F2 O2 b2 => ⟨_, rfl, F2, O2, c_give F2 O2 b2 (by decide) (fun h3 F3 O3 b3 => ⟨_, rfl, F3, O3, ⟨by omega, by omega⟩, ?_⟩)⟩)⟩)
      have b4 : ∀ z, Bo h o [5, 4, 1] z (si h3 o 2 z) := fun z => by
        obtain ⟨c1, c2, c3, c4, c5, c5', c6, c7, c8⟩ := b3
        exact ⟨fun p p1 p2 => (c1 p p1 p2).si p1, c2, c3, c4, c5, c5', by rw [gi_si_k (by decide)]; exact c6, fun j hj => by rw [gi_si_o (by omega)]; exact c7 j hj, gi_si_e⟩
      refine f_X0_shared_0 F3 _ _ _ O3 ⟨fun q => ⟨q, ?_⟩, fun q => ?_⟩
      · refine ⟨_, rfl, F3, O3, fin (si h3 o 2 0) [5, 4, 1] 0 _ F3 O3 (b4 0) rfl (by rw [if_neg (by omega)]) (fun _ => ?_)⟩
        show iDiv 1000 (0 - n) = _
        simp [gives]
        intro q3; omega
      · exact ⟨_, rfl, F3, O3, fin (si h3 o 2 1) [5, 4, 1] 1 _ F3 O3 (b4 1) rfl (by rw [if_pos ⟨rfl, rfl, by omega⟩]) (fun q2 => absurd ⟨rfl, rfl, by omega⟩ q2)⟩
    · have e0 : k = 0 := by omega
      subst e0
      exact c_give F0 O0 b0 (by decide) (fun h1 F1 O1 b1 => ⟨_, rfl, F1, O1, fin h1 _ _ _ F1 O1 b1 rfl (by rw [if_neg (by omega)]) (fun _ => by simp [gives])⟩)
  · subst e
    rw [ek]
    refine f_X0_traysLent_0 F0 _ _ O0 ⟨fun c => ?_, fun c => ?_, fun c => ?_, fun c => ?_, fun c => ?_⟩
    · subst c
      exact c_give F0 O0 b0 (by decide) (fun h1 F1 O1 b1 => ⟨_, rfl, F1, O1, fin h1 _ _ _ F1 O1 b1 rfl (by rw [if_neg (by omega)]) (fun _ => by simp [gives])⟩)
    · subst c
      exact c_give F0 O0 b0 (by decide) (fun h1 F1 O1 b1 => ⟨_, rfl, F1, O1, fin h1 _ _ _ F1 O1 b1 rfl (by rw [if_neg (by omega)]) (fun _ => by simp [gives])⟩)
    · subst c
      exact c_give F0 O0 b0 (by decide) (fun h1 F1 O1 b1 => ⟨_, rfl, F1, O1, c_give F1 O1 b1 (by decide) (fun h2 F2 O2 b2 => ⟨_, rfl, F2, O2, ⟨by omega, by omega⟩, fin h2 _ _ _ F2 O2 b2 rfl (by rw [if_neg (by omega)]) (fun _ => by simp [gives])⟩)⟩)
    · subst c
      exact c_give F0 O0 b0 (by decide) (fun h1 F1 O1 b1 => ⟨_, rfl, F1, O1, fin h1 _ _ _ F1 O1 b1 rfl (by rw [if_neg (by omega)]) (fun _ => by simp [gives])⟩)
    · have e0 : k = 0 := by omega
      subst e0
      exact c_give F0 O0 b0 (by decide) (fun h1 F1 O1 b1 => ⟨_, rfl, F1, O1, fin h1 _ _ _ F1 O1 b1 rfl (by rw [if_neg (by omega)]) (fun _ => by simp [gives])⟩)
  · subst e
    rw [ek, en]
    refine f_X0_margin_0 F0 _ _ _ O0 ⟨fun c => ?_, fun c => ?_, fun c => ?_, fun c => ?_, fun c => ?_⟩
    · subst c
      exact c_give F0 O0 b0 (by decide) (fun h1 F1 O1 b1 => ⟨_, rfl, F1, O1, fin h1 _ _ _ F1 O1 b1 rfl (by rw [if_neg (by omega)]) (fun _ => by simp [gives])⟩)
    · subst c
      exact c_give F0 O0 b0 (by decide) (fun h1 F1 O1 b1 => ⟨_, rfl, F1, O1, fin h1 _ _ _ F1 O1 b1 rfl (by rw [if_neg (by omega)]) (fun _ => by simp [gives])⟩)
    · subst c
      exact c_give F0 O0 b0 (by decide) (fun h1 F1 O1 b1 => ⟨_, rfl, F1, O1, c_give F1 O1 b1 (by decide) (fun h2 F2 O2 b2 => ⟨_, rfl, F2, O2, ⟨by omega, by omega⟩, fin h2 _ _ _ F2 O2 b2 rfl (by rw [if_neg (by omega)]) (fun _ => by simp [gives]; omega)⟩)⟩)
    · subst c
      exact c_give F0 O0 b0 (by decide) (fun h1 F1 O1 b1 => ⟨_, rfl, F1, O1, fin h1 _ _ _ F1 O1 b1 rfl (by rw [if_neg (by omega)]) (fun _ => by simp [gives])⟩)
    · have e0 : k = 0 := by omega
      subst e0
      exact c_give F0 O0 b0 (by decide) (fun h1 F1 O1 b1 => ⟨_, rfl, F1, O1, fin h1 _ _ _ F1 O1 b1 rfl (by rw [if_neg (by omega)]) (fun _ => by simp [gives])⟩)
  · subst e
    rw [ek]
    refine f_X0_sign_0 F0 _ _ O0 ⟨fun c => ?_, fun c => ?_, fun c => ?_⟩
    · subst c
      exact c_give F0 O0 b0 (by decide) (fun h1 F1 O1 b1 => ⟨_, rfl, F1, O1, fin h1 _ _ _ F1 O1 b1 rfl (by rw [if_neg (by omega)]) (fun _ => by simp [gives])⟩)
    · subst c
      exact c_give F0 O0 b0 (by decide) (fun h1 F1 O1 b1 => ⟨_, rfl, F1, O1, c_give F1 O1 b1 (by decide) (fun h2 F2 O2 b2 => ⟨_, rfl, F2, O2, ⟨by omega, by omega⟩, fin h2 _ _ _ F2 O2 b2 rfl (by rw [if_neg (by omega)]) (fun _ => by simp [gives])⟩)⟩)
    · exact c_give F0 O0 b0 (by decide) (fun h1 F1 O1 b1 => ⟨_, rfl, F1, O1, fin h1 _ _ _ F1 O1 b1 (by simp [bods, c.1, c.2]) (by rw [if_neg (by omega)]) (fun _ => by simp [gives, c.1, c.2])⟩)
  · have e4 : a = 4 := by omega
    subst e4
    rw [ek]
    refine ⟨fun c => ?_, fun c => ?_⟩
    · exact c_give F0 O0 b0 (by decide) (fun h1 F1 O1 b1 => fin h1 _ _ _ F1 O1 b1 (by simp [bods, c]) (by rw [if_neg (by omega)]) (fun _ => by simp [gives, c]))
    · have c4 : k = 4 := Decidable.not_not.mp c
      subst c4
      exact c_give F0 O0 b0 (by decide) (fun h1 F1 O1 b1 => fin h1 _ _ _ F1 O1 b1 rfl (by rw [if_neg (by omega)]) (fun _ => by simp [gives]))
