/-! THE REFERENCE'S ACTS: frames, findings, bodies -/
def dL : List Nat := [100, 101, 102, 103, 104, 105, 106, 107, 108, 109, 110, 111, 112, 113, 114, 115, 116, 117, 118, 119, 120, 122, 123, 124]
def dK : List (Nat × Int) := [(99, 1), (99, 7), (99, 11), (99, 22), (99, 31), (99, 34), (99, 37), (99, 38)]
/-- how findings changed by an answer x -/
def Fnd (h h' : AH) (x : Int) : Prop := ∀ k, 1 ≤ k → k ≤ 6 → gi h' 120 k = gi h 120 k + (if gi h 99 26 = 0 ∧ x = -10 - k then 1 else 0)
def Fb (h : AH) : Prop := ∀ k, 1 ≤ k → k ≤ 6 → 0 ≤ gi h 120 k ∧ gi h 120 k ≤ 1000000
theorem Fnd_no {h h' : AH} {x : Int} (hf : gi h' 120 = gi h 120) (hx : x < -16 ∨ -11 < x) : Fnd h h' x := fun k k1 k2 => by
  rw [hf, if_neg (by omega)]; omega
theorem m_found {h : AH} {Q : Option AV → AH → Prop} {f : Int} (hF : Fix h) (hf : 1 ≤ f ∧ f ≤ 6) (hb : Fb h)
    (cont : ∀ h', Fr [120] [] h h' → Fnd h h' (-10 - f) → Q (some (vI (-10 - f))) h') : Ok 191 0 [some (vR (some 99)), some (vI f)] [] h Q := by
  have b := hb f hf.1 hf.2
  have key : ∀ v, v = gi h 120 f + (if gi h 99 26 = 0 then 1 else 0) → Q (some (vI (-10 - f))) (si h 120 f v) := fun v hv => by
    refine cont _ (Fr.refl.si (Or.inl (by decide))) (fun k k1 k2 => ?_)
    rw [gi_si_f]
    by_cases hk : k = f
    · rw [hk, uq_e, hv]
      by_cases h26 : gi h 99 26 = 0
      · rw [if_pos h26, if_pos ⟨h26, rfl⟩]
      · rw [if_neg h26, if_neg (fun q => h26 q.1)]
    · rw [uq_o hk, if_neg (by omega)]; omega
  refine f_X12_found_0 hF _ ⟨by omega, fun c => ⟨by omega, by omega, key _ (by rw [if_pos c])⟩, fun c => ⟨by omega, by omega, key _ (by rw [if_neg c])⟩⟩
/-- the bodies that an ask begins, and what it gives; k the kind, n the number -/
def bods (a k : Int) : List Int :=
  if a = 0 then (if k = 0 then [1] else if k = 1 then [4, 1] else if k = 2 then [2, 1] else if k = 3 then [3, 1] else [5, 4, 1])
  else if a = 1 then (if k = 1 then [10] else if k = 3 then [12, 11] else if k = 4 then [13] else [11])
  else if a = 2 then (if k = 1 then [20] else if k = 3 then [22, 21] else if k = 4 then [23] else [21])
  else if a = 3 then (if k = 4 then [32, 31] else if k = 1 then [31] else [30])
  else (if k = 4 then [41] else [40])
def gives (a k n : Int) : Int :=
  if a = 0 then (if k = 0 then n else if k = 1 then -n else if k = 2 then n + 5 else if k = 3 then 2 * n else if n = 0 then -5 else iDiv 1000 (0 - n))
  else if a = 1 then (if k = 1 then 3 else if k = 3 then 1 else if k = 4 then 6 else 5)
  else if a = 2 then (if k = 1 then 20 else if k = 3 then iRem n 50 + 10 else if k = 4 then 5 else iRem n 50)
  else if a = 3 then (if k = 4 then 66 else if k = 1 then 67 else 85)
  else (if k = 4 then 1 else 0)
/-- the trace from place i on is l -/
def TrI (h h' : AH) (l : List Int) : Prop := gi h' 99 29 = gi h 99 29 + l.length ∧ (∀ j : Nat, (hj : j < l.length) → gi h' 121 (gi h 99 29 + j) = l[j]) ∧ (∀ j, j < gi h 99 29 → gi h' 121 j = gi h 121 j) ∧ ∀ j, gi h 99 29 + l.length ≤ j → gi h' 121 j = gi h 121 j
theorem m_body {h : AH} {Q : Option AV → AH → Prop} {b v : Int} (hF : Fix h) (ht : 0 ≤ gi h 99 29 ∧ gi h 99 29 < 8) (cont : Q (some (vI v)) (si (si h 121 (gi h 99 29) b) 99 29 (gi h 99 29 + 1))) : Ok 194 0 [some (vR (some 99)), some (vI b), some (vI v)] [] h Q :=
  f_X12_body_0 hF _ _ ⟨fun c => by omega, fun c => ⟨by omega, by omega, cont⟩⟩
/-- heaps that differ in the trace alone -/
theorem tr_fr {h : AH} {b : Int} : Fr [121] [(99, 29)] h (si (si h 121 (gi h 99 29) b) 99 29 (gi h 99 29 + 1)) := (Fr.refl.si (Or.inl (by decide))).si (Or.inr (by decide))
theorem tr_29 {h : AH} {b : Int} : gi (si (si h 121 (gi h 99 29) b) 99 29 (gi h 99 29 + 1)) 99 29 = gi h 99 29 + 1 := gi_si_e
theorem tr_121 {h : AH} {b : Int} : gi (si (si h 121 (gi h 99 29) b) 99 29 (gi h 99 29 + 1)) 121 = uq (gi h 121) (gi h 99 29) b := by rw [gi_si_r (by decide), gi_si_f]
theorem TrI_nil {h : AH} : TrI h h [] := ⟨by simp, fun j hj => absurd hj (Nat.not_lt_zero _), fun _ _ => rfl, fun _ _ => rfl⟩
theorem TrI_cons {h h' : AH} {b : Int} {l : List Int} (t : TrI (si (si h 121 (gi h 99 29) b) 99 29 (gi h 99 29 + 1)) h' l) : TrI h h' (b :: l) := by
  obtain ⟨t1, t2, t3, t4⟩ := t
  rw [tr_29] at t1 t2 t3 t4
  rw [tr_121] at t3 t4
  refine ⟨by rw [t1]; simp only [List.length_cons]; push_cast; omega, fun j hj => ?_, fun j hj => ?_, fun j hj => ?_⟩
  · cases j with
    | zero =>
      show gi h' 121 (gi h 99 29 + ((0 : Nat) : Int)) = b
      have e : gi h 99 29 + ((0 : Nat) : Int) = gi h 99 29 := by omega
      rw [e, t3 _ (by omega), uq_e]
    | succ j =>
      have := t2 j (by simpa using hj)
      show gi h' 121 (gi h 99 29 + ((j + 1 : Nat) : Int)) = l[j]'(by simpa using hj)
      rw [← this]
      congr 1
      push_cast
      omega
  · rw [t3 j (by omega), uq_o (by omega)]
  · simp only [List.length_cons] at hj
    push_cast at hj
    rw [t4 j (by omega), uq_o (by omega)]
theorem m_ask {h : AH} {Q : Option AV → AH → Prop} {u k n : Int} (a : Int) (hF : Fix h) (hu : 0 ≤ u ∧ u < 100) (hk : gi h 100 u = k) (hn : gi h 101 u = n) (hkb : 0 ≤ k ∧ k ≤ 4) (hnb : 0 ≤ n ∧ n ≤ 999) (ht : gi h 99 29 = 0)
    (ha : 0 ≤ a ∧ a ≤ 4) (cont : ∀ h', Fr [121] [(99, 29)] h h' → TrI h h' (bods a k) → Q (some (vI (gives a k n))) h') :
    (a = 0 → Ok 196 0 [some (vR (some 99)), some (vI u), none, none, none] [] h Q) ∧ (a = 1 → Ok 197 0 [some (vR (some 99)), some (vI u), none] [] h Q) ∧ (a = 2 → Ok 198 0 [some (vR (some 99)), some (vI u), none] [] h Q) ∧
    (a = 3 → Ok 199 0 [some (vR (some 99)), some (vI u)] [] h Q) ∧ (a = 4 → Ok 200 0 [some (vR (some 99)), some (vI u)] [] h Q) := by
  have e2 : ∀ b : Int, gi (si (si h 121 (gi h 99 29) b) 99 29 (gi h 99 29 + 1)) 101 u = n := fun b => by rw [gi_si_o (by decide), gi_si_o (by decide)]; exact hn
  -- one, two, three bodies
  have one : ∀ (b v : Int) {P : Option AV → AH → Prop}, (∀ h', Fr [121] [(99, 29)] h h' → TrI h h' [b] → P (some (vI v)) h') → Ok 194 0 [some (vR (some 99)), some (vI b), some (vI v)] [] h P := fun b v P c =>
    m_body hF (by omega) (c _ tr_fr (TrI_cons TrI_nil))
  have two : ∀ (b1 v1 b2 v2 : Int) {P : AH → Int → AH → Prop}, (∀ h1 h', Fix h1 → gi h1 101 u = n → Fix h' → Fr [121] [(99, 29)] h h' → TrI h h' [b1, b2] → P h1 v2 h') →
      Ok 194 0 [some (vR (some 99)), some (vI b1), some (vI v1)] [] h (fun v h1 => ∃ x, v = some (vI x) ∧ Fix h1 ∧ Ok 194 0 [some (vR (some 99)), some (vI b2), some (vI v2)] [] h1 (fun v h2 => ∃ y, v = some (vI y) ∧ Fix h2 ∧ P h1 y h2)) := fun b1 v1 b2 v2 P c =>
    m_body hF (by omega) ⟨v1, rfl, hF.fr tr_fr, m_body (hF.fr tr_fr) (by rw [tr_29]; omega) ⟨v2, rfl, (hF.fr tr_fr).fr tr_fr, c _ _ (hF.fr tr_fr) (e2 b1) ((hF.fr tr_fr).fr tr_fr) (tr_fr.trans tr_fr) (TrI_cons (TrI_cons TrI_nil))⟩⟩
  refine ⟨fun ea => ?_, fun ea => ?_, fun ea => ?_, fun ea => ?_, fun ea => ?_⟩
  · subst ea
    refine f_X12_thickness_0 hF _ ?_
    rw [hk, hn]
    refine ⟨hu, fun c0 => ⟨fun c2 => ⟨fun c3 => ⟨fun c4 => ?_, fun c4 => ?_⟩, fun c3 => ?_⟩, fun c2 => ?_⟩, fun c0 => ?_⟩
    · refine two 4 0 1 n (P := fun _ y h2 => _) (fun h1 h' _ _ hF' f1 t1 => ⟨by omega, fun c1 => absurd c1 (by omega), fun c1 => ?_⟩)
      have e : bods 0 k = [4, 1] := by have : k = 1 := by omega
                                       subst this; rfl
      have e3 : gives 0 k n = 0 - n := by have : k = 1 := by omega
                                          subst this; show -n = 0 - n; omega
      rw [← e3]
      exact cont h' f1 (by rw [e]; exact t1)
    · have ek : k = 4 := by omega
      subst ek
      refine m_body hF (by omega) ⟨0, rfl, hF.fr tr_fr, m_body (hF.fr tr_fr) (by rw [tr_29]; omega) ⟨0, rfl, (hF.fr tr_fr).fr tr_fr, m_body ((hF.fr tr_fr).fr tr_fr) (by rw [tr_29, tr_29]; omega) ⟨n, rfl, ((hF.fr tr_fr).fr tr_fr).fr tr_fr, by omega, fun c1 => ⟨fun c5 => ⟨c5, ?_⟩, fun c5 => ?_⟩, fun c1 => absurd c1 (by omega)⟩⟩⟩
      · have := cont _ ((tr_fr.trans tr_fr).trans tr_fr) (TrI_cons (b := 5) (TrI_cons (b := 4) (TrI_cons (b := 1) TrI_nil)))
        have e3 : gives 0 4 n = iDiv 1000 (0 - n) := by show (if n = 0 then -5 else iDiv 1000 (0 - n)) = _; rw [if_neg (by omega)]
        rw [e3] at this
        exact this
      · have := cont _ ((tr_fr.trans tr_fr).trans tr_fr) (TrI_cons (b := 5) (TrI_cons (b := 4) (TrI_cons (b := 1) TrI_nil)))
        have e3 : gives 0 4 n = -5 := by show (if n = 0 then -5 else iDiv 1000 (0 - n)) = _; rw [if_pos (by omega)]
        rw [e3] at this
        exact this
    · have ek : k = 3 := by omega
      subst ek
      exact two 3 0 1 n (P := fun _ y h2 => _) (fun h1 h' _ _ hF' f1 t1 => ⟨by omega, cont h' f1 t1⟩)
    · have ek : k = 2 := by omega
      subst ek
      exact two 2 0 1 n (P := fun _ y h2 => _) (fun h1 h' _ _ hF' f1 t1 => ⟨by omega, cont h' f1 t1⟩)
    · have ek : k = 0 := by omega
      subst ek
      exact one 1 n (fun h' f1 t1 => ⟨n, rfl, hF.fr f1, cont h' f1 t1⟩)
  · subst ea
    refine f_X12_traysAsk_0 hF _ ?_
    rw [hk]
    refine ⟨hu, fun c1 => ⟨fun c4 => ⟨fun c3 => ?_, fun c3 => ?_⟩, fun c4 => ?_⟩, fun c1 => ?_⟩
    · have e : bods 1 k = [11] := by have : k = 0 ∨ k = 2 := by omega
                                     rcases this with rfl | rfl <;> rfl
      have e3 : gives 1 k n = 5 := by have : k = 0 ∨ k = 2 := by omega
                                      rcases this with rfl | rfl <;> rfl
      exact one 11 5 (fun h' f1 t1 => ⟨5, rfl, hF.fr f1, by rw [← e3]; exact cont h' f1 (by rw [e]; exact t1)⟩)
    · have ek : k = 3 := by omega
      subst ek
      exact two 12 0 11 5 (P := fun _ y h2 => _) (fun h1 h' _ _ hF' f1 t1 => ⟨by omega, cont h' f1 t1⟩)
    · have ek : k = 4 := by omega
      subst ek
      exact one 13 6 (fun h' f1 t1 => ⟨6, rfl, hF.fr f1, cont h' f1 t1⟩)
    · have ek : k = 1 := by omega
      subst ek
      exact one 10 3 (fun h' f1 t1 => ⟨3, rfl, hF.fr f1, cont h' f1 t1⟩)
  · subst ea
    refine f_X12_margin_0 hF _ ?_
    rw [hk, hn]
    refine ⟨hu, fun c1 => ⟨fun c4 => ⟨fun c3 => ?_, fun c3 => ?_⟩, fun c4 => ?_⟩, fun c1 => ?_⟩
    · have e : bods 2 k = [21] := by have : k = 0 ∨ k = 2 := by omega
                                     rcases this with rfl | rfl <;> rfl
      have e3 : gives 2 k n = iRem n 50 := by have : k = 0 ∨ k = 2 := by omega
                                              rcases this with rfl | rfl <;> rfl
      exact one 21 (iRem n 50) (fun h' f1 t1 => ⟨_, rfl, hF.fr f1, by rw [← e3]; exact cont h' f1 (by rw [e]; exact t1)⟩)
    · have ek : k = 3 := by omega
      subst ek
      refine m_body hF (by omega) ⟨0, rfl, hF.fr tr_fr, ?_⟩
      rw [e2 22]
      have hb : 0 ≤ iRem n 50 ∧ iRem n 50 < 50 := by rw [iRem_pos (by omega) (by omega)]; omega
      exact m_body (hF.fr tr_fr) (by rw [tr_29]; omega) ⟨_, rfl, (hF.fr tr_fr).fr tr_fr, by omega, cont _ (tr_fr.trans tr_fr) (TrI_cons (TrI_cons TrI_nil))⟩
    · have ek : k = 4 := by omega
      subst ek
      exact one 23 5 (fun h' f1 t1 => ⟨5, rfl, hF.fr f1, cont h' f1 t1⟩)
    · have ek : k = 1 := by omega
      subst ek
      exact one 20 20 (fun h' f1 t1 => ⟨20, rfl, hF.fr f1, cont h' f1 t1⟩)
  · subst ea
    refine f_X12_sign_0 hF _ ?_
    rw [hk]
    refine ⟨hu, fun c4 => ⟨fun c1 => ?_, fun c1 => ?_⟩, fun c4 => ?_⟩
    · have e : bods 3 k = [30] := by have : k = 0 ∨ k = 2 ∨ k = 3 := by omega
                                     rcases this with rfl | rfl | rfl <;> rfl
      have e3 : gives 3 k n = 85 := by have : k = 0 ∨ k = 2 ∨ k = 3 := by omega
                                       rcases this with rfl | rfl | rfl <;> rfl
      exact one 30 85 (fun h' f1 t1 => ⟨85, rfl, hF.fr f1, by rw [← e3]; exact cont h' f1 (by rw [e]; exact t1)⟩)
    · have ek : k = 1 := by omega
      subst ek
      exact one 31 67 (fun h' f1 t1 => ⟨67, rfl, hF.fr f1, cont h' f1 t1⟩)
    · have ek : k = 4 := by omega
      subst ek
      exact two 32 0 31 67 (P := fun _ y h2 => _) (fun h1 h' _ _ hF' f1 t1 => ⟨by omega, cont h' f1 t1⟩)
  · subst ea
    refine f_X12_bothAsk_0 hF _ ?_
    rw [hk]
    refine ⟨hu, fun c4 => ?_, fun c4 => ?_⟩
    · have e : bods 4 k = [40] := by have : k = 0 ∨ k = 1 ∨ k = 2 ∨ k = 3 := by omega
                                     rcases this with rfl | rfl | rfl | rfl <;> rfl
      have e3 : gives 4 k n = 0 := by have : k = 0 ∨ k = 1 ∨ k = 2 ∨ k = 3 := by omega
                                      rcases this with rfl | rfl | rfl | rfl <;> rfl
      exact one 40 0 (fun h' f1 t1 => ⟨0, rfl, hF.fr f1, by rw [← e3]; exact cont h' f1 (by rw [e]; exact t1)⟩)
    · have ek : k = 4 := by omega
      subst ek
      exact one 41 1 (fun h' f1 t1 => ⟨1, rfl, hF.fr f1, cont h' f1 t1⟩)
/-- an ask within another call leaves no trace -/
theorem m_quiet {h : AH} {Q : Option AV → AH → Prop} {u k n : Int} (a : Int) (ha : a = 1 ∨ a = 2) (hF : Fix h) (hu : 0 ≤ u ∧ u < 100) (hk : gi h 100 u = k) (hn : gi h 101 u = n) (hkb : 0 ≤ k ∧ k ≤ 4) (hnb : 0 ≤ n ∧ n ≤ 999)
    (cont : ∀ h', Fr [] [] h h' → Q (some (vI (gives a k n))) h') : (a = 1 → Ok 205 0 [some (vR (some 99)), some (vI u), none, none, none, none] [] h Q) ∧ (a = 2 → Ok 204 0 [some (vR (some 99)), some (vI u), none, none, none, none] [] h Q) := by
  have hl : (bods a k).length ≤ 2 := by
    rcases ha with rfl | rfl
    · show (if k = 1 then [10] else if k = 3 then [12, 11] else if k = 4 then [13] else [11]).length ≤ 2
      split
      · decide
      · split
        · decide
        · split <;> decide
    · show (if k = 1 then [20] else if k = 3 then [22, 21] else if k = 4 then [23] else [21]).length ≤ 2
      split
      · decide
      · split
        · decide
        · split <;> decide
  have hfr : Fr [121] [(99, 29)] h (si h 99 29 0) := Fr.refl.si (Or.inr (by decide))
  have key := m_ask (h := si h 99 29 0) (u := u) (k := k) (n := n) a (hF.fr hfr) hu (by rw [gi_si_o (by decide)]; exact hk) (by rw [gi_si_o (by decide)]; exact hn) hkb hnb gi_si_e (by omega)
    (Q := fun v h1 => ∃ x, v = some (vI x) ∧ Fix h1 ∧ Q (some (vI x)) (si (si (si h1 99 29 (gi h 99 29)) 121 0 (gi h 121 0)) 121 1 (gi h 121 1))) (fun h1 f1 t1 => ⟨_, rfl, (hF.fr hfr).fr f1, ?_⟩)
  · refine ⟨fun e => f_X12_quietTrays_0 hF _ (key.2.1 e), fun e => f_X12_quietMargin_0 hF _ (key.2.2.1 e)⟩
  · have f2 : Fr [121] [(99, 29)] h (si (si (si h1 99 29 (gi h 99 29)) 121 0 (gi h 121 0)) 121 1 (gi h 121 1)) := (((hfr.trans f1).si (Or.inr (by decide))).si (Or.inl (by decide))).si (Or.inl (by decide))
    obtain ⟨t1, t2, t3, t4⟩ := t1
    have e0 : gi (si h 99 29 0) 99 29 = 0 := gi_si_e
    have e1 : gi (si h 99 29 0) 121 = gi h 121 := gi_si_r (by decide)
    rw [e0] at t3 t4
    rw [e1] at t3 t4
    refine cont _ ⟨fun o j _ _ => ?_, fun o j _ _ => ?_, f2.2.2⟩
    · by_cases ho : o = 121
      · subst ho
        by_cases hj1 : j = 1
        · rw [hj1, gi_si_e]
        · rw [gi_si_k hj1]
          by_cases hj0 : j = 0
          · rw [hj0, gi_si_e]
          · rw [gi_si_k hj0, gi_si_o (by decide)]
            by_cases hj : j < 0
            · exact t3 j hj
            · exact t4 j (by omega)
      · by_cases ho2 : o = 99 ∧ j = 29
        · obtain ⟨rfl, rfl⟩ := ho2
          rw [gi_si_o (by decide), gi_si_o (by decide), gi_si_e]
        · exact f2.1 o j (by simpa using ho) (by simpa using ho2)
    · show gl h1 o j = gl h o j
      refine (hfr.trans f1).2.1 o j (fun q => ?_) (fun q => ?_)
      · have e : o = 121 := by simpa using q.1
        have := q.2
        rw [e] at this
        exact absurd this (by decide)
      · have e : o = 99 ∧ j = 29 := by simpa using q.1
        have := q.2
        rw [e.1, e.2] at this
        exact absurd this (by decide)
