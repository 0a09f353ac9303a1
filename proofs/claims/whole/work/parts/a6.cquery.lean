/-! asks, undo, joins in the class -/
theorem c_asks {h : AH} {Q : Option AV → AH → Prop} {n : Nat} {Ds : Nat → DD} {Z : DD} {c u a : Int} (hF : Fix h) (ci : CInv h n Ds Z c) (w : WF (Ds n)) (wz : WZ Z c) (hc : c ≤ 1000)
    (bad : ¬ ((0 ≤ u ∧ u < Ds n 99 1) ∧ 0 ≤ a ∧ a ≤ 4) → Q (some (vI (-1))) h)
    (tell : ∀ h', (0 ≤ u ∧ u < Ds n 99 1) ∧ 0 ≤ a ∧ a ≤ 4 → ¬ (a = 0 ∧ Ds n 100 u = 4 ∧ Ds n 101 u = 0) → Fix h' → Rf h h' → (∀ Z' : DD, (∀ k, 1 ≤ k → k ≤ 6 → Z' 120 k = Z 120 k) → Z' 99 27 = Z 99 27 → Z' 99 28 = gives a (Ds n 100 u) (Ds n 101 u) → Z' 99 29 = ((bods a (Ds n 100 u)).length : Int) → (∀ j : Nat, (hj : j < (bods a (Ds n 100 u)).length) → Z' 121 j = (bods a (Ds n 100 u))[j]) → Z' 99 31 = Z 99 31 → Z' 122 = Z 122 → Z' 99 48 = Z 99 48 → Z' 134 = Z 134 → CInv h' n Ds Z' c) → Q (some (vI 1)) h')
    (nought : ∀ h', (0 ≤ u ∧ u < Ds n 99 1) ∧ 0 ≤ a ∧ a ≤ 4 → (a = 0 ∧ Ds n 100 u = 4 ∧ Ds n 101 u = 0) → Fix h' → Rf h h' → (∀ Z' : DD, (∀ k, 1 ≤ k → k ≤ 6 → Z' 120 k = Z 120 k + (if (-14 : Int) = -10 - k then 1 else 0)) → Z' 99 27 = Z 99 27 → Z' 99 28 = Z 99 28 → Z' 99 29 = ((bods a (Ds n 100 u)).length : Int) → (∀ j : Nat, (hj : j < (bods a (Ds n 100 u)).length) → Z' 121 j = (bods a (Ds n 100 u))[j]) → Z' 99 31 = Z 99 31 → Z' 122 = Z 122 → Z' 99 48 = Z 99 48 → Z' 134 = Z 134 → CInv h' n Ds Z' c) → Q (some (vI (-14))) h') :
    Ok 136 0 [some (vR (some 1)), some (vI u), some (vI a), none] [] h Q := by
  obtain ⟨G, S, T, m, rc⟩ := ci.mid
  have tr := m.tr (Or.inl (by decide)) rc
  have wc := w.c
  refine f_X11_asks_0 hF _ _ ?_
  rw [tr.n]
  refine ⟨fun q => bad (by omega), fun q => ⟨fun q2 => bad (by omega), fun q2 => ⟨fun q3 => bad (by omega), fun q3 => ⟨fun q4 => ?_, fun q4 => bad (by omega)⟩⟩⟩⟩
  have hu : In (Ds n 99 1) u := ⟨by omega, by omega⟩
  have wu := w.2.1 u hu
  have ru := rc.1.2 u hu
  have val : (0 ≤ u ∧ u < Ds n 99 1) ∧ 0 ≤ a ∧ a ≤ 4 := ⟨⟨by omega, by omega⟩, by omega, q4⟩
  refine c_answer hF (Or.inl rfl) ⟨by omega, by omega⟩ (k := Ds n 100 u) (n := Ds n 101 u) (by rw [tr.1 10 100 u (by decide) ⟨by omega, by omega⟩]; exact ru.1) (by rw [tr.1 12 100 u (by decide) ⟨by omega, by omega⟩]; exact ru.2.1) wu.1 wu.2.1 (by omega) (fun h1 v F1 bo hv => ⟨v, rfl, F1, ?_⟩)
  have bo' := bo
  obtain ⟨b1, b2, b3, b4, b5, b5', b6, b7, b8⟩ := bo
  obtain ⟨z1, z2, z3, z4, z5, z6, z7, z8, z9⟩ := ci.cz
  have r : ∀ o, o ≠ 69 → o ≠ 70 → gi h1 o = gi h o := fun o o1 o2 => (b1 o o1 o2).1
  have tb : ∀ (Z' : DD), Z' 99 29 = ((bods a (Ds n 100 u)).length : Int) → (∀ j : Nat, (hj : j < (bods a (Ds n 100 u)).length) → Z' 121 j = (bods a (Ds n 100 u))[j]) → ∀ i, In (Z' 99 29) i → gi h1 70 i = Z' 121 i := fun Z' e1 e2 i hi => by
    have i0 := hi.1
    have i1 := hi.2
    rw [e1] at i1
    obtain ⟨j, rfl⟩ : ∃ j : Nat, i = j := ⟨i.toNat, by omega⟩
    rw [b7 j (by omega), e2 j (by omega)]
  refine ⟨fun q5 => ?_, fun q5 => ?_⟩
  · have ns : ¬ (a = 0 ∧ Ds n 100 u = 4 ∧ Ds n 101 u = 0) := fun e => by rw [b8, if_pos e] at q5; omega
    rw [hv ns]
    refine tell _ val ns F1 ((bo'.rf (Or.inl rfl)).si (by omega)) (fun Z' e1 e2 e3 e4 e5 e6 e7 e8 e9 => ?_)
    refine ci.z (fun o o1 _ o69 o70 _ _ _ _ _ _ => (b1 o o69 o70).si o1) b2 b3 ?_
    unfold CZ
    have r1 : ∀ o, o ≠ 1 → gi (si h1 1 10 (gives a (Ds n 100 u) (Ds n 101 u))) o = gi h1 o := fun o o1 => gi_si_r o1
    rw [r1 98 (by decide), r1 69 (by decide), r1 70 (by decide), r1 94 (by decide), r1 95 (by decide), r1 86 (by decide), r1 7 (by decide), r1 90 (by decide), r 98 (by decide) (by decide), r 94 (by decide) (by decide), r 95 (by decide) (by decide), r 86 (by decide) (by decide), r 7 (by decide) (by decide), r 90 (by decide) (by decide), gi_si_e, gi_si_k (by decide), r 1 (by decide) (by decide), e2, e3, e6, e7, e8, e9]
    exact ⟨fun k k1 k2 => by rw [e1 k k1 k2]; exact z1 k k1 k2, z2, rfl, by rw [e4]; exact b6, tb Z' e4 e5, z6, z7, z8, z9⟩
  · have ns : (a = 0 ∧ Ds n 100 u = 4 ∧ Ds n 101 u = 0) := by
      by_cases e : (a = 0 ∧ Ds n 100 u = 4 ∧ Ds n 101 u = 0)
      · exact e
      · rw [b8, if_neg e] at q5; exact absurd rfl q5
    refine c_counted F1 (by decide) (fun i hi => by rw [r 98 (by decide) (by decide)]; have := ci.cz.bd wz i hi; omega) (fun h2 F2 k2 n2 u2 g2 => ⟨-14, rfl, F2, nought h2 val ns F2 ((bo'.rf (Or.inl rfl)).trans (Rf.of (P := fun o => o ≠ 98) k2 (fun o _ _ => by omega))) (fun Z' e1 e2 e3 e4 e5 e6 e7 e8 e9 => ?_)⟩)
    refine ci.z (fun o o1 o98 o69 o70 _ _ _ _ _ _ => (b1 o o69 o70).trans (k2 o o98)) (by rw [n2, b2]) (by rw [u2, b3]) ?_
    have r2 : ∀ o, o ≠ 98 → gi h2 o = gi h1 o := fun o o1 => (k2 o o1).1
    unfold CZ
    rw [r2 69 (by decide), r2 70 (by decide), r2 94 (by decide), r2 95 (by decide), r2 86 (by decide), r2 7 (by decide), r2 90 (by decide), r2 1 (by decide), r 94 (by decide) (by decide), r 95 (by decide) (by decide), r 86 (by decide) (by decide), r 7 (by decide) (by decide), r 90 (by decide) (by decide), r 1 (by decide) (by decide), e2, e3, e6, e7, e8, e9]
    refine ⟨fun k k1 k2 => ?_, z2, z3, by rw [e4]; exact b6, tb Z' e4 e5, z6, z7, z8, z9⟩
    rw [g2 k k1 k2, r 98 (by decide) (by decide), z1 k k1 k2, e1 k k1 k2]
theorem c_undo {h : AH} {Q : Option AV → AH → Prop} {n : Nat} {Ds : Nat → DD} {Z : DD} {c : Int} (hF : Fix h) (ci : CInv h n Ds Z c) (hc : c ≤ 1000) (cont0 : n = 0 → Q (some (vI (-2))) h) (cont1 : ∀ N : Nat, n = N + 1 → ∀ h', Fix h' → Rf h h' → (∀ Z', ZU Z Z' → CInv h' N Ds Z' (c + 1)) → Q (some (vI N)) h') : Ok 184 0 [some (vR (some 1))] [] h Q := by
  have cz := ci.cz
  have ca := ci.ca
  obtain ⟨G, Ss, T, E, L, w, c1, c2, c3, c4, c5, c6, c7, r1, r2, r3, x, K, r4, r5, r6, r7, r8, r9, r10, r11⟩ := ci
  refine f_X11_undo_0 hF ?_
  rw [c2]
  refine ⟨fun q => ?_, fun q => cont0 (by omega)⟩
  obtain ⟨N, rfl⟩ : ∃ N, n = N + 1 := ⟨n - 1, by omega⟩
  have n300 := c3.1
  obtain ⟨l1, l2, l3, l4, l5⟩ := c3.2.2.2 N (by omega)
  have bN := c3.bd N (by omega)
  refine c_goBack (b := E N) (S0 := Ss N) (n := ((N + 1 : Nat) : Int)) hF c1 l2 c2 ⟨by push_cast; omega, by omega⟩ bN.1 (fun e => ?_) (fun e => ?_) ⟨r2.1, by omega⟩ (fun h1 F1 cl1 pr1 g1 e1 e6 gw => ⟨rfl, F1, ?_, ?_⟩)
  · have : N = 0 := by push_cast at e; omega
    rw [this]; exact c3.2.1
  · obtain ⟨M, rfl⟩ : ∃ M, N = M + 1 := ⟨N - 1, by push_cast at e; omega⟩
    have := (c3.2.2.2 M (by omega)).1
    rw [show (((M + 1 + 1 : Nat) : Int) - 2) = (M : Int) by push_cast; omega]
    exact this
  · rw [congrFun (pr1 7 (Or.inl ⟨by decide, by decide, Cl_no (by decide), by decide, by decide, by decide⟩)).1 8]; omega
  · have e2N : gi h1 2 1 = (N : Int) := by rw [e1]; push_cast; omega
    rw [e2N]
    have k7 : gi h1 7 = gi h 7 := (pr1 7 (Or.inl ⟨by decide, by decide, Cl_no (by decide), by decide, by decide, by decide⟩)).1
    have ko : ∀ o, KO o → Kp o h h1 := fun o ho => pr1 o ho.xs
    have g : ∀ o, o ≠ 7 → o ≠ 94 → gi (si (si h1 7 8 (gi h1 7 8 + 1)) 94 1 0) o = gi h1 o := fun o o1 o2 => by rw [gi_si_r o2, gi_si_r o1]
    have g7 : ∀ i, i ≠ 8 → gi (si (si h1 7 8 (gi h1 7 8 + 1)) 94 1 0) 7 i = gi h 7 i := fun i hi => by rw [gi_si_o (by decide), gi_si_k hi, k7]
    have g78 : gi (si (si h1 7 8 (gi h1 7 8 + 1)) 94 1 0) 7 8 = gi h 7 8 + 1 := by rw [gi_si_o (by decide), gi_si_e, k7]
    have kk : ∀ o, o ≠ 7 → o ≠ 94 → Kp o h1 (si (si h1 7 8 (gi h1 7 8 + 1)) 94 1 0) := fun o o1 o2 => (Kp.refl.si o1).si o2
    refine cont1 N rfl _ F1 (fun o p q => ?_) (fun Z' zu => ?_)
    · have t := (ko o (KO_of (by omega) (by omega) (by omega))).trans (kk o (by omega) (by omega))
      exact ⟨t.1, t.2.1⟩
    · refine ⟨G, Ss, T, E, L, w, ?_, by rw [g 2 (by decide) (by decide)]; exact e2N, ⟨by omega, c3.2.1, c3.2.2.1, fun j hj => ?_⟩, fun j hj => c4 j (by omega), ?_, ?_, ?_, ?_⟩
      · refine cl1.kp (fun o ho => kk o ?_ ?_) rfl rfl
        · intro e; rw [e] at ho; exact Cr_no (by decide) (by decide) (by decide) ho
        · intro e; rw [e] at ho; exact Cr_no (by decide) (by decide) (by decide) ho
      · rw [g 3 (by decide) (by decide), congrFun (ko 3 (KO_of (by decide) (by decide) (by decide))).1 j]
        exact c3.2.2.2 j (by omega)
      · have f := c5.kp (h' := si (si h1 7 8 (gi h1 7 8 + 1)) 94 1 0) (fun o ho => (pr1 o (Or.inr ⟨(c1.1 o ho).1, ho⟩)).trans (kk o (by have := (c1.1 o ho).1; omega) (by have := (c1.1 o ho).1; omega))) ?_
        · intro id hid
          exact f id ⟨hid.1, by have := hid.2; omega⟩
        · have x48 : Xs G 48 := Or.inl ⟨by decide, by decide, fun n c => by
            have e : ∀ e ∈ colL, e.1 ≠ 48 := by decide +kernel
            exact e _ c rfl, by decide, by decide, by decide⟩
          exact (pr1 48 x48).2.2.2.1
      · obtain ⟨d1, d2, d3, d4, d5, d6, d7⟩ := zu
        obtain ⟨z1, z2, z3, z4, z5, z6, z7, z8, z9⟩ := cz
        have rr : ∀ o, KO o → o ≠ 94 → gi (si (si h1 7 8 (gi h1 7 8 + 1)) 94 1 0) o = gi h o := fun o ho o94 => by rw [g o (by have := ho.2.2.2.2.2.2.1; exact this) o94]; exact (ko o ho).1
        unfold CZ
        rw [rr 98 (KO_of (by decide) (by decide) (by decide)) (by decide), rr 1 (KO_of (by decide) (by decide) (by decide)) (by decide), rr 69 (KO_of (by decide) (by decide) (by decide)) (by decide), rr 70 (KO_of (by decide) (by decide) (by decide)) (by decide), rr 86 (KO_of (by decide) (by decide) (by decide)) (by decide), g78, gi_si_e, d2, d3, d4, d5, d6, d7]
        have h8 := ca.2.2.2.2.1
        exact ⟨fun k k1 k2 => by rw [d1 k k1 k2]; exact z1 k k1 k2, z2, z3, z4, z5, rfl, fun i hi => by have := hi.1; have := hi.2; omega, ⟨fun q => by omega, fun q => by omega⟩, fun q => by omega⟩
      · have ck : ∀ o ∈ caO, o < 136 ∧ (o ≠ 2 ∧ o ≠ 4 ∧ o ≠ 5 ∧ o ≠ 6 ∧ o ≠ 7 ∧ o ≠ 48) ∧ (o < 10 ∨ 68 < o ∨ o % 2 = 1 ∨ (20 < o ∧ o < 40)) ∧ o ≠ 94 := by decide
        refine ca.act (e := 1) (fun o ho => ?_) g7 g78 (by rw [g 2 (by decide) (by decide)]; exact e6) (Or.inl rfl)
        obtain ⟨a1, a2, a3, a4⟩ := ck o ho
        have t := (ko o (KO_of a1 a2 a3)).trans (kk o a2.2.2.2.2.1 a4)
        exact ⟨t.1, t.2.1⟩
      · refine ⟨by rw [g78]; omega, by rw [g 2 (by decide) (by decide), e6]; omega, ?_, x, K, ?_, r5, ?_, r7, ?_, r9, r10, by omega⟩
        · show (nn h1 : Int) ≤ _
          rw [gw.2.1]; omega
        · show gr h1 86 13 = _
          rw [(ko 86 (KO_of (by decide) (by decide) (by decide))).2.2.2.1]; exact r4
        · show x < nn h1
          rw [gw.2.1]; exact r6
        · show sh h1 x = _
          rw [gw.1.2 x r6]; exact r8
