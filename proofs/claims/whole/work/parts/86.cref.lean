/-- rows that the log, the columns and the finds are in -/
def Cr (o : Nat) : Prop := o = 2 ∨ o = 3 ∨ o = 4 ∨ o = 5 ∨ o = 6 ∨ o = 48 ∨ o = 93 ∨ (∃ n, Cl o n) ∨ 136 ≤ o
theorem CL.kp {h h' : AH} {G : Nat → Prop} {S : DD} {c w : Int} {L : Int → Nat × Int × Int} (cl : CL h G S c L w) (k : ∀ o, Cr o → Kp o h h') (hn : nn h' = nn h) (hu : us h' = us h) : CL h' G S c L w := by
  obtain ⟨hG, hS, h5, c0, a, b, d, K, q2, q3, q4, la, lb, ld, hbd, sa, sb, sd, ck, K1, K2, hu', hL⟩ := cl
  have k2 := k 2 (Or.inl rfl)
  have cr : ∀ x, LA h G x → Cr x := fun x l => by have := l.1; unfold Cr; omega
  have ka := k a (cr a la)
  have kb := k b (cr b lb)
  have kd := k d (cr d ld)
  refine ⟨fun o ho => by rw [hn]; exact hG o ho, fun p m j hp hj => ?_, by rw [k2.1]; exact h5, c0, a, b, d, K, by rw [k2.2.2.2.1]; exact q2, by rw [k2.2.2.2.1]; exact q3, by rw [k2.2.2.2.1]; exact q4, ?_, ?_, ?_, hbd, by rw [ka.2.2.2.2]; exact sa, by rw [kb.2.2.2.2]; exact sb, by rw [kd.2.2.2.2]; exact sd, ck, K1, K2, by rw [hu]; exact hu', fun i hi => ?_⟩
  · rw [(k p (Or.inr (Or.inr (Or.inr (Or.inr (Or.inr (Or.inr (Or.inr (Or.inl ⟨m, hp⟩))))))))).1]; exact hS p m j hp hj
  · exact ⟨la.1, by rw [hn]; exact la.2.1, la.2.2⟩
  · exact ⟨lb.1, by rw [hn]; exact lb.2.1, lb.2.2⟩
  · exact ⟨ld.1, by rw [hn]; exact ld.2.1, ld.2.2⟩
  · rw [ka.2.2.2.1, kb.1, kd.1]; exact hL i hi
theorem CInv.core {h h' : AH} {n : Nat} {Ds : Nat → DD} {Z Z' : DD} {c : Int} (ci : CInv h n Ds Z c) (k : ∀ o, Cr o → Kp o h h') (k86 : gr h' 86 = gr h 86) (hn : nn h' = nn h) (hu : us h' = us h) (h78 : gi h' 7 8 = gi h 7 8) (cz : CZ h' (Ds n) Z') (ca : Ca h' (Ds n)) : CInv h' n Ds Z' c := by
  obtain ⟨G, Ss, T, E, L, w, c1, c2, c3, c4, c5, c6, c7, r1, r2, r3, x, K, r4, r5, r6, r7, r8, r9⟩ := ci
  have hG := c1.1
  have c136 : ∀ o, 136 ≤ o → Cr o := fun o ho => by unfold Cr; omega
  have k2 := k 2 (Or.inl rfl)
  refine ⟨G, Ss, T, E, L, w, c1.kp k hn hu, by rw [k2.1]; exact c2, c3.L (fun j => congrFun (k 3 (Or.inr (Or.inl rfl))).1 j) (fun _ _ => rfl), c4, c5.kp (fun o ho => k o (c136 o (hG o ho).1)) (k 48 (by unfold Cr; simp)).2.2.2.1, cz, ca, by rw [h78]; exact r1, by rw [k2.1]; exact r2, by rw [hn]; exact r3, x, K, by rw [k86]; exact r4, r5, by rw [hn]; exact r6, r7, ?_, r9⟩
  rw [(k x (by unfold Cr; omega)).2.2.2.2]; exact r8
theorem CInv.cz {h : AH} {n : Nat} {Ds : Nat → DD} {Z : DD} {c : Int} (ci : CInv h n Ds Z c) : CZ h (Ds n) Z := by
  obtain ⟨G, Ss, T, E, L, w, c1, c2, c3, c4, c5, c6, c7, c8⟩ := ci; exact c6
theorem CInv.ca {h : AH} {n : Nat} {Ds : Nat → DD} {Z : DD} {c : Int} (ci : CInv h n Ds Z c) : Ca h (Ds n) := by
  obtain ⟨G, Ss, T, E, L, w, c1, c2, c3, c4, c5, c6, c7, c8⟩ := ci; exact c7
theorem CInv.ed {h : AH} {n : Nat} {Ds : Nat → DD} {Z : DD} {c : Int} (ci : CInv h n Ds Z c) : (0 ≤ gi h 7 8 ∧ gi h 7 8 ≤ c) ∧ (0 ≤ gi h 2 6 ∧ gi h 2 6 ≤ c) ∧ gi h 2 1 = n ∧ n ≤ 300 := by
  obtain ⟨G, Ss, T, E, L, w, c1, c2, c3, c4, c5, c6, c7, r1, r2, _⟩ := ci; exact ⟨r1, r2, c2, c3.1⟩
theorem c_counted {h : AH} {Q : Option AV → AH → Prop} {x : Int} (hF : Fix h) (hx : -1000 ≤ x ∧ x ≤ 1000) (hb : ∀ i, In 6 i → 0 ≤ gi h 98 i ∧ gi h 98 i ≤ 2000)
    (cont : ∀ h', Fix h' → (∀ o, o ≠ 98 → Kp o h h') → nn h' = nn h → us h' = us h → (∀ k, 1 ≤ k → k ≤ 6 → gi h' 98 (k - 1) = gi h 98 (k - 1) + (if x = -10 - k then 1 else 0)) → Q (some (vI x)) h') : Ok 129 0 [some (vR (some 1)), some (vI x), none] [] h Q := by
  have no : (x < -16 ∨ -11 < x) → Q (some (vI x)) h := fun q => cont h hF (fun _ _ => Kp.refl) rfl rfl (fun k k1 k2 => by rw [if_neg (by omega)]; omega)
  refine f_X11_counted_0 hF _ ⟨⟨by omega, by omega⟩, fun q => no (by omega), fun q => ⟨fun q2 => no (by omega), fun q2 => ⟨⟨by omega, by omega⟩, ?_, ?_⟩⟩⟩
  · have := hb (-11 - x) ⟨by omega, by omega⟩
    omega
  · refine cont _ hF (fun o ho => Kp.refl.si ho) rfl rfl (fun k k1 k2 => ?_)
    by_cases e : x = -10 - k
    · rw [if_pos e, show k - 1 = -11 - x by omega, gi_si_e]
    · rw [if_neg e, gi_si_k (by omega)]; omega
/-- a refusal: the answer x is the status, and is counted if it is a finding -/
def Zn (Z Z' : DD) (x : Int) : Prop := (∀ k, 1 ≤ k → k ≤ 6 → Z' 120 k = Z 120 k + (if x = -10 - k then 1 else 0)) ∧ Z' 99 28 = Z 99 28 ∧ Z' 99 29 = Z 99 29 ∧ Z' 121 = Z 121 ∧ Z' 99 31 = Z 99 31 ∧ Z' 122 = Z 122 ∧ Z' 99 48 = Z 99 48 ∧ Z' 134 = Z 134
theorem CZ.bd {h : AH} {D Z : DD} {c : Int} (z : CZ h D Z) (wz : WZ Z c) : ∀ i, In 6 i → 0 ≤ gi h 98 i ∧ gi h 98 i ≤ c := fun i hi => by
  have h1 := hi.1
  have h2 := hi.2
  have e := z.1 (i + 1) (by omega) (by omega)
  rw [show i + 1 - 1 = i by omega] at e
  rw [e]; exact wz.1 (i + 1) (by omega) (by omega)
theorem Ca.kp2 {h h' : AH} {D : DD} (k : ∀ o, o ∈ caO ∨ o = 7 → Kp o h h') (k2 : gi h' 2 6 = gi h 2 6) (a : Ca h D) : Ca h' D := a.kp (fun o ho => ⟨(k o (Or.inl ho)).1, (k o (Or.inl ho)).2.1⟩) (k 7 (Or.inr rfl)).1 k2
theorem Cr_no {o : Nat} (h : o < 136) (h2 : o ≠ 2 ∧ o ≠ 3 ∧ o ≠ 4 ∧ o ≠ 5 ∧ o ≠ 6 ∧ o ≠ 48 ∧ o ≠ 93) (h3 : o < 10 ∨ 68 < o ∨ o % 2 = 1) : ¬ Cr o := fun c => by
  rcases c with c | c | c | c | c | c | c | ⟨n, c⟩ | c
  all_goals first | omega | (have := c.rng; omega)
/-- writes to what else answers show -/
theorem CInv.z {h h' : AH} {n : Nat} {Ds : Nat → DD} {Z Z' : DD} {c : Int} (ci : CInv h n Ds Z c) (k : ∀ o, o ≠ 1 → o ≠ 98 → o ≠ 69 → o ≠ 70 → o ≠ 71 → o ≠ 72 → o ≠ 94 → o ≠ 95 → o ≠ 96 → o ≠ 97 → Kp o h h') (hn : nn h' = nn h) (hu : us h' = us h) (cz : CZ h' (Ds n) Z') : CInv h' n Ds Z' c := by
  have nc : ∀ o, (o = 1 ∨ o = 98 ∨ 69 ≤ o ∧ o ≤ 72 ∨ 94 ≤ o ∧ o ≤ 97) → ¬ Cr o := fun o ho => Cr_no (by omega) (by omega) (by omega)
  have k' : ∀ o, Cr o → Kp o h h' := fun o ho => by
    have := nc o
    have t : ¬ (o = 1 ∨ o = 98 ∨ 69 ≤ o ∧ o ≤ 72 ∨ 94 ≤ o ∧ o ≤ 97) := fun q => this q ho
    exact k o (by omega) (by omega) (by omega) (by omega) (by omega) (by omega) (by omega) (by omega) (by omega) (by omega)
  have ck : ∀ o ∈ caO, ¬ (o = 1 ∨ o = 98 ∨ 69 ≤ o ∧ o ≤ 72 ∨ 94 ≤ o ∧ o ≤ 97) := by decide
  have kc : ∀ o, o ∈ caO ∨ o = 7 → Kp o h h' := fun o ho => by
    have t : ¬ (o = 1 ∨ o = 98 ∨ 69 ≤ o ∧ o ≤ 72 ∨ 94 ≤ o ∧ o ≤ 97) := by
      rcases ho with ho | ho
      · exact ck o ho
      · omega
    exact k o (by omega) (by omega) (by omega) (by omega) (by omega) (by omega) (by omega) (by omega) (by omega) (by omega)
  exact ci.core k' (kc 86 (Or.inl (by decide))).2.2.2.1 hn hu (congrFun (kc 7 (Or.inr rfl)).1 8) cz (ci.ca.kp2 kc (congrFun (k' 2 (Or.inl rfl)).1 6))
theorem c_refused {h : AH} {Q : Option AV → AH → Prop} {n : Nat} {Ds : Nat → DD} {Z : DD} {c x : Int} (hF : Fix h) (ci : CInv h n Ds Z c) (wz : WZ Z c) (hc : c ≤ 1000) (hx : -1000 ≤ x ∧ x ≤ 1000)
    (cont : ∀ h', Fix h' → Rf h h' → (∀ Z', Zn Z Z' x → Z' 99 27 = x → CInv h' n Ds Z' c) → Q (some (vI x)) h') : Ok 130 0 [some (vR (some 1)), some (vI x)] [] h Q := by
  have cz := ci.cz
  refine f_X11_refused_0 hF _ (c_counted (h := si h 1 11 x) hF hx (fun i hi => ?_) (fun h1 F1 k1 n1 u1 g1 => ⟨x, rfl, F1, cont h1 F1 (fun o p q => ?_) (fun Z' zn zx => ci.z (fun o o1 o98 _ _ _ _ _ _ _ _ => (Kp.refl.si o1).trans (k1 o o98)) n1 u1 ?_)⟩))
  · rw [gi_si_o (by decide)]
    have := cz.bd wz i hi
    omega
  · have := k1 o (by omega)
    exact ⟨by rw [this.1, gi_si_r (by omega)], this.2.1⟩
  · obtain ⟨d1, d2, d3, d4, d5, d6, d7, d8⟩ := zn
    obtain ⟨z1, z2, z3, z4, z5, z6, z7, z8, z9⟩ := cz
    have r1 : ∀ i, gi h1 1 i = gi (si h 1 11 x) 1 i := fun i => congrFun (k1 1 (by decide)).1 i
    have r : ∀ o, o ≠ 1 → o ≠ 98 → gi h1 o = gi h o := fun o o1 o98 => by rw [(k1 o o98).1, gi_si_r o1]
    unfold CZ
    rw [r1, r1, r 69 (by decide) (by decide), r 70 (by decide) (by decide), r 94 (by decide) (by decide), r 95 (by decide) (by decide), r 86 (by decide) (by decide), r 7 (by decide) (by decide), r 90 (by decide) (by decide), gi_si_e, gi_si_k (by decide), d2, d3, d4, d5, d6, d7, d8]
    refine ⟨fun k k1 k2 => ?_, zx.symm, z3, z4, z5, z6, z7, z8, z9⟩
    rw [g1 k k1 k2, gi_si_o (by decide), z1 k k1 k2, d1 k k1 k2]
