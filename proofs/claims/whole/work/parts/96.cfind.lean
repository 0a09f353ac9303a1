/-! finds are made -/
theorem Kp.sf {o p : Nat} {h h' : AH} {k : Int} {v : UInt32} (a : Kp o h h') (hn : o ≠ p) : Kp o h (sf h' p k v) := ⟨a.1, a.2.1, by rw [← a.2.2.1]; exact funext fun j => gf_sf_o hn, a.2.2.2⟩
theorem c_init {h : AH} {Q : Option AV → AH → Prop} {G : Nat → Prop} {o a : Nat} {kd mk : Int} {t : Int → Int} (hF : Fix h) (ho : 136 ≤ o) (so : sh h o = (13, 6)) (sa : sh h a = (0, t (-1))) (hao : a ≠ o) (gO : G o) (gA : G a) (t3 : t (-3) = kd) (t2 : t (-2) = mk) (tn : ∀ i, In (t (-1)) i → gi h a i = t i) (hr : kd = 2 → t (-1) = 2 → R32 (t 0) ∧ R32 (t 1))
    (cont : ∀ h', Fix h' → (∀ q, q ≠ o → Kp q h h') → nn h' = nn h → us h' = us h → FO h' G o t → Q none h') : Ok 20 0 [some (vR (some o)), some (vI kd), some (vI mk), some (vR (some a)), none] [] h Q := by
  have F1 : Fix (sr (si (si h o 0 kd) o 1 mk) o 2 (some a)) := Fix.srN (h := si (si h o 0 kd) o 1 mk) hF ho
  have fin : ∀ (b : Int) (f4 f5 : UInt32), (isSm t → b = 1 ∧ f4 = uB (t 0) ∧ f5 = uB (t 1)) → (¬ isSm t → b = 0) → Q none (sf (sf (si (sr (si (si h o 0 kd) o 1 mk) o 2 (some a)) o 3 b) o 4 f4) o 5 f5) := fun b f4 f5 h1 h2 => by
    refine cont _ F1 (fun q hq => (((((Kp.refl.si hq).si hq).sr hq).si hq).sf hq).sf hq) rfl rfl ⟨gO, so, ?_, ?_, ⟨a, ?_, gA, sa, fun i hi => ?_⟩, fun q => ?_, fun q => ?_⟩
    · show gi (si (sr (si (si h o 0 kd) o 1 mk) o 2 (some a)) o 3 b) o 0 = _
      rw [gi_si_k (by decide), gi_sr, gi_si_k (by decide), gi_si_e]; exact t3.symm
    · show gi (si (sr (si (si h o 0 kd) o 1 mk) o 2 (some a)) o 3 b) o 1 = _
      rw [gi_si_k (by decide), gi_sr, gi_si_e]; exact t2.symm
    · show gr (sr (si (si h o 0 kd) o 1 mk) o 2 (some a)) o 2 = _
      rw [gr_sr_e]
    · show gi (si (sr (si (si h o 0 kd) o 1 mk) o 2 (some a)) o 3 b) a i = _
      rw [gi_si_o hao, gi_sr, gi_si_o hao, gi_si_o hao]; exact tn i hi
    · obtain ⟨q1, q2, q3⟩ := h1 q
      refine ⟨?_, ?_, ?_⟩
      · show gi (si (sr (si (si h o 0 kd) o 1 mk) o 2 (some a)) o 3 b) o 3 = _
        rw [gi_si_e]; exact q1
      · rw [gf_sf_k (by decide), gf_sf_e]; exact q2
      · rw [gf_sf_e]; exact q3
    · show gi (si (sr (si (si h o 0 kd) o 1 mk) o 2 (some a)) o 3 b) o 3 = _
      rw [gi_si_e]; exact h2 q
  have no : ¬ isSm t → Q none (sf (sf (si (sr (si (si h o 0 kd) o 1 mk) o 2 (some a)) o 3 0) o 4 FP.fconst0) o 5 FP.fconst0) := fun q => fin 0 _ _ (fun r => absurd r q) (fun _ => rfl)
  have g0 : ∀ i : Int, In (t (-1)) i → gi (si (si h o 0 kd) o 1 mk) a i = t i := fun i hi => by rw [gi_si_o hao, gi_si_o hao]; exact tn i hi
  refine f_X3_init_0 hF _ _ _ _ ho (by rw [so]) ⟨fun q => no (fun s => q (t3 ▸ s.1)), fun q => ⟨by rw [sa]; show (0 : Nat) < 10; decide, fun q2 => no (fun s => ?_), fun q2 => ?_⟩⟩
  · rw [sa] at q2; exact q2 s.2.1
  · have k2 : kd = 2 := Decidable.not_not.mp q
    rw [sa] at q2
    have l2 : t (-1) = 2 := Decidable.not_not.mp q2
    have i0 : In (t (-1)) 0 := by rw [l2]; exact ⟨by decide, by decide⟩
    have i1 : In (t (-1)) 1 := by rw [l2]; exact ⟨by decide, by decide⟩
    obtain ⟨r0, r1⟩ := hr k2 l2
    have e0 : gi (si (si h o 0 kd) o 1 mk) a 0 = t 0 := g0 0 i0
    have e1 : gi (sr (si (si h o 0 kd) o 1 mk) o 2 (some a)) a 1 = t 1 := g0 1 i1
    have s1 : sh (sr (si (si h o 0 kd) o 1 mk) o 2 (some a)) a = (0, t (-1)) := sa
    have so1 : (sh (sr (si (si h o 0 kd) o 1 mk) o 2 (some a)) o).1 = 13 := by show (sh h o).1 = 13; rw [so]
    rw [e0]
    refine ⟨⟨by rw [sa], by decide, by rw [sa]; show 0 < t (-1); omega⟩, ?_⟩
    refine f_X3_isFinite_0 F1 _ ⟨fun q3 => ⟨0, rfl, F1, so1, fun _ => no (fun s => s.2.2.1 q3), fun q4 => absurd rfl q4⟩, fun q3 => ⟨1, rfl, F1, so1, fun q4 => absurd q4 (by decide), fun _ => ⟨⟨by rw [s1], by decide, by rw [s1]; show 1 < t (-1); omega⟩, ?_⟩⟩⟩
    rw [e1]
    refine f_X3_isFinite_0 F1 _ ⟨fun q4 => ⟨0, rfl, F1, so1, fun _ => no (fun s => s.2.2.2.1 q4), fun q5 => absurd rfl q5⟩, fun q4 => ⟨1, rfl, F1, so1, fun q5 => absurd q5 (by decide), fun _ => ⟨⟨by rw [s1], by decide, by rw [s1]; show 1 < t (-1); omega⟩, ?_⟩⟩⟩
    have bz : (0 ≤ t 1 ∨ iAnd (t 1) 2147483647 = 0) → Ok 29 0 [some (vI (gi (si (sr (si (si h o 0 kd) o 1 mk) o 2 (some a)) o 3 1) a 0)), none, none, none, none, none, none] [] (si (sr (si (si h o 0 kd) o 1 mk) o 2 (some a)) o 3 1) (fun v h_7 => ∃ x_8, v = some (vF x_8) ∧ Fix h_7 ∧ (sh h_7 o).1 = 13 ∧ ((gi h_7 o 3 = 0) → Q none (sf (sf h_7 o 4 x_8) o 5 FP.fconst0)) ∧ (¬ (gi h_7 o 3 = 0) → ((sh h_7 a).1 = 0 ∧ (0 : Int) ≤ 1 ∧ 1 < (sh h_7 a).2) ∧ Ok 29 0 [some (vI (gi h_7 a 1)), none, none, none, none, none, none] [] (sf h_7 o 4 x_8) (fun v h_9 => ∃ x_10, v = some (vF x_10) ∧ Fix h_9 ∧ (sh h_9 o).1 = 13 ∧ Q none (sf h_9 o 5 x_10)))) := fun q5 => by
      have sm : isSm t := ⟨t3.trans k2, l2, q3, q4, q5⟩
      have z0 : gi (si (sr (si (si h o 0 kd) o 1 mk) o 2 (some a)) o 3 1) a 0 = t 0 := by rw [gi_si_o hao]; exact e0
      have z1 : gi (si (sr (si (si h o 0 kd) o 1 mk) o 2 (some a)) o 3 1) a 1 = t 1 := by rw [gi_si_o hao]; exact e1
      have z3 : gi (si (sr (si (si h o 0 kd) o 1 mk) o 2 (some a)) o 3 1) o 3 = 1 := gi_si_e
      rw [z0]
      refine c_floatOf F1 r0 q3 ⟨_, rfl, F1, so1, fun q6 => by rw [z3] at q6; omega, fun q6 => ⟨⟨by show (sh h a).1 = 0; rw [sa], by decide, by show 1 < (sh h a).2; rw [sa]; show 1 < t (-1); omega⟩, ?_⟩⟩
      rw [z1]
      exact c_floatOf (h := sf (si (sr (si (si h o 0 kd) o 1 mk) o 2 (some a)) o 3 1) o 4 (uB (t 0))) F1 r1 q4 ⟨_, rfl, F1, so1, fin 1 _ _ (fun _ => ⟨rfl, rfl, rfl⟩) (fun q => absurd sm q)⟩
    have nz : ¬ (0 ≤ t 1 ∨ iAnd (t 1) 2147483647 = 0) → Q none (sf (sf (si (sr (si (si h o 0 kd) o 1 mk) o 2 (some a)) o 3 0) o 4 FP.fconst0) o 5 FP.fconst0) := fun q5 => no (fun s => q5 s.2.2.2.2)
    rw [e1]
    refine f_X3_isBelowZero_0 F1 _ ⟨fun q5 => ⟨0, rfl, F1, so1, fun q6 => absurd rfl q6, fun _ => ⟨⟨by rw [s1], by decide, by rw [s1]; show 0 < t (-1); omega⟩, bz (Or.inl q5)⟩⟩, fun q5 => ⟨fun q6 => ⟨0, rfl, F1, so1, fun q7 => absurd rfl q7, fun _ => ⟨⟨by rw [s1], by decide, by rw [s1]; show 0 < t (-1); omega⟩, bz (Or.inr q6)⟩⟩, fun q6 => ⟨1, rfl, F1, so1, fun _ => nz (fun s => by rcases s with s | s; exact q5 s; exact q6 s), fun q7 => absurd (by decide) q7⟩⟩⟩
