/-! the class names the blocks -/
def UC (h : AH) (D : DD) : Prop := gi h 20 0 = D 99 1 ∧ ∀ u, In (D 99 1) u → 0 ≤ gi h 18 u ∧ gi h 18 u ≤ u ∧ (gi h 18 u = u → D 102 u = u) ∧ (gi h 18 u ≠ u → D 102 u = D 102 (gi h 18 u))
theorem UC.kp {h h' : AH} {D : DD} (u : UC h D) (k20 : gi h' 20 = gi h 20) (k18 : gi h' 18 = gi h 18) : UC h' D := by unfold UC; rw [k20, k18]; exact u
theorem CInv.uc {h : AH} {n : Nat} {Ds : Nat → DD} {Z : DD} {c : Int} (ci : CInv h n Ds Z c) (w : WF (Ds n)) : UC h (Ds n) := by
  obtain ⟨G, S, T, m, rc⟩ := ci.mid
  have wc := w.c
  refine ⟨by rw [m.rd (o := 20) (N := 1) (by decide) in10]; exact rc.1.1, fun u hu => ?_⟩
  rw [m.rd (o := 18) (N := 100) (by decide) ⟨hu.1, by have := hu.2; omega⟩]
  obtain ⟨_, _, _, _, a5, a6, a7, a8⟩ := rc.1.2 u hu
  exact ⟨a5, a6, a7, a8⟩
theorem c_names_15 {h0 : AH} {Q : Option AV → AH → Prop} {D : DD} (w : WF D) (uc : UC h0 D)
    (cont : ∀ h', Fix h' → (∀ o, o ≠ 7 → o ≠ 8 → Kp o h0 h') → nn h' = nn h0 → us h' = us h0 → (∀ i, i ≠ 7 → gi h' 7 i = gi h0 7 i) → (gr h' = gr h0 ∧ sh h' = sh h0) → (∀ u, In (D 99 1) u → gi h' 8 u = D 102 u) → gi h' 7 7 = nBlk D → Q none h') (k : Nat) :
    ∀ (h : AH) (u : Int), (D 99 1 - u).toNat = k → 0 ≤ u → u ≤ D 99 1 → Fix h → (∀ o, o ≠ 7 → o ≠ 8 → Kp o h0 h) → nn h = nn h0 → us h = us h0 → (∀ i, i ≠ 7 → gi h 7 i = gi h0 7 i) → (gr h = gr h0 ∧ sh h = sh h0) → (∀ v, In u v → gi h 8 v = D 102 v) → gi h 7 7 = (cnt (bn D) u.toNat : Nat) → Ok 96 15 [some (vR (some 7)), some (vI u), none] [] h Q := by
  have wc := w.c
  induction k using Nat.strongRecOn with
  | ind k ih =>
    intro h u hk u0 u1 hF kp hn hu g7 r7 hI e7
    have e20 : gi h 20 0 = D 99 1 := by rw [(kp 20 (by decide) (by decide)).1]; exact uc.1
    have e18 : gi h 18 u = gi h0 18 u := congrFun (kp 18 (by decide) (by decide)).1 u
    refine f_X8_nameBlocks_15 hF _ ?_
    rw [e20, e18, e7]
    refine ⟨fun q => ?_, fun q => ?_⟩
    · have e : u = D 99 1 := by omega
      exact cont h hF kp hn hu g7 r7 (fun v hv => hI v (by rw [e]; exact hv)) (by rw [e7, e]; rfl)
    · have hu' : In (D 99 1) u := ⟨u0, by omega⟩
      obtain ⟨a1, a2, a3, a4⟩ := uc.2 u hu'
      have hcl := cnt_le (bn D) u.toNat
      have hs := cnt_succ (p := bn D) u0
      have kp' : ∀ (x y : Int), ∀ o, o ≠ 7 → o ≠ 8 → Kp o h0 (si (si h 8 u x) 7 7 y) := fun x y o o7 o8 => ((kp o o7 o8).si o8).si o7
      have g7' : ∀ (x y : Int), ∀ i, i ≠ 7 → gi (si (si h 8 u x) 7 7 y) 7 i = gi h0 7 i := fun x y i hi => by rw [gi_si_k hi, gi_si_o (by decide)]; exact g7 i hi
      have h8 : ∀ (x y : Int), x = D 102 u → ∀ v, In (u + 1) v → gi (si (si h 8 u x) 7 7 y) 8 v = D 102 v := fun x y hx v hv => by
        rw [gi_si_o (by decide)]
        by_cases e : v = u
        · rw [e, gi_si_e]; exact hx
        · rw [gi_si_k e]; exact hI v ⟨hv.1, by have := hv.2; omega⟩
      refine ⟨⟨by omega, by omega⟩, fun q2 => ⟨⟨by omega, by omega⟩, ⟨by omega, by omega⟩, ⟨by omega, by omega⟩, ?_⟩, fun q2 => ⟨⟨by omega, by omega⟩, ⟨by omega, by omega⟩, ?_⟩⟩
      · have hne : D 102 u ≠ u := by
          rw [a4 q2]
          have t := (w.2.1 (gi h0 18 u) ⟨a1, by omega⟩).2.2.1
          omega
        have eb : bn D u = false := by unfold bn; simp [hne]
        rw [eb] at hs
        refine ih _ (by omega) _ (u + 1) rfl (by omega) (by omega) hF (kp' _ _) hn hu (g7' _ _) r7 (h8 _ _ ?_) ?_
        · rw [hI _ ⟨a1, by omega⟩]; exact (a4 q2).symm
        · rw [gi_si_e, hs]; simp
      · have e0 : gi h0 18 u = u := Decidable.not_not.mp q2
        have he : D 102 u = u := a3 e0
        have eb : bn D u = true := by unfold bn; simp [he]
        rw [eb] at hs
        refine ih _ (by omega) _ (u + 1) rfl (by omega) (by omega) hF (kp' _ _) hn hu (g7' _ _) r7 (h8 _ _ he.symm) ?_
        rw [gi_si_e, hs]; simp
theorem c_names {h : AH} {Q : Option AV → AH → Prop} {D : DD} (hF : Fix h) (w : WF D) (uc : UC h D) (ca : CaU h D)
    (cont : ∀ h', Fix h' → (∀ o, o ≠ 7 → o ≠ 8 → Kp o h h') → nn h' = nn h → us h' = us h → gi h' 7 8 = gi h 7 8 → (gr h' = gr h ∧ sh h' = sh h) → gi h' 7 9 = gi h' 7 8 → CaU h' D → Q none h') : Ok 96 0 [some (vR (some 7)), none, none] [] h Q := by
  refine f_X8_nameBlocks_0 hF ⟨fun q => ?_, fun q => cont h hF (fun _ _ _ => Kp.refl) rfl rfl rfl ⟨rfl, rfl⟩ (Decidable.not_not.mp q) ca⟩
  have e8 : gi (si (si h 7 9 (gi h 7 8)) 7 7 0) 7 8 = gi h 7 8 := by rw [gi_si_k (by decide), gi_si_k (by decide)]
  have e9 : gi (si (si h 7 9 (gi h 7 8)) 7 7 0) 7 9 = gi h 7 8 := by rw [gi_si_k (by decide), gi_si_e]
  refine c_names_15 (h0 := si (si h 7 9 (gi h 7 8)) 7 7 0) w (uc.kp (gi_si_r (by decide) |>.trans (gi_si_r (by decide))) (gi_si_r (by decide) |>.trans (gi_si_r (by decide)))) (fun h' F' kp hn hu g7 r7 hI e7 => ?_) _ _ 0 rfl (by omega) w.c.1 hF (fun _ _ _ => Kp.refl) rfl rfl (fun _ _ => rfl) ⟨rfl, rfl⟩ (fun v hv => by have := hv.1; have := hv.2; omega) gi_si_e
  have q8 : gi h' 7 8 = gi h 7 8 := by rw [g7 8 (by decide)]; exact e8
  have q9 : gi h' 7 9 = gi h 7 8 := by rw [g7 9 (by decide)]; exact e9
  exact cont h' F' (fun o o7 o8 => ((Kp.refl.si o7).si o7).trans (kp o o7 o8)) hn hu q8 r7 (by rw [q8, q9]) ⟨by rw [q8, q9]; exact Int.le_refl _, fun _ => ⟨hI, e7⟩⟩
theorem c_blockOf {h : AH} {Q : Option AV → AH → Prop} {D : DD} {u : Int} (hF : Fix h) (w : WF D) (uc : UC h D) (ca : CaU h D) (hu : In (D 99 1) u)
    (cont : ∀ h', Fix h' → (∀ o, o ≠ 7 → o ≠ 8 → Kp o h h') → nn h' = nn h → us h' = us h → gi h' 7 8 = gi h 7 8 → (gr h' = gr h ∧ sh h' = sh h) → gi h' 7 9 = gi h' 7 8 → CaU h' D → Q (some (vI (D 102 u))) h') : Ok 94 0 [some (vR (some 7)), some (vI u)] [] h Q := by
  have wc := w.c
  refine f_X8_blockOf_0 hF _ (c_names hF w uc ca (fun h' F' kp hn hu' e8 r7 e9 ca' => ⟨rfl, F', ⟨hu.1, by have := hu.2; omega⟩, ?_⟩))
  rw [(ca'.2 e9).1 u hu]
  exact cont h' F' kp hn hu' e8 r7 e9 ca'
theorem c_blocks {h : AH} {Q : Option AV → AH → Prop} {D : DD} (hF : Fix h) (w : WF D) (uc : UC h D) (ca : CaU h D)
    (cont : ∀ h', Fix h' → (∀ o, o ≠ 7 → o ≠ 8 → Kp o h h') → nn h' = nn h → us h' = us h → gi h' 7 8 = gi h 7 8 → (gr h' = gr h ∧ sh h' = sh h) → gi h' 7 9 = gi h' 7 8 → CaU h' D → Q (some (vI (nBlk D))) h') : Ok 95 0 [some (vR (some 7))] [] h Q := by
  refine f_X8_blocks_0 hF (c_names hF w uc ca (fun h' F' kp hn hu' e8 r7 e9 ca' => ⟨rfl, F', ?_⟩))
  rw [(ca'.2 e9).2]
  exact cont h' F' kp hn hu' e8 r7 e9 ca'
