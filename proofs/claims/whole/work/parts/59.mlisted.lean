/-! blocks by their names -/
def bn (D : DD) (u : Int) : Bool := decide (D 102 u = u)
def nBlk (D : DD) : Nat := cnt (bn D) (D 99 1).toNat
/-- row w has the names of the blocks, in order -/
def Names (D : DD) (w : Int → Int) : Prop := ∀ u, In (D 99 1) u → D 102 u = u → w (cnt (bn D) u.toNat) = u
theorem m_listed_4 {Q : Option AV → AH → Prop} {D : DD} {h0 : AH} (w : WF D) (k : Nat) : ∀ (h : AH) (u m : Int), (D 99 1 - u).toNat = k → 0 ≤ u → u ≤ D 99 1 → Fix h → RM h D → Fr [132] [] h0 h → m = cnt (bn D) u.toNat → (∀ v, 0 ≤ v → v < u → D 102 v = v → gi h 132 (cnt (bn D) v.toNat) = v) →
    (∀ h', Fix h' → Fr [132] [(99, 50)] h0 h' → gi h' 99 50 = nBlk D → Names D (gi h' 132) → Q (some (vI (nBlk D))) h') → Ok 286 4 [some (vR (some 99)), some (vI m), some (vI u)] [] h Q := by
  have c0 := w.1
  unfold Wc at c0
  induction k using Nat.strongRecOn with
  | ind k ih =>
    intro h u m hk u0 u1 hF r f hm hI cont
    have hcl := cnt_le (bn D) u.toNat
    refine f_X12_listed_4 hF _ _ ?_
    rw [r.n]
    refine ⟨fun c => ?_, fun c => ?_⟩
    · have e : u = D 99 1 := by omega
      have em : m = nBlk D := by rw [hm, e]; rfl
      rw [em]
      have f2 : Fr [132] [(99, 50)] h0 (si h 99 50 (nBlk D)) := (f.mono (by decide) (by decide)).si (Or.inr (by decide))
      refine cont _ (hF.fr (Fr.refl.si (L := []) (K := [(99, 50)]) (Or.inr (by decide)))) f2 gi_si_e (fun v hv hq => ?_)
      rw [gi_si_o (by decide)]
      exact hI v hv.1 (by have := hv.2; omega) hq
    · have hu : In (D 99 1) u := ⟨u0, by omega⟩
      have hs := cnt_succ (p := bn D) u0
      rw [r.u (o := 102) (by decide) hu]
      refine ⟨by omega, fun c1 => ⟨by omega, ?_⟩, fun c1 => ⟨by omega, by omega, by omega, ?_⟩⟩
      · have e : bn D u = false := by unfold bn; simp [c1]
        rw [e] at hs
        refine ih _ (by omega) h (u + 1) m rfl (by omega) (by omega) hF r f (by rw [hs, hm]; simp) (fun v v0 v1 hq => hI v v0 ?_ hq) cont
        by_cases hv : v = u
        · rw [hv] at hq; exact absurd hq c1
        · omega
      · have e0 : D 102 u = u := by omega
        have e : bn D u = true := by unfold bn; simp [e0]
        rw [e] at hs
        have f1 : Fr [132] [] h (si h 132 m u) := Fr.refl.si (Or.inl (by decide))
        refine ih _ (by omega) _ (u + 1) (m + 1) rfl (by omega) (by omega) (hF.fr f1) (r.fr f1 (by decide) (by decide)) (f.trans f1) (by rw [hs, hm]; simp) (fun v v0 v1 hq => ?_) cont
        rw [gi_si_f]
        by_cases hv : v = u
        · rw [hv, hm, uq_e]
        · have hvs := cnt_succ (p := bn D) v0
          have hv2 : bn D v = true := by unfold bn; simp [hq]
          rw [hv2] at hvs
          simp at hvs
          have := cnt_mono (p := bn D) (n := (v + 1).toNat) (m := u.toNat) (by omega)
          rw [uq_o (by omega)]
          exact hI v v0 (by omega) hq
theorem m_listed {h : AH} {Q : Option AV → AH → Prop} {D : DD} (hF : Fix h) (r : RM h D) (w : WF D) (cont : ∀ h', Fix h' → Fr [132] [(99, 50)] h h' → gi h' 99 50 = nBlk D → Names D (gi h' 132) → Q (some (vI (nBlk D))) h') : Ok 286 0 [some (vR (some 99)), none, none] [] h Q :=
  f_X12_listed_0 hF (m_listed_4 w _ h 0 0 rfl (by omega) w.1.1 hF r Fr.refl rfl (fun v v0 v1 => by omega) cont)
/-- what count answers -/
def aCount (D Z : DD) (n : Nat) (a x : Int) : Prop := (a = 0 → x = D 99 1) ∧ (a = 1 → x = D 99 7) ∧ (a = 2 → x = nBlk D) ∧ (a = 3 → x = D 99 11) ∧ (a = 4 → x = n) ∧ (5 ≤ a → a ≤ 10 → x = Z 120 (a - 4)) ∧ (a = 11 → x = D 99 22) ∧ (a = 12 → x = (cnt (dnd D) (D 99 7).toNat : Nat)) ∧ (a < 0 ∨ 12 < a → x = -1)
