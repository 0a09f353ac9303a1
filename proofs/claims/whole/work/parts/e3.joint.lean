/-! both sides in one heap -/
theorem Ok.p0 {i k : Nat} {ls : aLs} {st : aSt} {h : AH} {Q : Option AV → AH → Prop} (o : Ok i k ls st h Q) : Ok i k ls st h (fun v h' => Q v h' ∧ P0 h h') := by
  obtain ⟨n, v, h', e, q⟩ := o
  exact ⟨n, v, h', e, q, run_pure e⟩
theorem Fr.kp {L : List Nat} {K : List (Nat × Int)} {h h' : AH} (f : Fr L K h h') {o : Nat} (h1 : o ∉ L) (h2 : ∀ q ∈ K, q.1 ≠ o) : Kp o h h' := ⟨f.row h1 h2, f.rowl h1 h2, by rw [f.2.2.1], by rw [f.2.2.2.1], by rw [f.2.2.2.2.1]⟩
theorem CInv.frR {L : List Nat} {K : List (Nat × Int)} {h h' : AH} {n : Nat} {Ds : Nat → DD} {Z : DD} {c : Int} (ci : CInv h n Ds Z c) (f : Fr L K h h') (hL : ∀ o ∈ L, 99 ≤ o ∧ o ≤ 135) (hK : ∀ q ∈ K, 99 ≤ q.1 ∧ q.1 ≤ 135) : CInv h' n Ds Z c := by
  have kk : ∀ o, o < 99 ∨ 135 < o → Kp o h h' := fun o ho => f.kp (fun m => by have := hL o m; omega) (fun q m e => by have := hK q m; omega)
  have ca := ci.ca
  have cz := ci.cz
  have k0 : ∀ o, o < 99 → gi h' o = gi h o := fun o ho => (kk o (Or.inl ho)).1
  have kl : ∀ o, o < 99 → gl h' o = gl h o := fun o ho => (kk o (Or.inl ho)).2.1
  refine ci.core (fun o ho => kk o ?_) (by rw [f.2.2.2.1]) f.2.2.2.2.2.1 f.2.2.2.2.2.2 (by rw [k0 7 (by decide)]) ?_ ⟨ca.1.w (k0 7 (by decide)) (k0 8 (by decide)), ca.2.1.kp3 (fun o p q => kk o (by omega)) (by rw [k0 7 (by decide)]), ?_, ?_⟩
  · rcases ho with c | c | c | c | c | c | c | ⟨n, c⟩ | c
    all_goals first | omega | (have := c.rng; omega)
  · unfold CZ at cz ⊢
    rw [k0 7 (by decide), k0 86 (by decide), k0 98 (by decide), k0 1 (by decide), k0 69 (by decide), k0 70 (by decide), k0 94 (by decide), k0 95 (by decide), k0 90 (by decide)]
    exact cz
  · have cy := ca.2.2.1
    unfold CaY YrOk QrOk at cy ⊢
    rw [k0 2 (by decide), k0 73 (by decide), k0 74 (by decide), k0 75 (by decide), k0 76 (by decide), k0 77 (by decide), k0 78 (by decide), k0 79 (by decide), k0 80 (by decide), k0 81 (by decide), k0 82 (by decide), k0 83 (by decide)]
    exact cy
  · have cs := ca.2.2.2
    unfold CaS SeqOk at cs ⊢
    rw [k0 7 (by decide), k0 86 (by decide), kl 86 (by decide), k0 87 (by decide), k0 88 (by decide), k0 89 (by decide)]
    exact cs
theorem MInv.rf {h h' : AH} {n : Nat} {Ds : Nat → DD} {Z : DD} (m : MInv h n Ds Z) (r : Rf h h') : MInv h' n Ds Z := by
  obtain ⟨m1, m2, m3, m4, m5, m6, m7⟩ := m
  have g : ∀ o, 99 ≤ o → o ≤ 135 → gi h' o = gi h o := fun o p q => (r o p q).1
  refine ⟨m1, by rw [g 99 (by decide) (by decide)]; exact m2, fun o k u => ?_, m4, m5, m6.fr (fun k => by rw [g 126 (by decide) (by decide)]) (fun k => by rw [g 127 (by decide) (by decide)]) (fun k => by rw [(r 128 (by decide) (by decide)).2]), ?_⟩
  · have : 99 ≤ o ∧ o ≤ 119 := Classical.byContradiction (fun q => by
      by_cases e : o < 99
      · exact Us_off u (Or.inl e)
      · exact Us_off u (Or.inr (Or.inl (by omega))))
    rw [g o (by omega) (by omega)]; exact m3 o k u
  · unfold RZ at m7 ⊢
    rw [g 120 (by decide) (by decide), g 99 (by decide) (by decide), g 121 (by decide) (by decide), g 122 (by decide) (by decide), g 134 (by decide) (by decide)]
    exact m7
theorem C49.rf {h h' : AH} {D : DD} (c : C49 h D) (r : Rf h h') : C49 h' D := by
  unfold C49
  rw [(r 99 (by decide) (by decide)).1, (r 135 (by decide) (by decide)).2]; exact c
/-- the sequence at hand is one -/
def ZS (D Z : DD) : Prop := Z 99 48 = 1 → nBlk D ≤ 16 ∧ Vld (bfD D) (nBlk D) (Z 134) (nBlk D)
/-- what holds between two calls -/
def JI (h : AH) (n : Nat) (Ds : Nat → DD) (Z : DD) (c : Int) : Prop := Fix h ∧ CInv h n Ds Z c ∧ MInv h n Ds Z ∧ WZ Z c ∧ C49 h (Ds n) ∧ ZS (Ds n) Z ∧ (Z 99 48 = 0 ∨ Z 99 48 = 1)
theorem JI.w {h : AH} {n : Nat} {Ds : Nat → DD} {Z : DD} {c : Int} (j : JI h n Ds Z c) : WF (Ds n) := j.2.2.1.2.2.2.1 n (Nat.le_refl _)
