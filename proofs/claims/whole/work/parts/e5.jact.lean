/-! acts on both sides -/
theorem sLose_gsm {D : DD} {t : Int} : Gsm D (sLose D t) := by
  have er : ∀ o, o ≠ 109 → (o < 110 ∨ 116 < o) → sLose D t o = D o := fun o h1 h2 => funext fun j => by unfold sLose; rw [up_o h1, sLets_o h2]
  exact ⟨by rw [er 99 (by decide) (by decide)], by rw [er 99 (by decide) (by decide)], er 102 (by decide) (by decide), er 106 (by decide) (by decide), er 107 (by decide) (by decide)⟩
theorem sNote_gsm {D : DD} {t s wd : Int} : Gsm D (sNote D t s wd) := by
  have e9 : ∀ o i, o ≠ 117 → o ≠ 114 → o ≠ 112 → ¬ (o = 99 ∧ i = 37) → sNote D t s wd o i = D o i := fun o i h1 h2 h3 h4 => by
    unfold sNote
    have e : ∀ (D : DD), up D 99 37 1 o i = D o i := fun D => if_neg h4
    rw [e, up_o h2, apL_o h1, up_o h3]
  exact ⟨e9 99 1 (by decide) (by decide) (by decide) (by decide), e9 99 7 (by decide) (by decide) (by decide) (by decide), funext fun j => e9 102 j (by decide) (by decide) (by decide) (by simp), funext fun j => e9 106 j (by decide) (by decide) (by decide) (by simp), funext fun j => e9 107 j (by decide) (by decide) (by decide) (by simp)⟩
theorem StepA_gsm {D : DD} {A : Int → Int} (h : 4 < A 0) : Gsm D (StepA D A) := by
  unfold StepA
  rw [if_neg (by omega), if_neg (by omega), if_neg (by omega)]
  by_cases e5 : A 0 = 5
  · rw [if_pos e5]; exact ⟨rfl, rfl, rfl, rfl, rfl⟩
  rw [if_neg e5]
  by_cases e6 : A 0 = 6
  · rw [if_pos e6]; exact sLose_gsm
  rw [if_neg e6]
  by_cases e7 : A 0 = 7
  · rw [if_pos e7]; exact sPlace_gsm
  rw [if_neg e7]
  by_cases e8 : A 0 = 8
  · rw [if_pos e8]; exact sPlace_gsm
  rw [if_neg e8]
  by_cases e9 : A 0 = 9
  · rw [if_pos e9]; exact ⟨rfl, rfl, rfl, rfl, rfl⟩
  rw [if_neg e9]
  by_cases e10 : A 0 = 10
  · rw [if_pos e10]; exact sNote_gsm
  rw [if_neg e10]
  by_cases e11 : A 0 = 11
  · rw [if_pos e11]; exact ⟨rfl, rfl, rfl, rfl, rfl⟩
  rw [if_neg e11]
  by_cases e12 : A 0 = 12
  · rw [if_pos e12]; exact sLet_gsm
  rw [if_neg e12]
  by_cases e13 : A 0 = 13
  · rw [if_pos e13]; exact sMove_gsm
  rw [if_neg e13]
  by_cases e14 : A 0 = 14
  · rw [if_pos e14]; exact ⟨rfl, rfl, rfl, rfl, rfl⟩
  rw [if_neg e14]
  by_cases e15 : A 0 = 15
  · rw [if_pos e15]
    have g := cyGo_gsm (A 1) (A 2) (A 4) (A 5) (A 3).toNat 0 D D (fun _ _ _ => rfl)
    exact ⟨g _ _ (by omega), g _ _ (by omega), funext fun j => g _ j (by omega), funext fun j => g _ j (by omega), funext fun j => g _ j (by omega)⟩
  rw [if_neg e15]
  by_cases e16 : A 0 = 16
  · rw [if_pos e16]; exact ⟨rfl, rfl, rfl, rfl, rfl⟩
  rw [if_neg e16]
  exact ⟨rfl, rfl, rfl, rfl, rfl⟩
