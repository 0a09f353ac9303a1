/-! the class: what hangs together, and places in it -/
def NC (br : Nat → Nat → Prop) (U : Nat) : Prop := ∀ i j, br i j → (U.testBit i = true ↔ U.testBit j = true)
theorem pcn_le {m A B : Nat} (h : ∀ i, A.testBit i = true → B.testBit i = true) : pcn m A ≤ pcn m B := cnt_sub (fun x _ hx => h _ hx)
theorem pcn_lt {m A B j : Nat} (h : ∀ i, A.testBit i = true → B.testBit i = true) (hj : j < m) (h1 : A.testBit j = false) (h2 : B.testBit j = true) : pcn m A < pcn m B := by
  rw [pcn_x h2 hj]
  have : pcn m A ≤ pcn m (B ^^^ 2 ^ j) := pcn_le (fun i hi => by
    have : ¬ j = i := fun e => by rw [e, hi] at h1; cases h1
    rw [tb_x, h i hi]; simp [this])
  omega
theorem and_s {x S : Int} (hx : 0 ≤ x ∧ x < 65536) (hS : 0 ≤ S ∧ S < 65536) : iAnd x S = 0 ↔ ∀ j, x.toNat.testBit j = true → S.toNat.testBit j = false := by
  rw [iAnd_nn ⟨hx.1, by omega⟩ ⟨hS.1, by omega⟩]
  constructor
  · intro h j hj
    have h' : x.toNat &&& S.toNat = 0 := by omega
    have := congrArg (fun z => Nat.testBit z j) h'
    simp only [Nat.testBit_and, hj, Nat.zero_testBit] at this
    simpa using this
  · intro h
    have : x.toNat &&& S.toNat = 0 := by
      refine Nat.eq_of_testBit_eq (fun j => ?_)
      simp only [Nat.testBit_and, Nat.zero_testBit]
      cases q : x.toNat.testBit j
      · rfl
      · rw [h j q]; rfl
    omega
def stb (br : Nat → Nat → Prop) (B i : Nat) : Prop := ∀ j, br i j → (B.testBit i = true ↔ B.testBit j = true)
def HG (br : Nat → Nat → Prop) (b B : Nat) : Prop := B.testBit b = true ∧ ∀ U, NC br U → U.testBit b = false → ∀ i, B.testBit i = true → U.testBit i = false
theorem c_hang {h : AH} {Q : Option AV → AH → Prop} {br : Nat → Nat → Prop} {m b : Nat} (hF : Fix h) (hm : m ≤ 16) (e6 : gi h 86 6 = m) (ba : BA (gi h 89) m br) (hl : ∀ i j, br i j → i < m ∧ j < m) (hb : b < m)
    (cont : ∀ P, P < 2 ^ m → NC br P → HG br b P → Q (some (vI (P : Int))) h) : Ok 40 0 [some (vR (some 86)), some (vI (b : Int)), none, none, none] [] h Q := by
  obtain ⟨p1, p2⟩ := pw16 hm
  refine f_X4_hangingWith_0 hF _ ?_
  have e1 : iShl 1 (b : Int) = ((2 ^ b : Nat) : Int) := by rw [iShl_1 ⟨by omega, by omega⟩, show ((b : Int)).toNat = b by omega]
  rw [e1]
  have outer : ∀ k ρ B, m - ρ = k → ρ ≤ m → B < 2 ^ m → HG br b B → (NC br B ∨ ρ + 1 ≤ pcn m B) → Ok 40 6 [some (vR (some 86)), some (vI (b : Int)), some (vI (B : Int)), some (vI (ρ : Int)), none] [] h Q := by
    intro k
    induction k using Nat.strongRecOn with
    | ind k ih =>
      intro ρ B hk hρ hB hg hr
      refine f_X4_hangingWith_6 hF _ _ _ ?_
      rw [e6]
      refine ⟨fun c => cont B hB ?_ hg, fun c => ?_⟩
      · rcases hr with z | z
        · exact z
        · have := cnt_le (fun i => B.testBit i.toNat) m
          unfold pcn at z
          omega
      have inner : ∀ j x B', m - x = j → x ≤ m → B' < 2 ^ m → HG br b B' → (B' = B ∧ (∀ i, i < x → stb br B i) ∨ ¬ NC br B ∧ pcn m B < pcn m B') → Ok 40 12 [some (vR (some 86)), some (vI (b : Int)), some (vI (B' : Int)), some (vI (ρ : Int)), some (vI (x : Int))] [] h Q := by
        intro j
        induction j using Nat.strongRecOn with
        | ind j jh =>
          intro x B' hj hx hB' hg' hi
          refine f_X4_hangingWith_12 hF _ _ _ _ ?_
          rw [e6]
          refine ⟨fun c2 => ⟨⟨by omega, by omega⟩, ih _ (by omega) (ρ + 1) B' rfl (by omega) hB' hg' ?_⟩, fun c2 => ?_⟩
          · rcases hi with ⟨z1, z2⟩ | ⟨z1, z2⟩
            · rw [z1]
              exact Or.inl (fun i j hij => z2 i (by have := (hl i j hij).1; omega) j hij)
            · rcases hr with y | y
              · exact absurd y z1
              · exact Or.inr (by omega)
          have bx := ba x (by omega)
          rw [bitS (by omega) (by omega)]
          have nx : ∀ C, C < 2 ^ m → HG br b C → (C = B' ∧ stb br B' x ∨ ¬ stb br B' x ∧ pcn m B' < pcn m C) → Ok 40 12 [some (vR (some 86)), some (vI (b : Int)), some (vI (C : Int)), some (vI (ρ : Int)), some (vI ((x : Int) + 1))] [] h Q := fun C hC hgC hc => by
            refine jh _ (by omega) (x + 1) C rfl (by omega) hC hgC ?_
            rcases hi with ⟨z1, z2⟩ | ⟨z1, z2⟩
            · rw [z1] at hc
              rcases hc with ⟨y1, y2⟩ | ⟨y1, y2⟩
              · refine Or.inl ⟨y1, fun i hi' => ?_⟩
                by_cases e : i = x
                · rw [e]; exact y2
                · exact z2 i (by omega)
              · exact Or.inr ⟨fun n => y1 (fun j hj => n x j hj), y2⟩
            · refine Or.inr ⟨z1, ?_⟩
              rcases hc with ⟨y1, _⟩ | ⟨_, y2⟩
              · rw [y1]; exact z2
              · omega
          refine ⟨fun c3 => ⟨⟨by omega, by omega⟩, ?_⟩, fun c3 => ⟨⟨by omega, by omega⟩, ⟨by omega, by omega⟩, ?_⟩⟩
          · have t0 : B'.testBit x = false := by
              cases q : B'.testBit x
              · rfl
              · rw [q] at c3; exact absurd rfl c3
            rw [and_s bx.1 ⟨by omega, by omega⟩, show ((B' : Int)).toNat = B' by omega]
            refine ⟨fun c4 => ⟨⟨by omega, by omega⟩, nx B' hB' hg' (Or.inl ⟨rfl, fun j hj => ?_⟩)⟩, fun c4 => ⟨⟨by omega, by omega⟩, ?_⟩⟩
            · have := c4 j ((bx.2 j).mpr hj)
              rw [t0, this]
            · have ex : ∃ j, br x j ∧ B'.testBit j = true := by
                refine Classical.byContradiction (fun q => c4 (fun j hj => ?_))
                cases z : B'.testBit j
                · rfl
                · exact absurd ⟨j, (bx.2 j).mp hj, z⟩ q
              obtain ⟨j, j1, j2⟩ := ex
              rw [(orS (S := B') (b := x) (by omega) (by omega)).1]
              refine nx _ (o_lt2 hB' (by omega)) ⟨by rw [tb_o, hg'.1]; rfl, fun U hU hUb i hi' => ?_⟩ (Or.inr ⟨fun s => (by have := (s j j1).mpr j2; rw [t0] at this; cases this), pcn_lt (j := x) (fun i hi' => by rw [tb_o, hi']; rfl) (by omega) t0 (by rw [tb_o]; simp)⟩)
              rw [tb_o] at hi'
              cases q : B'.testBit i
              · rw [q] at hi'
                have e : x = i := by simpa using hi'
                subst e
                have u := hg'.2 U hU hUb j j2
                cases z : U.testBit x
                · rfl
                · rw [(hU x j j1).mp z] at u; cases u
              · exact hg'.2 U hU hUb i q
          · have t1 : B'.testBit x = true := by
              cases q : B'.testBit x
              · rw [q] at c3; exact absurd (by decide) c3
              · rfl
            have eo : iOr (B' : Int) (gi h 89 (x : Int)) = ((B' ||| (gi h 89 (x : Int)).toNat : Nat) : Int) := by
              rw [iOr_nn ⟨by omega, by omega⟩ ⟨bx.1.1, by have := bx.1.2; omega⟩, show ((B' : Int)).toNat = B' by omega]
            rw [eo]
            have hlt : (gi h 89 (x : Int)).toNat < 2 ^ m := lt_of_bits (fun j hj => (hl x j ((bx.2 j).mp hj)).2)
            refine nx _ (Nat.or_lt_two_pow hB' hlt) ⟨by rw [Nat.testBit_or, hg'.1]; rfl, fun U hU hUb i hi' => ?_⟩ ?_
            · rw [Nat.testBit_or] at hi'
              cases q : B'.testBit i
              · rw [q] at hi'
                have e : br x i := (bx.2 i).mp (by simpa using hi')
                have u := hg'.2 U hU hUb x t1
                cases z : U.testBit i
                · rfl
                · rw [(hU x i e).mpr z] at u; cases u
              · exact hg'.2 U hU hUb i q
            · by_cases s : stb br B' x
              · refine Or.inl ⟨Nat.eq_of_testBit_eq (fun j => ?_), s⟩
                rw [Nat.testBit_or]
                cases q : (gi h 89 (x : Int)).toNat.testBit j
                · rw [Bool.or_false]
                · rw [(s j ((bx.2 j).mp q)).mp t1]; rfl
              · have ex : ∃ j, br x j ∧ B'.testBit j = false := by
                  refine Classical.byContradiction (fun q => s (fun j hj => ⟨fun _ => ?_, fun _ => t1⟩))
                  cases z : B'.testBit j
                  · exact absurd ⟨j, hj, z⟩ q
                  · rfl
                obtain ⟨j, j1, j2⟩ := ex
                exact Or.inr ⟨s, pcn_lt (j := j) (fun i hi' => by rw [Nat.testBit_or, hi']; rfl) (hl x j j1).2 j2 (by rw [Nat.testBit_or, (bx.2 j).mpr j1, Bool.or_true])⟩
      exact inner _ 0 B rfl (by omega) hB hg (Or.inl ⟨rfl, fun i hi => by omega⟩)
  have tb : ∀ i, (2 ^ b).testBit i = decide (b = i) := fun i => Nat.testBit_two_pow
  have h1 : (2 ^ b) < 2 ^ m := Nat.pow_lt_pow_right (by decide) hb
  refine outer _ 0 (2 ^ b) rfl (by omega) h1 ⟨by rw [tb]; simp, fun U _ hUb i hi => ?_⟩ (Or.inr ?_)
  · rw [tb] at hi
    have e : b = i := by simpa using hi
    rw [← e]; exact hUb
  · have := pcn_x (m := m) (S := 2 ^ b) (i := b) (by rw [tb]; simp) hb
    omega
