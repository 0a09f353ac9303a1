/-! the reference counts the orders: the sums -/
theorem DPI_skips {W : Int → Int} {bf : Nat → Nat → Prop} {m y : Nat} (h0 : wS bf m y = 0) : ∀ (k b : Nat), m - b = k → b ≤ m → DPI W bf m y b → DPI W bf m y m := by
  intro k
  induction k with
  | zero => intro b hk hb h; rw [show m = b by omega] at h ⊢; exact h
  | succ k ih => intro b hk hb h; exact ih (b + 1) (by omega) (by omega) (DPI_skip h (Or.inr (Or.inr h0)))
theorem BA.ok {a : Int → Int} {m : Nat} {bf : Nat → Nat → Prop} (h : BA a m bf) {i S : Nat} (hi : i < m) (hS : S < 65536) : iAnd (a i) (iXor (S : Int) (-1)) = 0 ↔ okB bf S i := by
  rw [may (h i hi).1 ⟨by omega, by omega⟩, show ((S : Int)).toNat = S by omega]
  exact ⟨fun z j hj => z j (((h i hi).2 j).mpr hj), fun z j hj => z j (((h i hi).2 j).mp hj)⟩
theorem bitS {S b : Nat} (hS : S < 65536) (hb : b < 16) : iAnd (iShr (S : Int) (b : Int)) 1 = if S.testBit b then 1 else 0 := by
  rw [bit_nn ⟨by omega, by omega⟩ ⟨by omega, by omega⟩, show ((S : Int)).toNat = S by omega, show ((b : Int)).toNat = b by omega]
theorem orS {S b : Nat} (hS : S < 65536) (hb : b < 16) : iOr (S : Int) (iShl 1 (b : Int)) = ((S ||| 2 ^ b : Nat) : Int) ∧ S ||| 2 ^ b < 65536 := by
  have := or_bit (x := (S : Int)) (k := (b : Int)) ⟨by omega, by omega⟩ ⟨by omega, by omega⟩
  rw [show ((S : Int)).toNat = S by omega, show ((b : Int)).toNat = b by omega] at this
  exact this
theorem pw16 {m : Nat} (hm : m ≤ 16) : 1 ≤ 2 ^ m ∧ 2 ^ m ≤ 65536 := ⟨Nat.one_le_two_pow, Nat.pow_le_pow_right (n := 2) (by decide) hm⟩
theorem m_ord_44 {h0 : AH} {Q : Option AV → AH → Prop} {bf : Nat → Nat → Prop} {m : Nat} (hm : m ≤ 16) (e50 : gi h0 99 50 = m) (ba : BA (gi h0 133) m bf)
    (cont : ∀ h', Fix h' → Fr [135] [(99, 49)] h0 h' → gi h' 99 49 = 1 → gl h' 135 ((2 ^ m - 1 : Nat) : Int) = wS bf m (2 ^ m - 1) → Q (some (vL (wS bf m (2 ^ m - 1)))) h') (k : Nat) :
    ∀ (h : AH) (y : Nat), 2 ^ m - 1 - y = k → y ≤ 2 ^ m - 1 → Fix h → Fr [135] [] h0 h → DPI (gl h 135) bf m y 0 → Ok 288 44 [some (vR (some 99)), some (vI ((2 ^ m - 1 : Nat) : Int)), some (vI (y : Int)), none] [] h Q := by
  obtain ⟨p1, p2⟩ := pw16 hm
  induction k using Nat.strongRecOn with
  | ind k ih =>
    intro h y hk hy hF f dp
    have ew : gl h 135 (y : Int) = wS bf m y := DPI_at dp (by omega) (Nat.le_refl _)
    refine f_X12_orders_44 hF _ _ ⟨fun c => ⟨⟨by omega, by omega⟩, ?_⟩, fun c => ?_⟩
    · have e : y = 2 ^ m - 1 := by omega
      rw [e] at ew
      rw [ew]
      exact cont _ hF ((f.mono (by decide) (by decide)).si (Or.inr (by decide))) gi_si_e ew
    · have key : ∀ j (h : AH) (b : Nat), m - b = j → b ≤ m → Fix h → Fr [135] [] h0 h → gl h 135 (y : Int) = wS bf m y → DPI (gl h 135) bf m y b → Ok 288 49 [some (vR (some 99)), some (vI ((2 ^ m - 1 : Nat) : Int)), some (vI (y : Int)), some (vI (b : Int))] [] h Q := by
        intro j
        induction j using Nat.strongRecOn with
        | ind j jh =>
          intro h b hj hb hF f ew dp
          have e50' : gi h 99 50 = m := by rw [f.1 99 50 (by decide) (by decide)]; exact e50
          have e133 : gi h 133 = gi h0 133 := f.row (by decide) (by decide)
          have wb := wS_16 (bf := bf) (S := y) hm (by omega)
          refine f_X12_orders_49 hF _ _ _ ?_
          rw [e50', ew]
          have out : DPI (gl h 135) bf m y m → (-2147483648 ≤ (y : Int) + 1 ∧ (y : Int) + 1 < 2147483648) ∧ Ok 288 44 [some (vR (some 99)), some (vI ((2 ^ m - 1 : Nat) : Int)), some (vI ((y : Int) + 1)), none] [] h Q := fun d => ⟨⟨by omega, by omega⟩, ih _ (by omega) h (y + 1) rfl (by omega) hF f (DPI_next d)⟩
          refine ⟨fun c2 => out (by rw [show b = m by omega] at dp; exact dp), fun c2 => ⟨⟨by omega, by omega⟩, fun c3 => out (DPI_skips ?_ _ b rfl hb dp), fun c3 => ?_⟩⟩
          · split at c3
            · omega
            · split at c3 <;> omega
          have nx : DPI (gl h 135) bf m y (b + 1) → (-2147483648 ≤ (b : Int) + 1 ∧ (b : Int) + 1 < 2147483648) ∧ Ok 288 49 [some (vR (some 99)), some (vI ((2 ^ m - 1 : Nat) : Int)), some (vI (y : Int)), some (vI ((b : Int) + 1))] [] h Q := fun d => ⟨⟨by omega, by omega⟩, jh _ (by omega) h (b + 1) rfl (by omega) hF f ew d⟩
          rw [bitS (by omega) (by omega), e133]
          refine ⟨fun c4 => nx (DPI_skip dp (Or.inl ?_)), fun c4 => ⟨⟨by omega, by omega⟩, fun c5 => nx (DPI_skip dp (Or.inr (Or.inl (fun z => c5 ((ba.ok (by omega) (by omega)).mpr z))))), fun c5 => ?_⟩⟩
          · cases q : y.testBit b
            · rw [q] at c4; exact absurd rfl c4
            · rfl
          have y0 : y.testBit b = false := by
            cases q : y.testBit b
            · rfl
            · rw [q] at c4; exact absurd (by decide) c4
          have hok : okB bf y b := (ba.ok (by omega) (by omega)).mp (Decidable.not_not.mp c5)
          obtain ⟨o1, o2⟩ := orS (S := y) (b := b) (by omega) (by omega)
          have o3 : y ||| 2 ^ b < 2 ^ m := o_lt2 (by omega) (by omega)
          rw [o1]
          have db := DPI_b hm dp o3
          have hne : y ≠ y ||| 2 ^ b := fun e => by
            have := congrArg (fun z => Nat.testBit z b) e
            simp only [tb_o, y0] at this
            simp at this
          have ed : gl (sl h 135 ((y ||| 2 ^ b : Nat) : Int) (gl h 135 ((y ||| 2 ^ b : Nat) : Int) + wS bf m y)) 135 = fun S => if S = ((y ||| 2 ^ b : Nat) : Int) then gl h 135 S + wS bf m y else gl h 135 S := by
            funext S
            rw [gl_sl_p]
            by_cases e : S = ((y ||| 2 ^ b : Nat) : Int)
            · rw [if_pos ⟨rfl, e⟩, if_pos e, e]
            · rw [if_neg (fun z => e z.2), if_neg e]
          refine ⟨⟨by omega, by omega⟩, ⟨by omega, by omega⟩, ⟨by omega, by omega⟩, jh _ (by omega) _ (b + 1) rfl (by omega) hF (f.sl (Or.inl (by decide))) ?_ ?_⟩
          · rw [gl_sl_k (by omega)]; exact ew
          · rw [ed]
            exact DPI_take dp (by omega) (by omega) y0 hok
      exact key _ h 0 rfl (by omega) hF f ew dp
theorem m_ord_28 {h0 : AH} {Q : Option AV → AH → Prop} {bf : Nat → Nat → Prop} {m : Nat} (hm : m ≤ 16) (e50 : gi h0 99 50 = m) (ba : BA (gi h0 133) m bf)
    (cont : ∀ h', Fix h' → Fr [135] [(99, 49)] h0 h' → gi h' 99 49 = 1 → gl h' 135 ((2 ^ m - 1 : Nat) : Int) = wS bf m (2 ^ m - 1) → Q (some (vL (wS bf m (2 ^ m - 1)))) h') (k : Nat) :
    ∀ (h : AH) (y : Nat), 2 ^ m - y = k → y ≤ 2 ^ m → Fix h → Fr [135] [] h0 h → (∀ S : Nat, S < y → gl h 135 (S : Int) = if S = 0 then 1 else 0) → Ok 288 28 [some (vR (some 99)), some (vI ((2 ^ m - 1 : Nat) : Int)), some (vI (y : Int)), none] [] h Q := by
  obtain ⟨p1, p2⟩ := pw16 hm
  induction k using Nat.strongRecOn with
  | ind k ih =>
    intro h y hk hy hF f hI
    refine f_X12_orders_28 hF _ _ ⟨fun c => ?_, fun c => ?_⟩
    · refine m_ord_44 hm e50 ba cont _ h 0 rfl (by omega) hF f (DPI_init ?_ (fun S hS h2 => ?_))
      · have := hI 0 (by omega); simpa using this
      · rw [hI S (by omega), if_neg hS]
    · have nx : ∀ v : Int, v = (if y = 0 then 1 else 0) → Ok 288 28 [some (vR (some 99)), some (vI ((2 ^ m - 1 : Nat) : Int)), some (vI ((y : Int) + 1)), none] [] (sl h 135 (y : Int) v) Q := fun v hv => by
        refine ih _ (by omega) _ (y + 1) rfl (by omega) hF (f.sl (Or.inl (by decide))) (fun S hS => ?_)
        by_cases e : S = y
        · subst e; rw [gl_sl_e]; exact hv
        · rw [gl_sl_k (by omega)]; exact hI S (by omega)
      refine ⟨fun c2 => ⟨⟨by omega, by omega⟩, ⟨by omega, by omega⟩, nx 0 (by rw [if_neg (by omega)])⟩, fun c2 => ⟨⟨by omega, by omega⟩, ⟨by omega, by omega⟩, nx 1 (by rw [if_pos (by omega)])⟩⟩
/-- what the reference keeps of the count -/
def C49 (h : AH) (D : DD) : Prop := gi h 99 49 = 0 ∨ gi h 99 49 = 1 ∧ nBlk D ≤ 16 ∧ gl h 135 ((2 ^ nBlk D - 1 : Nat) : Int) = nOrd D
def oL : List Nat := [123, 132, 133, 135]
def oK : List (Nat × Int) := [(99, 0), (99, 49), (99, 50)]
theorem m_orders {h : AH} {Q : Option AV → AH → Prop} {D : DD} (hF : Fix h) (r : RM h D) (w : WF D) (c49 : C49 h D) (many : ∀ h', 16 < nBlk D → Fix h' → Fr oL oK h h' → C49 h' D → Q (some (vL (-2))) h')
    (cont : ∀ h', nBlk D ≤ 16 → Fix h' → Fr oL oK h h' → C49 h' D → Q (some (vL (nOrd D))) h') : Ok 288 0 [some (vR (some 99)), none, none, none] [] h Q := by
  have f0 : Fr [] [(99, 0)] h (si h 99 0 0) := Fr.refl.si (Or.inr (by decide))
  have F0 := hF.fr f0
  have r0 := r.fr f0 (by decide) (by decide)
  refine f_X12_orders_0 hF (m_listed F0 r0 w (fun h1 F1 f1 e50 nms => ⟨_, rfl, F1, ?_⟩))
  have f01 : Fr oL oK h h1 := (f0.mono (by decide) (by decide)).trans (f1.mono (by decide) (by decide))
  have g49 : gi h1 99 49 = gi h 99 49 := by rw [f1.1 99 49 (by decide) (by decide), gi_si_k (by decide)]
  have g135 : gl h1 135 = gl h 135 := by rw [f1.rowl (by decide) (by decide)]; rfl
  have c1 : C49 h1 D := by unfold C49; rw [g49, g135]; exact c49
  refine ⟨fun c => ?_, fun c => many h1 (by omega) F1 f01 c1⟩
  have hm : nBlk D ≤ 16 := by omega
  obtain ⟨p1, p2⟩ := pw16 hm
  have es : iShl 1 (gi h1 99 50) - 1 = ((2 ^ nBlk D - 1 : Nat) : Int) := by
    rw [e50, iShl_1 ⟨by omega, by omega⟩, show ((nBlk D : Int)).toNat = nBlk D by omega]
    omega
  rw [es]
  refine ⟨⟨by omega, by omega⟩, fun c2 => ?_, fun c2 => ⟨⟨by omega, by omega⟩, ?_⟩⟩
  · refine m_readBefore F1 (r0.fr f1 (by decide) (by decide)) w hm e50 nms (fun h3 F3 f3 ba => ⟨rfl, F3, ?_⟩)
    have e503 : gi h3 99 50 = nBlk D := by rw [f3.1 99 50 (by decide) (by decide)]; exact e50
    refine m_ord_28 hm e503 ba (fun h4 F4 f4 e4 g4 => ?_) _ h3 0 rfl (by omega) F3 Fr.refl (fun S hS => by omega)
    rw [wS_full] at g4 ⊢
    exact cont h4 hm F4 ((f01.trans (f3.mono (by decide) (by decide))).trans (f4.mono (by decide) (by decide))) (Or.inr ⟨e4, hm, g4⟩)
  · rcases c1 with z | ⟨z1, z2, z3⟩
    · exact absurd z c2
    · rw [z3]
      exact cont h1 hm F1 f01 (Or.inr ⟨z1, z2, z3⟩)
