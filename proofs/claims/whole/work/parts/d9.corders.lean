/-! the class's count of orders, kept -/
theorem CInv.cnt9 {h : AH} {n : Nat} {Ds : Nat → DD} {Z : DD} {c v : Int} (ci : CInv (si h 86 9 v) n Ds Z c) (e9 : gi h 86 9 = gi h 7 8) : CInv (sl h 86 10 (nOrd (Ds n))) n Ds Z c := by
  have ca := ci.ca
  have cz := ci.cz
  have kk : ∀ o, o ≠ 86 → Kp o (si h 86 9 v) (sl h 86 10 (nOrd (Ds n))) := fun o ho => ⟨(gi_si_r ho).symm, gl_sl_r ho, rfl, rfl, rfl⟩
  have k86 : ∀ i, i ≠ 9 → gi (sl h 86 10 (nOrd (Ds n))) 86 i = gi (si h 86 9 v) 86 i := fun i hi => by rw [gi_si_k hi]; rfl
  have e78 : gi (sl h 86 10 (nOrd (Ds n))) 7 8 = gi (si h 86 9 v) 7 8 := by rw [(kk 7 (by decide)).1]
  have ncr : ∀ o, o = 86 → ¬ Cr o := fun o ho => Cr_no (by omega) (by omega) (by omega)
  refine ci.core (fun o ho => kk o (fun e => ncr o e ho)) rfl rfl rfl e78 ?_ ⟨ca.1.w (kk 7 (by decide)).1 (kk 8 (by decide)).1, ca.2.1.kp3 (fun o p q => kk o (by omega)) e78, ?_, ?_⟩
  · unfold CZ at cz ⊢
    rw [e78, k86 8 (by decide), k86 7 (by decide), (kk 98 (by decide)).1, (kk 1 (by decide)).1, (kk 69 (by decide)).1, (kk 70 (by decide)).1, (kk 94 (by decide)).1, (kk 95 (by decide)).1, (kk 90 (by decide)).1]
    exact cz
  · have cy := ca.2.2.1
    unfold CaY YrOk QrOk at cy ⊢
    rw [(kk 2 (by decide)).1, (kk 73 (by decide)).1, (kk 74 (by decide)).1, (kk 75 (by decide)).1, (kk 76 (by decide)).1, (kk 77 (by decide)).1, (kk 78 (by decide)).1, (kk 79 (by decide)).1, (kk 80 (by decide)).1, (kk 81 (by decide)).1, (kk 82 (by decide)).1, (kk 83 (by decide)).1]
    exact cy
  · obtain ⟨c1, c2, c3, c4, c5⟩ := ca.2.2.2
    refine ⟨by rw [k86 7 (by decide), e78]; exact c1, by rw [k86 8 (by decide), e78]; exact c2, ?_, fun q => ?_, fun _ => gl_sl_e⟩
    · have e : gi (sl h 86 10 (nOrd (Ds n))) 86 9 = gi (sl h 86 10 (nOrd (Ds n))) 7 8 := e9
      rw [e]; exact Int.le_refl _
    · have := c4 (by rw [← k86 7 (by decide), ← e78]; exact q)
      unfold SeqOk at this ⊢
      rw [k86 6 (by decide), (kk 87 (by decide)).1, (kk 88 (by decide)).1, (kk 89 (by decide)).1]; exact this
theorem c_howMany {h : AH} {Q : Option AV → AH → Prop} {n : Nat} {Ds : Nat → DD} {Z : DD} {c : Int} (hF : Fix h) (ci : CInv h n Ds Z c) (w : WF (Ds n)) (hm : nBlk (Ds n) ≤ 16) (cont : ∀ h', Fix h' → Rf h h' → CInv h' n Ds Z (c + 1) → Q (some (vL (nOrd (Ds n)))) h') : Ok 38 0 [some (vR (some 86))] [] h Q := by
  refine f_X4_howMany_0 hF (c_seqI hF ci w hm (fun h1 F1 f1 c1 e7 sq => ⟨rfl, F1, fun q => ?_, fun q => ?_⟩))
  · rw [c1.ca.2.2.2.2.2.2.2 q]
    exact cont h1 F1 f1.rf (c1.mono (by omega))
  · have F2 : Fix (si h1 86 9 (gi h1 7 8)) := F1
    have es : si (si h1 86 9 (gi h1 7 8)) 86 9 (gi h1 86 9) = h1 := by
      have e : si (si h1 86 9 (gi h1 7 8)) 86 9 (gi h1 86 9) = si h1 86 9 (gi h1 86 9) := by
        obtain ⟨g1, g2⟩ := h1
        show ((fun a b => if a = 86 ∧ b = 9 then _ else (if a = 86 ∧ b = 9 then _ else g1 a b)), g2) = ((fun a b => if a = 86 ∧ b = 9 then _ else g1 a b), g2)
        congr 1
        funext a b
        split <;> rfl
      rw [e]; exact si_same
    have nb : (nn h1 : Int) ≤ 136 + 150 * c := by
      obtain ⟨G, Ss, T, E, L, w', d1, d2, d3, d4, d5, d6, d7, r1, r2, r3, _⟩ := c1
      exact r3
    refine f_X4_countParts_0 F2 ?_
    have go := c_cps_8 (h0 := si h1 86 9 (gi h1 7 8)) (c := c + 1) (v0 := gi h1 86 9) (Z := Z) (Q := fun v h_2 => ∃ x_3, v = some (vL x_3) ∧ Fix h_2 ∧ Q (some (vL x_3)) (sl h_2 86 10 x_3)) w hm (by show (nn h1 : Int) + 16 ≤ _; omega) (by rw [gi_si_k (by decide)]; exact sq.2.1) (by rw [gi_si_r (by decide)]; exact sq.ba w) (fun h' F' rf' ci' k86 k7 => ⟨_, rfl, F', cont _ F' ?_ (ci'.cnt9 ?_)⟩) _ (si h1 86 9 (gi h1 7 8)) 0 0 rfl (by omega) (Nat.two_pow_pos _) (fun i j _ => by simp) (fun i hi => by omega) F2 Rf.refl (by rw [es]; exact c1.mono (by omega)) (by omega) rfl rfl rfl
    · rw [wS_0, pcn_0] at go
      exact go
    · have r1 : Rf h1 (si h1 86 9 (gi h1 7 8)) := Rf.refl.si (Or.inl (by decide))
      have r2 := f1.rf.trans (r1.trans rf')
      exact fun o p q => ⟨(r2 o p q).1, by rw [gl_sl_r (by omega)]; exact (r2 o p q).2⟩
    · rw [k86, k7, gi_si_e, gi_si_o (by decide)]
theorem c_orders {h : AH} {Q : Option AV → AH → Prop} {n : Nat} {Ds : Nat → DD} {Z : DD} {c : Int} (hF : Fix h) (ci : CInv h n Ds Z c) (w : WF (Ds n)) (many : ∀ h', 16 < nBlk (Ds n) → Fix h' → Rf h h' → CInv h' n Ds Z (c + 1) → Q (some (vL (-2))) h')
    (cont : ∀ h', nBlk (Ds n) ≤ 16 → Fix h' → Rf h h' → CInv h' n Ds Z (c + 1) → Q (some (vL (nOrd (Ds n)))) h') : Ok 180 0 [some (vR (some 1))] [] h Q := by
  refine f_X11_orders_0 hF (c_blocksI hF ci w (fun h1 F1 f1 c1 => ⟨_, rfl, F1, fun q => ?_, fun q => many h1 (by omega) F1 f1.rf (c1.mono (by omega))⟩))
  exact c_howMany F1 c1 w (by omega) (fun h2 F2 f2 c2 => ⟨_, rfl, F2, cont h2 (by omega) F2 (f1.rf.trans f2) c2⟩)
