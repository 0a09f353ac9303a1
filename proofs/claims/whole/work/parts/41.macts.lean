/-! what lies in what -/
theorem Wb_small {D : DD} (w : WF D) : ∃ bk : Int → Nat, (∀ t, In (D 99 11) t → D 110 t ≠ -5 → bk (D 110 t) < bk t) ∧ ∀ t, In (D 99 11) t → bk t < 60 := by
  obtain ⟨bk, hb⟩ := w.2.2.2.2.1
  have c0 := w.1
  unfold Wc at c0
  have hn : (((D 99 11).toNat : Nat) : Int) = D 99 11 := by omega
  refine ⟨fun u => cnt (fun v => decide (bk v < bk u)) (D 99 11).toNat, fun t ht h5 => ?_, fun t ht => ?_⟩
  · have h1 := hb t ht h5
    have hp : In (D 99 11) (D 110 t) := by
      rcases (w.2.2.2.1 t ht).2.2 with q | q
      · exact absurd q h5
      · exact q.1
    have h2 := cnt_up (n := (D 99 11).toNat) (p := fun v => decide (bk v < bk (D 110 t))) (q := fun v => if v = D 110 t then true else decide (bk v < bk (D 110 t))) (by rw [hn]; exact hp) (by simp) (by simp) (fun y _ hy => by simp [hy])
    have h3 : cnt (fun v => if v = D 110 t then true else decide (bk v < bk (D 110 t))) (D 99 11).toNat ≤ cnt (fun v => decide (bk v < bk t)) (D 99 11).toNat := cnt_sub (fun x hx h => by
      by_cases hxe : x = D 110 t
      · subst hxe; simpa using h1
      · simp [hxe] at h
        simp
        omega)
    show cnt (fun v => decide (bk v < bk (D 110 t))) (D 99 11).toNat < cnt (fun v => decide (bk v < bk t)) (D 99 11).toNat
    omega
  · have : cnt (fun v => decide (bk v < bk t)) (D 99 11).toNat < (D 99 11).toNat := cnt_lt (x := t) (by rw [hn]; exact ht) (by simp)
    show cnt (fun v => decide (bk v < bk t)) (D 99 11).toNat < 60
    omega
def uoN (D : DD) : Nat → Int → Int
  | 0, t => D 108 t
  | k + 1, t => if D 110 t = -5 then D 108 t else uoN D k (D 110 t)
/-- the unit of a tray -/
def uo (D : DD) (t : Int) : Int := uoN D 60 t
def liN (D : DD) (b : Int) : Nat → Int → Bool
  | 0, t => decide (t = b)
  | k + 1, t => if t = b then true else if D 110 t = -5 then false else liN D b k (D 110 t)
/-- tray t is b, or lies in it -/
def li (D : DD) (b t : Int) : Bool := liN D b 60 t
theorem m_unitOf_2 {Q : Option AV → AH → Prop} {h : AH} {D : DD} {y : Int} (hF : Fix h) (r : RM h D) (w : WF D) {bk : Int → Nat} (hb : ∀ t, In (D 99 11) t → D 110 t ≠ -5 → bk (D 110 t) < bk t) (k : Nat) : ∀ t, In (D 99 11) t → bk t < k → Q (some (vI (uoN D k t))) h → Ok 238 2 [some (vR (some 99)), some (vI y), some (vI t)] [] h Q := by
  have c0 := w.1
  unfold Wc at c0
  induction k with
  | zero => intro t ht hk; omega
  | succ k ih =>
    intro t ht hk cont
    have t0 := ht.1
    have t1 := ht.2
    refine f_X12_unitOf_2 hF _ _ ?_
    rw [r.t (o := 110) (by decide) ht, r.t (o := 108) (by decide) ht]
    unfold uoN at cont
    refine ⟨by omega, fun c => ?_, fun c => ?_⟩
    · rw [if_pos c] at cont; exact cont
    · rw [if_neg c] at cont
      have := hb t ht c
      refine ih _ ?_ (by omega) cont
      rcases (w.2.2.2.1 t ht).2.2 with q | q
      · exact absurd q c
      · exact q.1
theorem m_unitOf {h : AH} {Q : Option AV → AH → Prop} {D : DD} {t : Int} (hF : Fix h) (r : RM h D) (w : WF D) (ht : In (D 99 11) t) (cont : Q (some (vI (uo D t))) h) : ∀ y, Ok 238 0 [some (vR (some 99)), some (vI t), y] [] h Q := by
  intro y
  obtain ⟨bk, hb, hb2⟩ := Wb_small w
  exact Ok.le (lle_s (lle_s (lle_n lle_0))) (f_X12_unitOf_0 hF _ (m_unitOf_2 hF r w hb 60 t ht (hb2 t ht) cont))
theorem m_liesIn_2 {Q : Option AV → AH → Prop} {h : AH} {D : DD} {y b : Int} (hF : Fix h) (r : RM h D) (w : WF D) (hb0 : 0 ≤ b) {bk : Int → Nat} (hb : ∀ t, In (D 99 11) t → D 110 t ≠ -5 → bk (D 110 t) < bk t) (k : Nat) : ∀ t, In (D 99 11) t → bk t < k → Q (some (vI (if liN D b k t then 1 else 0))) h → Ok 234 2 [some (vR (some 99)), some (vI y), some (vI b), some (vI t)] [] h Q := by
  have c0 := w.1
  unfold Wc at c0
  induction k with
  | zero => intro t ht hk; omega
  | succ k ih =>
    intro t ht hk cont
    have t0 := ht.1
    have t1 := ht.2
    unfold liN at cont
    refine f_X12_liesIn_2 hF _ _ _ ?_
    rw [r.t (o := 110) (by decide) ht]
    refine ⟨fun c => by omega, fun c => ⟨fun c1 => ?_, fun c1 => ⟨by omega, ?_⟩⟩⟩
    · rw [if_pos c1] at cont; exact cont
    · rw [if_neg c1] at cont
      by_cases c2 : D 110 t = -5
      · rw [if_pos c2] at cont
        rw [c2]
        refine f_X12_liesIn_2 hF _ _ _ ⟨fun _ => ⟨fun _ => cont, fun q => by omega⟩, fun q => absurd rfl q⟩
      · rw [if_neg c2] at cont
        have := hb t ht c2
        refine ih _ ?_ (by omega) cont
        rcases (w.2.2.2.1 t ht).2.2 with q | q
        · exact absurd q c2
        · exact q.1
theorem m_liesIn {h : AH} {Q : Option AV → AH → Prop} {D : DD} {t b : Int} (hF : Fix h) (r : RM h D) (w : WF D) (hb0 : 0 ≤ b) (ht : In (D 99 11) t) (cont : Q (some (vI (if li D b t then 1 else 0))) h) : ∀ y, Ok 234 0 [some (vR (some 99)), some (vI t), some (vI b), y] [] h Q := by
  intro y
  obtain ⟨bk, hb, hb2⟩ := Wb_small w
  exact Ok.le (lle_s (lle_s (lle_s (lle_n lle_0)))) (f_X12_liesIn_0 hF _ _ (m_liesIn_2 hF r w hb0 hb 60 t ht (hb2 t ht) cont))
/-! joins -/
def oJoin (D : DD) (t s to ot : Int) : Int := if heldF D t s 0 ≠ 0 then -10 - heldF D t s 0 else if heldF D to ot 0 ≠ 0 then -10 - heldF D to ot 0 else if D 99 22 = 80 then -3 else D 99 22 + 1
def sJoin (D : DD) (t to : Int) : DD := up (up (up D 118 (D 99 22) (uo D t)) 119 (D 99 22) (uo D to)) 99 22 (D 99 22 + 1)
theorem m_doJoin {h : AH} {Q : Option AV → AH → Prop} {D : DD} {t s to ot : Int} (hF : Fix h) (r : RM h D) (w : WF D) (hb : Fb h) (ht : In (D 99 11) t) (ht2 : In (D 99 11) to)
    (cont : ∀ h', DoP h h' D (oJoin D t s to ot) (oJoin D t s to ot) (sJoin D t to) (0 ≤ oJoin D t s to ot) → Q (some (vI (oJoin D t s to ot))) h') : ∀ y, Ok 239 0 [some (vR (some 99)), some (vI t), some (vI s), some (vI to), some (vI ot), y] [] h Q := by
  intro y
  have c0 := w.1
  unfold Wc at c0
  have hr := heldF_rng D t s 0
  have hr2 := heldF_rng D to ot 0
  refine Ok.le (lle_s (lle_s (lle_s (lle_s (lle_s (lle_n lle_0)))))) (f_X12_doJoin_0 hF _ _ _ _ (m_heldFault hF r w ht ⟨_, rfl, hF, fun c => ?_, fun c => m_heldFault hF r w ht2 ⟨_, rfl, hF, fun c1 => ?_, fun c1 => ?_⟩ none none⟩ none none))
  · unfold oJoin at cont
    rw [if_pos c] at cont
    exact m_found hF (by omega) hb (fun h' f1 f2 => ⟨_, rfl, hF.fr f1, cont h' (DoP_found r (by omega) f1 f2 (by omega))⟩)
  · unfold oJoin at cont
    rw [if_neg c, if_neg (by omega)] at cont
    rw [r.J]
    refine ⟨fun c2 => m_unitOf hF r w ht ⟨_, rfl, hF, by omega, ?_⟩ none, fun c2 => ?_⟩
    · rw [if_pos (by omega)] at cont
      exact cont h (DoP_same r Fr.refl (by omega) (by omega))
    · rw [if_neg c2] at cont
      have r1 : RM (si h 118 (D 99 22) (uo D t)) D := fun o j q => by
        rw [gi_si_p, if_neg]
        · exact r o j q
        · rintro ⟨rfl, rfl⟩
          rcases Us_iff.mp q with q | q
          · unfold UsN at q
            rcases q with q | q | q | q | q | q | q <;> omega
          · omega
      refine m_unitOf (h := si h 118 (D 99 22) (uo D t)) hF r1 w ht2 ⟨_, rfl, hF, by rw [r.J]; omega, ?_⟩ none
      rw [gi_si_o (by decide), r.J]
      refine ⟨by omega, ?_⟩
      have r2 := (((r.st.w1 118 (D 99 22) (uo D t)).w1 119 (D 99 22) (uo D to)).w1 99 22 (D 99 22 + 1)).off (o := 99) (k := 37) (v := 1) (Or.inr (Or.inr (by decide))) (by simp)
      refine cont _ (DoP_done (RMs.rm r2 (fun o j q => ?_) (fun j q => Or.inl (UsL_same q rfl (fun k' hk' q' => ⟨q', Int.le_refl _⟩)))) ((((Fr.refl.si (Or.inl (by decide))).si (Or.inl (by decide))).si (Or.inr (by decide))).si (Or.inr (by decide))) gi_si_e (by omega) (by omega))
      have q2 := UsN_new (D := D) q
      have e1 : sJoin D t to 99 1 = D 99 1 := up_k (by decide)
      have e7 : sJoin D t to 99 7 = D 99 7 := up_k (by decide)
      have e11 : sJoin D t to 99 11 = D 99 11 := up_k (by decide)
      have e22 : sJoin D t to 99 22 = D 99 22 + 1 := up_e
      rw [e1, e7, e11, e22] at q2
      rcases q2 with q2 | q2 | q2 | q2 | q2 | q2 | ⟨q3, q4, q5, q6⟩
      · exact Or.inl q2
      · omega
      · omega
      · omega
      · omega
      · omega
      · have ej : j = D 99 22 := by omega
        have eo : o = 118 ∨ o = 119 := by omega
        right
        rcases eo with rfl | rfl <;> simp [ej]
  · unfold oJoin at cont
    rw [if_neg c, if_pos c1] at cont
    exact m_found hF (by omega) hb (fun h' f1 f2 => ⟨_, rfl, hF.fr f1, cont h' (DoP_found r (by omega) f1 f2 (by omega))⟩)
