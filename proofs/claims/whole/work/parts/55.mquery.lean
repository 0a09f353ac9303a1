noncomputable def oTell (D : DD) (t s kd : Int) : Int := if ¬ (0 ≤ t ∧ t < D 99 11) then -1 else if heldF D t s kd ≠ 0 then -10 - heldF D t s kd else 1
theorem m_tells {h : AH} {Q : Option AV → AH → Prop} {D : DD} {t s kd b : Int} (hF : Fix h) (r : RM h D) (w : WF D) (hb : Fb h)
    (qn : oTell D t s kd ≠ 1 → ∀ h', Fix h' → Fr [120] [] h h' → Fnd h h' (oTell D t s kd) → Q (some (vI (oTell D t s kd))) h') (q1 : oTell D t s kd = 1 → Q (some (vI 1)) (si h 99 28 (if b = 0 then D 114 (40 * t + s) else D 115 (40 * t + s)))) :
    Ok 266 0 [some (vR (some 99)), some (vI t), some (vI s), some (vI kd), some (vI b), none] [] h Q := by
  have c0 := w.1
  unfold Wc at c0
  have e2 := r.T
  unfold oTell at qn q1
  refine f_X12_tells_0 hF _ _ _ _ ⟨by omega, fun c => ?_, fun c => ⟨fun c1 => ?_, fun c1 => ?_⟩⟩
  · rw [if_pos (by omega)] at qn; exact qn (by omega) h hF Fr.refl (Fnd_no rfl (by omega))
  · rw [if_pos (by omega)] at qn; exact qn (by omega) h hF Fr.refl (Fnd_no rfl (by omega))
  · rw [if_neg (by omega)] at qn q1
    have ht : In (D 99 11) t := ⟨by omega, by omega⟩
    have hr := heldF_rng D t s kd
    refine m_heldFault hF r w ht ⟨_, rfl, hF, fun c2 => ?_, fun c2 => ?_⟩ none none
    · rw [if_neg (by omega)] at q1
      obtain ⟨h1, h2, h3⟩ := heldF_0 c2
      obtain ⟨hk, hk2⟩ := slotF_k w ht h1
      have hk0 := hk.1
      have s0 := (slotF_0 h1).1
      have q2 := q1 rfl
      rw [r.s (o := 114) (by decide) hk, r.s (o := 115) (by decide) hk]
      refine ⟨fun c3 => ⟨by omega, by omega, ⟨hk0, hk2⟩, ?_⟩, fun c3 => ⟨by omega, by omega, ⟨hk0, hk2⟩, ?_⟩⟩
      · rw [if_pos c3] at q2; exact q2
      · rw [if_neg c3] at q2; exact q2
    · rw [if_pos c2] at qn
      exact m_found hF (by omega) hb (fun h' f1 f2 => ⟨_, rfl, hF.fr f1, qn (by omega) h' (hF.fr f1) f1 f2⟩)
/-- year and grain: the kind kd of what is told of -/
theorem m_tellC {h : AH} {Q : Option AV → AH → Prop} {D : DD} {t s b kd : Int} (hF : Fix h) (r : RM h D) (w : WF D) (hb : Fb h)
    (qn : oTell D t s kd ≠ 1 → Qf h Q (oTell D t s kd)) (q1 : oTell D t s kd = 1 → Q (some (vI 1)) (si (si h 99 0 0) 99 28 (if b = 0 then D 114 (40 * t + s) else D 115 (40 * t + s)))) :
    (kd = 1 → Ok 267 0 [some (vR (some 99)), some (vI t), some (vI s), some (vI b)] [] h Q) ∧ (kd = 2 → Ok 268 0 [some (vR (some 99)), some (vI t), some (vI s), some (vI b)] [] h Q) := by
  have r0 := r.si (o := 99) (k := 0) (v := 0) (Or.inr (Or.inr (by decide)))
  have f0 : Fr [] [(99, 0)] h (si h 99 0 0) := f0_fr (by decide)
  have key : Ok 266 0 [some (vR (some 99)), some (vI t), some (vI s), some (vI kd), some (vI b), none] [] (si h 99 0 0) (Qx Q) := by
    refine m_tells (h := si h 99 0 0) hF r0 w (Fb_fr hb f0) (fun hn h' hF' f1 g1 => ⟨_, rfl, hF', qn hn h' hF' ((f0.mono (by decide) (by decide)).trans (f1.mono (by decide) (by decide))) (Fnd_trans f0 g1)⟩) (fun h1 => ⟨_, rfl, hF, q1 h1⟩)
  exact ⟨fun e => f_X12_year_0 hF _ _ _ (by subst e; exact key), fun e => f_X12_grain_0 hF _ _ _ (by subst e; exact key)⟩
def jnP (D : DD) (a b j : Int) : Bool := decide (D 118 j = a ∧ D 119 j = b ∨ D 118 j = b ∧ D 119 j = a)
def aJoins (D : DD) (a b x : Int) : Prop := ¬ ((0 ≤ a ∧ a < D 99 1) ∧ 0 ≤ b ∧ b < D 99 1) ∧ x = -1 ∨ ((0 ≤ a ∧ a < D 99 1) ∧ 0 ≤ b ∧ b < D 99 1) ∧ x = (cnt (jnP D a b) (D 99 22).toNat : Nat)
theorem m_joins_17 {h : AH} {Q : Option AV → AH → Prop} {D : DD} {a b : Int} (hF : Fix h) (r : RM h D) (w : WF D) (cont : Q (some (vI ((cnt (jnP D a b) (D 99 22).toNat : Nat) : Int))) h) (m : Nat) : ∀ (j x : Int), (D 99 22 - j).toNat = m → 0 ≤ j → j ≤ D 99 22 → x = (cnt (jnP D a b) j.toNat : Nat) →
    Ok 271 17 [some (vR (some 99)), some (vI a), some (vI b), some (vI x), some (vI j)] [] h Q := by
  have c0 := w.1
  unfold Wc at c0
  induction m using Nat.strongRecOn with
  | ind m ih =>
    intro j x hm j0 j1 hx
    have hcl := cnt_le (jnP D a b) j.toNat
    refine f_X12_joins_17 hF _ _ _ _ ?_
    rw [r.J]
    refine ⟨fun c => ?_, fun c => ?_⟩
    · have e : j = D 99 22 := by omega
      rw [hx, e]; exact cont
    · have hj : In (D 99 22) j := ⟨j0, by omega⟩
      have hs := cnt_succ (p := jnP D a b) j0
      rw [r.j (o := 118) (by decide) hj, r.j (o := 119) (by decide) hj]
      have yes : (D 118 j = a ∧ D 119 j = b ∨ D 118 j = b ∧ D 119 j = a) → Ok 271 17 [some (vR (some 99)), some (vI a), some (vI b), some (vI (x + 1)), some (vI (j + 1))] [] h Q := fun q => ih _ (by omega) (j + 1) _ rfl (by omega) (by omega) (by
        have : jnP D a b j = true := by unfold jnP; simp [q]
        rw [hs, this, hx]; simp)
      have no : ¬ (D 118 j = a ∧ D 119 j = b ∨ D 118 j = b ∧ D 119 j = a) → Ok 271 17 [some (vR (some 99)), some (vI a), some (vI b), some (vI (x + 0)), some (vI (j + 1))] [] h Q := fun q => ih _ (by omega) (j + 1) _ rfl (by omega) (by omega) (by
        have : jnP D a b j = false := by unfold jnP; simp only [q, decide_false]
        rw [hs, this, hx]; simp)
      refine ⟨by omega, fun c1 => ⟨fun c2 => ⟨by omega, by omega, no (by omega)⟩, fun c2 => ⟨fun c3 => ⟨by omega, by omega, no (by omega)⟩, fun c3 => ⟨by omega, by omega, yes (by omega)⟩⟩⟩, fun c1 => ⟨fun c2 => ⟨by omega, by omega, yes (by omega)⟩, fun c2 => ⟨fun c3 => ⟨by omega, by omega, no (by omega)⟩, fun c3 => ⟨fun c4 => ⟨by omega, by omega, no (by omega)⟩, fun c4 => ⟨by omega, by omega, yes (by omega)⟩⟩⟩⟩⟩
theorem m_joins {h : AH} {Q : Option AV → AH → Prop} {D : DD} {a b : Int} (hF : Fix h) (r : RM h D) (w : WF D) (cont : ∀ x, aJoins D a b x → Q (some (vI x)) (si h 99 0 0)) : Ok 271 0 [some (vR (some 99)), some (vI a), some (vI b), none, none] [] h Q := by
  have c0 := w.1
  unfold Wc at c0
  have e1 := r.n
  have r0 := r.si (o := 99) (k := 0) (v := 0) (Or.inr (Or.inr (by decide)))
  have bad : ¬ ((0 ≤ a ∧ a < D 99 1) ∧ 0 ≤ b ∧ b < D 99 1) → Q (some (vI (-1))) (si h 99 0 0) := fun q => cont _ (Or.inl ⟨q, rfl⟩)
  refine f_X12_joins_0 hF _ _ ⟨by omega, fun c => bad (by omega), fun c => ⟨fun c1 => bad (by omega), fun c1 => ⟨fun c2 => bad (by omega), fun c2 => ⟨fun c3 => bad (by omega), fun c3 => ?_⟩⟩⟩⟩
  exact m_joins_17 (h := si h 99 0 0) hF r0 w (cont _ (Or.inr ⟨by omega, rfl⟩)) _ 0 0 rfl (by omega) (by omega) rfl
theorem m_asked {h : AH} {Q : Option AV → AH → Prop} (hF : Fix h) (cont : Q (some (vI (gi h 99 28))) (si h 99 0 0)) : Ok 202 0 [some (vR (some 99))] [] h Q := f_X12_asked_0 hF cont
theorem m_status {h : AH} {Q : Option AV → AH → Prop} (hF : Fix h) (cont : Q (some (vI (gi h 99 27))) (si h 99 0 0)) : Ok 243 0 [some (vR (some 99))] [] h Q := f_X12_status_0 hF cont
def oTrace (Z : DD) (i : Int) : Int := if 0 ≤ i ∧ i < Z 99 29 then Z 121 i else -5
def oRing (Z : DD) (i : Int) : Int := if 0 ≤ i ∧ i < Z 99 31 then Z 122 i else -5
theorem m_trace {h : AH} {Q : Option AV → AH → Prop} {Z : DD} {c i : Int} (hF : Fix h) (z : RZ h Z) (wz : WZ Z c) (cont : Q (some (vI (oTrace Z i))) (si h 99 0 0)) : Ok 203 0 [some (vR (some 99)), some (vI i)] [] h Q := by
  obtain ⟨z1, z2, z3, z4, z5, z6, z7, z8, z9, z10⟩ := z
  obtain ⟨w1, w2, w3, w4⟩ := wz
  unfold oTrace at cont
  refine f_X12_trace_0 hF _ ?_
  rw [z4]
  refine ⟨by omega, fun c => ?_, fun c => ⟨fun c1 => ?_, fun c1 => ⟨by omega, ?_⟩⟩⟩
  · rw [if_neg (by omega)] at cont; exact cont
  · rw [if_neg (by omega)] at cont; exact cont
  · rw [if_pos (by omega)] at cont
    rw [z5 i ⟨by omega, by omega⟩]; exact cont
theorem m_ring {h : AH} {Q : Option AV → AH → Prop} {Z : DD} {c i : Int} (hF : Fix h) (z : RZ h Z) (wz : WZ Z c) (cont : Q (some (vI (oRing Z i))) (si h 99 0 0)) : Ok 217 0 [some (vR (some 99)), some (vI i)] [] h Q := by
  obtain ⟨z1, z2, z3, z4, z5, z6, z7, z8, z9, z10⟩ := z
  obtain ⟨w1, w2, w3, w4⟩ := wz
  unfold oRing at cont
  refine f_X12_ring_0 hF _ ?_
  rw [z6]
  refine ⟨by omega, fun c => ?_, fun c => ⟨fun c1 => ?_, fun c1 => ⟨by omega, ?_⟩⟩⟩
  · rw [if_neg (by omega)] at cont; exact cont
  · rw [if_neg (by omega)] at cont; exact cont
  · rw [if_pos (by omega)] at cont
    rw [z7 i ⟨by omega, by omega⟩]; exact cont
/-! asks -/
theorem bods_len (a k : Int) : (bods a k).length ≤ 3 := by
  unfold bods
  split
  · split
    · decide
    · split
      · decide
      · split
        · decide
        · split <;> decide
  · split
    · split
      · decide
      · split
        · decide
        · split <;> decide
    · split
      · split
        · decide
        · split
          · decide
          · split <;> decide
      · split
        · split
          · decide
          · split <;> decide
        · split <;> decide
theorem m_asks {h : AH} {Q : Option AV → AH → Prop} {D : DD} {u a : Int} (hF : Fix h) (r : RM h D) (w : WF D) (hb : Fb h)
    (bad : ¬ ((0 ≤ u ∧ u < D 99 1) ∧ 0 ≤ a ∧ a ≤ 4) → Q (some (vI (-1))) (si h 99 0 0))
    (tell : ∀ h', (0 ≤ u ∧ u < D 99 1) ∧ 0 ≤ a ∧ a ≤ 4 → ¬ (a = 0 ∧ D 100 u = 4 ∧ D 101 u = 0) → Fix h' → Fr [121] [(99, 0), (99, 28), (99, 29)] h h' → TrI (si (si h 99 0 0) 99 29 0) h' (bods a (D 100 u)) → gi h' 99 28 = gives a (D 100 u) (D 101 u) → Q (some (vI 1)) h')
    (nought : ∀ h', (0 ≤ u ∧ u < D 99 1) ∧ 0 ≤ a ∧ a ≤ 4 → (a = 0 ∧ D 100 u = 4 ∧ D 101 u = 0) → Fix h' → Fr [120, 121] [(99, 0), (99, 29)] h h' → TrI (si (si h 99 0 0) 99 29 0) h' (bods a (D 100 u)) → Fnd h h' (-14) → Q (some (vI (-14))) h') :
    Ok 201 0 [some (vR (some 99)), some (vI u), some (vI a)] [] h Q := by
  have c0 := w.1
  unfold Wc at c0
  have e1 := r.n
  refine f_X12_asks_0 hF _ _ ⟨by omega, fun c => bad (by omega), fun c => ⟨fun c1 => bad (by omega), fun c1 => ⟨fun c2 => bad (by omega), fun c2 => ⟨fun c3 => bad (by omega), fun c3 => ?_⟩⟩⟩⟩
  have hu : In (D 99 1) u := ⟨by omega, by omega⟩
  obtain ⟨wk, wn, _⟩ := w.2.1 u hu
  have f0 : Fr [121] [(99, 0), (99, 28), (99, 29)] h (si (si h 99 0 0) 99 29 0) := (Fr.refl.si (Or.inr (by decide))).si (Or.inr (by decide))
  have k100 : gi (si (si h 99 0 0) 99 29 0) 100 u = D 100 u := by rw [gi_si_o (by decide), gi_si_o (by decide)]; exact r.u (by decide) hu
  have k101 : gi (si (si h 99 0 0) 99 29 0) 101 u = D 101 u := by rw [gi_si_o (by decide), gi_si_o (by decide)]; exact r.u (by decide) hu
  have hFx : Fix (si (si h 99 0 0) 99 29 0) := hF
  have key := fun (hn : ¬ (a = 0 ∧ D 100 u = 4 ∧ D 101 u = 0)) => m_ask (h := si (si h 99 0 0) 99 29 0) (Q := fun v h_1 => ∃ x_2, v = some (vI x_2) ∧ Fix h_1 ∧ Q (some (vI 1)) (si h_1 99 28 x_2)) a hFx (by omega) k100 k101 wk wn gi_si_e (by omega) (fun h' f1 t1 => ⟨_, rfl, hFx.fr f1, by
    have f2 := (f0.trans (f1.mono (by decide) (by decide))).si (o := 99) (k := 28) (v := gives a (D 100 u) (D 101 u)) (Or.inr (by decide))
    refine tell _ (by omega) hn (hF.fr f2) f2 ?_ gi_si_e
    obtain ⟨t1, t2, t3, t4⟩ := t1
    exact ⟨by rw [gi_si_k (by decide)]; exact t1, fun j hj => by rw [gi_si_o (by decide)]; exact t2 j hj, fun j hj => by rw [gi_si_o (by decide)]; exact t3 j hj, fun j hj => by rw [gi_si_o (by decide)]; exact t4 j hj⟩⟩)
  rw [r.u (o := 100) (by decide) hu, r.u (o := 101) (by decide) hu]
  refine ⟨fun c4 => ⟨fun c5 => ⟨fun c6 => ⟨fun c7 => (key (by omega)).2.2.2.2 (by omega), fun c7 => (key (by omega)).2.2.2.1 (by omega)⟩, fun c6 => (key (by omega)).2.2.1 (by omega)⟩, fun c5 => (key (by omega)).2.1 (by omega)⟩, fun c4 => ⟨by omega, fun c5 => (key (by omega)).1 (by omega), fun c5 => ⟨fun c6 => (key (by omega)).1 (by omega), fun c6 => ?_⟩⟩⟩
  have ha : a = 0 := by omega
  refine (m_ask (h := si (si h 99 0 0) 99 29 0) (Q := fun v h_13 => ∃ x_14, v = some (vI x_14) ∧ Fix h_13 ∧ Ok 191 0 [some (vR (some 99)), some (vI 4)] [] h_13 (fun v h_15 => ∃ x_16, v = some (vI x_16) ∧ Fix h_15 ∧ Q (some (vI x_16)) h_15)) 0 hFx (by omega) k100 k101 wk wn gi_si_e (by omega) (fun h1 f1 t1 => ⟨_, rfl, hFx.fr f1, ?_⟩)).1 rfl
  have f01 : Fr [120, 121] [(99, 0), (99, 29)] h h1 := (((Fr.refl.si (Or.inr (by decide))).si (Or.inr (by decide))) : Fr [120, 121] [(99, 0), (99, 29)] h (si (si h 99 0 0) 99 29 0)).trans (f1.mono (by decide) (by decide))
  have e120 : gi h1 120 = gi h 120 := by rw [f1.row (by decide) (by decide), gi_si_r (by decide), gi_si_r (by decide)]
  have e26 : gi h1 99 26 = gi h 99 26 := by rw [f1.1 99 26 (by decide) (by decide), gi_si_k (by decide), gi_si_k (by decide)]
  refine m_found (hFx.fr f1) (by omega) (fun k k1 k2 => by rw [e120]; exact hb k k1 k2) (fun h2 f2 g2 => ⟨_, rfl, (hFx.fr f1).fr f2, ?_⟩)
  refine nought h2 (by omega) ⟨ha, by omega, by omega⟩ ((hFx.fr f1).fr f2) (f01.trans (f2.mono (by decide) (by decide))) ?_ (fun k k1 k2 => ?_)
  · obtain ⟨t1, t2, t3, t4⟩ := t1
    have g121 : gi h2 121 = gi h1 121 := f2.row (by decide) (by decide)
    rw [ha]
    exact ⟨by rw [f2.1 99 29 (by decide) (by decide)]; exact t1, fun j hj => by rw [g121]; exact t2 j hj, fun j hj => by rw [g121]; exact t3 j hj, fun j hj => by rw [g121]; exact t4 j hj⟩
  · have := g2 k k1 k2
    rw [e120, e26] at this
    exact this
