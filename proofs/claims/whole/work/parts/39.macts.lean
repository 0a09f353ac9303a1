def nTr (D : DD) (u : Int) (T : Int) : Nat := cnt (fun t => decide (D 108 t = u)) T.toNat
def oTray (D : DD) (u n : Int) : Int := if D 99 11 = 60 ∨ gives 1 (D 100 u) (D 101 u) ≤ nTr D u (D 99 11) then -3 else if n < 0 then -15 else D 99 11
theorem gives1 {k n : Int} : 0 ≤ gives 1 k n ∧ gives 1 k n ≤ 6 := by
  show 0 ≤ (if k = 1 then (3 : Int) else if k = 3 then 1 else if k = 4 then 6 else 5) ∧ (if k = 1 then (3 : Int) else if k = 3 then 1 else if k = 4 then 6 else 5) ≤ 6
  split
  · omega
  · split
    · omega
    · split <;> omega
theorem DoP_new {h h1 : AH} {D : DD} {u n : Int} {dn : Prop} (r : RM h D) (w : WF D) (f : Fr [] [] h h1) (hd : dn) : DoP h (sg h1 (sNew (gi h1) u n)) D (D 99 11) (D 99 11) (sNew D u n) dn := by
  have c0 := w.1
  unfold Wc at c0
  exact DoP_done (sNew_rm (r.fr f (by decide) (by decide)) w) ((f.mono (by decide) (by decide)).trans sNew_fr) (by rw [gi_sg]; unfold sNew; exact up_e) (by omega) hd
theorem m_doTray_4 {h : AH} {Q : Option AV → AH → Prop} {D : DD} {u n : Int} (hF : Fix h) (r : RM h D) (w : WF D) (hb : Fb h) (hu : In (D 99 1) u)
    (cont : ∀ h', DoP h h' D (oTray D u n) (oTray D u n) (sNew D u n) (0 ≤ oTray D u n) → Q (some (vI (oTray D u n))) h') (k : Nat) : ∀ (m t : Int), (D 99 11 - t).toNat = k → 0 ≤ t → t ≤ D 99 11 → m = nTr D u t →
    Ok 223 4 [some (vR (some 99)), some (vI u), some (vI n), some (vI m), some (vI t)] [] h Q := by
  have c0 := w.1
  unfold Wc at c0
  have u0 := hu.1
  have u1 := hu.2
  induction k using Nat.strongRecOn with
  | ind k ih =>
    intro m t hk t0 tT hm
    have hcl : nTr D u t ≤ t.toNat := cnt_le (fun t => decide (D 108 t = u)) t.toNat
    refine f_X12_doTray_4 hF _ _ _ _ ?_
    rw [r.T]
    refine ⟨fun c => ⟨fun c1 => ?_, fun c1 => ?_⟩, fun c => ?_⟩
    · have eo : oTray D u n = -3 := if_pos (Or.inl c1)
      rw [eo] at cont
      exact cont h (DoP_same r Fr.refl (by omega) (by omega))
    · have et : t = D 99 11 := by omega
      obtain ⟨wk, wn, _⟩ := w.2.1 u hu
      have g1 := gives1 (k := D 100 u) (n := D 101 u)
      refine (m_quiet 1 (Or.inl rfl) hF (by omega) (r.u (o := 100) (by decide) hu) (r.u (o := 101) (by decide) hu) wk wn (fun h1 f1 => ⟨_, rfl, hF.fr f1, fun c2 => ⟨fun c3 => ?_, fun c3 => ?_⟩, fun c2 => ?_⟩)).1 rfl
      · have eo : oTray D u n = D 99 11 := by
          unfold oTray
          rw [if_neg (fun q => by rw [et] at hm; omega), if_neg (by omega)]
        rw [eo] at cont
        have e11 : gi h1 99 11 = D 99 11 := by rw [f1.1 99 11 (by decide) (by decide)]; exact r.T
        refine m_newTray (hF.fr f1) (by rw [e11]; omega) ⟨_, rfl, (hF.fr f1).sg, ?_⟩
        rw [e11]
        exact cont _ (DoP_new r w f1 (by omega))
      · have eo : oTray D u n = -15 := by
          unfold oTray
          rw [if_neg (fun q => by rw [et] at hm; omega), if_pos (by omega)]
        rw [eo] at cont
        have hb1 : Fb h1 := fun k k1 k2 => by rw [f1.1 120 k (by decide) (by simp)]; exact hb k k1 k2
        refine m_found (hF.fr f1) (by omega) hb1 (fun h' f2 g2 => ⟨_, rfl, (hF.fr f1).fr f2, ?_⟩)
        have f12 : Fr [120] [] h h' := (f1.mono (by decide) (by decide)).trans f2
        refine cont h' (DoP_found (f := 5) r (by omega) f12 (fun k k1 k2 => ?_) (by omega))
        have := g2 k k1 k2
        rw [f1.1 120 k (by decide) (by simp), f1.1 99 26 (by decide) (by decide)] at this
        exact this
      · have eo : oTray D u n = -3 := if_pos (Or.inr (by rw [et] at hm; omega))
        rw [eo] at cont
        exact cont h1 (DoP_same r (f1.mono (by decide) (by decide)) (by omega) (by omega))
    · have ht : In (D 99 11) t := ⟨t0, by omega⟩
      have hc := cnt_succ (p := fun t => decide (D 108 t = u)) t0
      rw [r.t (o := 108) (by decide) ht]
      refine ⟨by omega, fun c1 => ⟨by omega, by omega, ?_⟩, fun c1 => ⟨by omega, by omega, ?_⟩⟩
      · refine ih _ (by omega) _ _ rfl (by omega) (by omega) ?_
        rw [hm]
        unfold nTr
        rw [hc]
        simp [c1]
      · refine ih _ (by omega) _ _ rfl (by omega) (by omega) ?_
        rw [hm]
        unfold nTr
        rw [hc]
        have c2 : D 108 t = u := by omega
        simp [c2]
theorem m_doTray {h : AH} {Q : Option AV → AH → Prop} {D : DD} {u n : Int} (hF : Fix h) (r : RM h D) (w : WF D) (hb : Fb h) (hu : In (D 99 1) u)
    (cont : ∀ h', DoP h h' D (oTray D u n) (oTray D u n) (sNew D u n) (0 ≤ oTray D u n) → Q (some (vI (oTray D u n))) h') : Ok 223 0 [some (vR (some 99)), some (vI u), some (vI n), none, none] [] h Q :=
  f_X12_doTray_0 hF _ _ (m_doTray_4 hF r w hb hu cont _ 0 0 rfl (by omega) w.1.2.2.2.2.1 rfl)
/-! what a slot holds goes -/
def sLet (G : DD) (k : Int) : DD := if G 112 k = 4 then emp (up (up G 110 (G 114 k) (-5)) 111 (G 114 k) (-5)) k else emp G k
theorem m_letGo {h : AH} {Q : Option AV → AH → Prop} {k : Int} (hF : Fix h) (hk : 0 ≤ k ∧ k < 2400) (ho : gi h 112 k = 4 → 0 ≤ gi h 114 k ∧ gi h 114 k < 60) (cont : Q none (sg h (sLet (gi h) k))) : Ok 225 0 [some (vR (some 99)), some (vI k)] [] h Q := by
  unfold sLet at cont
  refine f_X12_letGo_0 hF _ ⟨hk, fun c => m_empty hF hk ⟨rfl, hF.sg, ?_⟩ none, fun c => ⟨ho (by omega), m_empty (h := si (si h 110 (gi h 114 k) (-5)) 111 (gi h 114 k) (-5)) hF hk ⟨rfl, hF.sg, ?_⟩ none⟩⟩
  · rw [if_neg c] at cont; exact cont
  · rw [if_pos (by omega)] at cont; exact cont
theorem emp_112 {G : DD} {k j : Int} : emp G k 112 j = if j = k then -5 else G 112 j := by
  unfold emp
  by_cases h : j = k
  · rw [if_pos ⟨rfl, h⟩, if_pos h]
  · rw [if_neg (fun q => h q.2), if_neg (fun q => h q.2), if_neg (by omega), if_neg h]
theorem emp_o {G : DD} {k : Int} {o : Nat} {j : Int} (ho : o < 112 ∨ 116 < o) : emp G k o j = G o j := by rw [emp_R]; exact empR_o ho
theorem emp_s {G : DD} {k : Int} {o : Nat} {j : Int} (ho : 112 ≤ o ∧ o ≤ 115) (hj : j ≠ k) : emp G k o j = G o j := by
  unfold emp
  rw [if_neg (fun q => hj q.2), if_neg (fun q => hj q.2), if_neg (by omega)]
theorem sLet_o {G : DD} {k : Int} {o : Nat} {j : Int} (ho : o < 110 ∨ 116 < o) : sLet G k o j = G o j := by
  unfold sLet
  split
  · rw [emp_o (by omega), up_o (by omega), up_o (by omega)]
  · rw [emp_o (by omega)]
theorem sLet_s {G : DD} {k : Int} {o : Nat} {j : Int} (ho : 112 ≤ o ∧ o ≤ 115) (hj : j ≠ k) : sLet G k o j = G o j := by
  unfold sLet
  split
  · rw [emp_s ho hj, up_o (by omega), up_o (by omega)]
  · rw [emp_s ho hj]
theorem sLet_112 {G : DD} {k : Int} : sLet G k 112 k = -5 := by
  unfold sLet
  split <;> rw [emp_112, if_pos rfl]
theorem sLet_rm {h : AH} {D : DD} {k : Int} (r : RM h D) (hk : In (40 * D 99 11) k) : RM (sg h (sLet (gi h) k)) (sLet D k) := by
  have e112 := r.s (o := 112) (by decide) hk
  have e114 := r.s (o := 114) (by decide) hk
  have hl : ∀ j, UsL (sLet D k) j → UsL D j := fun j q => UsL_same q (sLet_o (by omega)) (fun k' hk' q' => by
    by_cases hkk : k' = k
    · rw [hkk, sLet_112] at q'; omega
    · rw [sLet_s (by decide) hkk] at q' ⊢
      exact ⟨q', Int.le_refl _⟩)
  have hs : ∀ o j, UsN (sLet D k) o j → UsN D o j := fun o j q => by
    unfold UsN at q ⊢
    rw [sLet_o (by omega), sLet_o (by omega), sLet_o (by omega), sLet_o (by omega)] at q
    exact q
  by_cases hc : D 112 k = 4
  · have r1 := ((r.st.w1 110 (D 114 k) (-5)).w1 111 (D 114 k) (-5)).er k (k + 1)
    have e : sg h (sLet (gi h) k) = sg (si (si h 110 (D 114 k) (-5)) 111 (D 114 k) (-5)) (empR (gi (si (si h 110 (D 114 k) (-5)) 111 (D 114 k) (-5))) k (k + 1)) := by
      unfold sLet
      rw [e112, if_pos hc, e114, emp_R]
      rfl
    have e2 : sLet D k = empR (up (up D 110 (D 114 k) (-5)) 111 (D 114 k) (-5)) k (k + 1) := by
      unfold sLet
      rw [if_pos hc, emp_R]
    rw [e]
    rw [e2] at hl hs ⊢
    exact RMs.rm r1 (fun o j q => Or.inl (hs o j q)) (fun j q => Or.inl (hl j q))
  · have r1 := r.st.er k (k + 1)
    have e : sg h (sLet (gi h) k) = sg h (empR (gi h) k (k + 1)) := by
      unfold sLet
      rw [e112, if_neg hc, emp_R]
    have e2 : sLet D k = empR D k (k + 1) := by
      unfold sLet
      rw [if_neg hc, emp_R]
    rw [e]
    rw [e2] at hl hs ⊢
    exact RMs.rm r1 (fun o j q => Or.inl (hs o j q)) (fun j q => Or.inl (hl j q))
theorem sLet_fr {h : AH} {k : Int} : Fr eL eK h (sg h (sLet (gi h) k)) := by
  unfold sLet
  split
  · rw [emp_R]
    exact Fr_emp (h := h) (h' := si (si h 110 (gi h 114 k) (-5)) 111 (gi h 114 k) (-5)) ((Fr.refl.si (Or.inl (by decide))).si (Or.inl (by decide))) (by decide)
  · rw [emp_R]
    exact Fr_emp (h := h) (h' := h) Fr.refl (by decide)
def oTake (D : DD) (t s : Int) : Int := if heldF D t s (-5) ≠ 0 then -10 - heldF D t s (-5) else D 112 (40 * t + s)
theorem m_doTake {h : AH} {Q : Option AV → AH → Prop} {D : DD} {t s : Int} (hF : Fix h) (r : RM h D) (w : WF D) (hb : Fb h) (ht : In (D 99 11) t)
    (cont : ∀ h', DoP h h' D (oTake D t s) (oTake D t s) (sLet D (40 * t + s)) (0 ≤ oTake D t s) → Q (some (vI (oTake D t s))) h') : Ok 232 0 [some (vR (some 99)), some (vI t), some (vI s), none, none, none] [] h Q := by
  have c0 := w.1
  unfold Wc at c0
  have t0 := ht.1
  have t1 := ht.2
  have hr := heldF_rng D t s (-5)
  refine f_X12_doTake_0 hF _ _ (m_heldFault hF r w ht ⟨_, rfl, hF, fun c => ?_, fun c => ?_⟩ none none)
  · obtain ⟨h1, h2, h3⟩ := heldF_0 c
    obtain ⟨hk, hk2⟩ := slotF_k w ht h1
    have hs := slotF_0 h1
    have s0 := hs.1
    have ws := w.2.2.2.2.2.1 t s ht hs
    have eo : oTake D t s = D 112 (40 * t + s) := if_neg (by omega)
    have e112 := r.s (o := 112) (by decide) hk
    have e114 := r.s (o := 114) (by decide) hk
    have hx : 0 ≤ D 112 (40 * t + s) := by rcases ws.1 with q | q; exact absurd q h2; exact q.1
    rw [eo] at cont
    refine ⟨by omega, by omega, ⟨hk.1, hk2⟩, m_letGo hF ⟨hk.1, hk2⟩ (fun q => ?_) ⟨rfl, hF.sg, ?_⟩⟩
    · rw [e112] at q
      rw [e114]
      have := (ws.2.2.2.2.2.2.2 q).1
      have a := this.1
      have b := this.2
      omega
    · rw [e112]
      exact cont _ (DoP_done ((sLet_rm r hk).si (Or.inr (Or.inr (by decide)))) (sLet_fr.si (Or.inr (by decide))) gi_si_e (by omega) hx)
  · have eo : oTake D t s = -10 - heldF D t s (-5) := if_pos c
    rw [eo] at cont
    exact m_found hF (by omega) hb (fun h' f1 f2 => ⟨_, rfl, hF.fr f1, cont h' (DoP_found r (by omega) f1 f2 (by omega))⟩)
/-! lose -/
def sLets (D : DD) (t : Int) : Nat → DD
  | 0 => D
  | m + 1 => sLet (sLets D t m) (40 * t + m)
theorem sLets_o {D : DD} {t : Int} {o : Nat} {j : Int} (ho : o < 110 ∨ 116 < o) : ∀ m, sLets D t m o j = D o j
  | 0 => rfl
  | m + 1 => by
    show sLet (sLets D t m) _ o j = _
    rw [sLet_o ho]
    exact sLets_o ho m
theorem sLets_s {D : DD} {t : Int} {o : Nat} {j : Int} (ho : 112 ≤ o ∧ o ≤ 115) : ∀ m : Nat, (j < 40 * t ∨ 40 * t + m ≤ j) → sLets D t m o j = D o j
  | 0, _ => rfl
  | m + 1, h => by
    show sLet (sLets D t m) _ o j = _
    rw [sLet_s ho (by push_cast at h; omega)]
    exact sLets_s ho m (by push_cast at h; omega)
def sLose (D : DD) (t : Int) : DD := up (sLets D t (D 109 t).toNat) 109 t (-1)
def oLose (D : DD) (t : Int) : Int := if D 109 t < 0 then 0 else 1
theorem m_doLose_9 {Q : Option AV → AH → Prop} {h0 : AH} {D : DD} {t : Int} (w : WF D) (ht : In (D 99 11) t) (hp : 0 ≤ D 109 t) (k : Nat) : ∀ (h : AH) (s : Nat), (D 109 t - s).toNat = k → Fix h → RM h (sLets D t s) → (s : Int) ≤ D 109 t → Fr eL eK h0 h →
    (∀ h', RM h' (sLose D t) → Fr eL eK h0 h' → gi h' 99 37 = 1 → Q (some (vI 1)) h') → Ok 224 9 [some (vR (some 99)), some (vI t), some (vI s)] [] h Q := by
  have c0 := w.1
  unfold Wc at c0
  have t0 := ht.1
  have t1 := ht.2
  have h2 := (w.2.2.2.1 t ht).2.1
  induction k using Nat.strongRecOn with
  | ind k ih =>
    intro h s hk hF r hs f cont
    have eT : sLets D t s 99 11 = D 99 11 := sLets_o (by omega) s
    have e109 : gi h 109 t = D 109 t := by rw [r.t (o := 109) (by decide) (by rw [eT]; exact ht)]; exact sLets_o (by omega) s
    refine f_X12_doLose_9 hF _ _ ?_
    rw [e109]
    refine ⟨by omega, fun c => ?_, fun c => ⟨by omega, by omega, ?_⟩⟩
    · have es : (D 109 t).toNat = s := by omega
      refine cont _ ?_ ((f.si (Or.inl (by decide))).si (Or.inr (by decide))) gi_si_e
      have r2 := (r.st.w1 109 t (-1)).off (o := 99) (k := 37) (v := 1) (Or.inr (Or.inr (by decide))) (by simp)
      unfold sLose
      rw [es]
      refine RMs.rm r2 (fun o j q => Or.inl ?_) (fun j q => Or.inl (UsL_same q rfl (fun k' hk' q' => ⟨q', Int.le_refl _⟩)))
      exact q
    · have hks : In (40 * D 99 11) (40 * t + s) := ⟨by omega, by omega⟩
      have hks' : In (40 * sLets D t s 99 11) (40 * t + s) := by rw [eT]; exact hks
      have a1 : sLets D t s 112 (40 * t + s) = D 112 (40 * t + s) := sLets_s (by decide) s (by omega)
      have a2 : sLets D t s 114 (40 * t + s) = D 114 (40 * t + s) := sLets_s (by decide) s (by omega)
      have e112 := r.s (o := 112) (by decide) hks'
      have e114 := r.s (o := 114) (by decide) hks'
      refine m_letGo hF ⟨by omega, by omega⟩ (fun q => ?_) ⟨rfl, hF.sg, by omega, ?_⟩
      · rw [e112, a1] at q
        rw [e114, a2]
        have := ((w.2.2.2.2.2.1 t s ht ⟨by omega, by omega⟩).2.2.2.2.2.2.2 q).1
        have a := this.1
        have b := this.2
        omega
      · have e : ((s : Int) + 1) = ((s + 1 : Nat) : Int) := by push_cast; rfl
        rw [e]
        exact ih _ (by omega) _ (s + 1) rfl hF.sg (sLet_rm r hks') (by omega) (f.trans sLet_fr) cont
theorem m_doLose {h : AH} {Q : Option AV → AH → Prop} {D : DD} {t : Int} (hF : Fix h) (r : RM h D) (w : WF D) (ht : In (D 99 11) t)
    (cont : ∀ h', DoP h h' D (oLose D t) (oLose D t) (sLose D t) (oLose D t = 1) → Q (some (vI (oLose D t))) h') : Ok 224 0 [some (vR (some 99)), some (vI t), none] [] h Q := by
  have c0 := w.1
  unfold Wc at c0
  have t0 := ht.1
  have t1 := ht.2
  refine f_X12_doLose_0 hF _ ?_
  rw [r.t (o := 109) (by decide) ht]
  refine ⟨by omega, fun c => ?_, fun c => ?_⟩
  · have eo : oLose D t = 1 := if_neg (by omega)
    rw [eo] at cont
    exact m_doLose_9 w ht c _ h 0 rfl hF r (by omega) Fr.refl (fun h' r' f' e' => cont h' (DoP_done r' f' e' (by omega) rfl))
  · have eo : oLose D t = 0 := if_pos (by omega)
    rw [eo] at cont
    exact cont h (DoP_same r Fr.refl (by omega) (by omega))
/-! coins, samples, sherds, marks -/
def oPlace (D : DD) (t s : Int) : Int := if slotF D t s ≠ 0 then -10 - slotF D t s else if D 112 (40 * t + s) ≠ -5 then -2 else 1
def sPlace (D : DD) (t s kd a b : Int) : DD := up (up (up D 112 (40 * t + s) kd) 114 (40 * t + s) a) 115 (40 * t + s) b
theorem UsN_same {D D' : DD} {o : Nat} {j : Int} (q : UsN D' o j) (h : D' 99 1 = D 99 1 ∧ D' 99 7 = D 99 7 ∧ D' 99 11 = D 99 11 ∧ D' 99 22 = D 99 22) : UsN D o j := by
  unfold UsN at q ⊢
  rw [h.1, h.2.1, h.2.2.1, h.2.2.2] at q
  exact q
theorem m_place {h : AH} {Q : Option AV → AH → Prop} {D : DD} {t s kd a b : Int} (hF : Fix h) (r : RM h D) (w : WF D) (hb : Fb h) (ht : In (D 99 11) t) (hkd : kd ≠ 3)
    (cont : ∀ h', DoP h h' D (oPlace D t s) (oPlace D t s) (sPlace D t s kd a b) (0 ≤ oPlace D t s) → Q (some (vI (oPlace D t s))) h') : ∀ y1 y2, Ok 228 0 [some (vR (some 99)), some (vI t), some (vI s), some (vI kd), some (vI a), some (vI b), y1, y2] [] h Q := by
  intro y1 y2
  have c0 := w.1
  unfold Wc at c0
  have t0 := ht.1
  have t1 := ht.2
  have hr := slotF_rng D t s
  refine Ok.le (lle_s (lle_s (lle_s (lle_s (lle_s (lle_s (lle_n (lle_n lle_0)))))))) (f_X12_place_0 hF _ _ _ _ _ (m_slotFault hF r w ht ⟨_, rfl, hF, fun c => ?_, fun c => ?_⟩))
  · obtain ⟨hk, hk2⟩ := slotF_k w ht c
    have s0 := (slotF_0 c).1
    rw [r.s (o := 112) (by decide) hk]
    unfold oPlace at cont
    rw [if_neg (by omega)] at cont
    refine ⟨by omega, by omega, ⟨hk.1, hk2⟩, fun c1 => ?_, fun c1 => ?_⟩
    · rw [if_neg (by omega)] at cont
      have r2 := (((r.st.w1 112 (40 * t + s) kd).w1 114 (40 * t + s) a).w1 115 (40 * t + s) b).off (o := 99) (k := 37) (v := 1) (Or.inr (Or.inr (by decide))) (by simp)
      refine cont _ (DoP_done (RMs.rm r2 (fun o j q => Or.inl q) (fun j q => Or.inl (UsL_same q rfl (fun k' hk' q' => ?_)))) ((((Fr.refl.si (Or.inl (by decide))).si (Or.inl (by decide))).si (Or.inl (by decide))).si (Or.inr (by decide))) gi_si_e (by omega) (by omega))
      by_cases hkk : k' = 40 * t + s
      · rw [hkk] at q'
        have : kd = 3 := by
          have e : up (up (up D 112 (40 * t + s) kd) 114 (40 * t + s) a) 115 (40 * t + s) b 112 (40 * t + s) = kd := by rw [up_o (by decide), up_o (by decide), up_e]
          rw [← e]; exact q'
        exact absurd this hkd
      · unfold sPlace at q' ⊢
        rw [up_o (by decide), up_o (by decide), up_k hkk] at q'
        rw [up_o (by decide), up_k hkk, up_o (by decide)]
        exact ⟨q', Int.le_refl _⟩
    · rw [if_pos c1] at cont
      exact cont h (DoP_same r Fr.refl (by omega) (by omega))
  · unfold oPlace at cont
    rw [if_pos c] at cont
    exact m_found hF (by omega) hb (fun h' f1 f2 => ⟨_, rfl, hF.fr f1, cont h' (DoP_found r (by omega) f1 f2 (by omega))⟩)
