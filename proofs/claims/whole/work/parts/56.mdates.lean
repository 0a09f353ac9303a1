/-! bounds of years -/
theorem iAnd_aM (x : Int) : iAnd x 2147483647 = aM x := rfl
noncomputable def dnF (v : UInt32) : Int := @ite _ (smF v ∧ FP.fcmp (FP.i2f (Int32.ofInt (FP.f2i v).toInt)) v = some .gt) (Classical.propDecidable _) ((FP.f2i v).toInt - 1) (FP.f2i v).toInt
noncomputable def upF (v : UInt32) : Int := @ite _ (smF v ∧ FP.fcmp (FP.i2f (Int32.ofInt (FP.f2i v).toInt)) v = some .lt) (Classical.propDecidable _) ((FP.f2i v).toInt + 1) (FP.f2i v).toInt
theorem m_down {h : AH} {Q : Option AV → AH → Prop} {v : UInt32} (hF : Fix h) (hn : dcF v ≠ .nan) (cont : Q (some (vI (dnF v))) h) : Ok 275 0 [some (vF v), none] [] h Q := by
  refine f_X12_down_0 hF _ ?_
  rw [cvl, cvl]
  unfold dnF at cont
  refine ⟨fun c => ?_, fun c => ⟨fun c1 => ?_, fun c1 => ?_⟩⟩
  · rw [if_neg (fun q => c (sm_cmp q.1 k31n (by decide)))] at cont; exact cont
  · rw [if_neg (fun q => c1 q.2)] at cont; exact cont
  · have g1 : FP.fcmp (FP.i2f (Int32.ofInt (FP.f2i v).toInt)) v = some .gt := Classical.byContradiction c1
    have g2 : FP.fcmp v (UInt32.ofNat (3472883712 : Int).toNat) = some .gt := Classical.byContradiction c
    have hs : smF v := Classical.byContradiction (fun q => (big_v hn q).1 ⟨g1, g2⟩)
    have hr := sm_f2i hs
    rw [if_pos ⟨hs, g1⟩] at cont
    exact ⟨by omega, cont⟩
theorem m_up {h : AH} {Q : Option AV → AH → Prop} {v : UInt32} (hF : Fix h) (hn : dcF v ≠ .nan) (cont : Q (some (vI (upF v))) h) : Ok 276 0 [some (vF v), none] [] h Q := by
  refine f_X12_up_0 hF _ ?_
  rw [cvg, cvg]
  unfold upF at cont
  refine ⟨fun c => ?_, fun c => ⟨fun c1 => ?_, fun c1 => ?_⟩⟩
  · rw [if_neg (fun q => c (sm_cmp q.1 k31 (by decide)))] at cont; exact cont
  · rw [if_neg (fun q => c1 q.2)] at cont; exact cont
  · have g1 : FP.fcmp (FP.i2f (Int32.ofInt (FP.f2i v).toInt)) v = some .lt := Classical.byContradiction c1
    have g2 : FP.fcmp v (UInt32.ofNat (1325400064 : Int).toNat) = some .lt := Classical.byContradiction c
    have hs : smF v := Classical.byContradiction (fun q => (big_v hn q).2.2.1 ⟨g1, g2⟩)
    have hr := sm_f2i hs
    rw [if_pos ⟨hs, g1⟩] at cont
    exact ⟨by omega, cont⟩
/-- a bound v of unit u, from tray t, slot s; side 0 from below, 1 from above; rows 129 bound, 130 tray, 131 slot -/
def bdS (B : DD) (sd u v t s : Int) : DD := if sd = 0 ∧ B 129 u < v ∨ sd = 1 ∧ v < B 129 (100 + u) then up (up (up B 129 (100 * sd + u) v) 130 (100 * sd + u) t) 131 (100 * sd + u) s else B
/-- the heap's bounds are B's -/
def RB (h : AH) (n : Int) (B : DD) : Prop := ∀ o k, 129 ≤ o ∧ o ≤ 131 → (In n k ∨ In n (k - 100)) → gi h o k = B o k
theorem RB.si {h : AH} {n : Int} {B : DD} (r : RB h n B) (o : Nat) (k v : Int) : RB (si h o k v) n (up B o k v) := fun p i h1 h2 => by
  rw [gi_si_p]
  unfold up
  by_cases hc : p = o ∧ i = k
  · rw [if_pos hc, if_pos hc]
  · rw [if_neg hc, if_neg hc]; exact r p i h1 h2
theorem m_bind {h : AH} {Q : Option AV → AH → Prop} {n : Int} {B : DD} {sd u v t s : Int} (hF : Fix h) (r : RB h n B) (hn : n ≤ 100) (hu : In n u) (hs : sd = 0 ∨ sd = 1)
    (cont : ∀ h', Fix h' → Fr [129, 130, 131] [] h h' → RB h' n (bdS B sd u v t s) → Q none h') : ∀ y, Ok 277 0 [some (vR (some 99)), some (vI sd), some (vI u), some (vI v), some (vI t), some (vI s), y] [] h Q := by
  intro y
  have u0 := hu.1
  have u1 := hu.2
  have stay : ¬ (sd = 0 ∧ B 129 u < v ∨ sd = 1 ∧ v < B 129 (100 + u)) → Q none h := fun q => cont h hF Fr.refl (by unfold bdS; rw [if_neg q]; exact r)
  have go : (sd = 0 ∧ B 129 u < v ∨ sd = 1 ∧ v < B 129 (100 + u)) → Q none (si (si (si h 129 (100 * sd + u) v) 130 (100 * sd + u) t) 131 (100 * sd + u) s) := fun q => by
    have f : Fr [129, 130, 131] [] h (si (si (si h 129 (100 * sd + u) v) 130 (100 * sd + u) t) 131 (100 * sd + u) s) := ((Fr.refl.si (Or.inl (by decide))).si (Or.inl (by decide))).si (Or.inl (by decide))
    refine cont _ (hF.fr f) f ?_
    unfold bdS
    rw [if_pos q]
    exact ((r.si _ _ _).si _ _ _).si _ _ _
  refine Ok.le (lle_s (lle_s (lle_s (lle_s (lle_s (lle_s (lle_n lle_0))))))) (f_X12_bind_0 hF _ _ _ _ _ ?_)
  have ev : gi h 129 (100 * sd + u) = B 129 (100 * sd + u) := r 129 _ (by omega) (by
    rcases hs with e | e
    · exact Or.inl ⟨by omega, by omega⟩
    · exact Or.inr ⟨by omega, by omega⟩)
  rw [ev]
  refine ⟨by omega, by omega, fun c => ?_, fun c => ?_⟩
  · have e1 : sd = 1 := by omega
    subst e1
    have e2 : (100 : Int) * 1 + u = 100 + u := by omega
    refine ⟨by omega, fun c1 => stay (fun q => ?_), fun c1 => go (Or.inr ⟨rfl, ?_⟩)⟩
    · rw [e2] at c1
      rcases q with q | q
      · omega
      · omega
    · rw [e2] at c1; omega
  · have e1 : sd = 0 := by omega
    subst e1
    have e2 : (100 : Int) * 0 + u = u := by omega
    refine ⟨by omega, fun c1 => stay (fun q => ?_), fun c1 => go (Or.inl ⟨rfl, ?_⟩)⟩
    · rw [e2] at c1
      rcases q with q | q
      · omega
      · omega
    · rw [e2] at c1; omega
/-- w = spread + margin, the year, both as floats -/
def wF (D : DD) (u k : Int) : UInt32 := FP.fadd (uB (D 115 k)) (FP.i2f (Int32.ofInt (gives 2 (D 100 u) (D 101 u))))
/-- what slot k holds bounds unit u -/
def hasB (D : DD) (k : Int) : Prop := D 112 k = 1 ∨ D 112 k = 2 ∧ aM (D 114 k) < 2139095040 ∧ aM (D 115 k) < 2139095040 ∧ ¬ (D 115 k < 0 ∧ aM (D 115 k) ≠ 0)
noncomputable def loB (D : DD) (u k : Int) : Int := if D 112 k = 1 then D 114 k else dnF (FP.fsub (uB (D 114 k)) (wF D u k))
noncomputable def hiB (D : DD) (u k : Int) : Int := if D 112 k = 1 then D 115 k + 60 else upF (FP.fadd (uB (D 114 k)) (wF D u k))
def abB (D : DD) (u k : Int) : Prop := D 112 k = 1 → D 100 u = 4
noncomputable def bb0 (D B : DD) (t s u : Int) : DD := if D 113 (40 * t + s) = 1 then B else bdS B 0 u (loB D u (40 * t + s)) t s
noncomputable def bb1 (D B : DD) (t s u : Int) : DD := @ite _ (D 113 (40 * t + s) = 2 ∨ ¬ abB D u (40 * t + s)) (Classical.propDecidable _) B (bdS B 1 u (hiB D u (40 * t + s)) t s)
noncomputable def bbS (D B : DD) (t s u : Int) : DD := @ite _ (hasB D (40 * t + s)) (Classical.propDecidable _) (bb1 D (bb0 D B t s u) t s u) B
theorem m_bindBy_96 {h : AH} {Q : Option AV → AH → Prop} {D B : DD} {t s u y7 : Int} (hF : Fix h) (r : RM h D) (w : WF D) (rb : RB h (D 99 1) B) (ht : In (D 99 11) t) (hs : In (D 109 t) s) (hu : In (D 99 1) u) (hy : y7 = 1 ∧ abB D u (40 * t + s) ∨ y7 = 0 ∧ ¬ abB D u (40 * t + s))
    (cont : ∀ h', Fix h' → Fr [129, 130, 131] [] h h' → RB h' (D 99 1) (bb1 D (bb0 D B t s u) t s u) → Q none h') :
    Ok 279 96 [some (vR (some 99)), some (vI t), some (vI s), some (vI u), some (vI (40 * t + s)), some (vI (loB D u (40 * t + s))), some (vI (hiB D u (40 * t + s))), some (vI y7), none, none] [] h Q := by
  have c0 := w.1
  unfold Wc at c0
  have sf : slotF D t s = 0 := by unfold slotF; rw [if_neg (by have := hs.1; have := hs.2; omega), if_pos ⟨hs.1, hs.2⟩]
  obtain ⟨hk, hk2⟩ := slotF_k w ht sf
  have e113 : ∀ h', Fr [129, 130, 131] [] h h' → gi h' 113 (40 * t + s) = D 113 (40 * t + s) := fun h' f => by rw [f.1 113 _ (by decide) (by simp)]; exact r.s (by decide) hk
  refine f_X12_bindBy_96 hF _ _ _ _ _ _ _ ?_
  rw [e113 h Fr.refl]
  -- the bound from above
  have last : ∀ (h1 : AH) (B1 : DD), Fix h1 → Fr [129, 130, 131] [] h h1 → RB h1 (D 99 1) B1 → (∀ h', Fix h' → Fr [129, 130, 131] [] h h' → RB h' (D 99 1) (bb1 D B1 t s u) → Q none h') →
      (D 113 (40 * t + s) = 2 → Q none h1) ∧ (¬ D 113 (40 * t + s) = 2 → (y7 = 0 → Q none h1) ∧ (¬ y7 = 0 → Ok 277 0 [some (vR (some 99)), some (vI 1), some (vI u), some (vI (hiB D u (40 * t + s))), some (vI t), some (vI s), none] [] h1 (fun v h_1 => v = none ∧ Fix h_1 ∧ Q none h_1))) := fun h1 B1 hF1 f1 rb1 k => by
    refine ⟨fun c => k h1 hF1 f1 (by unfold bb1; rw [if_pos (Or.inl c)]; exact rb1), fun c => ⟨fun c1 => k h1 hF1 f1 ?_, fun c1 => ?_⟩⟩
    · unfold bb1
      rw [if_pos (Or.inr (by rcases hy with q | q; omega; exact q.2))]; exact rb1
    · refine m_bind hF1 rb1 c0.2.1 hu (Or.inr rfl) (fun h2 hF2 f2 rb2 => ⟨rfl, hF2, k h2 hF2 (f1.trans f2) ?_⟩) none
      unfold bb1
      rw [if_neg (fun q => q.elim c (fun q => by rcases hy with w | w; exact q w.2; exact c1 w.1))]
      exact rb2
  refine ⟨⟨hk.1, hk2⟩, fun c => ?_, fun c => ?_⟩
  · have e : bb0 D B t s u = B := by unfold bb0; rw [if_pos c]
    rw [e] at cont
    exact last h B hF Fr.refl rb cont
  · have e : bb0 D B t s u = bdS B 0 u (loB D u (40 * t + s)) t s := by unfold bb0; rw [if_neg c]
    rw [e] at cont
    refine m_bind hF rb c0.2.1 hu (Or.inl rfl) (fun h1 hF1 f1 rb1 => ⟨rfl, hF1, ?_⟩) none
    rw [e113 h1 f1]
    exact last h1 _ hF1 f1 rb1 cont
theorem m_bindBy {h : AH} {Q : Option AV → AH → Prop} {D B : DD} {t s u : Int} (hF : Fix h) (r : RM h D) (w : WF D) (rb : RB h (D 99 1) B) (ht : In (D 99 11) t) (hs : In (D 109 t) s) (hu : In (D 99 1) u)
    (cont : ∀ h', Fix h' → Fr [129, 130, 131] [] h h' → RB h' (D 99 1) (bbS D B t s u) → Q none h') :
    Ok 279 0 [some (vR (some 99)), some (vI t), some (vI s), some (vI u), none, none, none, none, none, none] [] h Q := by
  have c0 := w.1
  unfold Wc at c0
  have t0 := ht.1
  have t1 := ht.2
  have s0 := hs.1
  have u0 := hu.1
  have u1 := hu.2
  have sf : slotF D t s = 0 := by unfold slotF; rw [if_neg (by have := hs.2; omega), if_pos ⟨hs.1, hs.2⟩]
  obtain ⟨hk, hk2⟩ := slotF_k w ht sf
  have hk0 := hk.1
  have ws := w.2.2.2.2.2.1 t s ht hs
  obtain ⟨wk, wn, _⟩ := w.2.1 u hu
  have none_ : ¬ hasB D (40 * t + s) → Q none h := fun q => cont h hF Fr.refl (by unfold bbS; rw [if_neg q]; exact rb)
  have some_ : hasB D (40 * t + s) → ∀ h', Fix h' → Fr [129, 130, 131] [] h h' → RB h' (D 99 1) (bb1 D (bb0 D B t s u) t s u) → Q none h' := fun q h' a b c => cont h' a b (by unfold bbS; rw [if_pos q]; exact c)
  refine f_X12_bindBy_0 hF _ _ _ ?_
  rw [r.s (o := 112) (by decide) hk, r.s (o := 114) (by decide) hk, r.s (o := 115) (by decide) hk, r.u (o := 100) (by decide) hu, iAnd_aM, iAnd_aM]
  refine ⟨by omega, by omega, ⟨hk0, hk2⟩, fun c => ⟨fun c1 => none_ (fun q => q.elim c (fun q => c1 q.1)), fun c1 => ⟨fun c2 => none_ (fun q => q.elim c (fun q => by omega)), fun c2 => ⟨fun c3 => none_ (fun q => q.elim c (fun q => by omega)), fun c3 => ?_⟩⟩⟩, fun c => ?_⟩
  · have f1 : aM (D 114 (40 * t + s)) < 2139095040 := by omega
    have f2 : aM (D 115 (40 * t + s)) < 2139095040 := by omega
    have r2 := (ws.2.2.2.2.2.1 (by omega)).2
    have hb := below0 (x := D 115 (40 * t + s)) r2 f2
    have nw : dcF (wF D u (40 * t + s)) ≠ .nan := by
      unfold wF
      rw [dc_add]
      exact round_nn (sum_nn (fin_bits f2) (i2f_nn _))
    have ny := fin_bits f1
    have ns : dcF (FP.fsub (uB (D 114 (40 * t + s))) (wF D u (40 * t + s))) ≠ .nan := by
      rw [dc_sub]
      exact round_nn (sum_nn ny (neg_nn nw))
    have na : dcF (FP.fadd (uB (D 114 (40 * t + s))) (wF D u (40 * t + s))) ≠ .nan := by
      rw [dc_add]
      exact round_nn (sum_nn ny nw)
    refine ⟨sni_ok f2, fun c4 => none_ (fun q => q.elim c (fun q => q.2.2.2 (hb.mp c4))), fun c4 => ⟨sni_ok f1, ?_⟩⟩
    have hh : hasB D (40 * t + s) := Or.inr ⟨by omega, f1, f2, fun q => c4 (hb.mpr q)⟩
    refine (m_quiet 2 (Or.inr rfl) hF (by omega) (r.u (o := 100) (by decide) hu) (r.u (o := 101) (by decide) hu) wk wn (fun h1 g1 => ⟨_, rfl, hF.fr g1, ?_⟩)).2 rfl
    refine ⟨nn_bits nw, nn_bits ns, m_down (hF.fr g1) ns ⟨_, rfl, hF.fr g1, nn_bits na, m_up (hF.fr g1) na ⟨_, rfl, hF.fr g1, ?_⟩⟩⟩
    have el : loB D u (40 * t + s) = dnF (FP.fsub (uB (D 114 (40 * t + s))) (wF D u (40 * t + s))) := by unfold loB; rw [if_neg c]
    have eh : hiB D u (40 * t + s) = upF (FP.fadd (uB (D 114 (40 * t + s))) (wF D u (40 * t + s))) := by unfold hiB; rw [if_neg c]
    have key := m_bindBy_96 (B := B) (y7 := 1) (hF.fr g1) (r.fr g1 (by decide) (by decide)) w (fun o k a b => by rw [g1.1 o k (by simp) (by simp)]; exact rb o k a b) ht hs hu (Or.inl ⟨rfl, fun q => absurd q c⟩) (fun h' a b d => some_ hh h' a ((g1.mono (by decide) (by decide)).trans b) d)
    rw [el, eh] at key
    exact key
  · have e1 : D 112 (40 * t + s) = 1 := by omega
    have hh : hasB D (40 * t + s) := Or.inl e1
    have wc := ws.2.2.2.2.1 e1
    have el : loB D u (40 * t + s) = D 114 (40 * t + s) := by unfold loB; rw [if_pos e1]
    have eh : hiB D u (40 * t + s) = D 115 (40 * t + s) + 60 := by unfold hiB; rw [if_pos e1]
    refine ⟨by omega, by omega, fun c1 => ?_, fun c1 => ?_⟩
    · have key := m_bindBy_96 (B := B) (y7 := 0) hF r w rb ht hs hu (Or.inr ⟨rfl, fun q => c1 (q e1)⟩) (some_ hh)
      rw [el, eh] at key
      exact key
    · have key := m_bindBy_96 (B := B) (y7 := 1) hF r w rb ht hs hu (Or.inl ⟨rfl, fun _ => by omega⟩) (some_ hh)
      rw [el, eh] at key
      exact key
