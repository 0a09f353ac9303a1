/-! the digest -/
def dmx (h v : Int) : Int := w64 (w64 (31 * h) + v)
def dgA (f : Int → Int) (h : Int) : Nat → Int
  | 0 => h
  | i + 1 => dmx (dgA f h i) (f i)
def dgU (D : DD) : Nat → Int
  | 0 => 17
  | u + 1 => dmx (dmx (dmx (dmx (dmx (dgU D u) (D 100 u)) (D 101 u)) (D 102 u)) (D 103 u)) (D 104 u)
def dgR (D : DD) : Nat → Int
  | 0 => dgU D (D 99 1).toNat
  | r + 1 => dmx (dmx (dmx (dgR D r) (D 105 r)) (D 106 r)) (D 107 r)
def dgS (D : DD) (k h : Int) : Int := if D 112 k = -5 then dmx h (D 112 k) else if D 112 k = 0 then dgA (fun i => D 116 (8 * k + i)) (dmx (dmx h (D 112 k)) (D 113 k)) 8
  else if D 112 k = 3 then dgA (fun i => D 117 (40 * k + i)) (dmx (dmx (dmx h (D 112 k)) (D 113 k)) (D 114 k)) (D 114 k).toNat else if D 112 k = 4 then dmx (dmx (dmx h (D 112 k)) (D 113 k)) (D 114 k) else dmx (dmx (dmx (dmx h (D 112 k)) (D 113 k)) (D 114 k)) (D 115 k)
def dgL (D : DD) (t h : Int) : Nat → Int
  | 0 => dmx h (D 109 t)
  | s + 1 => dgS D (40 * t + s) (dgL D t h s)
def dgT (D : DD) : Nat → Int
  | 0 => dgR D (D 99 7).toNat
  | t + 1 => dgL D t (dgT D t) (D 109 t).toNat
def dgJ (D : DD) : Nat → Int
  | 0 => dgT D (D 99 11).toNat
  | j + 1 => dmx (dmx (dgJ D j) (D 118 j)) (D 119 j)
def dg (D : DD) : Int := dgJ D (D 99 22).toNat
def dK5 : List (Nat × Int) := [(99, 55)]
theorem m_dslot {h : AH} {Q : Option AV → AH → Prop} {D : DD} {t s : Int} (hF : Fix h) (r : RM h D) (w : WF D) (ht : In (D 99 11) t) (hs : In (D 109 t) s) (cont : ∀ h', Fix h' → Fr [] dK5 h h' → gl h' 99 55 = dgS D (40 * t + s) (gl h 99 55) → Q none h') : Ok 295 0 [some (vR (some 99)), some (vI (40 * t + s)), none] [] h Q := by
  have wc := w.c
  have ws := w.2.2.2.2.2.1 t s ht hs
  have sf : slotF D t s = 0 := slotF0.mpr hs
  obtain ⟨hk, hk2⟩ := slotF_k w ht sf
  have fx : ∀ v, Fr [] dK5 h (sl h 99 55 v) := fun v => Fr.refl.sl (Or.inr (by decide))
  refine f_X12_digestSlot_0 hF _ ?_
  rw [r.s (o := 112) (by decide) hk, r.s (o := 113) (by decide) hk, r.s (o := 114) (by decide) hk, r.s (o := 115) (by decide) hk]
  have fin : ∀ h', Fr [] dK5 h h' → gl h' 99 55 = dgS D (40 * t + s) (gl h 99 55) → Q none h' := fun h' f e => cont h' (hF.fr f) f e
  have k0 := hk.1
  have S3 : ∀ v, D 112 (40 * t + s) ≠ -5 → D 112 (40 * t + s) = 1 ∨ D 112 (40 * t + s) = 2 → v = dmx (dmx (dmx (dmx (gl h 99 55) (D 112 (40 * t + s))) (D 113 (40 * t + s))) (D 114 (40 * t + s))) (D 115 (40 * t + s)) → v = dgS D (40 * t + s) (gl h 99 55) := fun v c e ev => by
    rw [ev]; unfold dgS; rw [if_neg c, if_neg (by omega), if_neg (by omega), if_neg (by omega)]
  refine ⟨⟨k0, hk2⟩, fun c => ⟨fun e => ?_, fun e => ?_, fun e => ?_, fun e => ?_, fun e => ?_, fun e => ?_⟩, fun c => ?_⟩
  · have key : ∀ k (h1 : AH) (i : Nat), 8 - i = k → i ≤ 8 → Fr [] dK5 h h1 → gl h1 99 55 = dgA (fun i => D 116 (8 * (40 * t + s) + i)) (dmx (dmx (gl h 99 55) (D 112 (40 * t + s))) (D 113 (40 * t + s))) i → Ok 295 28 [some (vR (some 99)), some (vI (40 * t + s)), some (vI (i : Int))] [] h1 Q := by
      intro k
      induction k using Nat.strongRecOn with
      | ind k ih =>
        intro h1 i hk' hi f e1
        have F1 := hF.fr f
        have r1 := r.fr f (by decide) (by decide)
        have w1 : w32 (w32 (8 * (40 * t + s)) + (i : Int)) = 8 * (40 * t + s) + i := by rw [w32_of (z := 8 * (40 * t + s)) ⟨by omega, by omega⟩, w32_of ⟨by omega, by omega⟩]
        refine f_X12_digestSlot_28 F1 _ _ ⟨fun c2 => fin h1 f (by rw [e1, show i = 8 by omega]; unfold dgS; rw [if_neg c, if_pos e]), fun c2 => ?_⟩
        rw [w1, r1.q (k := 8 * (40 * t + s) + i) ⟨by omega, by have := hk.2; omega⟩]
        refine ⟨⟨by omega, by omega⟩, ⟨by omega, by omega⟩, ih _ (by omega) _ (i + 1) rfl (by omega) (f.sl (Or.inr (by decide))) ?_⟩
        rw [gl_sl_e, e1]; rfl
    exact key _ _ 0 rfl (by omega) ((fx _).sl (Or.inr (by decide))) gl_sl_e
  · exact fin _ ((((fx _).sl (Or.inr (by decide))).sl (Or.inr (by decide))).sl (Or.inr (by decide))) (S3 _ c (Or.inl e) gl_sl_e)
  · exact fin _ ((((fx _).sl (Or.inr (by decide))).sl (Or.inr (by decide))).sl (Or.inr (by decide))) (S3 _ c (Or.inr e) gl_sl_e)
  · obtain ⟨l0, l1⟩ := (ws.2.2.2.2.2.2.1 e).1
    have key : ∀ k (h1 : AH) (i : Nat), (D 114 (40 * t + s)).toNat - i = k → (i : Int) ≤ D 114 (40 * t + s) → Fr [] dK5 h h1 → gl h1 99 55 = dgA (fun i => D 117 (40 * (40 * t + s) + i)) (dmx (dmx (dmx (gl h 99 55) (D 112 (40 * t + s))) (D 113 (40 * t + s))) (D 114 (40 * t + s))) i → Ok 295 54 [some (vR (some 99)), some (vI (40 * t + s)), some (vI (i : Int))] [] h1 Q := by
      intro k
      induction k using Nat.strongRecOn with
      | ind k ih =>
        intro h1 i hk' hi f e1
        have F1 := hF.fr f
        have r1 := r.fr f (by decide) (by decide)
        have w1 : w32 (w32 (40 * (40 * t + s)) + (i : Int)) = 40 * (40 * t + s) + i := by rw [w32_of (z := 40 * (40 * t + s)) ⟨by omega, by omega⟩, w32_of ⟨by omega, by omega⟩]
        refine f_X12_digestSlot_54 F1 _ _ ⟨⟨k0, hk2⟩, ?_⟩
        rw [r1.s (o := 114) (by decide) hk]
        refine ⟨fun c2 => fin h1 f (by rw [e1, show i = (D 114 (40 * t + s)).toNat by omega]; unfold dgS; rw [if_neg c, if_neg (by omega), if_pos e]), fun c2 => ?_⟩
        rw [w1, r1.l (k := 40 * (40 * t + s) + i) ⟨40 * t + s, i, hk, e, ⟨by omega, by omega⟩, rfl⟩]
        refine ⟨⟨by omega, by omega⟩, ⟨by omega, by omega⟩, ih _ (by omega) _ (i + 1) rfl (by omega) (f.sl (Or.inr (by decide))) ?_⟩
        rw [gl_sl_e, e1]; rfl
    exact key _ _ 0 rfl (by omega) (((fx _).sl (Or.inr (by decide))).sl (Or.inr (by decide))) gl_sl_e
  · refine fin _ (((fx _).sl (Or.inr (by decide))).sl (Or.inr (by decide))) ?_
    rw [gl_sl_e]
    unfold dgS
    rw [if_neg c, if_neg (by omega), if_neg (by omega), if_pos e]; rfl
  · exfalso
    rcases ws.1 with z | z
    · exact c z
    · omega
  · refine fin _ (fx _) ?_
    rw [gl_sl_e]
    unfold dgS
    rw [if_pos (Decidable.not_not.mp c)]; rfl
theorem m_dg_112 {h0 : AH} {Q : Option AV → AH → Prop} {D : DD} (w : WF D) (r0 : RM h0 D) (hF0 : Fix h0) (cont : ∀ h', Fix h' → Fr [] dK5 h0 h' → Q (some (vL (dg D))) h') (k : Nat) : ∀ (h : AH) (j : Nat), (D 99 22).toNat - j = k → (j : Int) ≤ D 99 22 → Fr [] dK5 h0 h → gl h 99 55 = dgJ D j → Ok 296 112 [some (vR (some 99)), some (vI (j : Int)), none] [] h Q := by
  have wc := w.c
  induction k using Nat.strongRecOn with
  | ind k ih =>
    intro h j hk hj f e
    have hF := hF0.fr f
    have r := r0.fr f (by decide) (by decide)
    refine f_X12_digest_112 hF _ ?_
    rw [r.J, e]
    refine ⟨fun c => ?_, fun c => ⟨⟨by omega, by omega⟩, ⟨by omega, by omega⟩, ?_⟩⟩
    · have := cont h hF f
      unfold dg at this
      rw [show (D 99 22).toNat = j by omega] at this
      exact this
    · have hi : In (D 99 22) (j : Int) := ⟨by omega, by omega⟩
      rw [r.j (o := 118) (by decide) hi, r.j (o := 119) (by decide) hi]
      exact ih _ (by omega) _ (j + 1) rfl (by omega) ((f.sl (Or.inr (by decide))).sl (Or.inr (by decide))) gl_sl_e
theorem m_dg_80 {h0 : AH} {Q : Option AV → AH → Prop} {D : DD} (w : WF D) (r0 : RM h0 D) (hF0 : Fix h0) (cont : ∀ h', Fix h' → Fr [] dK5 h0 h' → Q (some (vL (dg D))) h') (k : Nat) : ∀ (h : AH) (t : Nat), (D 99 11).toNat - t = k → (t : Int) ≤ D 99 11 → Fr [] dK5 h0 h → gl h 99 55 = dgT D t → Ok 296 80 [some (vR (some 99)), some (vI (t : Int)), none] [] h Q := by
  have wc := w.c
  induction k using Nat.strongRecOn with
  | ind k ih =>
    intro h t hk ht f e
    have hF := hF0.fr f
    have r := r0.fr f (by decide) (by decide)
    refine f_X12_digest_80 hF _ ?_
    rw [r.T, e]
    refine ⟨fun c => ?_, fun c => ⟨⟨by omega, by omega⟩, ?_⟩⟩
    · refine m_dg_112 w r0 hF0 cont _ h 0 rfl (by omega) f ?_
      rw [e, show t = (D 99 11).toNat by omega]; rfl
    have hi : In (D 99 11) (t : Int) := ⟨by omega, by omega⟩
    have wt := (w.2.2.2.1 t hi).2.1
    rw [r.t (o := 109) (by decide) hi]
    have key : ∀ l (h1 : AH) (s : Nat), (D 109 t).toNat - s = l → s ≤ (D 109 t).toNat → Fr [] dK5 h0 h1 → gl h1 99 55 = dgL D t (dgT D t) s → Ok 296 93 [some (vR (some 99)), some (vI (t : Int)), some (vI (s : Int))] [] h1 Q := by
      intro l
      induction l using Nat.strongRecOn with
      | ind l lh =>
        intro h1 s hl hs f1 e1
        have F1 := hF0.fr f1
        have r1 := r0.fr f1 (by decide) (by decide)
        refine f_X12_digest_93 F1 _ _ ?_
        rw [r1.t (o := 109) (by decide) hi]
        refine ⟨⟨by omega, by omega⟩, fun c2 => ⟨⟨by omega, by omega⟩, ih _ (by omega) h1 (t + 1) rfl (by omega) f1 ?_⟩, fun c2 => ?_⟩
        · rw [e1, show s = (D 109 t).toNat by omega]; rfl
        have hs' : In (D 109 t) (s : Int) := ⟨by omega, by omega⟩
        have w1 : w32 (w32 (40 * (t : Int)) + (s : Int)) = 40 * (t : Int) + s := by rw [w32_of (z := 40 * (t : Int)) ⟨by omega, by omega⟩, w32_of ⟨by omega, by omega⟩]
        rw [w1]
        clear w1
        refine m_dslot F1 r1 w hi hs' (fun h2 F2 f2 e2 => ⟨rfl, F2, ⟨by omega, by omega⟩, lh _ (by omega) h2 (s + 1) rfl (by omega) (f1.trans f2) ?_⟩)
        rw [e2, e1]; rfl
    exact key _ _ 0 rfl (by omega) (f.sl (Or.inr (by decide))) gl_sl_e
theorem m_digest {h : AH} {Q : Option AV → AH → Prop} {D : DD} (hF : Fix h) (r : RM h D) (w : WF D) (cont : ∀ h', Fix h' → Fr [] [(99, 0), (99, 55)] h h' → Q (some (vL (dg D))) h') : Ok 296 0 [some (vR (some 99)), none, none] [] h Q := by
  have wc := w.c
  have f0 : Fr [] [(99, 0), (99, 55)] h (sl (si h 99 0 0) 99 55 17) := (Fr.refl.si (Or.inr (by decide))).sl (Or.inr (by decide))
  have F0 := hF.fr f0
  have r0 := r.fr f0 (by decide) (by decide)
  have cont' : ∀ h', Fix h' → Fr [] dK5 (sl (si h 99 0 0) 99 55 17) h' → Q (some (vL (dg D))) h' := fun h' F' f' => cont h' F' (f0.trans (f'.mono (by decide) (by decide)))
  refine f_X12_digest_0 hF ?_
  have rels : ∀ k (h1 : AH) (q : Nat), (D 99 7).toNat - q = k → (q : Int) ≤ D 99 7 → Fr [] dK5 (sl (si h 99 0 0) 99 55 17) h1 → gl h1 99 55 = dgR D q → Ok 296 51 [some (vR (some 99)), some (vI (q : Int)), none] [] h1 Q := by
    intro k
    induction k using Nat.strongRecOn with
    | ind k ih =>
      intro h1 q hk hq f e
      have F1 := F0.fr f
      have r1 := r0.fr f (by decide) (by decide)
      refine f_X12_digest_51 F1 _ ?_
      rw [r1.R, e]
      refine ⟨fun c => ?_, fun c => ⟨⟨by omega, by omega⟩, ⟨by omega, by omega⟩, ?_⟩⟩
      · refine m_dg_80 w r0 F0 cont' _ h1 0 rfl (by omega) f ?_
        rw [e, show q = (D 99 7).toNat by omega]; rfl
      · have hi : In (D 99 7) (q : Int) := ⟨by omega, by omega⟩
        rw [r1.r (o := 105) (by decide) hi, r1.r (o := 106) (by decide) hi, r1.r (o := 107) (by decide) hi]
        exact ih _ (by omega) _ (q + 1) rfl (by omega) (((f.sl (Or.inr (by decide))).sl (Or.inr (by decide))).sl (Or.inr (by decide))) gl_sl_e
  have units : ∀ k (h1 : AH) (u : Nat), (D 99 1).toNat - u = k → (u : Int) ≤ D 99 1 → Fr [] dK5 (sl (si h 99 0 0) 99 55 17) h1 → gl h1 99 55 = dgU D u → Ok 296 8 [some (vR (some 99)), some (vI (u : Int)), none] [] h1 Q := by
    intro k
    induction k using Nat.strongRecOn with
    | ind k ih =>
      intro h1 u hk hu f e
      have F1 := F0.fr f
      have r1 := r0.fr f (by decide) (by decide)
      refine f_X12_digest_8 F1 _ ?_
      rw [r1.n, e]
      refine ⟨fun c => ?_, fun c => ⟨⟨by omega, by omega⟩, ⟨by omega, by omega⟩, ?_⟩⟩
      · refine rels _ h1 0 rfl (by omega) f ?_
        rw [e, show u = (D 99 1).toNat by omega]; rfl
      · have hi : In (D 99 1) (u : Int) := ⟨by omega, by omega⟩
        rw [r1.u (o := 100) (by decide) hi, r1.u (o := 101) (by decide) hi, r1.u (o := 102) (by decide) hi, r1.u (o := 103) (by decide) hi, r1.u (o := 104) (by decide) hi]
        exact ih _ (by omega) _ (u + 1) rfl (by omega) (((((f.sl (Or.inr (by decide))).sl (Or.inr (by decide))).sl (Or.inr (by decide))).sl (Or.inr (by decide))).sl (Or.inr (by decide))) gl_sl_e
  exact units _ _ 0 rfl (by omega) Fr.refl gl_sl_e
