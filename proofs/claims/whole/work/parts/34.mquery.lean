def sm (f : Int → Int) : Nat → Int
  | 0 => 0
  | n + 1 => sm f n + f n
theorem sm_congr {f g : Int → Int} : ∀ {n : Nat}, (∀ x : Int, In n x → f x = g x) → sm f n = sm g n
  | 0, _ => rfl
  | n + 1, h => by
    unfold sm
    rw [sm_congr (n := n) (fun x hx => h x ⟨hx.1, by have := hx.2; push_cast; omega⟩), h n ⟨by omega, by push_cast; omega⟩]
theorem sm_uq {f : Int → Int} {k v : Int} : ∀ {n : Nat}, In n k → sm (uq f k v) n = sm f n + (v - f k)
  | 0, hk => by have := hk.1; have := hk.2; omega
  | n + 1, hk => by
    unfold sm
    by_cases hkn : k = (n : Int)
    · subst hkn
      rw [uq_e, sm_congr (g := f) (fun x hx => uq_o (by have := hx.2; omega))]
      omega
    · rw [sm_uq ⟨hk.1, by have := hk.2; push_cast at this; omega⟩, uq_o (fun e => hkn e.symm)]
      omega
theorem sm_le {f : Int → Int} {c : Int} : ∀ {n : Nat}, (∀ x : Int, In n x → f x ≤ c) → sm f n ≤ c * n
  | 0, _ => by simp [sm]
  | n + 1, h => by
    have h1 := sm_le (n := n) (fun x hx => h x ⟨hx.1, by have := hx.2; push_cast; omega⟩)
    have h2 := h n ⟨by omega, by push_cast; omega⟩
    have e : c * ((n + 1 : Nat) : Int) = c * n + c := by push_cast; rw [Int.mul_add]; omega
    unfold sm
    omega
/-- within a pass of row, at relation r -/
def LgI (n R : Int) (la ea : Int → Int) (rk : Int → Nat) (L : Int → Int) (r m : Int) : Prop :=
  (∀ u, In n u → 0 ≤ L u ∧ L u ≤ rk u ∧ (L u = 0 ∨ ∃ q, In R q ∧ la q = u ∧ L u ≤ L (ea q) + 1)) ∧ (m = 0 ∧ (∀ q, In R q → q < r → L (ea q) + 1 ≤ L (la q)) ∨ m = 1)
theorem LgI_set {n R : Int} {la ea : Int → Int} {rk : Int → Nat} (hk : Rk R la ea rk) {L : Int → Int} {r m : Int} (hr : In R r) (hla : In n (la r)) (hea : In n (ea r)) (h : LgI n R la ea rk L r m) (hc : ¬ L (ea r) + 1 ≤ L (la r)) : LgI n R la ea rk (uq L (la r) (L (ea r) + 1)) (r + 1) 1 := by
  refine ⟨fun u hu => ?_, Or.inr rfl⟩
  have hge : ∀ x, L x ≤ uq L (la r) (L (ea r) + 1) x := fun x => by
    by_cases hx : x = la r
    · rw [hx, uq_e]; omega
    · rw [uq_o hx]; omega
  obtain ⟨h1, h2, h3⟩ := h.1 u hu
  by_cases hul : u = la r
  · have he := h.1 _ hea
    have := hk r hr
    have := hge (ea r)
    rw [hul, uq_e]
    exact ⟨by omega, by omega, Or.inr ⟨r, hr, rfl, by omega⟩⟩
  · rw [uq_o hul]
    refine ⟨h1, h2, h3.imp id (fun ⟨q, q1, q2, q3⟩ => ⟨q, q1, q2, ?_⟩)⟩
    have := hge (ea q)
    omega
theorem m_row_30 {Q : Option AV → AH → Prop} {n R : Int} {la ea : Int → Int} {rk : Int → Nat} (hk : Rk R la ea rk) (hk2 : ∀ u, In n u → rk u < 100) {u : Int} (k : Nat) : ∀ (h : AH) (r m : Int), (R - r).toNat = k → Fix h → GV h n R la ea → 0 ≤ r → r ≤ R → LgI n R la ea rk (gi h 125) r m →
    (∀ h' m', Fr [125] [] h h' → LgI n R la ea rk (gi h' 125) R m' → sm (gi h 125) n.toNat ≤ sm (gi h' 125) n.toNat → (m = 0 → m' = 1 → sm (gi h 125) n.toNat < sm (gi h' 125) n.toNat) → Ok 215 24 [some (vR (some 99)), some (vI u), some (vI m'), none, none, none] [] h' Q) →
    Ok 215 30 [some (vR (some 99)), some (vI u), some (vI m), some (vI r), none, none] [] h Q := by
  induction k using Nat.strongRecOn with
  | ind k ih =>
    intro h r m hkk hF hG r0 rR hI cont
    have hG' := hG
    obtain ⟨e1, e2, n0, n1, R0, R1, hv⟩ := hG
    refine f_X12_row_30 hF _ _ _ ⟨fun c => ?_, fun c => ?_⟩
    · have e : r = R := by omega
      subst e
      exact cont h m Fr.refl hI (Int.le_refl _) (fun a b => by omega)
    · have hr : In R r := ⟨r0, by omega⟩
      obtain ⟨⟨a1, a2⟩, ⟨a3, a4⟩, a5, a6, ⟨a7, a8⟩, ⟨a9, a10⟩⟩ := hv r hr
      have l1 := (hI.1 _ ⟨a7, a8⟩).1
      have l2 := (hI.1 _ ⟨a9, a10⟩).1
      have l3 := (hI.1 _ ⟨a7, a8⟩).2.1
      have l4 := (hI.1 _ ⟨a9, a10⟩).2.1
      have k1 := hk2 _ ⟨a7, a8⟩
      have k2 := hk2 _ ⟨a9, a10⟩
      rw [a5, a6]
      refine ⟨⟨r0, by omega⟩, by omega, by omega, by omega, by omega, by omega, fun c1 => ⟨by omega, ?_⟩, fun c1 => ⟨by omega, ?_⟩⟩
      · refine ih _ (by omega) h (r + 1) m rfl hF hG' (by omega) (by omega) ⟨hI.1, hI.2.imp (fun q => ⟨q.1, fun s s1 s2 => ?_⟩) id⟩ cont
        by_cases hsr : s = r
        · rw [hsr]; exact c1
        · exact q.2 s s1 (by omega)
      · have hfr : Fr [125] [] h (si h 125 (la r) (gi h 125 (ea r) + 1)) := Fr.refl.si (Or.inl (by decide))
        have es : sm (gi (si h 125 (la r) (gi h 125 (ea r) + 1)) 125) n.toNat = sm (gi h 125) n.toNat + (gi h 125 (ea r) + 1 - gi h 125 (la r)) := by
          rw [gi_si_f]; exact sm_uq ⟨a7, by omega⟩
        refine ih _ (by omega) _ (r + 1) 1 rfl (hF.fr hfr) (hG'.fr hfr (by decide)) (by omega) (by omega) ?_ (fun h' m' f1 i1 s1 _ => cont h' m' (hfr.trans f1) i1 (by omega) (fun _ _ => by omega))
        rw [gi_si_f]
        exact LgI_set hk hr ⟨a7, a8⟩ ⟨a9, a10⟩ hI c1
theorem m_row_24 {Q : Option AV → AH → Prop} {n R : Int} {la ea : Int → Int} {rk : Int → Nat} (hk : Rk R la ea rk) (hk2 : ∀ u, In n u → rk u < 100) {u : Int} (k : Nat) : ∀ (h : AH) (m : Int), (2 * (100 * n - sm (gi h 125) n.toNat) + m).toNat = k → Fix h → GV h n R la ea →
    (m = 0 ∧ Long n R la ea (gi h 125) ∨ m = 1 ∧ LgI n R la ea rk (gi h 125) 0 0) → (0 ≤ u ∧ u < 100) → (0 ≤ gi h 102 u ∧ gi h 102 u < 100) →
    (∀ h', Fr [125] [] h h' → Long n R la ea (gi h' 125) → Q (some (vI (gi h' 125 (gi h 102 u)))) h') →
    Ok 215 24 [some (vR (some 99)), some (vI u), some (vI m), none, none, none] [] h Q := by
  induction k using Nat.strongRecOn with
  | ind k ih =>
    intro h m hkk hF hG hI hu hb cont
    refine f_X12_row_24 hF _ _ ⟨fun c => ⟨hu, hb, ?_⟩, fun c => ?_⟩
    · rcases hI with hI | hI
      · exact cont h Fr.refl hI.2
      · omega
    · rcases hI with hI | ⟨hm, hI⟩
      · exact absurd hI.1 c
      · have n0 := hG.2.2.1
        refine m_row_30 hk hk2 _ h 0 0 rfl hF hG (by omega) hG.2.2.2.2.1 hI (fun h' m' f1 i1 s1 s2 => ?_)
        have e102 : gi h' 102 = gi h 102 := f1.row (by decide) (by decide)
        have hbd : sm (gi h' 125) n.toNat ≤ 99 * n := by
          have := sm_le (f := gi h' 125) (c := 99) (n := n.toNat) (fun x hx => by
            have hx' : In n x := ⟨hx.1, by have := hx.2; omega⟩
            have := i1.1 x hx'
            have := hk2 x hx'
            omega)
          omega
        have hm' : m' = 0 ∨ m' = 1 := i1.2.imp And.left id
        refine ih _ (by omega) h' m' rfl (hF.fr f1) (hG.fr f1 (by decide)) ?_ hu (by rw [e102]; exact hb) (fun h2 f2 l2 => by rw [e102]; exact cont h2 (f1.trans f2) l2)
        rcases i1.2 with ⟨e, i2⟩ | e
        · refine Or.inl ⟨e, fun x hx => ?_⟩
          obtain ⟨p1, p2, p3⟩ := i1.1 x hx
          have hall : ∀ q, In R q → gi h' 125 (ea q) + 1 ≤ gi h' 125 (la q) := fun q hq => i2 q hq hq.2
          refine ⟨p1, fun q hq hl => by rw [← hl]; exact hall q hq, p3.imp id (fun ⟨q, q1, q2, q3⟩ => ⟨q, q1, q2, ?_⟩)⟩
          have := hall q q1
          rw [q2] at this
          omega
        · exact Or.inr ⟨e, ⟨i1.1, Or.inl ⟨rfl, fun q q1 q2 => by have := q1.1; omega⟩⟩⟩
theorem m_row_11 {Q : Option AV → AH → Prop} {n R : Int} {la ea : Int → Int} {rk : Int → Nat} (hk : Rk R la ea rk) (hk2 : ∀ u, In n u → rk u < 100) {u : Int} (hu : 0 ≤ u ∧ u < 100) (k : Nat) : ∀ (h : AH) (v : Int), (n - v).toNat = k → Fix h → GV h n R la ea → 0 ≤ v → v ≤ n →
    (∀ w, 0 ≤ w → w < v → gi h 125 w = 0) → (0 ≤ gi h 102 u ∧ gi h 102 u < 100) → (∀ h', Fr [125] [] h h' → Long n R la ea (gi h' 125) → Q (some (vI (gi h' 125 (gi h 102 u)))) h') →
    Ok 215 11 [some (vR (some 99)), some (vI u), some (vI v), none, none, none] [] h Q := by
  induction k using Nat.strongRecOn with
  | ind k ih =>
    intro h v hkk hF hG v0 vn hI hb cont
    have hG' := hG
    obtain ⟨e1, e2, n0, n1, R0, R1, hv⟩ := hG
    refine f_X12_row_11 hF _ _ ⟨fun c => ?_, fun c => ⟨by omega, by omega, ?_⟩⟩
    · refine m_row_24 hk hk2 _ h 1 rfl hF hG' (Or.inr ⟨rfl, fun x hx => ?_, Or.inl ⟨rfl, fun q q1 q2 => by have := q1.1; omega⟩⟩) hu hb cont
      have := hI x hx.1 (by have := hx.2; omega)
      exact ⟨by omega, by omega, Or.inl this⟩
    · have hfr : Fr [125] [] h (si h 125 v 0) := Fr.refl.si (Or.inl (by decide))
      have e102 : gi (si h 125 v 0) 102 = gi h 102 := hfr.row (by decide) (by decide)
      refine ih _ (by omega) _ (v + 1) rfl (hF.fr hfr) (hG'.fr hfr (by decide)) (by omega) (by omega) (fun w w0 w1 => ?_) (by rw [e102]; exact hb) (fun h2 f2 i2 => by rw [e102]; exact cont h2 (hfr.trans f2) i2)
      rw [gi_si_f]
      by_cases hvu : w = v
      · rw [hvu, uq_e]
      · rw [uq_o hvu]; exact hI w w0 (by omega)
/-- what row answers -/
def aRow (D : DD) (u x : Int) : Prop := ¬ In (D 99 1) u ∧ x = -1 ∨ In (D 99 1) u ∧ ∃ L, Long (D 99 1) (D 99 7) (dla D) (dea D) L ∧ x = L (D 102 u)
theorem WF.ea {D : DD} (w : WF D) : ∀ r, In (D 99 7) r → In (D 99 1) (dea D r) := fun r hr => by
  have h2 := (w.2.2.1.1 r hr).2.1
  have u2 := (w.2.1 _ h2).2.2.1
  exact ⟨u2.1, by have := h2.2; show D 102 (D 107 r) < _; omega⟩
theorem WF.la {D : DD} (w : WF D) : ∀ r, In (D 99 7) r → In (D 99 1) (dla D r) := fun r hr => by
  have h2 := (w.2.2.1.1 r hr).1
  have u2 := (w.2.1 _ h2).2.2.1
  exact ⟨u2.1, by have := h2.2; show D 102 (D 106 r) < _; omega⟩
theorem WF.blk {D : DD} (w : WF D) {u : Int} (hu : In (D 99 1) u) : In (D 99 1) (D 102 u) := by
  have u2 := (w.2.1 _ hu).2.2.1
  exact ⟨u2.1, by have := hu.2; omega⟩
theorem aRow_uniq {D : DD} (w : WF D) {u x y : Int} (hx : aRow D u x) (hy : aRow D u y) : x = y := by
  rcases hx with ⟨h1, h2⟩ | ⟨h1, L, h2, h3⟩ <;> rcases hy with ⟨g1, g2⟩ | ⟨g1, L', g2, g3⟩
  · omega
  · exact absurd g1 h1
  · exact absurd h1 g1
  · obtain ⟨rk, hk, _⟩ := w.rk
    rw [h3, g3]
    exact Long_uniq hk w.ea h2 g2 _ (w.blk h1)
theorem m_row {h : AH} {Q : Option AV → AH → Prop} {D : DD} {u : Int} (hF : Fix h) (r : RM h D) (w : WF D)
    (cont : ∀ h' x, Fr [125] [(99, 0)] h h' → aRow D u x → Q (some (vI x)) h') : Ok 215 0 [some (vR (some 99)), some (vI u), none, none, none, none] [] h Q := by
  have hfr : Fr [125] [(99, 0)] h (si h 99 0 0) := Fr.refl.si (Or.inr (by decide))
  have hG := r.gv w
  have e := r.n
  have c0 := w.1
  unfold Wc at c0
  obtain ⟨rk, hk, hk2⟩ := w.rk
  refine f_X12_row_0 hF _ ⟨by omega, fun c => cont _ _ hfr (Or.inl ⟨fun q => by have := q.1; omega, rfl⟩), fun c => ⟨fun c1 => cont _ _ hfr (Or.inl ⟨fun q => by have := q.2; omega, rfl⟩), fun c1 => ?_⟩⟩
  have hu : In (D 99 1) u := ⟨by omega, by omega⟩
  have hb := w.blk hu
  have e102 : gi (si h 99 0 0) 102 u = D 102 u := by rw [gi_si_o (by decide)]; exact r.u (by decide) hu
  have hb0 := hb.1
  have hb1 := hb.2
  refine m_row_11 hk hk2 (by omega) _ _ 0 rfl (hF.fr hfr) (hG.fr hfr (by decide)) (by omega) (by omega) (fun w w0 w1 => by omega) (by rw [e102]; omega) (fun h' f1 l1 => ?_)
  rw [e102]
  exact cont _ _ (hfr.trans (f1.mono (by decide) (by decide))) (Or.inr ⟨hu, _, l1, rfl⟩)
def aLater (D : DD) (a b x : Int) : Prop := ¬ (In (D 99 1) a ∧ In (D 99 1) b) ∧ x = -1 ∨ In (D 99 1) a ∧ In (D 99 1) b ∧ (x = 1 ∧ Rch (D 99 7) (dla D) (dea D) (D 102 a) (D 102 b) ∨ x = 0 ∧ ¬ Rch (D 99 7) (dla D) (dea D) (D 102 a) (D 102 b))
theorem aLater_uniq {D : DD} {a b x y : Int} (hx : aLater D a b x) (hy : aLater D a b y) : x = y := by
  rcases hx with ⟨h1, h2⟩ | ⟨h1, h2, h3⟩ <;> rcases hy with ⟨g1, g2⟩ | ⟨g1, g2, g3⟩
  · omega
  · exact absurd ⟨g1, g2⟩ h1
  · exact absurd ⟨h1, h2⟩ g1
  · rcases h3 with ⟨a1, a2⟩ | ⟨a1, a2⟩ <;> rcases g3 with ⟨b1, b2⟩ | ⟨b1, b2⟩
    · omega
    · exact absurd a2 b2
    · exact absurd b2 a2
    · omega
theorem m_later {h : AH} {Q : Option AV → AH → Prop} {D : DD} {a b : Int} (hF : Fix h) (r : RM h D) (w : WF D)
    (cont : ∀ h' x, Fr [123] [(99, 0)] h h' → aLater D a b x → Q (some (vI x)) h') : Ok 211 0 [some (vR (some 99)), some (vI a), some (vI b)] [] h Q := by
  have hfr : Fr [123] [(99, 0)] h (si h 99 0 0) := Fr.refl.si (Or.inr (by decide))
  have hG := r.gv w
  have e := r.n
  have c0 := w.1
  unfold Wc at c0
  obtain ⟨rk, hk, hk2⟩ := w.rk
  have bad : ¬ (In (D 99 1) a ∧ In (D 99 1) b) → Q (some (vI (-1))) (si h 99 0 0) := fun q => cont _ _ hfr (Or.inl ⟨q, rfl⟩)
  refine f_X12_later_0 hF _ _ ⟨by omega, fun c => bad (fun q => by have := q.1.1; omega), fun c => ⟨fun c1 => bad (fun q => by have := q.1.2; omega), fun c1 => ⟨fun c2 => bad (fun q => by have := q.2.1; omega), fun c2 => ⟨fun c3 => bad (fun q => by have := q.2.2; omega), fun c3 => ⟨by omega, by omega, ?_⟩⟩⟩⟩⟩
  have ha : In (D 99 1) a := ⟨by omega, by omega⟩
  have hb : In (D 99 1) b := ⟨by omega, by omega⟩
  rw [r.u (o := 102) (by decide) ha, r.u (o := 102) (by decide) hb]
  refine m_isLater hk hk2 (w.blk ha) (w.blk hb) (hF.fr hfr) (hG.fr hfr (by decide)) (fun h' x f1 hx => ⟨x, rfl, (hF.fr hfr).fr f1, fun c4 => ?_, fun c4 => ?_⟩)
  · exact cont _ _ (hfr.trans (f1.mono (by decide) (by decide))) (Or.inr ⟨ha, hb, Or.inr ⟨rfl, by rcases hx with q | q; omega; exact q.2⟩⟩)
  · exact cont _ _ (hfr.trans (f1.mono (by decide) (by decide))) (Or.inr ⟨ha, hb, Or.inl ⟨rfl, by rcases hx with q | q; exact q.2; omega⟩⟩)
theorem m_block {h : AH} {Q : Option AV → AH → Prop} {D : DD} {u : Int} (hF : Fix h) (r : RM h D) (w : WF D)
    (cont : ∀ x, (¬ In (D 99 1) u ∧ x = -1 ∨ In (D 99 1) u ∧ x = D 102 u) → Q (some (vI x)) (si h 99 0 0)) : Ok 212 0 [some (vR (some 99)), some (vI u)] [] h Q := by
  have e := r.n
  have c0 := w.1
  unfold Wc at c0
  refine f_X12_block_0 hF _ ⟨by omega, fun c => cont _ (Or.inl ⟨fun q => by have := q.1; omega, rfl⟩), fun c => ⟨fun c1 => cont _ (Or.inl ⟨fun q => by have := q.2; omega, rfl⟩), fun c1 => ⟨by omega, ?_⟩⟩⟩
  have hu : In (D 99 1) u := ⟨by omega, by omega⟩
  rw [r.u (o := 102) (by decide) hu]
  exact cont _ (Or.inr ⟨hu, rfl⟩)
/-- relation r is in the chart -/
noncomputable def dnd (D : DD) (r : Int) : Bool := @decide (¬ Needless (D 99 7) (dla D) (dea D) r) (Classical.propDecidable _)
theorem dnd_t {D : DD} {r : Int} : dnd D r = true ↔ ¬ Needless (D 99 7) (dla D) (dea D) r := by unfold dnd; simp
theorem dnd_f {D : DD} {r : Int} : dnd D r = false ↔ Needless (D 99 7) (dla D) (dea D) r := by unfold dnd; simp
def aChart (D : DD) (i x : Int) : Prop := In (D 99 7) x ∧ dnd D x = true ∧ (cnt (dnd D) x.toNat : Int) = i ∨ (i < 0 ∨ (cnt (dnd D) (D 99 7).toNat : Int) ≤ i) ∧ x = -5
theorem cnt_succ {p : Int → Bool} {x : Int} (hx : 0 ≤ x) : cnt p (x + 1).toNat = cnt p x.toNat + if p x then 1 else 0 := by
  have e : (x + 1).toNat = x.toNat + 1 := by omega
  have e2 : ((x.toNat : Nat) : Int) = x := by omega
  rw [e]
  show cnt p x.toNat + (if p ((x.toNat : Nat) : Int) then 1 else 0) = _
  rw [e2]
theorem cnt_inj {p : Int → Bool} {x y : Int} (hx : 0 ≤ x) (hy : 0 ≤ y) (px : p x = true) (py : p y = true) (h : cnt p x.toNat = cnt p y.toNat) : x = y := by
  rcases Int.lt_trichotomy x y with q | q | q
  · have h1 := cnt_succ (p := p) hx
    rw [px] at h1
    have h2 := cnt_mono (p := p) (n := (x + 1).toNat) (m := y.toNat) (by omega)
    simp at h1
    omega
  · exact q
  · have h1 := cnt_succ (p := p) hy
    rw [py] at h1
    have h2 := cnt_mono (p := p) (n := (y + 1).toNat) (m := x.toNat) (by omega)
    simp at h1
    omega
theorem aChart_uniq {D : DD} {i x y : Int} (hx : aChart D i x) (hy : aChart D i y) : x = y := by
  have key : ∀ z : Int, In (D 99 7) z → dnd D z = true → (cnt (dnd D) z.toNat : Int) = i → ¬ (i < 0 ∨ (cnt (dnd D) (D 99 7).toNat : Int) ≤ i) := by
    intro z h1 h2 h3 h4
    have h5 := cnt_succ (p := dnd D) h1.1
    rw [h2] at h5
    have h6 := cnt_mono (p := dnd D) (n := (z + 1).toNat) (m := (D 99 7).toNat) (by have := h1.2; omega)
    simp at h5
    omega
  rcases hx with ⟨a1, a2, a3⟩ | ⟨a1, a2⟩ <;> rcases hy with ⟨b1, b2, b3⟩ | ⟨b1, b2⟩
  · exact cnt_inj a1.1 b1.1 a2 b2 (by omega)
  · exact absurd b1 (key x a1 a2 a3)
  · exact absurd a1 (key y b1 b2 b3)
  · omega
theorem m_chart_7 {Q : Option AV → AH → Prop} {D : DD} (w : WF D) {i : Int} (k : Nat) : ∀ (h : AH) (m r : Int), (D 99 7 - r).toNat = k → Fix h → RM h D → 0 ≤ r → r ≤ D 99 7 → m = cnt (dnd D) r.toNat → (i < 0 ∨ m ≤ i) →
    (∀ h' x, Fr [123] [] h h' → aChart D i x → Q (some (vI x)) h') → Ok 213 7 [some (vR (some 99)), some (vI i), some (vI m), some (vI r)] [] h Q := by
  induction k using Nat.strongRecOn with
  | ind k ih =>
    intro h m r hkk hF hr r0 rR hm hi cont
    have e := hr.R
    have c0 := w.1
    unfold Wc at c0
    obtain ⟨rk, hk, hk2⟩ := w.rk
    have hcl := cnt_le (dnd D) r.toNat
    refine f_X12_chart_7 hF _ _ _ ⟨fun c => cont h _ Fr.refl (Or.inr ⟨?_, rfl⟩), fun c => ⟨fun c1 => cont h _ Fr.refl (Or.inr ⟨Or.inl c1, rfl⟩), fun c1 => ?_⟩⟩
    · have e2 : r = D 99 7 := by omega
      rw [← e2, ← hm]
      exact hi
    · have hq : In (D 99 7) r := ⟨r0, by omega⟩
      have hc := cnt_succ (p := dnd D) r0
      refine m_isNeedless hk hk2 hF (hr.gv w) hq (fun h' x f1 hx => ⟨x, rfl, hF.fr f1, fun c2 => ⟨by omega, ?_⟩, fun c2 => ⟨fun c3 => ⟨by omega, by omega, ?_⟩, fun c3 => ?_⟩⟩)
      · have hn : dnd D r = false := dnd_f.mpr (by rcases hx with q | q; exact q.2; exact absurd q.1 c2)
        rw [hn] at hc
        exact ih _ (by omega) h' m (r + 1) rfl (hF.fr f1) (hr.fr f1 (by decide) (by decide)) (by omega) (by omega) (by simp at hc; omega) hi (fun h2 x2 f2 p2 => cont h2 x2 (f1.trans f2) p2)
      · have hn : dnd D r = true := dnd_t.mpr (by rcases hx with q | q; omega; exact q.2)
        rw [hn] at hc
        exact ih _ (by omega) h' (m + 1) (r + 1) rfl (hF.fr f1) (hr.fr f1 (by decide) (by decide)) (by omega) (by omega) (by simp at hc; omega) (by omega) (fun h2 x2 f2 p2 => cont h2 x2 (f1.trans f2) p2)
      · have hn : dnd D r = true := dnd_t.mpr (by rcases hx with q | q; omega; exact q.2)
        exact cont h' r f1 (Or.inl ⟨hq, hn, by omega⟩)
theorem m_chart {h : AH} {Q : Option AV → AH → Prop} {D : DD} {i : Int} (hF : Fix h) (r : RM h D) (w : WF D) (cont : ∀ h' x, Fr [123] [(99, 0)] h h' → aChart D i x → Q (some (vI x)) h') : Ok 213 0 [some (vR (some 99)), some (vI i), none, none] [] h Q := by
  have hfr : Fr [123] [(99, 0)] h (si h 99 0 0) := Fr.refl.si (Or.inr (by decide))
  have c0 := w.1
  unfold Wc at c0
  exact f_X12_chart_0 hF _ (m_chart_7 w _ _ 0 0 rfl (hF.fr hfr) (r.fr hfr (by decide) (by decide)) (by omega) (by omega) rfl (by omega) (fun h' x f1 p1 => cont h' x (hfr.trans (f1.mono (by decide) (by decide))) p1))
theorem m_chartSize_4 {Q : Option AV → AH → Prop} {D : DD} (w : WF D) (k : Nat) : ∀ (h : AH) (m r : Int), (D 99 7 - r).toNat = k → Fix h → RM h D → 0 ≤ r → r ≤ D 99 7 → m = cnt (dnd D) r.toNat →
    (∀ h', Fr [123] [] h h' → Q (some (vI (cnt (dnd D) (D 99 7).toNat))) h') → Ok 214 4 [some (vR (some 99)), some (vI m), some (vI r)] [] h Q := by
  induction k using Nat.strongRecOn with
  | ind k ih =>
    intro h m r hkk hF hr r0 rR hm cont
    have e := hr.R
    have c0 := w.1
    unfold Wc at c0
    obtain ⟨rk, hk, hk2⟩ := w.rk
    have hcl := cnt_le (dnd D) r.toNat
    refine f_X12_chartSize_4 hF _ _ ⟨fun c => ?_, fun c => ?_⟩
    · have e2 : r = D 99 7 := by omega
      rw [hm, e2]
      exact cont h Fr.refl
    · have hq : In (D 99 7) r := ⟨r0, by omega⟩
      have hc := cnt_succ (p := dnd D) r0
      refine m_isNeedless hk hk2 hF (hr.gv w) hq (fun h' x f1 hx => ⟨x, rfl, hF.fr f1, fun c2 => ⟨by omega, by omega, ?_⟩, fun c2 => ⟨by omega, by omega, ?_⟩⟩)
      · have hn : dnd D r = true := dnd_t.mpr (by rcases hx with q | q; omega; exact q.2)
        rw [hn] at hc
        exact ih _ (by omega) h' (m + 1) (r + 1) rfl (hF.fr f1) (hr.fr f1 (by decide) (by decide)) (by omega) (by omega) (by simp at hc; omega) (fun h2 f2 => cont h2 (f1.trans f2))
      · have hn : dnd D r = false := dnd_f.mpr (by rcases hx with q | q; exact q.2; exact absurd q.1 c2)
        rw [hn] at hc
        exact ih _ (by omega) h' (m + 0) (r + 1) rfl (hF.fr f1) (hr.fr f1 (by decide) (by decide)) (by omega) (by omega) (by simp at hc; omega) (fun h2 f2 => cont h2 (f1.trans f2))
theorem m_chartSize {h : AH} {Q : Option AV → AH → Prop} {D : DD} (hF : Fix h) (r : RM h D) (w : WF D) (cont : ∀ h', Fr [123] [] h h' → Q (some (vI (cnt (dnd D) (D 99 7).toNat))) h') : Ok 214 0 [some (vR (some 99)), none, none] [] h Q := by
  have c0 := w.1
  unfold Wc at c0
  exact f_X12_chartSize_0 hF (m_chartSize_4 w _ _ 0 0 rfl hF r (by omega) (by omega) rfl cont)
def aRel (D : DD) (r a x : Int) : Prop := (¬ In (D 99 7) r ∨ a < 0 ∨ 3 < a) ∧ x = -1 ∨ In (D 99 7) r ∧ (a = 0 ∧ x = D 105 r ∨ a = 1 ∧ x = D 106 r ∨ a = 2 ∧ x = D 107 r ∨ a = 3 ∧ (x = 1 ∧ Needless (D 99 7) (dla D) (dea D) r ∨ x = 0 ∧ ¬ Needless (D 99 7) (dla D) (dea D) r))
theorem aRel_uniq {D : DD} {r a x y : Int} (hx : aRel D r a x) (hy : aRel D r a y) : x = y := by
  unfold aRel at hx hy
  by_cases hn : Needless (D 99 7) (dla D) (dea D) r <;> by_cases hr : In (D 99 7) r <;> simp [hn, hr] at hx hy <;> omega
theorem m_relation {h : AH} {Q : Option AV → AH → Prop} {D : DD} {r a : Int} (hF : Fix h) (hr : RM h D) (w : WF D) (cont : ∀ h' x, Fr [123] [(99, 0)] h h' → aRel D r a x → Q (some (vI x)) h') : Ok 216 0 [some (vR (some 99)), some (vI r), some (vI a)] [] h Q := by
  have hfr : Fr [123] [(99, 0)] h (si h 99 0 0) := Fr.refl.si (Or.inr (by decide))
  have hG := hr.gv w
  have e := hr.R
  have c0 := w.1
  unfold Wc at c0
  obtain ⟨rk, hk, hk2⟩ := w.rk
  have bad : (¬ In (D 99 7) r ∨ a < 0 ∨ 3 < a) → Q (some (vI (-1))) (si h 99 0 0) := fun q => cont _ _ hfr (Or.inl ⟨q, rfl⟩)
  refine f_X12_relation_0 hF _ _ ⟨by omega, fun c => bad (Or.inl (fun q => by have := q.1; omega)), fun c => ⟨fun c1 => bad (Or.inl (fun q => by have := q.2; omega)), fun c1 => ⟨fun c2 => bad (by omega), fun c2 => ⟨fun c3 => bad (by omega), fun c3 => ⟨fun c4 => ⟨fun c5 => ⟨fun c6 => ?_, fun c6 => ⟨by omega, ?_⟩⟩, fun c5 => ⟨by omega, ?_⟩⟩, fun c4 => ⟨by omega, ?_⟩⟩⟩⟩⟩⟩
  · have hq : In (D 99 7) r := ⟨by omega, by omega⟩
    refine m_isNeedless hk hk2 (hF.fr hfr) (hG.fr hfr (by decide)) hq (fun h' x f1 hx => ⟨x, rfl, (hF.fr hfr).fr f1, fun c4 => ?_, fun c4 => ?_⟩)
    · exact cont _ _ (hfr.trans (f1.mono (by decide) (by decide))) (Or.inr ⟨hq, Or.inr (Or.inr (Or.inr ⟨by omega, Or.inr ⟨rfl, by rcases hx with q | q; omega; exact q.2⟩⟩))⟩)
    · exact cont _ _ (hfr.trans (f1.mono (by decide) (by decide))) (Or.inr ⟨hq, Or.inr (Or.inr (Or.inr ⟨by omega, Or.inl ⟨rfl, by rcases hx with q | q; exact q.2; omega⟩⟩))⟩)
  · have hq : In (D 99 7) r := ⟨by omega, by omega⟩
    rw [hr.r (o := 107) (by decide) hq]
    exact cont _ _ hfr (Or.inr ⟨hq, by omega⟩)
  · have hq : In (D 99 7) r := ⟨by omega, by omega⟩
    rw [hr.r (o := 106) (by decide) hq]
    exact cont _ _ hfr (Or.inr ⟨hq, by omega⟩)
  · have hq : In (D 99 7) r := ⟨by omega, by omega⟩
    rw [hr.r (o := 105) (by decide) hq]
    exact cont _ _ hfr (Or.inr ⟨hq, by omega⟩)
