/-! a find comes into a slot -/
def tNew (T : FD) (m : Int) (t : Int → Int) : FD := fun i => if i = m then t else T i
theorem tNew_e {T : FD} {m : Int} {t : Int → Int} : tNew T m t m = t := if_pos rfl
theorem tNew_o {T : FD} {m i : Int} {t : Int → Int} (h : i ≠ m) : tNew T m t i = T i := if_neg h
theorem CMid.new {h0 h h1 : AH} {G : Nat → Prop} {n : Nat} {Ds : Nat → DD} {c : Int} {S : DD} {T : FD} {k e : Int} {o : Nat} {t : Int → Int} (m : CMid h0 G n Ds c S T k e 0 h) (kp : ∀ q, q < nn h → Kp q h h1) (n0 : 136 ≤ nn h) (n1 : nn h ≤ nn h1 ∧ nn h1 ≤ nn h + 2) (u1 : (us h1 : Int) ≤ us h + 60) (fo : FO h1 (fun x => G x ∨ nn h ≤ x ∧ x < nn h1) o t) :
    CMid h0 (fun x => G x ∨ nn h ≤ x ∧ x < nn h1) n Ds c S (tNew T (S 68 0) t) (k + 2) e 0 (sr h1 48 (S 68 0) (some o)) ∧ FO (sr h1 48 (S 68 0) (some o)) (fun x => G x ∨ nn h ≤ x ∧ x < nn h1) o t := by
  obtain ⟨Ss, E, L, w, cc, m1, m2, m3, m4, m5, m6, m7, m8, m9, m10, m11, m12, m13, m14⟩ := m
  have hG := m1.1
  have k2 : ∀ q, q < nn h → q ≠ 48 → Kp q h (sr h1 48 (S 68 0) (some o)) := fun q hq h48 => (kp q hq).sr h48
  have g1 : ∀ q, (G q ∨ nn h ≤ q ∧ q < nn h1) → 136 ≤ q ∧ q < nn h1 := fun q hq => by
    rcases hq with hq | hq
    · have := hG q hq; omega
    · omega
  have fo2 : FO (sr h1 48 (S 68 0) (some o)) (fun x => G x ∨ nn h ≤ x ∧ x < nn h1) o t := fo.kp (fun q hq => Kp.refl.sr (by have := (g1 q hq).1; omega))
  refine ⟨⟨Ss, E, L, w + 60, cc, ?_, m2, by omega, m4.L (fun j => congrFun (k2 3 (by omega) (by decide)).1 j) (fun _ _ => rfl), fun j hj => (m5 j hj).T (fun i i0 i1 => ?_), fun id hid => ?_, m7, fun q hq => (m8 q hq).trans (k2 q (Nat.lt_of_lt_of_le hq.1 n0) hq.2.2.2.2.2.2.2), fun i hi => by rw [congrFun (k2 2 (by omega) (by decide)).1 i]; exact m9 i hi, fun i hi => by rw [congrFun (k2 7 (by omega) (by decide)).1 i]; exact m10 i hi, by rw [congrFun (k2 7 (by omega) (by decide)).1 8]; exact m11, m12, ?_, ?_⟩, fo2⟩
  · obtain ⟨_, hS, h5, c0, a, b, d, K, g2, g3, g4, la, lb, ld, hbd, sa, sb, sd, ck, K1, K2, hu, hL⟩ := m1
    have kk2 := k2 2 (by omega) (by decide)
    have n48 : ∀ x, LA h G x → x ≠ 48 := fun x l => by have := l.1; omega
    have ka := k2 a la.2.1 (n48 a la)
    have kb := k2 b lb.2.1 (n48 b lb)
    have kd := k2 d ld.2.1 (n48 d ld)
    have lg : ∀ x, LA h G x → LA (sr h1 48 (S 68 0) (some o)) (fun x => G x ∨ nn h ≤ x ∧ x < nn h1) x := fun x l => ⟨l.1, Nat.lt_of_lt_of_le l.2.1 n1.1, fun q => by
      rcases q with q | q
      · exact l.2.2 q
      · have := l.2.1; omega⟩
    refine ⟨g1, fun p m j hp hj => ?_, by rw [kk2.1]; exact h5, c0, a, b, d, K, by rw [kk2.2.2.2.1]; exact g2, by rw [kk2.2.2.2.1]; exact g3, by rw [kk2.2.2.2.1]; exact g4, lg a la, lg b lb, lg d ld, hbd, by rw [ka.2.2.2.2]; exact sa, by rw [kb.2.2.2.2]; exact sb, by rw [kd.2.2.2.2]; exact sd, ck, K1, K2, by show (us h1 : Int) ≤ _; omega, fun i hi => ?_⟩
    · have := hp.rng
      have e : ∀ e ∈ colL, e.1 ≠ 48 := by decide +kernel
      rw [(k2 p (by omega) (e _ hp)).1]; exact hS p m j hp hj
    · rw [ka.2.2.2.1, kb.1, kd.1]; exact hL i hi
  · have := (m4.le hj).2
    exact tNew_o (by omega)
  · rw [tNew_o (by have := hid.2; omega)]
    obtain ⟨f1, f2, o', f3, f4⟩ := m6 id hid
    refine ⟨f1, f2, o', ?_, ?_⟩
    · rw [gr_sr_k (by have := hid.2; omega), (kp 48 (by omega)).2.2.2.1]; exact f3
    · exact (f4.kp (fun q hq => k2 q (hG q hq).2 (by have := (hG q hq).1; omega))).mono (fun q hq => Or.inl hq)
  · show (nn h1 : Int) ≤ _
    omega
  · obtain ⟨x, K, r4, r5, r6, r7, r8, r9, r10, r11⟩ := m14
    have kx : sh (sr h1 48 (S 68 0) (some o)) x = sh h x := (k2 x r6 (by omega)).2.2.2.2
    refine ⟨x, K, by rw [(k2 86 (by omega) (by decide)).2.2.2.1]; exact r4, r5, Nat.lt_of_lt_of_le r6 n1.1, fun q => ?_, by rw [kx]; exact r8, r9, r10, by omega⟩
    rcases q with q | q
    · exact r7 q
    · omega
/-- the count of finds goes on -/
theorem c_putF {h0 h : AH} {Q : Option AV → AH → Prop} {G : Nat → Prop} {n : Nat} {Ds : Nat → DD} {c : Int} {S : DD} {T : FD} {k e : Int} {o : Nat} (hF : Fix h) (m : CMid h0 G n Ds c S T k e 0 h) (hk : k ≤ 100) (g : gr h 48 (S 68 0) = some o) (fo : FO h G o (T (S 68 0))) (hl : 0 ≤ T (S 68 0) (-1) ∧ T (S 68 0) (-1) ≤ 40)
    (cont : ∀ h', Fix h' → CMid h0 G n Ds c (up S 68 0 (S 68 0 + 1)) T (k + 1) e 1 h' → Pr (Xs G) h h' → Q none h') : Ok 18 0 [some (vR (some 67)), some (vI 0), some (vI (S 68 0 + 1))] [] h Q := by
  obtain ⟨Ss, E, L, w, cc, m1, m2, m3, m4, m5, m6, m7, m8, m9, m10, m11, m12, m13, m14⟩ := m
  have b := m4.bd n (Nat.le_refl _)
  have b0 := m4.1
  have s1 := m2.1
  have x48 : Xs G 48 := Or.inl ⟨by decide, by decide, fun n c => by
    have e : ∀ e ∈ colL, e.1 ≠ 48 := by decide +kernel
    exact e _ c rfl, by decide, by decide, by decide⟩
  refine c_put (b := E n) (o := 67) (n := 1) hF (by omega) (by decide) in10 m1 m2 (fun h' c' L' F' cl' pr' g2 gw cc' l' sn' => cont h' F' ⟨Ss, E, L', w, c', cl', sn', by omega, m4.L (fun j => ?_) (fun i hi => l' i (by omega)), m5, ?_, ?_, fun o ho => (m8 o ho).trans (pr' o ho.xs), fun i hi => (g2 i hi).trans (m9 i hi), fun i hi => ?_, ?_, m12, by have := gw.2; omega, m14.kp (by omega) (pr' 86 ?_).2.2.2.1 gw.1⟩ pr')
  · exact congrFun (pr' 3 (KO.xs (KO_of (by decide) (by decide) (by decide)))).1 j
  · have kG : ∀ o, G o → Kp o h h' := fun o ho => pr' o (Or.inr ⟨(m1.1 o ho).1, ho⟩)
    have m6' := m6.kp kG (pr' 48 x48).2.2.2.1
    rw [up_e]
    intro id hid
    by_cases q : id = S 68 0
    · rw [q]
      exact ⟨hl.1, hl.2, o, by rw [(pr' 48 x48).2.2.2.1]; exact g, fo.kp kG⟩
    · exact m6' id ⟨hid.1, by have := hid.2; omega⟩
  · rw [up_e]; omega
  · rw [congrFun (pr' 7 (Or.inl ⟨by decide, by decide, Cl_no (by decide), by decide, by decide, by decide⟩)).1 i]; exact m10 i hi
  · rw [congrFun (pr' 7 (Or.inl ⟨by decide, by decide, Cl_no (by decide), by decide, by decide, by decide⟩)).1 8]; exact m11
  · exact KO.xs (KO_of (by decide) (by decide) (by decide))
/-- putNew: h is the heap before the find was made -/
theorem c_putNew {h0 h h1 : AH} {Q : Option AV → AH → Prop} {G : Nat → Prop} {n : Nat} {Ds : Nat → DD} {c : Int} {S : DD} {T : FD} {k e : Int} {o : Nat} {t : Int → Int} {tr s : Int} (F1 : Fix h1) (hF : Fix h) (m : CMid h0 G n Ds c S T k e 0 h) (hn : n < 300) (hk : k ≤ 90) (kp : ∀ q, q < nn h → Kp q h h1) (n1 : nn h ≤ nn h1 ∧ nn h1 ≤ nn h + 2) (u1 : (us h1 : Int) ≤ us h + 60) (fo : FO h1 (fun x => G x ∨ nn h ≤ x ∧ x < nn h1) o t) (hl : 0 ≤ t (-1) ∧ t (-1) ≤ 40) (ht : In 60 tr) (hs : In 40 s)
    (cont : ∀ h' G', Fix h' → CMid h0 G' n Ds c (up (up S 68 0 (S 68 0 + 1)) 58 (40 * tr + s) (S 68 0)) (tNew T (S 68 0) t) (k + 4) e 1 h' → (∀ q, G q → Kp q h h') → Q none h') : Ok 71 0 [some (vR (some 47)), some (vI tr), some (vI s), some (vR (some o)), none] [] h1 Q := by
  have hid : gi h1 68 0 = S 68 0 ∧ 0 ≤ S 68 0 ∧ S 68 0 < 300 := by
    refine ⟨by rw [congrFun (kp 68 (Nat.lt_of_lt_of_le (by decide) hF.2.2)).1 0]; exact m.rd (o := 68) (N := 1) (by decide) in10, ?_⟩
    obtain ⟨Ss, E, L, w, cc, m1, m2, m3, m4, m5, m6, m7, _⟩ := m
    have := m4.bd n (Nat.le_refl _)
    omega
  obtain ⟨e0, i0, i1⟩ := hid
  have a1 := ht.1
  have a2 := ht.2
  have a3 := hs.1
  have a4 := hs.2
  obtain ⟨m', fo'⟩ := m.new kp hF.2.2 n1 u1 fo
  have F2 : Fix (sr h1 48 (S 68 0) (some o)) := F1.srT (by rw [show sh h1 48 = (4, 300) from F1.2.1 (48, 4, 300) (by decide +kernel)]; show (4 : Nat) < 10; decide)
  refine f_X7_putNew_0 F1 _ _ _ ?_
  rw [e0]
  refine ⟨fun q => by omega, fun _ => ⟨⟨by rw [fo.2.1], i0, i1⟩, ⟨by omega, by omega⟩, ?_⟩⟩
  refine c_putF F2 m' (by omega) gr_sr_e (by rw [tNew_e]; exact fo') (by rw [tNew_e]; exact hl) (fun h2 F2' m2 pr2 => ⟨rfl, F2', ⟨by omega, by omega⟩, ⟨by omega, by omega⟩, ?_⟩)
  rw [show tr * 40 + s = 40 * tr + s by omega]
  refine c_putM F2' m2 (by omega) (N := 2400) (by decide) (by decide) ⟨by omega, by omega⟩ (fun h3 F3 m3 pr3 => ⟨rfl, F3, cont h3 (fun x => G x ∨ nn h ≤ x ∧ x < nn h1) F3 (by rw [show k + 4 = k + 2 + 1 + 1 by omega]; exact m3) (fun q hq => ?_)⟩)
  obtain ⟨g1, g2⟩ : 136 ≤ q ∧ q < nn h := by
    obtain ⟨Ss, E, L, w, cc, m1, _⟩ := m
    exact m1.1 q hq
  have xq : Xs (fun x => G x ∨ nn h ≤ x ∧ x < nn h1) q := Or.inr ⟨g1, Or.inl hq⟩
  exact (((kp q g2).sr (by omega)).trans (pr2 q xq)).trans (pr3 q xq)
theorem SlotR.mono {T : FD} {m m' id k : Int} {D : DD} (h : SlotR T m id D k) (hm : m ≤ m') : SlotR T m' id D k := by
  rcases h with h | ⟨h1, h2, h3⟩
  · exact Or.inl h
  · exact Or.inr ⟨h1, by omega, h3⟩
/-- what RC_slot needs of WF -/
def W9 (D : DD) : Prop := (∀ t, In (D 99 11) t → D 109 t ≤ 40) ∧ ∀ t s, In (D 99 11) t → In (D 109 t) s → D 112 (40 * t + s) = 3 → D 114 (40 * t + s) ≤ 40
theorem WF.w9 {D : DD} (w : WF D) : W9 D := ⟨fun t ht => (w.2.2.2.1 t ht).2.1.2, fun t s ht hs h3 => ((w.2.2.2.2.2.1 t s ht hs).2.2.2.2.2.2.1 h3).1.2⟩
/-- one slot changed -/
theorem RC_slot9 {S S' D D' : DD} {T : FD} {t0 s0 : Int} (w : W9 D) (r : RC S T D) (ht : In (D 99 11) t0) (hs : In (D 109 t0) s0) (sS : ∀ o, o ≠ 58 → o ≠ 68 → S' o = S o) (s58 : ∀ j, j ≠ 40 * t0 + s0 → S' 58 j = S 58 j) (s68 : S 68 0 ≤ S' 68 0) (sl : SlotR T (S' 68 0) (S' 58 (40 * t0 + s0)) D' (40 * t0 + s0))
    (ec : ∀ c, c = 1 ∨ c = 7 ∨ c = 11 ∨ c = 22 → D' 99 c = D 99 c) (er : ∀ o, o ≠ 99 → o < 112 ∨ 117 < o → D' o = D o) (es : ∀ o, 112 ≤ o → o ≤ 115 → ∀ j, j ≠ 40 * t0 + s0 → D' o j = D o j) (e6 : ∀ i, ¬ (8 * (40 * t0 + s0) ≤ i ∧ i < 8 * (40 * t0 + s0) + 8) → D' 116 i = D 116 i) (e7 : ∀ i, ¬ (40 * (40 * t0 + s0) ≤ i ∧ i < 40 * (40 * t0 + s0) + 40) → D' 117 i = D 117 i) : RC S' T D' := by
  obtain ⟨r1, r2, r3, ⟨s1, s2, s3⟩, r5⟩ := r
  have q3 := w.1 t0 ht
  have p1 := hs.1
  have p2 := hs.2
  refine ⟨RCu_c r1 (fun o _ => sS o (by omega) (by omega)) (ec 1 (by omega)) (fun o _ _ => er o (by omega) (by omega)), RCr_c r2 (fun o _ _ => sS o (by omega) (by omega)) (ec 7 (by omega)) (fun o _ _ => er o (by omega) (by omega)), RCt_c r3 (fun o _ => sS o (by omega) (by omega)) (ec 11 (by omega)) (fun o _ _ => er o (by omega) (by omega)), ⟨by omega, fun t s ht' hs' => ?_, fun t s ht' hs' hq => ?_⟩, RCj_c r5 (fun o _ => sS o (by omega) (by omega)) (ec 22 (by omega)) (fun o _ => er o (by omega) (by omega))⟩
  · rw [ec 11 (by omega)] at ht'
    rw [er 109 (by decide) (by omega)] at hs'
    have v1 := hs'.1
    have v2 := hs'.2
    have v3 := w.1 t ht'
    by_cases e : 40 * t + s = 40 * t0 + s0
    · rw [e]; exact sl
    · rw [s58 _ e]
      have o := s2 t s ht' hs'
      refine (SlotR_c o (fun o h1 h2 => es o h1 h2 _ e) (fun i hi => e6 _ ?_) (fun h3 i hi => e7 _ ?_)).mono s68
      · have := hi.1; have := hi.2; omega
      · have i1 := hi.1
        have i2 := hi.2
        have := w.2 t s ht' hs' h3
        omega
  · rw [ec 11 (by omega), sS 54 (by decide) (by decide), er 109 (by decide) (by omega)] at hq
    have v1 := hs'.1
    have v2 := hs'.2
    have := ht.2
    rw [s58 _ (fun e => ?_)]
    · exact s3 t s ht' hs' hq
    · have e1 : t = t0 := by omega
      subst e1
      omega
theorem RC_slot {S S' D D' : DD} {T : FD} {t0 s0 : Int} (w : WF D) (r : RC S T D) (ht : In (D 99 11) t0) (hs : In (D 109 t0) s0) (sS : ∀ o, o ≠ 58 → o ≠ 68 → S' o = S o) (s58 : ∀ j, j ≠ 40 * t0 + s0 → S' 58 j = S 58 j) (s68 : S 68 0 ≤ S' 68 0) (sl : SlotR T (S' 68 0) (S' 58 (40 * t0 + s0)) D' (40 * t0 + s0))
    (ec : ∀ c, c = 1 ∨ c = 7 ∨ c = 11 ∨ c = 22 → D' 99 c = D 99 c) (er : ∀ o, o ≠ 99 → o < 112 ∨ 117 < o → D' o = D o) (es : ∀ o, 112 ≤ o → o ≤ 115 → ∀ j, j ≠ 40 * t0 + s0 → D' o j = D o j) (e6 : ∀ i, ¬ (8 * (40 * t0 + s0) ≤ i ∧ i < 8 * (40 * t0 + s0) + 8) → D' 116 i = D 116 i) (e7 : ∀ i, ¬ (40 * (40 * t0 + s0) ≤ i ∧ i < 40 * (40 * t0 + s0) + 40) → D' 117 i = D 117 i) : RC S' T D' := RC_slot9 w.w9 r ht hs sS s58 s68 sl ec er es e6 e7
