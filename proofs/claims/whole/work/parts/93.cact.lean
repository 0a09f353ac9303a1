theorem ansT {D : DD} {u k x : Int} (h : x = oTray D u k) : AnsA D (aF 5 u k 0 0 0 0) x x := by unfold AnsA; simp [aF0]; exact h
theorem ansL {D : DD} {t x : Int} (h : x = oLose D t) : AnsA D (aF 6 t 0 0 0 0 0) x x := by unfold AnsA; simp [aF0]; exact h
theorem ansC {D : DD} {t s a b x : Int} (h : x = oPlace D t s) : AnsA D (aF 7 t s a b 0 0) x x := by unfold AnsA; simp [aF0]; exact h
theorem ansS {D : DD} {t s a b x : Int} (h : x = oPlace D t s) : AnsA D (aF 8 t s a b 0 0) x x := by unfold AnsA; simp [aF0]; exact h
theorem ansH {D : DD} {t s a b x : Int} (h : x = oSherds D t s a b) : AnsA D (aF 9 t s a b 0 0) x x := by unfold AnsA; simp [aF0]; exact h
theorem ansN {D : DD} {t s w x : Int} (h : x = oNote D t s w) : AnsA D (aF 10 t s 0 0 0 w) x x := by unfold AnsA; simp [aF0]; exact h
theorem ansB {D : DD} {t s k x : Int} (h : x = oBag D t s k) : AnsA D (aF 11 t s k 0 0 0) x x := by unfold AnsA; simp [aF0]; exact h
theorem ansK {D : DD} {t s x : Int} (h : x = oTake D t s) : AnsA D (aF 12 t s 0 0 0 0) x x := by unfold AnsA; simp [aF0]; exact h
theorem ansM {D : DD} {t s to ot x : Int} (h : x = oMove D t s to ot) : AnsA D (aF 13 t s to ot 0 0) x x := by unfold AnsA; simp [aF0]; exact h
theorem ansR {D : DD} {t s m x : Int} (h : x = oMark D t s) : AnsA D (aF 14 t s m 0 0 0) x x := by unfold AnsA; simp [aF0]; exact h
theorem dnP {A : Int → Int} {x : Int} (h : A 0 ≠ 4 ∧ A 0 ≠ 6 ∧ A 0 ≠ 15) (hx : 0 ≤ x) : DnA A x := ⟨fun q => by omega, fun q => by omega, hx⟩
/-- bodies that nobody traces -/
theorem CInv.bo71 {h h' : AH} {n : Nat} {Ds : Nat → DD} {Z : DD} {c b : Int} {l : List Int} (ci : CInv h n Ds Z c) (bo : Bo h 71 l b h') : CInv h' n Ds Z c := by
  obtain ⟨b1, b2, b3, b4, b5, b5', b6, b7, b8⟩ := bo
  have r : ∀ o, o ≠ 71 → o ≠ 72 → gi h' o = gi h o := fun o o1 o2 => (b1 o o1 o2).1
  refine ci.z (fun o _ _ _ _ o71 o72 _ _ _ _ => b1 o o71 o72) b2 b3 ?_
  have cz := ci.cz
  unfold CZ at *
  rw [r 98 (by decide) (by decide), r 1 (by decide) (by decide), r 69 (by decide) (by decide), r 70 (by decide) (by decide), r 94 (by decide) (by decide), r 95 (by decide) (by decide), r 86 (by decide) (by decide), r 7 (by decide) (by decide), r 90 (by decide) (by decide)]
  exact cz
theorem Bo.rf {h h' : AH} {o : Nat} {b : Int} {l : List Int} (bo : Bo h o l b h') (ho : o = 69 ∨ o = 71) : Rf h h' := Rf.of (P := fun p => p ≠ o ∧ p ≠ o + 1) (fun p hp => bo.1 p hp.1 hp.2) (fun p h1 h2 => ⟨by omega, by omega⟩)
theorem Bo.fix {h h' : AH} {o : Nat} {b : Int} {l : List Int} (bo : Bo h o l b h') (hF : Fix h) : Fix h' := by
  obtain ⟨b1, b2, b3, b4, b5, _⟩ := bo
  exact ⟨fun e he => by rw [b4]; exact hF.1 e he, fun e he => by rw [b5]; exact hF.2.1 e he, by rw [b2]; exact hF.2.2⟩
theorem c_tray {h : AH} {Q : Option AV → AH → Prop} {n : Nat} {Ds : Nat → DD} {Z : DD} {c p u k : Int} (hF : Fix h) (ci : CInv h n Ds Z c) (w : WF (Ds n)) (wz : WZ Z c) (hc : c ≤ 1000) (hp : rp ((0 ≤ u ∧ u < Ds n 99 1) ∧ k ≤ 40) p)
    (cq : CQ h n Ds Z c (aF 5 u k 0 0 0 0) p Q) : Ok 151 0 [some (vR (some 1)), some (vI u), some (vI k)] [] h Q := by
  obtain ⟨hp1, hp0, hp01⟩ := rp_of hp
  obtain ⟨G, S, T, m, rc⟩ := ci.mid
  obtain ⟨ed1, ed2, e21, n300⟩ := ci.ed
  have tr := m.tr (Or.inl (by decide)) rc
  have wc := w.c
  refine f_X11_tray_0 hF _ _ ?_
  rw [tr.T, tr.n]
  refine ⟨fun q => c_bad hF ci wz hc (hp0.mpr (by omega)) cq, fun q => ⟨fun q2 => c_bad hF ci wz hc (hp0.mpr (by omega)) cq, fun q2 => ⟨fun q3 => ⟨fun q4 => ⟨fun q5 => ?_, fun q5 => ?_⟩, fun q4 => c_full hF ci wz hc (hp1.mpr (by omega)) q4 cq⟩, fun q3 => c_bad hF ci wz hc (hp0.mpr (by omega)) cq⟩⟩⟩
  · have hv : p = 1 := hp1.mpr (by omega)
    have hu : In (Ds n 99 1) u := ⟨by omega, by omega⟩
    have wu := w.2.1 u hu
    have ru := rc.1.2 u hu
    refine c_ownedBy hF tr w ⟨_, rfl, hF, c_answer hF (Or.inr rfl) ⟨by omega, by omega⟩ (k := Ds n 100 u) (n := Ds n 101 u) (by rw [tr.1 10 100 u (by decide) ⟨by omega, by omega⟩]; exact ru.1) (by rw [tr.1 12 100 u (by decide) ⟨by omega, by omega⟩]; exact ru.2.1) wu.1 wu.2.1 (by decide) (fun h7 v F7 bo hv7 => ⟨_, rfl, F7, ?_⟩)⟩
    rw [hv7 (by omega)]
    have ci7 := ci.bo71 bo
    have cq7 := cq.sub (bo.rf (Or.inr rfl))
    obtain ⟨G7, S7, T7, m7, rc7⟩ := ci7.mid
    have tr7 := m7.tr (Or.inl (by decide)) rc7
    have e217 := ci7.ed.2.2.1
    refine ⟨fun q6 => ⟨fun q7 => ?_, fun q7 => ?_⟩, fun q6 => ?_⟩
    · refine f_X7_add_0 F7 _ _ ?_
      rw [tr7.T]
      refine c_putM F7 m7 (by omega) (N := 60) (by decide) (by decide) ⟨by omega, by omega⟩ (fun h1 F1 m1 _ => ⟨rfl, F1, c_putM F1 m1 (by omega) (N := 60) (by decide) (by decide) ⟨by omega, by omega⟩ (fun h2 F2 m2 _ => ⟨rfl, F2, ⟨by omega, by omega⟩, c_putM F2 m2 (by omega) (N := 1) (by decide) (by decide) in10 (fun h3 F3 m3 _ => ⟨rfl, F3, _, rfl, F3, ?_⟩)⟩)⟩)
      refine c_did F3 m3 ci7 hc (by omega) (by omega) (Or.inl rfl) (RC_new w rc7 (by omega) (by omega)) (Or.inr ⟨rfl, by rw [aF0]; decide, ?_⟩) hv ?_ ?_ (by rw [aF0]; decide) cq7
      · obtain ⟨ec, e11, er, _⟩ := sNewE (D := Ds n) (u := u) (n := k)
        exact ⟨ec 1 (by decide) (by decide), ec 7 (by decide) (by decide), er 102 (by omega), er 106 (by omega), er 107 (by omega)⟩
      · exact ansT (by unfold oTray; rw [if_neg (by omega), if_neg (by omega)])
      · unfold DnA; simp [aF0]; omega
    · refine c_neg F7 ci7 wz hc hv (by omega) (by omega) (by omega) ?_ cq7
      exact ansT (by unfold oTray; rw [if_neg (by omega), if_pos (by omega)])
    · refine c_neg F7 ci7 wz hc hv (by omega) (by omega) (by omega) ?_ cq7
      exact ansT (by unfold oTray; rw [if_pos (by omega)])
  · refine c_neg hF ci wz hc (hp1.mpr (by omega)) q4 (by omega) (by omega) ?_ cq
    exact ansT (by unfold oTray; rw [if_pos (by omega)])
/-- bags in a tray that is lost -/
def bgI (D : DD) (t m j : Int) : Prop := ∃ s : Int, 0 ≤ s ∧ s < m ∧ D 112 (40 * t + s) = 4 ∧ D 114 (40 * t + s) = j
theorem sLets_b {D : DD} {t : Int} : ∀ m : Nat, ∀ o, (o = 110 ∨ o = 111) → ∀ j, (bgI D t m j → sLets D t m o j = -5) ∧ (¬ bgI D t m j → sLets D t m o j = D o j) := by
  intro m
  induction m with
  | zero =>
    intro o _ j
    exact ⟨fun ⟨s, h1, h2, _⟩ => by omega, fun _ => rfl⟩
  | succ m ih =>
    intro o ho j
    obtain ⟨e1, e2⟩ := ih o ho j
    have e : sLets D t (m + 1) o j = if D 112 (40 * t + (m : Int)) = 4 ∧ j = D 114 (40 * t + m) then -5 else sLets D t m o j := by
      show sLet (sLets D t m) (40 * t + m) o j = _
      rw [sLet_b ho, sLets_s (o := 112) (by decide) m (by omega), sLets_s (o := 114) (by decide) m (by omega)]
    rw [e]
    by_cases q : D 112 (40 * t + (m : Int)) = 4 ∧ j = D 114 (40 * t + m)
    · rw [if_pos q]
      exact ⟨fun _ => rfl, fun n => absurd ⟨m, by omega, by push_cast; omega, q.1, q.2.symm⟩ n⟩
    · rw [if_neg q]
      refine ⟨fun ⟨s, h1, h2, h3, h4⟩ => e1 ⟨s, h1, ?_, h3, h4⟩, fun n => e2 (fun ⟨s, h1, h2, h3, h4⟩ => n ⟨s, h1, by push_cast; omega, h3, h4⟩)⟩
      by_cases es : s = m
      · subst es; exact absurd ⟨h3, h4.symm⟩ q
      · push_cast at h2; omega
theorem sLets_6 {D : DD} {t : Int} : ∀ m : Nat, ∀ i, (i < 8 * (40 * t) ∨ 8 * (40 * t + m) ≤ i) → sLets D t m 116 i = D 116 i
  | 0, i, _ => rfl
  | m + 1, i, h => by
    show sLet (sLets D t m) (40 * t + m) 116 i = _
    rw [sLet_116, if_neg (by push_cast at h; omega)]
    exact sLets_6 m i (by push_cast at h; omega)
theorem RC_lose {S D : DD} {T : FD} {t : Int} (w : WF D) (r : RC S T D) (ht : In (D 99 11) t) (hp : 0 ≤ D 109 t) : RC (up S 54 t 1) T (sLose D t) := by
  obtain ⟨r1, r2, ⟨t1, t2, t3⟩, ⟨s1, s2, s3⟩, r5⟩ := r
  have wc := w.c
  have hm : (((D 109 t).toNat : Nat) : Int) = D 109 t := by omega
  have er : ∀ o, o ≠ 109 → (o < 110 ∨ 116 < o) → sLose D t o = D o := fun o h1 h2 => funext fun j => by unfold sLose; rw [up_o h1, sLets_o h2]
  have eb : ∀ o, (o = 110 ∨ o = 111) → ∀ j, (bgI D t (D 109 t) j → sLose D t o j = -5) ∧ (¬ bgI D t (D 109 t) j → sLose D t o j = D o j) := fun o ho j => by
    have := sLets_b (D := D) (t := t) (D 109 t).toNat o ho j
    rw [hm] at this
    unfold sLose; rw [up_o (by omega)]; exact this
  have eb5 : ∀ j, D 110 j = -5 → sLose D t 110 j = -5 := fun j hj => by
    by_cases q : bgI D t (D 109 t) j
    · exact (eb 110 (Or.inl rfl) j).1 q
    · rw [(eb 110 (Or.inl rfl) j).2 q]; exact hj
  have es : ∀ o, (112 ≤ o ∧ o ≤ 115) → ∀ j, (j < 40 * t ∨ 40 * t + D 109 t ≤ j) → sLose D t o j = D o j := fun o ho j hj => by
    unfold sLose; rw [up_o (by omega), sLets_s ho _ (by omega)]
  have e6 : ∀ i, (i < 8 * (40 * t) ∨ 8 * (40 * t + D 109 t) ≤ i) → sLose D t 116 i = D 116 i := fun i hi => by
    unfold sLose; rw [up_o (by decide), sLets_6 _ i (by omega)]
  have e9 : ∀ j, sLose D t 109 j = if j = t then -1 else D 109 j := fun j => by
    unfold sLose
    by_cases e : j = t
    · rw [if_pos e, e, up_e]
    · rw [if_neg e, up_k e, sLets_o (by omega)]
  have e99 := er 99 (by decide) (by omega)
  generalize sLose D t = E at er eb eb5 es e6 e9 e99 ⊢
  have eS : ∀ o, o ≠ 54 → up S 54 t 1 o = S o := fun o h1 => up_r h1
  have a54 : ∀ j, up S 54 t 1 54 j = if j = t then 1 else S 54 j := fun j => by
    by_cases e : j = t
    · rw [if_pos e, e, up_e]
    · rw [if_neg e, up_k e]
  refine ⟨RCu_c r1 (fun o _ => eS o (by omega)) (by rw [e99]) (fun o _ _ => er o (by omega) (by omega)), RCr_c r2 (fun o _ _ => eS o (by omega)) (by rw [e99]) (fun o _ _ => er o (by omega) (by omega)), ⟨by rw [eS 64 (by decide), e99]; exact t1, fun v hv => ?_, fun v h1 h2 => ?_⟩, ⟨by rw [eS 68 (by decide)]; exact s1, fun v s hv hs => ?_, fun v s hv hs hq => ?_⟩, RCj_c r5 (fun o _ => eS o (by omega)) (by rw [e99]) (fun o _ => er o (by omega) (by omega))⟩
  · rw [e99] at hv
    obtain ⟨b1, b2, b3⟩ := t2 v hv
    unfold Plc
    rw [eS 50 (by decide), eS 52 (by decide), eS 56 (by decide), er 108 (by decide) (by omega), e99, a54, e9, a54]
    refine ⟨b1, ?_, ?_⟩
    · by_cases e : v = t
      · rw [if_pos e, if_pos e]; exact Or.inl ⟨rfl, rfl⟩
      · rw [if_neg e, if_neg e]; exact b2
    · have wt := (w.2.2.2.1 v hv).2.2
      rcases b3 with ⟨b3, b4⟩ | ⟨c1, c2, c3, c4⟩
      · refine Or.inl ⟨b3, ?_⟩
        exact eb5 v b4
      · refine Or.inr ⟨c1, c2, fun q => ?_, fun q => ?_⟩
        · by_cases e : S 56 v / 40 = t
          · rcases wt with wt | ⟨d1, d2, d3, d4⟩
            · exact eb5 v wt
            · -- it lies in t, for it lies in a tray that isn't lost
              by_cases l : S 54 (S 56 v / 40) = 1
              · exact eb5 v (c3 l)
              · have l0 : S 54 (S 56 v / 40) = 0 := by
                  rcases (t2 _ c2).2.1 with z | z
                  · exact absurd z.1 l
                  · exact z.1
                have f1 := (c4 l0).1
                rw [e] at f1
                rw [f1] at d2 d3 d4
                exact (eb 110 (Or.inl rfl) v).1 ⟨D 111 v, d2.1, d2.2, d3, d4⟩
          · rw [if_neg e] at q
            exact eb5 v (c3 q)
        · by_cases e : S 56 v / 40 = t
          · rw [if_pos e] at q; omega
          · rw [if_neg e] at q
            obtain ⟨f1, f2⟩ := c4 q
            have no : ¬ bgI D t (D 109 t) v := fun ⟨s, g1, g2, g3, g4⟩ => by
              have := (w.2.2.2.2.2.1 t s ht ⟨g1, g2⟩).2.2.2.2.2.2.2 g3
              rw [g4, f1] at this
              exact e this.2.1
            rw [(eb 110 (Or.inl rfl) v).2 no, (eb 111 (Or.inr rfl) v).2 no]
            exact ⟨f1, f2⟩
  · rw [e99] at h1
    rw [eS 50 (by decide), eS 52 (by decide), eS 56 (by decide), a54, if_neg (by have := ht.2; omega)]
    exact t3 v h1 h2
  · rw [e99] at hv
    rw [e9] at hs
    by_cases e : v = t
    · rw [if_pos e] at hs
      have := hs.1
      have := hs.2
      omega
    · rw [if_neg e] at hs
      rw [eS 68 (by decide), eS 58 (by decide)]
      have q1 := hs.1
      have q2 := hs.2
      have q3 := (w.2.2.2.1 t ht).2.1
      have q4 := (w.2.2.2.1 v hv).2.1
      exact SlotR_c (s2 v s hv hs) (fun o h1 h2 => es o ⟨h1, h2⟩ _ (by omega)) (fun i hi => e6 _ (by have := hi.1; have := hi.2; omega)) (fun _ i hi => by rw [er 117 (by decide) (by omega)])
  · rw [e99, a54, e9] at hq
    rw [eS 58 (by decide)]
    refine s3 v s hv hs ?_
    rcases hq with hq | hq
    · exact Or.inl hq
    · by_cases e : v = t
      · rw [if_pos e] at hq; omega
      · rw [if_neg e, if_neg e] at hq; exact Or.inr hq
theorem c_lose {h : AH} {Q : Option AV → AH → Prop} {n : Nat} {Ds : Nat → DD} {Z : DD} {c p t : Int} (hF : Fix h) (ci : CInv h n Ds Z c) (w : WF (Ds n)) (wz : WZ Z c) (hc : c ≤ 1000) (hp : rp (0 ≤ t ∧ t < Ds n 99 11) p)
    (cq : CQ h n Ds Z c (aF 6 t 0 0 0 0 0) p Q) : Ok 152 0 [some (vR (some 1)), some (vI t)] [] h Q := by
  obtain ⟨hp1, hp0, hp01⟩ := rp_of hp
  obtain ⟨G, S, T, m, rc⟩ := ci.mid
  obtain ⟨ed1, ed2, e21, n300⟩ := ci.ed
  have tr := m.tr (Or.inl (by decide)) rc
  have wc := w.c
  refine f_X11_lose_0 hF _ ?_
  rw [tr.T]
  refine ⟨fun q => c_bad hF ci wz hc (hp0.mpr (by omega)) cq, fun q => ⟨fun q2 => c_bad hF ci wz hc (hp0.mpr (by omega)) cq, fun q2 => ⟨fun q3 => ?_, fun q3 => c_full hF ci wz hc (hp1.mpr (by omega)) q3 cq⟩⟩⟩
  have hv : p = 1 := hp1.mpr (by omega)
  have ht : In (Ds n 99 11) t := ⟨by omega, by omega⟩
  obtain ⟨a, b, d⟩ := tr.ts w ht
  refine ⟨⟨by omega, by omega⟩, fun q4 => c_putM hF m (by omega) (N := 60) (by decide) (by decide) ⟨by omega, by omega⟩ (fun h1 F1 m1 _ => ⟨rfl, F1, ?_⟩), fun q4 => ?_⟩
  · refine c_did (A := aF 6 t 0 0 0 0 0) F1 m1 ci hc (by omega) (by omega) (Or.inl rfl) (RC_lose w rc ht (by omega)) (Or.inr ⟨rfl, by rw [aF0]; decide, ?_⟩) hv ?_ (by unfold DnA; simp [aF0]) (by rw [aF0]; decide) cq
    · have er : ∀ o, o ≠ 109 → (o < 110 ∨ 116 < o) → sLose (Ds n) t o = Ds n o := fun o h1 h2 => funext fun j => by unfold sLose; rw [up_o h1, sLets_o h2]
      refine ⟨?_, ?_, er 102 (by decide) (by omega), er 106 (by decide) (by omega), er 107 (by decide) (by omega)⟩
      · show sLose (Ds n) t 99 1 = _
        rw [er 99 (by decide) (by omega)]
      · show sLose (Ds n) t 99 7 = _
        rw [er 99 (by decide) (by omega)]
    · unfold AnsA; simp [aF0, aF1, oLose]; omega
  · -- nothing to do: the status is 0
    refine cq _ 0 hF (Rf.refl.si (by omega)) (Or.inl ⟨0, Or.inr (Or.inr ⟨hv, by omega, ?_, ?_⟩), fun Z' z => ?_⟩)
    · unfold AnsA; simp [aF0, aF1, oLose]; omega
    · unfold DnA; simp [aF0]
    · refine CInv.mono (c := c) ?_ (by omega)
      refine ci.z (fun o o1 _ _ _ _ _ _ _ _ _ => Kp.refl.si o1) rfl rfl ?_
      obtain ⟨r1, r2, r3, r4, r5, r6, r7, r8, r9, r10, r11⟩ := z
      obtain ⟨z1, z2, z3, z4, z5, z6, z7, z8, z9⟩ := ci.cz
      have r : ∀ o, o ≠ 1 → gi (si h 1 11 0) o = gi h o := fun o o1 => gi_si_r o1
      unfold CZ
      rw [r 98 (by decide), r 69 (by decide), r 70 (by decide), r 94 (by decide), r 95 (by decide), r 86 (by decide), r 7 (by decide), r 90 (by decide), gi_si_e, gi_si_k (by decide), r4, r5, r6, (r7 (by decide)).1, (r7 (by decide)).2, r10 (fun q => q.1), r11]
      refine ⟨fun k k1 k2 => by rw [r1 k k1 k2, if_neg (by omega), z1 k k1 k2]; omega, ?_, z3, z4, z5, z6, z7, z8, z9⟩
      rw [r3 (by decide), if_neg (by rw [aF0]; decide)]
