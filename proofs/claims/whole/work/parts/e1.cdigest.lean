/-! the class's digest -/
theorem dgA_congr {f g : Int → Int} {h : Int} : ∀ {n : Nat}, (∀ i : Int, In n i → f i = g i) → dgA f h n = dgA g h n
  | 0, _ => rfl
  | n + 1, e => by
    show dmx (dgA f h n) (f n) = dmx (dgA g h n) (g n)
    rw [dgA_congr (fun i hi => e i ⟨hi.1, by have := hi.2; omega⟩), e n ⟨by omega, by omega⟩]
theorem c_dslot {h : AH} {Q : Option AV → AH → Prop} {G : Nat → Prop} {S : DD} {T : FD} {D : DD} {t s p1 : Int} {q : Option Nat} (hF : Fix h) (w : WF D) (ht : In (D 99 11) t) (hs : In (D 109 t) s) (fa : FA h G S T D t s q) (cont : Q (some (vL (dgS D (40 * t + s) p1))) h) : Ok 87 0 [some (vL p1), none, some (vR q), none, none, none] [] h Q := by
  have ws := w.2.2.2.2.2.1 t s ht hs
  refine f_X7_digestOfSlot_0 hF _ _ ⟨fun e => ?_, fun a e => ?_⟩
  · subst e
    have h5 : D 112 (40 * t + s) = -5 := by
      rcases FA_none fa with f | f | f
      · exact absurd ht f
      · exact absurd (slotF0.mpr hs) f
      · exact f
    unfold dgS at cont
    rw [if_pos h5, h5] at cont
    exact cont
  · subst e
    obtain ⟨_, _, _, f5, gk, g0, g1⟩ := FO.knd fa
    rcases fa with ⟨fa, _⟩ | ⟨o', fa, _, _, _, _, hid, fo, hl, sl⟩
    · cases fa
    cases fa
    obtain ⟨_, _, _, _, ⟨ar, a1, a2, a3, a4⟩, _⟩ := fo
    rcases sl with z | ⟨_, _, _, _, _, s0, s12, s3, s4⟩
    · exact absurd z.1 f5
    have loop : ∀ (y0 b : Int), Q (some (vL (dgA (T (S 58 (40 * t + s))) b (T (S 58 (40 * t + s)) (-1)).toNat))) h → ∀ k (i : Nat), (T (S 58 (40 * t + s)) (-1)).toNat - i = k → i ≤ (T (S 58 (40 * t + s)) (-1)).toNat → Ok 87 39 [some (vL y0), none, some (vR (some a)), some (vL (dgA (T (S 58 (40 * t + s))) b i)), none, some (vI (i : Int))] [] h Q := by
      intro y0 b c k
      induction k using Nat.strongRecOn with
      | ind k ih =>
        intro i hk hi
        refine f_X7_digestOfSlot_39 hF _ _ _ _ ⟨by rw [gk], ar, a1, by rw [a3]; show (0 : Nat) < 10; decide, ?_⟩
        rw [a3]
        refine ⟨fun c2 => ?_, fun c2 => ⟨by rw [gk], ar, a1, ?_⟩⟩
        · have c2' : T (S 58 (40 * t + s)) (-1) ≤ (i : Int) := c2
          rw [show i = (T (S 58 (40 * t + s)) (-1)).toNat by omega]; exact c
        · have c2' : ¬ T (S 58 (40 * t + s)) (-1) ≤ (i : Int) := c2
          rw [a3, a4 i ⟨by omega, by omega⟩]
          refine ⟨⟨rfl, by omega, by show (i : Int) < T (S 58 (40 * t + s)) (-1); omega⟩, ⟨by omega, by omega⟩, ?_⟩
          exact ih _ (by omega) (i + 1) rfl (by omega)
    rw [gk, g0, g1]
    unfold dgS at cont
    rw [if_neg f5] at cont
    refine ⟨rfl, fun e => ?_, fun e => ⟨rfl, ar, a1, by rw [a3]; show (0 : Nat) < 10; decide, ?_⟩⟩
    · refine loop p1 _ ?_ _ 0 rfl (by omega)
      by_cases k0 : D 112 (40 * t + s) = 0
      · obtain ⟨u1, u2⟩ := s0 k0
        rw [if_pos k0] at cont
        rw [u1]
        have := dgA_congr (h := dmx (dmx p1 (D 112 (40 * t + s))) (D 113 (40 * t + s))) (n := 8) (fun i hi => u2 i hi)
        rw [← this] at cont
        exact cont
      · rw [if_neg k0, if_neg e] at cont
        by_cases k4 : D 112 (40 * t + s) = 4
        · obtain ⟨u1, u2⟩ := s4 k4
          rw [if_pos k4, ← u2] at cont
          rw [u1]
          exact cont
        · rw [if_neg k4] at cont
          have k12 : D 112 (40 * t + s) = 1 ∨ D 112 (40 * t + s) = 2 := by
            rcases ws.1 with z | z
            · exact absurd z f5
            · omega
          obtain ⟨u1, u2, u3⟩ := s12 k12
          rw [← u2, ← u3] at cont
          rw [u1]
          exact cont
    · have e3 : D 112 (40 * t + s) = 3 := Decidable.not_not.mp e
      obtain ⟨u1, u2⟩ := s3 e3
      rw [a3]
      refine loop p1 _ ?_ _ 0 rfl (by omega)
      rw [if_neg (by omega), if_pos e3] at cont
      have := dgA_congr (h := dmx (dmx (dmx p1 (D 112 (40 * t + s))) (D 113 (40 * t + s))) (D 114 (40 * t + s))) (n := (D 114 (40 * t + s)).toNat) (fun i hi => u2 i ⟨hi.1, by have := hi.2; have := hi.1; omega⟩)
      rw [← this, ← u1] at cont
      exact cont
theorem c_digestOn {h : AH} {Q : Option AV → AH → Prop} {G : Nat → Prop} {S : DD} {T : FD} {D : DD} {y1 : Int} (hF : Fix h) (r : TR h G S T D) (w : WF D) (e : y1 = dgT D 0) (cont : Q (some (vL (dg D))) h) : Ok 86 0 [some (vR (some 47)), some (vL y1), none, none, none, none, none] [] h Q := by
  have wc := w.c
  have e66 : gi h 66 0 = D 99 22 := by rw [r.1 66 1 0 (by decide) in10]; exact r.2.1.2.2.2.2.1
  have joins : ∀ k (j : Nat), (D 99 22).toNat - j = k → (j : Int) ≤ D 99 22 → Ok 86 45 [some (vR (some 47)), some (vL y1), none, some (vL (dgJ D j)), none, some (vI (j : Int)), none] [] h Q := by
    intro k
    induction k using Nat.strongRecOn with
    | ind k ih =>
      intro j hk hj
      refine f_X7_digestOn_45 hF _ _ _ ?_
      rw [e66]
      refine ⟨fun c => ?_, fun c => ⟨⟨by omega, by omega⟩, ⟨by omega, by omega⟩, ?_⟩⟩
      · unfold dg at cont
        rw [show (D 99 22).toNat = j by omega] at cont
        exact cont
      · have hi : In (D 99 22) (j : Int) := ⟨by omega, by omega⟩
        have q := r.2.1.2.2.2.2.2 j hi
        rw [show gi h 60 (j : Int) = D 118 j by rw [r.1 60 80 j (by decide) ⟨by omega, by omega⟩]; exact q.1, show gi h 62 (j : Int) = D 119 j by rw [r.1 62 80 j (by decide) ⟨by omega, by omega⟩]; exact q.2]
        exact ih _ (by omega) (j + 1) rfl (by omega)
  have trays : ∀ k (t : Nat), (D 99 11).toNat - t = k → (t : Int) ≤ D 99 11 → Ok 86 4 [some (vR (some 47)), some (vL y1), none, some (vL (dgT D t)), none, some (vI (t : Int)), none] [] h Q := by
    intro k
    induction k using Nat.strongRecOn with
    | ind k ih =>
      intro t hk ht
      refine f_X7_digestOn_4 hF _ _ _ ?_
      rw [r.T]
      refine ⟨fun c => ?_, fun c => ⟨⟨by omega, by omega⟩, ?_⟩⟩
      · have := joins _ 0 rfl (by omega)
        have e0 : dgJ D 0 = dgT D t := by rw [show t = (D 99 11).toNat by omega]; rfl
        rw [e0] at this
        exact this
      have hi : In (D 99 11) (t : Int) := ⟨by omega, by omega⟩
      obtain ⟨b1, b2, b3⟩ := r.ts w hi
      have slots : ∀ l (s : Nat), (D 109 t).toNat - s = l → s ≤ (D 109 t).toNat → Ok 86 27 [some (vR (some 47)), some (vL y1), none, some (vL (dgL D t (dgT D t) s)), none, some (vI (t : Int)), some (vI (s : Int))] [] h Q := by
        intro l
        induction l using Nat.strongRecOn with
        | ind l lh =>
          intro s hl hs
          have nx : (D 109 t).toNat = s → (-2147483648 ≤ (t : Int) + 1 ∧ (t : Int) + 1 < 2147483648) ∧ Ok 86 4 [some (vR (some 47)), some (vL y1), none, some (vL (dgL D t (dgT D t) s)), none, some (vI ((t : Int) + 1)), none] [] h Q := fun es => by
            refine ⟨⟨by omega, by omega⟩, ?_⟩
            have := ih _ (by omega) (t + 1) rfl (by omega)
            rw [show dgT D (t + 1) = dgL D t (dgT D t) s by rw [← es]; rfl] at this
            exact this
          refine f_X7_digestOn_27 hF _ _ _ _ ⟨⟨by omega, by omega⟩, fun c2 => ?_, fun c2 => ⟨fun _ => nx (by omega), fun c3 => by omega⟩⟩
          have e52 : gi h 52 t = D 109 t := by omega
          rw [e52]
          refine ⟨fun c3 => nx (by omega), fun c3 => ?_⟩
          have hs' : In (D 109 t) (s : Int) := ⟨by omega, by omega⟩
          exact c_findAt hF r w (fun q fa => ⟨q, rfl, hF, c_dslot hF w hi hs' fa ⟨_, rfl, hF, ⟨by omega, by omega⟩, lh _ (by omega) (s + 1) rfl (by omega)⟩⟩)
      refine ⟨fun c2 => ?_, fun c2 => ?_⟩
      · have e52 : gi h 52 t = D 109 t := by omega
        rw [e52]
        exact slots _ 0 rfl (by omega)
      · have e109 : D 109 t = -1 := by omega
        have := slots _ 0 rfl (by omega)
        rw [show dgL D t (dgT D t) 0 = dmx (dgT D t) (D 109 t) from rfl, e109] at this
        exact this
  refine f_X7_digestOn_0 hF _ ?_
  have := trays _ 0 rfl (by omega)
  rw [← e] at this
  exact this
theorem c_digest {h : AH} {Q : Option AV → AH → Prop} {n : Nat} {Ds : Nat → DD} {Z : DD} {c : Int} (hF : Fix h) (ci : CInv h n Ds Z c) (w : WF (Ds n)) (cont : ∀ h', Fix h' → Rf h h' → CInv h' n Ds Z c → Q (some (vL (dg (Ds n)))) h') : Ok 187 0 [some (vR (some 1)), none, none, none] [] h Q := by
  have wc := w.c
  refine f_X11_digest_0 hF ?_
  have rels : ∀ k (h1 : AH) (q : Nat), (Ds n 99 7).toNat - q = k → (q : Int) ≤ Ds n 99 7 → Fix h1 → WbF h h1 → CInv h1 n Ds Z c → Ok 187 71 [some (vR (some 1)), some (vL (dgR (Ds n) q)), none, some (vI (q : Int))] [] h1 Q := by
    intro k
    induction k using Nat.strongRecOn with
    | ind k ih =>
      intro h1 q hk hq F1 f1 c1
      obtain ⟨G, S, T, tr, hG⟩ := c1.tr
      refine f_X11_digest_71 F1 _ _ ?_
      rw [(c1.wc w).1]
      refine ⟨fun cc => ?_, fun cc => ⟨⟨by omega, by omega⟩, ⟨by omega, by omega⟩, ?_⟩⟩
      · refine c_digestOn F1 tr w (by rw [show q = (Ds n 99 7).toNat by omega]; rfl) ⟨_, rfl, F1, cont h1 F1 f1.rf c1⟩
      · have hi : In (Ds n 99 7) (q : Int) := ⟨by omega, by omega⟩
        have x := (c1.wc w).2 q hi
        rw [show gi h1 40 (q : Int) = Ds n 105 q by rw [tr.1 40 200 q (by decide) ⟨by omega, by omega⟩]; exact (tr.2.1.2.1.2 q hi).1, x.1, x.2]
        exact ih _ (by omega) h1 (q + 1) rfl (by omega) F1 f1 c1
  have units : ∀ k (h1 : AH) (u : Nat), (Ds n 99 1).toNat - u = k → (u : Int) ≤ Ds n 99 1 → Fix h1 → WbF h h1 → CInv h1 n Ds Z c → Ok 187 4 [some (vR (some 1)), some (vL (dgU (Ds n) u)), none, some (vI (u : Int))] [] h1 Q := by
    intro k
    induction k using Nat.strongRecOn with
    | ind k ih =>
      intro h1 u hk hu F1 f1 c1
      obtain ⟨G, S, T, tr, hG⟩ := c1.tr
      refine f_X11_digest_4 F1 _ _ ?_
      rw [tr.n]
      refine ⟨fun cc => ?_, fun cc => ⟨⟨by omega, by omega⟩, ?_⟩⟩
      · have := rels _ h1 0 rfl (by omega) F1 f1 c1
        rw [show dgR (Ds n) 0 = dgU (Ds n) u by rw [show u = (Ds n 99 1).toNat by omega]; rfl] at this
        exact this
      · have hi : In (Ds n 99 1) (u : Int) := ⟨by omega, by omega⟩
        have h100 : In 100 (u : Int) := ⟨by omega, by omega⟩
        have q := tr.2.1.1.2 u hi
        refine c_blockI F1 c1 w hi (fun h2 F2 f2 c2 => ⟨_, rfl, F2, ⟨by omega, by omega⟩, ?_⟩)
        rw [show gi h1 10 (u : Int) = Ds n 100 u by rw [tr.1 10 100 u (by decide) h100]; exact q.1, show gi h1 12 (u : Int) = Ds n 101 u by rw [tr.1 12 100 u (by decide) h100]; exact q.2.1, show gi h2 14 (u : Int) = Ds n 103 u by rw [(f2.1 14 (by decide)).1, tr.1 14 100 u (by decide) h100]; exact q.2.2.1, show gi h2 16 (u : Int) = Ds n 104 u by rw [(f2.1 16 (by decide)).1, tr.1 16 100 u (by decide) h100]; exact q.2.2.2.1]
        exact ih _ (by omega) h2 (u + 1) rfl (by omega) F2 (f1.trans f2) c2
  exact units _ h 0 rfl (by omega) hF WbF.refl ci
