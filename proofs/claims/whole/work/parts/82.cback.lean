theorem CL.ups {h : AH} {G : Nat → Prop} {S : DD} {c w : Int} {L : Int → Nat × Int × Int} {o : Nat} {n k v : Int} (cl : CL h G S c L w) (co : Cl o n) : CL (si h o k v) G (up S o k v) c L w := by
  obtain ⟨hG, hS, h5, c0, a, b, d, K, g2, g3, g4, la, lb, ld, hbd, sa, sb, sd, ck, K1, K2, hu, hL⟩ := cl
  refine ⟨hG, fun p m j hp hj => ?_, ?_, c0, a, b, d, K, g2, g3, g4, la, lb, ld, hbd, sa, sb, sd, ck, K1, K2, hu, fun i hi => ?_⟩
  · by_cases e : p = o ∧ j = k
    · rw [e.1, e.2, gi_si_e, up_e]
    · rw [gi_si_p, if_neg e]
      unfold up
      rw [if_neg e]
      exact hS p m j hp hj
  · have := co.rng
    rw [gi_si_o (by omega)]; exact h5
  · rw [gi_si_o (Ne.symm (lb.ncl co)), gi_si_o (Ne.symm (ld.ncl co))]
    exact hL i hi
theorem Xs.ncl {G : Nat → Prop} {o p : Nat} {n : Int} (x : Xs G o) (c : Cl p n) : o ≠ p := by
  rcases x with x | x
  · exact fun e => x.2.2.1 n (e ▸ c)
  · have := c.rng; omega
theorem Xs.ne2 {G : Nat → Prop} {o : Nat} (x : Xs G o) : o ≠ 2 := by
  rcases x with x | x
  · exact x.2.1
  · omega
/-- the log goes back to b entries -/
theorem c_goBack_28 {Q : Option AV → AH → Prop} {G : Nat → Prop} {S0 : DD} {b c w ed : Int} {L : Int → Nat × Int × Int} {h0 : AH} (hc : c ≤ 40000) (hb : 0 ≤ b) (hed : 0 ≤ ed ∧ ed ≤ 100000)
    (cont : ∀ h', Fix h' → CL h' G S0 b L w → Pr (Xs G) h0 h' → (∀ i, i ≠ 5 → i ≠ 6 → gi h' 2 i = gi h0 2 i) → gi h' 2 6 = ed + 1 → Grw h0 h' ∧ nn h' = nn h0 ∧ us h' = us h0 → Q none h') (m : Nat) :
    ∀ (h : AH) (S : DD) (i : Int), (i + 1 - b).toNat = m → b ≤ i + 1 → i < c → Fix h → CL h G S c L w → Pr (Xs G) h0 h → (∀ i, i ≠ 5 → gi h 2 i = gi h0 2 i) → gi h 2 6 = ed → Grw h0 h ∧ nn h = nn h0 ∧ us h = us h0 → rst L b m S = S0 → Ok 16 28 [some (vR (some 2)), some (vI b), some (vI i), none] [] h Q := by
  induction m with
  | zero =>
    intro h S i hm h1 h2 hF cl pr g2 e6 hn hr
    refine f_X1_goBack_28 hF _ _ ⟨fun _ => ⟨by rw [e6]; omega, ?_⟩, fun c1 => by omega⟩
    rw [e6]
    have hr : S = S0 := hr
    subst hr
    obtain ⟨hG, hS, h5, c0, a, b', d, K, q2, q3, q4, la, lb, ld, hbd, sa, sb, sd, ck, K1, K2, hu, hL⟩ := cl
    refine cont _ hF ⟨hG, fun p m j hp hj => ?_, ?_, hb, a, b', d, K, q2, q3, q4, la, lb, ld, hbd, sa, sb, sd, by omega, K1, K2, hu, fun j hj => ?_⟩ (fun p hp => ((pr p hp).si hp.ne2).si hp.ne2) (fun j j5 j6 => ?_) gi_si_e hn
    · have := hp.rng
      rw [gi_si_o (by omega), gi_si_o (by omega)]; exact hS p m j hp hj
    · rw [gi_si_k (by decide), gi_si_e]
    · rw [gi_si_o lb.ne2, gi_si_o lb.ne2, gi_si_o ld.ne2, gi_si_o ld.ne2]
      exact hL j ⟨hj.1, by have := hj.2; omega⟩
    · rw [gi_si_k j6, gi_si_k j5]; exact g2 j j5
  | succ m ih =>
    intro h S i hm h1 h2 hF cl pr g2 e6 hn hr
    have cl' := cl
    obtain ⟨hG, hS, h5, c0, a, b', d, K, q2, q3, q4, la, lb, ld, hbd, sa, sb, sd, ck, K1, K2, hu, hL⟩ := cl
    have i0 : 0 ≤ i := by omega
    obtain ⟨l1, l2, l3, n, l4, l5⟩ := hL i ⟨i0, h2⟩
    have ob := l4.ob hF
    have so := l4.hs hF
    have ei : b + (m : Int) = i := by omega
    refine f_X1_goBack_28 hF _ _ ⟨fun c1 => by omega, fun _ => ⟨a, q2, ⟨Or.inl (by rw [sa]), i0, by rw [sa]; show i < K; omega⟩, fun q hq => ⟨fun e => ?_, fun o ho => ⟨b', q3, ⟨by rw [sb], i0, by rw [sb]; show i < K; omega⟩, d, q4, ⟨by rw [sd], i0, by rw [sd]; show i < K; omega⟩, ?_⟩⟩⟩⟩
    · rw [e, l1] at hq; cases hq
    · have eo : o = (L i).1 := by rw [ho, l1] at hq; exact (Option.some.inj hq).symm
      rw [eo, l2, l3]
      refine ⟨ob.1, f_X2_restore_0 hF _ _ _ ob ⟨fun c1 => by have := l5.1; omega, fun _ => ⟨by rw [so]; show (0 : Nat) < 10; decide, fun c1 => ?_, fun _ => ⟨⟨by rw [so], l5.1, by rw [so]; exact l5.2⟩, rfl, hF, ⟨by omega, by omega⟩, ?_⟩⟩⟩⟩
      · rw [so] at c1
        have := l5.2
        exact absurd (show n ≤ (L i).2.1 from c1) (by omega)
      · have hr' : rst L b m (up S ((L i).1 + 1) (L i).2.1 (L i).2.2) = S0 := by
          rw [← hr, ← ei]; rfl
        have := l4.rng
        exact ih _ _ (i + -1) (by omega) (by omega) (by omega) hF (cl'.ups l4) (fun p hp => (pr p hp).si (hp.ncl l4)) (fun j hj => by rw [gi_si_o (by omega)]; exact g2 j hj) (by rw [gi_si_o (by omega)]; exact e6) hn hr'
/-- the book goes back by an act -/
theorem c_goBack {h : AH} {Q : Option AV → AH → Prop} {G : Nat → Prop} {S S0 : DD} {b c w : Int} {L : Int → Nat × Int × Int} {n : Int} (hF : Fix h) (cl : CL h G S c L w) (sn : Snc L b c S S0) (hn : gi h 2 1 = n) (n0 : 1 ≤ n ∧ n ≤ 300) (hb : 0 ≤ b) (e0 : n = 1 → b = 0) (e1 : n ≠ 1 → gi h 3 (n - 2) = b) (hed : 0 ≤ gi h 2 6 ∧ gi h 2 6 ≤ 100000)
    (cont : ∀ h', Fix h' → CL h' G S0 b L w → Pr (Xs G) h h' → (∀ i, i ≠ 5 → i ≠ 6 → i ≠ 1 → gi h' 2 i = gi h 2 i) → gi h' 2 1 = n - 1 → gi h' 2 6 = gi h 2 6 + 1 → Grw h h' ∧ nn h' = nn h ∧ us h' = us h → Q none h') : Ok 16 0 [some (vR (some 2)), none, none, none] [] h Q := by
  have c2 := cl.2.2.1
  obtain ⟨s1, s2⟩ := sn
  have hK : c ≤ 40000 := by
    obtain ⟨_, _, _, _, _, _, _, K, _, _, _, _, _, _, _, _, _, _, ck, _, K2, _⟩ := cl
    omega
  have c0 := cl.2.2.2.1
  have cl1 : CL (si h 2 1 (n - 1)) G S c L w := by
    obtain ⟨hG, hS, h5, c0, a, b', d, K, q2, q3, q4, la, lb, ld, hbd, sa, sb, sd, ck, K1, K2, hu, hL⟩ := cl
    refine ⟨hG, fun p m j hp hj => ?_, ?_, c0, a, b', d, K, q2, q3, q4, la, lb, ld, hbd, sa, sb, sd, ck, K1, K2, hu, fun j hj => ?_⟩
    · have := hp.rng
      rw [gi_si_o (by omega)]; exact hS p m j hp hj
    · rw [gi_si_k (by decide)]; exact h5
    · rw [gi_si_o lb.ne2, gi_si_o ld.ne2]; exact hL j hj
  have go : Ok 16 28 [some (vR (some 2)), some (vI b), some (vI (c - 1)), none] [] (si h 2 1 (n - 1)) Q := by
    refine c_goBack_28 (h0 := si h 2 1 (n - 1)) hK hb hed (fun h' F' cl' pr' g' e' m' => cont h' F' cl' (Pr.trans (fun p hp => Kp.refl.si hp.ne2) pr') (fun i i5 i6 i1 => by rw [g' i i5 i6, gi_si_k i1]) (by rw [g' 1 (by decide) (by decide), gi_si_e]) e' m') _ _ S (c - 1) rfl (by omega) (by omega) hF cl1 Pr.refl (fun _ _ => rfl) (by rw [gi_si_k (by decide)]) ⟨⟨Nat.le_refl _, fun _ _ => rfl⟩, rfl, rfl⟩ ?_
    rw [← s2]
    congr 1
    omega
  refine f_X1_goBack_0 hF ?_
  rw [hn, c2]
  refine ⟨fun _ => ⟨⟨by omega, by omega⟩, fun c1 => ⟨⟨by omega, by omega⟩, ⟨by omega, by omega⟩, ⟨by omega, by omega⟩, ?_⟩, fun c1 => ⟨⟨by omega, by omega⟩, ?_⟩⟩, fun c1 => by omega⟩
  · rw [show n - 1 - 1 = n - 2 by omega, e1 (by omega)]
    exact go
  · have : b = 0 := e0 (by omega)
    rw [this] at go
    exact go
