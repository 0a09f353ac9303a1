/-! the columns hold S; the log has c entries L; G: objects that no put touches -/
def LA (h : AH) (G : Nat → Prop) (x : Nat) : Prop := (x = 4 ∨ x = 5 ∨ x = 6 ∨ 136 ≤ x) ∧ x < nn h ∧ ¬ G x
def CL (h : AH) (G : Nat → Prop) (S : DD) (c : Int) (L : Int → Nat × Int × Int) (w : Int) : Prop :=
  (∀ o, G o → 136 ≤ o ∧ o < nn h) ∧ (∀ o n k, Cl o n → In n k → gi h o k = S o k) ∧ gi h 2 5 = c ∧ 0 ≤ c ∧
  ∃ (a b d : Nat) (K : Int), gr h 2 2 = some a ∧ gr h 2 3 = some b ∧ gr h 2 4 = some d ∧ LA h G a ∧ LA h G b ∧ LA h G d ∧ b ≠ d ∧ sh h a = (3, K) ∧ sh h b = (0, K) ∧ sh h d = (0, K) ∧
    c ≤ K ∧ 128 ≤ K ∧ K ≤ 40000 ∧ (us h : Int) ≤ w + 6 * K ∧ ∀ i, In c i → gr h a i = some (L i).1 ∧ gi h b i = (L i).2.1 ∧ gi h d i = (L i).2.2 ∧ ∃ n, Cl ((L i).1 + 1) n ∧ In n (L i).2.1
/-- what no put touches -/
def Xs (G : Nat → Prop) (o : Nat) : Prop := (o < 136 ∧ o ≠ 2 ∧ (∀ n, ¬ Cl o n) ∧ o ≠ 4 ∧ o ≠ 5 ∧ o ≠ 6) ∨ 136 ≤ o ∧ G o
theorem Cl_no {o : Nat} (h : o < 10 ∨ 68 < o ∨ o % 2 = 1) : ∀ n, ¬ Cl o n := fun n c => by have := c.rng; omega
/-- the log's entries c .. put back -/
def rst (L : Int → Nat × Int × Int) (b : Int) : Nat → DD → DD
  | 0, S => S
  | k + 1, S => rst L b k (up S ((L (b + k)).1 + 1) (L (b + k)).2.1 (L (b + k)).2.2)
theorem rst_congr {L L' : Int → Nat × Int × Int} {b : Int} : ∀ {k : Nat} {S : DD}, (∀ i, b ≤ i → i < b + k → L' i = L i) → rst L' b k S = rst L b k S
  | 0, S, _ => rfl
  | k + 1, S, h => by
    unfold rst
    rw [h (b + k) (by omega) (by omega)]
    exact rst_congr (fun i h1 h2 => h i h1 (by omega))
theorem up_up {S : DD} {o : Nat} {k v : Int} : up (up S o k v) o k (S o k) = S := by
  funext a b
  unfold up
  by_cases h : a = o ∧ b = k
  · rw [if_pos h, h.1, h.2]
  · rw [if_neg h, if_neg h]
theorem up_id {S : DD} {o : Nat} {k : Int} : up S o k (S o k) = S := by
  funext a b
  unfold up
  by_cases h : a = o ∧ b = k
  · rw [if_pos h, h.1, h.2]
  · rw [if_neg h]
/-- S came from S0 since the log had b entries -/
def Snc (L : Int → Nat × Int × Int) (b c : Int) (S S0 : DD) : Prop := b ≤ c ∧ rst L b (c - b).toNat S = S0
theorem Snc.refl {L : Int → Nat × Int × Int} {b : Int} {S : DD} : Snc L b b S S := ⟨Int.le_refl _, by rw [show (b - b).toNat = 0 by omega]; rfl⟩
theorem Snc.add {L L' : Int → Nat × Int × Int} {b c : Int} {S S0 : DD} {o : Nat} {k v : Int} (s : Snc L b c S S0) (h1 : ∀ i, i < c → L' i = L i) (h2 : L' c = (o, k, S (o + 1) k)) : Snc L' b (c + 1) (up S (o + 1) k v) S0 := by
  obtain ⟨s1, s2⟩ := s
  refine ⟨by omega, ?_⟩
  have e : (c + 1 - b).toNat = (c - b).toNat + 1 := by omega
  have ec : b + ((c - b).toNat : Int) = c := by omega
  rw [e]
  unfold rst
  rw [ec, h2]
  show rst L' b (c - b).toNat (up (up S (o + 1) k v) (o + 1) k (S (o + 1) k)) = S0
  rw [up_up, rst_congr (L := L) (fun i _ h => h1 i (by omega))]
  exact s2
def RmT (h : AH) (p1 : Nat) (p2 p3 : Int) (Q : Option AV → AH → Prop) : Prop :=
  ∃ a_2 : Nat, gr h 2 2 = some a_2 ∧ (((sh h a_2).1 = 3 ∧ (sh h p1).1 = 12 ∨ (sh h a_2).1 = 4 ∧ (sh h p1).1 = 13) ∧ 0 ≤ gi h 2 5 ∧ gi h 2 5 < (sh h a_2).2) ∧ ∃ a_3 : Nat, gr (sr h a_2 (gi h 2 5) (some p1)) 2 3 = some a_3 ∧ ((sh h a_3).1 = 0 ∧ 0 ≤ gi h 2 5 ∧ gi h 2 5 < (sh h a_3).2) ∧
    ∃ a_4 : Nat, gr (si (sr h a_2 (gi h 2 5) (some p1)) a_3 (gi h 2 5) p2) 2 4 = some a_4 ∧ ((sh h a_4).1 = 0 ∧ 0 ≤ gi (si (sr h a_2 (gi h 2 5) (some p1)) a_3 (gi h 2 5) p2) 2 5 ∧ gi (si (sr h a_2 (gi h 2 5) (some p1)) a_3 (gi h 2 5) p2) 2 5 < (sh h a_4).2) ∧
    (-2147483648 ≤ (gi (si (si (sr h a_2 (gi h 2 5) (some p1)) a_3 (gi h 2 5) p2) a_4 (gi (si (sr h a_2 (gi h 2 5) (some p1)) a_3 (gi h 2 5) p2) 2 5) p3) 2 5) + 1 ∧ (gi (si (si (sr h a_2 (gi h 2 5) (some p1)) a_3 (gi h 2 5) p2) a_4 (gi (si (sr h a_2 (gi h 2 5) (some p1)) a_3 (gi h 2 5) p2) 2 5) p3) 2 5) + 1 < 2147483648) ∧
    Q none (si (si (si (sr h a_2 (gi h 2 5) (some p1)) a_3 (gi h 2 5) p2) a_4 (gi (si (sr h a_2 (gi h 2 5) (some p1)) a_3 (gi h 2 5) p2) 2 5) p3) 2 5 ((gi (si (si (sr h a_2 (gi h 2 5) (some p1)) a_3 (gi h 2 5) p2) a_4 (gi (si (sr h a_2 (gi h 2 5) (some p1)) a_3 (gi h 2 5) p2) 2 5) p3) 2 5) + 1))
theorem LA.ne2 {h : AH} {G : Nat → Prop} {x : Nat} (l : LA h G x) : x ≠ 2 := by have := l.1; omega
theorem LA.ncl {h : AH} {G : Nat → Prop} {x o : Nat} {n : Int} (l : LA h G x) (c : Cl o n) : o ≠ x := by have := l.1; have := c.rng; omega
theorem LA.nxs {h : AH} {G : Nat → Prop} {x o : Nat} (l : LA h G x) (c : Xs G o) : o ≠ x := by
  rcases c with c | c
  · have := l.1; omega
  · intro e; exact l.2.2 (e ▸ c.2)
/-- objects stay, more may come -/
def Grw (h h' : AH) : Prop := nn h ≤ nn h' ∧ ∀ o, o < nn h → sh h' o = sh h o
theorem Grw.trans {h1 h2 h3 : AH} (a : Grw h1 h2) (b : Grw h2 h3) : Grw h1 h3 := ⟨Nat.le_trans a.1 b.1, fun o ho => (b.2 o (Nat.lt_of_lt_of_le ho a.1)).trans (a.2 o ho)⟩
/-- an entry more, where there is room -/
theorem RmT_ok {h : AH} {Q : Option AV → AH → Prop} {G : Nat → Prop} {S : DD} {c w : Int} {L : Int → Nat × Int × Int} {o : Nat} {n k v : Int} (hF : Fix h) (hc : c ≤ 20000) (co : Cl (o + 1) n) (hk : In n k)
    (cl : (∀ o, G o → 136 ≤ o ∧ o < nn h) ∧ (∀ o n k, Cl o n → In n k → gi h o k = S o k) ∧ gi h 2 5 = c ∧ 0 ≤ c ∧
      ∃ (a b d : Nat) (K : Int), gr h 2 2 = some a ∧ gr h 2 3 = some b ∧ gr h 2 4 = some d ∧ LA h G a ∧ LA h G b ∧ LA h G d ∧ b ≠ d ∧ sh h a = (3, K) ∧ sh h b = (0, K) ∧ sh h d = (0, K) ∧
        c < K ∧ 128 ≤ K ∧ K ≤ 40000 ∧ (us h : Int) ≤ w + 6 * K ∧ ∀ i, In c i → gr h a i = some (L i).1 ∧ gi h b i = (L i).2.1 ∧ gi h d i = (L i).2.2 ∧ ∃ n, Cl ((L i).1 + 1) n ∧ In n (L i).2.1)
    (cont : ∀ h' L', Fix h' → CL h' G S (c + 1) L' w → Pr (Xs G) h h' → (∀ i, i ≠ 5 → gi h' 2 i = gi h 2 i) → Grw h h' ∧ nn h' = nn h → (∀ i, i < c → L' i = L i) → L' c = (o, k, v) → Q none h') :
    RmT h o k v Q := by
  obtain ⟨hG, hS, h5, c0, a, b, d, K, g2, g3, g4, la, lb, ld, hbd, sa, sb, sd, ck, K1, K2, hu, hL⟩ := cl
  have ob := co.ob hF
  have hn := hF.2.2
  have ab : a ≠ b := fun e => by rw [e, sb] at sa; cases sa
  have ad : a ≠ d := fun e => by rw [e, sd] at sa; cases sa
  have s12 : (sh h o).1 = 12 := ob.1
  have e5 : gi (si (sr h a c (some o)) b c k) 2 5 = c := by rw [gi_si_o (Ne.symm lb.ne2)]; exact h5
  have e5' : gi (si (si (sr h a c (some o)) b c k) d c v) 2 5 = c := by rw [gi_si_o (Ne.symm ld.ne2)]; exact e5
  unfold RmT
  rw [h5]
  refine ⟨a, g2, ⟨Or.inl ⟨by rw [sa], s12⟩, c0, by rw [sa]; exact ck⟩, b, by rw [gr_sr_o (Ne.symm la.ne2)]; exact g3, ⟨by rw [sb], c0, by rw [sb]; exact ck⟩, d, ?_, ?_⟩
  · show gr (sr h a c (some o)) 2 4 = _
    rw [gr_sr_o (Ne.symm la.ne2)]; exact g4
  rw [e5, e5']
  refine ⟨⟨by rw [sd], c0, by rw [sd]; exact ck⟩, ⟨by omega, by omega⟩, ?_⟩
  have gr2 : gr (sr h a c (some o)) 2 = gr h 2 := funext fun j => gr_sr_o (Ne.symm la.ne2)
  have F1 : Fix (sr h a c (some o)) := hF.srT (by rw [sa]; show (3 : Nat) < 10; decide)
  have F' : Fix (si (si (si (sr h a c (some o)) b c k) d c v) 2 5 (c + 1)) := F1
  refine cont _ (fun i => if i = c then (o, k, v) else L i) F' ⟨hG, fun p m j hp hj => ?_, gi_si_e, by omega, a, b, d, K, by show gr (sr h a c (some o)) 2 2 = _; rw [gr2]; exact g2, by show gr (sr h a c (some o)) 2 3 = _; rw [gr2]; exact g3, by show gr (sr h a c (some o)) 2 4 = _; rw [gr2]; exact g4, la, lb, ld, hbd, sa, sb, sd, by omega, K1, K2, hu, fun i hi => ?_⟩ (fun p hp => ?_) (fun i hi => ?_) ⟨⟨Nat.le_refl _, fun _ _ => rfl⟩, rfl⟩ (fun i hi => by rw [if_neg (by omega)]) (by rw [if_pos rfl])
  · have := hp.rng
    rw [gi_si_o (by omega), gi_si_o (ld.ncl hp), gi_si_o (lb.ncl hp)]
    exact hS p m j hp hj
  · rw [gi_si_o lb.ne2, gi_si_o ld.ne2]
    by_cases e : i = c
    · subst e
      simp only [if_pos]
      refine ⟨gr_sr_e, ?_, gi_si_e, n, co, hk⟩
      rw [gi_si_o hbd, gi_si_e]
    · simp only [if_neg e]
      obtain ⟨l1, l2, l3, l4⟩ := hL i ⟨hi.1, by have := hi.2; omega⟩
      refine ⟨?_, ?_, ?_, l4⟩
      · show gr (sr h a c (some o)) a i = _
        rw [gr_sr_k e]; exact l1
      · rw [gi_si_o hbd, gi_si_k e]; exact l2
      · rw [gi_si_k e, gi_si_o (Ne.symm hbd)]; exact l3
  · have p2 : p ≠ 2 := by
      rcases hp with hp | hp
      · exact hp.2.1
      · omega
    exact (((Kp.refl.sr (la.nxs hp)).si (lb.nxs hp)).si (ld.nxs hp)).si p2
  · rw [gi_si_k hi, gi_si_o (Ne.symm ld.ne2), gi_si_o (Ne.symm lb.ne2)]
    rfl
theorem c_remember {h : AH} {Q : Option AV → AH → Prop} {G : Nat → Prop} {S : DD} {c w : Int} {L : Int → Nat × Int × Int} {o : Nat} {n k v : Int} (hF : Fix h) (hc : c ≤ 20000) (co : Cl (o + 1) n) (hk : In n k) (cl : CL h G S c L w)
    (cont : ∀ h' L', Fix h' → CL h' G S (c + 1) L' w → Pr (Xs G) h h' → (∀ i, i ≠ 5 → gi h' 2 i = gi h 2 i) → Grw h h' ∧ nn h' ≤ nn h + 3 → (∀ i, i < c → L' i = L i) → L' c = (o, k, v) → Q none h') :
    Ok 13 0 [some (vR (some 2)), some (vR (some o)), some (vI k), some (vI v)] [] h Q := by
  obtain ⟨hG, hS, h5, c0, a, b, d, K, g2, g3, g4, la, lb, ld, hbd, sa, sb, sd, ck, K1, K2, hu, hL⟩ := cl
  refine f_X1_remember_0 hF _ _ _ ⟨d, g4, by rw [sd]; show (0 : Nat) < 10; decide, fun c1 => ?_, fun c1 => ?_⟩
  · rw [sd, h5] at c1
    exact RmT_ok hF hc co hk ⟨hG, hS, h5, c0, a, b, d, K, g2, g3, g4, la, lb, ld, hbd, sa, sb, sd, c1, K1, K2, hu, hL⟩ (fun h' L' F' cl' p x m l1 l2 => cont h' L' F' cl' p x ⟨m.1, by have := m.2; omega⟩ l1 l2)
  · rw [sd, h5] at c1
    have eK : c = K := by have : ¬ c < K := c1; omega
    refine c_grow (K := K) hF g2 g3 g4 la.2.1 lb.2.1 ld.2.1 sa sb sd ⟨K1, by omega⟩ (fun i hi => ?_) (fun h1 F1 kp e2 s2 r2 r3 r4 n1 u1 sa1 sb1 sd1 cp => ⟨rfl, F1, ?_⟩)
    · obtain ⟨l1, _, _, m, l4, _⟩ := hL i (by rw [eK]; exact hi)
      refine ⟨_, l1, by have := l4.rng; omega, hF.2.1 _ (col_fix _ l4).2.1⟩
    · have hn := hF.2.2
      have cl1 : (∀ o, G o → 136 ≤ o ∧ o < nn h1) ∧ (∀ o n k, Cl o n → In n k → gi h1 o k = S o k) ∧ gi h1 2 5 = c ∧ 0 ≤ c ∧
        ∃ (a b d : Nat) (K : Int), gr h1 2 2 = some a ∧ gr h1 2 3 = some b ∧ gr h1 2 4 = some d ∧ LA h1 G a ∧ LA h1 G b ∧ LA h1 G d ∧ b ≠ d ∧ sh h1 a = (3, K) ∧ sh h1 b = (0, K) ∧ sh h1 d = (0, K) ∧
        c < K ∧ 128 ≤ K ∧ K ≤ 40000 ∧ (us h1 : Int) ≤ w + 6 * K ∧ ∀ i, In c i → gr h1 a i = some (L i).1 ∧ gi h1 b i = (L i).2.1 ∧ gi h1 d i = (L i).2.2 ∧ ∃ n, Cl ((L i).1 + 1) n ∧ In n (L i).2.1 := by
        refine ⟨fun p hp => ⟨(hG p hp).1, by have := (hG p hp).2; omega⟩, fun p m j hp hj => ?_, by rw [e2]; exact h5, c0, nn h, nn h + 1, nn h + 2, 2 * K, r2, r3, r4, ⟨Or.inr (Or.inr (Or.inr hn)), by omega, fun q => by have := (hG _ q).2; omega⟩, ⟨Or.inr (Or.inr (Or.inr (by omega))), by omega, fun q => by have := (hG _ q).2; omega⟩, ⟨Or.inr (Or.inr (Or.inr (by omega))), by omega, fun q => by have := (hG _ q).2; omega⟩, by omega, sa1, sb1, sd1, by omega, by omega, by omega, by omega, fun i hi => ?_⟩
        · have := hp.rng
          rw [(kp p (by omega) (by omega)).1]
          exact hS p m j hp hj
        · obtain ⟨q1, q2, q3⟩ := cp i (by rw [← eK]; exact hi)
          rw [q1, q2, q3]
          exact hL i hi
      refine RmT_ok F1 hc co hk cl1 (fun h' L' F' cl' p x m l1 l2 => cont h' L' F' cl' (Pr.trans (fun q hq => ?_) p) (fun i hi => by rw [x i hi, e2]) ⟨Grw.trans ⟨by omega, fun q hq => by
        by_cases q2 : q = 2
        · rw [q2]; exact s2
        · exact (kp q hq q2).2.2.2.2⟩ m.1, by have := m.2; omega⟩ l1 l2)
      rcases hq with hq | hq
      · exact kp q (by omega) hq.2.1
      · exact kp q (hG q hq.2).2 (by omega)
/-- a put -/
theorem c_put {h : AH} {Q : Option AV → AH → Prop} {G : Nat → Prop} {S S0 : DD} {b c w : Int} {L : Int → Nat × Int × Int} {o : Nat} {n k v : Int} (hF : Fix h) (hc : c ≤ 20000) (co : Cl (o + 1) n) (hk : In n k) (cl : CL h G S c L w) (sn : Snc L b c S S0)
    (cont : ∀ h' c' L', Fix h' → CL h' G (up S (o + 1) k v) c' L' w → Pr (Xs G) h h' → (∀ i, i ≠ 5 → gi h' 2 i = gi h 2 i) → Grw h h' ∧ nn h' ≤ nn h + 3 → c ≤ c' ∧ c' ≤ c + 1 → (∀ i, i < c → L' i = L i) → Snc L' b c' (up S (o + 1) k v) S0 → Q none h') :
    Ok 18 0 [some (vR (some o)), some (vI k), some (vI v)] [] h Q := by
  have so := co.hs hF
  have k0 := hk.1
  have k1 := hk.2
  have ev : gi h (o + 1) k = S (o + 1) k := cl.2.1 _ _ _ co hk
  refine f_X2_put_0 hF _ _ _ (co.ob hF) ⟨fun c1 => by omega, fun _ => ⟨by rw [so]; show (0 : Nat) < 10; decide, fun c1 => ?_, fun _ => ⟨⟨by rw [so], k0, by rw [so]; exact k1⟩, fun c1 => ?_, fun c1 => ?_⟩⟩⟩
  · rw [so] at c1; exact absurd (show n ≤ k from c1) (by omega)
  · refine c_remember hF hc co hk cl (fun h1 L1 F1 cl1 p1 x1 m1 l1 l2 => ⟨rfl, F1, co.ob F1, ⟨by rw [co.hs F1], k0, by rw [co.hs F1]; exact k1⟩, ?_⟩)
    rw [ev] at l2
    refine cont _ (c + 1) L1 F1 ?_ ?_ (fun i hi => ?_) m1 ⟨by omega, by omega⟩ l1 (sn.add l1 l2)
    · obtain ⟨hG, hS, h5, c0, a, b, d, K, g2, g3, g4, la, lb, ld, hbd, sa, sb, sd, ck, K1, K2, hu, hL⟩ := cl1
      refine ⟨hG, fun p m j hp hj => ?_, ?_, c0, a, b, d, K, g2, g3, g4, la, lb, ld, hbd, sa, sb, sd, ck, K1, K2, hu, fun i hi => ?_⟩
      · by_cases e : p = o + 1 ∧ j = k
        · rw [e.1, e.2, gi_si_e, up_e]
        · rw [gi_si_p, if_neg e]
          unfold up
          rw [if_neg e]
          exact hS p m j hp hj
      · have := co.rng
        rw [gi_si_o (by omega)]; exact h5
      · rw [gi_si_o (Ne.symm (lb.ncl co)), gi_si_o (Ne.symm (ld.ncl co))]
        exact hL i hi
    · intro p hp
      refine (p1 p hp).si ?_
      rcases hp with hp | hp
      · exact fun e => hp.2.2.1 n (e ▸ co)
      · have := co.rng; omega
    · have := co.rng
      rw [gi_si_o (by omega)]; exact x1 i hi
  · have e : v = S (o + 1) k := by rw [← ev]; exact (Decidable.not_not.mp c1).symm
    have e2 : up S (o + 1) k v = S := by rw [e]; exact up_id
    rw [e2] at cont
    exact cont h c L hF cl Pr.refl (fun _ _ => rfl) ⟨⟨Nat.le_refl _, fun _ _ => rfl⟩, by omega⟩ ⟨by omega, by omega⟩ (fun _ _ => rfl) sn
