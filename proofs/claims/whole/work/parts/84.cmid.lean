/-! WITHIN AN ACT of the class -/
theorem Lg.mono {h : AH} {n : Nat} {Ss : Nat → DD} {E : Nat → Int} {L : Int → Nat × Int × Int} (l : Lg h n Ss E L) : ∀ k j : Nat, j + k ≤ n → E j ≤ E (j + k) ∧ Ss j 68 0 ≤ Ss (j + k) 68 0 := by
  intro k
  induction k with
  | zero => intro j _; exact ⟨Int.le_refl _, Int.le_refl _⟩
  | succ k ih =>
    intro j hj
    have h1 := ih j (by omega)
    obtain ⟨_, h2, _, h4, _⟩ := l.2.2.2 (j + k) (by omega)
    have h3 := h2.1
    have e : j + (k + 1) = j + k + 1 := rfl
    rw [e]
    omega
theorem Lg.le {h : AH} {n : Nat} {Ss : Nat → DD} {E : Nat → Int} {L : Int → Nat × Int × Int} (l : Lg h n Ss E L) {j : Nat} (hj : j ≤ n) : E j ≤ E n ∧ Ss j 68 0 ≤ Ss n 68 0 := by
  have := l.mono (n - j) j (by omega)
  rw [show j + (n - j) = n by omega] at this
  exact this
theorem Lg.bd {h : AH} {n : Nat} {Ss : Nat → DD} {E : Nat → Int} {L : Int → Nat × Int × Int} (l : Lg h n Ss E L) : ∀ j : Nat, j ≤ n → 0 ≤ E j ∧ E j ≤ 40 * j ∧ 0 ≤ Ss j 68 0 ∧ Ss j 68 0 ≤ j := by
  intro j
  induction j with
  | zero => intro _; rw [l.2.1, l.2.2.1]; omega
  | succ j ih =>
    intro hj
    have h1 := ih (by omega)
    obtain ⟨_, h2, h3, h4, h5⟩ := l.2.2.2 j (by omega)
    have := h2.1
    push_cast
    omega
theorem Snc.congr {L L' : Int → Nat × Int × Int} {b c : Int} {S S0 : DD} (s : Snc L b c S S0) (h : ∀ i, i < c → L' i = L i) : Snc L' b c S S0 := ⟨s.1, by rw [rst_congr (L := L) (fun i _ h2 => h i (by have := s.1; omega))]; exact s.2⟩
theorem Lg.L {h h' : AH} {n : Nat} {Ss : Nat → DD} {E : Nat → Int} {L L' : Int → Nat × Int × Int} (l : Lg h n Ss E L) (hh : ∀ j : Int, gi h' 3 j = gi h 3 j) (hL : ∀ i, i < E n → L' i = L i) : Lg h' n Ss E L' := by
  refine ⟨l.1, l.2.1, l.2.2.1, fun j hj => ?_⟩
  obtain ⟨h1, h2, h3⟩ := l.2.2.2 j hj
  have := (l.le (j := j + 1) (by omega)).1
  exact ⟨by rw [hh]; exact h1, h2.congr (fun i hi => hL i (by omega)), h3⟩
theorem FO.kp {h h' : AH} {G : Nat → Prop} {o : Nat} {t : Int → Int} (f : FO h G o t) (k : ∀ o, G o → Kp o h h') : FO h' G o t := by
  obtain ⟨f1, f2, f3, f4, ⟨a, f5, f6, f7, f8⟩, f9⟩ := f
  have ko := k o f1
  have ka := k a f6
  refine ⟨f1, by rw [ko.2.2.2.2]; exact f2, by rw [ko.1]; exact f3, by rw [ko.1]; exact f4, ⟨a, by rw [ko.2.2.2.1]; exact f5, f6, by rw [ka.2.2.2.2]; exact f7, fun i hi => by rw [ka.1]; exact f8 i hi⟩, ?_⟩
  rw [ko.1, ko.2.2.1]; exact f9
theorem FO.mono {h : AH} {G G' : Nat → Prop} {o : Nat} {t : Int → Int} (f : FO h G o t) (k : ∀ o, G o → G' o) : FO h G' o t := by
  obtain ⟨f1, f2, f3, f4, ⟨a, f5, f6, f7, f8⟩, f9⟩ := f
  exact ⟨k _ f1, f2, f3, f4, ⟨a, f5, k _ f6, f7, f8⟩, f9⟩
theorem FTo.kp {h h' : AH} {G : Nat → Prop} {T : FD} {m : Int} (f : FTo h G T m) (k : ∀ o, G o → Kp o h h') (k48 : gr h' 48 = gr h 48) : FTo h' G T m := fun id hi => by
  obtain ⟨f1, f2, o, f3, f4⟩ := f id hi
  exact ⟨f1, f2, o, by rw [k48]; exact f3, f4.kp k⟩
def Twr (h : AH) (G : Nat → Prop) (w c k : Int) : Prop := ∃ (x : Nat) (K : Int), gr h 86 13 = some x ∧ (x = 93 ∨ 136 ≤ x) ∧ x < nn h ∧ ¬ G x ∧ sh h x = (2, K) ∧ 16 ≤ K ∧ (K ≤ 65536 ∧ isP2 K) ∧ w ≤ 500000 + 2000 * c + 2 * K + 40 * k
/-- rows that an act's puts leave -/
def KO (o : Nat) : Prop := o < 136 ∧ o ≠ 2 ∧ (∀ n, ¬ Cl o n) ∧ o ≠ 4 ∧ o ≠ 5 ∧ o ≠ 6 ∧ o ≠ 7 ∧ o ≠ 48
theorem KO.xs {G : Nat → Prop} {o : Nat} (k : KO o) : Xs G o := Or.inl ⟨k.1, k.2.1, k.2.2.1, k.2.2.2.1, k.2.2.2.2.1, k.2.2.2.2.2.1⟩
theorem KO_of {o : Nat} (h : o < 136) (h2 : o ≠ 2 ∧ o ≠ 4 ∧ o ≠ 5 ∧ o ≠ 6 ∧ o ≠ 7 ∧ o ≠ 48) (h3 : o < 10 ∨ 68 < o ∨ o % 2 = 1 ∨ (20 < o ∧ o < 40)) : KO o := ⟨h, h2.1, fun n c => by
  have e : ∀ e ∈ colL, ¬ (20 < e.1 ∧ e.1 < 40) := by decide +kernel
  have := c.rng
  have := e _ c
  simp only at this
  omega, h2.2.1, h2.2.2.1, h2.2.2.2.1, h2.2.2.2.2.1, h2.2.2.2.2.2⟩
/-- k puts into an act; e: the units' edition went on; f: finds made -/
def CMid (h0 : AH) (G : Nat → Prop) (n : Nat) (Ds : Nat → DD) (c : Int) (S : DD) (T : FD) (k e f : Int) (h : AH) : Prop := ∃ (Ss : Nat → DD) (E : Nat → Int) (L : Int → Nat × Int × Int) (w cc : Int),
  CL h G S cc L w ∧ Snc L (E n) cc S (Ss n) ∧ cc ≤ E n + k ∧ Lg h n Ss E L ∧ (∀ j, j ≤ n → RC (Ss j) T (Ds j)) ∧ FTo h G T (S 68 0) ∧ S 68 0 = Ss n 68 0 + f ∧ (∀ o, KO o → Kp o h0 h) ∧ (∀ i, i ≠ 5 → gi h 2 i = gi h0 2 i) ∧ (∀ i, i ≠ 8 → gi h 7 i = gi h0 7 i) ∧ gi h 7 8 = gi h0 7 8 + e ∧ gi h0 2 1 = n ∧ (nn h : Int) ≤ 139 + 150 * c + 3 * k ∧ Twr h G w c k
theorem CInv.mid {h : AH} {n : Nat} {Ds : Nat → DD} {Z : DD} {c : Int} (ci : CInv h n Ds Z c) : ∃ G S T, CMid h G n Ds c S T 0 0 0 h ∧ RC S T (Ds n) := by
  obtain ⟨G, Ss, T, E, L, w, c1, c2, c3, c4, c5, c6, c7, c8⟩ := ci
  obtain ⟨r1, r2, r3, x, K, r4, r5, r6, r7, r8, r9, r10, r11⟩ := c8
  exact ⟨G, Ss n, T, ⟨Ss, E, L, w, E n, c1, Snc.refl, by omega, c3, c4, c5, by omega, fun _ _ => Kp.refl, fun _ _ => rfl, fun _ _ => rfl, by omega, c2, by omega, x, K, r4, r5, r6, r7, r8, r9, r10, by omega⟩, c4 n (Nat.le_refl _)⟩
theorem Twr.kp {h h' : AH} {G : Nat → Prop} {w c k k' : Int} (t : Twr h G w c k) (hk : k ≤ k') (k86 : gr h' 86 = gr h 86) (gw : Grw h h') : Twr h' G w c k' := by
  obtain ⟨x, K, r4, r5, r6, r7, r8, r9, r10, r11⟩ := t
  exact ⟨x, K, by rw [k86]; exact r4, r5, Nat.lt_of_lt_of_le r6 gw.1, r7, by rw [gw.2 x r6]; exact r8, r9, r10, by omega⟩
theorem c_putM {h0 h : AH} {Q : Option AV → AH → Prop} {G : Nat → Prop} {n : Nat} {Ds : Nat → DD} {c : Int} {S : DD} {T : FD} {k e f : Int} {o : Nat} {N i v : Int} (hF : Fix h) (m : CMid h0 G n Ds c S T k e f h) (hk : k ≤ 100) (co : Cl (o + 1) N) (o67 : o ≠ 67) (hi : In N i)
    (cont : ∀ h', Fix h' → CMid h0 G n Ds c (up S (o + 1) i v) T (k + 1) e f h' → Pr (Xs G) h h' → Q none h') : Ok 18 0 [some (vR (some o)), some (vI i), some (vI v)] [] h Q := by
  obtain ⟨Ss, E, L, w, cc, m1, m2, m3, m4, m5, m6, m7, m8, m9, m10, m11, m12, m13, m14⟩ := m
  have b := m4.bd n (Nat.le_refl _)
  have b0 := m4.1
  have s1 := m2.1
  refine c_put (b := E n) hF (by omega) co hi m1 m2 (fun h' c' L' F' cl' pr' g2 gw cc' l' sn' => cont h' F' ⟨Ss, E, L', w, c', cl', sn', by omega, m4.L (fun j => ?_) (fun i hi => l' i (by omega)), m5, ?_, ?_, fun o ho => (m8 o ho).trans (pr' o ho.xs), fun i hi => (g2 i hi).trans (m9 i hi), fun i hi => ?_, ?_, m12, by have := gw.2; omega, m14.kp (by omega) (pr' 86 ?_).2.2.2.1 gw.1⟩ pr')
  · exact congrFun (pr' 3 (KO.xs (KO_of (by decide) (by decide) (by decide)))).1 j
  · rw [up_o (by omega)]
    refine m6.kp (fun o ho => pr' o (Or.inr ⟨(m1.1 o ho).1, ho⟩)) (pr' 48 (Or.inl ⟨by decide, by decide, fun n c => ?_, by decide, by decide, by decide⟩)).2.2.2.1
    have e : ∀ e ∈ colL, e.1 ≠ 48 := by decide +kernel
    exact e _ c rfl
  · rw [up_o (by omega)]; exact m7
  · rw [congrFun (pr' 7 (Or.inl ⟨by decide, by decide, Cl_no (by decide), by decide, by decide, by decide⟩)).1 i]; exact m10 i hi
  · rw [congrFun (pr' 7 (Or.inl ⟨by decide, by decide, Cl_no (by decide), by decide, by decide, by decide⟩)).1 8]; exact m11
  · exact KO.xs (KO_of (by decide) (by decide) (by decide))
/-- the units' edition goes on -/
theorem CMid.ed {h0 h : AH} {G : Nat → Prop} {n : Nat} {Ds : Nat → DD} {c : Int} {S : DD} {T : FD} {k e f : Int} (m : CMid h0 G n Ds c S T k e f h) : CMid h0 G n Ds c S T k (e + 1) f (si h 7 8 (gi h 7 8 + 1)) := by
  obtain ⟨Ss, E, L, w, cc, m1, m2, m3, m4, m5, m6, m7, m8, m9, m10, m11, m12, m13, m14⟩ := m
  refine ⟨Ss, E, L, w, cc, ?_, m2, m3, m4.L (fun j => by rw [gi_si_o (by decide)]) (fun _ _ => rfl), m5, m6.kp (fun o ho => Kp.refl.si (by have := (m1.1 o ho).1; omega)) rfl, m7, fun o ho => (m8 o ho).si ho.2.2.2.2.2.2.1, fun i hi => by rw [gi_si_o (by decide)]; exact m9 i hi, fun i hi => by rw [gi_si_k hi]; exact m10 i hi, by rw [gi_si_e, m11]; omega, m12, m13, m14⟩
  obtain ⟨hG, hS, h5, c0, a, b, d, K, g2, g3, g4, la, lb, ld, hbd, sa, sb, sd, ck, K1, K2, hu, hL⟩ := m1
  refine ⟨hG, fun p m j hp hj => ?_, by rw [gi_si_o (by decide)]; exact h5, c0, a, b, d, K, g2, g3, g4, la, lb, ld, hbd, sa, sb, sd, ck, K1, K2, hu, fun i hi => ?_⟩
  · have := hp.rng
    rw [gi_si_o (by omega)]; exact hS p m j hp hj
  · rw [gi_si_o (by have := lb.1; omega), gi_si_o (by have := ld.1; omega)]; exact hL i hi
