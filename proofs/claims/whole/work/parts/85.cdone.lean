/-! an act of the class is done, or refused -/
def Gsm (D D' : DD) : Prop := D' 99 1 = D 99 1 ∧ D' 99 7 = D 99 7 ∧ D' 102 = D 102 ∧ D' 106 = D 106 ∧ D' 107 = D 107
def caO : List Nat := [8, 21, 22, 23, 24, 25, 26, 27, 28, 32, 33, 37, 38, 73, 74, 75, 76, 77, 78, 79, 80, 81, 82, 83, 86, 87, 88, 89, 90]
theorem Gsm.la {D D' : DD} (g : Gsm D D') : dla D' = dla D := by funext r; unfold dla; rw [g.2.2.1, g.2.2.2.1]
theorem Gsm.ea {D D' : DD} (g : Gsm D D') : dea D' = dea D := by funext r; unfold dea; rw [g.2.2.1, g.2.2.2.2]
theorem Gsm.bnE {D D' : DD} (g : Gsm D D') : bn D' = bn D := by funext r; unfold bn; rw [g.2.2.1]
theorem Gsm.nBlkE {D D' : DD} (g : Gsm D D') : nBlk D' = nBlk D := by unfold nBlk; rw [g.bnE, g.1]
theorem Gsm.dndE {D D' : DD} (g : Gsm D D') : dnd D' = dnd D := by funext r; unfold dnd; rw [g.la, g.ea, g.2.1]
theorem Gsm.nOrdE {D D' : DD} (g : Gsm D D') : nOrd D' = nOrd D := by
  have e : bfD D' = bfD D := by funext i j; unfold bfD; rw [g.1, g.2.1, g.2.2.1, g.la, g.ea, g.bnE]
  unfold nOrd; rw [g.nBlkE, e]
theorem CaU.gsm {h : AH} {D D' : DD} (g : Gsm D D') (a : CaU h D) : CaU h D' := by unfold CaU; rw [g.1, g.2.2.1, g.nBlkE]; exact a
theorem WebOk.gsm {h : AH} {D D' : DD} (g : Gsm D D') (a : WebOk h D) : WebOk h D' := by unfold WebOk; rw [g.1, g.2.1, g.la, g.ea, g.dndE]; exact a
theorem CaW.gsm {h : AH} {D D' : DD} (g : Gsm D D') (a : CaW h D) : CaW h D' := ⟨a.1, fun e => (a.2 e).gsm g⟩
theorem SeqOk.gsm {h : AH} {D D' : DD} (g : Gsm D D') (a : SeqOk h D) : SeqOk h D' := by unfold SeqOk; rw [g.1, g.2.1, g.2.2.1, g.la, g.ea, g.nBlkE, g.bnE]; exact a
theorem CaS.gsm {h : AH} {D D' : DD} (g : Gsm D D') (a : CaS h D) : CaS h D' := ⟨a.1, a.2.1, a.2.2.1, fun e => (a.2.2.2.1 e).gsm g, fun e => by rw [g.nOrdE]; exact a.2.2.2.2 e⟩
theorem CaU.kp {h h' : AH} {D : DD} (k : ∀ o ∈ caO, gi h' o = gi h o ∧ gl h' o = gl h o) (k7 : gi h' 7 = gi h 7) (a : CaU h D) : CaU h' D := by unfold CaU; rw [k7, (k 8 (by decide)).1]; exact a
theorem CaW.kp {h h' : AH} {D : DD} (k : ∀ o ∈ caO, gi h' o = gi h o ∧ gl h' o = gl h o) (k7 : gi h' 7 8 = gi h 7 8) (a : CaW h D) : CaW h' D := by
  unfold CaW WebOk
  rw [k7, (k 21 (by decide)).1, (k 22 (by decide)).1, (k 23 (by decide)).1, (k 24 (by decide)).1, (k 25 (by decide)).1, (k 26 (by decide)).1, (k 27 (by decide)).1, (k 28 (by decide)).1, (k 37 (by decide)).1, (k 38 (by decide)).1]
  have e : ∀ b : Int, gl h' (if b < 64 then 32 else 33) = gl h (if b < 64 then 32 else 33) := fun b => by
    by_cases q : b < 64
    · rw [if_pos q]; exact (k 32 (by decide)).2
    · rw [if_neg q]; exact (k 33 (by decide)).2
  refine ⟨a.1, fun q => ?_⟩
  obtain ⟨a1, a2, a3, a4, a5, a6⟩ := a.2 q
  exact ⟨a1, a2, a3, a4, fun x y hx hy => by rw [e]; exact a5 x y hx hy, a6⟩
theorem CaS.kp {h h' : AH} {D : DD} (k : ∀ o ∈ caO, gi h' o = gi h o ∧ gl h' o = gl h o) (k7 : gi h' 7 8 = gi h 7 8) (a : CaS h D) : CaS h' D := by
  unfold CaS SeqOk
  rw [k7, (k 86 (by decide)).1, (k 86 (by decide)).2, (k 87 (by decide)).1, (k 88 (by decide)).1, (k 89 (by decide)).1]; exact a
theorem CaY.kp {h h' : AH} {D : DD} (k : ∀ o ∈ caO, gi h' o = gi h o ∧ gl h' o = gl h o) (k2 : gi h' 2 6 = gi h 2 6) (a : CaY h D) : CaY h' D := by
  unfold CaY YrOk QrOk
  rw [k2, (k 73 (by decide)).1, (k 74 (by decide)).1, (k 75 (by decide)).1, (k 76 (by decide)).1, (k 77 (by decide)).1, (k 78 (by decide)).1, (k 79 (by decide)).1, (k 80 (by decide)).1, (k 81 (by decide)).1, (k 82 (by decide)).1, (k 83 (by decide)).1]; exact a
theorem Ca.kp {h h' : AH} {D : DD} (k : ∀ o ∈ caO, gi h' o = gi h o ∧ gl h' o = gl h o) (k7 : gi h' 7 = gi h 7) (k2 : gi h' 2 6 = gi h 2 6) (a : Ca h D) : Ca h' D := ⟨a.1.kp k k7, a.2.1.kp k (congrFun k7 8), a.2.2.1.kp k k2, a.2.2.2.kp k (congrFun k7 8)⟩
/-- after an act -/
theorem Ca.act {h h' : AH} {D D' : DD} {e : Int} (k : ∀ o ∈ caO, gi h' o = gi h o ∧ gl h' o = gl h o) (k7 : ∀ i, i ≠ 8 → gi h' 7 i = gi h 7 i) (e8 : gi h' 7 8 = gi h 7 8 + e) (e6 : gi h' 2 6 = gi h 2 6 + 1) (he : e = 1 ∨ e = 0 ∧ Gsm D D') (a : Ca h D) : Ca h' D' := by
  obtain ⟨a1, a2, a3, a4⟩ := a
  have y : CaY h' D' := by
    have r := (k 73 (by decide)).1
    refine ⟨by rw [r, e6]; have := a3.1; omega, by rw [r]; exact a3.2.1, fun q => ?_⟩
    rw [r, e6] at q
    have := a3.1
    omega
  rcases he with he | ⟨he, g⟩
  · have u := a1.1
    have w := a2.1
    obtain ⟨s1, s2, s3, _⟩ := a4
    have r1 := (k 21 (by decide)).1
    have r2 := (k 86 (by decide)).1
    refine ⟨⟨by rw [k7 9 (by decide), e8]; omega, fun q => ?_⟩, ⟨by rw [r1, e8]; omega, fun q => ?_⟩, y, by rw [r2, e8]; omega, by rw [r2, e8]; omega, by rw [r2, e8]; omega, fun q => ?_, fun q => ?_⟩
    · rw [k7 9 (by decide), e8] at q; omega
    · rw [r1, e8] at q; omega
    · rw [r2, e8] at q; omega
    · rw [r2, e8] at q; omega
  · have k7' : gi h' 7 = gi h 7 := funext fun i => by
      by_cases q : i = 8
      · rw [q, e8]; omega
      · exact k7 i q
    exact ⟨(a1.kp k k7').gsm g, (a2.kp k (congrFun k7' 8)).gsm g, y, (a4.kp k (congrFun k7' 8)).gsm g⟩
/-- the rows of the reference are as they were -/
def Rf (h h' : AH) : Prop := ∀ o, 99 ≤ o → o ≤ 135 → gi h' o = gi h o ∧ gl h' o = gl h o
theorem Rf.trans {h1 h2 h3 : AH} (a : Rf h1 h2) (b : Rf h2 h3) : Rf h1 h3 := fun o p q => ⟨(b o p q).1.trans (a o p q).1, (b o p q).2.trans (a o p q).2⟩
theorem Rf.si {h h' : AH} {o : Nat} {k v : Int} (a : Rf h h') (ho : o < 99 ∨ 135 < o) : Rf h (si h' o k v) := fun p q r => ⟨by rw [gi_si_r (by omega)]; exact (a p q r).1, (a p q r).2⟩
/-- what else answers show: no more than this has changed -/
def Zd (Z Z' : DD) (e : Int) : Prop := (∀ k, 1 ≤ k → k ≤ 6 → Z' 120 k = Z 120 k) ∧ Z' 99 28 = Z 99 28 ∧ Z' 99 29 = Z 99 29 ∧ Z' 121 = Z 121 ∧ Z' 99 31 = Z 99 31 ∧ Z' 122 = Z 122 ∧ (e = 1 → Z' 99 48 = 0) ∧ (e = 0 → Z' 99 48 = Z 99 48) ∧ Z' 134 = Z 134
theorem CZ.act {h h' : AH} {D D' Z Z' : DD} {e x : Int} (k : ∀ o, o = 98 ∨ o = 69 ∨ o = 70 ∨ o = 94 ∨ o = 95 ∨ o = 86 ∨ o = 90 → gi h' o = gi h o) (k10 : gi h' 1 10 = gi h 1 10) (k11 : gi h' 1 11 = x) (e8 : gi h' 7 8 = gi h 7 8 + e) (h8 : gi h 86 8 ≤ gi h 7 8) (he : e = 1 ∨ e = 0 ∧ Gsm D D') (zd : Zd Z Z' e) (zx : Z' 99 27 = x) (z : CZ h D Z) : CZ h' D' Z' := by
  obtain ⟨d1, d2, d3, d4, d5, d6, d7, d8, d9⟩ := zd
  obtain ⟨z1, z2, z3, z4, z5, z6, z7, z8, z9⟩ := z
  unfold CZ
  rw [k 98 (by simp), k 69 (by simp), k 70 (by simp), k 94 (by simp), k 95 (by simp), k 86 (by simp), k 90 (by simp), k10, k11, d2, d3, d4, d5, d6, d9, e8]
  refine ⟨fun i i1 i2 => by rw [d1 i i1 i2]; exact z1 i i1 i2, zx.symm, z3, z4, z5, z6, z7, ?_⟩
  rcases he with he | ⟨he, g⟩
  · rw [d7 he]
    exact ⟨⟨fun q => by omega, fun q => by omega⟩, fun q => by omega⟩
  · rw [d8 he, g.nBlkE, he, Int.add_zero]
    exact ⟨z8, z9⟩
theorem RC.T {S : DD} {T T' : FD} {D : DD} (r : RC S T D) (h : ∀ i, 0 ≤ i → i < S 68 0 → T' i = T i) : RC S T' D := by
  obtain ⟨r1, r2, r3, ⟨r4, r5, r6⟩, r7⟩ := r
  refine ⟨r1, r2, r3, ⟨r4, fun t s ht hs => ?_, r6⟩, r7⟩
  rcases r5 t s ht hs with q | q
  · exact Or.inl q
  · right
    unfold SlotR at *
    rw [h _ q.1 q.2.1]
    exact q
def exE (E : Nat → Int) (n : Nat) (c : Int) : Nat → Int := fun j => if j = n + 1 then c else E j
theorem exE_le {E : Nat → Int} {n : Nat} {c : Int} {j : Nat} (h : j ≤ n) : exE E n c j = E j := if_neg (by omega)
theorem exE_n {E : Nat → Int} {n : Nat} {c : Int} : exE E n c (n + 1) = c := if_pos rfl
theorem CMid.ent {h0 h : AH} {G : Nat → Prop} {n : Nat} {Ds : Nat → DD} {c : Int} {S : DD} {T : FD} {k e f : Int} {Z D' : DD} (hF : Fix h) (m : CMid h0 G n Ds c S T k e f h) (cz : CZ h0 (Ds n) Z) (ca : Ca h0 (Ds n)) (e7 : 0 ≤ gi h0 7 8 ∧ gi h0 7 8 ≤ c) (e2 : 0 ≤ gi h0 2 6 ∧ gi h0 2 6 ≤ c) (hc : c ≤ 1000) (hk : k ≤ 40) (hn : n < 300) (hf : f = 0 ∨ f = 1) (rc : RC S T D') (he : e = 1 ∨ e = 0 ∧ Gsm (Ds n) D') (x0 : Int) :
    Fix (si (si (si (si h 3 n (gi h 2 5)) 2 1 (n + 1)) 2 6 (gi h0 2 6 + 1)) 1 11 x0) ∧ Rf h0 (si (si (si (si h 3 n (gi h 2 5)) 2 1 (n + 1)) 2 6 (gi h0 2 6 + 1)) 1 11 x0) ∧ ∀ Z', Zd Z Z' e → Z' 99 27 = x0 → CInv (si (si (si (si h 3 n (gi h 2 5)) 2 1 (n + 1)) 2 6 (gi h0 2 6 + 1)) 1 11 x0) (n + 1) (ext Ds n D') Z' (c + 1) := by
  obtain ⟨Ss, E, L, w, cc, m1, m2, m3, m4, m5, m6, m7, m8, m9, m10, m11, m12, m13, m14⟩ := m
  have g1 : gi h 2 1 = n := by rw [m9 1 (by decide)]; exact m12
  have g6 : gi h 2 6 = gi h0 2 6 := m9 6 (by decide)
  have h5 := m1.2.2.1
  rw [h5]
  have g : ∀ o, o ≠ 1 → o ≠ 2 → o ≠ 3 → gi (si (si (si (si h 3 n cc) 2 1 (n + 1)) 2 6 (gi h0 2 6 + 1)) 1 11 x0) o = gi h o := fun o o1 o2 o3 => by rw [gi_si_r o1, gi_si_r o2, gi_si_r o2, gi_si_r o3]
  have ko : ∀ o, KO o → o ≠ 1 → o ≠ 3 → gi (si (si (si (si h 3 n cc) 2 1 (n + 1)) 2 6 (gi h0 2 6 + 1)) 1 11 x0) o = gi h0 o := fun o ho o1 o3 => by rw [g o o1 ho.2.1 o3]; exact (m8 o ho).1
  refine ⟨hF, fun o q r => ?_, fun Z' zd zx => ?_⟩
  · have ho : KO o := KO_of (by omega) (by omega) (by omega)
    exact ⟨ko o ho (by omega) (by omega), (m8 o ho).2.1⟩
  · have s1 := m2.1
    refine ⟨G, ext Ss n S, T, exE E n cc, L, w, ?_, ?_, ⟨by omega, ?_, ?_, fun j hj => ?_⟩, fun j hj => ?_, ?_, ?_, ?_, ?_⟩
    · rw [ext_n, exE_n]
      obtain ⟨hG, hS, h5, c0, a, b, d, K, q2, q3, q4, la, lb, ld, hbd, sa, sb, sd, ck, K1, K2, hu, hL⟩ := m1
      refine ⟨hG, fun p m j hp hj => ?_, ?_, c0, a, b, d, K, q2, q3, q4, la, lb, ld, hbd, sa, sb, sd, ck, K1, K2, hu, fun i hi => ?_⟩
      · have := hp.rng
        rw [g p (by omega) (by omega) (by omega)]; exact hS p m j hp hj
      · rw [gi_si_o (by decide), gi_si_k (by decide), gi_si_k (by decide), gi_si_o (by decide)]; exact h5
      · have := lb.1
        have := ld.1
        rw [g b (by omega) (by omega) (by omega), g d (by omega) (by omega) (by omega)]; exact hL i hi
    · rw [gi_si_o (by decide), gi_si_k (by decide), gi_si_e]; push_cast; rfl
    · rw [exE_le (Nat.zero_le _)]; exact m4.2.1
    · rw [ext_le (Nat.zero_le _)]; exact m4.2.2.1
    · have e3 : ∀ i : Int, gi (si (si (si (si h 3 n cc) 2 1 (n + 1)) 2 6 (gi h0 2 6 + 1)) 1 11 x0) 3 i = if i = n then cc else gi h 3 i := fun i => by
        rw [gi_si_o (by decide), gi_si_o (by decide), gi_si_o (by decide), gi_si_p]
        by_cases q : i = n
        · rw [if_pos ⟨rfl, q⟩, if_pos q]
        · rw [if_neg (fun r => q r.2), if_neg q]
      rw [e3]
      by_cases q : j = n
      · subst q
        rw [if_pos rfl, exE_n, exE_le (Nat.le_refl _), ext_n, ext_le (Nat.le_refl _)]
        exact ⟨rfl, m2, by omega, by omega, by omega⟩
      · rw [if_neg (by omega), exE_le (show j ≤ n by omega), exE_le (show j + 1 ≤ n by omega), ext_le (show j ≤ n by omega), ext_le (show j + 1 ≤ n by omega)]
        exact m4.2.2.2 j (by omega)
    · by_cases q : j = n + 1
      · rw [q, ext_n, ext_n]; exact rc
      · rw [ext_le (by omega), ext_le (by omega)]; exact m5 j (by omega)
    · rw [ext_n]
      exact m6.kp (fun o ho => by have := (m1.1 o ho).1; exact (((Kp.refl.si (by omega)).si (by omega)).si (by omega)).si (by omega)) rfl
    · rw [ext_n]
      refine cz.act (e := e) (x := x0) (fun o ho => ko o (KO_of (by omega) (by omega) (by omega)) (by omega) (by omega)) ?_ gi_si_e ?_ ca.2.2.2.2.1 he zd zx
      · rw [gi_si_k (by decide), gi_si_o (by decide), gi_si_o (by decide), gi_si_o (by decide)]; exact congrFun (m8 1 (KO_of (by decide) (by decide) (by decide))).1 10
      · rw [g 7 (by decide) (by decide) (by decide)]; exact m11
    · rw [ext_n]
      have ck : ∀ o ∈ caO, o < 136 ∧ (o ≠ 2 ∧ o ≠ 4 ∧ o ≠ 5 ∧ o ≠ 6 ∧ o ≠ 7 ∧ o ≠ 48) ∧ (o < 10 ∨ 68 < o ∨ o % 2 = 1 ∨ (20 < o ∧ o < 40)) ∧ o ≠ 1 ∧ o ≠ 3 := by decide
      refine ca.act (e := e) (fun o ho => ?_) (fun i hi => ?_) ?_ ?_ he
      · obtain ⟨a1, a2, a3, a4, a5⟩ := ck o ho
        exact ⟨ko o (KO_of a1 a2 a3) a4 a5, (m8 o (KO_of a1 a2 a3)).2.1⟩
      · rw [g 7 (by decide) (by decide) (by decide)]; exact m10 i hi
      · rw [g 7 (by decide) (by decide) (by decide)]; exact m11
      · rw [gi_si_o (by decide), gi_si_e]
    · obtain ⟨y, K, r4, r5, r6, r7, r8, r9, r10, r11⟩ := m14
      refine ⟨?_, ?_, ?_, y, K, r4, r5, r6, r7, r8, r9, r10, by omega⟩
      · rw [g 7 (by decide) (by decide) (by decide), m11]; omega
      · rw [gi_si_o (by decide), gi_si_e]; omega
      · show (nn h : Int) ≤ _
        omega
/-- the book enters an act -/
theorem c_enter {h0 h : AH} {Q : Option AV → AH → Prop} {G : Nat → Prop} {n : Nat} {Ds : Nat → DD} {c : Int} {S : DD} {T : FD} {k e f : Int} (hF : Fix h) (m : CMid h0 G n Ds c S T k e f h) (e2 : 0 ≤ gi h0 2 6 ∧ gi h0 2 6 ≤ c) (hc : c ≤ 1000) (hn : n < 300) (cont : Q none (si (si (si h 3 n (gi h 2 5)) 2 1 (n + 1)) 2 6 (gi h0 2 6 + 1))) : Ok 15 0 [some (vR (some 2))] [] h Q := by
  obtain ⟨Ss, E, L, w, cc, m1, m2, m3, m4, m5, m6, m7, m8, m9, m10, m11, m12, m13, m14⟩ := m
  have g1 : gi h 2 1 = n := by rw [m9 1 (by decide)]; exact m12
  have g6 : gi h 2 6 = gi h0 2 6 := m9 6 (by decide)
  refine f_X1_enter_0 hF ?_
  rw [g1, g6]
  exact ⟨fun q => by omega, fun _ => ⟨⟨by omega, by omega⟩, ⟨by omega, by omega⟩, ⟨by omega, by omega⟩, cont⟩⟩
theorem c_done {h0 h : AH} {Q : Option AV → AH → Prop} {G : Nat → Prop} {n : Nat} {Ds : Nat → DD} {c : Int} {S : DD} {T : FD} {k e f x : Int} {Z D' : DD} (hF : Fix h) (m : CMid h0 G n Ds c S T k e f h) (cz : CZ h0 (Ds n) Z) (ca : Ca h0 (Ds n)) (e7 : 0 ≤ gi h0 7 8 ∧ gi h0 7 8 ≤ c) (e2 : 0 ≤ gi h0 2 6 ∧ gi h0 2 6 ≤ c) (hc : c ≤ 1000) (hk : k ≤ 40) (hn : n < 300) (hf : f = 0 ∨ f = 1) (rc : RC S T D') (he : e = 1 ∨ e = 0 ∧ Gsm (Ds n) D')
    (cont : ∀ h', Fix h' → Rf h0 h' → (∀ Z', Zd Z Z' e → Z' 99 27 = 0 → CInv h' (n + 1) (ext Ds n D') Z' (c + 1)) → Q (some (vI x)) h') : Ok 131 0 [some (vR (some 1)), some (vI x)] [] h Q := by
  obtain ⟨a1, a2, a3⟩ := m.ent hF cz ca e7 e2 hc hk hn hf rc he 0
  exact f_X11_done_0 hF _ (c_enter hF m e2 hc hn ⟨rfl, hF, cont _ a1 a2 a3⟩)
