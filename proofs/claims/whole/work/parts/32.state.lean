/-! THE STATE OF THE DIG as the reference holds it: rows by the reference's object numbers -/
abbrev DD : Type := Nat → Int → Int
/-- the ints of a heap, all else as it is -/
def sg (h : AH) (G : DD) : AH := (G, h.2)
def up (D : DD) (o : Nat) (k v : Int) : DD := fun a b => if a = o ∧ b = k then v else D a b
theorem up_e {D : DD} {o : Nat} {k v : Int} : up D o k v o k = v := if_pos ⟨rfl, rfl⟩
theorem up_o {D : DD} {o p : Nat} {k j v : Int} (hn : p ≠ o) : up D o k v p j = D p j := if_neg (fun q => hn q.1)
theorem up_k {D : DD} {o : Nat} {k j v : Int} (hn : j ≠ k) : up D o k v o j = D o j := if_neg (fun q => hn q.2)
theorem up_r {D : DD} {o p : Nat} {k v : Int} (hn : p ≠ o) : up D o k v p = D p := funext fun _ => up_o hn
theorem up_f {D : DD} {o : Nat} {k v : Int} : up D o k v o = uq (D o) k v := funext fun j => by
  unfold uq up
  by_cases hj : j = k
  · rw [if_pos ⟨rfl, hj⟩, if_pos hj]
  · rw [if_neg (fun q => hj q.2), if_neg hj]
theorem si_sg {h : AH} {o : Nat} {k v : Int} : si h o k v = sg h (up (gi h) o k v) := rfl
theorem gi_sg {h : AH} {G : DD} : gi (sg h G) = G := rfl
theorem sg_sg {h : AH} {G G' : DD} : sg (sg h G) G' = sg h G' := rfl
theorem sg_gi {h : AH} : sg h (gi h) = h := rfl
theorem Fix.sg {h : AH} (hF : Fix h) {G : DD} : Fix (sg h G) := hF
/-- letter i of slot k is told of -/
def UsL (D : DD) (j : Int) : Prop := ∃ k i, In (40 * D 99 11) k ∧ D 112 k = 3 ∧ In (D 114 k) i ∧ j = 40 * k + i
/-- the places that are in use -/
def Us (D : DD) (o : Nat) (k : Int) : Prop :=
  o = 99 ∧ (k = 1 ∨ k = 7 ∨ k = 11 ∨ k = 22) ∨ 100 ≤ o ∧ o ≤ 104 ∧ In (D 99 1) k ∨ 105 ≤ o ∧ o ≤ 107 ∧ In (D 99 7) k ∨ 108 ≤ o ∧ o ≤ 111 ∧ In (D 99 11) k ∨
  112 ≤ o ∧ o ≤ 115 ∧ In (40 * D 99 11) k ∨ o = 116 ∧ In (320 * D 99 11) k ∨ o = 117 ∧ UsL D k ∨ 118 ≤ o ∧ o ≤ 119 ∧ In (D 99 22) k
/-- the reference's heap holds D -/
def RM (h : AH) (D : DD) : Prop := ∀ o k, Us D o k → gi h o k = D o k
theorem RM.c {h : AH} {D : DD} (r : RM h D) {k : Int} (hk : k = 1 ∨ k = 7 ∨ k = 11 ∨ k = 22) : gi h 99 k = D 99 k := r 99 k (Or.inl ⟨rfl, hk⟩)
theorem RM.n {h : AH} {D : DD} (r : RM h D) : gi h 99 1 = D 99 1 := r.c (by decide)
theorem RM.R {h : AH} {D : DD} (r : RM h D) : gi h 99 7 = D 99 7 := r.c (by decide)
theorem RM.T {h : AH} {D : DD} (r : RM h D) : gi h 99 11 = D 99 11 := r.c (by decide)
theorem RM.J {h : AH} {D : DD} (r : RM h D) : gi h 99 22 = D 99 22 := r.c (by decide)
theorem RM.u {h : AH} {D : DD} (r : RM h D) {o : Nat} {k : Int} (ho : 100 ≤ o ∧ o ≤ 104) (hk : In (D 99 1) k) : gi h o k = D o k := r o k (Or.inr (Or.inl ⟨ho.1, ho.2, hk⟩))
theorem RM.r {h : AH} {D : DD} (r : RM h D) {o : Nat} {k : Int} (ho : 105 ≤ o ∧ o ≤ 107) (hk : In (D 99 7) k) : gi h o k = D o k := r o k (Or.inr (Or.inr (Or.inl ⟨ho.1, ho.2, hk⟩)))
theorem RM.t {h : AH} {D : DD} (r : RM h D) {o : Nat} {k : Int} (ho : 108 ≤ o ∧ o ≤ 111) (hk : In (D 99 11) k) : gi h o k = D o k := r o k (Or.inr (Or.inr (Or.inr (Or.inl ⟨ho.1, ho.2, hk⟩))))
theorem RM.s {h : AH} {D : DD} (r : RM h D) {o : Nat} {k : Int} (ho : 112 ≤ o ∧ o ≤ 115) (hk : In (40 * D 99 11) k) : gi h o k = D o k := r o k (Or.inr (Or.inr (Or.inr (Or.inr (Or.inl ⟨ho.1, ho.2, hk⟩)))))
theorem RM.q {h : AH} {D : DD} (r : RM h D) {k : Int} (hk : In (320 * D 99 11) k) : gi h 116 k = D 116 k := r 116 k (Or.inr (Or.inr (Or.inr (Or.inr (Or.inr (Or.inl ⟨rfl, hk⟩))))))
theorem RM.l {h : AH} {D : DD} (r : RM h D) {k : Int} (hk : UsL D k) : gi h 117 k = D 117 k := r 117 k (Or.inr (Or.inr (Or.inr (Or.inr (Or.inr (Or.inr (Or.inl ⟨rfl, hk⟩)))))))
theorem RM.j {h : AH} {D : DD} (r : RM h D) {o : Nat} {k : Int} (ho : 118 ≤ o ∧ o ≤ 119) (hk : In (D 99 22) k) : gi h o k = D o k := r o k (Or.inr (Or.inr (Or.inr (Or.inr (Or.inr (Or.inr (Or.inr ⟨ho.1, ho.2, hk⟩)))))))
/-- places that hold no part of D -/
def Off (o : Nat) (k : Int) : Prop := o < 99 ∨ 119 < o ∨ o = 99 ∧ k ≠ 1 ∧ k ≠ 7 ∧ k ≠ 11 ∧ k ≠ 22
theorem Us_off {D : DD} {o : Nat} {k : Int} (h : Us D o k) (hf : Off o k) : False := by
  unfold Off at hf
  rcases h with ⟨h1, h2⟩ | ⟨h1, h2, _⟩ | ⟨h1, h2, _⟩ | ⟨h1, h2, _⟩ | ⟨h1, h2, _⟩ | ⟨h1, _⟩ | ⟨h1, _⟩ | ⟨h1, h2, _⟩ <;> omega
theorem RM.si {h : AH} {D : DD} (r : RM h D) {o : Nat} {k v : Int} (hf : Off o k) : RM (si h o k v) D := fun p j u => by
  rw [gi_si_p, if_neg]
  · exact r p j u
  · rintro ⟨rfl, rfl⟩
    exact Us_off u hf
theorem RM.fr {L : List Nat} {K : List (Nat × Int)} {h h' : AH} {D : DD} (r : RM h D) (a : Fr L K h h') (h1 : ∀ o ∈ L, o < 99 ∨ 119 < o) (h2 : ∀ q ∈ K, q.1 < 99 ∨ 119 < q.1 ∨ q.1 = 99 ∧ q.2 ≠ 1 ∧ q.2 ≠ 7 ∧ q.2 ≠ 11 ∧ q.2 ≠ 22) : RM h' D := fun o k u => by
  rw [a.1 o k (fun m => Us_off u (by rcases h1 o m with h | h; exact Or.inl h; exact Or.inr (Or.inl h))) (fun m => Us_off u (h2 _ m))]
  exact r o k u
def R32i (x : Int) : Prop := -2147483648 ≤ x ∧ x < 2147483648
/-! what always holds of D -/
def Wc (D : DD) : Prop := 0 ≤ D 99 1 ∧ D 99 1 ≤ 100 ∧ 0 ≤ D 99 7 ∧ D 99 7 ≤ 200 ∧ 0 ≤ D 99 11 ∧ D 99 11 ≤ 60 ∧ 0 ≤ D 99 22 ∧ D 99 22 ≤ 80
def Wu (D : DD) : Prop := ∀ u, In (D 99 1) u → (0 ≤ D 100 u ∧ D 100 u ≤ 4) ∧ (0 ≤ D 101 u ∧ D 101 u ≤ 999) ∧ (0 ≤ D 102 u ∧ D 102 u ≤ u ∧ D 102 (D 102 u) = D 102 u) ∧ -10000 ≤ D 103 u ∧ D 103 u ≤ D 104 u ∧ D 104 u ≤ 2100
def dla (D : DD) (r : Int) : Int := D 102 (D 106 r)
def dea (D : DD) (r : Int) : Int := D 102 (D 107 r)
def Wr (D : DD) : Prop := (∀ r, In (D 99 7) r → In (D 99 1) (D 106 r) ∧ In (D 99 1) (D 107 r) ∧ 0 ≤ D 105 r ∧ D 105 r ≤ 2) ∧ ∃ rk, Rk (D 99 7) (dla D) (dea D) rk
def Wt (D : DD) : Prop := ∀ t, In (D 99 11) t → (D 108 t = -5 ∨ In (D 99 1) (D 108 t)) ∧ (-1 ≤ D 109 t ∧ D 109 t ≤ 40) ∧
  (D 110 t = -5 ∨ In (D 99 11) (D 110 t) ∧ In (D 109 (D 110 t)) (D 111 t) ∧ D 112 (40 * D 110 t + D 111 t) = 4 ∧ D 114 (40 * D 110 t + D 111 t) = t)
def Wb (D : DD) : Prop := ∃ bk : Int → Nat, ∀ t, In (D 99 11) t → D 110 t ≠ -5 → bk (D 110 t) < bk t
/-- slot k of a tray t, its number s -/
def Ws1 (D : DD) (t s k : Int) : Prop := (D 112 k = -5 ∨ 0 ≤ D 112 k ∧ D 112 k ≤ 4) ∧ (0 ≤ D 113 k ∧ D 113 k ≤ 2) ∧ (D 113 k ≠ 0 → D 112 k = 1 ∨ D 112 k = 2) ∧
  (∀ i, In 8 i → 0 ≤ D 116 (8 * k + i) ∧ D 116 (8 * k + i) ≤ 100 ∧ (D 112 k ≠ 0 → D 116 (8 * k + i) = 0)) ∧
  (D 112 k = 1 → -10000 ≤ D 114 k ∧ D 114 k ≤ D 115 k ∧ D 115 k ≤ 2100) ∧ (D 112 k = 2 → R32i (D 114 k) ∧ R32i (D 115 k)) ∧
  (D 112 k = 3 → (1 ≤ D 114 k ∧ D 114 k ≤ 40) ∧ ∀ i, In (D 114 k) i → 32 ≤ D 117 (40 * k + i) ∧ D 117 (40 * k + i) ≤ 126) ∧
  (D 112 k = 4 → In (D 99 11) (D 114 k) ∧ D 110 (D 114 k) = t ∧ D 111 (D 114 k) = s)
def Ws (D : DD) : Prop := ∀ t s, In (D 99 11) t → In (D 109 t) s → Ws1 D t s (40 * t + s)
def Wj (D : DD) : Prop := ∀ j, In (D 99 22) j → (D 118 j = -5 ∨ In (D 99 1) (D 118 j)) ∧ (D 119 j = -5 ∨ In (D 99 1) (D 119 j))
/-- slots that aren't there are empty -/
def Wv (D : DD) : Prop := ∀ t s, In (D 99 11) t → In 40 s → D 109 t ≤ s → D 112 (40 * t + s) = -5
def WF (D : DD) : Prop := Wc D ∧ Wu D ∧ Wr D ∧ Wt D ∧ Wb D ∧ Ws D ∧ Wj D ∧ Wv D
theorem RM.gv {h : AH} {D : DD} (r : RM h D) (w : WF D) : GV h (D 99 1) (D 99 7) (dla D) (dea D) := by
  obtain ⟨⟨c1, c2, c3, c4, _⟩, wu, wr, _⟩ := w
  refine ⟨r.n, r.R, c1, c2, c3, c4, fun q hq => ?_⟩
  obtain ⟨h1, h2, _⟩ := wr.1 q hq
  have e1 := r.r (o := 106) (by decide) hq
  have e2 := r.r (o := 107) (by decide) hq
  have u1 := (wu _ h1).2.2.1
  have u2 := (wu _ h2).2.2.1
  rw [e1, e2, r.u (o := 102) (by decide) h1, r.u (o := 102) (by decide) h2]
  refine ⟨h1, h2, rfl, rfl, ⟨u1.1, ?_⟩, ⟨u2.1, ?_⟩⟩
  · have := h1.2; show D 102 (D 106 q) < _; omega
  · have := h2.2; show D 102 (D 107 q) < _; omega
theorem WF.rk {D : DD} (w : WF D) : ∃ rk, Rk (D 99 7) (dla D) (dea D) rk ∧ ∀ u, In (D 99 1) u → rk u < 100 := by
  obtain ⟨⟨c1, c2, c3, c4, _⟩, wu, wr, _⟩ := w
  obtain ⟨rk, hk⟩ := wr.2
  have hn : (((D 99 1).toNat : Nat) : Int) = D 99 1 := by omega
  obtain ⟨rk', h1, h2⟩ := Rk_small (n := (D 99 1).toNat) hk (fun r hr => by
    rw [hn]
    have h2 := (wr.1 r hr).2.1
    have u2 := (wu _ h2).2.2.1
    exact ⟨u2.1, by have := h2.2; show D 102 (D 107 r) < _; omega⟩)
  refine ⟨rk', h1, fun u hu => ?_⟩
  have := h2 u (by rw [hn]; exact hu)
  omega
