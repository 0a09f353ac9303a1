/-! THE REFERENCE: layers, isLater, follow, closes .. over a view of the graph in its heap -/
/-- what the reference's heap says of units and relations -/
def GV (h : AH) (n R : Int) (la ea : Int → Int) : Prop := gi h 99 1 = n ∧ gi h 99 7 = R ∧ 0 ≤ n ∧ n ≤ 100 ∧ 0 ≤ R ∧ R ≤ 200 ∧
  ∀ r, In R r → In n (gi h 106 r) ∧ In n (gi h 107 r) ∧ gi h 102 (gi h 106 r) = la r ∧ gi h 102 (gi h 107 r) = ea r ∧ In n (la r) ∧ In n (ea r)
/-- where longs lie -/
def lgO : List Nat := [32, 33, 35, 36, 128, 135]
def lgK : List (Nat × Int) := [(86, 10), (99, 55)]
/-- h' is h but for the rows of L, the places of K, and what is new -/
def Fr (L : List Nat) (K : List (Nat × Int)) (h h' : AH) : Prop :=
  (∀ o k, o ∉ L → (o, k) ∉ K → gi h' o k = gi h o k) ∧ (∀ o k, ¬ (o ∈ L ∧ o ∈ lgO) → ¬ ((o, k) ∈ K ∧ (o, k) ∈ lgK) → gl h' o k = gl h o k) ∧ gf h' = gf h ∧ gr h' = gr h ∧ sh h' = sh h ∧ nn h' = nn h ∧ us h' = us h
theorem Fr.refl {L : List Nat} {K : List (Nat × Int)} {h : AH} : Fr L K h h := ⟨fun _ _ _ _ => rfl, fun _ _ _ _ => rfl, rfl, rfl, rfl, rfl, rfl⟩
theorem Fr.trans {L : List Nat} {K : List (Nat × Int)} {h1 h2 h3 : AH} (a : Fr L K h1 h2) (b : Fr L K h2 h3) : Fr L K h1 h3 :=
  ⟨fun o k p q => (b.1 o k p q).trans (a.1 o k p q), fun o k p q => (b.2.1 o k p q).trans (a.2.1 o k p q), b.2.2.1.trans a.2.2.1, b.2.2.2.1.trans a.2.2.2.1, b.2.2.2.2.1.trans a.2.2.2.2.1, b.2.2.2.2.2.1.trans a.2.2.2.2.2.1, b.2.2.2.2.2.2.trans a.2.2.2.2.2.2⟩
theorem Fr.mono {L L' : List Nat} {K K' : List (Nat × Int)} {h h' : AH} (a : Fr L K h h') (hL : ∀ x ∈ L, x ∈ L') (hK : ∀ x ∈ K, x.1 ∈ L' ∧ x ∉ lgK ∨ x ∈ K') : Fr L' K' h h' :=
  ⟨fun o k p q => a.1 o k (fun m => p (hL _ m)) (fun m => by rcases hK _ m with m | m; exact p m.1; exact q m), fun o k p q => a.2.1 o k (fun m => p ⟨hL _ m.1, m.2⟩) (fun m => by rcases hK _ m.1 with m' | m'; exact m'.2 m.2; exact q ⟨m', m.2⟩), a.2.2⟩
theorem Fr.si {L : List Nat} {K : List (Nat × Int)} {h h' : AH} (a : Fr L K h h') {o : Nat} {k v : Int} (hm : o ∈ L ∨ (o, k) ∈ K) : Fr L K h (si h' o k v) :=
  ⟨fun p j hp hj => by
    rw [gi_si_p, if_neg]
    · exact a.1 p j hp hj
    · rintro ⟨rfl, rfl⟩
      rcases hm with m | m
      · exact hp m
      · exact hj m, a.2⟩
theorem Fr.sl {L : List Nat} {K : List (Nat × Int)} {h h' : AH} (a : Fr L K h h') {o : Nat} {k v : Int} (hm : o ∈ L ∧ o ∈ lgO ∨ (o, k) ∈ K ∧ (o, k) ∈ lgK) : Fr L K h (sl h' o k v) :=
  ⟨a.1, fun p j hp hj => by
    rw [gl_sl_p, if_neg]
    · exact a.2.1 p j hp hj
    · rintro ⟨rfl, rfl⟩
      rcases hm with m | m
      · exact hp m
      · exact hj m, a.2.2⟩
theorem Fr.row {L : List Nat} {K : List (Nat × Int)} {h h' : AH} (a : Fr L K h h') {o : Nat} (h1 : o ∉ L) (h2 : ∀ q ∈ K, q.1 ≠ o) : gi h' o = gi h o := funext fun k => a.1 o k h1 (fun m => h2 _ m rfl)
theorem Fr.rowl {L : List Nat} {K : List (Nat × Int)} {h h' : AH} (a : Fr L K h h') {o : Nat} (h1 : o ∉ L) (h2 : ∀ q ∈ K, q.1 ≠ o) : gl h' o = gl h o := funext fun k => a.2.1 o k (fun m => h1 m.1) (fun m => h2 _ m.1 rfl)
theorem Fix.fr {L : List Nat} {K : List (Nat × Int)} {h h' : AH} (hF : Fix h) (a : Fr L K h h') : Fix h' := by
  obtain ⟨-, -, -, h4, h5, h6, -⟩ := a
  exact ⟨fun e he => by rw [h4]; exact hF.1 e he, fun e he => by rw [h5]; exact hF.2.1 e he, by rw [h6]; exact hF.2.2⟩
theorem GV.fr {L : List Nat} {K : List (Nat × Int)} {h h' : AH} {n R : Int} {la ea : Int → Int} (g : GV h n R la ea) (a : Fr L K h h') (h1 : (99 ∉ L ∧ 102 ∉ L ∧ 106 ∉ L ∧ 107 ∉ L) ∧ (99, 1) ∉ K ∧ (99, 7) ∉ K ∧ ∀ q ∈ K, q.1 ≠ 102 ∧ q.1 ≠ 106 ∧ q.1 ≠ 107) : GV h' n R la ea := by
  obtain ⟨⟨n1, n2, n3, n4⟩, k1, k2, k3⟩ := h1
  have e1 := a.row n2 (fun q hq => (k3 q hq).1)
  have e2 := a.row n3 (fun q hq => (k3 q hq).2.1)
  have e3 := a.row n4 (fun q hq => (k3 q hq).2.2)
  unfold GV at g ⊢
  rw [e1, e2, e3, a.1 99 1 n1 k1, a.1 99 7 n1 k2]
  exact g
def uq (f : Int → Int) (k v : Int) : Int → Int := fun j => if j = k then v else f j
theorem uq_e {f : Int → Int} {k v : Int} : uq f k v k = v := if_pos rfl
theorem uq_o {f : Int → Int} {k v j : Int} (h : j ≠ k) : uq f k v j = f j := if_neg h
theorem gi_si_f {h : AH} {o : Nat} {k v : Int} : gi (si h o k v) o = uq (gi h o) k v := funext fun j => by
  unfold uq
  rw [gi_si_p]
  by_cases hj : j = k
  · rw [if_pos ⟨rfl, hj⟩, if_pos hj]
  · rw [if_neg (fun q => hj q.2), if_neg hj]
theorem gl_sl_f {h : AH} {o : Nat} {k v : Int} : gl (sl h o k v) o = uq (gl h o) k v := funext fun j => by
  unfold uq
  rw [gl_sl_p]
  by_cases hj : j = k
  · rw [if_pos ⟨rfl, hj⟩, if_pos hj]
  · rw [if_neg (fun q => hj q.2), if_neg hj]
/-- what holds of far within round d of layers, at relation r -/
def LyI (n R : Int) (la ea : Int → Int) (g : Int) (f : Int → Int) (d r m : Int) : Prop :=
  (0 ≤ d ∧ (d = 0 ∨ ∃ u, In n u ∧ f u = d)) ∧ f g = 0 ∧ (∀ u, In n u → f u = -5 ∨ (0 ≤ f u ∧ f u ≤ d) ∨ (f u = d + 1 ∧ m = 1)) ∧ (∀ u, In n u → f u = 0 → u = g) ∧
  (∀ u, In n u → 0 < f u → ∃ r, In R r ∧ la r = u ∧ f (ea r) = f u - 1) ∧
  (∀ q, In R q → 0 ≤ f (ea q) → (f (ea q) < d ∨ q < r ∧ f (ea q) = d) → f (la q) ≠ -5 ∧ f (la q) ≤ f (ea q) + 1) ∧ (m = 0 ∨ m = 1 ∧ ∃ u, In n u ∧ f u = d + 1)
theorem LyI_d {n R : Int} {la ea : Int → Int} {g : Int} {f : Int → Int} {d r m : Int} {rk : Int → Nat} (hk : Rk R la ea rk) (hk2 : ∀ u, In n u → rk u < 100) (he : ∀ r, In R r → In n (ea r)) (h : LyI n R la ea g f d r m) : d < 100 := by
  have key : ∀ k : Nat, ∀ u, rk u < k → In n u → f u ≤ rk u := by
    intro k
    induction k with
    | zero => intro u h; omega
    | succ k ih =>
      intro u hu hn
      by_cases h0 : 0 < f u
      · obtain ⟨r, r1, r2, r3⟩ := h.2.2.2.2.1 u hn h0
        have h1 := hk r r1
        have h2 := ih (ea r) (by rw [r2] at h1; omega) (he r r1)
        rw [r2] at h1
        omega
      · omega
  rcases h.1.2 with h0 | ⟨u, u1, u2⟩
  · omega
  · have h1 := key (rk u + 1) u (Nat.lt_succ_self _) u1
    have h2 := hk2 u u1
    omega
theorem LyI_end {n R : Int} {la ea : Int → Int} {g : Int} {f : Int → Int} {d : Int} (he : ∀ r, In R r → In n (ea r)) (h : LyI n R la ea g f d R 0) : Far n R la ea g f := by
  obtain ⟨h0, h1, h2, h3, h4, h5, _⟩ := h
  refine ⟨h1, fun u hu hg => ?_⟩
  have hall : ∀ q, In R q → 0 ≤ f (ea q) → f (la q) ≠ -5 ∧ f (la q) ≤ f (ea q) + 1 := by
    intro q hq h
    refine h5 q hq h ?_
    have h6 := h2 _ (he q hq)
    have := hq.2
    omega
  have hu2 := h2 u hu
  by_cases hf : f u = -5
  · refine Or.inl ⟨hf, fun r hr hl => ?_⟩
    have h6 := h2 _ (he r hr)
    by_cases h7 : 0 ≤ f (ea r)
    · have := hall r hr h7
      rw [hl] at this
      exact absurd hf this.1
    · omega
  · have hp : 0 < f u := by
      by_cases h0 : f u = 0
      · exact absurd (h3 u hu h0) hg
      · omega
    refine Or.inr ⟨hp, h4 u hu hp, fun r hr hl => ?_⟩
    have h6 := h2 _ (he r hr)
    by_cases h7 : 0 ≤ f (ea r)
    · have := hall r hr h7
      rw [hl] at this
      omega
    · omega
theorem LyI_next {n R : Int} {la ea : Int → Int} {g : Int} {f : Int → Int} {d : Int} (h : LyI n R la ea g f d R 1) : LyI n R la ea g f (d + 1) 0 0 := by
  obtain ⟨h0, h1, h2, h3, h4, h5, h6⟩ := h
  refine ⟨⟨by omega, Or.inr ?_⟩, h1, fun u hu => ?_, h3, h4, fun q hq a b => h5 q hq a ?_, Or.inl rfl⟩
  · rcases h6 with h6 | h6
    · exact absurd h6 (by decide)
    · exact h6.2
  · have := h2 u hu
    omega
  · have := hq.2
    have := hq.1
    omega
theorem LyI_skip {n R : Int} {la ea : Int → Int} {g : Int} {f : Int → Int} {d r m : Int} (hr : In R r) (hl : In n (la r)) (h : LyI n R la ea g f d r m) (hs : f (ea r) = d → f (la r) ≠ -5) : LyI n R la ea g f d (r + 1) m := by
  obtain ⟨h0, h1, h2, h3, h4, h5, h6⟩ := h
  refine ⟨h0, h1, h2, h3, h4, fun q hq a b => ?_, h6⟩
  by_cases hqr : q = r ∧ f (ea q) = d
  · obtain ⟨rfl, hd⟩ := hqr
    have := h2 _ hl
    have := hs hd
    omega
  · exact h5 q hq a (by omega)
theorem LyI_step {n R : Int} {la ea : Int → Int} {g : Int} {f : Int → Int} {d r m : Int} (hr : In R r) (hl : In n (la r)) (h : LyI n R la ea g f d r m) (s1 : f (ea r) = d) (s2 : f (la r) = -5) : LyI n R la ea g (uq f (la r) (d + 1)) d (r + 1) 1 := by
  obtain ⟨h0, h1, h2, h3, h4, h5, h6⟩ := h
  have hne : ∀ x, f x ≠ -5 → uq f (la r) (d + 1) x = f x := fun x hx => uq_o (fun e => hx (by rw [e]; exact s2))
  have hv : ∀ x, (x = la r ∧ uq f (la r) (d + 1) x = d + 1) ∨ (x ≠ la r ∧ uq f (la r) (d + 1) x = f x) := fun x => by
    by_cases hx : x = la r
    · exact Or.inl ⟨hx, by rw [hx, uq_e]⟩
    · exact Or.inr ⟨hx, uq_o hx⟩
  refine ⟨⟨h0.1, ?_⟩, ?_, fun u hu => ?_, fun u hu hz => ?_, fun u hu hp => ?_, fun q hq a b => ?_, Or.inr ⟨rfl, la r, hl, uq_e⟩⟩
  · rcases h0.2 with h | ⟨u, u1, u2⟩
    · exact Or.inl h
    · exact Or.inr ⟨u, u1, by rw [hne u (by omega)]; exact u2⟩
  · rw [hne g (by omega)]; exact h1
  · have := h2 u hu
    rcases hv u with ⟨_, e⟩ | ⟨_, e⟩ <;> rw [e] <;> omega
  · rcases hv u with ⟨_, e⟩ | ⟨_, e⟩
    · rw [e] at hz; omega
    · rw [e] at hz; exact h3 u hu hz
  · rcases hv u with ⟨e0, e⟩ | ⟨_, e⟩
    · exact ⟨r, hr, e0.symm, by rw [e, hne _ (by omega)]; omega⟩
    · rw [e] at hp ⊢
      obtain ⟨q, q1, q2, q3⟩ := h4 u hu hp
      exact ⟨q, q1, q2, by rw [hne _ (by omega)]; exact q3⟩
  · rcases hv (ea q) with ⟨_, e⟩ | ⟨_, e⟩
    · rw [e] at b; omega
    · rw [e] at a b ⊢
      by_cases hqr : q = r
      · rw [hqr, uq_e]
        rw [hqr] at b a
        omega
      · have := h5 q hq a (by omega)
        rw [hne _ this.1]
        exact this
theorem m_layers_28 {Q : Option AV → AH → Prop} {n R : Int} {la ea : Int → Int} {g d : Int} (hd : d < 100) (k : Nat) : ∀ (h : AH) (r m : Int), (R - r).toNat = k → Fix h → GV h n R la ea → 0 ≤ r → r ≤ R → LyI n R la ea g (gi h 123) d r m →
    (∀ h' m', Fr [123] [] h h' → LyI n R la ea g (gi h' 123) d R m' → Ok 206 22 [some (vR (some 99)), some (vI g), some (vI m'), some (vI (d + 1)), none, none] [] h' Q) →
    Ok 206 28 [some (vR (some 99)), some (vI g), some (vI m), some (vI d), some (vI r), none] [] h Q := by
  induction k using Nat.strongRecOn with
  | ind k ih =>
    intro h r m hk hF hG r0 rR hI cont
    have hG' := hG
    obtain ⟨e1, e2, n0, n1, R0, R1, hv⟩ := hG
    have hd0 := hI.1.1
    refine f_X12_layers_28 hF _ _ _ _ ⟨fun c => ⟨by omega, ?_⟩, fun c => ?_⟩
    · have : r = R := by omega
      subst this
      exact cont h m Fr.refl hI
    · have hr : In R r := ⟨r0, by omega⟩
      obtain ⟨⟨a1, a2⟩, ⟨a3, a4⟩, a5, a6, ⟨a7, a8⟩, ⟨a9, a10⟩⟩ := hv r hr
      rw [a5, a6]
      refine ⟨⟨r0, by omega⟩, by omega, by omega, by omega, fun c1 => ⟨by omega, ?_⟩, fun c1 => ⟨by omega, fun c2 => ⟨by omega, ?_⟩, fun c2 => ⟨by omega, by omega, ?_⟩⟩⟩
      · exact ih _ (by omega) h (r + 1) m rfl hF hG' (by omega) (by omega) (LyI_skip hr ⟨a7, a8⟩ hI (fun e => absurd e c1)) cont
      · exact ih _ (by omega) h (r + 1) m rfl hF hG' (by omega) (by omega) (LyI_skip hr ⟨a7, a8⟩ hI (fun _ => c2)) cont
      · have hfr : Fr [123] [] h (si h 123 (la r) (d + 1)) := Fr.refl.si (Or.inl (by decide))
        refine ih _ (by omega) _ (r + 1) 1 rfl (hF.fr hfr) (hG'.fr hfr (by decide)) (by omega) (by omega) ?_ (fun h' m' f1 i1 => cont h' m' (hfr.trans f1) i1)
        rw [gi_si_f]
        exact LyI_step hr ⟨a7, a8⟩ hI (by omega) (by omega)
theorem m_layers_22 {Q : Option AV → AH → Prop} {n R : Int} {la ea : Int → Int} {rk : Int → Nat} (hk : Rk R la ea rk) (hk2 : ∀ u, In n u → rk u < 100) {g : Int} (k : Nat) : ∀ (h : AH) (d m : Int), (100 - d).toNat = k → Fix h → GV h n R la ea →
    (m = 0 ∧ Far n R la ea g (gi h 123) ∨ m = 1 ∧ LyI n R la ea g (gi h 123) d 0 0) → (∀ h', Fr [123] [] h h' → Far n R la ea g (gi h' 123) → Q none h') →
    Ok 206 22 [some (vR (some 99)), some (vI g), some (vI m), some (vI d), none, none] [] h Q := by
  induction k using Nat.strongRecOn with
  | ind k ih =>
    intro h d m hkk hF hG hI cont
    have hv := hG.2.2.2.2.2.2
    have he : ∀ r, In R r → In n (ea r) := fun r hr => (hv r hr).2.2.2.2.2
    refine f_X12_layers_22 hF _ _ _ ⟨fun c => ?_, fun c => ?_⟩
    · rcases hI with hI | hI
      · exact cont h Fr.refl hI.2
      · omega
    · rcases hI with hI | ⟨_, hI⟩
      · exact absurd hI.1 c
      · have hd := LyI_d hk hk2 he hI
        refine m_layers_28 hd _ h 0 0 rfl hF hG (by omega) hG.2.2.2.2.1 hI (fun h' m' f1 i1 => ?_)
        refine ih _ (by omega) h' (d + 1) m' rfl (hF.fr f1) (hG.fr f1 (by decide)) ?_ (fun h2 f2 i2 => cont h2 (f1.trans f2) i2)
        rcases i1.2.2.2.2.2.2 with e | ⟨e, _⟩
        · subst e
          exact Or.inl ⟨rfl, LyI_end he i1⟩
        · subst e
          exact Or.inr ⟨rfl, LyI_next i1⟩
theorem m_layers_2 {Q : Option AV → AH → Prop} {n R : Int} {la ea : Int → Int} {rk : Int → Nat} (hk : Rk R la ea rk) (hk2 : ∀ u, In n u → rk u < 100) {g : Int} (hg : In n g) (k : Nat) : ∀ (h : AH) (u : Int), (n - u).toNat = k → Fix h → GV h n R la ea → 0 ≤ u → u ≤ n →
    (∀ v, 0 ≤ v → v < u → gi h 123 v = -5) → (∀ h', Fr [123] [] h h' → Far n R la ea g (gi h' 123) → Q none h') →
    Ok 206 2 [some (vR (some 99)), some (vI g), some (vI u), none, none, none] [] h Q := by
  induction k using Nat.strongRecOn with
  | ind k ih =>
    intro h u hkk hF hG u0 un hI cont
    have hG' := hG
    obtain ⟨e1, e2, n0, n1, R0, R1, hv⟩ := hG
    have hg0 := hg.1
    have hg1 := hg.2
    refine f_X12_layers_2 hF _ _ ⟨fun c => ⟨by omega, ?_⟩, fun c => ⟨by omega, by omega, ?_⟩⟩
    · have hfr : Fr [123] [] h (si h 123 g 0) := Fr.refl.si (Or.inl (by decide))
      refine m_layers_22 hk hk2 _ _ 0 1 rfl (hF.fr hfr) (hG'.fr hfr (by decide)) (Or.inr ⟨rfl, ?_⟩) (fun h2 f2 i2 => cont h2 (hfr.trans f2) i2)
      rw [gi_si_f]
      have hv2 : ∀ x, In n x → (x = g ∧ uq (gi h 123) g 0 x = 0) ∨ (x ≠ g ∧ uq (gi h 123) g 0 x = -5) := fun x hx => by
        by_cases hxg : x = g
        · exact Or.inl ⟨hxg, by rw [hxg, uq_e]⟩
        · exact Or.inr ⟨hxg, by rw [uq_o hxg]; exact hI x hx.1 (by have := hx.2; omega)⟩
      refine ⟨⟨by omega, Or.inl rfl⟩, uq_e, fun x hx => ?_, fun x hx hz => ?_, fun x hx hp => ?_, fun q hq a b => ?_, Or.inl rfl⟩
      · rcases hv2 x hx with ⟨_, e⟩ | ⟨_, e⟩ <;> omega
      · rcases hv2 x hx with ⟨e0, e⟩ | ⟨_, e⟩
        · exact e0
        · omega
      · rcases hv2 x hx with ⟨_, e⟩ | ⟨_, e⟩ <;> omega
      · have := hq.1
        omega
    · have hfr : Fr [123] [] h (si h 123 u (-5)) := Fr.refl.si (Or.inl (by decide))
      refine ih _ (by omega) _ (u + 1) rfl (hF.fr hfr) (hG'.fr hfr (by decide)) (by omega) (by omega) (fun v v0 v1 => ?_) (fun h2 f2 i2 => cont h2 (hfr.trans f2) i2)
      rw [gi_si_f]
      by_cases hvu : v = u
      · rw [hvu, uq_e]
      · rw [uq_o hvu]; exact hI v v0 (by omega)
theorem m_layers {h : AH} {Q : Option AV → AH → Prop} {n R : Int} {la ea : Int → Int} {rk : Int → Nat} (hk : Rk R la ea rk) (hk2 : ∀ u, In n u → rk u < 100) {g : Int} (hg : In n g) (hF : Fix h) (hG : GV h n R la ea)
    (cont : ∀ h', Fr [123] [] h h' → Far n R la ea g (gi h' 123) → Q none h') : Ok 206 0 [some (vR (some 99)), some (vI g), none, none, none, none] [] h Q :=
  f_X12_layers_0 hF _ (m_layers_2 hk hk2 hg _ h 0 rfl hF hG (by omega) hG.2.2.1 (fun v v0 v1 => by omega) cont)
