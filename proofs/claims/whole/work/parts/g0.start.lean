/-! what stands after both constructors -/
def cE : CHp := (136, sM ++ sC, wM ++ wC)
def roP (o : Nat) (q : COp) : Bool := decide ((q.1 = 1 ∨ q.1 = 3) ∧ q.2.1 = o)
theorem cgi_flt (o : Nat) (k : Int) : ∀ l : List COp, cgi l o k = cgi (l.filter (roP o)) o k
  | [] => rfl
  | q :: l => by
    have ih := cgi_flt o k l
    by_cases e : roP o q = true
    · rw [List.filter_cons_of_pos e]
      unfold cgi
      rw [ih]
    · rw [List.filter_cons_of_neg e, ← ih]
      have e' : ¬ ((q.1 = 1 ∨ q.1 = 3) ∧ q.2.1 = o) := fun z => e (decide_eq_true z)
      show (if q.1 = 1 ∧ q.2.1 = o ∧ q.2.2.1 = k then q.2.2.2 else if q.1 = 3 ∧ q.2.1 = o ∧ 0 ≤ k ∧ k < q.2.2.1 then q.2.2.2 else cgi l o k) = _
      rw [if_neg (fun z => e' ⟨Or.inl z.1, z.2.1⟩), if_neg (fun z => e' ⟨Or.inr z.1, z.2.1⟩)]
theorem E_z {h0 h : AH} (R : Rep h0 cE h) {o : Nat} (o1 : 1 ≤ o) (e : (wM ++ wC).filter (roP o) = []) (k : Int) : gi h o k = 0 := by
  rw [R.2.2.2.2.1 o k o1]
  show cgi (wM ++ wC) o k = 0
  rw [cgi_flt, e]; rfl
theorem E_v {h0 h : AH} (R : Rep h0 cE h) {o : Nat} {n v : Int} (o1 : 1 ≤ o) (e : (wM ++ wC).filter (roP o) = [(3, o, n, v)]) {k : Int} (hk : In n k) : gi h o k = v := by
  rw [R.2.2.2.2.1 o k o1]
  show cgi (wM ++ wC) o k = v
  rw [cgi_flt, e]
  show (if (3 : Nat) = 1 ∧ o = o ∧ n = k then v else if (3 : Nat) = 3 ∧ o = o ∧ 0 ≤ k ∧ k < n then v else 0) = v
  rw [if_neg (fun z => absurd z.1 (by decide)), if_pos ⟨rfl, rfl, hk.1, hk.2⟩]
theorem E_g {h0 h : AH} (R : Rep h0 cE h) {o : Nat} {k v : Int} (o1 : 1 ≤ o) (e : cgi (wM ++ wC) o k = v) : gi h o k = v := (R.2.2.2.2.1 o k o1).trans e
theorem E_r {h0 h : AH} (R : Rep h0 cE h) {o v : Nat} {k : Int} (e : cref (wM ++ wC) o k = some v) : gr h o k = some v := (R.2.2.2.1 o k v e).2
theorem E_s {h0 h : AH} (R : Rep h0 cE h) {o : Nat} {p : Nat × Int} (o1 : 1 ≤ o ∧ o < 136) (e : csh cE o = p) : sh h o = p := (R.2.2.1 o o1.1 o1.2).trans e
theorem E_fixR : ∀ e ∈ fixR, cref (wM ++ wC) e.1 e.2.1 = some e.2.2 := by decide +kernel
theorem E_fixS : ∀ e ∈ fixS, (1 ≤ e.1 ∧ e.1 < 136) ∧ csh cE e.1 = e.2 := by decide +kernel
theorem E_fix {h0 h : AH} (R : Rep h0 cE h) : Fix h := ⟨fun e he => E_r R (E_fixR e he), fun e he => E_s R (E_fixS e he).1 (E_fixS e he).2, Nat.le_of_eq R.1.symm⟩
theorem D0_wf : WF D0 := by
  have n0 : ∀ x : Int, ¬ In (0 : Int) x := fun x q => by obtain ⟨a, b⟩ := q; omega
  refine ⟨?_, fun u q => absurd q (n0 u), ⟨fun r q => absurd q (n0 r), fun _ => 0, fun r q => absurd q (n0 r)⟩, fun t q => absurd q (n0 t), ⟨fun _ => 0, fun t q => absurd q (n0 t)⟩, fun t s q => absurd q (n0 t), fun j q => absurd q (n0 j), fun t s q => absurd q (n0 t)⟩
  unfold Wc
  have e : ∀ k, D0 99 k = 0 := fun _ => rfl
  rw [e, e, e, e]
  decide
theorem E_m {h0 h : AH} (R : Rep h0 cE h) : MInv h 0 (fun _ => D0) D0 := by
  have g : ∀ k, gi h 99 k = 0 := E_z R (by decide) (by decide +kernel)
  refine ⟨by decide, g 39, D0_rm ⟨g _, g _, g _, g _⟩, fun _ _ => D0_wf, rfl, ⟨fun _ _ => 0, fun j hj => absurd hj (Nat.not_lt_zero _)⟩, ?_⟩
  have n0 : ∀ x : Int, ¬ In (0 : Int) x := fun x q => by obtain ⟨a, b⟩ := q; omega
  exact ⟨fun k _ _ => E_z R (by decide) (by decide +kernel) k, g _, g _, g _, fun i q => absurd q (n0 i), g _, fun i q => absurd q (n0 i), g _, fun i _ q => absurd (show (0 : Int) = 1 from q) (by decide), g _⟩
theorem E_c {h0 h : AH} (R : Rep h0 cE h) : CInv h 0 (fun _ => D0) D0 0 := by
  have n0 : ∀ x : Int, ¬ In (0 : Int) x := fun x q => by obtain ⟨a, b⟩ := q; omega
  have g2 : ∀ k, gi h 2 k = 0 := E_z R (by decide) (by decide +kernel)
  have g1 : ∀ k, gi h 1 k = 0 := E_z R (by decide) (by decide +kernel)
  have g98 : ∀ k, gi h 98 k = 0 := E_z R (by decide) (by decide +kernel)
  have g69 : ∀ k, gi h 69 k = 0 := E_z R (by decide) (by decide +kernel)
  have g94 : ∀ k, gi h 94 k = 0 := E_z R (by decide) (by decide +kernel)
  have g78 : gi h 7 8 = 0 := E_g R (by decide) (by decide +kernel)
  have g79 : gi h 7 9 = -1 := E_g R (by decide) (by decide +kernel)
  have g2119 : gi h 21 19 = -1 := E_g R (by decide) (by decide +kernel)
  have g7314 : gi h 73 14 = -1 := E_g R (by decide) (by decide +kernel)
  have g7315 : gi h 73 15 = -1 := E_g R (by decide) (by decide +kernel)
  have g867 : gi h 86 7 = -1 := E_g R (by decide) (by decide +kernel)
  have g868 : gi h 86 8 = -1 := E_g R (by decide) (by decide +kernel)
  have g869 : gi h 86 9 = -1 := E_g R (by decide) (by decide +kernel)
  have g20 : gi h 20 0 = 0 := E_g R (by decide) (by decide +kernel)
  have g46 : gi h 46 0 = 0 := E_g R (by decide) (by decide +kernel)
  have g64 : gi h 64 0 = 0 := E_g R (by decide) (by decide +kernel)
  have g66 : gi h 66 0 = 0 := E_g R (by decide) (by decide +kernel)
  have g68 : gi h 68 0 = 0 := E_g R (by decide) (by decide +kernel)
  have g50 : ∀ t, In 60 t → gi h 50 t = -5 := fun t q => E_v R (by decide) (by decide +kernel) q
  have g52 : ∀ t, In 60 t → gi h 52 t = 0 := fun t q => E_v R (by decide) (by decide +kernel) q
  have g54 : ∀ t, In 60 t → gi h 54 t = 0 := fun t q => E_v R (by decide) (by decide +kernel) q
  have g56 : ∀ t, In 60 t → gi h 56 t = -1 := fun t q => E_v R (by decide) (by decide +kernel) q
  have g58 : ∀ t, In 2400 t → gi h 58 t = -1 := fun t q => E_v R (by decide) (by decide +kernel) q
  have hu : us h = 204190 := R.2.2.2.2.2.2.2.1.trans (by decide +kernel)
  have r22 : gr h 2 2 = some 4 := E_r R (by decide +kernel)
  have r23 : gr h 2 3 = some 5 := E_r R (by decide +kernel)
  have r24 : gr h 2 4 = some 6 := E_r R (by decide +kernel)
  have s4 : sh h 4 = (3, 128) := E_s R (by decide) (by decide +kernel)
  have s5 : sh h 5 = (0, 128) := E_s R (by decide) (by decide +kernel)
  have s6 : sh h 6 = (0, 128) := E_s R (by decide) (by decide +kernel)
  have r86 : gr h 86 13 = some 93 := E_r R (by decide +kernel)
  have s93 : sh h 93 = (2, 16) := E_s R (by decide) (by decide +kernel)
  have hn : nn h = 136 := R.1
  refine ⟨fun _ => False, fun _ => gi h, fun _ _ => 0, fun _ => 0, fun _ => (0, 0, 0), 500000, ⟨fun o q => q.elim, fun _ _ _ _ _ => rfl, g2 5, Int.le_refl _, 4, 5, 6, 128, r22, r23, r24, ⟨Or.inl rfl, by omega, id⟩, ⟨Or.inr (Or.inl rfl), by omega, id⟩, ⟨Or.inr (Or.inr (Or.inl rfl)), by omega, id⟩, by decide, s4, s5, s6, by decide, by decide, by decide, by rw [hu]; decide, fun i q => absurd q (n0 i)⟩, g2 1, ⟨by decide, rfl, g68, fun j hj => absurd hj (Nat.not_lt_zero _)⟩, fun _ _ => ⟨⟨g20, fun u q => absurd q (n0 u)⟩, ⟨g46, fun u q => absurd q (n0 u)⟩, ⟨g64, fun u q => absurd q (n0 u), fun t t1 t2 => ⟨g50 t ⟨t1, t2⟩, g52 t ⟨t1, t2⟩, g54 t ⟨t1, t2⟩, g56 t ⟨t1, t2⟩⟩⟩, ⟨Int.le_of_eq g68.symm, fun t s q => absurd q (n0 t), fun t s q1 q2 _ => g58 _ ⟨?_, ?_⟩⟩, ⟨g66, fun u q => absurd q (n0 u)⟩⟩, fun id q => absurd (g68 ▸ (show In (gi h 68 0) id from q)) (n0 id), ?_, ⟨?_, ?_, ?_, ?_⟩, ?_⟩
  · obtain ⟨a, b⟩ := q1; obtain ⟨a', b'⟩ := q2; omega
  · obtain ⟨a, b⟩ := q1; obtain ⟨a', b'⟩ := q2; omega
  · refine ⟨fun k _ _ => g98 _, g1 11, g1 10, g69 1, fun i q => absurd q (n0 i), g94 1, fun i q => absurd q (n0 i), ⟨fun q => absurd (show (0 : Int) = 1 from q) (by decide), fun q => by omega⟩, fun q => absurd (show (0 : Int) = 1 from q) (by decide)⟩
  · unfold CaU
    exact ⟨by omega, fun q => by omega⟩
  · unfold CaW
    exact ⟨by omega, fun q => by omega⟩
  · have := g2 6
    unfold CaY
    exact ⟨by omega, by omega, fun q => by omega⟩
  · unfold CaS
    exact ⟨by omega, by omega, by omega, fun q => by omega, fun q => by omega⟩
  · have := g2 6
    exact ⟨by omega, by omega, by omega, 93, 16, r86, Or.inl rfl, by omega, id, s93, by decide, ⟨by decide, 4, by decide⟩, by decide⟩
theorem E_ji {h0 h : AH} (R : Rep h0 cE h) : JI h 0 (fun _ => D0) D0 0 :=
  ⟨E_fix R, E_c R, E_m R, ⟨fun _ _ _ => ⟨by show (0 : Int) ≤ 0; decide, by show (0 : Int) ≤ 0; decide⟩, ⟨by show (0 : Int) ≤ 0; decide, by show (0 : Int) ≤ 4; decide⟩, ⟨by show (0 : Int) ≤ 0; decide, by show (0 : Int) ≤ 100; decide⟩, Or.inl rfl⟩, Or.inl (E_z R (by decide) (by decide +kernel) _), fun q => absurd (show (0 : Int) = 1 from q) (by decide), Or.inl rfl⟩
