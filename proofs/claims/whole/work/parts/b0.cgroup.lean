/-! the relations by their blocks: a counting sort -/
theorem cnt_add {key : Int → Int} {b : Int} : ∀ n : Nat, cnt (fun q => decide (key q < b + 1)) n = cnt (fun q => decide (key q < b)) n + cnt (fun q => decide (key q = b)) n
  | 0 => rfl
  | n + 1 => by
    have ih := cnt_add (key := key) (b := b) n
    show cnt _ n + (if decide (key n < b + 1) = true then 1 else 0) = cnt _ n + (if decide (key n < b) = true then 1 else 0) + (cnt _ n + (if decide (key n = b) = true then 1 else 0))
    rw [ih]
    by_cases h1 : key n < b
    · rw [decide_eq_true h1, decide_eq_false (show ¬ key n = b by omega), decide_eq_true (show key n < b + 1 by omega)]
      simp; omega
    · by_cases h2 : key n = b
      · rw [decide_eq_false h1, decide_eq_true h2, decide_eq_true (show key n < b + 1 by omega)]
        simp; omega
      · rw [decide_eq_false h1, decide_eq_false h2, decide_eq_false (show ¬ key n < b + 1 by omega)]
        simp
/-- where relation r lies -/
def gpos (R : Int) (key : Int → Int) (r : Int) : Int := (cnt (fun q => decide (key q < key r)) R.toNat : Nat) + (cnt (fun q => decide (key q = key r)) r.toNat : Nat)
theorem gpos_lt {R : Int} {key : Int → Int} {r : Int} (hr : In R r) : 0 ≤ gpos R key r ∧ gpos R key r < (cnt (fun q => decide (key q < key r + 1)) R.toNat : Nat) := by
  unfold gpos
  have a := cnt_add (key := key) (b := key r) R.toNat
  have s := cnt_succ (p := fun q => decide (key q = key r)) hr.1
  simp only [decide_true, if_true] at s
  have m := cnt_mono (p := fun q => decide (key q = key r)) (n := (r + 1).toNat) (m := R.toNat) (by have := hr.2; omega)
  rw [a]
  push_cast
  omega
theorem cnt_lt_mono {key : Int → Int} {a b : Int} (h : a ≤ b) (n : Nat) : cnt (fun q => decide (key q < a)) n ≤ cnt (fun q => decide (key q < b)) n := cnt_sub (fun x _ hx => by simp at hx ⊢; omega)
theorem gpos_inj {R : Int} {key : Int → Int} {r q : Int} (hr : In R r) (hq : In R q) (h : gpos R key r = gpos R key q) : r = q := by
  have key' : ∀ a b : Int, In R a → In R b → key a < key b → gpos R key a < gpos R key b := fun a b ha hb hl => by
    have h1 := (gpos_lt (key := key) ha).2
    have h2 := cnt_lt_mono (key := key) (a := key a + 1) (b := key b) (by omega) R.toNat
    have h3 : (cnt (fun q => decide (key q < key b)) R.toNat : Int) ≤ gpos R key b := by unfold gpos; omega
    omega
  have same : ∀ a b : Int, In R a → In R b → key a = key b → a < b → gpos R key a < gpos R key b := fun a b ha hb he hl => by
    unfold gpos
    rw [he]
    have s := cnt_succ (p := fun q => decide (key q = key b)) ha.1
    simp only [he, decide_true, if_true] at s
    have m := cnt_mono (p := fun q => decide (key q = key b)) (n := (a + 1).toNat) (m := b.toNat) (by have := ha.1; omega)
    omega
  by_cases h1 : key r < key q
  · have := key' r q hr hq h1; omega
  · by_cases h2 : key q < key r
    · have := key' q r hq hr h2; omega
    · by_cases h3 : r < q
      · have := same r q hr hq (by omega) h3; omega
      · by_cases h4 : q < r
        · have := same q r hq hr (by omega) h4; omega
        · omega
/-- rows but for those of the sort are kept -/
def GF (p2 p3 : Nat) (h h' : AH) : Prop := (∀ o, o ≠ p2 → o ≠ p3 → o ≠ 29 → Kp o h h') ∧ nn h' = nn h ∧ us h' = us h ∧ gr h' = gr h ∧ sh h' = sh h ∧ gl h' = gl h
theorem GF.refl {p2 p3 : Nat} {h : AH} : GF p2 p3 h h := ⟨fun _ _ _ _ => Kp.refl, rfl, rfl, rfl, rfl, rfl⟩
theorem GF.si {p2 p3 : Nat} {h h' : AH} {o : Nat} {k v : Int} (g : GF p2 p3 h h') (ho : o = p2 ∨ o = p3 ∨ o = 29) : GF p2 p3 h (si h' o k v) := ⟨fun p a b c => (g.1 p a b c).si (by omega), g.2⟩
theorem GF.fix {p2 p3 : Nat} {h h' : AH} (g : GF p2 p3 h h') (hF : Fix h) : Fix h' := ⟨fun e he => by rw [g.2.2.2.1]; exact hF.1 e he, fun e he => by rw [g.2.2.2.2.1]; exact hF.2.1 e he, by rw [g.2.1]; exact hF.2.2⟩
/-- the rows that the sort is of -/
def GP (h : AH) (p1 p2 p3 : Nat) (n R : Int) (key : Int → Int) : Prop := (p1 ≠ p2 ∧ p1 ≠ p3 ∧ p1 ≠ 29 ∧ p2 ≠ p3 ∧ p2 ≠ 29 ∧ p3 ≠ 29) ∧ (p2 ≠ 46 ∧ p3 ≠ 46 ∧ p2 ≠ 20 ∧ p3 ≠ 20) ∧ sh h p1 = (0, 200) ∧ sh h p2 = (0, 101) ∧ sh h p3 = (0, 200) ∧ gi h 46 0 = R ∧ gi h 20 0 = n ∧ (0 ≤ n ∧ n ≤ 100) ∧ (0 ≤ R ∧ R ≤ 200) ∧ ∀ r, In R r → gi h p1 r = key r ∧ In n (key r)
theorem GP.gf {h h' : AH} {p1 p2 p3 : Nat} {n R : Int} {key : Int → Int} (g : GP h p1 p2 p3 n R key) (f : GF p2 p3 h h') : GP h' p1 p2 p3 n R key := by
  obtain ⟨⟨d1, d2, d3, d4, d5, d6⟩, ⟨e1, e2, e3, e4⟩, g1, g2, g3, g4, g5, g6, g7, g8⟩ := g
  have s := f.2.2.2.2.1
  refine ⟨⟨d1, d2, d3, d4, d5, d6⟩, ⟨e1, e2, e3, e4⟩, by rw [s]; exact g1, by rw [s]; exact g2, by rw [s]; exact g3, by rw [(f.1 46 (by omega) (by omega) (by omega)).1]; exact g4, by rw [(f.1 20 (by omega) (by omega) (by omega)).1]; exact g5, g6, g7, fun r hr => by rw [(f.1 p1 d1 d2 d3).1]; exact g8 r hr⟩
theorem c_group_61 {h0 : AH} {Q : Option AV → AH → Prop} {p1 p2 p3 : Nat} {n R : Int} {key : Int → Int} (hF0 : Fix h0) (g0 : GP h0 p1 p2 p3 n R key) (cont : ∀ h', Fix h' → GF p2 p3 h0 h' → Grp n R key (gi h' p2) (gi h' p3) → Q none h') (m : Nat) :
    ∀ (h : AH) (r : Int), (R - r).toNat = m → 0 ≤ r → r ≤ R → GF p2 p3 h0 h → (∀ b, 0 ≤ b → b ≤ n → gi h p2 b = (cnt (fun q => decide (key q < b)) R.toNat : Nat)) → (∀ b, In n b → gi h 29 b = (cnt (fun q => decide (key q < b)) R.toNat : Nat) + (cnt (fun q => decide (key q = b)) r.toNat : Nat)) → (∀ q, In r q → gi h p3 (gpos R key q) = q) → Ok 110 61 [some (vR (some 21)), some (vR (some p1)), some (vR (some p2)), some (vR (some p3)), some (vI n), some (vI r)] [] h Q := by
  induction m using Nat.strongRecOn with
  | ind m ih =>
    intro h r hm r0 r1 gf hb hs hmb
    have hF := gf.fix hF0
    obtain ⟨⟨d1, d2, d3, d4, d5, d6⟩, ⟨e1, e2, e3, e4⟩, g1, g2, g3, g4, g5, g6, g7, g8⟩ := g0.gf gf
    refine f_X9_group_61 hF _ _ _ _ _ ?_
    rw [g4]
    refine ⟨fun q => ?_, fun q => ?_⟩
    · have e : r = R := by omega
      subst e
      exact cont h hF gf ⟨hb, fun q hq => hmb q hq⟩
    · have hr : In R r := ⟨r0, by omega⟩
      obtain ⟨k1, k2⟩ := g8 r hr
      have k20 := k2.1
      have k21 := k2.2
      have ep : gi h 29 (key r) = gpos R key r := hs (key r) k2
      have pl := gpos_lt (key := key) hr
      have pc := cnt_le (fun q => decide (key q < key r + 1)) R.toNat
      have ep1 : ∀ v w : Int, gi (si h p3 v w) p1 r = key r := fun v w => by rw [gi_si_o d2]; exact k1
      have ep2 : ∀ v w : Int, gi (si h p3 v w) 29 (key r) = gpos R key r := fun v w => by rw [gi_si_o (Ne.symm d6)]; exact ep
      rw [k1, ep, ep1, ep2, g1, g3]
      refine ⟨⟨rfl, r0, by show r < 200; omega⟩, ⟨by omega, by omega⟩, ⟨rfl, pl.1, by show gpos R key r < 200; omega⟩, ⟨by omega, by omega⟩, ⟨by omega, by omega⟩, ⟨by omega, by omega⟩, ?_⟩
      refine ih _ (by omega) _ (r + 1) rfl (by omega) (by omega) ((gf.si (by omega)).si (by omega)) (fun b b0 b1 => ?_) (fun b hb' => ?_) (fun q hq => ?_)
      · rw [gi_si_o d5, gi_si_o d4]; exact hb b b0 b1
      · have s := cnt_succ (p := fun q => decide (key q = b)) r0
        by_cases e : b = key r
        · rw [e, gi_si_e, ← ep, hs (key r) k2]
          rw [e] at s
          rw [s]
          simp; omega
        · rw [gi_si_k e, gi_si_o (Ne.symm d6), hs b hb', s]
          have : ¬ key r = b := fun z => e z.symm
          simp [this]
      · rw [gi_si_o d6]
        by_cases e : q = r
        · rw [e, gi_si_e]
        · have hq' : In R q := ⟨hq.1, by have := hq.2; omega⟩
          rw [gi_si_k (fun z => e (gpos_inj hq' hr z))]
          exact hmb q ⟨hq.1, by have := hq.2; omega⟩
theorem c_group_36 {h0 : AH} {Q : Option AV → AH → Prop} {p1 p2 p3 : Nat} {n R : Int} {key : Int → Int} (hF0 : Fix h0) (g0 : GP h0 p1 p2 p3 n R key) (cont : ∀ h', Fix h' → GF p2 p3 h0 h' → Grp n R key (gi h' p2) (gi h' p3) → Q none h') (m : Nat) :
    ∀ (h : AH) (b : Int), (n - b).toNat = m → 0 ≤ b → b ≤ n → GF p2 p3 h0 h → (∀ x, 0 ≤ x → x ≤ b → gi h p2 x = (cnt (fun q => decide (key q < x)) R.toNat : Nat)) → (∀ x, b ≤ x → x < n → gi h p2 (x + 1) = (cnt (fun q => decide (key q = x)) R.toNat : Nat)) → (∀ x, In b x → gi h 29 x = (cnt (fun q => decide (key q < x)) R.toNat : Nat)) → Ok 110 36 [some (vR (some 21)), some (vR (some p1)), some (vR (some p2)), some (vR (some p3)), some (vI n), some (vI b)] [] h Q := by
  induction m using Nat.strongRecOn with
  | ind m ih =>
    intro h b hm b0 b1 gf hlo hhi hsc
    have hF := gf.fix hF0
    obtain ⟨⟨d1, d2, d3, d4, d5, d6⟩, ⟨e1, e2, e3, e4⟩, g1, g2, g3, g4, g5, g6, g7, g8⟩ := g0.gf gf
    refine f_X9_group_36 hF _ _ _ _ _ ⟨fun q => ?_, fun q => ?_⟩
    · have e : b = n := by omega
      subst e
      exact c_group_61 hF0 g0 cont _ h 0 rfl (by omega) g7.1 gf hlo (fun x hx => by rw [hsc x hx]; show _ = _ + ((0 : Nat) : Int); omega) (fun q hq => by have := hq.1; have := hq.2; omega)
    · have a1 := hlo b b0 (Int.le_refl _)
      have a2 := hhi b (Int.le_refl _) (by omega)
      have c1 := cnt_le (fun q => decide (key q < b)) R.toNat
      have c2 := cnt_le (fun q => decide (key q = b)) R.toNat
      have ad := cnt_add (key := key) (b := b) R.toNat
      have z1 : ∀ v, gi (si h 29 b v) p2 (b + 1) = (cnt (fun q => decide (key q = b)) R.toNat : Nat) := fun v => by rw [gi_si_o d5]; exact a2
      have z2 : ∀ v, gi (si h 29 b v) p2 b = (cnt (fun q => decide (key q < b)) R.toNat : Nat) := fun v => by rw [gi_si_o d5]; exact a1
      rw [a1, z1, z2, g2]
      refine ⟨⟨rfl, b0, by show b < 101; omega⟩, ⟨by omega, by omega⟩, ⟨by omega, by omega⟩, ⟨rfl, by omega, by show b + 1 < 101; omega⟩, ⟨by omega, by omega⟩, ?_⟩
      refine ih _ (by omega) _ (b + 1) rfl (by omega) (by omega) ((gf.si (by omega)).si (by omega)) (fun x x0 x1 => ?_) (fun x x0 x1 => ?_) (fun x hx => ?_)
      · by_cases e : x = b + 1
        · rw [e, gi_si_e, ad]; push_cast; omega
        · rw [gi_si_k e, gi_si_o d5]; exact hlo x x0 (by omega)
      · rw [gi_si_k (by omega), gi_si_o d5]; exact hhi x (by omega) x1
      · rw [gi_si_o (Ne.symm d5)]
        by_cases e : x = b
        · rw [e, gi_si_e]
        · rw [gi_si_k e]; exact hsc x ⟨hx.1, by have := hx.2; omega⟩
theorem c_group_17 {h0 : AH} {Q : Option AV → AH → Prop} {p1 p2 p3 : Nat} {n R : Int} {key : Int → Int} (hF0 : Fix h0) (g0 : GP h0 p1 p2 p3 n R key) (cont : ∀ h', Fix h' → GF p2 p3 h0 h' → Grp n R key (gi h' p2) (gi h' p3) → Q none h') (m : Nat) :
    ∀ (h : AH) (r : Int), (R - r).toNat = m → 0 ≤ r → r ≤ R → GF p2 p3 h0 h → gi h p2 0 = 0 → (∀ x, In n x → gi h p2 (x + 1) = (cnt (fun q => decide (key q = x)) r.toNat : Nat)) → Ok 110 17 [some (vR (some 21)), some (vR (some p1)), some (vR (some p2)), some (vR (some p3)), some (vI n), some (vI r)] [] h Q := by
  induction m using Nat.strongRecOn with
  | ind m ih =>
    intro h r hm r0 r1 gf hz hI
    have hF := gf.fix hF0
    obtain ⟨⟨d1, d2, d3, d4, d5, d6⟩, ⟨e1, e2, e3, e4⟩, g1, g2, g3, g4, g5, g6, g7, g8⟩ := g0.gf gf
    refine f_X9_group_17 hF _ _ _ _ _ ?_
    rw [g4]
    refine ⟨fun q => ?_, fun q => ?_⟩
    · have e : r = R := by omega
      subst e
      refine c_group_36 hF0 g0 cont _ h 0 rfl (by omega) g6.1 gf (fun x x0 x1 => ?_) (fun x x0 x1 => hI x ⟨x0, x1⟩) (fun x hx => by have := hx.1; have := hx.2; omega)
      have x00 : x = 0 := by omega
      rw [x00, hz, cnt_zero (fun y hy => by
        have := (g8 y ⟨hy.1, by have := hy.2; omega⟩).2.1
        simp; omega)]
      rfl
    · have hr : In R r := ⟨r0, by omega⟩
      obtain ⟨k1, k2⟩ := g8 r hr
      have k20 := k2.1
      have k21 := k2.2
      have a := hI (key r) k2
      have c1 := cnt_le (fun q => decide (key q = key r)) r.toNat
      rw [k1, a, g1, g2]
      refine ⟨⟨rfl, r0, by show r < 200; omega⟩, ⟨by omega, by omega⟩, ⟨rfl, by omega, by show key r + 1 < 101; omega⟩, ⟨by omega, by omega⟩, ⟨by omega, by omega⟩, ?_⟩
      refine ih _ (by omega) _ (r + 1) rfl (by omega) (by omega) (gf.si (by omega)) (by rw [gi_si_k (by omega)]; exact hz) (fun x hx => ?_)
      have s := cnt_succ (p := fun q => decide (key q = x)) r0
      by_cases e : x = key r
      · rw [e, gi_si_e]
        rw [e] at s
        rw [s]; simp
      · have : ¬ key r = x := fun z => e z.symm
        rw [gi_si_k (by omega), hI x hx, s]
        simp [this]
theorem c_group_6 {h0 : AH} {Q : Option AV → AH → Prop} {p1 p2 p3 : Nat} {n R : Int} {key : Int → Int} (hF0 : Fix h0) (g0 : GP h0 p1 p2 p3 n R key) (cont : ∀ h', Fix h' → GF p2 p3 h0 h' → Grp n R key (gi h' p2) (gi h' p3) → Q none h') (m : Nat) :
    ∀ (h : AH) (b : Int), (n + 1 - b).toNat = m → 0 ≤ b → b ≤ n + 1 → GF p2 p3 h0 h → (∀ x, In b x → gi h p2 x = 0) → Ok 110 6 [some (vR (some 21)), some (vR (some p1)), some (vR (some p2)), some (vR (some p3)), some (vI n), some (vI b)] [] h Q := by
  induction m using Nat.strongRecOn with
  | ind m ih =>
    intro h b hm b0 b1 gf hI
    have hF := gf.fix hF0
    obtain ⟨⟨d1, d2, d3, d4, d5, d6⟩, ⟨e1, e2, e3, e4⟩, g1, g2, g3, g4, g5, g6, g7, g8⟩ := g0.gf gf
    refine f_X9_group_6 hF _ _ _ _ _ ⟨fun q => ?_, fun q => ?_⟩
    · have e : b = n + 1 := by omega
      subst e
      exact c_group_17 hF0 g0 cont _ h 0 rfl (by omega) g7.1 gf (hI 0 ⟨by omega, by omega⟩) (fun x hx => by rw [hI (x + 1) ⟨by have := hx.1; omega, by have := hx.2; omega⟩]; rfl)
    · rw [g2]
      refine ⟨⟨rfl, b0, by show b < 101; omega⟩, ⟨by omega, by omega⟩, ih _ (by omega) _ (b + 1) rfl (by omega) (by omega) (gf.si (by omega)) (fun x hx => ?_)⟩
      by_cases e : x = b
      · rw [e, gi_si_e]
      · rw [gi_si_k e]; exact hI x ⟨hx.1, by have := hx.2; omega⟩
theorem c_group {h : AH} {Q : Option AV → AH → Prop} {p1 p2 p3 : Nat} {n R : Int} {key : Int → Int} (hF : Fix h) (g0 : GP h p1 p2 p3 n R key) (cont : ∀ h', Fix h' → GF p2 p3 h h' → Grp n R key (gi h' p2) (gi h' p3) → Q none h') : Ok 110 0 [some (vR (some 21)), some (vR (some p1)), some (vR (some p2)), some (vR (some p3)), none, none] [] h Q := by
  refine f_X9_group_0 hF _ _ _ ?_
  rw [g0.2.2.2.2.2.2.1]
  exact c_group_6 hF g0 cont _ h 0 rfl (by omega) (by have := g0.2.2.2.2.2.2.2.1; omega) GF.refl (fun x hx => by have := hx.1; have := hx.2; omega)
