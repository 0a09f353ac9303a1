/-! the class: ways to place a set -/
def Fa (a : Nat) (h h' : AH) : Prop := (∀ o, o ≠ a → Kp o h h') ∧ nn h' = nn h ∧ us h' = us h ∧ gr h' = gr h ∧ sh h' = sh h
theorem Fa.refl {a : Nat} {h : AH} : Fa a h h := ⟨fun _ _ => Kp.refl, rfl, rfl, rfl, rfl⟩
theorem Fa.sl {a : Nat} {h h1 : AH} {k v : Int} (f : Fa a h h1) : Fa a h (sl h1 a k v) := ⟨fun o ho => (f.1 o ho).sl ho, f.2⟩
theorem Fa.fix {a : Nat} {h h' : AH} (g : Fa a h h') (hF : Fix h) : Fix h' := ⟨fun e he => by rw [g.2.2.2.1]; exact hF.1 e he, fun e he => by rw [g.2.2.2.2]; exact hF.2.1 e he, by rw [g.2.1]; exact hF.2.2⟩
theorem sgn_0 {g : Int} : ((if 0 < g then (1 : Int) else if g = 0 then 0 else -1) = 0) ↔ g = 0 := by
  by_cases c : 0 < g
  · rw [if_pos c]; constructor
    · intro q; cases q
    · intro q; omega
  · rw [if_neg c]
    by_cases d : g = 0
    · rw [if_pos d]; exact ⟨fun _ => d, fun _ => rfl⟩
    · rw [if_neg d]; constructor
      · intro q; cases q
      · intro q; exact absurd q d
theorem c_cp_32 {h0 : AH} {Q : Option AV → AH → Prop} {pb : Nat → Nat → Prop} {s a : Nat} {K : Int} (hF0 : Fix h0) (hs : s ≤ 16) (g13 : gr h0 86 13 = some a) (ha : a = 93 ∨ 136 ≤ a) (hK : sh h0 a = (2, K)) (hK2 : ((2 ^ s : Nat) : Int) ≤ K) (ba : BA (gi h0 92) s pb)
    (cont : ∀ h', Fix h' → Fa a h0 h' → Q (some (vL (wS pb s (2 ^ s - 1)))) h') (k : Nat) :
    ∀ (h : AH) (y : Nat), 2 ^ s - y = k → y ≤ 2 ^ s → Fa a h0 h → DPI (gl h a) pb s y 0 → Ok 42 32 [some (vR (some 86)), some (vI (s : Int)), some (vI ((2 ^ s : Nat) : Int)), some (vI (y : Int))] [] h Q := by
  obtain ⟨p1, p2⟩ := pw16 hs
  induction k using Nat.strongRecOn with
  | ind k ih =>
    intro h y hk hy f dp
    have hF := f.fix hF0
    have g13' : gr h 86 13 = some a := by rw [f.2.2.2.1]; exact g13
    have hK' : sh h a = (2, K) := by rw [f.2.2.2.2]; exact hK
    refine f_X4_countPart_32 hF _ _ _ ⟨fun c => ⟨a, g13', ⟨by omega, by omega⟩, by rw [hK']; exact ⟨rfl, by omega, by show _ < K; omega⟩, ?_⟩, fun c => ⟨a, g13', by rw [hK']; exact ⟨rfl, by omega, by show _ < K; omega⟩, ?_⟩⟩
    · have e : (((2 ^ s : Nat) : Int)) - 1 = ((2 ^ s - 1 : Nat) : Int) := by omega
      rw [e, DPI_at dp (by omega) (by omega)]
      exact cont h hF f
    have ew : gl h a (y : Int) = wS pb s y := DPI_at dp (by omega) (Nat.le_refl _)
    rw [sgn_0, ew]
    refine ⟨fun c2 => ⟨⟨by omega, by omega⟩, ih _ (by omega) h (y + 1) rfl (by omega) f (DPI_next (DPI_skips c2 _ 0 rfl (by omega) dp))⟩, fun c2 => ?_⟩
    refine f_X4_spread_0 hF _ _ ?_
    have key : ∀ j (h1 : AH) (b : Nat), s - b = j → b ≤ s → Fa a h0 h1 → gl h1 a (y : Int) = wS pb s y → DPI (gl h1 a) pb s y b → Ok 43 2 [some (vR (some 86)), some (vI (y : Int)), some (vI (s : Int)), some (vI (b : Int))] [] h1 (fun v h_3 => v = none ∧ Fix h_3 ∧ (-2147483648 ≤ (y : Int) + 1 ∧ (y : Int) + 1 < 2147483648) ∧ Ok 42 32 [some (vR (some 86)), some (vI (s : Int)), some (vI ((2 ^ s : Nat) : Int)), some (vI ((y : Int) + 1))] [] h_3 Q) := by
      intro j
      induction j using Nat.strongRecOn with
      | ind j jh =>
        intro h1 b hj hb f1 ew1 dp1
        have F1 := f1.fix hF0
        have e92 : gi h1 92 = gi h0 92 := (f1.1 92 (by omega)).1
        have g131 : gr h1 86 13 = some a := by rw [f1.2.2.2.1]; exact g13
        have hK1 : sh h1 a = (2, K) := by rw [f1.2.2.2.2]; exact hK
        have wb := wS_16 (bf := pb) (S := y) hs (by omega)
        refine f_X4_spread_2 F1 _ _ _ ⟨fun c3 => ⟨rfl, F1, ⟨by omega, by omega⟩, ih _ (by omega) h1 (y + 1) rfl (by omega) f1 (DPI_next (by rw [show b = s by omega] at dp1; exact dp1))⟩, fun c3 => ?_⟩
        rw [bitS (by omega) (by omega), e92]
        have nx : DPI (gl h1 a) pb s y (b + 1) → (-2147483648 ≤ (b : Int) + 1 ∧ (b : Int) + 1 < 2147483648) ∧ Ok 43 2 [some (vR (some 86)), some (vI (y : Int)), some (vI (s : Int)), some (vI ((b : Int) + 1))] [] h1 _ := fun d => ⟨⟨by omega, by omega⟩, jh _ (by omega) h1 (b + 1) rfl (by omega) f1 ew1 d⟩
        refine ⟨fun c4 => nx (DPI_skip dp1 (Or.inl ?_)), fun c4 => ⟨⟨by omega, by omega⟩, fun c5 => nx (DPI_skip dp1 (Or.inr (Or.inl (fun z => c5 ((ba.ok (by omega) (by omega)).mpr z))))), fun c5 => ?_⟩⟩
        · cases q : y.testBit b
          · rw [q] at c4; exact absurd rfl c4
          · rfl
        have y0 : y.testBit b = false := by
          cases q : y.testBit b
          · rfl
          · rw [q] at c4; exact absurd (by decide) c4
        have hok : okB pb y b := (ba.ok (by omega) (by omega)).mp (Decidable.not_not.mp c5)
        obtain ⟨o1, o2⟩ := orS (S := y) (b := b) (by omega) (by omega)
        have o3 : y ||| 2 ^ b < 2 ^ s := o_lt2 (by omega) (by omega)
        rw [o1]
        have db := DPI_b hs dp1 o3
        have hne : y ≠ y ||| 2 ^ b := fun e => by
          have := congrArg (fun z => Nat.testBit z b) e
          simp only [tb_o, y0] at this
          simp at this
        have ed : gl (sl h1 a ((y ||| 2 ^ b : Nat) : Int) (gl h1 a ((y ||| 2 ^ b : Nat) : Int) + wS pb s y)) a = fun S => if S = ((y ||| 2 ^ b : Nat) : Int) then gl h1 a S + wS pb s y else gl h1 a S := by
          funext S
          rw [gl_sl_p]
          by_cases e : S = ((y ||| 2 ^ b : Nat) : Int)
          · rw [if_pos ⟨rfl, e⟩, if_pos e, e]
          · rw [if_neg (fun z => e z.2), if_neg e]
        refine ⟨a, g131, by rw [hK1]; exact ⟨rfl, by omega, by show _ < K; omega⟩, a, g131, by rw [hK1]; exact ⟨rfl, by omega, by show _ < K; omega⟩, ?_⟩
        rw [ew1]
        refine ⟨⟨by omega, by omega⟩, ⟨by omega, by omega⟩, jh _ (by omega) _ (b + 1) rfl (by omega) f1.sl ?_ ?_⟩
        · rw [gl_sl_k (by omega)]; exact ew1
        · rw [ed]
          exact DPI_take dp1 (by omega) (by omega) y0 hok
    exact key _ h 0 rfl (by omega) f ew dp
theorem c_cp_15 {h0 : AH} {Q : Option AV → AH → Prop} {pb : Nat → Nat → Prop} {s a : Nat} {K : Int} (hF0 : Fix h0) (hs : s ≤ 16) (g13 : gr h0 86 13 = some a) (ha : a = 93 ∨ 136 ≤ a) (hK : sh h0 a = (2, K)) (hK2 : ((2 ^ s : Nat) : Int) ≤ K) (ba : BA (gi h0 92) s pb)
    (cont : ∀ h', Fix h' → Fa a h0 h' → Q (some (vL (wS pb s (2 ^ s - 1)))) h') (k : Nat) :
    ∀ (h : AH) (y : Nat), 2 ^ s - y = k → y ≤ 2 ^ s → Fa a h0 h → (∀ S : Nat, S < y → gl h a (S : Int) = 0) → Ok 42 15 [some (vR (some 86)), some (vI (s : Int)), some (vI ((2 ^ s : Nat) : Int)), some (vI (y : Int))] [] h Q := by
  obtain ⟨p1, p2⟩ := pw16 hs
  induction k using Nat.strongRecOn with
  | ind k ih =>
    intro h y hk hy f hI
    have hF := f.fix hF0
    have g13' : gr h 86 13 = some a := by rw [f.2.2.2.1]; exact g13
    have hK' : sh h a = (2, K) := by rw [f.2.2.2.2]; exact hK
    refine f_X4_countPart_15 hF _ _ _ ⟨fun c => ⟨a, g13', by rw [hK']; exact ⟨rfl, by omega, by show _ < K; omega⟩, ?_⟩, fun c => ⟨a, g13', by rw [hK']; exact ⟨rfl, by omega, by show _ < K; omega⟩, ⟨by omega, by omega⟩, ?_⟩⟩
    · refine c_cp_32 hF0 hs g13 ha hK hK2 ba cont _ _ 0 rfl (by omega) f.sl (DPI_init gl_sl_e (fun S hS h2 => ?_))
      rw [gl_sl_k (by omega)]
      exact hI S (by omega)
    · refine ih _ (by omega) _ (y + 1) rfl (by omega) f.sl (fun S hS => ?_)
      by_cases e : S = y
      · subst e; rw [gl_sl_e]
      · rw [gl_sl_k (by omega)]; exact hI S (by omega)
/-- the ways' rows may be new -/
def WyF (h h' : AH) (x : Nat) (s : Nat) : Prop := (gr h' 86 13 = some x ∧ nn h' = nn h ∧ us h' = us h ∧ (∀ o, o ≠ x → Kp o h h') ∧ sh h' x = sh h x) ∨
  (gr h' 86 13 = some (nn h) ∧ nn h' = nn h + 1 ∧ us h' = us h + 2 ^ s ∧ (∀ o, o ≠ 86 → o < nn h → Kp o h h') ∧ (gi h' 86 = gi h 86 ∧ gl h' 86 = gl h 86) ∧ sh h' (nn h) = (2, ((2 ^ s : Nat) : Int)) ∧ (sh h x).2 < ((2 ^ s : Nat) : Int))
theorem c_countPart {h : AH} {Q : Option AV → AH → Prop} {pb : Nat → Nat → Prop} {s x : Nat} {K : Int} (hF : Fix h) (hs : s ≤ 16) (g13 : gr h 86 13 = some x) (hx : x = 93 ∨ 136 ≤ x) (hK : sh h x = (2, K)) (ba : BA (gi h 92) s pb)
    (cont : ∀ h', Fix h' → WyF h h' x s → Q (some (vL (wS pb s (2 ^ s - 1)))) h') : Ok 42 0 [some (vR (some 86)), some (vI (s : Int)), none, none] [] h Q := by
  obtain ⟨p1, p2⟩ := pw16 hs
  have n136 : 136 ≤ nn h := hF.2.2
  have e1 : iShl 1 (s : Int) = ((2 ^ s : Nat) : Int) := by rw [iShl_1 ⟨by omega, by omega⟩, show ((s : Int)).toNat = s by omega]
  refine f_X4_countPart_0 hF _ ⟨x, g13, by rw [hK]; show (2 : Nat) < 10; decide, ?_⟩
  rw [e1, hK]
  refine ⟨fun c => c_cp_15 hF hs g13 hx hK c ba (fun h' F' f' => cont h' F' (Or.inl ⟨by rw [f'.2.2.2.1]; exact g13, f'.2.1, f'.2.2.1, f'.1, by rw [f'.2.2.2.2]⟩)) _ h 0 rfl (by omega) Fa.refl (fun S hS => by omega), fun c => ⟨⟨by omega, by omega⟩, ?_⟩⟩
  have F1 : Fix (sr (al h 2 ((2 ^ s : Nat) : Int)) 86 13 (some (nn h))) := (Fix.al hF).srF 86 13 (by decide +kernel)
  have g1 : gr (sr (al h 2 ((2 ^ s : Nat) : Int)) 86 13 (some (nn h))) 86 13 = some (nn h) := gr_sr_e
  have s1 : sh (sr (al h 2 ((2 ^ s : Nat) : Int)) 86 13 (some (nn h))) (nn h) = (2, ((2 ^ s : Nat) : Int)) := sh_al_e
  refine c_cp_15 F1 hs g1 (Or.inr n136) s1 (Int.le_refl _) ?_ (fun h' F' f' => cont h' F' (Or.inr ⟨by rw [f'.2.2.2.1]; exact g1, by rw [f'.2.1]; rfl, ?_, fun o o1 o2 => ?_, ?_, by rw [f'.2.2.2.2]; exact s1, by rw [hK]; show K < _; have : ¬ (((2 ^ s : Nat) : Int) ≤ K) := c; omega⟩)) _ _ 0 rfl (by omega) Fa.refl (fun S hS => by omega)
  · have : gi (sr (al h 2 ((2 ^ s : Nat) : Int)) 86 13 (some (nn h))) 92 = gi h 92 := funext fun j => gi_al_p (t := 2) (n := ((2 ^ s : Nat) : Int)) (by omega)
    rw [this]; exact ba
  · rw [f'.2.2.1]
    show us h + (((2 ^ s : Nat) : Int)).toNat = _
    rw [show (((2 ^ s : Nat) : Int)).toNat = 2 ^ s by omega]
  · exact ((Kp.refl.al o2).sr o1).trans (f'.1 o (by omega))
  · have k86 := f'.1 86 (by omega)
    refine ⟨?_, ?_⟩
    · rw [k86.1]; exact funext fun j => gi_al_p (t := 2) (n := ((2 ^ s : Nat) : Int)) (by omega)
    · rw [k86.2.1]; exact funext fun j => gl_al_p (t := 2) (n := ((2 ^ s : Nat) : Int)) (by omega)
