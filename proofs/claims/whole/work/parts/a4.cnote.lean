/-! note in the class -/
theorem w32_byt {w : Int} {j : Nat} (hj : j < 8) : w32 (lAnd (lUshr w (8 * j)) 255) = byt w j := by
  have r := byt_rng w j
  rw [byt_ushr hj, w32_of ⟨by omega, by omega⟩]
theorem c_lettersOf_4 {h : AH} {Q : Option AV → AH → Prop} {w : Int} (hF : Fix h) (cont : ∀ x, (okL w ∧ x = ((lts w 8).length : Int) ∨ ¬ okL w ∧ x = 0) → Q (some (vI x)) h) : ∀ (j : Nat) (y2 : Int), j ≤ 8 → 0 ≤ y2 → y2 + ((lts w j).length : Int) = ((lts w 8).length : Int) → (∀ i, j ≤ i → i < 8 → byt w i = 0 ∨ 32 ≤ byt w i ∧ byt w i ≤ 126) →
    Ok 24 4 [some (vL w), none, some (vI y2), some (vI (8 * j - 8)), none] [] h Q
  | 0, y2, _, y0, hl, ho => by
    refine f_X3_lettersOf_4 hF _ _ _ ⟨fun _ => cont _ (Or.inl ⟨fun i hi => ho i (Nat.zero_le _) hi, ?_⟩), fun q => absurd (by decide) q⟩
    rw [← hl]
    show y2 = y2 + ((0 : Nat) : Int)
    omega
  | j + 1, y2, hj, y0, hl, ho => by
    have e : 8 * (((j + 1 : Nat)) : Int) - 8 = 8 * (j : Int) := by push_cast; omega
    have l8 := lts_len w 8
    rw [e]
    refine f_X3_lettersOf_4 hF _ _ _ ?_
    rw [w32_byt (show j < 8 by omega)]
    refine ⟨fun q => by omega, fun _ => ⟨fun b => ⟨by omega, by omega, ?_⟩, fun b => ⟨fun b2 => cont 0 (Or.inr ⟨fun ok => ?_, rfl⟩), fun b2 => ⟨fun b3 => ⟨by omega, by omega, ?_⟩, fun b3 => cont 0 (Or.inr ⟨fun ok => ?_, rfl⟩)⟩⟩⟩⟩
    · rw [show 8 * (j : Int) + -8 = 8 * (j : Int) - 8 by omega]
      refine c_lettersOf_4 hF cont j _ (by omega) (by omega) ?_ (fun i h1 h2 => ?_)
      · rw [show lts w (j + 1) = if byt w j = 0 then lts w j else byt w j :: lts w j from rfl, if_pos b] at hl
        omega
      · by_cases ei : i = j
        · rw [ei]; exact Or.inl b
        · exact ho i (by omega) h2
    · have := ok j (by omega); omega
    · rw [show 8 * (j : Int) + -8 = 8 * (j : Int) - 8 by omega]
      refine c_lettersOf_4 hF cont j _ (by omega) (by omega) ?_ (fun i h1 h2 => ?_)
      · rw [show lts w (j + 1) = if byt w j = 0 then lts w j else byt w j :: lts w j from rfl, if_neg b, List.length_cons] at hl
        push_cast at hl
        omega
      · by_cases ei : i = j
        · rw [ei]; exact Or.inr ⟨by omega, by omega⟩
        · exact ho i (by omega) h2
    · have := ok j (by omega); omega
theorem c_lettersOf {h : AH} {Q : Option AV → AH → Prop} {w : Int} (hF : Fix h) (cont : ∀ x, (okL w ∧ x = ((lts w 8).length : Int) ∨ ¬ okL w ∧ x = 0) → Q (some (vI x)) h) : Ok 24 0 [some (vL w), none, none, none, none] [] h Q :=
  f_X3_lettersOf_0 hF _ (c_lettersOf_4 hF cont 8 0 (by omega) (by omega) (by omega) (fun i h1 h2 => by omega))
/-- the find of a note: had letters of b, then those of w -/
def tNt (b : Int → Int) (hd w : Int) : Int → Int := fun i => if i = -3 then 3 else if i = -2 then 0 else if i = -1 then hd + (lts w 8).length else if i < hd then b i else (lts w 8).getD (i - hd).toNat 0
theorem tNt_i {b : Int → Int} {hd w i : Int} (h : 0 ≤ i) : tNt b hd w i = if i < hd then b i else (lts w 8).getD (i - hd).toNat 0 := by
  unfold tNt; rw [if_neg (by omega), if_neg (by omega), if_neg (by omega)]
theorem c_withLetters_32 {h0 : AH} {Q : Option AV → AH → Prop} {G : Nat → Prop} {q : Option Nat} {w y3 : Int} {y4 : Nat} {t : Int → Int} (n0 : 136 ≤ nn h0) (h4 : y4 < nn h0) (hG : G y4 ∧ G (nn h0)) (sy : sh h0 y4 = (0, t (-1))) (t3 : t (-3) = 3) (t2 : t (-2) = 0) (h40 : t (-1) ≤ 40)
    (cont : ∀ h', Fix h' → (∀ r, r < nn h0 → r ≠ y4 → Kp r h0 h') → nn h' = nn h0 + 1 → us h' = us h0 + 6 → FO h' G (nn h0) t → Q (some (vR (some (nn h0)))) h') : ∀ (j : Nat) (h : AH) (y5 : Int), j ≤ 8 → 0 ≤ y5 → Fix h → (∀ r, r ≠ y4 → Kp r h0 h) → nn h = nn h0 → us h = us h0 → sh h y4 = sh h0 y4 → (∀ i, In y5 i → gi h y4 i = t i) → y5 + (lts w j).length = t (-1) → (∀ k : Nat, k < (lts w j).length → t (y5 + k) = (lts w j).getD k 0) →
    Ok 25 32 [some (vR q), some (vL w), none, some (vI y3), some (vR (some y4)), some (vI y5), some (vI (8 * j - 8)), none] [] h Q
  | 0, h, y5, _, y0, hF, kp, hn, hu, sh4, hI, hl, ht => by
    have hl' : y5 = t (-1) := by rw [← hl]; show y5 = y5 + ((0 : Nat) : Int); omega
    refine f_X3_withLetters_32 hF _ _ _ _ _ _ ⟨fun _ => ?_, fun q => absurd (by decide) q⟩
    rw [hn]
    refine c_init (G := G) (t := t) hF.al n0 (by rw [← hn]; exact sh_al_e) (by rw [sh_al_p (by omega), sh4]; exact sy) (by omega) hG.2 hG.1 t3 t2 (fun i hi => by rw [gi_al_p (by omega)]; exact hI i (by rw [hl']; exact hi)) (fun q => absurd q (by decide)) (fun h9 F9 k9 nn9 us9 fo9 => ⟨rfl, F9, ?_⟩)
    refine cont h9 F9 (fun r hr r4 => ((kp r r4).al (by omega)).trans (k9 r (by omega))) (by rw [nn9, nn_al, hn]) ?_ fo9
    rw [us9, us_al, hu]; rfl
  | j + 1, h, y5, hj, y0, hF, kp, hn, hu, sh4, hI, hl, ht => by
    have e : 8 * (((j + 1 : Nat)) : Int) - 8 = 8 * (j : Int) := by push_cast; omega
    have s4 : sh h y4 = (0, t (-1)) := by rw [sh4]; exact sy
    rw [e]
    refine f_X3_withLetters_32 hF _ _ _ _ _ _ ?_
    rw [w32_byt (show j < 8 by omega), s4]
    have l8 := lts_len w (j + 1)
    refine ⟨fun q => by omega, fun _ => ⟨fun b => ⟨by omega, ?_⟩, fun b => ⟨by show (0 : Nat) < 10; decide, fun q => ?_, fun q => ⟨⟨rfl, y0, by have : ¬ t (-1) ≤ y5 := q; show y5 < t (-1); omega⟩, ?_, by omega, ?_⟩⟩⟩⟩
    · unfold lts at hl ht
      rw [if_pos b] at hl
      rw [if_pos b] at ht
      rw [show 8 * (j : Int) + -8 = 8 * (j : Int) - 8 by omega]
      exact c_withLetters_32 n0 h4 hG sy t3 t2 h40 cont j h y5 (by omega) y0 hF kp hn hu sh4 hI hl ht
    · unfold lts at hl
      rw [if_neg b, List.length_cons] at hl
      push_cast at hl
      have : t (-1) ≤ y5 := q
      omega
    · have : ¬ t (-1) ≤ y5 := q
      omega
    · unfold lts at hl ht
      rw [if_neg b] at hl
      rw [if_neg b] at ht
      rw [List.length_cons] at hl
      push_cast at hl
      rw [show 8 * (j : Int) + -8 = 8 * (j : Int) - 8 by omega]
      refine c_withLetters_32 n0 h4 hG sy t3 t2 h40 cont j _ (y5 + 1) (by omega) (by omega) hF (fun r r4 => (kp r r4).si r4) hn hu sh4 (fun i hi => ?_) (by omega) (fun k hk => ?_)
      · by_cases ei : i = y5
        · have h0 := ht 0 (by rw [List.length_cons]; omega)
          rw [ei, gi_si_e]
          have e2 : y5 + ((0 : Nat) : Int) = y5 := by omega
          rw [e2] at h0
          rw [h0]; rfl
        · rw [gi_si_k ei]; exact hI i ⟨hi.1, by have := hi.2; omega⟩
      · have h1 := ht (k + 1) (by rw [List.length_cons]; omega)
        have e2 : y5 + ((k + 1 : Nat) : Int) = y5 + 1 + k := by push_cast; omega
        rw [e2] at h1
        rw [h1]; rfl
theorem c_withLetters_9 {h0 : AH} {Q : Option AV → AH → Prop} {G : Nat → Prop} {w y3 : Int} {y4 o a : Nat} {t b : Int → Int} (n0 : 136 ≤ nn h0) (h4 : y4 < nn h0) (hG : G y4 ∧ G (nn h0)) (sy : sh h0 y4 = (0, t (-1))) (t3 : t (-3) = 3) (t2 : t (-2) = 0) (h40 : t (-1) ≤ 40) (so : sh h0 o = (13, 6)) (ra : gr h0 o 2 = some a) (sa : sh h0 a = (0, b (-1))) (hb : ∀ i, In (b (-1)) i → gi h0 a i = b i) (oy : o ≠ y4) (ay : a ≠ y4) (tb : ∀ i, In (b (-1)) i → t i = b i) (b0 : 0 ≤ b (-1)) (hl : b (-1) + (lts w 8).length = t (-1)) (ht : ∀ k : Nat, k < (lts w 8).length → t (b (-1) + k) = (lts w 8).getD k 0) (h1 : 1 ≤ (lts w 8).length)
    (cont : ∀ h', Fix h' → (∀ r, r < nn h0 → r ≠ y4 → Kp r h0 h') → nn h' = nn h0 + 1 → us h' = us h0 + 6 → FO h' G (nn h0) t → Q (some (vR (some (nn h0)))) h') (m : Nat) : ∀ (h : AH) (i : Int), (b (-1) - i).toNat = m → 0 ≤ i → i ≤ b (-1) → Fix h → (∀ r, r ≠ y4 → Kp r h0 h) → nn h = nn h0 → us h = us h0 → sh h y4 = sh h0 y4 → (∀ k, In i k → gi h y4 k = t k) →
    Ok 25 9 [some (vR (some o)), some (vL w), none, some (vI y3), some (vR (some y4)), some (vI i), some (vI i), none] [] h Q := by
  induction m using Nat.strongRecOn with
  | ind m ih =>
    intro h i hm i0 i1 hF kp hn hu sh4 hI
    have ko := kp o oy
    have ka := kp a ay
    have s4 : sh h y4 = (0, t (-1)) := by rw [sh4]; exact sy
    refine f_X3_withLetters_9 hF _ _ _ _ _ _ ⟨fun q => (by cases q), fun o' e => ?_⟩
    cases e
    have go : b (-1) ≤ i → Ok 25 32 [some (vR (some o)), some (vL w), none, some (vI y3), some (vR (some y4)), some (vI i), some (vI 56), none] [] h Q := fun q => by
      have ei : i = b (-1) := by omega
      rw [ei] at hI ⊢
      exact c_withLetters_32 n0 h4 hG sy t3 t2 h40 cont 8 h (b (-1)) (by omega) b0 hF kp hn hu sh4 hI hl ht
    rw [ko.2.2.2.2, so, ko.2.2.2.1, s4]
    refine ⟨rfl, a, ra, ?_⟩
    rw [ka.2.2.2.2, sa]
    refine ⟨by show (0 : Nat) < 10; decide, fun q => go q, fun q => ⟨by show (0 : Nat) < 10; decide, fun q2 => ?_, fun q2 => ⟨rfl, a, ra, ?_⟩⟩⟩
    · have : t (-1) ≤ i := q2
      omega
    · rw [ka.2.2.2.2, sa]
      have q' : ¬ b (-1) ≤ i := q
      refine ⟨⟨rfl, i0, by show i < b (-1); omega⟩, ⟨rfl, i0, by show i < t (-1); omega⟩, ⟨by omega, by omega⟩, ⟨by omega, by omega⟩, ?_⟩
      refine ih _ (by omega) _ (i + 1) rfl (by omega) (by omega) hF (fun r r4 => (kp r r4).si r4) hn hu sh4 (fun k hk => ?_)
      by_cases ek : k = i
      · rw [ek, gi_si_e, congrFun ka.1 i, hb i ⟨i0, by omega⟩, tb i ⟨i0, by omega⟩]
      · rw [gi_si_k ek]; exact hI k ⟨hk.1, by have := hk.2; omega⟩
theorem c_withLetters {h : AH} {Q : Option AV → AH → Prop} {G : Nat → Prop} {q : Option Nat} {b : Int → Int} {w hd : Int} (hF : Fix h) (hG : ∀ o, G o → 136 ≤ o ∧ o < nn h) (hq : (q = none ∧ hd = 0) ∨ ∃ o, q = some o ∧ FO h G o b ∧ b (-1) = hd) (h0 : 0 ≤ hd) (h1 : 1 ≤ (lts w 8).length) (h40 : hd + (lts w 8).length ≤ 40)
    (cont : ∀ h' o', Fix h' → (∀ r, r < nn h → Kp r h h') → nn h' = nn h + 2 → (us h' : Int) ≤ us h + 60 → FO h' (fun x => G x ∨ nn h ≤ x ∧ x < nn h') o' (tNt b hd w) → Q (some (vR (some o'))) h') : Ok 25 0 [some (vR q), some (vL w), none, some (vI (hd + (lts w 8).length)), none, none, none, none] [] h Q := by
  have n0 := hF.2.2
  have el : (if hd + ((lts w 8).length : Int) < 0 then 0 else hd + ((lts w 8).length : Int)) = hd + (lts w 8).length := if_neg (by omega)
  refine f_X3_withLetters_0 hF _ _ _ ?_
  rw [el]
  refine ⟨⟨by omega, by omega⟩, ?_⟩
  have eo : nn (al h 0 (hd + ((lts w 8).length : Int))) = nn h + 1 := rfl
  have eu : us (al h 0 (hd + ((lts w 8).length : Int))) = us h + (hd + ((lts w 8).length : Int)).toNat := rfl
  have g2 : (fun x => G x ∨ nn h ≤ x ∧ x < nn h + 2) (nn h) ∧ (fun x => G x ∨ nn h ≤ x ∧ x < nn h + 2) (nn (al h 0 (hd + ((lts w 8).length : Int)))) := ⟨Or.inr ⟨by omega, by omega⟩, Or.inr ⟨by rw [eo]; omega, by rw [eo]; omega⟩⟩
  have sy : sh (al h 0 (hd + ((lts w 8).length : Int))) (nn h) = (0, tNt b hd w (-1)) := sh_al_e
  have tl : tNt b hd w (-1) = hd + (lts w 8).length := rfl
  have ht : ∀ k : Nat, k < (lts w 8).length → tNt b hd w (hd + k) = (lts w 8).getD k 0 := fun k hk => by
    rw [tNt_i (by omega), if_neg (by omega)]
    congr 1; omega
  have fin : ∀ h', Fix h' → (∀ r, r < nn (al h 0 (hd + ((lts w 8).length : Int))) → r ≠ nn h → Kp r (al h 0 (hd + ((lts w 8).length : Int))) h') → nn h' = nn (al h 0 (hd + ((lts w 8).length : Int))) + 1 → us h' = us (al h 0 (hd + ((lts w 8).length : Int))) + 6 → FO h' (fun x => G x ∨ nn h ≤ x ∧ x < nn h + 2) (nn (al h 0 (hd + ((lts w 8).length : Int)))) (tNt b hd w) → Q (some (vR (some (nn (al h 0 (hd + ((lts w 8).length : Int))))))) h' := fun h' F' k' n' u' fo' => by
    have n2 : nn h' = nn h + 2 := by rw [n', eo]
    exact cont h' _ F' (fun r hr => (Kp.refl.al hr).trans (k' r (by rw [eo]; omega) (by omega))) n2 (by rw [u', eu]; omega) (by rw [n2]; exact fo')
  rcases hq with ⟨hq, hz⟩ | ⟨o, hq, fo, hz⟩
  · subst hq
    refine f_X3_withLetters_9 hF.al _ _ _ _ _ _ ⟨fun _ => ?_, fun o e => by cases e⟩
    refine c_withLetters_32 (t := tNt b hd w) (by rw [eo]; omega) (by rw [eo]; omega) g2 sy rfl rfl (by rw [tl]; exact h40) fin 8 _ 0 (by omega) (by omega) hF.al (fun _ _ => Kp.refl) rfl rfl rfl (fun i hi => by have := hi.1; have := hi.2; omega) (by rw [tl]; omega) (fun k hk => ?_)
    have := ht k hk
    rw [hz] at this ⊢
    exact this
  · subst hq
    obtain ⟨f1, f2, f3, f4, ⟨a, f5, f6, f7, f8⟩, f9⟩ := fo
    have go := (hG o f1).2
    have ga := (hG a f6).2
    refine c_withLetters_9 (t := tNt b hd w) (b := b) (o := o) (a := a) (by rw [eo]; omega) (by rw [eo]; omega) g2 sy rfl rfl (by rw [tl]; exact h40) (by rw [sh_al_p go]; exact f2) (by rw [gr_al_p go]; exact f5) (by rw [sh_al_p ga]; exact f7) (fun i hi => by rw [gi_al_p ga]; exact f8 i hi) (by omega) (by omega) (fun i hi => ?_) (by omega) (by rw [tl, hz]) (by rw [hz]; exact ht) h1 fin _ _ 0 rfl (by omega) (by omega) hF.al (fun _ _ => Kp.refl) rfl rfl rfl (fun i hi => by have := hi.1; have := hi.2; omega)
    rw [tNt_i hi.1, if_pos (by rw [← hz]; exact hi.2)]
theorem RC_note {S D : DD} {T : FD} {t s wd : Int} {b : Int → Int} (w : WF D) (r : RC S T D) (ht : In (D 99 11) t) (hs : In (D 109 t) s) (h5 : D 112 (40 * t + s) = -5 ∨ D 112 (40 * t + s) = 3) (hl : 0 ≤ had D (40 * t + s)) (h40 : had D (40 * t + s) + (lts wd 8).length ≤ 40) (hb : D 112 (40 * t + s) = 3 → ∀ i, In (D 114 (40 * t + s)) i → b i = D 117 (40 * (40 * t + s) + i)) :
    RC (up (up S 68 0 (S 68 0 + 1)) 58 (40 * t + s) (S 68 0)) (tNew T (S 68 0) (tNt b (had D (40 * t + s)) wd)) (sNote D t s wd) := by
  have m0 : D 113 (40 * t + s) = 0 := by
    have := (w.2.2.2.2.2.1 t s ht hs).2.2.1
    by_cases z : D 113 (40 * t + s) = 0
    · exact z
    · have := this z; omega
  have hm := r.2.2.2.1.1
  obtain ⟨k, ek⟩ : ∃ k, k = 40 * t + s := ⟨_, rfl⟩
  have eN : ∀ o i, o ≠ 99 → o ≠ 117 → sNote D t s wd o i = up (up D 112 k 3) 114 k (had D k + (lts wd 8).length) o i := fun o i h1 h2 => by
    unfold sNote
    rw [up_o h1, ← ek]
    by_cases z : o = 114
    · subst z
      by_cases zi : i = k
      · rw [zi, up_e, up_e]
      · rw [up_k zi, up_k zi, apL_o (by decide)]
    · rw [up_o z, up_o z, apL_o h2]
  have e7 : ∀ i, sNote D t s wd 117 i = apL (up D 112 k 3) (40 * k + had D k) (lts wd 8) 117 i := fun i => by
    unfold sNote; rw [up_o (by decide), up_o (by decide), ← ek]
  have e9 : ∀ c, c ≠ 37 → sNote D t s wd 99 c = D 99 c := fun c hc => by unfold sNote; rw [up_k hc, up_o (by decide), apL_o (by decide), up_o (by decide)]
  rw [← ek] at h5 hl h40 hb m0 ⊢
  refine RC_slot (t0 := t) (s0 := s) w (r.T (T' := tNew T (S 68 0) (tNt b (had D k) wd)) (fun i _ h => tNew_o (by omega))) ht hs (fun o h1 h2 => by rw [up_r h1, up_r h2]) (fun j hj => by rw [up_k (by omega), up_o (by decide)]) (by rw [up_o (by decide), up_e]; omega) ?_ (fun c hc => e9 c (by omega)) (fun o h1 h2 => funext fun j => by rw [eN o j h1 (by omega), up_o (by omega), up_o (by omega)]) (fun o h1 h2 j hj => by rw [eN o j (by omega) (by omega)]; unfold up; rw [if_neg (fun q => hj (by omega)), if_neg (fun q => hj (by omega))]) (fun i _ => by rw [eN 116 i (by decide) (by decide), up_o (by decide), up_o (by decide)]) (fun i hi => ?_)
  · rw [← ek, up_e, up_o (p := 68) (o := 58) (by decide), up_e]
    unfold SlotR
    rw [eN 112 k (by decide) (by decide), up_o (p := 112) (o := 114) (by decide), up_e, eN 113 k (by decide) (by decide), up_o (p := 113) (o := 114) (by decide), up_o (p := 113) (o := 112) (by decide), m0, eN 114 k (by decide) (by decide), up_e, tNew_e]
    refine Or.inr ⟨hm, by omega, by omega, rfl, rfl, fun q => by omega, fun q => by omega, fun _ => ⟨rfl, fun i hi => ?_⟩, fun q => by omega⟩
    rw [tNt_i hi.1, e7]
    by_cases z : i < had D k
    · have k3 : D 112 k = 3 := by
        rcases h5 with h5 | h5
        · unfold had at z; rw [if_pos h5] at z; have := hi.1; omega
        · exact h5
      have eh : had D k = D 114 k := by unfold had; rw [if_neg (by omega)]
      rw [if_pos z, apL_lt _ _ _ (by omega), up_o (by decide)]
      exact hb k3 i ⟨hi.1, by omega⟩
    · have i2 := hi.2
      rw [if_neg z]
      have hj : (i - had D k).toNat < (lts wd 8).length := by omega
      have := apL_in (lts wd 8) (up D 112 k 3) (40 * k + had D k) (i - had D k).toNat hj
      rw [show 40 * k + had D k + (((i - had D k).toNat : Nat) : Int) = 40 * k + i by omega] at this
      rw [this, List.getD_eq_getElem?_getD, List.getElem?_eq_getElem hj]
      rfl
  · rw [e7]
    by_cases z : i < 40 * k + had D k
    · rw [apL_lt _ _ _ z, up_o (by decide)]
    · rw [apL_ge _ _ _ (by omega), up_o (by decide)]
theorem c_note {h : AH} {Q : Option AV → AH → Prop} {n : Nat} {Ds : Nat → DD} {Z : DD} {c p t s wd : Int} (hF : Fix h) (ci : CInv h n Ds Z c) (w : WF (Ds n)) (wz : WZ Z c) (hc : c ≤ 1000) (hw : R64 wd) (hp : rp ((0 ≤ t ∧ t < Ds n 99 11) ∧ wd ≠ 0 ∧ okL wd) p)
    (cq : CQ h n Ds Z c (aF 10 t s 0 0 0 wd) p Q) : Ok 157 0 [some (vR (some 1)), some (vI t), some (vI s), some (vL wd), none, none, none, none, none] [] h Q := by
  obtain ⟨hp1, hp0, hp01⟩ := rp_of hp
  obtain ⟨G, S, T, m, rc⟩ := ci.mid
  obtain ⟨ed1, ed2, e21, n300⟩ := ci.ed
  have tr := m.tr (Or.inl (by decide)) rc
  have wc := w.c
  have l8 := lts_len wd 8
  have hG : ∀ o, G o → 136 ≤ o ∧ o < nn h := by
    obtain ⟨Ss, E, L, w, cc, m1, _⟩ := m
    exact m1.1
  refine f_X11_note_0 hF _ _ _ (c_lettersOf hF (fun x hx => ⟨x, rfl, hF, ?_⟩))
  have x0 : 0 < x ↔ wd ≠ 0 ∧ okL wd := by
    rcases hx with ⟨h1, h2⟩ | ⟨h1, h2⟩
    · refine ⟨fun q => ⟨fun e => ?_, h1⟩, fun q => ?_⟩
      · have z : ∀ j, (lts 0 j).length = 0 := fun j => by
          induction j with
          | zero => rfl
          | succ j ih => unfold lts; rw [if_pos (byt_0 j)]; exact ih
        rw [e, z 8] at h2
        omega
      · have := lts_pos hw q.1; omega
    · exact ⟨fun q => by omega, fun q => absurd q.2 h1⟩
  rw [tr.T]
  refine ⟨fun q => c_bad hF ci wz hc (hp0.mpr (by omega)) cq, fun q => ⟨fun q2 => c_bad hF ci wz hc (hp0.mpr (by omega)) cq, fun q2 => ⟨fun q3 => ⟨fun q5 => ?_, fun q5 => c_full hF ci wz hc (hp1.mpr ⟨⟨by omega, by omega⟩, x0.mp q3⟩) q5 cq⟩, fun q3 => c_bad hF ci wz hc (hp0.mpr (fun r => q3 (x0.mpr r.2))) cq⟩⟩⟩
  have hv : p = 1 := hp1.mpr ⟨⟨by omega, by omega⟩, x0.mp q3⟩
  have ht : In (Ds n 99 11) t := ⟨by omega, by omega⟩
  have ok := (x0.mp q3).2
  have ex : x = ((lts wd 8).length : Int) := by
    rcases hx with ⟨h1, h2⟩ | ⟨h1, h2⟩
    · exact h2
    · omega
  have sr := slotF_r (D := Ds n) (t := t) (s := s)
  refine c_lookForMore hF tr w ht ⟨_, rfl, hF, fun q6 => ?_, fun q6 => ?_⟩
  · have g : slotF (Ds n) t s = 0 ∧ (Ds n 112 (40 * t + s) = -5 ∨ Ds n 112 (40 * t + s) = 3) := by
      unfold morF at q6
      split at q6
      · omega
      · split at q6
        · omega
        · omega
    have hs := slotF0.mp g.1
    have q40 := (w.2.2.2.1 t ht).2.1
    have s1 := hs.1
    have s2 := hs.2
    have ws := w.2.2.2.2.2.1 t s ht hs
    have oS : ∀ y, (40 < had (Ds n) (40 * t + s) + (lts wd 8).length) ∧ y = -2 ∨ (had (Ds n) (40 * t + s) + (lts wd 8).length ≤ 40) ∧ y = had (Ds n) (40 * t + s) + (lts wd 8).length → y = oNote (Ds n) t s wd := fun y hy => by
      unfold oNote
      rw [if_neg (by omega), if_neg (by omega)]
      rcases hy with ⟨x1, x2⟩ | ⟨x1, x2⟩
      · rw [if_pos x1]; exact x2
      · rw [if_neg (by omega)]; exact x2
    refine c_findAt hF tr w (fun o fa => ⟨o, rfl, hF, ?_⟩)
    have go : ∀ (b : Int → Int), 0 ≤ had (Ds n) (40 * t + s) → ((o = none ∧ had (Ds n) (40 * t + s) = 0) ∨ ∃ o', o = some o' ∧ FO h G o' b ∧ b (-1) = had (Ds n) (40 * t + s)) → (Ds n 112 (40 * t + s) = 3 → ∀ i, In (Ds n 114 (40 * t + s)) i → b i = Ds n 117 (40 * (40 * t + s) + i)) → had (Ds n) (40 * t + s) + (lts wd 8).length ≤ 40 → Ok 25 0 [some (vR o), some (vL wd), none, some (vI (had (Ds n) (40 * t + s) + (lts wd 8).length)), none, none, none, none] [] h (fun v_1 h_16 => ∃ q_17 : Option Nat, v_1 = some (vR q_17) ∧ Fix h_16 ∧ Ok 71 0 [some (vR (some 47)), some (vI t), some (vI s), some (vR q_17), none] [] h_16 (fun v_1 h_18 => v_1 = none ∧ Fix h_18 ∧ Ok 131 0 [some (vR (some 1)), some (vI (had (Ds n) (40 * t + s) + (lts wd 8).length))] [] h_18 (Qx Q))) := fun b h0 h1 h2 l2 => by
      refine c_withLetters hF hG h1 h0 (by omega) l2 (fun h9 o' F9 k9 nn9 us9 fo9 => ⟨some o', rfl, F9, ?_⟩)
      refine c_putNew (t := tNt b (had (Ds n) (40 * t + s)) wd) F9 hF m (by omega) (by omega) k9 ⟨by omega, by omega⟩ us9 fo9 ⟨by show 0 ≤ had (Ds n) (40 * t + s) + ((lts wd 8).length : Int); omega, l2⟩ ⟨by omega, by omega⟩ ⟨by omega, by omega⟩ (fun h' G' F' m' _ => ⟨rfl, F', ?_⟩)
      refine c_did (A := aF 10 t s 0 0 0 wd) F' m' ci hc (by omega) (by omega) (Or.inr rfl) (RC_note w rc ht hs g.2 h0 l2 h2) (Or.inr ⟨rfl, by rw [aF0]; decide, ?_⟩) hv (ansN (oS _ (Or.inr ⟨l2, rfl⟩))) (dnP (by rw [aF0]; decide) (by omega)) (by rw [aF0]; decide) cq
      have e9 : ∀ o i, o ≠ 117 → o ≠ 114 → o ≠ 112 → ¬ (o = 99 ∧ i = 37) → sNote (Ds n) t s wd o i = Ds n o i := fun o i h1 h2 h3 h4 => by
        unfold sNote
        have e : ∀ (D : DD), up D 99 37 1 o i = D o i := fun D => if_neg h4
        rw [e, up_o h2, apL_o h1, up_o h3]
      exact ⟨e9 99 1 (by decide) (by decide) (by decide) (by decide), e9 99 7 (by decide) (by decide) (by decide) (by decide), funext fun j => e9 102 j (by decide) (by decide) (by decide) (by simp), funext fun j => e9 106 j (by decide) (by decide) (by decide) (by simp), funext fun j => e9 107 j (by decide) (by decide) (by decide) (by simp)⟩
    have ng : 40 < had (Ds n) (40 * t + s) + (lts wd 8).length → Ok 130 0 [some (vR (some 1)), some (vI (-2))] [] h (Qx Q) := fun l => c_neg hF ci wz hc hv q5 (by omega) (by omega) (ansN (oS _ (Or.inl ⟨l, rfl⟩))) cq
    refine ⟨fun e => ?_, fun a e => ?_⟩
    · have h5 : Ds n 112 (40 * t + s) = -5 := by
        subst e
        rcases FA_none fa with f | f | f
        · exact absurd ht f
        · exact absurd g.1 f
        · exact f
      have hh : had (Ds n) (40 * t + s) = 0 := by unfold had; rw [if_pos h5]
      have ev : (0 : Int) + x = had (Ds n) (40 * t + s) + (lts wd 8).length := by rw [hh, ex]
      rw [ev]
      subst e
      exact ⟨⟨by omega, by omega⟩, fun l2 => go (fun _ => 0) (by omega) (Or.inl ⟨rfl, hh⟩) (fun q => by omega) l2, fun l2 => ng (by omega)⟩
    · subst e
      obtain ⟨_, _, _, f5, gk, g0, g1⟩ := FO.knd fa
      rcases fa with ⟨fa, _⟩ | ⟨o', fa, _, _, _, _, hid, fo, hl, sl⟩
      · cases fa
      cases fa
      have k3 : Ds n 112 (40 * t + s) = 3 := by omega
      have hh : had (Ds n) (40 * t + s) = Ds n 114 (40 * t + s) := by unfold had; rw [if_neg (by omega)]
      obtain ⟨z1, z2⟩ : T (S 58 (40 * t + s)) (-1) = Ds n 114 (40 * t + s) ∧ ∀ i, In (Ds n 114 (40 * t + s)) i → T (S 58 (40 * t + s)) i = Ds n 117 (40 * (40 * t + s) + i) := by
        rcases sl with sl | sl
        · omega
        · exact sl.2.2.2.2.2.2.2.1 k3
      obtain ⟨b, fb, gb, sb, nb⟩ := fo.2.2.2.2.1
      have wl := (ws.2.2.2.2.2.2.1 k3).1
      refine ⟨by rw [gk], b, fb, ?_⟩
      rw [sb, z1]
      have ev : Ds n 114 (40 * t + s) + x = had (Ds n) (40 * t + s) + (lts wd 8).length := by rw [hh, ex]
      show (0 : Nat) < 10 ∧ (-2147483648 ≤ Ds n 114 (40 * t + s) + x ∧ Ds n 114 (40 * t + s) + x < 2147483648) ∧ ((Ds n 114 (40 * t + s) + x ≤ 40) → _) ∧ (¬ (Ds n 114 (40 * t + s) + x ≤ 40) → _)
      rw [ev]
      exact ⟨by decide, ⟨by omega, by omega⟩, fun l2 => go (T (S 58 (40 * t + s))) (by omega) (Or.inr ⟨a, rfl, fo, by rw [z1, hh]⟩) (fun _ => z2) l2, fun l2 => ng (by omega)⟩
  · have g : morF (Ds n) t s 3 = oNote (Ds n) t s wd ∧ -100 ≤ morF (Ds n) t s 3 ∧ morF (Ds n) t s 3 < 0 ∧ morF (Ds n) t s 3 ≠ -4 := by
      unfold morF oNote at *
      split
      · exact ⟨rfl, by omega, by omega, by omega⟩
      · rename_i z
        rw [if_neg z] at q6
        split
        · exact ⟨rfl, by omega, by omega, by omega⟩
        · rename_i z2
          rw [if_neg z2] at q6
          exact absurd rfl q6
    exact c_neg hF ci wz hc hv q5 ⟨g.2.1, g.2.2.1⟩ g.2.2.2 (ansN g.1) cq
