/-! joins, total, share in the class -/
theorem c_joinsOf_4 {h : AH} {Q : Option AV → AH → Prop} {G : Nat → Prop} {S : DD} {T : FD} {D : DD} {a b : Int} (hF : Fix h) (r : TR h G S T D) (w : WF D) (cont : Q (some (vI ((cnt (jnP D a b) (D 99 22).toNat : Nat) : Int))) h) (m : Nat) : ∀ (j x : Int), (D 99 22 - j).toNat = m → 0 ≤ j → j ≤ D 99 22 → x = (cnt (jnP D a b) j.toNat : Nat) → Ok 83 4 [some (vR (some 47)), some (vI a), some (vI b), some (vI x), some (vI j), none, none] [] h Q := by
  have wc := w.c
  have e66 : gi h 66 0 = D 99 22 := by rw [r.1 66 1 0 (by decide) in10]; exact r.2.1.2.2.2.2.1
  induction m using Nat.strongRecOn with
  | ind m ih =>
    intro j x hm j0 j1 hx
    refine f_X7_joinsOf_4 hF _ _ _ _ ?_
    rw [e66]
    refine ⟨fun q => ?_, fun q => ?_⟩
    · have e : j = D 99 22 := by omega
      subst e
      rw [hx]; exact cont
    · have hj : In (D 99 22) j := ⟨j0, by omega⟩
      have e60 : gi h 60 j = D 118 j := by rw [r.1 60 80 j (by decide) ⟨by omega, by omega⟩]; exact (r.2.1.2.2.2.2.2 j hj).1
      have e62 : gi h 62 j = D 119 j := by rw [r.1 62 80 j (by decide) ⟨by omega, by omega⟩]; exact (r.2.1.2.2.2.2.2 j hj).2
      have hcl := cnt_le (jnP D a b) j.toNat
      have hs := cnt_succ (p := jnP D a b) j0
      have y : (D 118 j = a ∧ D 119 j = b ∨ D 118 j = b ∧ D 119 j = a) → Ok 83 4 [some (vR (some 47)), some (vI a), some (vI b), some (vI (x + 1)), some (vI (j + 1)), none, none] [] h Q := fun k => ih _ (by omega) (j + 1) _ rfl (by omega) (by omega) (by rw [hs, hx]; simp [jnP, k])
      have n : ¬ (D 118 j = a ∧ D 119 j = b ∨ D 118 j = b ∧ D 119 j = a) → Ok 83 4 [some (vR (some 47)), some (vI a), some (vI b), some (vI (x + 0)), some (vI (j + 1)), none, none] [] h Q := fun k => ih _ (by omega) (j + 1) _ rfl (by omega) (by omega) (by rw [hs, hx]; simp [jnP, k])
      rw [e60, e62]
      refine ⟨⟨by omega, by omega⟩, fun q2 => ⟨fun q3 => ⟨by omega, by omega, n (by omega)⟩, fun q3 => ⟨fun q4 => ⟨by omega, by omega, n (by omega)⟩, fun q4 => ⟨by omega, by omega, y (by omega)⟩⟩⟩, fun q2 => ⟨fun q3 => ⟨by omega, by omega, y (by omega)⟩, fun q3 => ⟨fun q4 => ⟨by omega, by omega, n (by omega)⟩, fun q4 => ⟨fun q5 => ⟨by omega, by omega, n (by omega)⟩, fun q5 => ⟨by omega, by omega, y (by omega)⟩⟩⟩⟩⟩
theorem c_joins {h : AH} {Q : Option AV → AH → Prop} {n : Nat} {Ds : Nat → DD} {Z : DD} {c a b : Int} (hF : Fix h) (ci : CInv h n Ds Z c) (w : WF (Ds n)) (cont : ∀ x, aJoins (Ds n) a b x → Q (some (vI x)) h) : Ok 173 0 [some (vR (some 1)), some (vI a), some (vI b)] [] h Q := by
  obtain ⟨G, S, T, m, rc⟩ := ci.mid
  have tr := m.tr (Or.inl (by decide)) rc
  have bad : ¬ ((0 ≤ a ∧ a < Ds n 99 1) ∧ 0 ≤ b ∧ b < Ds n 99 1) → Q (some (vI (-1))) h := fun q => cont (-1) (Or.inl ⟨q, rfl⟩)
  refine f_X11_joins_0 hF _ _ ?_
  rw [tr.n]
  exact ⟨fun q => bad (by omega), fun q => ⟨fun q2 => bad (by omega), fun q2 => ⟨fun q3 => bad (by omega), fun q3 => ⟨fun q4 => bad (by omega), fun q4 => f_X7_joinsOf_0 hF _ _ (c_joinsOf_4 hF tr w ⟨_, rfl, hF, cont _ (Or.inr ⟨by omega, rfl⟩)⟩ _ 0 0 rfl (by omega) w.c.2.2.2.2.2.2.1 rfl)⟩⟩⟩⟩
theorem aJoins_uniq {D : DD} {a b x y : Int} (h : aJoins D a b x) (h' : aJoins D a b y) : x = y := by
  rcases h with ⟨h1, h2⟩ | ⟨h1, h2⟩ <;> rcases h' with ⟨g1, g2⟩ | ⟨g1, g2⟩
  · omega
  · exact absurd g1 h1
  · exact absurd h1 g1
  · omega
theorem c_sum_4 {h : AH} {Q : Option AV → AH → Prop} {G : Nat → Prop} {o : Nat} {t : Int → Int} (hF : Fix h) (fo : FO h G o t) (l8 : t (-1) = 8) (hb : ∀ i, In 8 i → 0 ≤ t i ∧ t i ≤ 100) (cont : Q (some (vI (sm t 8))) h) (m : Nat) : ∀ (i x : Int), (8 - i).toNat = m → 0 ≤ i → i ≤ 8 → x = sm t i.toNat → 0 ≤ x ∧ x ≤ 100 * i → Ok 22 4 [some (vR (some o)), some (vI x), some (vI i)] [] h Q := by
  obtain ⟨f1, f2, f3, f4, ⟨a, f5, f6, f7, f8⟩, f9⟩ := fo
  rw [l8] at f7 f8
  induction m using Nat.strongRecOn with
  | ind m ih =>
    intro i x hm i0 i1 hx hbx
    refine f_X3_sum_4 hF _ _ _ ⟨by rw [f2], a, f5, ?_⟩
    rw [f7]
    refine ⟨by show (0 : Nat) < 10; decide, fun q => ?_, fun q => ⟨by rw [f2], a, f5, ?_⟩⟩
    · have : i = 8 := by have : (8 : Int) ≤ i := q; omega
      subst this
      rw [hx]; exact cont
    · have q' : ¬ (8 : Int) ≤ i := q
      have b := hb i ⟨i0, by omega⟩
      rw [f7, f8 i ⟨i0, by omega⟩]
      refine ⟨⟨rfl, i0, by show i < 8; omega⟩, ⟨by omega, by omega⟩, ⟨by omega, by omega⟩, ih _ (by omega) (i + 1) _ rfl (by omega) (by omega) (by rw [sm_succ i0, hx]) (by omega)⟩
theorem slK_all {D : DD} {k : Int} : slK D (-5) k = sm (fun i => D 116 (8 * k + i)) 8 := by
  unfold slK
  exact sm_congr (fun x _ => by unfold sl8; rw [if_pos (show tyIs (-5) x from Or.inl rfl)])
theorem sm_one {f : Int → Int} {j : Int} : ∀ {n : Nat}, (∀ x : Int, In n x → x ≠ j → f x = 0) → sm f n = if 0 ≤ j ∧ j < (n : Int) then f j else 0
  | 0, _ => by rw [if_neg (fun q => by have := q.1; have := q.2; omega)]; rfl
  | n + 1, h => by
    have ih := sm_one (f := f) (j := j) (n := n) (fun x hx => h x ⟨hx.1, by have := hx.2; push_cast; omega⟩)
    show sm f n + f n = _
    rw [ih]
    by_cases e : j = n
    · subst e
      rw [if_neg (fun q => by have := q.2; omega), if_pos ⟨by omega, by push_cast; omega⟩]; omega
    · rw [h n ⟨by omega, by push_cast; omega⟩ (fun q => e q.symm)]
      by_cases z : 0 ≤ j ∧ j < (n : Int)
      · rw [if_pos z, if_pos ⟨z.1, by have := z.2; push_cast; omega⟩]; omega
      · rw [if_neg z, if_neg (fun q => z ⟨q.1, by have := q.2; push_cast at this; omega⟩)]; omega
theorem slK_ty {D : DD} {k ty : Int} (h : In 8 ty) : slK D ty k = D 116 (8 * k + ty) := by
  unfold slK
  rw [sm_one (j := ty) (fun x _ hx => by unfold sl8; rw [if_neg]; unfold tyIs; have := h.1; omega), if_pos (show 0 ≤ ty ∧ ty < ((8 : Nat) : Int) from h)]
  unfold sl8
  rw [if_pos (show tyIs ty ty from Or.inr rfl)]
theorem slK_0 {D : DD} (w : WF D) {t s ty : Int} (ht : In (D 99 11) t) (hs : In (D 109 t) s) (h : D 112 (40 * t + s) ≠ 0) : slK D ty (40 * t + s) = 0 := by
  unfold slK
  have : sm (sl8 D ty (40 * t + s)) 8 = sm (fun _ => 0) 8 := sm_congr (fun x hx => by
    unfold sl8
    rw [((w.2.2.2.2.2.1 t s ht hs).2.2.2.1 x hx).2.2 h]
    split <;> rfl)
  rw [this]; rfl
theorem c_sherdsOfTray_4 {h : AH} {Q : Option AV → AH → Prop} {G : Nat → Prop} {S : DD} {T : FD} {D : DD} {t ty : Int} (hF : Fix h) (r : TR h G S T D) (w : WF D) (ht : In (D 99 11) t) (hty : ty = -5 ∨ In 8 ty) (cont : Q (some (vI (slT D ty t))) h) (m : Nat) : ∀ (s x : Int), (D 109 t - s).toNat = m → 0 ≤ s → (s ≤ D 109 t ∨ s = 0) → x = sm (fun s => slK D ty (40 * t + s)) s.toNat → Ok 85 4 [some (vR (some 47)), some (vI t), some (vI ty), some (vI x), some (vI s), none] [] h Q := by
  obtain ⟨a1, a2, a3⟩ := r.ts w ht
  have h1 := ht.1
  induction m using Nat.strongRecOn with
  | ind m ih =>
    intro s x hm s0 s1 hx
    refine f_X7_sherdsOfTray_4 hF _ _ _ _ ⟨⟨h1, a3⟩, fun q => ?_, fun q => ⟨fun q2 => ?_, fun q2 => by omega⟩⟩
    · have e52 : gi h 52 t = D 109 t := by omega
      rw [e52]
      refine ⟨fun q2 => ?_, fun q2 => ?_⟩
      · have e : s = D 109 t := by omega
        rw [hx, e]; exact cont
      · have hs : In (D 109 t) s := ⟨s0, by omega⟩
        have bx := slT_part (ty := ty) w ht (m := s) ⟨s0, by omega⟩
        have bk := slK_bd (ty := ty) w ht hs
        have ss := sm_succ (f := fun s => slK D ty (40 * t + s)) s0
        have nx : ∀ v, v = slK D ty (40 * t + s) → (-2147483648 ≤ x + v ∧ x + v < 2147483648) ∧ (-2147483648 ≤ s + 1 ∧ s + 1 < 2147483648) ∧ Ok 85 4 [some (vR (some 47)), some (vI t), some (vI ty), some (vI (x + v)), some (vI (s + 1)), none] [] h Q := fun v hv => ⟨⟨by omega, by omega⟩, ⟨by omega, by omega⟩, ih _ (by omega) (s + 1) _ rfl (by omega) (by omega) (by rw [ss, hx, hv])⟩
        have sk : slK D ty (40 * t + s) = 0 → (-2147483648 ≤ s + 1 ∧ s + 1 < 2147483648) ∧ Ok 85 4 [some (vR (some 47)), some (vI t), some (vI ty), some (vI x), some (vI (s + 1)), none] [] h Q := fun h0 => by
          have := nx 0 h0.symm
          rw [Int.add_zero] at this
          exact this.2
        refine c_findAt hF r w (fun o fa => ⟨o, rfl, hF, fun e => ?_, fun a e => ?_⟩)
        · subst e
          refine sk (slK_0 w ht hs ?_)
          rcases FA_none fa with f | f | f
          · exact absurd ht f
          · exact absurd (slotF0.mpr hs) f
          · omega
        · subst e
          obtain ⟨_, _, _, f5, gk, g0, g1⟩ := FO.knd fa
          rcases fa with ⟨fa, _⟩ | ⟨o', fa, _, _, _, _, hid, fo, hl, sl⟩
          · cases fa
          cases fa
          rw [g0, gk]
          refine ⟨rfl, fun q3 => sk (slK_0 w ht hs q3), fun q3 => ?_⟩
          have k0 : D 112 (40 * t + s) = 0 := Decidable.not_not.mp q3
          obtain ⟨z1, z2⟩ : T (S 58 (40 * t + s)) (-1) = 8 ∧ ∀ i, In 8 i → T (S 58 (40 * t + s)) i = D 116 (8 * (40 * t + s) + i) := by
            rcases sl with sl | sl
            · omega
            · exact sl.2.2.2.2.2.1 k0
          refine ⟨fun q4 => ⟨rfl, ?_⟩, fun q4 => ⟨rfl, ?_⟩⟩
          · have ti : In 8 ty := by
              rcases hty with e | e
              · exact absurd e q4
              · exact e
            refine c_numberAt hF fo (by rw [z1]; exact ti) ⟨_, rfl, hF, ?_⟩
            exact nx _ (by rw [z2 ty ti, slK_ty ti])
          · have e5 : ty = -5 := Decidable.not_not.mp q4
            have bb := (w.2.2.2.2.2.1 t s ht hs).2.2.2.1
            have es : sm (T (S 58 (40 * t + s))) 8 = slK D ty (40 * t + s) := by
              rw [e5, slK_all]
              exact sm_congr (fun i hi => z2 i hi)
            refine f_X3_sum_0 hF _ (c_sum_4 hF fo z1 (fun i hi => by rw [z2 i hi]; have := bb i hi; omega) ⟨_, rfl, hF, ?_⟩ _ 0 0 rfl (by omega) (by omega) rfl (by omega))
            exact nx _ es
    · have e : (D 109 t).toNat = 0 := by omega
      have s00 : s = 0 := by omega
      rw [hx, s00]
      unfold slT at cont
      rw [e] at cont
      exact cont
theorem c_sherdsIn_4 {h : AH} {Q : Option AV → AH → Prop} {G : Nat → Prop} {S : DD} {T : FD} {D : DD} {u ty : Int} (hF : Fix h) (r : TR h G S T D) (w : WF D) (hty : ty = -5 ∨ In 8 ty) (hu : u = -5 ∨ 0 ≤ u) (cont : Q (some (vI (tot D u ty))) h) (m : Nat) : ∀ (t x : Int), (D 99 11 - t).toNat = m → 0 ≤ t → t ≤ D 99 11 → x = sm (totT D u ty) t.toNat → Ok 84 4 [some (vR (some 47)), some (vI u), some (vI ty), some (vI x), some (vI t), none] [] h Q := by
  have wc := w.c
  induction m using Nat.strongRecOn with
  | ind m ih =>
    intro t x hm t0 t1 hx
    refine f_X7_sherdsIn_4 hF _ _ _ _ ?_
    rw [r.T]
    refine ⟨fun q => ?_, fun q => ?_⟩
    · have e : t = D 99 11 := by omega
      rw [hx, e]; exact cont
    · have ht : In (D 99 11) t := ⟨t0, by omega⟩
      have ur := uo_rng w 60 t ht
      have bx := tot_part (u := u) (ty := ty) w (t := t) ⟨t0, by omega⟩
      have bt := slT_bd (ty := ty) w ht
      have ss := sm_succ (f := totT D u ty) t0
      have y : inU D u t → Ok 85 0 [some (vR (some 47)), some (vI t), some (vI ty), none, none, none] [] h (fun v h_3 => ∃ x_4, v = some (vI x_4) ∧ Fix h_3 ∧ (-2147483648 ≤ x + x_4 ∧ x + x_4 < 2147483648) ∧ (-2147483648 ≤ t + 1 ∧ t + 1 < 2147483648) ∧ Ok 84 4 [some (vR (some 47)), some (vI u), some (vI ty), some (vI (x + x_4)), some (vI (t + 1)), none] [] h_3 Q) := fun hi => by
        refine f_X7_sherdsOfTray_0 hF _ _ (c_sherdsOfTray_4 hF r w ht hty ⟨_, rfl, hF, ⟨by omega, by omega⟩, ⟨by omega, by omega⟩, ih _ (by omega) (t + 1) _ rfl (by omega) (by omega) ?_⟩ _ 0 0 rfl (by omega) (Or.inr rfl) rfl)
        rw [ss, hx]
        congr 1
        unfold totT; rw [if_pos hi]
      have n : ¬ inU D u t → (-2147483648 ≤ t + 1 ∧ t + 1 < 2147483648) ∧ Ok 84 4 [some (vR (some 47)), some (vI u), some (vI ty), some (vI x), some (vI (t + 1)), none] [] h Q := fun hi => ⟨⟨by omega, by omega⟩, ih _ (by omega) (t + 1) _ rfl (by omega) (by omega) (by
        have e0 : totT D u ty t = 0 := by unfold totT; rw [if_neg hi]
        rw [ss, hx, e0]; omega)⟩
      refine c_unitOf hF r w ht ⟨_, rfl, hF, fun q2 => n (fun i => ?_), fun q2 => ⟨fun q3 => y ⟨fun _ => by omega, fun k => absurd q3 k⟩, fun q3 => ⟨fun q4 => n (fun i => q4 (i.2 q3).symm), fun q4 => y ⟨fun k => absurd k q3, fun _ => (Decidable.not_not.mp q4).symm⟩⟩⟩⟩
      rcases ur with e | e
      · have e' : uo D t = -5 := e
        by_cases k : u = -5
        · exact i.1 k e'
        · have := i.2 k; omega
      · have := e.1
        have e' : uo D t = uoN D 60 t := rfl
        omega
theorem c_sherdsIn {h : AH} {Q : Option AV → AH → Prop} {G : Nat → Prop} {S : DD} {T : FD} {D : DD} {u ty : Int} (hF : Fix h) (r : TR h G S T D) (w : WF D) (hty : ty = -5 ∨ In 8 ty) (hu : u = -5 ∨ 0 ≤ u) (cont : Q (some (vI (tot D u ty))) h) : Ok 84 0 [some (vR (some 47)), some (vI u), some (vI ty), none, none, none] [] h Q :=
  f_X7_sherdsIn_0 hF _ _ (c_sherdsIn_4 hF r w hty hu cont _ 0 0 rfl (by omega) w.c.2.2.2.2.1 rfl)
theorem c_total {h : AH} {Q : Option AV → AH → Prop} {n : Nat} {Ds : Nat → DD} {Z : DD} {c u ty : Int} (hF : Fix h) (ci : CInv h n Ds Z c) (w : WF (Ds n)) (cont : ∀ x, aTotal (Ds n) u ty x → Q (some (vI x)) h) : Ok 174 0 [some (vR (some 1)), some (vI u), some (vI ty)] [] h Q := by
  obtain ⟨G, S, T, m, rc⟩ := ci.mid
  have tr := m.tr (Or.inl (by decide)) rc
  have bad : (¬ okU (Ds n) u ∨ ¬ (ty = -5 ∨ 0 ≤ ty ∧ ty ≤ 7)) → Q (some (vI (-1))) h := fun q => cont (-1) (Or.inl ⟨q, rfl⟩)
  have ok : okU (Ds n) u → (ty = -5 ∨ 0 ≤ ty ∧ ty ≤ 7) → Ok 84 0 [some (vR (some 47)), some (vI u), some (vI ty), none, none, none] [] h (Qx Q) := fun h1 h2 => c_sherdsIn hF tr w (by unfold In; omega) (by unfold okU at h1; omega) ⟨_, rfl, hF, cont _ (Or.inr ⟨h1, h2, rfl⟩)⟩
  unfold okU at ok bad
  refine f_X11_total_0 hF _ _ ?_
  rw [tr.n]
  exact ⟨fun q => ⟨fun q2 => ok (by omega) (by omega), fun q2 => ⟨fun q3 => bad (by omega), fun q3 => ⟨fun q4 => ok (by omega) (by omega), fun q4 => bad (by omega)⟩⟩⟩, fun q => ⟨fun q2 => bad (by omega), fun q2 => ⟨fun q3 => bad (by omega), fun q3 => ⟨fun q4 => ok (by omega) (by omega), fun q4 => ⟨fun q5 => bad (by omega), fun q5 => ⟨fun q6 => ok (by omega) (by omega), fun q6 => bad (by omega)⟩⟩⟩⟩⟩⟩
theorem c_share {h : AH} {Q : Option AV → AH → Prop} {n : Nat} {Ds : Nat → DD} {Z : DD} {c u ty : Int} (hF : Fix h) (ci : CInv h n Ds Z c) (w : WF (Ds n)) (wz : WZ Z c) (hc : c ≤ 1000) (cont : ∀ x, aShare (Ds n) u ty x → CQf h n Ds Z c x Q) : Ok 175 0 [some (vR (some 1)), some (vI u), some (vI ty), none] [] h Q := by
  obtain ⟨G, S, T, m, rc⟩ := ci.mid
  have tr := m.tr (Or.inl (by decide)) rc
  have bad : (¬ okU (Ds n) u ∨ ¬ (0 ≤ ty ∧ ty ≤ 7)) → Q (some (vI (-1))) h := fun q => c_q hF ci (by omega) (cont (-1) (Or.inl ⟨q, rfl⟩))
  have ok : okU (Ds n) u → (0 ≤ ty ∧ ty ≤ 7) → Ok 84 0 [some (vR (some 47)), some (vI u), some (vI (-5)), none, none, none] [] h (fun v h_1 => ∃ x_2, v = some (vI x_2) ∧ Fix h_1 ∧ ((x_2 ≠ 0) → Ok 84 0 [some (vR (some 47)), some (vI u), some (vI ty), none, none, none] [] h_1 (fun v h_3 => ∃ x_4, v = some (vI x_4) ∧ Fix h_3 ∧ (-2147483648 ≤ 1000 * x_4 ∧ 1000 * x_4 < 2147483648) ∧ (x_2 ≠ 0) ∧ Q (some (vI (iDiv (1000 * x_4) x_2))) h_3)) ∧ (¬ (x_2 ≠ 0) → Ok 129 0 [some (vR (some 1)), some (vI (-14)), none] [] h_1 (Qx Q))) := fun h1 h2 => by
    have hu : u = -5 ∨ 0 ≤ u := by unfold okU at h1; omega
    have b1 := tot_bd (u := u) (ty := ty) w
    have b2 := tot_bd (u := u) (ty := -5) w
    refine c_sherdsIn hF tr w (Or.inl rfl) hu ⟨_, rfl, hF, fun q => c_sherdsIn hF tr w (Or.inr ⟨h2.1, by omega⟩) hu ⟨_, rfl, hF, ⟨by omega, by omega⟩, q, ?_⟩, fun q => c_qc hF ci wz hc (by decide) (cont _ (Or.inr ⟨h1, h2, Or.inl ⟨Decidable.not_not.mp q, rfl⟩⟩))⟩
    refine c_q hF ci ?_ (cont _ (Or.inr ⟨h1, h2, Or.inr ⟨q, rfl⟩⟩))
    rw [iDiv_pos ⟨by omega, by omega⟩ ⟨by omega, by omega⟩]
    have := Int.ediv_nonneg (a := 1000 * tot (Ds n) u ty) (b := tot (Ds n) u (-5)) (by omega) (by omega)
    omega
  unfold okU at ok bad
  refine f_X11_share_0 hF _ _ ?_
  rw [tr.n]
  exact ⟨fun q => ⟨fun q2 => bad (by omega), fun q2 => ⟨fun q3 => ok (by omega) (by omega), fun q3 => bad (by omega)⟩⟩, fun q => ⟨fun q2 => bad (by omega), fun q2 => ⟨fun q3 => bad (by omega), fun q3 => ⟨fun q4 => bad (by omega), fun q4 => ⟨fun q5 => ok (by omega) (by omega), fun q5 => bad (by omega)⟩⟩⟩⟩⟩
