theorem sm_succ {f : Int → Int} {x : Int} (hx : 0 ≤ x) : sm f (x + 1).toNat = sm f x.toNat + f x := by
  have e : (x + 1).toNat = x.toNat + 1 := by omega
  have e2 : ((x.toNat : Nat) : Int) = x := by omega
  rw [e]
  show sm f x.toNat + f ((x.toNat : Nat) : Int) = _
  rw [e2]
theorem sm_bd {f : Int → Int} {c : Int} : ∀ {n : Nat}, (∀ x : Int, In n x → 0 ≤ f x ∧ f x ≤ c) → 0 ≤ sm f n ∧ sm f n ≤ c * n
  | 0, _ => by simp [sm]
  | n + 1, h => by
    have h1 := sm_bd (n := n) (fun x hx => h x ⟨hx.1, by have := hx.2; push_cast; omega⟩)
    have h2 := h n ⟨by omega, by push_cast; omega⟩
    have e : c * ((n + 1 : Nat) : Int) = c * n + c := by push_cast; rw [Int.mul_add]; omega
    unfold sm
    omega
/-- sherds of a type in slot k; in tray t; in a unit -/
def tyIs (ty i : Int) : Prop := ty = -5 ∨ ty = i
noncomputable def sl8 (D : DD) (ty k i : Int) : Int := @ite _ (tyIs ty i) (Classical.propDecidable _) (D 116 (8 * k + i)) 0
noncomputable def slK (D : DD) (ty k : Int) : Int := sm (sl8 D ty k) 8
noncomputable def slT (D : DD) (ty t : Int) : Int := sm (fun s => slK D ty (40 * t + s)) (D 109 t).toNat
def inU (D : DD) (u t : Int) : Prop := (u = -5 → uo D t ≠ -5) ∧ (u ≠ -5 → uo D t = u)
noncomputable def totT (D : DD) (u ty t : Int) : Int := @ite _ (inU D u t) (Classical.propDecidable _) (slT D ty t) 0
noncomputable def tot (D : DD) (u ty : Int) : Int := sm (totT D u ty) (D 99 11).toNat
theorem sl8_bd {D : DD} (w : WF D) {t s ty : Int} (ht : In (D 99 11) t) (hs : In (D 109 t) s) : ∀ i, In 8 i → 0 ≤ sl8 D ty (40 * t + s) i ∧ sl8 D ty (40 * t + s) i ≤ 100 := fun i hi => by
  have := (w.2.2.2.2.2.1 t s ht hs).2.2.2.1 i hi
  unfold sl8
  split <;> omega
theorem slK_bd {D : DD} (w : WF D) {t s ty : Int} (ht : In (D 99 11) t) (hs : In (D 109 t) s) : 0 ≤ slK D ty (40 * t + s) ∧ slK D ty (40 * t + s) ≤ 800 := by
  have := sm_bd (n := 8) (sl8_bd (ty := ty) w ht hs)
  unfold slK
  omega
theorem slT_part {D : DD} (w : WF D) {t ty : Int} (ht : In (D 99 11) t) {m : Int} (hm : 0 ≤ m ∧ m ≤ D 109 t) : 0 ≤ sm (fun s => slK D ty (40 * t + s)) m.toNat ∧ sm (fun s => slK D ty (40 * t + s)) m.toNat ≤ 800 * m := by
  have := sm_bd (f := fun s => slK D ty (40 * t + s)) (c := 800) (n := m.toNat) (fun s hs => slK_bd w ht ⟨hs.1, by have := hs.2; omega⟩)
  omega
theorem slT_bd {D : DD} (w : WF D) {t ty : Int} (ht : In (D 99 11) t) : 0 ≤ slT D ty t ∧ slT D ty t ≤ 32000 := by
  have h2 := (w.2.2.2.1 t ht).2.1
  unfold slT
  by_cases h : D 109 t < 0
  · have e : (D 109 t).toNat = 0 := by omega
    rw [e]; simp [sm]
  · have := slT_part (ty := ty) w ht (m := D 109 t) (by omega)
    omega
theorem totT_bd {D : DD} (w : WF D) {u t ty : Int} (ht : In (D 99 11) t) : 0 ≤ totT D u ty t ∧ totT D u ty t ≤ 32000 := by
  have := slT_bd (ty := ty) w ht
  unfold totT
  split <;> omega
theorem tot_part {D : DD} (w : WF D) {u ty t : Int} (ht : 0 ≤ t ∧ t ≤ D 99 11) : 0 ≤ sm (totT D u ty) t.toNat ∧ sm (totT D u ty) t.toNat ≤ 32000 * t := by
  have := sm_bd (f := totT D u ty) (c := 32000) (n := t.toNat) (fun x hx => totT_bd w ⟨hx.1, by have := hx.2; omega⟩)
  omega
theorem tot_bd {D : DD} (w : WF D) {u ty : Int} : 0 ≤ tot D u ty ∧ tot D u ty ≤ 1920000 := by
  have c0 := w.1
  unfold Wc at c0
  have := tot_part (u := u) (ty := ty) w (t := D 99 11) (by omega)
  unfold tot
  omega
theorem m_counted_47 {h : AH} {Q : Option AV → AH → Prop} {D : DD} {u ty t y5 y6 k : Int} (hF : Fix h) (r : RM h D) (hk : 0 ≤ k ∧ k < 40 * D 99 11 ∧ k < 2400) (hb : ∀ i, In 8 i → 0 ≤ sl8 D ty k i ∧ sl8 D ty k i ≤ 100) {b : Int} (hb0 : 0 ≤ b ∧ b ≤ 2000000)
    (cont : Ok 272 33 [some (vR (some 99)), some (vI u), some (vI ty), some (vI (b + slK D ty k)), some (vI t), some (vI y5), some (vI y6), some (vI (k + 1)), none] [] h Q) (m : Nat) :
    ∀ (i a : Int), (8 - i).toNat = m → 0 ≤ i → i ≤ 8 → a = b + sm (sl8 D ty k) i.toNat → Ok 272 47 [some (vR (some 99)), some (vI u), some (vI ty), some (vI a), some (vI t), some (vI y5), some (vI y6), some (vI k), some (vI i)] [] h Q := by
  induction m using Nat.strongRecOn with
  | ind m ih =>
    intro i a hm i0 i1 ha
    have hpart := sm_bd (f := sl8 D ty k) (c := 100) (n := i.toNat) (fun x hx => hb x ⟨hx.1, by have := hx.2; omega⟩)
    refine f_X12_counted_47 hF _ _ _ _ _ _ _ _ ⟨fun c => ⟨by omega, ?_⟩, fun c => ?_⟩
    · have e : i = 8 := by omega
      rw [e] at ha
      rw [ha]
      exact cont
    · have hi : In 8 i := ⟨i0, by omega⟩
      have hbi := hb i hi
      have hs := sm_succ (f := sl8 D ty k) i0
      have e116 := r.q (k := 8 * k + i) ⟨by omega, by omega⟩
      rw [e116]
      have yes : tyIs ty i → sl8 D ty k i = D 116 (8 * k + i) := fun q => by unfold sl8; rw [if_pos q]
      have no : ¬ tyIs ty i → sl8 D ty k i = 0 := fun q => by unfold sl8; rw [if_neg q]
      refine ⟨fun c1 => ?_, fun c1 => ⟨fun c2 => ?_, fun c2 => ?_⟩⟩
      · have := yes (Or.inl c1)
        exact ⟨by omega, by omega, by omega, by omega, by omega, ih _ (by omega) (i + 1) _ rfl (by omega) (by omega) (by omega)⟩
      · have := no (fun q => q.elim c1 c2)
        exact ⟨by omega, by omega, ih _ (by omega) (i + 1) _ rfl (by omega) (by omega) (by omega)⟩
      · have := yes (Or.inr (by omega))
        exact ⟨by omega, by omega, by omega, by omega, by omega, ih _ (by omega) (i + 1) _ rfl (by omega) (by omega) (by omega)⟩
theorem m_counted_33 {h : AH} {Q : Option AV → AH → Prop} {D : DD} {u ty t y5 : Int} (hF : Fix h) (r : RM h D) (w : WF D) (ht : In (D 99 11) t) {b y6 : Int} (hb0 : 0 ≤ b ∧ b ≤ 1900000) (hy : y6 = 1 ∧ inU D u t ∨ y6 = 0 ∧ ¬ inU D u t)
    (cont : Ok 272 4 [some (vR (some 99)), some (vI u), some (vI ty), some (vI (b + totT D u ty t)), some (vI (t + 1)), none, none, none, none] [] h Q) (m : Nat) :
    ∀ (s a : Int), (D 109 t - s).toNat = m → 0 ≤ s → (s = 0 ∨ s ≤ D 109 t) → (y6 = 1 → a = b + sm (fun s => slK D ty (40 * t + s)) s.toNat) → (y6 = 0 → a = b) → Ok 272 33 [some (vR (some 99)), some (vI u), some (vI ty), some (vI a), some (vI t), some (vI y5), some (vI y6), some (vI (40 * t + s)), none] [] h Q := by
  have c0 := w.1
  unfold Wc at c0
  have t0 := ht.1
  have t1 := ht.2
  have h2 := (w.2.2.2.1 t ht).2.1
  induction m using Nat.strongRecOn with
  | ind m ih =>
    intro s a hm s0 s1 ha1 ha0
    refine f_X12_counted_33 hF _ _ _ _ _ _ _ ?_
    rw [r.t (o := 109) (by decide) ht]
    refine ⟨by omega, by omega, by omega, fun c => ⟨by omega, ?_⟩, fun c => ⟨fun c1 => ⟨by omega, ?_⟩, fun c1 => ?_⟩⟩
    · have e : a = b + totT D u ty t := by
        rcases hy with ⟨q1, q2⟩ | ⟨q1, q2⟩
        · rw [ha1 q1]
          unfold totT
          rw [if_pos q2]
          unfold slT
          have : s.toNat = (D 109 t).toNat := by omega
          rw [this]
        · rw [ha0 q1]
          unfold totT
          rw [if_neg q2]; omega
      rw [e]; exact cont
    · have e : a = b + totT D u ty t := by
        rcases hy with ⟨q1, q2⟩ | ⟨q1, q2⟩
        · omega
        · rw [ha0 q1]
          unfold totT
          rw [if_neg q2]; omega
      rw [e]; exact cont
    · have q1 : y6 = 1 := by rcases hy with q | q; exact q.1; exact absurd q.1 c1
      have hs : In (D 109 t) s := ⟨s0, by omega⟩
      have hp := slT_part (ty := ty) w ht (m := s) (by omega)
      have ha := ha1 q1
      refine m_counted_47 (b := a) hF r ⟨by omega, by omega, by omega⟩ (sl8_bd w ht hs) (by omega) ?_ _ 0 a rfl (by omega) (by omega) (by simp [sm])
      have e : 40 * t + s + 1 = 40 * t + (s + 1) := by omega
      rw [e]
      refine ih _ (by omega) (s + 1) _ rfl (by omega) (by omega) (fun _ => ?_) (fun q => by omega)
      rw [sm_succ s0, ha]; omega
theorem m_counted_4 {h : AH} {Q : Option AV → AH → Prop} {D : DD} {u ty : Int} (hF : Fix h) (r : RM h D) (w : WF D) (cont : Q (some (vI (tot D u ty))) h) (m : Nat) :
    ∀ (t a : Int), (D 99 11 - t).toNat = m → 0 ≤ t → t ≤ D 99 11 → a = sm (totT D u ty) t.toNat → Ok 272 4 [some (vR (some 99)), some (vI u), some (vI ty), some (vI a), some (vI t), none, none, none, none] [] h Q := by
  have c0 := w.1
  unfold Wc at c0
  induction m using Nat.strongRecOn with
  | ind m ih =>
    intro t a hm t0 t1 ha
    have hp := tot_part (u := u) (ty := ty) w (t := t) (by omega)
    refine f_X12_counted_4 hF _ _ _ _ ?_
    rw [r.T]
    refine ⟨fun c => ?_, fun c => ?_⟩
    · have e : t = D 99 11 := by omega
      rw [ha, e]; exact cont
    · have ht : In (D 99 11) t := ⟨t0, by omega⟩
      have go : ∀ y6 y5, (y6 = 1 ∧ inU D u t ∨ y6 = 0 ∧ ¬ inU D u t) → Ok 272 33 [some (vR (some 99)), some (vI u), some (vI ty), some (vI a), some (vI t), some (vI y5), some (vI y6), some (vI (40 * t)), none] [] h Q := fun y6 y5 hy => by
        have e0 : 40 * t = 40 * t + 0 := by omega
        rw [e0]
        refine m_counted_33 (b := a) hF r w ht (by omega) hy ?_ _ 0 a rfl (by omega) (Or.inl rfl) (fun _ => by simp [sm]) (fun _ => rfl)
        exact ih _ (by omega) (t + 1) _ rfl (by omega) (by omega) (by rw [sm_succ t0, ha])
      refine m_unitOf hF r w ht ⟨_, rfl, hF, fun c1 => ⟨fun c2 => ⟨by omega, go 0 _ (Or.inr ⟨rfl, fun q => c2 (q.2 c1)⟩)⟩, fun c2 => ⟨by omega, go 1 _ (Or.inl ⟨rfl, fun q => absurd q c1, fun _ => by omega⟩)⟩⟩, fun c1 => ⟨fun c2 => ⟨by omega, go 0 _ (Or.inr ⟨rfl, fun q => q.1 (by omega) c2⟩)⟩, fun c2 => ⟨by omega, go 1 _ (Or.inl ⟨rfl, fun _ => c2, fun q => absurd q c1⟩)⟩⟩⟩ none
theorem m_counted {h : AH} {Q : Option AV → AH → Prop} {D : DD} {u ty : Int} (hF : Fix h) (r : RM h D) (w : WF D) (cont : Q (some (vI (tot D u ty))) h) : Ok 272 0 [some (vR (some 99)), some (vI u), some (vI ty), none, none, none, none, none, none] [] h Q :=
  f_X12_counted_0 hF _ _ (m_counted_4 hF r w cont _ 0 0 rfl (by omega) w.1.2.2.2.2.1 rfl)
def okU (D : DD) (u : Int) : Prop := u = -5 ∨ 0 ≤ u ∧ u < D 99 1
def aTotal (D : DD) (u ty x : Int) : Prop := (¬ okU D u ∨ ¬ (ty = -5 ∨ 0 ≤ ty ∧ ty ≤ 7)) ∧ x = -1 ∨ okU D u ∧ (ty = -5 ∨ 0 ≤ ty ∧ ty ≤ 7) ∧ x = tot D u ty
theorem m_total {h : AH} {Q : Option AV → AH → Prop} {D : DD} {u ty : Int} (hF : Fix h) (r : RM h D) (w : WF D) (cont : ∀ x, aTotal D u ty x → Q (some (vI x)) (si h 99 0 0)) : Ok 273 0 [some (vR (some 99)), some (vI u), some (vI ty)] [] h Q := by
  have c0 := w.1
  unfold Wc at c0
  have e1 := r.n
  have r0 := r.si (o := 99) (k := 0) (v := 0) (Or.inr (Or.inr (by decide)))
  have bad : (¬ (u = -5 ∨ 0 ≤ u ∧ u < D 99 1) ∨ ¬ (ty = -5 ∨ 0 ≤ ty ∧ ty ≤ 7)) → Q (some (vI (-1))) (si h 99 0 0) := fun q => cont _ (Or.inl ⟨q, rfl⟩)
  have good : (u = -5 ∨ 0 ≤ u ∧ u < D 99 1) → (ty = -5 ∨ 0 ≤ ty ∧ ty ≤ 7) → Ok 272 0 [some (vR (some 99)), some (vI u), some (vI ty), none, none, none, none, none, none] [] (si h 99 0 0) (fun v h_1 => ∃ x_2, v = some (vI x_2) ∧ Fix h_1 ∧ Q (some (vI x_2)) h_1) := fun q1 q2 => m_counted (h := si h 99 0 0) hF r0 w ⟨_, rfl, hF, cont _ (Or.inr ⟨q1, q2, rfl⟩)⟩
  refine f_X12_total_0 hF _ _ ?_
  repeat' (first | refine And.intro ?_ ?_ | intro _)
  all_goals first | omega | exact bad (by omega) | exact good (by omega) (by omega)
def aShare (D : DD) (u ty x : Int) : Prop := (¬ okU D u ∨ ¬ (0 ≤ ty ∧ ty ≤ 7)) ∧ x = -1 ∨ okU D u ∧ (0 ≤ ty ∧ ty ≤ 7) ∧ (tot D u (-5) = 0 ∧ x = -14 ∨ tot D u (-5) ≠ 0 ∧ x = iDiv (1000 * tot D u ty) (tot D u (-5)))
theorem m_share {h : AH} {Q : Option AV → AH → Prop} {D : DD} {u ty : Int} (hF : Fix h) (r : RM h D) (w : WF D) (hb : Fb h) (cont : ∀ x, aShare D u ty x → Qf h Q x) : Ok 274 0 [some (vR (some 99)), some (vI u), some (vI ty), none] [] h Q := by
  have c0 := w.1
  unfold Wc at c0
  have e1 := r.n
  have r0 := r.si (o := 99) (k := 0) (v := 0) (Or.inr (Or.inr (by decide)))
  have b1 := tot_bd (u := u) (ty := ty) w
  have b2 := tot_bd (u := u) (ty := -5) w
  have bad : (¬ (u = -5 ∨ 0 ≤ u ∧ u < D 99 1) ∨ ¬ (0 ≤ ty ∧ ty ≤ 7)) → Q (some (vI (-1))) (si h 99 0 0) := fun q => Qf_no hF (cont _ (Or.inl ⟨q, rfl⟩)) (by omega)
  have good : (u = -5 ∨ 0 ≤ u ∧ u < D 99 1) → (0 ≤ ty ∧ ty ≤ 7) → Ok 272 0 [some (vR (some 99)), some (vI u), some (vI (-5)), none, none, none, none, none, none] [] (si h 99 0 0) (fun v h_1 => ∃ x_2, v = some (vI x_2) ∧ Fix h_1 ∧ ((x_2 ≠ 0) → Ok 272 0 [some (vR (some 99)), some (vI u), some (vI ty), none, none, none, none, none, none] [] h_1 (fun v h_3 => ∃ x_4, v = some (vI x_4) ∧ Fix h_3 ∧ (-2147483648 ≤ 1000 * x_4 ∧ 1000 * x_4 < 2147483648) ∧ (x_2 ≠ 0) ∧ Q (some (vI (iDiv (1000 * x_4) x_2))) h_3)) ∧ (¬ (x_2 ≠ 0) → Ok 191 0 [some (vR (some 99)), some (vI 4)] [] h_1 (fun v h_5 => ∃ x_6, v = some (vI x_6) ∧ Fix h_5 ∧ Q (some (vI x_6)) h_5))) := fun q1 q2 => by
    refine m_counted (h := si h 99 0 0) hF r0 w ⟨_, rfl, hF, fun c => m_counted (h := si h 99 0 0) hF r0 w ⟨_, rfl, hF, by omega, c, ?_⟩, fun c => ?_⟩
    · refine Qf_no hF (cont _ (Or.inr ⟨q1, q2, Or.inr ⟨c, rfl⟩⟩)) ?_
      rw [iDiv_pos (by omega) (by omega)]
      have := Int.ediv_nonneg (a := 1000 * tot D u ty) (b := tot D u (-5)) (by omega) (by omega)
      omega
    · exact Qf_fd (f := 4) hF hb (by omega) (cont _ (Or.inr ⟨q1, q2, Or.inl ⟨by omega, rfl⟩⟩))
  refine f_X12_share_0 hF _ _ ⟨fun c => ⟨fun c1 => bad (by omega), fun c1 => ⟨fun c2 => bad (by omega), fun c2 => good (by omega) (by omega)⟩⟩, fun c => ⟨by omega, fun c1 => bad (by omega), fun c1 => ⟨fun c2 => bad (by omega), fun c2 => ⟨fun c3 => bad (by omega), fun c3 => ⟨fun c4 => bad (by omega), fun c4 => good (by omega) (by omega)⟩⟩⟩⟩⟩
