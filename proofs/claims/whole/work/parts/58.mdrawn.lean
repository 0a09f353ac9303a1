/-! spans drawn together -/
def Bel (D : DD) (b u : Int) : Prop := D 102 u = b ∨ Rch (D 99 7) (dla D) (dea D) b (D 102 u)
def Abo (D : DD) (b u : Int) : Prop := D 102 u = b ∨ Rch (D 99 7) (dla D) (dea D) (D 102 u) b
def aBeg (D B : DD) (b x : Int) : Prop := (∃ u, In (D 99 1) u ∧ Bel D b u ∧ B 129 u = x) ∧ ∀ u, In (D 99 1) u → Bel D b u → B 129 u ≤ x
def aEnd (D B : DD) (b x : Int) : Prop := (∃ u, In (D 99 1) u ∧ Abo D b u ∧ B 129 (100 + u) = x) ∧ ∀ u, In (D 99 1) u → Abo D b u → x ≤ B 129 (100 + u)
theorem aBeg_uniq {D B : DD} {b x y : Int} (h : aBeg D B b x) (h' : aBeg D B b y) : x = y := by
  obtain ⟨⟨u, a1, a2, a3⟩, a4⟩ := h
  obtain ⟨⟨v, b1, b2, b3⟩, b4⟩ := h'
  have := a4 v b1 b2
  have := b4 u a1 a2
  omega
theorem aEnd_uniq {D B : DD} {b x y : Int} (h : aEnd D B b x) (h' : aEnd D B b y) : x = y := by
  obtain ⟨⟨u, a1, a2, a3⟩, a4⟩ := h
  obtain ⟨⟨v, b1, b2, b3⟩, b4⟩ := h'
  have := a4 v b1 b2
  have := b4 u a1 a2
  omega
/-- blocks below x are taken into account -/
def DrI (D B : DD) (b x y4 y5 : Int) : Prop := ((∃ u, In (D 99 1) u ∧ Bel D b u ∧ B 129 u = y4) ∧ ∀ u, In (D 99 1) u → (D 102 u = b ∨ D 102 u < x ∧ Rch (D 99 7) (dla D) (dea D) b (D 102 u)) → B 129 u ≤ y4) ∧
  ((∃ u, In (D 99 1) u ∧ Abo D b u ∧ B 129 (100 + u) = y5) ∧ ∀ u, In (D 99 1) u → (D 102 u = b ∨ D 102 u < x ∧ Rch (D 99 7) (dla D) (dea D) (D 102 u) b) → y5 ≤ B 129 (100 + u))
theorem m_drawn_41 {Q : Option AV → AH → Prop} {D : DD} {h0 : AH} {p1 a b : Int} (w : WF D) (hb : In (D 99 1) b) (hbb : D 102 b = b) (ha : 0 ≤ a ∧ a ≤ 2)
    (cont : ∀ h' bg en, Fix h' → Fr [123] [(99, 28)] h0 h' → aBeg D (dts D) b bg → aEnd D (dts D) b en → gi h' 99 28 = (if a = 0 then bg else if a = 1 then en else if en < bg then 1 else 0) → Q (some (vI 1)) h') (k : Nat) :
    ∀ (h : AH) (x y4 y5 : Int), (D 99 1 - x).toNat = k → 0 ≤ x → x ≤ D 99 1 → Fix h → RM h D → RB h (D 99 1) (dts D) → Fr [123] [] h0 h → DrI D (dts D) b x y4 y5 →
    Ok 282 41 [some (vR (some 99)), some (vI p1), some (vI a), some (vI b), some (vI y4), some (vI y5), some (vI x), none, none] [] h Q := by
  have c0 := w.1
  unfold Wc at c0
  obtain ⟨rk, hk, hk2⟩ := w.rk
  induction k using Nat.strongRecOn with
  | ind k ih =>
    intro h x y4 y5 hkk x0 x1 hF r rb f hI
    have fin : ∀ v, v = (if a = 0 then y4 else if a = 1 then y5 else if y5 < y4 then 1 else 0) → x = D 99 1 → Q (some (vI 1)) (si h 99 28 v) := fun v hv hx => by
      have f2 : Fr [123] [(99, 28)] h0 (si h 99 28 v) := (f.mono (by decide) (by decide)).si (Or.inr (by decide))
      obtain ⟨⟨i1, i2⟩, i3, i4⟩ := hI
      refine cont _ y4 y5 (hF.fr (Fr.refl.si (L := []) (K := [(99, 28)]) (Or.inr (by decide)))) f2 ⟨i1, fun u hu hq => i2 u hu ?_⟩ ⟨i3, fun u hu hq => i4 u hu ?_⟩ (by rw [gi_si_e]; exact hv)
      · rcases hq with q | q
        · exact Or.inl q
        · exact Or.inr ⟨by rw [hx]; exact (w.blk hu).2, q⟩
      · rcases hq with q | q
        · exact Or.inl q
        · exact Or.inr ⟨by rw [hx]; exact (w.blk hu).2, q⟩
    refine f_X12_drawn_41 hF _ _ _ _ _ _ ?_
    rw [r.n]
    refine ⟨fun c => ?_, fun c => ?_⟩
    · have hx : x = D 99 1 := by omega
      refine ⟨fun c1 => ⟨fun c2 => ⟨fun c3 => fin 0 ?_ hx, fun c3 => fin 1 ?_ hx⟩, fun c2 => fin y5 ?_ hx⟩, fun c1 => fin y4 ?_ hx⟩
      · rw [if_neg c1, if_neg c2, if_neg (by omega)]
      · rw [if_neg c1, if_neg c2, if_pos (by omega)]
      · rw [if_neg c1, if_pos (by omega)]
      · rw [if_pos (by omega)]
    · have hx : In (D 99 1) x := ⟨x0, by omega⟩
      rw [r.u (o := 102) (by decide) hx]
      -- the next block
      have nxt : ∀ (h' : AH) (z4 z5 : Int), Fix h' → RM h' D → RB h' (D 99 1) (dts D) → Fr [123] [] h0 h' → DrI D (dts D) b (x + 1) z4 z5 → Ok 282 96 [some (vR (some 99)), some (vI p1), some (vI a), some (vI b), some (vI z4), some (vI z5), some (vI x), none, none] [] h' Q := fun h' z4 z5 hF' r' rb' f' i' =>
        f_X12_drawn_96 hF' _ _ _ _ _ _ ⟨by omega, ih _ (by omega) h' (x + 1) z4 z5 rfl (by omega) (by omega) hF' r' rb' f' i'⟩
      -- nothing new at x
      have same : (∀ u, In (D 99 1) u → D 102 u = x → x = b) → DrI D (dts D) b (x + 1) y4 y5 := fun hq => by
        obtain ⟨⟨i1, i2⟩, i3, i4⟩ := hI
        refine ⟨⟨i1, fun u hu q => i2 u hu ?_⟩, i3, fun u hu q => i4 u hu ?_⟩
        · rcases q with q | q
          · exact Or.inl q
          · by_cases e : D 102 u = x
            · exact Or.inl (by rw [e]; exact hq u hu e)
            · exact Or.inr ⟨by omega, q.2⟩
        · rcases q with q | q
          · exact Or.inl q
          · by_cases e : D 102 u = x
            · exact Or.inl (by rw [e]; exact hq u hu e)
            · exact Or.inr ⟨by omega, q.2⟩
      refine ⟨by omega, fun c1 => nxt h y4 y5 hF r rb f (same (fun u hu e => ?_)), fun c1 => ⟨fun c2 => nxt h y4 y5 hF r rb f (same (fun _ _ _ => c2)), fun c2 => ?_⟩⟩
      · have := (w.2.1 u hu).2.2.1.2.2
        rw [e] at this
        exact absurd this c1
      · have hxx : D 102 x = x := by omega
        refine m_bounder hF r w rb (Or.inl rfl) hx hxx (fun xl bl => ⟨xl, rfl, hF, by have := bl.1.1; have := bl.1.2; omega, ?_⟩)
        refine m_bounder hF r w rb (Or.inr rfl) hx hxx (fun xh bh => ⟨xh, rfl, hF, by have := bh.1.1; have := bh.1.2; omega, by have := bh.1.1; have := bh.1.2; omega, ?_⟩)
        have el : gi h 129 xl = dts D 129 xl := rb 129 _ (by omega) (Or.inl bl.1)
        have eh : gi h 129 (100 + xh) = dts D 129 (100 + xh) := rb 129 _ (by omega) (Or.inr ⟨by have := bh.1.1; omega, by have := bh.1.2; omega⟩)
        rw [el, eh]
        -- from above
        have second : ∀ (h' : AH) (z4 : Int), Fix h' → RM h' D → RB h' (D 99 1) (dts D) → Fr [123] [] h0 h' → ((∃ u, In (D 99 1) u ∧ Bel D b u ∧ dts D 129 u = z4) ∧ ∀ u, In (D 99 1) u → (D 102 u = b ∨ D 102 u < x + 1 ∧ Rch (D 99 7) (dla D) (dea D) b (D 102 u)) → dts D 129 u ≤ z4) →
            Ok 282 84 [some (vR (some 99)), some (vI p1), some (vI a), some (vI b), some (vI z4), some (vI y5), some (vI x), some (vI (dts D 129 xl)), some (vI (dts D 129 (100 + xh)))] [] h' Q := fun h' z4 hF' r' rb' f' i' => by
          obtain ⟨_, i3, i4⟩ := hI
          have keep : (¬ Rch (D 99 7) (dla D) (dea D) x b ∨ y5 ≤ dts D 129 (100 + xh)) → DrI D (dts D) b (x + 1) z4 y5 := fun hq => ⟨i', i3, fun u hu q => by
            rcases q with q | ⟨q1, q2⟩
            · exact i4 u hu (Or.inl q)
            · by_cases e : D 102 u = x
              · rcases hq with hq | hq
                · rw [e] at q2; exact absurd q2 hq
                · have := ((bh.2.2 u hu e).2 rfl).1; omega
              · exact i4 u hu (Or.inr ⟨by omega, q2⟩)⟩
          refine f_X12_drawn_84 hF' _ _ _ _ _ _ _ _ ⟨fun c3 => nxt h' z4 y5 hF' r' rb' f' (keep (Or.inr c3)), fun c3 => ?_⟩
          refine m_isLater hk hk2 hx hb hF' (r'.gv w) (fun h2 x2 f2 hx2 => ⟨x2, rfl, hF'.fr f2, fun c4 => ?_, fun c4 => ?_⟩)
          · exact nxt h2 z4 y5 (hF'.fr f2) (r'.fr f2 (by decide) (by decide)) (fun o k p q => by rw [f2.1 o k (by simp; omega) (by simp)]; exact rb' o k p q) (f'.trans f2) (keep (Or.inl (by rcases hx2 with q | q; omega; exact q.2)))
          · have hy : Rch (D 99 7) (dla D) (dea D) x b := by rcases hx2 with q | q; exact q.2; omega
            refine nxt h2 z4 _ (hF'.fr f2) (r'.fr f2 (by decide) (by decide)) (fun o k p q => by rw [f2.1 o k (by simp; omega) (by simp)]; exact rb' o k p q) (f'.trans f2) ⟨i', ⟨xh, bh.1, Or.inr (by rw [bh.2.1]; exact hy), rfl⟩, fun u hu q => ?_⟩
            by_cases e : D 102 u = x
            · exact ((bh.2.2 u hu e).2 rfl).1
            · have := i4 u hu (by rcases q with q | q; exact Or.inl q; exact Or.inr ⟨by omega, q.2⟩)
              omega
        obtain ⟨⟨i1, i2⟩, _⟩ := hI
        have keepL : (¬ Rch (D 99 7) (dla D) (dea D) b x ∨ dts D 129 xl ≤ y4) → ∀ u, In (D 99 1) u → (D 102 u = b ∨ D 102 u < x + 1 ∧ Rch (D 99 7) (dla D) (dea D) b (D 102 u)) → dts D 129 u ≤ y4 := fun hq u hu q => by
          rcases q with q | ⟨q1, q2⟩
          · exact i2 u hu (Or.inl q)
          · by_cases e : D 102 u = x
            · rcases hq with hq | hq
              · rw [e] at q2; exact absurd q2 hq
              · have := ((bl.2.2 u hu e).1 rfl).1; omega
            · exact i2 u hu (Or.inr ⟨by omega, q2⟩)
        refine ⟨fun c3 => second h y4 hF r rb f ⟨i1, keepL (Or.inr c3)⟩, fun c3 => ?_⟩
        refine m_isLater hk hk2 hb hx hF (r.gv w) (fun h2 x2 f2 hx2 => ⟨x2, rfl, hF.fr f2, fun c4 => ?_, fun c4 => ?_⟩)
        · exact second h2 y4 (hF.fr f2) (r.fr f2 (by decide) (by decide)) (fun o k p q => by rw [f2.1 o k (by simp; omega) (by simp)]; exact rb o k p q) (f.trans f2) ⟨i1, keepL (Or.inl (by rcases hx2 with q | q; omega; exact q.2))⟩
        · have hy : Rch (D 99 7) (dla D) (dea D) b x := by rcases hx2 with q | q; exact q.2; omega
          refine second h2 _ (hF.fr f2) (r.fr f2 (by decide) (by decide)) (fun o k p q => by rw [f2.1 o k (by simp; omega) (by simp)]; exact rb o k p q) (f.trans f2) ⟨⟨xl, bl.1, Or.inr (by rw [bl.2.1]; exact hy), rfl⟩, fun u hu q => ?_⟩
          by_cases e : D 102 u = x
          · exact ((bl.2.2 u hu e).1 rfl).1
          · have := i2 u hu (by rcases q with q | q; exact Or.inl q; exact Or.inr ⟨by omega, q.2⟩)
            omega
theorem m_drawn {h : AH} {Q : Option AV → AH → Prop} {D : DD} {u a : Int} (hF : Fix h) (r : RM h D) (w : WF D)
    (bad : ¬ ((0 ≤ u ∧ u < D 99 1) ∧ 0 ≤ a ∧ a ≤ 2) → Q (some (vI (-1))) (si h 99 0 0))
    (tell : ∀ h' bg en, (0 ≤ u ∧ u < D 99 1) ∧ 0 ≤ a ∧ a ≤ 2 → Fix h' → Fr [123, 129, 130, 131] [(99, 0), (99, 28)] h h' → aBeg D (dts D) (D 102 u) bg → aEnd D (dts D) (D 102 u) en → gi h' 99 28 = (if a = 0 then bg else if a = 1 then en else if en < bg then 1 else 0) → Q (some (vI 1)) h') :
    Ok 282 0 [some (vR (some 99)), some (vI u), some (vI a), none, none, none, none, none, none] [] h Q := by
  have c0 := w.1
  unfold Wc at c0
  have e1 := r.n
  have f0 : Fr [] [(99, 0)] h (si h 99 0 0) := f0_fr (by decide)
  have r0 := r.fr f0 (by decide) (by decide)
  refine f_X12_drawn_0 hF _ _ ⟨by omega, fun c => bad (by omega), fun c => ⟨fun c1 => bad (by omega), fun c1 => ⟨fun c2 => bad (by omega), fun c2 => ⟨fun c3 => bad (by omega), fun c3 => ?_⟩⟩⟩⟩
  have hu : In (D 99 1) u := ⟨by omega, by omega⟩
  have hb := w.blk hu
  have hbb := (w.2.1 u hu).2.2.1.2.2
  have hF0 := hF.fr f0
  refine m_dates hF0 r0 w (fun h1 hF1 f1 r1 rb1 => ⟨rfl, hF1, by omega, ?_⟩)
  rw [r1.u (o := 102) (by decide) hu]
  refine m_bounder hF1 r1 w rb1 (Or.inl rfl) hb hbb (fun xl bl => ⟨xl, rfl, hF1, by have := bl.1.1; have := bl.1.2; omega, ?_⟩)
  refine m_bounder hF1 r1 w rb1 (Or.inr rfl) hb hbb (fun xh bh => ⟨xh, rfl, hF1, by have := bh.1.1; have := bh.1.2; omega, by have := bh.1.1; have := bh.1.2; omega, ?_⟩)
  have el : gi h1 129 xl = dts D 129 xl := rb1 129 _ (by omega) (Or.inl bl.1)
  have eh : gi h1 129 (100 + xh) = dts D 129 (100 + xh) := rb1 129 _ (by omega) (Or.inr ⟨by have := bh.1.1; omega, by have := bh.1.2; omega⟩)
  rw [el, eh]
  refine m_drawn_41 (h0 := h1) w hb hbb (by omega) (fun h' bg en hF' f' b1 b2 b3 => ?_) _ h1 0 _ _ rfl (by omega) c0.1 hF1 r1 rb1 Fr.refl ⟨⟨⟨xl, bl.1, Or.inl bl.2.1, rfl⟩, fun v hv q => ?_⟩, ⟨xh, bh.1, Or.inl bh.2.1, rfl⟩, fun v hv q => ?_⟩
  · exact tell h' bg en (by omega) hF' (((f0.mono (by decide) (by decide)).trans (f1.mono (by decide) (by decide))).trans (f'.mono (by decide) (by decide))) b1 b2 b3
  · rcases q with q | q
    · exact ((bl.2.2 v hv q).1 rfl).1
    · have := (w.blk hv).1; omega
  · rcases q with q | q
    · exact ((bh.2.2 v hv q).2 rfl).1
    · have := (w.blk hv).1; omega
