/-! the class counts the orders -/
theorem CL.kpx {h h' : AH} {G : Nat → Prop} {S : DD} {c w w' : Int} {L : Int → Nat × Int × Int} {x : Nat} (cl : CL h G S c L w) (n136 : 136 ≤ nn h) (hx : ¬ G x) (sx : (sh h x).1 = 2) (xr : x = 93 ∨ 136 ≤ x) (k : ∀ o, o ≠ 86 → o < nn h → o ≠ x → Kp o h h') (hn : nn h ≤ nn h') (hu : (us h' : Int) ≤ us h + (w' - w)) : CL h' G S c L w' := by
  obtain ⟨hG, hS, h5, c0, a, b, d, K, q2, q3, q4, la, lb, ld, hbd, sa, sb, sd, ck, K1, K2, hu', hL⟩ := cl
  have k2 := k 2 (by decide) (by omega) (by omega)
  have ne : ∀ y t, sh h y = (t, K) → t ≠ 2 → y ≠ x := fun y t e ht q => by rw [← q, e] at sx; exact ht sx
  have n86 : ∀ y, LA h G y → y ≠ 86 := fun y l => by have := l.1; omega
  have ka := k a (n86 a la) la.2.1 (ne a 3 sa (by decide))
  have kb := k b (n86 b lb) lb.2.1 (ne b 0 sb (by decide))
  have kd := k d (n86 d ld) ld.2.1 (ne d 0 sd (by decide))
  refine ⟨fun o ho => ⟨(hG o ho).1, by have := (hG o ho).2; omega⟩, fun p m j hp hj => ?_, by rw [k2.1]; exact h5, c0, a, b, d, K, by rw [k2.2.2.2.1]; exact q2, by rw [k2.2.2.2.1]; exact q3, by rw [k2.2.2.2.1]; exact q4, ⟨la.1, by have := la.2.1; omega, la.2.2⟩, ⟨lb.1, by have := lb.2.1; omega, lb.2.2⟩, ⟨ld.1, by have := ld.2.1; omega, ld.2.2⟩, hbd, by rw [ka.2.2.2.2]; exact sa, by rw [kb.2.2.2.2]; exact sb, by rw [kd.2.2.2.2]; exact sd, ck, K1, K2, by omega, fun i hi => ?_⟩
  · have := hp.rng
    rw [(k p (by omega) (by omega) (by omega)).1]; exact hS p m j hp hj
  · rw [ka.2.2.2.1, kb.1, kd.1]; exact hL i hi
theorem CInv.ways {h h' : AH} {n : Nat} {Ds : Nat → DD} {Z : DD} {c : Int} {x s : Nat} (ci : CInv h n Ds Z c) (hF : Fix h) (gx : gr h 86 13 = some x) (f : WyF h h' x s) (hs : s ≤ 16) (hn : (nn h : Int) + 1 ≤ 136 + 150 * c) : CInv h' n Ds Z c := by
  have n136 : 136 ≤ nn h := hF.2.2
  obtain ⟨G, Ss, T, E, L, w, c1, c2, c3, c4, c5, c6, c7, r1, r2, r3, x', K, r4, r5, r6, r7, r8, r9, ⟨r10, r11⟩, r12⟩ := ci
  have ex : x' = x := by rw [gx] at r4; cases r4; rfl
  subst ex
  have sx : (sh h x').1 = 2 := by rw [r8]
  have hG := c1.1
  have fr : (∀ o, o ≠ 86 → o < nn h → o ≠ x' → Kp o h h') ∧ (gi h' 86 = gi h 86 ∧ gl h' 86 = gl h 86) := by
    rcases f with ⟨_, _, _, f4, _⟩ | ⟨_, _, _, f4, f5, _⟩
    · exact ⟨fun o _ _ h3 => f4 o h3, (f4 86 (by omega)).1, (f4 86 (by omega)).2.1⟩
    · exact ⟨fun o h1 h2 _ => f4 o h1 h2, f5⟩
  obtain ⟨k, k86, l86⟩ := fr
  have kk : ∀ o, o < 99 → o ≠ 86 → o ≠ 93 → Kp o h h' := fun o h1 h2 h3 => k o h2 (by omega) (by omega)
  have k2 := kk 2 (by decide) (by decide) (by decide)
  have k7 := kk 7 (by decide) (by decide) (by decide)
  have cz : CZ h' (Ds n) Z := by
    unfold CZ at c6 ⊢
    rw [k7.1, k86, (kk 98 (by decide) (by decide) (by decide)).1, (kk 1 (by decide) (by decide) (by decide)).1, (kk 69 (by decide) (by decide) (by decide)).1, (kk 70 (by decide) (by decide) (by decide)).1, (kk 94 (by decide) (by decide) (by decide)).1, (kk 95 (by decide) (by decide) (by decide)).1, (kk 90 (by decide) (by decide) (by decide)).1]
    exact c6
  have ca : Ca h' (Ds n) := by
    refine ⟨c7.1.w k7.1 (kk 8 (by decide) (by decide) (by decide)).1, c7.2.1.kp3 (fun o p q => kk o (by omega) (by omega) (by omega)) (by rw [k7.1]), ?_, ?_⟩
    · have cy := c7.2.2.1
      unfold CaY YrOk QrOk at cy ⊢
      rw [k2.1, (kk 73 (by decide) (by decide) (by decide)).1, (kk 74 (by decide) (by decide) (by decide)).1, (kk 75 (by decide) (by decide) (by decide)).1, (kk 76 (by decide) (by decide) (by decide)).1, (kk 77 (by decide) (by decide) (by decide)).1, (kk 78 (by decide) (by decide) (by decide)).1, (kk 79 (by decide) (by decide) (by decide)).1, (kk 80 (by decide) (by decide) (by decide)).1, (kk 81 (by decide) (by decide) (by decide)).1, (kk 82 (by decide) (by decide) (by decide)).1, (kk 83 (by decide) (by decide) (by decide)).1]
      exact cy
    · have cs := c7.2.2.2
      unfold CaS SeqOk at cs ⊢
      rw [k7.1, k86, l86, (kk 87 (by decide) (by decide) (by decide)).1, (kk 88 (by decide) (by decide) (by decide)).1, (kk 89 (by decide) (by decide) (by decide)).1]
      exact cs
  have ft : FTo h' G T (Ss n 68 0) := c5.kp (fun o ho => k o (by have := (hG o ho).1; omega) (hG o ho).2 (fun e => r7 (by rw [← e]; exact ho))) (kk 48 (by decide) (by decide) (by decide)).2.2.2.1
  have lg := c3.L (h' := h') (L' := L) (fun j => congrFun (kk 3 (by decide) (by decide) (by decide)).1 j) (fun _ _ => rfl)
  rcases f with ⟨f1, f2, f3, f4, f5⟩ | ⟨f1, f2, f3, f4, f5, f6, f7⟩
  · exact ⟨G, Ss, T, E, L, w, c1.kpx n136 r7 sx r5 k (by omega) (by rw [f3]; omega), by rw [k2.1]; exact c2, lg, c4, ft, cz, ca, by rw [k7.1]; exact r1, by rw [k2.1]; exact r2, by rw [f2]; exact r3, x', K, f1, r5, by rw [f2]; exact r6, r7, by rw [f5]; exact r8, r9, ⟨r10, r11⟩, r12⟩
  · obtain ⟨t, et⟩ := r11
    rw [r8] at f7
    have f7' : K < ((2 ^ s : Nat) : Int) := f7
    have et' : K = ((2 ^ t : Nat) : Int) := by rw [et]; push_cast; rfl
    have lt : t < s := by
      refine Classical.byContradiction (fun q => ?_)
      have := Nat.pow_le_pow_right (n := 2) (by decide) (show s ≤ t by omega)
      omega
    have dbl : 2 * K ≤ ((2 ^ s : Nat) : Int) := by
      have h1 := Nat.pow_le_pow_right (n := 2) (by decide) (show t + 1 ≤ s by omega)
      rw [Nat.pow_succ] at h1
      omega
    obtain ⟨p1, p2⟩ := pw16 hs
    refine ⟨G, Ss, T, E, L, w + ((2 ^ s : Nat) : Int), c1.kpx n136 r7 sx r5 k (by omega) (by rw [f3]; push_cast; omega), by rw [k2.1]; exact c2, lg, c4, ft, cz, ca, by rw [k7.1]; exact r1, by rw [k2.1]; exact r2, by rw [f2]; push_cast; omega, nn h, ((2 ^ s : Nat) : Int), f1, Or.inr n136, by omega, fun q => by have := (hG _ q).2; omega, f6, by omega, ⟨by omega, s, by push_cast; rfl⟩, by omega⟩
