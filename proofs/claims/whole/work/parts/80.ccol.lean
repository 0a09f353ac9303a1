/-! THE CLASS: its columns and the book's log -/
/-- the arrays of the columns, and their lengths -/
def colL : List (Nat × Int) := [(10, 100), (12, 100), (14, 100), (16, 100), (18, 100), (20, 1), (40, 200), (42, 200), (44, 200), (46, 1), (50, 60), (52, 60), (54, 60), (56, 60), (58, 2400), (60, 80), (62, 80), (64, 1), (66, 1), (68, 1)]
abbrev Cl (o : Nat) (n : Int) : Prop := (o, n) ∈ colL
theorem in10 : In 1 0 := ⟨by decide, by decide⟩
theorem col_fix : ∀ e ∈ colL, (e.1, 0, e.2) ∈ fixS ∧ (e.1 - 1, 12, 2) ∈ fixS ∧ (e.1 - 1, 0, e.1) ∈ fixR ∧ (e.1 - 1, 1, 2) ∈ fixR ∧ 10 ≤ e.1 ∧ e.1 ≤ 68 ∧ e.1 % 2 = 0 ∧ 0 < e.2 ∧ e.2 ≤ 2400 := by decide +kernel
theorem Cl.hs {h : AH} (hF : Fix h) {o : Nat} {n : Int} (c : Cl o n) : sh h o = (0, n) := hF.2.1 _ (col_fix _ c).1
theorem Cl.rng {o : Nat} {n : Int} (c : Cl o n) : 10 ≤ o ∧ o ≤ 68 ∧ o % 2 = 0 ∧ 0 < n ∧ n ≤ 2400 := (col_fix _ c).2.2.2.2
theorem Cl.ob {h : AH} (hF : Fix h) {o : Nat} {n : Int} (c : Cl (o + 1) n) : ObC h o := by
  obtain ⟨c1, c2, c3, c4, _⟩ := col_fix _ c
  refine ⟨by rw [show sh h o = (12, 2) from hF.2.1 _ c2], hF.1 _ c3, hF.1 _ c4, by rw [show sh h (o + 1) = (0, n) from hF.2.1 _ c1]⟩
theorem Cl.fn {o : Nat} {n m : Int} (c : Cl o n) (d : Cl o m) : n = m := by
  have : ∀ e ∈ colL, ∀ f ∈ colL, e.1 = f.1 → e.2 = f.2 := by decide +kernel
  exact this _ c _ d rfl
/-- all of an object's rows are kept -/
def Kp (o : Nat) (h h' : AH) : Prop := gi h' o = gi h o ∧ gl h' o = gl h o ∧ gf h' o = gf h o ∧ gr h' o = gr h o ∧ sh h' o = sh h o
theorem Kp.refl {o : Nat} {h : AH} : Kp o h h := ⟨rfl, rfl, rfl, rfl, rfl⟩
theorem Kp.trans {o : Nat} {h1 h2 h3 : AH} (a : Kp o h1 h2) (b : Kp o h2 h3) : Kp o h1 h3 := ⟨b.1.trans a.1, b.2.1.trans a.2.1, b.2.2.1.trans a.2.2.1, b.2.2.2.1.trans a.2.2.2.1, b.2.2.2.2.trans a.2.2.2.2⟩
def Pr (X : Nat → Prop) (h h' : AH) : Prop := ∀ o, X o → Kp o h h'
theorem Pr.refl {X : Nat → Prop} {h : AH} : Pr X h h := fun _ _ => Kp.refl
theorem Pr.trans {X : Nat → Prop} {h1 h2 h3 : AH} (a : Pr X h1 h2) (b : Pr X h2 h3) : Pr X h1 h3 := fun o x => (a o x).trans (b o x)
theorem Pr.mono {X Y : Nat → Prop} {h1 h2 : AH} (a : Pr X h1 h2) (hx : ∀ o, Y o → X o) : Pr Y h1 h2 := fun o x => a o (hx o x)
theorem Kp.si {o p : Nat} {h h' : AH} {k v : Int} (a : Kp o h h') (hn : o ≠ p) : Kp o h (si h' p k v) := ⟨by rw [gi_si_r hn]; exact a.1, a.2⟩
theorem Kp.sr {o p : Nat} {h h' : AH} {k : Int} {v : Option Nat} (a : Kp o h h') (hn : o ≠ p) : Kp o h (sr h' p k v) := ⟨a.1, a.2.1, a.2.2.1, by rw [← a.2.2.2.1]; exact funext fun j => gr_sr_o hn, a.2.2.2.2⟩
theorem Kp.al {o : Nat} {h h' : AH} {t : Nat} {n : Int} (a : Kp o h h') (hn : o < nn h') : Kp o h (al h' t n) := ⟨by rw [← a.1]; exact funext fun k => gi_al_p hn, by rw [← a.2.1]; exact funext fun k => gl_al_p hn, by rw [← a.2.2.1]; exact funext fun k => gf_al_p hn, by rw [← a.2.2.2.1]; exact funext fun k => gr_al_p hn, by rw [← a.2.2.2.2]; exact sh_al_p hn⟩
theorem Kp.wI {o p : Nat} {h h' : AH} {f : Int → Int} (a : Kp o h h') (hn : o ≠ p) : Kp o h (wI h' p f) := ⟨by rw [gi_wI_o hn]; exact a.1, a.2⟩
/-- Fix needs no more than the rows below 136 -/
theorem Fix.kp {h h' : AH} (hF : Fix h) (k : ∀ o, o < 136 → o ≠ 2 → o ≠ 4 → gr h' o = gr h o) (k2 : gr h' 2 0 = gr h 2 0) (ks : ∀ o, o < 136 → sh h' o = sh h o) (hn : nn h ≤ nn h') : Fix h' := by
  have e1 : ∀ e ∈ fixR, e.1 < 136 ∧ e.1 ≠ 4 ∧ (e.1 = 2 → e.2.1 = 0) := by decide +kernel
  have e2 : ∀ e ∈ fixS, e.1 < 136 := by decide +kernel
  refine ⟨fun e he => ?_, fun e he => by rw [ks _ (e2 e he)]; exact hF.2.1 e he, Nat.le_trans hF.2.2 hn⟩
  obtain ⟨a1, a2, a3⟩ := e1 e he
  by_cases h2 : e.1 = 2
  · have e0 := a3 h2
    have := hF.1 e he
    rw [h2, e0] at this ⊢
    rw [k2]
    exact this
  · rw [k _ a1 h2 a2]; exact hF.1 e he
/-! Arrays.copyOf to a longer one -/
theorem c_copyOf {h : AH} {Q : Option AV → AH → Prop} {b : Nat} {K n : Int} (hF : Fix h) (hb : sh h b = (0, K)) (hbn : b < nn h) (hK : 0 ≤ K ∧ K < n ∧ n ≤ 1000000)
    (cont : ∀ h', Fix h' → (∀ o, o < nn h → Kp o h h') → nn h' = nn h + 1 → (us h' : Int) = us h + n → sh h' (nn h) = (0, n) → (∀ i, In K i → gi h' (nn h) i = gi h b i) → Q (some (vR (some (nn h)))) h') :
    Ok 298 0 [some (vR (some b)), some (vI n), none] [] h Q := by
  have e1 : sh (al h 0 n) b = (0, K) := by rw [sh_al_p hbn]; exact hb
  have e2 : sh (al h 0 n) (nn h) = (0, n) := sh_al_e
  have ne : b ≠ nn h := Nat.ne_of_lt hbn
  refine f_J7_copyOf_59c91_0 hF _ _ ?_
  rw [e1, e2, hb]
  refine ⟨by show (0 : Nat) < 10; decide, fun c => ⟨⟨by omega, by omega⟩, by show (0 : Nat) < 10; decide, ⟨rfl, rfl, ne, Int.le_refl _, Int.le_refl _, ?_, ?_, ?_⟩, ?_⟩, fun c => ?_⟩
  · show (0 : Int) ≤ if n < K then n else K
    rw [if_neg (by omega)]; exact hK.1
  · show (0 : Int) + (if n < K then n else K) ≤ K
    rw [if_neg (by omega)]; omega
  · show (0 : Int) + (if n < K then n else K) ≤ n
    rw [if_neg (by omega)]; omega
  · have kp : ∀ o, o < nn h → Kp o h (wI (al h 0 n) (nn h) (fun q => if 0 ≤ q ∧ q < 0 + (if n < ((0, K) : Nat × Int).2 then n else ((0, K) : Nat × Int).2) then gi (al h 0 n) b (0 + (q - 0)) else gi (al h 0 n) (nn h) q)) := fun o ho => (Kp.refl.al ho).wI (Nat.ne_of_lt ho)
    refine cont _ (hF.kp (fun o h1 _ _ => (kp o (Nat.lt_of_lt_of_le h1 hF.2.2)).2.2.2.1) (by rw [(kp 2 (Nat.lt_of_lt_of_le (by decide) hF.2.2)).2.2.2.1]) (fun o h1 => (kp o (Nat.lt_of_lt_of_le h1 hF.2.2)).2.2.2.2) (Nat.le_succ _)) kp rfl ?_ e2 (fun i hi => ?_)
    · show ((us h + n.toNat : Nat) : Int) = _
      omega
    · rw [gi_wI_e]
      have := hi.1
      have := hi.2
      show (if 0 ≤ i ∧ i < 0 + (if n < K then n else K) then gi (al h 0 n) b (0 + (i - 0)) else gi (al h 0 n) (nn h) i) = _
      rw [if_neg (show ¬ n < K by omega), if_pos ⟨by omega, by omega⟩, gi_al_p hbn]
      congr 1
      omega
  · exact absurd (show n ≠ K by omega) c
/-! the log grows -/
theorem c_grow_9 {h0 : AH} {Q : Option AV → AH → Prop} {a b d : Nat} {K : Int} (hF0 : Fix h0) (g2 : gr h0 2 2 = some a) (g3 : gr h0 2 3 = some b) (g4 : gr h0 2 4 = some d) (ga : a < nn h0) (gb : b < nn h0) (gd : d < nn h0) (sa : sh h0 a = (3, K)) (sb : sh h0 b = (0, K)) (sd : sh h0 d = (0, K)) (hK : 128 ≤ K ∧ K ≤ 20000)
    (hL : ∀ i, In K i → ∃ o, gr h0 a i = some o ∧ o < 136 ∧ sh h0 o = (12, 2))
    (cont : ∀ h', Fix h' → (∀ o, o < nn h0 → o ≠ 2 → Kp o h0 h') → gi h' 2 = gi h0 2 → sh h' 2 = sh h0 2 → gr h' 2 2 = some (nn h0) → gr h' 2 3 = some (nn h0 + 1) → gr h' 2 4 = some (nn h0 + 2) → nn h' = nn h0 + 3 → (us h' : Int) = us h0 + 6 * K → sh h' (nn h0) = (3, 2 * K) → sh h' (nn h0 + 1) = (0, 2 * K) → sh h' (nn h0 + 2) = (0, 2 * K) →
      (∀ i, In K i → gr h' (nn h0) i = gr h0 a i ∧ gi h' (nn h0 + 1) i = gi h0 b i ∧ gi h' (nn h0 + 2) i = gi h0 d i) → Q none h') (m : Nat) :
    ∀ (h : AH) (k : Int), (K - k).toNat = m → 0 ≤ k → k ≤ K → (∀ o, o < nn h0 → Kp o h0 h) → nn h = nn h0 + 1 → (us h : Int) = us h0 + 2 * K → sh h (nn h0) = (3, 2 * K) → (∀ i, In k i → gr h (nn h0) i = gr h0 a i) → Ok 14 9 [some (vR (some 2)), some (vR (some (nn h0))), some (vI k)] [] h Q := by
  have n0 := hF0.2.2
  have h2n : 2 < nn h0 := Nat.lt_of_lt_of_le (by decide) n0
  induction m using Nat.strongRecOn with
  | ind m ih =>
    intro h k hm k0 k1 kp hn hu sy hg
    have F : Fix h := hF0.kp (fun o h1 _ _ => (kp o (Nat.lt_of_lt_of_le h1 n0)).2.2.2.1) (by rw [(kp 2 h2n).2.2.2.1]) (fun o h1 => (kp o (Nat.lt_of_lt_of_le h1 n0)).2.2.2.2) (by omega)
    have e2 := (kp 2 h2n).2.2.2.1
    have ea := kp a ga
    have eb := kp b gb
    have ed := kp d gd
    refine f_X1_grow_9 F _ _ ⟨a, by rw [e2]; exact g2, by rw [ea.2.2.2.2, sa]; show (3 : Nat) < 10; decide, fun c => ?_, fun c => ?_⟩
    · rw [ea.2.2.2.2, sa] at c
      have hk : k = K := by have : K ≤ k := c; omega
      have hy2 : (2 : Nat) ≠ nn h0 := by omega
      have kb : ∀ o, o < nn h0 → o ≠ 2 → Kp o h0 (sr h 2 2 (some (nn h0))) := fun o ho h2 => (kp o ho).sr h2
      have F1 : Fix (sr h 2 2 (some (nn h0))) := F.srF 2 2 (by decide +kernel)
      refine ⟨b, by rw [gr_sr_k (by decide), e2]; exact g3, by rw [sy]; show (3 : Nat) < 10; decide, ?_⟩
      rw [sy]
      refine c_copyOf (K := K) F1 (by rw [sh_sr, eb.2.2.2.2]; exact sb) (by rw [nn_sr]; omega) ⟨by omega, by show K < 2 * K; omega, by show 2 * K ≤ 1000000; omega⟩ (fun h1 F1' kp1 n1 u1 s1 c1 => ⟨_, rfl, F1', ?_⟩)
      rw [nn_sr] at n1 s1 c1 kp1
      rw [us_sr] at u1
      have eny : nn h = nn h0 + 1 := hn
      have k2 := kp1 2 (by rw [hn]; omega)
      have ky := kp1 (nn h0) (by rw [hn]; omega)
      have kd := kp1 d (by rw [hn]; omega)
      have ed3 : (2 : Nat) ≠ d := fun e => by rw [← e, show sh h0 2 = (11, 7) from hF0.2.1 (2, 11, 7) (by decide +kernel)] at sd; cases sd
      have eb3 : (2 : Nat) ≠ b := fun e => by rw [← e, show sh h0 2 = (11, 7) from hF0.2.1 (2, 11, 7) (by decide +kernel)] at sb; cases sb
      have sy1 : sh h1 (nn h0) = (3, 2 * K) := by rw [ky.2.2.2.2, sh_sr]; exact sy
      refine ⟨d, ?_, by rw [sy1]; show (3 : Nat) < 10; decide, ?_⟩
      · rw [gr_sr_k (by decide), k2.2.2.2.1, gr_sr_k (by decide), e2]; exact g4
      · rw [sy1]
        have F2 : Fix (sr h1 2 3 (some (nn h))) := F1'.srF 2 3 (by decide +kernel)
        refine c_copyOf (K := K) F2 (by rw [sh_sr, kd.2.2.2.2, sh_sr, ed.2.2.2.2]; exact sd) (by rw [nn_sr, n1, hn]; omega) ⟨by omega, by show K < 2 * K; omega, by show 2 * K ≤ 1000000; omega⟩ (fun h2 F2' kp2 n2 u2 s2 c2 => ⟨_, rfl, F2', ?_⟩)
        rw [nn_sr] at n2 s2 c2 kp2
        rw [us_sr] at u2
        have q2 := kp2 2 (by rw [n1, hn]; omega)
        have qy := kp2 (nn h0) (by rw [n1, hn]; omega)
        have qb := kp2 (nn h) (by rw [n1]; omega)
        have r2 : gr h2 2 = gr (sr h1 2 3 (some (nn h))) 2 := q2.2.2.2.1
        have e0n : nn h = nn h0 + 1 := hn
        have kpE : ∀ o, o < nn h0 → o ≠ 2 → Kp o h0 (sr h2 2 4 (some (nn h1))) := fun o ho h2' => (((kb o ho h2').trans (kp1 o (by rw [hn]; omega))).sr h2' |>.trans (kp2 o (by rw [n1, hn]; omega))).sr h2'
        have sh2 : sh h2 2 = sh h0 2 := by rw [q2.2.2.2.2, sh_sr, k2.2.2.2.2, sh_sr, (kp 2 h2n).2.2.2.2]
        have n3 : nn h1 = nn h0 + 2 := by rw [n1, hn]
        refine cont _ (F2'.srF 2 4 (by decide +kernel)) kpE ?_ sh2 ?_ ?_ ?_ ?_ ?_ ?_ ?_ ?_ (fun i hi => ⟨?_, ?_, ?_⟩)
        · show gi h2 2 = _
          rw [q2.1]; show gi h1 2 = _
          rw [k2.1]; exact (kp 2 h2n).1
        · rw [gr_sr_k (by decide), r2, gr_sr_k (by decide), k2.2.2.2.1, gr_sr_e]
        · rw [gr_sr_k (by decide), r2, gr_sr_e, hn]
        · rw [gr_sr_e, nn_sr, n3]
        · rw [nn_sr, n2, n3]
        · rw [us_sr]; have u1' : (us h1 : Int) = us h + 2 * K := u1; have u2' : (us h2 : Int) = us h1 + 2 * K := u2; omega
        · rw [sh_sr, qy.2.2.2.2, sh_sr]; exact sy1
        · rw [sh_sr, ← hn, qb.2.2.2.2, sh_sr]; exact s1
        · rw [sh_sr, ← n3]; exact s2
        · have t1 := congrFun qy.2.2.2.1 i
          have t2 := congrFun ky.2.2.2.1 i
          rw [gr_sr_o (Ne.symm hy2), t1, gr_sr_o (Ne.symm hy2), t2, gr_sr_o (Ne.symm hy2)]
          exact hg i (by rw [hk]; exact hi)
        · rw [gi_sr, ← hn, congrFun qb.1 i, gi_sr, c1 i hi, gi_sr, congrFun eb.1 i]
        · rw [gi_sr, ← n3, c2 i hi, gi_sr, congrFun kd.1 i, gi_sr, congrFun ed.1 i]
    · rw [ea.2.2.2.2, sa] at c
      have hk : k < K := by have : ¬ K ≤ k := c; omega
      obtain ⟨o, o1, o2, o3⟩ := hL k ⟨k0, hk⟩
      refine ⟨a, by rw [e2]; exact g2, ?_, fun q hq => ⟨o, ?_, ?_, by omega, ?_⟩⟩
      · rw [ea.2.2.2.2, sa]; exact ⟨Or.inl rfl, k0, hk⟩
      · rw [← hq, ea.2.2.2.1]; exact o1
      · rw [sy, (kp o (by omega)).2.2.2.2, o3]; exact ⟨Or.inl ⟨rfl, rfl⟩, k0, by show k < 2 * K; omega⟩
      · refine ih _ (by omega) _ (k + 1) rfl (by omega) (by omega) (fun p hp => (kp p hp).sr (by omega)) hn hu sy (fun i hi => ?_)
        by_cases e : i = k
        · rw [e, gr_sr_e, o1]
        · rw [gr_sr_k e]
          exact hg i ⟨hi.1, by have := hi.2; omega⟩
theorem c_grow {h0 : AH} {Q : Option AV → AH → Prop} {a b d : Nat} {K : Int} (hF0 : Fix h0) (g2 : gr h0 2 2 = some a) (g3 : gr h0 2 3 = some b) (g4 : gr h0 2 4 = some d) (ga : a < nn h0) (gb : b < nn h0) (gd : d < nn h0) (sa : sh h0 a = (3, K)) (sb : sh h0 b = (0, K)) (sd : sh h0 d = (0, K)) (hK : 128 ≤ K ∧ K ≤ 20000)
    (hL : ∀ i, In K i → ∃ o, gr h0 a i = some o ∧ o < 136 ∧ sh h0 o = (12, 2))
    (cont : ∀ h', Fix h' → (∀ o, o < nn h0 → o ≠ 2 → Kp o h0 h') → gi h' 2 = gi h0 2 → sh h' 2 = sh h0 2 → gr h' 2 2 = some (nn h0) → gr h' 2 3 = some (nn h0 + 1) → gr h' 2 4 = some (nn h0 + 2) → nn h' = nn h0 + 3 → (us h' : Int) = us h0 + 6 * K → sh h' (nn h0) = (3, 2 * K) → sh h' (nn h0 + 1) = (0, 2 * K) → sh h' (nn h0 + 2) = (0, 2 * K) →
      (∀ i, In K i → gr h' (nn h0) i = gr h0 a i ∧ gi h' (nn h0 + 1) i = gi h0 b i ∧ gi h' (nn h0 + 2) i = gi h0 d i) → Q none h') :
    Ok 14 0 [some (vR (some 2)), none, none] [] h0 Q := by
  refine f_X1_grow_0 hF0 ⟨a, g2, by rw [sa]; show (3 : Nat) < 10; decide, ?_⟩
  rw [sa]
  refine ⟨⟨by show -2147483648 ≤ 2 * K; omega, by show 2 * K < 2147483648; omega⟩, ⟨by show 0 ≤ 2 * K; omega, by show 2 * K ≤ 1000000; omega⟩, ?_⟩
  refine c_grow_9 hF0 g2 g3 g4 ga gb gd sa sb sd hK hL cont _ (al h0 3 (2 * K)) 0 rfl (by omega) (by omega) (fun o ho => Kp.refl.al ho) rfl ?_ sh_al_e (fun i hi => by have := hi.1; have := hi.2; omega)
  show ((us h0 + (2 * K).toNat : Nat) : Int) = _
  omega
