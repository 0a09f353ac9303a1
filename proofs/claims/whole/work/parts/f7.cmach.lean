/-! THE CONSTRUCTORS: a machine over lists -/
abbrev COp : Type := Nat × Nat × Int × Int
/-- how many objects; kinds and lengths, the newest first; writes, the newest first -/
abbrev CHp : Type := Nat × List (Nat × Int) × List COp
def csh (c : CHp) (o : Nat) : Nat × Int := (nth c.2.1 (c.1 - 1 - o)).getD (9, 0)
def cref : List COp → Nat → Int → Option Nat
  | [], _, _ => none
  | q :: l, o, k => if q.1 = 2 ∧ q.2.1 = o ∧ q.2.2.1 = k then some q.2.2.2.toNat else cref l o k
def cgi : List COp → Nat → Int → Int
  | [], _, _ => 0
  | q :: l, o, k => if q.1 = 1 ∧ q.2.1 = o ∧ q.2.2.1 = k then q.2.2.2 else if q.1 = 3 ∧ q.2.1 = o ∧ 0 ≤ k ∧ k < q.2.2.1 then q.2.2.2 else cgi l o k
def cus : List (Nat × Int) → Nat
  | [] => 0
  | q :: l => cus l + q.2.toNat
def cnew (c : CHp) (t : Nat) (n : Int) : CHp := (c.1 + 1, (t, n) :: c.2.1, (0, t, n, 0) :: c.2.2)
def cput (c : CHp) (a o : Nat) (k v : Int) : CHp := (c.1, c.2.1, (a, o, k, v) :: c.2.2)
def Rep (h0 : AH) (c : CHp) (h : AH) : Prop := nn h = c.1 ∧ 1 ≤ c.1 ∧ (∀ o, 1 ≤ o → o < c.1 → sh h o = csh c o) ∧ (∀ o k v, cref c.2.2 o k = some v → o < c.1 ∧ gr h o k = some v) ∧ (∀ o k, 1 ≤ o → gi h o k = cgi c.2.2 o k) ∧ (∀ o k, c.1 ≤ o → cgi c.2.2 o k = 0) ∧ (∀ o k, gl h o k = 0) ∧ us h = cus c.2.1 ∧ sh h 0 = sh h0 0 ∧ gi h 0 = gi h0 0
theorem Rep.nw {h0 h : AH} {c : CHp} {t : Nat} {n : Int} (r : Rep h0 c h) : Rep h0 (cnew c t n) (al h t n) := by
  obtain ⟨r1, r2, r3, r4, r5, r6, r7, r8, r9, r10⟩ := r
  have e0 : ∀ o k, cgi (cnew c t n).2.2 o k = cgi c.2.2 o k := fun o k => by
    show (if (0 : Nat) = 1 ∧ _ then _ else if (0 : Nat) = 3 ∧ _ then _ else _) = _
    rw [if_neg (fun q => absurd q.1 (by decide)), if_neg (fun q => absurd q.1 (by decide))]
  have e1 : ∀ o k, cref (cnew c t n).2.2 o k = cref c.2.2 o k := fun o k => by
    show (if (0 : Nat) = 2 ∧ _ then _ else _) = _
    rw [if_neg (fun q => absurd q.1 (by decide))]
  refine ⟨by show nn h + 1 = c.1 + 1; rw [r1], by show 1 ≤ c.1 + 1; omega, fun o o1 o2 => ?_, fun o k v e => ?_, fun o k o1 => ?_, fun o k o1 => ?_, fun o k => ?_, ?_, ?_, ?_⟩
  · have o2 : o < c.1 + 1 := o2
    show sh (al h t n) o = (nth ((t, n) :: c.2.1) (c.1 + 1 - 1 - o)).getD (9, 0)
    by_cases e : o = c.1
    · rw [e, ← r1, sh_al_e, show nn h + 1 - 1 - nn h = 0 by omega]
      rfl
    · rw [sh_al_p (by omega), r3 o o1 (by omega), show c.1 + 1 - 1 - o = (c.1 - 1 - o) + 1 by omega]
      rfl
  · rw [e1] at e
    obtain ⟨a, b⟩ := r4 o k v e
    exact ⟨by show o < c.1 + 1; omega, by rw [gr_al_p (by omega)]; exact b⟩
  · rw [e0]
    show (if o = nn h then 0 else gi h o k) = _
    by_cases e : o = nn h
    · rw [if_pos e, r6 o k (by omega)]
    · rw [if_neg e]; exact r5 o k o1
  · rw [e0]; exact r6 o k (by have : c.1 + 1 ≤ o := o1; omega)
  · show (if o = nn h then 0 else gl h o k) = 0
    rw [r7]; split <;> rfl
  · show us h + n.toNat = cus c.2.1 + n.toNat
    rw [r8]
  · rw [sh_al_p (by omega)]; exact r9
  · rw [← r10]; exact funext fun k => gi_al_p (by omega)
theorem Rep.putI {h0 h : AH} {c : CHp} {o : Nat} {k v : Int} (r : Rep h0 c h) (o1 : 1 ≤ o) (o2 : o < c.1) : Rep h0 (cput c 1 o k v) (si h o k v) := by
  obtain ⟨r1, r2, r3, r4, r5, r6, r7, r8, r9, r10⟩ := r
  have e1 : ∀ p j, cref (cput c 1 o k v).2.2 p j = cref c.2.2 p j := fun p j => by
    show (if (1 : Nat) = 2 ∧ _ then _ else _) = _
    rw [if_neg (fun q => absurd q.1 (by decide))]
  have e0 : ∀ p j, cgi (cput c 1 o k v).2.2 p j = if o = p ∧ k = j then v else cgi c.2.2 p j := fun p j => by
    show (if (1 : Nat) = 1 ∧ o = p ∧ k = j then _ else if (1 : Nat) = 3 ∧ _ then _ else _) = _
    by_cases q : o = p ∧ k = j
    · rw [if_pos ⟨rfl, q⟩, if_pos q]
    · rw [if_neg (fun z => q z.2), if_neg (fun z => absurd z.1 (by decide)), if_neg q]
  refine ⟨r1, r2, r3, fun p j w e => ?_, fun p j p1 => ?_, fun p j p1 => ?_, r7, r8, r9, ?_⟩
  · rw [e1] at e; exact r4 p j w e
  · rw [e0, gi_si_p]
    by_cases q : o = p ∧ k = j
    · rw [if_pos q, if_pos ⟨q.1.symm, q.2.symm⟩]
    · rw [if_neg q, if_neg (fun z => q ⟨z.1.symm, z.2.symm⟩)]; exact r5 p j p1
  · have p1 : c.1 ≤ p := p1
    rw [e0, if_neg (fun q => by omega)]; exact r6 p j p1
  · rw [gi_si_r (by omega)]; exact r10
theorem Rep.putR {h0 h : AH} {c : CHp} {o w : Nat} {k : Int} (r : Rep h0 c h) (o2 : o < c.1) : Rep h0 (cput c 2 o k (w : Int)) (sr h o k (some w)) := by
  obtain ⟨r1, r2, r3, r4, r5, r6, r7, r8, r9, r10⟩ := r
  have e0 : ∀ p j, cgi (cput c 2 o k (w : Int)).2.2 p j = cgi c.2.2 p j := fun p j => by
    show (if (2 : Nat) = 1 ∧ _ then _ else if (2 : Nat) = 3 ∧ _ then _ else _) = _
    rw [if_neg (fun q => absurd q.1 (by decide)), if_neg (fun q => absurd q.1 (by decide))]
  refine ⟨r1, r2, r3, fun p j u e => ?_, fun p j p1 => by rw [e0]; exact r5 p j p1, fun p j p1 => by rw [e0]; exact r6 p j p1, r7, r8, r9, r10⟩
  have e' : (if (2 : Nat) = 2 ∧ o = p ∧ k = j then some ((w : Int).toNat) else cref c.2.2 p j) = some u := e
  by_cases q : o = p ∧ k = j
  · rw [if_pos ⟨rfl, q⟩, Int.toNat_natCast] at e'
    obtain ⟨rfl, rfl⟩ := q
    exact ⟨o2, by rw [gr_sr_e]; exact e'⟩
  · rw [if_neg (fun z => q z.2)] at e'
    obtain ⟨a, b⟩ := r4 p j u e'
    refine ⟨a, ?_⟩
    show (if p = o ∧ j = k then _ else gr h p j) = _
    rw [if_neg (fun z => q ⟨z.1.symm, z.2.symm⟩)]; exact b
theorem Rep.fil {h0 h : AH} {c : CHp} {o : Nat} {n v : Int} (r : Rep h0 c h) (o1 : 1 ≤ o) (o2 : o < c.1) : Rep h0 (cput c 3 o n v) (wI h o (fun j => if 0 ≤ j ∧ j < n then v else gi h o j)) := by
  obtain ⟨r1, r2, r3, r4, r5, r6, r7, r8, r9, r10⟩ := r
  have e1 : ∀ p j, cref (cput c 3 o n v).2.2 p j = cref c.2.2 p j := fun p j => by
    show (if (3 : Nat) = 2 ∧ _ then _ else _) = _
    rw [if_neg (fun q => absurd q.1 (by decide))]
  have e0 : ∀ p j, cgi (cput c 3 o n v).2.2 p j = if o = p ∧ 0 ≤ j ∧ j < n then v else cgi c.2.2 p j := fun p j => by
    show (if (3 : Nat) = 1 ∧ _ then _ else if (3 : Nat) = 3 ∧ o = p ∧ 0 ≤ j ∧ j < n then _ else _) = _
    rw [if_neg (fun q => absurd q.1 (by decide))]
    by_cases q : o = p ∧ 0 ≤ j ∧ j < n
    · rw [if_pos ⟨rfl, q⟩, if_pos q]
    · rw [if_neg (fun z => q z.2), if_neg q]
  refine ⟨r1, r2, r3, fun p j w e => ?_, fun p j p1 => ?_, fun p j p1 => ?_, r7, r8, r9, ?_⟩
  · rw [e1] at e; exact r4 p j w e
  · rw [e0]
    by_cases q : o = p
    · subst q
      rw [gi_wI_e]
      by_cases q2 : 0 ≤ j ∧ j < n
      · rw [if_pos q2, if_pos ⟨rfl, q2⟩]
      · rw [if_neg q2, if_neg (fun z => q2 z.2)]; exact r5 o j p1
    · rw [gi_wI_o (fun z => q z.symm), if_neg (fun z => q z.1)]; exact r5 p j p1
  · have p1 : c.1 ≤ p := p1
    rw [e0, if_neg (fun q => by omega)]; exact r6 p j p1
  · rw [gi_wI_o (by omega)]; exact r10
/-! Arrays.fill -/
theorem si_wI {h : AH} {a : Nat} {f : Int → Int} {i v : Int} : si (wI h a f) a i v = wI h a (fun j => if j = i then v else f j) := by
  refine Prod.ext ?_ rfl
  funext p j
  show (if p = a ∧ j = i then v else (if p = a then f else gi h p) j) = (if p = a then (fun j => if j = i then v else f j) else gi h p) j
  by_cases q : p = a
  · rw [if_pos q, if_pos q]
    by_cases q2 : j = i
    · rw [if_pos ⟨q, q2⟩, if_pos q2]
    · rw [if_neg (fun z => q2 z.2), if_neg q2]
  · rw [if_neg q, if_neg q, if_neg (fun z => q z.1)]
theorem wI_id {h : AH} {a : Nat} : wI h a (gi h a) = h := by
  refine Prod.ext ?_ rfl
  funext p
  show (if p = a then gi h a else gi h p) = gi h p
  split
  · rename_i e; rw [e]
  · rfl
theorem fill_5 {h : AH} {Q : Option AV → AH → Prop} {a : Nat} {n v : Int} (s : sh h a = (0, n)) (hn : 0 ≤ n ∧ n ≤ 1000000) (cont : Q none (wI h a (fun j => if 0 ≤ j ∧ j < n then v else gi h a j))) (m : Nat) : ∀ i : Int, (n - i).toNat = m → 0 ≤ i → i ≤ n → Ok 297 5 [some (vR (some a)), some (vI v), some (vI i), some (vI n)] [] (wI h a (fun j => if 0 ≤ j ∧ j < i then v else gi h a j)) Q := by
  induction m using Nat.strongRecOn with
  | ind m ih =>
    intro i hm i0 i1
    refine ok_iload_n (k := 5) lk_297_5 rfl (ok_iload_n (k := 6) lk_297_6 rfl (ok_icmp_ge (k := 7) lk_297_7 (fun e => ?_) (fun e => ?_)))
    · have : i = n := by omega
      subst this
      exact ok_vret (k := 14) lk_297_14 cont
    · have hsh : sh (wI h a (fun j => if 0 ≤ j ∧ j < i then v else gi h a j)) a = (0, n) := s
      refine ok_aload_n (k := 8) lk_297_8 rfl (ok_iload_n (k := 9) lk_297_9 rfl (ok_iload_n (k := 10) lk_297_10 rfl (ok_iastore (k := 11) lk_297_11 (by rw [hsh]; exact ⟨rfl, i0, by show i < n; omega⟩) ?_)))
      refine ok_iinc (ls2 := [some (vR (some a)), some (vI v), some (vI (i + 1)), some (vI n)]) (k := 12) lk_297_12 rfl ⟨by omega, by omega⟩ rfl (ok_goto (k := 13) lk_297_13 ?_)
      rw [si_wI]
      have e2 : (fun j => if j = i then v else if 0 ≤ j ∧ j < i then v else gi h a j) = (fun j => if 0 ≤ j ∧ j < i + 1 then v else gi h a j) := by
        funext j
        by_cases q : j = i
        · rw [if_pos q, if_pos (by omega)]
        · rw [if_neg q]
          by_cases q2 : 0 ≤ j ∧ j < i
          · rw [if_pos q2, if_pos (by omega)]
          · rw [if_neg q2, if_neg (by omega)]
      rw [e2]
      exact ih (n - (i + 1)).toNat (by omega) (i + 1) rfl (by omega) (by omega)
theorem fill_ok {h : AH} {Q : Option AV → AH → Prop} {a : Nat} {n v : Int} (s : sh h a = (0, n)) (hn : 0 ≤ n ∧ n ≤ 1000000) (cont : Q none (wI h a (fun j => if 0 ≤ j ∧ j < n then v else gi h a j))) : Ok 297 0 [some (vR (some a)), some (vI v), none, none] [] h Q := by
  refine ok_iconst (k := 0) lk_297_0 (ok_istore_n (ls2 := [some (vR (some a)), some (vI v), some (vI 0), none]) (k := 1) lk_297_1 rfl (ok_aload_n (k := 2) lk_297_2 rfl (ok_alen (k := 3) lk_297_3 (by rw [s]; show 0 < 10; decide) (ok_istore_n (ls2 := [some (vR (some a)), some (vI v), some (vI 0), some (vI ((sh h a).2))]) (k := 4) lk_297_4 rfl ?_))))
  rw [s]
  have := fill_5 (v := v) s hn cont _ 0 rfl (by decide) hn.1
  have e : (fun j => if 0 ≤ j ∧ j < 0 then v else gi h a j) = gi h a := by
    funext j
    rw [if_neg (by omega)]
  rw [e, wI_id] at this
  exact this
