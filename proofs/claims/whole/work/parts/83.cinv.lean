/-! THE CLASS'S INVARIANT -/
/-- finds by their numbers: T id (-3) kind, (-2) mark, (-1) how many numbers, then these -/
abbrev FD : Type := Int → Int → Int
/-- what the slot k of D holds is the find id of T (of m made) -/
def SlotR (T : FD) (m id : Int) (D : DD) (k : Int) : Prop := (D 112 k = -5 ∧ id = -1) ∨ (0 ≤ id ∧ id < m ∧ 0 ≤ D 112 k ∧ T id (-3) = D 112 k ∧ T id (-2) = D 113 k ∧ (D 112 k = 0 → T id (-1) = 8 ∧ ∀ i, In 8 i → T id i = D 116 (8 * k + i)) ∧
  (D 112 k = 1 ∨ D 112 k = 2 → T id (-1) = 2 ∧ T id 0 = D 114 k ∧ T id 1 = D 115 k) ∧ (D 112 k = 3 → T id (-1) = D 114 k ∧ ∀ i, In (D 114 k) i → T id i = D 117 (40 * k + i)) ∧ (D 112 k = 4 → T id (-1) = 1 ∧ T id 0 = D 114 k))
/-- the columns S say what D says: units -/
def RCu (S D : DD) : Prop := S 20 0 = D 99 1 ∧ ∀ u, In (D 99 1) u → S 10 u = D 100 u ∧ S 12 u = D 101 u ∧ S 14 u = D 103 u ∧ S 16 u = D 104 u ∧ 0 ≤ S 18 u ∧ S 18 u ≤ u ∧ (S 18 u = u → D 102 u = u) ∧ (S 18 u ≠ u → D 102 u = D 102 (S 18 u))
def RCr (S D : DD) : Prop := S 46 0 = D 99 7 ∧ ∀ r, In (D 99 7) r → S 40 r = D 105 r ∧ S 42 r = D 106 r ∧ S 44 r = D 107 r
/-- where tray t lies -/
def Plc (S D : DD) (t : Int) : Prop := (S 56 t = -1 ∧ D 110 t = -5) ∨ (In 2400 (S 56 t) ∧ In (D 99 11) (S 56 t / 40) ∧ (S 54 (S 56 t / 40) = 1 → D 110 t = -5) ∧ (S 54 (S 56 t / 40) = 0 → D 110 t = S 56 t / 40 ∧ D 111 t = S 56 t % 40))
def RCt (S D : DD) : Prop := S 64 0 = D 99 11 ∧ (∀ t, In (D 99 11) t → S 50 t = D 108 t ∧ (S 54 t = 1 ∧ D 109 t = -1 ∨ S 54 t = 0 ∧ 0 ≤ S 52 t ∧ S 52 t = D 109 t) ∧ Plc S D t) ∧ (∀ t, D 99 11 ≤ t → t < 60 → S 50 t = -5 ∧ S 52 t = 0 ∧ S 54 t = 0 ∧ S 56 t = -1)
def RCs (S : DD) (T : FD) (D : DD) : Prop := 0 ≤ S 68 0 ∧ (∀ t s, In (D 99 11) t → In (D 109 t) s → SlotR T (S 68 0) (S 58 (40 * t + s)) D (40 * t + s)) ∧ ∀ t s, In 60 t → In 40 s → (D 99 11 ≤ t ∨ S 54 t = 0 ∧ D 109 t ≤ s) → S 58 (40 * t + s) = -1
def RCj (S D : DD) : Prop := S 66 0 = D 99 22 ∧ ∀ j, In (D 99 22) j → S 60 j = D 118 j ∧ S 62 j = D 119 j
def RC (S : DD) (T : FD) (D : DD) : Prop := RCu S D ∧ RCr S D ∧ RCt S D ∧ RCs S T D ∧ RCj S D
/-- find object o with the numbers t -/
def isSm (t : Int → Int) : Prop := t (-3) = 2 ∧ t (-1) = 2 ∧ iAnd (t 0) 2139095040 ≠ 2139095040 ∧ iAnd (t 1) 2139095040 ≠ 2139095040 ∧ (0 ≤ t 1 ∨ iAnd (t 1) 2147483647 = 0)
def FO (h : AH) (G : Nat → Prop) (o : Nat) (t : Int → Int) : Prop := G o ∧ sh h o = (13, 6) ∧ gi h o 0 = t (-3) ∧ gi h o 1 = t (-2) ∧ (∃ a, gr h o 2 = some a ∧ G a ∧ sh h a = (0, t (-1)) ∧ ∀ i, In (t (-1)) i → gi h a i = t i) ∧
  (isSm t → gi h o 3 = 1 ∧ gf h o 4 = uB (t 0) ∧ gf h o 5 = uB (t 1)) ∧ (¬ isSm t → gi h o 3 = 0)
def FTo (h : AH) (G : Nat → Prop) (T : FD) (m : Int) : Prop := ∀ id, In m id → 0 ≤ T id (-1) ∧ T id (-1) ≤ 40 ∧ ∃ o, gr h 48 id = some o ∧ FO h G o (T id)
/-- the log of n acts: E j entries after j of them -/
def Lg (h : AH) (n : Nat) (Ss : Nat → DD) (E : Nat → Int) (L : Int → Nat × Int × Int) : Prop := n ≤ 300 ∧ E 0 = 0 ∧ Ss 0 68 0 = 0 ∧ ∀ j, j < n → gi h 3 j = E (j + 1) ∧ Snc L (E j) (E (j + 1)) (Ss (j + 1)) (Ss j) ∧ E (j + 1) ≤ E j + 40 ∧ Ss j 68 0 ≤ Ss (j + 1) 68 0 ∧ Ss (j + 1) 68 0 ≤ Ss j 68 0 + 1
/-! how many orders -/
def bfD (D : DD) (i j : Nat) : Prop := ∃ a b, In (D 99 1) a ∧ D 102 a = a ∧ cnt (bn D) a.toNat = i ∧ In (D 99 1) b ∧ D 102 b = b ∧ cnt (bn D) b.toNat = j ∧ Rch (D 99 7) (dla D) (dea D) a b
noncomputable def wyC (bf : Nat → Nat → Prop) (m : Nat) : Nat → (Nat → Prop) → Int
  | 0, _ => 1
  | k + 1, s => sm (fun i => @ite _ (s i.toNat ∧ (∀ j, bf i.toNat j → s j ∧ j ≠ i.toNat)) (Classical.propDecidable _) (wyC bf m k (fun x => s x ∧ x ≠ i.toNat)) 0) m
noncomputable def nOrd (D : DD) : Int := wyC (bfD D) (nBlk D) (nBlk D) (fun i => i < nBlk D)
/-! what is kept, and by which edition -/
def lbit (x : Int) (k : Nat) : Bool := (BitVec.ofInt 64 x).getLsbD k
def CaU (h : AH) (D : DD) : Prop := gi h 7 9 ≤ gi h 7 8 ∧ (gi h 7 9 = gi h 7 8 → (∀ u, In (D 99 1) u → gi h 8 u = D 102 u) ∧ gi h 7 7 = nBlk D)
/-- members by keys: those of b from begins b on, in order -/
def Grp (n R : Int) (key bg mb : Int → Int) : Prop := (∀ b, 0 ≤ b → b ≤ n → bg b = (cnt (fun q => decide (key q < b)) R.toNat : Nat)) ∧ ∀ r, In R r → mb ((cnt (fun q => decide (key q < key r)) R.toNat : Nat) + (cnt (fun q => decide (key q = key r)) r.toNat : Nat)) = r
def WebOk (h : AH) (D : DD) : Prop := (∀ r, In (D 99 7) r → gi h 22 r = dla D r ∧ gi h 23 r = dea D r) ∧ Grp (D 99 1) (D 99 7) (dla D) (gi h 25) (gi h 24) ∧ Grp (D 99 1) (D 99 7) (dea D) (gi h 27) (gi h 26) ∧ Long (D 99 1) (D 99 7) (dla D) (dea D) (gi h 28) ∧
  (∀ a b, In (D 99 1) a → In (D 99 1) b → (lbit (gl h (if b < 64 then 32 else 33) a) (b % 64).toNat = true ↔ Rch (D 99 7) (dla D) (dea D) a b)) ∧ (∀ r, In (D 99 7) r → gi h 37 r = if dnd D r then 0 else 1) ∧ (∀ r, In (D 99 7) r → dnd D r = true → gi h 38 (cnt (dnd D) r.toNat) = r) ∧ gi h 21 18 = cnt (dnd D) (D 99 7).toNat
def CaW (h : AH) (D : DD) : Prop := gi h 21 19 ≤ gi h 7 8 ∧ (gi h 21 19 = gi h 7 8 → WebOk h D)
def YrOk (h : AH) (D : DD) : Prop := (∀ u, In (D 99 1) u → gi h 74 u = dts D 129 u ∧ gi h 75 u = dts D 130 u ∧ gi h 76 u = dts D 131 u ∧ gi h 77 u = dts D 129 (100 + u) ∧ gi h 78 u = dts D 130 (100 + u) ∧ gi h 79 u = dts D 131 (100 + u)) ∧ ∀ b, In (D 99 1) b → D 102 b = b → Best D (dts D) 0 b (gi h 80 b) ∧ Best D (dts D) 1 b (gi h 81 b)
def QrOk (h : AH) (D : DD) : Prop := (gi h 73 16 = -5 ∧ ∀ a b d, ¬ Qd D (dts D) a b d) ∨ (0 ≤ gi h 73 16 ∧ ∃ d f, IsQ D (dts D) (gi h 73 16) (gi h 73 17) d ∧ gi h 82 1 = d ∧ Far (D 99 1) (D 99 7) (dla D) (dea D) (gi h 73 16) f ∧ f (gi h 73 17) = d ∧ PathR (D 99 7) (dla D) (dea D) f d.toNat (gi h 73 17) (gi h 83) 0)
def CaY (h : AH) (D : DD) : Prop := gi h 73 14 ≤ gi h 2 6 ∧ gi h 73 15 ≤ gi h 73 14 ∧ (gi h 73 14 = gi h 2 6 → YrOk h D ∧ (gi h 73 15 = gi h 73 14 → QrOk h D))
def SeqOk (h : AH) (D : DD) : Prop := nBlk D ≤ 16 ∧ gi h 86 6 = nBlk D ∧ (∀ u, In (D 99 1) u → D 102 u = u → gi h 87 (cnt (bn D) u.toNat) = u ∧ gi h 88 u = cnt (bn D) u.toNat) ∧ (∀ i : Int, In (nBlk D) i → 0 ≤ gi h 89 i ∧ (gi h 89 i).toNat < 2 ^ nBlk D) ∧
  ∀ a b, In (D 99 1) a → D 102 a = a → In (D 99 1) b → D 102 b = b → ((gi h 89 (cnt (bn D) a.toNat)).toNat.testBit (cnt (bn D) b.toNat) = true ↔ ∃ r, In (D 99 7) r ∧ dla D r = a ∧ dea D r = b)
def CaS (h : AH) (D : DD) : Prop := gi h 86 7 ≤ gi h 7 8 ∧ gi h 86 8 ≤ gi h 7 8 ∧ gi h 86 9 ≤ gi h 7 8 ∧ (gi h 86 7 = gi h 7 8 → SeqOk h D) ∧ (gi h 86 9 = gi h 7 8 → gl h 86 10 = nOrd D)
def Ca (h : AH) (D : DD) : Prop := CaU h D ∧ CaW h D ∧ CaY h D ∧ CaS h D
/-- what else answers show -/
def CZ (h : AH) (D Z : DD) : Prop := (∀ k, 1 ≤ k → k ≤ 6 → gi h 98 (k - 1) = Z 120 k) ∧ gi h 1 11 = Z 99 27 ∧ gi h 1 10 = Z 99 28 ∧ gi h 69 1 = Z 99 29 ∧ (∀ i, In (Z 99 29) i → gi h 70 i = Z 121 i) ∧ gi h 94 1 = Z 99 31 ∧ (∀ i, In (Z 99 31) i → gi h 95 i = Z 122 i) ∧
  (Z 99 48 = 1 ↔ gi h 86 8 = gi h 7 8) ∧ (Z 99 48 = 1 → gi h 86 7 = gi h 7 8 ∧ ∀ i : Int, In (nBlk D) i → gi h 90 i = Z 134 i ∧ In (nBlk D) (Z 134 i))
def isP2 (K : Int) : Prop := ∃ t : Nat, K = 2 ^ t
/-- numbers in their room, after c calls -/
def CR (h : AH) (G : Nat → Prop) (w c : Int) : Prop := (0 ≤ gi h 7 8 ∧ gi h 7 8 ≤ c) ∧ (0 ≤ gi h 2 6 ∧ gi h 2 6 ≤ c) ∧ (nn h : Int) ≤ 136 + 150 * c ∧ ∃ (x : Nat) (K : Int), gr h 86 13 = some x ∧ (x = 93 ∨ 136 ≤ x) ∧ x < nn h ∧ ¬ G x ∧ sh h x = (2, K) ∧ 16 ≤ K ∧ (K ≤ 65536 ∧ isP2 K) ∧ w ≤ 500000 + 2000 * c + 2 * K
def CInv (h : AH) (n : Nat) (Ds : Nat → DD) (Z : DD) (c : Int) : Prop := ∃ (G : Nat → Prop) (Ss : Nat → DD) (T : FD) (E : Nat → Int) (L : Int → Nat × Int × Int) (w : Int),
  CL h G (Ss n) (E n) L w ∧ gi h 2 1 = n ∧ Lg h n Ss E L ∧ (∀ j, j ≤ n → RC (Ss j) T (Ds j)) ∧ FTo h G T (Ss n 68 0) ∧ CZ h (Ds n) Z ∧ Ca h (Ds n) ∧ CR h G w c
