/-! THE LAW'S CASES (generated: gen/lawgen.py) -/
abbrev lwl (i : Int) : aLs := [some (vR (some 0)), some (vR (some 1)), some (vR (some 99)), some (vI i)]
def Scr (h : AH) (L : Int) (s : Int → Int) : Prop := sh h 0 = (9, L) ∧ gi h 0 = s
theorem Scr.nx {h h' : AH} {L : Int} {s : Int → Int} (S : Scr h L s) (p : P0 h h') (hF : Fix h) : Scr h' L s := by
  obtain ⟨a, b⟩ := p.2.2 (Nat.le_trans (by decide) hF.2.2) (by rw [S.1])
  exact ⟨a.trans S.1, b.trans S.2⟩
theorem l2_rng (f : Int64 → Int64 → Int64) (x y : Int) : R64 (l2 f x y) := i64_rng _
theorem lw_arg {h : AH} {L i m : Int} {s : Int → Int} {st : aSt} {Q : Option AV → AH → Prop} {k p0 p1 p2 p3 p4 r0 r1 r2 r3 r4 : Nat} {z0 z1 z2 z3 z4 : Int} (c0 : nth (cd 299) k = some (p0, .aload_n 0, r0, z0)) (c1 : nth (cd 299) (k + 1) = some (p1, .iload_n 3, r1, z1)) (c2 : nth (cd 299) (k + 2) = some (p2, .iconst m, r2, z2)) (c3 : nth (cd 299) (k + 3) = some (p3, .iadd, r3, z3)) (c4 : nth (cd 299) (k + 4) = some (p4, .iaload, r4, z4))
    (S : Scr h L s) (hi : 0 ≤ i ∧ i + 6 ≤ L ∧ L ≤ 3072) (hm : 1 ≤ m ∧ m ≤ 5) (o : Ok 299 (k + 5) (lwl i) (vI (s (i + m)) :: st) h Q) : Ok 299 k (lwl i) st h Q := by
  refine ok_aload_n c0 rfl (ok_iload_n c1 rfl (ok_iconst c2 (ok_iadd c3 ⟨by omega, by omega⟩ (ok_iaload c4 ⟨Or.inr (by rw [S.1]), by omega, by rw [S.1]; show i + m < L; omega⟩ ?_))))
  rw [S.2]
  exact o
set_option maxRecDepth 20000 in
theorem lc_unit {h : AH} {L c i : Int} {s : Int → Int} {Q : Option AV → AH → Prop} (S : Scr h L s) (hi : 0 ≤ i ∧ i + 6 ≤ L ∧ L ≤ 3072) (hs : ∀ k, R32 (s k)) (hc : c ≤ 600) {n : Nat} {Ds : Nat → DD} {Z : DD} (j : JI h n Ds Z c) (K : ∀ h2, Scr h2 L s → (∃ n Ds Z, JI h2 n Ds Z (c + 1)) → Ok 299 1293 (lwl i) [] h2 Q) : Ok 299 22 (lwl i) [] h Q := by
  refine ok_aload_n (k := 22) lk_299_22 rfl ?_
  refine lw_arg (k := 23) lk_299_23 lk_299_24 lk_299_25 lk_299_26 lk_299_27 S hi (by decide) ?_
  refine lw_arg (k := 28) lk_299_28 lk_299_29 lk_299_30 lk_299_31 lk_299_32 S hi (by decide) ?_
  refine ok_cvirtual (k := 33) lk_299_33 (Nat.le_of_ble_eq_true rfl) (as := [vR (some 1), vI (s (i + 1)), vI (s (i + 2))]) (s := []) (ls0 := [some (vR (some 1)), some (vI (s (i + 1))), some (vI (s (i + 2)))]) rfl ⟨Nat.le_of_ble_eq_true rfl, Nat.le_of_ble_eq_true rfl, rcv_of (c := 11) rfl (congrArg Prod.fst (fs_1 j.1))⟩ rfl ?_
  refine Ok.mono (Ok.ps (b_unit j hc)) (fun v h1 H => ?_)
  obtain ⟨⟨x, rfl, H⟩, p0, ps⟩ := H
  have S1 := S.nx p0 j.1
  show Ok 299 34 (lwl i) [vI x] h1 _
  refine ok_aload_n (k := 34) lk_299_34 rfl ?_
  refine lw_arg (k := 35) lk_299_35 lk_299_36 lk_299_37 lk_299_38 lk_299_39 S1 hi (by decide) ?_
  refine lw_arg (k := 40) lk_299_40 lk_299_41 lk_299_42 lk_299_43 lk_299_44 S1 hi (by decide) ?_
  refine ok_cvirtual (k := 45) lk_299_45 (Nat.le_of_ble_eq_true rfl) (as := [vR (some 99), vI (s (i + 1)), vI (s (i + 2))]) (s := [vI x]) (ls0 := [some (vR (some 99)), some (vI (s (i + 1))), some (vI (s (i + 2)))]) rfl ⟨Nat.le_of_ble_eq_true rfl, Nat.le_of_ble_eq_true rfl, rcv_of (c := 12) rfl (congrArg Prod.fst ((ps.2 99 (Nat.lt_of_lt_of_le (by decide) j.1.2.2)).trans (fs_99 j.1)))⟩ rfl ?_
  refine Ok.mono H (fun v h2 H => ?_)
  obtain ⟨rfl, p02, j2⟩ := H
  show Ok 299 46 (lwl i) [vI x, vI x] h2 _
  exact ok_icmp_eq (k := 46) lk_299_46 (fun _ => K h2 (S.nx p02 j.1) j2) (fun e => absurd rfl e)
set_option maxRecDepth 20000 in
theorem lc_asks {h : AH} {L c i : Int} {s : Int → Int} {Q : Option AV → AH → Prop} (S : Scr h L s) (hi : 0 ≤ i ∧ i + 6 ≤ L ∧ L ≤ 3072) (hs : ∀ k, R32 (s k)) (hc : c ≤ 600) {n : Nat} {Ds : Nat → DD} {Z : DD} (j : JI h n Ds Z c) (K : ∀ h2, Scr h2 L s → (∃ n Ds Z, JI h2 n Ds Z (c + 1)) → Ok 299 1293 (lwl i) [] h2 Q) : Ok 299 49 (lwl i) [] h Q := by
  refine ok_aload_n (k := 49) lk_299_49 rfl ?_
  refine lw_arg (k := 50) lk_299_50 lk_299_51 lk_299_52 lk_299_53 lk_299_54 S hi (by decide) ?_
  refine lw_arg (k := 55) lk_299_55 lk_299_56 lk_299_57 lk_299_58 lk_299_59 S hi (by decide) ?_
  refine ok_cvirtual (k := 60) lk_299_60 (Nat.le_of_ble_eq_true rfl) (as := [vR (some 1), vI (s (i + 1)), vI (s (i + 2))]) (s := []) (ls0 := [some (vR (some 1)), some (vI (s (i + 1))), some (vI (s (i + 2))), none]) rfl ⟨Nat.le_of_ble_eq_true rfl, Nat.le_of_ble_eq_true rfl, rcv_of (c := 11) rfl (congrArg Prod.fst (fs_1 j.1))⟩ rfl ?_
  refine Ok.mono (Ok.ps (b_asks j hc)) (fun v h1 H => ?_)
  obtain ⟨⟨x, rfl, H⟩, p0, ps⟩ := H
  have S1 := S.nx p0 j.1
  show Ok 299 61 (lwl i) [vI x] h1 _
  refine ok_aload_n (k := 61) lk_299_61 rfl ?_
  refine lw_arg (k := 62) lk_299_62 lk_299_63 lk_299_64 lk_299_65 lk_299_66 S1 hi (by decide) ?_
  refine lw_arg (k := 67) lk_299_67 lk_299_68 lk_299_69 lk_299_70 lk_299_71 S1 hi (by decide) ?_
  refine ok_cvirtual (k := 72) lk_299_72 (Nat.le_of_ble_eq_true rfl) (as := [vR (some 99), vI (s (i + 1)), vI (s (i + 2))]) (s := [vI x]) (ls0 := [some (vR (some 99)), some (vI (s (i + 1))), some (vI (s (i + 2)))]) rfl ⟨Nat.le_of_ble_eq_true rfl, Nat.le_of_ble_eq_true rfl, rcv_of (c := 12) rfl (congrArg Prod.fst ((ps.2 99 (Nat.lt_of_lt_of_le (by decide) j.1.2.2)).trans (fs_99 j.1)))⟩ rfl ?_
  refine Ok.mono H (fun v h2 H => ?_)
  obtain ⟨rfl, p02, j2⟩ := H
  show Ok 299 73 (lwl i) [vI x, vI x] h2 _
  exact ok_icmp_eq (k := 73) lk_299_73 (fun _ => K h2 (S.nx p02 j.1) j2) (fun e => absurd rfl e)
set_option maxRecDepth 20000 in
theorem lc_asked {h : AH} {L c i : Int} {s : Int → Int} {Q : Option AV → AH → Prop} (S : Scr h L s) (hi : 0 ≤ i ∧ i + 6 ≤ L ∧ L ≤ 3072) (hs : ∀ k, R32 (s k)) (hc : c ≤ 600) {n : Nat} {Ds : Nat → DD} {Z : DD} (j : JI h n Ds Z c) (K : ∀ h2, Scr h2 L s → (∃ n Ds Z, JI h2 n Ds Z (c + 1)) → Ok 299 1293 (lwl i) [] h2 Q) : Ok 299 76 (lwl i) [] h Q := by
  refine ok_aload_n (k := 76) lk_299_76 rfl ?_
  refine ok_cvirtual (k := 77) lk_299_77 (Nat.le_of_ble_eq_true rfl) (as := [vR (some 1)]) (s := []) (ls0 := [some (vR (some 1))]) rfl ⟨Nat.le_of_ble_eq_true rfl, Nat.le_of_ble_eq_true rfl, rcv_of (c := 11) rfl (congrArg Prod.fst (fs_1 j.1))⟩ rfl ?_
  refine Ok.mono (Ok.ps (b_asked j)) (fun v h1 H => ?_)
  obtain ⟨⟨x, rfl, H⟩, p0, ps⟩ := H
  have S1 := S.nx p0 j.1
  show Ok 299 78 (lwl i) [vI x] h1 _
  refine ok_aload_n (k := 78) lk_299_78 rfl ?_
  refine ok_cvirtual (k := 79) lk_299_79 (Nat.le_of_ble_eq_true rfl) (as := [vR (some 99)]) (s := [vI x]) (ls0 := [some (vR (some 99))]) rfl ⟨Nat.le_of_ble_eq_true rfl, Nat.le_of_ble_eq_true rfl, rcv_of (c := 12) rfl (congrArg Prod.fst ((ps.2 99 (Nat.lt_of_lt_of_le (by decide) j.1.2.2)).trans (fs_99 j.1)))⟩ rfl ?_
  refine Ok.mono H (fun v h2 H => ?_)
  obtain ⟨rfl, p02, j2⟩ := H
  show Ok 299 80 (lwl i) [vI x, vI x] h2 _
  exact ok_icmp_eq (k := 80) lk_299_80 (fun _ => K h2 (S.nx p02 j.1) j2) (fun e => absurd rfl e)
set_option maxRecDepth 20000 in
theorem lc_trace {h : AH} {L c i : Int} {s : Int → Int} {Q : Option AV → AH → Prop} (S : Scr h L s) (hi : 0 ≤ i ∧ i + 6 ≤ L ∧ L ≤ 3072) (hs : ∀ k, R32 (s k)) (hc : c ≤ 600) {n : Nat} {Ds : Nat → DD} {Z : DD} (j : JI h n Ds Z c) (K : ∀ h2, Scr h2 L s → (∃ n Ds Z, JI h2 n Ds Z (c + 1)) → Ok 299 1293 (lwl i) [] h2 Q) : Ok 299 83 (lwl i) [] h Q := by
  refine ok_aload_n (k := 83) lk_299_83 rfl ?_
  refine lw_arg (k := 84) lk_299_84 lk_299_85 lk_299_86 lk_299_87 lk_299_88 S hi (by decide) ?_
  refine ok_cvirtual (k := 89) lk_299_89 (Nat.le_of_ble_eq_true rfl) (as := [vR (some 1), vI (s (i + 1))]) (s := []) (ls0 := [some (vR (some 1)), some (vI (s (i + 1)))]) rfl ⟨Nat.le_of_ble_eq_true rfl, Nat.le_of_ble_eq_true rfl, rcv_of (c := 11) rfl (congrArg Prod.fst (fs_1 j.1))⟩ rfl ?_
  refine Ok.mono (Ok.ps (b_trace j)) (fun v h1 H => ?_)
  obtain ⟨⟨x, rfl, H⟩, p0, ps⟩ := H
  have S1 := S.nx p0 j.1
  show Ok 299 90 (lwl i) [vI x] h1 _
  refine ok_aload_n (k := 90) lk_299_90 rfl ?_
  refine lw_arg (k := 91) lk_299_91 lk_299_92 lk_299_93 lk_299_94 lk_299_95 S1 hi (by decide) ?_
  refine ok_cvirtual (k := 96) lk_299_96 (Nat.le_of_ble_eq_true rfl) (as := [vR (some 99), vI (s (i + 1))]) (s := [vI x]) (ls0 := [some (vR (some 99)), some (vI (s (i + 1)))]) rfl ⟨Nat.le_of_ble_eq_true rfl, Nat.le_of_ble_eq_true rfl, rcv_of (c := 12) rfl (congrArg Prod.fst ((ps.2 99 (Nat.lt_of_lt_of_le (by decide) j.1.2.2)).trans (fs_99 j.1)))⟩ rfl ?_
  refine Ok.mono H (fun v h2 H => ?_)
  obtain ⟨rfl, p02, j2⟩ := H
  show Ok 299 97 (lwl i) [vI x, vI x] h2 _
  exact ok_icmp_eq (k := 97) lk_299_97 (fun _ => K h2 (S.nx p02 j.1) j2) (fun e => absurd rfl e)
set_option maxRecDepth 20000 in
theorem lc_above {h : AH} {L c i : Int} {s : Int → Int} {Q : Option AV → AH → Prop} (S : Scr h L s) (hi : 0 ≤ i ∧ i + 6 ≤ L ∧ L ≤ 3072) (hs : ∀ k, R32 (s k)) (hc : c ≤ 600) {n : Nat} {Ds : Nat → DD} {Z : DD} (j : JI h n Ds Z c) (K : ∀ h2, Scr h2 L s → (∃ n Ds Z, JI h2 n Ds Z (c + 1)) → Ok 299 1293 (lwl i) [] h2 Q) : Ok 299 100 (lwl i) [] h Q := by
  refine ok_aload_n (k := 100) lk_299_100 rfl ?_
  refine lw_arg (k := 101) lk_299_101 lk_299_102 lk_299_103 lk_299_104 lk_299_105 S hi (by decide) ?_
  refine lw_arg (k := 106) lk_299_106 lk_299_107 lk_299_108 lk_299_109 lk_299_110 S hi (by decide) ?_
  refine ok_cvirtual (k := 111) lk_299_111 (Nat.le_of_ble_eq_true rfl) (as := [vR (some 1), vI (s (i + 1)), vI (s (i + 2))]) (s := []) (ls0 := [some (vR (some 1)), some (vI (s (i + 1))), some (vI (s (i + 2)))]) rfl ⟨Nat.le_of_ble_eq_true rfl, Nat.le_of_ble_eq_true rfl, rcv_of (c := 11) rfl (congrArg Prod.fst (fs_1 j.1))⟩ rfl ?_
  refine Ok.mono (Ok.ps (b_above j hc)) (fun v h1 H => ?_)
  obtain ⟨⟨x, rfl, H⟩, p0, ps⟩ := H
  have S1 := S.nx p0 j.1
  show Ok 299 112 (lwl i) [vI x] h1 _
  refine ok_aload_n (k := 112) lk_299_112 rfl ?_
  refine lw_arg (k := 113) lk_299_113 lk_299_114 lk_299_115 lk_299_116 lk_299_117 S1 hi (by decide) ?_
  refine lw_arg (k := 118) lk_299_118 lk_299_119 lk_299_120 lk_299_121 lk_299_122 S1 hi (by decide) ?_
  refine ok_cvirtual (k := 123) lk_299_123 (Nat.le_of_ble_eq_true rfl) (as := [vR (some 99), vI (s (i + 1)), vI (s (i + 2))]) (s := [vI x]) (ls0 := [some (vR (some 99)), some (vI (s (i + 1))), some (vI (s (i + 2)))]) rfl ⟨Nat.le_of_ble_eq_true rfl, Nat.le_of_ble_eq_true rfl, rcv_of (c := 12) rfl (congrArg Prod.fst ((ps.2 99 (Nat.lt_of_lt_of_le (by decide) j.1.2.2)).trans (fs_99 j.1)))⟩ rfl ?_
  refine Ok.mono H (fun v h2 H => ?_)
  obtain ⟨rfl, p02, j2⟩ := H
  show Ok 299 124 (lwl i) [vI x, vI x] h2 _
  exact ok_icmp_eq (k := 124) lk_299_124 (fun _ => K h2 (S.nx p02 j.1) j2) (fun e => absurd rfl e)
set_option maxRecDepth 20000 in
theorem lc_cut {h : AH} {L c i : Int} {s : Int → Int} {Q : Option AV → AH → Prop} (S : Scr h L s) (hi : 0 ≤ i ∧ i + 6 ≤ L ∧ L ≤ 3072) (hs : ∀ k, R32 (s k)) (hc : c ≤ 600) {n : Nat} {Ds : Nat → DD} {Z : DD} (j : JI h n Ds Z c) (K : ∀ h2, Scr h2 L s → (∃ n Ds Z, JI h2 n Ds Z (c + 1)) → Ok 299 1293 (lwl i) [] h2 Q) : Ok 299 127 (lwl i) [] h Q := by
  refine ok_aload_n (k := 127) lk_299_127 rfl ?_
  refine lw_arg (k := 128) lk_299_128 lk_299_129 lk_299_130 lk_299_131 lk_299_132 S hi (by decide) ?_
  refine lw_arg (k := 133) lk_299_133 lk_299_134 lk_299_135 lk_299_136 lk_299_137 S hi (by decide) ?_
  refine ok_cvirtual (k := 138) lk_299_138 (Nat.le_of_ble_eq_true rfl) (as := [vR (some 1), vI (s (i + 1)), vI (s (i + 2))]) (s := []) (ls0 := [some (vR (some 1)), some (vI (s (i + 1))), some (vI (s (i + 2)))]) rfl ⟨Nat.le_of_ble_eq_true rfl, Nat.le_of_ble_eq_true rfl, rcv_of (c := 11) rfl (congrArg Prod.fst (fs_1 j.1))⟩ rfl ?_
  refine Ok.mono (Ok.ps (b_cut j hc)) (fun v h1 H => ?_)
  obtain ⟨⟨x, rfl, H⟩, p0, ps⟩ := H
  have S1 := S.nx p0 j.1
  show Ok 299 139 (lwl i) [vI x] h1 _
  refine ok_aload_n (k := 139) lk_299_139 rfl ?_
  refine lw_arg (k := 140) lk_299_140 lk_299_141 lk_299_142 lk_299_143 lk_299_144 S1 hi (by decide) ?_
  refine lw_arg (k := 145) lk_299_145 lk_299_146 lk_299_147 lk_299_148 lk_299_149 S1 hi (by decide) ?_
  refine ok_cvirtual (k := 150) lk_299_150 (Nat.le_of_ble_eq_true rfl) (as := [vR (some 99), vI (s (i + 1)), vI (s (i + 2))]) (s := [vI x]) (ls0 := [some (vR (some 99)), some (vI (s (i + 1))), some (vI (s (i + 2)))]) rfl ⟨Nat.le_of_ble_eq_true rfl, Nat.le_of_ble_eq_true rfl, rcv_of (c := 12) rfl (congrArg Prod.fst ((ps.2 99 (Nat.lt_of_lt_of_le (by decide) j.1.2.2)).trans (fs_99 j.1)))⟩ rfl ?_
  refine Ok.mono H (fun v h2 H => ?_)
  obtain ⟨rfl, p02, j2⟩ := H
  show Ok 299 151 (lwl i) [vI x, vI x] h2 _
  exact ok_icmp_eq (k := 151) lk_299_151 (fun _ => K h2 (S.nx p02 j.1) j2) (fun e => absurd rfl e)
set_option maxRecDepth 20000 in
theorem lc_fill {h : AH} {L c i : Int} {s : Int → Int} {Q : Option AV → AH → Prop} (S : Scr h L s) (hi : 0 ≤ i ∧ i + 6 ≤ L ∧ L ≤ 3072) (hs : ∀ k, R32 (s k)) (hc : c ≤ 600) {n : Nat} {Ds : Nat → DD} {Z : DD} (j : JI h n Ds Z c) (K : ∀ h2, Scr h2 L s → (∃ n Ds Z, JI h2 n Ds Z (c + 1)) → Ok 299 1293 (lwl i) [] h2 Q) : Ok 299 154 (lwl i) [] h Q := by
  refine ok_aload_n (k := 154) lk_299_154 rfl ?_
  refine lw_arg (k := 155) lk_299_155 lk_299_156 lk_299_157 lk_299_158 lk_299_159 S hi (by decide) ?_
  refine lw_arg (k := 160) lk_299_160 lk_299_161 lk_299_162 lk_299_163 lk_299_164 S hi (by decide) ?_
  refine ok_cvirtual (k := 165) lk_299_165 (Nat.le_of_ble_eq_true rfl) (as := [vR (some 1), vI (s (i + 1)), vI (s (i + 2))]) (s := []) (ls0 := [some (vR (some 1)), some (vI (s (i + 1))), some (vI (s (i + 2)))]) rfl ⟨Nat.le_of_ble_eq_true rfl, Nat.le_of_ble_eq_true rfl, rcv_of (c := 11) rfl (congrArg Prod.fst (fs_1 j.1))⟩ rfl ?_
  refine Ok.mono (Ok.ps (b_fill j hc)) (fun v h1 H => ?_)
  obtain ⟨⟨x, rfl, H⟩, p0, ps⟩ := H
  have S1 := S.nx p0 j.1
  show Ok 299 166 (lwl i) [vI x] h1 _
  refine ok_aload_n (k := 166) lk_299_166 rfl ?_
  refine lw_arg (k := 167) lk_299_167 lk_299_168 lk_299_169 lk_299_170 lk_299_171 S1 hi (by decide) ?_
  refine lw_arg (k := 172) lk_299_172 lk_299_173 lk_299_174 lk_299_175 lk_299_176 S1 hi (by decide) ?_
  refine ok_cvirtual (k := 177) lk_299_177 (Nat.le_of_ble_eq_true rfl) (as := [vR (some 99), vI (s (i + 1)), vI (s (i + 2))]) (s := [vI x]) (ls0 := [some (vR (some 99)), some (vI (s (i + 1))), some (vI (s (i + 2)))]) rfl ⟨Nat.le_of_ble_eq_true rfl, Nat.le_of_ble_eq_true rfl, rcv_of (c := 12) rfl (congrArg Prod.fst ((ps.2 99 (Nat.lt_of_lt_of_le (by decide) j.1.2.2)).trans (fs_99 j.1)))⟩ rfl ?_
  refine Ok.mono H (fun v h2 H => ?_)
  obtain ⟨rfl, p02, j2⟩ := H
  show Ok 299 178 (lwl i) [vI x, vI x] h2 _
  exact ok_icmp_eq (k := 178) lk_299_178 (fun _ => K h2 (S.nx p02 j.1) j2) (fun e => absurd rfl e)
set_option maxRecDepth 20000 in
theorem lc_bond {h : AH} {L c i : Int} {s : Int → Int} {Q : Option AV → AH → Prop} (S : Scr h L s) (hi : 0 ≤ i ∧ i + 6 ≤ L ∧ L ≤ 3072) (hs : ∀ k, R32 (s k)) (hc : c ≤ 600) {n : Nat} {Ds : Nat → DD} {Z : DD} (j : JI h n Ds Z c) (K : ∀ h2, Scr h2 L s → (∃ n Ds Z, JI h2 n Ds Z (c + 1)) → Ok 299 1293 (lwl i) [] h2 Q) : Ok 299 181 (lwl i) [] h Q := by
  refine ok_aload_n (k := 181) lk_299_181 rfl ?_
  refine lw_arg (k := 182) lk_299_182 lk_299_183 lk_299_184 lk_299_185 lk_299_186 S hi (by decide) ?_
  refine lw_arg (k := 187) lk_299_187 lk_299_188 lk_299_189 lk_299_190 lk_299_191 S hi (by decide) ?_
  refine ok_cvirtual (k := 192) lk_299_192 (Nat.le_of_ble_eq_true rfl) (as := [vR (some 1), vI (s (i + 1)), vI (s (i + 2))]) (s := []) (ls0 := [some (vR (some 1)), some (vI (s (i + 1))), some (vI (s (i + 2))), none, none]) rfl ⟨Nat.le_of_ble_eq_true rfl, Nat.le_of_ble_eq_true rfl, rcv_of (c := 11) rfl (congrArg Prod.fst (fs_1 j.1))⟩ rfl ?_
  refine Ok.mono (Ok.ps (b_bond j hc)) (fun v h1 H => ?_)
  obtain ⟨⟨x, rfl, H⟩, p0, ps⟩ := H
  have S1 := S.nx p0 j.1
  show Ok 299 193 (lwl i) [vI x] h1 _
  refine ok_aload_n (k := 193) lk_299_193 rfl ?_
  refine lw_arg (k := 194) lk_299_194 lk_299_195 lk_299_196 lk_299_197 lk_299_198 S1 hi (by decide) ?_
  refine lw_arg (k := 199) lk_299_199 lk_299_200 lk_299_201 lk_299_202 lk_299_203 S1 hi (by decide) ?_
  refine ok_cvirtual (k := 204) lk_299_204 (Nat.le_of_ble_eq_true rfl) (as := [vR (some 99), vI (s (i + 1)), vI (s (i + 2))]) (s := [vI x]) (ls0 := [some (vR (some 99)), some (vI (s (i + 1))), some (vI (s (i + 2)))]) rfl ⟨Nat.le_of_ble_eq_true rfl, Nat.le_of_ble_eq_true rfl, rcv_of (c := 12) rfl (congrArg Prod.fst ((ps.2 99 (Nat.lt_of_lt_of_le (by decide) j.1.2.2)).trans (fs_99 j.1)))⟩ rfl ?_
  refine Ok.mono H (fun v h2 H => ?_)
  obtain ⟨rfl, p02, j2⟩ := H
  show Ok 299 205 (lwl i) [vI x, vI x] h2 _
  exact ok_icmp_eq (k := 205) lk_299_205 (fun _ => K h2 (S.nx p02 j.1) j2) (fun e => absurd rfl e)
set_option maxRecDepth 20000 in
theorem lc_ring {h : AH} {L c i : Int} {s : Int → Int} {Q : Option AV → AH → Prop} (S : Scr h L s) (hi : 0 ≤ i ∧ i + 6 ≤ L ∧ L ≤ 3072) (hs : ∀ k, R32 (s k)) (hc : c ≤ 600) {n : Nat} {Ds : Nat → DD} {Z : DD} (j : JI h n Ds Z c) (K : ∀ h2, Scr h2 L s → (∃ n Ds Z, JI h2 n Ds Z (c + 1)) → Ok 299 1293 (lwl i) [] h2 Q) : Ok 299 208 (lwl i) [] h Q := by
  refine ok_aload_n (k := 208) lk_299_208 rfl ?_
  refine lw_arg (k := 209) lk_299_209 lk_299_210 lk_299_211 lk_299_212 lk_299_213 S hi (by decide) ?_
  refine ok_cvirtual (k := 214) lk_299_214 (Nat.le_of_ble_eq_true rfl) (as := [vR (some 1), vI (s (i + 1))]) (s := []) (ls0 := [some (vR (some 1)), some (vI (s (i + 1)))]) rfl ⟨Nat.le_of_ble_eq_true rfl, Nat.le_of_ble_eq_true rfl, rcv_of (c := 11) rfl (congrArg Prod.fst (fs_1 j.1))⟩ rfl ?_
  refine Ok.mono (Ok.ps (b_ring j)) (fun v h1 H => ?_)
  obtain ⟨⟨x, rfl, H⟩, p0, ps⟩ := H
  have S1 := S.nx p0 j.1
  show Ok 299 215 (lwl i) [vI x] h1 _
  refine ok_aload_n (k := 215) lk_299_215 rfl ?_
  refine lw_arg (k := 216) lk_299_216 lk_299_217 lk_299_218 lk_299_219 lk_299_220 S1 hi (by decide) ?_
  refine ok_cvirtual (k := 221) lk_299_221 (Nat.le_of_ble_eq_true rfl) (as := [vR (some 99), vI (s (i + 1))]) (s := [vI x]) (ls0 := [some (vR (some 99)), some (vI (s (i + 1)))]) rfl ⟨Nat.le_of_ble_eq_true rfl, Nat.le_of_ble_eq_true rfl, rcv_of (c := 12) rfl (congrArg Prod.fst ((ps.2 99 (Nat.lt_of_lt_of_le (by decide) j.1.2.2)).trans (fs_99 j.1)))⟩ rfl ?_
  refine Ok.mono H (fun v h2 H => ?_)
  obtain ⟨rfl, p02, j2⟩ := H
  show Ok 299 222 (lwl i) [vI x, vI x] h2 _
  exact ok_icmp_eq (k := 222) lk_299_222 (fun _ => K h2 (S.nx p02 j.1) j2) (fun e => absurd rfl e)
set_option maxRecDepth 20000 in
theorem lc_relation {h : AH} {L c i : Int} {s : Int → Int} {Q : Option AV → AH → Prop} (S : Scr h L s) (hi : 0 ≤ i ∧ i + 6 ≤ L ∧ L ≤ 3072) (hs : ∀ k, R32 (s k)) (hc : c ≤ 600) {n : Nat} {Ds : Nat → DD} {Z : DD} (j : JI h n Ds Z c) (K : ∀ h2, Scr h2 L s → (∃ n Ds Z, JI h2 n Ds Z (c + 1)) → Ok 299 1293 (lwl i) [] h2 Q) : Ok 299 225 (lwl i) [] h Q := by
  refine ok_aload_n (k := 225) lk_299_225 rfl ?_
  refine lw_arg (k := 226) lk_299_226 lk_299_227 lk_299_228 lk_299_229 lk_299_230 S hi (by decide) ?_
  refine lw_arg (k := 231) lk_299_231 lk_299_232 lk_299_233 lk_299_234 lk_299_235 S hi (by decide) ?_
  refine ok_cvirtual (k := 236) lk_299_236 (Nat.le_of_ble_eq_true rfl) (as := [vR (some 1), vI (s (i + 1)), vI (s (i + 2))]) (s := []) (ls0 := [some (vR (some 1)), some (vI (s (i + 1))), some (vI (s (i + 2)))]) rfl ⟨Nat.le_of_ble_eq_true rfl, Nat.le_of_ble_eq_true rfl, rcv_of (c := 11) rfl (congrArg Prod.fst (fs_1 j.1))⟩ rfl ?_
  refine Ok.mono (Ok.ps (b_relation j)) (fun v h1 H => ?_)
  obtain ⟨⟨x, rfl, H⟩, p0, ps⟩ := H
  have S1 := S.nx p0 j.1
  show Ok 299 237 (lwl i) [vI x] h1 _
  refine ok_aload_n (k := 237) lk_299_237 rfl ?_
  refine lw_arg (k := 238) lk_299_238 lk_299_239 lk_299_240 lk_299_241 lk_299_242 S1 hi (by decide) ?_
  refine lw_arg (k := 243) lk_299_243 lk_299_244 lk_299_245 lk_299_246 lk_299_247 S1 hi (by decide) ?_
  refine ok_cvirtual (k := 248) lk_299_248 (Nat.le_of_ble_eq_true rfl) (as := [vR (some 99), vI (s (i + 1)), vI (s (i + 2))]) (s := [vI x]) (ls0 := [some (vR (some 99)), some (vI (s (i + 1))), some (vI (s (i + 2)))]) rfl ⟨Nat.le_of_ble_eq_true rfl, Nat.le_of_ble_eq_true rfl, rcv_of (c := 12) rfl (congrArg Prod.fst ((ps.2 99 (Nat.lt_of_lt_of_le (by decide) j.1.2.2)).trans (fs_99 j.1)))⟩ rfl ?_
  refine Ok.mono H (fun v h2 H => ?_)
  obtain ⟨rfl, p02, j2⟩ := H
  show Ok 299 249 (lwl i) [vI x, vI x] h2 _
  exact ok_icmp_eq (k := 249) lk_299_249 (fun _ => K h2 (S.nx p02 j.1) j2) (fun e => absurd rfl e)
set_option maxRecDepth 20000 in
theorem lc_later {h : AH} {L c i : Int} {s : Int → Int} {Q : Option AV → AH → Prop} (S : Scr h L s) (hi : 0 ≤ i ∧ i + 6 ≤ L ∧ L ≤ 3072) (hs : ∀ k, R32 (s k)) (hc : c ≤ 600) {n : Nat} {Ds : Nat → DD} {Z : DD} (j : JI h n Ds Z c) (K : ∀ h2, Scr h2 L s → (∃ n Ds Z, JI h2 n Ds Z (c + 1)) → Ok 299 1293 (lwl i) [] h2 Q) : Ok 299 252 (lwl i) [] h Q := by
  refine ok_aload_n (k := 252) lk_299_252 rfl ?_
  refine lw_arg (k := 253) lk_299_253 lk_299_254 lk_299_255 lk_299_256 lk_299_257 S hi (by decide) ?_
  refine lw_arg (k := 258) lk_299_258 lk_299_259 lk_299_260 lk_299_261 lk_299_262 S hi (by decide) ?_
  refine ok_cvirtual (k := 263) lk_299_263 (Nat.le_of_ble_eq_true rfl) (as := [vR (some 1), vI (s (i + 1)), vI (s (i + 2))]) (s := []) (ls0 := [some (vR (some 1)), some (vI (s (i + 1))), some (vI (s (i + 2)))]) rfl ⟨Nat.le_of_ble_eq_true rfl, Nat.le_of_ble_eq_true rfl, rcv_of (c := 11) rfl (congrArg Prod.fst (fs_1 j.1))⟩ rfl ?_
  refine Ok.mono (Ok.ps (b_later j)) (fun v h1 H => ?_)
  obtain ⟨⟨x, rfl, H⟩, p0, ps⟩ := H
  have S1 := S.nx p0 j.1
  show Ok 299 264 (lwl i) [vI x] h1 _
  refine ok_aload_n (k := 264) lk_299_264 rfl ?_
  refine lw_arg (k := 265) lk_299_265 lk_299_266 lk_299_267 lk_299_268 lk_299_269 S1 hi (by decide) ?_
  refine lw_arg (k := 270) lk_299_270 lk_299_271 lk_299_272 lk_299_273 lk_299_274 S1 hi (by decide) ?_
  refine ok_cvirtual (k := 275) lk_299_275 (Nat.le_of_ble_eq_true rfl) (as := [vR (some 99), vI (s (i + 1)), vI (s (i + 2))]) (s := [vI x]) (ls0 := [some (vR (some 99)), some (vI (s (i + 1))), some (vI (s (i + 2)))]) rfl ⟨Nat.le_of_ble_eq_true rfl, Nat.le_of_ble_eq_true rfl, rcv_of (c := 12) rfl (congrArg Prod.fst ((ps.2 99 (Nat.lt_of_lt_of_le (by decide) j.1.2.2)).trans (fs_99 j.1)))⟩ rfl ?_
  refine Ok.mono H (fun v h2 H => ?_)
  obtain ⟨rfl, p02, j2⟩ := H
  show Ok 299 276 (lwl i) [vI x, vI x] h2 _
  exact ok_icmp_eq (k := 276) lk_299_276 (fun _ => K h2 (S.nx p02 j.1) j2) (fun e => absurd rfl e)
set_option maxRecDepth 20000 in
theorem lc_block {h : AH} {L c i : Int} {s : Int → Int} {Q : Option AV → AH → Prop} (S : Scr h L s) (hi : 0 ≤ i ∧ i + 6 ≤ L ∧ L ≤ 3072) (hs : ∀ k, R32 (s k)) (hc : c ≤ 600) {n : Nat} {Ds : Nat → DD} {Z : DD} (j : JI h n Ds Z c) (K : ∀ h2, Scr h2 L s → (∃ n Ds Z, JI h2 n Ds Z (c + 1)) → Ok 299 1293 (lwl i) [] h2 Q) : Ok 299 279 (lwl i) [] h Q := by
  refine ok_aload_n (k := 279) lk_299_279 rfl ?_
  refine lw_arg (k := 280) lk_299_280 lk_299_281 lk_299_282 lk_299_283 lk_299_284 S hi (by decide) ?_
  refine ok_cvirtual (k := 285) lk_299_285 (Nat.le_of_ble_eq_true rfl) (as := [vR (some 1), vI (s (i + 1))]) (s := []) (ls0 := [some (vR (some 1)), some (vI (s (i + 1)))]) rfl ⟨Nat.le_of_ble_eq_true rfl, Nat.le_of_ble_eq_true rfl, rcv_of (c := 11) rfl (congrArg Prod.fst (fs_1 j.1))⟩ rfl ?_
  refine Ok.mono (Ok.ps (b_block j)) (fun v h1 H => ?_)
  obtain ⟨⟨x, rfl, H⟩, p0, ps⟩ := H
  have S1 := S.nx p0 j.1
  show Ok 299 286 (lwl i) [vI x] h1 _
  refine ok_aload_n (k := 286) lk_299_286 rfl ?_
  refine lw_arg (k := 287) lk_299_287 lk_299_288 lk_299_289 lk_299_290 lk_299_291 S1 hi (by decide) ?_
  refine ok_cvirtual (k := 292) lk_299_292 (Nat.le_of_ble_eq_true rfl) (as := [vR (some 99), vI (s (i + 1))]) (s := [vI x]) (ls0 := [some (vR (some 99)), some (vI (s (i + 1)))]) rfl ⟨Nat.le_of_ble_eq_true rfl, Nat.le_of_ble_eq_true rfl, rcv_of (c := 12) rfl (congrArg Prod.fst ((ps.2 99 (Nat.lt_of_lt_of_le (by decide) j.1.2.2)).trans (fs_99 j.1)))⟩ rfl ?_
  refine Ok.mono H (fun v h2 H => ?_)
  obtain ⟨rfl, p02, j2⟩ := H
  show Ok 299 293 (lwl i) [vI x, vI x] h2 _
  exact ok_icmp_eq (k := 293) lk_299_293 (fun _ => K h2 (S.nx p02 j.1) j2) (fun e => absurd rfl e)
set_option maxRecDepth 20000 in
theorem lc_chart {h : AH} {L c i : Int} {s : Int → Int} {Q : Option AV → AH → Prop} (S : Scr h L s) (hi : 0 ≤ i ∧ i + 6 ≤ L ∧ L ≤ 3072) (hs : ∀ k, R32 (s k)) (hc : c ≤ 600) {n : Nat} {Ds : Nat → DD} {Z : DD} (j : JI h n Ds Z c) (K : ∀ h2, Scr h2 L s → (∃ n Ds Z, JI h2 n Ds Z (c + 1)) → Ok 299 1293 (lwl i) [] h2 Q) : Ok 299 296 (lwl i) [] h Q := by
  refine ok_aload_n (k := 296) lk_299_296 rfl ?_
  refine lw_arg (k := 297) lk_299_297 lk_299_298 lk_299_299 lk_299_300 lk_299_301 S hi (by decide) ?_
  refine ok_cvirtual (k := 302) lk_299_302 (Nat.le_of_ble_eq_true rfl) (as := [vR (some 1), vI (s (i + 1))]) (s := []) (ls0 := [some (vR (some 1)), some (vI (s (i + 1)))]) rfl ⟨Nat.le_of_ble_eq_true rfl, Nat.le_of_ble_eq_true rfl, rcv_of (c := 11) rfl (congrArg Prod.fst (fs_1 j.1))⟩ rfl ?_
  refine Ok.mono (Ok.ps (b_chart j)) (fun v h1 H => ?_)
  obtain ⟨⟨x, rfl, H⟩, p0, ps⟩ := H
  have S1 := S.nx p0 j.1
  show Ok 299 303 (lwl i) [vI x] h1 _
  refine ok_aload_n (k := 303) lk_299_303 rfl ?_
  refine lw_arg (k := 304) lk_299_304 lk_299_305 lk_299_306 lk_299_307 lk_299_308 S1 hi (by decide) ?_
  refine ok_cvirtual (k := 309) lk_299_309 (Nat.le_of_ble_eq_true rfl) (as := [vR (some 99), vI (s (i + 1))]) (s := [vI x]) (ls0 := [some (vR (some 99)), some (vI (s (i + 1))), none, none]) rfl ⟨Nat.le_of_ble_eq_true rfl, Nat.le_of_ble_eq_true rfl, rcv_of (c := 12) rfl (congrArg Prod.fst ((ps.2 99 (Nat.lt_of_lt_of_le (by decide) j.1.2.2)).trans (fs_99 j.1)))⟩ rfl ?_
  refine Ok.mono H (fun v h2 H => ?_)
  obtain ⟨rfl, p02, j2⟩ := H
  show Ok 299 310 (lwl i) [vI x, vI x] h2 _
  exact ok_icmp_eq (k := 310) lk_299_310 (fun _ => K h2 (S.nx p02 j.1) j2) (fun e => absurd rfl e)
set_option maxRecDepth 20000 in
theorem lc_row {h : AH} {L c i : Int} {s : Int → Int} {Q : Option AV → AH → Prop} (S : Scr h L s) (hi : 0 ≤ i ∧ i + 6 ≤ L ∧ L ≤ 3072) (hs : ∀ k, R32 (s k)) (hc : c ≤ 600) {n : Nat} {Ds : Nat → DD} {Z : DD} (j : JI h n Ds Z c) (K : ∀ h2, Scr h2 L s → (∃ n Ds Z, JI h2 n Ds Z (c + 1)) → Ok 299 1293 (lwl i) [] h2 Q) : Ok 299 313 (lwl i) [] h Q := by
  refine ok_aload_n (k := 313) lk_299_313 rfl ?_
  refine lw_arg (k := 314) lk_299_314 lk_299_315 lk_299_316 lk_299_317 lk_299_318 S hi (by decide) ?_
  refine ok_cvirtual (k := 319) lk_299_319 (Nat.le_of_ble_eq_true rfl) (as := [vR (some 1), vI (s (i + 1))]) (s := []) (ls0 := [some (vR (some 1)), some (vI (s (i + 1)))]) rfl ⟨Nat.le_of_ble_eq_true rfl, Nat.le_of_ble_eq_true rfl, rcv_of (c := 11) rfl (congrArg Prod.fst (fs_1 j.1))⟩ rfl ?_
  refine Ok.mono (Ok.ps (b_row j)) (fun v h1 H => ?_)
  obtain ⟨⟨x, rfl, H⟩, p0, ps⟩ := H
  have S1 := S.nx p0 j.1
  show Ok 299 320 (lwl i) [vI x] h1 _
  refine ok_aload_n (k := 320) lk_299_320 rfl ?_
  refine lw_arg (k := 321) lk_299_321 lk_299_322 lk_299_323 lk_299_324 lk_299_325 S1 hi (by decide) ?_
  refine ok_cvirtual (k := 326) lk_299_326 (Nat.le_of_ble_eq_true rfl) (as := [vR (some 99), vI (s (i + 1))]) (s := [vI x]) (ls0 := [some (vR (some 99)), some (vI (s (i + 1))), none, none, none, none]) rfl ⟨Nat.le_of_ble_eq_true rfl, Nat.le_of_ble_eq_true rfl, rcv_of (c := 12) rfl (congrArg Prod.fst ((ps.2 99 (Nat.lt_of_lt_of_le (by decide) j.1.2.2)).trans (fs_99 j.1)))⟩ rfl ?_
  refine Ok.mono H (fun v h2 H => ?_)
  obtain ⟨rfl, p02, j2⟩ := H
  show Ok 299 327 (lwl i) [vI x, vI x] h2 _
  exact ok_icmp_eq (k := 327) lk_299_327 (fun _ => K h2 (S.nx p02 j.1) j2) (fun e => absurd rfl e)
set_option maxRecDepth 20000 in
theorem lc_tray {h : AH} {L c i : Int} {s : Int → Int} {Q : Option AV → AH → Prop} (S : Scr h L s) (hi : 0 ≤ i ∧ i + 6 ≤ L ∧ L ≤ 3072) (hs : ∀ k, R32 (s k)) (hc : c ≤ 600) {n : Nat} {Ds : Nat → DD} {Z : DD} (j : JI h n Ds Z c) (K : ∀ h2, Scr h2 L s → (∃ n Ds Z, JI h2 n Ds Z (c + 1)) → Ok 299 1293 (lwl i) [] h2 Q) : Ok 299 330 (lwl i) [] h Q := by
  refine ok_aload_n (k := 330) lk_299_330 rfl ?_
  refine lw_arg (k := 331) lk_299_331 lk_299_332 lk_299_333 lk_299_334 lk_299_335 S hi (by decide) ?_
  refine lw_arg (k := 336) lk_299_336 lk_299_337 lk_299_338 lk_299_339 lk_299_340 S hi (by decide) ?_
  refine ok_cvirtual (k := 341) lk_299_341 (Nat.le_of_ble_eq_true rfl) (as := [vR (some 1), vI (s (i + 1)), vI (s (i + 2))]) (s := []) (ls0 := [some (vR (some 1)), some (vI (s (i + 1))), some (vI (s (i + 2)))]) rfl ⟨Nat.le_of_ble_eq_true rfl, Nat.le_of_ble_eq_true rfl, rcv_of (c := 11) rfl (congrArg Prod.fst (fs_1 j.1))⟩ rfl ?_
  refine Ok.mono (Ok.ps (b_tray j hc)) (fun v h1 H => ?_)
  obtain ⟨⟨x, rfl, H⟩, p0, ps⟩ := H
  have S1 := S.nx p0 j.1
  show Ok 299 342 (lwl i) [vI x] h1 _
  refine ok_aload_n (k := 342) lk_299_342 rfl ?_
  refine lw_arg (k := 343) lk_299_343 lk_299_344 lk_299_345 lk_299_346 lk_299_347 S1 hi (by decide) ?_
  refine lw_arg (k := 348) lk_299_348 lk_299_349 lk_299_350 lk_299_351 lk_299_352 S1 hi (by decide) ?_
  refine ok_cvirtual (k := 353) lk_299_353 (Nat.le_of_ble_eq_true rfl) (as := [vR (some 99), vI (s (i + 1)), vI (s (i + 2))]) (s := [vI x]) (ls0 := [some (vR (some 99)), some (vI (s (i + 1))), some (vI (s (i + 2)))]) rfl ⟨Nat.le_of_ble_eq_true rfl, Nat.le_of_ble_eq_true rfl, rcv_of (c := 12) rfl (congrArg Prod.fst ((ps.2 99 (Nat.lt_of_lt_of_le (by decide) j.1.2.2)).trans (fs_99 j.1)))⟩ rfl ?_
  refine Ok.mono H (fun v h2 H => ?_)
  obtain ⟨rfl, p02, j2⟩ := H
  show Ok 299 354 (lwl i) [vI x, vI x] h2 _
  exact ok_icmp_eq (k := 354) lk_299_354 (fun _ => K h2 (S.nx p02 j.1) j2) (fun e => absurd rfl e)
set_option maxRecDepth 20000 in
theorem lc_lose {h : AH} {L c i : Int} {s : Int → Int} {Q : Option AV → AH → Prop} (S : Scr h L s) (hi : 0 ≤ i ∧ i + 6 ≤ L ∧ L ≤ 3072) (hs : ∀ k, R32 (s k)) (hc : c ≤ 600) {n : Nat} {Ds : Nat → DD} {Z : DD} (j : JI h n Ds Z c) (K : ∀ h2, Scr h2 L s → (∃ n Ds Z, JI h2 n Ds Z (c + 1)) → Ok 299 1293 (lwl i) [] h2 Q) : Ok 299 357 (lwl i) [] h Q := by
  refine ok_aload_n (k := 357) lk_299_357 rfl ?_
  refine lw_arg (k := 358) lk_299_358 lk_299_359 lk_299_360 lk_299_361 lk_299_362 S hi (by decide) ?_
  refine ok_cvirtual (k := 363) lk_299_363 (Nat.le_of_ble_eq_true rfl) (as := [vR (some 1), vI (s (i + 1))]) (s := []) (ls0 := [some (vR (some 1)), some (vI (s (i + 1)))]) rfl ⟨Nat.le_of_ble_eq_true rfl, Nat.le_of_ble_eq_true rfl, rcv_of (c := 11) rfl (congrArg Prod.fst (fs_1 j.1))⟩ rfl ?_
  refine Ok.mono (Ok.ps (b_lose j hc)) (fun v h1 H => ?_)
  obtain ⟨⟨x, rfl, H⟩, p0, ps⟩ := H
  have S1 := S.nx p0 j.1
  show Ok 299 364 (lwl i) [vI x] h1 _
  refine ok_aload_n (k := 364) lk_299_364 rfl ?_
  refine lw_arg (k := 365) lk_299_365 lk_299_366 lk_299_367 lk_299_368 lk_299_369 S1 hi (by decide) ?_
  refine ok_cvirtual (k := 370) lk_299_370 (Nat.le_of_ble_eq_true rfl) (as := [vR (some 99), vI (s (i + 1))]) (s := [vI x]) (ls0 := [some (vR (some 99)), some (vI (s (i + 1)))]) rfl ⟨Nat.le_of_ble_eq_true rfl, Nat.le_of_ble_eq_true rfl, rcv_of (c := 12) rfl (congrArg Prod.fst ((ps.2 99 (Nat.lt_of_lt_of_le (by decide) j.1.2.2)).trans (fs_99 j.1)))⟩ rfl ?_
  refine Ok.mono H (fun v h2 H => ?_)
  obtain ⟨rfl, p02, j2⟩ := H
  show Ok 299 371 (lwl i) [vI x, vI x] h2 _
  exact ok_icmp_eq (k := 371) lk_299_371 (fun _ => K h2 (S.nx p02 j.1) j2) (fun e => absurd rfl e)
set_option maxRecDepth 20000 in
theorem lc_coin {h : AH} {L c i : Int} {s : Int → Int} {Q : Option AV → AH → Prop} (S : Scr h L s) (hi : 0 ≤ i ∧ i + 6 ≤ L ∧ L ≤ 3072) (hs : ∀ k, R32 (s k)) (hc : c ≤ 600) {n : Nat} {Ds : Nat → DD} {Z : DD} (j : JI h n Ds Z c) (K : ∀ h2, Scr h2 L s → (∃ n Ds Z, JI h2 n Ds Z (c + 1)) → Ok 299 1293 (lwl i) [] h2 Q) : Ok 299 374 (lwl i) [] h Q := by
  refine ok_aload_n (k := 374) lk_299_374 rfl ?_
  refine lw_arg (k := 375) lk_299_375 lk_299_376 lk_299_377 lk_299_378 lk_299_379 S hi (by decide) ?_
  refine lw_arg (k := 380) lk_299_380 lk_299_381 lk_299_382 lk_299_383 lk_299_384 S hi (by decide) ?_
  refine lw_arg (k := 385) lk_299_385 lk_299_386 lk_299_387 lk_299_388 lk_299_389 S hi (by decide) ?_
  refine lw_arg (k := 390) lk_299_390 lk_299_391 lk_299_392 lk_299_393 lk_299_394 S hi (by decide) ?_
  refine ok_cvirtual (k := 395) lk_299_395 (Nat.le_of_ble_eq_true rfl) (as := [vR (some 1), vI (s (i + 1)), vI (s (i + 2)), vI (s (i + 3)), vI (s (i + 4))]) (s := []) (ls0 := [some (vR (some 1)), some (vI (s (i + 1))), some (vI (s (i + 2))), some (vI (s (i + 3))), some (vI (s (i + 4))), none]) rfl ⟨Nat.le_of_ble_eq_true rfl, Nat.le_of_ble_eq_true rfl, rcv_of (c := 11) rfl (congrArg Prod.fst (fs_1 j.1))⟩ rfl ?_
  refine Ok.mono (Ok.ps (b_coin j hc)) (fun v h1 H => ?_)
  obtain ⟨⟨x, rfl, H⟩, p0, ps⟩ := H
  have S1 := S.nx p0 j.1
  show Ok 299 396 (lwl i) [vI x] h1 _
  refine ok_aload_n (k := 396) lk_299_396 rfl ?_
  refine lw_arg (k := 397) lk_299_397 lk_299_398 lk_299_399 lk_299_400 lk_299_401 S1 hi (by decide) ?_
  refine lw_arg (k := 402) lk_299_402 lk_299_403 lk_299_404 lk_299_405 lk_299_406 S1 hi (by decide) ?_
  refine lw_arg (k := 407) lk_299_407 lk_299_408 lk_299_409 lk_299_410 lk_299_411 S1 hi (by decide) ?_
  refine lw_arg (k := 412) lk_299_412 lk_299_413 lk_299_414 lk_299_415 lk_299_416 S1 hi (by decide) ?_
  refine ok_cvirtual (k := 417) lk_299_417 (Nat.le_of_ble_eq_true rfl) (as := [vR (some 99), vI (s (i + 1)), vI (s (i + 2)), vI (s (i + 3)), vI (s (i + 4))]) (s := [vI x]) (ls0 := [some (vR (some 99)), some (vI (s (i + 1))), some (vI (s (i + 2))), some (vI (s (i + 3))), some (vI (s (i + 4)))]) rfl ⟨Nat.le_of_ble_eq_true rfl, Nat.le_of_ble_eq_true rfl, rcv_of (c := 12) rfl (congrArg Prod.fst ((ps.2 99 (Nat.lt_of_lt_of_le (by decide) j.1.2.2)).trans (fs_99 j.1)))⟩ rfl ?_
  refine Ok.mono H (fun v h2 H => ?_)
  obtain ⟨rfl, p02, j2⟩ := H
  show Ok 299 418 (lwl i) [vI x, vI x] h2 _
  exact ok_icmp_eq (k := 418) lk_299_418 (fun _ => K h2 (S.nx p02 j.1) j2) (fun e => absurd rfl e)
set_option maxRecDepth 20000 in
theorem lc_sample {h : AH} {L c i : Int} {s : Int → Int} {Q : Option AV → AH → Prop} (S : Scr h L s) (hi : 0 ≤ i ∧ i + 6 ≤ L ∧ L ≤ 3072) (hs : ∀ k, R32 (s k)) (hc : c ≤ 600) {n : Nat} {Ds : Nat → DD} {Z : DD} (j : JI h n Ds Z c) (K : ∀ h2, Scr h2 L s → (∃ n Ds Z, JI h2 n Ds Z (c + 1)) → Ok 299 1293 (lwl i) [] h2 Q) : Ok 299 421 (lwl i) [] h Q := by
  refine ok_aload_n (k := 421) lk_299_421 rfl ?_
  refine lw_arg (k := 422) lk_299_422 lk_299_423 lk_299_424 lk_299_425 lk_299_426 S hi (by decide) ?_
  refine lw_arg (k := 427) lk_299_427 lk_299_428 lk_299_429 lk_299_430 lk_299_431 S hi (by decide) ?_
  refine lw_arg (k := 432) lk_299_432 lk_299_433 lk_299_434 lk_299_435 lk_299_436 S hi (by decide) ?_
  refine lw_arg (k := 437) lk_299_437 lk_299_438 lk_299_439 lk_299_440 lk_299_441 S hi (by decide) ?_
  refine ok_cvirtual (k := 442) lk_299_442 (Nat.le_of_ble_eq_true rfl) (as := [vR (some 1), vI (s (i + 1)), vI (s (i + 2)), vI (s (i + 3)), vI (s (i + 4))]) (s := []) (ls0 := [some (vR (some 1)), some (vI (s (i + 1))), some (vI (s (i + 2))), some (vI (s (i + 3))), some (vI (s (i + 4))), none, none]) rfl ⟨Nat.le_of_ble_eq_true rfl, Nat.le_of_ble_eq_true rfl, rcv_of (c := 11) rfl (congrArg Prod.fst (fs_1 j.1))⟩ rfl ?_
  refine Ok.mono (Ok.ps (b_sample j hc (hs _) (hs _))) (fun v h1 H => ?_)
  obtain ⟨⟨x, rfl, H⟩, p0, ps⟩ := H
  have S1 := S.nx p0 j.1
  show Ok 299 443 (lwl i) [vI x] h1 _
  refine ok_aload_n (k := 443) lk_299_443 rfl ?_
  refine lw_arg (k := 444) lk_299_444 lk_299_445 lk_299_446 lk_299_447 lk_299_448 S1 hi (by decide) ?_
  refine lw_arg (k := 449) lk_299_449 lk_299_450 lk_299_451 lk_299_452 lk_299_453 S1 hi (by decide) ?_
  refine lw_arg (k := 454) lk_299_454 lk_299_455 lk_299_456 lk_299_457 lk_299_458 S1 hi (by decide) ?_
  refine lw_arg (k := 459) lk_299_459 lk_299_460 lk_299_461 lk_299_462 lk_299_463 S1 hi (by decide) ?_
  refine ok_cvirtual (k := 464) lk_299_464 (Nat.le_of_ble_eq_true rfl) (as := [vR (some 99), vI (s (i + 1)), vI (s (i + 2)), vI (s (i + 3)), vI (s (i + 4))]) (s := [vI x]) (ls0 := [some (vR (some 99)), some (vI (s (i + 1))), some (vI (s (i + 2))), some (vI (s (i + 3))), some (vI (s (i + 4)))]) rfl ⟨Nat.le_of_ble_eq_true rfl, Nat.le_of_ble_eq_true rfl, rcv_of (c := 12) rfl (congrArg Prod.fst ((ps.2 99 (Nat.lt_of_lt_of_le (by decide) j.1.2.2)).trans (fs_99 j.1)))⟩ rfl ?_
  refine Ok.mono H (fun v h2 H => ?_)
  obtain ⟨rfl, p02, j2⟩ := H
  show Ok 299 465 (lwl i) [vI x, vI x] h2 _
  exact ok_icmp_eq (k := 465) lk_299_465 (fun _ => K h2 (S.nx p02 j.1) j2) (fun e => absurd rfl e)
set_option maxRecDepth 20000 in
theorem lc_sherds {h : AH} {L c i : Int} {s : Int → Int} {Q : Option AV → AH → Prop} (S : Scr h L s) (hi : 0 ≤ i ∧ i + 6 ≤ L ∧ L ≤ 3072) (hs : ∀ k, R32 (s k)) (hc : c ≤ 600) {n : Nat} {Ds : Nat → DD} {Z : DD} (j : JI h n Ds Z c) (K : ∀ h2, Scr h2 L s → (∃ n Ds Z, JI h2 n Ds Z (c + 1)) → Ok 299 1293 (lwl i) [] h2 Q) : Ok 299 468 (lwl i) [] h Q := by
  refine ok_aload_n (k := 468) lk_299_468 rfl ?_
  refine lw_arg (k := 469) lk_299_469 lk_299_470 lk_299_471 lk_299_472 lk_299_473 S hi (by decide) ?_
  refine lw_arg (k := 474) lk_299_474 lk_299_475 lk_299_476 lk_299_477 lk_299_478 S hi (by decide) ?_
  refine lw_arg (k := 479) lk_299_479 lk_299_480 lk_299_481 lk_299_482 lk_299_483 S hi (by decide) ?_
  refine lw_arg (k := 484) lk_299_484 lk_299_485 lk_299_486 lk_299_487 lk_299_488 S hi (by decide) ?_
  refine ok_cvirtual (k := 489) lk_299_489 (Nat.le_of_ble_eq_true rfl) (as := [vR (some 1), vI (s (i + 1)), vI (s (i + 2)), vI (s (i + 3)), vI (s (i + 4))]) (s := []) (ls0 := [some (vR (some 1)), some (vI (s (i + 1))), some (vI (s (i + 2))), some (vI (s (i + 3))), some (vI (s (i + 4))), none, none, none]) rfl ⟨Nat.le_of_ble_eq_true rfl, Nat.le_of_ble_eq_true rfl, rcv_of (c := 11) rfl (congrArg Prod.fst (fs_1 j.1))⟩ rfl ?_
  refine Ok.mono (Ok.ps (b_sherds j hc)) (fun v h1 H => ?_)
  obtain ⟨⟨x, rfl, H⟩, p0, ps⟩ := H
  have S1 := S.nx p0 j.1
  show Ok 299 490 (lwl i) [vI x] h1 _
  refine ok_aload_n (k := 490) lk_299_490 rfl ?_
  refine lw_arg (k := 491) lk_299_491 lk_299_492 lk_299_493 lk_299_494 lk_299_495 S1 hi (by decide) ?_
  refine lw_arg (k := 496) lk_299_496 lk_299_497 lk_299_498 lk_299_499 lk_299_500 S1 hi (by decide) ?_
  refine lw_arg (k := 501) lk_299_501 lk_299_502 lk_299_503 lk_299_504 lk_299_505 S1 hi (by decide) ?_
  refine lw_arg (k := 506) lk_299_506 lk_299_507 lk_299_508 lk_299_509 lk_299_510 S1 hi (by decide) ?_
  refine ok_cvirtual (k := 511) lk_299_511 (Nat.le_of_ble_eq_true rfl) (as := [vR (some 99), vI (s (i + 1)), vI (s (i + 2)), vI (s (i + 3)), vI (s (i + 4))]) (s := [vI x]) (ls0 := [some (vR (some 99)), some (vI (s (i + 1))), some (vI (s (i + 2))), some (vI (s (i + 3))), some (vI (s (i + 4)))]) rfl ⟨Nat.le_of_ble_eq_true rfl, Nat.le_of_ble_eq_true rfl, rcv_of (c := 12) rfl (congrArg Prod.fst ((ps.2 99 (Nat.lt_of_lt_of_le (by decide) j.1.2.2)).trans (fs_99 j.1)))⟩ rfl ?_
  refine Ok.mono H (fun v h2 H => ?_)
  obtain ⟨rfl, p02, j2⟩ := H
  show Ok 299 512 (lwl i) [vI x, vI x] h2 _
  exact ok_icmp_eq (k := 512) lk_299_512 (fun _ => K h2 (S.nx p02 j.1) j2) (fun e => absurd rfl e)
set_option maxRecDepth 20000 in
theorem lc_note {h : AH} {L c i : Int} {s : Int → Int} {Q : Option AV → AH → Prop} (S : Scr h L s) (hi : 0 ≤ i ∧ i + 6 ≤ L ∧ L ≤ 3072) (hs : ∀ k, R32 (s k)) (hc : c ≤ 600) {n : Nat} {Ds : Nat → DD} {Z : DD} (j : JI h n Ds Z c) (K : ∀ h2, Scr h2 L s → (∃ n Ds Z, JI h2 n Ds Z (c + 1)) → Ok 299 1293 (lwl i) [] h2 Q) : Ok 299 515 (lwl i) [] h Q := by
  refine ok_aload_n (k := 515) lk_299_515 rfl ?_
  refine lw_arg (k := 516) lk_299_516 lk_299_517 lk_299_518 lk_299_519 lk_299_520 S hi (by decide) ?_
  refine lw_arg (k := 521) lk_299_521 lk_299_522 lk_299_523 lk_299_524 lk_299_525 S hi (by decide) ?_
  refine lw_arg (k := 526) lk_299_526 lk_299_527 lk_299_528 lk_299_529 lk_299_530 S hi (by decide) ?_
  refine ok_i2l (k := 531) lk_299_531 ?_
  refine ok_bipush (k := 532) lk_299_532 ?_
  refine ok_lshl (k := 533) lk_299_533 ?_
  refine lw_arg (k := 534) lk_299_534 lk_299_535 lk_299_536 lk_299_537 lk_299_538 S hi (by decide) ?_
  refine ok_i2l (k := 539) lk_299_539 ?_
  refine ok_ldc2 (k := 540) lk_299_540 ?_
  refine ok_land (k := 541) lk_299_541 ?_
  refine ok_lor (k := 542) lk_299_542 ?_
  refine ok_cvirtual (k := 543) lk_299_543 (Nat.le_of_ble_eq_true rfl) (as := [vR (some 1), vI (s (i + 1)), vI (s (i + 2)), vL (l2 (fun a b => a ||| b) (l1 (fun a b => a <<< (b.toInt64 &&& 63)) (s (i + 3)) 32) (l2 (fun a b => a &&& b) (s (i + 4)) 4294967295))]) (s := []) (ls0 := [some (vR (some 1)), some (vI (s (i + 1))), some (vI (s (i + 2))), some (vL (l2 (fun a b => a ||| b) (l1 (fun a b => a <<< (b.toInt64 &&& 63)) (s (i + 3)) 32) (l2 (fun a b => a &&& b) (s (i + 4)) 4294967295))), none, none, none, none, none]) rfl ⟨Nat.le_of_ble_eq_true rfl, Nat.le_of_ble_eq_true rfl, rcv_of (c := 11) rfl (congrArg Prod.fst (fs_1 j.1))⟩ rfl ?_
  refine Ok.mono (Ok.ps (b_note j hc (l2_rng _ _ _))) (fun v h1 H => ?_)
  obtain ⟨⟨x, rfl, H⟩, p0, ps⟩ := H
  have S1 := S.nx p0 j.1
  show Ok 299 544 (lwl i) [vI x] h1 _
  refine ok_aload_n (k := 544) lk_299_544 rfl ?_
  refine lw_arg (k := 545) lk_299_545 lk_299_546 lk_299_547 lk_299_548 lk_299_549 S1 hi (by decide) ?_
  refine lw_arg (k := 550) lk_299_550 lk_299_551 lk_299_552 lk_299_553 lk_299_554 S1 hi (by decide) ?_
  refine lw_arg (k := 555) lk_299_555 lk_299_556 lk_299_557 lk_299_558 lk_299_559 S1 hi (by decide) ?_
  refine ok_i2l (k := 560) lk_299_560 ?_
  refine ok_bipush (k := 561) lk_299_561 ?_
  refine ok_lshl (k := 562) lk_299_562 ?_
  refine lw_arg (k := 563) lk_299_563 lk_299_564 lk_299_565 lk_299_566 lk_299_567 S1 hi (by decide) ?_
  refine ok_i2l (k := 568) lk_299_568 ?_
  refine ok_ldc2 (k := 569) lk_299_569 ?_
  refine ok_land (k := 570) lk_299_570 ?_
  refine ok_lor (k := 571) lk_299_571 ?_
  refine ok_cvirtual (k := 572) lk_299_572 (Nat.le_of_ble_eq_true rfl) (as := [vR (some 99), vI (s (i + 1)), vI (s (i + 2)), vL (l2 (fun a b => a ||| b) (l1 (fun a b => a <<< (b.toInt64 &&& 63)) (s (i + 3)) 32) (l2 (fun a b => a &&& b) (s (i + 4)) 4294967295))]) (s := [vI x]) (ls0 := [some (vR (some 99)), some (vI (s (i + 1))), some (vI (s (i + 2))), some (vL (l2 (fun a b => a ||| b) (l1 (fun a b => a <<< (b.toInt64 &&& 63)) (s (i + 3)) 32) (l2 (fun a b => a &&& b) (s (i + 4)) 4294967295))), none]) rfl ⟨Nat.le_of_ble_eq_true rfl, Nat.le_of_ble_eq_true rfl, rcv_of (c := 12) rfl (congrArg Prod.fst ((ps.2 99 (Nat.lt_of_lt_of_le (by decide) j.1.2.2)).trans (fs_99 j.1)))⟩ rfl ?_
  refine Ok.mono H (fun v h2 H => ?_)
  obtain ⟨rfl, p02, j2⟩ := H
  show Ok 299 573 (lwl i) [vI x, vI x] h2 _
  exact ok_icmp_eq (k := 573) lk_299_573 (fun _ => K h2 (S.nx p02 j.1) j2) (fun e => absurd rfl e)
set_option maxRecDepth 20000 in
theorem lc_bag {h : AH} {L c i : Int} {s : Int → Int} {Q : Option AV → AH → Prop} (S : Scr h L s) (hi : 0 ≤ i ∧ i + 6 ≤ L ∧ L ≤ 3072) (hs : ∀ k, R32 (s k)) (hc : c ≤ 600) {n : Nat} {Ds : Nat → DD} {Z : DD} (j : JI h n Ds Z c) (K : ∀ h2, Scr h2 L s → (∃ n Ds Z, JI h2 n Ds Z (c + 1)) → Ok 299 1293 (lwl i) [] h2 Q) : Ok 299 576 (lwl i) [] h Q := by
  refine ok_aload_n (k := 576) lk_299_576 rfl ?_
  refine lw_arg (k := 577) lk_299_577 lk_299_578 lk_299_579 lk_299_580 lk_299_581 S hi (by decide) ?_
  refine lw_arg (k := 582) lk_299_582 lk_299_583 lk_299_584 lk_299_585 lk_299_586 S hi (by decide) ?_
  refine lw_arg (k := 587) lk_299_587 lk_299_588 lk_299_589 lk_299_590 lk_299_591 S hi (by decide) ?_
  refine ok_cvirtual (k := 592) lk_299_592 (Nat.le_of_ble_eq_true rfl) (as := [vR (some 1), vI (s (i + 1)), vI (s (i + 2)), vI (s (i + 3))]) (s := []) (ls0 := [some (vR (some 1)), some (vI (s (i + 1))), some (vI (s (i + 2))), some (vI (s (i + 3))), none, none]) rfl ⟨Nat.le_of_ble_eq_true rfl, Nat.le_of_ble_eq_true rfl, rcv_of (c := 11) rfl (congrArg Prod.fst (fs_1 j.1))⟩ rfl ?_
  refine Ok.mono (Ok.ps (b_bag j hc)) (fun v h1 H => ?_)
  obtain ⟨⟨x, rfl, H⟩, p0, ps⟩ := H
  have S1 := S.nx p0 j.1
  show Ok 299 593 (lwl i) [vI x] h1 _
  refine ok_aload_n (k := 593) lk_299_593 rfl ?_
  refine lw_arg (k := 594) lk_299_594 lk_299_595 lk_299_596 lk_299_597 lk_299_598 S1 hi (by decide) ?_
  refine lw_arg (k := 599) lk_299_599 lk_299_600 lk_299_601 lk_299_602 lk_299_603 S1 hi (by decide) ?_
  refine lw_arg (k := 604) lk_299_604 lk_299_605 lk_299_606 lk_299_607 lk_299_608 S1 hi (by decide) ?_
  refine ok_cvirtual (k := 609) lk_299_609 (Nat.le_of_ble_eq_true rfl) (as := [vR (some 99), vI (s (i + 1)), vI (s (i + 2)), vI (s (i + 3))]) (s := [vI x]) (ls0 := [some (vR (some 99)), some (vI (s (i + 1))), some (vI (s (i + 2))), some (vI (s (i + 3)))]) rfl ⟨Nat.le_of_ble_eq_true rfl, Nat.le_of_ble_eq_true rfl, rcv_of (c := 12) rfl (congrArg Prod.fst ((ps.2 99 (Nat.lt_of_lt_of_le (by decide) j.1.2.2)).trans (fs_99 j.1)))⟩ rfl ?_
  refine Ok.mono H (fun v h2 H => ?_)
  obtain ⟨rfl, p02, j2⟩ := H
  show Ok 299 610 (lwl i) [vI x, vI x] h2 _
  exact ok_icmp_eq (k := 610) lk_299_610 (fun _ => K h2 (S.nx p02 j.1) j2) (fun e => absurd rfl e)
set_option maxRecDepth 20000 in
theorem lc_take {h : AH} {L c i : Int} {s : Int → Int} {Q : Option AV → AH → Prop} (S : Scr h L s) (hi : 0 ≤ i ∧ i + 6 ≤ L ∧ L ≤ 3072) (hs : ∀ k, R32 (s k)) (hc : c ≤ 600) {n : Nat} {Ds : Nat → DD} {Z : DD} (j : JI h n Ds Z c) (K : ∀ h2, Scr h2 L s → (∃ n Ds Z, JI h2 n Ds Z (c + 1)) → Ok 299 1293 (lwl i) [] h2 Q) : Ok 299 613 (lwl i) [] h Q := by
  refine ok_aload_n (k := 613) lk_299_613 rfl ?_
  refine lw_arg (k := 614) lk_299_614 lk_299_615 lk_299_616 lk_299_617 lk_299_618 S hi (by decide) ?_
  refine lw_arg (k := 619) lk_299_619 lk_299_620 lk_299_621 lk_299_622 lk_299_623 S hi (by decide) ?_
  refine ok_cvirtual (k := 624) lk_299_624 (Nat.le_of_ble_eq_true rfl) (as := [vR (some 1), vI (s (i + 1)), vI (s (i + 2))]) (s := []) (ls0 := [some (vR (some 1)), some (vI (s (i + 1))), some (vI (s (i + 2))), none, none]) rfl ⟨Nat.le_of_ble_eq_true rfl, Nat.le_of_ble_eq_true rfl, rcv_of (c := 11) rfl (congrArg Prod.fst (fs_1 j.1))⟩ rfl ?_
  refine Ok.mono (Ok.ps (b_take j hc)) (fun v h1 H => ?_)
  obtain ⟨⟨x, rfl, H⟩, p0, ps⟩ := H
  have S1 := S.nx p0 j.1
  show Ok 299 625 (lwl i) [vI x] h1 _
  refine ok_aload_n (k := 625) lk_299_625 rfl ?_
  refine lw_arg (k := 626) lk_299_626 lk_299_627 lk_299_628 lk_299_629 lk_299_630 S1 hi (by decide) ?_
  refine lw_arg (k := 631) lk_299_631 lk_299_632 lk_299_633 lk_299_634 lk_299_635 S1 hi (by decide) ?_
  refine ok_cvirtual (k := 636) lk_299_636 (Nat.le_of_ble_eq_true rfl) (as := [vR (some 99), vI (s (i + 1)), vI (s (i + 2))]) (s := [vI x]) (ls0 := [some (vR (some 99)), some (vI (s (i + 1))), some (vI (s (i + 2)))]) rfl ⟨Nat.le_of_ble_eq_true rfl, Nat.le_of_ble_eq_true rfl, rcv_of (c := 12) rfl (congrArg Prod.fst ((ps.2 99 (Nat.lt_of_lt_of_le (by decide) j.1.2.2)).trans (fs_99 j.1)))⟩ rfl ?_
  refine Ok.mono H (fun v h2 H => ?_)
  obtain ⟨rfl, p02, j2⟩ := H
  show Ok 299 637 (lwl i) [vI x, vI x] h2 _
  exact ok_icmp_eq (k := 637) lk_299_637 (fun _ => K h2 (S.nx p02 j.1) j2) (fun e => absurd rfl e)
set_option maxRecDepth 20000 in
theorem lc_move {h : AH} {L c i : Int} {s : Int → Int} {Q : Option AV → AH → Prop} (S : Scr h L s) (hi : 0 ≤ i ∧ i + 6 ≤ L ∧ L ≤ 3072) (hs : ∀ k, R32 (s k)) (hc : c ≤ 600) {n : Nat} {Ds : Nat → DD} {Z : DD} (j : JI h n Ds Z c) (K : ∀ h2, Scr h2 L s → (∃ n Ds Z, JI h2 n Ds Z (c + 1)) → Ok 299 1293 (lwl i) [] h2 Q) : Ok 299 640 (lwl i) [] h Q := by
  refine ok_aload_n (k := 640) lk_299_640 rfl ?_
  refine lw_arg (k := 641) lk_299_641 lk_299_642 lk_299_643 lk_299_644 lk_299_645 S hi (by decide) ?_
  refine lw_arg (k := 646) lk_299_646 lk_299_647 lk_299_648 lk_299_649 lk_299_650 S hi (by decide) ?_
  refine lw_arg (k := 651) lk_299_651 lk_299_652 lk_299_653 lk_299_654 lk_299_655 S hi (by decide) ?_
  refine lw_arg (k := 656) lk_299_656 lk_299_657 lk_299_658 lk_299_659 lk_299_660 S hi (by decide) ?_
  refine ok_cvirtual (k := 661) lk_299_661 (Nat.le_of_ble_eq_true rfl) (as := [vR (some 1), vI (s (i + 1)), vI (s (i + 2)), vI (s (i + 3)), vI (s (i + 4))]) (s := []) (ls0 := [some (vR (some 1)), some (vI (s (i + 1))), some (vI (s (i + 2))), some (vI (s (i + 3))), some (vI (s (i + 4))), none, none]) rfl ⟨Nat.le_of_ble_eq_true rfl, Nat.le_of_ble_eq_true rfl, rcv_of (c := 11) rfl (congrArg Prod.fst (fs_1 j.1))⟩ rfl ?_
  refine Ok.mono (Ok.ps (b_move j hc)) (fun v h1 H => ?_)
  obtain ⟨⟨x, rfl, H⟩, p0, ps⟩ := H
  have S1 := S.nx p0 j.1
  show Ok 299 662 (lwl i) [vI x] h1 _
  refine ok_aload_n (k := 662) lk_299_662 rfl ?_
  refine lw_arg (k := 663) lk_299_663 lk_299_664 lk_299_665 lk_299_666 lk_299_667 S1 hi (by decide) ?_
  refine lw_arg (k := 668) lk_299_668 lk_299_669 lk_299_670 lk_299_671 lk_299_672 S1 hi (by decide) ?_
  refine lw_arg (k := 673) lk_299_673 lk_299_674 lk_299_675 lk_299_676 lk_299_677 S1 hi (by decide) ?_
  refine lw_arg (k := 678) lk_299_678 lk_299_679 lk_299_680 lk_299_681 lk_299_682 S1 hi (by decide) ?_
  refine ok_cvirtual (k := 683) lk_299_683 (Nat.le_of_ble_eq_true rfl) (as := [vR (some 99), vI (s (i + 1)), vI (s (i + 2)), vI (s (i + 3)), vI (s (i + 4))]) (s := [vI x]) (ls0 := [some (vR (some 99)), some (vI (s (i + 1))), some (vI (s (i + 2))), some (vI (s (i + 3))), some (vI (s (i + 4)))]) rfl ⟨Nat.le_of_ble_eq_true rfl, Nat.le_of_ble_eq_true rfl, rcv_of (c := 12) rfl (congrArg Prod.fst ((ps.2 99 (Nat.lt_of_lt_of_le (by decide) j.1.2.2)).trans (fs_99 j.1)))⟩ rfl ?_
  refine Ok.mono H (fun v h2 H => ?_)
  obtain ⟨rfl, p02, j2⟩ := H
  show Ok 299 684 (lwl i) [vI x, vI x] h2 _
  exact ok_icmp_eq (k := 684) lk_299_684 (fun _ => K h2 (S.nx p02 j.1) j2) (fun e => absurd rfl e)
set_option maxRecDepth 20000 in
theorem lc_kind {h : AH} {L c i : Int} {s : Int → Int} {Q : Option AV → AH → Prop} (S : Scr h L s) (hi : 0 ≤ i ∧ i + 6 ≤ L ∧ L ≤ 3072) (hs : ∀ k, R32 (s k)) (hc : c ≤ 600) {n : Nat} {Ds : Nat → DD} {Z : DD} (j : JI h n Ds Z c) (K : ∀ h2, Scr h2 L s → (∃ n Ds Z, JI h2 n Ds Z (c + 1)) → Ok 299 1293 (lwl i) [] h2 Q) : Ok 299 687 (lwl i) [] h Q := by
  refine ok_aload_n (k := 687) lk_299_687 rfl ?_
  refine lw_arg (k := 688) lk_299_688 lk_299_689 lk_299_690 lk_299_691 lk_299_692 S hi (by decide) ?_
  refine lw_arg (k := 693) lk_299_693 lk_299_694 lk_299_695 lk_299_696 lk_299_697 S hi (by decide) ?_
  refine ok_cvirtual (k := 698) lk_299_698 (Nat.le_of_ble_eq_true rfl) (as := [vR (some 1), vI (s (i + 1)), vI (s (i + 2))]) (s := []) (ls0 := [some (vR (some 1)), some (vI (s (i + 1))), some (vI (s (i + 2))), none, none]) rfl ⟨Nat.le_of_ble_eq_true rfl, Nat.le_of_ble_eq_true rfl, rcv_of (c := 11) rfl (congrArg Prod.fst (fs_1 j.1))⟩ rfl ?_
  refine Ok.mono (Ok.ps (b_kind j hc)) (fun v h1 H => ?_)
  obtain ⟨⟨x, rfl, H⟩, p0, ps⟩ := H
  have S1 := S.nx p0 j.1
  show Ok 299 699 (lwl i) [vI x] h1 _
  refine ok_aload_n (k := 699) lk_299_699 rfl ?_
  refine lw_arg (k := 700) lk_299_700 lk_299_701 lk_299_702 lk_299_703 lk_299_704 S1 hi (by decide) ?_
  refine lw_arg (k := 705) lk_299_705 lk_299_706 lk_299_707 lk_299_708 lk_299_709 S1 hi (by decide) ?_
  refine ok_cvirtual (k := 710) lk_299_710 (Nat.le_of_ble_eq_true rfl) (as := [vR (some 99), vI (s (i + 1)), vI (s (i + 2))]) (s := [vI x]) (ls0 := [some (vR (some 99)), some (vI (s (i + 1))), some (vI (s (i + 2))), none]) rfl ⟨Nat.le_of_ble_eq_true rfl, Nat.le_of_ble_eq_true rfl, rcv_of (c := 12) rfl (congrArg Prod.fst ((ps.2 99 (Nat.lt_of_lt_of_le (by decide) j.1.2.2)).trans (fs_99 j.1)))⟩ rfl ?_
  refine Ok.mono H (fun v h2 H => ?_)
  obtain ⟨rfl, p02, j2⟩ := H
  show Ok 299 711 (lwl i) [vI x, vI x] h2 _
  exact ok_icmp_eq (k := 711) lk_299_711 (fun _ => K h2 (S.nx p02 j.1) j2) (fun e => absurd rfl e)
set_option maxRecDepth 20000 in
theorem lc_sherd {h : AH} {L c i : Int} {s : Int → Int} {Q : Option AV → AH → Prop} (S : Scr h L s) (hi : 0 ≤ i ∧ i + 6 ≤ L ∧ L ≤ 3072) (hs : ∀ k, R32 (s k)) (hc : c ≤ 600) {n : Nat} {Ds : Nat → DD} {Z : DD} (j : JI h n Ds Z c) (K : ∀ h2, Scr h2 L s → (∃ n Ds Z, JI h2 n Ds Z (c + 1)) → Ok 299 1293 (lwl i) [] h2 Q) : Ok 299 714 (lwl i) [] h Q := by
  refine ok_aload_n (k := 714) lk_299_714 rfl ?_
  refine lw_arg (k := 715) lk_299_715 lk_299_716 lk_299_717 lk_299_718 lk_299_719 S hi (by decide) ?_
  refine lw_arg (k := 720) lk_299_720 lk_299_721 lk_299_722 lk_299_723 lk_299_724 S hi (by decide) ?_
  refine lw_arg (k := 725) lk_299_725 lk_299_726 lk_299_727 lk_299_728 lk_299_729 S hi (by decide) ?_
  refine ok_cvirtual (k := 730) lk_299_730 (Nat.le_of_ble_eq_true rfl) (as := [vR (some 1), vI (s (i + 1)), vI (s (i + 2)), vI (s (i + 3))]) (s := []) (ls0 := [some (vR (some 1)), some (vI (s (i + 1))), some (vI (s (i + 2))), some (vI (s (i + 3)))]) rfl ⟨Nat.le_of_ble_eq_true rfl, Nat.le_of_ble_eq_true rfl, rcv_of (c := 11) rfl (congrArg Prod.fst (fs_1 j.1))⟩ rfl ?_
  refine Ok.mono (Ok.ps (b_sherd j hc)) (fun v h1 H => ?_)
  obtain ⟨⟨x, rfl, H⟩, p0, ps⟩ := H
  have S1 := S.nx p0 j.1
  show Ok 299 731 (lwl i) [vI x] h1 _
  refine ok_aload_n (k := 731) lk_299_731 rfl ?_
  refine lw_arg (k := 732) lk_299_732 lk_299_733 lk_299_734 lk_299_735 lk_299_736 S1 hi (by decide) ?_
  refine lw_arg (k := 737) lk_299_737 lk_299_738 lk_299_739 lk_299_740 lk_299_741 S1 hi (by decide) ?_
  refine lw_arg (k := 742) lk_299_742 lk_299_743 lk_299_744 lk_299_745 lk_299_746 S1 hi (by decide) ?_
  refine ok_cvirtual (k := 747) lk_299_747 (Nat.le_of_ble_eq_true rfl) (as := [vR (some 99), vI (s (i + 1)), vI (s (i + 2)), vI (s (i + 3))]) (s := [vI x]) (ls0 := [some (vR (some 99)), some (vI (s (i + 1))), some (vI (s (i + 2))), some (vI (s (i + 3))), none]) rfl ⟨Nat.le_of_ble_eq_true rfl, Nat.le_of_ble_eq_true rfl, rcv_of (c := 12) rfl (congrArg Prod.fst ((ps.2 99 (Nat.lt_of_lt_of_le (by decide) j.1.2.2)).trans (fs_99 j.1)))⟩ rfl ?_
  refine Ok.mono H (fun v h2 H => ?_)
  obtain ⟨rfl, p02, j2⟩ := H
  show Ok 299 748 (lwl i) [vI x, vI x] h2 _
  exact ok_icmp_eq (k := 748) lk_299_748 (fun _ => K h2 (S.nx p02 j.1) j2) (fun e => absurd rfl e)
set_option maxRecDepth 20000 in
theorem lc_year_b {h : AH} {L c i : Int} {s : Int → Int} {Q : Option AV → AH → Prop} (S : Scr h L s) (hi : 0 ≤ i ∧ i + 6 ≤ L ∧ L ≤ 3072) (hs : ∀ k, R32 (s k)) (hc : c ≤ 600) {n : Nat} {Ds : Nat → DD} {Z : DD} (j : JI h n Ds Z c) (K : ∀ h2, Scr h2 L s → (∃ n Ds Z, JI h2 n Ds Z (c + 1)) → Ok 299 1293 (lwl i) [] h2 Q) {bv : Int} (hb : bv = if s (i + 3) = 0 then 0 else 1) : Ok 299 771 (lwl i) [vI bv, vI (s (i + 2)), vI (s (i + 1)), vR (some 1)] h Q := by
  refine ok_cvirtual (k := 771) lk_299_771 (Nat.le_of_ble_eq_true rfl) (as := [vR (some 1), vI (s (i + 1)), vI (s (i + 2)), vI bv]) (s := []) (ls0 := [some (vR (some 1)), some (vI (s (i + 1))), some (vI (s (i + 2))), some (vI bv)]) rfl ⟨Nat.le_of_ble_eq_true rfl, Nat.le_of_ble_eq_true rfl, rcv_of (c := 11) rfl (congrArg Prod.fst (fs_1 j.1))⟩ rfl ?_
  refine Ok.mono (Ok.ps (b_year j hc)) (fun v h1 H => ?_)
  obtain ⟨⟨x, rfl, H⟩, p0, ps⟩ := H
  have S1 := S.nx p0 j.1
  show Ok 299 772 (lwl i) [vI x] h1 _
  refine ok_aload_n (k := 772) lk_299_772 rfl ?_
  refine lw_arg (k := 773) lk_299_773 lk_299_774 lk_299_775 lk_299_776 lk_299_777 S1 hi (by decide) ?_
  refine lw_arg (k := 778) lk_299_778 lk_299_779 lk_299_780 lk_299_781 lk_299_782 S1 hi (by decide) ?_
  refine lw_arg (k := 783) lk_299_783 lk_299_784 lk_299_785 lk_299_786 lk_299_787 S1 hi (by decide) ?_
  by_cases eb : s (i + 3) = 0
  · have e0 : bv = 0 := by rw [hb, if_pos eb]
    subst e0
    refine ok_if_eq (k := 788) lk_299_788 (fun _ => ?_) (fun e => absurd eb e)
    refine ok_iconst (k := 791) lk_299_791 ?_
    refine ok_cvirtual (k := 792) lk_299_792 (Nat.le_of_ble_eq_true rfl) (as := [vR (some 99), vI (s (i + 1)), vI (s (i + 2)), vI 0]) (s := [vI x]) (ls0 := [some (vR (some 99)), some (vI (s (i + 1))), some (vI (s (i + 2))), some (vI 0)]) rfl ⟨Nat.le_of_ble_eq_true rfl, Nat.le_of_ble_eq_true rfl, rcv_of (c := 12) rfl (congrArg Prod.fst ((ps.2 99 (Nat.lt_of_lt_of_le (by decide) j.1.2.2)).trans (fs_99 j.1)))⟩ rfl ?_
    refine Ok.mono H (fun v h2 H => ?_)
    obtain ⟨rfl, p02, j2⟩ := H
    show Ok 299 793 (lwl i) [vI x, vI x] h2 _
    exact ok_icmp_eq (k := 793) lk_299_793 (fun _ => K h2 (S.nx p02 j.1) j2) (fun e => absurd rfl e)
  · have e1 : bv = 1 := by rw [hb, if_neg eb]
    subst e1
    refine ok_if_eq (k := 788) lk_299_788 (fun e => absurd e eb) (fun _ => ?_)
    refine ok_iconst (k := 789) lk_299_789 ?_
    refine ok_goto (k := 790) lk_299_790 ?_
    refine ok_cvirtual (k := 792) lk_299_792 (Nat.le_of_ble_eq_true rfl) (as := [vR (some 99), vI (s (i + 1)), vI (s (i + 2)), vI 1]) (s := [vI x]) (ls0 := [some (vR (some 99)), some (vI (s (i + 1))), some (vI (s (i + 2))), some (vI 1)]) rfl ⟨Nat.le_of_ble_eq_true rfl, Nat.le_of_ble_eq_true rfl, rcv_of (c := 12) rfl (congrArg Prod.fst ((ps.2 99 (Nat.lt_of_lt_of_le (by decide) j.1.2.2)).trans (fs_99 j.1)))⟩ rfl ?_
    refine Ok.mono H (fun v h2 H => ?_)
    obtain ⟨rfl, p02, j2⟩ := H
    show Ok 299 793 (lwl i) [vI x, vI x] h2 _
    exact ok_icmp_eq (k := 793) lk_299_793 (fun _ => K h2 (S.nx p02 j.1) j2) (fun e => absurd rfl e)
set_option maxRecDepth 20000 in
theorem lc_year {h : AH} {L c i : Int} {s : Int → Int} {Q : Option AV → AH → Prop} (S : Scr h L s) (hi : 0 ≤ i ∧ i + 6 ≤ L ∧ L ≤ 3072) (hs : ∀ k, R32 (s k)) (hc : c ≤ 600) {n : Nat} {Ds : Nat → DD} {Z : DD} (j : JI h n Ds Z c) (K : ∀ h2, Scr h2 L s → (∃ n Ds Z, JI h2 n Ds Z (c + 1)) → Ok 299 1293 (lwl i) [] h2 Q) : Ok 299 751 (lwl i) [] h Q := by
  refine ok_aload_n (k := 751) lk_299_751 rfl ?_
  refine lw_arg (k := 752) lk_299_752 lk_299_753 lk_299_754 lk_299_755 lk_299_756 S hi (by decide) ?_
  refine lw_arg (k := 757) lk_299_757 lk_299_758 lk_299_759 lk_299_760 lk_299_761 S hi (by decide) ?_
  refine lw_arg (k := 762) lk_299_762 lk_299_763 lk_299_764 lk_299_765 lk_299_766 S hi (by decide) ?_
  refine ok_if_eq (k := 767) lk_299_767 (fun e => ?_) (fun e => ?_)
  · exact ok_iconst (k := 770) lk_299_770 (lc_year_b S hi hs hc j K (by rw [if_pos e]))
  · exact ok_iconst (k := 768) lk_299_768 (ok_goto (k := 769) lk_299_769 (lc_year_b S hi hs hc j K (by rw [if_neg e])))
set_option maxRecDepth 20000 in
theorem lc_grain_b {h : AH} {L c i : Int} {s : Int → Int} {Q : Option AV → AH → Prop} (S : Scr h L s) (hi : 0 ≤ i ∧ i + 6 ≤ L ∧ L ≤ 3072) (hs : ∀ k, R32 (s k)) (hc : c ≤ 600) {n : Nat} {Ds : Nat → DD} {Z : DD} (j : JI h n Ds Z c) (K : ∀ h2, Scr h2 L s → (∃ n Ds Z, JI h2 n Ds Z (c + 1)) → Ok 299 1293 (lwl i) [] h2 Q) {bv : Int} (hb : bv = if s (i + 3) = 0 then 0 else 1) : Ok 299 816 (lwl i) [vI bv, vI (s (i + 2)), vI (s (i + 1)), vR (some 1)] h Q := by
  refine ok_cvirtual (k := 816) lk_299_816 (Nat.le_of_ble_eq_true rfl) (as := [vR (some 1), vI (s (i + 1)), vI (s (i + 2)), vI bv]) (s := []) (ls0 := [some (vR (some 1)), some (vI (s (i + 1))), some (vI (s (i + 2))), some (vI bv)]) rfl ⟨Nat.le_of_ble_eq_true rfl, Nat.le_of_ble_eq_true rfl, rcv_of (c := 11) rfl (congrArg Prod.fst (fs_1 j.1))⟩ rfl ?_
  refine Ok.mono (Ok.ps (b_grain j hc)) (fun v h1 H => ?_)
  obtain ⟨⟨x, rfl, H⟩, p0, ps⟩ := H
  have S1 := S.nx p0 j.1
  show Ok 299 817 (lwl i) [vI x] h1 _
  refine ok_aload_n (k := 817) lk_299_817 rfl ?_
  refine lw_arg (k := 818) lk_299_818 lk_299_819 lk_299_820 lk_299_821 lk_299_822 S1 hi (by decide) ?_
  refine lw_arg (k := 823) lk_299_823 lk_299_824 lk_299_825 lk_299_826 lk_299_827 S1 hi (by decide) ?_
  refine lw_arg (k := 828) lk_299_828 lk_299_829 lk_299_830 lk_299_831 lk_299_832 S1 hi (by decide) ?_
  by_cases eb : s (i + 3) = 0
  · have e0 : bv = 0 := by rw [hb, if_pos eb]
    subst e0
    refine ok_if_eq (k := 833) lk_299_833 (fun _ => ?_) (fun e => absurd eb e)
    refine ok_iconst (k := 836) lk_299_836 ?_
    refine ok_cvirtual (k := 837) lk_299_837 (Nat.le_of_ble_eq_true rfl) (as := [vR (some 99), vI (s (i + 1)), vI (s (i + 2)), vI 0]) (s := [vI x]) (ls0 := [some (vR (some 99)), some (vI (s (i + 1))), some (vI (s (i + 2))), some (vI 0)]) rfl ⟨Nat.le_of_ble_eq_true rfl, Nat.le_of_ble_eq_true rfl, rcv_of (c := 12) rfl (congrArg Prod.fst ((ps.2 99 (Nat.lt_of_lt_of_le (by decide) j.1.2.2)).trans (fs_99 j.1)))⟩ rfl ?_
    refine Ok.mono H (fun v h2 H => ?_)
    obtain ⟨rfl, p02, j2⟩ := H
    show Ok 299 838 (lwl i) [vI x, vI x] h2 _
    exact ok_icmp_eq (k := 838) lk_299_838 (fun _ => K h2 (S.nx p02 j.1) j2) (fun e => absurd rfl e)
  · have e1 : bv = 1 := by rw [hb, if_neg eb]
    subst e1
    refine ok_if_eq (k := 833) lk_299_833 (fun e => absurd e eb) (fun _ => ?_)
    refine ok_iconst (k := 834) lk_299_834 ?_
    refine ok_goto (k := 835) lk_299_835 ?_
    refine ok_cvirtual (k := 837) lk_299_837 (Nat.le_of_ble_eq_true rfl) (as := [vR (some 99), vI (s (i + 1)), vI (s (i + 2)), vI 1]) (s := [vI x]) (ls0 := [some (vR (some 99)), some (vI (s (i + 1))), some (vI (s (i + 2))), some (vI 1)]) rfl ⟨Nat.le_of_ble_eq_true rfl, Nat.le_of_ble_eq_true rfl, rcv_of (c := 12) rfl (congrArg Prod.fst ((ps.2 99 (Nat.lt_of_lt_of_le (by decide) j.1.2.2)).trans (fs_99 j.1)))⟩ rfl ?_
    refine Ok.mono H (fun v h2 H => ?_)
    obtain ⟨rfl, p02, j2⟩ := H
    show Ok 299 838 (lwl i) [vI x, vI x] h2 _
    exact ok_icmp_eq (k := 838) lk_299_838 (fun _ => K h2 (S.nx p02 j.1) j2) (fun e => absurd rfl e)
set_option maxRecDepth 20000 in
theorem lc_grain {h : AH} {L c i : Int} {s : Int → Int} {Q : Option AV → AH → Prop} (S : Scr h L s) (hi : 0 ≤ i ∧ i + 6 ≤ L ∧ L ≤ 3072) (hs : ∀ k, R32 (s k)) (hc : c ≤ 600) {n : Nat} {Ds : Nat → DD} {Z : DD} (j : JI h n Ds Z c) (K : ∀ h2, Scr h2 L s → (∃ n Ds Z, JI h2 n Ds Z (c + 1)) → Ok 299 1293 (lwl i) [] h2 Q) : Ok 299 796 (lwl i) [] h Q := by
  refine ok_aload_n (k := 796) lk_299_796 rfl ?_
  refine lw_arg (k := 797) lk_299_797 lk_299_798 lk_299_799 lk_299_800 lk_299_801 S hi (by decide) ?_
  refine lw_arg (k := 802) lk_299_802 lk_299_803 lk_299_804 lk_299_805 lk_299_806 S hi (by decide) ?_
  refine lw_arg (k := 807) lk_299_807 lk_299_808 lk_299_809 lk_299_810 lk_299_811 S hi (by decide) ?_
  refine ok_if_eq (k := 812) lk_299_812 (fun e => ?_) (fun e => ?_)
  · exact ok_iconst (k := 815) lk_299_815 (lc_grain_b S hi hs hc j K (by rw [if_pos e]))
  · exact ok_iconst (k := 813) lk_299_813 (ok_goto (k := 814) lk_299_814 (lc_grain_b S hi hs hc j K (by rw [if_neg e])))
set_option maxRecDepth 20000 in
theorem lc_letter {h : AH} {L c i : Int} {s : Int → Int} {Q : Option AV → AH → Prop} (S : Scr h L s) (hi : 0 ≤ i ∧ i + 6 ≤ L ∧ L ≤ 3072) (hs : ∀ k, R32 (s k)) (hc : c ≤ 600) {n : Nat} {Ds : Nat → DD} {Z : DD} (j : JI h n Ds Z c) (K : ∀ h2, Scr h2 L s → (∃ n Ds Z, JI h2 n Ds Z (c + 1)) → Ok 299 1293 (lwl i) [] h2 Q) : Ok 299 841 (lwl i) [] h Q := by
  refine ok_aload_n (k := 841) lk_299_841 rfl ?_
  refine lw_arg (k := 842) lk_299_842 lk_299_843 lk_299_844 lk_299_845 lk_299_846 S hi (by decide) ?_
  refine lw_arg (k := 847) lk_299_847 lk_299_848 lk_299_849 lk_299_850 lk_299_851 S hi (by decide) ?_
  refine lw_arg (k := 852) lk_299_852 lk_299_853 lk_299_854 lk_299_855 lk_299_856 S hi (by decide) ?_
  refine ok_cvirtual (k := 857) lk_299_857 (Nat.le_of_ble_eq_true rfl) (as := [vR (some 1), vI (s (i + 1)), vI (s (i + 2)), vI (s (i + 3))]) (s := []) (ls0 := [some (vR (some 1)), some (vI (s (i + 1))), some (vI (s (i + 2))), some (vI (s (i + 3)))]) rfl ⟨Nat.le_of_ble_eq_true rfl, Nat.le_of_ble_eq_true rfl, rcv_of (c := 11) rfl (congrArg Prod.fst (fs_1 j.1))⟩ rfl ?_
  refine Ok.mono (Ok.ps (b_letter j hc)) (fun v h1 H => ?_)
  obtain ⟨⟨x, rfl, H⟩, p0, ps⟩ := H
  have S1 := S.nx p0 j.1
  show Ok 299 858 (lwl i) [vI x] h1 _
  refine ok_aload_n (k := 858) lk_299_858 rfl ?_
  refine lw_arg (k := 859) lk_299_859 lk_299_860 lk_299_861 lk_299_862 lk_299_863 S1 hi (by decide) ?_
  refine lw_arg (k := 864) lk_299_864 lk_299_865 lk_299_866 lk_299_867 lk_299_868 S1 hi (by decide) ?_
  refine lw_arg (k := 869) lk_299_869 lk_299_870 lk_299_871 lk_299_872 lk_299_873 S1 hi (by decide) ?_
  refine ok_cvirtual (k := 874) lk_299_874 (Nat.le_of_ble_eq_true rfl) (as := [vR (some 99), vI (s (i + 1)), vI (s (i + 2)), vI (s (i + 3))]) (s := [vI x]) (ls0 := [some (vR (some 99)), some (vI (s (i + 1))), some (vI (s (i + 2))), some (vI (s (i + 3))), none, none]) rfl ⟨Nat.le_of_ble_eq_true rfl, Nat.le_of_ble_eq_true rfl, rcv_of (c := 12) rfl (congrArg Prod.fst ((ps.2 99 (Nat.lt_of_lt_of_le (by decide) j.1.2.2)).trans (fs_99 j.1)))⟩ rfl ?_
  refine Ok.mono H (fun v h2 H => ?_)
  obtain ⟨rfl, p02, j2⟩ := H
  show Ok 299 875 (lwl i) [vI x, vI x] h2 _
  exact ok_icmp_eq (k := 875) lk_299_875 (fun _ => K h2 (S.nx p02 j.1) j2) (fun e => absurd rfl e)
set_option maxRecDepth 20000 in
theorem lc_bagged {h : AH} {L c i : Int} {s : Int → Int} {Q : Option AV → AH → Prop} (S : Scr h L s) (hi : 0 ≤ i ∧ i + 6 ≤ L ∧ L ≤ 3072) (hs : ∀ k, R32 (s k)) (hc : c ≤ 600) {n : Nat} {Ds : Nat → DD} {Z : DD} (j : JI h n Ds Z c) (K : ∀ h2, Scr h2 L s → (∃ n Ds Z, JI h2 n Ds Z (c + 1)) → Ok 299 1293 (lwl i) [] h2 Q) : Ok 299 878 (lwl i) [] h Q := by
  refine ok_aload_n (k := 878) lk_299_878 rfl ?_
  refine lw_arg (k := 879) lk_299_879 lk_299_880 lk_299_881 lk_299_882 lk_299_883 S hi (by decide) ?_
  refine lw_arg (k := 884) lk_299_884 lk_299_885 lk_299_886 lk_299_887 lk_299_888 S hi (by decide) ?_
  refine ok_cvirtual (k := 889) lk_299_889 (Nat.le_of_ble_eq_true rfl) (as := [vR (some 1), vI (s (i + 1)), vI (s (i + 2))]) (s := []) (ls0 := [some (vR (some 1)), some (vI (s (i + 1))), some (vI (s (i + 2)))]) rfl ⟨Nat.le_of_ble_eq_true rfl, Nat.le_of_ble_eq_true rfl, rcv_of (c := 11) rfl (congrArg Prod.fst (fs_1 j.1))⟩ rfl ?_
  refine Ok.mono (Ok.ps (b_bagged j hc)) (fun v h1 H => ?_)
  obtain ⟨⟨x, rfl, H⟩, p0, ps⟩ := H
  have S1 := S.nx p0 j.1
  show Ok 299 890 (lwl i) [vI x] h1 _
  refine ok_aload_n (k := 890) lk_299_890 rfl ?_
  refine lw_arg (k := 891) lk_299_891 lk_299_892 lk_299_893 lk_299_894 lk_299_895 S1 hi (by decide) ?_
  refine lw_arg (k := 896) lk_299_896 lk_299_897 lk_299_898 lk_299_899 lk_299_900 S1 hi (by decide) ?_
  refine ok_cvirtual (k := 901) lk_299_901 (Nat.le_of_ble_eq_true rfl) (as := [vR (some 99), vI (s (i + 1)), vI (s (i + 2))]) (s := [vI x]) (ls0 := [some (vR (some 99)), some (vI (s (i + 1))), some (vI (s (i + 2))), none]) rfl ⟨Nat.le_of_ble_eq_true rfl, Nat.le_of_ble_eq_true rfl, rcv_of (c := 12) rfl (congrArg Prod.fst ((ps.2 99 (Nat.lt_of_lt_of_le (by decide) j.1.2.2)).trans (fs_99 j.1)))⟩ rfl ?_
  refine Ok.mono H (fun v h2 H => ?_)
  obtain ⟨rfl, p02, j2⟩ := H
  show Ok 299 902 (lwl i) [vI x, vI x] h2 _
  exact ok_icmp_eq (k := 902) lk_299_902 (fun _ => K h2 (S.nx p02 j.1) j2) (fun e => absurd rfl e)
set_option maxRecDepth 20000 in
theorem lc_mark {h : AH} {L c i : Int} {s : Int → Int} {Q : Option AV → AH → Prop} (S : Scr h L s) (hi : 0 ≤ i ∧ i + 6 ≤ L ∧ L ≤ 3072) (hs : ∀ k, R32 (s k)) (hc : c ≤ 600) {n : Nat} {Ds : Nat → DD} {Z : DD} (j : JI h n Ds Z c) (K : ∀ h2, Scr h2 L s → (∃ n Ds Z, JI h2 n Ds Z (c + 1)) → Ok 299 1293 (lwl i) [] h2 Q) : Ok 299 905 (lwl i) [] h Q := by
  refine ok_aload_n (k := 905) lk_299_905 rfl ?_
  refine lw_arg (k := 906) lk_299_906 lk_299_907 lk_299_908 lk_299_909 lk_299_910 S hi (by decide) ?_
  refine lw_arg (k := 911) lk_299_911 lk_299_912 lk_299_913 lk_299_914 lk_299_915 S hi (by decide) ?_
  refine lw_arg (k := 916) lk_299_916 lk_299_917 lk_299_918 lk_299_919 lk_299_920 S hi (by decide) ?_
  refine ok_cvirtual (k := 921) lk_299_921 (Nat.le_of_ble_eq_true rfl) (as := [vR (some 1), vI (s (i + 1)), vI (s (i + 2)), vI (s (i + 3))]) (s := []) (ls0 := [some (vR (some 1)), some (vI (s (i + 1))), some (vI (s (i + 2))), some (vI (s (i + 3))), none, none]) rfl ⟨Nat.le_of_ble_eq_true rfl, Nat.le_of_ble_eq_true rfl, rcv_of (c := 11) rfl (congrArg Prod.fst (fs_1 j.1))⟩ rfl ?_
  refine Ok.mono (Ok.ps (b_mark j hc)) (fun v h1 H => ?_)
  obtain ⟨⟨x, rfl, H⟩, p0, ps⟩ := H
  have S1 := S.nx p0 j.1
  show Ok 299 922 (lwl i) [vI x] h1 _
  refine ok_aload_n (k := 922) lk_299_922 rfl ?_
  refine lw_arg (k := 923) lk_299_923 lk_299_924 lk_299_925 lk_299_926 lk_299_927 S1 hi (by decide) ?_
  refine lw_arg (k := 928) lk_299_928 lk_299_929 lk_299_930 lk_299_931 lk_299_932 S1 hi (by decide) ?_
  refine lw_arg (k := 933) lk_299_933 lk_299_934 lk_299_935 lk_299_936 lk_299_937 S1 hi (by decide) ?_
  refine ok_cvirtual (k := 938) lk_299_938 (Nat.le_of_ble_eq_true rfl) (as := [vR (some 99), vI (s (i + 1)), vI (s (i + 2)), vI (s (i + 3))]) (s := [vI x]) (ls0 := [some (vR (some 99)), some (vI (s (i + 1))), some (vI (s (i + 2))), some (vI (s (i + 3)))]) rfl ⟨Nat.le_of_ble_eq_true rfl, Nat.le_of_ble_eq_true rfl, rcv_of (c := 12) rfl (congrArg Prod.fst ((ps.2 99 (Nat.lt_of_lt_of_le (by decide) j.1.2.2)).trans (fs_99 j.1)))⟩ rfl ?_
  refine Ok.mono H (fun v h2 H => ?_)
  obtain ⟨rfl, p02, j2⟩ := H
  show Ok 299 939 (lwl i) [vI x, vI x] h2 _
  exact ok_icmp_eq (k := 939) lk_299_939 (fun _ => K h2 (S.nx p02 j.1) j2) (fun e => absurd rfl e)
set_option maxRecDepth 20000 in
theorem lc_copy {h : AH} {L c i : Int} {s : Int → Int} {Q : Option AV → AH → Prop} (S : Scr h L s) (hi : 0 ≤ i ∧ i + 6 ≤ L ∧ L ≤ 3072) (hs : ∀ k, R32 (s k)) (hc : c ≤ 600) {n : Nat} {Ds : Nat → DD} {Z : DD} (j : JI h n Ds Z c) (K : ∀ h2, Scr h2 L s → (∃ n Ds Z, JI h2 n Ds Z (c + 1)) → Ok 299 1293 (lwl i) [] h2 Q) : Ok 299 942 (lwl i) [] h Q := by
  refine ok_aload_n (k := 942) lk_299_942 rfl ?_
  refine lw_arg (k := 943) lk_299_943 lk_299_944 lk_299_945 lk_299_946 lk_299_947 S hi (by decide) ?_
  refine lw_arg (k := 948) lk_299_948 lk_299_949 lk_299_950 lk_299_951 lk_299_952 S hi (by decide) ?_
  refine lw_arg (k := 953) lk_299_953 lk_299_954 lk_299_955 lk_299_956 lk_299_957 S hi (by decide) ?_
  refine lw_arg (k := 958) lk_299_958 lk_299_959 lk_299_960 lk_299_961 lk_299_962 S hi (by decide) ?_
  refine lw_arg (k := 963) lk_299_963 lk_299_964 lk_299_965 lk_299_966 lk_299_967 S hi (by decide) ?_
  refine ok_cvirtual (k := 968) lk_299_968 (Nat.le_of_ble_eq_true rfl) (as := [vR (some 1), vI (s (i + 1)), vI (s (i + 2)), vI (s (i + 3)), vI (s (i + 4)), vI (s (i + 5))]) (s := []) (ls0 := [some (vR (some 1)), some (vI (s (i + 1))), some (vI (s (i + 2))), some (vI (s (i + 3))), some (vI (s (i + 4))), some (vI (s (i + 5))), none, none, none]) rfl ⟨Nat.le_of_ble_eq_true rfl, Nat.le_of_ble_eq_true rfl, rcv_of (c := 11) rfl (congrArg Prod.fst (fs_1 j.1))⟩ rfl ?_
  refine Ok.mono (Ok.ps (b_copy j hc (hs _) (hs _))) (fun v h1 H => ?_)
  obtain ⟨⟨x, rfl, H⟩, p0, ps⟩ := H
  have S1 := S.nx p0 j.1
  show Ok 299 969 (lwl i) [vI x] h1 _
  refine ok_aload_n (k := 969) lk_299_969 rfl ?_
  refine lw_arg (k := 970) lk_299_970 lk_299_971 lk_299_972 lk_299_973 lk_299_974 S1 hi (by decide) ?_
  refine lw_arg (k := 975) lk_299_975 lk_299_976 lk_299_977 lk_299_978 lk_299_979 S1 hi (by decide) ?_
  refine lw_arg (k := 980) lk_299_980 lk_299_981 lk_299_982 lk_299_983 lk_299_984 S1 hi (by decide) ?_
  refine lw_arg (k := 985) lk_299_985 lk_299_986 lk_299_987 lk_299_988 lk_299_989 S1 hi (by decide) ?_
  refine lw_arg (k := 990) lk_299_990 lk_299_991 lk_299_992 lk_299_993 lk_299_994 S1 hi (by decide) ?_
  refine ok_cvirtual (k := 995) lk_299_995 (Nat.le_of_ble_eq_true rfl) (as := [vR (some 99), vI (s (i + 1)), vI (s (i + 2)), vI (s (i + 3)), vI (s (i + 4)), vI (s (i + 5))]) (s := [vI x]) (ls0 := [some (vR (some 99)), some (vI (s (i + 1))), some (vI (s (i + 2))), some (vI (s (i + 3))), some (vI (s (i + 4))), some (vI (s (i + 5)))]) rfl ⟨Nat.le_of_ble_eq_true rfl, Nat.le_of_ble_eq_true rfl, rcv_of (c := 12) rfl (congrArg Prod.fst ((ps.2 99 (Nat.lt_of_lt_of_le (by decide) j.1.2.2)).trans (fs_99 j.1)))⟩ rfl ?_
  refine Ok.mono H (fun v h2 H => ?_)
  obtain ⟨rfl, p02, j2⟩ := H
  show Ok 299 996 (lwl i) [vI x, vI x] h2 _
  exact ok_icmp_eq (k := 996) lk_299_996 (fun _ => K h2 (S.nx p02 j.1) j2) (fun e => absurd rfl e)
set_option maxRecDepth 20000 in
theorem lc_join {h : AH} {L c i : Int} {s : Int → Int} {Q : Option AV → AH → Prop} (S : Scr h L s) (hi : 0 ≤ i ∧ i + 6 ≤ L ∧ L ≤ 3072) (hs : ∀ k, R32 (s k)) (hc : c ≤ 600) {n : Nat} {Ds : Nat → DD} {Z : DD} (j : JI h n Ds Z c) (K : ∀ h2, Scr h2 L s → (∃ n Ds Z, JI h2 n Ds Z (c + 1)) → Ok 299 1293 (lwl i) [] h2 Q) : Ok 299 999 (lwl i) [] h Q := by
  refine ok_aload_n (k := 999) lk_299_999 rfl ?_
  refine lw_arg (k := 1000) lk_299_1000 lk_299_1001 lk_299_1002 lk_299_1003 lk_299_1004 S hi (by decide) ?_
  refine lw_arg (k := 1005) lk_299_1005 lk_299_1006 lk_299_1007 lk_299_1008 lk_299_1009 S hi (by decide) ?_
  refine lw_arg (k := 1010) lk_299_1010 lk_299_1011 lk_299_1012 lk_299_1013 lk_299_1014 S hi (by decide) ?_
  refine lw_arg (k := 1015) lk_299_1015 lk_299_1016 lk_299_1017 lk_299_1018 lk_299_1019 S hi (by decide) ?_
  refine ok_cvirtual (k := 1020) lk_299_1020 (Nat.le_of_ble_eq_true rfl) (as := [vR (some 1), vI (s (i + 1)), vI (s (i + 2)), vI (s (i + 3)), vI (s (i + 4))]) (s := []) (ls0 := [some (vR (some 1)), some (vI (s (i + 1))), some (vI (s (i + 2))), some (vI (s (i + 3))), some (vI (s (i + 4))), none]) rfl ⟨Nat.le_of_ble_eq_true rfl, Nat.le_of_ble_eq_true rfl, rcv_of (c := 11) rfl (congrArg Prod.fst (fs_1 j.1))⟩ rfl ?_
  refine Ok.mono (Ok.ps (b_join j hc)) (fun v h1 H => ?_)
  obtain ⟨⟨x, rfl, H⟩, p0, ps⟩ := H
  have S1 := S.nx p0 j.1
  show Ok 299 1021 (lwl i) [vI x] h1 _
  refine ok_aload_n (k := 1021) lk_299_1021 rfl ?_
  refine lw_arg (k := 1022) lk_299_1022 lk_299_1023 lk_299_1024 lk_299_1025 lk_299_1026 S1 hi (by decide) ?_
  refine lw_arg (k := 1027) lk_299_1027 lk_299_1028 lk_299_1029 lk_299_1030 lk_299_1031 S1 hi (by decide) ?_
  refine lw_arg (k := 1032) lk_299_1032 lk_299_1033 lk_299_1034 lk_299_1035 lk_299_1036 S1 hi (by decide) ?_
  refine lw_arg (k := 1037) lk_299_1037 lk_299_1038 lk_299_1039 lk_299_1040 lk_299_1041 S1 hi (by decide) ?_
  refine ok_cvirtual (k := 1042) lk_299_1042 (Nat.le_of_ble_eq_true rfl) (as := [vR (some 99), vI (s (i + 1)), vI (s (i + 2)), vI (s (i + 3)), vI (s (i + 4))]) (s := [vI x]) (ls0 := [some (vR (some 99)), some (vI (s (i + 1))), some (vI (s (i + 2))), some (vI (s (i + 3))), some (vI (s (i + 4)))]) rfl ⟨Nat.le_of_ble_eq_true rfl, Nat.le_of_ble_eq_true rfl, rcv_of (c := 12) rfl (congrArg Prod.fst ((ps.2 99 (Nat.lt_of_lt_of_le (by decide) j.1.2.2)).trans (fs_99 j.1)))⟩ rfl ?_
  refine Ok.mono H (fun v h2 H => ?_)
  obtain ⟨rfl, p02, j2⟩ := H
  show Ok 299 1043 (lwl i) [vI x, vI x] h2 _
  exact ok_icmp_eq (k := 1043) lk_299_1043 (fun _ => K h2 (S.nx p02 j.1) j2) (fun e => absurd rfl e)
set_option maxRecDepth 20000 in
theorem lc_joins {h : AH} {L c i : Int} {s : Int → Int} {Q : Option AV → AH → Prop} (S : Scr h L s) (hi : 0 ≤ i ∧ i + 6 ≤ L ∧ L ≤ 3072) (hs : ∀ k, R32 (s k)) (hc : c ≤ 600) {n : Nat} {Ds : Nat → DD} {Z : DD} (j : JI h n Ds Z c) (K : ∀ h2, Scr h2 L s → (∃ n Ds Z, JI h2 n Ds Z (c + 1)) → Ok 299 1293 (lwl i) [] h2 Q) : Ok 299 1046 (lwl i) [] h Q := by
  refine ok_aload_n (k := 1046) lk_299_1046 rfl ?_
  refine lw_arg (k := 1047) lk_299_1047 lk_299_1048 lk_299_1049 lk_299_1050 lk_299_1051 S hi (by decide) ?_
  refine lw_arg (k := 1052) lk_299_1052 lk_299_1053 lk_299_1054 lk_299_1055 lk_299_1056 S hi (by decide) ?_
  refine ok_cvirtual (k := 1057) lk_299_1057 (Nat.le_of_ble_eq_true rfl) (as := [vR (some 1), vI (s (i + 1)), vI (s (i + 2))]) (s := []) (ls0 := [some (vR (some 1)), some (vI (s (i + 1))), some (vI (s (i + 2)))]) rfl ⟨Nat.le_of_ble_eq_true rfl, Nat.le_of_ble_eq_true rfl, rcv_of (c := 11) rfl (congrArg Prod.fst (fs_1 j.1))⟩ rfl ?_
  refine Ok.mono (Ok.ps (b_joins j)) (fun v h1 H => ?_)
  obtain ⟨⟨x, rfl, H⟩, p0, ps⟩ := H
  have S1 := S.nx p0 j.1
  show Ok 299 1058 (lwl i) [vI x] h1 _
  refine ok_aload_n (k := 1058) lk_299_1058 rfl ?_
  refine lw_arg (k := 1059) lk_299_1059 lk_299_1060 lk_299_1061 lk_299_1062 lk_299_1063 S1 hi (by decide) ?_
  refine lw_arg (k := 1064) lk_299_1064 lk_299_1065 lk_299_1066 lk_299_1067 lk_299_1068 S1 hi (by decide) ?_
  refine ok_cvirtual (k := 1069) lk_299_1069 (Nat.le_of_ble_eq_true rfl) (as := [vR (some 99), vI (s (i + 1)), vI (s (i + 2))]) (s := [vI x]) (ls0 := [some (vR (some 99)), some (vI (s (i + 1))), some (vI (s (i + 2))), none, none]) rfl ⟨Nat.le_of_ble_eq_true rfl, Nat.le_of_ble_eq_true rfl, rcv_of (c := 12) rfl (congrArg Prod.fst ((ps.2 99 (Nat.lt_of_lt_of_le (by decide) j.1.2.2)).trans (fs_99 j.1)))⟩ rfl ?_
  refine Ok.mono H (fun v h2 H => ?_)
  obtain ⟨rfl, p02, j2⟩ := H
  show Ok 299 1070 (lwl i) [vI x, vI x] h2 _
  exact ok_icmp_eq (k := 1070) lk_299_1070 (fun _ => K h2 (S.nx p02 j.1) j2) (fun e => absurd rfl e)
set_option maxRecDepth 20000 in
theorem lc_total {h : AH} {L c i : Int} {s : Int → Int} {Q : Option AV → AH → Prop} (S : Scr h L s) (hi : 0 ≤ i ∧ i + 6 ≤ L ∧ L ≤ 3072) (hs : ∀ k, R32 (s k)) (hc : c ≤ 600) {n : Nat} {Ds : Nat → DD} {Z : DD} (j : JI h n Ds Z c) (K : ∀ h2, Scr h2 L s → (∃ n Ds Z, JI h2 n Ds Z (c + 1)) → Ok 299 1293 (lwl i) [] h2 Q) : Ok 299 1073 (lwl i) [] h Q := by
  refine ok_aload_n (k := 1073) lk_299_1073 rfl ?_
  refine lw_arg (k := 1074) lk_299_1074 lk_299_1075 lk_299_1076 lk_299_1077 lk_299_1078 S hi (by decide) ?_
  refine lw_arg (k := 1079) lk_299_1079 lk_299_1080 lk_299_1081 lk_299_1082 lk_299_1083 S hi (by decide) ?_
  refine ok_cvirtual (k := 1084) lk_299_1084 (Nat.le_of_ble_eq_true rfl) (as := [vR (some 1), vI (s (i + 1)), vI (s (i + 2))]) (s := []) (ls0 := [some (vR (some 1)), some (vI (s (i + 1))), some (vI (s (i + 2)))]) rfl ⟨Nat.le_of_ble_eq_true rfl, Nat.le_of_ble_eq_true rfl, rcv_of (c := 11) rfl (congrArg Prod.fst (fs_1 j.1))⟩ rfl ?_
  refine Ok.mono (Ok.ps (b_total j)) (fun v h1 H => ?_)
  obtain ⟨⟨x, rfl, H⟩, p0, ps⟩ := H
  have S1 := S.nx p0 j.1
  show Ok 299 1085 (lwl i) [vI x] h1 _
  refine ok_aload_n (k := 1085) lk_299_1085 rfl ?_
  refine lw_arg (k := 1086) lk_299_1086 lk_299_1087 lk_299_1088 lk_299_1089 lk_299_1090 S1 hi (by decide) ?_
  refine lw_arg (k := 1091) lk_299_1091 lk_299_1092 lk_299_1093 lk_299_1094 lk_299_1095 S1 hi (by decide) ?_
  refine ok_cvirtual (k := 1096) lk_299_1096 (Nat.le_of_ble_eq_true rfl) (as := [vR (some 99), vI (s (i + 1)), vI (s (i + 2))]) (s := [vI x]) (ls0 := [some (vR (some 99)), some (vI (s (i + 1))), some (vI (s (i + 2)))]) rfl ⟨Nat.le_of_ble_eq_true rfl, Nat.le_of_ble_eq_true rfl, rcv_of (c := 12) rfl (congrArg Prod.fst ((ps.2 99 (Nat.lt_of_lt_of_le (by decide) j.1.2.2)).trans (fs_99 j.1)))⟩ rfl ?_
  refine Ok.mono H (fun v h2 H => ?_)
  obtain ⟨rfl, p02, j2⟩ := H
  show Ok 299 1097 (lwl i) [vI x, vI x] h2 _
  exact ok_icmp_eq (k := 1097) lk_299_1097 (fun _ => K h2 (S.nx p02 j.1) j2) (fun e => absurd rfl e)
set_option maxRecDepth 20000 in
theorem lc_share {h : AH} {L c i : Int} {s : Int → Int} {Q : Option AV → AH → Prop} (S : Scr h L s) (hi : 0 ≤ i ∧ i + 6 ≤ L ∧ L ≤ 3072) (hs : ∀ k, R32 (s k)) (hc : c ≤ 600) {n : Nat} {Ds : Nat → DD} {Z : DD} (j : JI h n Ds Z c) (K : ∀ h2, Scr h2 L s → (∃ n Ds Z, JI h2 n Ds Z (c + 1)) → Ok 299 1293 (lwl i) [] h2 Q) : Ok 299 1100 (lwl i) [] h Q := by
  refine ok_aload_n (k := 1100) lk_299_1100 rfl ?_
  refine lw_arg (k := 1101) lk_299_1101 lk_299_1102 lk_299_1103 lk_299_1104 lk_299_1105 S hi (by decide) ?_
  refine lw_arg (k := 1106) lk_299_1106 lk_299_1107 lk_299_1108 lk_299_1109 lk_299_1110 S hi (by decide) ?_
  refine ok_cvirtual (k := 1111) lk_299_1111 (Nat.le_of_ble_eq_true rfl) (as := [vR (some 1), vI (s (i + 1)), vI (s (i + 2))]) (s := []) (ls0 := [some (vR (some 1)), some (vI (s (i + 1))), some (vI (s (i + 2))), none]) rfl ⟨Nat.le_of_ble_eq_true rfl, Nat.le_of_ble_eq_true rfl, rcv_of (c := 11) rfl (congrArg Prod.fst (fs_1 j.1))⟩ rfl ?_
  refine Ok.mono (Ok.ps (b_share j hc)) (fun v h1 H => ?_)
  obtain ⟨⟨x, rfl, H⟩, p0, ps⟩ := H
  have S1 := S.nx p0 j.1
  show Ok 299 1112 (lwl i) [vI x] h1 _
  refine ok_aload_n (k := 1112) lk_299_1112 rfl ?_
  refine lw_arg (k := 1113) lk_299_1113 lk_299_1114 lk_299_1115 lk_299_1116 lk_299_1117 S1 hi (by decide) ?_
  refine lw_arg (k := 1118) lk_299_1118 lk_299_1119 lk_299_1120 lk_299_1121 lk_299_1122 S1 hi (by decide) ?_
  refine ok_cvirtual (k := 1123) lk_299_1123 (Nat.le_of_ble_eq_true rfl) (as := [vR (some 99), vI (s (i + 1)), vI (s (i + 2))]) (s := [vI x]) (ls0 := [some (vR (some 99)), some (vI (s (i + 1))), some (vI (s (i + 2))), none]) rfl ⟨Nat.le_of_ble_eq_true rfl, Nat.le_of_ble_eq_true rfl, rcv_of (c := 12) rfl (congrArg Prod.fst ((ps.2 99 (Nat.lt_of_lt_of_le (by decide) j.1.2.2)).trans (fs_99 j.1)))⟩ rfl ?_
  refine Ok.mono H (fun v h2 H => ?_)
  obtain ⟨rfl, p02, j2⟩ := H
  show Ok 299 1124 (lwl i) [vI x, vI x] h2 _
  exact ok_icmp_eq (k := 1124) lk_299_1124 (fun _ => K h2 (S.nx p02 j.1) j2) (fun e => absurd rfl e)
set_option maxRecDepth 20000 in
theorem lc_span {h : AH} {L c i : Int} {s : Int → Int} {Q : Option AV → AH → Prop} (S : Scr h L s) (hi : 0 ≤ i ∧ i + 6 ≤ L ∧ L ≤ 3072) (hs : ∀ k, R32 (s k)) (hc : c ≤ 600) {n : Nat} {Ds : Nat → DD} {Z : DD} (j : JI h n Ds Z c) (K : ∀ h2, Scr h2 L s → (∃ n Ds Z, JI h2 n Ds Z (c + 1)) → Ok 299 1293 (lwl i) [] h2 Q) : Ok 299 1127 (lwl i) [] h Q := by
  refine ok_aload_n (k := 1127) lk_299_1127 rfl ?_
  refine lw_arg (k := 1128) lk_299_1128 lk_299_1129 lk_299_1130 lk_299_1131 lk_299_1132 S hi (by decide) ?_
  refine lw_arg (k := 1133) lk_299_1133 lk_299_1134 lk_299_1135 lk_299_1136 lk_299_1137 S hi (by decide) ?_
  refine lw_arg (k := 1138) lk_299_1138 lk_299_1139 lk_299_1140 lk_299_1141 lk_299_1142 S hi (by decide) ?_
  refine ok_cvirtual (k := 1143) lk_299_1143 (Nat.le_of_ble_eq_true rfl) (as := [vR (some 1), vI (s (i + 1)), vI (s (i + 2)), vI (s (i + 3))]) (s := []) (ls0 := [some (vR (some 1)), some (vI (s (i + 1))), some (vI (s (i + 2))), some (vI (s (i + 3)))]) rfl ⟨Nat.le_of_ble_eq_true rfl, Nat.le_of_ble_eq_true rfl, rcv_of (c := 11) rfl (congrArg Prod.fst (fs_1 j.1))⟩ rfl ?_
  refine Ok.mono (Ok.ps (b_span j hc)) (fun v h1 H => ?_)
  obtain ⟨⟨x, rfl, H⟩, p0, ps⟩ := H
  have S1 := S.nx p0 j.1
  show Ok 299 1144 (lwl i) [vI x] h1 _
  refine ok_aload_n (k := 1144) lk_299_1144 rfl ?_
  refine lw_arg (k := 1145) lk_299_1145 lk_299_1146 lk_299_1147 lk_299_1148 lk_299_1149 S1 hi (by decide) ?_
  refine lw_arg (k := 1150) lk_299_1150 lk_299_1151 lk_299_1152 lk_299_1153 lk_299_1154 S1 hi (by decide) ?_
  refine lw_arg (k := 1155) lk_299_1155 lk_299_1156 lk_299_1157 lk_299_1158 lk_299_1159 S1 hi (by decide) ?_
  refine ok_cvirtual (k := 1160) lk_299_1160 (Nat.le_of_ble_eq_true rfl) (as := [vR (some 99), vI (s (i + 1)), vI (s (i + 2)), vI (s (i + 3))]) (s := [vI x]) (ls0 := [some (vR (some 99)), some (vI (s (i + 1))), some (vI (s (i + 2))), some (vI (s (i + 3)))]) rfl ⟨Nat.le_of_ble_eq_true rfl, Nat.le_of_ble_eq_true rfl, rcv_of (c := 12) rfl (congrArg Prod.fst ((ps.2 99 (Nat.lt_of_lt_of_le (by decide) j.1.2.2)).trans (fs_99 j.1)))⟩ rfl ?_
  refine Ok.mono H (fun v h2 H => ?_)
  obtain ⟨rfl, p02, j2⟩ := H
  show Ok 299 1161 (lwl i) [vI x, vI x] h2 _
  exact ok_icmp_eq (k := 1161) lk_299_1161 (fun _ => K h2 (S.nx p02 j.1) j2) (fun e => absurd rfl e)
set_option maxRecDepth 20000 in
theorem lc_drawn {h : AH} {L c i : Int} {s : Int → Int} {Q : Option AV → AH → Prop} (S : Scr h L s) (hi : 0 ≤ i ∧ i + 6 ≤ L ∧ L ≤ 3072) (hs : ∀ k, R32 (s k)) (hc : c ≤ 600) {n : Nat} {Ds : Nat → DD} {Z : DD} (j : JI h n Ds Z c) (K : ∀ h2, Scr h2 L s → (∃ n Ds Z, JI h2 n Ds Z (c + 1)) → Ok 299 1293 (lwl i) [] h2 Q) : Ok 299 1164 (lwl i) [] h Q := by
  refine ok_aload_n (k := 1164) lk_299_1164 rfl ?_
  refine lw_arg (k := 1165) lk_299_1165 lk_299_1166 lk_299_1167 lk_299_1168 lk_299_1169 S hi (by decide) ?_
  refine lw_arg (k := 1170) lk_299_1170 lk_299_1171 lk_299_1172 lk_299_1173 lk_299_1174 S hi (by decide) ?_
  refine ok_cvirtual (k := 1175) lk_299_1175 (Nat.le_of_ble_eq_true rfl) (as := [vR (some 1), vI (s (i + 1)), vI (s (i + 2))]) (s := []) (ls0 := [some (vR (some 1)), some (vI (s (i + 1))), some (vI (s (i + 2))), none, none, none]) rfl ⟨Nat.le_of_ble_eq_true rfl, Nat.le_of_ble_eq_true rfl, rcv_of (c := 11) rfl (congrArg Prod.fst (fs_1 j.1))⟩ rfl ?_
  refine Ok.mono (Ok.ps (b_drawn j)) (fun v h1 H => ?_)
  obtain ⟨⟨x, rfl, H⟩, p0, ps⟩ := H
  have S1 := S.nx p0 j.1
  show Ok 299 1176 (lwl i) [vI x] h1 _
  refine ok_aload_n (k := 1176) lk_299_1176 rfl ?_
  refine lw_arg (k := 1177) lk_299_1177 lk_299_1178 lk_299_1179 lk_299_1180 lk_299_1181 S1 hi (by decide) ?_
  refine lw_arg (k := 1182) lk_299_1182 lk_299_1183 lk_299_1184 lk_299_1185 lk_299_1186 S1 hi (by decide) ?_
  refine ok_cvirtual (k := 1187) lk_299_1187 (Nat.le_of_ble_eq_true rfl) (as := [vR (some 99), vI (s (i + 1)), vI (s (i + 2))]) (s := [vI x]) (ls0 := [some (vR (some 99)), some (vI (s (i + 1))), some (vI (s (i + 2))), none, none, none, none, none, none]) rfl ⟨Nat.le_of_ble_eq_true rfl, Nat.le_of_ble_eq_true rfl, rcv_of (c := 12) rfl (congrArg Prod.fst ((ps.2 99 (Nat.lt_of_lt_of_le (by decide) j.1.2.2)).trans (fs_99 j.1)))⟩ rfl ?_
  refine Ok.mono H (fun v h2 H => ?_)
  obtain ⟨rfl, p02, j2⟩ := H
  show Ok 299 1188 (lwl i) [vI x, vI x] h2 _
  exact ok_icmp_eq (k := 1188) lk_299_1188 (fun _ => K h2 (S.nx p02 j.1) j2) (fun e => absurd rfl e)
set_option maxRecDepth 20000 in
theorem lc_quarrel {h : AH} {L c i : Int} {s : Int → Int} {Q : Option AV → AH → Prop} (S : Scr h L s) (hi : 0 ≤ i ∧ i + 6 ≤ L ∧ L ≤ 3072) (hs : ∀ k, R32 (s k)) (hc : c ≤ 600) {n : Nat} {Ds : Nat → DD} {Z : DD} (j : JI h n Ds Z c) (K : ∀ h2, Scr h2 L s → (∃ n Ds Z, JI h2 n Ds Z (c + 1)) → Ok 299 1293 (lwl i) [] h2 Q) : Ok 299 1191 (lwl i) [] h Q := by
  refine ok_aload_n (k := 1191) lk_299_1191 rfl ?_
  refine ok_cvirtual (k := 1192) lk_299_1192 (Nat.le_of_ble_eq_true rfl) (as := [vR (some 1)]) (s := []) (ls0 := [some (vR (some 1))]) rfl ⟨Nat.le_of_ble_eq_true rfl, Nat.le_of_ble_eq_true rfl, rcv_of (c := 11) rfl (congrArg Prod.fst (fs_1 j.1))⟩ rfl ?_
  refine Ok.mono (Ok.ps (b_quarrel j)) (fun v h1 H => ?_)
  obtain ⟨⟨x, rfl, H⟩, p0, ps⟩ := H
  have S1 := S.nx p0 j.1
  show Ok 299 1193 (lwl i) [vI x] h1 _
  refine ok_aload_n (k := 1193) lk_299_1193 rfl ?_
  refine ok_cvirtual (k := 1194) lk_299_1194 (Nat.le_of_ble_eq_true rfl) (as := [vR (some 99)]) (s := [vI x]) (ls0 := [some (vR (some 99))]) rfl ⟨Nat.le_of_ble_eq_true rfl, Nat.le_of_ble_eq_true rfl, rcv_of (c := 12) rfl (congrArg Prod.fst ((ps.2 99 (Nat.lt_of_lt_of_le (by decide) j.1.2.2)).trans (fs_99 j.1)))⟩ rfl ?_
  refine Ok.mono H (fun v h2 H => ?_)
  obtain ⟨rfl, p02, j2⟩ := H
  show Ok 299 1195 (lwl i) [vI x, vI x] h2 _
  exact ok_icmp_eq (k := 1195) lk_299_1195 (fun _ => K h2 (S.nx p02 j.1) j2) (fun e => absurd rfl e)
set_option maxRecDepth 20000 in
theorem lc_because {h : AH} {L c i : Int} {s : Int → Int} {Q : Option AV → AH → Prop} (S : Scr h L s) (hi : 0 ≤ i ∧ i + 6 ≤ L ∧ L ≤ 3072) (hs : ∀ k, R32 (s k)) (hc : c ≤ 600) {n : Nat} {Ds : Nat → DD} {Z : DD} (j : JI h n Ds Z c) (K : ∀ h2, Scr h2 L s → (∃ n Ds Z, JI h2 n Ds Z (c + 1)) → Ok 299 1293 (lwl i) [] h2 Q) : Ok 299 1198 (lwl i) [] h Q := by
  refine ok_aload_n (k := 1198) lk_299_1198 rfl ?_
  refine lw_arg (k := 1199) lk_299_1199 lk_299_1200 lk_299_1201 lk_299_1202 lk_299_1203 S hi (by decide) ?_
  refine ok_cvirtual (k := 1204) lk_299_1204 (Nat.le_of_ble_eq_true rfl) (as := [vR (some 1), vI (s (i + 1))]) (s := []) (ls0 := [some (vR (some 1)), some (vI (s (i + 1)))]) rfl ⟨Nat.le_of_ble_eq_true rfl, Nat.le_of_ble_eq_true rfl, rcv_of (c := 11) rfl (congrArg Prod.fst (fs_1 j.1))⟩ rfl ?_
  refine Ok.mono (Ok.ps (b_because j (hs _))) (fun v h1 H => ?_)
  obtain ⟨⟨x, rfl, H⟩, p0, ps⟩ := H
  have S1 := S.nx p0 j.1
  show Ok 299 1205 (lwl i) [vI x] h1 _
  refine ok_aload_n (k := 1205) lk_299_1205 rfl ?_
  refine lw_arg (k := 1206) lk_299_1206 lk_299_1207 lk_299_1208 lk_299_1209 lk_299_1210 S1 hi (by decide) ?_
  refine ok_cvirtual (k := 1211) lk_299_1211 (Nat.le_of_ble_eq_true rfl) (as := [vR (some 99), vI (s (i + 1))]) (s := [vI x]) (ls0 := [some (vR (some 99)), some (vI (s (i + 1))), none]) rfl ⟨Nat.le_of_ble_eq_true rfl, Nat.le_of_ble_eq_true rfl, rcv_of (c := 12) rfl (congrArg Prod.fst ((ps.2 99 (Nat.lt_of_lt_of_le (by decide) j.1.2.2)).trans (fs_99 j.1)))⟩ rfl ?_
  refine Ok.mono H (fun v h2 H => ?_)
  obtain ⟨rfl, p02, j2⟩ := H
  show Ok 299 1212 (lwl i) [vI x, vI x] h2 _
  exact ok_icmp_eq (k := 1212) lk_299_1212 (fun _ => K h2 (S.nx p02 j.1) j2) (fun e => absurd rfl e)
set_option maxRecDepth 20000 in
theorem lc_orders {h : AH} {L c i : Int} {s : Int → Int} {Q : Option AV → AH → Prop} (S : Scr h L s) (hi : 0 ≤ i ∧ i + 6 ≤ L ∧ L ≤ 3072) (hs : ∀ k, R32 (s k)) (hc : c ≤ 600) {n : Nat} {Ds : Nat → DD} {Z : DD} (j : JI h n Ds Z c) (K : ∀ h2, Scr h2 L s → (∃ n Ds Z, JI h2 n Ds Z (c + 1)) → Ok 299 1293 (lwl i) [] h2 Q) : Ok 299 1215 (lwl i) [] h Q := by
  refine ok_aload_n (k := 1215) lk_299_1215 rfl ?_
  refine ok_cvirtual (k := 1216) lk_299_1216 (Nat.le_of_ble_eq_true rfl) (as := [vR (some 1)]) (s := []) (ls0 := [some (vR (some 1))]) rfl ⟨Nat.le_of_ble_eq_true rfl, Nat.le_of_ble_eq_true rfl, rcv_of (c := 11) rfl (congrArg Prod.fst (fs_1 j.1))⟩ rfl ?_
  refine Ok.mono (Ok.ps (b_orders j)) (fun v h1 H => ?_)
  obtain ⟨⟨x, rfl, H⟩, p0, ps⟩ := H
  have S1 := S.nx p0 j.1
  show Ok 299 1217 (lwl i) [vL x] h1 _
  refine ok_aload_n (k := 1217) lk_299_1217 rfl ?_
  refine ok_cvirtual (k := 1218) lk_299_1218 (Nat.le_of_ble_eq_true rfl) (as := [vR (some 99)]) (s := [vL x]) (ls0 := [some (vR (some 99)), none, none, none]) rfl ⟨Nat.le_of_ble_eq_true rfl, Nat.le_of_ble_eq_true rfl, rcv_of (c := 12) rfl (congrArg Prod.fst ((ps.2 99 (Nat.lt_of_lt_of_le (by decide) j.1.2.2)).trans (fs_99 j.1)))⟩ rfl ?_
  refine Ok.mono H (fun v h2 H => ?_)
  obtain ⟨rfl, p02, j2⟩ := H
  show Ok 299 1219 (lwl i) [vL x, vL x] h2 _
  refine ok_lcmp (k := 1219) lk_299_1219 ?_
  exact ok_if_eq (k := 1220) lk_299_1220 (fun _ => K h2 (S.nx p02 j.1) j2) (fun e => absurd (by rw [if_neg (Int.lt_irrefl x), if_pos rfl]) e)
set_option maxRecDepth 20000 in
theorem lc_first {h : AH} {L c i : Int} {s : Int → Int} {Q : Option AV → AH → Prop} (S : Scr h L s) (hi : 0 ≤ i ∧ i + 6 ≤ L ∧ L ≤ 3072) (hs : ∀ k, R32 (s k)) (hc : c ≤ 600) {n : Nat} {Ds : Nat → DD} {Z : DD} (j : JI h n Ds Z c) (K : ∀ h2, Scr h2 L s → (∃ n Ds Z, JI h2 n Ds Z (c + 1)) → Ok 299 1293 (lwl i) [] h2 Q) : Ok 299 1223 (lwl i) [] h Q := by
  refine ok_aload_n (k := 1223) lk_299_1223 rfl ?_
  refine ok_cvirtual (k := 1224) lk_299_1224 (Nat.le_of_ble_eq_true rfl) (as := [vR (some 1)]) (s := []) (ls0 := [some (vR (some 1))]) rfl ⟨Nat.le_of_ble_eq_true rfl, Nat.le_of_ble_eq_true rfl, rcv_of (c := 11) rfl (congrArg Prod.fst (fs_1 j.1))⟩ rfl ?_
  refine Ok.mono (Ok.ps (b_first j)) (fun v h1 H => ?_)
  obtain ⟨⟨x, rfl, H⟩, p0, ps⟩ := H
  have S1 := S.nx p0 j.1
  show Ok 299 1225 (lwl i) [vI x] h1 _
  refine ok_aload_n (k := 1225) lk_299_1225 rfl ?_
  refine ok_cvirtual (k := 1226) lk_299_1226 (Nat.le_of_ble_eq_true rfl) (as := [vR (some 99)]) (s := [vI x]) (ls0 := [some (vR (some 99))]) rfl ⟨Nat.le_of_ble_eq_true rfl, Nat.le_of_ble_eq_true rfl, rcv_of (c := 12) rfl (congrArg Prod.fst ((ps.2 99 (Nat.lt_of_lt_of_le (by decide) j.1.2.2)).trans (fs_99 j.1)))⟩ rfl ?_
  refine Ok.mono H (fun v h2 H => ?_)
  obtain ⟨rfl, p02, j2⟩ := H
  show Ok 299 1227 (lwl i) [vI x, vI x] h2 _
  exact ok_icmp_eq (k := 1227) lk_299_1227 (fun _ => K h2 (S.nx p02 j.1) j2) (fun e => absurd rfl e)
set_option maxRecDepth 20000 in
theorem lc_next {h : AH} {L c i : Int} {s : Int → Int} {Q : Option AV → AH → Prop} (S : Scr h L s) (hi : 0 ≤ i ∧ i + 6 ≤ L ∧ L ≤ 3072) (hs : ∀ k, R32 (s k)) (hc : c ≤ 600) {n : Nat} {Ds : Nat → DD} {Z : DD} (j : JI h n Ds Z c) (K : ∀ h2, Scr h2 L s → (∃ n Ds Z, JI h2 n Ds Z (c + 1)) → Ok 299 1293 (lwl i) [] h2 Q) : Ok 299 1230 (lwl i) [] h Q := by
  refine ok_aload_n (k := 1230) lk_299_1230 rfl ?_
  refine ok_cvirtual (k := 1231) lk_299_1231 (Nat.le_of_ble_eq_true rfl) (as := [vR (some 1)]) (s := []) (ls0 := [some (vR (some 1))]) rfl ⟨Nat.le_of_ble_eq_true rfl, Nat.le_of_ble_eq_true rfl, rcv_of (c := 11) rfl (congrArg Prod.fst (fs_1 j.1))⟩ rfl ?_
  refine Ok.mono (Ok.ps (b_next j)) (fun v h1 H => ?_)
  obtain ⟨⟨x, rfl, H⟩, p0, ps⟩ := H
  have S1 := S.nx p0 j.1
  show Ok 299 1232 (lwl i) [vI x] h1 _
  refine ok_aload_n (k := 1232) lk_299_1232 rfl ?_
  refine ok_cvirtual (k := 1233) lk_299_1233 (Nat.le_of_ble_eq_true rfl) (as := [vR (some 99)]) (s := [vI x]) (ls0 := [some (vR (some 99)), none, none, none]) rfl ⟨Nat.le_of_ble_eq_true rfl, Nat.le_of_ble_eq_true rfl, rcv_of (c := 12) rfl (congrArg Prod.fst ((ps.2 99 (Nat.lt_of_lt_of_le (by decide) j.1.2.2)).trans (fs_99 j.1)))⟩ rfl ?_
  refine Ok.mono H (fun v h2 H => ?_)
  obtain ⟨rfl, p02, j2⟩ := H
  show Ok 299 1234 (lwl i) [vI x, vI x] h2 _
  exact ok_icmp_eq (k := 1234) lk_299_1234 (fun _ => K h2 (S.nx p02 j.1) j2) (fun e => absurd rfl e)
set_option maxRecDepth 20000 in
theorem lc_place {h : AH} {L c i : Int} {s : Int → Int} {Q : Option AV → AH → Prop} (S : Scr h L s) (hi : 0 ≤ i ∧ i + 6 ≤ L ∧ L ≤ 3072) (hs : ∀ k, R32 (s k)) (hc : c ≤ 600) {n : Nat} {Ds : Nat → DD} {Z : DD} (j : JI h n Ds Z c) (K : ∀ h2, Scr h2 L s → (∃ n Ds Z, JI h2 n Ds Z (c + 1)) → Ok 299 1293 (lwl i) [] h2 Q) : Ok 299 1237 (lwl i) [] h Q := by
  refine ok_aload_n (k := 1237) lk_299_1237 rfl ?_
  refine lw_arg (k := 1238) lk_299_1238 lk_299_1239 lk_299_1240 lk_299_1241 lk_299_1242 S hi (by decide) ?_
  refine ok_cvirtual (k := 1243) lk_299_1243 (Nat.le_of_ble_eq_true rfl) (as := [vR (some 1), vI (s (i + 1))]) (s := []) (ls0 := [some (vR (some 1)), some (vI (s (i + 1)))]) rfl ⟨Nat.le_of_ble_eq_true rfl, Nat.le_of_ble_eq_true rfl, rcv_of (c := 11) rfl (congrArg Prod.fst (fs_1 j.1))⟩ rfl ?_
  refine Ok.mono (Ok.ps (b_place j)) (fun v h1 H => ?_)
  obtain ⟨⟨x, rfl, H⟩, p0, ps⟩ := H
  have S1 := S.nx p0 j.1
  show Ok 299 1244 (lwl i) [vI x] h1 _
  refine ok_aload_n (k := 1244) lk_299_1244 rfl ?_
  refine lw_arg (k := 1245) lk_299_1245 lk_299_1246 lk_299_1247 lk_299_1248 lk_299_1249 S1 hi (by decide) ?_
  refine ok_cvirtual (k := 1250) lk_299_1250 (Nat.le_of_ble_eq_true rfl) (as := [vR (some 99), vI (s (i + 1))]) (s := [vI x]) (ls0 := [some (vR (some 99)), some (vI (s (i + 1)))]) rfl ⟨Nat.le_of_ble_eq_true rfl, Nat.le_of_ble_eq_true rfl, rcv_of (c := 12) rfl (congrArg Prod.fst ((ps.2 99 (Nat.lt_of_lt_of_le (by decide) j.1.2.2)).trans (fs_99 j.1)))⟩ rfl ?_
  refine Ok.mono H (fun v h2 H => ?_)
  obtain ⟨rfl, p02, j2⟩ := H
  show Ok 299 1251 (lwl i) [vI x, vI x] h2 _
  exact ok_icmp_eq (k := 1251) lk_299_1251 (fun _ => K h2 (S.nx p02 j.1) j2) (fun e => absurd rfl e)
set_option maxRecDepth 20000 in
theorem lc_undo {h : AH} {L c i : Int} {s : Int → Int} {Q : Option AV → AH → Prop} (S : Scr h L s) (hi : 0 ≤ i ∧ i + 6 ≤ L ∧ L ≤ 3072) (hs : ∀ k, R32 (s k)) (hc : c ≤ 600) {n : Nat} {Ds : Nat → DD} {Z : DD} (j : JI h n Ds Z c) (K : ∀ h2, Scr h2 L s → (∃ n Ds Z, JI h2 n Ds Z (c + 1)) → Ok 299 1293 (lwl i) [] h2 Q) : Ok 299 1254 (lwl i) [] h Q := by
  refine ok_aload_n (k := 1254) lk_299_1254 rfl ?_
  refine ok_cvirtual (k := 1255) lk_299_1255 (Nat.le_of_ble_eq_true rfl) (as := [vR (some 1)]) (s := []) (ls0 := [some (vR (some 1))]) rfl ⟨Nat.le_of_ble_eq_true rfl, Nat.le_of_ble_eq_true rfl, rcv_of (c := 11) rfl (congrArg Prod.fst (fs_1 j.1))⟩ rfl ?_
  refine Ok.mono (Ok.ps (b_undo j hc)) (fun v h1 H => ?_)
  obtain ⟨⟨x, rfl, H⟩, p0, ps⟩ := H
  have S1 := S.nx p0 j.1
  show Ok 299 1256 (lwl i) [vI x] h1 _
  refine ok_aload_n (k := 1256) lk_299_1256 rfl ?_
  refine ok_cvirtual (k := 1257) lk_299_1257 (Nat.le_of_ble_eq_true rfl) (as := [vR (some 99)]) (s := [vI x]) (ls0 := [some (vR (some 99)), none, none]) rfl ⟨Nat.le_of_ble_eq_true rfl, Nat.le_of_ble_eq_true rfl, rcv_of (c := 12) rfl (congrArg Prod.fst ((ps.2 99 (Nat.lt_of_lt_of_le (by decide) j.1.2.2)).trans (fs_99 j.1)))⟩ rfl ?_
  refine Ok.mono H (fun v h2 H => ?_)
  obtain ⟨rfl, p02, j2⟩ := H
  show Ok 299 1258 (lwl i) [vI x, vI x] h2 _
  exact ok_icmp_eq (k := 1258) lk_299_1258 (fun _ => K h2 (S.nx p02 j.1) j2) (fun e => absurd rfl e)
set_option maxRecDepth 20000 in
theorem lc_count {h : AH} {L c i : Int} {s : Int → Int} {Q : Option AV → AH → Prop} (S : Scr h L s) (hi : 0 ≤ i ∧ i + 6 ≤ L ∧ L ≤ 3072) (hs : ∀ k, R32 (s k)) (hc : c ≤ 600) {n : Nat} {Ds : Nat → DD} {Z : DD} (j : JI h n Ds Z c) (K : ∀ h2, Scr h2 L s → (∃ n Ds Z, JI h2 n Ds Z (c + 1)) → Ok 299 1293 (lwl i) [] h2 Q) : Ok 299 1261 (lwl i) [] h Q := by
  refine ok_aload_n (k := 1261) lk_299_1261 rfl ?_
  refine lw_arg (k := 1262) lk_299_1262 lk_299_1263 lk_299_1264 lk_299_1265 lk_299_1266 S hi (by decide) ?_
  refine ok_cvirtual (k := 1267) lk_299_1267 (Nat.le_of_ble_eq_true rfl) (as := [vR (some 1), vI (s (i + 1))]) (s := []) (ls0 := [some (vR (some 1)), some (vI (s (i + 1)))]) rfl ⟨Nat.le_of_ble_eq_true rfl, Nat.le_of_ble_eq_true rfl, rcv_of (c := 11) rfl (congrArg Prod.fst (fs_1 j.1))⟩ rfl ?_
  refine Ok.mono (Ok.ps (b_count j)) (fun v h1 H => ?_)
  obtain ⟨⟨x, rfl, H⟩, p0, ps⟩ := H
  have S1 := S.nx p0 j.1
  show Ok 299 1268 (lwl i) [vI x] h1 _
  refine ok_aload_n (k := 1268) lk_299_1268 rfl ?_
  refine lw_arg (k := 1269) lk_299_1269 lk_299_1270 lk_299_1271 lk_299_1272 lk_299_1273 S1 hi (by decide) ?_
  refine ok_cvirtual (k := 1274) lk_299_1274 (Nat.le_of_ble_eq_true rfl) (as := [vR (some 99), vI (s (i + 1))]) (s := [vI x]) (ls0 := [some (vR (some 99)), some (vI (s (i + 1)))]) rfl ⟨Nat.le_of_ble_eq_true rfl, Nat.le_of_ble_eq_true rfl, rcv_of (c := 12) rfl (congrArg Prod.fst ((ps.2 99 (Nat.lt_of_lt_of_le (by decide) j.1.2.2)).trans (fs_99 j.1)))⟩ rfl ?_
  refine Ok.mono H (fun v h2 H => ?_)
  obtain ⟨rfl, p02, j2⟩ := H
  show Ok 299 1275 (lwl i) [vI x, vI x] h2 _
  exact ok_icmp_eq (k := 1275) lk_299_1275 (fun _ => K h2 (S.nx p02 j.1) j2) (fun e => absurd rfl e)
set_option maxRecDepth 20000 in
theorem lc_status {h : AH} {L c i : Int} {s : Int → Int} {Q : Option AV → AH → Prop} (S : Scr h L s) (hi : 0 ≤ i ∧ i + 6 ≤ L ∧ L ≤ 3072) (hs : ∀ k, R32 (s k)) (hc : c ≤ 600) {n : Nat} {Ds : Nat → DD} {Z : DD} (j : JI h n Ds Z c) (K : ∀ h2, Scr h2 L s → (∃ n Ds Z, JI h2 n Ds Z (c + 1)) → Ok 299 1293 (lwl i) [] h2 Q) : Ok 299 1278 (lwl i) [] h Q := by
  refine ok_aload_n (k := 1278) lk_299_1278 rfl ?_
  refine ok_cvirtual (k := 1279) lk_299_1279 (Nat.le_of_ble_eq_true rfl) (as := [vR (some 1)]) (s := []) (ls0 := [some (vR (some 1))]) rfl ⟨Nat.le_of_ble_eq_true rfl, Nat.le_of_ble_eq_true rfl, rcv_of (c := 11) rfl (congrArg Prod.fst (fs_1 j.1))⟩ rfl ?_
  refine Ok.mono (Ok.ps (b_status j)) (fun v h1 H => ?_)
  obtain ⟨⟨x, rfl, H⟩, p0, ps⟩ := H
  have S1 := S.nx p0 j.1
  show Ok 299 1280 (lwl i) [vI x] h1 _
  refine ok_aload_n (k := 1280) lk_299_1280 rfl ?_
  refine ok_cvirtual (k := 1281) lk_299_1281 (Nat.le_of_ble_eq_true rfl) (as := [vR (some 99)]) (s := [vI x]) (ls0 := [some (vR (some 99))]) rfl ⟨Nat.le_of_ble_eq_true rfl, Nat.le_of_ble_eq_true rfl, rcv_of (c := 12) rfl (congrArg Prod.fst ((ps.2 99 (Nat.lt_of_lt_of_le (by decide) j.1.2.2)).trans (fs_99 j.1)))⟩ rfl ?_
  refine Ok.mono H (fun v h2 H => ?_)
  obtain ⟨rfl, p02, j2⟩ := H
  show Ok 299 1282 (lwl i) [vI x, vI x] h2 _
  exact ok_icmp_eq (k := 1282) lk_299_1282 (fun _ => K h2 (S.nx p02 j.1) j2) (fun e => absurd rfl e)
set_option maxRecDepth 20000 in
theorem lc_digest {h : AH} {L c i : Int} {s : Int → Int} {Q : Option AV → AH → Prop} (S : Scr h L s) (hi : 0 ≤ i ∧ i + 6 ≤ L ∧ L ≤ 3072) (hs : ∀ k, R32 (s k)) (hc : c ≤ 600) {n : Nat} {Ds : Nat → DD} {Z : DD} (j : JI h n Ds Z c) (K : ∀ h2, Scr h2 L s → (∃ n Ds Z, JI h2 n Ds Z (c + 1)) → Ok 299 1293 (lwl i) [] h2 Q) : Ok 299 1285 (lwl i) [] h Q := by
  refine ok_aload_n (k := 1285) lk_299_1285 rfl ?_
  refine ok_cvirtual (k := 1286) lk_299_1286 (Nat.le_of_ble_eq_true rfl) (as := [vR (some 1)]) (s := []) (ls0 := [some (vR (some 1)), none, none, none]) rfl ⟨Nat.le_of_ble_eq_true rfl, Nat.le_of_ble_eq_true rfl, rcv_of (c := 11) rfl (congrArg Prod.fst (fs_1 j.1))⟩ rfl ?_
  refine Ok.mono (Ok.ps (b_digest j)) (fun v h1 H => ?_)
  obtain ⟨⟨x, rfl, H⟩, p0, ps⟩ := H
  have S1 := S.nx p0 j.1
  show Ok 299 1287 (lwl i) [vL x] h1 _
  refine ok_aload_n (k := 1287) lk_299_1287 rfl ?_
  refine ok_cvirtual (k := 1288) lk_299_1288 (Nat.le_of_ble_eq_true rfl) (as := [vR (some 99)]) (s := [vL x]) (ls0 := [some (vR (some 99)), none, none]) rfl ⟨Nat.le_of_ble_eq_true rfl, Nat.le_of_ble_eq_true rfl, rcv_of (c := 12) rfl (congrArg Prod.fst ((ps.2 99 (Nat.lt_of_lt_of_le (by decide) j.1.2.2)).trans (fs_99 j.1)))⟩ rfl ?_
  refine Ok.mono H (fun v h2 H => ?_)
  obtain ⟨rfl, p02, j2⟩ := H
  show Ok 299 1289 (lwl i) [vL x, vL x] h2 _
  refine ok_lcmp (k := 1289) lk_299_1289 ?_
  exact ok_if_eq (k := 1290) lk_299_1290 (fun _ => K h2 (S.nx p02 j.1) j2) (fun e => absurd (by rw [if_neg (Int.lt_irrefl x), if_pos rfl]) e)
