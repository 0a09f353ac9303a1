set_option maxRecDepth 100000 in
theorem ck_150_0 : ckL 150 (mC 150) 15 ((cd 150).drop 0) = true := by decide +kernel
theorem eok_150 (k : Nat) : EOK 150 k := by
  by_cases h0 : k < 15
  · exact eok_of ck_150_0 (by omega) h0
  exact eok_none (nth_len (by show (cd_150).length ≤ k; exact Nat.le_trans (Nat.le_of_eq rfl) (Nat.not_lt.mp h0)))
set_option maxRecDepth 100000 in
theorem ck_151_0 : ckL 151 (mC 151) 50 ((cd 151).drop 0) = true := by decide +kernel
theorem eok_151 (k : Nat) : EOK 151 k := by
  by_cases h0 : k < 50
  · exact eok_of ck_151_0 (by omega) h0
  exact eok_none (nth_len (by show (cd_151).length ≤ k; exact Nat.le_trans (Nat.le_of_eq rfl) (Nat.not_lt.mp h0)))
set_option maxRecDepth 100000 in
theorem ck_152_0 : ckL 152 (mC 152) 33 ((cd 152).drop 0) = true := by decide +kernel
theorem eok_152 (k : Nat) : EOK 152 k := by
  by_cases h0 : k < 33
  · exact eok_of ck_152_0 (by omega) h0
  exact eok_none (nth_len (by show (cd_152).length ≤ k; exact Nat.le_trans (Nat.le_of_eq rfl) (Nat.not_lt.mp h0)))
set_option maxRecDepth 100000 in
theorem ck_153_0 : ckL 153 (mC 153) 48 ((cd 153).drop 0) = true := by decide +kernel
theorem eok_153 (k : Nat) : EOK 153 k := by
  by_cases h0 : k < 48
  · exact eok_of ck_153_0 (by omega) h0
  exact eok_none (nth_len (by show (cd_153).length ≤ k; exact Nat.le_trans (Nat.le_of_eq rfl) (Nat.not_lt.mp h0)))
set_option maxRecDepth 100000 in
theorem ck_154_0 : ckL 154 (mC 154) 48 ((cd 154).drop 0) = true := by decide +kernel
theorem eok_154 (k : Nat) : EOK 154 k := by
  by_cases h0 : k < 48
  · exact eok_of ck_154_0 (by omega) h0
  exact eok_none (nth_len (by show (cd_154).length ≤ k; exact Nat.le_trans (Nat.le_of_eq rfl) (Nat.not_lt.mp h0)))
set_option maxRecDepth 100000 in
theorem ck_155_0 : ckL 155 (mC 155) 26 ((cd 155).drop 0) = true := by decide +kernel
theorem eok_155 (k : Nat) : EOK 155 k := by
  by_cases h0 : k < 26
  · exact eok_of ck_155_0 (by omega) h0
  exact eok_none (nth_len (by show (cd_155).length ≤ k; exact Nat.le_trans (Nat.le_of_eq rfl) (Nat.not_lt.mp h0)))
set_option maxRecDepth 100000 in
theorem ck_156_0 : ckL 156 (mC 156) 60 ((cd 156).drop 0) = true := by decide +kernel
set_option maxRecDepth 100000 in
theorem ck_156_60 : ckL 156 (mC 156) 23 ((cd 156).drop 60) = true := by decide +kernel
theorem eok_156 (k : Nat) : EOK 156 k := by
  by_cases h0 : k < 60
  · exact eok_of ck_156_0 (by omega) h0
  by_cases h60 : k < 83
  · exact eok_of ck_156_60 (by omega) h60
  exact eok_none (nth_len (by show (cd_156).length ≤ k; exact Nat.le_trans (Nat.le_of_eq rfl) (Nat.not_lt.mp h60)))
set_option maxRecDepth 100000 in
theorem ck_157_0 : ckL 157 (mC 157) 60 ((cd 157).drop 0) = true := by decide +kernel
set_option maxRecDepth 100000 in
theorem ck_157_60 : ckL 157 (mC 157) 11 ((cd 157).drop 60) = true := by decide +kernel
theorem eok_157 (k : Nat) : EOK 157 k := by
  by_cases h0 : k < 60
  · exact eok_of ck_157_0 (by omega) h0
  by_cases h60 : k < 71
  · exact eok_of ck_157_60 (by omega) h60
  exact eok_none (nth_len (by show (cd_157).length ≤ k; exact Nat.le_trans (Nat.le_of_eq rfl) (Nat.not_lt.mp h60)))
set_option maxRecDepth 100000 in
theorem ck_158_0 : ckL 158 (mC 158) 60 ((cd 158).drop 0) = true := by decide +kernel
set_option maxRecDepth 100000 in
theorem ck_158_60 : ckL 158 (mC 158) 13 ((cd 158).drop 60) = true := by decide +kernel
theorem eok_158 (k : Nat) : EOK 158 k := by
  by_cases h0 : k < 60
  · exact eok_of ck_158_0 (by omega) h0
  by_cases h60 : k < 73
  · exact eok_of ck_158_60 (by omega) h60
  exact eok_none (nth_len (by show (cd_158).length ≤ k; exact Nat.le_trans (Nat.le_of_eq rfl) (Nat.not_lt.mp h60)))
set_option maxRecDepth 100000 in
theorem ck_159_0 : ckL 159 (mC 159) 57 ((cd 159).drop 0) = true := by decide +kernel
theorem eok_159 (k : Nat) : EOK 159 k := by
  by_cases h0 : k < 57
  · exact eok_of ck_159_0 (by omega) h0
  exact eok_none (nth_len (by show (cd_159).length ≤ k; exact Nat.le_trans (Nat.le_of_eq rfl) (Nat.not_lt.mp h0)))
set_option maxRecDepth 100000 in
theorem ck_160_0 : ckL 160 (mC 160) 60 ((cd 160).drop 0) = true := by decide +kernel
set_option maxRecDepth 100000 in
theorem ck_160_60 : ckL 160 (mC 160) 49 ((cd 160).drop 60) = true := by decide +kernel
theorem eok_160 (k : Nat) : EOK 160 k := by
  by_cases h0 : k < 60
  · exact eok_of ck_160_0 (by omega) h0
  by_cases h60 : k < 109
  · exact eok_of ck_160_60 (by omega) h60
  exact eok_none (nth_len (by show (cd_160).length ≤ k; exact Nat.le_trans (Nat.le_of_eq rfl) (Nat.not_lt.mp h60)))
set_option maxRecDepth 100000 in
theorem ck_161_0 : ckL 161 (mC 161) 32 ((cd 161).drop 0) = true := by decide +kernel
theorem eok_161 (k : Nat) : EOK 161 k := by
  by_cases h0 : k < 32
  · exact eok_of ck_161_0 (by omega) h0
  exact eok_none (nth_len (by show (cd_161).length ≤ k; exact Nat.le_trans (Nat.le_of_eq rfl) (Nat.not_lt.mp h0)))
set_option maxRecDepth 100000 in
theorem ck_162_0 : ckL 162 (mC 162) 7 ((cd 162).drop 0) = true := by decide +kernel
theorem eok_162 (k : Nat) : EOK 162 k := by
  by_cases h0 : k < 7
  · exact eok_of ck_162_0 (by omega) h0
  exact eok_none (nth_len (by show (cd_162).length ≤ k; exact Nat.le_trans (Nat.le_of_eq rfl) (Nat.not_lt.mp h0)))
set_option maxRecDepth 100000 in
theorem ck_163_0 : ckL 163 (mC 163) 7 ((cd 163).drop 0) = true := by decide +kernel
theorem eok_163 (k : Nat) : EOK 163 k := by
  by_cases h0 : k < 7
  · exact eok_of ck_163_0 (by omega) h0
  exact eok_none (nth_len (by show (cd_163).length ≤ k; exact Nat.le_trans (Nat.le_of_eq rfl) (Nat.not_lt.mp h0)))
set_option maxRecDepth 100000 in
theorem ck_164_0 : ckL 164 (mC 164) 7 ((cd 164).drop 0) = true := by decide +kernel
theorem eok_164 (k : Nat) : EOK 164 k := by
  by_cases h0 : k < 7
  · exact eok_of ck_164_0 (by omega) h0
  exact eok_none (nth_len (by show (cd_164).length ≤ k; exact Nat.le_trans (Nat.le_of_eq rfl) (Nat.not_lt.mp h0)))
set_option maxRecDepth 100000 in
theorem ck_165_0 : ckL 165 (mC 165) 36 ((cd 165).drop 0) = true := by decide +kernel
theorem eok_165 (k : Nat) : EOK 165 k := by
  by_cases h0 : k < 36
  · exact eok_of ck_165_0 (by omega) h0
  exact eok_none (nth_len (by show (cd_165).length ≤ k; exact Nat.le_trans (Nat.le_of_eq rfl) (Nat.not_lt.mp h0)))
set_option maxRecDepth 100000 in
theorem ck_166_0 : ckL 166 (mC 166) 14 ((cd 166).drop 0) = true := by decide +kernel
theorem eok_166 (k : Nat) : EOK 166 k := by
  by_cases h0 : k < 14
  · exact eok_of ck_166_0 (by omega) h0
  exact eok_none (nth_len (by show (cd_166).length ≤ k; exact Nat.le_trans (Nat.le_of_eq rfl) (Nat.not_lt.mp h0)))
set_option maxRecDepth 100000 in
theorem ck_167_0 : ckL 167 (mC 167) 7 ((cd 167).drop 0) = true := by decide +kernel
theorem eok_167 (k : Nat) : EOK 167 k := by
  by_cases h0 : k < 7
  · exact eok_of ck_167_0 (by omega) h0
  exact eok_none (nth_len (by show (cd_167).length ≤ k; exact Nat.le_trans (Nat.le_of_eq rfl) (Nat.not_lt.mp h0)))
set_option maxRecDepth 100000 in
theorem ck_168_0 : ckL 168 (mC 168) 7 ((cd 168).drop 0) = true := by decide +kernel
theorem eok_168 (k : Nat) : EOK 168 k := by
  by_cases h0 : k < 7
  · exact eok_of ck_168_0 (by omega) h0
  exact eok_none (nth_len (by show (cd_168).length ≤ k; exact Nat.le_trans (Nat.le_of_eq rfl) (Nat.not_lt.mp h0)))
set_option maxRecDepth 100000 in
theorem ck_169_0 : ckL 169 (mC 169) 30 ((cd 169).drop 0) = true := by decide +kernel
theorem eok_169 (k : Nat) : EOK 169 k := by
  by_cases h0 : k < 30
  · exact eok_of ck_169_0 (by omega) h0
  exact eok_none (nth_len (by show (cd_169).length ≤ k; exact Nat.le_trans (Nat.le_of_eq rfl) (Nat.not_lt.mp h0)))
set_option maxRecDepth 100000 in
theorem ck_170_0 : ckL 170 (mC 170) 60 ((cd 170).drop 0) = true := by decide +kernel
set_option maxRecDepth 100000 in
theorem ck_170_60 : ckL 170 (mC 170) 12 ((cd 170).drop 60) = true := by decide +kernel
theorem eok_170 (k : Nat) : EOK 170 k := by
  by_cases h0 : k < 60
  · exact eok_of ck_170_0 (by omega) h0
  by_cases h60 : k < 72
  · exact eok_of ck_170_60 (by omega) h60
  exact eok_none (nth_len (by show (cd_170).length ≤ k; exact Nat.le_trans (Nat.le_of_eq rfl) (Nat.not_lt.mp h60)))
set_option maxRecDepth 100000 in
theorem ck_171_0 : ckL 171 (mC 171) 60 ((cd 171).drop 0) = true := by decide +kernel
set_option maxRecDepth 100000 in
theorem ck_171_60 : ckL 171 (mC 171) 20 ((cd 171).drop 60) = true := by decide +kernel
theorem eok_171 (k : Nat) : EOK 171 k := by
  by_cases h0 : k < 60
  · exact eok_of ck_171_0 (by omega) h0
  by_cases h60 : k < 80
  · exact eok_of ck_171_60 (by omega) h60
  exact eok_none (nth_len (by show (cd_171).length ≤ k; exact Nat.le_trans (Nat.le_of_eq rfl) (Nat.not_lt.mp h60)))
set_option maxRecDepth 100000 in
theorem ck_172_0 : ckL 172 (mC 172) 60 ((cd 172).drop 0) = true := by decide +kernel
set_option maxRecDepth 100000 in
theorem ck_172_60 : ckL 172 (mC 172) 7 ((cd 172).drop 60) = true := by decide +kernel
theorem eok_172 (k : Nat) : EOK 172 k := by
  by_cases h0 : k < 60
  · exact eok_of ck_172_0 (by omega) h0
  by_cases h60 : k < 67
  · exact eok_of ck_172_60 (by omega) h60
  exact eok_none (nth_len (by show (cd_172).length ≤ k; exact Nat.le_trans (Nat.le_of_eq rfl) (Nat.not_lt.mp h60)))
set_option maxRecDepth 100000 in
theorem ck_173_0 : ckL 173 (mC 173) 18 ((cd 173).drop 0) = true := by decide +kernel
theorem eok_173 (k : Nat) : EOK 173 k := by
  by_cases h0 : k < 18
  · exact eok_of ck_173_0 (by omega) h0
  exact eok_none (nth_len (by show (cd_173).length ≤ k; exact Nat.le_trans (Nat.le_of_eq rfl) (Nat.not_lt.mp h0)))
set_option maxRecDepth 100000 in
theorem ck_174_0 : ckL 174 (mC 174) 24 ((cd 174).drop 0) = true := by decide +kernel
theorem eok_174 (k : Nat) : EOK 174 k := by
  by_cases h0 : k < 24
  · exact eok_of ck_174_0 (by omega) h0
  exact eok_none (nth_len (by show (cd_174).length ≤ k; exact Nat.le_trans (Nat.le_of_eq rfl) (Nat.not_lt.mp h0)))
set_option maxRecDepth 100000 in
theorem ck_175_0 : ckL 175 (mC 175) 37 ((cd 175).drop 0) = true := by decide +kernel
theorem eok_175 (k : Nat) : EOK 175 k := by
  by_cases h0 : k < 37
  · exact eok_of ck_175_0 (by omega) h0
  exact eok_none (nth_len (by show (cd_175).length ≤ k; exact Nat.le_trans (Nat.le_of_eq rfl) (Nat.not_lt.mp h0)))
set_option maxRecDepth 100000 in
theorem ck_176_0 : ckL 176 (mC 176) 37 ((cd 176).drop 0) = true := by decide +kernel
theorem eok_176 (k : Nat) : EOK 176 k := by
  by_cases h0 : k < 37
  · exact eok_of ck_176_0 (by omega) h0
  exact eok_none (nth_len (by show (cd_176).length ≤ k; exact Nat.le_trans (Nat.le_of_eq rfl) (Nat.not_lt.mp h0)))
set_option maxRecDepth 100000 in
theorem ck_177_0 : ckL 177 (mC 177) 47 ((cd 177).drop 0) = true := by decide +kernel
theorem eok_177 (k : Nat) : EOK 177 k := by
  by_cases h0 : k < 47
  · exact eok_of ck_177_0 (by omega) h0
  exact eok_none (nth_len (by show (cd_177).length ≤ k; exact Nat.le_trans (Nat.le_of_eq rfl) (Nat.not_lt.mp h0)))
set_option maxRecDepth 100000 in
theorem ck_178_0 : ckL 178 (mC 178) 12 ((cd 178).drop 0) = true := by decide +kernel
theorem eok_178 (k : Nat) : EOK 178 k := by
  by_cases h0 : k < 12
  · exact eok_of ck_178_0 (by omega) h0
  exact eok_none (nth_len (by show (cd_178).length ≤ k; exact Nat.le_trans (Nat.le_of_eq rfl) (Nat.not_lt.mp h0)))
set_option maxRecDepth 100000 in
theorem ck_179_0 : ckL 179 (mC 179) 22 ((cd 179).drop 0) = true := by decide +kernel
theorem eok_179 (k : Nat) : EOK 179 k := by
  by_cases h0 : k < 22
  · exact eok_of ck_179_0 (by omega) h0
  exact eok_none (nth_len (by show (cd_179).length ≤ k; exact Nat.le_trans (Nat.le_of_eq rfl) (Nat.not_lt.mp h0)))
set_option maxRecDepth 100000 in
theorem ck_180_0 : ckL 180 (mC 180) 11 ((cd 180).drop 0) = true := by decide +kernel
theorem eok_180 (k : Nat) : EOK 180 k := by
  by_cases h0 : k < 11
  · exact eok_of ck_180_0 (by omega) h0
  exact eok_none (nth_len (by show (cd_180).length ≤ k; exact Nat.le_trans (Nat.le_of_eq rfl) (Nat.not_lt.mp h0)))
set_option maxRecDepth 100000 in
theorem ck_181_0 : ckL 181 (mC 181) 11 ((cd 181).drop 0) = true := by decide +kernel
theorem eok_181 (k : Nat) : EOK 181 k := by
  by_cases h0 : k < 11
  · exact eok_of ck_181_0 (by omega) h0
  exact eok_none (nth_len (by show (cd_181).length ≤ k; exact Nat.le_trans (Nat.le_of_eq rfl) (Nat.not_lt.mp h0)))
set_option maxRecDepth 100000 in
theorem ck_182_0 : ckL 182 (mC 182) 14 ((cd 182).drop 0) = true := by decide +kernel
theorem eok_182 (k : Nat) : EOK 182 k := by
  by_cases h0 : k < 14
  · exact eok_of ck_182_0 (by omega) h0
  exact eok_none (nth_len (by show (cd_182).length ≤ k; exact Nat.le_trans (Nat.le_of_eq rfl) (Nat.not_lt.mp h0)))
set_option maxRecDepth 100000 in
theorem ck_183_0 : ckL 183 (mC 183) 5 ((cd 183).drop 0) = true := by decide +kernel
theorem eok_183 (k : Nat) : EOK 183 k := by
  by_cases h0 : k < 5
  · exact eok_of ck_183_0 (by omega) h0
  exact eok_none (nth_len (by show (cd_183).length ≤ k; exact Nat.le_trans (Nat.le_of_eq rfl) (Nat.not_lt.mp h0)))
set_option maxRecDepth 100000 in
theorem ck_184_0 : ckL 184 (mC 184) 23 ((cd 184).drop 0) = true := by decide +kernel
theorem eok_184 (k : Nat) : EOK 184 k := by
  by_cases h0 : k < 23
  · exact eok_of ck_184_0 (by omega) h0
  exact eok_none (nth_len (by show (cd_184).length ≤ k; exact Nat.le_trans (Nat.le_of_eq rfl) (Nat.not_lt.mp h0)))
set_option maxRecDepth 100000 in
theorem ck_185_0 : ckL 185 (mC 185) 45 ((cd 185).drop 0) = true := by decide +kernel
theorem eok_185 (k : Nat) : EOK 185 k := by
  by_cases h0 : k < 45
  · exact eok_of ck_185_0 (by omega) h0
  exact eok_none (nth_len (by show (cd_185).length ≤ k; exact Nat.le_trans (Nat.le_of_eq rfl) (Nat.not_lt.mp h0)))
set_option maxRecDepth 100000 in
theorem ck_186_0 : ckL 186 (mC 186) 3 ((cd 186).drop 0) = true := by decide +kernel
theorem eok_186 (k : Nat) : EOK 186 k := by
  by_cases h0 : k < 3
  · exact eok_of ck_186_0 (by omega) h0
  exact eok_none (nth_len (by show (cd_186).length ≤ k; exact Nat.le_trans (Nat.le_of_eq rfl) (Nat.not_lt.mp h0)))
set_option maxRecDepth 100000 in
theorem ck_187_0 : ckL 187 (mC 187) 60 ((cd 187).drop 0) = true := by decide +kernel
set_option maxRecDepth 100000 in
theorem ck_187_60 : ckL 187 (mC 187) 59 ((cd 187).drop 60) = true := by decide +kernel
theorem eok_187 (k : Nat) : EOK 187 k := by
  by_cases h0 : k < 60
  · exact eok_of ck_187_0 (by omega) h0
  by_cases h60 : k < 119
  · exact eok_of ck_187_60 (by omega) h60
  exact eok_none (nth_len (by show (cd_187).length ≤ k; exact Nat.le_trans (Nat.le_of_eq rfl) (Nat.not_lt.mp h60)))
set_option maxRecDepth 100000 in
theorem ck_188_0 : ckL 188 (mC 188) 60 ((cd 188).drop 0) = true := by decide +kernel
set_option maxRecDepth 100000 in
theorem ck_188_60 : ckL 188 (mC 188) 60 ((cd 188).drop 60) = true := by decide +kernel
set_option maxRecDepth 100000 in
theorem ck_188_120 : ckL 188 (mC 188) 27 ((cd 188).drop 120) = true := by decide +kernel
theorem eok_188 (k : Nat) : EOK 188 k := by
  by_cases h0 : k < 60
  · exact eok_of ck_188_0 (by omega) h0
  by_cases h60 : k < 120
  · exact eok_of ck_188_60 (by omega) h60
  by_cases h120 : k < 147
  · exact eok_of ck_188_120 (by omega) h120
  exact eok_none (nth_len (by show (cd_188).length ≤ k; exact Nat.le_trans (Nat.le_of_eq rfl) (Nat.not_lt.mp h120)))
set_option maxRecDepth 100000 in
theorem ck_189_0 : ckL 189 (mC 189) 10 ((cd 189).drop 0) = true := by decide +kernel
theorem eok_189 (k : Nat) : EOK 189 k := by
  by_cases h0 : k < 10
  · exact eok_of ck_189_0 (by omega) h0
  exact eok_none (nth_len (by show (cd_189).length ≤ k; exact Nat.le_trans (Nat.le_of_eq rfl) (Nat.not_lt.mp h0)))
set_option maxRecDepth 100000 in
theorem ck_190_0 : ckL 190 (mC 190) 5 ((cd 190).drop 0) = true := by decide +kernel
theorem eok_190 (k : Nat) : EOK 190 k := by
  by_cases h0 : k < 5
  · exact eok_of ck_190_0 (by omega) h0
  exact eok_none (nth_len (by show (cd_190).length ≤ k; exact Nat.le_trans (Nat.le_of_eq rfl) (Nat.not_lt.mp h0)))
set_option maxRecDepth 100000 in
theorem ck_191_0 : ckL 191 (mC 191) 17 ((cd 191).drop 0) = true := by decide +kernel
theorem eok_191 (k : Nat) : EOK 191 k := by
  by_cases h0 : k < 17
  · exact eok_of ck_191_0 (by omega) h0
  exact eok_none (nth_len (by show (cd_191).length ≤ k; exact Nat.le_trans (Nat.le_of_eq rfl) (Nat.not_lt.mp h0)))
set_option maxRecDepth 100000 in
theorem ck_192_0 : ckL 192 (mC 192) 8 ((cd 192).drop 0) = true := by decide +kernel
theorem eok_192 (k : Nat) : EOK 192 k := by
  by_cases h0 : k < 8
  · exact eok_of ck_192_0 (by omega) h0
  exact eok_none (nth_len (by show (cd_192).length ≤ k; exact Nat.le_trans (Nat.le_of_eq rfl) (Nat.not_lt.mp h0)))
set_option maxRecDepth 100000 in
theorem ck_193_0 : ckL 193 (mC 193) 8 ((cd 193).drop 0) = true := by decide +kernel
theorem eok_193 (k : Nat) : EOK 193 k := by
  by_cases h0 : k < 8
  · exact eok_of ck_193_0 (by omega) h0
  exact eok_none (nth_len (by show (cd_193).length ≤ k; exact Nat.le_trans (Nat.le_of_eq rfl) (Nat.not_lt.mp h0)))
set_option maxRecDepth 100000 in
theorem ck_194_0 : ckL 194 (mC 194) 18 ((cd 194).drop 0) = true := by decide +kernel
theorem eok_194 (k : Nat) : EOK 194 k := by
  by_cases h0 : k < 18
  · exact eok_of ck_194_0 (by omega) h0
  exact eok_none (nth_len (by show (cd_194).length ≤ k; exact Nat.le_trans (Nat.le_of_eq rfl) (Nat.not_lt.mp h0)))
set_option maxRecDepth 100000 in
theorem ck_195_0 : ckL 195 (mC 195) 16 ((cd 195).drop 0) = true := by decide +kernel
theorem eok_195 (k : Nat) : EOK 195 k := by
  by_cases h0 : k < 16
  · exact eok_of ck_195_0 (by omega) h0
  exact eok_none (nth_len (by show (cd_195).length ≤ k; exact Nat.le_trans (Nat.le_of_eq rfl) (Nat.not_lt.mp h0)))
set_option maxRecDepth 100000 in
theorem ck_196_0 : ckL 196 (mC 196) 60 ((cd 196).drop 0) = true := by decide +kernel
set_option maxRecDepth 100000 in
theorem ck_196_60 : ckL 196 (mC 196) 20 ((cd 196).drop 60) = true := by decide +kernel
theorem eok_196 (k : Nat) : EOK 196 k := by
  by_cases h0 : k < 60
  · exact eok_of ck_196_0 (by omega) h0
  by_cases h60 : k < 80
  · exact eok_of ck_196_60 (by omega) h60
  exact eok_none (nth_len (by show (cd_196).length ≤ k; exact Nat.le_trans (Nat.le_of_eq rfl) (Nat.not_lt.mp h60)))
set_option maxRecDepth 100000 in
theorem ck_197_0 : ckL 197 (mC 197) 41 ((cd 197).drop 0) = true := by decide +kernel
theorem eok_197 (k : Nat) : EOK 197 k := by
  by_cases h0 : k < 41
  · exact eok_of ck_197_0 (by omega) h0
  exact eok_none (nth_len (by show (cd_197).length ≤ k; exact Nat.le_trans (Nat.le_of_eq rfl) (Nat.not_lt.mp h0)))
set_option maxRecDepth 100000 in
theorem ck_198_0 : ckL 198 (mC 198) 51 ((cd 198).drop 0) = true := by decide +kernel
theorem eok_198 (k : Nat) : EOK 198 k := by
  by_cases h0 : k < 51
  · exact eok_of ck_198_0 (by omega) h0
  exact eok_none (nth_len (by show (cd_198).length ≤ k; exact Nat.le_trans (Nat.le_of_eq rfl) (Nat.not_lt.mp h0)))
set_option maxRecDepth 100000 in
theorem ck_199_0 : ckL 199 (mC 199) 34 ((cd 199).drop 0) = true := by decide +kernel
theorem eok_199 (k : Nat) : EOK 199 k := by
  by_cases h0 : k < 34
  · exact eok_of ck_199_0 (by omega) h0
  exact eok_none (nth_len (by show (cd_199).length ≤ k; exact Nat.le_trans (Nat.le_of_eq rfl) (Nat.not_lt.mp h0)))
set_option maxRecDepth 100000 in
theorem ck_200_0 : ckL 200 (mC 200) 16 ((cd 200).drop 0) = true := by decide +kernel
theorem eok_200 (k : Nat) : EOK 200 k := by
  by_cases h0 : k < 16
  · exact eok_of ck_200_0 (by omega) h0
  exact eok_none (nth_len (by show (cd_200).length ≤ k; exact Nat.le_trans (Nat.le_of_eq rfl) (Nat.not_lt.mp h0)))
set_option maxRecDepth 100000 in
theorem ck_201_0 : ckL 201 (mC 201) 60 ((cd 201).drop 0) = true := by decide +kernel
set_option maxRecDepth 100000 in
theorem ck_201_60 : ckL 201 (mC 201) 12 ((cd 201).drop 60) = true := by decide +kernel
theorem eok_201 (k : Nat) : EOK 201 k := by
  by_cases h0 : k < 60
  · exact eok_of ck_201_0 (by omega) h0
  by_cases h60 : k < 72
  · exact eok_of ck_201_60 (by omega) h60
  exact eok_none (nth_len (by show (cd_201).length ≤ k; exact Nat.le_trans (Nat.le_of_eq rfl) (Nat.not_lt.mp h60)))
set_option maxRecDepth 100000 in
theorem ck_202_0 : ckL 202 (mC 202) 6 ((cd 202).drop 0) = true := by decide +kernel
theorem eok_202 (k : Nat) : EOK 202 k := by
  by_cases h0 : k < 6
  · exact eok_of ck_202_0 (by omega) h0
  exact eok_none (nth_len (by show (cd_202).length ≤ k; exact Nat.le_trans (Nat.le_of_eq rfl) (Nat.not_lt.mp h0)))
set_option maxRecDepth 100000 in
theorem ck_203_0 : ckL 203 (mC 203) 18 ((cd 203).drop 0) = true := by decide +kernel
theorem eok_203 (k : Nat) : EOK 203 k := by
  by_cases h0 : k < 18
  · exact eok_of ck_203_0 (by omega) h0
  exact eok_none (nth_len (by show (cd_203).length ≤ k; exact Nat.le_trans (Nat.le_of_eq rfl) (Nat.not_lt.mp h0)))
set_option maxRecDepth 100000 in
theorem ck_204_0 : ckL 204 (mC 204) 35 ((cd 204).drop 0) = true := by decide +kernel
theorem eok_204 (k : Nat) : EOK 204 k := by
  by_cases h0 : k < 35
  · exact eok_of ck_204_0 (by omega) h0
  exact eok_none (nth_len (by show (cd_204).length ≤ k; exact Nat.le_trans (Nat.le_of_eq rfl) (Nat.not_lt.mp h0)))
set_option maxRecDepth 100000 in
theorem ck_205_0 : ckL 205 (mC 205) 35 ((cd 205).drop 0) = true := by decide +kernel
theorem eok_205 (k : Nat) : EOK 205 k := by
  by_cases h0 : k < 35
  · exact eok_of ck_205_0 (by omega) h0
  exact eok_none (nth_len (by show (cd_205).length ≤ k; exact Nat.le_trans (Nat.le_of_eq rfl) (Nat.not_lt.mp h0)))
set_option maxRecDepth 100000 in
theorem ck_206_0 : ckL 206 (mC 206) 60 ((cd 206).drop 0) = true := by decide +kernel
set_option maxRecDepth 100000 in
theorem ck_206_60 : ckL 206 (mC 206) 12 ((cd 206).drop 60) = true := by decide +kernel
theorem eok_206 (k : Nat) : EOK 206 k := by
  by_cases h0 : k < 60
  · exact eok_of ck_206_0 (by omega) h0
  by_cases h60 : k < 72
  · exact eok_of ck_206_60 (by omega) h60
  exact eok_none (nth_len (by show (cd_206).length ≤ k; exact Nat.le_trans (Nat.le_of_eq rfl) (Nat.not_lt.mp h60)))
set_option maxRecDepth 100000 in
theorem ck_207_0 : ckL 207 (mC 207) 18 ((cd 207).drop 0) = true := by decide +kernel
theorem eok_207 (k : Nat) : EOK 207 k := by
  by_cases h0 : k < 18
  · exact eok_of ck_207_0 (by omega) h0
  exact eok_none (nth_len (by show (cd_207).length ≤ k; exact Nat.le_trans (Nat.le_of_eq rfl) (Nat.not_lt.mp h0)))
set_option maxRecDepth 100000 in
theorem ck_208_0 : ckL 208 (mC 208) 60 ((cd 208).drop 0) = true := by decide +kernel
set_option maxRecDepth 100000 in
theorem ck_208_60 : ckL 208 (mC 208) 2 ((cd 208).drop 60) = true := by decide +kernel
theorem eok_208 (k : Nat) : EOK 208 k := by
  by_cases h0 : k < 60
  · exact eok_of ck_208_0 (by omega) h0
  by_cases h60 : k < 62
  · exact eok_of ck_208_60 (by omega) h60
  exact eok_none (nth_len (by show (cd_208).length ≤ k; exact Nat.le_trans (Nat.le_of_eq rfl) (Nat.not_lt.mp h60)))
set_option maxRecDepth 100000 in
theorem ck_209_0 : ckL 209 (mC 209) 34 ((cd 209).drop 0) = true := by decide +kernel
theorem eok_209 (k : Nat) : EOK 209 k := by
  by_cases h0 : k < 34
  · exact eok_of ck_209_0 (by omega) h0
  exact eok_none (nth_len (by show (cd_209).length ≤ k; exact Nat.le_trans (Nat.le_of_eq rfl) (Nat.not_lt.mp h0)))
set_option maxRecDepth 100000 in
theorem ck_210_0 : ckL 210 (mC 210) 60 ((cd 210).drop 0) = true := by decide +kernel
set_option maxRecDepth 100000 in
theorem ck_210_60 : ckL 210 (mC 210) 10 ((cd 210).drop 60) = true := by decide +kernel
theorem eok_210 (k : Nat) : EOK 210 k := by
  by_cases h0 : k < 60
  · exact eok_of ck_210_0 (by omega) h0
  by_cases h60 : k < 70
  · exact eok_of ck_210_60 (by omega) h60
  exact eok_none (nth_len (by show (cd_210).length ≤ k; exact Nat.le_trans (Nat.le_of_eq rfl) (Nat.not_lt.mp h60)))
set_option maxRecDepth 100000 in
theorem ck_211_0 : ckL 211 (mC 211) 28 ((cd 211).drop 0) = true := by decide +kernel
theorem eok_211 (k : Nat) : EOK 211 k := by
  by_cases h0 : k < 28
  · exact eok_of ck_211_0 (by omega) h0
  exact eok_none (nth_len (by show (cd_211).length ≤ k; exact Nat.le_trans (Nat.le_of_eq rfl) (Nat.not_lt.mp h0)))
set_option maxRecDepth 100000 in
theorem ck_212_0 : ckL 212 (mC 212) 14 ((cd 212).drop 0) = true := by decide +kernel
theorem eok_212 (k : Nat) : EOK 212 k := by
  by_cases h0 : k < 14
  · exact eok_of ck_212_0 (by omega) h0
  exact eok_none (nth_len (by show (cd_212).length ≤ k; exact Nat.le_trans (Nat.le_of_eq rfl) (Nat.not_lt.mp h0)))
set_option maxRecDepth 100000 in
theorem ck_213_0 : ckL 213 (mC 213) 27 ((cd 213).drop 0) = true := by decide +kernel
theorem eok_213 (k : Nat) : EOK 213 k := by
  by_cases h0 : k < 27
  · exact eok_of ck_213_0 (by omega) h0
  exact eok_none (nth_len (by show (cd_213).length ≤ k; exact Nat.le_trans (Nat.le_of_eq rfl) (Nat.not_lt.mp h0)))
set_option maxRecDepth 100000 in
theorem ck_214_0 : ckL 214 (mC 214) 22 ((cd 214).drop 0) = true := by decide +kernel
theorem eok_214 (k : Nat) : EOK 214 k := by
  by_cases h0 : k < 22
  · exact eok_of ck_214_0 (by omega) h0
  exact eok_none (nth_len (by show (cd_214).length ≤ k; exact Nat.le_trans (Nat.le_of_eq rfl) (Nat.not_lt.mp h0)))
set_option maxRecDepth 100000 in
theorem ck_215_0 : ckL 215 (mC 215) 60 ((cd 215).drop 0) = true := by decide +kernel
set_option maxRecDepth 100000 in
theorem ck_215_60 : ckL 215 (mC 215) 24 ((cd 215).drop 60) = true := by decide +kernel
theorem eok_215 (k : Nat) : EOK 215 k := by
  by_cases h0 : k < 60
  · exact eok_of ck_215_0 (by omega) h0
  by_cases h60 : k < 84
  · exact eok_of ck_215_60 (by omega) h60
  exact eok_none (nth_len (by show (cd_215).length ≤ k; exact Nat.le_trans (Nat.le_of_eq rfl) (Nat.not_lt.mp h60)))
set_option maxRecDepth 100000 in
theorem ck_216_0 : ckL 216 (mC 216) 49 ((cd 216).drop 0) = true := by decide +kernel
theorem eok_216 (k : Nat) : EOK 216 k := by
  by_cases h0 : k < 49
  · exact eok_of ck_216_0 (by omega) h0
  exact eok_none (nth_len (by show (cd_216).length ≤ k; exact Nat.le_trans (Nat.le_of_eq rfl) (Nat.not_lt.mp h0)))
set_option maxRecDepth 100000 in
theorem ck_217_0 : ckL 217 (mC 217) 18 ((cd 217).drop 0) = true := by decide +kernel
theorem eok_217 (k : Nat) : EOK 217 k := by
  by_cases h0 : k < 18
  · exact eok_of ck_217_0 (by omega) h0
  exact eok_none (nth_len (by show (cd_217).length ≤ k; exact Nat.le_trans (Nat.le_of_eq rfl) (Nat.not_lt.mp h0)))
set_option maxRecDepth 100000 in
theorem ck_218_0 : ckL 218 (mC 218) 51 ((cd 218).drop 0) = true := by decide +kernel
theorem eok_218 (k : Nat) : EOK 218 k := by
  by_cases h0 : k < 51
  · exact eok_of ck_218_0 (by omega) h0
  exact eok_none (nth_len (by show (cd_218).length ≤ k; exact Nat.le_trans (Nat.le_of_eq rfl) (Nat.not_lt.mp h0)))
set_option maxRecDepth 100000 in
theorem ck_219_0 : ckL 219 (mC 219) 60 ((cd 219).drop 0) = true := by decide +kernel
set_option maxRecDepth 100000 in
theorem ck_219_60 : ckL 219 (mC 219) 33 ((cd 219).drop 60) = true := by decide +kernel
theorem eok_219 (k : Nat) : EOK 219 k := by
  by_cases h0 : k < 60
  · exact eok_of ck_219_0 (by omega) h0
  by_cases h60 : k < 93
  · exact eok_of ck_219_60 (by omega) h60
  exact eok_none (nth_len (by show (cd_219).length ≤ k; exact Nat.le_trans (Nat.le_of_eq rfl) (Nat.not_lt.mp h60)))
set_option maxRecDepth 100000 in
theorem ck_220_0 : ckL 220 (mC 220) 60 ((cd 220).drop 0) = true := by decide +kernel
set_option maxRecDepth 100000 in
theorem ck_220_60 : ckL 220 (mC 220) 17 ((cd 220).drop 60) = true := by decide +kernel
theorem eok_220 (k : Nat) : EOK 220 k := by
  by_cases h0 : k < 60
  · exact eok_of ck_220_0 (by omega) h0
  by_cases h60 : k < 77
  · exact eok_of ck_220_60 (by omega) h60
  exact eok_none (nth_len (by show (cd_220).length ≤ k; exact Nat.le_trans (Nat.le_of_eq rfl) (Nat.not_lt.mp h60)))
set_option maxRecDepth 100000 in
theorem ck_221_0 : ckL 221 (mC 221) 56 ((cd 221).drop 0) = true := by decide +kernel
theorem eok_221 (k : Nat) : EOK 221 k := by
  by_cases h0 : k < 56
  · exact eok_of ck_221_0 (by omega) h0
  exact eok_none (nth_len (by show (cd_221).length ≤ k; exact Nat.le_trans (Nat.le_of_eq rfl) (Nat.not_lt.mp h0)))
set_option maxRecDepth 100000 in
theorem ck_222_0 : ckL 222 (mC 222) 39 ((cd 222).drop 0) = true := by decide +kernel
theorem eok_222 (k : Nat) : EOK 222 k := by
  by_cases h0 : k < 39
  · exact eok_of ck_222_0 (by omega) h0
  exact eok_none (nth_len (by show (cd_222).length ≤ k; exact Nat.le_trans (Nat.le_of_eq rfl) (Nat.not_lt.mp h0)))
set_option maxRecDepth 100000 in
theorem ck_223_0 : ckL 223 (mC 223) 44 ((cd 223).drop 0) = true := by decide +kernel
theorem eok_223 (k : Nat) : EOK 223 k := by
  by_cases h0 : k < 44
  · exact eok_of ck_223_0 (by omega) h0
  exact eok_none (nth_len (by show (cd_223).length ≤ k; exact Nat.le_trans (Nat.le_of_eq rfl) (Nat.not_lt.mp h0)))
set_option maxRecDepth 100000 in
theorem ck_224_0 : ckL 224 (mC 224) 34 ((cd 224).drop 0) = true := by decide +kernel
theorem eok_224 (k : Nat) : EOK 224 k := by
  by_cases h0 : k < 34
  · exact eok_of ck_224_0 (by omega) h0
  exact eok_none (nth_len (by show (cd_224).length ≤ k; exact Nat.le_trans (Nat.le_of_eq rfl) (Nat.not_lt.mp h0)))
set_option maxRecDepth 100000 in
theorem ck_225_0 : ckL 225 (mC 225) 26 ((cd 225).drop 0) = true := by decide +kernel
theorem eok_225 (k : Nat) : EOK 225 k := by
  by_cases h0 : k < 26
  · exact eok_of ck_225_0 (by omega) h0
  exact eok_none (nth_len (by show (cd_225).length ≤ k; exact Nat.le_trans (Nat.le_of_eq rfl) (Nat.not_lt.mp h0)))
set_option maxRecDepth 100000 in
theorem ck_226_0 : ckL 226 (mC 226) 21 ((cd 226).drop 0) = true := by decide +kernel
theorem eok_226 (k : Nat) : EOK 226 k := by
  by_cases h0 : k < 21
  · exact eok_of ck_226_0 (by omega) h0
  exact eok_none (nth_len (by show (cd_226).length ≤ k; exact Nat.le_trans (Nat.le_of_eq rfl) (Nat.not_lt.mp h0)))
set_option maxRecDepth 100000 in
theorem ck_227_0 : ckL 227 (mC 227) 36 ((cd 227).drop 0) = true := by decide +kernel
theorem eok_227 (k : Nat) : EOK 227 k := by
  by_cases h0 : k < 36
  · exact eok_of ck_227_0 (by omega) h0
  exact eok_none (nth_len (by show (cd_227).length ≤ k; exact Nat.le_trans (Nat.le_of_eq rfl) (Nat.not_lt.mp h0)))
set_option maxRecDepth 100000 in
theorem ck_228_0 : ckL 228 (mC 228) 45 ((cd 228).drop 0) = true := by decide +kernel
theorem eok_228 (k : Nat) : EOK 228 k := by
  by_cases h0 : k < 45
  · exact eok_of ck_228_0 (by omega) h0
  exact eok_none (nth_len (by show (cd_228).length ≤ k; exact Nat.le_trans (Nat.le_of_eq rfl) (Nat.not_lt.mp h0)))
set_option maxRecDepth 100000 in
theorem ck_229_0 : ckL 229 (mC 229) 60 ((cd 229).drop 0) = true := by decide +kernel
set_option maxRecDepth 100000 in
theorem ck_229_60 : ckL 229 (mC 229) 26 ((cd 229).drop 60) = true := by decide +kernel
theorem eok_229 (k : Nat) : EOK 229 k := by
  by_cases h0 : k < 60
  · exact eok_of ck_229_0 (by omega) h0
  by_cases h60 : k < 86
  · exact eok_of ck_229_60 (by omega) h60
  exact eok_none (nth_len (by show (cd_229).length ≤ k; exact Nat.le_trans (Nat.le_of_eq rfl) (Nat.not_lt.mp h60)))
set_option maxRecDepth 100000 in
theorem ck_230_0 : ckL 230 (mC 230) 60 ((cd 230).drop 0) = true := by decide +kernel
set_option maxRecDepth 100000 in
theorem ck_230_60 : ckL 230 (mC 230) 56 ((cd 230).drop 60) = true := by decide +kernel
theorem eok_230 (k : Nat) : EOK 230 k := by
  by_cases h0 : k < 60
  · exact eok_of ck_230_0 (by omega) h0
  by_cases h60 : k < 116
  · exact eok_of ck_230_60 (by omega) h60
  exact eok_none (nth_len (by show (cd_230).length ≤ k; exact Nat.le_trans (Nat.le_of_eq rfl) (Nat.not_lt.mp h60)))
set_option maxRecDepth 100000 in
theorem ck_231_0 : ckL 231 (mC 231) 60 ((cd 231).drop 0) = true := by decide +kernel
set_option maxRecDepth 100000 in
theorem ck_231_60 : ckL 231 (mC 231) 4 ((cd 231).drop 60) = true := by decide +kernel
theorem eok_231 (k : Nat) : EOK 231 k := by
  by_cases h0 : k < 60
  · exact eok_of ck_231_0 (by omega) h0
  by_cases h60 : k < 64
  · exact eok_of ck_231_60 (by omega) h60
  exact eok_none (nth_len (by show (cd_231).length ≤ k; exact Nat.le_trans (Nat.le_of_eq rfl) (Nat.not_lt.mp h60)))
set_option maxRecDepth 100000 in
theorem ck_232_0 : ckL 232 (mC 232) 31 ((cd 232).drop 0) = true := by decide +kernel
theorem eok_232 (k : Nat) : EOK 232 k := by
  by_cases h0 : k < 31
  · exact eok_of ck_232_0 (by omega) h0
  exact eok_none (nth_len (by show (cd_232).length ≤ k; exact Nat.le_trans (Nat.le_of_eq rfl) (Nat.not_lt.mp h0)))
set_option maxRecDepth 100000 in
theorem ck_233_0 : ckL 233 (mC 233) 60 ((cd 233).drop 0) = true := by decide +kernel
set_option maxRecDepth 100000 in
theorem ck_233_60 : ckL 233 (mC 233) 25 ((cd 233).drop 60) = true := by decide +kernel
theorem eok_233 (k : Nat) : EOK 233 k := by
  by_cases h0 : k < 60
  · exact eok_of ck_233_0 (by omega) h0
  by_cases h60 : k < 85
  · exact eok_of ck_233_60 (by omega) h60
  exact eok_none (nth_len (by show (cd_233).length ≤ k; exact Nat.le_trans (Nat.le_of_eq rfl) (Nat.not_lt.mp h60)))
set_option maxRecDepth 100000 in
theorem ck_234_0 : ckL 234 (mC 234) 21 ((cd 234).drop 0) = true := by decide +kernel
theorem eok_234 (k : Nat) : EOK 234 k := by
  by_cases h0 : k < 21
  · exact eok_of ck_234_0 (by omega) h0
  exact eok_none (nth_len (by show (cd_234).length ≤ k; exact Nat.le_trans (Nat.le_of_eq rfl) (Nat.not_lt.mp h0)))
set_option maxRecDepth 100000 in
theorem ck_235_0 : ckL 235 (mC 235) 60 ((cd 235).drop 0) = true := by decide +kernel
set_option maxRecDepth 100000 in
theorem ck_235_60 : ckL 235 (mC 235) 35 ((cd 235).drop 60) = true := by decide +kernel
theorem eok_235 (k : Nat) : EOK 235 k := by
  by_cases h0 : k < 60
  · exact eok_of ck_235_0 (by omega) h0
  by_cases h60 : k < 95
  · exact eok_of ck_235_60 (by omega) h60
  exact eok_none (nth_len (by show (cd_235).length ≤ k; exact Nat.le_trans (Nat.le_of_eq rfl) (Nat.not_lt.mp h60)))
set_option maxRecDepth 100000 in
theorem ck_236_0 : ckL 236 (mC 236) 51 ((cd 236).drop 0) = true := by decide +kernel
theorem eok_236 (k : Nat) : EOK 236 k := by
  by_cases h0 : k < 51
  · exact eok_of ck_236_0 (by omega) h0
  exact eok_none (nth_len (by show (cd_236).length ≤ k; exact Nat.le_trans (Nat.le_of_eq rfl) (Nat.not_lt.mp h0)))
set_option maxRecDepth 100000 in
theorem ck_237_0 : ckL 237 (mC 237) 60 ((cd 237).drop 0) = true := by decide +kernel
set_option maxRecDepth 100000 in
theorem ck_237_60 : ckL 237 (mC 237) 60 ((cd 237).drop 60) = true := by decide +kernel
set_option maxRecDepth 100000 in
theorem ck_237_120 : ckL 237 (mC 237) 5 ((cd 237).drop 120) = true := by decide +kernel
theorem eok_237 (k : Nat) : EOK 237 k := by
  by_cases h0 : k < 60
  · exact eok_of ck_237_0 (by omega) h0
  by_cases h60 : k < 120
  · exact eok_of ck_237_60 (by omega) h60
  by_cases h120 : k < 125
  · exact eok_of ck_237_120 (by omega) h120
  exact eok_none (nth_len (by show (cd_237).length ≤ k; exact Nat.le_trans (Nat.le_of_eq rfl) (Nat.not_lt.mp h120)))
set_option maxRecDepth 100000 in
theorem ck_238_0 : ckL 238 (mC 238) 19 ((cd 238).drop 0) = true := by decide +kernel
theorem eok_238 (k : Nat) : EOK 238 k := by
  by_cases h0 : k < 19
  · exact eok_of ck_238_0 (by omega) h0
  exact eok_none (nth_len (by show (cd_238).length ≤ k; exact Nat.le_trans (Nat.le_of_eq rfl) (Nat.not_lt.mp h0)))
set_option maxRecDepth 100000 in
theorem ck_239_0 : ckL 239 (mC 239) 56 ((cd 239).drop 0) = true := by decide +kernel
theorem eok_239 (k : Nat) : EOK 239 k := by
  by_cases h0 : k < 56
  · exact eok_of ck_239_0 (by omega) h0
  exact eok_none (nth_len (by show (cd_239).length ≤ k; exact Nat.le_trans (Nat.le_of_eq rfl) (Nat.not_lt.mp h0)))
set_option maxRecDepth 100000 in
theorem ck_240_0 : ckL 240 (mC 240) 60 ((cd 240).drop 0) = true := by decide +kernel
set_option maxRecDepth 100000 in
theorem ck_240_60 : ckL 240 (mC 240) 60 ((cd 240).drop 60) = true := by decide +kernel
set_option maxRecDepth 100000 in
theorem ck_240_120 : ckL 240 (mC 240) 2 ((cd 240).drop 120) = true := by decide +kernel
theorem eok_240 (k : Nat) : EOK 240 k := by
  by_cases h0 : k < 60
  · exact eok_of ck_240_0 (by omega) h0
  by_cases h60 : k < 120
  · exact eok_of ck_240_60 (by omega) h60
  by_cases h120 : k < 122
  · exact eok_of ck_240_120 (by omega) h120
  exact eok_none (nth_len (by show (cd_240).length ≤ k; exact Nat.le_trans (Nat.le_of_eq rfl) (Nat.not_lt.mp h120)))
set_option maxRecDepth 100000 in
theorem ck_241_0 : ckL 241 (mC 241) 60 ((cd 241).drop 0) = true := by decide +kernel
set_option maxRecDepth 100000 in
theorem ck_241_60 : ckL 241 (mC 241) 60 ((cd 241).drop 60) = true := by decide +kernel
set_option maxRecDepth 100000 in
theorem ck_241_120 : ckL 241 (mC 241) 15 ((cd 241).drop 120) = true := by decide +kernel
theorem eok_241 (k : Nat) : EOK 241 k := by
  by_cases h0 : k < 60
  · exact eok_of ck_241_0 (by omega) h0
  by_cases h60 : k < 120
  · exact eok_of ck_241_60 (by omega) h60
  by_cases h120 : k < 135
  · exact eok_of ck_241_120 (by omega) h120
  exact eok_none (nth_len (by show (cd_241).length ≤ k; exact Nat.le_trans (Nat.le_of_eq rfl) (Nat.not_lt.mp h120)))
set_option maxRecDepth 100000 in
theorem ck_242_0 : ckL 242 (mC 242) 60 ((cd 242).drop 0) = true := by decide +kernel
set_option maxRecDepth 100000 in
theorem ck_242_60 : ckL 242 (mC 242) 35 ((cd 242).drop 60) = true := by decide +kernel
theorem eok_242 (k : Nat) : EOK 242 k := by
  by_cases h0 : k < 60
  · exact eok_of ck_242_0 (by omega) h0
  by_cases h60 : k < 95
  · exact eok_of ck_242_60 (by omega) h60
  exact eok_none (nth_len (by show (cd_242).length ≤ k; exact Nat.le_trans (Nat.le_of_eq rfl) (Nat.not_lt.mp h60)))
set_option maxRecDepth 100000 in
theorem ck_243_0 : ckL 243 (mC 243) 6 ((cd 243).drop 0) = true := by decide +kernel
theorem eok_243 (k : Nat) : EOK 243 k := by
  by_cases h0 : k < 6
  · exact eok_of ck_243_0 (by omega) h0
  exact eok_none (nth_len (by show (cd_243).length ≤ k; exact Nat.le_trans (Nat.le_of_eq rfl) (Nat.not_lt.mp h0)))
set_option maxRecDepth 100000 in
theorem ck_244_0 : ckL 244 (mC 244) 23 ((cd 244).drop 0) = true := by decide +kernel
theorem eok_244 (k : Nat) : EOK 244 k := by
  by_cases h0 : k < 23
  · exact eok_of ck_244_0 (by omega) h0
  exact eok_none (nth_len (by show (cd_244).length ≤ k; exact Nat.le_trans (Nat.le_of_eq rfl) (Nat.not_lt.mp h0)))
set_option maxRecDepth 100000 in
theorem ck_245_0 : ckL 245 (mC 245) 21 ((cd 245).drop 0) = true := by decide +kernel
theorem eok_245 (k : Nat) : EOK 245 k := by
  by_cases h0 : k < 21
  · exact eok_of ck_245_0 (by omega) h0
  exact eok_none (nth_len (by show (cd_245).length ≤ k; exact Nat.le_trans (Nat.le_of_eq rfl) (Nat.not_lt.mp h0)))
set_option maxRecDepth 100000 in
theorem ck_246_0 : ckL 246 (mC 246) 21 ((cd 246).drop 0) = true := by decide +kernel
theorem eok_246 (k : Nat) : EOK 246 k := by
  by_cases h0 : k < 21
  · exact eok_of ck_246_0 (by omega) h0
  exact eok_none (nth_len (by show (cd_246).length ≤ k; exact Nat.le_trans (Nat.le_of_eq rfl) (Nat.not_lt.mp h0)))
set_option maxRecDepth 100000 in
theorem ck_247_0 : ckL 247 (mC 247) 21 ((cd 247).drop 0) = true := by decide +kernel
theorem eok_247 (k : Nat) : EOK 247 k := by
  by_cases h0 : k < 21
  · exact eok_of ck_247_0 (by omega) h0
  exact eok_none (nth_len (by show (cd_247).length ≤ k; exact Nat.le_trans (Nat.le_of_eq rfl) (Nat.not_lt.mp h0)))
set_option maxRecDepth 100000 in
theorem ck_248_0 : ckL 248 (mC 248) 21 ((cd 248).drop 0) = true := by decide +kernel
theorem eok_248 (k : Nat) : EOK 248 k := by
  by_cases h0 : k < 21
  · exact eok_of ck_248_0 (by omega) h0
  exact eok_none (nth_len (by show (cd_248).length ≤ k; exact Nat.le_trans (Nat.le_of_eq rfl) (Nat.not_lt.mp h0)))
set_option maxRecDepth 100000 in
theorem ck_249_0 : ckL 249 (mC 249) 20 ((cd 249).drop 0) = true := by decide +kernel
theorem eok_249 (k : Nat) : EOK 249 k := by
  by_cases h0 : k < 20
  · exact eok_of ck_249_0 (by omega) h0
  exact eok_none (nth_len (by show (cd_249).length ≤ k; exact Nat.le_trans (Nat.le_of_eq rfl) (Nat.not_lt.mp h0)))
set_option maxRecDepth 100000 in
theorem ck_250_0 : ckL 250 (mC 250) 13 ((cd 250).drop 0) = true := by decide +kernel
theorem eok_250 (k : Nat) : EOK 250 k := by
  by_cases h0 : k < 13
  · exact eok_of ck_250_0 (by omega) h0
  exact eok_none (nth_len (by show (cd_250).length ≤ k; exact Nat.le_trans (Nat.le_of_eq rfl) (Nat.not_lt.mp h0)))
set_option maxRecDepth 100000 in
theorem ck_251_0 : ckL 251 (mC 251) 26 ((cd 251).drop 0) = true := by decide +kernel
theorem eok_251 (k : Nat) : EOK 251 k := by
  by_cases h0 : k < 26
  · exact eok_of ck_251_0 (by omega) h0
  exact eok_none (nth_len (by show (cd_251).length ≤ k; exact Nat.le_trans (Nat.le_of_eq rfl) (Nat.not_lt.mp h0)))
set_option maxRecDepth 100000 in
theorem ck_252_0 : ckL 252 (mC 252) 9 ((cd 252).drop 0) = true := by decide +kernel
theorem eok_252 (k : Nat) : EOK 252 k := by
  by_cases h0 : k < 9
  · exact eok_of ck_252_0 (by omega) h0
  exact eok_none (nth_len (by show (cd_252).length ≤ k; exact Nat.le_trans (Nat.le_of_eq rfl) (Nat.not_lt.mp h0)))
set_option maxRecDepth 100000 in
theorem ck_253_0 : ckL 253 (mC 253) 15 ((cd 253).drop 0) = true := by decide +kernel
theorem eok_253 (k : Nat) : EOK 253 k := by
  by_cases h0 : k < 15
  · exact eok_of ck_253_0 (by omega) h0
  exact eok_none (nth_len (by show (cd_253).length ≤ k; exact Nat.le_trans (Nat.le_of_eq rfl) (Nat.not_lt.mp h0)))
set_option maxRecDepth 100000 in
theorem ck_254_0 : ckL 254 (mC 254) 22 ((cd 254).drop 0) = true := by decide +kernel
theorem eok_254 (k : Nat) : EOK 254 k := by
  by_cases h0 : k < 22
  · exact eok_of ck_254_0 (by omega) h0
  exact eok_none (nth_len (by show (cd_254).length ≤ k; exact Nat.le_trans (Nat.le_of_eq rfl) (Nat.not_lt.mp h0)))
set_option maxRecDepth 100000 in
theorem ck_255_0 : ckL 255 (mC 255) 40 ((cd 255).drop 0) = true := by decide +kernel
theorem eok_255 (k : Nat) : EOK 255 k := by
  by_cases h0 : k < 40
  · exact eok_of ck_255_0 (by omega) h0
  exact eok_none (nth_len (by show (cd_255).length ≤ k; exact Nat.le_trans (Nat.le_of_eq rfl) (Nat.not_lt.mp h0)))
set_option maxRecDepth 100000 in
theorem ck_256_0 : ckL 256 (mC 256) 20 ((cd 256).drop 0) = true := by decide +kernel
theorem eok_256 (k : Nat) : EOK 256 k := by
  by_cases h0 : k < 20
  · exact eok_of ck_256_0 (by omega) h0
  exact eok_none (nth_len (by show (cd_256).length ≤ k; exact Nat.le_trans (Nat.le_of_eq rfl) (Nat.not_lt.mp h0)))
set_option maxRecDepth 100000 in
theorem ck_257_0 : ckL 257 (mC 257) 20 ((cd 257).drop 0) = true := by decide +kernel
theorem eok_257 (k : Nat) : EOK 257 k := by
  by_cases h0 : k < 20
  · exact eok_of ck_257_0 (by omega) h0
  exact eok_none (nth_len (by show (cd_257).length ≤ k; exact Nat.le_trans (Nat.le_of_eq rfl) (Nat.not_lt.mp h0)))
set_option maxRecDepth 100000 in
theorem ck_258_0 : ckL 258 (mC 258) 13 ((cd 258).drop 0) = true := by decide +kernel
theorem eok_258 (k : Nat) : EOK 258 k := by
  by_cases h0 : k < 13
  · exact eok_of ck_258_0 (by omega) h0
  exact eok_none (nth_len (by show (cd_258).length ≤ k; exact Nat.le_trans (Nat.le_of_eq rfl) (Nat.not_lt.mp h0)))
set_option maxRecDepth 100000 in
theorem ck_259_0 : ckL 259 (mC 259) 21 ((cd 259).drop 0) = true := by decide +kernel
theorem eok_259 (k : Nat) : EOK 259 k := by
  by_cases h0 : k < 21
  · exact eok_of ck_259_0 (by omega) h0
  exact eok_none (nth_len (by show (cd_259).length ≤ k; exact Nat.le_trans (Nat.le_of_eq rfl) (Nat.not_lt.mp h0)))
set_option maxRecDepth 100000 in
theorem ck_260_0 : ckL 260 (mC 260) 22 ((cd 260).drop 0) = true := by decide +kernel
theorem eok_260 (k : Nat) : EOK 260 k := by
  by_cases h0 : k < 22
  · exact eok_of ck_260_0 (by omega) h0
  exact eok_none (nth_len (by show (cd_260).length ≤ k; exact Nat.le_trans (Nat.le_of_eq rfl) (Nat.not_lt.mp h0)))
set_option maxRecDepth 100000 in
theorem ck_261_0 : ckL 261 (mC 261) 26 ((cd 261).drop 0) = true := by decide +kernel
theorem eok_261 (k : Nat) : EOK 261 k := by
  by_cases h0 : k < 26
  · exact eok_of ck_261_0 (by omega) h0
  exact eok_none (nth_len (by show (cd_261).length ≤ k; exact Nat.le_trans (Nat.le_of_eq rfl) (Nat.not_lt.mp h0)))
set_option maxRecDepth 100000 in
theorem ck_262_0 : ckL 262 (mC 262) 21 ((cd 262).drop 0) = true := by decide +kernel
theorem eok_262 (k : Nat) : EOK 262 k := by
  by_cases h0 : k < 21
  · exact eok_of ck_262_0 (by omega) h0
  exact eok_none (nth_len (by show (cd_262).length ≤ k; exact Nat.le_trans (Nat.le_of_eq rfl) (Nat.not_lt.mp h0)))
set_option maxRecDepth 100000 in
theorem ck_263_0 : ckL 263 (mC 263) 26 ((cd 263).drop 0) = true := by decide +kernel
theorem eok_263 (k : Nat) : EOK 263 k := by
  by_cases h0 : k < 26
  · exact eok_of ck_263_0 (by omega) h0
  exact eok_none (nth_len (by show (cd_263).length ≤ k; exact Nat.le_trans (Nat.le_of_eq rfl) (Nat.not_lt.mp h0)))
set_option maxRecDepth 100000 in
theorem ck_264_0 : ckL 264 (mC 264) 29 ((cd 264).drop 0) = true := by decide +kernel
theorem eok_264 (k : Nat) : EOK 264 k := by
  by_cases h0 : k < 29
  · exact eok_of ck_264_0 (by omega) h0
  exact eok_none (nth_len (by show (cd_264).length ≤ k; exact Nat.le_trans (Nat.le_of_eq rfl) (Nat.not_lt.mp h0)))
set_option maxRecDepth 100000 in
theorem ck_265_0 : ckL 265 (mC 265) 45 ((cd 265).drop 0) = true := by decide +kernel
theorem eok_265 (k : Nat) : EOK 265 k := by
  by_cases h0 : k < 45
  · exact eok_of ck_265_0 (by omega) h0
  exact eok_none (nth_len (by show (cd_265).length ≤ k; exact Nat.le_trans (Nat.le_of_eq rfl) (Nat.not_lt.mp h0)))
set_option maxRecDepth 100000 in
theorem ck_266_0 : ckL 266 (mC 266) 41 ((cd 266).drop 0) = true := by decide +kernel
theorem eok_266 (k : Nat) : EOK 266 k := by
  by_cases h0 : k < 41
  · exact eok_of ck_266_0 (by omega) h0
  exact eok_none (nth_len (by show (cd_266).length ≤ k; exact Nat.le_trans (Nat.le_of_eq rfl) (Nat.not_lt.mp h0)))
set_option maxRecDepth 100000 in
theorem ck_267_0 : ckL 267 (mC 267) 10 ((cd 267).drop 0) = true := by decide +kernel
theorem eok_267 (k : Nat) : EOK 267 k := by
  by_cases h0 : k < 10
  · exact eok_of ck_267_0 (by omega) h0
  exact eok_none (nth_len (by show (cd_267).length ≤ k; exact Nat.le_trans (Nat.le_of_eq rfl) (Nat.not_lt.mp h0)))
set_option maxRecDepth 100000 in
theorem ck_268_0 : ckL 268 (mC 268) 10 ((cd 268).drop 0) = true := by decide +kernel
theorem eok_268 (k : Nat) : EOK 268 k := by
  by_cases h0 : k < 10
  · exact eok_of ck_268_0 (by omega) h0
  exact eok_none (nth_len (by show (cd_268).length ≤ k; exact Nat.le_trans (Nat.le_of_eq rfl) (Nat.not_lt.mp h0)))
set_option maxRecDepth 100000 in
theorem ck_269_0 : ckL 269 (mC 269) 52 ((cd 269).drop 0) = true := by decide +kernel
theorem eok_269 (k : Nat) : EOK 269 k := by
  by_cases h0 : k < 52
  · exact eok_of ck_269_0 (by omega) h0
  exact eok_none (nth_len (by show (cd_269).length ≤ k; exact Nat.le_trans (Nat.le_of_eq rfl) (Nat.not_lt.mp h0)))
set_option maxRecDepth 100000 in
theorem ck_270_0 : ckL 270 (mC 270) 30 ((cd 270).drop 0) = true := by decide +kernel
theorem eok_270 (k : Nat) : EOK 270 k := by
  by_cases h0 : k < 30
  · exact eok_of ck_270_0 (by omega) h0
  exact eok_none (nth_len (by show (cd_270).length ≤ k; exact Nat.le_trans (Nat.le_of_eq rfl) (Nat.not_lt.mp h0)))
set_option maxRecDepth 100000 in
theorem ck_271_0 : ckL 271 (mC 271) 55 ((cd 271).drop 0) = true := by decide +kernel
theorem eok_271 (k : Nat) : EOK 271 k := by
  by_cases h0 : k < 55
  · exact eok_of ck_271_0 (by omega) h0
  exact eok_none (nth_len (by show (cd_271).length ≤ k; exact Nat.le_trans (Nat.le_of_eq rfl) (Nat.not_lt.mp h0)))
set_option maxRecDepth 100000 in
theorem ck_272_0 : ckL 272 (mC 272) 60 ((cd 272).drop 0) = true := by decide +kernel
set_option maxRecDepth 100000 in
theorem ck_272_60 : ckL 272 (mC 272) 17 ((cd 272).drop 60) = true := by decide +kernel
theorem eok_272 (k : Nat) : EOK 272 k := by
  by_cases h0 : k < 60
  · exact eok_of ck_272_0 (by omega) h0
  by_cases h60 : k < 77
  · exact eok_of ck_272_60 (by omega) h60
  exact eok_none (nth_len (by show (cd_272).length ≤ k; exact Nat.le_trans (Nat.le_of_eq rfl) (Nat.not_lt.mp h60)))
set_option maxRecDepth 100000 in
theorem ck_273_0 : ckL 273 (mC 273) 25 ((cd 273).drop 0) = true := by decide +kernel
theorem eok_273 (k : Nat) : EOK 273 k := by
  by_cases h0 : k < 25
  · exact eok_of ck_273_0 (by omega) h0
  exact eok_none (nth_len (by show (cd_273).length ≤ k; exact Nat.le_trans (Nat.le_of_eq rfl) (Nat.not_lt.mp h0)))
set_option maxRecDepth 100000 in
theorem ck_274_0 : ckL 274 (mC 274) 37 ((cd 274).drop 0) = true := by decide +kernel
theorem eok_274 (k : Nat) : EOK 274 k := by
  by_cases h0 : k < 37
  · exact eok_of ck_274_0 (by omega) h0
  exact eok_none (nth_len (by show (cd_274).length ≤ k; exact Nat.le_trans (Nat.le_of_eq rfl) (Nat.not_lt.mp h0)))
set_option maxRecDepth 100000 in
theorem ck_275_0 : ckL 275 (mC 275) 18 ((cd 275).drop 0) = true := by decide +kernel
theorem eok_275 (k : Nat) : EOK 275 k := by
  by_cases h0 : k < 18
  · exact eok_of ck_275_0 (by omega) h0
  exact eok_none (nth_len (by show (cd_275).length ≤ k; exact Nat.le_trans (Nat.le_of_eq rfl) (Nat.not_lt.mp h0)))
set_option maxRecDepth 100000 in
theorem ck_276_0 : ckL 276 (mC 276) 18 ((cd 276).drop 0) = true := by decide +kernel
theorem eok_276 (k : Nat) : EOK 276 k := by
  by_cases h0 : k < 18
  · exact eok_of ck_276_0 (by omega) h0
  exact eok_none (nth_len (by show (cd_276).length ≤ k; exact Nat.le_trans (Nat.le_of_eq rfl) (Nat.not_lt.mp h0)))
set_option maxRecDepth 100000 in
theorem ck_277_0 : ckL 277 (mC 277) 37 ((cd 277).drop 0) = true := by decide +kernel
theorem eok_277 (k : Nat) : EOK 277 k := by
  by_cases h0 : k < 37
  · exact eok_of ck_277_0 (by omega) h0
  exact eok_none (nth_len (by show (cd_277).length ≤ k; exact Nat.le_trans (Nat.le_of_eq rfl) (Nat.not_lt.mp h0)))
set_option maxRecDepth 100000 in
theorem ck_278_0 : ckL 278 (mC 278) 9 ((cd 278).drop 0) = true := by decide +kernel
theorem eok_278 (k : Nat) : EOK 278 k := by
  by_cases h0 : k < 9
  · exact eok_of ck_278_0 (by omega) h0
  exact eok_none (nth_len (by show (cd_278).length ≤ k; exact Nat.le_trans (Nat.le_of_eq rfl) (Nat.not_lt.mp h0)))
set_option maxRecDepth 100000 in
theorem ck_279_0 : ckL 279 (mC 279) 60 ((cd 279).drop 0) = true := by decide +kernel
set_option maxRecDepth 100000 in
theorem ck_279_60 : ckL 279 (mC 279) 60 ((cd 279).drop 60) = true := by decide +kernel
set_option maxRecDepth 100000 in
theorem ck_279_120 : ckL 279 (mC 279) 5 ((cd 279).drop 120) = true := by decide +kernel
theorem eok_279 (k : Nat) : EOK 279 k := by
  by_cases h0 : k < 60
  · exact eok_of ck_279_0 (by omega) h0
  by_cases h60 : k < 120
  · exact eok_of ck_279_60 (by omega) h60
  by_cases h120 : k < 125
  · exact eok_of ck_279_120 (by omega) h120
  exact eok_none (nth_len (by show (cd_279).length ≤ k; exact Nat.le_trans (Nat.le_of_eq rfl) (Nat.not_lt.mp h120)))
set_option maxRecDepth 100000 in
theorem ck_280_0 : ckL 280 (mC 280) 60 ((cd 280).drop 0) = true := by decide +kernel
set_option maxRecDepth 100000 in
theorem ck_280_60 : ckL 280 (mC 280) 21 ((cd 280).drop 60) = true := by decide +kernel
theorem eok_280 (k : Nat) : EOK 280 k := by
  by_cases h0 : k < 60
  · exact eok_of ck_280_0 (by omega) h0
  by_cases h60 : k < 81
  · exact eok_of ck_280_60 (by omega) h60
  exact eok_none (nth_len (by show (cd_280).length ≤ k; exact Nat.le_trans (Nat.le_of_eq rfl) (Nat.not_lt.mp h60)))
set_option maxRecDepth 100000 in
theorem ck_281_0 : ckL 281 (mC 281) 49 ((cd 281).drop 0) = true := by decide +kernel
theorem eok_281 (k : Nat) : EOK 281 k := by
  by_cases h0 : k < 49
  · exact eok_of ck_281_0 (by omega) h0
  exact eok_none (nth_len (by show (cd_281).length ≤ k; exact Nat.le_trans (Nat.le_of_eq rfl) (Nat.not_lt.mp h0)))
set_option maxRecDepth 100000 in
theorem ck_282_0 : ckL 282 (mC 282) 60 ((cd 282).drop 0) = true := by decide +kernel
set_option maxRecDepth 100000 in
theorem ck_282_60 : ckL 282 (mC 282) 57 ((cd 282).drop 60) = true := by decide +kernel
theorem eok_282 (k : Nat) : EOK 282 k := by
  by_cases h0 : k < 60
  · exact eok_of ck_282_0 (by omega) h0
  by_cases h60 : k < 117
  · exact eok_of ck_282_60 (by omega) h60
  exact eok_none (nth_len (by show (cd_282).length ≤ k; exact Nat.le_trans (Nat.le_of_eq rfl) (Nat.not_lt.mp h60)))
set_option maxRecDepth 100000 in
theorem ck_283_0 : ckL 283 (mC 283) 60 ((cd 283).drop 0) = true := by decide +kernel
set_option maxRecDepth 100000 in
theorem ck_283_60 : ckL 283 (mC 283) 54 ((cd 283).drop 60) = true := by decide +kernel
theorem eok_283 (k : Nat) : EOK 283 k := by
  by_cases h0 : k < 60
  · exact eok_of ck_283_0 (by omega) h0
  by_cases h60 : k < 114
  · exact eok_of ck_283_60 (by omega) h60
  exact eok_none (nth_len (by show (cd_283).length ≤ k; exact Nat.le_trans (Nat.le_of_eq rfl) (Nat.not_lt.mp h60)))
set_option maxRecDepth 100000 in
theorem ck_284_0 : ckL 284 (mC 284) 13 ((cd 284).drop 0) = true := by decide +kernel
theorem eok_284 (k : Nat) : EOK 284 k := by
  by_cases h0 : k < 13
  · exact eok_of ck_284_0 (by omega) h0
  exact eok_none (nth_len (by show (cd_284).length ≤ k; exact Nat.le_trans (Nat.le_of_eq rfl) (Nat.not_lt.mp h0)))
set_option maxRecDepth 100000 in
theorem ck_285_0 : ckL 285 (mC 285) 60 ((cd 285).drop 0) = true := by decide +kernel
set_option maxRecDepth 100000 in
theorem ck_285_60 : ckL 285 (mC 285) 18 ((cd 285).drop 60) = true := by decide +kernel
theorem eok_285 (k : Nat) : EOK 285 k := by
  by_cases h0 : k < 60
  · exact eok_of ck_285_0 (by omega) h0
  by_cases h60 : k < 78
  · exact eok_of ck_285_60 (by omega) h60
  exact eok_none (nth_len (by show (cd_285).length ≤ k; exact Nat.le_trans (Nat.le_of_eq rfl) (Nat.not_lt.mp h60)))
set_option maxRecDepth 100000 in
theorem ck_286_0 : ckL 286 (mC 286) 27 ((cd 286).drop 0) = true := by decide +kernel
theorem eok_286 (k : Nat) : EOK 286 k := by
  by_cases h0 : k < 27
  · exact eok_of ck_286_0 (by omega) h0
  exact eok_none (nth_len (by show (cd_286).length ≤ k; exact Nat.le_trans (Nat.le_of_eq rfl) (Nat.not_lt.mp h0)))
set_option maxRecDepth 100000 in
theorem ck_287_0 : ckL 287 (mC 287) 60 ((cd 287).drop 0) = true := by decide +kernel
theorem eok_287 (k : Nat) : EOK 287 k := by
  by_cases h0 : k < 60
  · exact eok_of ck_287_0 (by omega) h0
  exact eok_none (nth_len (by show (cd_287).length ≤ k; exact Nat.le_trans (Nat.le_of_eq rfl) (Nat.not_lt.mp h0)))
set_option maxRecDepth 100000 in
theorem ck_288_0 : ckL 288 (mC 288) 60 ((cd 288).drop 0) = true := by decide +kernel
set_option maxRecDepth 100000 in
theorem ck_288_60 : ckL 288 (mC 288) 42 ((cd 288).drop 60) = true := by decide +kernel
theorem eok_288 (k : Nat) : EOK 288 k := by
  by_cases h0 : k < 60
  · exact eok_of ck_288_0 (by omega) h0
  by_cases h60 : k < 102
  · exact eok_of ck_288_60 (by omega) h60
  exact eok_none (nth_len (by show (cd_288).length ≤ k; exact Nat.le_trans (Nat.le_of_eq rfl) (Nat.not_lt.mp h60)))
set_option maxRecDepth 100000 in
theorem ck_289_0 : ckL 289 (mC 289) 42 ((cd 289).drop 0) = true := by decide +kernel
theorem eok_289 (k : Nat) : EOK 289 k := by
  by_cases h0 : k < 42
  · exact eok_of ck_289_0 (by omega) h0
  exact eok_none (nth_len (by show (cd_289).length ≤ k; exact Nat.le_trans (Nat.le_of_eq rfl) (Nat.not_lt.mp h0)))
set_option maxRecDepth 100000 in
theorem ck_290_0 : ckL 290 (mC 290) 21 ((cd 290).drop 0) = true := by decide +kernel
theorem eok_290 (k : Nat) : EOK 290 k := by
  by_cases h0 : k < 21
  · exact eok_of ck_290_0 (by omega) h0
  exact eok_none (nth_len (by show (cd_290).length ≤ k; exact Nat.le_trans (Nat.le_of_eq rfl) (Nat.not_lt.mp h0)))
set_option maxRecDepth 100000 in
theorem ck_291_0 : ckL 291 (mC 291) 60 ((cd 291).drop 0) = true := by decide +kernel
set_option maxRecDepth 100000 in
theorem ck_291_60 : ckL 291 (mC 291) 27 ((cd 291).drop 60) = true := by decide +kernel
theorem eok_291 (k : Nat) : EOK 291 k := by
  by_cases h0 : k < 60
  · exact eok_of ck_291_0 (by omega) h0
  by_cases h60 : k < 87
  · exact eok_of ck_291_60 (by omega) h60
  exact eok_none (nth_len (by show (cd_291).length ≤ k; exact Nat.le_trans (Nat.le_of_eq rfl) (Nat.not_lt.mp h60)))
set_option maxRecDepth 100000 in
theorem ck_292_0 : ckL 292 (mC 292) 29 ((cd 292).drop 0) = true := by decide +kernel
theorem eok_292 (k : Nat) : EOK 292 k := by
  by_cases h0 : k < 29
  · exact eok_of ck_292_0 (by omega) h0
  exact eok_none (nth_len (by show (cd_292).length ≤ k; exact Nat.le_trans (Nat.le_of_eq rfl) (Nat.not_lt.mp h0)))
set_option maxRecDepth 100000 in
theorem ck_293_0 : ckL 293 (mC 293) 40 ((cd 293).drop 0) = true := by decide +kernel
theorem eok_293 (k : Nat) : EOK 293 k := by
  by_cases h0 : k < 40
  · exact eok_of ck_293_0 (by omega) h0
  exact eok_none (nth_len (by show (cd_293).length ≤ k; exact Nat.le_trans (Nat.le_of_eq rfl) (Nat.not_lt.mp h0)))
set_option maxRecDepth 100000 in
theorem ck_294_0 : ckL 294 (mC 294) 9 ((cd 294).drop 0) = true := by decide +kernel
theorem eok_294 (k : Nat) : EOK 294 k := by
  by_cases h0 : k < 9
  · exact eok_of ck_294_0 (by omega) h0
  exact eok_none (nth_len (by show (cd_294).length ≤ k; exact Nat.le_trans (Nat.le_of_eq rfl) (Nat.not_lt.mp h0)))
set_option maxRecDepth 100000 in
theorem ck_295_0 : ckL 295 (mC 295) 60 ((cd 295).drop 0) = true := by decide +kernel
set_option maxRecDepth 100000 in
theorem ck_295_60 : ckL 295 (mC 295) 37 ((cd 295).drop 60) = true := by decide +kernel
theorem eok_295 (k : Nat) : EOK 295 k := by
  by_cases h0 : k < 60
  · exact eok_of ck_295_0 (by omega) h0
  by_cases h60 : k < 97
  · exact eok_of ck_295_60 (by omega) h60
  exact eok_none (nth_len (by show (cd_295).length ≤ k; exact Nat.le_trans (Nat.le_of_eq rfl) (Nat.not_lt.mp h60)))
set_option maxRecDepth 100000 in
theorem ck_296_0 : ckL 296 (mC 296) 60 ((cd 296).drop 0) = true := by decide +kernel
set_option maxRecDepth 100000 in
theorem ck_296_60 : ckL 296 (mC 296) 60 ((cd 296).drop 60) = true := by decide +kernel
set_option maxRecDepth 100000 in
theorem ck_296_120 : ckL 296 (mC 296) 15 ((cd 296).drop 120) = true := by decide +kernel
theorem eok_296 (k : Nat) : EOK 296 k := by
  by_cases h0 : k < 60
  · exact eok_of ck_296_0 (by omega) h0
  by_cases h60 : k < 120
  · exact eok_of ck_296_60 (by omega) h60
  by_cases h120 : k < 135
  · exact eok_of ck_296_120 (by omega) h120
  exact eok_none (nth_len (by show (cd_296).length ≤ k; exact Nat.le_trans (Nat.le_of_eq rfl) (Nat.not_lt.mp h120)))
set_option maxRecDepth 100000 in
theorem ck_297_0 : ckL 297 (mC 297) 15 ((cd 297).drop 0) = true := by decide +kernel
theorem eok_297 (k : Nat) : EOK 297 k := by
  by_cases h0 : k < 15
  · exact eok_of ck_297_0 (by omega) h0
  exact eok_none (nth_len (by show (cd_297).length ≤ k; exact Nat.le_trans (Nat.le_of_eq rfl) (Nat.not_lt.mp h0)))
set_option maxRecDepth 100000 in
theorem ck_298_0 : ckL 298 (mC 298) 22 ((cd 298).drop 0) = true := by decide +kernel
theorem eok_298 (k : Nat) : EOK 298 k := by
  by_cases h0 : k < 22
  · exact eok_of ck_298_0 (by omega) h0
  exact eok_none (nth_len (by show (cd_298).length ≤ k; exact Nat.le_trans (Nat.le_of_eq rfl) (Nat.not_lt.mp h0)))
