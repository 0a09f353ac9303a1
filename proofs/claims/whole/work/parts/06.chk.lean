set_option maxRecDepth 100000 in
theorem ck_299_0 : ckL 299 (mC 299) 60 ((cd 299).drop 0) = true := by decide +kernel
set_option maxRecDepth 100000 in
theorem ck_299_60 : ckL 299 (mC 299) 60 ((cd 299).drop 60) = true := by decide +kernel
set_option maxRecDepth 100000 in
theorem ck_299_120 : ckL 299 (mC 299) 60 ((cd 299).drop 120) = true := by decide +kernel
set_option maxRecDepth 100000 in
theorem ck_299_180 : ckL 299 (mC 299) 60 ((cd 299).drop 180) = true := by decide +kernel
set_option maxRecDepth 100000 in
theorem ck_299_240 : ckL 299 (mC 299) 60 ((cd 299).drop 240) = true := by decide +kernel
set_option maxRecDepth 100000 in
theorem ck_299_300 : ckL 299 (mC 299) 60 ((cd 299).drop 300) = true := by decide +kernel
set_option maxRecDepth 100000 in
theorem ck_299_360 : ckL 299 (mC 299) 60 ((cd 299).drop 360) = true := by decide +kernel
set_option maxRecDepth 100000 in
theorem ck_299_420 : ckL 299 (mC 299) 60 ((cd 299).drop 420) = true := by decide +kernel
set_option maxRecDepth 100000 in
theorem ck_299_480 : ckL 299 (mC 299) 60 ((cd 299).drop 480) = true := by decide +kernel
set_option maxRecDepth 100000 in
theorem ck_299_540 : ckL 299 (mC 299) 60 ((cd 299).drop 540) = true := by decide +kernel
set_option maxRecDepth 100000 in
theorem ck_299_600 : ckL 299 (mC 299) 60 ((cd 299).drop 600) = true := by decide +kernel
set_option maxRecDepth 100000 in
theorem ck_299_660 : ckL 299 (mC 299) 60 ((cd 299).drop 660) = true := by decide +kernel
set_option maxRecDepth 100000 in
theorem ck_299_720 : ckL 299 (mC 299) 60 ((cd 299).drop 720) = true := by decide +kernel
set_option maxRecDepth 100000 in
theorem ck_299_780 : ckL 299 (mC 299) 60 ((cd 299).drop 780) = true := by decide +kernel
set_option maxRecDepth 100000 in
theorem ck_299_840 : ckL 299 (mC 299) 60 ((cd 299).drop 840) = true := by decide +kernel
set_option maxRecDepth 100000 in
theorem ck_299_900 : ckL 299 (mC 299) 60 ((cd 299).drop 900) = true := by decide +kernel
set_option maxRecDepth 100000 in
theorem ck_299_960 : ckL 299 (mC 299) 60 ((cd 299).drop 960) = true := by decide +kernel
set_option maxRecDepth 100000 in
theorem ck_299_1020 : ckL 299 (mC 299) 60 ((cd 299).drop 1020) = true := by decide +kernel
set_option maxRecDepth 100000 in
theorem ck_299_1080 : ckL 299 (mC 299) 60 ((cd 299).drop 1080) = true := by decide +kernel
set_option maxRecDepth 100000 in
theorem ck_299_1140 : ckL 299 (mC 299) 60 ((cd 299).drop 1140) = true := by decide +kernel
set_option maxRecDepth 100000 in
theorem ck_299_1200 : ckL 299 (mC 299) 60 ((cd 299).drop 1200) = true := by decide +kernel
set_option maxRecDepth 100000 in
theorem ck_299_1260 : ckL 299 (mC 299) 37 ((cd 299).drop 1260) = true := by decide +kernel
