set_option maxRecDepth 100000 in
theorem am_cc_74_0 : am_ckc 74 0 = true := by decide +kernel
set_option maxRecDepth 100000 in
theorem am_cc_74_1 : am_ckc 74 1 = true := by decide +kernel
set_option maxRecDepth 100000 in
theorem am_cc_75_0 : am_ckc 75 0 = true := by decide +kernel
set_option maxRecDepth 100000 in
theorem am_cc_75_1 : am_ckc 75 1 = true := by decide +kernel
set_option maxRecDepth 100000 in
theorem am_cc_76_0 : am_ckc 76 0 = true := by decide +kernel
set_option maxRecDepth 100000 in
theorem am_cc_77_0 : am_ckc 77 0 = true := by decide +kernel
set_option maxRecDepth 100000 in
theorem am_cc_78_0 : am_ckc 78 0 = true := by decide +kernel
set_option maxRecDepth 100000 in
theorem am_cc_78_1 : am_ckc 78 1 = true := by decide +kernel
set_option maxRecDepth 100000 in
theorem am_cc_79_0 : am_ckc 79 0 = true := by decide +kernel
set_option maxRecDepth 100000 in
theorem am_cc_80_0 : am_ckc 80 0 = true := by decide +kernel
set_option maxRecDepth 100000 in
theorem am_cc_80_1 : am_ckc 80 1 = true := by decide +kernel
set_option maxRecDepth 100000 in
theorem am_cc_81_0 : am_ckc 81 0 = true := by decide +kernel
set_option maxRecDepth 100000 in
theorem am_cc_82_0 : am_ckc 82 0 = true := by decide +kernel
set_option maxRecDepth 100000 in
theorem am_cc_82_1 : am_ckc 82 1 = true := by decide +kernel
set_option maxRecDepth 100000 in
theorem am_cc_83_0 : am_ckc 83 0 = true := by decide +kernel
set_option maxRecDepth 100000 in
theorem am_cc_84_0 : am_ckc 84 0 = true := by decide +kernel
set_option maxRecDepth 100000 in
theorem am_cc_85_0 : am_ckc 85 0 = true := by decide +kernel
set_option maxRecDepth 100000 in
theorem am_cc_86_0 : am_ckc 86 0 = true := by decide +kernel
set_option maxRecDepth 100000 in
theorem am_cc_86_1 : am_ckc 86 1 = true := by decide +kernel
set_option maxRecDepth 100000 in
theorem am_cc_87_0 : am_ckc 87 0 = true := by decide +kernel
set_option maxRecDepth 100000 in
theorem am_cc_88_0 : am_ckc 88 0 = true := by decide +kernel
set_option maxRecDepth 100000 in
theorem am_cc_89_0 : am_ckc 89 0 = true := by decide +kernel
set_option maxRecDepth 100000 in
theorem am_cc_90_0 : am_ckc 90 0 = true := by decide +kernel
set_option maxRecDepth 100000 in
theorem am_cc_91_0 : am_ckc 91 0 = true := by decide +kernel
set_option maxRecDepth 100000 in
theorem am_cc_92_0 : am_ckc 92 0 = true := by decide +kernel
set_option maxRecDepth 100000 in
theorem am_cc_92_1 : am_ckc 92 1 = true := by decide +kernel
set_option maxRecDepth 100000 in
theorem am_cc_93_0 : am_ckc 93 0 = true := by decide +kernel
set_option maxRecDepth 100000 in
theorem am_cc_93_1 : am_ckc 93 1 = true := by decide +kernel
set_option maxRecDepth 100000 in
theorem am_cc_94_0 : am_ckc 94 0 = true := by decide +kernel
set_option maxRecDepth 100000 in
theorem am_cc_95_0 : am_ckc 95 0 = true := by decide +kernel
set_option maxRecDepth 100000 in
theorem am_cc_96_0 : am_ckc 96 0 = true := by decide +kernel
set_option maxRecDepth 100000 in
theorem am_cc_97_0 : am_ckc 97 0 = true := by decide +kernel
set_option maxRecDepth 100000 in
theorem am_cc_98_0 : am_ckc 98 0 = true := by decide +kernel
set_option maxRecDepth 100000 in
theorem am_cc_99_0 : am_ckc 99 0 = true := by decide +kernel
set_option maxRecDepth 100000 in
theorem am_cc_100_0 : am_ckc 100 0 = true := by decide +kernel
