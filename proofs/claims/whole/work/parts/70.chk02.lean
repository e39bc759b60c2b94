set_option maxRecDepth 100000 in
theorem am_cc_60_1 : am_ckc 60 1 = true := by decide +kernel
set_option maxRecDepth 100000 in
theorem am_cc_61_0 : am_ckc 61 0 = true := by decide +kernel
set_option maxRecDepth 100000 in
theorem am_cc_62_0 : am_ckc 62 0 = true := by decide +kernel
set_option maxRecDepth 100000 in
theorem am_cc_63_0 : am_ckc 63 0 = true := by decide +kernel
set_option maxRecDepth 100000 in
theorem am_cc_64_0 : am_ckc 64 0 = true := by decide +kernel
set_option maxRecDepth 100000 in
theorem am_cc_65_0 : am_ckc 65 0 = true := by decide +kernel
set_option maxRecDepth 100000 in
theorem am_cc_66_0 : am_ckc 66 0 = true := by decide +kernel
set_option maxRecDepth 100000 in
theorem am_cc_67_0 : am_ckc 67 0 = true := by decide +kernel
set_option maxRecDepth 100000 in
theorem am_cc_68_0 : am_ckc 68 0 = true := by decide +kernel
set_option maxRecDepth 100000 in
theorem am_cc_69_0 : am_ckc 69 0 = true := by decide +kernel
set_option maxRecDepth 100000 in
theorem am_cc_70_0 : am_ckc 70 0 = true := by decide +kernel
set_option maxRecDepth 100000 in
theorem am_cc_71_0 : am_ckc 71 0 = true := by decide +kernel
set_option maxRecDepth 100000 in
theorem am_cc_72_0 : am_ckc 72 0 = true := by decide +kernel
set_option maxRecDepth 100000 in
theorem am_cc_73_0 : am_ckc 73 0 = true := by decide +kernel
set_option maxRecDepth 100000 in
theorem am_cc_73_1 : am_ckc 73 1 = true := by decide +kernel
set_option maxRecDepth 100000 in
theorem am_cc_74_0 : am_ckc 74 0 = true := by decide +kernel
set_option maxRecDepth 100000 in
theorem am_cc_74_1 : am_ckc 74 1 = true := by decide +kernel
set_option maxRecDepth 100000 in
theorem am_cc_75_0 : am_ckc 75 0 = true := by decide +kernel
set_option maxRecDepth 100000 in
theorem am_cc_75_1 : am_ckc 75 1 = true := by decide +kernel
set_option maxRecDepth 100000 in
theorem am_cc_76_0 : am_ckc 76 0 = true := by decide +kernel
set_option maxRecDepth 100000 in
theorem am_cc_77_0 : am_ckc 77 0 = true := by decide +kernel
set_option maxRecDepth 100000 in
theorem am_cc_78_0 : am_ckc 78 0 = true := by decide +kernel
set_option maxRecDepth 100000 in
theorem am_cc_78_1 : am_ckc 78 1 = true := by decide +kernel
set_option maxRecDepth 100000 in
theorem am_cc_79_0 : am_ckc 79 0 = true := by decide +kernel
set_option maxRecDepth 100000 in
theorem am_cc_80_0 : am_ckc 80 0 = true := by decide +kernel
set_option maxRecDepth 100000 in
theorem am_cc_80_1 : am_ckc 80 1 = true := by decide +kernel
set_option maxRecDepth 100000 in
theorem am_cc_81_0 : am_ckc 81 0 = true := by decide +kernel
set_option maxRecDepth 100000 in
theorem am_cc_82_0 : am_ckc 82 0 = true := by decide +kernel
set_option maxRecDepth 100000 in
theorem am_cc_82_1 : am_ckc 82 1 = true := by decide +kernel
set_option maxRecDepth 100000 in
theorem am_cc_83_0 : am_ckc 83 0 = true := by decide +kernel
set_option maxRecDepth 100000 in
theorem am_cc_84_0 : am_ckc 84 0 = true := by decide +kernel
set_option maxRecDepth 100000 in
theorem am_cc_85_0 : am_ckc 85 0 = true := by decide +kernel
set_option maxRecDepth 100000 in
theorem am_cc_86_0 : am_ckc 86 0 = true := by decide +kernel
set_option maxRecDepth 100000 in
theorem am_cc_86_1 : am_ckc 86 1 = true := by decide +kernel
set_option maxRecDepth 100000 in
theorem am_cc_87_0 : am_ckc 87 0 = true := by decide +kernel
set_option maxRecDepth 100000 in
theorem am_cc_88_0 : am_ckc 88 0 = true := by decide +kernel
set_option maxRecDepth 100000 in
theorem am_cc_89_0 : am_ckc 89 0 = true := by decide +kernel
set_option maxRecDepth 100000 in
theorem am_cc_90_0 : am_ckc 90 0 = true := by decide +kernel
set_option maxRecDepth 100000 in
theorem am_cc_91_0 : am_ckc 91 0 = true := by decide +kernel
set_option maxRecDepth 100000 in
theorem am_cc_92_0 : am_ckc 92 0 = true := by decide +kernel
set_option maxRecDepth 100000 in
theorem am_cc_92_1 : am_ckc 92 1 = true := by decide +kernel
set_option maxRecDepth 100000 in
theorem am_cc_93_0 : am_ckc 93 0 = true := by decide +kernel
set_option maxRecDepth 100000 in
theorem am_cc_93_1 : am_ckc 93 1 = true := by decide +kernel
set_option maxRecDepth 100000 in
theorem am_cc_94_0 : am_ckc 94 0 = true := by decide +kernel
set_option maxRecDepth 100000 in
theorem am_cc_95_0 : am_ckc 95 0 = true := by decide +kernel
