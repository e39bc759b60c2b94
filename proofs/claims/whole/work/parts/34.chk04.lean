set_option maxRecDepth 100000 in
theorem am_cc_101_0 : am_ckc 101 0 = true := by decide +kernel
set_option maxRecDepth 100000 in
theorem am_cc_102_0 : am_ckc 102 0 = true := by decide +kernel
set_option maxRecDepth 100000 in
theorem am_cc_103_0 : am_ckc 103 0 = true := by decide +kernel
set_option maxRecDepth 100000 in
theorem am_cc_104_0 : am_ckc 104 0 = true := by decide +kernel
set_option maxRecDepth 100000 in
theorem am_cc_105_0 : am_ckc 105 0 = true := by decide +kernel
set_option maxRecDepth 100000 in
theorem am_cc_105_1 : am_ckc 105 1 = true := by decide +kernel
set_option maxRecDepth 100000 in
theorem am_cc_106_0 : am_ckc 106 0 = true := by decide +kernel
set_option maxRecDepth 100000 in
theorem am_cc_107_0 : am_ckc 107 0 = true := by decide +kernel
set_option maxRecDepth 100000 in
theorem am_cc_107_1 : am_ckc 107 1 = true := by decide +kernel
set_option maxRecDepth 100000 in
theorem am_cc_107_2 : am_ckc 107 2 = true := by decide +kernel
set_option maxRecDepth 100000 in
theorem am_cc_108_0 : am_ckc 108 0 = true := by decide +kernel
set_option maxRecDepth 100000 in
theorem am_cc_109_0 : am_ckc 109 0 = true := by decide +kernel
set_option maxRecDepth 100000 in
theorem am_cc_110_0 : am_ckc 110 0 = true := by decide +kernel
set_option maxRecDepth 100000 in
theorem am_cc_111_0 : am_ckc 111 0 = true := by decide +kernel
set_option maxRecDepth 100000 in
theorem am_cc_112_0 : am_ckc 112 0 = true := by decide +kernel
set_option maxRecDepth 100000 in
theorem am_cc_113_0 : am_ckc 113 0 = true := by decide +kernel
set_option maxRecDepth 100000 in
theorem am_cc_113_1 : am_ckc 113 1 = true := by decide +kernel
set_option maxRecDepth 100000 in
theorem am_cc_114_0 : am_ckc 114 0 = true := by decide +kernel
set_option maxRecDepth 100000 in
theorem am_cc_114_1 : am_ckc 114 1 = true := by decide +kernel
set_option maxRecDepth 100000 in
theorem am_cc_115_0 : am_ckc 115 0 = true := by decide +kernel
set_option maxRecDepth 100000 in
theorem am_cc_116_0 : am_ckc 116 0 = true := by decide +kernel
set_option maxRecDepth 100000 in
theorem am_cc_116_1 : am_ckc 116 1 = true := by decide +kernel
set_option maxRecDepth 100000 in
theorem am_cc_117_0 : am_ckc 117 0 = true := by decide +kernel
set_option maxRecDepth 100000 in
theorem am_cc_118_0 : am_ckc 118 0 = true := by decide +kernel
set_option maxRecDepth 100000 in
theorem am_cc_118_1 : am_ckc 118 1 = true := by decide +kernel
set_option maxRecDepth 100000 in
theorem am_cc_119_0 : am_ckc 119 0 = true := by decide +kernel
set_option maxRecDepth 100000 in
theorem am_cc_120_0 : am_ckc 120 0 = true := by decide +kernel
set_option maxRecDepth 100000 in
theorem am_cc_121_0 : am_ckc 121 0 = true := by decide +kernel
set_option maxRecDepth 100000 in
theorem am_cc_121_1 : am_ckc 121 1 = true := by decide +kernel
set_option maxRecDepth 100000 in
theorem am_cc_122_0 : am_ckc 122 0 = true := by decide +kernel
set_option maxRecDepth 100000 in
theorem am_cc_123_0 : am_ckc 123 0 = true := by decide +kernel
set_option maxRecDepth 100000 in
theorem am_cc_124_0 : am_ckc 124 0 = true := by decide +kernel
set_option maxRecDepth 100000 in
theorem am_cc_125_0 : am_ckc 125 0 = true := by decide +kernel
set_option maxRecDepth 100000 in
theorem am_cc_126_0 : am_ckc 126 0 = true := by decide +kernel
set_option maxRecDepth 100000 in
theorem am_cc_127_0 : am_ckc 127 0 = true := by decide +kernel
