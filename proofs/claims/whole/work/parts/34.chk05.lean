set_option maxRecDepth 100000 in
theorem am_cc_128_0 : am_ckc 128 0 = true := by decide +kernel
set_option maxRecDepth 100000 in
theorem am_cc_129_0 : am_ckc 129 0 = true := by decide +kernel
set_option maxRecDepth 100000 in
theorem am_cc_130_0 : am_ckc 130 0 = true := by decide +kernel
set_option maxRecDepth 100000 in
theorem am_cc_131_0 : am_ckc 131 0 = true := by decide +kernel
set_option maxRecDepth 100000 in
theorem am_cc_132_0 : am_ckc 132 0 = true := by decide +kernel
set_option maxRecDepth 100000 in
theorem am_cc_133_0 : am_ckc 133 0 = true := by decide +kernel
set_option maxRecDepth 100000 in
theorem am_cc_134_0 : am_ckc 134 0 = true := by decide +kernel
set_option maxRecDepth 100000 in
theorem am_cc_135_0 : am_ckc 135 0 = true := by decide +kernel
set_option maxRecDepth 100000 in
theorem am_cc_136_0 : am_ckc 136 0 = true := by decide +kernel
set_option maxRecDepth 100000 in
theorem am_cc_137_0 : am_ckc 137 0 = true := by decide +kernel
set_option maxRecDepth 100000 in
theorem am_cc_138_0 : am_ckc 138 0 = true := by decide +kernel
set_option maxRecDepth 100000 in
theorem am_cc_139_0 : am_ckc 139 0 = true := by decide +kernel
set_option maxRecDepth 100000 in
theorem am_cc_140_0 : am_ckc 140 0 = true := by decide +kernel
set_option maxRecDepth 100000 in
theorem am_cc_141_0 : am_ckc 141 0 = true := by decide +kernel
set_option maxRecDepth 100000 in
theorem am_cc_141_1 : am_ckc 141 1 = true := by decide +kernel
set_option maxRecDepth 100000 in
theorem am_cc_141_2 : am_ckc 141 2 = true := by decide +kernel
set_option maxRecDepth 100000 in
theorem am_cc_142_0 : am_ckc 142 0 = true := by decide +kernel
set_option maxRecDepth 100000 in
theorem am_cc_143_0 : am_ckc 143 0 = true := by decide +kernel
set_option maxRecDepth 100000 in
theorem am_cc_144_0 : am_ckc 144 0 = true := by decide +kernel
set_option maxRecDepth 100000 in
theorem am_cc_145_0 : am_ckc 145 0 = true := by decide +kernel
set_option maxRecDepth 100000 in
theorem am_cc_146_0 : am_ckc 146 0 = true := by decide +kernel
set_option maxRecDepth 100000 in
theorem am_cc_147_0 : am_ckc 147 0 = true := by decide +kernel
set_option maxRecDepth 100000 in
theorem am_cc_148_0 : am_ckc 148 0 = true := by decide +kernel
set_option maxRecDepth 100000 in
theorem am_cc_149_0 : am_ckc 149 0 = true := by decide +kernel
set_option maxRecDepth 100000 in
theorem am_cc_150_0 : am_ckc 150 0 = true := by decide +kernel
set_option maxRecDepth 100000 in
theorem am_cc_151_0 : am_ckc 151 0 = true := by decide +kernel
set_option maxRecDepth 100000 in
theorem am_cc_152_0 : am_ckc 152 0 = true := by decide +kernel
set_option maxRecDepth 100000 in
theorem am_cc_152_1 : am_ckc 152 1 = true := by decide +kernel
set_option maxRecDepth 100000 in
theorem am_cc_153_0 : am_ckc 153 0 = true := by decide +kernel
set_option maxRecDepth 100000 in
theorem am_cc_154_0 : am_ckc 154 0 = true := by decide +kernel
set_option maxRecDepth 100000 in
theorem am_cc_155_0 : am_ckc 155 0 = true := by decide +kernel
set_option maxRecDepth 100000 in
theorem am_cc_155_1 : am_ckc 155 1 = true := by decide +kernel
set_option maxRecDepth 100000 in
theorem am_cc_155_2 : am_ckc 155 2 = true := by decide +kernel
set_option maxRecDepth 100000 in
theorem am_cc_156_0 : am_ckc 156 0 = true := by decide +kernel
set_option maxRecDepth 100000 in
theorem am_cc_157_0 : am_ckc 157 0 = true := by decide +kernel
