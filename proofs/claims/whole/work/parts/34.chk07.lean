set_option maxRecDepth 100000 in
theorem am_cc_179_2 : am_ckc 179 2 = true := by decide +kernel
set_option maxRecDepth 100000 in
theorem am_cc_180_0 : am_ckc 180 0 = true := by decide +kernel
set_option maxRecDepth 100000 in
theorem am_cc_181_0 : am_ckc 181 0 = true := by decide +kernel
set_option maxRecDepth 100000 in
theorem am_cc_182_0 : am_ckc 182 0 = true := by decide +kernel
set_option maxRecDepth 100000 in
theorem am_cc_183_0 : am_ckc 183 0 = true := by decide +kernel
set_option maxRecDepth 100000 in
theorem am_cc_183_1 : am_ckc 183 1 = true := by decide +kernel
set_option maxRecDepth 100000 in
theorem am_cc_183_2 : am_ckc 183 2 = true := by decide +kernel
set_option maxRecDepth 100000 in
theorem am_cc_184_0 : am_ckc 184 0 = true := by decide +kernel
set_option maxRecDepth 100000 in
theorem am_cc_184_1 : am_ckc 184 1 = true := by decide +kernel
set_option maxRecDepth 100000 in
theorem am_cc_185_0 : am_ckc 185 0 = true := by decide +kernel
set_option maxRecDepth 100000 in
theorem am_cc_186_0 : am_ckc 186 0 = true := by decide +kernel
set_option maxRecDepth 100000 in
theorem am_cc_187_0 : am_ckc 187 0 = true := by decide +kernel
set_option maxRecDepth 100000 in
theorem am_cc_188_0 : am_ckc 188 0 = true := by decide +kernel
set_option maxRecDepth 100000 in
theorem am_cc_188_1 : am_ckc 188 1 = true := by decide +kernel
set_option maxRecDepth 100000 in
theorem am_cc_189_0 : am_ckc 189 0 = true := by decide +kernel
set_option maxRecDepth 100000 in
theorem am_cc_190_0 : am_ckc 190 0 = true := by decide +kernel
set_option maxRecDepth 100000 in
theorem am_cc_190_1 : am_ckc 190 1 = true := by decide +kernel
set_option maxRecDepth 100000 in
theorem am_cc_190_2 : am_ckc 190 2 = true := by decide +kernel
set_option maxRecDepth 100000 in
theorem am_cc_190_3 : am_ckc 190 3 = true := by decide +kernel
set_option maxRecDepth 100000 in
theorem am_cc_190_4 : am_ckc 190 4 = true := by decide +kernel
set_option maxRecDepth 100000 in
theorem am_cc_191_0 : am_ckc 191 0 = true := by decide +kernel
set_option maxRecDepth 100000 in
theorem am_cc_192_0 : am_ckc 192 0 = true := by decide +kernel
set_option maxRecDepth 100000 in
theorem am_cc_193_0 : am_ckc 193 0 = true := by decide +kernel
set_option maxRecDepth 100000 in
theorem am_cc_194_0 : am_ckc 194 0 = true := by decide +kernel
set_option maxRecDepth 100000 in
theorem am_cc_195_0 : am_ckc 195 0 = true := by decide +kernel
set_option maxRecDepth 100000 in
theorem am_cc_195_1 : am_ckc 195 1 = true := by decide +kernel
set_option maxRecDepth 100000 in
theorem am_cc_195_2 : am_ckc 195 2 = true := by decide +kernel
set_option maxRecDepth 100000 in
theorem am_cc_195_3 : am_ckc 195 3 = true := by decide +kernel
set_option maxRecDepth 100000 in
theorem am_cc_196_0 : am_ckc 196 0 = true := by decide +kernel
set_option maxRecDepth 100000 in
theorem am_cc_197_0 : am_ckc 197 0 = true := by decide +kernel
set_option maxRecDepth 100000 in
theorem am_cc_198_0 : am_ckc 198 0 = true := by decide +kernel
set_option maxRecDepth 100000 in
theorem am_cc_199_0 : am_ckc 199 0 = true := by decide +kernel
set_option maxRecDepth 100000 in
theorem am_cc_199_1 : am_ckc 199 1 = true := by decide +kernel
set_option maxRecDepth 100000 in
theorem am_cc_200_0 : am_ckc 200 0 = true := by decide +kernel
set_option maxRecDepth 100000 in
theorem am_cc_200_1 : am_ckc 200 1 = true := by decide +kernel
