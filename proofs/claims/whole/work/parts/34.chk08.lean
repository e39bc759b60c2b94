set_option maxRecDepth 100000 in
theorem am_cc_201_0 : am_ckc 201 0 = true := by decide +kernel
set_option maxRecDepth 100000 in
theorem am_cc_201_1 : am_ckc 201 1 = true := by decide +kernel
set_option maxRecDepth 100000 in
theorem am_cc_201_2 : am_ckc 201 2 = true := by decide +kernel
set_option maxRecDepth 100000 in
theorem am_cc_202_0 : am_ckc 202 0 = true := by decide +kernel
set_option maxRecDepth 100000 in
theorem am_cc_202_1 : am_ckc 202 1 = true := by decide +kernel
set_option maxRecDepth 100000 in
theorem am_cc_202_2 : am_ckc 202 2 = true := by decide +kernel
set_option maxRecDepth 100000 in
theorem am_cc_202_3 : am_ckc 202 3 = true := by decide +kernel
set_option maxRecDepth 100000 in
theorem am_cc_202_4 : am_ckc 202 4 = true := by decide +kernel
set_option maxRecDepth 100000 in
theorem am_cc_202_5 : am_ckc 202 5 = true := by decide +kernel
set_option maxRecDepth 100000 in
theorem am_cc_202_6 : am_ckc 202 6 = true := by decide +kernel
set_option maxRecDepth 100000 in
theorem am_cc_203_0 : am_ckc 203 0 = true := by decide +kernel
set_option maxRecDepth 100000 in
theorem am_cc_203_1 : am_ckc 203 1 = true := by decide +kernel
set_option maxRecDepth 100000 in
theorem am_cc_204_0 : am_ckc 204 0 = true := by decide +kernel
set_option maxRecDepth 100000 in
theorem am_cc_204_1 : am_ckc 204 1 = true := by decide +kernel
set_option maxRecDepth 100000 in
theorem am_cc_205_0 : am_ckc 205 0 = true := by decide +kernel
set_option maxRecDepth 100000 in
theorem am_cc_206_0 : am_ckc 206 0 = true := by decide +kernel
set_option maxRecDepth 100000 in
theorem am_cc_207_0 : am_ckc 207 0 = true := by decide +kernel
set_option maxRecDepth 100000 in
theorem am_cc_208_0 : am_ckc 208 0 = true := by decide +kernel
set_option maxRecDepth 100000 in
theorem am_cc_209_0 : am_ckc 209 0 = true := by decide +kernel
set_option maxRecDepth 100000 in
theorem am_cc_209_1 : am_ckc 209 1 = true := by decide +kernel
set_option maxRecDepth 100000 in
theorem am_cc_210_0 : am_ckc 210 0 = true := by decide +kernel
set_option maxRecDepth 100000 in
theorem am_cc_210_1 : am_ckc 210 1 = true := by decide +kernel
set_option maxRecDepth 100000 in
theorem am_cc_210_2 : am_ckc 210 2 = true := by decide +kernel
set_option maxRecDepth 100000 in
theorem am_cc_211_0 : am_ckc 211 0 = true := by decide +kernel
set_option maxRecDepth 100000 in
theorem am_cc_211_1 : am_ckc 211 1 = true := by decide +kernel
set_option maxRecDepth 100000 in
theorem am_cc_212_0 : am_ckc 212 0 = true := by decide +kernel
set_option maxRecDepth 100000 in
theorem am_cc_212_1 : am_ckc 212 1 = true := by decide +kernel
set_option maxRecDepth 100000 in
theorem am_cc_213_0 : am_ckc 213 0 = true := by decide +kernel
set_option maxRecDepth 100000 in
theorem am_cc_213_1 : am_ckc 213 1 = true := by decide +kernel
set_option maxRecDepth 100000 in
theorem am_cc_213_2 : am_ckc 213 2 = true := by decide +kernel
set_option maxRecDepth 100000 in
theorem am_cc_213_3 : am_ckc 213 3 = true := by decide +kernel
set_option maxRecDepth 100000 in
theorem am_cc_213_4 : am_ckc 213 4 = true := by decide +kernel
set_option maxRecDepth 100000 in
theorem am_cc_214_0 : am_ckc 214 0 = true := by decide +kernel
set_option maxRecDepth 100000 in
theorem am_cc_214_1 : am_ckc 214 1 = true := by decide +kernel
set_option maxRecDepth 100000 in
theorem am_cc_214_2 : am_ckc 214 2 = true := by decide +kernel
