set_option maxRecDepth 100000 in
theorem am_cc_202_1 : am_ckc 202 1 = true := by decide +kernel
set_option maxRecDepth 100000 in
theorem am_cc_202_2 : am_ckc 202 2 = true := by decide +kernel
set_option maxRecDepth 100000 in
theorem am_cc_202_3 : am_ckc 202 3 = true := by decide +kernel
set_option maxRecDepth 100000 in
theorem am_cc_202_4 : am_ckc 202 4 = true := by decide +kernel
set_option maxRecDepth 100000 in
theorem am_cc_202_5 : am_ckc 202 5 = true := by decide +kernel
set_option maxRecDepth 100000 in
theorem am_cc_202_6 : am_ckc 202 6 = true := by decide +kernel
set_option maxRecDepth 100000 in
theorem am_cc_203_0 : am_ckc 203 0 = true := by decide +kernel
set_option maxRecDepth 100000 in
theorem am_cc_203_1 : am_ckc 203 1 = true := by decide +kernel
set_option maxRecDepth 100000 in
theorem am_cc_204_0 : am_ckc 204 0 = true := by decide +kernel
set_option maxRecDepth 100000 in
theorem am_cc_204_1 : am_ckc 204 1 = true := by decide +kernel
set_option maxRecDepth 100000 in
theorem am_cc_205_0 : am_ckc 205 0 = true := by decide +kernel
set_option maxRecDepth 100000 in
theorem am_cc_206_0 : am_ckc 206 0 = true := by decide +kernel
set_option maxRecDepth 100000 in
theorem am_cc_207_0 : am_ckc 207 0 = true := by decide +kernel
set_option maxRecDepth 100000 in
theorem am_cc_208_0 : am_ckc 208 0 = true := by decide +kernel
