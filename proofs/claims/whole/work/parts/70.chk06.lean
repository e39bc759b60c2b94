set_option maxRecDepth 100000 in
theorem am_cc_195_1 : am_ckc 195 1 = true := by decide +kernel
set_option maxRecDepth 100000 in
theorem am_cc_195_2 : am_ckc 195 2 = true := by decide +kernel
set_option maxRecDepth 100000 in
theorem am_cc_195_3 : am_ckc 195 3 = true := by decide +kernel
set_option maxRecDepth 100000 in
theorem am_cc_196_0 : am_ckc 196 0 = true := by decide +kernel
set_option maxRecDepth 100000 in
theorem am_cc_197_0 : am_ckc 197 0 = true := by decide +kernel
set_option maxRecDepth 100000 in
theorem am_cc_198_0 : am_ckc 198 0 = true := by decide +kernel
set_option maxRecDepth 100000 in
theorem am_cc_199_0 : am_ckc 199 0 = true := by decide +kernel
set_option maxRecDepth 100000 in
theorem am_cc_199_1 : am_ckc 199 1 = true := by decide +kernel
set_option maxRecDepth 100000 in
theorem am_cc_200_0 : am_ckc 200 0 = true := by decide +kernel
set_option maxRecDepth 100000 in
theorem am_cc_200_1 : am_ckc 200 1 = true := by decide +kernel
set_option maxRecDepth 100000 in
theorem am_cc_201_0 : am_ckc 201 0 = true := by decide +kernel
set_option maxRecDepth 100000 in
theorem am_cc_201_1 : am_ckc 201 1 = true := by decide +kernel
set_option maxRecDepth 100000 in
theorem am_cc_201_2 : am_ckc 201 2 = true := by decide +kernel
set_option maxRecDepth 100000 in
theorem am_cc_202_0 : am_ckc 202 0 = true := by decide +kernel
