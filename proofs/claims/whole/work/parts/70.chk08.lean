set_option maxRecDepth 100000 in
theorem am_cc_209_0 : am_ckc 209 0 = true := by decide +kernel
set_option maxRecDepth 100000 in
theorem am_cc_209_1 : am_ckc 209 1 = true := by decide +kernel
set_option maxRecDepth 100000 in
theorem am_cc_210_0 : am_ckc 210 0 = true := by decide +kernel
set_option maxRecDepth 100000 in
theorem am_cc_210_1 : am_ckc 210 1 = true := by decide +kernel
set_option maxRecDepth 100000 in
theorem am_cc_210_2 : am_ckc 210 2 = true := by decide +kernel
set_option maxRecDepth 100000 in
theorem am_cc_211_0 : am_ckc 211 0 = true := by decide +kernel
set_option maxRecDepth 100000 in
theorem am_cc_211_1 : am_ckc 211 1 = true := by decide +kernel
set_option maxRecDepth 100000 in
theorem am_cc_212_0 : am_ckc 212 0 = true := by decide +kernel
set_option maxRecDepth 100000 in
theorem am_cc_212_1 : am_ckc 212 1 = true := by decide +kernel
set_option maxRecDepth 100000 in
theorem am_cc_213_0 : am_ckc 213 0 = true := by decide +kernel
set_option maxRecDepth 100000 in
theorem am_cc_213_1 : am_ckc 213 1 = true := by decide +kernel
set_option maxRecDepth 100000 in
theorem am_cc_213_2 : am_ckc 213 2 = true := by decide +kernel
set_option maxRecDepth 100000 in
theorem am_cc_213_3 : am_ckc 213 3 = true := by decide +kernel
set_option maxRecDepth 100000 in
theorem am_cc_213_4 : am_ckc 213 4 = true := by decide +kernel
