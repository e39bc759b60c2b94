set_option maxRecDepth 100000 in
theorem am_cc_24_0 : am_ckc 24 0 = true := by decide +kernel
set_option maxRecDepth 100000 in
theorem am_cc_24_1 : am_ckc 24 1 = true := by decide +kernel
set_option maxRecDepth 100000 in
theorem am_cc_25_0 : am_ckc 25 0 = true := by decide +kernel
set_option maxRecDepth 100000 in
theorem am_cc_26_0 : am_ckc 26 0 = true := by decide +kernel
set_option maxRecDepth 100000 in
theorem am_cc_26_1 : am_ckc 26 1 = true := by decide +kernel
set_option maxRecDepth 100000 in
theorem am_cc_27_0 : am_ckc 27 0 = true := by decide +kernel
set_option maxRecDepth 100000 in
theorem am_cc_28_0 : am_ckc 28 0 = true := by decide +kernel
set_option maxRecDepth 100000 in
theorem am_cc_29_0 : am_ckc 29 0 = true := by decide +kernel
set_option maxRecDepth 100000 in
theorem am_cc_30_0 : am_ckc 30 0 = true := by decide +kernel
set_option maxRecDepth 100000 in
theorem am_cc_31_0 : am_ckc 31 0 = true := by decide +kernel
set_option maxRecDepth 100000 in
theorem am_cc_32_0 : am_ckc 32 0 = true := by decide +kernel
set_option maxRecDepth 100000 in
theorem am_cc_32_1 : am_ckc 32 1 = true := by decide +kernel
set_option maxRecDepth 100000 in
theorem am_cc_33_0 : am_ckc 33 0 = true := by decide +kernel
set_option maxRecDepth 100000 in
theorem am_cc_33_1 : am_ckc 33 1 = true := by decide +kernel
set_option maxRecDepth 100000 in
theorem am_cc_34_0 : am_ckc 34 0 = true := by decide +kernel
set_option maxRecDepth 100000 in
theorem am_cc_35_0 : am_ckc 35 0 = true := by decide +kernel
set_option maxRecDepth 100000 in
theorem am_cc_35_1 : am_ckc 35 1 = true := by decide +kernel
set_option maxRecDepth 100000 in
theorem am_cc_36_0 : am_ckc 36 0 = true := by decide +kernel
set_option maxRecDepth 100000 in
theorem am_cc_37_0 : am_ckc 37 0 = true := by decide +kernel
set_option maxRecDepth 100000 in
theorem am_cc_37_1 : am_ckc 37 1 = true := by decide +kernel
set_option maxRecDepth 100000 in
theorem am_cc_38_0 : am_ckc 38 0 = true := by decide +kernel
set_option maxRecDepth 100000 in
theorem am_cc_39_0 : am_ckc 39 0 = true := by decide +kernel
set_option maxRecDepth 100000 in
theorem am_cc_40_0 : am_ckc 40 0 = true := by decide +kernel
set_option maxRecDepth 100000 in
theorem am_cc_41_0 : am_ckc 41 0 = true := by decide +kernel
set_option maxRecDepth 100000 in
theorem am_cc_41_1 : am_ckc 41 1 = true := by decide +kernel
set_option maxRecDepth 100000 in
theorem am_cc_42_0 : am_ckc 42 0 = true := by decide +kernel
set_option maxRecDepth 100000 in
theorem am_cc_43_0 : am_ckc 43 0 = true := by decide +kernel
set_option maxRecDepth 100000 in
theorem am_cc_43_1 : am_ckc 43 1 = true := by decide +kernel
set_option maxRecDepth 100000 in
theorem am_cc_43_2 : am_ckc 43 2 = true := by decide +kernel
set_option maxRecDepth 100000 in
theorem am_cc_44_0 : am_ckc 44 0 = true := by decide +kernel
set_option maxRecDepth 100000 in
theorem am_cc_45_0 : am_ckc 45 0 = true := by decide +kernel
set_option maxRecDepth 100000 in
theorem am_cc_46_0 : am_ckc 46 0 = true := by decide +kernel
set_option maxRecDepth 100000 in
theorem am_cc_46_1 : am_ckc 46 1 = true := by decide +kernel
set_option maxRecDepth 100000 in
theorem am_cc_47_0 : am_ckc 47 0 = true := by decide +kernel
set_option maxRecDepth 100000 in
theorem am_cc_47_1 : am_ckc 47 1 = true := by decide +kernel
