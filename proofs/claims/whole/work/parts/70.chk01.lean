set_option maxRecDepth 100000 in
theorem am_cc_32_0 : am_ckc 32 0 = true := by decide +kernel
set_option maxRecDepth 100000 in
theorem am_cc_32_1 : am_ckc 32 1 = true := by decide +kernel
set_option maxRecDepth 100000 in
theorem am_cc_33_0 : am_ckc 33 0 = true := by decide +kernel
set_option maxRecDepth 100000 in
theorem am_cc_33_1 : am_ckc 33 1 = true := by decide +kernel
set_option maxRecDepth 100000 in
theorem am_cc_34_0 : am_ckc 34 0 = true := by decide +kernel
set_option maxRecDepth 100000 in
theorem am_cc_35_0 : am_ckc 35 0 = true := by decide +kernel
set_option maxRecDepth 100000 in
theorem am_cc_35_1 : am_ckc 35 1 = true := by decide +kernel
set_option maxRecDepth 100000 in
theorem am_cc_36_0 : am_ckc 36 0 = true := by decide +kernel
set_option maxRecDepth 100000 in
theorem am_cc_37_0 : am_ckc 37 0 = true := by decide +kernel
set_option maxRecDepth 100000 in
theorem am_cc_37_1 : am_ckc 37 1 = true := by decide +kernel
set_option maxRecDepth 100000 in
theorem am_cc_38_0 : am_ckc 38 0 = true := by decide +kernel
set_option maxRecDepth 100000 in
theorem am_cc_39_0 : am_ckc 39 0 = true := by decide +kernel
set_option maxRecDepth 100000 in
theorem am_cc_40_0 : am_ckc 40 0 = true := by decide +kernel
set_option maxRecDepth 100000 in
theorem am_cc_41_0 : am_ckc 41 0 = true := by decide +kernel
set_option maxRecDepth 100000 in
theorem am_cc_41_1 : am_ckc 41 1 = true := by decide +kernel
set_option maxRecDepth 100000 in
theorem am_cc_42_0 : am_ckc 42 0 = true := by decide +kernel
set_option maxRecDepth 100000 in
theorem am_cc_43_0 : am_ckc 43 0 = true := by decide +kernel
set_option maxRecDepth 100000 in
theorem am_cc_43_1 : am_ckc 43 1 = true := by decide +kernel
set_option maxRecDepth 100000 in
theorem am_cc_43_2 : am_ckc 43 2 = true := by decide +kernel
set_option maxRecDepth 100000 in
theorem am_cc_44_0 : am_ckc 44 0 = true := by decide +kernel
set_option maxRecDepth 100000 in
theorem am_cc_45_0 : am_ckc 45 0 = true := by decide +kernel
set_option maxRecDepth 100000 in
theorem am_cc_46_0 : am_ckc 46 0 = true := by decide +kernel
set_option maxRecDepth 100000 in
theorem am_cc_46_1 : am_ckc 46 1 = true := by decide +kernel
set_option maxRecDepth 100000 in
theorem am_cc_47_0 : am_ckc 47 0 = true := by decide +kernel
set_option maxRecDepth 100000 in
theorem am_cc_47_1 : am_ckc 47 1 = true := by decide +kernel
set_option maxRecDepth 100000 in
theorem am_cc_48_0 : am_ckc 48 0 = true := by decide +kernel
set_option maxRecDepth 100000 in
theorem am_cc_49_0 : am_ckc 49 0 = true := by decide +kernel
set_option maxRecDepth 100000 in
theorem am_cc_49_1 : am_ckc 49 1 = true := by decide +kernel
set_option maxRecDepth 100000 in
theorem am_cc_50_0 : am_ckc 50 0 = true := by decide +kernel
set_option maxRecDepth 100000 in
theorem am_cc_50_1 : am_ckc 50 1 = true := by decide +kernel
set_option maxRecDepth 100000 in
theorem am_cc_51_0 : am_ckc 51 0 = true := by decide +kernel
set_option maxRecDepth 100000 in
theorem am_cc_51_1 : am_ckc 51 1 = true := by decide +kernel
set_option maxRecDepth 100000 in
theorem am_cc_52_0 : am_ckc 52 0 = true := by decide +kernel
set_option maxRecDepth 100000 in
theorem am_cc_52_1 : am_ckc 52 1 = true := by decide +kernel
set_option maxRecDepth 100000 in
theorem am_cc_53_0 : am_ckc 53 0 = true := by decide +kernel
set_option maxRecDepth 100000 in
theorem am_cc_53_1 : am_ckc 53 1 = true := by decide +kernel
set_option maxRecDepth 100000 in
theorem am_cc_53_2 : am_ckc 53 2 = true := by decide +kernel
set_option maxRecDepth 100000 in
theorem am_cc_54_0 : am_ckc 54 0 = true := by decide +kernel
set_option maxRecDepth 100000 in
theorem am_cc_54_1 : am_ckc 54 1 = true := by decide +kernel
set_option maxRecDepth 100000 in
theorem am_cc_55_0 : am_ckc 55 0 = true := by decide +kernel
set_option maxRecDepth 100000 in
theorem am_cc_56_0 : am_ckc 56 0 = true := by decide +kernel
set_option maxRecDepth 100000 in
theorem am_cc_57_0 : am_ckc 57 0 = true := by decide +kernel
set_option maxRecDepth 100000 in
theorem am_cc_58_0 : am_ckc 58 0 = true := by decide +kernel
set_option maxRecDepth 100000 in
theorem am_cc_59_0 : am_ckc 59 0 = true := by decide +kernel
set_option maxRecDepth 100000 in
theorem am_cc_60_0 : am_ckc 60 0 = true := by decide +kernel
