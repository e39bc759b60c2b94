set_option maxRecDepth 100000 in
theorem am_cc_48_0 : am_ckc 48 0 = true := by decide +kernel
set_option maxRecDepth 100000 in
theorem am_cc_49_0 : am_ckc 49 0 = true := by decide +kernel
set_option maxRecDepth 100000 in
theorem am_cc_49_1 : am_ckc 49 1 = true := by decide +kernel
set_option maxRecDepth 100000 in
theorem am_cc_50_0 : am_ckc 50 0 = true := by decide +kernel
set_option maxRecDepth 100000 in
theorem am_cc_50_1 : am_ckc 50 1 = true := by decide +kernel
set_option maxRecDepth 100000 in
theorem am_cc_51_0 : am_ckc 51 0 = true := by decide +kernel
set_option maxRecDepth 100000 in
theorem am_cc_51_1 : am_ckc 51 1 = true := by decide +kernel
set_option maxRecDepth 100000 in
theorem am_cc_52_0 : am_ckc 52 0 = true := by decide +kernel
set_option maxRecDepth 100000 in
theorem am_cc_52_1 : am_ckc 52 1 = true := by decide +kernel
set_option maxRecDepth 100000 in
theorem am_cc_53_0 : am_ckc 53 0 = true := by decide +kernel
set_option maxRecDepth 100000 in
theorem am_cc_53_1 : am_ckc 53 1 = true := by decide +kernel
set_option maxRecDepth 100000 in
theorem am_cc_53_2 : am_ckc 53 2 = true := by decide +kernel
set_option maxRecDepth 100000 in
theorem am_cc_54_0 : am_ckc 54 0 = true := by decide +kernel
set_option maxRecDepth 100000 in
theorem am_cc_54_1 : am_ckc 54 1 = true := by decide +kernel
set_option maxRecDepth 100000 in
theorem am_cc_55_0 : am_ckc 55 0 = true := by decide +kernel
set_option maxRecDepth 100000 in
theorem am_cc_56_0 : am_ckc 56 0 = true := by decide +kernel
set_option maxRecDepth 100000 in
theorem am_cc_57_0 : am_ckc 57 0 = true := by decide +kernel
set_option maxRecDepth 100000 in
theorem am_cc_58_0 : am_ckc 58 0 = true := by decide +kernel
set_option maxRecDepth 100000 in
theorem am_cc_59_0 : am_ckc 59 0 = true := by decide +kernel
set_option maxRecDepth 100000 in
theorem am_cc_60_0 : am_ckc 60 0 = true := by decide +kernel
set_option maxRecDepth 100000 in
theorem am_cc_60_1 : am_ckc 60 1 = true := by decide +kernel
set_option maxRecDepth 100000 in
theorem am_cc_61_0 : am_ckc 61 0 = true := by decide +kernel
set_option maxRecDepth 100000 in
theorem am_cc_62_0 : am_ckc 62 0 = true := by decide +kernel
set_option maxRecDepth 100000 in
theorem am_cc_63_0 : am_ckc 63 0 = true := by decide +kernel
set_option maxRecDepth 100000 in
theorem am_cc_64_0 : am_ckc 64 0 = true := by decide +kernel
set_option maxRecDepth 100000 in
theorem am_cc_65_0 : am_ckc 65 0 = true := by decide +kernel
set_option maxRecDepth 100000 in
theorem am_cc_66_0 : am_ckc 66 0 = true := by decide +kernel
set_option maxRecDepth 100000 in
theorem am_cc_67_0 : am_ckc 67 0 = true := by decide +kernel
set_option maxRecDepth 100000 in
theorem am_cc_68_0 : am_ckc 68 0 = true := by decide +kernel
set_option maxRecDepth 100000 in
theorem am_cc_69_0 : am_ckc 69 0 = true := by decide +kernel
set_option maxRecDepth 100000 in
theorem am_cc_70_0 : am_ckc 70 0 = true := by decide +kernel
set_option maxRecDepth 100000 in
theorem am_cc_71_0 : am_ckc 71 0 = true := by decide +kernel
set_option maxRecDepth 100000 in
theorem am_cc_72_0 : am_ckc 72 0 = true := by decide +kernel
set_option maxRecDepth 100000 in
theorem am_cc_73_0 : am_ckc 73 0 = true := by decide +kernel
set_option maxRecDepth 100000 in
theorem am_cc_73_1 : am_ckc 73 1 = true := by decide +kernel
