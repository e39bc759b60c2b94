set_option maxRecDepth 100000 in
theorem am_cc_214_0 : am_ckc 214 0 = true := by decide +kernel
set_option maxRecDepth 100000 in
theorem am_cc_214_1 : am_ckc 214 1 = true := by decide +kernel
set_option maxRecDepth 100000 in
theorem am_cc_214_2 : am_ckc 214 2 = true := by decide +kernel
set_option maxRecDepth 100000 in
theorem am_cc_215_0 : am_ckc 215 0 = true := by decide +kernel
set_option maxRecDepth 100000 in
theorem am_cc_215_1 : am_ckc 215 1 = true := by decide +kernel
set_option maxRecDepth 100000 in
theorem am_cc_215_2 : am_ckc 215 2 = true := by decide +kernel
set_option maxRecDepth 100000 in
theorem am_cc_216_0 : am_ckc 216 0 = true := by decide +kernel
set_option maxRecDepth 100000 in
theorem am_cc_217_0 : am_ckc 217 0 = true := by decide +kernel
set_option maxRecDepth 100000 in
theorem am_cc_218_0 : am_ckc 218 0 = true := by decide +kernel
set_option maxRecDepth 100000 in
theorem am_cc_219_0 : am_ckc 219 0 = true := by decide +kernel
set_option maxRecDepth 100000 in
theorem am_cc_220_0 : am_ckc 220 0 = true := by decide +kernel
set_option maxRecDepth 100000 in
theorem am_cc_221_0 : am_ckc 221 0 = true := by decide +kernel
set_option maxRecDepth 100000 in
theorem am_cc_222_0 : am_ckc 222 0 = true := by decide +kernel
set_option maxRecDepth 100000 in
theorem am_cc_223_0 : am_ckc 223 0 = true := by decide +kernel
