set_option maxRecDepth 100000 in
theorem am_cc_215_0 : am_ckc 215 0 = true := by decide +kernel
set_option maxRecDepth 100000 in
theorem am_cc_215_1 : am_ckc 215 1 = true := by decide +kernel
set_option maxRecDepth 100000 in
theorem am_cc_215_2 : am_ckc 215 2 = true := by decide +kernel
set_option maxRecDepth 100000 in
theorem am_cc_216_0 : am_ckc 216 0 = true := by decide +kernel
set_option maxRecDepth 100000 in
theorem am_cc_217_0 : am_ckc 217 0 = true := by decide +kernel
set_option maxRecDepth 100000 in
theorem am_cc_218_0 : am_ckc 218 0 = true := by decide +kernel
set_option maxRecDepth 100000 in
theorem am_cc_219_0 : am_ckc 219 0 = true := by decide +kernel
set_option maxRecDepth 100000 in
theorem am_cc_220_0 : am_ckc 220 0 = true := by decide +kernel
set_option maxRecDepth 100000 in
theorem am_cc_221_0 : am_ckc 221 0 = true := by decide +kernel
set_option maxRecDepth 100000 in
theorem am_cc_222_0 : am_ckc 222 0 = true := by decide +kernel
set_option maxRecDepth 100000 in
theorem am_cc_223_0 : am_ckc 223 0 = true := by decide +kernel
set_option maxRecDepth 100000 in
theorem am_cc_224_0 : am_ckc 224 0 = true := by decide +kernel
set_option maxRecDepth 100000 in
theorem am_cc_225_0 : am_ckc 225 0 = true := by decide +kernel
set_option maxRecDepth 100000 in
theorem am_cc_226_0 : am_ckc 226 0 = true := by decide +kernel
set_option maxRecDepth 100000 in
theorem am_cc_226_1 : am_ckc 226 1 = true := by decide +kernel
set_option maxRecDepth 100000 in
theorem am_cc_226_2 : am_ckc 226 2 = true := by decide +kernel
set_option maxRecDepth 100000 in
theorem am_cc_226_3 : am_ckc 226 3 = true := by decide +kernel
set_option maxRecDepth 100000 in
theorem am_cc_226_4 : am_ckc 226 4 = true := by decide +kernel
set_option maxRecDepth 100000 in
theorem am_cc_226_5 : am_ckc 226 5 = true := by decide +kernel
set_option maxRecDepth 100000 in
theorem am_cc_226_6 : am_ckc 226 6 = true := by decide +kernel
set_option maxRecDepth 100000 in
theorem am_cc_226_7 : am_ckc 226 7 = true := by decide +kernel
set_option maxRecDepth 100000 in
theorem am_cc_226_8 : am_ckc 226 8 = true := by decide +kernel
set_option maxRecDepth 100000 in
theorem am_cc_226_9 : am_ckc 226 9 = true := by decide +kernel
set_option maxRecDepth 100000 in
theorem am_cc_226_10 : am_ckc 226 10 = true := by decide +kernel
