set_option maxRecDepth 100000 in
theorem am_chk_0 : (List.range' 0 20).all am_chk = true := by decide +kernel
set_option maxRecDepth 100000 in
theorem am_chk_1 : (List.range' 20 20).all am_chk = true := by decide +kernel
set_option maxRecDepth 100000 in
theorem am_chk_2 : (List.range' 40 20).all am_chk = true := by decide +kernel
