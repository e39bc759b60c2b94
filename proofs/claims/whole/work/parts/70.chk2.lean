set_option maxRecDepth 100000 in
theorem am_chk_6 : (List.range' 120 20).all am_chk = true := by decide +kernel
set_option maxRecDepth 100000 in
theorem am_chk_7 : (List.range' 140 20).all am_chk = true := by decide +kernel
set_option maxRecDepth 100000 in
theorem am_chk_8 : (List.range' 160 20).all am_chk = true := by decide +kernel
