set_option maxRecDepth 100000 in
theorem am_chk_3 : (List.range' 60 20).all am_chk = true := by decide +kernel
set_option maxRecDepth 100000 in
theorem am_chk_4 : (List.range' 80 20).all am_chk = true := by decide +kernel
set_option maxRecDepth 100000 in
theorem am_chk_5 : (List.range' 100 20).all am_chk = true := by decide +kernel
