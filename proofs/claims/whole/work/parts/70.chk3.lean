set_option maxRecDepth 100000 in
theorem am_chk_9 : (List.range' 180 20).all am_chk = true := by decide +kernel
set_option maxRecDepth 100000 in
theorem am_chk_10 : (List.range' 200 20).all am_chk = true := by decide +kernel
set_option maxRecDepth 100000 in
theorem am_chk_11 : (List.range' 220 7).all am_chk = true := by decide +kernel
