set_option maxRecDepth 100000 in
theorem am_k_begin1 : am_prI am_hC 122 160 (am_l1 [.int 1]) (am_l2 [.int 1]) = true := by decide +kernel
set_option maxRecDepth 100000 in
theorem am_k_begin2 : am_prI am_hC 122 160 (am_l1 [.int 2]) (am_l2 [.int 2]) = true := by decide +kernel
set_option maxRecDepth 100000 in
theorem am_k_begin3 : am_prI am_hC 122 160 (am_l1 [.int 3]) (am_l2 [.int 3]) = true := by decide +kernel
set_option maxRecDepth 100000 in
theorem am_k_begin4 : am_prI am_hC 122 160 (am_l1 [.int 4]) (am_l2 [.int 4]) = true := by decide +kernel
set_option maxRecDepth 100000 in
theorem am_k_begin5 : am_prI am_hC 122 160 (am_l1 [.int 5]) (am_l2 [.int 5]) = true := by decide +kernel
set_option maxRecDepth 100000 in
theorem am_k_begin6 : am_prI am_hC 122 160 (am_l1 [.int 6]) (am_l2 [.int 6]) = true := by decide +kernel
set_option maxRecDepth 100000 in
theorem am_k_begin7 : am_prI am_hC 122 160 (am_l1 [.int 7]) (am_l2 [.int 7]) = true := by decide +kernel
set_option maxRecDepth 100000 in
theorem am_k_begin8 : am_prI am_hC 122 160 (am_l1 [.int 8]) (am_l2 [.int 8]) = true := by decide +kernel
set_option maxRecDepth 100000 in
theorem am_k_begin9 : am_prI am_hC 122 160 (am_l1 [.int 9]) (am_l2 [.int 9]) = true := by decide +kernel
set_option maxRecDepth 100000 in
theorem am_k_begin10 : am_prI am_hC 122 160 (am_l1 [.int 10]) (am_l2 [.int 10]) = true := by decide +kernel
set_option maxRecDepth 100000 in
theorem am_k_begin11 : am_prI am_hC 122 160 (am_l1 [.int 11]) (am_l2 [.int 11]) = true := by decide +kernel
set_option maxRecDepth 100000 in
theorem am_k_begin12 : am_prI am_hC 122 160 (am_l1 [.int 12]) (am_l2 [.int 12]) = true := by decide +kernel
set_option maxRecDepth 100000 in
theorem am_k_begin13 : am_prI am_hC 122 160 (am_l1 [.int 13]) (am_l2 [.int 13]) = true := by decide +kernel
set_option maxRecDepth 100000 in
theorem am_k_begin14 : am_prI am_hC 122 160 (am_l1 [.int 14]) (am_l2 [.int 14]) = true := by decide +kernel
set_option maxRecDepth 100000 in
theorem am_k_begin15 : am_prI am_hC 122 160 (am_l1 [.int 15]) (am_l2 [.int 15]) = true := by decide +kernel
set_option maxRecDepth 100000 in
theorem am_k_begin16 : am_prI am_hC 122 160 (am_l1 [.int 16]) (am_l2 [.int 16]) = true := by decide +kernel
set_option maxRecDepth 100000 in
theorem am_k_begin17 : am_prI am_hC 122 160 (am_l1 [.int 17]) (am_l2 [.int 17]) = true := by decide +kernel
set_option maxRecDepth 100000 in
theorem am_k_begin18 : am_prI am_hC 122 160 (am_l1 [.int 18]) (am_l2 [.int 18]) = true := by decide +kernel
set_option maxRecDepth 100000 in
theorem am_k_begin19 : am_prI am_hC 122 160 (am_l1 [.int 19]) (am_l2 [.int 19]) = true := by decide +kernel
set_option maxRecDepth 100000 in
theorem am_k_begin20 : am_prI am_hC 122 160 (am_l1 [.int 20]) (am_l2 [.int 20]) = true := by decide +kernel
