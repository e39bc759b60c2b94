set_option maxRecDepth 100000 in
theorem am_k_clear : am_prI am_hC 124 162 (am_l1 []) (am_l2 []) = true := by decide +kernel
set_option maxRecDepth 100000 in
theorem am_k_read : am_prI am_hC 125 172 (am_l1 []) (am_l2 []) = true := by decide +kernel
set_option maxRecDepth 100000 in
theorem am_k_add : am_prI am_hC 126 173 (am_l1 []) (am_l2 []) = true := by decide +kernel
set_option maxRecDepth 100000 in
theorem am_k_cities : am_prI am_hC 130 177 (am_l1 []) (am_l2 []) = true := by decide +kernel
set_option maxRecDepth 100000 in
theorem am_k_tree : am_prJ am_hC 132 185 (am_l1 []) (am_l2 []) = true := by decide +kernel
set_option maxRecDepth 100000 in
theorem am_k_match : am_prJ am_hC 136 191 (am_l1 []) (am_l2 []) = true := by decide +kernel
set_option maxRecDepth 100000 in
theorem am_k_prices : am_prJ am_hC 138 193 (am_l1 []) (am_l2 []) = true := by decide +kernel
set_option maxRecDepth 100000 in
theorem am_k_round : am_prI am_hC 139 196 (am_l1 []) (am_l2 []) = true := by decide +kernel
set_option maxRecDepth 100000 in
theorem am_k_length : am_prJ am_hC 144 207 (am_l1 []) (am_l2 []) = true := by decide +kernel
set_option maxRecDepth 100000 in
theorem am_k_best : am_prJ am_hC 146 213 (am_l1 []) (am_l2 []) = true := by decide +kernel
set_option maxRecDepth 100000 in
theorem am_k_forgive : am_prI am_hC 149 217 (am_l1 []) (am_l2 []) = true := by decide +kernel
set_option maxRecDepth 100000 in
theorem am_k_drop : am_prI am_hC 127 174 (am_l1 [.int 0]) (am_l2 [.int 0]) = true := by decide +kernel
set_option maxRecDepth 100000 in
theorem am_k_hung : am_prI am_hC 133 186 (am_l1 [.int 0]) (am_l2 [.int 0]) = true := by decide +kernel
set_option maxRecDepth 100000 in
theorem am_k_cut : am_prI am_hC 134 188 (am_l1 [.int 0]) (am_l2 [.int 0]) = true := by decide +kernel
set_option maxRecDepth 100000 in
theorem am_k_partner : am_prI am_hC 137 192 (am_l1 [.int 0]) (am_l2 [.int 0]) = true := by decide +kernel
set_option maxRecDepth 100000 in
theorem am_k_place : am_prI am_hC 143 206 (am_l1 [.int 0]) (am_l2 [.int 0]) = true := by decide +kernel
set_option maxRecDepth 100000 in
theorem am_k_penalty : am_prJ am_hC 148 216 (am_l1 [.int 0]) (am_l2 [.int 0]) = true := by decide +kernel
set_option maxRecDepth 100000 in
theorem am_k_dist : am_prI am_hC 129 176 (am_l1 [.int 0, .int 0]) (am_l2 [.int 0, .int 0]) = true := by decide +kernel
set_option maxRecDepth 100000 in
theorem am_k_flaw0 : am_prI am_hC 131 180 (am_l1 [.int 0]) (am_l2 [.int 0]) = true := by decide +kernel
set_option maxRecDepth 100000 in
theorem am_k_flaw1 : am_prI am_hC 131 180 (am_l1 [.int 1]) (am_l2 [.int 1]) = true := by decide +kernel
set_option maxRecDepth 100000 in
theorem am_k_flaw2 : am_prI am_hC 131 180 (am_l1 [.int 2]) (am_l2 [.int 2]) = true := by decide +kernel
set_option maxRecDepth 100000 in
theorem am_k_flaw3 : am_prI am_hC 131 180 (am_l1 [.int 3]) (am_l2 [.int 3]) = true := by decide +kernel
set_option maxRecDepth 100000 in
theorem am_k_build1 : am_prJ am_hC 141 204 (am_l1 [.int 1, .int 0]) (am_l2 [.int 1, .int 0]) = true := by decide +kernel
set_option maxRecDepth 100000 in
theorem am_k_build2 : am_prJ am_hC 141 204 (am_l1 [.int 2, .int 0]) (am_l2 [.int 2, .int 0]) = true := by decide +kernel
set_option maxRecDepth 100000 in
theorem am_k_build0 : am_prJ am_hC 141 204 (am_l1 [.int 0]) (am_l2 [.int 0]) = true := by decide +kernel
set_option maxRecDepth 100000 in
theorem am_k_build3 : am_prJ am_hC 141 204 (am_l1 [.int 3]) (am_l2 [.int 3]) = true := by decide +kernel
