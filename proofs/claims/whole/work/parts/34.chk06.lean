set_option maxRecDepth 100000 in
theorem am_cc_158_0 : am_ckc 158 0 = true := by decide +kernel
set_option maxRecDepth 100000 in
theorem am_cc_159_0 : am_ckc 159 0 = true := by decide +kernel
set_option maxRecDepth 100000 in
theorem am_cc_160_0 : am_ckc 160 0 = true := by decide +kernel
set_option maxRecDepth 100000 in
theorem am_cc_161_0 : am_ckc 161 0 = true := by decide +kernel
set_option maxRecDepth 100000 in
theorem am_cc_161_1 : am_ckc 161 1 = true := by decide +kernel
set_option maxRecDepth 100000 in
theorem am_cc_162_0 : am_ckc 162 0 = true := by decide +kernel
set_option maxRecDepth 100000 in
theorem am_cc_163_0 : am_ckc 163 0 = true := by decide +kernel
set_option maxRecDepth 100000 in
theorem am_cc_164_0 : am_ckc 164 0 = true := by decide +kernel
set_option maxRecDepth 100000 in
theorem am_cc_165_0 : am_ckc 165 0 = true := by decide +kernel
set_option maxRecDepth 100000 in
theorem am_cc_165_1 : am_ckc 165 1 = true := by decide +kernel
set_option maxRecDepth 100000 in
theorem am_cc_165_2 : am_ckc 165 2 = true := by decide +kernel
set_option maxRecDepth 100000 in
theorem am_cc_166_0 : am_ckc 166 0 = true := by decide +kernel
set_option maxRecDepth 100000 in
theorem am_cc_167_0 : am_ckc 167 0 = true := by decide +kernel
set_option maxRecDepth 100000 in
theorem am_cc_167_1 : am_ckc 167 1 = true := by decide +kernel
set_option maxRecDepth 100000 in
theorem am_cc_168_0 : am_ckc 168 0 = true := by decide +kernel
set_option maxRecDepth 100000 in
theorem am_cc_169_0 : am_ckc 169 0 = true := by decide +kernel
set_option maxRecDepth 100000 in
theorem am_cc_170_0 : am_ckc 170 0 = true := by decide +kernel
set_option maxRecDepth 100000 in
theorem am_cc_170_1 : am_ckc 170 1 = true := by decide +kernel
set_option maxRecDepth 100000 in
theorem am_cc_170_2 : am_ckc 170 2 = true := by decide +kernel
set_option maxRecDepth 100000 in
theorem am_cc_171_0 : am_ckc 171 0 = true := by decide +kernel
set_option maxRecDepth 100000 in
theorem am_cc_171_1 : am_ckc 171 1 = true := by decide +kernel
set_option maxRecDepth 100000 in
theorem am_cc_171_2 : am_ckc 171 2 = true := by decide +kernel
set_option maxRecDepth 100000 in
theorem am_cc_172_0 : am_ckc 172 0 = true := by decide +kernel
set_option maxRecDepth 100000 in
theorem am_cc_172_1 : am_ckc 172 1 = true := by decide +kernel
set_option maxRecDepth 100000 in
theorem am_cc_173_0 : am_ckc 173 0 = true := by decide +kernel
set_option maxRecDepth 100000 in
theorem am_cc_173_1 : am_ckc 173 1 = true := by decide +kernel
set_option maxRecDepth 100000 in
theorem am_cc_174_0 : am_ckc 174 0 = true := by decide +kernel
set_option maxRecDepth 100000 in
theorem am_cc_174_1 : am_ckc 174 1 = true := by decide +kernel
set_option maxRecDepth 100000 in
theorem am_cc_174_2 : am_ckc 174 2 = true := by decide +kernel
set_option maxRecDepth 100000 in
theorem am_cc_175_0 : am_ckc 175 0 = true := by decide +kernel
set_option maxRecDepth 100000 in
theorem am_cc_176_0 : am_ckc 176 0 = true := by decide +kernel
set_option maxRecDepth 100000 in
theorem am_cc_177_0 : am_ckc 177 0 = true := by decide +kernel
set_option maxRecDepth 100000 in
theorem am_cc_178_0 : am_ckc 178 0 = true := by decide +kernel
set_option maxRecDepth 100000 in
theorem am_cc_179_0 : am_ckc 179 0 = true := by decide +kernel
set_option maxRecDepth 100000 in
theorem am_cc_179_1 : am_ckc 179 1 = true := by decide +kernel
