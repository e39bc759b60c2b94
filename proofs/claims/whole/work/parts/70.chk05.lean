set_option maxRecDepth 100000 in
theorem am_cc_169_0 : am_ckc 169 0 = true := by decide +kernel
set_option maxRecDepth 100000 in
theorem am_cc_170_0 : am_ckc 170 0 = true := by decide +kernel
set_option maxRecDepth 100000 in
theorem am_cc_170_1 : am_ckc 170 1 = true := by decide +kernel
set_option maxRecDepth 100000 in
theorem am_cc_170_2 : am_ckc 170 2 = true := by decide +kernel
set_option maxRecDepth 100000 in
theorem am_cc_171_0 : am_ckc 171 0 = true := by decide +kernel
set_option maxRecDepth 100000 in
theorem am_cc_171_1 : am_ckc 171 1 = true := by decide +kernel
set_option maxRecDepth 100000 in
theorem am_cc_171_2 : am_ckc 171 2 = true := by decide +kernel
set_option maxRecDepth 100000 in
theorem am_cc_172_0 : am_ckc 172 0 = true := by decide +kernel
set_option maxRecDepth 100000 in
theorem am_cc_172_1 : am_ckc 172 1 = true := by decide +kernel
set_option maxRecDepth 100000 in
theorem am_cc_173_0 : am_ckc 173 0 = true := by decide +kernel
set_option maxRecDepth 100000 in
theorem am_cc_173_1 : am_ckc 173 1 = true := by decide +kernel
set_option maxRecDepth 100000 in
theorem am_cc_174_0 : am_ckc 174 0 = true := by decide +kernel
set_option maxRecDepth 100000 in
theorem am_cc_174_1 : am_ckc 174 1 = true := by decide +kernel
set_option maxRecDepth 100000 in
theorem am_cc_174_2 : am_ckc 174 2 = true := by decide +kernel
set_option maxRecDepth 100000 in
theorem am_cc_175_0 : am_ckc 175 0 = true := by decide +kernel
set_option maxRecDepth 100000 in
theorem am_cc_176_0 : am_ckc 176 0 = true := by decide +kernel
set_option maxRecDepth 100000 in
theorem am_cc_177_0 : am_ckc 177 0 = true := by decide +kernel
set_option maxRecDepth 100000 in
theorem am_cc_178_0 : am_ckc 178 0 = true := by decide +kernel
set_option maxRecDepth 100000 in
theorem am_cc_179_0 : am_ckc 179 0 = true := by decide +kernel
set_option maxRecDepth 100000 in
theorem am_cc_179_1 : am_ckc 179 1 = true := by decide +kernel
set_option maxRecDepth 100000 in
theorem am_cc_179_2 : am_ckc 179 2 = true := by decide +kernel
set_option maxRecDepth 100000 in
theorem am_cc_180_0 : am_ckc 180 0 = true := by decide +kernel
set_option maxRecDepth 100000 in
theorem am_cc_181_0 : am_ckc 181 0 = true := by decide +kernel
set_option maxRecDepth 100000 in
theorem am_cc_182_0 : am_ckc 182 0 = true := by decide +kernel
set_option maxRecDepth 100000 in
theorem am_cc_183_0 : am_ckc 183 0 = true := by decide +kernel
set_option maxRecDepth 100000 in
theorem am_cc_183_1 : am_ckc 183 1 = true := by decide +kernel
set_option maxRecDepth 100000 in
theorem am_cc_183_2 : am_ckc 183 2 = true := by decide +kernel
set_option maxRecDepth 100000 in
theorem am_cc_184_0 : am_ckc 184 0 = true := by decide +kernel
set_option maxRecDepth 100000 in
theorem am_cc_184_1 : am_ckc 184 1 = true := by decide +kernel
set_option maxRecDepth 100000 in
theorem am_cc_185_0 : am_ckc 185 0 = true := by decide +kernel
set_option maxRecDepth 100000 in
theorem am_cc_186_0 : am_ckc 186 0 = true := by decide +kernel
set_option maxRecDepth 100000 in
theorem am_cc_187_0 : am_ckc 187 0 = true := by decide +kernel
set_option maxRecDepth 100000 in
theorem am_cc_188_0 : am_ckc 188 0 = true := by decide +kernel
set_option maxRecDepth 100000 in
theorem am_cc_188_1 : am_ckc 188 1 = true := by decide +kernel
set_option maxRecDepth 100000 in
theorem am_cc_189_0 : am_ckc 189 0 = true := by decide +kernel
set_option maxRecDepth 100000 in
theorem am_cc_190_0 : am_ckc 190 0 = true := by decide +kernel
set_option maxRecDepth 100000 in
theorem am_cc_190_1 : am_ckc 190 1 = true := by decide +kernel
set_option maxRecDepth 100000 in
theorem am_cc_190_2 : am_ckc 190 2 = true := by decide +kernel
set_option maxRecDepth 100000 in
theorem am_cc_190_3 : am_ckc 190 3 = true := by decide +kernel
set_option maxRecDepth 100000 in
theorem am_cc_190_4 : am_ckc 190 4 = true := by decide +kernel
set_option maxRecDepth 100000 in
theorem am_cc_191_0 : am_ckc 191 0 = true := by decide +kernel
set_option maxRecDepth 100000 in
theorem am_cc_192_0 : am_ckc 192 0 = true := by decide +kernel
set_option maxRecDepth 100000 in
theorem am_cc_193_0 : am_ckc 193 0 = true := by decide +kernel
set_option maxRecDepth 100000 in
theorem am_cc_194_0 : am_ckc 194 0 = true := by decide +kernel
set_option maxRecDepth 100000 in
theorem am_cc_195_0 : am_ckc 195 0 = true := by decide +kernel
