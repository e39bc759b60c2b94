def am_ckc (i c : Nat) : Bool := match am_meth[i]?, am_code[i]?, am_size[i]? with
  | some q, some f, some n => (List.range' (80 * c) 80).all (fun pc => if pc < n then (match f pc with
    | some e => am_okB q pc e
    | none => true) else true)
  | _, _, _ => false
set_option maxRecDepth 100000 in
theorem am_cc_0_0 : am_ckc 0 0 = true := by decide +kernel
set_option maxRecDepth 100000 in
theorem am_cc_1_0 : am_ckc 1 0 = true := by decide +kernel
set_option maxRecDepth 100000 in
theorem am_cc_2_0 : am_ckc 2 0 = true := by decide +kernel
set_option maxRecDepth 100000 in
theorem am_cc_2_1 : am_ckc 2 1 = true := by decide +kernel
set_option maxRecDepth 100000 in
theorem am_cc_3_0 : am_ckc 3 0 = true := by decide +kernel
set_option maxRecDepth 100000 in
theorem am_cc_3_1 : am_ckc 3 1 = true := by decide +kernel
set_option maxRecDepth 100000 in
theorem am_cc_3_2 : am_ckc 3 2 = true := by decide +kernel
set_option maxRecDepth 100000 in
theorem am_cc_4_0 : am_ckc 4 0 = true := by decide +kernel
set_option maxRecDepth 100000 in
theorem am_cc_5_0 : am_ckc 5 0 = true := by decide +kernel
set_option maxRecDepth 100000 in
theorem am_cc_6_0 : am_ckc 6 0 = true := by decide +kernel
set_option maxRecDepth 100000 in
theorem am_cc_7_0 : am_ckc 7 0 = true := by decide +kernel
set_option maxRecDepth 100000 in
theorem am_cc_8_0 : am_ckc 8 0 = true := by decide +kernel
set_option maxRecDepth 100000 in
theorem am_cc_9_0 : am_ckc 9 0 = true := by decide +kernel
set_option maxRecDepth 100000 in
theorem am_cc_10_0 : am_ckc 10 0 = true := by decide +kernel
set_option maxRecDepth 100000 in
theorem am_cc_11_0 : am_ckc 11 0 = true := by decide +kernel
set_option maxRecDepth 100000 in
theorem am_cc_12_0 : am_ckc 12 0 = true := by decide +kernel
set_option maxRecDepth 100000 in
theorem am_cc_13_0 : am_ckc 13 0 = true := by decide +kernel
set_option maxRecDepth 100000 in
theorem am_cc_13_1 : am_ckc 13 1 = true := by decide +kernel
set_option maxRecDepth 100000 in
theorem am_cc_13_2 : am_ckc 13 2 = true := by decide +kernel
set_option maxRecDepth 100000 in
theorem am_cc_14_0 : am_ckc 14 0 = true := by decide +kernel
set_option maxRecDepth 100000 in
theorem am_cc_15_0 : am_ckc 15 0 = true := by decide +kernel
set_option maxRecDepth 100000 in
theorem am_cc_15_1 : am_ckc 15 1 = true := by decide +kernel
set_option maxRecDepth 100000 in
theorem am_cc_15_2 : am_ckc 15 2 = true := by decide +kernel
set_option maxRecDepth 100000 in
theorem am_cc_16_0 : am_ckc 16 0 = true := by decide +kernel
set_option maxRecDepth 100000 in
theorem am_cc_17_0 : am_ckc 17 0 = true := by decide +kernel
set_option maxRecDepth 100000 in
theorem am_cc_18_0 : am_ckc 18 0 = true := by decide +kernel
set_option maxRecDepth 100000 in
theorem am_cc_19_0 : am_ckc 19 0 = true := by decide +kernel
set_option maxRecDepth 100000 in
theorem am_cc_20_0 : am_ckc 20 0 = true := by decide +kernel
set_option maxRecDepth 100000 in
theorem am_cc_20_1 : am_ckc 20 1 = true := by decide +kernel
set_option maxRecDepth 100000 in
theorem am_cc_21_0 : am_ckc 21 0 = true := by decide +kernel
set_option maxRecDepth 100000 in
theorem am_cc_22_0 : am_ckc 22 0 = true := by decide +kernel
set_option maxRecDepth 100000 in
theorem am_cc_22_1 : am_ckc 22 1 = true := by decide +kernel
set_option maxRecDepth 100000 in
theorem am_cc_23_0 : am_ckc 23 0 = true := by decide +kernel
set_option maxRecDepth 100000 in
theorem am_cc_23_1 : am_ckc 23 1 = true := by decide +kernel
set_option maxRecDepth 100000 in
theorem am_cc_23_2 : am_ckc 23 2 = true := by decide +kernel
