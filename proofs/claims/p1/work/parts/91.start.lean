def am_ip : List Nat := [457, 422, 214, 279, 174, 273, 441, 136, 400, 208, 374, 128, 1143]
set_option maxRecDepth 100000 in
theorem am_ipo : (List.range 13).all (fun k => match vwCl[k]?, am_ip[k]? with
  | some r, some j => am_wd j (.instantiable r.1 r.2.2)
  | _, _ => false) = true := by decide +kernel
set_option maxRecDepth 100000 in
theorem am_ac_byte : am_wd 171 (.arrayClass .byte) = true := by decide +kernel
set_option maxRecDepth 100000 in
theorem am_ac_int : am_wd 172 (.arrayClass .int) = true := by decide +kernel
set_option maxRecDepth 100000 in
theorem am_ac_long : am_wd 237 (.arrayClass .long) = true := by decide +kernel
set_option maxRecDepth 100000 in
theorem am_ac_boolean : am_wd 238 (.arrayClass .boolean) = true := by decide +kernel
set_option maxRecDepth 100000 in
theorem am_ao_int : lw_tbl[142]? = some (.arrayOver (.array .int)) := by decide +kernel
set_option maxRecDepth 100000 in
theorem am_ao_long : lw_tbl[285]? = some (.arrayOver (.array .long)) := by decide +kernel
def am_lawI : Nat := 226
def am_nCls : Nat := 13
