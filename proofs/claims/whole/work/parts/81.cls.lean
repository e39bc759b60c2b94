def am_lp0 : List Nat := [468, 470, 472]
set_option maxRecDepth 100000 in
theorem am_lw0 : (List.range 3).all (fun k => match am_lp0[k]? with
  | some j => am_wd j (u_lay RX0 TX0 k)
  | none => false) = true := by decide +kernel
def am_lp1 : List Nat := [431, 433, 435, 437]
set_option maxRecDepth 100000 in
theorem am_lw1 : (List.range 4).all (fun k => match am_lp1[k]? with
  | some j => am_wd j (u_lay RX1 TX1 k)
  | none => false) = true := by decide +kernel
def am_lp2 : List Nat := [228, 230, 232, 234]
set_option maxRecDepth 100000 in
theorem am_lw2 : (List.range 4).all (fun k => match am_lp2[k]? with
  | some j => am_wd j (u_lay RX2 TX2 k)
  | none => false) = true := by decide +kernel
def am_lp3 : List Nat := [306, 308, 310, 312, 314, 316, 318, 320, 322, 324, 326, 328, 330, 332, 334, 336, 338, 340]
set_option maxRecDepth 100000 in
theorem am_lw3 : (List.range 18).all (fun k => match am_lp3[k]? with
  | some j => am_wd j (u_lay RX3 TX3 k)
  | none => false) = true := by decide +kernel
def am_lp4 : List Nat := [198, 200, 202, 204]
set_option maxRecDepth 100000 in
theorem am_lw4 : (List.range 4).all (fun k => match am_lp4[k]? with
  | some j => am_wd j (u_lay RX4 TX4 k)
  | none => false) = true := by decide +kernel
def am_lp5 : List Nat := [356, 358, 360, 362, 364, 366, 368, 370]
set_option maxRecDepth 100000 in
theorem am_lw5 : (List.range 8).all (fun k => match am_lp5[k]? with
  | some j => am_wd j (u_lay RX5 TX5 k)
  | none => false) = true := by decide +kernel
def am_lp6 : List Nat := [449, 451, 453]
set_option maxRecDepth 100000 in
theorem am_lw6 : (List.range 3).all (fun k => match am_lp6[k]? with
  | some j => am_wd j (u_lay RX6 TX6 k)
  | none => false) = true := by decide +kernel
def am_lp7 : List Nat := [154, 156, 158, 160, 162, 164, 166, 168]
set_option maxRecDepth 100000 in
theorem am_lw7 : (List.range 8).all (fun k => match am_lp7[k]? with
  | some j => am_wd j (u_lay RX7 TX7 k)
  | none => false) = true := by decide +kernel
def am_lp8 : List Nat := [414, 416, 418]
set_option maxRecDepth 100000 in
theorem am_lw8 : (List.range 3).all (fun k => match am_lp8[k]? with
  | some j => am_wd j (u_lay RX8 TX8 k)
  | none => false) = true := by decide +kernel
def am_lp9 : List Nat := [255, 257, 259, 261, 263, 265, 267, 269]
set_option maxRecDepth 100000 in
theorem am_lw9 : (List.range 8).all (fun k => match am_lp9[k]? with
  | some j => am_wd j (u_lay RX9 TX9 k)
  | none => false) = true := by decide +kernel
def am_lp10 : List Nat := [388, 390, 392, 394, 396]
set_option maxRecDepth 100000 in
theorem am_lw10 : (List.range 5).all (fun k => match am_lp10[k]? with
  | some j => am_wd j (u_lay RX10 TX10 k)
  | none => false) = true := by decide +kernel
def am_lp11 : List Nat := [484, 486, 488, 490, 492, 494, 496, 498, 500]
set_option maxRecDepth 100000 in
theorem am_lw11 : (List.range 9).all (fun k => match am_lp11[k]? with
  | some j => am_wd j (u_lay RX11 TX11 k)
  | none => false) = true := by decide +kernel
def am_lp12 : List Nat := [1190, 1192, 1194, 1196, 1198, 1200, 1202, 1204, 1206, 1208, 1210, 1212, 1214, 1216, 1218, 1220, 1222, 1224, 1226, 1228, 1230, 1232, 1234, 1236, 1238, 1240, 1242, 1244, 1246, 1248, 1250, 1252, 1254, 1256, 1258, 1260, 1262, 1264, 1266, 1268, 1270]
set_option maxRecDepth 100000 in
theorem am_lw12 : (List.range 41).all (fun k => match am_lp12[k]? with
  | some j => am_wd j (u_lay RX12 TX12 k)
  | none => false) = true := by decide +kernel
theorem am_lwI {C : String} {T : u_T} {N : Nat} {lp : List Nat} (h : (List.range N).all (fun k => match lp[k]? with
  | some j => am_wd j (u_lay C T k)
  | none => false) = true) : ∀ w ∈ u_ws C T N, w ∈ lw_tbl ∧ goodWord w = true := by
  intro w hw
  obtain ⟨k, hk, rfl⟩ := List.mem_map.mp hw
  have h1 := List.all_eq_true.mp h k hk
  split at h1
  · exact am_wd_spec h1
  · cases h1
theorem am_cls {ci : Nat} {r : vw_C} (h : vwCl[ci]? = some r) : (∀ w ∈ u_ws r.1 r.2.1 r.2.2, w ∈ lw_tbl ∧ goodWord w = true) ∧ (∀ k, k < r.2.2 → parseFieldDescriptor (r.2.1 k).2.2.1 = some (am_fty ci k)) ∧ (∀ a, a < r.2.2 → ∀ b, b < r.2.2 → a ≠ b → (r.2.1 a).2.1 ≠ (r.2.1 b).2.1) := by
  match ci, h with
  | 0, h => cases h; exact ⟨am_lwI am_lw0, tyX0_ok, nmX0⟩
  | 1, h => cases h; exact ⟨am_lwI am_lw1, tyX1_ok, nmX1⟩
  | 2, h => cases h; exact ⟨am_lwI am_lw2, tyX2_ok, nmX2⟩
  | 3, h => cases h; exact ⟨am_lwI am_lw3, tyX3_ok, nmX3⟩
  | 4, h => cases h; exact ⟨am_lwI am_lw4, tyX4_ok, nmX4⟩
  | 5, h => cases h; exact ⟨am_lwI am_lw5, tyX5_ok, nmX5⟩
  | 6, h => cases h; exact ⟨am_lwI am_lw6, tyX6_ok, nmX6⟩
  | 7, h => cases h; exact ⟨am_lwI am_lw7, tyX7_ok, nmX7⟩
  | 8, h => cases h; exact ⟨am_lwI am_lw8, tyX8_ok, nmX8⟩
  | 9, h => cases h; exact ⟨am_lwI am_lw9, tyX9_ok, nmX9⟩
  | 10, h => cases h; exact ⟨am_lwI am_lw10, tyX10_ok, nmX10⟩
  | 11, h => cases h; exact ⟨am_lwI am_lw11, tyX11_ok, nmX11⟩
  | 12, h => cases h; exact ⟨am_lwI am_lw12, tyX12_ok, nmX12⟩
  | n + 13, h => simp [vwCl] at h
