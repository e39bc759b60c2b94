/-! PURE: how many bits: the table of bytes, and how bytes are put together -/
def pc8 (b : Nat) : Nat := (b % 2) + (b / 2 % 2) + (b / 4 % 2) + (b / 8 % 2) + (b / 16 % 2) + (b / 32 % 2) + (b / 64 % 2) + (b / 128 % 2)
def pg1 (b : Nat) : Nat := b - ((b / 2) &&& 0x55)
def pg2 (b : Nat) : Nat := (pg1 b &&& 0x33) + ((pg1 b / 4) &&& 0x33)
theorem pb_1 : ∀ b, b < 256 → ((b / 2) &&& 0x55) ≤ b ∧ pg1 b < 256 ∧ pg2 b < 69 ∧ pg2 b % 16 ≤ 4 ∧ (pg2 b + pg2 b / 16) % 16 = pc8 b := by decide +kernel
theorem pb_2 : ∀ u, u < 128 → ∀ e, e < 2 → ((u + 128 * e) &&& 0x55) = (u &&& 0x55) := by decide +kernel
theorem pb_3 : ∀ u, u < 64 → ∀ e, e < 4 → ((u + 64 * e) &&& 0x33) = (u &&& 0x33) := by decide +kernel
theorem p_blk {a m0 m1 : Nat} (h : m0 < 256) : (a &&& (m0 + 256 * m1)) = ((a % 256) &&& m0) + 256 * ((a / 256) &&& m1) := by
  have e1 : (a &&& (m0 + 256 * m1)) % 2 ^ 8 = (a % 2 ^ 8) &&& ((m0 + 256 * m1) % 2 ^ 8) := Nat.and_mod_two_pow
  have e2 : (a &&& (m0 + 256 * m1)) / 2 ^ 8 = (a / 2 ^ 8) &&& ((m0 + 256 * m1) / 2 ^ 8) := Nat.and_div_two_pow
  have e3 : (m0 + 256 * m1) % 2 ^ 8 = m0 := by omega
  have e4 : (m0 + 256 * m1) / 2 ^ 8 = m1 := by omega
  rw [e3] at e1
  rw [e4] at e2
  have p : (2 : Nat) ^ 8 = 256 := rfl
  rw [p] at e1 e2
  rw [← e1, ← e2]
  omega
theorem p_blk3 {a b0 b1 b2 m : Nat} (hm : m < 256) (h0 : b0 < 256) (h1 : b1 < 256) (h2 : b2 < 256) (e : a = b0 + 256 * (b1 + 256 * b2)) : (a &&& (m + 256 * (m + 256 * (m + 256 * m)))) = (b0 &&& m) + 256 * ((b1 &&& m) + 256 * (b2 &&& m)) := by
  rw [p_blk hm, p_blk hm, p_blk hm]
  rw [show a % 256 = b0 by omega, show a / 256 % 256 = b1 by omega, show a / 256 / 256 % 256 = b2 by omega, show a / 256 / 256 / 256 = 0 by omega, Nat.zero_and, Nat.mul_zero, Nat.add_zero]
theorem pc8_8 (b : Nat) : pc8 b ≤ 8 := by
  unfold pc8
  omega
def pcx (x : Nat) : Nat := let y1 := x - ((x / 2) &&& 0x55555555); let y2 := (y1 &&& 0x33333333) + ((y1 / 4) &&& 0x33333333); let y3 := (y2 + y2 / 16) &&& 0x0f0f0f0f; let y4 := y3 + y3 / 256; let y5 := y4 + y4 / 65536; y5 &&& 63
theorem p_1 {x b0 b1 b2 : Nat} (h0 : b0 < 256) (h1 : b1 < 256) (h2 : b2 < 16) (e : x = b0 + 256 * (b1 + 256 * b2)) : x - ((x / 2) &&& 0x55555555) = pg1 b0 + 256 * (pg1 b1 + 256 * pg1 b2) := by
  have q0 := pb_1 b0 h0
  have q1 := pb_1 b1 h1
  have q2 := pb_1 b2 (by omega)
  have z := p_blk3 (a := x / 2) (b0 := b0 / 2 + 128 * (b1 % 2)) (b1 := b1 / 2 + 128 * (b2 % 2)) (b2 := b2 / 2) (m := 0x55) (by omega) (by omega) (by omega) (by omega) (by omega)
  rw [pb_2 _ (by omega) _ (by omega), pb_2 _ (by omega) _ (by omega)] at z
  rw [show (0x55555555 : Nat) = 0x55 + 256 * (0x55 + 256 * (0x55 + 256 * 0x55)) from rfl, z]
  unfold pg1 at *
  generalize (b0 / 2 &&& 85) = c0 at *
  generalize (b1 / 2 &&& 85) = c1 at *
  generalize (b2 / 2 &&& 85) = c2 at *
  omega
theorem p_2 {y b0 b1 b2 : Nat} (h0 : b0 < 256) (h1 : b1 < 256) (h2 : b2 < 16) (e : y = pg1 b0 + 256 * (pg1 b1 + 256 * pg1 b2)) : (y &&& 0x33333333) + ((y / 4) &&& 0x33333333) = pg2 b0 + 256 * (pg2 b1 + 256 * pg2 b2) := by
  have q0 := pb_1 b0 h0
  have q1 := pb_1 b1 h1
  have q2 := pb_1 b2 (by omega)
  have z := p_blk3 (a := y) (b0 := pg1 b0) (b1 := pg1 b1) (b2 := pg1 b2) (m := 0x33) (by omega) (by omega) (by omega) (by omega) e
  have z2 := p_blk3 (a := y / 4) (b0 := pg1 b0 / 4 + 64 * (pg1 b1 % 4)) (b1 := pg1 b1 / 4 + 64 * (pg1 b2 % 4)) (b2 := pg1 b2 / 4) (m := 0x33) (by omega) (by omega) (by omega) (by omega) (by omega)
  rw [pb_3 _ (by omega) _ (by omega), pb_3 _ (by omega) _ (by omega)] at z2
  rw [show (0x33333333 : Nat) = 0x33 + 256 * (0x33 + 256 * (0x33 + 256 * 0x33)) from rfl, z, z2]
  unfold pg2
  omega
theorem p_3 {y b0 b1 b2 : Nat} (h0 : b0 < 256) (h1 : b1 < 256) (h2 : b2 < 16) (e : y = pg2 b0 + 256 * (pg2 b1 + 256 * pg2 b2)) : ((y + y / 16) &&& 0x0f0f0f0f) = pc8 b0 + 256 * (pc8 b1 + 256 * pc8 b2) := by
  have q0 := pb_1 b0 h0
  have q1 := pb_1 b1 h1
  have q2 := pb_1 b2 (by omega)
  have z := p_blk3 (a := y + y / 16) (b0 := pg2 b0 + pg2 b0 / 16 + 16 * (pg2 b1 % 16)) (b1 := pg2 b1 + pg2 b1 / 16 + 16 * (pg2 b2 % 16)) (b2 := pg2 b2 + pg2 b2 / 16) (m := 0x0f) (by omega) (by omega) (by omega) (by omega) (by omega)
  have m15 : ∀ u : Nat, (u &&& 15) = u % 16 := fun u => Nat.and_two_pow_sub_one_eq_mod u 4
  rw [m15, m15, m15] at z
  rw [show (0x0f0f0f0f : Nat) = 0x0f + 256 * (0x0f + 256 * (0x0f + 256 * 0x0f)) from rfl, z]
  omega
theorem pcx_8 {x b0 b1 b2 : Nat} (h0 : b0 < 256) (h1 : b1 < 256) (h2 : b2 < 16) (e : x = b0 + 256 * (b1 + 256 * b2)) : pcx x = pc8 b0 + pc8 b1 + pc8 b2 := by
  have a0 := pc8_8 b0
  have a1 := pc8_8 b1
  have a2 := pc8_8 b2
  unfold pcx
  simp only
  rw [p_1 h0 h1 h2 e, p_2 h0 h1 h2 rfl, p_3 h0 h1 h2 rfl]
  have m63 : ∀ u : Nat, (u &&& 63) = u % 64 := fun u => Nat.and_two_pow_sub_one_eq_mod u 6
  rw [m63]
  have e1 : (pc8 b0 + 256 * (pc8 b1 + 256 * pc8 b2)) / 256 = pc8 b1 + 256 * pc8 b2 := by omega
  rw [e1]
  have e2 : (pc8 b0 + 256 * (pc8 b1 + 256 * pc8 b2) + (pc8 b1 + 256 * pc8 b2)) / 65536 = pc8 b2 := by omega
  rw [e2]
  omega
theorem pc8_m (y : Nat) : pc8 (y % 256) = (y % 2) + (y / 2 % 2) + (y / 4 % 2) + (y / 8 % 2) + (y / 16 % 2) + (y / 32 % 2) + (y / 64 % 2) + (y / 128 % 2) := by
  unfold pc8
  rw [show y % 256 % 2 = y % 2 by omega, show y % 256 / 2 % 2 = y / 2 % 2 by omega, show y % 256 / 4 % 2 = y / 4 % 2 by omega, show y % 256 / 8 % 2 = y / 8 % 2 by omega, show y % 256 / 16 % 2 = y / 16 % 2 by omega, show y % 256 / 32 % 2 = y / 32 % 2 by omega, show y % 256 / 64 % 2 = y / 64 % 2 by omega, show y % 256 / 128 % 2 = y / 128 % 2 by omega]
/-- the sum of the bits -/
theorem pcx_s {x : Nat} (h : x < 1048576) : (pcx x : Int) = mt_s (fun i => if x.testBit i = true then 1 else 0) 20 := by
  rw [pcx_8 (x := x) (b0 := x % 256) (b1 := x / 256 % 256) (b2 := x / 65536) (by omega) (by omega) (by omega) (by omega)]
  have t : ∀ i, (if x.testBit i = true then (1 : Int) else 0) = ((x / 2 ^ i % 2 : Nat) : Int) := fun i => by
    rw [Nat.testBit_eq_decide_div_mod_eq]
    by_cases c : x / 2 ^ i % 2 = 1
    · rw [if_pos (decide_eq_true c), c]; rfl
    · rw [if_neg (by rw [decide_eq_true_iff]; exact c)]
      omega
  rw [mt_s_congr (fun i _ => t i), pc8_m x, pc8_m (x / 256)]
  have e6 : pc8 (x / 65536) = pc8 (x / 65536 % 256) := by rw [show x / 65536 % 256 = x / 65536 by omega]
  rw [e6, pc8_m (x / 65536)]
  rw [show x / 256 / 2 = x / 512 by omega, show x / 256 / 4 = x / 1024 by omega, show x / 256 / 8 = x / 2048 by omega, show x / 256 / 16 = x / 4096 by omega, show x / 256 / 32 = x / 8192 by omega, show x / 256 / 64 = x / 16384 by omega, show x / 256 / 128 = x / 32768 by omega, show x / 65536 / 2 = x / 131072 by omega, show x / 65536 / 4 = x / 262144 by omega, show x / 65536 / 8 = x / 524288 by omega, show x / 65536 / 16 = x / 1048576 by omega, show x / 65536 / 32 = x / 2097152 by omega, show x / 65536 / 64 = x / 4194304 by omega, show x / 65536 / 128 = x / 8388608 by omega]
  rw [show x / 1048576 = 0 by omega, show x / 2097152 = 0 by omega, show x / 4194304 = 0 by omega, show x / 8388608 = 0 by omega]
  show _ = (((((((((((((((((((((0 : Int) + ((x / 2 ^ 0 % 2 : Nat) : Int)) + ((x / 2 ^ 1 % 2 : Nat) : Int)) + ((x / 2 ^ 2 % 2 : Nat) : Int)) + ((x / 2 ^ 3 % 2 : Nat) : Int)) + ((x / 2 ^ 4 % 2 : Nat) : Int)) + ((x / 2 ^ 5 % 2 : Nat) : Int)) + ((x / 2 ^ 6 % 2 : Nat) : Int)) + ((x / 2 ^ 7 % 2 : Nat) : Int)) + ((x / 2 ^ 8 % 2 : Nat) : Int)) + ((x / 2 ^ 9 % 2 : Nat) : Int)) + ((x / 2 ^ 10 % 2 : Nat) : Int)) + ((x / 2 ^ 11 % 2 : Nat) : Int)) + ((x / 2 ^ 12 % 2 : Nat) : Int)) + ((x / 2 ^ 13 % 2 : Nat) : Int)) + ((x / 2 ^ 14 % 2 : Nat) : Int)) + ((x / 2 ^ 15 % 2 : Nat) : Int)) + ((x / 2 ^ 16 % 2 : Nat) : Int)) + ((x / 2 ^ 17 % 2 : Nat) : Int)) + ((x / 2 ^ 18 % 2 : Nat) : Int)) + ((x / 2 ^ 19 % 2 : Nat) : Int))
  simp only [Nat.reducePow, Nat.div_one, Nat.zero_mod, Nat.add_zero, Int.zero_add]
  generalize x % 2 = c0
  generalize x / 2 % 2 = c1
  generalize x / 4 % 2 = c2
  generalize x / 8 % 2 = c3
  generalize x / 16 % 2 = c4
  generalize x / 32 % 2 = c5
  generalize x / 64 % 2 = c6
  generalize x / 128 % 2 = c7
  generalize x / 256 % 2 = c8
  generalize x / 512 % 2 = c9
  generalize x / 1024 % 2 = c10
  generalize x / 2048 % 2 = c11
  generalize x / 4096 % 2 = c12
  generalize x / 8192 % 2 = c13
  generalize x / 16384 % 2 = c14
  generalize x / 32768 % 2 = c15
  generalize x / 65536 % 2 = c16
  generalize x / 131072 % 2 = c17
  generalize x / 262144 % 2 = c18
  generalize x / 524288 % 2 = c19
  omega
