theorem am_z_add (a b : Int32) : (a + b).toInt = am_w (a.toInt + b.toInt) := Int32.toInt_add a b
theorem am_z_sub (a b : Int32) : (a - b).toInt = am_w (a.toInt - b.toInt) := Int32.toInt_sub a b
theorem am_z_mul (a b : Int32) : (a * b).toInt = am_w (a.toInt * b.toInt) := Int32.toInt_mul a b
theorem am_z_div (a b : Int32) : (a / b).toInt = am_w (a.toInt.tdiv b.toInt) := Int32.toInt_div a b
theorem am_z_addl (a b : Int64) : (a + b).toInt = am_wl (a.toInt + b.toInt) := Int64.toInt_add a b
theorem am_z_subl (a b : Int64) : (a - b).toInt = am_wl (a.toInt - b.toInt) := Int64.toInt_sub a b
theorem am_z_mull (a b : Int64) : (a * b).toInt = am_wl (a.toInt * b.toInt) := Int64.toInt_mul a b
theorem am_z_divl (a b : Int64) : (a / b).toInt = am_wl (a.toInt.tdiv b.toInt) := Int64.toInt_div a b
theorem am_z_of {n : Int} (h1 : -2147483648 ≤ n) (h2 : n < 2147483648) : (Int32.ofInt n).toInt = n := Int32.toInt_ofInt_of_le h1 h2
theorem am_z_b {n : Int} (h1 : -128 ≤ n) (h2 : n < 128) : (Int8.ofInt n).toInt32.toInt = n := by
  rw [Int8.toInt_toInt32]; exact Int8.toInt_ofInt_of_le h1 h2
theorem am_z_s {n : Int} (h1 : -32768 ≤ n) (h2 : n < 32768) : (Int16.ofInt n).toInt32.toInt = n := by
  rw [Int16.toInt_toInt32]; exact Int16.toInt_ofInt_of_le h1 h2
theorem am_z_i (a : Int32) : Int32.ofInt a.toInt = a := Int32.ofInt_toInt a
theorem am_z_il (a : Int64) : Int64.ofInt a.toInt = a := Int64.ofInt_toInt a
theorem am_z_rem (a b : Int32) : (a - a / b * b).toInt = a.toInt.tmod b.toInt := rem_toInt a b
theorem am_z_reml (a b : Int64) : (a - a / b * b).toInt = a.toInt.tmod b.toInt := by
  have h : a - a / b * b = a % b := by
    apply Int64.toInt_inj.mp
    rw [Int64.toInt_sub, Int64.toInt_mul, Int64.toInt_div, Int64.toInt_mod]
    have h1 := Int.mul_tdiv_add_tmod a.toInt b.toInt
    have h2 : a.toInt - a.toInt.tdiv b.toInt * b.toInt = a.toInt.tmod b.toInt := by
      rw [Int.mul_comm]; omega
    rw [Int.sub_bmod_bmod]
    have h3 : (a.toInt - (a.toInt.tdiv b.toInt).bmod (2 ^ 64) * b.toInt).bmod (2 ^ 64) = (a.toInt - a.toInt.tdiv b.toInt * b.toInt).bmod (2 ^ 64) := by
      rw [← Int.sub_bmod_bmod, Int.bmod_mul_bmod, Int.sub_bmod_bmod]
    rw [h3, h2, ← Int64.toInt_mod]
    exact Int64.toInt_bmod _
  rw [h]
  exact Int64.toInt_mod a b
theorem am_z_i2l (a : Int32) : a.toInt64.toInt = a.toInt := Int32.toInt_toInt64 a
theorem am_z_l2i (a : Int64) : a.toInt32.toInt = am_w a.toInt := Int64.toInt_toInt32 a
theorem am_z_cmp (a b : Int64) : (lg_cmp a b).toInt = if b.toInt < a.toInt then 1 else if a.toInt = b.toInt then 0 else -1 := by
  unfold lg_cmp
  by_cases h1 : b.toInt < a.toInt
  · rw [if_pos h1, if_pos (show a > b from Int64.lt_iff_toInt_lt.mpr h1)]; rfl
  · rw [if_neg h1, if_neg (fun q : a > b => h1 (Int64.lt_iff_toInt_lt.mp q))]
    by_cases h2 : a.toInt = b.toInt
    · rw [if_pos h2, if_pos (Int64.toInt_inj.mp h2)]; rfl
    · rw [if_neg h2, if_neg (fun q => h2 (by rw [q]))]; rfl
theorem am_z_lt {a b : Int32} {x y : Int} (ha : a.toInt = x) (hb : b.toInt = y) : a < b ↔ x < y := by rw [Int32.lt_iff_toInt_lt, ha, hb]
theorem am_z_le {a b : Int32} {x y : Int} (ha : a.toInt = x) (hb : b.toInt = y) : a ≤ b ↔ x ≤ y := by rw [Int32.le_iff_toInt_le, ha, hb]
theorem am_z_eq {a b : Int32} {x y : Int} (ha : a.toInt = x) (hb : b.toInt = y) : a = b ↔ x = y := by rw [← Int32.toInt_inj, ha, hb]
