def il (z : Int) : Int64 := Int64.ofInt z
theorem il_toInt {a : Int} (h0 : -9223372036854775808 ≤ a) (h1 : a < 9223372036854775808) : (il a).toInt = a := Int64.toInt_ofInt_of_le h0 h1
theorem il_add (a b : Int) : il a + il b = il (a + b) := (Int64.ofInt_add a b).symm
theorem il_sub (a b : Int) : il a - il b = il (a - b) := (Int64.ofInt_sub a b).symm
theorem il_mul (a b : Int) : il a * il b = il (a * b) := (Int64.ofInt_mul a b).symm
theorem il_eq {a b : Int} (h0 : -9223372036854775808 ≤ a) (h1 : a < 9223372036854775808) (h2 : -9223372036854775808 ≤ b) (h3 : b < 9223372036854775808) : (il a = il b) = (a = b) := by
  rw [← Int64.toInt_inj, il_toInt h0 h1, il_toInt h2 h3]
theorem il_ii {a : Int} (h0 : -2147483648 ≤ a) (h1 : a < 2147483648) : (ii a).toInt64 = il a := by
  rw [← Int64.toInt_inj, Int32.toInt_toInt64, ii_toInt h0 h1, il_toInt (by omega) (by omega)]
theorem ii_il {a : Int} : (il a).toInt32 = ii a := Int64.toInt32_ofInt
theorem il_div {a b : Int} (h0 : 0 ≤ a) (h1 : a < 9223372036854775808) (h2 : 0 < b) (h3 : b < 9223372036854775808) : il a / il b = il (a / b) := by
  rw [← Int64.toInt_inj, Int64.toInt_div_of_ne_right _ _ (by
    rw [show (-1 : Int64) = il (-1) from rfl]
    intro h
    rw [il_eq (by omega) (by omega) (by omega) (by omega)] at h
    omega), il_toInt (by omega) h1, il_toInt (by omega) h3]
  have hd : a / b ≤ a := Int.ediv_le_self b h0
  have hd0 : 0 ≤ a / b := Int.ediv_nonneg h0 (by omega)
  rw [il_toInt (by omega) (by omega), Int.tdiv_eq_ediv_of_nonneg h0]
theorem rmL_il {a b : Int} (h0 : 0 ≤ a) (h1 : a < 9223372036854775808) (h2 : 0 < b) (h3 : b < 9223372036854775808) : rmL (il a) (il b) = some (il (a % b)) := by
  unfold rmL
  rw [if_neg (by rw [show (0 : Int64) = il 0 from rfl, il_eq (by omega) (by omega) (by omega) (by omega)]; omega), il_div h0 h1 h2 h3, il_mul, il_sub]
  congr 2
  have := Int.emod_add_mul_ediv a b
  have h9 : b * (a / b) = a / b * b := Int.mul_comm _ _
  omega
