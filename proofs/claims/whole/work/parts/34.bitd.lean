/-! ===== counting bits, second half: sums of bytes, by plain numbers alone ===== -/
theorem dvq {k lo hi : Nat} (h : lo < k) : (lo + k * hi) / k = hi := by
  rw [Nat.add_mul_div_left _ _ (by omega), Nat.div_eq_of_lt h, Nat.zero_add]
theorem fin4 {b0 b1 b2 b3 t3 t4 t5 : Nat} (l0 : b0 ≤ 8) (l1 : b1 ≤ 8) (l2 : b2 ≤ 8) (l3 : b3 ≤ 8) (T : t3 = b0 + 256 * (b1 + 256 * (b2 + 256 * b3))) (h4 : t4 = (t3 + t3 / 256) % 4294967296) (h5 : t5 = (t4 + t4 / 65536) % 4294967296) : t5 % 64 = b0 + b1 + b2 + b3 := by
  have q3 : t3 / 256 = b1 + 256 * (b2 + 256 * b3) := by
    rw [T]
    exact dvq (by omega)
  have w4 : t4 = (b0 + b1 + 256 * (b1 + b2)) + 65536 * ((b2 + b3) + 256 * b3) := by
    rw [h4, q3, T, Nat.mod_eq_of_lt (by omega)]
    omega
  have q4 : t4 / 65536 = (b2 + b3) + 256 * b3 := by
    rw [w4]
    exact dvq (by omega)
  have w5 : t5 = (b0 + b1 + b2 + b3) + 64 * (4 * (b1 + b2 + b3) + 1024 * ((b2 + b3) + 256 * b3)) := by
    rw [h5, q4, w4, Nat.mod_eq_of_lt (by omega)]
    omega
  rw [w5, Nat.add_mul_mod_self_left, Nat.mod_eq_of_lt (by omega)]
theorem fin8 {b0 b1 b2 b3 b4 b5 b6 b7 t3 t4 t5 t6 : Nat} (l0 : b0 ≤ 8) (l1 : b1 ≤ 8) (l2 : b2 ≤ 8) (l3 : b3 ≤ 8) (l4 : b4 ≤ 8) (l5 : b5 ≤ 8) (l6 : b6 ≤ 8) (l7 : b7 ≤ 8) (T : t3 = b0 + 256 * (b1 + 256 * (b2 + 256 * (b3 + 256 * (b4 + 256 * (b5 + 256 * (b6 + 256 * b7))))))) (h4 : t4 = (t3 + t3 / 256) % 18446744073709551616) (h5 : t5 = (t4 + t4 / 65536) % 18446744073709551616) (h6 : t6 = (t5 + t5 / 4294967296) % 18446744073709551616) : t6 % 128 = b0 + b1 + b2 + b3 + b4 + b5 + b6 + b7 := by
  have q3 : t3 / 256 = b1 + 256 * (b2 + 256 * (b3 + 256 * (b4 + 256 * (b5 + 256 * (b6 + 256 * b7))))) := by
    rw [T]
    clear h4 h5 h6 T
    exact dvq (by omega)
  have w4 : t4 = (b0 + b1 + 256 * (b1 + b2)) + 65536 * ((b2 + b3) + 256 * ((b3 + b4) + 256 * ((b4 + b5) + 256 * ((b5 + b6) + 256 * ((b6 + b7) + 256 * b7))))) := by
    rw [h4, q3, T]
    clear h4 h5 h6 q3 T
    rw [Nat.mod_eq_of_lt (by omega)]
    clear l0 l1 l2 l3 l4 l5 l6 l7
    omega
  have q4 : t4 / 65536 = (b2 + b3) + 256 * ((b3 + b4) + 256 * ((b4 + b5) + 256 * ((b5 + b6) + 256 * ((b6 + b7) + 256 * b7)))) := by
    rw [w4]
    clear h4 h5 h6 T q3 w4
    exact dvq (by omega)
  have w5 : t5 = (b0 + b1 + b2 + b3 + 256 * (b1 + b2 + b3 + b4) + 65536 * (b2 + b3 + b4 + b5) + 16777216 * (b3 + b4 + b5 + b6)) + 4294967296 * ((b4 + b5 + b6 + b7) + 256 * ((b5 + b6 + b7) + 256 * ((b6 + b7) + 256 * b7))) := by
    rw [h5, q4, w4]
    clear h4 h5 h6 q3 T q4 w4
    rw [Nat.mod_eq_of_lt (by omega)]
    clear l0 l1 l2 l3 l4 l5 l6 l7
    omega
  have q5 : t5 / 4294967296 = (b4 + b5 + b6 + b7) + 256 * ((b5 + b6 + b7) + 256 * ((b6 + b7) + 256 * b7)) := by
    rw [w5]
    clear h4 h5 h6 T q3 w4 q4 w5
    exact dvq (by omega)
  have w6 : t6 = (b0 + b1 + b2 + b3 + b4 + b5 + b6 + b7) + 128 * (2 * ((b1 + b2 + b3 + b4) + (b5 + b6 + b7)) + 512 * ((b2 + b3 + b4 + b5) + (b6 + b7)) + 131072 * ((b3 + b4 + b5 + b6) + b7) + 33554432 * ((b4 + b5 + b6 + b7) + 256 * ((b5 + b6 + b7) + 256 * ((b6 + b7) + 256 * b7)))) := by
    rw [h6, q5, w5]
    clear h4 h5 h6 q3 T q4 w4 w5 q5
    rw [Nat.mod_eq_of_lt (by omega)]
    clear l0 l1 l2 l3 l4 l5 l6 l7
    omega
  rw [w6]
  clear h4 h5 h6 T q3 w4 q4 w5 q5 w6
  rw [Nat.add_mul_mod_self_left, Nat.mod_eq_of_lt (by omega)]
