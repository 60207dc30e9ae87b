/-! ===== counting bits, second half: sums of bytes, by plain numbers alone ===== -/
theorem dvq {k lo hi : Nat} (h : lo < k) : (lo + k * hi) / k = hi := by
  rw [Nat.add_mul_div_left _ _ (by omega), Nat.div_eq_of_lt h, Nat.zero_add]
theorem fin4 {b0 b1 b2 b3 t3 t4 t5 : Nat} (l0 : b0 ≤ 8) (l1 : b1 ≤ 8) (l2 : b2 ≤ 8) (l3 : b3 ≤ 8) (T : t3 = b0 + 256 * (b1 + 256 * (b2 + 256 * b3))) (h4 : t4 = (t3 + t3 / 256) % 4294967296) (h5 : t5 = (t4 + t4 / 65536) % 4294967296) : t5 % 64 = b0 + b1 + b2 + b3 := by
  have q3 : t3 / 256 = b1 + 256 * (b2 + 256 * b3) := by
    rw [T]
    exact dvq (by omega)
  have w4 : t4 = (b0 + b1 + 256 * (b1 + b2)) + 65536 * ((b2 + b3) + 256 * b3) := by
    rw [h4, q3, T, Nat.mod_eq_of_lt (by omega)]
    omega
  have q4 : t4 / 65536 = (b2 + b3) + 256 * b3 := by
    rw [w4]
    exact dvq (by omega)
  have w5 : t5 = (b0 + b1 + b2 + b3) + 64 * (4 * (b1 + b2 + b3) + 1024 * ((b2 + b3) + 256 * b3)) := by
    rw [h5, q4, w4, Nat.mod_eq_of_lt (by omega)]
    omega
  rw [w5, Nat.add_mul_mod_self_left, Nat.mod_eq_of_lt (by omega)]
