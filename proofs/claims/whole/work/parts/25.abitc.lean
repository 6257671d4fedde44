/-! bits of a long, counted byte by byte -/
theorem bc_split (zm zb zM zc k : Nat) (hb : zb < 2 ^ 8) (hk : k ≤ 8) (hc : zc < 2 ^ (8 - k)) :
    ((2 ^ 8 * zm + zb) / 2 ^ k) &&& (2 ^ 8 * zM + zc) = 2 ^ 8 * ((zm / 2 ^ k) &&& zM) + ((zb / 2 ^ k) &&& zc) := by
  have hc8 : zc < 2 ^ 8 := Nat.lt_of_lt_of_le hc (Nat.pow_le_pow_right (by omega) (by omega))
  have hr : ((zb / 2 ^ k) &&& zc) < 2 ^ 8 := Nat.and_lt_two_pow _ hc8
  apply Nat.eq_of_testBit_eq
  intro j
  rw [Nat.testBit_and, Nat.testBit_div_two_pow, Nat.testBit_two_pow_mul_add _ hb, Nat.testBit_two_pow_mul_add _ hc8, Nat.testBit_two_pow_mul_add _ hr]
  by_cases h1 : j < 8
  · rw [if_pos h1, if_pos h1, Nat.testBit_and, Nat.testBit_div_two_pow]
    by_cases h2 : j + k < 8
    · rw [if_pos h2]
    · have hz : zc.testBit j = false := Nat.testBit_lt_two_pow (Nat.lt_of_lt_of_le hc (Nat.pow_le_pow_right (by omega) (by omega)))
      rw [hz, Bool.and_false, Bool.and_false]
  · rw [if_neg h1, if_neg h1, if_neg (by omega), Nat.testBit_and, Nat.testBit_div_two_pow, show j + k - 8 = j - 8 + k from by omega]
