/-! Long.bitCount answers the number of bits -/
theorem bc_w (zn : Nat) (h : zn < 9223372036854775808) : wL (zn : Int) = (zn : Int) := wL_id (by omega) (by omega)
theorem bc_e1 {n : Nat} (h : n < 9223372036854775808) : wL ((n : Int) - klnd (klushr n 1) 6148914691236517205) = ((bcx n 8 : Nat) : Int) := by
  have u1 : klushr (n : Int) 1 = ((n / 2 ^ 1 : Nat) : Int) := klushr_n (k := 1) h (by omega)
  have u2 : klnd ((n / 2 ^ 1 : Nat) : Int) 6148914691236517205 = (((n / 2 ^ 1) &&& bc5 8 : Nat) : Int) := klnd_n (b := bc5 8) (by omega) (by decide)
  rw [u1, u2]
  have h1 : ((n / 2 ^ 1) &&& bc5 8) ≤ n := Nat.le_trans Nat.and_le_left (Nat.div_le_self _ _)
  unfold bcx
  generalize ((n / 2 ^ 1) &&& bc5 8) = zu at *
  rw [show (n : Int) - (zu : Int) = ((n - zu : Nat) : Int) from by omega, bc_w _ (by omega)]
theorem bc_b1 {n : Nat} (h : n < 9223372036854775808) : bcx n 8 < 9223372036854775808 := Nat.lt_of_le_of_lt (Nat.sub_le _ _) h
theorem bc_b2 (n : Nat) : bcy n 8 ≤ 7378697629483820646 := by
  have h1 : ((n / 2 ^ 0) &&& bc3 8) ≤ 3689348814741910323 := Nat.and_le_right
  have h2 : ((n / 2 ^ 2) &&& bc3 8) ≤ 3689348814741910323 := Nat.and_le_right
  unfold bcy
  exact Nat.add_le_add h1 h2
theorem bc_e2 {n : Nat} (h : n < 9223372036854775808) : wL (klnd n 3689348814741910323 + klnd (klushr n 2) 3689348814741910323) = ((bcy n 8 : Nat) : Int) := by
  have u1 : klushr (n : Int) 2 = ((n / 2 ^ 2 : Nat) : Int) := klushr_n (k := 2) h (by omega)
  have u2 : klnd ((n / 2 ^ 2 : Nat) : Int) 3689348814741910323 = (((n / 2 ^ 2) &&& bc3 8 : Nat) : Int) := klnd_n (b := bc3 8) (by omega) (by decide)
  have u3 : klnd (n : Int) 3689348814741910323 = (((n / 2 ^ 0) &&& bc3 8 : Nat) : Int) := by
    rw [Nat.pow_zero, Nat.div_one]
    exact klnd_n (b := bc3 8) h (by decide)
  have hb := bc_b2 n
  rw [u1, u2, u3]
  unfold bcy at hb ⊢
  generalize ((n / 2 ^ 0) &&& bc3 8) = zu at *
  generalize ((n / 2 ^ 2) &&& bc3 8) = zw at *
  rw [show (zu : Int) + (zw : Int) = ((zu + zw : Nat) : Int) from by omega, bc_w _ (by omega)]
theorem bc_e3 {n : Nat} (h : n ≤ 7378697629483820646) : klnd (wL ((n : Int) + klushr n 4)) 1085102592571150095 = ((bcz n 8 : Nat) : Int) := by
  have u1 : klushr (n : Int) 4 = ((n / 2 ^ 4 : Nat) : Int) := klushr_n (k := 4) (by omega) (by omega)
  rw [u1, show (n : Int) + ((n / 2 ^ 4 : Nat) : Int) = ((n + n / 2 ^ 4 : Nat) : Int) from by omega, bc_w _ (by omega)]
  unfold bcz
  rw [Nat.pow_zero, Nat.div_one]
  exact klnd_n (b := bcf 8) (by omega) (by decide)
theorem bc_b3 (n : Nat) : bcz n 8 ≤ 1085102592571150095 := Nat.and_le_right
theorem bc_e4 {n k : Nat} (h : n ≤ 2000000000000000000) (hk : k < 64) : wL ((n : Int) + klushr n k) = ((n + n / 2 ^ k : Nat) : Int) := by
  have h2 : n / 2 ^ k ≤ n := Nat.div_le_self _ _
  rw [klushr_n (by omega) hk]
  generalize n / 2 ^ k = zu at *
  rw [show (n : Int) + (zu : Int) = ((n + zu : Nat) : Int) from by omega, bc_w _ (by omega)]
