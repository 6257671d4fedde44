theorem ofI_nI (n : Nat) : Int32.ofInt (n : Int) = nI n := Int32.toBitVec.inj (by rw [Int32.toBitVec_ofInt]; rfl)
theorem ofI_lN (n : Nat) : Int64.ofInt (n : Int) = lN n := Int64.toBitVec.inj (by rw [Int64.toBitVec_ofInt]; rfl)
theorem sm31 (k : Nat) (h : k < 32) : ((Int32.ofInt (k : Int) &&& 31).toBitVec.smod 32).toNat = k := by
  have h1 : ∀ k : Fin 32, ((Int32.ofInt ((k : Nat) : Int) &&& 31).toBitVec.smod 32).toNat = k := by decide +kernel
  exact h1 ⟨k, h⟩
theorem i32_toInt {x : Int} (h1 : -2147483648 ≤ x) (h2 : x < 2147483648) : (Int32.ofInt x).toInt = x := by
  rw [Int32.toInt_ofInt]
  show x.bmod 4294967296 = x
  exact Int.bmod_eq_of_le (by omega) (by omega)
theorem kshl_n {n k : Nat} (hk : k < 32) (h : n * 2 ^ k < 2147483648) : kshl n k = ((n * 2 ^ k : Nat) : Int) := by
  unfold kshl
  rw [ofI_nI n, pk_shlN (n := n) _ k (sm31 k hk) (by omega), nI_toInt (by omega)]
theorem kshr_e {x : Int} {k : Nat} (h1 : -2147483648 ≤ x) (h2 : x < 2147483648) (hk : k < 32) : kshr x k = x / 2 ^ k := by
  unfold kshr
  rw [pk_shr _ _ k (sm31 k hk), i32_toInt h1 h2, Int.shiftRight_eq_div_pow]
  rfl
theorem kshr_n {n k : Nat} (h : n < 2147483648) (hk : k < 32) : kshr n k = ((n / 2 ^ k : Nat) : Int) := by
  rw [kshr_e (by omega) (by omega) hk]
  rfl
theorem i64_back (v : BitVec 64) (h : v.toNat < 9223372036854775808) : v.toInt = (v.toNat : Int) := by
  rw [BitVec.toInt_eq_toNat_cond, if_pos (by omega)]
theorem lN_toI {n : Nat} (h : n < 9223372036854775808) : (lN n).toInt = (n : Int) := by
  have h1 : (lN n).toBitVec.toNat = n := by
    show (BitVec.ofNat 64 n).toNat = n
    rw [BitVec.toNat_ofNat, Nat.mod_eq_of_lt (by omega)]
  rw [← Int64.toInt_toBitVec, i64_back _ (by omega), h1]
theorem lN_bv (n : Nat) : (lN n).toBitVec = BitVec.ofNat 64 n := rfl
theorem klnd_n {a b : Nat} (ha : a < 9223372036854775808) (hb : b < 9223372036854775808) : klnd a b = ((a &&& b : Nat) : Int) := by
  unfold klnd
  have h3 : a &&& b ≤ a := Nat.and_le_left
  rw [ofI_lN, ofI_lN, ← Int64.toInt_toBitVec, Int64.toBitVec_and, lN_bv, lN_bv, i64_back] <;> rw [BitVec.toNat_and, BitVec.toNat_ofNat, BitVec.toNat_ofNat, Nat.mod_eq_of_lt (by omega), Nat.mod_eq_of_lt (by omega)]
  omega
theorem klor_n {a b : Nat} (ha : a < 9223372036854775808) (hb : b < 9223372036854775808) : klor a b = ((a ||| b : Nat) : Int) := by
  unfold klor
  have h3 : a ||| b < 9223372036854775808 := Nat.or_lt_two_pow (n := 63) ha hb
  rw [ofI_lN, ofI_lN, ← Int64.toInt_toBitVec, Int64.toBitVec_or, lN_bv, lN_bv, i64_back] <;> rw [BitVec.toNat_or, BitVec.toNat_ofNat, BitVec.toNat_ofNat, Nat.mod_eq_of_lt (by omega), Nat.mod_eq_of_lt (by omega)]
  omega
theorem sm63 (k : Nat) (h : k < 64) : (((Int32.ofInt (k : Int)).toInt64 &&& 63).toBitVec.smod 64).toNat = k := by
  have h1 : ∀ k : Fin 64, (((Int32.ofInt ((k : Nat) : Int)).toInt64 &&& 63).toBitVec.smod 64).toNat = k := by decide +kernel
  exact h1 ⟨k, h⟩
theorem klshl_n {n k : Nat} (hk : k < 64) (h : n * 2 ^ k < 9223372036854775808) : klshl n k = ((n * 2 ^ k : Nat) : Int) := by
  unfold klshl
  have h0 : n ≤ n * 2 ^ k := Nat.le_mul_of_pos_right n (Nat.pos_of_ne_zero (by simp))
  have e : ((lN n).toBitVec <<< (((Int32.ofInt (k : Int)).toInt64 &&& 63).toBitVec.smod 64)).toNat = n * 2 ^ k := by
    rw [BitVec.shiftLeft_eq', sm63 k hk, BitVec.toNat_shiftLeft, lN_bv, BitVec.toNat_ofNat, Nat.mod_eq_of_lt (show n < 2 ^ 64 by omega), Nat.shiftLeft_eq, Nat.mod_eq_of_lt (by omega)]
  rw [ofI_lN, ← Int64.toInt_toBitVec, Int64.toBitVec_shiftLeft, i64_back _ (by
    have e2 := e
    exact Nat.lt_of_le_of_lt (Nat.le_of_eq e2) h)]
  exact congrArg Int.ofNat e
theorem klshr_n {n k : Nat} (h : n < 9223372036854775808) (hk : k < 64) : klshr n k = ((n / 2 ^ k : Nat) : Int) := by
  unfold klshr
  rw [ofI_lN, ← Int64.toInt_toBitVec, Int64.toBitVec_shiftRight, BitVec.sshiftRight_eq', sm63 k hk, BitVec.toInt_sshiftRight, Int64.toInt_toBitVec, lN_toI h, Int.shiftRight_eq_div_pow]
  rfl
theorem kand1_n {n : Nat} (h : n < 2147483648) : kand n 1 = ((n % 2 : Nat) : Int) := by
  have := kand_n (a := n) (b := 1) h (by omega)
  rw [Nat.and_one_is_mod] at this
  exact this
theorem klnd1_n {n : Nat} (h : n < 9223372036854775808) : klnd n 1 = ((n % 2 : Nat) : Int) := by
  have := klnd_n (a := n) (b := 1) h (by omega)
  rw [Nat.and_one_is_mod] at this
  exact this
/-- one bit -/
theorem kbit {n k : Nat} (h : n < 2147483648) (hk : k < 31) : kand (kshr n k) 1 = if n.testBit k then 1 else 0 := by
  have h1 : n / 2 ^ k < 2147483648 := Nat.lt_of_le_of_lt (Nat.div_le_self _ _) h
  rw [kshr_n h (by omega), kand1_n h1, Nat.testBit_eq_decide_div_mod_eq]
  have : n / 2 ^ k % 2 < 2 := Nat.mod_lt _ (by omega)
  by_cases h2 : n / 2 ^ k % 2 = 1
  · simp [h2]
  · have : n / 2 ^ k % 2 = 0 := by omega
    simp [this]
theorem klbit {n k : Nat} (h : n < 9223372036854775808) (hk : k < 63) : klnd (klshr n k) 1 = if n.testBit k then 1 else 0 := by
  have h1 : n / 2 ^ k < 9223372036854775808 := Nat.lt_of_le_of_lt (Nat.div_le_self _ _) h
  rw [klshr_n h (by omega), klnd1_n h1, Nat.testBit_eq_decide_div_mod_eq]
  have : n / 2 ^ k % 2 < 2 := Nat.mod_lt _ (by omega)
  by_cases h2 : n / 2 ^ k % 2 = 1
  · simp [h2]
  · have : n / 2 ^ k % 2 = 0 := by omega
    simp [this]
theorem kone {k : Nat} (hk : k < 31) : kshl 1 k = ((2 ^ k : Nat) : Int) := by
  have h1 : 2 ^ k < 2147483648 := (Nat.pow_lt_pow_right (by omega) hk : 2 ^ k < 2 ^ 31)
  have := kshl_n (n := 1) (k := k) (by omega) (by omega)
  rw [Nat.one_mul] at this
  exact this
theorem klone {k : Nat} (hk : k < 63) : klshl 1 k = ((2 ^ k : Nat) : Int) := by
  have h1 : 2 ^ k < 9223372036854775808 := (Nat.pow_lt_pow_right (by omega) hk : 2 ^ k < 2 ^ 63)
  have := klshl_n (n := 1) (k := k) (by omega) (by omega)
  rw [Nat.one_mul] at this
  exact this
theorem kdiv_n {a b : Nat} (ha : a < 2147483648) (hb : b < 2147483648) (h0 : 0 < b) : kdiv a b = ((a / b : Nat) : Int) := by
  unfold kdiv
  rw [ofI_nI, ofI_nI, Int32.toInt_div_of_ne_right _ _ (by
    intro q
    have := congrArg Int32.toInt q
    rw [nI_toInt (by omega)] at this
    have h2 : (-1 : Int32).toInt = -1 := rfl
    rw [h2] at this
    omega), nI_toInt (by omega), nI_toInt (by omega)]
  rfl
