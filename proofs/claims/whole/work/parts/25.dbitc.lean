/-! Long.bitCount -/
theorem su63 (k : Nat) (h : k < 64) : ((Int32.ofInt (k : Int)).toInt64.toUInt64 &&& Int64.toUInt64 63).toNat % 64 = k := by
  have h1 : ∀ k : Fin 64, ((Int32.ofInt ((k : Nat) : Int)).toInt64.toUInt64 &&& Int64.toUInt64 63).toNat % 64 = k := by decide +kernel
  exact h1 ⟨k, h⟩
theorem klushr_n {n k : Nat} (h : n < 9223372036854775808) (hk : k < 64) : klushr n k = ((n / 2 ^ k : Nat) : Int) := by
  unfold klushr
  rw [ofI_lN]
  have e0 : (lN n).toUInt64.toNat = n := by
    show (BitVec.ofNat 64 n).toNat = n
    rw [BitVec.toNat_ofNat, Nat.mod_eq_of_lt (by omega)]
  have e : ((lN n).toUInt64 >>> ((Int32.ofInt (k : Int)).toInt64.toUInt64 &&& Int64.toUInt64 63)).toNat = n / 2 ^ k := by
    rw [UInt64.toNat_shiftRight, su63 k hk, Nat.shiftRight_eq_div_pow, e0]
  have h2 : n / 2 ^ k ≤ n := Nat.div_le_self _ _
  generalize ((lN n).toUInt64 >>> ((Int32.ofInt (k : Int)).toInt64.toUInt64 &&& Int64.toUInt64 63)) = zu at e
  show zu.toBitVec.toInt = _
  have e3 : zu.toBitVec.toNat = n / 2 ^ k := e
  rw [i64_back _ (by omega), e3]
theorem kand127 (zn : Nat) : kand (wI (zn : Int)) 127 = ((zn % 128 : Nat) : Int) := by
  have e0 : (Int32.ofInt (wI (zn : Int))).toBitVec.toNat = zn % 2 ^ 32 := by
    show (BitVec.ofInt 32 (wI (zn : Int))).toNat = _
    rw [BitVec.toNat_ofInt]
    unfold wI
    rw [Int.bmod_def]
    split <;> omega
  have e : ((Int32.ofInt (wI (zn : Int))).toBitVec &&& (Int32.ofInt 127).toBitVec).toNat = zn % 128 := by
    rw [BitVec.toNat_and, e0, show (Int32.ofInt 127).toBitVec.toNat = 2 ^ 7 - 1 from rfl, Nat.and_two_pow_sub_one_eq_mod]
    omega
  unfold kand
  rw [← Int32.toInt_toBitVec, Int32.toBitVec_and, BitVec.toInt_eq_toNat_cond, if_pos (by omega), e]
