/-! whole numbers and the machine's own -/
theorem kn_add (a b : Int) : Int32.ofInt a + Int32.ofInt b = Int32.ofInt (wI (a + b)) := by
  apply Int32.toInt_inj.mp
  simp [Int32.toInt_add, Int32.toInt_ofInt, wI, Int32.size]
theorem kn_sub (a b : Int) : Int32.ofInt a - Int32.ofInt b = Int32.ofInt (wI (a - b)) := by
  apply Int32.toInt_inj.mp
  simp [Int32.toInt_sub, Int32.toInt_ofInt, wI, Int32.size]
theorem kn_mul (a b : Int) : Int32.ofInt a * Int32.ofInt b = Int32.ofInt (wI (a * b)) := by
  apply Int32.toInt_inj.mp
  simp [Int32.toInt_mul, Int32.toInt_ofInt, wI, Int32.size]
theorem kn_neg (a : Int) : -Int32.ofInt a = Int32.ofInt (wI (-a)) := by
  apply Int32.toInt_inj.mp
  simp [Int32.toInt_neg, Int32.toInt_ofInt, wI, Int32.size]
theorem kn_ladd (a b : Int) : Int64.ofInt a + Int64.ofInt b = Int64.ofInt (wL (a + b)) := by
  apply Int64.toInt_inj.mp
  simp [Int64.toInt_add, Int64.toInt_ofInt, wL, Int64.size]
theorem kn_lsub (a b : Int) : Int64.ofInt a - Int64.ofInt b = Int64.ofInt (wL (a - b)) := by
  apply Int64.toInt_inj.mp
  simp [Int64.toInt_sub, Int64.toInt_ofInt, wL, Int64.size]
theorem kn_lmul (a b : Int) : Int64.ofInt a * Int64.ofInt b = Int64.ofInt (wL (a * b)) := by
  apply Int64.toInt_inj.mp
  simp [Int64.toInt_mul, Int64.toInt_ofInt, wL, Int64.size]
theorem kn_lneg (a : Int) : -Int64.ofInt a = Int64.ofInt (wL (-a)) := by
  apply Int64.toInt_inj.mp
  simp [Int64.toInt_neg, Int64.toInt_ofInt, wL, Int64.size]
theorem kn_toInt {a : Int} (h : kR32 a) : (Int32.ofInt a).toInt = a := by
  obtain ⟨h1, h2⟩ := h
  rw [Int32.toInt_ofInt]
  simp only [Int32.size]
  rw [Int.bmod_eq_of_le (by omega) (by omega)]
theorem kn_ltoInt {a : Int} (h : kR64 a) : (Int64.ofInt a).toInt = a := by
  obtain ⟨h1, h2⟩ := h
  rw [Int64.toInt_ofInt]
  simp only [Int64.size]
  rw [Int.bmod_eq_of_le (by omega) (by omega)]
theorem kn_r (x : Int32) : kR32 x.toInt := by
  have h1 := Int32.le_toInt x
  have h2 := Int32.toInt_lt x
  constructor <;> omega
theorem kn_lr (x : Int64) : kR64 x.toInt := by
  have h1 := Int64.le_toInt x
  have h2 := Int64.toInt_lt x
  constructor <;> omega
theorem kn_wI (x : Int) : kR32 (wI x) := by
  have h1 := Int.le_bmod (x := x) (m := 4294967296) (by decide)
  have h2 := Int.bmod_lt (x := x) (m := 4294967296) (by decide)
  unfold wI
  constructor <;> omega
theorem kn_wL (x : Int) : kR64 (wL x) := by
  have h1 := Int.le_bmod (x := x) (m := 18446744073709551616) (by decide)
  have h2 := Int.bmod_lt (x := x) (m := 18446744073709551616) (by decide)
  unfold wL
  constructor <;> omega
theorem kn_lt {a b : Int} (ha : kR32 a) (hb : kR32 b) : Int32.ofInt a < Int32.ofInt b ↔ a < b := by
  rw [Int32.lt_iff_toInt_lt, kn_toInt ha, kn_toInt hb]
theorem kn_le {a b : Int} (ha : kR32 a) (hb : kR32 b) : Int32.ofInt a ≤ Int32.ofInt b ↔ a ≤ b := by
  rw [Int32.le_iff_toInt_le, kn_toInt ha, kn_toInt hb]
theorem kn_eq {a b : Int} (ha : kR32 a) (hb : kR32 b) : Int32.ofInt a = Int32.ofInt b ↔ a = b := by
  rw [← Int32.toInt_inj, kn_toInt ha, kn_toInt hb]
theorem kn_leq {a b : Int} (ha : kR64 a) (hb : kR64 b) : Int64.ofInt a = Int64.ofInt b ↔ a = b := by
  rw [← Int64.toInt_inj, kn_ltoInt ha, kn_ltoInt hb]
theorem kn_llt {a b : Int} (ha : kR64 a) (hb : kR64 b) : Int64.ofInt a < Int64.ofInt b ↔ a < b := by
  rw [Int64.lt_iff_toInt_lt, kn_ltoInt ha, kn_ltoInt hb]
theorem kn_clamp {a : Int} (h : kR32 a) : (Int32.ofInt a).toNatClampNeg = a.toNat := by
  show (Int32.ofInt a).toInt.toNat = _
  rw [kn_toInt h]
theorem kn_in {a : Int} {n : Nat} (h : kR32 a) (h0 : 0 ≤ a) (h1 : a < n) : vp_in (Int32.ofInt a) n := by
  rw [vp_in_iff, kn_toInt h]
  exact ⟨h0, h1⟩
theorem kn_0 : kR32 0 := by constructor <;> decide
theorem kn_cmp {a b : Int} (ha : kR64 a) (hb : kR64 b) : lg_cmp (Int64.ofInt a) (Int64.ofInt b) = Int32.ofInt (klcmp a b) := by
  unfold lg_cmp klcmp
  by_cases h1 : b < a
  · rw [if_pos ((kn_llt hb ha).mpr h1), if_pos h1]; rfl
  · rw [if_neg (fun q => h1 ((kn_llt hb ha).mp q)), if_neg h1]
    by_cases h2 : a = b
    · rw [if_pos ((kn_leq ha hb).mpr h2), if_pos h2]; rfl
    · rw [if_neg (fun q => h2 ((kn_leq ha hb).mp q)), if_neg h2]; rfl
theorem kn_i2l {a : Int} (h : kR32 a) : (Int32.ofInt a).toInt64 = Int64.ofInt a := by
  apply Int64.toInt_inj.mp
  rw [Int32.toInt_toInt64, kn_toInt h, kn_ltoInt]
  obtain ⟨h1, h2⟩ := h
  constructor <;> omega
theorem kn_l2i (a : Int) : (Int64.ofInt a).toInt32 = Int32.ofInt (wI a) := by
  apply Int32.toInt_inj.mp
  rw [Int64.toInt_toInt32, Int64.toInt_ofInt, Int32.toInt_ofInt]
  simp only [wI, Int32.size, Int64.size]
  rw [Int.bmod_bmod_of_dvd (by decide), Int.bmod_bmod]
theorem kn_ofNat {n : Nat} (h : n ≤ 1000000) : Int32.ofNat n = Int32.ofInt n := rfl
