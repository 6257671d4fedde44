/-! bits of a long: all bytes -/
def bcG (zn k : Nat) : Nat := bcz (bcy (bcx zn k) k) k
theorem bcy_low (zn k : Nat) : bcy (bcx zn k) k % 16 ≤ 4 := by
  cases k with
  | zero =>
    unfold bcy
    rw [show bc3 0 = 0 from rfl, Nat.and_zero, Nat.and_zero]
    omega
  | succ k =>
    have hb : zn % 256 < 2 ^ 8 := Nat.mod_lt _ (by omega)
    have e : zn = 2 ^ 8 * (zn / 256) + zn % 256 := by omega
    have f := bc_byte ⟨zn % 256, Nat.mod_lt _ (by omega)⟩
    rw [e, bcx_s _ _ _ hb, bcy_s _ _ _ f.1]
    have g := f.2.2.1
    dsimp only at g
    generalize bcY (bcX (zn % 256)) = zu at *
    generalize bcy (bcx (zn / 256) k) k = zw at *
    omega
theorem bcG_s (zm zb k : Nat) (hb : zb < 256) : bcG (2 ^ 8 * zm + zb) (k + 1) = 2 ^ 8 * bcG zm k + bcZ zb := by
  have f := bc_byte ⟨zb, hb⟩
  unfold bcG
  rw [bcx_s _ _ _ hb, bcy_s _ _ _ f.1, bcz_s _ _ _ (bcy_low zm k) f.2.2.1 f.2.2.2.1, f.2.2.2.2]
theorem bcG_z (k : Nat) : bcG 0 k = 0 := by
  induction k with
  | zero => rfl
  | succ k ih =>
    have h := bcG_s 0 0 k (by omega)
    rw [ih] at h
    exact h
theorem bcZ_le (zb : Nat) : bcZ zb ≤ 8 := by
  unfold bcZ
  omega
def bcN : Nat → Nat → Nat
  | _, 0 => 0
  | zn, k + 1 => bcZ (zn % 256) + bcN (zn / 256) k
theorem bcG_d (zn k : Nat) : bcG zn (k + 1) = 2 ^ 8 * bcG (zn / 256) k + bcZ (zn % 256) := by
  have h := bcG_s (zn / 256) (zn % 256) k (Nat.mod_lt _ (by omega))
  rw [show 2 ^ 8 * (zn / 256) + zn % 256 = zn from by omega] at h
  exact h
theorem bcG_0 (zn : Nat) : bcG zn 0 = 0 := by
  unfold bcG bcz
  rw [show bcf 0 = 0 from rfl, Nat.and_zero]
def bcT (zz : Nat) : Nat := (zz + zz / 2 ^ 8) + (zz + zz / 2 ^ 8) / 2 ^ 16
theorem bc_m (zu zv zw zx : Nat) (h : zv + zx < 128) : (256 * zu + zv + (256 * zw + zx)) % 128 = zv + zx := by omega
theorem bc_fold (a0 a1 a2 a3 a4 a5 a6 a7 : Nat) (h0 : a0 ≤ 8) (h1 : a1 ≤ 8) (h2 : a2 ≤ 8) (h3 : a3 ≤ 8) (h4 : a4 ≤ 8) (h5 : a5 ≤ 8) (h6 : a6 ≤ 8) (h7 : a7 ≤ 8) (zz : Nat)
    (e : zz = 256 * (256 * (256 * (256 * (256 * (256 * (256 * a7 + a6) + a5) + a4) + a3) + a2) + a1) + a0) :
    (bcT zz + bcT zz / 2 ^ 32) % 128 = a0 + a1 + a2 + a3 + a4 + a5 + a6 + a7 ∧ bcT zz + bcT zz / 2 ^ 32 < 9223372036854775808 := by
  have d1 : zz / 2 ^ 8 = 256 * (256 * (256 * (256 * (256 * (256 * a7 + a6) + a5) + a4) + a3) + a2) + a1 := by omega
  have d2 : (zz + zz / 2 ^ 8) / 2 ^ 16 = 256 * (256 * (256 * (256 * (256 * a7 + (a7 + a6)) + (a6 + a5)) + (a5 + a4)) + (a4 + a3)) + (a3 + a2) := by
    rw [d1, e]
    omega
  have d3 : bcT zz = 256 * (256 * (256 * (256 * (256 * (256 * (256 * a7 + (a7 + a6)) + (a7 + a6 + a5)) + (a7 + a6 + a5 + a4)) + (a6 + a5 + a4 + a3)) + (a5 + a4 + a3 + a2)) + (a4 + a3 + a2 + a1)) + (a3 + a2 + a1 + a0) := by
    unfold bcT
    rw [d2, d1, e]
    omega
  have d4 : bcT zz / 2 ^ 32 = 256 * (256 * (256 * a7 + (a7 + a6)) + (a7 + a6 + a5)) + (a7 + a6 + a5 + a4) := by
    rw [d3]
    omega
  rw [d4, d3]
  clear d1 d2 d3 d4 e
  constructor
  · rw [bc_m _ _ _ _ (by omega)]
    omega
  · omega
theorem bc_whole (zn : Nat) : (bcT (bcG zn 8) + bcT (bcG zn 8) / 2 ^ 32) % 128 = bcN zn 8 ∧ bcT (bcG zn 8) + bcT (bcG zn 8) / 2 ^ 32 < 9223372036854775808 := by
  have h := bc_fold (bcZ (zn % 256)) (bcZ (zn / 256 % 256)) (bcZ (zn / 256 / 256 % 256)) (bcZ (zn / 256 / 256 / 256 % 256)) (bcZ (zn / 256 / 256 / 256 / 256 % 256)) (bcZ (zn / 256 / 256 / 256 / 256 / 256 % 256)) (bcZ (zn / 256 / 256 / 256 / 256 / 256 / 256 % 256)) (bcZ (zn / 256 / 256 / 256 / 256 / 256 / 256 / 256 % 256)) (bcZ_le _) (bcZ_le _) (bcZ_le _) (bcZ_le _) (bcZ_le _) (bcZ_le _) (bcZ_le _) (bcZ_le _) (bcG zn 8) (by
    rw [bcG_d, bcG_d, bcG_d, bcG_d, bcG_d, bcG_d, bcG_d, bcG_d, bcG_0]
    omega)
  refine ⟨h.1.trans ?_, h.2⟩
  unfold bcN bcN bcN bcN bcN bcN bcN bcN bcN
  omega
