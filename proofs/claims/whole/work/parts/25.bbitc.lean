/-! bits of a long: three steps, byte by byte -/
def bc5 : Nat → Nat
  | 0 => 0
  | k + 1 => 2 ^ 8 * bc5 k + 85
def bc3 : Nat → Nat
  | 0 => 0
  | k + 1 => 2 ^ 8 * bc3 k + 51
def bcf : Nat → Nat
  | 0 => 0
  | k + 1 => 2 ^ 8 * bcf k + 15
def bcx (zn k : Nat) : Nat := zn - ((zn / 2 ^ 1) &&& bc5 k)
def bcy (zn k : Nat) : Nat := ((zn / 2 ^ 0) &&& bc3 k) + ((zn / 2 ^ 2) &&& bc3 k)
def bcz (zn k : Nat) : Nat := ((zn + zn / 2 ^ 4) / 2 ^ 0) &&& bcf k
def bcX (zb : Nat) : Nat := zb - ((zb / 2 ^ 1) &&& 85)
def bcY (zb : Nat) : Nat := ((zb / 2 ^ 0) &&& 51) + ((zb / 2 ^ 2) &&& 51)
def bcZ (zb : Nat) : Nat := zb % 2 + zb / 2 % 2 + zb / 4 % 2 + zb / 8 % 2 + zb / 16 % 2 + zb / 32 % 2 + zb / 64 % 2 + zb / 128 % 2
theorem bc_byte : ∀ zb : Fin 256, bcX zb.1 < 256 ∧ bcY (bcX zb.1) < 256 ∧ bcY (bcX zb.1) % 16 ≤ 4 ∧ bcY (bcX zb.1) / 16 ≤ 4 ∧ (bcY (bcX zb.1) + bcY (bcX zb.1) / 16) % 16 = bcZ zb.1 := by
  decide +kernel
theorem bcx_s (zm zb k : Nat) (hb : zb < 2 ^ 8) : bcx (2 ^ 8 * zm + zb) (k + 1) = 2 ^ 8 * bcx zm k + bcX zb := by
  unfold bcx bcX
  rw [show bc5 (k + 1) = 2 ^ 8 * bc5 k + 85 from rfl, bc_split zm zb (bc5 k) 85 1 hb (by omega) (by omega)]
  have h1 : ((zm / 2 ^ 1) &&& bc5 k) ≤ zm := Nat.le_trans Nat.and_le_left (Nat.div_le_self _ _)
  have h2 : ((zb / 2 ^ 1) &&& 85) ≤ zb := Nat.le_trans Nat.and_le_left (Nat.div_le_self _ _)
  generalize ((zm / 2 ^ 1) &&& bc5 k) = zu at *
  generalize ((zb / 2 ^ 1) &&& 85) = zw at *
  omega
theorem bcy_s (zm zb k : Nat) (hb : zb < 2 ^ 8) : bcy (2 ^ 8 * zm + zb) (k + 1) = 2 ^ 8 * bcy zm k + bcY zb := by
  unfold bcy bcY
  rw [show bc3 (k + 1) = 2 ^ 8 * bc3 k + 51 from rfl, bc_split zm zb (bc3 k) 51 0 hb (by omega) (by omega), bc_split zm zb (bc3 k) 51 2 hb (by omega) (by omega)]
  generalize ((zm / 2 ^ 0) &&& bc3 k) = zu1
  generalize ((zm / 2 ^ 2) &&& bc3 k) = zu2
  generalize ((zb / 2 ^ 0) &&& 51) = zu3
  generalize ((zb / 2 ^ 2) &&& 51) = zu4
  omega
theorem bcz_s (zm zb k : Nat) (hm : zm % 16 ≤ 4) (hb : zb % 16 ≤ 4) (hb2 : zb / 16 ≤ 4) : bcz (2 ^ 8 * zm + zb) (k + 1) = 2 ^ 8 * bcz zm k + (zb + zb / 16) % 16 := by
  unfold bcz
  rw [show bcf (k + 1) = 2 ^ 8 * bcf k + 15 from rfl, show (2 ^ 8 * zm + zb) + (2 ^ 8 * zm + zb) / 2 ^ 4 = 2 ^ 8 * (zm + zm / 2 ^ 4) + (zb + zb / 16 + 16 * (zm % 16)) from by omega, bc_split (zm + zm / 2 ^ 4) (zb + zb / 16 + 16 * (zm % 16)) (bcf k) 15 0 (by omega) (by omega) (by omega)]
  have h3 : ((zb + zb / 16 + 16 * (zm % 16)) / 2 ^ 0) &&& 15 = (zb + zb / 16) % 16 := by
    have h4 := Nat.and_two_pow_sub_one_eq_mod ((zb + zb / 16 + 16 * (zm % 16)) / 2 ^ 0) 4
    rw [show (2 ^ 4 - 1 : Nat) = 15 from rfl] at h4
    rw [h4]
    omega
  rw [h3]
