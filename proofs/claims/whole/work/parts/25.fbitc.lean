theorem e_lbitCount {n : Nat} (h : n < 9223372036854775808) (s : kM) : f_Long_bitCount n s = some ((bcN n 8 : Nat) : Int) := by
  have w := bc_whole n
  have b2 := bc_b2 (bcx n 8)
  have b3 := bc_b3 (bcy (bcx n 8) 8)
  unfold f_Long_bitCount
  simp only [bc_e1 h]
  simp only [bc_e2 (bc_b1 h)]
  simp only [bc_e3 b2]
  have g : bcG n 8 = bcz (bcy (bcx n 8) 8) 8 := rfl
  rw [← g] at b3 ⊢
  clear g b2
  generalize bcG n 8 = zz at *
  have u1 : wL ((zz : Int) + klushr zz 8) = ((zz + zz / 2 ^ 8 : Nat) : Int) := bc_e4 (k := 8) (by omega) (by omega)
  have u2 : wL (((zz + zz / 2 ^ 8 : Nat) : Int) + klushr ((zz + zz / 2 ^ 8 : Nat) : Int) 16) = ((bcT zz : Nat) : Int) := bc_e4 (k := 16) (by omega) (by omega)
  have hT : bcT zz ≤ 2000000000000000000 := by
    unfold bcT
    omega
  have u3 : wL (((bcT zz : Nat) : Int) + klushr ((bcT zz : Nat) : Int) 32) = ((bcT zz + bcT zz / 2 ^ 32 : Nat) : Int) := bc_e4 (k := 32) hT (by omega)
  simp only [u1]
  simp only [u2]
  simp only [u3]
  rw [kand127, w.1]
