theorem oc_b (x i : Nat) : (if x.testBit i then 1 else 0) = x / 2 ^ i % 2 := by
  rw [Nat.testBit_eq_decide_div_mod_eq]
  by_cases h : x / 2 ^ i % 2 = 1
  · rw [if_pos (by exact decide_eq_true h), h]
  · rw [if_neg (by rw [decide_eq_false h]; exact Bool.false_ne_true)]
    omega
theorem oc_8 (x : Nat) : oc x 8 = bcZ (x % 256) := by
  simp only [oc_succ, oc_b]
  rw [show oc x 0 = 0 from rfl]
  unfold bcZ
  omega
theorem oc_byte (x : Nat) : ∀ n, oc x (n + 8) = bcZ (x % 256) + oc (x / 256) n
  | 0 => by
    rw [Nat.zero_add, oc_8]
    rfl
  | n + 1 => by
    rw [show n + 1 + 8 = (n + 8) + 1 from by omega, oc_succ, oc_byte x n, oc_succ, show x / 256 = x / 2 ^ 8 from rfl, Nat.testBit_div_two_pow]
    omega
theorem bcN_oc : ∀ k x, bcN x k = oc x (8 * k)
  | 0, _ => rfl
  | k + 1, x => by
    rw [show 8 * (k + 1) = 8 * k + 8 from by omega, oc_byte, ← bcN_oc k]
    rfl
theorem e_lbits {n : Nat} (h : n < 9223372036854775808) (s : kM) : f_Long_bitCount n s = some ((oc n 64 : Nat) : Int) := by
  rw [e_lbitCount h, bcN_oc]
