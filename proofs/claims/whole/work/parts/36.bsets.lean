/-! CHANGES: the sets of bridges in growing order -/
theorem and2 (a b : Nat) : a &&& b = 2 * ((a / 2) &&& (b / 2)) + (a % 2) * (b % 2) := by
  have h1 : (a &&& b) / 2 = a / 2 &&& b / 2 := Nat.and_div_two
  have h2 : (a &&& b) % 2 = (a % 2) * (b % 2) := by
    have h3 : (a &&& b) % 2 = (a % 2) &&& (b % 2) := by
      have := Nat.and_mod_two_pow (a := a) (b := b) (n := 1)
      exact this
    have ha : a % 2 = 0 ∨ a % 2 = 1 := by omega
    have hb : b % 2 = 0 ∨ b % 2 = 1 := by omega
    rw [h3]
    rcases ha with ha | ha <;> rcases hb with hb | hb <;> rw [ha, hb] <;> rfl
  omega
def sub (x P : Nat) : Prop := x &&& P = x
theorem sub_2 {x P : Nat} : sub x P ↔ sub (x / 2) (P / 2) ∧ x % 2 ≤ P % 2 := by
  unfold sub
  rw [and2 x P]
  have hx : x % 2 = 0 ∨ x % 2 = 1 := by omega
  have hp : P % 2 = 0 ∨ P % 2 = 1 := by omega
  rcases hx with hx | hx <;> rcases hp with hp | hp <;> rw [hx, hp] <;> omega
theorem sub_le {x P : Nat} (h : sub x P) : x ≤ P := by
  unfold sub at h
  rw [← h]
  exact Nat.and_le_right
theorem nx_1 : ∀ n P x, P < 2 ^ n → sub x P → (x + 2 ^ n - P - 1) &&& P = x
  | 0, P, x, h1, h2 => by
    have hP : P = 0 := by omega
    have hx := sub_le h2
    subst hP
    have : x = 0 := by omega
    subst this
    rfl
  | n + 1, P, x, h1, h2 => by
    have hle := sub_le h2
    obtain ⟨h3, h4⟩ := sub_2.mp h2
    have hle2 := sub_le h3
    rw [Nat.pow_succ] at h1 ⊢
    have ih := nx_1 n (P / 2) (x / 2) (by omega) h3
    have e1 : (x + 2 ^ n * 2 - P - 1) / 2 = x / 2 + 2 ^ n - P / 2 - 1 := by omega
    rw [and2, e1, ih]
    have hx : x % 2 = 0 ∨ x % 2 = 1 := by omega
    have hp : P % 2 = 0 ∨ P % 2 = 1 := by omega
    rcases hx with hx | hx <;> rcases hp with hp | hp
    · rw [hp, Nat.mul_zero]; omega
    · have : (x + 2 ^ n * 2 - P - 1) % 2 = 0 := by omega
      rw [this, Nat.zero_mul]; omega
    · omega
    · have : (x + 2 ^ n * 2 - P - 1) % 2 = 1 := by omega
      rw [this, hp]; omega
/-- the next greater set -/
def nxs (n P x : Nat) : Nat := (x + 2 ^ n - P) &&& P
theorem nxs_2 {n P x : Nat} (h1 : P < 2 ^ (n + 1)) (h2 : sub x P) : nxs (n + 1) P x = if P % 2 = 1 ∧ x % 2 = 0 then x + 1 else 2 * nxs n (P / 2) (x / 2) := by
  have hle := sub_le h2
  obtain ⟨h3, h4⟩ := sub_2.mp h2
  have hle2 := sub_le h3
  unfold nxs
  rw [Nat.pow_succ] at h1 ⊢
  rw [and2]
  by_cases c : P % 2 = 1 ∧ x % 2 = 0
  · have e1 : (x + 2 ^ n * 2 - P) / 2 = x / 2 + 2 ^ n - P / 2 - 1 := by omega
    have e2 : (x + 2 ^ n * 2 - P) % 2 = 1 := by omega
    rw [if_pos c, e1, nx_1 n (P / 2) (x / 2) (by omega) h3, e2, c.1]
    omega
  · have e1 : (x + 2 ^ n * 2 - P) / 2 = x / 2 + 2 ^ n - P / 2 := by omega
    have e2 : (x + 2 ^ n * 2 - P) % 2 = 0 := by omega
    rw [if_neg c, e1, e2, Nat.zero_mul, Nat.add_zero]
/-- which set it is -/
def rk : Nat → Nat → Nat → Nat
  | 0, _, _ => 0
  | n + 1, P, x => if P % 2 = 0 then rk n (P / 2) (x / 2) else x % 2 + 2 * rk n (P / 2) (x / 2)
theorem rk_s (n P x : Nat) : rk (n + 1) P x = if P % 2 = 0 then rk n (P / 2) (x / 2) else x % 2 + 2 * rk n (P / 2) (x / 2) := rfl
theorem rk_0 : ∀ n P, rk n P 0 = 0
  | 0, _ => rfl
  | n + 1, P => by
    rw [rk_s, show (0 : Nat) / 2 = 0 from rfl, rk_0 n (P / 2)]
    split <;> rfl
theorem oc_half2 (P : Nat) : ∀ n, oc P (n + 1) = P % 2 + oc (P / 2) n
  | 0 => by
    rw [oc_succ]
    show 0 + _ = _ + 0
    rw [Nat.testBit_zero]
    have hp : P % 2 = 0 ∨ P % 2 = 1 := by omega
    rcases hp with hp | hp <;> rw [hp] <;> rfl
  | n + 1 => by
    rw [oc_succ P (n + 1), oc_half2 P n, oc_succ (P / 2) n, Nat.testBit_succ]
    omega
theorem rk_P : ∀ n P, P < 2 ^ n → rk n P P + 1 = 2 ^ oc P n
  | 0, P, _ => rfl
  | n + 1, P, h => by
    have ih := rk_P n (P / 2) (by rw [Nat.pow_succ] at h; omega)
    rw [rk_s, oc_half2]
    by_cases c : P % 2 = 0
    · rw [if_pos c, c, Nat.zero_add]
      exact ih
    · have c1 : P % 2 = 1 := by omega
      rw [if_neg c, c1, Nat.pow_add]
      omega
theorem nxs_n : ∀ n P x, P < 2 ^ n → sub x P → (x = P → nxs n P x = 0) ∧ (x ≠ P → x < nxs n P x ∧ sub (nxs n P x) P ∧ (∀ z, sub z P → x < z → nxs n P x ≤ z) ∧ rk n P (nxs n P x) = rk n P x + 1)
  | 0, P, x, h1, h2 => by
    have hP : P = 0 := by omega
    have hx := sub_le h2
    subst hP
    have hx0 : x = 0 := by omega
    subst hx0
    exact ⟨fun _ => rfl, fun h => absurd rfl h⟩
  | n + 1, P, x, h1, h2 => by
    have hle := sub_le h2
    obtain ⟨h3, h4⟩ := sub_2.mp h2
    have hP2 : P / 2 < 2 ^ n := by rw [Nat.pow_succ] at h1; omega
    obtain ⟨i1, i2⟩ := nxs_n n (P / 2) (x / 2) hP2 h3
    rw [nxs_2 h1 h2]
    by_cases c : P % 2 = 1 ∧ x % 2 = 0
    · rw [if_pos c]
      refine ⟨fun h => by omega, fun h => ⟨by omega, ?_, fun z _ hz => by omega, ?_⟩⟩
      · rw [sub_2, show (x + 1) / 2 = x / 2 by omega]
        exact ⟨h3, by omega⟩
      · rw [rk_s, rk_s, if_neg (by omega), if_neg (by omega), show (x + 1) / 2 = x / 2 by omega]
        omega
    · rw [if_neg c]
      refine ⟨fun h => by rw [i1 (by omega)], fun h => ?_⟩
      obtain ⟨j1, j2, j3, j4⟩ := i2 (by omega)
      refine ⟨by omega, ?_, fun z hz hxz => ?_, ?_⟩
      · rw [sub_2, show 2 * nxs n (P / 2) (x / 2) / 2 = nxs n (P / 2) (x / 2) by omega]
        exact ⟨j2, by omega⟩
      · obtain ⟨z1, z2⟩ := sub_2.mp hz
        have := j3 (z / 2) z1 (by omega)
        omega
      · rw [rk_s, rk_s, show 2 * nxs n (P / 2) (x / 2) / 2 = nxs n (P / 2) (x / 2) by omega, j4]
        by_cases d : P % 2 = 0
        · rw [if_pos d, if_pos d]
        · rw [if_neg d, if_neg d]
          omega
theorem e_nxs {P x : Nat} (hP : P < 2048) (h : sub x P) : kand (wI ((x : Int) - (P : Int))) (P : Int) = ((nxs 32 P x : Nat) : Int) := by
  have hle := sub_le h
  have e1 : wI ((x : Int) - (P : Int)) = (x : Int) - (P : Int) := wI_id (by omega) (by omega)
  rw [e1]
  clear e1
  unfold kand
  rw [← Int32.toInt_toBitVec, Int32.toBitVec_and]
  have e2 : ((Int32.ofInt ((x : Int) - (P : Int))).toBitVec).toNat = (x + 2 ^ 32 - P) % 2 ^ 32 := by
    rw [Int32.toBitVec_ofInt, BitVec.toNat_ofInt]
    omega
  have e3 : ((Int32.ofInt (P : Int)).toBitVec).toNat = P := by
    rw [i32_nat P (by omega), BitVec.toNat_ofNat, Nat.mod_eq_of_lt (by omega)]
  have e4 : ((Int32.ofInt ((x : Int) - (P : Int))).toBitVec &&& (Int32.ofInt (P : Int)).toBitVec).toNat = nxs 32 P x := by
    rw [BitVec.toNat_and, e2, e3]
    unfold nxs
    by_cases c : x = P
    · rw [c, show P + 2 ^ 32 - P = 2 ^ 32 by omega, Nat.mod_self, Nat.zero_and]
      apply Nat.eq_of_testBit_eq
      intro i
      rw [Nat.zero_testBit, Nat.testBit_and, Nat.testBit_two_pow]
      by_cases hi : 32 = i
      · rw [← hi, Nat.testBit_lt_two_pow (show P < 2 ^ 32 by omega), Bool.and_false]
      · rw [decide_eq_false hi, Bool.false_and]
    · rw [Nat.mod_eq_of_lt (by omega)]
  have e5 : nxs 32 P x ≤ P := by unfold nxs; exact Nat.and_le_right
  rw [i32_back _ (by rw [e4]; omega), e4]
