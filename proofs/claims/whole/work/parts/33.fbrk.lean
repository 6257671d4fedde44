/-! the reference's sum over all sets -/
def bt (S b : Nat) : Nat := if S.testBit b = true then 1 else 0
def LPm (A : zA) (S : Nat) : Nat → Nat → Nat
  | 0 => fun q => q
  | b + 1 => if pb A b = true then (if bt S b = ah A b then L1 A b (LPm A S b) else L2 A b (LPm A S b)) else LPm A S b
theorem LPm_s (A : zA) (S b : Nat) : LPm A S (b + 1) = if pb A b = true then (if bt S b = ah A b then L1 A b (LPm A S b) else L2 A b (LPm A S b)) else LPm A S b := rfl
theorem LPm_c (A : zA) {S S' : Nat} : ∀ b, (∀ k, k < b → S.testBit k = S'.testBit k) → LPm A S b = LPm A S' b
  | 0, _ => rfl
  | b + 1, h => by
    rw [LPm_s, LPm_s, LPm_c A b (fun k hk => h k (by omega))]
    unfold bt
    rw [h b (by omega)]
theorem oc_c2 {S S' : Nat} : ∀ b, (∀ k, k < b → S.testBit k = S'.testBit k) → oc S b = oc S' b
  | 0, _ => rfl
  | b + 1, h => by
    rw [oc_succ, oc_succ, oc_c2 b (fun k hk => h k (by omega)), h b (by omega)]
theorem smr_eo (f : Nat → Int) : ∀ m, smr f (2 * m) = smr (fun i => f (2 * i)) m + smr (fun i => f (2 * i + 1)) m
  | 0 => rfl
  | m + 1 => by
    rw [show 2 * (m + 1) = 2 * m + 1 + 1 by omega, smr_s, smr_s, smr_s, smr_s, smr_eo f m]
    omega
def sbs (A : zA) (S : Nat) : Prop := S &&& mk (ap A) (aN A) = S
theorem sbs_i (A : zA) (S : Nat) : sbs A S ↔ ∀ k, S.testBit k = true → pb A k = true := by
  unfold sbs
  constructor
  · intro h k hk
    rw [← h, Nat.testBit_and, Bool.and_eq_true] at hk
    exact hk.2
  · intro h
    apply Nat.eq_of_testBit_eq
    intro k
    rw [Nat.testBit_and]
    by_cases hk : S.testBit k = true
    · rw [hk]
      exact h k hk
    · rw [Bool.not_eq_true] at hk
      rw [hk]
      rfl
def fS (A : zA) (φ : Nat → Nat → Int) (S : Nat) : Int := if S &&& mk (ap A) (aN A) = S then φ (oc S 11) (aln A + cls (LPm A S 11) (aN A)) else 0
theorem bits_pre {S b T : Nat} (hS : S < 2 ^ b) : (∀ k, k < b → (2 ^ b * T + S).testBit k = S.testBit k) ∧ ((2 ^ b * T + S).testBit b = T.testBit 0) := by
  refine ⟨fun k hk => ?_, ?_⟩
  · rw [Nat.testBit_two_pow_mul_add _ hS, if_pos hk]
  · rw [Nat.testBit_two_pow_mul_add _ hS, if_neg (by omega), Nat.sub_self]
theorem sum_S {A : zA} (hA : okA A) (φ : Nat → Nat → Int) : ∀ n b S c, b + n = 11 → S < 2 ^ b → (∀ k, S.testBit k = true → pb A k = true) → IV A b (LPm A S b) c → smr (fun T => fS A φ (2 ^ b * T + S)) (2 ^ n) = LSm A φ n b (oc S b) (aln A + c) (LPm A S b)
  | 0, b, S, c, hb, hS, hs, hI => by
    have hb11 : b = 11 := by omega
    subst hb11
    rw [Nat.pow_zero, show (1 : Nat) = 0 + 1 from rfl, smr_s]
    show (0 : Int) + fS A φ (2 ^ 11 * 0 + S) = φ (oc S 11) (aln A + c)
    rw [Int.zero_add, Nat.mul_zero, Nat.zero_add]
    unfold fS
    rw [if_pos (show S &&& mk (ap A) (aN A) = S from (sbs_i A S).mpr hs), (IV_end hA hI).1]
  | n + 1, b, S, c, hb, hS, hs, hI => by
    have hp2 : 2 ^ (b + 1) = 2 * 2 ^ b := by rw [Nat.pow_succ]; omega
    have hp0 : 0 < 2 ^ b := Nat.two_pow_pos b
    have hSb : S.testBit b = false := Nat.testBit_lt_two_pow hS
    have hq := bits_pre (T := 1) hS
    rw [Nat.mul_one] at hq
    have hqb : (2 ^ b + S).testBit b = true := hq.2
    rw [Nat.pow_succ, Nat.mul_comm (2 ^ n) 2, smr_eo]
    have f1 : (fun i => fS A φ (2 ^ b * (2 * i) + S)) = fun T => fS A φ (2 ^ (b + 1) * T + S) := by
      funext i
      rw [hp2, ← Nat.mul_assoc, Nat.mul_comm (2 ^ b) 2]
    have f2 : (fun i => fS A φ (2 ^ b * (2 * i + 1) + S)) = fun T => fS A φ (2 ^ (b + 1) * T + (2 ^ b + S)) := by
      funext i
      rw [hp2, Nat.mul_add, ← Nat.mul_assoc, Nat.mul_comm (2 ^ b) 2, Nat.mul_one, Nat.add_assoc]
    rw [f1, f2, LSm_s]
    have oS : oc S (b + 1) = oc S b := by rw [oc_succ, hSb]; rfl
    have LS : LPm A (2 ^ b + S) b = LPm A S b := LPm_c A b hq.1
    have oQ : oc (2 ^ b + S) (b + 1) = oc S b + 1 := by rw [oc_succ, hqb, oc_c2 b hq.1]; rfl
    have bS : bt S b = 0 := by unfold bt; rw [if_neg (by rw [hSb]; decide)]
    have bQ : bt (2 ^ b + S) b = 1 := by unfold bt; rw [if_pos hqb]
    by_cases hp : pb A b = true
    · rw [if_pos hp]
      have hh := ah_1 hA hp
      have hsQ : ∀ k, (2 ^ b + S).testBit k = true → pb A k = true := by
        intro k hk
        by_cases hkb : k = b
        · rw [hkb]; exact hp
        · by_cases hlt : k < b
          · rw [hq.1 k hlt] at hk
            exact hs k hk
          · have : 2 ^ b + S < 2 ^ k := Nat.lt_of_lt_of_le (show 2 ^ b + S < 2 ^ (b + 1) by omega) (Nat.pow_le_pow_right (by omega) (by omega))
            rw [Nat.testBit_lt_two_pow this] at hk
            cases hk
      by_cases h0 : ah A b = 0
      · have e1 : LPm A S (b + 1) = L1 A b (LPm A S b) := by rw [LPm_s, if_pos hp, if_pos (by rw [bS, h0])]
        have e2 : LPm A (2 ^ b + S) (b + 1) = L2 A b (LPm A S b) := by rw [LPm_s, if_pos hp, if_neg (by rw [bQ, h0]; decide), LS]
        have i1 := sum_S hA φ n (b + 1) S (c + cl1 A b (LPm A S b)) (by omega) (by omega) hs (by rw [e1]; exact IV_1 hA hp hI)
        have i2 := sum_S hA φ n (b + 1) (2 ^ b + S) (c + cl2 A b (LPm A S b)) (by omega) (by omega) hsQ (by rw [e2]; exact IV_2 hA hp hI)
        rw [i1, i2, e1, e2, oS, oQ, h0, Nat.sub_zero, Nat.add_assoc, Nat.add_assoc]
        rfl
      · have h1 : ah A b = 1 := by omega
        have e1 : LPm A S (b + 1) = L2 A b (LPm A S b) := by rw [LPm_s, if_pos hp, if_neg (by rw [bS, h1]; decide)]
        have e2 : LPm A (2 ^ b + S) (b + 1) = L1 A b (LPm A S b) := by rw [LPm_s, if_pos hp, if_pos (by rw [bQ, h1]), LS]
        have i1 := sum_S hA φ n (b + 1) S (c + cl2 A b (LPm A S b)) (by omega) (by omega) hs (by rw [e1]; exact IV_2 hA hp hI)
        have i2 := sum_S hA φ n (b + 1) (2 ^ b + S) (c + cl1 A b (LPm A S b)) (by omega) (by omega) hsQ (by rw [e2]; exact IV_1 hA hp hI)
        rw [i1, i2, e1, e2, oS, oQ, h1, Nat.add_sub_cancel, Nat.add_assoc, Nat.add_assoc, Int.add_comm]
    · rw [if_neg hp]
      have e1 : LPm A S (b + 1) = LPm A S b := by rw [LPm_s, if_neg hp]
      have i1 := sum_S hA φ n (b + 1) S c (by omega) (by omega) hs (by rw [e1]; exact IV_no hp hI)
      rw [i1, smr_0, Int.add_zero, e1, oS]
      intro T hT
      unfold fS
      rw [if_neg]
      intro hsub
      have h3 := bits_pre (S := S) (b := b) (T := 2 * T + 1) hS
      have h4 : (2 ^ (b + 1) * T + (2 ^ b + S)).testBit b = true := by
        have : 2 ^ (b + 1) * T + (2 ^ b + S) = 2 ^ b * (2 * T + 1) + S := by
          rw [hp2, Nat.mul_add, ← Nat.mul_assoc, Nat.mul_comm (2 ^ b) 2, Nat.mul_one, Nat.add_assoc]
        rw [this, h3.2, Nat.testBit_zero]
        exact decide_eq_true (by omega)
      exact hp ((sbs_i A _).mp hsub b h4)
theorem sum_all {A : zA} (hA : okA A) (φ : Nat → Nat → Int) : smr (fS A φ) 2048 = LSm A φ 11 0 0 (aln A) (fun q => q) := by
  have := sum_S hA φ 11 0 0 0 (by omega) (by decide) (fun k hk => by rw [Nat.zero_testBit] at hk; cases hk) (IV_0 A)
  have e : (fun T => fS A φ (2 ^ 0 * T + 0)) = fS A φ := by
    funext T
    rw [Nat.pow_zero, Nat.one_mul, Nat.add_zero]
  rw [e] at this
  exact this
