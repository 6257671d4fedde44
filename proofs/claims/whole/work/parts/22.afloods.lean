/-! floods -/
theorem krem_n {a b : Nat} (ha : a < 2147483648) (hb : b < 2147483648) (h0 : 0 < b) : krem a b = ((a % b : Nat) : Int) := by
  unfold krem
  have hd : (Int32.ofInt (a : Int) / Int32.ofInt (b : Int)).toInt = ((a / b : Nat) : Int) := kdiv_n ha hb h0
  have h1 : a / b * b ≤ a := Nat.div_mul_le_self a b
  have h2 : a % b = a - a / b * b := by
    have := Nat.div_add_mod a b
    rw [Nat.mul_comm] at this
    omega
  have e1 : (Int32.ofInt (a : Int)).toInt = a := i32_toInt (by omega) (by omega)
  have e2 : (Int32.ofInt (b : Int)).toInt = b := i32_toInt (by omega) (by omega)
  rw [Int32.toInt_sub, Int32.toInt_mul, hd, e1, e2]
  have e3 : ((a / b : Nat) : Int) * (b : Int) = ((a / b * b : Nat) : Int) := by push_cast; rfl
  rw [e3, Int.bmod_eq_of_le (n := ((a / b * b : Nat) : Int)) (by omega) (by omega), Int.bmod_eq_of_le (by omega) (by omega), h2]
  omega
theorem i64_toInt {x : Int} (h1 : -9223372036854775808 ≤ x) (h2 : x < 9223372036854775808) : (Int64.ofInt x).toInt = x := by
  rw [Int64.toInt_ofInt]
  show x.bmod 18446744073709551616 = x
  exact Int.bmod_eq_of_le (by omega) (by omega)
theorem kldiv_n {a b : Nat} (ha : a < 9223372036854775808) (hb : b < 9223372036854775808) (h0 : 0 < b) : kldiv a b = ((a / b : Nat) : Int) := by
  unfold kldiv
  have e1 : (Int64.ofInt (a : Int)).toInt = a := i64_toInt (by omega) (by omega)
  have e2 : (Int64.ofInt (b : Int)).toInt = b := i64_toInt (by omega) (by omega)
  rw [Int64.toInt_div_of_ne_right _ _ (by
    intro q
    have := congrArg Int64.toInt q
    rw [e2] at this
    have h2 : (-1 : Int64).toInt = -1 := rfl
    rw [h2] at this
    omega), e1, e2]
  rfl
theorem klrem_n {a b : Nat} (ha : a < 9223372036854775808) (hb : b < 9223372036854775808) (h0 : 0 < b) : klrem a b = ((a % b : Nat) : Int) := by
  unfold klrem
  have hd : (Int64.ofInt (a : Int) / Int64.ofInt (b : Int)).toInt = ((a / b : Nat) : Int) := kldiv_n ha hb h0
  have h1 : a / b * b ≤ a := Nat.div_mul_le_self a b
  have h2 : a % b = a - a / b * b := by
    have := Nat.div_add_mod a b
    rw [Nat.mul_comm] at this
    omega
  have e1 : (Int64.ofInt (a : Int)).toInt = a := i64_toInt (by omega) (by omega)
  have e2 : (Int64.ofInt (b : Int)).toInt = b := i64_toInt (by omega) (by omega)
  rw [Int64.toInt_sub, Int64.toInt_mul, hd, e1, e2]
  have e3 : ((a / b : Nat) : Int) * (b : Int) = ((a / b * b : Nat) : Int) := by push_cast; rfl
  rw [e3, Int.bmod_eq_of_le (n := ((a / b * b : Nat) : Int)) (by omega) (by omega), Int.bmod_eq_of_le (by omega) (by omega), h2]
  omega
/-- a draw -/
def dr (x : Nat) : Nat := (x * 1103515245 + 12345) % 2147483648
theorem dr_lt (x : Nat) : dr x < 2147483648 := Nat.mod_lt _ (by decide)
theorem e_drawnAfter {x : Nat} (h : x < 2147483648) (s : kM) : f_KT_drawnAfter x s = some ((dr x : Nat) : Int) := by
  unfold f_KT_drawnAfter
  have h1 : x * 1103515245 + 12345 < 9223372036854775808 := by omega
  have e1 : wL ((x : Int) * 1103515245) = ((x * 1103515245 : Nat) : Int) := by rw [wL_id (by omega) (by omega)]; omega
  have e2 : wL (((x * 1103515245 : Nat) : Int) + 12345) = ((x * 1103515245 + 12345 : Nat) : Int) := by rw [wL_id (by omega) (by omega)]; omega
  have e3 : klnd ((x * 1103515245 + 12345 : Nat) : Int) 2147483647 = ((dr x : Nat) : Int) := by
    have := klnd_n (a := x * 1103515245 + 12345) (b := 2147483647) h1 (by decide)
    rw [show (2147483647 : Nat) = 2 ^ 31 - 1 by decide, Nat.and_two_pow_sub_one_eq_mod] at this
    exact this
  rw [e1, e2, e3]
  have := dr_lt x
  clear e1 e2 e3
  rw [wI_id (by omega) (by omega)]
theorem e_draws {x : Nat} (h : x < 2147483648) {s : kM} (hs : s 86 4 = x) : f_M_draws 100 s = some (((dr x / 65536 % 100 : Nat) : Int), gU s 86 4 ((dr x : Nat) : Int)) := by
  unfold f_M_draws
  have h1 : x * 1103515245 + 12345 < 9223372036854775808 := by omega
  have hd := dr_lt x
  have e1 : wL ((x : Int) * 1103515245) = ((x * 1103515245 : Nat) : Int) := by rw [wL_id (by omega) (by omega)]; omega
  have e2 : wL (((x * 1103515245 : Nat) : Int) + 12345) = ((x * 1103515245 + 12345 : Nat) : Int) := by rw [wL_id (by omega) (by omega)]; omega
  have e3 : klrem ((x * 1103515245 + 12345 : Nat) : Int) 2147483648 = ((dr x : Nat) : Int) := klrem_n (a := x * 1103515245 + 12345) (b := 2147483648) h1 (by decide) (by decide)
  have e4 : wI ((dr x : Nat) : Int) = ((dr x : Nat) : Int) := wI_id (by omega) (by omega)
  rw [hs, e1, e2, e3, e4, gLet_eq, gUs]
  clear e1 e2 e3 e4
  have e5 : kdiv ((dr x : Nat) : Int) 65536 = ((dr x / 65536 : Nat) : Int) := kdiv_n (a := dr x) (b := 65536) hd (by decide) (by decide)
  have e6 : krem ((dr x / 65536 : Nat) : Int) 100 = ((dr x / 65536 % 100 : Nat) : Int) := krem_n (a := dr x / 65536) (b := 100) (by omega) (by decide) (by decide)
  rw [e5, e6]
  rfl
/-- x and the flooded bridges behind the bridges below n -/
def fs (A : zA) (p x : Nat) : Nat → Nat × Nat
  | 0 => (x, 0)
  | n + 1 => if pb A n = true then (dr (fs A p x n).1, (fs A p x n).2 ||| (if dr (fs A p x n).1 / 65536 % 100 < p then 2 ^ n else 0)) else fs A p x n
theorem fs_s (A : zA) (p x n : Nat) (h : pb A n = true) : fs A p x (n + 1) = (dr (fs A p x n).1, (fs A p x n).2 ||| (if dr (fs A p x n).1 / 65536 % 100 < p then 2 ^ n else 0)) := by
  rw [fs, if_pos h]
theorem fs_s' (A : zA) (p x n : Nat) (h : ¬ pb A n = true) : fs A p x (n + 1) = fs A p x n := by
  rw [fs, if_neg h]
theorem fs_lt (A : zA) (p : Nat) {x : Nat} (hx : x < 2147483648) : ∀ n, n ≤ 11 → (fs A p x n).1 < 2147483648 ∧ (fs A p x n).2 < 2 ^ n
  | 0, _ => ⟨hx, show 0 < 2 ^ 0 by decide⟩
  | n + 1, hn => by
    obtain ⟨h1, h2⟩ := fs_lt A p hx n (by omega)
    have h3 : 2 ^ n < 2 ^ (n + 1) := Nat.pow_lt_pow_right (by decide) (by omega)
    by_cases h : pb A n = true
    · rw [fs_s A p x n h]
      refine ⟨dr_lt _, Nat.or_lt_two_pow (by omega) ?_⟩
      split
      · exact h3
      · exact Nat.pos_of_ne_zero (by simp)
    · rw [fs_s' A p x n h]
      exact ⟨h1, by omega⟩
theorem fs_lt2 (A : zA) (p : Nat) {x : Nat} (hx : x < 2147483648) {n : Nat} (hn : n ≤ 11) : (fs A p x n).2 < 2048 := by
  have h1 := (fs_lt A p hx n hn).2
  have h2 : 2 ^ n ≤ 2 ^ 11 := Nat.pow_le_pow_right (by decide) hn
  omega
/-- from place x along the road to b -/
def ga (A : zA) (f b : Nat) : Nat → Nat → Bool
  | 0, x => x == b
  | n + 1, x => if x = b then true else if ap A (nx (aF A) (aN A) x) % 2 = 0 ∧ f.testBit (ap A (nx (aF A) (aN A) x) / 2) = true then false else ga A f b n (nx (aF A) (aN A) x)
theorem nx_lt {A : zA} (hA : okB A) {j : Nat} (hj : j < aN A) : nx (aF A) (aN A) j < aN A := by
  have := okB_n hA
  unfold nx
  split <;> split <;> omega
theorem ga_b (A : zA) (f b : Nat) : ∀ n, ga A f b n b = true
  | 0 => by simp [ga]
  | n + 1 => by rw [ga, if_pos rfl]
section FLOOD
variable {A : zA} {s : kM}
theorem e_getsAlong (hA : okA A) (hK : KT 4 A s) {a b f : Nat} (ha : a < aN A) (hb : b < aN A) (hf : f < 2048) : f_Town_getsAlong 4 a b f s = some (if ga A f b 22 a = true then 1 else 0) := by
  have hn := okB_n hA.1
  unfold f_Town_getsAlong f_Town_getsAlong_4
  apply wp_eq
  refine wp_for 22 (fun k z => z.2 = (k : Int) ∧ ∃ x : Nat, x < aN A ∧ z.1 = (x : Int) ∧ ga A f b (22 - k) x = ga A f b 22 a) 0 _ (by omega) (by omega) (by exact ⟨rfl, a, ha, rfl, rfl⟩) ?_ ?_
  · rintro k ⟨y1, y2⟩ _ hk ⟨rfl, x, hx, rfl, hg⟩
    have hnx := nx_lt hA.1 hx
    have hp := hA.1.2.2.2.1 _ hnx
    simp only [f_Town_getsAlong_4b, f_Town_getsAlong_40, f_Town_getsAlong_33, wp_ite, wp_bind, wp_gI, wp_some, wp_map, gE_l, gE_r, Int.toNat_natCast]
    have e1 : s (4 + 3) x = ((nx (aF A) (aN A) x : Nat) : Int) := hK.2.2.2.1 x hx
    have e2 : s (4 + 1) (nx (aF A) (aN A) x) = ((ap A (nx (aF A) (aN A) x) : Nat) : Int) := hK.1.2.2.2.1 _ hnx
    rw [e1, Int.toNat_natCast, e2]
    have e3 : kshr ((ap A (nx (aF A) (aN A) x) : Nat) : Int) 1 = ((ap A (nx (aF A) (aN A) x) / 2 : Nat) : Int) := kshr_n (k := 1) (by omega) (by omega)
    rw [kand1_n (by omega), e3, kbit (n := f) (by omega) (by omega)]
    refine ⟨fun c => by omega, fun _ => ⟨fun c => ⟨fun _ => ?_, fun c2 => absurd c c2⟩, fun c => ⟨by omega, by omega, fun c2 => ⟨fun c3 => ?_, fun c3 => ⟨by omega, ?_⟩⟩, fun c2 => ⟨by omega, ?_⟩⟩⟩⟩
    · have : x = b := by omega
      rw [this, ga_b] at hg
      rw [← hg]; rfl
    · have hbit : f.testBit (ap A (nx (aF A) (aN A) x) / 2) = true := by
        by_cases h : f.testBit (ap A (nx (aF A) (aN A) x) / 2) = true
        · exact h
        · rw [if_neg h] at c3; omega
      rw [show 22 - k = (22 - k - 1) + 1 by omega, ga, if_neg (by omega), if_pos ⟨by omega, hbit⟩] at hg
      rw [← hg]; rfl
    · have hbit : ¬ f.testBit (ap A (nx (aF A) (aN A) x) / 2) = true := fun h => by rw [if_pos h] at c3; omega
      refine ⟨wI_s (by omega), _, hnx, rfl, ?_⟩
      rw [show 22 - k = (22 - (k + 1)) + 1 by omega, ga, if_neg (by omega), if_neg (fun q => hbit q.2)] at hg
      exact hg
    · refine ⟨wI_s (by omega), _, hnx, rfl, ?_⟩
      rw [show 22 - k = (22 - (k + 1)) + 1 by omega, ga, if_neg (by omega), if_neg (fun q => by omega)] at hg
      exact hg
  · rintro ⟨y1, y2⟩ ⟨rfl, x, hx, rfl, hg⟩
    simp only [f_Town_getsAlong_4b, f_Town_getsAlong_40, wp_ite, wp_some, wp_map, gE_r]
    refine ⟨fun _ => ⟨fun c => ?_, fun c => ?_⟩, fun c => absurd (by omega : (22 : Int) ≤ ((22 : Nat) : Int)) c⟩
    · have : x = b := by omega
      rw [this, ga_b] at hg
      rw [← hg]; rfl
    · rw [Nat.sub_self, ga] at hg
      have : (x == b) = false := by simp; omega
      rw [this] at hg
      rw [← hg]; rfl
/-- how far it is along the road -/
def dt (A : zA) (b x : Nat) : Nat := if x ≤ b then b - x else if x < aF A then aF A - x + b else aN A - x + (b - aF A)
theorem e_M_gets (hA : okA A) (hM : MT A s) {a b f : Nat} (ha : a < aN A) (hb : b < aN A) (hab : a < aF A ↔ b < aF A) (hf : f < 2048) : f_M_gets a b f s = some (if ga A f b 22 a = true then 1 else 0) := by
  have hn := okB_n hA.1
  unfold f_M_gets f_M_gets_2
  apply wp_eq
  refine wp_gL (fun n z => ∃ x m : Nat, x < aN A ∧ (x < aF A ↔ b < aF A) ∧ z = (x : Int) ∧ dt A b x = n ∧ n ≤ m ∧ ga A f b m x = ga A f b 22 a) ?_ gF (dt A b a) (a : Int) ⟨a, 22, ha, hab, rfl, rfl, ?_, rfl⟩ ?_
  · rintro n z ⟨x, m, hx, hxb, rfl, hd, hm, hg⟩
    have hnx := nx_lt hA.1 hx
    have hp := hA.1.2.2.2.1 _ hnx
    obtain ⟨m5, m6⟩ := hM.1.2.2.2.1 _ hnx
    simp only [f_M_gets_2b, e_M_next hA.1 hM.1 hx, Option.bind_some, wp_ite, wp_bind, wp_gI, wp_some, gE_l, gE_r, Int.toNat_natCast]
    rw [m5, m6, kbit (n := f) (by omega) (by omega)]
    refine ⟨fun c => ?_, fun c => ?_⟩
    · have : x = b := by omega
      rw [this, ga_b] at hg
      rw [← hg]; rfl
    · have hxb2 : x ≠ b := by omega
      have hstep : dt A b (nx (aF A) (aN A) x) + 1 = dt A b x ∧ (nx (aF A) (aN A) x < aF A ↔ b < aF A) := by
        unfold dt nx
        by_cases h1 : x < aF A
        · have h2 : b < aF A := hxb.mp h1
          rw [if_pos h1]
          by_cases h3 : x + 1 = aF A
          · rw [if_pos h3]
            refine ⟨?_, by omega⟩
            rw [if_pos (by omega)]
            split <;> omega
          · rw [if_neg h3]
            refine ⟨?_, by omega⟩
            by_cases h4 : x ≤ b
            · rw [if_pos (by omega), if_pos h4]; omega
            · rw [if_neg (by omega), if_pos (by omega), if_neg h4, if_pos h1]; omega
        · have h2 : ¬ b < aF A := fun q => h1 (hxb.mpr q)
          rw [if_neg h1]
          by_cases h3 : x + 1 = aN A
          · rw [if_pos h3]
            refine ⟨?_, by omega⟩
            rw [if_pos (by omega)]
            split <;> omega
          · rw [if_neg h3]
            refine ⟨?_, by omega⟩
            by_cases h4 : x ≤ b
            · rw [if_pos (by omega), if_pos h4]; omega
            · rw [if_neg (by omega), if_neg (by omega), if_neg h4, if_neg h1]; omega
      obtain ⟨hs1, hs2⟩ := hstep
      obtain ⟨m', rfl⟩ : ∃ m', m = m' + 1 := ⟨m - 1, by omega⟩
      have go : ¬ (ap A (nx (aF A) (aN A) x) % 2 = 0 ∧ f.testBit (ap A (nx (aF A) (aN A) x) / 2) = true) → ∃ q, q < n ∧ ∃ x_1 m : Nat, x_1 < aN A ∧ (x_1 < aF A ↔ b < aF A) ∧ ((nx (aF A) (aN A) x : Nat) : Int) = (x_1 : Int) ∧ dt A b x_1 = q ∧ q ≤ m ∧ ga A f b m x_1 = ga A f b 22 a := by
        intro hno
        rw [ga, if_neg hxb2, if_neg hno] at hg
        exact ⟨dt A b (nx (aF A) (aN A) x), by omega, _, m', hnx, hs2, rfl, rfl, by omega, hg⟩
      refine ⟨by omega, fun c2 => ⟨by omega, fun c3 => ?_, fun c3 => ?_⟩, fun c2 => ?_⟩
      · have hbit : f.testBit (ap A (nx (aF A) (aN A) x) / 2) = true := by
          by_cases h : f.testBit (ap A (nx (aF A) (aN A) x) / 2) = true
          · exact h
          · rw [if_neg h] at c3; omega
        rw [ga, if_neg hxb2, if_pos ⟨by omega, hbit⟩] at hg
        rw [← hg]; rfl
      · exact go (fun q => by rw [if_pos q.2] at c3; omega)
      · exact go (fun q => by omega)
  · unfold dt
    split
    · omega
    · split <;> omega
  · show dt A b a < 4096
    unfold dt
    split
    · omega
    · split <;> omega
end FLOOD
