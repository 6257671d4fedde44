theorem h5_all : ∀ a b : Fin 3, (a.val + b.val = 2 ∧ a.val ≠ 1) ↔ 2 ^ a.val ||| 2 ^ b.val = 5 := by decide
theorem apc_M {A : zA} (hA : okA A) {a b x : Nat} (hab : a ≠ b) (hx : x < 2 * aN A) (h2 : sz A x = 2) : apc A a b x = true ↔ (x / 2 ≠ sgm A x / 2 ∧ btw A a b x ∧ btw A a b (sgm A x) ∧ hgt A (x / 2) + hgt A (sgm A x / 2) = 2 ∧ hgt A (x / 2) ≠ 1) := by
  have h5 := (orb_all hA hx).2.2.2.2
  rw [h2] at h5
  have h6 : sgm A (sgm A x) = x := h5
  have hs := sgm_lt hA hx
  have e1 := bre_sgm hA hx
  have e2 := bre_sgm hA hs
  rw [h6] at e2
  have hh := h5_all ⟨hgt A (x / 2), by have := hgt_le A (x / 2); omega⟩ ⟨hgt A (sgm A x / 2), by have := hgt_le A (sgm A x / 2); omega⟩
  dsimp only at hh
  unfold apc cA btw
  rw [Bool.and_eq_true, decide_eq_true_eq, decide_eq_true_eq, ← e2, e1]
  constructor
  · rintro ⟨⟨q1, q2, q3⟩, q4⟩
    obtain ⟨q5, q6⟩ := hh.mpr q3
    refine ⟨fun q => ?_, q4, ?_, q5, q6⟩
    · rw [← q] at q5
      omega
    · rcases q4 with q4 | q4
      · exact Or.inr ⟨q4.2, q4.1⟩
      · exact Or.inl ⟨q4.2, q4.1⟩
  · rintro ⟨q1, q2, q3, q4, q5⟩
    exact ⟨⟨h2, by omega, hh.mp ⟨q4, q5⟩⟩, q2⟩
theorem e_M_isB {A : zA} (hA : okA A) {t : kM} (hM : MT A t) {a : Nat} (ha : pb A a = true) (ha1 : a < 11) : f_M_isBridge a t = some 1 := by
  rw [e_M_isBridge hA hM, Int.toNat_natCast, if_pos ⟨by omega, by omega, ha⟩]
theorem e_M_isApart {A : zA} (hA : okA A) {s t : kM} (hM : MT A t) (hF : fLd A s t) {a b : Nat} (ha : pb A a = true) (hb : pb A b = true) (ha1 : a < 11) (hb1 : b < 11) : f_M_isApart a b t = some (if a ≠ b ∧ (FL A (2 * aN A)).any (apc A a b) = true then 1 else 0) := by
  have hn := okB_n hA.1
  unfold f_M_isApart
  rw [e_M_isB hA hM ha ha1, Option.bind_some, if_neg (show ¬ (1 : Int) = 0 by decide), e_M_isB hA hM hb hb1, Option.bind_some, if_neg (show ¬ (1 : Int) = 0 by decide)]
  by_cases hab : a = b
  · rw [if_pos (by omega), if_neg (fun q => q.1 hab)]
  · rw [if_neg (by omega)]
    obtain ⟨-, -, hT, h4, h5⟩ := hF
    have hlen := FL_len A (2 * aN A)
    have hmem : ∀ x, x ∈ FL A (2 * aN A) → x < 2 * aN A := fun x h => FL_mem _ h
    generalize FL A (2 * aN A) = l at h4 h5 hlen hmem ⊢
    unfold f_M_isApart_15
    apply wp_eq
    refine wp_for l.length (fun k y => y = (k : Int) ∧ ∀ j, (hj : j < l.length) → j < k → ¬ apc A a b l[j] = true) 0 _ (by omega) (by omega) (by exact ⟨rfl, fun j _ h => by omega⟩) ?_ ?_
    · rintro k y _ hk ⟨rfl, q⟩
      obtain ⟨z1, z2⟩ := h5 k hk
      have hx := hmem l[k] (List.getElem_mem hk)
      have ik : gI 44 (k : Int) = some k := gI_n (by omega)
      generalize hX : l[k] = x at z1 z2 hx
      have hs := sgm_lt hA hx
      have hxo := xo_lt hx
      have ex : kxor (x : Int) 1 = ((xo x : Nat) : Int) := by
        rw [show (1 : Int) = ((1 : Nat) : Int) from rfl, kxor_n (by omega) (by decide), xo_xor (by omega)]
      have etn : t 100 (xo x) = ((sgm A x : Nat) : Int) := hT _ hxo (bre_lt hA.1 hxo)
      have d1 : kdiv (x : Int) 2 = ((x / 2 : Nat) : Int) := kdiv_n (b := 2) (by omega) (by decide) (by decide)
      have d2 : kdiv ((sgm A x : Nat) : Int) 2 = ((sgm A x / 2 : Nat) : Int) := kdiv_n (b := 2) (by omega) (by decide) (by decide)
      have next : ¬ apc A a b x = true → wp (f_M_isApart_75 a b k t) (gE (fun y => y = ((k + 1 : Nat) : Int) ∧ ∀ j, (hj : j < l.length) → j < k + 1 → ¬ apc A a b l[j] = true) (fun r => r = if a ≠ b ∧ l.any (apc A a b) = true then 1 else 0)) := by
        intro hc
        unfold f_M_isApart_75
        rw [wp_some, gE_l, wI_s (by omega)]
        refine ⟨rfl, fun j hj hjk => ?_⟩
        by_cases hjk2 : j = k
        · subst hjk2
          rw [hX]
          exact hc
        · exact q j hj (by omega)
      unfold f_M_isApart_15b
      rw [h4, if_neg (show ¬ (l.length : Int) ≤ (k : Int) by omega), ik, Option.bind_some, z1]
      by_cases h2 : sz A x = 2
      · have hap := apc_M hA hab hx h2
        rw [if_pos (by omega), Option.bind_some, Option.bind_some, z2, ex, gI_n (show xo x < 44 by omega), Option.bind_some, etn, d1, d2]
        by_cases c1 : x / 2 = sgm A x / 2
        · rw [if_pos (by omega)]
          exact next (fun z => (hap.mp z).1 c1)
        · rw [if_neg (by omega), e_M_isBetween hA hM hx, Option.bind_some]
          by_cases c2 : btw A a b x
          · rw [if_pos c2, if_neg (by decide), e_M_isBetween hA hM hs, Option.bind_some]
            by_cases c3 : btw A a b (sgm A x)
            · rw [if_pos c3, if_neg (by decide), e_M_heightOf hA hM (by omega), Option.bind_some, e_M_heightOf hA hM (by omega), Option.bind_some]
              have b1 := hgt_le A (x / 2)
              have b2 := hgt_le A (sgm A x / 2)
              rw [wI_add2 (by omega)]
              by_cases c4 : hgt A (x / 2) + hgt A (sgm A x / 2) = 2
              · rw [if_pos (by omega), Option.bind_some]
                by_cases c5 : hgt A (x / 2) = 1
                · rw [if_pos (by omega)]
                  exact next (fun z => (hap.mp z).2.2.2.2 c5)
                · rw [if_neg (by omega), wp_some, gE_r, if_pos]
                  refine ⟨hab, List.any_eq_true.mpr ⟨l[k], List.getElem_mem hk, ?_⟩⟩
                  rw [hX]
                  exact hap.mpr ⟨c1, c2, c3, c4, c5⟩
              · rw [if_neg (by omega)]
                exact next (fun z => c4 (hap.mp z).2.2.2.1)
            · rw [if_neg c3, if_pos rfl]
              exact next (fun z => c3 (hap.mp z).2.2.1)
          · rw [if_neg c2, if_pos rfl]
            exact next (fun z => c2 (hap.mp z).2.1)
      · rw [if_neg (by omega)]
        refine next (fun z => ?_)
        unfold apc at z
        rw [Bool.and_eq_true] at z
        exact h2 (of_decide_eq_true z.1).1
    · rintro y ⟨rfl, q⟩
      unfold f_M_isApart_15b
      rw [h4, if_pos (Int.le_refl _), wp_some, gE_r, if_neg]
      rintro ⟨-, z⟩
      obtain ⟨x, h1, h2⟩ := List.any_eq_true.mp z
      obtain ⟨j, hj, rfl⟩ := List.getElem_of_mem h1
      exact q j hj hj h2
/-! three bridges, however told -/
theorem srt3 {a b c : Nat} (h1 : a ≠ b) (h2 : b ≠ c) (h3 : a ≠ c) : ∃ x y z, x < y ∧ y < z ∧ mi a (mi b c) = x ∧ a + b + c - mi a (mi b c) - ma a (ma b c) = y ∧ ma a (ma b c) = z ∧ ((a = x ∧ b = y ∧ c = z) ∨ (a = x ∧ b = z ∧ c = y) ∨ (a = y ∧ b = x ∧ c = z) ∨ (a = y ∧ b = z ∧ c = x) ∨ (a = z ∧ b = x ∧ c = y) ∨ (a = z ∧ b = y ∧ c = x)) := by
  refine ⟨_, _, _, ?_, ?_, rfl, rfl, rfl, ?_⟩
  · unfold mi ma
    (repeat' split) <;> omega
  · unfold mi ma
    (repeat' split) <;> omega
  · unfold mi ma
    (repeat' split) <;> omega
theorem mS_eq {a b c x y z : Nat} (ha : a < 11) (hb : b < 11) (hc : c < 11) (hx : x < 11) (hy : y < 11) (hz : z < 11) (h1 : a ≠ b) (h2 : b ≠ c) (h3 : a ≠ c) (k1 : x ≠ y) (k2 : y ≠ z) (k3 : x ≠ z) : mS x y z = mS a b c ↔ ((x = a ∨ x = b ∨ x = c) ∧ (y = a ∨ y = b ∨ y = c) ∧ (z = a ∨ z = b ∨ z = c)) := by
  obtain ⟨p, q, r, o1, o2, e1, e2, e3, o3⟩ := srt3 h1 h2 h3
  obtain ⟨p', q', r', u1, u2, f1, f2, f3, u3⟩ := srt3 k1 k2 k3
  unfold mS
  rw [e2, e3, e1, f2, f3, f1]
  clear e1 e2 e3 f1 f2 f3
  constructor
  · intro h
    have : p' = p ∧ q' = q ∧ r' = r := by omega
    omega
  · intro h
    have : p' = p ∧ q' = q ∧ r' = r := by omega
    omega
theorem bit3 (a b c i : Nat) : (2 ^ a ||| 2 ^ b ||| 2 ^ c).testBit i = true ↔ i = a ∨ i = b ∨ i = c := by
  rw [Nat.testBit_or, Nat.testBit_or, Nat.testBit_two_pow, Nat.testBit_two_pow, Nat.testBit_two_pow]
  simp only [Bool.or_eq_true, decide_eq_true_eq]
  omega
theorem bit3_eq {a b c x y z : Nat} (k1 : x ≠ y) (k2 : y ≠ z) (k3 : x ≠ z) (hx : x = a ∨ x = b ∨ x = c) (hy : y = a ∨ y = b ∨ y = c) (hz : z = a ∨ z = b ∨ z = c) : 2 ^ a ||| 2 ^ b ||| 2 ^ c = 2 ^ x ||| 2 ^ y ||| 2 ^ z := by
  apply Nat.eq_of_testBit_eq
  intro i
  rw [Bool.eq_iff_iff, bit3, bit3]
  omega
theorem bit_x {x y z : Nat} (k1 : x ≠ y) (k2 : y ≠ z) (k3 : x ≠ z) : (2 ^ x ||| 2 ^ y ||| 2 ^ z) ^^^ (2 ^ x ||| 2 ^ y) = 2 ^ z := by
  apply Nat.eq_of_testBit_eq
  intro i
  rw [Nat.testBit_xor, Nat.testBit_or, Nat.testBit_or, Nat.testBit_two_pow, Nat.testBit_two_pow, Nat.testBit_two_pow]
  by_cases c1 : x = i
  · have : ¬ z = i := by omega
    simp [c1, this]
  · by_cases c2 : y = i
    · have : ¬ z = i := by omega
      simp [c2, this]
    · simp [c1, c2]
theorem bit_sub {X x y : Nat} : (2 ^ x ||| 2 ^ y) &&& X = 2 ^ x ||| 2 ^ y ↔ X.testBit x = true ∧ X.testBit y = true := by
  constructor
  · intro h
    have hx : ((2 ^ x ||| 2 ^ y) &&& X).testBit x = true := by rw [h, Nat.testBit_or, Nat.testBit_two_pow, decide_eq_true rfl, Bool.true_or]
    have hy : ((2 ^ x ||| 2 ^ y) &&& X).testBit y = true := by rw [h, Nat.testBit_or, Nat.testBit_two_pow, Nat.testBit_two_pow, decide_eq_true (rfl : y = y), Bool.or_true]
    rw [Nat.testBit_and, Bool.and_eq_true] at hx hy
    exact ⟨hx.2, hy.2⟩
  · rintro ⟨h1, h2⟩
    apply Nat.eq_of_testBit_eq
    intro i
    rw [Nat.testBit_and, Nat.testBit_or, Nat.testBit_two_pow, Nat.testBit_two_pow]
    by_cases c1 : x = i
    · subst c1
      simp [h1]
    · by_cases c2 : y = i
      · subst c2
        simp [h2]
      · simp [c1, c2]
theorem bit_dis {x y : Nat} (h : x ≠ y) : 2 ^ x &&& 2 ^ y = 0 := by
  apply Nat.eq_of_testBit_eq
  intro i
  rw [Nat.testBit_and, Nat.testBit_two_pow, Nat.testBit_two_pow, Nat.zero_testBit]
  by_cases c1 : x = i
  · have : ¬ y = i := by omega
    simp [this]
  · simp [c1]
