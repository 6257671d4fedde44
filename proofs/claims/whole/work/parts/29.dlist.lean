/-! the list of MOVES: numbers as the reference has them, keys as the class has them -/
def ky (m : Nat) : Nat := if m < 11 then 4096 + 256 * m + 255 else if m < 132 then 8192 + 256 * ((m - 11) / 11) + 16 * ((m - 11) % 11) + 15 else 12288 + 256 * ((m - 132) / 121) + 16 * ((m - 132) / 11 % 11) + (m - 132) % 11
theorem ky_1 : ∀ m : Fin 1462, ky m.val < ky (m.val + 1) := by decide +kernel
theorem ky_lt {m : Nat} : ∀ d, m + d + 1 < 1463 → ky m < ky (m + d + 1)
  | 0, h => ky_1 ⟨m, by omega⟩
  | d + 1, h => by
    have h1 := ky_lt (m := m) d (by omega)
    have h2 := ky_1 ⟨m + d + 1, by omega⟩
    dsimp only at h2
    rw [show m + (d + 1) + 1 = m + d + 1 + 1 by omega]
    omega
theorem ky_mono {m n : Nat} (h : m < n) (hn : n < 1463) : ky m < ky n := by
  have := ky_lt (m := m) (n - m - 1) (by omega)
  rw [show m + (n - m - 1) + 1 = n by omega] at this
  exact this
theorem ky_inj {m n : Nat} (hm : m < 1463) (hn : n < 1463) (h : ky m = ky n) : m = n := by
  rcases Nat.lt_trichotomy m n with h1 | h1 | h1
  · have := ky_mono h1 hn
    omega
  · exact h1
  · have := ky_mono h1 hm
    omega
theorem ky_b : ∀ m : Fin 1463, ky m.val < 16384 := by decide +kernel
theorem cq_mono (P : Nat → Bool) {m : Nat} : ∀ n, m ≤ n → cq P m ≤ cq P n
  | 0, h => by rw [show m = 0 by omega]; exact Nat.le_refl _
  | n + 1, h => by
    by_cases hm : m = n + 1
    · rw [hm]; exact Nat.le_refl _
    · have := cq_mono P n (by omega : m ≤ n)
      rw [cq_succ]
      omega
theorem cq_lt {P : Nat → Bool} {m n : Nat} (h : m < n) (hP : P m = true) : cq P m < cq P n := by
  have h1 := cq_mono P (m := m + 1) n h
  rw [cq_succ, if_pos hP] at h1
  omega
theorem cq_sur {P : Nat → Bool} {j : Nat} : ∀ n, j < cq P n → ∃ m, m < n ∧ P m = true ∧ cq P m = j
  | 0, h => absurd h (Nat.not_lt_zero j)
  | n + 1, h => by
    by_cases hj : j < cq P n
    · obtain ⟨m, h1, h2, h3⟩ := cq_sur n hj
      exact ⟨m, by omega, h2, h3⟩
    · rw [cq_succ] at h
      by_cases hP : P n = true
      · rw [if_pos hP] at h
        exact ⟨n, by omega, hP, by omega⟩
      · rw [if_neg hP] at h
        omega
def ins (P : Nat → Bool) (m0 : Nat) : Nat → Bool := fun m => P m || decide (m = m0)
theorem cq_ins {P : Nat → Bool} {m0 : Nat} (h0 : ¬ P m0 = true) : ∀ n, cq (ins P m0) n = cq P n + if m0 < n then 1 else 0
  | 0 => by rw [if_neg (by omega)]; rfl
  | n + 1 => by
    rw [cq_succ, cq_succ, cq_ins h0 n]
    unfold ins
    by_cases hn : n = m0
    · subst hn
      rw [decide_eq_true rfl, Bool.or_true, if_pos rfl, if_neg (by omega), if_neg h0, if_pos (by omega)]
    · rw [decide_eq_false hn, Bool.or_false]
      by_cases h1 : m0 < n
      · rw [if_pos h1, if_pos (show m0 < n + 1 by omega)]
        omega
      · rw [if_neg h1, if_neg (show ¬ m0 < n + 1 by omega)]
        omega
def KLs (b : Nat) (P : Nat → Bool) (st : Nat → Nat) (t : kM) : Prop := t b 6 = ((cq P 1463 : Nat) : Int) ∧ ∀ m, m < 1463 → P m = true → t (b + 1) (cq P m) = ((ky m : Nat) : Int) ∧ t (b + 2) (cq P m) = ((st m : Nat) : Int)
theorem KLs_c {b : Nat} {P : Nat → Bool} {st : Nat → Nat} {s t : kM} (h : KLs b P st s) (h0 : t b 6 = s b 6) (h1 : t (b + 1) = s (b + 1)) (h2 : t (b + 2) = s (b + 2)) : KLs b P st t := by
  unfold KLs at h ⊢
  rw [h0, h1, h2]
  exact h
theorem e_index {b : Nat} {P : Nat → Bool} {st : Nat → Nat} {t : kM} (h : KLs b P st t) (h48 : cq P 1463 ≤ 48) {m0 : Nat} (hm : m0 < 1463) : f_Land_indexOfMove b ((ky m0 : Nat) : Int) t = some (if P m0 = true then ((cq P m0 : Nat) : Int) else -1) := by
  obtain ⟨k1, k2⟩ := h
  unfold f_Land_indexOfMove f_Land_indexOfMove_2
  apply wp_eq
  refine wp_for (cq P 1463) (fun j x => x = (j : Int) ∧ (P m0 = true → j ≤ cq P m0)) 0 _ (by omega) (by omega) (by exact ⟨rfl, fun _ => by omega⟩) ?_ ?_
  · rintro j y _ hj ⟨rfl, q⟩
    obtain ⟨m, h1, h2, h3⟩ := cq_sur 1463 hj
    have he : t (b + 1) j = ((ky m : Nat) : Int) := by rw [← h3]; exact (k2 m h1 h2).1
    unfold f_Land_indexOfMove_2b
    rw [k1, if_neg (show ¬ ((cq P 1463 : Nat) : Int) ≤ (j : Int) by omega), gI_n (show j < 48 by omega), Option.bind_some, he]
    by_cases hk : ky m = ky m0
    · have := ky_inj h1 hm hk
      subst this
      rw [if_pos (by omega), wp_some, gE_r, if_pos h2, h3]
    · rw [if_neg (by omega), wp_some, gE_l, wI_s (by omega)]
      refine ⟨rfl, fun hP => ?_⟩
      have := q hP
      by_cases hjm : j = cq P m0
      · exfalso
        rw [hjm] at he
        have := (k2 m0 hm hP).1
        omega
      · omega
  · rintro y ⟨rfl, q⟩
    unfold f_Land_indexOfMove_2b
    rw [k1, if_pos (Int.le_refl _), wp_some, gE_r]
    by_cases hP : P m0 = true
    · have h1 := q hP
      have h2 := cq_lt hm hP
      omega
    · rw [if_neg hP]
theorem wp_list {b : Nat} {P : Nat → Bool} {st : Nat → Nat} {t : kM} (h : KLs b P st t) (h48 : cq P 1463 < 48) {m0 e : Nat} (hm : m0 < 1463) : wp (f_Land_list b ((ky m0 : Nat) : Int) e t) (fun u => KLs b (ins P m0) (fun m => if P m0 = true then st m else if m = m0 then e else st m) u ∧ (∀ z, z ≠ b → z ≠ b + 1 → z ≠ b + 2 → u z = t z) ∧ ∀ i, i ≠ 6 → u b i = t b i) := by
  have hk := h
  obtain ⟨k1, k2⟩ := hk
  unfold f_Land_list
  rw [k1, if_neg (show ¬ (48 : Int) ≤ ((cq P 1463 : Nat) : Int) by omega), e_index h (by omega) hm, Option.bind_some]
  by_cases hP : P m0 = true
  · have eI : ins P m0 = P := by
      funext m
      unfold ins
      by_cases hmm : m = m0
      · rw [hmm, hP]
        rfl
      · rw [decide_eq_false hmm, Bool.or_false]
    rw [if_pos hP, if_neg (by omega), wp_some, eI]
    simp only [if_pos hP]
    exact ⟨h, by simp, by simp⟩
  · rw [if_neg hP, if_pos (by decide)]
    simp only [if_neg hP]
    obtain ⟨c0, hc0⟩ : ∃ c0, c0 = cq P m0 := ⟨_, rfl⟩
    obtain ⟨C, hC⟩ : ∃ C, C = cq P 1463 := ⟨_, rfl⟩
    have hcC : c0 ≤ C := by rw [hc0, hC]; exact cq_mono P _ (by omega)
    -- which entries stand behind the new one
    have side : ∀ j, j < C → (((ky m0 : Nat) : Int) < t (b + 1) j ↔ c0 ≤ j) := by
      intro j hj
      rw [hC] at hj
      obtain ⟨m, h1, h2, h3⟩ := cq_sur 1463 hj
      have he : t (b + 1) j = ((ky m : Nat) : Int) := by rw [← h3]; exact (k2 m h1 h2).1
      have hne : m ≠ m0 := fun q => hP (by rw [← q]; exact h2)
      rw [he]
      constructor
      · intro q
        by_cases hlt : m0 < m
        · rw [hc0, ← h3]
          exact cq_mono P _ (by omega)
        · have := ky_mono (show m < m0 by omega) hm
          omega
      · intro q
        by_cases hlt : m0 < m
        · have := ky_mono hlt h1
          omega
        · have := cq_lt (show m < m0 by omega) h2
          omega
    have n1 : b + 1 ≠ b := by omega
    have n2 : b + 2 ≠ b := by omega
    have n3 : b ≠ b + 1 := by omega
    have n4 : b ≠ b + 2 := by omega
    have n5 : b + 1 ≠ b + 2 := by omega
    have n6 : b + 2 ≠ b + 1 := by omega
    -- the write
    have at44 : ∀ u : kM, (∀ z, z ≠ b + 1 → z ≠ b + 2 → u z = t z) → (∀ j, j < c0 → u (b + 1) j = t (b + 1) j ∧ u (b + 2) j = t (b + 2) j) → (∀ j, c0 < j → j ≤ C → u (b + 1) j = t (b + 1) (j - 1) ∧ u (b + 2) j = t (b + 2) (j - 1)) → wp (f_Land_list_44 b ((ky m0 : Nat) : Int) e c0 u) (fun u => KLs b (ins P m0) (fun m => if m = m0 then e else st m) u ∧ (∀ z, z ≠ b → z ≠ b + 1 → z ≠ b + 2 → u z = t z) ∧ ∀ i, i ≠ 6 → u b i = t b i) := by
      intro u u1 u2 u3
      have ub : u b = t b := u1 b n3 n4
      have hi : gI 48 (c0 : Int) = some c0 := gI_n (by omega)
      unfold f_Land_list_44
      rw [hi, Option.bind_some, gLet_eq, Option.bind_some, gLet_eq, gLet_eq, gUn _ _ _ n4, gUn _ _ _ n3, ub, k1, wI_s (by omega), wp_some]
      refine ⟨⟨?_, fun m h1 h2 => ?_⟩, fun z z1 z2 z3 => by rw [gU_n _ _ _ z1, gU_n _ _ _ z3, gU_n _ _ _ z2]; exact u1 z z2 z3, fun i hi => by rw [gUo _ _ _ hi, gU_n _ _ _ n4, gU_n _ _ _ n3, ub]⟩
      · rw [gUs, cq_ins hP, if_pos hm]
      · rw [gU_n _ _ _ n1, gU_n _ _ _ n5, gU_n _ _ _ n2, cq_ins hP]
        by_cases hmm : m = m0
        · subst hmm
          rw [if_neg (show ¬ m < m by omega), ← hc0]
          simp only [Nat.add_zero]
          rw [gUs, gUs, if_pos trivial]
          exact ⟨rfl, rfl⟩
        · have hPm : P m = true := by
            unfold ins at h2
            rw [decide_eq_false hmm, Bool.or_false] at h2
            exact h2
          obtain ⟨x1, x2⟩ := k2 m h1 hPm
          dsimp only
          rw [if_neg hmm]
          by_cases hlt : m0 < m
          · have y1 : c0 ≤ cq P m := by rw [hc0]; exact cq_mono P _ (by omega)
            have y2 : cq P m < C := by rw [hC]; exact cq_lt h1 hPm
            obtain ⟨w1, w2⟩ := u3 (cq P m + 1) (by omega) (by omega)
            rw [Nat.add_sub_cancel] at w1 w2
            rw [if_pos hlt, gUo _ _ _ (by omega), gUo _ _ _ (by omega), gU_n _ _ _ n6, w1, w2]
            exact ⟨x1, x2⟩
          · have y1 : cq P m < c0 := by rw [hc0]; exact cq_lt (by omega) hPm
            obtain ⟨w1, w2⟩ := u2 (cq P m) y1
            rw [if_neg hlt]
            simp only [Nat.add_zero]
            rw [gUo _ _ _ (by omega), gUo _ _ _ (by omega), gU_n _ _ _ n6, w1, w2]
            exact ⟨x1, x2⟩
    unfold f_Land_list_12
    refine wp_gL (fun n x => ∃ k : Nat, x.1 = (k : Int) ∧ (c0 ≤ k ∧ k ≤ C) ∧ n = k ∧ (∀ z, z ≠ b + 1 → z ≠ b + 2 → x.2 z = t z) ∧ (∀ j, j < k → x.2 (b + 1) j = t (b + 1) j ∧ x.2 (b + 2) j = t (b + 2) j) ∧ ∀ j, k < j → j ≤ C → x.2 (b + 1) j = t (b + 1) (j - 1) ∧ x.2 (b + 2) j = t (b + 2) (j - 1)) ?_ gF C _ (by exact ⟨C, by rw [hC], ⟨hcC, Nat.le_refl _⟩, rfl, fun _ _ _ => rfl, fun _ _ => ⟨rfl, rfl⟩, fun j h1 h2 => by omega⟩) (show C < 4096 by omega)
    rintro n ⟨y, w⟩ ⟨k, rfl, ⟨h1, h2⟩, rfl, q1, q2, q3⟩
    dsimp only at q1 q2 q3
    dsimp only
    unfold f_Land_list_12b
    by_cases hk0 : n = 0
    · rw [if_pos (by omega), wp_map]
      have : c0 = n := by omega
      subst this
      exact (at44 w q1 q2 q3).mono (fun a ha => ha)
    · have hw : wI ((n : Int) - 1) = ((n - 1 : Nat) : Int) := by rw [wI_id (by omega) (by omega)]; omega
      have hw2 : wI ((n : Int) + (-1)) = ((n - 1 : Nat) : Int) := by rw [wI_id (by omega) (by omega)]; omega
      have i1 : gI 48 ((n - 1 : Nat) : Int) = some (n - 1) := gI_n (by omega)
      have i2 : gI 48 (n : Int) = some n := gI_n (by omega)
      have hs := side (n - 1) (by omega)
      obtain ⟨v1, v2⟩ := q2 (n - 1) (by omega)
      rw [if_neg (by omega), hw, i1, Option.bind_some, v1]
      by_cases hkey : t (b + 1) (n - 1) ≤ ((ky m0 : Nat) : Int)
      · rw [if_pos hkey, wp_map]
        have : c0 = n := by omega
        subst this
        exact (at44 w q1 q2 q3).mono (fun a ha => ha)
      · rw [if_neg hkey, Option.bind_some, i2, Option.bind_some, gLet_eq, Option.bind_some, Option.bind_some, gLet_eq, wp_some, gE_l, hw2]
        clear hw hw2
        have hc1 : c0 ≤ n - 1 := hs.mp (by omega)
        refine ⟨n - 1, by omega, n - 1, rfl, ⟨hc1, by omega⟩, rfl, fun z z1 z2 => by dsimp only; rw [gU_n _ _ _ z2, gU_n _ _ _ z1]; exact q1 z z1 z2, fun j hj => ?_, fun j h3 h4 => ?_⟩
        · dsimp only
          rw [gU_n _ _ _ n5, gUo _ _ _ (by omega), gUo _ _ _ (by omega), gU_n _ _ _ n6]
          exact q2 j (by omega)
        · dsimp only
          rw [gU_n _ _ _ n5, gU_n _ _ _ n6, v2]
          by_cases hjn : j = n
          · rw [hjn, gUs, gUs]
            exact ⟨v1, rfl⟩
          · rw [gUo _ _ _ hjn, gUo _ _ _ hjn, gU_n _ _ _ n6]
            exact q3 j (by omega) h4
