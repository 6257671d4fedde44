/-! twist -/
def lf (x : Nat) : Nat → Nat → Nat
  | 0, k => k
  | n + 1, k => if x.testBit k then lf x n (k + 1) else k
def lz (x : Nat) : Nat := lf x 11 0
def tz32 (x : Nat) : Bool := decide (f_Integer_numberOfTrailingZeros (kxor (x : Int) (-1)) (fun _ _ => 0) = some ((lz x : Nat) : Int))
theorem tz_all : ∀ x : Fin 2048, tz32 x.val = true := by decide +kernel
theorem e_tz {x : Nat} (h : x < 2048) (s : kM) : f_Integer_numberOfTrailingZeros (kxor (x : Int) (-1)) s = some ((lz x : Nat) : Int) := by
  have h1 := of_decide_eq_true (tz_all ⟨x, h⟩)
  exact h1
theorem lf_spec (x : Nat) : ∀ n k, k ≤ lf x n k ∧ lf x n k ≤ k + n ∧ (∀ i, k ≤ i → i < lf x n k → x.testBit i = true) ∧ (lf x n k < k + n → x.testBit (lf x n k) = false)
  | 0, k => by
    unfold lf
    exact ⟨Nat.le_refl _, Nat.le_refl _, fun i h1 h2 => by omega, fun h => by omega⟩
  | n + 1, k => by
    unfold lf
    split
    · rename_i h
      obtain ⟨h1, h2, h3, h4⟩ := lf_spec x n (k + 1)
      refine ⟨by omega, by omega, fun i q1 q2 => ?_, fun q => h4 (by omega)⟩
      by_cases hi : i = k
      · rw [hi]; exact h
      · exact h3 i (by omega) q2
    · rename_i h
      exact ⟨Nat.le_refl _, by omega, fun i q1 q2 => by omega, fun _ => by simpa using h⟩
theorem lz_spec (x : Nat) : lz x ≤ 11 ∧ (∀ i, i < lz x → x.testBit i = true) ∧ (lz x < 11 → x.testBit (lz x) = false) := by
  obtain ⟨h1, h2, h3, h4⟩ := lf_spec x 11 0
  exact ⟨by unfold lz; omega, fun i hi => h3 i (by omega) hi, fun h => h4 (by unfold lz at h; omega)⟩
theorem oc_full {x : Nat} : ∀ n, (∀ i, i < n → x.testBit i = true) → oc x n = n
  | 0, _ => rfl
  | n + 1, h => by rw [oc_succ, oc_full n (fun i hi => h i (by omega)), if_pos (h n (by omega))]
theorem oc_miss {x k : Nat} (hk : x.testBit k = false) : ∀ n, k < n → oc x n < n
  | 0, h => by omega
  | n + 1, h => by
    rw [oc_succ]
    by_cases hn : k = n
    · subst hn
      have := oc_le x k
      rw [if_neg (by rw [hk]; decide)]
      omega
    · have := oc_miss hk n (by omega)
      split <;> omega
theorem lz_oc (x : Nat) : lz x < 11 ↔ oc x 11 ≠ 11 := by
  obtain ⟨h1, h2, h3⟩ := lz_spec x
  constructor
  · intro h
    have := oc_miss (h3 h) 11 h
    omega
  · intro h
    by_cases hl : lz x = 11
    · exact absurd (oc_full 11 (fun i hi => h2 i (by omega))) h
    · omega
def inP (p : Nat → Nat) (q c : Nat) : Nat → Nat := fun j => if j ≤ q then p j else if j = q + 1 then c else if j = q + 2 then fx c else p (j - 2)
def twA (A : zA) (q k o h : Nat) : zA := (aR A, if q < aF A then aF A + 2 else aF A, aN A + 2, inP (ap A) q (2 * k + o), fun i => if i = k then h else ah A i)
theorem pr_tw {A : zA} {q k o h i : Nat} (hq : q < aN A) (ho : o ≤ 1) : pr (twA A q k o h) i ↔ i = k ∨ pr A i := by
  constructor
  · rintro ⟨j, h1, h2⟩
    have h1' : j < aN A + 2 := h1
    have h2' : inP (ap A) q (2 * k + o) j / 2 = i := h2
    unfold inP at h2'
    split at h2'
    · exact Or.inr ⟨j, by omega, h2'⟩
    · split at h2'
      · left; omega
      · split at h2'
        · left; rw [fx_h] at h2'; omega
        · exact Or.inr ⟨j - 2, by omega, h2'⟩
  · rintro (rfl | ⟨j, h1, h2⟩)
    · refine ⟨q + 1, show q + 1 < aN A + 2 by omega, ?_⟩
      show inP (ap A) q (2 * i + o) (q + 1) / 2 = i
      unfold inP
      rw [if_neg (by omega), if_pos rfl]
      omega
    · by_cases hj : j ≤ q
      · refine ⟨j, show j < aN A + 2 by omega, ?_⟩
        show inP (ap A) q (2 * k + o) j / 2 = i
        unfold inP
        rw [if_pos hj]
        exact h2
      · refine ⟨j + 2, show j + 2 < aN A + 2 by omega, ?_⟩
        show inP (ap A) q (2 * k + o) (j + 2) / 2 = i
        unfold inP
        rw [if_neg (by omega), if_neg (by omega), if_neg (by omega), Nat.add_sub_cancel]
        exact h2
theorem okA_tw {A : zA} (hA : okA A) {q k o h : Nat} (hq : q < aN A) (hN : aN A ≤ 20) (hk : k < 11) (ho : o ≤ 1) (hh : h ≤ 1) (hp : ¬ pb A k = true) : okA (twA A q k o h) := by
  have hA' := hA
  obtain ⟨⟨a1, a2, a3, a4, a5⟩, b1, b2, b3, b4⟩ := hA'
  have np : ∀ j, j < aN A → ap A j / 2 ≠ k := fun j hj hc => hp (pb_iff.mpr ⟨j, hj, hc⟩)
  have e1 : ∀ j, j ≤ q → inP (ap A) q (2 * k + o) j = ap A j := fun j hj => by unfold inP; rw [if_pos hj]
  have e2 : inP (ap A) q (2 * k + o) (q + 1) = 2 * k + o := by unfold inP; rw [if_neg (by omega), if_pos rfl]
  have e3 : inP (ap A) q (2 * k + o) (q + 2) = fx (2 * k + o) := by unfold inP; rw [if_neg (by omega), if_neg (by omega), if_pos rfl]
  have e4 : ∀ j, q < j → inP (ap A) q (2 * k + o) (j + 2) = ap A j := fun j hj => by unfold inP; rw [if_neg (by omega), if_neg (by omega), if_neg (by omega), Nat.add_sub_cancel]
  have hfx := fx_h (2 * k + o)
  have hfn := fx_ne (2 * k + o)
  have cs : ∀ j, j < aN A + 2 → (j ≤ q ∧ inP (ap A) q (2 * k + o) j = ap A j) ∨ j = q + 1 ∨ j = q + 2 ∨ (q + 3 ≤ j ∧ j - 2 < aN A ∧ inP (ap A) q (2 * k + o) j = ap A (j - 2)) := by
    intro j hj
    by_cases h1 : j ≤ q
    · exact Or.inl ⟨h1, e1 j h1⟩
    · by_cases h2 : j = q + 1
      · exact Or.inr (Or.inl h2)
      · by_cases h3 : j = q + 2
        · exact Or.inr (Or.inr (Or.inl h3))
        · refine Or.inr (Or.inr (Or.inr ⟨by omega, by omega, ?_⟩))
          have := e4 (j - 2) (by omega)
          rwa [show j - 2 + 2 = j by omega] at this
  refine ⟨⟨a1, ?_, ?_, ?_, ?_⟩, ?_, ?_, ?_, ?_⟩
  · show (if q < aF A then aF A + 2 else aF A) ≤ aN A + 2
    split <;> omega
  · show aN A + 2 ≤ 22
    omega
  · intro j hj
    show inP (ap A) q (2 * k + o) j < 22
    rcases cs j hj with ⟨h1, h2⟩ | rfl | rfl | ⟨h1, h2, h3⟩
    · rw [h2]; exact a4 j (by omega)
    · rw [e2]; omega
    · rw [e3]; exact fx_lt (by omega)
    · rw [h3]; exact a4 _ h2
  · intro i j hi hj hij
    have hij' : inP (ap A) q (2 * k + o) i = inP (ap A) q (2 * k + o) j := hij
    rcases cs i hi with ⟨h1, h2⟩ | rfl | rfl | ⟨h1, h2, h3⟩ <;> rcases cs j hj with ⟨g1, g2⟩ | rfl | rfl | ⟨g1, g2, g3⟩
    · rw [h2, g2] at hij'; exact a5 i j (by omega) (by omega) hij'
    · rw [h2, e2] at hij'; have := np i (by omega); omega
    · rw [h2, e3] at hij'; have := np i (by omega); omega
    · rw [h2, g3] at hij'; have := a5 i (j - 2) (by omega) (by omega) hij'; omega
    · rw [g2, e2] at hij'; have := np j (by omega); omega
    · rfl
    · rw [e2, e3] at hij'; exact absurd hij'.symm hfn
    · rw [e2, g3] at hij'; have := np (j - 2) (by omega); omega
    · rw [g2, e3] at hij'; have := np j (by omega); omega
    · rw [e2, e3] at hij'; exact absurd hij' hfn
    · rfl
    · rw [e3, g3] at hij'; have := np (j - 2) (by omega); omega
    · rw [h3, g2] at hij'; have := a5 (i - 2) j (by omega) (by omega) hij'; omega
    · rw [h3, e2] at hij'; have := np (i - 2) (by omega); omega
    · rw [h3, e3] at hij'; have := np (i - 2) (by omega); omega
    · rw [h3, g3] at hij'; have := a5 (i - 2) (j - 2) (by omega) (by omega) hij'; omega
  · intro h0
    have h0' : aR A = 0 := h0
    have := b1 h0'
    omega
  · intro h0
    have := b2 h0
    show (if q < aF A then aF A + 2 else aF A) = aN A + 2
    rw [if_pos (by omega), this]
  · intro j hj
    have put : ∀ i, i < aN A → ∃ m, m < aN A + 2 ∧ inP (ap A) q (2 * k + o) m = ap A i := by
      intro i hi
      by_cases h1 : i ≤ q
      · exact ⟨i, by omega, e1 i h1⟩
      · exact ⟨i + 2, by omega, e4 i (by omega)⟩
    rcases cs j hj with ⟨h1, h2⟩ | rfl | rfl | ⟨h1, h2, h3⟩
    · obtain ⟨i, g1, g2, g3⟩ := b3 j (by omega)
      obtain ⟨m, m1, m2⟩ := put i g1
      refine ⟨m, m1, ?_, ?_⟩
      · show inP (ap A) q (2 * k + o) m / 2 = inP (ap A) q (2 * k + o) j / 2
        rw [m2, h2]; exact g2
      · show inP (ap A) q (2 * k + o) m ≠ inP (ap A) q (2 * k + o) j
        rw [m2, h2]; exact g3
    · refine ⟨q + 2, show q + 2 < aN A + 2 by omega, ?_, ?_⟩
      · show inP (ap A) q (2 * k + o) (q + 2) / 2 = inP (ap A) q (2 * k + o) (q + 1) / 2
        rw [e2, e3]; exact hfx
      · show inP (ap A) q (2 * k + o) (q + 2) ≠ inP (ap A) q (2 * k + o) (q + 1)
        rw [e2, e3]; exact hfn
    · refine ⟨q + 1, show q + 1 < aN A + 2 by omega, ?_, ?_⟩
      · show inP (ap A) q (2 * k + o) (q + 1) / 2 = inP (ap A) q (2 * k + o) (q + 2) / 2
        rw [e2, e3]; exact hfx.symm
      · show inP (ap A) q (2 * k + o) (q + 1) ≠ inP (ap A) q (2 * k + o) (q + 2)
        rw [e2, e3]; exact hfn.symm
    · obtain ⟨i, g1, g2, g3⟩ := b3 (j - 2) h2
      obtain ⟨m, m1, m2⟩ := put i g1
      refine ⟨m, m1, ?_, ?_⟩
      · show inP (ap A) q (2 * k + o) m / 2 = inP (ap A) q (2 * k + o) j / 2
        rw [m2, h3]; exact g2
      · show inP (ap A) q (2 * k + o) m ≠ inP (ap A) q (2 * k + o) j
        rw [m2, h3]; exact g3
  · intro i hi
    show (if i = k then h else ah A i) ≤ 1
    split
    · exact hh
    · rename_i hne
      rcases (pr_tw hq ho).mp hi with h1 | h1
      · exact absurd h1 hne
      · exact b4 i h1
/-- the passes behind place q, r rounds shifted -/
def sf (f : Nat → Int) (N r : Nat) : Nat → Int := fun j => if N + 2 ≤ j + r ∧ j < N + 2 then f (j - 2) else f j
theorem sf_0 (f : Nat → Int) (N : Nat) : sf f N 0 = f := by
  funext j
  unfold sf
  rw [if_neg (by omega)]
theorem sf_s (f : Nat → Int) (N r : Nat) (h : r < N) : kup (sf f N r) (N + 1 - r) (sf f N r (N - 1 - r)) = sf f N (r + 1) := by
  funext j
  unfold kup sf
  by_cases h1 : j = N + 1 - r
  · rw [if_pos h1, if_neg (by omega), if_pos (by omega)]
    congr 1
    omega
  · rw [if_neg h1]
    by_cases h2 : N + 2 ≤ j + r ∧ j < N + 2
    · rw [if_pos h2, if_pos (by omega)]
    · rw [if_neg h2, if_neg (by omega)]
