/-! THE TOWN as both sides hold it -/
theorem gUA (s : kM) (a : Nat) (f : Nat → Int) (j : Nat) (x : Int) : gU (gA s a f) a j x = gA s a (kup f j x) := by
  funext b
  unfold gU gA
  by_cases h : b = a <;> simp [h]
theorem gAA (s : kM) (a : Nat) (f g : Nat → Int) : gA (gA s a f) a g = gA s a g := by
  funext b
  unfold gA
  by_cases h : b = a <;> simp [h]
theorem gA_id (s : kM) (a : Nat) : gA s a (s a) = s := by
  funext b
  unfold gA
  by_cases h : b = a <;> simp [h]
theorem gAn (s : kM) {a b : Nat} (f : Nat → Int) (h : b ≠ a) : gA s a f b = s b := gA_n s f h
theorem gUs (s : kM) (a i : Nat) (x : Int) : gU s a i x a i = x := by rw [gU_s]; simp [kup]
theorem gUo (s : kM) (a : Nat) {i j : Nat} (x : Int) (h : j ≠ i) : gU s a i x a j = s a j := by rw [gU_s]; simp [kup, h]
theorem e_Arrays_fill_II (a n : Nat) (v : Int) (s : kM) (hn : n < 4096) : f_Arrays_fill_II a n v s = some (gA s a (kfill v n (s a))) := by
  unfold f_Arrays_fill_II f_Arrays_fill_II_5
  apply wp_eq
  refine wp_for n (fun k x => x.1 = (k : Int) ∧ x.2 = gA s a (kfill v k (s a))) 0 _ (by omega) hn ⟨rfl, ?_⟩ ?_ ?_
  · rw [kfill_0, gA_id]
  · rintro k ⟨i, s'⟩ h1 h2 ⟨rfl, rfl⟩
    simp only [f_Arrays_fill_II_5b, wp_ite, wp_bind, wp_gI, wp_gLet, wp_some, gE_l, gE_r]
    refine ⟨fun c => by omega, fun c => ⟨by omega, ?_, ?_⟩⟩
    · rw [wI_id (by omega) (by omega)]
      rfl
    · rw [Int.toNat_natCast, gUA, kfill_s]
  · rintro ⟨i, s'⟩ ⟨rfl, rfl⟩
    simp only [f_Arrays_fill_II_5b, wp_ite, wp_bind, wp_gI, wp_gLet, wp_some, gE_l, gE_r]
    exact ⟨fun c => trivial, fun c => by omega⟩
/-- where a code stands among the first n: the last such place, or -1 -/
def po (p : Nat → Nat) (c : Nat) : Nat → Int
  | 0 => -1
  | n + 1 => if p n = c then (n : Int) else po p c n
/-- the bridges that are met, as bits -/
def mk (p : Nat → Nat) : Nat → Nat
  | 0 => 0
  | n + 1 => mk p n ||| 2 ^ (p n / 2)
def nx (F N j : Nat) : Nat := if j < F then (if j + 1 = F then 0 else j + 1) else (if j + 1 = N then F else j + 1)
def pv (F N j : Nat) : Nat := if j < F then (if j = 0 then F - 1 else j - 1) else (if j = F then N - 1 else j - 1)
/-- roads, passes of the first, passes in all, the passes' codes, hands -/
abbrev zA : Type := Nat × Nat × Nat × (Nat → Nat) × (Nat → Nat)
abbrev aR (A : zA) : Nat := A.1
abbrev aF (A : zA) : Nat := A.2.1
abbrev aN (A : zA) : Nat := A.2.2.1
abbrev ap (A : zA) : Nat → Nat := A.2.2.2.1
abbrev ah (A : zA) : Nat → Nat := A.2.2.2.2
/-- numbers in their ranges, no code twice -/
def okB (A : zA) : Prop := aR A ≤ 2 ∧ aF A ≤ aN A ∧ aN A ≤ 22 ∧ (∀ j, j < aN A → ap A j < 22) ∧ (∀ i j, i < aN A → j < aN A → ap A i = ap A j → i = j)
/-- a bridge is there -/
def pr (A : zA) (k : Nat) : Prop := ∃ j, j < aN A ∧ ap A j / 2 = k
def okA (A : zA) : Prop := okB A ∧ (aR A = 0 → aN A = 0) ∧ (aR A ≤ 1 → aF A = aN A) ∧ (∀ j, j < aN A → ∃ k, k < aN A ∧ ap A k / 2 = ap A j / 2 ∧ ap A k ≠ ap A j) ∧ (∀ k, pr A k → ah A k ≤ 1)
/-- the class's town at b, as it is told -/
def KR (b : Nat) (A : zA) (s : kM) : Prop := s b 0 = aR A ∧ s b 1 = aF A ∧ s b 2 = aN A ∧ (∀ j, j < aN A → s (b + 1) j = ap A j) ∧ (∀ k, pr A k → s (b + 2) k = ah A k)
/-- what follows from its passes -/
def KS (b : Nat) (A : zA) (s : kM) : Prop := s b 3 = mk (ap A) (aN A) ∧ (∀ c, c < 22 → s (b + 5) c = po (ap A) c (aN A)) ∧ (∀ j, j < aN A → s (b + 3) j = nx (aF A) (aN A) j) ∧ (∀ j, j < aN A → s (b + 4) j = pv (aF A) (aN A) j)
def KT (b : Nat) (A : zA) (s : kM) : Prop := KR b A s ∧ KS b A s
theorem po_lt (p : Nat → Nat) (c : Nat) : ∀ n, -1 ≤ po p c n ∧ po p c n < n
  | 0 => by simp [po]
  | n + 1 => by
    have := po_lt p c n
    unfold po
    split <;> omega
theorem po_cases (p : Nat → Nat) (c : Nat) : ∀ n, (po p c n = -1 ∧ ∀ j, j < n → p j ≠ c) ∨ ∃ j : Nat, j < n ∧ p j = c ∧ po p c n = j
  | 0 => Or.inl ⟨rfl, fun j h => by omega⟩
  | n + 1 => by
    unfold po
    by_cases h : p n = c
    · rw [if_pos h]
      exact Or.inr ⟨n, by omega, h, rfl⟩
    · rw [if_neg h]
      rcases po_cases p c n with ⟨h1, h2⟩ | ⟨j, h1, h2, h3⟩
      · refine Or.inl ⟨h1, fun j hj => ?_⟩
        by_cases hjn : j = n
        · rw [hjn]; exact h
        · exact h2 j (by omega)
      · exact Or.inr ⟨j, by omega, h2, h3⟩
theorem po_at {A : zA} (hA : okB A) {j : Nat} (hj : j < aN A) : po (ap A) (ap A j) (aN A) = j := by
  rcases po_cases (ap A) (ap A j) (aN A) with ⟨_, h2⟩ | ⟨i, h1, h2, h3⟩
  · exact absurd rfl (h2 j hj)
  · rw [h3, hA.2.2.2.2 i j h1 hj h2]
theorem mk_bit (p : Nat → Nat) (k : Nat) : ∀ n, (mk p n).testBit k = true ↔ ∃ j, j < n ∧ p j / 2 = k
  | 0 => by simp [mk]
  | n + 1 => by
    unfold mk
    rw [Nat.testBit_or, Bool.or_eq_true, mk_bit p k n, Nat.testBit_two_pow]
    constructor
    · rintro (⟨j, h1, h2⟩ | h)
      · exact ⟨j, by omega, h2⟩
      · exact ⟨n, by omega, by simpa using h⟩
    · rintro ⟨j, h1, h2⟩
      by_cases hj : j = n
      · subst hj
        right
        simpa using h2
      · exact Or.inl ⟨j, by omega, h2⟩
theorem mk_lt {p : Nat → Nat} : ∀ {n : Nat}, (∀ j, j < n → p j < 22) → mk p n < 2048
  | 0, _ => by simp [mk]
  | n + 1, h => by
    unfold mk
    have h1 := mk_lt (n := n) (fun j hj => h j (by omega))
    have h2 := h n (by omega)
    have h3 : 2 ^ (p n / 2) < 2 ^ 11 := Nat.pow_lt_pow_right (by omega) (by omega)
    exact Nat.or_lt_two_pow (n := 11) h1 h3
