/-! WHAT THE FUNCTIONS ANSWER: a little calculus; numbers bit by bit -/
def wp {α : Type} (x : Option α) (Q : α → Prop) : Prop := ∃ r, x = some r ∧ Q r
theorem wp_some {α : Type} {a : α} {Q : α → Prop} : wp (some a) Q ↔ Q a := ⟨fun ⟨r, h, q⟩ => by cases h; exact q, fun q => ⟨a, rfl, q⟩⟩
theorem wp_bind {α β : Type} {x : Option α} {f : α → Option β} {Q : β → Prop} : wp (x.bind f) Q ↔ wp x (fun a => wp (f a) Q) := by
  constructor
  · rintro ⟨r, h, q⟩
    obtain ⟨a, h1, h2⟩ := gbind h
    exact ⟨a, h1, r, h2, q⟩
  · rintro ⟨a, h1, r, h2, q⟩
    exact ⟨r, by rw [h1]; exact h2, q⟩
theorem wp_map {α β : Type} {x : Option α} {f : α → β} {Q : β → Prop} : wp (x.map f) Q ↔ wp x (fun a => Q (f a)) := by
  constructor
  · rintro ⟨r, h, q⟩
    obtain ⟨a, h1, h2⟩ := gmap h
    subst h2
    exact ⟨a, h1, q⟩
  · rintro ⟨a, h1, q⟩
    exact ⟨f a, by rw [h1]; rfl, q⟩
theorem wp_gI {n : Nat} {i : Int} {Q : Nat → Prop} : wp (gI n i) Q ↔ (0 ≤ i ∧ i < n) ∧ Q i.toNat := by
  unfold gI
  split
  · rename_i c
    rw [wp_some]
    exact ⟨fun q => ⟨c, q⟩, fun q => q.2⟩
  · rename_i c
    exact ⟨fun ⟨r, h, _⟩ => (by cases h), fun q => absurd q.1 c⟩
theorem wp_gB {x : Int} {Q : Unit → Prop} : wp (gB x) Q ↔ (x = 0 ∨ x = 1) ∧ Q () := by
  unfold gB
  split
  · rename_i c
    rw [wp_some]
    exact ⟨fun q => ⟨c, q⟩, fun q => q.2⟩
  · rename_i c
    exact ⟨fun ⟨r, h, _⟩ => (by cases h), fun q => absurd q.1 c⟩
theorem wp_gD {x : Int} {Q : Unit → Prop} : wp (gD x) Q ↔ x ≠ 0 ∧ Q () := by
  unfold gD
  split
  · rename_i c
    exact ⟨fun ⟨r, h, _⟩ => (by cases h), fun q => absurd c q.1⟩
  · rename_i c
    rw [wp_some]
    exact ⟨fun q => ⟨c, q⟩, fun q => q.2⟩
theorem wp_gJ {x : Nat} {Q : Unit → Prop} : wp (gJ x) Q ↔ x < 30 ∧ Q () := by
  unfold gJ
  split
  · rename_i c
    rw [wp_some]
    exact ⟨fun q => ⟨c, q⟩, fun q => q.2⟩
  · rename_i c
    exact ⟨fun ⟨r, h, _⟩ => (by cases h), fun q => absurd q.1 c⟩
theorem wp_gR {s : kM} {e : Int} {Q : Nat → Prop} : wp (gR s e) Q ↔ (0 ≤ e ∧ e < s 900 0) ∧ Q (125 + 2 * e.toNat) := by
  unfold gR
  split
  · rename_i c
    rw [wp_some]
    exact ⟨fun q => ⟨c, q⟩, fun q => q.2⟩
  · rename_i c
    exact ⟨fun ⟨r, h, _⟩ => (by cases h), fun q => absurd q.1 c⟩
theorem wp_ite {α : Type} {c : Prop} {dc : Decidable c} {x y : Option α} {Q : α → Prop} : wp (@ite _ c dc x y) Q ↔ (c → wp x Q) ∧ (¬ c → wp y Q) := by
  by_cases h : c
  · rw [if_pos h]
    exact ⟨fun q => ⟨fun _ => q, fun z => absurd h z⟩, fun q => q.1 h⟩
  · rw [if_neg h]
    exact ⟨fun q => ⟨fun z => absurd z h, fun _ => q⟩, fun q => q.2 h⟩
theorem wp_gLet {α β : Type} {x : α} {f : α → Option β} {Q : β → Prop} : wp (gLet x f) Q ↔ wp (f x) Q := Iff.rfl
theorem wp.mono {α : Type} {x : Option α} {P Q : α → Prop} (h : wp x P) (hq : ∀ a, P a → Q a) : wp x Q := by
  obtain ⟨r, h1, h2⟩ := h
  exact ⟨r, h1, hq r h2⟩
theorem wp_eq {α : Type} {x : Option α} {v : α} (h : wp x (fun r => r = v)) : x = some v := by
  obtain ⟨r, h1, rfl⟩ := h
  exact h1
theorem wp_of {α : Type} {x : Option α} {v : α} {Q : α → Prop} (h : x = some v) (q : Q v) : wp x Q := ⟨v, h, q⟩
theorem wp_gL {σ ρ : Type} {f : σ → Option (σ ⊕ ρ)} {Q : ρ → Prop} (I : Nat → σ → Prop) (hs : ∀ n x, I n x → wp (f x) (gE (fun y => ∃ m, m < n ∧ I m y) Q)) : ∀ (k n : Nat) (x : σ), I n x → n < k → wp (gL f k x) Q := by
  intro k
  induction k with
  | zero => intro n x _ h; omega
  | succ k ih =>
    intro n x hI hn
    obtain ⟨r, h1, h2⟩ := hs n x hI
    cases r with
    | inl y =>
      obtain ⟨m, hm, hI2⟩ := h2
      obtain ⟨t, h3, h4⟩ := ih m y hI2 (by omega)
      exact ⟨t, by unfold gL; rw [h1]; exact h3, h4⟩
    | inr r => exact ⟨r, by unfold gL; rw [h1], h2⟩
/-- a loop that counts up to N: P k is what stands before round k -/
theorem wp_for {σ ρ : Type} {f : σ → Option (σ ⊕ ρ)} {Q : ρ → Prop} (N : Nat) (P : Nat → σ → Prop) (a : Nat) (x : σ) (ha : a ≤ N) (hN : N < 4096) (h0 : P a x)
    (hs : ∀ k x, a ≤ k → k < N → P k x → wp (f x) (gE (fun y => P (k + 1) y) Q)) (he : ∀ x, P N x → wp (f x) (gE (fun _ => False) Q)) : wp (gL f gF x) Q := by
  refine wp_gL (fun n x => ∃ k, a ≤ k ∧ k + n = N ∧ P k x) ?_ gF (N - a) x ⟨a, Nat.le_refl a, by omega, h0⟩ (show N - a < 4096 by omega)
  rintro n x ⟨k, hk, hn, hp⟩
  by_cases hkN : k < N
  · refine (hs k x hk hkN hp).mono ?_
    intro r hr
    cases r with
    | inl y => exact ⟨n - 1, by omega, k + 1, by omega, by omega, hr⟩
    | inr r => exact hr
  · have : k = N := by omega
    subst this
    refine (he x hp).mono ?_
    intro r hr
    cases r with
    | inl y => exact hr.elim
    | inr r => exact hr
theorem gE_l {σ ρ : Type} {p : σ → Prop} {q : ρ → Prop} {x : σ} : gE p q (.inl x) ↔ p x := Iff.rfl
theorem gE_r {σ ρ : Type} {p : σ → Prop} {q : ρ → Prop} {x : ρ} : gE p q (.inr x) ↔ q x := Iff.rfl
/-! numbers bit by bit: as natural numbers -/
theorem i32_nat (a : Nat) (h : a < 2147483648) : (Int32.ofInt (a : Int)).toBitVec = BitVec.ofNat 32 a := by
  rw [Int32.toBitVec_ofInt, BitVec.ofInt_natCast]
theorem i32_back (v : BitVec 32) (h : v.toNat < 2147483648) : v.toInt = (v.toNat : Int) := by
  rw [BitVec.toInt_eq_toNat_cond, if_pos (by omega)]
theorem kand_n {a b : Nat} (ha : a < 2147483648) (hb : b < 2147483648) : kand a b = ((a &&& b : Nat) : Int) := by
  unfold kand
  have h3 : a &&& b ≤ a := Nat.and_le_left
  rw [← Int32.toInt_toBitVec, Int32.toBitVec_and, i32_nat a ha, i32_nat b hb, i32_back] <;> rw [BitVec.toNat_and, BitVec.toNat_ofNat, BitVec.toNat_ofNat, Nat.mod_eq_of_lt (by omega), Nat.mod_eq_of_lt (by omega)]
  omega
theorem kor_n {a b : Nat} (ha : a < 2147483648) (hb : b < 2147483648) : kor a b = ((a ||| b : Nat) : Int) := by
  unfold kor
  have h3 : a ||| b < 2147483648 := Nat.or_lt_two_pow (n := 31) ha hb
  rw [← Int32.toInt_toBitVec, Int32.toBitVec_or, i32_nat a ha, i32_nat b hb, i32_back] <;> rw [BitVec.toNat_or, BitVec.toNat_ofNat, BitVec.toNat_ofNat, Nat.mod_eq_of_lt (by omega), Nat.mod_eq_of_lt (by omega)]
  omega
theorem kxor_n {a b : Nat} (ha : a < 2147483648) (hb : b < 2147483648) : kxor a b = ((a ^^^ b : Nat) : Int) := by
  unfold kxor
  have h3 : a ^^^ b < 2147483648 := Nat.xor_lt_two_pow (n := 31) ha hb
  rw [← Int32.toInt_toBitVec, Int32.toBitVec_xor, i32_nat a ha, i32_nat b hb, i32_back] <;> rw [BitVec.toNat_xor, BitVec.toNat_ofNat, BitVec.toNat_ofNat, Nat.mod_eq_of_lt (by omega), Nat.mod_eq_of_lt (by omega)]
  omega
theorem i32_and31 (k : Nat) (h : k < 32) : (Int32.ofInt (k : Int) &&& 31).toBitVec = BitVec.ofNat 32 k := by
  have h1 : ∀ k : Fin 32, (Int32.ofInt ((k : Nat) : Int) &&& 31).toBitVec = BitVec.ofNat 32 k := by decide +kernel
  exact h1 ⟨k, h⟩
