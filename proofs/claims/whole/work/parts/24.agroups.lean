/-! groups that hang together -/
def grp (A : zA) : Nat := if mk (ap A) (aF A) = 0 ∨ mo A = 0 then (if mk (ap A) (aF A) = mo A then 0 else 1) else if sm A = 0 then 2 else 1
theorem e_groups {A : zA} {s : kM} {b : Nat} (hA : okB A) (hK : KT b A s) : f_Town_groups b s = some ((grp A : Nat) : Int) := by
  obtain ⟨l1, l2, l3⟩ := mo_lt hA
  unfold f_Town_groups f_Town_groups_12
  rw [e_met0 hA hK, e_met1 hA hK, Option.bind_some, Option.bind_some, kand_n (by omega) (by omega)]
  unfold grp
  by_cases h0 : mk (ap A) (aF A) = 0
  · rw [if_pos (show ((mk (ap A) (aF A) : Nat) : Int) = 0 by omega), if_pos (Or.inl h0)]
    by_cases he : mk (ap A) (aF A) = mo A
    · rw [if_pos he, if_pos (by omega)]; rfl
    · rw [if_neg he, if_neg (by omega)]; rfl
  · rw [if_neg (show ¬ ((mk (ap A) (aF A) : Nat) : Int) = 0 by omega)]
    by_cases h1 : mo A = 0
    · rw [if_pos (show ((mo A : Nat) : Int) = 0 by omega), if_pos (Or.inr h1)]
      by_cases he : mk (ap A) (aF A) = mo A
      · rw [if_pos he, if_pos (by omega)]; rfl
      · rw [if_neg he, if_neg (by omega)]; rfl
    · rw [if_neg (show ¬ ((mo A : Nat) : Int) = 0 by omega), if_neg (show ¬ (mk (ap A) (aF A) = 0 ∨ mo A = 0) from fun q => q.elim h0 h1)]
      by_cases h2 : sm A = 0
      · have h2' : mk (ap A) (aF A) &&& mo A = 0 := h2
        rw [if_pos h2, if_pos (show ((mk (ap A) (aF A) &&& mo A : Nat) : Int) = 0 by omega)]; rfl
      · have h2' : ¬ mk (ap A) (aF A) &&& mo A = 0 := h2
        rw [if_neg h2, if_neg (show ¬ ((mk (ap A) (aF A) &&& mo A : Nat) : Int) = 0 by omega)]; rfl
/-- how many of the first n -/
def cq (P : Nat → Bool) : Nat → Nat
  | 0 => 0
  | n + 1 => cq P n + if P n = true then 1 else 0
theorem cq_succ (P : Nat → Bool) (n : Nat) : cq P (n + 1) = cq P n + if P n = true then 1 else 0 := rfl
theorem cq_0 {P : Nat → Bool} : ∀ n, (∀ k, k < n → ¬ P k = true) → cq P n = 0
  | 0, _ => rfl
  | n + 1, h => by rw [cq_succ, cq_0 n (fun k hk => h k (by omega)), if_neg (h n (by omega))]
theorem cq_1 {P : Nat → Bool} {m : Nat} : ∀ n, m < n → (∀ k, k < n → (P k = true ↔ k = m)) → cq P n = 1
  | 0, h, _ => by omega
  | n + 1, h, hp => by
    rw [cq_succ]
    by_cases hm : m = n
    · subst hm
      rw [cq_0 m (fun k hk q => by have := (hp k (by omega)).mp q; omega), if_pos ((hp m (by omega)).mpr rfl)]
    · rw [cq_1 n (by omega) (fun k hk => hp k (by omega)), if_neg (fun q => hm ((hp n (by omega)).mp q).symm)]
theorem cq_2 {P : Nat → Bool} {m l : Nat} : ∀ n, m < l → l < n → (∀ k, k < n → (P k = true ↔ k = m ∨ k = l)) → cq P n = 2
  | 0, _, h, _ => by omega
  | n + 1, hml, h, hp => by
    rw [cq_succ]
    by_cases hl : l = n
    · subst hl
      rw [cq_1 l hml (fun k hk => ⟨fun q => by rcases (hp k (by omega)).mp q with z | z <;> omega, fun q => (hp k (by omega)).mpr (Or.inl q)⟩), if_pos ((hp l (by omega)).mpr (Or.inr rfl))]
    · rw [cq_2 n hml (by omega) (fun k hk => hp k (by omega)), if_neg (fun q => by rcases (hp n (by omega)).mp q with z | z <;> omega)]
/-- bridges that hang together -/
def sg (A : zA) (k l : Nat) : Prop := k = l ∨ (pr A k ∧ pr A l ∧ (sm A ≠ 0 ∨ ((mk (ap A) (aF A)).testBit k = true ∧ (mk (ap A) (aF A)).testBit l = true) ∨ ((mo A).testBit k = true ∧ (mo A).testBit l = true)))
theorem sm_bit {A : zA} {k : Nat} (h1 : (mk (ap A) (aF A)).testBit k = true) (h2 : (mo A).testBit k = true) : sm A ≠ 0 := by
  intro q
  have : (sm A).testBit k = true := by
    unfold sm
    rw [Nat.testBit_and, h1, h2]
    rfl
  rw [q, Nat.zero_testBit] at this
  cases this
theorem sg_symm {A : zA} {k l : Nat} (h : sg A k l) : sg A l k := by
  rcases h with h | ⟨h1, h2, h3⟩
  · exact Or.inl h.symm
  · exact Or.inr ⟨h2, h1, h3.imp id (fun z => z.imp (fun w => ⟨w.2, w.1⟩) (fun w => ⟨w.2, w.1⟩))⟩
theorem sg_trans {A : zA} {k l m : Nat} (h : sg A k l) (h' : sg A l m) : sg A k m := by
  rcases h with rfl | ⟨h1, h2, h3⟩
  · exact h'
  rcases h' with rfl | ⟨g1, g2, g3⟩
  · exact Or.inr ⟨h1, h2, h3⟩
  refine Or.inr ⟨h1, g2, ?_⟩
  rcases h3 with h3 | h3 | h3
  · exact Or.inl h3
  · rcases g3 with g3 | g3 | g3
    · exact Or.inl g3
    · exact Or.inr (Or.inl ⟨h3.1, g3.2⟩)
    · exact Or.inl (sm_bit h3.2 g3.1)
  · rcases g3 with g3 | g3 | g3
    · exact Or.inl g3
    · exact Or.inl (sm_bit g3.1 h3.2)
    · exact Or.inr (Or.inr ⟨h3.1, g3.2⟩)
theorem on_road {A : zA} {j : Nat} (hj : j < aN A) : (j < aF A → (mk (ap A) (aF A)).testBit (ap A j / 2) = true) ∧ (aF A ≤ j → (mo A).testBit (ap A j / 2) = true) := by
  constructor
  · intro h
    rw [mk_bit]
    exact ⟨j, h, rfl⟩
  · intro h
    unfold mo
    rw [mk_bit]
    exact ⟨j - aF A, by omega, by rw [show aF A + (j - aF A) = j by omega]⟩
/-- next to one another along a road -/
theorem sg_next {A : zA} (hA : okB A) {j : Nat} (hj : j < aN A) : sg A (ap A j / 2) (ap A (nx (aF A) (aN A) j) / 2) := by
  have hn := okB_n hA
  have hnx := nx_lt hA hj
  refine Or.inr ⟨⟨j, hj, rfl⟩, ⟨_, hnx, rfl⟩, Or.inr ?_⟩
  by_cases hF : j < aF A
  · have : nx (aF A) (aN A) j < aF A := by unfold nx; rw [if_pos hF]; split <;> omega
    exact Or.inl ⟨(on_road hj).1 hF, (on_road hnx).1 this⟩
  · have : aF A ≤ nx (aF A) (aN A) j := by unfold nx; rw [if_neg hF]; split <;> omega
    exact Or.inr ⟨(on_road hj).2 (by omega), (on_road hnx).2 this⟩
