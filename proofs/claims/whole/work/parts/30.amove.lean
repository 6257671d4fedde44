/-! MOVES: which there are, on both sides -/
theorem PK_iff {A : zA} {m : Nat} : ∀ e, PK A e m = true ↔ OF A 11 m = true ∨ ∃ x, x ∈ FL A e ∧ ((cA A x = true ∧ aM A x = m) ∨ (cS A x = true ∧ sM A x = m))
  | 0 => ⟨fun h => Or.inl h, fun h => by
      rcases h with h | ⟨x, h, -⟩
      · exact h
      · cases h⟩
  | e + 1 => by
    have ih := PK_iff (A := A) (m := m) e
    rw [PK_s, FL_s]
    by_cases hb : (SS A e).testBit e = true
    · rw [if_pos hb, if_pos hb]
      exact ih
    · rw [if_neg hb, if_neg hb]
      have hx : ¬ (cA A e = true ∧ cS A e = true) := fun q => by
        have h1 := (of_decide_eq_true q.1).1
        have h2 := (of_decide_eq_true q.2).1
        omega
      have key : ∀ (c : Bool) (m0 : Nat), (∀ y, ((cA A e = true ∧ aM A e = y) ∨ (cS A e = true ∧ sM A e = y)) ↔ (c = true ∧ m0 = y)) → ((if c = true then ins (PK A e) m0 else PK A e) m = true ↔ OF A 11 m = true ∨ ∃ x, x ∈ FL A e ++ [e] ∧ ((cA A x = true ∧ aM A x = m) ∨ (cS A x = true ∧ sM A x = m))) := by
        intro c m0 hc
        constructor
        · intro h
          by_cases hct : c = true
          · rw [if_pos hct] at h
            unfold ins at h
            rw [Bool.or_eq_true, decide_eq_true_eq] at h
            rcases h with h | h
            · rcases ih.mp h with h | ⟨x, h1, h2⟩
              · exact Or.inl h
              · exact Or.inr ⟨x, List.mem_append.mpr (Or.inl h1), h2⟩
            · exact Or.inr ⟨e, List.mem_append.mpr (Or.inr (List.mem_singleton.mpr rfl)), (hc m).mpr ⟨hct, h.symm⟩⟩
          · rw [if_neg hct] at h
            rcases ih.mp h with h | ⟨x, h1, h2⟩
            · exact Or.inl h
            · exact Or.inr ⟨x, List.mem_append.mpr (Or.inl h1), h2⟩
        · intro h
          have old : PK A e m = true → (if c = true then ins (PK A e) m0 else PK A e) m = true := by
            intro q
            by_cases hct : c = true
            · rw [if_pos hct]
              unfold ins
              rw [q, Bool.true_or]
            · rw [if_neg hct]
              exact q
          rcases h with h | ⟨x, h1, h2⟩
          · exact old (ih.mpr (Or.inl h))
          · rcases List.mem_append.mp h1 with h1 | h1
            · exact old (ih.mpr (Or.inr ⟨x, h1, h2⟩))
            · rw [List.mem_singleton] at h1
              subst h1
              obtain ⟨q1, q2⟩ := (hc m).mp h2
              rw [if_pos q1]
              unfold ins
              rw [q2, decide_eq_true rfl, Bool.or_true]
      by_cases c1 : cA A e = true
      · rw [if_pos c1]
        have := key true (aM A e) (fun y => ⟨fun q => by
          rcases q with q | q
          · exact ⟨rfl, q.2⟩
          · exact absurd ⟨c1, q.1⟩ hx, fun q => Or.inl ⟨c1, q.2⟩⟩)
        rw [if_pos rfl] at this
        exact this
      · rw [if_neg c1]
        by_cases c2 : cS A e = true
        · rw [if_pos c2]
          have := key true (sM A e) (fun y => ⟨fun q => by
            rcases q with q | q
            · exact absurd q.1 c1
            · exact ⟨rfl, q.2⟩, fun q => Or.inr ⟨c2, q.2⟩⟩)
          rw [if_pos rfl] at this
          exact this
        · rw [if_neg c2]
          have := key false 0 (fun y => ⟨fun q => by
            rcases q with q | q
            · exact absurd q.1 c1
            · exact absurd q.1 c2, fun q => by cases q.1⟩)
          rw [if_neg (by decide)] at this
          exact this
theorem mA_r {a b : Nat} (ha : a < 11) (hb : b < 11) : 11 ≤ mA a b ∧ mA a b < 132 := by
  have := mi_lt ha hb
  unfold mA
  omega
theorem mS_r (a b c : Nat) : 132 ≤ mS a b c := by unfold mS; omega
theorem mA_eq {a b x y : Nat} (ha : a < 11) (hb : b < 11) (hx : x < 11) (hy : y < 11) (hab : a ≠ b) (hxy : x ≠ y) : mA x y = mA a b ↔ (x = a ∧ y = b) ∨ (x = b ∧ y = a) := by
  unfold mA mi ma
  constructor
  · intro h
    (repeat' split at h) <;> omega
  · rintro (⟨rfl, rfl⟩ | ⟨rfl, rfl⟩)
    · rfl
    · (repeat' split) <;> omega
/-- a piece of land takes two bridges apart -/
def apc (A : zA) (a b x : Nat) : Bool := cA A x && decide ((bre A x = a ∧ bre A (xo x) = b) ∨ (bre A x = b ∧ bre A (xo x) = a))
theorem PK_off {A : zA} (hA : okA A) {b : Nat} (hb : b < 11) : PK A (2 * aN A) b = true ↔ pb A b = true ∧ ofA A b = true := by
  rw [PK_iff]
  constructor
  · rintro (h | ⟨x, h1, h2⟩)
    · unfold OF at h
      rw [decide_eq_true hb, Bool.true_and, Bool.and_eq_true] at h
      exact h
    · exfalso
      have hx : x < 2 * aN A := FL_mem _ h1
      rcases h2 with ⟨-, h2⟩ | ⟨-, h2⟩
      · have := mA_r (bre_lt hA.1 hx) (bre_lt hA.1 (xo_lt hx))
        unfold aM at h2
        omega
      · have := mS_r (bre A x) (bre A (sgm A x)) (bre A (sgm A (sgm A x)))
        unfold sM at h2
        omega
  · intro h
    left
    unfold OF
    rw [decide_eq_true hb, Bool.true_and, Bool.and_eq_true]
    exact h
theorem PK_ap {A : zA} (hA : okA A) {a b : Nat} (ha : a < 11) (hb : b < 11) (hab : a ≠ b) : PK A (2 * aN A) (mA a b) = true ↔ (FL A (2 * aN A)).any (apc A a b) = true := by
  have hr := mA_r ha hb
  rw [PK_iff, List.any_eq_true]
  constructor
  · rintro (h | ⟨x, h1, h2⟩)
    · exfalso
      unfold OF at h
      rw [decide_eq_false (by omega), Bool.false_and] at h
      cases h
    · have hx : x < 2 * aN A := FL_mem _ h1
      have b1 := bre_lt hA.1 hx
      have b2 := bre_lt hA.1 (xo_lt hx)
      rcases h2 with ⟨h3, h2⟩ | ⟨-, h2⟩
      · refine ⟨x, h1, ?_⟩
        unfold apc
        rw [h3, Bool.true_and, decide_eq_true_eq]
        exact (mA_eq ha hb b1 b2 hab (of_decide_eq_true h3).2.1).mp h2
      · exfalso
        have := mS_r (bre A x) (bre A (sgm A x)) (bre A (sgm A (sgm A x)))
        unfold sM at h2
        omega
  · rintro ⟨x, h1, h2⟩
    have hx : x < 2 * aN A := FL_mem _ h1
    have b1 := bre_lt hA.1 hx
    have b2 := bre_lt hA.1 (xo_lt hx)
    unfold apc at h2
    rw [Bool.and_eq_true, decide_eq_true_eq] at h2
    exact Or.inr ⟨x, h1, Or.inl ⟨h2.1, (mA_eq ha hb b1 b2 hab (of_decide_eq_true h2.1).2.1).mpr h2.2⟩⟩
/-! the reference: off, and apart -/
theorem e_M_isOff {A : zA} (hA : okA A) {t : kM} (hM : MT A t) (x : Int) : f_M_isOff x t = some (if (0 ≤ x ∧ x < 11) ∧ pb A x.toNat = true ∧ ofA A x.toNat = true then 1 else 0) := by
  unfold f_M_isOff
  rw [e_M_isBridge hA hM, Option.bind_some]
  by_cases hx : 0 ≤ x ∧ x < 11 ∧ pb A x.toNat = true
  · obtain ⟨b, rfl⟩ : ∃ b : Nat, x = (b : Int) := ⟨x.toNat, by omega⟩
    rw [Int.toNat_natCast] at hx ⊢
    have hb : b < 11 := by omega
    obtain ⟨h1, h2, h3, h4⟩ := oA_lt hA hx.2.2
    have e98 : t 98 b = ((oA A b : Nat) : Int) := by rw [(hM.2 b hb).1, h1]
    have e99 : t 99 b = ((uA A b : Nat) : Int) := by rw [(hM.2 b hb).2, h3]
    rw [if_pos hx, if_neg (by decide), gI_n hb, Option.bind_some, e98, e_M_next hA.1 hM.1 h2, Option.bind_some, Option.bind_some, e99, Option.bind_some, e99, e_M_next hA.1 hM.1 h4, Option.bind_some, Option.bind_some, e98]
    by_cases o1 : nx (aF A) (aN A) (oA A b) = uA A b
    · rw [if_pos (by omega), if_pos ⟨⟨by omega, by omega⟩, hx.2.2, decide_eq_true (Or.inl o1)⟩]
    · rw [if_neg (by omega)]
      by_cases o2 : nx (aF A) (aN A) (uA A b) = oA A b
      · rw [if_pos (by omega), if_pos ⟨⟨by omega, by omega⟩, hx.2.2, decide_eq_true (Or.inr o2)⟩]
      · rw [if_neg (by omega), if_neg (fun q => by
          rcases of_decide_eq_true q.2.2 with z | z
          · exact o1 z
          · exact o2 z)]
  · rw [if_neg hx, if_pos rfl, if_neg (fun q => hx ⟨q.1.1, q.1.2, q.2.1⟩)]
theorem e_M_heightOf {A : zA} (hA : okA A) {t : kM} (hM : MT A t) {j : Nat} (hj : j < aN A) : f_M_heightOf j t = some ((hgt A j : Nat) : Int) := by
  have hn := okB_n hA.1
  have hl := nx_lt hA.1 hj
  unfold f_M_heightOf hgt
  rw [gI_n (show j < 22 by omega), Option.bind_some, e_M_next hA.1 hM.1 hj, Option.bind_some, gI_n (show nx (aF A) (aN A) j < 22 by omega), Option.bind_some, (hM.1.2.2.2.1 j hj).2, (hM.1.2.2.2.1 _ hl).2, wI_add2 (by omega)]
theorem piece_br {A : zA} (x : Nat) : (bre A x = ap A (x / 2) / 2 ∧ bre A (xo x) = ap A (nx (aF A) (aN A) (x / 2)) / 2) ∨ (bre A x = ap A (nx (aF A) (aN A) (x / 2)) / 2 ∧ bre A (xo x) = ap A (x / 2) / 2) := by
  unfold bre plc xo
  by_cases h : x % 2 = 0
  · left
    rw [if_pos h, if_pos h, if_neg (by omega), show (x + 1) / 2 = x / 2 by omega]
    exact ⟨rfl, rfl⟩
  · right
    rw [if_neg h, if_neg h, if_pos (by omega), show (x - 1) / 2 = x / 2 by omega]
    exact ⟨rfl, rfl⟩
abbrev btw (A : zA) (a b x : Nat) : Prop := (bre A x = a ∧ bre A (xo x) = b) ∨ (bre A x = b ∧ bre A (xo x) = a)
theorem e_M_isBetween {A : zA} (hA : okA A) {t : kM} (hM : MT A t) {a b x : Nat} (hx : x < 2 * aN A) : f_M_isBetween ((x / 2 : Nat) : Int) a b t = some (if btw A a b x then 1 else 0) := by
  have hn := okB_n hA.1
  have hj : x / 2 < aN A := by omega
  have hl := nx_lt hA.1 hj
  have hp := piece_br (A := A) x
  have hb : btw A a b x ↔ (ap A (x / 2) / 2 = a ∧ ap A (nx (aF A) (aN A) (x / 2)) / 2 = b) ∨ (ap A (x / 2) / 2 = b ∧ ap A (nx (aF A) (aN A) (x / 2)) / 2 = a) := by
    unfold btw
    rcases hp with ⟨p1, p2⟩ | ⟨p1, p2⟩
    · rw [p1, p2]
    · rw [p1, p2]
      constructor
      · rintro (⟨q1, q2⟩ | ⟨q1, q2⟩)
        · exact Or.inr ⟨q2, q1⟩
        · exact Or.inl ⟨q2, q1⟩
      · rintro (⟨q1, q2⟩ | ⟨q1, q2⟩)
        · exact Or.inr ⟨q2, q1⟩
        · exact Or.inl ⟨q2, q1⟩
  unfold f_M_isBetween f_M_isBetween_18
  rw [gI_n (show x / 2 < 22 by omega), Option.bind_some, e_M_next hA.1 hM.1 hj, Option.bind_some, gI_n (show nx (aF A) (aN A) (x / 2) < 22 by omega), Option.bind_some, (hM.1.2.2.2.1 _ hj).1, (hM.1.2.2.2.1 _ hl).1]
  clear hp
  generalize ap A (x / 2) / 2 = p at hb ⊢
  generalize ap A (nx (aF A) (aN A) (x / 2)) / 2 = q at hb ⊢
  by_cases c1 : p = a
  · rw [if_pos (by omega)]
    by_cases c2 : q = b
    · rw [if_pos (by omega), if_pos (hb.mpr (Or.inl ⟨c1, c2⟩))]
    · rw [if_neg (by omega)]
      by_cases c3 : p = b
      · rw [if_pos (by omega)]
        by_cases c4 : q = a
        · rw [if_pos (by omega), if_pos (hb.mpr (Or.inr ⟨c3, c4⟩))]
        · rw [if_neg (by omega), if_neg (fun z => by have := hb.mp z; omega)]
      · rw [if_neg (by omega), if_neg (fun z => by have := hb.mp z; omega)]
  · rw [if_neg (by omega)]
    by_cases c3 : p = b
    · rw [if_pos (by omega)]
      by_cases c4 : q = a
      · rw [if_pos (by omega), if_pos (hb.mpr (Or.inr ⟨c3, c4⟩))]
      · rw [if_neg (by omega), if_neg (fun z => by have := hb.mp z; omega)]
    · rw [if_neg (by omega), if_neg (fun z => by have := hb.mp z; omega)]
