theorem fl_at : ∀ (acc : List (List Int)) (j : Nat), j < acc.length → (acc.take (j + 1)).flatten.length = (acc.take j).flatten.length + (acc.getD j []).length ∧ (acc.take (j + 1)).flatten.length ≤ acc.flatten.length ∧ ∀ i, i < (acc.getD j []).length → (acc.getD j []).getD i 0 = acc.flatten.getD ((acc.take j).flatten.length + i) 0
  | [], j, h => absurd h (Nat.not_lt_zero _)
  | c :: acc, 0, h => by
    refine ⟨?_, ?_, fun i hi => ?_⟩
    · show (c ++ []).length = 0 + c.length
      rw [List.append_nil]
      omega
    · show (c ++ []).length ≤ (c ++ acc.flatten).length
      rw [List.append_nil, List.length_append]
      omega
    · have hi' : i < c.length := hi
      show c.getD i 0 = (c ++ acc.flatten).getD (0 + i) 0
      rw [Nat.zero_add, List.getD_eq_getElem?_getD, List.getD_eq_getElem?_getD, List.getElem?_append_left hi']
  | c :: acc, j + 1, h => by
    obtain ⟨h1, h2, h3⟩ := fl_at acc j (Nat.lt_of_succ_lt_succ h)
    refine ⟨?_, ?_, fun i hi => ?_⟩
    · show (c ++ (acc.take (j + 1)).flatten).length = (c ++ (acc.take j).flatten).length + (acc.getD j []).length
      rw [List.length_append, List.length_append, h1]
      omega
    · show (c ++ (acc.take (j + 1)).flatten).length ≤ (c ++ acc.flatten).length
      rw [List.length_append, List.length_append]
      omega
    · show (acc.getD j []).getD i 0 = (c ++ acc.flatten).getD ((c ++ (acc.take j).flatten).length + i) 0
      rw [h3 i hi, List.length_append, List.getD_eq_getElem?_getD, List.getD_eq_getElem?_getD, List.getElem?_append_right (by omega)]
      congr 2
      omega
