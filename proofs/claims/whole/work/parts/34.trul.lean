theorem M_run {k : Nat} {cc : List Int} {s0 : kM} (hk : k < 6) (hl3 : cc.length < 300) (hc : ∀ i, i < cc.length → s0 106 (300 * k + i) = mt1 (cc.getD i 0) ∧ s0 107 (300 * k + i) = mt2 (cc.getD i 0)) {en : Nat} (hen : en ≤ cc.length) : ∀ (rest : List Int) (i d m : Nat) (s : kM), i + rest.length = en → (∀ j, j < rest.length → rest.getD j 0 = cc.getD (i + j) 0) → (∀ x, x ∈ rest → tkn x) → dOK d rest → d + pus rest ≤ 60 → rest.length < m → (∀ z, z ≠ 113 → s z = s0 z) → wp (gL (fun (x : Int × Int × kM) => f_M_answer_4b (k : Int) ((en : Nat) : Int) x.1 x.2.1 x.2.2) m (((d : Nat) : Int), ((i : Nat) : Int), s)) (fun r => r.1 = (run (s0 112) rest (s 113, d)).1 0 ∧ ∀ z, z ≠ 113 → r.2 z = s0 z)
  | [], i, d, m, s, h1, h2, h3, h4, h5, h6, h7 => by
    obtain ⟨m', rfl⟩ : ∃ m', m = m' + 1 := ⟨m - 1, by omega⟩
    have hi : i = en := by have : i + 0 = en := h1; omega
    have e0 : (fun (x : Int × Int × kM) => f_M_answer_4b (k : Int) ((en : Nat) : Int) x.1 x.2.1 x.2.2) (((d : Nat) : Int), ((i : Nat) : Int), s) = some (.inr (s 113 0, s)) := by
      show f_M_answer_4b (k : Int) ((en : Nat) : Int) ((d : Nat) : Int) ((i : Nat) : Int) s = _
      unfold f_M_answer_4b
      rw [if_pos (by omega)]
    rw [gL_r e0, wp_some]
    exact ⟨rfl, h7⟩
  | x :: rest, i, d, m, s, h1, h2, h3, h4, h5, h6, h7 => by
    obtain ⟨m', rfl⟩ : ∃ m', m = m' + 1 := ⟨m - 1, by omega⟩
    have h1' : i + (rest.length + 1) = en := h1
    have h6' : rest.length + 1 < m' + 1 := h6
    have ex : s 106 (300 * k + i) = mt1 x ∧ s 107 (300 * k + i) = mt2 x := by
      have e0 := h2 0 (by show 0 < rest.length + 1; omega)
      have e1 : x = cc.getD i 0 := e0
      rw [h7 106 (by decide), h7 107 (by decide), e1]
      exact hc i (by omega)
    have htk := h3 x (List.mem_cons_self)
    rw [pus_c] at h5
    have nexts : ∀ (d' : Nat) (u : kM), f_M_answer_4b (k : Int) ((en : Nat) : Int) ((d : Nat) : Int) ((i : Nat) : Int) s = some (.inl (((d' : Nat) : Int), ((i + 1 : Nat) : Int), u)) → dOK d' rest → d' + pus rest ≤ 60 → (∀ z, z ≠ 113 → u z = s0 z) → stp (s0 112) x (s 113, d) = (u 113, d') → wp (gL (fun (x : Int × Int × kM) => f_M_answer_4b (k : Int) ((en : Nat) : Int) x.1 x.2.1 x.2.2) (m' + 1) (((d : Nat) : Int), ((i : Nat) : Int), s)) (fun r => r.1 = (run (s0 112) (x :: rest) (s 113, d)).1 0 ∧ ∀ z, z ≠ 113 → r.2 z = s0 z) := by
      intro d' u g q1 q2 q3 q4
      have g' : (fun (x : Int × Int × kM) => f_M_answer_4b (k : Int) ((en : Nat) : Int) x.1 x.2.1 x.2.2) (((d : Nat) : Int), ((i : Nat) : Int), s) = some (.inl (((d' : Nat) : Int), ((i + 1 : Nat) : Int), u)) := g
      rw [gL_l g']
      have ih := M_run hk hl3 hc hen rest (i + 1) d' m' u (by omega) (fun j hj => by have := h2 (j + 1) (by show j + 1 < rest.length + 1; omega); rw [show i + 1 + j = i + (j + 1) by omega, ← this]; rfl) (fun y hy => h3 y (List.mem_cons_of_mem _ hy)) q1 q2 (by omega) q3
      have hr : run (s0 112) (x :: rest) (s 113, d) = run (s0 112) rest (u 113, d') := by
        show run (s0 112) rest (stp (s0 112) x (s 113, d)) = _
        rw [q4]
      rw [hr]
      exact ih
    unfold dOK at h4
    unfold tkn at htk
    unfold stp at nexts
    dsimp only at nexts
    have ej : wI (wI (300 * (k : Int)) + ((i : Nat) : Int)) = ((300 * k + i : Nat) : Int) := by
      rw [wI_id (x := 300 * (k : Int)) (by omega) (by omega), wI_id (by omega) (by omega)]
      omega
    have ei : wI (((i : Nat) : Int) + 1) = ((i + 1 : Nat) : Int) := wI_s (by clear ej; omega)
    by_cases hx : -10 < x
    · rw [if_pos hx] at h4 h5 nexts
      have e42 : ∀ y : Int, f_M_answer_42 (k : Int) ((en : Nat) : Int) ((d : Nat) : Int) ((i : Nat) : Int) ((d : Nat) : Int) y s = some (.inl (((d + 1 : Nat) : Int), ((i + 1 : Nat) : Int), gU s 113 d y)) := by
        intro y
        unfold f_M_answer_42 f_M_answer_82
        rw [gI_n (show d < 300 by clear ei ej; omega), Option.bind_some, gLet_eq, wI_s (by clear ei ej; omega), ei]
      refine nexts (d + 1) (gU s 113 d (if x < 0 then s0 112 (-1 - x).toNat else x)) ?_ h4 (by clear ei ej; omega) (fun z hz => by rw [gU_n _ _ _ hz]; exact h7 z hz) (by rw [gU_s])
      unfold f_M_answer_4b f_M_answer_30
      rw [if_neg (by clear ei ej; omega), ej, gI_n (show 300 * k + i < 1800 by clear ei ej; omega), Option.bind_some, Option.bind_some, ex.1, ex.2]
      by_cases hn : x < 0
      · obtain ⟨w, hw⟩ : ∃ w : Nat, -1 - x = (w : Int) := ⟨(-1 - x).toNat, by clear ei ej; omega⟩
        have m1 : mt1 x = 1 := by unfold mt1; rw [if_neg (by clear ei ej; omega), if_pos (by clear ei ej; omega)]
        have m2 : mt2 x = (w : Int) := by unfold mt2; rw [if_neg (by clear ei ej; omega), if_pos (by clear ei ej; omega), hw]
        rw [m1, m2, if_neg (by decide), if_pos rfl, if_neg (by decide), gI_n (show w < 8 by clear ei ej; omega), Option.bind_some, e42, if_pos hn, hw, Int.toNat_natCast, h7 112 (by decide)]
      · have m1 : mt1 x = 0 := by unfold mt1; rw [if_pos (by clear ei ej; omega)]
        have m2 : mt2 x = x := by unfold mt2; rw [if_pos (by clear ei ej; omega)]
        rw [m1, m2, if_pos rfl, if_pos rfl, e42, if_neg hn]
    · rw [if_neg hx] at h4 h5 nexts
      by_cases h22 : x = -22
      · rw [if_pos h22] at h4 nexts
        have m1 : mt1 x = 9 := by rw [h22]; rfl
        have ed : wI (((d : Nat) : Int) - 1) = ((d - 1 : Nat) : Int) := by rw [wI_id (by clear ei ej; omega) (by clear ei ej; omega)]; clear ei ej; omega
        refine nexts d (gU s 113 (d - 1) (wL (1 - s 113 (d - 1)))) ?_ h4.2 (by clear ei ed ej; omega) (fun z hz => by rw [gU_n _ _ _ hz]; exact h7 z hz) (by rw [gU_s])
        unfold f_M_answer_4b f_M_answer_82
        rw [if_neg (by clear ei ed ej; omega), ej, gI_n (show 300 * k + i < 1800 by clear ei ed ej; omega), Option.bind_some, Option.bind_some, ex.1, m1, if_neg (by decide), if_neg (by decide), if_pos rfl, ed, gI_n (show d - 1 < 300 by clear ei ed ej; omega), Option.bind_some, Option.bind_some, gLet_eq, ei]
      · rw [if_neg h22] at h4 nexts
        have hmm : mt1 x ≠ 0 ∧ mt1 x ≠ 1 ∧ mt1 x ≠ 9 := by
          have : x = -21 ∨ x = -20 ∨ x = -19 ∨ x = -18 ∨ x = -17 ∨ x = -16 ∨ x = -15 ∨ x = -14 ∨ x = -13 ∨ x = -12 ∨ x = -11 ∨ x = -10 := by clear ei ej; omega
          rcases this with h | h | h | h | h | h | h | h | h | h | h | h <;> rw [h] <;> decide
        have ed : wI (((d : Nat) : Int) + (-1)) = ((d - 1 : Nat) : Int) := by rw [wI_id (by clear ei ej; omega) (by clear ei ej; omega)]; clear ei ej; omega
        have ed2 : wI (((d - 1 : Nat) : Int) - 1) = ((d - 2 : Nat) : Int) := by rw [wI_id (by clear ei ed ej; omega) (by clear ei ed ej; omega)]; clear ei ed ej; omega
        refine nexts (d - 1) (gU s 113 (d - 2) (op2 x (s 113 (d - 2)) (s 113 (d - 1)))) ?_ h4.2 (by clear ei ed ed2 ej; omega) (fun z hz => by rw [gU_n _ _ _ hz]; exact h7 z hz) (by rw [gU_s])
        unfold f_M_answer_4b f_M_answer_82
        rw [if_neg (by clear ei ed ed2 ej; omega), ej, gI_n (show 300 * k + i < 1800 by clear ei ed ed2 ej; omega), Option.bind_some, Option.bind_some, ex.1, if_neg hmm.1, if_neg hmm.2.1, if_neg hmm.2.2, ed, ed2, gI_n (show d - 2 < 300 by clear ei ed ed2 ej; omega), Option.bind_some, gI_n (show d - 1 < 300 by clear ei ed ed2 ej; omega), Option.bind_some, e_both (by clear ei ed ed2 ej; omega) (by clear ei ed ed2 ej; omega), Option.bind_some, Option.bind_some, gLet_eq, ei]
