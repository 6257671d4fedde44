/-! the call RULE -/
theorem K_read2 {T : Nat → Int} (hT : TB T) {L : Nat} {s : kM} (h1 : L ≤ 400) (h3 : s 1 1 = (L : Int)) (h5 : s 2 = T) : ∃ t, f_RuleText_read s = f_RuleText_read_43 t ∧ kfr s t ∧ KRs T L (pRl T L 13 0 [] [] 0 0) t := by
  unfold f_RuleText_read f_Tape_rewind
  rw [gLet_eq, gLet_eq, gLet_eq, gLet_eq, gLet_eq, Option.bind_some]
  obtain ⟨u, hu⟩ : ∃ u, u = gU (gU (gU (gU (gU s 54 1 0) 54 2 0) 54 3 0) 1 2 0) 1 3 0 := ⟨_, rfl⟩
  have hfu : kfr s u := by rw [hu]; exact kfr_t (kfr_t (kfr_t (kfr_t (kfr_54 _ _ _) (kfr_54 _ _ _)) (kfr_54 _ _ _)) (kfr_1 _ _ _)) (kfr_1 _ _ _)
  have u11 : u 1 1 = (L : Int) := by rw [hu, gUo _ _ _ (by decide), gUo _ _ _ (by decide), gU_n _ _ _ (by decide), gU_n _ _ _ (by decide), gU_n _ _ _ (by decide)]; exact h3
  have u12 : u 1 2 = ((0 : Nat) : Int) := by rw [hu, gUo _ _ _ (by decide), gUs]; rfl
  have u13 : u 1 3 = 0 := by rw [hu, gUs]
  have u541 : u 54 1 = 0 := by rw [hu, gU_n _ _ _ (by decide), gU_n _ _ _ (by decide), gUo _ _ _ (by decide), gUo _ _ _ (by decide), gUs]
  have u542 : u 54 2 = ((0 : Nat) : Int) := by rw [hu, gU_n _ _ _ (by decide), gU_n _ _ _ (by decide), gUo _ _ _ (by decide), gUs]; rfl
  have u543 : u 54 3 = 0 := by rw [hu, gU_n _ _ _ (by decide), gU_n _ _ _ (by decide), gUs]
  rw [← hu]
  clear hu
  have hX : KXr T L [] 0 0 u := ⟨⟨h1, by omega, u11, u12, by rw [hfu 2 (by decide) (by decide) (by decide)]; exact h5⟩, u13, u542, ⟨by rw [u541]; rfl, fun i hi => absurd hi (Nat.not_lt_zero _)⟩, by rw [u543]; rfl⟩
  unfold f_RuleText_read_15
  obtain ⟨t, g1, t1, t2⟩ := K_loop hT (s0 := s) 13 gF 0 [] [] 0 0 u (by omega) (by show 14 ≤ 4096 + 0; omega) (by omega) hX hfu
  exact ⟨t, g1, t1, t2 (by omega)⟩
def PB (acc : List (List Int)) (p n : Nat) : Prop := (∀ c, c ∈ acc → pus c ≤ n) ∧ 3 * acc.flatten.length ≤ 6 * n + p
theorem Rl_j {T : Nat → Int} {L : Nat} (hL : L ≤ 400) : ∀ kk a acc kc p n, p ≤ L → n ≤ 60 → PB acc p n → ∀ x, pRl T L kk a acc kc p n = .inr x → (∀ c, c ∈ x.1 → pus c ≤ 60) ∧ x.1.flatten.length < 300
  | 0, _, _, _, _, _, _, _, _, x, h => by cases h
  | kk + 1, a, acc, kc, p, n, h2, h3, h4, x, h => by
    obtain ⟨i1, i2⟩ := Cl_i (T := T) hL (a := a) h2 h3
    cases hr : pCl T L a p n with
    | inl e0 =>
      rw [pRl_l hr] at h
      cases h
    | inr y =>
      obtain ⟨c, q, n1⟩ := y
      obtain ⟨⟨v1, v2, v3, v4⟩, v5, v6, v7, v8, v9⟩ := i2 c q n1 hr
      obtain ⟨b1, b2⟩ := h4
      have hfl : (acc ++ [c]).flatten.length = acc.flatten.length + c.length := by
        rw [List.flatten_append, List.length_append]
        show _ + (c ++ []).length = _
        rw [List.append_nil]
      have hm : ∀ c', c' ∈ acc ++ [c] → pus c' ≤ n1 := by
        intro c' hc'
        rw [List.mem_append, List.mem_singleton] at hc'
        rcases hc' with hc' | hc'
        · have := b1 c' hc'
          omega
        · rw [hc']; omega
      rw [pRl_r hr] at h
      by_cases h59 : q < L ∧ T q = 59
      · rw [if_pos h59] at h
        exact Rl_j hL kk (a + 1) _ _ (q + 1) n1 (by omega) v4 ⟨hm, by rw [hfl]; omega⟩ x h
      · rw [if_neg h59] at h
        by_cases hq : q < L
        · rw [if_pos hq] at h
          cases h
        · rw [if_neg hq] at h
          injection h with h
          rw [← h]
          refine ⟨fun c' hc' => ?_, ?_⟩
          · have := hm c' hc'
            omega
          · show (acc ++ [c]).flatten.length < 300
            rw [hfl]
            omega
theorem M_rule {T : Nat → Int} (hT : TB T) {L k : Nat} (hL : L ≤ 400) (hk : k < 6) {s : kM} (h25 : s 85 25 = (k : Int)) (h21 : s 85 21 = (L : Int)) (h105 : s 105 = T) (h30 : s 85 30 = 8) : ∃ zv u, f_M_rule s = some (zv, u) ∧ u 85 21 = 0 ∧ u 85 30 = 8 ∧ (∀ z, z < 106 ∨ 111 < z → z ≠ 85 → u z = s z) ∧ (∀ j, j < k → MSl j s u) ∧ qrs (pRl T L 13 0 [] [] 0 0) (fun e => zv = wI (-2 - (e : Int)) ∧ u 85 25 = (k : Int)) (fun x => zv = (k : Int) ∧ u 85 25 = ((k + 1 : Nat) : Int) ∧ x.1.length ≤ 12 ∧ u 108 k = ((x.1.length : Nat) : Int) ∧ CB k x.1 u ∧ ∀ i, i < x.1.flatten.length → u 106 (300 * k + i) = mt1 (x.1.flatten.getD i 0) ∧ u 107 (300 * k + i) = mt2 (x.1.flatten.getD i 0)) := by
  obtain ⟨G, hG⟩ : ∃ G, G = gU (gU (gU (gU (gU (gU s 85 24 (k : Int)) 85 22 0) 85 23 0) 85 26 0) 85 27 0) 85 28 0 := ⟨_, rfl⟩
  have G1 : ∀ z, z ≠ 85 → G z = s z := fun z hz => by rw [hG, gU_n _ _ _ hz, gU_n _ _ _ hz, gU_n _ _ _ hz, gU_n _ _ _ hz, gU_n _ _ _ hz, gU_n _ _ _ hz]
  have G2 : ∀ i, i ≠ 22 → i ≠ 23 → i ≠ 24 → i ≠ 26 → i ≠ 27 → i ≠ 28 → G 85 i = s 85 i := fun i a b c d e f => by rw [hG, gUo _ _ _ f, gUo _ _ _ e, gUo _ _ _ d, gUo _ _ _ b, gUo _ _ _ a, gUo _ _ _ c]
  have g28 : G 85 28 = ((0 : Nat) : Int) := by rw [hG, gUs]; rfl
  have g27 : G 85 27 = 0 := by rw [hG, gUo _ _ _ (by decide), gUs]
  have g26 : G 85 26 = ((0 : Nat) : Int) := by rw [hG, gUo _ _ _ (by decide), gUo _ _ _ (by decide), gUs]; rfl
  have g23 : G 85 23 = 0 := by rw [hG, gUo _ _ _ (by decide), gUo _ _ _ (by decide), gUo _ _ _ (by decide), gUs]
  have g22 : G 85 22 = ((0 : Nat) : Int) := by rw [hG, gUo _ _ _ (by decide), gUo _ _ _ (by decide), gUo _ _ _ (by decide), gUo _ _ _ (by decide), gUs]; rfl
  have g24 : G 85 24 = (k : Int) := by rw [hG, gUo _ _ _ (by decide), gUo _ _ _ (by decide), gUo _ _ _ (by decide), gUo _ _ _ (by decide), gUo _ _ _ (by decide), gUs]
  have eM : f_M_rule s = gL fRt gF (((0 : Nat) : Int), 1, G) := by
    unfold f_M_rule f_M_starts f_M_rule_16
    rw [if_neg (by rw [h25]; omega), gLet_eq, gLet_eq, gLet_eq, gLet_eq, gLet_eq, gLet_eq, Option.bind_some, h25, ← hG]
    rfl
  clear hG
  have hX : MVr T L k ([] : List (List Int)).flatten 0 0 G := ⟨⟨⟨hL, by omega⟩, by rw [G2 21 (by decide) (by decide) (by decide) (by decide) (by decide) (by decide)]; exact h21, g22, by rw [G1 105 (by decide)]; exact h105⟩, g23, g28, g24, g26, by rw [G2 30 (by decide) (by decide) (by decide) (by decide) (by decide) (by decide)]; exact h30, fun i hi => absurd hi (Nat.not_lt_zero _)⟩
  obtain ⟨a', t, t1, t2, t3⟩ := M_rloop hT hL hk (s0 := G) 13 gF 0 [] [] 0 0 G (by omega) (by omega) (by show 14 ≤ 4096 + 0; omega) rfl (by omega) (by omega) (by decide) hX g27 (fun i hi => absurd hi (Nat.not_lt_zero _)) (mfr_f (mft_r k G))
  have e24 : t 85 24 = (k : Int) := by rw [t2.2.1 24 (by decide) (by decide) (by decide) (by decide) (by decide) (by decide)]; exact g24
  have e25 : t 85 25 = (k : Int) := by rw [t2.2.1 25 (by decide) (by decide) (by decide) (by decide) (by decide) (by decide), G2 25 (by decide) (by decide) (by decide) (by decide) (by decide) (by decide)]; exact h25
  have e30 : t 85 30 = 8 := by rw [t2.2.1 30 (by decide) (by decide) (by decide) (by decide) (by decide) (by decide), G2 30 (by decide) (by decide) (by decide) (by decide) (by decide) (by decide)]; exact h30
  obtain ⟨S, hS⟩ : ∃ S, S = gU (gU t 85 21 0) 108 k ((a' : Nat) : Int) := ⟨_, rfl⟩
  have S85 : ∀ i, i ≠ 21 → S 85 i = t 85 i := fun i hi => by rw [hS, gU_n _ _ _ (by decide), gUo _ _ _ hi]
  have S21 : S 85 21 = 0 := by rw [hS, gU_n _ _ _ (by decide), gUs]
  have So : ∀ z, z ≠ 85 → z ≠ 108 → S z = t z := fun z z1 z2 => by rw [hS, gU_n _ _ _ z2, gU_n _ _ _ z1]
  have S108 : S 108 k = ((a' : Nat) : Int) := by rw [hS, gUs]
  have S108o : ∀ j, j ≠ k → S 108 j = t 108 j := fun j hj => by rw [hS, gUo _ _ _ hj, gU_n _ _ _ (by decide)]
  have e16 : f_M_rule_16b ((a' : Nat) : Int) 0 t = if S 85 23 = 0 then (f_M_rule_44 (S 85 25) 1 S).map Sum.inr else (f_M_rule_44 (S 85 25) 0 S).map Sum.inr := by
    unfold f_M_rule_16b
    rw [if_pos rfl, gLet_eq, gUo _ _ _ (by decide), e24, gI_n hk, Option.bind_some, gLet_eq, ← hS]
  clear hS
  have e44 : ∀ y : Int, f_M_rule_44 (S 85 25) y S = if t 85 23 ≤ 0 then some (wI (wI ((k : Int) + y) - 1), gU S 85 25 (wI ((k : Int) + y))) else some (wI (-2 - t 85 23), gU S 85 25 (wI ((k : Int) + y))) := by
    intro y
    unfold f_M_rule_44
    rw [gLet_eq, gUs, gUo _ _ _ (by decide), S85 25 (by decide), S85 23 (by decide), e25]
  have hfr : ∀ x : Int, gU S 85 25 x 85 21 = 0 ∧ gU S 85 25 x 85 30 = 8 ∧ (∀ z, z < 106 ∨ 111 < z → z ≠ 85 → gU S 85 25 x z = s z) ∧ (∀ j, j < k → MSl j s (gU S 85 25 x)) := by
    intro x
    refine ⟨by rw [gUo _ _ _ (by decide)]; exact S21, by rw [gUo _ _ _ (by decide), S85 30 (by decide)]; exact e30, fun z z1 z2 => ?_, fun j hj => ⟨fun i i1 i2 => ⟨?_, ?_⟩, ?_, fun i i1 i2 => ⟨?_, ?_⟩⟩⟩
    · rw [gU_n _ _ _ z2, So z z2 (by omega), t2.1 z z2 (by omega) (by omega) (by omega) (by omega) (by omega), G1 z z2]
    · rw [gU_n _ _ _ (by decide), So 106 (by decide) (by decide), (t2.2.2.1 i (Or.inl (by omega))).1, G1 106 (by decide)]
    · rw [gU_n _ _ _ (by decide), So 107 (by decide) (by decide), (t2.2.2.1 i (Or.inl (by omega))).2, G1 107 (by decide)]
    · rw [gU_n _ _ _ (by decide), S108o j (by omega), t2.1 108 (by decide) (by decide) (by decide) (by decide) (by decide) (by decide), G1 108 (by decide)]
    · rw [gU_n _ _ _ (by decide), So 109 (by decide) (by decide), (t2.2.2.2 i (Or.inl (by omega))).1, G1 109 (by decide)]
    · rw [gU_n _ _ _ (by decide), So 110 (by decide) (by decide), (t2.2.2.2 i (Or.inl (by omega))).2, G1 110 (by decide)]
  cases hr : pRl T L 13 0 [] [] 0 0 with
  | inl e =>
    rw [hr] at t3
    obtain ⟨t4, t5⟩ := t3
    obtain ⟨f1, f2, f3, f4⟩ := hfr ((k : Nat) : Int)
    refine ⟨wI (-2 - (e : Int)), gU S 85 25 ((k : Nat) : Int), ?_, f1, f2, f3, f4, rfl, gUs _ _ _ _⟩
    rw [eM]
    refine t1 _ ?_
    rw [e16, S85 23 (by decide), t4, if_neg (by omega), e44, t4, if_neg (by omega), Int.add_zero, wI_id (x := ((k : Nat) : Int)) (by omega) (by omega)]
  | inr x =>
    rw [hr] at t3
    obtain ⟨t4, t5, t6, ⟨t7, t8, t9, t10⟩, t11⟩ := t3
    obtain ⟨f1, f2, f3, f4⟩ := hfr ((k + 1 : Nat) : Int)
    refine ⟨(k : Int), gU S 85 25 ((k + 1 : Nat) : Int), ?_, f1, f2, f3, f4, rfl, gUs _ _ _ _, by rw [t5]; exact t6, by rw [gU_n _ _ _ (by decide), S108, t5], fun i hi => ?_, fun i hi => ?_⟩
    · rw [eM]
      refine t1 _ ?_
      have ew : wI (((k + 1 : Nat) : Int) - 1) = (k : Int) := by
        rw [wI_id (by omega) (by omega)]
        omega
      rw [e16, S85 23 (by decide), t4, if_pos rfl, e44, t4, if_pos (Int.le_refl 0), wI_s (by clear ew; omega), ew]
    · rw [gU_n _ _ _ (by decide), gU_n _ _ _ (by decide), So 109 (by decide) (by decide), So 110 (by decide) (by decide)]
      exact t11 i hi
    · rw [gU_n _ _ _ (by decide), gU_n _ _ _ (by decide), So 106 (by decide) (by decide), So 107 (by decide) (by decide)]
      exact t10 i hi
