/-! the class's town: settle -/
theorem tTn {b : Nat} (h : tT b = true) : b + 5 < 900 := by rcases tT_cases h with rfl | rfl | rfl | rfl | rfl | rfl | rfl | rfl <;> decide
/-- lookups behind writes at other places -/
theorem gUn (s : kM) {a b : Nat} (i : Nat) (x : Int) (h : b ≠ a) (j : Nat) : gU s a i x b j = s b j := by rw [gU_n s i x h]
theorem wp_comeHome {b : Nat} {x y : Nat} {s : kM} (hx : x ≤ 22) (hy : y ≤ 22) : f_Town_comeHome b x y s = some (if y ≤ x then s else gU (gU s (b + 3) (y - 1) x) (b + 4) x ((y : Int) - 1)) := by
  apply wp_eq
  unfold f_Town_comeHome
  simp only [wp_ite, wp_bind, wp_gI, wp_gLet, wp_some]
  refine ⟨fun c => ?_, fun c => ?_⟩
  · rw [if_pos (by omega)]
  · rw [wI_id (by omega) (by omega)]
    refine ⟨by omega, by omega, ?_⟩
    rw [if_neg (by omega), Int.toNat_natCast, show ((y : Int) - 1).toNat = y - 1 by omega]
def sqI (b : Nat) (A : zA) (s0 : kM) (k : Nat) (s : kM) : Prop := s b 0 = s0 b 0 ∧ s b 1 = s0 b 1 ∧ s b 2 = s0 b 2 ∧ s b 3 = mk (ap A) k ∧ s (b + 1) = s0 (b + 1) ∧ s (b + 2) = s0 (b + 2) ∧ (∀ c, c < 22 → s (b + 5) c = po (ap A) c k) ∧ (∀ j, j < k → s (b + 3) j = (j : Int) + 1 ∧ s (b + 4) j = (j : Int) - 1)
theorem wp_settle {b : Nat} (hb : tT b = true) {A : zA} (hA : okB A) {s : kM} (h1 : s b 1 = aF A) (h2 : s b 2 = aN A) (h3 : ∀ j, j < aN A → s (b + 1) j = ap A j) : wp (f_Town_settle b s) (fun t => KS b A t ∧ t b 0 = s b 0 ∧ t b 1 = s b 1 ∧ t b 2 = s b 2 ∧ t (b + 1) = s (b + 1) ∧ t (b + 2) = s (b + 2)) := by
  obtain ⟨a1, a2, a3, a4, a5⟩ := hA
  have n3 : b + 3 ≠ b := by omega
  unfold f_Town_settle
  rw [e_Arrays_fill_II _ _ _ _ (by decide)]
  simp only [wp_bind, wp_some, wp_gLet]
  unfold f_Town_settle_9
  refine wp_for (aN A) (fun k x => x.1 = (k : Int) ∧ sqI b A s k x.2) 0 _ (by omega) (by omega) ⟨rfl, ?_⟩ ?_ ?_
  · refine ⟨?_, ?_, ?_, ?_, ?_, ?_, ?_, ?_⟩
    · simp [gU, gA, kup]
    · simp [gU, gA, kup]
    · simp [gU, gA, kup]
    · simp [gU, gA, kup, mk]
    · simp [gU, gA]
    · simp [gU, gA]
    · intro c hc
      simp [gU, gA, kfill, po, hc]
    · intro j hj
      omega
  · rintro k ⟨i, s'⟩ _ hk ⟨rfl, q0, q1, q2, q3, q4, q5, q6, q7⟩
    dsimp only at q0 q1 q2 q3 q4 q5 q6 q7
    have hp := a4 k hk
    have e1 : s' (b + 1) k = ap A k := by rw [q4]; exact h3 k hk
    have hm : mk (ap A) k < 2048 := mk_lt (fun j hj => a4 j (by omega))
    simp only [f_Town_settle_9b, wp_ite, wp_bind, wp_gI, wp_gLet, wp_some, gE_l, gE_r, Int.toNat_natCast]
    refine ⟨fun c => by rw [q2, h2] at c; omega, fun c => ?_⟩
    refine ⟨by omega, ?_⟩
    rw [e1]
    refine ⟨by omega, by omega, by omega, by omega, ?_, ?_⟩
    · rw [wI_id (by omega) (by omega)]; rfl
    · rw [Int.toNat_natCast]
      refine ⟨?_, ?_, ?_, ?_, ?_, ?_, ?_, ?_⟩
      · rw [gUn _ _ _ (by omega), gUn _ _ _ (by omega), gUo _ _ _ (by decide), gUn _ _ _ (by omega), q0]
      · rw [gUn _ _ _ (by omega), gUn _ _ _ (by omega), gUo _ _ _ (by decide), gUn _ _ _ (by omega), q1]
      · rw [gUn _ _ _ (by omega), gUn _ _ _ (by omega), gUo _ _ _ (by decide), gUn _ _ _ (by omega), q2]
      · rw [gUn _ _ _ (by omega), gUn _ _ _ (by omega), gUs, gUn _ _ _ (by omega), gUn _ _ _ (by omega), q3, e1]
        have : kshr (ap A k : Int) 1 = ((ap A k / 2 : Nat) : Int) := kshr_n (n := ap A k) (k := 1) (by omega) (by omega)
        rw [this, kone (by omega), kor_n (by omega) (by
          have : 2 ^ (ap A k / 2) < 2 ^ 11 := Nat.pow_lt_pow_right (by omega) (by omega)
          omega)]
        rfl
      · rw [gU_n _ _ _ (by omega), gU_n _ _ _ (by omega), gU_n _ _ _ (by omega), gU_n _ _ _ (by omega), q4]
      · rw [gU_n _ _ _ (by omega), gU_n _ _ _ (by omega), gU_n _ _ _ (by omega), gU_n _ _ _ (by omega), q5]
      · intro c hc
        rw [gUn _ _ _ (by omega), gUn _ _ _ (by omega), gUn _ _ _ (by omega)]
        unfold po
        by_cases h : ap A k = c
        · rw [if_pos h, ← h, gUs]
        · rw [if_neg h, gUo _ _ _ (by omega), q6 c hc]
      · intro j hj
        by_cases h : j = k
        · subst h
          rw [gUn _ _ _ (by omega), gUs, gUs, wI_id (by omega) (by omega), wI_id (by omega) (by omega)]
          exact ⟨rfl, rfl⟩
        · rw [gUn _ _ _ (by omega), gUo _ _ _ h, gUo _ _ _ h, gUn _ _ _ (by omega), gUn _ _ _ (by omega), gUn _ _ _ (by omega), gUn _ _ _ (by omega), gUn _ _ _ (by omega)]
          exact q7 j (by omega)
  · rintro ⟨i, s'⟩ ⟨rfl, q0, q1, q2, q3, q4, q5, q6, q7⟩
    dsimp only at q0 q1 q2 q3 q4 q5 q6 q7
    simp only [f_Town_settle_9b, wp_ite, wp_bind, wp_gI, wp_gLet, wp_some, gE_l, gE_r]
    refine ⟨fun _ => ?_, fun c => by rw [q2, h2] at c; omega⟩
    rw [q1, h1, show (0 : Int) = ((0 : Nat) : Int) from rfl, wp_comeHome (by omega) (by omega)]
    simp only [wp_some]
    generalize hg : (if aF A ≤ 0 then s' else gU (gU s' (b + 3) (aF A - 1) ((0 : Nat) : Int)) (b + 4) 0 ((aF A : Int) - 1)) = g
    have g1 : g b = s' b := by
      rw [← hg]; split
      · rfl
      · rw [gU_n _ _ _ (by omega), gU_n _ _ _ (by omega)]
    have g2 : g (b + 1) = s' (b + 1) := by
      rw [← hg]; split
      · rfl
      · rw [gU_n _ _ _ (by omega), gU_n _ _ _ (by omega)]
    have g3 : g (b + 2) = s' (b + 2) := by
      rw [← hg]; split
      · rfl
      · rw [gU_n _ _ _ (by omega), gU_n _ _ _ (by omega)]
    have g4 : g (b + 5) = s' (b + 5) := by
      rw [← hg]; split
      · rfl
      · rw [gU_n _ _ _ (by omega), gU_n _ _ _ (by omega)]
    have g5 : ∀ j, j < aN A → g (b + 3) j = if j < aF A ∧ j + 1 = aF A then 0 else (j : Int) + 1 := by
      intro j hj
      rw [← hg]
      split
      · rw [if_neg (by omega)]; exact (q7 j hj).1
      · rw [gUn _ _ _ (by omega)]
        by_cases hc : j = aF A - 1
        · rw [hc, gUs, if_pos (by omega)]; rfl
        · rw [gUo _ _ _ hc, if_neg (by omega)]; exact (q7 j hj).1
    have g6 : ∀ j, j < aN A → g (b + 4) j = if j < aF A ∧ j = 0 then (aF A : Int) - 1 else (j : Int) - 1 := by
      intro j hj
      rw [← hg]
      split
      · rw [if_neg (by omega)]; exact (q7 j hj).2
      · by_cases hc : j = 0
        · rw [hc, gUs, if_pos (by omega)]
        · rw [gUo _ _ _ hc, if_neg (by omega), gUn _ _ _ (by omega)]; exact (q7 j hj).2
    rw [g1, q1, q2, h1, h2, wp_comeHome (by omega) (by omega)]
    simp only [wp_some]
    by_cases hFN : aN A ≤ aF A
    · rw [if_pos hFN]
      have : aN A = aF A := by omega
      refine ⟨⟨?_, ?_, ?_, ?_⟩, ?_, ?_, ?_, ?_, ?_⟩
      · rw [g1, q3]
      · intro c hc; rw [g4]; exact q6 c hc
      · intro j hj
        rw [g5 j hj]; unfold nx
        grind
      · intro j hj
        rw [g6 j hj]; unfold pv
        grind
      · rw [g1, q0]
      · rw [g1, q1, h1]
      · rw [g1, q2, h2]
      · rw [g2, q4]
      · rw [g3, q5]
    · rw [if_neg hFN]
      refine ⟨⟨?_, ?_, ?_, ?_⟩, ?_, ?_, ?_, ?_, ?_⟩
      · rw [gUn _ _ _ (by omega), gUn _ _ _ (by omega), g1, q3]
      · intro c hc; rw [gUn _ _ _ (by omega), gUn _ _ _ (by omega), g4]; exact q6 c hc
      · intro j hj
        rw [gUn _ _ _ (by omega)]
        unfold nx
        by_cases hc : j = aN A - 1
        · rw [hc, gUs, if_neg (by omega), if_pos (by omega)]
        · rw [gUo _ _ _ hc, g5 j hj]
          by_cases hd : j < aF A
          · rw [if_pos hd]
            by_cases he : j + 1 = aF A
            · rw [if_pos ⟨hd, he⟩, if_pos he]; rfl
            · rw [if_neg (by omega), if_neg he]; rfl
          · rw [if_neg hd, if_neg (by omega), if_neg (by omega)]; rfl
      · intro j hj
        unfold pv
        by_cases hc : j = aF A
        · rw [hc, gUs, if_neg (by omega), if_pos rfl]; omega
        · rw [gUo _ _ _ hc, gUn _ _ _ (by omega), g6 j hj]
          by_cases hd : j < aF A
          · rw [if_pos hd]
            by_cases he : j = 0
            · rw [if_pos ⟨hd, he⟩, if_pos he]; omega
            · rw [if_neg (by omega), if_neg he]; omega
          · rw [if_neg hd, if_neg (by omega), if_neg hc]; omega
      · rw [gUn _ _ _ (by omega), gUn _ _ _ (by omega), g1, q0]
      · rw [gUn _ _ _ (by omega), gUn _ _ _ (by omega), g1, q1, h1]
      · rw [gUn _ _ _ (by omega), gUn _ _ _ (by omega), g1, q2, h2]
      · rw [gU_n _ _ _ (by omega), gU_n _ _ _ (by omega), g2, q4]
      · rw [gU_n _ _ _ (by omega), gU_n _ _ _ (by omega), g3, q5]
