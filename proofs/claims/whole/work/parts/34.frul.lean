theorem e_seenSign {T : Nat → Int} (hT : TB T) {L q : Nat} {s : kM} (h : KTp T L q s) (hq : bl T L q = q) : f_RuleText_seenSign s = some (csg T L q, s) := by
  obtain ⟨h1, h2, h3, h4, h5⟩ := h
  have key : ∀ y : Int, (y = 0 ∧ ¬ (q + 1 < L ∧ T (q + 1) = 61)) ∨ (y = 1 ∧ (q + 1 < L ∧ T (q + 1) = 61)) → f_RuleText_seenSign_22 (sgn T L q) y s = some (csg T L q, s) := by
    intro y hy
    unfold f_RuleText_seenSign_22 csg
    by_cases c0 : q < L ∧ T q = 60
    · have e0 : sgn T L q = 60 := (sgn_eq hT (by decide) (by decide)).mpr c0
      rw [e0, if_pos rfl, if_neg (show ¬ (q < L ∧ T q = 61) by omega), if_pos c0]
      rcases hy with ⟨hy, hn⟩ | ⟨hy, hn⟩
      · rw [if_pos hy, if_neg hn]
      · rw [if_neg (by omega), if_pos hn]
    · have n0 : ¬ sgn T L q = 60 := fun z => c0 ((sgn_eq hT (by decide) (by decide)).mp z)
      rw [if_neg n0]
      by_cases c1 : q < L ∧ T q = 61
      · have e0 : sgn T L q = 61 := (sgn_eq hT (by decide) (by decide)).mpr c1
        rw [if_pos e0, if_pos c1]
      · have n1 : ¬ sgn T L q = 61 := fun z => c1 ((sgn_eq hT (by decide) (by decide)).mp z)
        rw [if_neg n1, if_neg c1, if_neg c0]
        by_cases c2 : q < L ∧ T q = 62
        · have e0 : sgn T L q = 62 := (sgn_eq hT (by decide) (by decide)).mpr c2
          rw [if_pos e0, if_pos c2]
          rcases hy with ⟨hy, hn⟩ | ⟨hy, hn⟩
          · rw [if_pos hy, if_neg hn]
          · rw [if_neg (by omega), if_pos hn]
        · have n2 : ¬ sgn T L q = 62 := fun z => c2 ((sgn_eq hT (by decide) (by decide)).mp z)
          rw [if_neg n2, if_neg c2]
  have el : f_Tape_look s = some (sgn T L q, s) := by rw [e_look ⟨h1, h2, h3, h4, h5⟩, hq, gU_id h4]
  unfold f_RuleText_seenSign f_RuleText_seenSign_21
  rw [el, Option.bind_some]
  dsimp only
  have ei : wI (s 1 2 + 1) = ((q + 1 : Nat) : Int) := by rw [h4]; exact wI_s (by omega)
  by_cases hl : q + 1 < L
  · rw [if_neg (by rw [h3, ei]; clear ei; omega), ei, gI_n (show q + 1 < 400 by clear ei; omega), Option.bind_some]
    clear ei
    by_cases h61 : T (q + 1) = 61
    · rw [if_pos (by rw [h5]; exact h61)]
      exact key 1 (Or.inr ⟨rfl, hl, h61⟩)
    · rw [if_neg (by rw [h5]; exact h61)]
      exact key 0 (Or.inl ⟨rfl, fun z => h61 z.2⟩)
  · rw [if_pos (by rw [h3, ei]; clear ei; omega)]
    exact key 0 (Or.inl ⟨rfl, fun z => hl z.1⟩)
theorem fr_0 (f : Nat) (x2 x3 y : Int) (s : kM) : fr_RuleText_readLevel (f + 1) 0 x2 x3 y s = f_RuleText_readLevel (fr_RuleText_readLevel f) x2 x3 s := rfl
theorem fr_1 (f : Nat) (x2 x3 y : Int) (s : kM) : fr_RuleText_readLevel (f + 1) 1 x2 x3 y s = f_RuleText_readFact (fr_RuleText_readLevel f) x2 s := rfl
theorem fr_2 (f : Nat) (x2 x3 y : Int) (s : kM) : fr_RuleText_readLevel (f + 1) 2 x2 x3 y s = f_RuleText_readComparison (fr_RuleText_readLevel f) x2 s := rfl
theorem bind_id {α : Type} (x : Option α) : (x.bind fun q => some q) = x := by cases x <;> rfl
theorem K_5 {T : Nat → Int} (hT : TB T) {L : Nat} (f d : Nat) : KIt T L (pV T L) (fr_RuleText_readLevel (f + 1) 0 ((4 + 1 : Nat) : Int) (d : Int) 0) := by
  intro c p n s hn hX
  rw [fr_0]
  unfold f_RuleText_readLevel
  rw [if_neg (by decide), if_pos (by decide), bind_id]
  exact wp_K_value hT c p n s hn hX
theorem K_3 {T : Nat → Int} (hT : TB T) {L : Nat} (hL : L ≤ 400) (f d : Nat) : KIt T L (pSm T L) (fr_RuleText_readLevel (f + 3) 0 ((2 + 1 : Nat) : Int) (d : Int) 0) := by
  have h4 : KIt T L (pSq T L (pV T L) 4) (fr_RuleText_readLevel (f + 2) 0 ((3 + 1 : Nat) : Int) (d : Int) 0) := wp_K_lv hT (lv := 4) (by omega) It_V (K_5 hT f d)
  exact wp_K_lv hT (lv := 3) (by omega) (It_Sq hL It_V (fun h => (by cases h))).1 h4
theorem K_cmp {T : Nat → Int} (hT : TB T) {L : Nat} (hL : L ≤ 400) (f d : Nat) : KIt T L (pC T L) (fr_RuleText_readLevel (f + 4) 2 (d : Int) 0 0) := by
  intro c p n s hn hX
  rw [show f + 4 = (f + 3) + 1 from rfl, fr_2]
  have hp := hX.1.2.1
  obtain ⟨t, g1, ht⟩ := K_3 hT hL f d c p n s hn hX
  have g1' : fr_RuleText_readLevel (f + 3) 0 3 (d : Int) 0 s = some t := g1
  obtain ⟨hS, hSb⟩ := It_Sm (T := T) hL
  obtain ⟨i1, i2⟩ := hS p n hp hn
  unfold f_RuleText_readComparison pC
  rw [g1', Option.bind_some]
  cases hr : pSm T L p n with
  | inl e0 =>
    rw [hr] at ht
    obtain ⟨t1, t2⟩ := ht
    rw [if_neg (by rw [t2.2.1]; have := t2.2.2.1; omega), bR_l, wp_some]
    exact kpo_l t1 t2
  | inr y =>
    obtain ⟨c1, q, n1⟩ := y
    rw [hr] at ht
    obtain ⟨t1, t2⟩ := ht
    dsimp only at t2
    obtain ⟨⟨v1, v2, v3, v4⟩, v5, v6, v7⟩ := i2 c1 q n1 hr
    have hbq := hSb p n c1 q n1 hp hn hr
    rw [if_pos t2.2.1, bR_r, e_seenSign hT t2.1 hbq, Option.bind_some]
    dsimp only
    by_cases hc : csg T L q = 0
    · have ef : f_Tape_fail 0 t = some (gU t 1 3 ((flt q 0 : Nat) : Int)) := e_failX (k := 0) t2 (by decide)
      rw [if_pos hc, if_pos hc, ef, Option.bind_some, wp_some]
      exact kpo_l (kfr_t t1 (kfr_1 _ _ _)) (KXr_e t2 (flt_0 _ _))
    · rw [if_neg hc, if_neg hc]
      by_cases h6 : n1 < 60
      · obtain ⟨x1, x2⟩ := csg_i hc
        have hX2 := KXr_n t2 h6
        rw [if_pos (by rw [t2.2.2.1]; omega), if_pos h6, gLet_eq]
        have hfu : kfr t (gU t 54 2 (wI (t 54 2 + 1))) := kfr_54 _ _ _
        generalize gU t 54 2 (wI (t 54 2 + 1)) = u at hX2 hfu
        have fin : ∀ k : Nat, k = csl (csg T L q) → wp (f_RuleText_readComparison_44 (fr_RuleText_readLevel (f + 3)) (d : Int) (csg T L q) (u 1 2) (k : Int) u) (kpo T L c (bR (pSm T L (q + csl (csg T L q)) (n1 + 1)) (fun c2 q2 n2 => .inr (c1 ++ c2 ++ [csg T L q], q2, n2))) s) := by
          intro k hk
          rw [← hk] at x2 ⊢
          have hX3 := KXr_u hX2 x2.2
          unfold f_RuleText_readComparison_44
          rw [hX2.1.2.2.2.1, wI_add2 (by omega), gLet_eq]
          obtain ⟨z, g2, hz⟩ := K_3 hT hL f d (c ++ c1) (q + k) (n1 + 1) _ (by omega) hX3
          have g2' : fr_RuleText_readLevel (f + 3) 0 3 (d : Int) 0 (gU u 1 2 ((q + k : Nat) : Int)) = some z := g2
          rw [g2', Option.bind_some]
          cases hr2 : pSm T L (q + k) (n1 + 1) with
          | inl e0 =>
            rw [hr2] at hz
            obtain ⟨z1, z2⟩ := hz
            obtain ⟨y, g3, y1, y2⟩ := e_emitE z2 (csg T L q)
            rw [g3, Option.bind_some, bR_l, wp_some]
            exact kpo_l (kfr_t (kfr_t t1 hfu) (kfr_t (kfr_1 _ _ _) (kfr_t z1 y2))) y1
          | inr w =>
            obtain ⟨c2, q2, n2⟩ := w
            rw [hr2] at hz
            obtain ⟨z1, z2⟩ := hz
            dsimp only at z2
            obtain ⟨y, g3, y1, y2⟩ := e_emitX (x := csg T L q) z2 (by omega)
            rw [g3, Option.bind_some, bR_r, wp_some]
            refine kpo_r (kfr_t (kfr_t t1 hfu) (kfr_t (kfr_1 _ _ _) (kfr_t z1 y2))) ?_
            rw [← List.append_assoc, ← List.append_assoc]
            exact y1
        by_cases h16 : csg T L q = -16
        · rw [if_pos h16]
          unfold f_RuleText_readComparison_41
          exact fin 2 (by unfold csl; rw [if_pos (Or.inl h16)])
        · rw [if_neg h16]
          by_cases h18 : csg T L q = -18
          · rw [if_pos h18]
            unfold f_RuleText_readComparison_41
            exact fin 2 (by unfold csl; rw [if_pos (Or.inr h18)])
          · rw [if_neg h18]
            exact fin 1 (by unfold csl; rw [if_neg (fun z => z.elim h16 h18)])
      · have ef : f_Tape_fail 3 t = some (gU t 1 3 ((flt q 3 : Nat) : Int)) := e_failX (k := 3) t2 (by decide)
        rw [if_neg (by rw [t2.2.2.1]; omega), if_neg h6, ef, Option.bind_some, wp_some]
        exact kpo_l (kfr_t t1 (kfr_1 _ _ _)) (KXr_e t2 (flt_0 _ _))
