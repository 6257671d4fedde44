theorem K_test {T : Nat → Int} (hT : TB T) {L : Nat} (hL : L ≤ 400) {I : Nat → Nat → pR} (hI : It L true I) {f d : Nat} (h : KIt T L I (fr_RuleText_readLevel f 1 (d : Int) 0 0)) : KIt T L (pT T L I) (fr_RuleText_readLevel (f + 3) 0 ((0 : Nat) : Int) (d : Int) 0) := by
  have h2 : KIt T L I (fr_RuleText_readLevel (f + 1) 0 ((1 + 1 : Nat) : Int) (d : Int) 0) := by
    intro c p n s hn hX
    rw [fr_0]
    unfold f_RuleText_readLevel
    rw [if_pos (by decide), bind_id]
    exact h c p n s hn hX
  have h1 : KIt T L (pSq T L I 1) (fr_RuleText_readLevel (f + 2) 0 ((0 + 1 : Nat) : Int) (d : Int) 0) := wp_K_lv hT (lv := 1) (by omega) hI h2
  exact wp_K_lv hT (lv := 0) (by omega) (It_Sq hL hI (fun _ => by decide)).1 h1
theorem K_fact {T : Nat → Int} (hT : TB T) {L : Nat} (hL : L ≤ 400) : ∀ (e f d : Nat), d + e = 10 → 5 + 4 * e ≤ f → KIt T L (pF T L e) (fr_RuleText_readLevel f 1 (d : Int) 0 0) := by
  intro e
  induction e with
  | zero =>
    intro f d hd hf c p n s hn hX
    obtain ⟨f, rfl⟩ : ∃ f', f = f' + 5 := ⟨f - 5, by omega⟩
    have hd10 : d = 10 := by omega
    subst hd10
    have hb := bl_le (T := T) hX.1.2.1
    have hbb : bl T L (bl T L p) = bl T L p := bl_bl _ _ rfl
    have hX1 := KXr_u hX hb.2
    have ew : f_Tape_seesWord 4 s = _ := e_seesWord hX.1 (w := 4) (by decide)
    rw [show f + 5 = (f + 4) + 1 from rfl, fr_1, pF_0]
    unfold f_RuleText_readFact isN
    rw [ew, Option.bind_some]
    dsimp only
    have hfr : kfr s (gU s 1 2 ((bl T L p : Nat) : Int)) := kfr_1 _ _ _
    generalize bl T L p = q at *
    generalize gU s 1 2 ((q : Nat) : Int) = s1 at *
    have el : f_Tape_look s1 = some (sgn T L q, s1) := by rw [e_look hX1.1, hbb, gU_id hX1.1.2.2.2.1]
    have e15 : ∀ x3 : Int, wp (f_RuleText_readFact_15 (fr_RuleText_readLevel (f + 4)) ((10 : Nat) : Int) x3 s1) (kpo T L c (.inl (flt q 2)) s) := by
      intro x3
      have ef : f_Tape_fail 2 s1 = some (gU s1 1 3 ((flt q 2 : Nat) : Int)) := e_failX (k := 2) hX1 (by decide)
      unfold f_RuleText_readFact_15
      rw [if_neg (by decide), ef, Option.bind_some, wp_some]
      exact kpo_l (kfr_t hfr (kfr_1 _ _ _)) (KXr_e hX1 (flt_0 _ _))
    by_cases hs : std T L q (kstrs.getD 4 []) = true
    · rw [if_pos hs, if_neg (by decide), if_pos (Or.inl hs)]
      exact e15 1
    · rw [if_neg hs, if_pos rfl, el, Option.bind_some]
      dsimp only
      by_cases h9 : q < L ∧ T q = 91
      · rw [if_pos ((sgn_eq hT (by decide) (by decide)).mpr h9), if_pos (Or.inr h9)]
        exact e15 0
      · rw [if_neg (fun z => h9 ((sgn_eq hT (by decide) (by decide)).mp z)), if_neg (fun z => z.elim hs h9), bind_id]
        exact (K_cmp hT hL f 10 c q n s1 hn hX1).mono (fun t ht => kpo_t hfr ht)
  | succ e ih =>
    intro f d hd hf c p n s hn hX
    obtain ⟨f, rfl⟩ : ∃ f', f = f' + 5 := ⟨f - 5, by omega⟩
    have hb := bl_le (T := T) hX.1.2.1
    have hbb : bl T L (bl T L p) = bl T L p := bl_bl _ _ rfl
    have hX1 := KXr_u hX hb.2
    have ew : f_Tape_seesWord 4 s = _ := e_seesWord hX.1 (w := 4) (by decide)
    rw [show f + 5 = (f + 4) + 1 from rfl, fr_1, pF_s]
    unfold f_RuleText_readFact isN
    rw [ew, Option.bind_some]
    dsimp only
    have hfr : kfr s (gU s 1 2 ((bl T L p : Nat) : Int)) := kfr_1 _ _ _
    generalize bl T L p = q at *
    generalize gU s 1 2 ((q : Nat) : Int) = s1 at *
    have el : f_Tape_look s1 = some (sgn T L q, s1) := by rw [e_look hX1.1, hbb, gU_id hX1.1.2.2.2.1]
    by_cases hs : std T L q (kstrs.getD 4 []) = true
    · have hl : q + 3 ≤ L := std_len hb.2 hs
      have et : f_Tape_takeWord 4 s1 = some (1, gU s1 1 2 ((q + 3 : Nat) : Int)) := by
        have e4 : f_Tape_takeWord 4 s1 = _ := e_takeWord hX1.1 (w := 4) (by decide)
        rw [hbb, if_pos hs] at e4
        exact e4
      rw [if_pos hs, if_neg (by decide), if_pos hs]
      unfold f_RuleText_readFact_15
      rw [if_pos (by omega), if_neg (by decide), et, Option.bind_some]
      dsimp only
      have hX2 := KXr_u hX1 hl
      have hf2 : kfr s1 (gU s1 1 2 ((q + 3 : Nat) : Int)) := kfr_1 _ _ _
      generalize gU s1 1 2 ((q + 3 : Nat) : Int) = s2 at *
      obtain ⟨t, g1, ht⟩ := ih (f + 4) (d + 1) (by omega) (by omega) c (q + 3) n s2 hn hX2
      rw [wI_s (show d < 2147483647 by omega), g1, Option.bind_some]
      cases hr : pF T L e (q + 3) n with
      | inl e0 =>
        rw [hr] at ht
        obtain ⟨t1, t2⟩ := ht
        obtain ⟨u, g2, u1, u2⟩ := e_emitE t2 (-22)
        rw [g2, Option.bind_some, bR_l, wp_some]
        exact kpo_l (kfr_t (kfr_t hfr hf2) (kfr_t t1 u2)) u1
      | inr y =>
        obtain ⟨c1, p1, n1⟩ := y
        rw [hr] at ht
        obtain ⟨t1, t2⟩ := ht
        dsimp only at t2
        obtain ⟨u, g2, u1, u2⟩ := e_emitX (x := -22) t2 (by decide)
        rw [g2, Option.bind_some, bR_r, wp_some]
        refine kpo_r (kfr_t (kfr_t hfr hf2) (kfr_t t1 u2)) ?_
        rw [← List.append_assoc]
        exact u1
    · rw [if_neg hs, if_pos rfl, el, Option.bind_some, if_neg hs]
      dsimp only
      by_cases h9 : q < L ∧ T q = 91
      · rw [if_pos ((sgn_eq hT (by decide) (by decide)).mpr h9), if_pos h9]
        have et : f_Tape_takeSign 91 s1 = some (1, gU s1 1 2 ((q + 1 : Nat) : Int)) := by
          have e4 : f_Tape_takeSign 91 s1 = some (if q < L ∧ T q = 91 then (1, gU s1 1 2 ((q + 1 : Nat) : Int)) else (0, s1)) := e_takeS hT hX1.1 hbb (k := 91) (by decide)
          rw [if_pos h9] at e4
          exact e4
        unfold f_RuleText_readFact_15
        rw [if_pos (by omega), if_pos rfl, et, Option.bind_some]
        dsimp only
        have hX2 := KXr_u hX1 (show q + 1 ≤ L by omega)
        have hf2 : kfr s1 (gU s1 1 2 ((q + 1 : Nat) : Int)) := kfr_1 _ _ _
        generalize gU s1 1 2 ((q + 1 : Nat) : Int) = s2 at *
        have hF := It_F (T := T) hL e
        have hTT := It_T (T := T) hL hF
        obtain ⟨t, g1, ht⟩ := K_test hT hL hF (ih (f + 1) (d + 1) (by omega) (by omega)) c (q + 1) n s2 hn hX2
        have g1' : fr_RuleText_readLevel (f + 4) 0 0 ((d + 1 : Nat) : Int) 0 s2 = some t := g1
        rw [wI_s (show d < 2147483647 by omega), g1', Option.bind_some]
        cases hr : pT T L (pF T L e) (q + 1) n with
        | inl e0 =>
          rw [hr] at ht
          obtain ⟨t1, t2⟩ := ht
          rw [if_neg (by rw [t2.2.1]; have := t2.2.2.1; omega), bR_l, wp_some]
          exact kpo_l (kfr_t (kfr_t hfr hf2) t1) t2
        | inr y =>
          obtain ⟨c1, p1, n1⟩ := y
          rw [hr] at ht
          obtain ⟨t1, t2⟩ := ht
          dsimp only at t2
          have hb1 := hTT.2 (q + 1) n c1 p1 n1 (by omega) hn hr
          rw [if_pos t2.2.1, bR_r]
          have et2 : f_Tape_takeSign 93 t = some (if p1 < L ∧ T p1 = 93 then (1, gU t 1 2 ((p1 + 1 : Nat) : Int)) else (0, t)) := e_takeS hT t2.1 hb1 (k := 93) (by decide)
          rw [et2, Option.bind_some]
          by_cases h3 : p1 < L ∧ T p1 = 93
          · rw [if_pos h3, if_pos h3]
            dsimp only
            rw [if_neg (by decide), wp_some]
            exact kpo_r (kfr_t (kfr_t hfr hf2) (kfr_t t1 (kfr_1 _ _ _))) (KXr_u t2 (by omega))
          · have ef : f_Tape_fail 0 t = some (gU t 1 3 ((flt p1 0 : Nat) : Int)) := e_failX (k := 0) t2 (by decide)
            rw [if_neg h3, if_neg h3]
            dsimp only
            rw [if_pos rfl, ef, Option.bind_some, wp_some]
            exact kpo_l (kfr_t (kfr_t hfr hf2) (kfr_t t1 (kfr_1 _ _ _))) (KXr_e t2 (flt_0 _ _))
      · rw [if_neg (fun z => h9 ((sgn_eq hT (by decide) (by decide)).mp z)), if_neg h9, bind_id]
        exact (K_cmp hT hL f d c q n s1 hn hX1).mono (fun t ht => kpo_t hfr ht)
/-- one clause -/
def jnK (a : Nat) (c : List Int) : List Int := if a = 0 then c else c ++ [-21]
theorem K_clause {T : Nat → Int} (hT : TB T) {L : Nat} {a : Nat} (ha : a ≤ 12) {c : List Int} {p n : Nat} {s : kM} (hn : n ≤ 60) (hX : KXr T L c p n s) : wp (f_RuleText_readClause (a : Int) s) (fun t => kpo T L c (bR (pCl T L a p n) (fun c' p' n' => .inr (jnK a c', p', n'))) s t) := by
  have hL := hX.1.1
  have hb := bl_le (T := T) hX.1.2.1
  have hbb : bl T L (bl T L p) = bl T L p := bl_bl _ _ rfl
  have hX1 := KXr_u hX hb.2
  have ew : f_Tape_seesWord 3 s = _ := e_seesWord hX.1 (w := 3) (by decide)
  unfold f_RuleText_readClause pCl
  rw [ew, Option.bind_some]
  dsimp only
  have hfr : kfr s (gU s 1 2 ((bl T L p : Nat) : Int)) := kfr_1 _ _ _
  generalize bl T L p = q at *
  generalize gU s 1 2 ((q : Nat) : Int) = s1 at *
  by_cases hs : std T L q (kstrs.getD 3 []) = true
  · have hl : q + 3 ≤ L := std_len hb.2 hs
    rw [if_pos hs, if_neg (by decide), if_pos hs]
    by_cases h12 : a = 12
    · have ef : f_Tape_fail 4 s1 = some (gU s1 1 3 ((flt q 4 : Nat) : Int)) := e_failX (k := 4) hX1 (by decide)
      rw [if_pos h12, if_pos (by omega), ef, Option.bind_some, wp_some, bR_l]
      exact kpo_l (kfr_t hfr (kfr_1 _ _ _)) (KXr_e hX1 (flt_0 _ _))
    · have et : f_Tape_takeWord 3 s1 = some (1, gU s1 1 2 ((q + 3 : Nat) : Int)) := by
        have e4 : f_Tape_takeWord 3 s1 = _ := e_takeWord hX1.1 (w := 3) (by decide)
        rw [hbb, if_pos hs] at e4
        exact e4
      rw [if_neg h12, if_neg (by omega), et, Option.bind_some]
      dsimp only
      have hX2 := KXr_u hX1 hl
      have hf2 : kfr s1 (gU s1 1 2 ((q + 3 : Nat) : Int)) := kfr_1 _ _ _
      generalize gU s1 1 2 ((q + 3 : Nat) : Int) = s2 at *
      have hF := It_F (T := T) hL 10
      obtain ⟨t, g1, ht⟩ := K_test hT hL hF (K_fact hT hL 10 57 0 (by omega) (by omega)) c (q + 3) n s2 hn hX2
      have g1' : fr_RuleText_readLevel 60 0 0 0 0 s2 = some t := g1
      rw [g1', Option.bind_some]
      cases hr : pT T L (pF T L 10) (q + 3) n with
      | inl e0 =>
        rw [hr] at ht
        obtain ⟨t1, t2⟩ := ht
        rw [bR_l]
        by_cases h0 : (a : Int) ≤ 0
        · rw [if_pos h0, wp_some]
          exact kpo_l (kfr_t (kfr_t hfr hf2) t1) t2
        · obtain ⟨u, g2, u1, u2⟩ := e_emitE t2 (-21)
          rw [if_neg h0, g2, Option.bind_some, wp_some]
          exact kpo_l (kfr_t (kfr_t hfr hf2) (kfr_t t1 u2)) u1
      | inr y =>
        obtain ⟨c1, p1, n1⟩ := y
        rw [hr] at ht
        obtain ⟨t1, t2⟩ := ht
        dsimp only at t2
        rw [bR_r]
        unfold jnK
        by_cases h0 : a = 0
        · rw [if_pos (by omega), if_pos h0, wp_some]
          exact kpo_r (kfr_t (kfr_t hfr hf2) t1) t2
        · obtain ⟨u, g2, u1, u2⟩ := e_emitX (x := -21) t2 (by decide)
          rw [if_neg (by omega), if_neg h0, g2, Option.bind_some, wp_some]
          refine kpo_r (kfr_t (kfr_t hfr hf2) (kfr_t t1 u2)) ?_
          rw [← List.append_assoc]
          exact u1
  · have ef : f_Tape_fail 0 s1 = some (gU s1 1 3 ((flt q 0 : Nat) : Int)) := e_failX (k := 0) hX1 (by decide)
    rw [if_neg hs, if_pos rfl, if_neg hs, ef, Option.bind_some, wp_some, bR_l]
    exact kpo_l (kfr_t hfr (kfr_1 _ _ _)) (KXr_e hX1 (flt_0 _ _))
