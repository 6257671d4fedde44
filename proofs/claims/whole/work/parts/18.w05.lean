/-! PRINTED by wip/whole/decall.py: frames -/
def W_M_test : List Nat := [85, 106, 107, 111]
theorem w_M_test_104 (x1 : Int) (x2 : Int) (s0 s : kM) (h0 : Fr (W_M_test) s0 s) (t : (Int × Int × kM) ⊕ (kM)) (hf : f_M_test_104 x1 x2 s = some t) : (gE (fun x => Fr (W_M_test) s0 x.2.2) (fun r => Fr (W_M_test) s0 r)) t := by
  unfold f_M_test_104 at hf
  cases hf
  exact h0
theorem w_M_test_62 (x2 : Int) (y1 : Int) (y2 : Int) (s0 s : kM) (h0 : Fr (W_M_test) s0 s) (t : (Int × Int × kM) ⊕ (kM)) (hf : f_M_test_62 x2 y1 y2 s = some t) : (gE (fun x => Fr (W_M_test) s0 x.2.2) (fun r => Fr (W_M_test) s0 r)) t := by
  unfold f_M_test_62 at hf
  obtain ⟨s1, ee2, hf⟩ := gbL hf
  have hF3 : Fr (W_M_test) s0 s1 := by rw [ee2]; exact Fr.u h0 (by simp [W_M_test])
  exact w_M_test_104 1 x2 s0 s1 hF3 _ hf
theorem w_M_test_53 (x2 : Int) (x3 : Int) (y1 : Int) (s0 s : kM) (h0 : Fr (W_M_test) s0 s) (t : (Int × Int × kM) ⊕ (kM)) (hf : f_M_test_53 x2 x3 y1 s = some t) : (gE (fun x => Fr (W_M_test) s0 x.2.2) (fun r => Fr (W_M_test) s0 r)) t := by
  unfold f_M_test_53 at hf
  obtain ⟨q1, hq1, hf⟩ := gbind hf
  have hF2 : Fr (W_M_test) s0 q1 := Fr.c h0 (w_M_opens y1 s _ hq1) (by intro a ha; simp only [W_M_test, W_M_opens, List.mem_cons, List.not_mem_nil, or_false, not_or] at ha ⊢; omega)
  by_cases c3 : x3 = 0
  · have hf := gift c3 hf
    exact w_M_test_62 x2 (q1 85 22) 2 s0 q1 hF2 _ hf
  · have hf := giff c3 hf
    exact w_M_test_62 x2 (q1 85 22) 3 s0 q1 hF2 _ hf
theorem w_M_test_47 (x2 : Int) (x3 : Int) (s0 s : kM) (h0 : Fr (W_M_test) s0 s) (t : (Int × Int × kM) ⊕ (kM)) (hf : f_M_test_47 x2 x3 s = some t) : (gE (fun x => Fr (W_M_test) s0 x.2.2) (fun r => Fr (W_M_test) s0 r)) t := by
  unfold f_M_test_47 at hf
  by_cases c1 : x3 = 0
  · have hf := gift c1 hf
    exact w_M_test_53 x2 x3 11 s0 s h0 _ hf
  · have hf := giff c1 hf
    exact w_M_test_53 x2 x3 10 s0 s h0 _ hf
theorem w_M_test_42 (x2 : Int) (x3 : Int) (x4 : Int) (s0 s : kM) (h0 : Fr (W_M_test) s0 s) (t : (Int × Int × kM) ⊕ (kM)) (hf : f_M_test_42 x2 x3 x4 s = some t) : (gE (fun x => Fr (W_M_test) s0 x.2.2) (fun r => Fr (W_M_test) s0 r)) t := by
  unfold f_M_test_42 at hf
  by_cases c1 : x4 = 0
  · have hf := gift c1 hf
    exact w_M_test_47 x2 x3 s0 s h0 _ hf
  · have hf := giff c1 hf
    obtain ⟨q2, hq2, hf⟩ := gbind hf
    have hF3 : Fr (W_M_test) s0 q2 := Fr.c h0 (w_M_answers 11 s _ hq2) (by intro a ha; simp only [W_M_test, W_M_answers, List.mem_cons, List.not_mem_nil, or_false, not_or] at ha ⊢; omega)
    exact w_M_test_47 x2 x3 s0 q2 hF3 _ hf
theorem w_M_test_83 (x1 : Int) (x2 : Int) (s0 s : kM) (h0 : Fr (W_M_test) s0 s) (t : (Int × Int × kM) ⊕ (kM)) (hf : f_M_test_83 x1 x2 s = some t) : (gE (fun x => Fr (W_M_test) s0 x.2.2) (fun r => Fr (W_M_test) s0 r)) t := by
  unfold f_M_test_83 at hf
  obtain ⟨s1, ee2, hf⟩ := gbL hf
  have hF3 : Fr (W_M_test) s0 s1 := by rw [ee2]; exact Fr.u h0 (by simp [W_M_test])
  obtain ⟨s4, ee5, hf⟩ := gbL hf
  have hF6 : Fr (W_M_test) s0 s4 := by rw [ee5]; exact Fr.u hF3 (by simp [W_M_test])
  obtain ⟨s7, ee8, hf⟩ := gbL hf
  have hF9 : Fr (W_M_test) s0 s7 := by rw [ee8]; exact Fr.u hF6 (by simp [W_M_test])
  exact w_M_test_104 x1 x2 s0 s7 hF9 _ hf
theorem w_M_test_20 (x2 : Int) (y0 : Int) (s0 s : kM) (h0 : Fr (W_M_test) s0 s) (t : (Int × Int × kM) ⊕ (kM)) (hf : f_M_test_20 x2 y0 s = some t) : (gE (fun x => Fr (W_M_test) s0 x.2.2) (fun r => Fr (W_M_test) s0 r)) t := by
  unfold f_M_test_20 at hf
  cases hf
  exact h0
theorem w_M_test_7b (x1 : Int) (x2 : Int) (s0 s : kM) (h0 : Fr (W_M_test) s0 s) (t : (Int × Int × kM) ⊕ (kM)) (hf : f_M_test_7b x1 x2 s = some t) : (gE (fun x => Fr (W_M_test) s0 x.2.2) (fun r => Fr (W_M_test) s0 r)) t := by
  unfold f_M_test_7b at hf
  by_cases c1 : x2 = 0
  · have hf := gift c1 hf
    cases hf
    exact h0
  · have hf := giff c1 hf
    by_cases c2 : (s 85 23) = 0
    · have hf := gift c2 hf
      by_cases c3 : x1 = 0
      · have hf := gift c3 hf
        obtain ⟨q4, hq4, hf⟩ := gbind hf
        have hF5 : Fr (W_M_test) s0 q4 := Fr.c h0 (w_M_answers 9 s _ hq4) (by intro a ha; simp only [W_M_test, W_M_answers, List.mem_cons, List.not_mem_nil, or_false, not_or] at ha ⊢; omega)
        obtain ⟨q6, hq6, hf⟩ := gbind hf
        have hF7 : Fr (W_M_test) s0 q6 := Fr.c hF5 (w_M_blanks q4 _ hq6) (by intro a ha; simp only [W_M_test, W_M_blanks, List.mem_cons, List.not_mem_nil, or_false, not_or] at ha ⊢; omega)
        obtain ⟨q8, hq8, hf⟩ := gbind hf
        obtain ⟨q9, hq9, hf⟩ := gbind hf
        obtain ⟨q10, hq10, hf⟩ := gbind hf
        have hF11 : Fr (W_M_test) s0 q10 := Fr.c hF7 (w_M_answers 10 q6 _ hq10) (by intro a ha; simp only [W_M_test, W_M_answers, List.mem_cons, List.not_mem_nil, or_false, not_or] at ha ⊢; omega)
        by_cases c12 : q8 = 0
        · have hf := gift c12 hf
          by_cases c13 : q9 = 0
          · have hf := gift c13 hf
            obtain ⟨q14, hq14, hf⟩ := gbind hf
            have hF15 : Fr (W_M_test) s0 q14 := Fr.c hF11 (w_M_answers 11 q10 _ hq14) (by intro a ha; simp only [W_M_test, W_M_answers, List.mem_cons, List.not_mem_nil, or_false, not_or] at ha ⊢; omega)
            obtain ⟨q16, hq16, hf⟩ := gbind hf
            by_cases c17 : q16 = 12
            · have hf := gift c17 hf
              obtain ⟨q18, hq18, hf⟩ := gbind hf
              by_cases c19 : q18 = 93
              · have hf := gift c19 hf
                exact w_M_test_83 x1 x2 s0 q14 hF15 _ hf
              · have hf := giff c19 hf
                obtain ⟨q20, hq20, hf⟩ := gbind hf
                have hF21 : Fr (W_M_test) s0 q20 := Fr.c hF15 (w_M_fails 0 (q14 85 22) q14 _ hq20) (by intro a ha; simp only [W_M_test, W_M_fails, List.mem_cons, List.not_mem_nil, or_false, not_or] at ha ⊢; omega)
                exact w_M_test_83 x1 x2 s0 q20 hF21 _ hf
            · have hf := giff c17 hf
              exact w_M_test_104 x1 0 s0 q14 hF15 _ hf
          · have hf := giff c13 hf
            exact w_M_test_42 x2 q8 q9 s0 q10 hF11 _ hf
        · have hf := giff c12 hf
          exact w_M_test_42 x2 q8 q9 s0 q10 hF11 _ hf
      · have hf := giff c3 hf
        obtain ⟨q22, hq22, hf⟩ := gbind hf
        have hF23 : Fr (W_M_test) s0 q22.2 := Fr.c h0 (w_M_fact s _ hq22) (by intro a ha; simp only [W_M_test, W_M_fact, List.mem_cons, List.not_mem_nil, or_false, not_or] at ha ⊢; omega)
        by_cases c24 : q22.1 = 0
        · have hf := gift c24 hf
          exact w_M_test_20 x2 1 s0 q22.2 hF23 _ hf
        · have hf := giff c24 hf
          exact w_M_test_20 x2 0 s0 q22.2 hF23 _ hf
    · have hf := giff c2 hf
      cases hf
      exact h0
theorem w_M_test_7 (x1 : Int) (x2 : Int) (s0 s : kM) (h0 : Fr (W_M_test) s0 s) (t : kM) (hf : f_M_test_7 x1 x2 s = some t) : (fun r => Fr (W_M_test) s0 r) t :=
  gL_fr (P := fun (x : Int × Int × kM) => Fr (W_M_test) s0 x.2.2) (q := (fun r => Fr (W_M_test) s0 r)) (fun x t hf h0 => w_M_test_7b x.1 x.2.1 s0 x.2.2 h0 t hf) gF (x1, x2, s) t hf h0
theorem w_M_test (s : kM) (t : kM) (hf : f_M_test s = some t) : Fr (W_M_test) s t := by
  unfold f_M_test at hf
  have h0 : Fr (W_M_test) s s := Fr.r
  obtain ⟨s1, ee2, hf⟩ := gbL hf
  have hF3 : Fr (W_M_test) s s1 := by rw [ee2]; exact Fr.u h0 (by simp [W_M_test])
  exact w_M_test_7 1 1 s s1 hF3 _ hf
def W_M_ruleClause : List Nat := [85, 106, 107, 109, 110, 111]
theorem w_M_ruleClause (x1 : Int) (s : kM) (t : kM) (hf : f_M_ruleClause x1 s = some t) : Fr (W_M_ruleClause) s t := by
  unfold f_M_ruleClause at hf
  have h0 : Fr (W_M_ruleClause) s s := Fr.r
  obtain ⟨q1, hq1, hf⟩ := gbind hf
  have hF2 : Fr (W_M_ruleClause) s q1 := Fr.c h0 (w_M_blanks s _ hq1) (by intro a ha; simp only [W_M_ruleClause, W_M_blanks, List.mem_cons, List.not_mem_nil, or_false, not_or] at ha ⊢; omega)
  obtain ⟨q3, hq3, hf⟩ := gbind hf
  by_cases c4 : q3 = 0
  · have hf := gift c4 hf
    obtain ⟨q23, hq23, hf⟩ := gbind hf
    have hF24 : Fr (W_M_ruleClause) s q23 := Fr.c hF2 (w_M_fails 0 (q1 85 22) q1 _ hq23) (by intro a ha; simp only [W_M_ruleClause, W_M_fails, List.mem_cons, List.not_mem_nil, or_false, not_or] at ha ⊢; omega)
    cases hf
    exact hF24
  · have hf := giff c4 hf
    by_cases c5 : x1 = 12
    · have hf := gift c5 hf
      obtain ⟨q21, hq21, hf⟩ := gbind hf
      have hF22 : Fr (W_M_ruleClause) s q21 := Fr.c hF2 (w_M_fails 4 (q1 85 22) q1 _ hq21) (by intro a ha; simp only [W_M_ruleClause, W_M_fails, List.mem_cons, List.not_mem_nil, or_false, not_or] at ha ⊢; omega)
      cases hf
      exact hF22
    · have hf := giff c5 hf
      obtain ⟨s6, ee7, hf⟩ := gbL hf
      have hF8 : Fr (W_M_ruleClause) s s6 := by rw [ee7]; exact Fr.u hF2 (by simp [W_M_ruleClause])
      obtain ⟨j9, i10, hf⟩ := gbI hf
      obtain ⟨s11, ee12, hf⟩ := gbL hf
      have hF13 : Fr (W_M_ruleClause) s s11 := by rw [ee12]; exact Fr.u hF8 (by simp [W_M_ruleClause])
      obtain ⟨q14, hq14, hf⟩ := gbind hf
      have hF15 : Fr (W_M_ruleClause) s q14 := Fr.c hF13 (w_M_test s11 _ hq14) (by intro a ha; simp only [W_M_ruleClause, W_M_test, List.mem_cons, List.not_mem_nil, or_false, not_or] at ha ⊢; omega)
      obtain ⟨j16, i17, hf⟩ := gbI hf
      obtain ⟨s18, ee19, hf⟩ := gbL hf
      have hF20 : Fr (W_M_ruleClause) s s18 := by rw [ee19]; exact Fr.u hF15 (by simp [W_M_ruleClause])
      cases hf
      exact hF20
def W_M_rule : List Nat := [85, 106, 107, 108, 109, 110, 111]
theorem w_M_rule_44 (y1 : Int) (y2 : Int) (s0 s : kM) (h0 : Fr (W_M_rule) s0 s) (t : Int × kM) (hf : f_M_rule_44 y1 y2 s = some t) : (fun r => Fr (W_M_rule) s0 r.2) t := by
  unfold f_M_rule_44 at hf
  obtain ⟨s1, ee2, hf⟩ := gbL hf
  have hF3 : Fr (W_M_rule) s0 s1 := by rw [ee2]; exact Fr.u h0 (by simp [W_M_rule])
  by_cases c4 : (s1 85 23) ≤ 0
  · have hf := gift c4 hf
    cases hf
    exact hF3
  · have hf := giff c4 hf
    cases hf
    exact hF3
theorem w_M_rule_16b (x1 : Int) (x2 : Int) (s0 s : kM) (h0 : Fr (W_M_rule) s0 s) (t : (Int × Int × kM) ⊕ (Int × kM)) (hf : f_M_rule_16b x1 x2 s = some t) : (gE (fun x => Fr (W_M_rule) s0 x.2.2) (fun r => Fr (W_M_rule) s0 r.2)) t := by
  unfold f_M_rule_16b at hf
  by_cases c1 : x2 = 0
  · have hf := gift c1 hf
    obtain ⟨s2, ee3, hf⟩ := gbL hf
    have hF4 : Fr (W_M_rule) s0 s2 := by rw [ee3]; exact Fr.u h0 (by simp [W_M_rule])
    obtain ⟨j5, i6, hf⟩ := gbI hf
    obtain ⟨s7, ee8, hf⟩ := gbL hf
    have hF9 : Fr (W_M_rule) s0 s7 := by rw [ee8]; exact Fr.u hF4 (by simp [W_M_rule])
    by_cases c10 : (s7 85 23) = 0
    · have hf := gift c10 hf
      obtain ⟨t13, hg14, rfl⟩ := gmap hf
      exact w_M_rule_44 (s7 85 25) 1 s0 s7 hF9 _ hg14
    · have hf := giff c10 hf
      obtain ⟨t11, hg12, rfl⟩ := gmap hf
      exact w_M_rule_44 (s7 85 25) 0 s0 s7 hF9 _ hg12
  · have hf := giff c1 hf
    obtain ⟨q15, hq15, hf⟩ := gbind hf
    have hF16 : Fr (W_M_rule) s0 q15 := Fr.c h0 (w_M_ruleClause x1 s _ hq15) (by intro a ha; simp only [W_M_rule, W_M_ruleClause, List.mem_cons, List.not_mem_nil, or_false, not_or] at ha ⊢; omega)
    obtain ⟨q17, hq17, hf⟩ := gbind hf
    have hF18 : Fr (W_M_rule) s0 q17.2 := Fr.c hF16 (w_M_goesOn q15 _ hq17) (by intro a ha; simp only [W_M_rule, W_M_goesOn, List.mem_cons, List.not_mem_nil, or_false, not_or] at ha ⊢; omega)
    cases hf
    exact hF18
theorem w_M_rule_16 (x1 : Int) (x2 : Int) (s0 s : kM) (h0 : Fr (W_M_rule) s0 s) (t : Int × kM) (hf : f_M_rule_16 x1 x2 s = some t) : (fun r => Fr (W_M_rule) s0 r.2) t :=
  gL_fr (P := fun (x : Int × Int × kM) => Fr (W_M_rule) s0 x.2.2) (q := (fun r => Fr (W_M_rule) s0 r.2)) (fun x t hf h0 => w_M_rule_16b x.1 x.2.1 s0 x.2.2 h0 t hf) gF (x1, x2, s) t hf h0
theorem w_M_rule (s : kM) (t : Int × kM) (hf : f_M_rule s = some t) : Fr (W_M_rule) s t.2 := by
  unfold f_M_rule at hf
  have h0 : Fr (W_M_rule) s s := Fr.r
  by_cases c1 : (s 85 25) = 6
  · have hf := gift c1 hf
    cases hf
    exact h0
  · have hf := giff c1 hf
    obtain ⟨s2, ee3, hf⟩ := gbL hf
    have hF4 : Fr (W_M_rule) s s2 := by rw [ee3]; exact Fr.u h0 (by simp [W_M_rule])
    obtain ⟨q5, hq5, hf⟩ := gbind hf
    have hF6 : Fr (W_M_rule) s q5 := Fr.c hF4 (w_M_starts s2 _ hq5) (by intro a ha; simp only [W_M_rule, W_M_starts, List.mem_cons, List.not_mem_nil, or_false, not_or] at ha ⊢; omega)
    exact w_M_rule_16 0 1 s q5 hF6 _ hf
def W_M_force : List Nat := [86]
theorem w_M_force (x1 : Int) (s : kM) (t : Int × kM) (hf : f_M_force x1 s = some t) : Fr (W_M_force) s t.2 := by
  unfold f_M_force at hf
  have h0 : Fr (W_M_force) s s := Fr.r
  obtain ⟨q1, hq1, hf⟩ := gbind hf
  by_cases c2 : q1 = 0
  · have hf := gift c2 hf
    cases hf
    exact h0
  · have hf := giff c2 hf
    obtain ⟨s3, ee4, hf⟩ := gbL hf
    have hF5 : Fr (W_M_force) s s3 := by rw [ee4]; exact Fr.u h0 (by simp [W_M_force])
    cases hf
    exact hF5
def W_M_fillsBows : List Nat := [85, 114, 115]
theorem w_M_fillsBows_116 (y1 : Int) (y2 : Int) (s0 s : kM) (h0 : Fr (W_M_fillsBows) s0 s) (t : kM) (hf : f_M_fillsBows_116 y1 y2 s = some t) : (fun r => Fr (W_M_fillsBows) s0 r) t := by
  unfold f_M_fillsBows_116 at hf
  obtain ⟨s1, ee2, hf⟩ := gbL hf
  have hF3 : Fr (W_M_fillsBows) s0 s1 := by rw [ee2]; exact Fr.u h0 (by simp [W_M_fillsBows])
  cases hf
  exact hF3
theorem w_M_fillsBows_115 (y1 : Int) (s0 s : kM) (h0 : Fr (W_M_fillsBows) s0 s) (t : kM) (hf : f_M_fillsBows_115 y1 s = some t) : (fun r => Fr (W_M_fillsBows) s0 r) t := by
  unfold f_M_fillsBows_115 at hf
  exact w_M_fillsBows_116 y1 0 s0 s h0 _ hf
theorem w_M_fillsBows_97 (y1 : Int) (y2 : Int) (s0 s : kM) (h0 : Fr (W_M_fillsBows) s0 s) (t : kM) (hf : f_M_fillsBows_97 y1 y2 s = some t) : (fun r => Fr (W_M_fillsBows) s0 r) t := by
  unfold f_M_fillsBows_97 at hf
  obtain ⟨s1, ee2, hf⟩ := gbL hf
  have hF3 : Fr (W_M_fillsBows) s0 s1 := by rw [ee2]; exact Fr.u h0 (by simp [W_M_fillsBows])
  by_cases c4 : (s1 86 0) ≤ 1
  · have hf := gift c4 hf
    exact w_M_fillsBows_115 (s1 85 44) s0 s1 hF3 _ hf
  · have hf := giff c4 hf
    by_cases c5 : (s1 86 2) = 0
    · have hf := gift c5 hf
      exact w_M_fillsBows_116 (s1 85 44) 1 s0 s1 hF3 _ hf
    · have hf := giff c5 hf
      exact w_M_fillsBows_115 (s1 85 44) s0 s1 hF3 _ hf
theorem w_M_fillsBows_96 (y1 : Int) (s0 s : kM) (h0 : Fr (W_M_fillsBows) s0 s) (t : kM) (hf : f_M_fillsBows_96 y1 s = some t) : (fun r => Fr (W_M_fillsBows) s0 r) t := by
  unfold f_M_fillsBows_96 at hf
  exact w_M_fillsBows_97 y1 0 s0 s h0 _ hf
theorem w_M_fillsBows_60b (x1 : Int) (x2 : Int) (s0 s : kM) (h0 : Fr (W_M_fillsBows) s0 s) (t : (Int) ⊕ ((Int × kM) ⊕ (kM))) (hf : f_M_fillsBows_60b x1 x2 s = some t) : (gE (fun x => Fr (W_M_fillsBows) s0 s) (gE (fun x => Fr (W_M_fillsBows) s0 x.2) (fun r => Fr (W_M_fillsBows) s0 r))) t := by
  unfold f_M_fillsBows_60b at hf
  obtain ⟨j1, i2, hf⟩ := gbI hf
  by_cases c3 : (s 115 j1) = (-1)
  · have hf := gift c3 hf
    obtain ⟨q11, hq11, hf⟩ := gbind hf
    cases hf
    exact h0
  · have hf := giff c3 hf
    obtain ⟨j4, i5, hf⟩ := gbI hf
    obtain ⟨j6, i7, hf⟩ := gbI hf
    obtain ⟨s8, ee9, hf⟩ := gbL hf
    have hF10 : Fr (W_M_fillsBows) s0 s8 := by rw [ee9]; exact Fr.u h0 (by simp [W_M_fillsBows])
    cases hf
    exact hF10
theorem w_M_fillsBows_60 (x1 : Int) (x2 : Int) (s0 s : kM) (h0 : Fr (W_M_fillsBows) s0 s) (t : (Int × kM) ⊕ (kM)) (hf : f_M_fillsBows_60 x1 x2 s = some t) : (gE (fun x => Fr (W_M_fillsBows) s0 x.2) (fun r => Fr (W_M_fillsBows) s0 r)) t :=
  gL_fr (P := fun (x : Int) => Fr (W_M_fillsBows) s0 s) (q := (gE (fun x => Fr (W_M_fillsBows) s0 x.2) (fun r => Fr (W_M_fillsBows) s0 r))) (fun x t hf h0 => w_M_fillsBows_60b x1 x s0 s h0 t hf) gF (x2) t hf h0
theorem w_M_fillsBows_54b (x1 : Int) (s0 s : kM) (h0 : Fr (W_M_fillsBows) s0 s) (t : (Int × kM) ⊕ (kM)) (hf : f_M_fillsBows_54b x1 s = some t) : (gE (fun x => Fr (W_M_fillsBows) s0 x.2) (fun r => Fr (W_M_fillsBows) s0 r)) t := by
  unfold f_M_fillsBows_54b at hf
  obtain ⟨q1, hq1, hf⟩ := gbind hf
  by_cases c2 : q1 ≤ x1
  · have hf := gift c2 hf
    by_cases c3 : (s 86 0) ≤ 0
    · have hf := gift c3 hf
      obtain ⟨t4, hg5, rfl⟩ := gmap hf
      exact w_M_fillsBows_96 (s 85 44) s0 s h0 _ hg5
    · have hf := giff c3 hf
      by_cases c6 : (s 86 1) = 0
      · have hf := gift c6 hf
        obtain ⟨t9, hg10, rfl⟩ := gmap hf
        exact w_M_fillsBows_97 (s 85 44) 1 s0 s h0 _ hg10
      · have hf := giff c6 hf
        obtain ⟨t7, hg8, rfl⟩ := gmap hf
        exact w_M_fillsBows_96 (s 85 44) s0 s h0 _ hg8
  · have hf := giff c2 hf
    exact w_M_fillsBows_60 x1 x1 s0 s h0 _ hf
theorem w_M_fillsBows_54 (x1 : Int) (s0 s : kM) (h0 : Fr (W_M_fillsBows) s0 s) (t : kM) (hf : f_M_fillsBows_54 x1 s = some t) : (fun r => Fr (W_M_fillsBows) s0 r) t :=
  gL_fr (P := fun (x : Int × kM) => Fr (W_M_fillsBows) s0 x.2) (q := (fun r => Fr (W_M_fillsBows) s0 r)) (fun x t hf h0 => w_M_fillsBows_54b x.1 s0 x.2 h0 t hf) gF (x1, s) t hf h0
theorem w_M_fillsBows_50 (x1 : Int) (s0 s : kM) (h0 : Fr (W_M_fillsBows) s0 s) (t : (Int × kM) ⊕ (kM)) (hf : f_M_fillsBows_50 x1 s = some t) : (gE (fun x => Fr (W_M_fillsBows) s0 x.2) (fun r => Fr (W_M_fillsBows) s0 r)) t := by
  unfold f_M_fillsBows_50 at hf
  cases hf
  exact h0
theorem w_M_fillsBows_38 (x1 : Int) (s0 s : kM) (h0 : Fr (W_M_fillsBows) s0 s) (t : (Int × kM) ⊕ (kM)) (hf : f_M_fillsBows_38 x1 s = some t) : (gE (fun x => Fr (W_M_fillsBows) s0 x.2) (fun r => Fr (W_M_fillsBows) s0 r)) t := by
  unfold f_M_fillsBows_38 at hf
  obtain ⟨j1, i2, hf⟩ := gbI hf
  obtain ⟨s3, ee4, hf⟩ := gbL hf
  have hF5 : Fr (W_M_fillsBows) s0 s3 := by rw [ee4]; exact Fr.u h0 (by simp [W_M_fillsBows])
  obtain ⟨s6, ee7, hf⟩ := gbL hf
  have hF8 : Fr (W_M_fillsBows) s0 s6 := by rw [ee7]; exact Fr.u hF5 (by simp [W_M_fillsBows])
  exact w_M_fillsBows_50 x1 s0 s6 hF8 _ hf
theorem w_M_fillsBows_19 (x1 : Int) (y0 : Int) (s0 s : kM) (h0 : Fr (W_M_fillsBows) s0 s) (t : (Int × kM) ⊕ (kM)) (hf : f_M_fillsBows_19 x1 y0 s = some t) : (gE (fun x => Fr (W_M_fillsBows) s0 x.2) (fun r => Fr (W_M_fillsBows) s0 r)) t := by
  unfold f_M_fillsBows_19 at hf
  obtain ⟨j1, i2, hf⟩ := gbI hf
  obtain ⟨s3, ee4, hf⟩ := gbL hf
  have hF5 : Fr (W_M_fillsBows) s0 s3 := by rw [ee4]; exact Fr.u h0 (by simp [W_M_fillsBows])
  obtain ⟨j6, i7, hf⟩ := gbI hf
  by_cases c8 : (s3 88 j6) = 0
  · have hf := gift c8 hf
    exact w_M_fillsBows_38 x1 s0 s3 hF5 _ hf
  · have hf := giff c8 hf
    by_cases c9 : y0 = 0
    · have hf := gift c9 hf
      exact w_M_fillsBows_50 x1 s0 s3 hF5 _ hf
    · have hf := giff c9 hf
      obtain ⟨q10, hq10, hf⟩ := gbind hf
      obtain ⟨q11, hq11, hf⟩ := gbind hf
      by_cases c12 : q11 = 0
      · have hf := gift c12 hf
        exact w_M_fillsBows_38 x1 s0 s3 hF5 _ hf
      · have hf := giff c12 hf
        exact w_M_fillsBows_50 x1 s0 s3 hF5 _ hf
theorem w_M_fillsBows_5b (x1 : Int) (s0 s : kM) (h0 : Fr (W_M_fillsBows) s0 s) (t : (Int × kM) ⊕ (kM)) (hf : f_M_fillsBows_5b x1 s = some t) : (gE (fun x => Fr (W_M_fillsBows) s0 x.2) (fun r => Fr (W_M_fillsBows) s0 r)) t := by
  unfold f_M_fillsBows_5b at hf
  obtain ⟨q1, hq1, hf⟩ := gbind hf
  by_cases c2 : q1 ≤ x1
  · have hf := gift c2 hf
    obtain ⟨t3, hg4, rfl⟩ := gmap hf
    exact w_M_fillsBows_54 0 s0 s h0 _ hg4
  · have hf := giff c2 hf
    obtain ⟨q5, hq5, hf⟩ := gbind hf
    obtain ⟨q6, hq6, hf⟩ := gbind hf
    by_cases c7 : x1 = q6
    · have hf := gift c7 hf
      exact w_M_fillsBows_19 x1 1 s0 s h0 _ hf
    · have hf := giff c7 hf
      exact w_M_fillsBows_19 x1 0 s0 s h0 _ hf
theorem w_M_fillsBows_5 (x1 : Int) (s0 s : kM) (h0 : Fr (W_M_fillsBows) s0 s) (t : kM) (hf : f_M_fillsBows_5 x1 s = some t) : (fun r => Fr (W_M_fillsBows) s0 r) t :=
  gL_fr (P := fun (x : Int × kM) => Fr (W_M_fillsBows) s0 x.2) (q := (fun r => Fr (W_M_fillsBows) s0 r)) (fun x t hf h0 => w_M_fillsBows_5b x.1 s0 x.2 h0 t hf) gF (x1, s) t hf h0
theorem w_M_fillsBows (s : kM) (t : kM) (hf : f_M_fillsBows s = some t) : Fr (W_M_fillsBows) s t := by
  unfold f_M_fillsBows at hf
  have h0 : Fr (W_M_fillsBows) s s := Fr.r
  obtain ⟨s1, ee2, hf⟩ := gbL hf
  have hF3 : Fr (W_M_fillsBows) s s1 := by rw [ee2]; exact Fr.u h0 (by simp [W_M_fillsBows])
  exact w_M_fillsBows_5 0 s s1 hF3 _ hf
def W_M_place : List Nat := [85, 114, 115]
theorem w_M_place (x1 : Int) (x2 : Int) (s : kM) (t : Int × kM) (hf : f_M_place x1 x2 s = some t) : Fr (W_M_place) s t.2 := by
  unfold f_M_place at hf
  have h0 : Fr (W_M_place) s s := Fr.r
  obtain ⟨q1, hq1, hf⟩ := gbind hf
  by_cases c2 : q1 = 0
  · have hf := gift c2 hf
    cases hf
    exact h0
  · have hf := giff c2 hf
    by_cases c3 : x2 = 0
    · have hf := gift c3 hf
      obtain ⟨j4, i5, hf⟩ := gbI hf
      cases hf
      exact h0
    have hf := giff c3 hf
    by_cases c6 : x2 = 1
    · have hf := gift c6 hf
      obtain ⟨j7, i8, hf⟩ := gbI hf
      cases hf
      exact h0
    have hf := giff c6 hf
    by_cases c9 : x2 = 2
    · have hf := gift c9 hf
      obtain ⟨q10, hq10, hf⟩ := gbind hf
      cases hf
      exact h0
    have hf := giff c9 hf
    by_cases c11 : x2 = 3
    · have hf := gift c11 hf
      obtain ⟨q12, hq12, hf⟩ := gbind hf
      cases hf
      exact h0
    have hf := giff c11 hf
    by_cases c13 : x2 = 4
    · have hf := gift c13 hf
      obtain ⟨q14, hq14, hf⟩ := gbind hf
      have hF15 : Fr (W_M_place) s q14 := Fr.c h0 (w_M_fillsBows s _ hq14) (by intro a ha; simp only [W_M_place, W_M_fillsBows, List.mem_cons, List.not_mem_nil, or_false, not_or] at ha ⊢; omega)
      obtain ⟨j16, i17, hf⟩ := gbI hf
      cases hf
      exact hF15
    have hf := giff c13 hf
    cases hf
    exact h0
def W_M_land : List Nat := [85, 100, 101, 102, 103]
theorem w_M_land_46 (x1 : Int) (x2 : Int) (x4 : Int) (y0 : Int) (y1 : Int) (s0 s : kM) (h0 : Fr (W_M_land) s0 s) (t : (Int × Int × Int) ⊕ (Int × kM)) (hf : f_M_land_46 x1 x2 x4 y0 y1 s = some t) : (gE (fun x => Fr (W_M_land) s0 s) (fun r => Fr (W_M_land) s0 r.2)) t := by
  unfold f_M_land_46 at hf
  cases hf
  exact h0
theorem w_M_land_35 (x1 : Int) (x3 : Int) (x4 : Int) (y0 : Int) (s0 s : kM) (h0 : Fr (W_M_land) s0 s) (t : (Int × Int × Int) ⊕ (Int × kM)) (hf : f_M_land_35 x1 x3 x4 y0 s = some t) : (gE (fun x => Fr (W_M_land) s0 s) (fun r => Fr (W_M_land) s0 r.2)) t := by
  unfold f_M_land_35 at hf
  obtain ⟨j1, i2, hf⟩ := gbI hf
  by_cases c3 : (s 102 j1) = x1
  · have hf := gift c3 hf
    exact w_M_land_46 x1 y0 x4 x3 1 s0 s h0 _ hf
  · have hf := giff c3 hf
    exact w_M_land_46 x1 y0 x4 x3 0 s0 s h0 _ hf
theorem w_M_land_19b (x1 : Int) (x2 : Int) (x3 : Int) (x4 : Int) (s0 s : kM) (h0 : Fr (W_M_land) s0 s) (t : (Int × Int × Int) ⊕ (Int × kM)) (hf : f_M_land_19b x1 x2 x3 x4 s = some t) : (gE (fun x => Fr (W_M_land) s0 s) (fun r => Fr (W_M_land) s0 r.2)) t := by
  unfold f_M_land_19b at hf
  by_cases c1 : (s 85 20) ≤ x4
  · have hf := gift c1 hf
    by_cases c2 : x1 = 0
    · have hf := gift c2 hf
      cases hf
      exact h0
    · have hf := giff c2 hf
      by_cases c3 : x1 = 1
      · have hf := gift c3 hf
        cases hf
        exact h0
      · have hf := giff c3 hf
        cases hf
        exact h0
  · have hf := giff c1 hf
    obtain ⟨j4, i5, hf⟩ := gbI hf
    by_cases c6 : (s 102 j4) ≤ x2
    · have hf := gift c6 hf
      exact w_M_land_35 x1 x3 x4 x2 s0 s h0 _ hf
    · have hf := giff c6 hf
      obtain ⟨j7, i8, hf⟩ := gbI hf
      exact w_M_land_35 x1 x3 x4 (s 102 j7) s0 s h0 _ hf
theorem w_M_land_19 (x1 : Int) (x2 : Int) (x3 : Int) (x4 : Int) (s0 s : kM) (h0 : Fr (W_M_land) s0 s) (t : Int × kM) (hf : f_M_land_19 x1 x2 x3 x4 s = some t) : (fun r => Fr (W_M_land) s0 r.2) t :=
  gL_fr (P := fun (x : Int × Int × Int) => Fr (W_M_land) s0 s) (q := (fun r => Fr (W_M_land) s0 r.2)) (fun x t hf h0 => w_M_land_19b x1 x.1 x.2.1 x.2.2 s0 s h0 t hf) gF (x2, x3, x4) t hf h0
theorem w_M_land (x1 : Int) (s : kM) (t : Int × kM) (hf : f_M_land x1 s = some t) : Fr (W_M_land) s t.2 := by
  unfold f_M_land at hf
  have h0 : Fr (W_M_land) s s := Fr.r
  obtain ⟨q1, hq1, hf⟩ := gbind hf
  by_cases c2 : q1 = 0
  · have hf := gift c2 hf
    cases hf
    exact h0
  · have hf := giff c2 hf
    obtain ⟨q3, hq3, hf⟩ := gbind hf
    by_cases c4 : q3 = 0
    · have hf := gift c4 hf
      cases hf
      exact h0
    · have hf := giff c4 hf
      obtain ⟨q5, hq5, hf⟩ := gbind hf
      have hF6 : Fr (W_M_land) s q5 := Fr.c h0 (w_M_fillsLand s _ hq5) (by intro a ha; simp only [W_M_land, W_M_fillsLand, List.mem_cons, List.not_mem_nil, or_false, not_or] at ha ⊢; omega)
      exact w_M_land_19 x1 0 0 0 s q5 hF6 _ hf
def W_M_removes : List Nat := [86, 87, 88, 98, 99]
theorem w_M_removes_50 (x1 : Int) (x2 : Int) (x3 : Int) (x4 : Int) (x5 : Int) (s0 s : kM) (h0 : Fr (W_M_removes) s0 s) (t : (Int × Int × Int × kM) ⊕ (kM)) (hf : f_M_removes_50 x1 x2 x3 x4 x5 s = some t) : (gE (fun x => Fr (W_M_removes) s0 x.2.2.2) (fun r => Fr (W_M_removes) s0 r)) t := by
  unfold f_M_removes_50 at hf
  cases hf
  exact h0
theorem w_M_removes_31 (x1 : Int) (x2 : Int) (x4 : Int) (x5 : Int) (y0 : Int) (y1 : Int) (s0 s : kM) (h0 : Fr (W_M_removes) s0 s) (t : (Int × Int × Int × kM) ⊕ (kM)) (hf : f_M_removes_31 x1 x2 x4 x5 y0 y1 s = some t) : (gE (fun x => Fr (W_M_removes) s0 x.2.2.2) (fun r => Fr (W_M_removes) s0 r)) t := by
  unfold f_M_removes_31 at hf
  obtain ⟨j1, i2, hf⟩ := gbI hf
  obtain ⟨j3, i4, hf⟩ := gbI hf
  obtain ⟨s5, ee6, hf⟩ := gbL hf
  have hF7 : Fr (W_M_removes) s0 s5 := by rw [ee6]; exact Fr.u h0 (by simp [W_M_removes])
  obtain ⟨j8, i9, hf⟩ := gbI hf
  obtain ⟨j10, i11, hf⟩ := gbI hf
  obtain ⟨s12, ee13, hf⟩ := gbL hf
  have hF14 : Fr (W_M_removes) s0 s12 := by rw [ee13]; exact Fr.u hF7 (by simp [W_M_removes])
  exact w_M_removes_50 x1 (wI (x2 + 1)) (wI (y0 + y1)) x4 x5 s0 s12 hF14 _ hf
theorem w_M_removes_9b (x1 : Int) (x2 : Int) (x3 : Int) (x4 : Int) (x5 : Int) (s0 s : kM) (h0 : Fr (W_M_removes) s0 s) (t : (Int × Int × Int × kM) ⊕ (kM)) (hf : f_M_removes_9b x1 x2 x3 x4 x5 s = some t) : (gE (fun x => Fr (W_M_removes) s0 x.2.2.2) (fun r => Fr (W_M_removes) s0 r)) t := by
  unfold f_M_removes_9b at hf
  by_cases c1 : x4 ≤ x5
  · have hf := gift c1 hf
    obtain ⟨s2, ee3, hf⟩ := gbL hf
    have hF4 : Fr (W_M_removes) s0 s2 := by rw [ee3]; exact Fr.u h0 (by simp [W_M_removes])
    obtain ⟨s5, ee6, hf⟩ := gbL hf
    have hF7 : Fr (W_M_removes) s0 s5 := by rw [ee6]; exact Fr.u hF4 (by simp [W_M_removes])
    obtain ⟨q8, hq8, hf⟩ := gbind hf
    have hF9 : Fr (W_M_removes) s0 q8 := Fr.c hF7 (w_M_refresh s5 _ hq8) (by intro a ha; simp only [W_M_removes, W_M_refresh, List.mem_cons, List.not_mem_nil, or_false, not_or] at ha ⊢; omega)
    cases hf
    exact hF9
  · have hf := giff c1 hf
    obtain ⟨j10, i11, hf⟩ := gbI hf
    by_cases c12 : (kand (kshr x1 (s 87 j10)) 1) = 0
    · have hf := gift c12 hf
      by_cases c13 : (s 86 1) ≤ x5
      · have hf := gift c13 hf
        exact w_M_removes_31 x1 x2 x4 x5 x3 0 s0 s h0 _ hf
      · have hf := giff c13 hf
        exact w_M_removes_31 x1 x2 x4 x5 x3 1 s0 s h0 _ hf
    · have hf := giff c12 hf
      exact w_M_removes_50 x1 x2 x3 x4 x5 s0 s h0 _ hf
theorem w_M_removes_9 (x1 : Int) (x2 : Int) (x3 : Int) (x4 : Int) (x5 : Int) (s0 s : kM) (h0 : Fr (W_M_removes) s0 s) (t : kM) (hf : f_M_removes_9 x1 x2 x3 x4 x5 s = some t) : (fun r => Fr (W_M_removes) s0 r) t :=
  gL_fr (P := fun (x : Int × Int × Int × kM) => Fr (W_M_removes) s0 x.2.2.2) (q := (fun r => Fr (W_M_removes) s0 r)) (fun x t hf h0 => w_M_removes_9b x1 x.1 x.2.1 x4 x.2.2.1 s0 x.2.2.2 h0 t hf) gF (x2, x3, x5, s) t hf h0
theorem w_M_removes (x1 : Int) (s : kM) (t : kM) (hf : f_M_removes x1 s = some t) : Fr (W_M_removes) s t := by
  unfold f_M_removes at hf
  have h0 : Fr (W_M_removes) s s := Fr.r
  obtain ⟨q1, hq1, hf⟩ := gbind hf
  exact w_M_removes_9 x1 0 0 q1 0 s s h0 _ hf
def W_M_off : List Nat := [86, 87, 88, 98, 99]
theorem w_M_off (x1 : Int) (s : kM) (t : Int × kM) (hf : f_M_off x1 s = some t) : Fr (W_M_off) s t.2 := by
  unfold f_M_off at hf
  have h0 : Fr (W_M_off) s s := Fr.r
  obtain ⟨q1, hq1, hf⟩ := gbind hf
  by_cases c2 : q1 = 0
  · have hf := gift c2 hf
    obtain ⟨w3, hf⟩ := gbB hf
    cases hf
    exact h0
  · have hf := giff c2 hf
    obtain ⟨q4, hq4, hf⟩ := gbind hf
    have hF5 : Fr (W_M_off) s q4 := Fr.c h0 (w_M_removes (kshl 1 x1) s _ hq4) (by intro a ha; simp only [W_M_off, W_M_removes, List.mem_cons, List.not_mem_nil, or_false, not_or] at ha ⊢; omega)
    obtain ⟨s6, ee7, hf⟩ := gbL hf
    have hF8 : Fr (W_M_off) s s6 := by rw [ee7]; exact Fr.u hF5 (by simp [W_M_off])
    obtain ⟨w9, hf⟩ := gbB hf
    cases hf
    exact hF8
def W_M_apart : List Nat := [85, 86, 87, 88, 98, 99, 100, 101, 102, 103]
theorem w_M_apart (x1 : Int) (x2 : Int) (s : kM) (t : Int × kM) (hf : f_M_apart x1 x2 s = some t) : Fr (W_M_apart) s t.2 := by
  unfold f_M_apart at hf
  have h0 : Fr (W_M_apart) s s := Fr.r
  obtain ⟨q1, hq1, hf⟩ := gbind hf
  have hF2 : Fr (W_M_apart) s q1 := Fr.c h0 (w_M_fillsLand s _ hq1) (by intro a ha; simp only [W_M_apart, W_M_fillsLand, List.mem_cons, List.not_mem_nil, or_false, not_or] at ha ⊢; omega)
  obtain ⟨q3, hq3, hf⟩ := gbind hf
  by_cases c4 : q3 = 0
  · have hf := gift c4 hf
    obtain ⟨w5, hf⟩ := gbB hf
    cases hf
    exact hF2
  · have hf := giff c4 hf
    obtain ⟨q6, hq6, hf⟩ := gbind hf
    have hF7 : Fr (W_M_apart) s q6 := Fr.c hF2 (w_M_removes (kor (kshl 1 x1) (kshl 1 x2)) q1 _ hq6) (by intro a ha; simp only [W_M_apart, W_M_removes, List.mem_cons, List.not_mem_nil, or_false, not_or] at ha ⊢; omega)
    obtain ⟨s8, ee9, hf⟩ := gbL hf
    have hF10 : Fr (W_M_apart) s s8 := by rw [ee9]; exact Fr.u hF7 (by simp [W_M_apart])
    obtain ⟨w11, hf⟩ := gbB hf
    cases hf
    exact hF10
def W_M_isSlideLand : List Nat := [116]
theorem w_M_isSlideLand_68 (x2 : Int) (x3 : Int) (x4 : Int) (x5 : Int) (x7 : Int) (x8 : Int) (x9 : Int) (y0 : Int) (s0 s : kM) (h0 : Fr (W_M_isSlideLand) s0 s) (t : (Int × Int × Int × Int × Int × kM) ⊕ (Int × kM)) (hf : f_M_isSlideLand_68 x2 x3 x4 x5 x7 x8 x9 y0 s = some t) : (gE (fun x => Fr (W_M_isSlideLand) s0 x.2.2.2.2.2) (fun r => Fr (W_M_isSlideLand) s0 r.2)) t := by
  unfold f_M_isSlideLand_68 at hf
  obtain ⟨q1, hq1, hf⟩ := gbind hf
  obtain ⟨j2, i3, hf⟩ := gbI hf
  cases hf
  exact h0
theorem w_M_isSlideLand_67 (x2 : Int) (x3 : Int) (x4 : Int) (x5 : Int) (x7 : Int) (x8 : Int) (x9 : Int) (s0 s : kM) (h0 : Fr (W_M_isSlideLand) s0 s) (t : (Int × Int × Int × Int × Int × kM) ⊕ (Int × kM)) (hf : f_M_isSlideLand_67 x2 x3 x4 x5 x7 x8 x9 s = some t) : (gE (fun x => Fr (W_M_isSlideLand) s0 x.2.2.2.2.2) (fun r => Fr (W_M_isSlideLand) s0 r.2)) t := by
  unfold f_M_isSlideLand_67 at hf
  exact w_M_isSlideLand_68 x2 x3 x4 x5 x7 x8 x9 0 s0 s h0 _ hf
theorem w_M_isSlideLand_13b (x2 : Int) (x3 : Int) (x4 : Int) (x5 : Int) (x6 : Int) (x7 : Int) (s0 s : kM) (h0 : Fr (W_M_isSlideLand) s0 s) (t : (Int × Int × Int × Int × Int × kM) ⊕ (Int × kM)) (hf : f_M_isSlideLand_13b x2 x3 x4 x5 x6 x7 s = some t) : (gE (fun x => Fr (W_M_isSlideLand) s0 x.2.2.2.2.2) (fun r => Fr (W_M_isSlideLand) s0 r.2)) t := by
  unfold f_M_isSlideLand_13b at hf
  by_cases c1 : 3 ≤ x7
  · have hf := gift c1 hf
    by_cases c2 : x6 = 0
    · have hf := gift c2 hf
      cases hf
      exact h0
    · have hf := giff c2 hf
      by_cases c3 : x5 = 7
      · have hf := gift c3 hf
        cases hf
        exact h0
      · have hf := giff c3 hf
        cases hf
        exact h0
  · have hf := giff c1 hf
    obtain ⟨j4, i5, hf⟩ := gbI hf
    obtain ⟨s6, ee7, hf⟩ := gbL hf
    have hF8 : Fr (W_M_isSlideLand) s0 s6 := by rw [ee7]; exact Fr.u h0 (by simp [W_M_isSlideLand])
    obtain ⟨j9, i10, hf⟩ := gbI hf
    obtain ⟨q11, hq11, hf⟩ := gbind hf
    obtain ⟨j12, i13, hf⟩ := gbI hf
    by_cases c14 : x6 = 0
    · have hf := gift c14 hf
      exact w_M_isSlideLand_67 x2 x3 x4 x5 x7 (kdiv x3 2) (kor (kshl 1 (s6 87 j9)) (kshl 1 (s6 87 j12))) s0 s6 hF8 _ hf
    · have hf := giff c14 hf
      obtain ⟨j15, i16, hf⟩ := gbI hf
      obtain ⟨q17, hq17, hf⟩ := gbind hf
      obtain ⟨j18, i19, hf⟩ := gbI hf
      by_cases c20 : (s6 87 j15) = (s6 87 j18)
      · have hf := gift c20 hf
        exact w_M_isSlideLand_67 x2 x3 x4 x5 x7 (kdiv x3 2) (kor (kshl 1 (s6 87 j9)) (kshl 1 (s6 87 j12))) s0 s6 hF8 _ hf
      · have hf := giff c20 hf
        by_cases c21 : (kand (kor (kshl 1 (s6 87 j9)) (kshl 1 (s6 87 j12))) x2) = (kor (kshl 1 (s6 87 j9)) (kshl 1 (s6 87 j12)))
        · have hf := gift c21 hf
          by_cases c22 : (kand x4 (kxor x2 (kor (kshl 1 (s6 87 j9)) (kshl 1 (s6 87 j12))))) = 0
          · have hf := gift c22 hf
            exact w_M_isSlideLand_68 x2 x3 x4 x5 x7 (kdiv x3 2) (kor (kshl 1 (s6 87 j9)) (kshl 1 (s6 87 j12))) 1 s0 s6 hF8 _ hf
          · have hf := giff c22 hf
            exact w_M_isSlideLand_67 x2 x3 x4 x5 x7 (kdiv x3 2) (kor (kshl 1 (s6 87 j9)) (kshl 1 (s6 87 j12))) s0 s6 hF8 _ hf
        · have hf := giff c21 hf
          exact w_M_isSlideLand_67 x2 x3 x4 x5 x7 (kdiv x3 2) (kor (kshl 1 (s6 87 j9)) (kshl 1 (s6 87 j12))) s0 s6 hF8 _ hf
theorem w_M_isSlideLand_13 (x2 : Int) (x3 : Int) (x4 : Int) (x5 : Int) (x6 : Int) (x7 : Int) (s0 s : kM) (h0 : Fr (W_M_isSlideLand) s0 s) (t : Int × kM) (hf : f_M_isSlideLand_13 x2 x3 x4 x5 x6 x7 s = some t) : (fun r => Fr (W_M_isSlideLand) s0 r.2) t :=
  gL_fr (P := fun (x : Int × Int × Int × Int × Int × kM) => Fr (W_M_isSlideLand) s0 x.2.2.2.2.2) (q := (fun r => Fr (W_M_isSlideLand) s0 r.2)) (fun x t hf h0 => w_M_isSlideLand_13b x2 x.1 x.2.1 x.2.2.1 x.2.2.2.1 x.2.2.2.2.1 s0 x.2.2.2.2.2 h0 t hf) gF (x3, x4, x5, x6, x7, s) t hf h0
theorem w_M_isSlideLand (x1 : Int) (x2 : Int) (s : kM) (t : Int × kM) (hf : f_M_isSlideLand x1 x2 s = some t) : Fr (W_M_isSlideLand) s t.2 := by
  unfold f_M_isSlideLand at hf
  have h0 : Fr (W_M_isSlideLand) s s := Fr.r
  obtain ⟨j1, i2, hf⟩ := gbI hf
  exact w_M_isSlideLand_13 x2 (s 103 j1) 0 0 1 0 s s h0 _ hf
def W_M_isSlide : List Nat := [116]
theorem w_M_isSlide_52 (x1 : Int) (x2 : Int) (x3 : Int) (x4 : Int) (s0 s : kM) (h0 : Fr (W_M_isSlide) s0 s) (t : (Int × kM) ⊕ (Int × kM)) (hf : f_M_isSlide_52 x1 x2 x3 x4 s = some t) : (gE (fun x => Fr (W_M_isSlide) s0 x.2) (fun r => Fr (W_M_isSlide) s0 r.2)) t := by
  unfold f_M_isSlide_52 at hf
  cases hf
  exact h0
theorem w_M_isSlide_25b (x1 : Int) (x2 : Int) (x3 : Int) (x4 : Int) (s0 s : kM) (h0 : Fr (W_M_isSlide) s0 s) (t : (Int × kM) ⊕ (Int × kM)) (hf : f_M_isSlide_25b x1 x2 x3 x4 s = some t) : (gE (fun x => Fr (W_M_isSlide) s0 x.2) (fun r => Fr (W_M_isSlide) s0 r.2)) t := by
  unfold f_M_isSlide_25b at hf
  by_cases c1 : (s 85 20) ≤ x4
  · have hf := gift c1 hf
    cases hf
    exact h0
  · have hf := giff c1 hf
    obtain ⟨j2, i3, hf⟩ := gbI hf
    by_cases c4 : (s 102 j2) = 3
    · have hf := gift c4 hf
      obtain ⟨q5, hq5, hf⟩ := gbind hf
      have hF6 : Fr (W_M_isSlide) s0 q5.2 := Fr.c h0 (w_M_isSlideLand x4 (kor (kor (kshl 1 x1) (kshl 1 x2)) (kshl 1 x3)) s _ hq5) (by intro a ha; simp only [W_M_isSlide, W_M_isSlideLand, List.mem_cons, List.not_mem_nil, or_false, not_or] at ha ⊢; omega)
      by_cases c7 : q5.1 = 0
      · have hf := gift c7 hf
        exact w_M_isSlide_52 x1 x2 x3 x4 s0 q5.2 hF6 _ hf
      · have hf := giff c7 hf
        cases hf
        exact hF6
    · have hf := giff c4 hf
      exact w_M_isSlide_52 x1 x2 x3 x4 s0 s h0 _ hf
theorem w_M_isSlide_25 (x1 : Int) (x2 : Int) (x3 : Int) (x4 : Int) (s0 s : kM) (h0 : Fr (W_M_isSlide) s0 s) (t : Int × kM) (hf : f_M_isSlide_25 x1 x2 x3 x4 s = some t) : (fun r => Fr (W_M_isSlide) s0 r.2) t :=
  gL_fr (P := fun (x : Int × kM) => Fr (W_M_isSlide) s0 x.2) (q := (fun r => Fr (W_M_isSlide) s0 r.2)) (fun x t hf h0 => w_M_isSlide_25b x1 x2 x3 x.1 s0 x.2 h0 t hf) gF (x4, s) t hf h0
theorem w_M_isSlide (x1 : Int) (x2 : Int) (x3 : Int) (s : kM) (t : Int × kM) (hf : f_M_isSlide x1 x2 x3 s = some t) : Fr (W_M_isSlide) s t.2 := by
  unfold f_M_isSlide at hf
  have h0 : Fr (W_M_isSlide) s s := Fr.r
  obtain ⟨q1, hq1, hf⟩ := gbind hf
  by_cases c2 : q1 = 0
  · have hf := gift c2 hf
    cases hf
    exact h0
  · have hf := giff c2 hf
    obtain ⟨q3, hq3, hf⟩ := gbind hf
    by_cases c4 : q3 = 0
    · have hf := gift c4 hf
      cases hf
      exact h0
    · have hf := giff c4 hf
      obtain ⟨q5, hq5, hf⟩ := gbind hf
      by_cases c6 : q5 = 0
      · have hf := gift c6 hf
        cases hf
        exact h0
      · have hf := giff c6 hf
        by_cases c7 : x1 = x2
        · have hf := gift c7 hf
          cases hf
          exact h0
        · have hf := giff c7 hf
          by_cases c8 : x2 = x3
          · have hf := gift c8 hf
            cases hf
            exact h0
          · have hf := giff c8 hf
            by_cases c9 : x1 = x3
            · have hf := gift c9 hf
              cases hf
              exact h0
            · have hf := giff c9 hf
              exact w_M_isSlide_25 x1 x2 x3 0 s s h0 _ hf
def W_M_swapsPasses : List Nat := [87, 88]
theorem w_M_swapsPasses (x1 : Int) (s : kM) (t : kM) (hf : f_M_swapsPasses x1 s = some t) : Fr (W_M_swapsPasses) s t := by
  unfold f_M_swapsPasses at hf
  have h0 : Fr (W_M_swapsPasses) s s := Fr.r
  obtain ⟨q1, hq1, hf⟩ := gbind hf
  obtain ⟨j2, i3, hf⟩ := gbI hf
  obtain ⟨j4, i5, hf⟩ := gbI hf
  obtain ⟨j6, i7, hf⟩ := gbI hf
  obtain ⟨j8, i9, hf⟩ := gbI hf
  obtain ⟨s10, ee11, hf⟩ := gbL hf
  have hF12 : Fr (W_M_swapsPasses) s s10 := by rw [ee11]; exact Fr.u h0 (by simp [W_M_swapsPasses])
  obtain ⟨j13, i14, hf⟩ := gbI hf
  obtain ⟨j15, i16, hf⟩ := gbI hf
  obtain ⟨s17, ee18, hf⟩ := gbL hf
  have hF19 : Fr (W_M_swapsPasses) s s17 := by rw [ee18]; exact Fr.u hF12 (by simp [W_M_swapsPasses])
  obtain ⟨j20, i21, hf⟩ := gbI hf
  obtain ⟨s22, ee23, hf⟩ := gbL hf
  have hF24 : Fr (W_M_swapsPasses) s s22 := by rw [ee23]; exact Fr.u hF19 (by simp [W_M_swapsPasses])
  obtain ⟨j25, i26, hf⟩ := gbI hf
  obtain ⟨s27, ee28, hf⟩ := gbL hf
  have hF29 : Fr (W_M_swapsPasses) s s27 := by rw [ee28]; exact Fr.u hF24 (by simp [W_M_swapsPasses])
  cases hf
  exact hF29
def W_M_slides : List Nat := [87, 88, 98, 99]
theorem w_M_slides_2b (x1 : Int) (s0 s : kM) (h0 : Fr (W_M_slides) s0 s) (t : (Int × kM) ⊕ (kM)) (hf : f_M_slides_2b x1 s = some t) : (gE (fun x => Fr (W_M_slides) s0 x.2) (fun r => Fr (W_M_slides) s0 r)) t := by
  unfold f_M_slides_2b at hf
  by_cases c1 : 3 ≤ x1
  · have hf := gift c1 hf
    obtain ⟨q2, hq2, hf⟩ := gbind hf
    have hF3 : Fr (W_M_slides) s0 q2 := Fr.c h0 (w_M_refresh s _ hq2) (by intro a ha; simp only [W_M_slides, W_M_refresh, List.mem_cons, List.not_mem_nil, or_false, not_or] at ha ⊢; omega)
    cases hf
    exact hF3
  · have hf := giff c1 hf
    obtain ⟨j4, i5, hf⟩ := gbI hf
    obtain ⟨q6, hq6, hf⟩ := gbind hf
    have hF7 : Fr (W_M_slides) s0 q6 := Fr.c h0 (w_M_swapsPasses (s 116 j4) s _ hq6) (by intro a ha; simp only [W_M_slides, W_M_swapsPasses, List.mem_cons, List.not_mem_nil, or_false, not_or] at ha ⊢; omega)
    cases hf
    exact hF7
theorem w_M_slides_2 (x1 : Int) (s0 s : kM) (h0 : Fr (W_M_slides) s0 s) (t : kM) (hf : f_M_slides_2 x1 s = some t) : (fun r => Fr (W_M_slides) s0 r) t :=
  gL_fr (P := fun (x : Int × kM) => Fr (W_M_slides) s0 x.2) (q := (fun r => Fr (W_M_slides) s0 r)) (fun x t hf h0 => w_M_slides_2b x.1 s0 x.2 h0 t hf) gF (x1, s) t hf h0
theorem w_M_slides (s : kM) (t : kM) (hf : f_M_slides s = some t) : Fr (W_M_slides) s t := by
  unfold f_M_slides at hf
  have h0 : Fr (W_M_slides) s s := Fr.r
  exact w_M_slides_2 0 s s h0 _ hf
def W_M_slide : List Nat := [85, 86, 87, 88, 98, 99, 100, 101, 102, 103, 116]
theorem w_M_slide (x1 : Int) (x2 : Int) (x3 : Int) (s : kM) (t : Int × kM) (hf : f_M_slide x1 x2 x3 s = some t) : Fr (W_M_slide) s t.2 := by
  unfold f_M_slide at hf
  have h0 : Fr (W_M_slide) s s := Fr.r
  obtain ⟨q1, hq1, hf⟩ := gbind hf
  have hF2 : Fr (W_M_slide) s q1 := Fr.c h0 (w_M_fillsLand s _ hq1) (by intro a ha; simp only [W_M_slide, W_M_fillsLand, List.mem_cons, List.not_mem_nil, or_false, not_or] at ha ⊢; omega)
  obtain ⟨q3, hq3, hf⟩ := gbind hf
  have hF4 : Fr (W_M_slide) s q3.2 := Fr.c hF2 (w_M_isSlide x1 x2 x3 q1 _ hq3) (by intro a ha; simp only [W_M_slide, W_M_isSlide, List.mem_cons, List.not_mem_nil, or_false, not_or] at ha ⊢; omega)
  by_cases c5 : q3.1 = 0
  · have hf := gift c5 hf
    obtain ⟨w6, hf⟩ := gbB hf
    cases hf
    exact hF4
  · have hf := giff c5 hf
    obtain ⟨q7, hq7, hf⟩ := gbind hf
    have hF8 : Fr (W_M_slide) s q7 := Fr.c hF4 (w_M_slides q3.2 _ hq7) (by intro a ha; simp only [W_M_slide, W_M_slides, List.mem_cons, List.not_mem_nil, or_false, not_or] at ha ⊢; omega)
    obtain ⟨s9, ee10, hf⟩ := gbL hf
    have hF11 : Fr (W_M_slide) s s9 := by rw [ee10]; exact Fr.u hF8 (by simp [W_M_slide])
    obtain ⟨w12, hf⟩ := gbB hf
    cases hf
    exact hF11
def W_M_changes1 : List Nat := [88, 89, 98, 99]
theorem w_M_changes1 (x1 : Int) (s : kM) (t : kM) (hf : f_M_changes1 x1 s = some t) : Fr (W_M_changes1) s t := by
  unfold f_M_changes1 at hf
  have h0 : Fr (W_M_changes1) s s := Fr.r
  obtain ⟨j1, i2, hf⟩ := gbI hf
  obtain ⟨j3, i4, hf⟩ := gbI hf
  obtain ⟨s5, ee6, hf⟩ := gbL hf
  have hF7 : Fr (W_M_changes1) s s5 := by rw [ee6]; exact Fr.u h0 (by simp [W_M_changes1])
  obtain ⟨j8, i9, hf⟩ := gbI hf
  obtain ⟨j10, i11, hf⟩ := gbI hf
  obtain ⟨s12, ee13, hf⟩ := gbL hf
  have hF14 : Fr (W_M_changes1) s s12 := by rw [ee13]; exact Fr.u hF7 (by simp [W_M_changes1])
  obtain ⟨j15, i16, hf⟩ := gbI hf
  obtain ⟨j17, i18, hf⟩ := gbI hf
  obtain ⟨s19, ee20, hf⟩ := gbL hf
  have hF21 : Fr (W_M_changes1) s s19 := by rw [ee20]; exact Fr.u hF14 (by simp [W_M_changes1])
  obtain ⟨q22, hq22, hf⟩ := gbind hf
  have hF23 : Fr (W_M_changes1) s q22 := Fr.c hF21 (w_M_refresh s19 _ hq22) (by intro a ha; simp only [W_M_changes1, W_M_refresh, List.mem_cons, List.not_mem_nil, or_false, not_or] at ha ⊢; omega)
  cases hf
  exact hF23
def W_M_change : List Nat := [88, 89, 98, 99]
theorem w_M_change (x1 : Int) (s : kM) (t : Int × kM) (hf : f_M_change x1 s = some t) : Fr (W_M_change) s t.2 := by
  unfold f_M_change at hf
  have h0 : Fr (W_M_change) s s := Fr.r
  obtain ⟨q1, hq1, hf⟩ := gbind hf
  by_cases c2 : q1 = 0
  · have hf := gift c2 hf
    cases hf
    exact h0
  · have hf := giff c2 hf
    obtain ⟨q3, hq3, hf⟩ := gbind hf
    have hF4 : Fr (W_M_change) s q3 := Fr.c h0 (w_M_changes1 x1 s _ hq3) (by intro a ha; simp only [W_M_change, W_M_changes1, List.mem_cons, List.not_mem_nil, or_false, not_or] at ha ⊢; omega)
    obtain ⟨j5, i6, hf⟩ := gbI hf
    cases hf
    exact hF4
def W_M_twist : List Nat := [86, 87, 88, 89, 98, 99]
theorem w_M_twist_96 (x4 : Int) (x5 : Int) (y1 : Int) (y2 : Int) (s0 s : kM) (h0 : Fr (W_M_twist) s0 s) (t : Int × kM) (hf : f_M_twist_96 x4 x5 y1 y2 s = some t) : (fun r => Fr (W_M_twist) s0 r.2) t := by
  unfold f_M_twist_96 at hf
  obtain ⟨j1, i2, hf⟩ := gbI hf
  obtain ⟨s3, ee4, hf⟩ := gbL hf
  have hF5 : Fr (W_M_twist) s0 s3 := by rw [ee4]; exact Fr.u h0 (by simp [W_M_twist])
  obtain ⟨j6, i7, hf⟩ := gbI hf
  obtain ⟨j8, i9, hf⟩ := gbI hf
  obtain ⟨s10, ee11, hf⟩ := gbL hf
  have hF12 : Fr (W_M_twist) s0 s10 := by rw [ee11]; exact Fr.u hF5 (by simp [W_M_twist])
  obtain ⟨q13, hq13, hf⟩ := gbind hf
  have hF14 : Fr (W_M_twist) s0 q13 := Fr.c hF12 (w_M_refresh s10 _ hq13) (by intro a ha; simp only [W_M_twist, W_M_refresh, List.mem_cons, List.not_mem_nil, or_false, not_or] at ha ⊢; omega)
  cases hf
  exact hF14
theorem w_M_twist_87 (x3 : Int) (x4 : Int) (x5 : Int) (y1 : Int) (y2 : Int) (s0 s : kM) (h0 : Fr (W_M_twist) s0 s) (t : Int × kM) (hf : f_M_twist_87 x3 x4 x5 y1 y2 s = some t) : (fun r => Fr (W_M_twist) s0 r.2) t := by
  unfold f_M_twist_87 at hf
  obtain ⟨j1, i2, hf⟩ := gbI hf
  obtain ⟨s3, ee4, hf⟩ := gbL hf
  have hF5 : Fr (W_M_twist) s0 s3 := by rw [ee4]; exact Fr.u h0 (by simp [W_M_twist])
  by_cases c6 : x3 = 0
  · have hf := gift c6 hf
    exact w_M_twist_96 x4 x5 x4 0 s0 s3 hF5 _ hf
  · have hf := giff c6 hf
    exact w_M_twist_96 x4 x5 x4 1 s0 s3 hF5 _ hf
theorem w_M_twist_69 (x1 : Int) (x2 : Int) (x3 : Int) (x4 : Int) (x5 : Int) (y1 : Int) (y2 : Int) (s0 s : kM) (h0 : Fr (W_M_twist) s0 s) (t : Int × kM) (hf : f_M_twist_69 x1 x2 x3 x4 x5 y1 y2 s = some t) : (fun r => Fr (W_M_twist) s0 r.2) t := by
  unfold f_M_twist_69 at hf
  obtain ⟨j1, i2, hf⟩ := gbI hf
  obtain ⟨s3, ee4, hf⟩ := gbL hf
  have hF5 : Fr (W_M_twist) s0 s3 := by rw [ee4]; exact Fr.u h0 (by simp [W_M_twist])
  obtain ⟨j6, i7, hf⟩ := gbI hf
  obtain ⟨s8, ee9, hf⟩ := gbL hf
  have hF10 : Fr (W_M_twist) s0 s8 := by rw [ee9]; exact Fr.u hF5 (by simp [W_M_twist])
  by_cases c11 : x2 = 0
  · have hf := gift c11 hf
    exact w_M_twist_87 x3 x4 x5 (wI (x1 + 2)) 1 s0 s8 hF10 _ hf
  · have hf := giff c11 hf
    exact w_M_twist_87 x3 x4 x5 (wI (x1 + 2)) 0 s0 s8 hF10 _ hf
theorem w_M_twist_27b (x1 : Int) (x2 : Int) (x3 : Int) (x4 : Int) (x5 : Int) (x6 : Int) (s0 s : kM) (h0 : Fr (W_M_twist) s0 s) (t : (Int × kM) ⊕ (Int × kM)) (hf : f_M_twist_27b x1 x2 x3 x4 x5 x6 s = some t) : (gE (fun x => Fr (W_M_twist) s0 x.2) (fun r => Fr (W_M_twist) s0 r.2)) t := by
  unfold f_M_twist_27b at hf
  by_cases c1 : x6 ≤ x1
  · have hf := gift c1 hf
    obtain ⟨j2, i3, hf⟩ := gbI hf
    obtain ⟨s4, ee5, hf⟩ := gbL hf
    have hF6 : Fr (W_M_twist) s0 s4 := by rw [ee5]; exact Fr.u h0 (by simp [W_M_twist])
    by_cases c7 : x2 = 0
    · have hf := gift c7 hf
      obtain ⟨t8, hg9, rfl⟩ := gmap hf
      exact w_M_twist_69 x1 x2 x3 x4 x5 (wI (x1 + 1)) 0 s0 s4 hF6 _ hg9
    · have hf := giff c7 hf
      obtain ⟨t10, hg11, rfl⟩ := gmap hf
      exact w_M_twist_69 x1 x2 x3 x4 x5 (wI (x1 + 1)) 1 s0 s4 hF6 _ hg11
  · have hf := giff c1 hf
    obtain ⟨j12, i13, hf⟩ := gbI hf
    obtain ⟨j14, i15, hf⟩ := gbI hf
    obtain ⟨s16, ee17, hf⟩ := gbL hf
    have hF18 : Fr (W_M_twist) s0 s16 := by rw [ee17]; exact Fr.u h0 (by simp [W_M_twist])
    obtain ⟨j19, i20, hf⟩ := gbI hf
    obtain ⟨j21, i22, hf⟩ := gbI hf
    obtain ⟨s23, ee24, hf⟩ := gbL hf
    have hF25 : Fr (W_M_twist) s0 s23 := by rw [ee24]; exact Fr.u hF18 (by simp [W_M_twist])
    cases hf
    exact hF25
theorem w_M_twist_27 (x1 : Int) (x2 : Int) (x3 : Int) (x4 : Int) (x5 : Int) (x6 : Int) (s0 s : kM) (h0 : Fr (W_M_twist) s0 s) (t : Int × kM) (hf : f_M_twist_27 x1 x2 x3 x4 x5 x6 s = some t) : (fun r => Fr (W_M_twist) s0 r.2) t :=
  gL_fr (P := fun (x : Int × kM) => Fr (W_M_twist) s0 x.2) (q := (fun r => Fr (W_M_twist) s0 r.2)) (fun x t hf h0 => w_M_twist_27b x1 x2 x3 x4 x5 x.1 s0 x.2 h0 t hf) gF (x6, s) t hf h0
theorem w_M_twist_12b (x1 : Int) (x2 : Int) (x3 : Int) (x4 : Int) (s0 s : kM) (h0 : Fr (W_M_twist) s0 s) (t : (Int) ⊕ (Int × kM)) (hf : f_M_twist_12b x1 x2 x3 x4 s = some t) : (gE (fun x => Fr (W_M_twist) s0 s) (fun r => Fr (W_M_twist) s0 r.2)) t := by
  unfold f_M_twist_12b at hf
  obtain ⟨q1, hq1, hf⟩ := gbind hf
  by_cases c2 : q1 = 0
  · have hf := gift c2 hf
    obtain ⟨q3, hq3, hf⟩ := gbind hf
    obtain ⟨q4, hq4, hf⟩ := gbind hf
    obtain ⟨t5, hg6, rfl⟩ := gmap hf
    exact w_M_twist_27 x1 x2 x3 x4 q3 (wI (q4 - 1)) s0 s h0 _ hg6
  · have hf := giff c2 hf
    cases hf
    exact h0
theorem w_M_twist_12 (x1 : Int) (x2 : Int) (x3 : Int) (x4 : Int) (s0 s : kM) (h0 : Fr (W_M_twist) s0 s) (t : Int × kM) (hf : f_M_twist_12 x1 x2 x3 x4 s = some t) : (fun r => Fr (W_M_twist) s0 r.2) t :=
  gL_fr (P := fun (x : Int) => Fr (W_M_twist) s0 s) (q := (fun r => Fr (W_M_twist) s0 r.2)) (fun x t hf h0 => w_M_twist_12b x1 x2 x3 x s0 s h0 t hf) gF (x4) t hf h0
theorem w_M_twist (x1 : Int) (x2 : Int) (x3 : Int) (s : kM) (t : Int × kM) (hf : f_M_twist x1 x2 x3 s = some t) : Fr (W_M_twist) s t.2 := by
  unfold f_M_twist at hf
  have h0 : Fr (W_M_twist) s s := Fr.r
  obtain ⟨q1, hq1, hf⟩ := gbind hf
  by_cases c2 : q1 = 0
  · have hf := gift c2 hf
    cases hf
    exact h0
  · have hf := giff c2 hf
    obtain ⟨q3, hq3, hf⟩ := gbind hf
    by_cases c4 : q3 = 11
    · have hf := gift c4 hf
      cases hf
      exact h0
    · have hf := giff c4 hf
      exact w_M_twist_12 x1 x2 x3 0 s s h0 _ hf
def W_M_mirror : List Nat := [88, 89, 98, 99]
theorem w_M_mirror_17 (x1 : Int) (s0 s : kM) (h0 : Fr (W_M_mirror) s0 s) (t : (Int × kM) ⊕ (Int × kM)) (hf : f_M_mirror_17 x1 s = some t) : (gE (fun x => Fr (W_M_mirror) s0 x.2) (fun r => Fr (W_M_mirror) s0 r.2)) t := by
  unfold f_M_mirror_17 at hf
  cases hf
  exact h0
theorem w_M_mirror_7b (x1 : Int) (s0 s : kM) (h0 : Fr (W_M_mirror) s0 s) (t : (Int × kM) ⊕ (Int × kM)) (hf : f_M_mirror_7b x1 s = some t) : (gE (fun x => Fr (W_M_mirror) s0 x.2) (fun r => Fr (W_M_mirror) s0 r.2)) t := by
  unfold f_M_mirror_7b at hf
  by_cases c1 : 11 ≤ x1
  · have hf := gift c1 hf
    obtain ⟨q2, hq2, hf⟩ := gbind hf
    cases hf
    exact h0
  · have hf := giff c1 hf
    obtain ⟨q3, hq3, hf⟩ := gbind hf
    by_cases c4 : q3 = 0
    · have hf := gift c4 hf
      exact w_M_mirror_17 x1 s0 s h0 _ hf
    · have hf := giff c4 hf
      obtain ⟨q5, hq5, hf⟩ := gbind hf
      have hF6 : Fr (W_M_mirror) s0 q5 := Fr.c h0 (w_M_changes1 x1 s _ hq5) (by intro a ha; simp only [W_M_mirror, W_M_changes1, List.mem_cons, List.not_mem_nil, or_false, not_or] at ha ⊢; omega)
      exact w_M_mirror_17 x1 s0 q5 hF6 _ hf
theorem w_M_mirror_7 (x1 : Int) (s0 s : kM) (h0 : Fr (W_M_mirror) s0 s) (t : Int × kM) (hf : f_M_mirror_7 x1 s = some t) : (fun r => Fr (W_M_mirror) s0 r.2) t :=
  gL_fr (P := fun (x : Int × kM) => Fr (W_M_mirror) s0 x.2) (q := (fun r => Fr (W_M_mirror) s0 r.2)) (fun x t hf h0 => w_M_mirror_7b x.1 s0 x.2 h0 t hf) gF (x1, s) t hf h0
theorem w_M_mirror (s : kM) (t : Int × kM) (hf : f_M_mirror s = some t) : Fr (W_M_mirror) s t.2 := by
  unfold f_M_mirror at hf
  have h0 : Fr (W_M_mirror) s s := Fr.r
  obtain ⟨q1, hq1, hf⟩ := gbind hf
  by_cases c2 : q1 = 0
  · have hf := gift c2 hf
    cases hf
    exact h0
  · have hf := giff c2 hf
    exact w_M_mirror_7 0 s s h0 _ hf
def W_M_backToFront : List Nat := [87, 88, 89, 98, 99]
theorem w_M_backToFront_52b (x2 : Int) (x3 : Int) (x4 : Int) (s0 s : kM) (h0 : Fr (W_M_backToFront) s0 s) (t : (Int × kM) ⊕ (Int × kM)) (hf : f_M_backToFront_52b x2 x3 x4 s = some t) : (gE (fun x => Fr (W_M_backToFront) s0 x.2) (fun r => Fr (W_M_backToFront) s0 r.2)) t := by
  unfold f_M_backToFront_52b at hf
  by_cases c1 : (kdiv x3 2) ≤ x4
  · have hf := gift c1 hf
    obtain ⟨q2, hq2, hf⟩ := gbind hf
    have hF3 : Fr (W_M_backToFront) s0 q2 := Fr.c h0 (w_M_refresh s _ hq2) (by intro a ha; simp only [W_M_backToFront, W_M_refresh, List.mem_cons, List.not_mem_nil, or_false, not_or] at ha ⊢; omega)
    cases hf
    exact hF3
  · have hf := giff c1 hf
    obtain ⟨j4, i5, hf⟩ := gbI hf
    obtain ⟨j6, i7, hf⟩ := gbI hf
    obtain ⟨j8, i9, hf⟩ := gbI hf
    obtain ⟨j10, i11, hf⟩ := gbI hf
    obtain ⟨s12, ee13, hf⟩ := gbL hf
    have hF14 : Fr (W_M_backToFront) s0 s12 := by rw [ee13]; exact Fr.u h0 (by simp [W_M_backToFront])
    obtain ⟨j15, i16, hf⟩ := gbI hf
    obtain ⟨j17, i18, hf⟩ := gbI hf
    obtain ⟨s19, ee20, hf⟩ := gbL hf
    have hF21 : Fr (W_M_backToFront) s0 s19 := by rw [ee20]; exact Fr.u hF14 (by simp [W_M_backToFront])
    obtain ⟨j22, i23, hf⟩ := gbI hf
    obtain ⟨s24, ee25, hf⟩ := gbL hf
    have hF26 : Fr (W_M_backToFront) s0 s24 := by rw [ee25]; exact Fr.u hF21 (by simp [W_M_backToFront])
    obtain ⟨j27, i28, hf⟩ := gbI hf
    obtain ⟨s29, ee30, hf⟩ := gbL hf
    have hF31 : Fr (W_M_backToFront) s0 s29 := by rw [ee30]; exact Fr.u hF26 (by simp [W_M_backToFront])
    cases hf
    exact hF31
theorem w_M_backToFront_52 (x2 : Int) (x3 : Int) (x4 : Int) (s0 s : kM) (h0 : Fr (W_M_backToFront) s0 s) (t : Int × kM) (hf : f_M_backToFront_52 x2 x3 x4 s = some t) : (fun r => Fr (W_M_backToFront) s0 r.2) t :=
  gL_fr (P := fun (x : Int × kM) => Fr (W_M_backToFront) s0 x.2) (q := (fun r => Fr (W_M_backToFront) s0 r.2)) (fun x t hf h0 => w_M_backToFront_52b x2 x3 x.1 s0 x.2 h0 t hf) gF (x4, s) t hf h0
theorem w_M_backToFront_37 (x1 : Int) (x2 : Int) (s0 s : kM) (h0 : Fr (W_M_backToFront) s0 s) (t : (Int × kM) ⊕ (Int × kM)) (hf : f_M_backToFront_37 x1 x2 s = some t) : (gE (fun x => Fr (W_M_backToFront) s0 x.2) (fun r => Fr (W_M_backToFront) s0 r.2)) t := by
  unfold f_M_backToFront_37 at hf
  cases hf
  exact h0
theorem w_M_backToFront_16b (x1 : Int) (x2 : Int) (s0 s : kM) (h0 : Fr (W_M_backToFront) s0 s) (t : (Int × kM) ⊕ (Int × kM)) (hf : f_M_backToFront_16b x1 x2 s = some t) : (gE (fun x => Fr (W_M_backToFront) s0 x.2) (fun r => Fr (W_M_backToFront) s0 r.2)) t := by
  unfold f_M_backToFront_16b at hf
  by_cases c1 : 11 ≤ x2
  · have hf := gift c1 hf
    obtain ⟨q2, hq2, hf⟩ := gbind hf
    obtain ⟨j3, i4, hf⟩ := gbI hf
    obtain ⟨t5, hg6, rfl⟩ := gmap hf
    exact w_M_backToFront_52 q2 (s 86 j3) 0 s0 s h0 _ hg6
  · have hf := giff c1 hf
    obtain ⟨q7, hq7, hf⟩ := gbind hf
    by_cases c8 : q7 = 0
    · have hf := gift c8 hf
      exact w_M_backToFront_37 x1 x2 s0 s h0 _ hf
    · have hf := giff c8 hf
      obtain ⟨q9, hq9, hf⟩ := gbind hf
      by_cases c10 : q9 = 0
      · have hf := gift c10 hf
        exact w_M_backToFront_37 x1 x2 s0 s h0 _ hf
      · have hf := giff c10 hf
        obtain ⟨j11, i12, hf⟩ := gbI hf
        obtain ⟨j13, i14, hf⟩ := gbI hf
        obtain ⟨s15, ee16, hf⟩ := gbL hf
        have hF17 : Fr (W_M_backToFront) s0 s15 := by rw [ee16]; exact Fr.u h0 (by simp [W_M_backToFront])
        exact w_M_backToFront_37 x1 x2 s0 s15 hF17 _ hf
theorem w_M_backToFront_16 (x1 : Int) (x2 : Int) (s0 s : kM) (h0 : Fr (W_M_backToFront) s0 s) (t : Int × kM) (hf : f_M_backToFront_16 x1 x2 s = some t) : (fun r => Fr (W_M_backToFront) s0 r.2) t :=
  gL_fr (P := fun (x : Int × kM) => Fr (W_M_backToFront) s0 x.2) (q := (fun r => Fr (W_M_backToFront) s0 r.2)) (fun x t hf h0 => w_M_backToFront_16b x1 x.1 s0 x.2 h0 t hf) gF (x2, s) t hf h0
theorem w_M_backToFront (x1 : Int) (s : kM) (t : Int × kM) (hf : f_M_backToFront x1 s = some t) : Fr (W_M_backToFront) s t.2 := by
  unfold f_M_backToFront at hf
  have h0 : Fr (W_M_backToFront) s s := Fr.r
  obtain ⟨q1, hq1, hf⟩ := gbind hf
  by_cases c2 : q1 = 0
  · have hf := gift c2 hf
    cases hf
    exact h0
  · have hf := giff c2 hf
    exact w_M_backToFront_16 x1 0 s s h0 _ hf
def W_M_canMove : List Nat := [116]
theorem w_M_canMove (x1 : Int) (s : kM) (t : Int × kM) (hf : f_M_canMove x1 s = some t) : Fr (W_M_canMove) s t.2 := by
  unfold f_M_canMove at hf
  have h0 : Fr (W_M_canMove) s s := Fr.r
  obtain ⟨q1, hq1, hf⟩ := gbind hf
  obtain ⟨q2, hq2, hf⟩ := gbind hf
  obtain ⟨q3, hq3, hf⟩ := gbind hf
  obtain ⟨q4, hq4, hf⟩ := gbind hf
  by_cases c5 : q4 = 1
  · have hf := gift c5 hf
    obtain ⟨q6, hq6, hf⟩ := gbind hf
    obtain ⟨w7, hf⟩ := gbB hf
    cases hf
    exact h0
  have hf := giff c5 hf
  by_cases c8 : q4 = 2
  · have hf := gift c8 hf
    by_cases c9 : q2 ≤ q1
    · have hf := gift c9 hf
      cases hf
      exact h0
    · have hf := giff c9 hf
      obtain ⟨q10, hq10, hf⟩ := gbind hf
      by_cases c11 : q10 = 0
      · have hf := gift c11 hf
        cases hf
        exact h0
      · have hf := giff c11 hf
        cases hf
        exact h0
  have hf := giff c8 hf
  by_cases c12 : q2 ≤ q1
  · have hf := gift c12 hf
    cases hf
    exact h0
  · have hf := giff c12 hf
    by_cases c13 : q3 ≤ q2
    · have hf := gift c13 hf
      cases hf
      exact h0
    · have hf := giff c13 hf
      obtain ⟨q14, hq14, hf⟩ := gbind hf
      have hF15 : Fr (W_M_canMove) s q14.2 := Fr.c h0 (w_M_isSlide q1 q2 q3 s _ hq14) (by intro a ha; simp only [W_M_canMove, W_M_isSlide, List.mem_cons, List.not_mem_nil, or_false, not_or] at ha ⊢; omega)
      by_cases c16 : q14.1 = 0
      · have hf := gift c16 hf
        cases hf
        exact hF15
      · have hf := giff c16 hf
        cases hf
        exact hF15
def W_M_can : List Nat := [85, 100, 101, 102, 103, 116]
theorem w_M_can_32 (x1 : Int) (x3 : Int) (y0 : Int) (y1 : Int) (s0 s : kM) (h0 : Fr (W_M_can) s0 s) (t : (Int × Int × kM) ⊕ (Int × kM)) (hf : f_M_can_32 x1 x3 y0 y1 s = some t) : (gE (fun x => Fr (W_M_can) s0 x.2.2) (fun r => Fr (W_M_can) s0 r.2)) t := by
  unfold f_M_can_32 at hf
  cases hf
  exact h0
theorem w_M_can_31 (x1 : Int) (x3 : Int) (y0 : Int) (s0 s : kM) (h0 : Fr (W_M_can) s0 s) (t : (Int × Int × kM) ⊕ (Int × kM)) (hf : f_M_can_31 x1 x3 y0 s = some t) : (gE (fun x => Fr (W_M_can) s0 x.2.2) (fun r => Fr (W_M_can) s0 r.2)) t := by
  unfold f_M_can_31 at hf
  exact w_M_can_32 x1 x3 y0 0 s0 s h0 _ hf
theorem w_M_can_17b (x1 : Int) (x2 : Int) (x3 : Int) (s0 s : kM) (h0 : Fr (W_M_can) s0 s) (t : (Int × Int × kM) ⊕ (Int × kM)) (hf : f_M_can_17b x1 x2 x3 s = some t) : (gE (fun x => Fr (W_M_can) s0 x.2.2) (fun r => Fr (W_M_can) s0 r.2)) t := by
  unfold f_M_can_17b at hf
  by_cases c1 : 1463 ≤ x3
  · have hf := gift c1 hf
    cases hf
    exact h0
  · have hf := giff c1 hf
    obtain ⟨q2, hq2, hf⟩ := gbind hf
    by_cases c3 : q2 = x1
    · have hf := gift c3 hf
      obtain ⟨q4, hq4, hf⟩ := gbind hf
      have hF5 : Fr (W_M_can) s0 q4.2 := Fr.c h0 (w_M_canMove x3 s _ hq4) (by intro a ha; simp only [W_M_can, W_M_canMove, List.mem_cons, List.not_mem_nil, or_false, not_or] at ha ⊢; omega)
      by_cases c6 : q4.1 = 0
      · have hf := gift c6 hf
        exact w_M_can_31 x1 x3 x2 s0 q4.2 hF5 _ hf
      · have hf := giff c6 hf
        exact w_M_can_32 x1 x3 x2 1 s0 q4.2 hF5 _ hf
    · have hf := giff c3 hf
      exact w_M_can_31 x1 x3 x2 s0 s h0 _ hf
theorem w_M_can_17 (x1 : Int) (x2 : Int) (x3 : Int) (s0 s : kM) (h0 : Fr (W_M_can) s0 s) (t : Int × kM) (hf : f_M_can_17 x1 x2 x3 s = some t) : (fun r => Fr (W_M_can) s0 r.2) t :=
  gL_fr (P := fun (x : Int × Int × kM) => Fr (W_M_can) s0 x.2.2) (q := (fun r => Fr (W_M_can) s0 r.2)) (fun x t hf h0 => w_M_can_17b x1 x.1 x.2.1 s0 x.2.2 h0 t hf) gF (x2, x3, s) t hf h0
theorem w_M_can (x1 : Int) (s : kM) (t : Int × kM) (hf : f_M_can x1 s = some t) : Fr (W_M_can) s t.2 := by
  unfold f_M_can at hf
  have h0 : Fr (W_M_can) s s := Fr.r
  obtain ⟨q1, hq1, hf⟩ := gbind hf
  by_cases c2 : q1 = 0
  · have hf := gift c2 hf
    cases hf
    exact h0
  · have hf := giff c2 hf
    obtain ⟨q3, hq3, hf⟩ := gbind hf
    by_cases c4 : q3 = 0
    · have hf := gift c4 hf
      cases hf
      exact h0
    · have hf := giff c4 hf
      obtain ⟨q5, hq5, hf⟩ := gbind hf
      have hF6 : Fr (W_M_can) s q5 := Fr.c h0 (w_M_fillsLand s _ hq5) (by intro a ha; simp only [W_M_can, W_M_fillsLand, List.mem_cons, List.not_mem_nil, or_false, not_or] at ha ⊢; omega)
      exact w_M_can_17 x1 0 0 s q5 hF6 _ hf
