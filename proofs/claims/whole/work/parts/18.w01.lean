/-! PRINTED by wip/whole/decall.py: frames -/
def W_RuleText_seenWord : List Nat := [1]
theorem w_RuleText_seenWord_2b (x1 : Int) (s0 s : kM) (h0 : Fr (W_RuleText_seenWord) s0 s) (t : (Int × kM) ⊕ (Int × kM)) (hf : f_RuleText_seenWord_2b x1 s = some t) : (gE (fun x => Fr (W_RuleText_seenWord) s0 x.2) (fun r => Fr (W_RuleText_seenWord) s0 r.2)) t := by
  unfold f_RuleText_seenWord_2b at hf
  by_cases c1 : 8 ≤ x1
  · have hf := gift c1 hf
    cases hf
    exact h0
  · have hf := giff c1 hf
    obtain ⟨q2, hq2, hf⟩ := gbind hf
    obtain ⟨q3, hq3, hf⟩ := gbind hf
    have hF4 : Fr (W_RuleText_seenWord) s0 q3.2 := Fr.c h0 (w_Tape_seesWord q2 s _ hq3) (by intro a ha; simp only [W_RuleText_seenWord, W_Tape_seesWord, List.mem_cons, List.not_mem_nil, or_false, not_or] at ha ⊢; omega)
    by_cases c5 : q3.1 = 0
    · have hf := gift c5 hf
      cases hf
      exact hF4
    · have hf := giff c5 hf
      cases hf
      exact hF4
theorem w_RuleText_seenWord_2 (x1 : Int) (s0 s : kM) (h0 : Fr (W_RuleText_seenWord) s0 s) (t : Int × kM) (hf : f_RuleText_seenWord_2 x1 s = some t) : (fun r => Fr (W_RuleText_seenWord) s0 r.2) t :=
  gL_fr (P := fun (x : Int × kM) => Fr (W_RuleText_seenWord) s0 x.2) (q := (fun r => Fr (W_RuleText_seenWord) s0 r.2)) (fun x t hf h0 => w_RuleText_seenWord_2b x.1 s0 x.2 h0 t hf) gF (x1, s) t hf h0
theorem w_RuleText_seenWord (s : kM) (t : Int × kM) (hf : f_RuleText_seenWord s = some t) : Fr (W_RuleText_seenWord) s t.2 := by
  unfold f_RuleText_seenWord at hf
  have h0 : Fr (W_RuleText_seenWord) s s := Fr.r
  exact w_RuleText_seenWord_2 0 s s h0 _ hf
def W_RuleText_readValue : List Nat := [1, 54, 55]
theorem w_RuleText_readValue_69 (y1 : Int) (y2 : Int) (s0 s : kM) (h0 : Fr (W_RuleText_readValue) s0 s) (t : kM) (hf : f_RuleText_readValue_69 y1 y2 s = some t) : (fun r => Fr (W_RuleText_readValue) s0 r) t := by
  unfold f_RuleText_readValue_69 at hf
  obtain ⟨w1, hf⟩ := gbB hf
  obtain ⟨s2, ee3, hf⟩ := gbL hf
  have hF4 : Fr (W_RuleText_readValue) s0 s2 := by rw [ee3]; exact Fr.u h0 (by simp [W_RuleText_readValue])
  cases hf
  exact hF4
theorem w_RuleText_readValue_37 (x2 : Int) (x3 : Int) (x4 : Int) (s0 s : kM) (h0 : Fr (W_RuleText_readValue) s0 s) (t : kM) (hf : f_RuleText_readValue_37 x2 x3 x4 s = some t) : (fun r => Fr (W_RuleText_readValue) s0 r) t := by
  unfold f_RuleText_readValue_37 at hf
  by_cases c1 : (s 1 3) = 0
  · have hf := gift c1 hf
    obtain ⟨s2, ee3, hf⟩ := gbL hf
    have hF4 : Fr (W_RuleText_readValue) s0 s2 := by rw [ee3]; exact Fr.u h0 (by simp [W_RuleText_readValue])
    obtain ⟨q5, hq5, hf⟩ := gbind hf
    have hF6 : Fr (W_RuleText_readValue) s0 q5 := Fr.c hF4 (w_RuleText_emit x4 s2 _ hq5) (by intro a ha; simp only [W_RuleText_readValue, W_RuleText_emit, List.mem_cons, List.not_mem_nil, or_false, not_or] at ha ⊢; omega)
    by_cases c7 : x2 = 0
    · have hf := gift c7 hf
      obtain ⟨q8, hq8, hf⟩ := gbind hf
      obtain ⟨q9, hq9, hf⟩ := gbind hf
      have hF10 : Fr (W_RuleText_readValue) s0 q9.2 := Fr.c hF6 (w_Tape_takeWord q8 q5 _ hq9) (by intro a ha; simp only [W_RuleText_readValue, W_Tape_takeWord, List.mem_cons, List.not_mem_nil, or_false, not_or] at ha ⊢; omega)
      by_cases c11 : x3 = 6
      · have hf := gift c11 hf
        exact w_RuleText_readValue_69 (q9.2 54 3) 1 s0 q9.2 hF10 _ hf
      · have hf := giff c11 hf
        exact w_RuleText_readValue_69 (q9.2 54 3) 0 s0 q9.2 hF10 _ hf
    · have hf := giff c7 hf
      obtain ⟨q12, hq12, hf⟩ := gbind hf
      have hF13 : Fr (W_RuleText_readValue) s0 q12 := Fr.c hF6 (w_Tape_skipNumber q5 _ hq12) (by intro a ha; simp only [W_RuleText_readValue, W_Tape_skipNumber, List.mem_cons, List.not_mem_nil, or_false, not_or] at ha ⊢; omega)
      cases hf
      exact hF13
  · have hf := giff c1 hf
    cases hf
    exact h0
theorem w_RuleText_readValue_27 (x2 : Int) (x3 : Int) (x4 : Int) (s0 s : kM) (h0 : Fr (W_RuleText_readValue) s0 s) (t : kM) (hf : f_RuleText_readValue_27 x2 x3 x4 s = some t) : (fun r => Fr (W_RuleText_readValue) s0 r) t := by
  unfold f_RuleText_readValue_27 at hf
  by_cases c1 : (s 1 3) = 0
  · have hf := gift c1 hf
    by_cases c2 : (s 54 2) < 60
    · have hf := gift c2 hf
      exact w_RuleText_readValue_37 x2 x3 x4 s0 s h0 _ hf
    · have hf := giff c2 hf
      obtain ⟨q3, hq3, hf⟩ := gbind hf
      have hF4 : Fr (W_RuleText_readValue) s0 q3 := Fr.c h0 (w_Tape_fail 3 s _ hq3) (by intro a ha; simp only [W_RuleText_readValue, W_Tape_fail, List.mem_cons, List.not_mem_nil, or_false, not_or] at ha ⊢; omega)
      exact w_RuleText_readValue_37 x2 x3 x4 s0 q3 hF4 _ hf
  · have hf := giff c1 hf
    exact w_RuleText_readValue_37 x2 x3 x4 s0 s h0 _ hf
theorem w_RuleText_readValue_19 (x2 : Int) (x3 : Int) (y0 : Int) (s0 s : kM) (h0 : Fr (W_RuleText_readValue) s0 s) (t : kM) (hf : f_RuleText_readValue_19 x2 x3 y0 s = some t) : (fun r => Fr (W_RuleText_readValue) s0 r) t := by
  unfold f_RuleText_readValue_19 at hf
  by_cases c1 : x2 = 0
  · have hf := gift c1 hf
    by_cases c2 : 0 ≤ x3
    · have hf := gift c2 hf
      exact w_RuleText_readValue_27 x2 x3 y0 s0 s h0 _ hf
    · have hf := giff c2 hf
      obtain ⟨q3, hq3, hf⟩ := gbind hf
      have hF4 : Fr (W_RuleText_readValue) s0 q3 := Fr.c h0 (w_Tape_fail 0 s _ hq3) (by intro a ha; simp only [W_RuleText_readValue, W_Tape_fail, List.mem_cons, List.not_mem_nil, or_false, not_or] at ha ⊢; omega)
      exact w_RuleText_readValue_27 x2 x3 y0 s0 q3 hF4 _ hf
  · have hf := giff c1 hf
    exact w_RuleText_readValue_27 x2 x3 y0 s0 s h0 _ hf
theorem w_RuleText_readValue_9 (x2 : Int) (y0 : Int) (s0 s : kM) (h0 : Fr (W_RuleText_readValue) s0 s) (t : kM) (hf : f_RuleText_readValue_9 x2 y0 s = some t) : (fun r => Fr (W_RuleText_readValue) s0 r) t := by
  unfold f_RuleText_readValue_9 at hf
  by_cases c1 : x2 = 0
  · have hf := gift c1 hf
    exact w_RuleText_readValue_19 x2 y0 (wI ((-1) - y0)) s0 s h0 _ hf
  · have hf := giff c1 hf
    obtain ⟨q2, hq2, hf⟩ := gbind hf
    have hF3 : Fr (W_RuleText_readValue) s0 q2.2 := Fr.c h0 (w_Tape_seenNumber 99999 s _ hq2) (by intro a ha; simp only [W_RuleText_readValue, W_Tape_seenNumber, List.mem_cons, List.not_mem_nil, or_false, not_or] at ha ⊢; omega)
    exact w_RuleText_readValue_19 x2 y0 q2.1 s0 q2.2 hF3 _ hf
theorem w_RuleText_readValue (s : kM) (t : kM) (hf : f_RuleText_readValue s = some t) : Fr (W_RuleText_readValue) s t := by
  unfold f_RuleText_readValue at hf
  have h0 : Fr (W_RuleText_readValue) s s := Fr.r
  obtain ⟨q1, hq1, hf⟩ := gbind hf
  have hF2 : Fr (W_RuleText_readValue) s q1.2 := Fr.c h0 (w_Tape_seesNumber s _ hq1) (by intro a ha; simp only [W_RuleText_readValue, W_Tape_seesNumber, List.mem_cons, List.not_mem_nil, or_false, not_or] at ha ⊢; omega)
  by_cases c3 : q1.1 = 0
  · have hf := gift c3 hf
    obtain ⟨q4, hq4, hf⟩ := gbind hf
    have hF5 : Fr (W_RuleText_readValue) s q4.2 := Fr.c hF2 (w_RuleText_seenWord q1.2 _ hq4) (by intro a ha; simp only [W_RuleText_readValue, W_RuleText_seenWord, List.mem_cons, List.not_mem_nil, or_false, not_or] at ha ⊢; omega)
    exact w_RuleText_readValue_9 q1.1 q4.1 s q4.2 hF5 _ hf
  · have hf := giff c3 hf
    exact w_RuleText_readValue_9 q1.1 (-1) s q1.2 hF2 _ hf
def W_RuleText_takenJoint : List Nat := [1]
theorem w_RuleText_takenJoint (x1 : Int) (s : kM) (t : Int × kM) (hf : f_RuleText_takenJoint x1 s = some t) : Fr (W_RuleText_takenJoint) s t.2 := by
  unfold f_RuleText_takenJoint at hf
  have h0 : Fr (W_RuleText_takenJoint) s s := Fr.r
  by_cases c1 : (s 1 3) = 0
  · have hf := gift c1 hf
    by_cases c2 : x1 = 0
    · have hf := gift c2 hf
      obtain ⟨q3, hq3, hf⟩ := gbind hf
      have hF4 : Fr (W_RuleText_takenJoint) s q3.2 := Fr.c h0 (w_Tape_takeWord 13 s _ hq3) (by intro a ha; simp only [W_RuleText_takenJoint, W_Tape_takeWord, List.mem_cons, List.not_mem_nil, or_false, not_or] at ha ⊢; omega)
      by_cases c5 : q3.1 = 0
      · have hf := gift c5 hf
        cases hf
        exact hF4
      · have hf := giff c5 hf
        cases hf
        exact hF4
    have hf := giff c2 hf
    by_cases c6 : x1 = 1
    · have hf := gift c6 hf
      obtain ⟨q7, hq7, hf⟩ := gbind hf
      have hF8 : Fr (W_RuleText_takenJoint) s q7.2 := Fr.c h0 (w_Tape_takeWord 14 s _ hq7) (by intro a ha; simp only [W_RuleText_takenJoint, W_Tape_takeWord, List.mem_cons, List.not_mem_nil, or_false, not_or] at ha ⊢; omega)
      by_cases c9 : q7.1 = 0
      · have hf := gift c9 hf
        cases hf
        exact hF8
      · have hf := giff c9 hf
        cases hf
        exact hF8
    have hf := giff c6 hf
    by_cases c10 : x1 = 2
    · have hf := gift c10 hf
      obtain ⟨q11, hq11, hf⟩ := gbind hf
      have hF12 : Fr (W_RuleText_takenJoint) s q11.2 := Fr.c h0 (w_Tape_takeSign 42 s _ hq11) (by intro a ha; simp only [W_RuleText_takenJoint, W_Tape_takeSign, List.mem_cons, List.not_mem_nil, or_false, not_or] at ha ⊢; omega)
      by_cases c13 : q11.1 = 0
      · have hf := gift c13 hf
        obtain ⟨q14, hq14, hf⟩ := gbind hf
        have hF15 : Fr (W_RuleText_takenJoint) s q14.2 := Fr.c hF12 (w_Tape_takeSign 47 q11.2 _ hq14) (by intro a ha; simp only [W_RuleText_takenJoint, W_Tape_takeSign, List.mem_cons, List.not_mem_nil, or_false, not_or] at ha ⊢; omega)
        by_cases c16 : q14.1 = 0
        · have hf := gift c16 hf
          obtain ⟨q17, hq17, hf⟩ := gbind hf
          have hF18 : Fr (W_RuleText_takenJoint) s q17.2 := Fr.c hF15 (w_Tape_takeSign 37 q14.2 _ hq17) (by intro a ha; simp only [W_RuleText_takenJoint, W_Tape_takeSign, List.mem_cons, List.not_mem_nil, or_false, not_or] at ha ⊢; omega)
          by_cases c19 : q17.1 = 0
          · have hf := gift c19 hf
            cases hf
            exact hF18
          · have hf := giff c19 hf
            cases hf
            exact hF18
        · have hf := giff c16 hf
          cases hf
          exact hF15
      · have hf := giff c13 hf
        cases hf
        exact hF12
    have hf := giff c10 hf
    by_cases c20 : x1 = 3
    · have hf := gift c20 hf
      obtain ⟨q21, hq21, hf⟩ := gbind hf
      have hF22 : Fr (W_RuleText_takenJoint) s q21.2 := Fr.c h0 (w_Tape_takeSign 43 s _ hq21) (by intro a ha; simp only [W_RuleText_takenJoint, W_Tape_takeSign, List.mem_cons, List.not_mem_nil, or_false, not_or] at ha ⊢; omega)
      by_cases c23 : q21.1 = 0
      · have hf := gift c23 hf
        obtain ⟨q24, hq24, hf⟩ := gbind hf
        have hF25 : Fr (W_RuleText_takenJoint) s q24.2 := Fr.c hF22 (w_Tape_takeSign 45 q21.2 _ hq24) (by intro a ha; simp only [W_RuleText_takenJoint, W_Tape_takeSign, List.mem_cons, List.not_mem_nil, or_false, not_or] at ha ⊢; omega)
        by_cases c26 : q24.1 = 0
        · have hf := gift c26 hf
          cases hf
          exact hF25
        · have hf := giff c26 hf
          cases hf
          exact hF25
      · have hf := giff c23 hf
        cases hf
        exact hF22
    have hf := giff c20 hf
    obtain ⟨q27, hq27, hf⟩ := gbind hf
    have hF28 : Fr (W_RuleText_takenJoint) s q27.2 := Fr.c h0 (w_Tape_takeSign 42 s _ hq27) (by intro a ha; simp only [W_RuleText_takenJoint, W_Tape_takeSign, List.mem_cons, List.not_mem_nil, or_false, not_or] at ha ⊢; omega)
    by_cases c29 : q27.1 = 0
    · have hf := gift c29 hf
      obtain ⟨q30, hq30, hf⟩ := gbind hf
      have hF31 : Fr (W_RuleText_takenJoint) s q30.2 := Fr.c hF28 (w_Tape_takeSign 47 q27.2 _ hq30) (by intro a ha; simp only [W_RuleText_takenJoint, W_Tape_takeSign, List.mem_cons, List.not_mem_nil, or_false, not_or] at ha ⊢; omega)
      by_cases c32 : q30.1 = 0
      · have hf := gift c32 hf
        obtain ⟨q33, hq33, hf⟩ := gbind hf
        have hF34 : Fr (W_RuleText_takenJoint) s q33.2 := Fr.c hF31 (w_Tape_takeSign 37 q30.2 _ hq33) (by intro a ha; simp only [W_RuleText_takenJoint, W_Tape_takeSign, List.mem_cons, List.not_mem_nil, or_false, not_or] at ha ⊢; omega)
        by_cases c35 : q33.1 = 0
        · have hf := gift c35 hf
          cases hf
          exact hF34
        · have hf := giff c35 hf
          cases hf
          exact hF34
      · have hf := giff c32 hf
        cases hf
        exact hF31
    · have hf := giff c29 hf
      cases hf
      exact hF28
  · have hf := giff c1 hf
    cases hf
    exact h0
def W_RuleText_seenSign : List Nat := [1]
theorem w_RuleText_seenSign_22 (x1 : Int) (y0 : Int) (s0 s : kM) (h0 : Fr (W_RuleText_seenSign) s0 s) (t : Int × kM) (hf : f_RuleText_seenSign_22 x1 y0 s = some t) : (fun r => Fr (W_RuleText_seenSign) s0 r.2) t := by
  unfold f_RuleText_seenSign_22 at hf
  by_cases c1 : x1 = 60
  · have hf := gift c1 hf
    by_cases c2 : y0 = 0
    · have hf := gift c2 hf
      cases hf
      exact h0
    · have hf := giff c2 hf
      cases hf
      exact h0
  have hf := giff c1 hf
  by_cases c3 : x1 = 61
  · have hf := gift c3 hf
    cases hf
    exact h0
  have hf := giff c3 hf
  by_cases c4 : x1 = 62
  · have hf := gift c4 hf
    by_cases c5 : y0 = 0
    · have hf := gift c5 hf
      cases hf
      exact h0
    · have hf := giff c5 hf
      cases hf
      exact h0
  have hf := giff c4 hf
  cases hf
  exact h0
theorem w_RuleText_seenSign_21 (x1 : Int) (s0 s : kM) (h0 : Fr (W_RuleText_seenSign) s0 s) (t : Int × kM) (hf : f_RuleText_seenSign_21 x1 s = some t) : (fun r => Fr (W_RuleText_seenSign) s0 r.2) t := by
  unfold f_RuleText_seenSign_21 at hf
  exact w_RuleText_seenSign_22 x1 0 s0 s h0 _ hf
theorem w_RuleText_seenSign (s : kM) (t : Int × kM) (hf : f_RuleText_seenSign s = some t) : Fr (W_RuleText_seenSign) s t.2 := by
  unfold f_RuleText_seenSign at hf
  have h0 : Fr (W_RuleText_seenSign) s s := Fr.r
  obtain ⟨q1, hq1, hf⟩ := gbind hf
  have hF2 : Fr (W_RuleText_seenSign) s q1.2 := Fr.c h0 (w_Tape_look s _ hq1) (by intro a ha; simp only [W_RuleText_seenSign, W_Tape_look, List.mem_cons, List.not_mem_nil, or_false, not_or] at ha ⊢; omega)
  by_cases c3 : (q1.2 1 1) ≤ (wI ((q1.2 1 2) + 1))
  · have hf := gift c3 hf
    exact w_RuleText_seenSign_21 q1.1 s q1.2 hF2 _ hf
  · have hf := giff c3 hf
    obtain ⟨j4, i5, hf⟩ := gbI hf
    by_cases c6 : (q1.2 2 j4) = 61
    · have hf := gift c6 hf
      exact w_RuleText_seenSign_22 q1.1 1 s q1.2 hF2 _ hf
    · have hf := giff c6 hf
      exact w_RuleText_seenSign_21 q1.1 s q1.2 hF2 _ hf
def W_RuleText_readLevel : List Nat := [1, 54, 55]
theorem w_RuleText_readLevel_28b (rec : Nat → Int → Int → Int → kM → Option kM) (hrec : ∀ w x2 x3 x4 s t, rec w x2 x3 x4 s = some t → Fr (W_RuleText_readLevel) s t) (x2 : Int) (x3 : Int) (x4 : Int) (x5 : Int) (s0 s : kM) (h0 : Fr (W_RuleText_readLevel) s0 s) (t : (Int × Int × kM) ⊕ (kM)) (hf : f_RuleText_readLevel_28b rec x2 x3 x4 x5 s = some t) : (gE (fun x => Fr (W_RuleText_readLevel) s0 x.2.2) (fun r => Fr (W_RuleText_readLevel) s0 r)) t := by
  unfold f_RuleText_readLevel_28b at hf
  by_cases c1 : 400 ≤ x5
  · have hf := gift c1 hf
    cases hf
    exact h0
  · have hf := giff c1 hf
    by_cases c2 : x4 = 0
    · have hf := gift c2 hf
      cases hf
      exact h0
    · have hf := giff c2 hf
      obtain ⟨q3, hq3, hf⟩ := gbind hf
      have hF4 : Fr (W_RuleText_readLevel) s0 q3 := Fr.c h0 (hrec 0 (wI (x2 + 1)) x3 0 _ _ hq3) (by intro a ha; exact ha)
      obtain ⟨q5, hq5, hf⟩ := gbind hf
      have hF6 : Fr (W_RuleText_readLevel) s0 q5 := Fr.c hF4 (w_RuleText_emit x4 q3 _ hq5) (by intro a ha; simp only [W_RuleText_readLevel, W_RuleText_emit, List.mem_cons, List.not_mem_nil, or_false, not_or] at ha ⊢; omega)
      obtain ⟨q7, hq7, hf⟩ := gbind hf
      have hF8 : Fr (W_RuleText_readLevel) s0 q7.2 := Fr.c hF6 (w_RuleText_takenJoint x2 q5 _ hq7) (by intro a ha; simp only [W_RuleText_readLevel, W_RuleText_takenJoint, List.mem_cons, List.not_mem_nil, or_false, not_or] at ha ⊢; omega)
      cases hf
      exact hF8
theorem w_RuleText_readLevel_28 (rec : Nat → Int → Int → Int → kM → Option kM) (hrec : ∀ w x2 x3 x4 s t, rec w x2 x3 x4 s = some t → Fr (W_RuleText_readLevel) s t) (x2 : Int) (x3 : Int) (x4 : Int) (x5 : Int) (s0 s : kM) (h0 : Fr (W_RuleText_readLevel) s0 s) (t : kM) (hf : f_RuleText_readLevel_28 rec x2 x3 x4 x5 s = some t) : (fun r => Fr (W_RuleText_readLevel) s0 r) t :=
  gL_fr (P := fun (x : Int × Int × kM) => Fr (W_RuleText_readLevel) s0 x.2.2) (q := (fun r => Fr (W_RuleText_readLevel) s0 r)) (fun x t hf h0 => w_RuleText_readLevel_28b rec hrec x2 x3 x.1 x.2.1 s0 x.2.2 h0 t hf) gF (x4, x5, s) t hf h0
theorem w_RuleText_readLevel (rec : Nat → Int → Int → Int → kM → Option kM) (hrec : ∀ w x2 x3 x4 s t, rec w x2 x3 x4 s = some t → Fr (W_RuleText_readLevel) s t) (x2 : Int) (x3 : Int) (s : kM) (t : kM) (hf : f_RuleText_readLevel rec x2 x3 s = some t) : Fr (W_RuleText_readLevel) s t := by
  unfold f_RuleText_readLevel at hf
  have h0 : Fr (W_RuleText_readLevel) s s := Fr.r
  by_cases c1 : x2 = 2
  · have hf := gift c1 hf
    obtain ⟨q9, hq9, hf⟩ := gbind hf
    have hF10 : Fr (W_RuleText_readLevel) s q9 := Fr.c h0 (hrec 1 x3 0 0 _ _ hq9) (by intro a ha; exact ha)
    cases hf
    exact hF10
  · have hf := giff c1 hf
    by_cases c2 : x2 = 5
    · have hf := gift c2 hf
      obtain ⟨q7, hq7, hf⟩ := gbind hf
      have hF8 : Fr (W_RuleText_readLevel) s q7 := Fr.c h0 (w_RuleText_readValue s _ hq7) (by intro a ha; simp only [W_RuleText_readLevel, W_RuleText_readValue, List.mem_cons, List.not_mem_nil, or_false, not_or] at ha ⊢; omega)
      cases hf
      exact hF8
    · have hf := giff c2 hf
      obtain ⟨q3, hq3, hf⟩ := gbind hf
      have hF4 : Fr (W_RuleText_readLevel) s q3 := Fr.c h0 (hrec 0 (wI (x2 + 1)) x3 0 _ _ hq3) (by intro a ha; exact ha)
      obtain ⟨q5, hq5, hf⟩ := gbind hf
      have hF6 : Fr (W_RuleText_readLevel) s q5.2 := Fr.c hF4 (w_RuleText_takenJoint x2 q3 _ hq5) (by intro a ha; simp only [W_RuleText_readLevel, W_RuleText_takenJoint, List.mem_cons, List.not_mem_nil, or_false, not_or] at ha ⊢; omega)
      exact w_RuleText_readLevel_28 rec hrec x2 x3 q5.1 0 s q5.2 hF6 _ hf
theorem w_RuleText_readFact_15 (rec : Nat → Int → Int → Int → kM → Option kM) (hrec : ∀ w x2 x3 x4 s t, rec w x2 x3 x4 s = some t → Fr (W_RuleText_readLevel) s t) (x2 : Int) (x3 : Int) (s0 s : kM) (h0 : Fr (W_RuleText_readLevel) s0 s) (t : kM) (hf : f_RuleText_readFact_15 rec x2 x3 s = some t) : (fun r => Fr (W_RuleText_readLevel) s0 r) t := by
  unfold f_RuleText_readFact_15 at hf
  by_cases c1 : x2 < 10
  · have hf := gift c1 hf
    by_cases c2 : x3 = 0
    · have hf := gift c2 hf
      obtain ⟨q3, hq3, hf⟩ := gbind hf
      have hF4 : Fr (W_RuleText_readLevel) s0 q3.2 := Fr.c h0 (w_Tape_takeSign 91 s _ hq3) (by intro a ha; simp only [W_RuleText_readLevel, W_Tape_takeSign, List.mem_cons, List.not_mem_nil, or_false, not_or] at ha ⊢; omega)
      obtain ⟨q5, hq5, hf⟩ := gbind hf
      have hF6 : Fr (W_RuleText_readLevel) s0 q5 := Fr.c hF4 (hrec 0 0 (wI (x2 + 1)) 0 _ _ hq5) (by intro a ha; exact ha)
      by_cases c7 : (q5 1 3) = 0
      · have hf := gift c7 hf
        obtain ⟨q8, hq8, hf⟩ := gbind hf
        have hF9 : Fr (W_RuleText_readLevel) s0 q8.2 := Fr.c hF6 (w_Tape_takeSign 93 q5 _ hq8) (by intro a ha; simp only [W_RuleText_readLevel, W_Tape_takeSign, List.mem_cons, List.not_mem_nil, or_false, not_or] at ha ⊢; omega)
        by_cases c10 : q8.1 = 0
        · have hf := gift c10 hf
          obtain ⟨q11, hq11, hf⟩ := gbind hf
          have hF12 : Fr (W_RuleText_readLevel) s0 q11 := Fr.c hF9 (w_Tape_fail 0 q8.2 _ hq11) (by intro a ha; simp only [W_RuleText_readLevel, W_Tape_fail, List.mem_cons, List.not_mem_nil, or_false, not_or] at ha ⊢; omega)
          cases hf
          exact hF12
        · have hf := giff c10 hf
          cases hf
          exact hF9
      · have hf := giff c7 hf
        cases hf
        exact hF6
    · have hf := giff c2 hf
      obtain ⟨q13, hq13, hf⟩ := gbind hf
      have hF14 : Fr (W_RuleText_readLevel) s0 q13.2 := Fr.c h0 (w_Tape_takeWord 4 s _ hq13) (by intro a ha; simp only [W_RuleText_readLevel, W_Tape_takeWord, List.mem_cons, List.not_mem_nil, or_false, not_or] at ha ⊢; omega)
      obtain ⟨q15, hq15, hf⟩ := gbind hf
      have hF16 : Fr (W_RuleText_readLevel) s0 q15 := Fr.c hF14 (hrec 1 (wI (x2 + 1)) 0 0 _ _ hq15) (by intro a ha; exact ha)
      obtain ⟨q17, hq17, hf⟩ := gbind hf
      have hF18 : Fr (W_RuleText_readLevel) s0 q17 := Fr.c hF16 (w_RuleText_emit (-22) q15 _ hq17) (by intro a ha; simp only [W_RuleText_readLevel, W_RuleText_emit, List.mem_cons, List.not_mem_nil, or_false, not_or] at ha ⊢; omega)
      cases hf
      exact hF18
  · have hf := giff c1 hf
    obtain ⟨q19, hq19, hf⟩ := gbind hf
    have hF20 : Fr (W_RuleText_readLevel) s0 q19 := Fr.c h0 (w_Tape_fail 2 s _ hq19) (by intro a ha; simp only [W_RuleText_readLevel, W_Tape_fail, List.mem_cons, List.not_mem_nil, or_false, not_or] at ha ⊢; omega)
    cases hf
    exact hF20
theorem w_RuleText_readFact (rec : Nat → Int → Int → Int → kM → Option kM) (hrec : ∀ w x2 x3 x4 s t, rec w x2 x3 x4 s = some t → Fr (W_RuleText_readLevel) s t) (x2 : Int) (s : kM) (t : kM) (hf : f_RuleText_readFact rec x2 s = some t) : Fr (W_RuleText_readLevel) s t := by
  unfold f_RuleText_readFact at hf
  have h0 : Fr (W_RuleText_readLevel) s s := Fr.r
  obtain ⟨q1, hq1, hf⟩ := gbind hf
  have hF2 : Fr (W_RuleText_readLevel) s q1.2 := Fr.c h0 (w_Tape_seesWord 4 s _ hq1) (by intro a ha; simp only [W_RuleText_readLevel, W_Tape_seesWord, List.mem_cons, List.not_mem_nil, or_false, not_or] at ha ⊢; omega)
  by_cases c3 : q1.1 = 0
  · have hf := gift c3 hf
    obtain ⟨q4, hq4, hf⟩ := gbind hf
    have hF5 : Fr (W_RuleText_readLevel) s q4.2 := Fr.c hF2 (w_Tape_look q1.2 _ hq4) (by intro a ha; simp only [W_RuleText_readLevel, W_Tape_look, List.mem_cons, List.not_mem_nil, or_false, not_or] at ha ⊢; omega)
    by_cases c6 : q4.1 = 91
    · have hf := gift c6 hf
      exact w_RuleText_readFact_15 rec hrec x2 q1.1 s q4.2 hF5 _ hf
    · have hf := giff c6 hf
      obtain ⟨q7, hq7, hf⟩ := gbind hf
      have hF8 : Fr (W_RuleText_readLevel) s q7 := Fr.c hF5 (hrec 2 x2 0 0 _ _ hq7) (by intro a ha; exact ha)
      cases hf
      exact hF8
  · have hf := giff c3 hf
    exact w_RuleText_readFact_15 rec hrec x2 q1.1 s q1.2 hF2 _ hf
theorem w_RuleText_readComparison_44 (rec : Nat → Int → Int → Int → kM → Option kM) (hrec : ∀ w x2 x3 x4 s t, rec w x2 x3 x4 s = some t → Fr (W_RuleText_readLevel) s t) (x2 : Int) (x3 : Int) (y1 : Int) (y2 : Int) (s0 s : kM) (h0 : Fr (W_RuleText_readLevel) s0 s) (t : kM) (hf : f_RuleText_readComparison_44 rec x2 x3 y1 y2 s = some t) : (fun r => Fr (W_RuleText_readLevel) s0 r) t := by
  unfold f_RuleText_readComparison_44 at hf
  obtain ⟨s1, ee2, hf⟩ := gbL hf
  have hF3 : Fr (W_RuleText_readLevel) s0 s1 := by rw [ee2]; exact Fr.u h0 (by simp [W_RuleText_readLevel])
  obtain ⟨q4, hq4, hf⟩ := gbind hf
  have hF5 : Fr (W_RuleText_readLevel) s0 q4 := Fr.c hF3 (hrec 0 3 x2 0 _ _ hq4) (by intro a ha; exact ha)
  obtain ⟨q6, hq6, hf⟩ := gbind hf
  have hF7 : Fr (W_RuleText_readLevel) s0 q6 := Fr.c hF5 (w_RuleText_emit x3 q4 _ hq6) (by intro a ha; simp only [W_RuleText_readLevel, W_RuleText_emit, List.mem_cons, List.not_mem_nil, or_false, not_or] at ha ⊢; omega)
  cases hf
  exact hF7
theorem w_RuleText_readComparison_41 (rec : Nat → Int → Int → Int → kM → Option kM) (hrec : ∀ w x2 x3 x4 s t, rec w x2 x3 x4 s = some t → Fr (W_RuleText_readLevel) s t) (x2 : Int) (x3 : Int) (y1 : Int) (s0 s : kM) (h0 : Fr (W_RuleText_readLevel) s0 s) (t : kM) (hf : f_RuleText_readComparison_41 rec x2 x3 y1 s = some t) : (fun r => Fr (W_RuleText_readLevel) s0 r) t := by
  unfold f_RuleText_readComparison_41 at hf
  exact w_RuleText_readComparison_44 rec hrec x2 x3 y1 2 s0 s h0 _ hf
theorem w_RuleText_readComparison (rec : Nat → Int → Int → Int → kM → Option kM) (hrec : ∀ w x2 x3 x4 s t, rec w x2 x3 x4 s = some t → Fr (W_RuleText_readLevel) s t) (x2 : Int) (s : kM) (t : kM) (hf : f_RuleText_readComparison rec x2 s = some t) : Fr (W_RuleText_readLevel) s t := by
  unfold f_RuleText_readComparison at hf
  have h0 : Fr (W_RuleText_readLevel) s s := Fr.r
  obtain ⟨q1, hq1, hf⟩ := gbind hf
  have hF2 : Fr (W_RuleText_readLevel) s q1 := Fr.c h0 (hrec 0 3 x2 0 _ _ hq1) (by intro a ha; exact ha)
  by_cases c3 : (q1 1 3) = 0
  · have hf := gift c3 hf
    obtain ⟨q4, hq4, hf⟩ := gbind hf
    have hF5 : Fr (W_RuleText_readLevel) s q4.2 := Fr.c hF2 (w_RuleText_seenSign q1 _ hq4) (by intro a ha; simp only [W_RuleText_readLevel, W_RuleText_seenSign, List.mem_cons, List.not_mem_nil, or_false, not_or] at ha ⊢; omega)
    by_cases c6 : q4.1 = 0
    · have hf := gift c6 hf
      obtain ⟨q15, hq15, hf⟩ := gbind hf
      have hF16 : Fr (W_RuleText_readLevel) s q15 := Fr.c hF5 (w_Tape_fail 0 q4.2 _ hq15) (by intro a ha; simp only [W_RuleText_readLevel, W_Tape_fail, List.mem_cons, List.not_mem_nil, or_false, not_or] at ha ⊢; omega)
      cases hf
      exact hF16
    · have hf := giff c6 hf
      by_cases c7 : (q4.2 54 2) < 60
      · have hf := gift c7 hf
        obtain ⟨s8, ee9, hf⟩ := gbL hf
        have hF10 : Fr (W_RuleText_readLevel) s s8 := by rw [ee9]; exact Fr.u hF5 (by simp [W_RuleText_readLevel])
        by_cases c11 : q4.1 = (-16)
        · have hf := gift c11 hf
          exact w_RuleText_readComparison_41 rec hrec x2 q4.1 (s8 1 2) s s8 hF10 _ hf
        · have hf := giff c11 hf
          by_cases c12 : q4.1 = (-18)
          · have hf := gift c12 hf
            exact w_RuleText_readComparison_41 rec hrec x2 q4.1 (s8 1 2) s s8 hF10 _ hf
          · have hf := giff c12 hf
            exact w_RuleText_readComparison_44 rec hrec x2 q4.1 (s8 1 2) 1 s s8 hF10 _ hf
      · have hf := giff c7 hf
        obtain ⟨q13, hq13, hf⟩ := gbind hf
        have hF14 : Fr (W_RuleText_readLevel) s q13 := Fr.c hF5 (w_Tape_fail 3 q4.2 _ hq13) (by intro a ha; simp only [W_RuleText_readLevel, W_Tape_fail, List.mem_cons, List.not_mem_nil, or_false, not_or] at ha ⊢; omega)
        cases hf
        exact hF14
  · have hf := giff c3 hf
    cases hf
    exact hF2
theorem wr_RuleText_readLevel : ∀ (n w : Nat) (x2 x3 x4 : Int) (s t : kM), fr_RuleText_readLevel n w x2 x3 x4 s = some t → Fr W_RuleText_readLevel s t := by
  intro n
  induction n with
  | zero => intro w x2 x3 x4 s t h; cases h
  | succ n ih =>
    intro w x2 x3 x4 s t h
    unfold fr_RuleText_readLevel at h
    by_cases c1 : w = 0
    · exact w_RuleText_readLevel (fr_RuleText_readLevel n) ih x2 x3 s t (gift c1 h)
    · have h := giff c1 h
      by_cases c2 : w = 1
      · exact w_RuleText_readFact (fr_RuleText_readLevel n) ih x2 s t (gift c2 h)
      · exact w_RuleText_readComparison (fr_RuleText_readLevel n) ih x2 s t (giff c2 h)
def W_RuleText_readClause : List Nat := [1, 54, 55]
theorem w_RuleText_readClause (x2 : Int) (s : kM) (t : kM) (hf : f_RuleText_readClause x2 s = some t) : Fr (W_RuleText_readClause) s t := by
  unfold f_RuleText_readClause at hf
  have h0 : Fr (W_RuleText_readClause) s s := Fr.r
  obtain ⟨q1, hq1, hf⟩ := gbind hf
  have hF2 : Fr (W_RuleText_readClause) s q1.2 := Fr.c h0 (w_Tape_seesWord 3 s _ hq1) (by intro a ha; simp only [W_RuleText_readClause, W_Tape_seesWord, List.mem_cons, List.not_mem_nil, or_false, not_or] at ha ⊢; omega)
  by_cases c3 : q1.1 = 0
  · have hf := gift c3 hf
    obtain ⟨q14, hq14, hf⟩ := gbind hf
    have hF15 : Fr (W_RuleText_readClause) s q14 := Fr.c hF2 (w_Tape_fail 0 q1.2 _ hq14) (by intro a ha; simp only [W_RuleText_readClause, W_Tape_fail, List.mem_cons, List.not_mem_nil, or_false, not_or] at ha ⊢; omega)
    cases hf
    exact hF15
  · have hf := giff c3 hf
    by_cases c4 : x2 = 12
    · have hf := gift c4 hf
      obtain ⟨q12, hq12, hf⟩ := gbind hf
      have hF13 : Fr (W_RuleText_readClause) s q12 := Fr.c hF2 (w_Tape_fail 4 q1.2 _ hq12) (by intro a ha; simp only [W_RuleText_readClause, W_Tape_fail, List.mem_cons, List.not_mem_nil, or_false, not_or] at ha ⊢; omega)
      cases hf
      exact hF13
    · have hf := giff c4 hf
      obtain ⟨q5, hq5, hf⟩ := gbind hf
      have hF6 : Fr (W_RuleText_readClause) s q5.2 := Fr.c hF2 (w_Tape_takeWord 3 q1.2 _ hq5) (by intro a ha; simp only [W_RuleText_readClause, W_Tape_takeWord, List.mem_cons, List.not_mem_nil, or_false, not_or] at ha ⊢; omega)
      obtain ⟨q7, hq7, hf⟩ := gbind hf
      have hF8 : Fr (W_RuleText_readClause) s q7 := Fr.c hF6 (wr_RuleText_readLevel _ 0 0 0 0 _ _ hq7) (by intro a ha; simp only [W_RuleText_readClause, W_RuleText_readLevel, List.mem_cons, List.not_mem_nil, or_false, not_or] at ha ⊢; omega)
      by_cases c9 : x2 ≤ 0
      · have hf := gift c9 hf
        cases hf
        exact hF8
      · have hf := giff c9 hf
        obtain ⟨q10, hq10, hf⟩ := gbind hf
        have hF11 : Fr (W_RuleText_readClause) s q10 := Fr.c hF8 (w_RuleText_emit (-21) q7 _ hq10) (by intro a ha; simp only [W_RuleText_readClause, W_RuleText_emit, List.mem_cons, List.not_mem_nil, or_false, not_or] at ha ⊢; omega)
        cases hf
        exact hF11
def W_KT_force : List Nat := [3]
theorem w_KT_force (x1 : Int) (s : kM) (t : Int × kM) (hf : f_KT_force x1 s = some t) : Fr (W_KT_force) s t.2 := by
  unfold f_KT_force at hf
  have h0 : Fr (W_KT_force) s s := Fr.r
  by_cases c1 : x1 < (-1)
  · have hf := gift c1 hf
    cases hf
    exact h0
  · have hf := giff c1 hf
    by_cases c2 : x1 < (s 0 11)
    · have hf := gift c2 hf
      obtain ⟨s3, ee4, hf⟩ := gbL hf
      have hF5 : Fr (W_KT_force) s s3 := by rw [ee4]; exact Fr.u h0 (by simp [W_KT_force])
      cases hf
      exact hF5
    · have hf := giff c2 hf
      cases hf
      exact h0
def W_Bows_findOnRoad (b1 : Nat) : List Nat := [48, 49]
theorem w_Bows_findOnRoad_48b (b1 : Nat) (x3 : Int) (x4 : Int) (x5 : Int) (s0 s : kM) (h0 : Fr (W_Bows_findOnRoad b1) s0 s) (t : (Int × kM) ⊕ (kM)) (hf : f_Bows_findOnRoad_48b b1 x3 x4 x5 s = some t) : (gE (fun x => Fr (W_Bows_findOnRoad b1) s0 x.2) (fun r => Fr (W_Bows_findOnRoad b1) s0 r)) t := by
  unfold f_Bows_findOnRoad_48b at hf
  by_cases c1 : x3 ≤ x5
  · have hf := gift c1 hf
    cases hf
    exact h0
  · have hf := giff c1 hf
    obtain ⟨j2, i3, hf⟩ := gbI hf
    by_cases c4 : x4 ≤ (s 49 j2)
    · have hf := gift c4 hf
      cases hf
      exact h0
    · have hf := giff c4 hf
      obtain ⟨j5, i6, hf⟩ := gbI hf
      obtain ⟨s7, ee8, hf⟩ := gbL hf
      have hF9 : Fr (W_Bows_findOnRoad b1) s0 s7 := by rw [ee8]; exact Fr.u h0 (by simp [W_Bows_findOnRoad])
      cases hf
      exact hF9
theorem w_Bows_findOnRoad_48 (b1 : Nat) (x3 : Int) (x4 : Int) (x5 : Int) (s0 s : kM) (h0 : Fr (W_Bows_findOnRoad b1) s0 s) (t : kM) (hf : f_Bows_findOnRoad_48 b1 x3 x4 x5 s = some t) : (fun r => Fr (W_Bows_findOnRoad b1) s0 r) t :=
  gL_fr (P := fun (x : Int × kM) => Fr (W_Bows_findOnRoad b1) s0 x.2) (q := (fun r => Fr (W_Bows_findOnRoad b1) s0 r)) (fun x t hf h0 => w_Bows_findOnRoad_48b b1 x3 x4 x.1 s0 x.2 h0 t hf) gF (x5, s) t hf h0
theorem w_Bows_findOnRoad_46 (b1 : Nat) (x2 : Int) (x3 : Int) (x4 : Int) (s0 s : kM) (h0 : Fr (W_Bows_findOnRoad b1) s0 s) (t : kM) (hf : f_Bows_findOnRoad_46 b1 x2 x3 x4 s = some t) : (fun r => Fr (W_Bows_findOnRoad b1) s0 r) t := by
  unfold f_Bows_findOnRoad_46 at hf
  exact w_Bows_findOnRoad_48 b1 x3 x4 x2 s0 s h0 _ hf
theorem w_Bows_findOnRoad_21 (b1 : Nat) (x2 : Int) (x3 : Int) (x4 : Int) (x5 : Int) (y1 : Int) (y2 : Int) (s0 s : kM) (h0 : Fr (W_Bows_findOnRoad b1) s0 s) (t : (Int × kM) ⊕ (kM)) (hf : f_Bows_findOnRoad_21 b1 x2 x3 x4 x5 y1 y2 s = some t) : (gE (fun x => Fr (W_Bows_findOnRoad b1) s0 x.2) (fun r => Fr (W_Bows_findOnRoad b1) s0 r)) t := by
  unfold f_Bows_findOnRoad_21 at hf
  obtain ⟨s1, ee2, hf⟩ := gbL hf
  have hF3 : Fr (W_Bows_findOnRoad b1) s0 s1 := by rw [ee2]; exact Fr.u h0 (by simp [W_Bows_findOnRoad])
  obtain ⟨j4, i5, hf⟩ := gbI hf
  obtain ⟨s6, ee7, hf⟩ := gbL hf
  have hF8 : Fr (W_Bows_findOnRoad b1) s0 s6 := by rw [ee7]; exact Fr.u hF3 (by simp [W_Bows_findOnRoad])
  cases hf
  exact hF8
theorem w_Bows_findOnRoad_5b (b1 : Nat) (x2 : Int) (x3 : Int) (x4 : Int) (x5 : Int) (s0 s : kM) (h0 : Fr (W_Bows_findOnRoad b1) s0 s) (t : (Int × kM) ⊕ (kM)) (hf : f_Bows_findOnRoad_5b b1 x2 x3 x4 x5 s = some t) : (gE (fun x => Fr (W_Bows_findOnRoad b1) s0 x.2) (fun r => Fr (W_Bows_findOnRoad b1) s0 r)) t := by
  unfold f_Bows_findOnRoad_5b at hf
  by_cases c1 : x3 ≤ x5
  · have hf := gift c1 hf
    by_cases c2 : (s 48 0) = x4
    · have hf := gift c2 hf
      by_cases c5 : x3 ≤ x2
      · have hf := gift c5 hf
        obtain ⟨t6, hg7, rfl⟩ := gmap hf
        exact w_Bows_findOnRoad_46 b1 x2 x3 x4 s0 s h0 _ hg7
      · have hf := giff c5 hf
        obtain ⟨s8, ee9, hf⟩ := gbL hf
        have hF10 : Fr (W_Bows_findOnRoad b1) s0 s8 := by rw [ee9]; exact Fr.u h0 (by simp [W_Bows_findOnRoad])
        obtain ⟨t11, hg12, rfl⟩ := gmap hf
        exact w_Bows_findOnRoad_46 b1 x2 x3 x4 s0 s8 hF10 _ hg12
    · have hf := giff c2 hf
      obtain ⟨t3, hg4, rfl⟩ := gmap hf
      exact w_Bows_findOnRoad_46 b1 x2 x3 x4 s0 s h0 _ hg4
  · have hf := giff c1 hf
    obtain ⟨j13, i14, hf⟩ := gbI hf
    by_cases c15 : (kand (s (b1 + 1) j13) 1) = 0
    · have hf := gift c15 hf
      exact w_Bows_findOnRoad_21 b1 x2 x3 x4 x5 (s 48 0) 1 s0 s h0 _ hf
    · have hf := giff c15 hf
      exact w_Bows_findOnRoad_21 b1 x2 x3 x4 x5 (s 48 0) 0 s0 s h0 _ hf
theorem w_Bows_findOnRoad_5 (b1 : Nat) (x2 : Int) (x3 : Int) (x4 : Int) (x5 : Int) (s0 s : kM) (h0 : Fr (W_Bows_findOnRoad b1) s0 s) (t : kM) (hf : f_Bows_findOnRoad_5 b1 x2 x3 x4 x5 s = some t) : (fun r => Fr (W_Bows_findOnRoad b1) s0 r) t :=
  gL_fr (P := fun (x : Int × kM) => Fr (W_Bows_findOnRoad b1) s0 x.2) (q := (fun r => Fr (W_Bows_findOnRoad b1) s0 r)) (fun x t hf h0 => w_Bows_findOnRoad_5b b1 x2 x3 x4 x.1 s0 x.2 h0 t hf) gF (x5, s) t hf h0
theorem w_Bows_findOnRoad (b1 : Nat) (x2 : Int) (x3 : Int) (s : kM) (t : kM) (hf : f_Bows_findOnRoad b1 x2 x3 s = some t) : Fr (W_Bows_findOnRoad b1) s t := by
  unfold f_Bows_findOnRoad at hf
  have h0 : Fr (W_Bows_findOnRoad b1) s s := Fr.r
  exact w_Bows_findOnRoad_5 b1 x2 x3 (s 48 0) x2 s s h0 _ hf
def W_Bows_find (b1 : Nat) : List Nat := [48, 49]
theorem w_Bows_find_22 (b1 : Nat) (x3 : Int) (y0 : Int) (y1 : Int) (s0 s : kM) (h0 : Fr (W_Bows_find b1) s0 s) (t : (Int × Int × kM) ⊕ (kM)) (hf : f_Bows_find_22 b1 x3 y0 y1 s = some t) : (gE (fun x => Fr (W_Bows_find b1) s0 x.2.2) (fun r => Fr (W_Bows_find b1) s0 r)) t := by
  unfold f_Bows_find_22 at hf
  obtain ⟨q1, hq1, hf⟩ := gbind hf
  obtain ⟨q2, hq2, hf⟩ := gbind hf
  obtain ⟨q3, hq3, hf⟩ := gbind hf
  have hF4 : Fr (W_Bows_find b1) s0 q3 := Fr.c h0 (w_Bows_findOnRoad b1 q1 q2 s _ hq3) (by intro a ha; simp only [W_Bows_find, W_Bows_findOnRoad, List.mem_cons, List.not_mem_nil, or_false, not_or] at ha ⊢; omega)
  cases hf
  exact hF4
theorem w_Bows_find_7b (b1 : Nat) (x2 : Int) (x3 : Int) (s0 s : kM) (h0 : Fr (W_Bows_find b1) s0 s) (t : (Int × Int × kM) ⊕ (kM)) (hf : f_Bows_find_7b b1 x2 x3 s = some t) : (gE (fun x => Fr (W_Bows_find b1) s0 x.2.2) (fun r => Fr (W_Bows_find b1) s0 r)) t := by
  unfold f_Bows_find_7b at hf
  by_cases c1 : (s b1 0) ≤ x3
  · have hf := gift c1 hf
    obtain ⟨s2, ee3, hf⟩ := gbL hf
    have hF4 : Fr (W_Bows_find b1) s0 s2 := by rw [ee3]; exact Fr.u h0 (by simp [W_Bows_find])
    cases hf
    exact hF4
  · have hf := giff c1 hf
    obtain ⟨q5, hq5, hf⟩ := gbind hf
    obtain ⟨q6, hq6, hf⟩ := gbind hf
    by_cases c7 : q5 = q6
    · have hf := gift c7 hf
      exact w_Bows_find_22 b1 x3 x2 1 s0 s h0 _ hf
    · have hf := giff c7 hf
      exact w_Bows_find_22 b1 x3 x2 0 s0 s h0 _ hf
theorem w_Bows_find_7 (b1 : Nat) (x2 : Int) (x3 : Int) (s0 s : kM) (h0 : Fr (W_Bows_find b1) s0 s) (t : kM) (hf : f_Bows_find_7 b1 x2 x3 s = some t) : (fun r => Fr (W_Bows_find b1) s0 r) t :=
  gL_fr (P := fun (x : Int × Int × kM) => Fr (W_Bows_find b1) s0 x.2.2) (q := (fun r => Fr (W_Bows_find b1) s0 r)) (fun x t hf h0 => w_Bows_find_7b b1 x.1 x.2.1 s0 x.2.2 h0 t hf) gF (x2, x3, s) t hf h0
theorem w_Bows_find (b1 : Nat) (s : kM) (t : kM) (hf : f_Bows_find b1 s = some t) : Fr (W_Bows_find b1) s t := by
  unfold f_Bows_find at hf
  have h0 : Fr (W_Bows_find b1) s s := Fr.r
  obtain ⟨s1, ee2, hf⟩ := gbL hf
  have hF3 : Fr (W_Bows_find b1) s s1 := by rw [ee2]; exact Fr.u h0 (by simp [W_Bows_find])
  exact w_Bows_find_7 b1 0 0 s s1 hF3 _ hf
def W_KT_place : List Nat := [48, 49]
theorem w_KT_place (x1 : Int) (x2 : Int) (s : kM) (t : Int × kM) (hf : f_KT_place x1 x2 s = some t) : Fr (W_KT_place) s t.2 := by
  unfold f_KT_place at hf
  have h0 : Fr (W_KT_place) s s := Fr.r
  obtain ⟨q1, hq1, hf⟩ := gbind hf
  by_cases c2 : q1 = 0
  · have hf := gift c2 hf
    cases hf
    exact h0
  · have hf := giff c2 hf
    by_cases c3 : x2 = 0
    · have hf := gift c3 hf
      obtain ⟨j4, i5, hf⟩ := gbI hf
      cases hf
      exact h0
    have hf := giff c3 hf
    by_cases c6 : x2 = 1
    · have hf := gift c6 hf
      obtain ⟨j7, i8, hf⟩ := gbI hf
      cases hf
      exact h0
    have hf := giff c6 hf
    by_cases c9 : x2 = 2
    · have hf := gift c9 hf
      obtain ⟨q10, hq10, hf⟩ := gbind hf
      cases hf
      exact h0
    have hf := giff c9 hf
    by_cases c11 : x2 = 3
    · have hf := gift c11 hf
      obtain ⟨j12, i13, hf⟩ := gbI hf
      cases hf
      exact h0
    have hf := giff c11 hf
    by_cases c14 : x2 = 4
    · have hf := gift c14 hf
      obtain ⟨q15, hq15, hf⟩ := gbind hf
      have hF16 : Fr (W_KT_place) s q15 := Fr.c h0 (w_Bows_find 4 s _ hq15) (by intro a ha; simp only [W_KT_place, W_Bows_find, List.mem_cons, List.not_mem_nil, or_false, not_or] at ha ⊢; omega)
      obtain ⟨j17, i18, hf⟩ := gbI hf
      cases hf
      exact hF16
    have hf := giff c14 hf
    cases hf
    exact h0
def W_KT_land : List Nat := [17, 18, 19, 20]
theorem w_KT_land (x1 : Int) (s : kM) (t : Int × kM) (hf : f_KT_land x1 s = some t) : Fr (W_KT_land) s t.2 := by
  unfold f_KT_land at hf
  have h0 : Fr (W_KT_land) s s := Fr.r
  by_cases c1 : (s 4 0) = 0
  · have hf := gift c1 hf
    cases hf
    exact h0
  · have hf := giff c1 hf
    obtain ⟨q2, hq2, hf⟩ := gbind hf
    have hF3 : Fr (W_KT_land) s q2 := Fr.c h0 (w_Land_survey 17 4 s _ hq2) (by intro a ha; simp only [W_KT_land, W_Land_survey, List.mem_cons, List.not_mem_nil, or_false, not_or] at ha ⊢; omega)
    by_cases c4 : x1 = 0
    · have hf := gift c4 hf
      cases hf
      exact hF3
    have hf := giff c4 hf
    by_cases c5 : x1 = 1
    · have hf := gift c5 hf
      cases hf
      exact hF3
    have hf := giff c5 hf
    by_cases c6 : x1 = 2
    · have hf := gift c6 hf
      cases hf
      exact hF3
    have hf := giff c6 hf
    by_cases c7 : x1 = 3
    · have hf := gift c7 hf
      cases hf
      exact hF3
    have hf := giff c7 hf
    cases hf
    exact hF3
def W_Town_drop (b0 : Nat) : List Nat := [b0, b0 + 1]
theorem w_Town_drop_40 (b0 : Nat) (x1 : Int) (x2 : Int) (x3 : Int) (x4 : Int) (s0 s : kM) (h0 : Fr (W_Town_drop b0) s0 s) (t : (Int × Int × Int × kM) ⊕ (kM)) (hf : f_Town_drop_40 b0 x1 x2 x3 x4 s = some t) : (gE (fun x => Fr (W_Town_drop b0) s0 x.2.2.2) (fun r => Fr (W_Town_drop b0) s0 r)) t := by
  unfold f_Town_drop_40 at hf
  cases hf
  exact h0
theorem w_Town_drop_38 (b0 : Nat) (x1 : Int) (x2 : Int) (x4 : Int) (y0 : Int) (y1 : Int) (s0 s : kM) (h0 : Fr (W_Town_drop b0) s0 s) (t : (Int × Int × Int × kM) ⊕ (kM)) (hf : f_Town_drop_38 b0 x1 x2 x4 y0 y1 s = some t) : (gE (fun x => Fr (W_Town_drop b0) s0 x.2.2.2) (fun r => Fr (W_Town_drop b0) s0 r)) t := by
  unfold f_Town_drop_38 at hf
  exact w_Town_drop_40 b0 x1 x2 (wI (y0 + y1)) x4 s0 s h0 _ hf
theorem w_Town_drop_6b (b0 : Nat) (x1 : Int) (x2 : Int) (x3 : Int) (x4 : Int) (s0 s : kM) (h0 : Fr (W_Town_drop b0) s0 s) (t : (Int × Int × Int × kM) ⊕ (kM)) (hf : f_Town_drop_6b b0 x1 x2 x3 x4 s = some t) : (gE (fun x => Fr (W_Town_drop b0) s0 x.2.2.2) (fun r => Fr (W_Town_drop b0) s0 r)) t := by
  unfold f_Town_drop_6b at hf
  by_cases c1 : (s b0 2) ≤ x4
  · have hf := gift c1 hf
    obtain ⟨s2, ee3, hf⟩ := gbL hf
    have hF4 : Fr (W_Town_drop b0) s0 s2 := by rw [ee3]; exact Fr.u h0 (by simp [W_Town_drop])
    obtain ⟨s5, ee6, hf⟩ := gbL hf
    have hF7 : Fr (W_Town_drop b0) s0 s5 := by rw [ee6]; exact Fr.u hF4 (by simp [W_Town_drop])
    cases hf
    exact hF7
  · have hf := giff c1 hf
    obtain ⟨j8, i9, hf⟩ := gbI hf
    by_cases c10 : (kand (kshr x1 (kshr (s (b0 + 1) j8) 1)) 1) = 0
    · have hf := gift c10 hf
      obtain ⟨j11, i12, hf⟩ := gbI hf
      obtain ⟨j13, i14, hf⟩ := gbI hf
      obtain ⟨s15, ee16, hf⟩ := gbL hf
      have hF17 : Fr (W_Town_drop b0) s0 s15 := by rw [ee16]; exact Fr.u h0 (by simp [W_Town_drop])
      by_cases c18 : (s15 b0 1) ≤ x4
      · have hf := gift c18 hf
        exact w_Town_drop_38 b0 x1 (wI (x2 + 1)) x4 x3 0 s0 s15 hF17 _ hf
      · have hf := giff c18 hf
        exact w_Town_drop_38 b0 x1 (wI (x2 + 1)) x4 x3 1 s0 s15 hF17 _ hf
    · have hf := giff c10 hf
      exact w_Town_drop_40 b0 x1 x2 x3 x4 s0 s h0 _ hf
theorem w_Town_drop_6 (b0 : Nat) (x1 : Int) (x2 : Int) (x3 : Int) (x4 : Int) (s0 s : kM) (h0 : Fr (W_Town_drop b0) s0 s) (t : kM) (hf : f_Town_drop_6 b0 x1 x2 x3 x4 s = some t) : (fun r => Fr (W_Town_drop b0) s0 r) t :=
  gL_fr (P := fun (x : Int × Int × Int × kM) => Fr (W_Town_drop b0) s0 x.2.2.2) (q := (fun r => Fr (W_Town_drop b0) s0 r)) (fun x t hf h0 => w_Town_drop_6b b0 x1 x.1 x.2.1 x.2.2.1 s0 x.2.2.2 h0 t hf) gF (x2, x3, x4, s) t hf h0
theorem w_Town_drop (b0 : Nat) (x1 : Int) (s : kM) (t : kM) (hf : f_Town_drop b0 x1 s = some t) : Fr (W_Town_drop b0) s t := by
  unfold f_Town_drop at hf
  have h0 : Fr (W_Town_drop b0) s s := Fr.r
  exact w_Town_drop_6 b0 x1 0 0 0 s s h0 _ hf
def W_Town_swapAlong (b0 : Nat) : List Nat := [b0 + 1]
theorem w_Town_swapAlong (b0 : Nat) (x1 : Int) (s : kM) (t : kM) (hf : f_Town_swapAlong b0 x1 s = some t) : Fr (W_Town_swapAlong b0) s t := by
  unfold f_Town_swapAlong at hf
  have h0 : Fr (W_Town_swapAlong b0) s s := Fr.r
  obtain ⟨q1, hq1, hf⟩ := gbind hf
  by_cases c2 : q1 = 0
  · have hf := gift c2 hf
    cases hf
    exact h0
  · have hf := giff c2 hf
    obtain ⟨j3, i4, hf⟩ := gbI hf
    obtain ⟨j5, i6, hf⟩ := gbI hf
    obtain ⟨j7, i8, hf⟩ := gbI hf
    obtain ⟨j9, i10, hf⟩ := gbI hf
    obtain ⟨s11, ee12, hf⟩ := gbL hf
    have hF13 : Fr (W_Town_swapAlong b0) s s11 := by rw [ee12]; exact Fr.u h0 (by simp [W_Town_swapAlong])
    obtain ⟨j14, i15, hf⟩ := gbI hf
    obtain ⟨s16, ee17, hf⟩ := gbL hf
    have hF18 : Fr (W_Town_swapAlong b0) s s16 := by rw [ee17]; exact Fr.u hF13 (by simp [W_Town_swapAlong])
    cases hf
    exact hF18
def W_Land_perform (b0 : Nat) (b1 : Nat) : List Nat := [b1, b1 + 1]
theorem w_Land_perform (b0 : Nat) (b1 : Nat) (x2 : Int) (s : kM) (t : kM) (hf : f_Land_perform b0 b1 x2 s = some t) : Fr (W_Land_perform b0 b1) s t := by
  unfold f_Land_perform at hf
  have h0 : Fr (W_Land_perform b0 b1) s s := Fr.r
  by_cases c1 : x2 < 0
  · have hf := gift c1 hf
    cases hf
    exact h0
  · have hf := giff c1 hf
    by_cases c2 : x2 < (s b0 6)
    · have hf := gift c2 hf
      obtain ⟨j3, i4, hf⟩ := gbI hf
      obtain ⟨q5, hq5, hf⟩ := gbind hf
      by_cases c6 : q5 = 3
      · have hf := gift c6 hf
        obtain ⟨j7, i8, hf⟩ := gbI hf
        obtain ⟨q9, hq9, hf⟩ := gbind hf
        obtain ⟨j10, i11, hf⟩ := gbI hf
        obtain ⟨q12, hq12, hf⟩ := gbind hf
        have hF13 : Fr (W_Land_perform b0 b1) s q12 := Fr.c h0 (w_Town_swapAlong b1 (kshr (s (b0 + 2) j10) 1) s _ hq12) (by intro a ha; simp only [W_Land_perform, W_Town_swapAlong, List.mem_cons, List.not_mem_nil, or_false, not_or] at ha ⊢; omega)
        obtain ⟨q14, hq14, hf⟩ := gbind hf
        have hF15 : Fr (W_Land_perform b0 b1) s q14 := Fr.c hF13 (w_Town_swapAlong b1 (kshr q9 1) q12 _ hq14) (by intro a ha; simp only [W_Land_perform, W_Town_swapAlong, List.mem_cons, List.not_mem_nil, or_false, not_or] at ha ⊢; omega)
        obtain ⟨q16, hq16, hf⟩ := gbind hf
        obtain ⟨q17, hq17, hf⟩ := gbind hf
        have hF18 : Fr (W_Land_perform b0 b1) s q17 := Fr.c hF15 (w_Town_swapAlong b1 (kshr q16 1) q14 _ hq17) (by intro a ha; simp only [W_Land_perform, W_Town_swapAlong, List.mem_cons, List.not_mem_nil, or_false, not_or] at ha ⊢; omega)
        cases hf
        exact hF18
      · have hf := giff c6 hf
        obtain ⟨q19, hq19, hf⟩ := gbind hf
        obtain ⟨q20, hq20, hf⟩ := gbind hf
        have hF21 : Fr (W_Land_perform b0 b1) s q20 := Fr.c h0 (w_Town_drop b1 q19 s _ hq20) (by intro a ha; simp only [W_Land_perform, W_Town_drop, List.mem_cons, List.not_mem_nil, or_false, not_or] at ha ⊢; omega)
        cases hf
        exact hF21
    · have hf := giff c2 hf
      cases hf
      exact h0
def W_KT_moveBy : List Nat := [3, 4, 5, 7, 8, 9, 17, 18, 19, 20, 21, 44]
theorem w_KT_moveBy (x1 : Int) (s : kM) (t : Int × kM) (hf : f_KT_moveBy x1 s = some t) : Fr (W_KT_moveBy) s t.2 := by
  unfold f_KT_moveBy at hf
  have h0 : Fr (W_KT_moveBy) s s := Fr.r
  obtain ⟨q1, hq1, hf⟩ := gbind hf
  have hF2 : Fr (W_KT_moveBy) s q1 := Fr.c h0 (w_Land_survey 17 4 s _ hq1) (by intro a ha; simp only [W_KT_moveBy, W_Land_survey, List.mem_cons, List.not_mem_nil, or_false, not_or] at ha ⊢; omega)
  obtain ⟨q3, hq3, hf⟩ := gbind hf
  by_cases c4 : 0 ≤ q3
  · have hf := gift c4 hf
    obtain ⟨q5, hq5, hf⟩ := gbind hf
    have hF6 : Fr (W_KT_moveBy) s q5 := Fr.c hF2 (w_Land_perform 17 4 q3 q1 _ hq5) (by intro a ha; simp only [W_KT_moveBy, W_Land_perform, List.mem_cons, List.not_mem_nil, or_false, not_or] at ha ⊢; omega)
    obtain ⟨q7, hq7, hf⟩ := gbind hf
    have hF8 : Fr (W_KT_moveBy) s q7 := Fr.c hF6 (w_Town_settle 4 q5 _ hq7) (by intro a ha; simp only [W_KT_moveBy, W_Town_settle, List.mem_cons, List.not_mem_nil, or_false, not_or] at ha ⊢; omega)
    obtain ⟨s9, ee10, hf⟩ := gbL hf
    have hF11 : Fr (W_KT_moveBy) s s9 := by rw [ee10]; exact Fr.u hF8 (by simp [W_KT_moveBy])
    obtain ⟨q12, hq12, hf⟩ := gbind hf
    have hF13 : Fr (W_KT_moveBy) s q12 := Fr.c hF11 (w_KT_forget s9 _ hq12) (by intro a ha; simp only [W_KT_moveBy, W_KT_forget, List.mem_cons, List.not_mem_nil, or_false, not_or] at ha ⊢; omega)
    cases hf
    exact hF13
  · have hf := giff c4 hf
    cases hf
    exact hF2
def W_KT_off : List Nat := [3, 4, 5, 7, 8, 9, 17, 18, 19, 20, 21, 44]
theorem w_KT_off (x1 : Int) (s : kM) (t : Int × kM) (hf : f_KT_off x1 s = some t) : Fr (W_KT_off) s t.2 := by
  unfold f_KT_off at hf
  have h0 : Fr (W_KT_off) s s := Fr.r
  obtain ⟨q1, hq1, hf⟩ := gbind hf
  by_cases c2 : q1 = 0
  · have hf := gift c2 hf
    cases hf
    exact h0
  · have hf := giff c2 hf
    obtain ⟨q3, hq3, hf⟩ := gbind hf
    obtain ⟨q4, hq4, hf⟩ := gbind hf
    have hF5 : Fr (W_KT_off) s q4.2 := Fr.c h0 (w_KT_moveBy q3 s _ hq4) (by intro a ha; simp only [W_KT_off, W_KT_moveBy, List.mem_cons, List.not_mem_nil, or_false, not_or] at ha ⊢; omega)
    by_cases c6 : q4.1 = 0
    · have hf := gift c6 hf
      cases hf
      exact hF5
    · have hf := giff c6 hf
      cases hf
      exact hF5
def W_KT_apart : List Nat := [3, 4, 5, 7, 8, 9, 17, 18, 19, 20, 21, 44]
theorem w_KT_apart (x1 : Int) (x2 : Int) (s : kM) (t : Int × kM) (hf : f_KT_apart x1 x2 s = some t) : Fr (W_KT_apart) s t.2 := by
  unfold f_KT_apart at hf
  have h0 : Fr (W_KT_apart) s s := Fr.r
  obtain ⟨q1, hq1, hf⟩ := gbind hf
  by_cases c2 : q1 = 0
  · have hf := gift c2 hf
    cases hf
    exact h0
  · have hf := giff c2 hf
    obtain ⟨q3, hq3, hf⟩ := gbind hf
    by_cases c4 : q3 = 0
    · have hf := gift c4 hf
      cases hf
      exact h0
    · have hf := giff c4 hf
      obtain ⟨q5, hq5, hf⟩ := gbind hf
      obtain ⟨q6, hq6, hf⟩ := gbind hf
      have hF7 : Fr (W_KT_apart) s q6.2 := Fr.c h0 (w_KT_moveBy q5 s _ hq6) (by intro a ha; simp only [W_KT_apart, W_KT_moveBy, List.mem_cons, List.not_mem_nil, or_false, not_or] at ha ⊢; omega)
      by_cases c8 : q6.1 = 0
      · have hf := gift c8 hf
        cases hf
        exact hF7
      · have hf := giff c8 hf
        cases hf
        exact hF7
def W_KT_slide : List Nat := [3, 4, 5, 7, 8, 9, 17, 18, 19, 20, 21, 44]
theorem w_KT_slide (x1 : Int) (x2 : Int) (x3 : Int) (s : kM) (t : Int × kM) (hf : f_KT_slide x1 x2 x3 s = some t) : Fr (W_KT_slide) s t.2 := by
  unfold f_KT_slide at hf
  have h0 : Fr (W_KT_slide) s s := Fr.r
  obtain ⟨q1, hq1, hf⟩ := gbind hf
  by_cases c2 : q1 = 0
  · have hf := gift c2 hf
    cases hf
    exact h0
  · have hf := giff c2 hf
    obtain ⟨q3, hq3, hf⟩ := gbind hf
    by_cases c4 : q3 = 0
    · have hf := gift c4 hf
      cases hf
      exact h0
    · have hf := giff c4 hf
      obtain ⟨q5, hq5, hf⟩ := gbind hf
      by_cases c6 : q5 = 0
      · have hf := gift c6 hf
        cases hf
        exact h0
      · have hf := giff c6 hf
        obtain ⟨q7, hq7, hf⟩ := gbind hf
        obtain ⟨q8, hq8, hf⟩ := gbind hf
        have hF9 : Fr (W_KT_slide) s q8.2 := Fr.c h0 (w_KT_moveBy q7 s _ hq8) (by intro a ha; simp only [W_KT_slide, W_KT_moveBy, List.mem_cons, List.not_mem_nil, or_false, not_or] at ha ⊢; omega)
        by_cases c10 : q8.1 = 0
        · have hf := gift c10 hf
          cases hf
          exact hF9
        · have hf := giff c10 hf
          cases hf
          exact hF9
def W_Town_flip (b0 : Nat) : List Nat := [b0 + 1, b0 + 2, b0 + 5]
theorem w_Town_flip (b0 : Nat) (x1 : Int) (s : kM) (t : kM) (hf : f_Town_flip b0 x1 s = some t) : Fr (W_Town_flip b0) s t := by
  unfold f_Town_flip at hf
  have h0 : Fr (W_Town_flip b0) s s := Fr.r
  obtain ⟨q1, hq1, hf⟩ := gbind hf
  by_cases c2 : q1 = 0
  · have hf := gift c2 hf
    cases hf
    exact h0
  · have hf := giff c2 hf
    obtain ⟨q3, hq3, hf⟩ := gbind hf
    obtain ⟨q4, hq4, hf⟩ := gbind hf
    obtain ⟨j5, i6, hf⟩ := gbI hf
    obtain ⟨s7, ee8, hf⟩ := gbL hf
    have hF9 : Fr (W_Town_flip b0) s s7 := by rw [ee8]; exact Fr.u h0 (by simp [W_Town_flip])
    obtain ⟨j10, i11, hf⟩ := gbI hf
    obtain ⟨s12, ee13, hf⟩ := gbL hf
    have hF14 : Fr (W_Town_flip b0) s s12 := by rw [ee13]; exact Fr.u hF9 (by simp [W_Town_flip])
    obtain ⟨j15, i16, hf⟩ := gbI hf
    obtain ⟨s17, ee18, hf⟩ := gbL hf
    have hF19 : Fr (W_Town_flip b0) s s17 := by rw [ee18]; exact Fr.u hF14 (by simp [W_Town_flip])
    obtain ⟨j20, i21, hf⟩ := gbI hf
    obtain ⟨s22, ee23, hf⟩ := gbL hf
    have hF24 : Fr (W_Town_flip b0) s s22 := by rw [ee23]; exact Fr.u hF19 (by simp [W_Town_flip])
    obtain ⟨j25, i26, hf⟩ := gbI hf
    obtain ⟨j27, i28, hf⟩ := gbI hf
    obtain ⟨s29, ee30, hf⟩ := gbL hf
    have hF31 : Fr (W_Town_flip b0) s s29 := by rw [ee30]; exact Fr.u hF24 (by simp [W_Town_flip])
    cases hf
    exact hF31
def W_KT_change : List Nat := [4, 5, 6, 7, 8, 9, 21, 44]
theorem w_KT_change (x1 : Int) (s : kM) (t : Int × kM) (hf : f_KT_change x1 s = some t) : Fr (W_KT_change) s t.2 := by
  unfold f_KT_change at hf
  have h0 : Fr (W_KT_change) s s := Fr.r
  obtain ⟨q1, hq1, hf⟩ := gbind hf
  by_cases c2 : q1 = 0
  · have hf := gift c2 hf
    cases hf
    exact h0
  · have hf := giff c2 hf
    obtain ⟨q3, hq3, hf⟩ := gbind hf
    have hF4 : Fr (W_KT_change) s q3 := Fr.c h0 (w_Town_flip 4 x1 s _ hq3) (by intro a ha; simp only [W_KT_change, W_Town_flip, List.mem_cons, List.not_mem_nil, or_false, not_or] at ha ⊢; omega)
    obtain ⟨q5, hq5, hf⟩ := gbind hf
    have hF6 : Fr (W_KT_change) s q5 := Fr.c hF4 (w_Town_settle 4 q3 _ hq5) (by intro a ha; simp only [W_KT_change, W_Town_settle, List.mem_cons, List.not_mem_nil, or_false, not_or] at ha ⊢; omega)
    obtain ⟨q7, hq7, hf⟩ := gbind hf
    have hF8 : Fr (W_KT_change) s q7 := Fr.c hF6 (w_KT_forget q5 _ hq7) (by intro a ha; simp only [W_KT_change, W_KT_forget, List.mem_cons, List.not_mem_nil, or_false, not_or] at ha ⊢; omega)
    obtain ⟨j9, i10, hf⟩ := gbI hf
    cases hf
    exact hF8
def W_Town_insert (b0 : Nat) : List Nat := [b0, b0 + 1]
theorem w_Town_insert_53 (b0 : Nat) (y1 : Int) (y2 : Int) (s0 s : kM) (h0 : Fr (W_Town_insert b0) s0 s) (t : kM) (hf : f_Town_insert_53 b0 y1 y2 s = some t) : (fun r => Fr (W_Town_insert b0) s0 r) t := by
  unfold f_Town_insert_53 at hf
  obtain ⟨s1, ee2, hf⟩ := gbL hf
  have hF3 : Fr (W_Town_insert b0) s0 s1 := by rw [ee2]; exact Fr.u h0 (by simp [W_Town_insert])
  obtain ⟨s4, ee5, hf⟩ := gbL hf
  have hF6 : Fr (W_Town_insert b0) s0 s4 := by rw [ee5]; exact Fr.u hF3 (by simp [W_Town_insert])
  cases hf
  exact hF6
theorem w_Town_insert_12b (b0 : Nat) (x1 : Int) (x2 : Int) (x3 : Int) (s0 s : kM) (h0 : Fr (W_Town_insert b0) s0 s) (t : (Int × kM) ⊕ (kM)) (hf : f_Town_insert_12b b0 x1 x2 x3 s = some t) : (gE (fun x => Fr (W_Town_insert b0) s0 x.2) (fun r => Fr (W_Town_insert b0) s0 r)) t := by
  unfold f_Town_insert_12b at hf
  by_cases c1 : x3 ≤ x1
  · have hf := gift c1 hf
    obtain ⟨j2, i3, hf⟩ := gbI hf
    obtain ⟨s4, ee5, hf⟩ := gbL hf
    have hF6 : Fr (W_Town_insert b0) s0 s4 := by rw [ee5]; exact Fr.u h0 (by simp [W_Town_insert])
    obtain ⟨j7, i8, hf⟩ := gbI hf
    obtain ⟨s9, ee10, hf⟩ := gbL hf
    have hF11 : Fr (W_Town_insert b0) s0 s9 := by rw [ee10]; exact Fr.u hF6 (by simp [W_Town_insert])
    obtain ⟨q12, hq12, hf⟩ := gbind hf
    by_cases c13 : q12 = 0
    · have hf := gift c13 hf
      obtain ⟨t16, hg17, rfl⟩ := gmap hf
      exact w_Town_insert_53 b0 (s9 b0 1) 2 s0 s9 hF11 _ hg17
    · have hf := giff c13 hf
      obtain ⟨t14, hg15, rfl⟩ := gmap hf
      exact w_Town_insert_53 b0 (s9 b0 1) 0 s0 s9 hF11 _ hg15
  · have hf := giff c1 hf
    obtain ⟨j18, i19, hf⟩ := gbI hf
    obtain ⟨j20, i21, hf⟩ := gbI hf
    obtain ⟨s22, ee23, hf⟩ := gbL hf
    have hF24 : Fr (W_Town_insert b0) s0 s22 := by rw [ee23]; exact Fr.u h0 (by simp [W_Town_insert])
    cases hf
    exact hF24
theorem w_Town_insert_12 (b0 : Nat) (x1 : Int) (x2 : Int) (x3 : Int) (s0 s : kM) (h0 : Fr (W_Town_insert b0) s0 s) (t : kM) (hf : f_Town_insert_12 b0 x1 x2 x3 s = some t) : (fun r => Fr (W_Town_insert b0) s0 r) t :=
  gL_fr (P := fun (x : Int × kM) => Fr (W_Town_insert b0) s0 x.2) (q := (fun r => Fr (W_Town_insert b0) s0 r)) (fun x t hf h0 => w_Town_insert_12b b0 x1 x2 x.1 s0 x.2 h0 t hf) gF (x3, s) t hf h0
theorem w_Town_insert (b0 : Nat) (x1 : Int) (x2 : Int) (s : kM) (t : kM) (hf : f_Town_insert b0 x1 x2 s = some t) : Fr (W_Town_insert b0) s t := by
  unfold f_Town_insert at hf
  have h0 : Fr (W_Town_insert b0) s s := Fr.r
  by_cases c1 : (wI ((s b0 2) + 2)) ≤ 22
  · have hf := gift c1 hf
    exact w_Town_insert_12 b0 x1 x2 (wI ((s b0 2) - 1)) s s h0 _ hf
  · have hf := giff c1 hf
    cases hf
    exact h0
def W_KT_twist : List Nat := [4, 5, 6, 7, 8, 9, 21, 44]
theorem w_KT_twist_35 (x5 : Int) (y1 : Int) (y2 : Int) (y3 : Int) (s0 s : kM) (h0 : Fr (W_KT_twist) s0 s) (t : Int × kM) (hf : f_KT_twist_35 x5 y1 y2 y3 s = some t) : (fun r => Fr (W_KT_twist) s0 r.2) t := by
  unfold f_KT_twist_35 at hf
  obtain ⟨q1, hq1, hf⟩ := gbind hf
  have hF2 : Fr (W_KT_twist) s0 q1 := Fr.c h0 (w_Town_insert 4 y1 (wI (y2 + y3)) s _ hq1) (by intro a ha; simp only [W_KT_twist, W_Town_insert, List.mem_cons, List.not_mem_nil, or_false, not_or] at ha ⊢; omega)
  obtain ⟨q3, hq3, hf⟩ := gbind hf
  have hF4 : Fr (W_KT_twist) s0 q3 := Fr.c hF2 (w_Town_settle 4 q1 _ hq3) (by intro a ha; simp only [W_KT_twist, W_Town_settle, List.mem_cons, List.not_mem_nil, or_false, not_or] at ha ⊢; omega)
  obtain ⟨q5, hq5, hf⟩ := gbind hf
  have hF6 : Fr (W_KT_twist) s0 q5 := Fr.c hF4 (w_KT_forget q3 _ hq5) (by intro a ha; simp only [W_KT_twist, W_KT_forget, List.mem_cons, List.not_mem_nil, or_false, not_or] at ha ⊢; omega)
  cases hf
  exact hF6
theorem w_KT_twist_24 (x1 : Int) (x2 : Int) (x5 : Int) (y1 : Int) (y2 : Int) (s0 s : kM) (h0 : Fr (W_KT_twist) s0 s) (t : Int × kM) (hf : f_KT_twist_24 x1 x2 x5 y1 y2 s = some t) : (fun r => Fr (W_KT_twist) s0 r.2) t := by
  unfold f_KT_twist_24 at hf
  obtain ⟨j1, i2, hf⟩ := gbI hf
  obtain ⟨s3, ee4, hf⟩ := gbL hf
  have hF5 : Fr (W_KT_twist) s0 s3 := by rw [ee4]; exact Fr.u h0 (by simp [W_KT_twist])
  by_cases c6 : x2 = 0
  · have hf := gift c6 hf
    exact w_KT_twist_35 x5 x1 (wI (2 * x5)) 0 s0 s3 hF5 _ hf
  · have hf := giff c6 hf
    exact w_KT_twist_35 x5 x1 (wI (2 * x5)) 1 s0 s3 hF5 _ hf
theorem w_KT_twist (x1 : Int) (x2 : Int) (x3 : Int) (s : kM) (t : Int × kM) (hf : f_KT_twist x1 x2 x3 s = some t) : Fr (W_KT_twist) s t.2 := by
  unfold f_KT_twist at hf
  have h0 : Fr (W_KT_twist) s s := Fr.r
  obtain ⟨q1, hq1, hf⟩ := gbind hf
  obtain ⟨q2, hq2, hf⟩ := gbind hf
  by_cases c3 : q2 = 0
  · have hf := gift c3 hf
    cases hf
    exact h0
  · have hf := giff c3 hf
    by_cases c4 : q1 < 11
    · have hf := gift c4 hf
      by_cases c5 : x3 = 0
      · have hf := gift c5 hf
        exact w_KT_twist_24 x1 x2 q1 q1 0 s s h0 _ hf
      · have hf := giff c5 hf
        exact w_KT_twist_24 x1 x2 q1 q1 1 s s h0 _ hf
    · have hf := giff c4 hf
      cases hf
      exact h0
def W_KT_mirror : List Nat := [4, 5, 6, 7, 8, 9, 21, 44]
theorem w_KT_mirror_21 (x2 : Int) (s0 s : kM) (h0 : Fr (W_KT_mirror) s0 s) (t : (Int × kM) ⊕ (Int × kM)) (hf : f_KT_mirror_21 x2 s = some t) : (gE (fun x => Fr (W_KT_mirror) s0 x.2) (fun r => Fr (W_KT_mirror) s0 r.2)) t := by
  unfold f_KT_mirror_21 at hf
  cases hf
  exact h0
theorem w_KT_mirror_11b (x2 : Int) (s0 s : kM) (h0 : Fr (W_KT_mirror) s0 s) (t : (Int × kM) ⊕ (Int × kM)) (hf : f_KT_mirror_11b x2 s = some t) : (gE (fun x => Fr (W_KT_mirror) s0 x.2) (fun r => Fr (W_KT_mirror) s0 r.2)) t := by
  unfold f_KT_mirror_11b at hf
  by_cases c1 : 11 ≤ x2
  · have hf := gift c1 hf
    obtain ⟨q2, hq2, hf⟩ := gbind hf
    have hF3 : Fr (W_KT_mirror) s0 q2 := Fr.c h0 (w_Town_settle 4 s _ hq2) (by intro a ha; simp only [W_KT_mirror, W_Town_settle, List.mem_cons, List.not_mem_nil, or_false, not_or] at ha ⊢; omega)
    obtain ⟨q4, hq4, hf⟩ := gbind hf
    have hF5 : Fr (W_KT_mirror) s0 q4 := Fr.c hF3 (w_KT_forget q2 _ hq4) (by intro a ha; simp only [W_KT_mirror, W_KT_forget, List.mem_cons, List.not_mem_nil, or_false, not_or] at ha ⊢; omega)
    obtain ⟨q6, hq6, hf⟩ := gbind hf
    cases hf
    exact hF5
  · have hf := giff c1 hf
    obtain ⟨q7, hq7, hf⟩ := gbind hf
    by_cases c8 : q7 = 0
    · have hf := gift c8 hf
      exact w_KT_mirror_21 x2 s0 s h0 _ hf
    · have hf := giff c8 hf
      obtain ⟨q9, hq9, hf⟩ := gbind hf
      have hF10 : Fr (W_KT_mirror) s0 q9 := Fr.c h0 (w_Town_flip 4 x2 s _ hq9) (by intro a ha; simp only [W_KT_mirror, W_Town_flip, List.mem_cons, List.not_mem_nil, or_false, not_or] at ha ⊢; omega)
      exact w_KT_mirror_21 x2 s0 q9 hF10 _ hf
theorem w_KT_mirror_11 (x2 : Int) (s0 s : kM) (h0 : Fr (W_KT_mirror) s0 s) (t : Int × kM) (hf : f_KT_mirror_11 x2 s = some t) : (fun r => Fr (W_KT_mirror) s0 r.2) t :=
  gL_fr (P := fun (x : Int × kM) => Fr (W_KT_mirror) s0 x.2) (q := (fun r => Fr (W_KT_mirror) s0 r.2)) (fun x t hf h0 => w_KT_mirror_11b x.1 s0 x.2 h0 t hf) gF (x2, s) t hf h0
theorem w_KT_mirror (s : kM) (t : Int × kM) (hf : f_KT_mirror s = some t) : Fr (W_KT_mirror) s t.2 := by
  unfold f_KT_mirror at hf
  have h0 : Fr (W_KT_mirror) s s := Fr.r
  by_cases c1 : (s 4 0) = 0
  · have hf := gift c1 hf
    cases hf
    exact h0
  · have hf := giff c1 hf
    exact w_KT_mirror_11 0 s s h0 _ hf
