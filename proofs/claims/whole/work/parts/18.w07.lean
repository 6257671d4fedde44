/-! PRINTED by wip/whole/decall.py: frames -/
def W_M_changesAll : List Nat := [88, 89, 98, 99]
theorem w_M_changesAll_15 (x1 : Int) (x2 : Int) (s0 s : kM) (h0 : Fr (W_M_changesAll) s0 s) (t : (Int × kM) ⊕ (kM)) (hf : f_M_changesAll_15 x1 x2 s = some t) : (gE (fun x => Fr (W_M_changesAll) s0 x.2) (fun r => Fr (W_M_changesAll) s0 r)) t := by
  unfold f_M_changesAll_15 at hf
  cases hf
  exact h0
theorem w_M_changesAll_2b (x1 : Int) (x2 : Int) (s0 s : kM) (h0 : Fr (W_M_changesAll) s0 s) (t : (Int × kM) ⊕ (kM)) (hf : f_M_changesAll_2b x1 x2 s = some t) : (gE (fun x => Fr (W_M_changesAll) s0 x.2) (fun r => Fr (W_M_changesAll) s0 r)) t := by
  unfold f_M_changesAll_2b at hf
  by_cases c1 : 11 ≤ x2
  · have hf := gift c1 hf
    cases hf
    exact h0
  · have hf := giff c1 hf
    by_cases c2 : (kand (kshr x1 x2) 1) = 1
    · have hf := gift c2 hf
      obtain ⟨q3, hq3, hf⟩ := gbind hf
      have hF4 : Fr (W_M_changesAll) s0 q3 := Fr.c h0 (w_M_changes1 x2 s _ hq3) (by intro a ha; simp only [W_M_changesAll, W_M_changes1, List.mem_cons, List.not_mem_nil, or_false, not_or] at ha ⊢; omega)
      exact w_M_changesAll_15 x1 x2 s0 q3 hF4 _ hf
    · have hf := giff c2 hf
      exact w_M_changesAll_15 x1 x2 s0 s h0 _ hf
theorem w_M_changesAll_2 (x1 : Int) (x2 : Int) (s0 s : kM) (h0 : Fr (W_M_changesAll) s0 s) (t : kM) (hf : f_M_changesAll_2 x1 x2 s = some t) : (fun r => Fr (W_M_changesAll) s0 r) t :=
  gL_fr (P := fun (x : Int × kM) => Fr (W_M_changesAll) s0 x.2) (q := (fun r => Fr (W_M_changesAll) s0 r)) (fun x t hf h0 => w_M_changesAll_2b x1 x.1 s0 x.2 h0 t hf) gF (x2, s) t hf h0
theorem w_M_changesAll (x1 : Int) (s : kM) (t : kM) (hf : f_M_changesAll x1 s = some t) : Fr (W_M_changesAll) s t := by
  unfold f_M_changesAll at hf
  have h0 : Fr (W_M_changesAll) s s := Fr.r
  exact w_M_changesAll_2 x1 0 s s h0 _ hf
def W_M_findsChanges : List Nat := [85, 86, 87, 88, 89, 94, 95, 96, 97, 98, 99, 100, 101, 102, 103, 116, 120, 121, 122]
theorem w_M_findsChanges_39 (x1 : Int) (x2 : Int) (x3 : Int) (s0 s : kM) (h0 : Fr (W_M_findsChanges) s0 s) (t : (Int × Int × kM) ⊕ (Int × kM)) (hf : f_M_findsChanges_39 x1 x2 x3 s = some t) : (gE (fun x => Fr (W_M_findsChanges) s0 x.2.2) (fun r => Fr (W_M_findsChanges) s0 r.2)) t := by
  unfold f_M_findsChanges_39 at hf
  cases hf
  exact h0
theorem w_M_findsChanges_22 (x1 : Int) (x2 : Int) (x3 : Int) (s0 s : kM) (h0 : Fr (W_M_findsChanges) s0 s) (t : (Int × Int × kM) ⊕ (Int × kM)) (hf : f_M_findsChanges_22 x1 x2 x3 s = some t) : (gE (fun x => Fr (W_M_findsChanges) s0 x.2.2) (fun r => Fr (W_M_findsChanges) s0 r.2)) t := by
  unfold f_M_findsChanges_22 at hf
  obtain ⟨q1, hq1, hf⟩ := gbind hf
  have hF2 : Fr (W_M_findsChanges) s0 q1 := Fr.c h0 (w_M_changesAll x3 s _ hq1) (by intro a ha; simp only [W_M_findsChanges, W_M_changesAll, List.mem_cons, List.not_mem_nil, or_false, not_or] at ha ⊢; omega)
  obtain ⟨q3, hq3, hf⟩ := gbind hf
  have hF4 : Fr (W_M_findsChanges) s0 q3.2 := Fr.c hF2 (w_M_finds q1 _ hq3) (by intro a ha; simp only [W_M_findsChanges, W_M_finds, List.mem_cons, List.not_mem_nil, or_false, not_or] at ha ⊢; omega)
  obtain ⟨q5, hq5, hf⟩ := gbind hf
  have hF6 : Fr (W_M_findsChanges) s0 q5 := Fr.c hF4 (w_M_changesAll x3 q3.2 _ hq5) (by intro a ha; simp only [W_M_findsChanges, W_M_changesAll, List.mem_cons, List.not_mem_nil, or_false, not_or] at ha ⊢; omega)
  by_cases c7 : q3.1 < 0
  · have hf := gift c7 hf
    exact w_M_findsChanges_39 x1 x2 x3 s0 q5 hF6 _ hf
  · have hf := giff c7 hf
    obtain ⟨q8, hq8, hf⟩ := gbind hf
    obtain ⟨s9, ee10, hf⟩ := gbL hf
    have hF11 : Fr (W_M_findsChanges) s0 s9 := by rw [ee10]; exact Fr.u hF6 (by simp [W_M_findsChanges])
    exact w_M_findsChanges_39 x1 q8 x3 s0 s9 hF11 _ hf
theorem w_M_findsChanges_7b (x1 : Int) (x2 : Int) (x3 : Int) (s0 s : kM) (h0 : Fr (W_M_findsChanges) s0 s) (t : (Int × Int × kM) ⊕ (Int × kM)) (hf : f_M_findsChanges_7b x1 x2 x3 s = some t) : (gE (fun x => Fr (W_M_findsChanges) s0 x.2.2) (fun r => Fr (W_M_findsChanges) s0 r.2)) t := by
  unfold f_M_findsChanges_7b at hf
  by_cases c1 : 2048 ≤ x3
  · have hf := gift c1 hf
    cases hf
    exact h0
  · have hf := giff c1 hf
    by_cases c2 : (kand x3 x1) = x3
    · have hf := gift c2 hf
      by_cases c3 : x2 = (-2)
      · have hf := gift c3 hf
        exact w_M_findsChanges_22 x1 x2 x3 s0 s h0 _ hf
      · have hf := giff c3 hf
        obtain ⟨q4, hq4, hf⟩ := gbind hf
        by_cases c5 : x2 ≤ q4
        · have hf := gift c5 hf
          exact w_M_findsChanges_39 x1 x2 x3 s0 s h0 _ hf
        · have hf := giff c5 hf
          exact w_M_findsChanges_22 x1 x2 x3 s0 s h0 _ hf
    · have hf := giff c2 hf
      exact w_M_findsChanges_39 x1 x2 x3 s0 s h0 _ hf
theorem w_M_findsChanges_7 (x1 : Int) (x2 : Int) (x3 : Int) (s0 s : kM) (h0 : Fr (W_M_findsChanges) s0 s) (t : Int × kM) (hf : f_M_findsChanges_7 x1 x2 x3 s = some t) : (fun r => Fr (W_M_findsChanges) s0 r.2) t :=
  gL_fr (P := fun (x : Int × Int × kM) => Fr (W_M_findsChanges) s0 x.2.2) (q := (fun r => Fr (W_M_findsChanges) s0 r.2)) (fun x t hf h0 => w_M_findsChanges_7b x1 x.1 x.2.1 s0 x.2.2 h0 t hf) gF (x2, x3, s) t hf h0
theorem w_M_findsChanges (s : kM) (t : Int × kM) (hf : f_M_findsChanges s = some t) : Fr (W_M_findsChanges) s t.2 := by
  unfold f_M_findsChanges at hf
  have h0 : Fr (W_M_findsChanges) s s := Fr.r
  obtain ⟨q1, hq1, hf⟩ := gbind hf
  exact w_M_findsChanges_7 q1 (-2) 0 s s h0 _ hf
def W_M_changes : List Nat := [85, 86, 87, 88, 89, 94, 95, 96, 97, 98, 99, 100, 101, 102, 103, 116, 120, 121, 122]
theorem w_M_changes (x1 : Int) (s : kM) (t : Int × kM) (hf : f_M_changes x1 s = some t) : Fr (W_M_changes) s t.2 := by
  unfold f_M_changes at hf
  have h0 : Fr (W_M_changes) s s := Fr.r
  obtain ⟨q1, hq1, hf⟩ := gbind hf
  by_cases c2 : q1 = 0
  · have hf := gift c2 hf
    cases hf
    exact h0
  · have hf := giff c2 hf
    obtain ⟨q3, hq3, hf⟩ := gbind hf
    by_cases c4 : 6 < q3
    · have hf := gift c4 hf
      cases hf
      exact h0
    · have hf := giff c4 hf
      obtain ⟨q5, hq5, hf⟩ := gbind hf
      by_cases c6 : q5 = 0
      · have hf := gift c6 hf
        cases hf
        exact h0
      · have hf := giff c6 hf
        obtain ⟨q7, hq7, hf⟩ := gbind hf
        have hF8 : Fr (W_M_changes) s q7.2 := Fr.c h0 (w_M_findsChanges s _ hq7) (by intro a ha; simp only [W_M_changes, W_M_findsChanges, List.mem_cons, List.not_mem_nil, or_false, not_or] at ha ⊢; omega)
        by_cases c9 : q7.1 = (-2)
        · have hf := gift c9 hf
          cases hf
          exact hF8
        · have hf := giff c9 hf
          by_cases c10 : x1 = 0
          · have hf := gift c10 hf
            cases hf
            exact hF8
          · have hf := giff c10 hf
            cases hf
            exact hF8
def W_M_answer : List Nat := [113]
theorem w_M_answer_82 (x1 : Int) (x3 : Int) (x4 : Int) (x5 : Int) (s0 s : kM) (h0 : Fr (W_M_answer) s0 s) (t : (Int × Int × kM) ⊕ (Int × kM)) (hf : f_M_answer_82 x1 x3 x4 x5 s = some t) : (gE (fun x => Fr (W_M_answer) s0 x.2.2) (fun r => Fr (W_M_answer) s0 r.2)) t := by
  unfold f_M_answer_82 at hf
  cases hf
  exact h0
theorem w_M_answer_42 (x1 : Int) (x3 : Int) (x4 : Int) (x5 : Int) (y1 : Int) (y2 : Int) (s0 s : kM) (h0 : Fr (W_M_answer) s0 s) (t : (Int × Int × kM) ⊕ (Int × kM)) (hf : f_M_answer_42 x1 x3 x4 x5 y1 y2 s = some t) : (gE (fun x => Fr (W_M_answer) s0 x.2.2) (fun r => Fr (W_M_answer) s0 r.2)) t := by
  unfold f_M_answer_42 at hf
  obtain ⟨j1, i2, hf⟩ := gbI hf
  obtain ⟨s3, ee4, hf⟩ := gbL hf
  have hF5 : Fr (W_M_answer) s0 s3 := by rw [ee4]; exact Fr.u h0 (by simp [W_M_answer])
  exact w_M_answer_82 x1 x3 (wI (x4 + 1)) x5 s0 s3 hF5 _ hf
theorem w_M_answer_30 (x1 : Int) (x3 : Int) (x4 : Int) (x5 : Int) (x6 : Int) (x7 : Int) (s0 s : kM) (h0 : Fr (W_M_answer) s0 s) (t : (Int × Int × kM) ⊕ (Int × kM)) (hf : f_M_answer_30 x1 x3 x4 x5 x6 x7 s = some t) : (gE (fun x => Fr (W_M_answer) s0 x.2.2) (fun r => Fr (W_M_answer) s0 r.2)) t := by
  unfold f_M_answer_30 at hf
  by_cases c1 : x6 = 0
  · have hf := gift c1 hf
    exact w_M_answer_42 x1 x3 x4 x5 x4 x7 s0 s h0 _ hf
  · have hf := giff c1 hf
    obtain ⟨j2, i3, hf⟩ := gbI hf
    exact w_M_answer_42 x1 x3 x4 x5 x4 (s 112 j2) s0 s h0 _ hf
theorem w_M_answer_4b (x1 : Int) (x3 : Int) (x4 : Int) (x5 : Int) (s0 s : kM) (h0 : Fr (W_M_answer) s0 s) (t : (Int × Int × kM) ⊕ (Int × kM)) (hf : f_M_answer_4b x1 x3 x4 x5 s = some t) : (gE (fun x => Fr (W_M_answer) s0 x.2.2) (fun r => Fr (W_M_answer) s0 r.2)) t := by
  unfold f_M_answer_4b at hf
  by_cases c1 : x3 ≤ x5
  · have hf := gift c1 hf
    cases hf
    exact h0
  · have hf := giff c1 hf
    obtain ⟨j2, i3, hf⟩ := gbI hf
    obtain ⟨j4, i5, hf⟩ := gbI hf
    by_cases c6 : (s 106 j2) = 0
    · have hf := gift c6 hf
      exact w_M_answer_30 x1 x3 x4 x5 (s 106 j2) (s 107 j4) s0 s h0 _ hf
    · have hf := giff c6 hf
      by_cases c7 : (s 106 j2) = 1
      · have hf := gift c7 hf
        exact w_M_answer_30 x1 x3 x4 x5 (s 106 j2) (s 107 j4) s0 s h0 _ hf
      · have hf := giff c7 hf
        by_cases c8 : (s 106 j2) = 9
        · have hf := gift c8 hf
          obtain ⟨j19, i20, hf⟩ := gbI hf
          obtain ⟨j21, i22, hf⟩ := gbI hf
          obtain ⟨s23, ee24, hf⟩ := gbL hf
          have hF25 : Fr (W_M_answer) s0 s23 := by rw [ee24]; exact Fr.u h0 (by simp [W_M_answer])
          exact w_M_answer_82 x1 x3 x4 x5 s0 s23 hF25 _ hf
        · have hf := giff c8 hf
          obtain ⟨j9, i10, hf⟩ := gbI hf
          obtain ⟨j11, i12, hf⟩ := gbI hf
          obtain ⟨q13, hq13, hf⟩ := gbind hf
          obtain ⟨j14, i15, hf⟩ := gbI hf
          obtain ⟨s16, ee17, hf⟩ := gbL hf
          have hF18 : Fr (W_M_answer) s0 s16 := by rw [ee17]; exact Fr.u h0 (by simp [W_M_answer])
          exact w_M_answer_82 x1 x3 (wI (x4 + (-1))) x5 s0 s16 hF18 _ hf
theorem w_M_answer_4 (x1 : Int) (x3 : Int) (x4 : Int) (x5 : Int) (s0 s : kM) (h0 : Fr (W_M_answer) s0 s) (t : Int × kM) (hf : f_M_answer_4 x1 x3 x4 x5 s = some t) : (fun r => Fr (W_M_answer) s0 r.2) t :=
  gL_fr (P := fun (x : Int × Int × kM) => Fr (W_M_answer) s0 x.2.2) (q := (fun r => Fr (W_M_answer) s0 r.2)) (fun x t hf h0 => w_M_answer_4b x1 x3 x.1 x.2.1 s0 x.2.2 h0 t hf) gF (x4, x5, s) t hf h0
theorem w_M_answer (x1 : Int) (x2 : Int) (x3 : Int) (s : kM) (t : Int × kM) (hf : f_M_answer x1 x2 x3 s = some t) : Fr (W_M_answer) s t.2 := by
  unfold f_M_answer at hf
  have h0 : Fr (W_M_answer) s s := Fr.r
  exact w_M_answer_4 x1 x3 0 x2 s s h0 _ hf
def W_M_isBarred : List Nat := [112, 113]
theorem w_M_isBarred_75b (x6 : Int) (x7 : Int) (s0 s : kM) (h0 : Fr (W_M_isBarred) s0 s) (t : (Int × kM) ⊕ (Int × kM)) (hf : f_M_isBarred_75b x6 x7 s = some t) : (gE (fun x => Fr (W_M_isBarred) s0 x.2) (fun r => Fr (W_M_isBarred) s0 r.2)) t := by
  unfold f_M_isBarred_75b at hf
  obtain ⟨j1, i2, hf⟩ := gbI hf
  by_cases c3 : (wI ((wI (12 * x6)) + (s 108 j1))) ≤ x7
  · have hf := gift c3 hf
    cases hf
    exact h0
  · have hf := giff c3 hf
    obtain ⟨j4, i5, hf⟩ := gbI hf
    obtain ⟨j6, i7, hf⟩ := gbI hf
    obtain ⟨q8, hq8, hf⟩ := gbind hf
    have hF9 : Fr (W_M_isBarred) s0 q8.2 := Fr.c h0 (w_M_answer x6 (s 109 j4) (s 110 j6) s _ hq8) (by intro a ha; simp only [W_M_isBarred, W_M_answer, List.mem_cons, List.not_mem_nil, or_false, not_or] at ha ⊢; omega)
    by_cases c10 : q8.1 = 1
    · have hf := gift c10 hf
      cases hf
      exact hF9
    · have hf := giff c10 hf
      cases hf
      exact hF9
theorem w_M_isBarred_75 (x6 : Int) (x7 : Int) (s0 s : kM) (h0 : Fr (W_M_isBarred) s0 s) (t : Int × kM) (hf : f_M_isBarred_75 x6 x7 s = some t) : (fun r => Fr (W_M_isBarred) s0 r.2) t :=
  gL_fr (P := fun (x : Int × kM) => Fr (W_M_isBarred) s0 x.2) (q := (fun r => Fr (W_M_isBarred) s0 r.2)) (fun x t hf h0 => w_M_isBarred_75b x6 x.1 s0 x.2 h0 t hf) gF (x7, s) t hf h0
theorem w_M_isBarred (x1 : Int) (x2 : Int) (x3 : Int) (x4 : Int) (x5 : Int) (s : kM) (t : Int × kM) (hf : f_M_isBarred x1 x2 x3 x4 x5 s = some t) : Fr (W_M_isBarred) s t.2 := by
  unfold f_M_isBarred at hf
  have h0 : Fr (W_M_isBarred) s s := Fr.r
  by_cases c1 : (s 86 5) = (-1)
  · have hf := gift c1 hf
    cases hf
    exact h0
  · have hf := giff c1 hf
    obtain ⟨j2, i3, hf⟩ := gbI hf
    obtain ⟨s4, ee5, hf⟩ := gbL hf
    have hF6 : Fr (W_M_isBarred) s s4 := by rw [ee5]; exact Fr.u h0 (by simp [W_M_isBarred])
    obtain ⟨j7, i8, hf⟩ := gbI hf
    obtain ⟨j9, i10, hf⟩ := gbI hf
    obtain ⟨s11, ee12, hf⟩ := gbL hf
    have hF13 : Fr (W_M_isBarred) s s11 := by rw [ee12]; exact Fr.u hF6 (by simp [W_M_isBarred])
    obtain ⟨s14, ee15, hf⟩ := gbL hf
    have hF16 : Fr (W_M_isBarred) s s14 := by rw [ee15]; exact Fr.u hF13 (by simp [W_M_isBarred])
    obtain ⟨s17, ee18, hf⟩ := gbL hf
    have hF19 : Fr (W_M_isBarred) s s17 := by rw [ee18]; exact Fr.u hF16 (by simp [W_M_isBarred])
    obtain ⟨s20, ee21, hf⟩ := gbL hf
    have hF22 : Fr (W_M_isBarred) s s20 := by rw [ee21]; exact Fr.u hF19 (by simp [W_M_isBarred])
    obtain ⟨j23, i24, hf⟩ := gbI hf
    obtain ⟨s25, ee26, hf⟩ := gbL hf
    have hF27 : Fr (W_M_isBarred) s s25 := by rw [ee26]; exact Fr.u hF22 (by simp [W_M_isBarred])
    obtain ⟨s28, ee29, hf⟩ := gbL hf
    have hF30 : Fr (W_M_isBarred) s s28 := by rw [ee29]; exact Fr.u hF27 (by simp [W_M_isBarred])
    obtain ⟨q31, hq31, hf⟩ := gbind hf
    obtain ⟨s32, ee33, hf⟩ := gbL hf
    have hF34 : Fr (W_M_isBarred) s s32 := by rw [ee33]; exact Fr.u hF30 (by simp [W_M_isBarred])
    exact w_M_isBarred_75 (s 86 5) (wI (12 * (s 86 5))) s s32 hF34 _ hf
def W_M_passesTo : List Nat := [112, 113]
theorem w_M_passesTo (x1 : Int) (x2 : Int) (x3 : Int) (x4 : Int) (x5 : Int) (s : kM) (t : Int × kM) (hf : f_M_passesTo x1 x2 x3 x4 x5 s = some t) : Fr (W_M_passesTo) s t.2 := by
  unfold f_M_passesTo at hf
  have h0 : Fr (W_M_passesTo) s s := Fr.r
  obtain ⟨q1, hq1, hf⟩ := gbind hf
  have hF2 : Fr (W_M_passesTo) s q1.2 := Fr.c h0 (w_M_isBarred x1 x2 x3 x4 x5 s _ hq1) (by intro a ha; simp only [W_M_passesTo, W_M_isBarred, List.mem_cons, List.not_mem_nil, or_false, not_or] at ha ⊢; omega)
  by_cases c3 : q1.1 = 0
  · have hf := gift c3 hf
    cases hf
    exact hF2
  · have hf := giff c3 hf
    cases hf
    exact hF2
def W_M_tells : List Nat := [112, 113]
theorem w_M_tells_20 (x1 : Int) (x2 : Int) (x3 : Int) (x4 : Int) (y0 : Int) (s0 s : kM) (h0 : Fr (W_M_tells) s0 s) (t : Int × kM) (hf : f_M_tells_20 x1 x2 x3 x4 y0 s = some t) : (fun r => Fr (W_M_tells) s0 r.2) t := by
  unfold f_M_tells_20 at hf
  obtain ⟨q1, hq1, hf⟩ := gbind hf
  have hF2 : Fr (W_M_tells) s0 q1.2 := Fr.c h0 (w_M_passesTo x1 x3 x2 0 x4 s _ hq1) (by intro a ha; simp only [W_M_tells, W_M_passesTo, List.mem_cons, List.not_mem_nil, or_false, not_or] at ha ⊢; omega)
  obtain ⟨q3, hq3, hf⟩ := gbind hf
  have hF4 : Fr (W_M_tells) s0 q3.2 := Fr.c hF2 (w_M_passesTo x1 y0 x2 1 x4 q1.2 _ hq3) (by intro a ha; simp only [W_M_tells, W_M_passesTo, List.mem_cons, List.not_mem_nil, or_false, not_or] at ha ⊢; omega)
  obtain ⟨q5, hq5, hf⟩ := gbind hf
  obtain ⟨q6, hq6, hf⟩ := gbind hf
  have hF7 : Fr (W_M_tells) s0 q6.2 := Fr.c hF4 (w_M_passesTo x1 q5 x2 1 x4 q3.2 _ hq6) (by intro a ha; simp only [W_M_tells, W_M_passesTo, List.mem_cons, List.not_mem_nil, or_false, not_or] at ha ⊢; omega)
  cases hf
  exact hF7
theorem w_M_tells (x1 : Int) (x2 : Int) (x3 : Int) (x4 : Int) (s : kM) (t : Int × kM) (hf : f_M_tells x1 x2 x3 x4 s = some t) : Fr (W_M_tells) s t.2 := by
  unfold f_M_tells at hf
  have h0 : Fr (W_M_tells) s s := Fr.r
  obtain ⟨j1, i2, hf⟩ := gbI hf
  obtain ⟨j3, i4, hf⟩ := gbI hf
  by_cases c5 : (s 88 j3) = 1
  · have hf := gift c5 hf
    obtain ⟨j8, i9, hf⟩ := gbI hf
    exact w_M_tells_20 x1 x2 x3 x4 (s 99 j8) s s h0 _ hf
  · have hf := giff c5 hf
    obtain ⟨j6, i7, hf⟩ := gbI hf
    exact w_M_tells_20 x1 x2 x3 x4 (s 98 j6) s s h0 _ hf
def W_M_minuteOf : List Nat := [112, 113]
theorem w_M_minuteOf_39 (x1 : Int) (x2 : Int) (x3 : Int) (x4 : Int) (s0 s : kM) (h0 : Fr (W_M_minuteOf) s0 s) (t : (Int × Int × kM) ⊕ (Int × kM)) (hf : f_M_minuteOf_39 x1 x2 x3 x4 s = some t) : (gE (fun x => Fr (W_M_minuteOf) s0 x.2.2) (fun r => Fr (W_M_minuteOf) s0 r.2)) t := by
  unfold f_M_minuteOf_39 at hf
  cases hf
  exact h0
theorem w_M_minuteOf_4b (x1 : Int) (x2 : Int) (x3 : Int) (x4 : Int) (s0 s : kM) (h0 : Fr (W_M_minuteOf) s0 s) (t : (Int × Int × kM) ⊕ (Int × kM)) (hf : f_M_minuteOf_4b x1 x2 x3 x4 s = some t) : (gE (fun x => Fr (W_M_minuteOf) s0 x.2.2) (fun r => Fr (W_M_minuteOf) s0 r.2)) t := by
  unfold f_M_minuteOf_4b at hf
  obtain ⟨q1, hq1, hf⟩ := gbind hf
  by_cases c2 : q1 ≤ x4
  · have hf := gift c2 hf
    cases hf
    exact h0
  · have hf := giff c2 hf
    by_cases c3 : (kand (kshr x1 x4) 1) = 1
    · have hf := gift c3 hf
      obtain ⟨q4, hq4, hf⟩ := gbind hf
      obtain ⟨q5, hq5, hf⟩ := gbind hf
      obtain ⟨q6, hq6, hf⟩ := gbind hf
      have hF7 : Fr (W_M_minuteOf) s0 q6.2 := Fr.c h0 (w_M_tells x4 q4 q5 x2 s _ hq6) (by intro a ha; simp only [W_M_minuteOf, W_M_tells, List.mem_cons, List.not_mem_nil, or_false, not_or] at ha ⊢; omega)
      obtain ⟨q8, hq8, hf⟩ := gbind hf
      obtain ⟨q9, hq9, hf⟩ := gbind hf
      have hF10 : Fr (W_M_minuteOf) s0 q9.2 := Fr.c hF7 (w_M_tells x4 x4 q8 x2 q6.2 _ hq9) (by intro a ha; simp only [W_M_minuteOf, W_M_tells, List.mem_cons, List.not_mem_nil, or_false, not_or] at ha ⊢; omega)
      exact w_M_minuteOf_39 x1 x2 (kor (kor x3 q6.1) q9.1) x4 s0 q9.2 hF10 _ hf
    · have hf := giff c3 hf
      exact w_M_minuteOf_39 x1 x2 x3 x4 s0 s h0 _ hf
theorem w_M_minuteOf_4 (x1 : Int) (x2 : Int) (x3 : Int) (x4 : Int) (s0 s : kM) (h0 : Fr (W_M_minuteOf) s0 s) (t : Int × kM) (hf : f_M_minuteOf_4 x1 x2 x3 x4 s = some t) : (fun r => Fr (W_M_minuteOf) s0 r.2) t :=
  gL_fr (P := fun (x : Int × Int × kM) => Fr (W_M_minuteOf) s0 x.2.2) (q := (fun r => Fr (W_M_minuteOf) s0 r.2)) (fun x t hf h0 => w_M_minuteOf_4b x1 x2 x.1 x.2.1 s0 x.2.2 h0 t hf) gF (x3, x4, s) t hf h0
theorem w_M_minuteOf (x1 : Int) (x2 : Int) (s : kM) (t : Int × kM) (hf : f_M_minuteOf x1 x2 s = some t) : Fr (W_M_minuteOf) s t.2 := by
  unfold f_M_minuteOf at hf
  have h0 : Fr (W_M_minuteOf) s s := Fr.r
  exact w_M_minuteOf_4 x1 x2 x1 0 s s h0 _ hf
def W_M_gossip : List Nat := [112, 113]
theorem w_M_gossip_18b (x2 : Int) (x3 : Int) (x4 : Int) (s0 s : kM) (h0 : Fr (W_M_gossip) s0 s) (t : (Int × Int × kM) ⊕ (Int × kM)) (hf : f_M_gossip_18b x2 x3 x4 s = some t) : (gE (fun x => Fr (W_M_gossip) s0 x.2.2) (fun r => Fr (W_M_gossip) s0 r.2)) t := by
  unfold f_M_gossip_18b at hf
  by_cases c1 : x2 < x4
  · have hf := gift c1 hf
    cases hf
    exact h0
  · have hf := giff c1 hf
    obtain ⟨q2, hq2, hf⟩ := gbind hf
    have hF3 : Fr (W_M_gossip) s0 q2.2 := Fr.c h0 (w_M_minuteOf x3 x4 s _ hq2) (by intro a ha; simp only [W_M_gossip, W_M_minuteOf, List.mem_cons, List.not_mem_nil, or_false, not_or] at ha ⊢; omega)
    cases hf
    exact hF3
theorem w_M_gossip_18 (x2 : Int) (x3 : Int) (x4 : Int) (s0 s : kM) (h0 : Fr (W_M_gossip) s0 s) (t : Int × kM) (hf : f_M_gossip_18 x2 x3 x4 s = some t) : (fun r => Fr (W_M_gossip) s0 r.2) t :=
  gL_fr (P := fun (x : Int × Int × kM) => Fr (W_M_gossip) s0 x.2.2) (q := (fun r => Fr (W_M_gossip) s0 r.2)) (fun x t hf h0 => w_M_gossip_18b x2 x.1 x.2.1 s0 x.2.2 h0 t hf) gF (x3, x4, s) t hf h0
theorem w_M_gossip (x1 : Int) (x2 : Int) (s : kM) (t : Int × kM) (hf : f_M_gossip x1 x2 s = some t) : Fr (W_M_gossip) s t.2 := by
  unfold f_M_gossip at hf
  have h0 : Fr (W_M_gossip) s s := Fr.r
  obtain ⟨q1, hq1, hf⟩ := gbind hf
  by_cases c2 : q1 = 0
  · have hf := gift c2 hf
    cases hf
    exact h0
  · have hf := giff c2 hf
    obtain ⟨q3, hq3, hf⟩ := gbind hf
    by_cases c4 : q3 = 0
    · have hf := gift c4 hf
      cases hf
      exact h0
    · have hf := giff c4 hf
      exact w_M_gossip_18 x2 (kshl 1 x1) 1 s s h0 _ hf
def W_M_heard : List Nat := [112, 113]
theorem w_M_heard_16b (x2 : Int) (x3 : Int) (x4 : Int) (s0 s : kM) (h0 : Fr (W_M_heard) s0 s) (t : (Int × Int × kM) ⊕ (Int × kM)) (hf : f_M_heard_16b x2 x3 x4 s = some t) : (gE (fun x => Fr (W_M_heard) s0 x.2.2) (fun r => Fr (W_M_heard) s0 r.2)) t := by
  unfold f_M_heard_16b at hf
  by_cases c1 : 60 < x4
  · have hf := gift c1 hf
    cases hf
    exact h0
  · have hf := giff c1 hf
    by_cases c2 : (kand (kshr x3 x2) 1) = 1
    · have hf := gift c2 hf
      cases hf
      exact h0
    · have hf := giff c2 hf
      obtain ⟨q3, hq3, hf⟩ := gbind hf
      have hF4 : Fr (W_M_heard) s0 q3.2 := Fr.c h0 (w_M_minuteOf x3 (wI (x4 + 1)) s _ hq3) (by intro a ha; simp only [W_M_heard, W_M_minuteOf, List.mem_cons, List.not_mem_nil, or_false, not_or] at ha ⊢; omega)
      cases hf
      exact hF4
theorem w_M_heard_16 (x2 : Int) (x3 : Int) (x4 : Int) (s0 s : kM) (h0 : Fr (W_M_heard) s0 s) (t : Int × kM) (hf : f_M_heard_16 x2 x3 x4 s = some t) : (fun r => Fr (W_M_heard) s0 r.2) t :=
  gL_fr (P := fun (x : Int × Int × kM) => Fr (W_M_heard) s0 x.2.2) (q := (fun r => Fr (W_M_heard) s0 r.2)) (fun x t hf h0 => w_M_heard_16b x2 x.1 x.2.1 s0 x.2.2 h0 t hf) gF (x3, x4, s) t hf h0
theorem w_M_heard (x1 : Int) (x2 : Int) (s : kM) (t : Int × kM) (hf : f_M_heard x1 x2 s = some t) : Fr (W_M_heard) s t.2 := by
  unfold f_M_heard at hf
  have h0 : Fr (W_M_heard) s s := Fr.r
  obtain ⟨q1, hq1, hf⟩ := gbind hf
  by_cases c2 : q1 = 0
  · have hf := gift c2 hf
    cases hf
    exact h0
  · have hf := giff c2 hf
    obtain ⟨q3, hq3, hf⟩ := gbind hf
    by_cases c4 : q3 = 0
    · have hf := gift c4 hf
      cases hf
      exact h0
    · have hf := giff c4 hf
      exact w_M_heard_16 x2 (kshl 1 x1) 0 s s h0 _ hf
def W_M_seed : List Nat := [86]
theorem w_M_seed (x1 : Int) (s : kM) (t : Int × kM) (hf : f_M_seed x1 s = some t) : Fr (W_M_seed) s t.2 := by
  unfold f_M_seed at hf
  have h0 : Fr (W_M_seed) s s := Fr.r
  by_cases c1 : 0 ≤ x1
  · have hf := gift c1 hf
    obtain ⟨s2, ee3, hf⟩ := gbL hf
    have hF4 : Fr (W_M_seed) s s2 := by rw [ee3]; exact Fr.u h0 (by simp [W_M_seed])
    cases hf
    exact hF4
  · have hf := giff c1 hf
    cases hf
    exact h0
def W_M_draws : List Nat := [86]
theorem w_M_draws (x1 : Int) (s : kM) (t : Int × kM) (hf : f_M_draws x1 s = some t) : Fr (W_M_draws) s t.2 := by
  unfold f_M_draws at hf
  have h0 : Fr (W_M_draws) s s := Fr.r
  obtain ⟨s1, ee2, hf⟩ := gbL hf
  have hF3 : Fr (W_M_draws) s s1 := by rw [ee2]; exact Fr.u h0 (by simp [W_M_draws])
  obtain ⟨z4, hf⟩ := gbD hf
  cases hf
  exact hF3
def W_M_drawnFlood : List Nat := [86]
theorem w_M_drawnFlood_24 (x1 : Int) (x2 : Int) (x3 : Int) (s0 s : kM) (h0 : Fr (W_M_drawnFlood) s0 s) (t : (Int × Int × kM) ⊕ (Int × kM)) (hf : f_M_drawnFlood_24 x1 x2 x3 s = some t) : (gE (fun x => Fr (W_M_drawnFlood) s0 x.2.2) (fun r => Fr (W_M_drawnFlood) s0 r.2)) t := by
  unfold f_M_drawnFlood_24 at hf
  cases hf
  exact h0
theorem w_M_drawnFlood_22 (x1 : Int) (x3 : Int) (y0 : Int) (y1 : Int) (s0 s : kM) (h0 : Fr (W_M_drawnFlood) s0 s) (t : (Int × Int × kM) ⊕ (Int × kM)) (hf : f_M_drawnFlood_22 x1 x3 y0 y1 s = some t) : (gE (fun x => Fr (W_M_drawnFlood) s0 x.2.2) (fun r => Fr (W_M_drawnFlood) s0 r.2)) t := by
  unfold f_M_drawnFlood_22 at hf
  exact w_M_drawnFlood_24 x1 (kor y0 y1) x3 s0 s h0 _ hf
theorem w_M_drawnFlood_4b (x1 : Int) (x2 : Int) (x3 : Int) (s0 s : kM) (h0 : Fr (W_M_drawnFlood) s0 s) (t : (Int × Int × kM) ⊕ (Int × kM)) (hf : f_M_drawnFlood_4b x1 x2 x3 s = some t) : (gE (fun x => Fr (W_M_drawnFlood) s0 x.2.2) (fun r => Fr (W_M_drawnFlood) s0 r.2)) t := by
  unfold f_M_drawnFlood_4b at hf
  by_cases c1 : 11 ≤ x3
  · have hf := gift c1 hf
    cases hf
    exact h0
  · have hf := giff c1 hf
    obtain ⟨q2, hq2, hf⟩ := gbind hf
    by_cases c3 : q2 = 0
    · have hf := gift c3 hf
      exact w_M_drawnFlood_24 x1 x2 x3 s0 s h0 _ hf
    · have hf := giff c3 hf
      obtain ⟨q4, hq4, hf⟩ := gbind hf
      have hF5 : Fr (W_M_drawnFlood) s0 q4.2 := Fr.c h0 (w_M_draws 100 s _ hq4) (by intro a ha; simp only [W_M_drawnFlood, W_M_draws, List.mem_cons, List.not_mem_nil, or_false, not_or] at ha ⊢; omega)
      by_cases c6 : x1 ≤ q4.1
      · have hf := gift c6 hf
        exact w_M_drawnFlood_22 x1 x3 x2 0 s0 q4.2 hF5 _ hf
      · have hf := giff c6 hf
        exact w_M_drawnFlood_22 x1 x3 x2 (kshl 1 x3) s0 q4.2 hF5 _ hf
theorem w_M_drawnFlood_4 (x1 : Int) (x2 : Int) (x3 : Int) (s0 s : kM) (h0 : Fr (W_M_drawnFlood) s0 s) (t : Int × kM) (hf : f_M_drawnFlood_4 x1 x2 x3 s = some t) : (fun r => Fr (W_M_drawnFlood) s0 r.2) t :=
  gL_fr (P := fun (x : Int × Int × kM) => Fr (W_M_drawnFlood) s0 x.2.2) (q := (fun r => Fr (W_M_drawnFlood) s0 r.2)) (fun x t hf h0 => w_M_drawnFlood_4b x1 x.1 x.2.1 s0 x.2.2 h0 t hf) gF (x2, x3, s) t hf h0
theorem w_M_drawnFlood (x1 : Int) (s : kM) (t : Int × kM) (hf : f_M_drawnFlood x1 s = some t) : Fr (W_M_drawnFlood) s t.2 := by
  unfold f_M_drawnFlood at hf
  have h0 : Fr (W_M_drawnFlood) s s := Fr.r
  exact w_M_drawnFlood_4 x1 0 0 s s h0 _ hf
def W_M_floods : List Nat := [86]
theorem w_M_floods_61 (x1 : Int) (x2 : Int) (x3 : Int) (x4 : Int) (x5 : Int) (x7 : Int) (y0 : Int) (y1 : Int) (s0 s : kM) (h0 : Fr (W_M_floods) s0 s) (t : (Int × Int × kM) ⊕ (Int × kM)) (hf : f_M_floods_61 x1 x2 x3 x4 x5 x7 y0 y1 s = some t) : (gE (fun x => Fr (W_M_floods) s0 x.2.2) (fun r => Fr (W_M_floods) s0 r.2)) t := by
  unfold f_M_floods_61 at hf
  cases hf
  exact h0
theorem w_M_floods_58 (x1 : Int) (x2 : Int) (x3 : Int) (x4 : Int) (x5 : Int) (x7 : Int) (y0 : Int) (s0 s : kM) (h0 : Fr (W_M_floods) s0 s) (t : (Int × Int × kM) ⊕ (Int × kM)) (hf : f_M_floods_58 x1 x2 x3 x4 x5 x7 y0 s = some t) : (gE (fun x => Fr (W_M_floods) s0 x.2.2) (fun r => Fr (W_M_floods) s0 r.2)) t := by
  unfold f_M_floods_58 at hf
  exact w_M_floods_61 x1 x2 x3 x4 x5 x7 y0 1 s0 s h0 _ hf
theorem w_M_floods_38b (x1 : Int) (x2 : Int) (x3 : Int) (x4 : Int) (x5 : Int) (x6 : Int) (x7 : Int) (s0 s : kM) (h0 : Fr (W_M_floods) s0 s) (t : (Int × Int × kM) ⊕ (Int × kM)) (hf : f_M_floods_38b x1 x2 x3 x4 x5 x6 x7 s = some t) : (gE (fun x => Fr (W_M_floods) s0 x.2.2) (fun r => Fr (W_M_floods) s0 r.2)) t := by
  unfold f_M_floods_38b at hf
  by_cases c1 : x1 ≤ x7
  · have hf := gift c1 hf
    obtain ⟨s2, ee3, hf⟩ := gbL hf
    have hF4 : Fr (W_M_floods) s0 s2 := by rw [ee3]; exact Fr.u h0 (by simp [W_M_floods])
    cases hf
    exact hF4
  · have hf := giff c1 hf
    obtain ⟨q5, hq5, hf⟩ := gbind hf
    have hF6 : Fr (W_M_floods) s0 q5.2 := Fr.c h0 (w_M_drawnFlood x2 s _ hq5) (by intro a ha; simp only [W_M_floods, W_M_drawnFlood, List.mem_cons, List.not_mem_nil, or_false, not_or] at ha ⊢; omega)
    obtain ⟨q7, hq7, hf⟩ := gbind hf
    by_cases c8 : q7 = 0
    · have hf := gift c8 hf
      obtain ⟨q9, hq9, hf⟩ := gbind hf
      by_cases c10 : q9 = 0
      · have hf := gift c10 hf
        exact w_M_floods_61 x1 x2 x3 x4 x5 x7 x6 0 s0 q5.2 hF6 _ hf
      · have hf := giff c10 hf
        exact w_M_floods_58 x1 x2 x3 x4 x5 x7 x6 s0 q5.2 hF6 _ hf
    · have hf := giff c8 hf
      exact w_M_floods_58 x1 x2 x3 x4 x5 x7 x6 s0 q5.2 hF6 _ hf
theorem w_M_floods_38 (x1 : Int) (x2 : Int) (x3 : Int) (x4 : Int) (x5 : Int) (x6 : Int) (x7 : Int) (s0 s : kM) (h0 : Fr (W_M_floods) s0 s) (t : Int × kM) (hf : f_M_floods_38 x1 x2 x3 x4 x5 x6 x7 s = some t) : (fun r => Fr (W_M_floods) s0 r.2) t :=
  gL_fr (P := fun (x : Int × Int × kM) => Fr (W_M_floods) s0 x.2.2) (q := (fun r => Fr (W_M_floods) s0 r.2)) (fun x t hf h0 => w_M_floods_38b x1 x2 x3 x4 x5 x.1 x.2.1 s0 x.2.2 h0 t hf) gF (x6, x7, s) t hf h0
theorem w_M_floods (x1 : Int) (x2 : Int) (x3 : Int) (x4 : Int) (s : kM) (t : Int × kM) (hf : f_M_floods x1 x2 x3 x4 s = some t) : Fr (W_M_floods) s t.2 := by
  unfold f_M_floods at hf
  have h0 : Fr (W_M_floods) s s := Fr.r
  obtain ⟨q1, hq1, hf⟩ := gbind hf
  by_cases c2 : q1 = 0
  · have hf := gift c2 hf
    cases hf
    exact h0
  · have hf := giff c2 hf
    obtain ⟨q3, hq3, hf⟩ := gbind hf
    by_cases c4 : q3 = 0
    · have hf := gift c4 hf
      cases hf
      exact h0
    · have hf := giff c4 hf
      obtain ⟨q5, hq5, hf⟩ := gbind hf
      by_cases c6 : q5 = 0
      · have hf := gift c6 hf
        cases hf
        exact h0
      · have hf := giff c6 hf
        obtain ⟨q7, hq7, hf⟩ := gbind hf
        by_cases c8 : q7 = 0
        · have hf := gift c8 hf
          cases hf
          exact h0
        · have hf := giff c8 hf
          obtain ⟨q9, hq9, hf⟩ := gbind hf
          obtain ⟨q10, hq10, hf⟩ := gbind hf
          by_cases c11 : q9 = q10
          · have hf := gift c11 hf
            exact w_M_floods_38 x1 x2 x3 x4 (s 86 4) 0 0 s s h0 _ hf
          · have hf := giff c11 hf
            cases hf
            exact h0
def W_M_count : List Nat := [85, 104, 114, 115]
theorem w_M_count_18 (x1 : Int) (x3 : Int) (y0 : Int) (y1 : Int) (s0 s : kM) (h0 : Fr (W_M_count) s0 s) (t : (Int × Int) ⊕ (Int × kM)) (hf : f_M_count_18 x1 x3 y0 y1 s = some t) : (gE (fun x => Fr (W_M_count) s0 s) (fun r => Fr (W_M_count) s0 r.2)) t := by
  unfold f_M_count_18 at hf
  cases hf
  exact h0
theorem w_M_count_4b (x1 : Int) (x2 : Int) (x3 : Int) (s0 s : kM) (h0 : Fr (W_M_count) s0 s) (t : (Int × Int) ⊕ (Int × kM)) (hf : f_M_count_4b x1 x2 x3 s = some t) : (gE (fun x => Fr (W_M_count) s0 s) (fun r => Fr (W_M_count) s0 r.2)) t := by
  unfold f_M_count_4b at hf
  by_cases c1 : 11 ≤ x3
  · have hf := gift c1 hf
    obtain ⟨q2, hq2, hf⟩ := gbind hf
    have hF3 : Fr (W_M_count) s0 q2 := Fr.c h0 (w_M_fillsBows s _ hq2) (by intro a ha; simp only [W_M_count, W_M_fillsBows, List.mem_cons, List.not_mem_nil, or_false, not_or] at ha ⊢; omega)
    by_cases c4 : x1 = 0
    · have hf := gift c4 hf
      cases hf
      exact hF3
    have hf := giff c4 hf
    by_cases c5 : x1 = 1
    · have hf := gift c5 hf
      obtain ⟨q6, hq6, hf⟩ := gbind hf
      cases hf
      exact hF3
    have hf := giff c5 hf
    by_cases c7 : x1 = 2
    · have hf := gift c7 hf
      obtain ⟨q8, hq8, hf⟩ := gbind hf
      cases hf
      exact hF3
    have hf := giff c7 hf
    by_cases c9 : x1 = 3
    · have hf := gift c9 hf
      cases hf
      exact hF3
    have hf := giff c9 hf
    by_cases c10 : x1 = 4
    · have hf := gift c10 hf
      cases hf
      exact hF3
    have hf := giff c10 hf
    by_cases c11 : x1 = 5
    · have hf := gift c11 hf
      cases hf
      exact hF3
    have hf := giff c11 hf
    by_cases c12 : x1 = 6
    · have hf := gift c12 hf
      cases hf
      exact hF3
    have hf := giff c12 hf
    by_cases c13 : x1 = 7
    · have hf := gift c13 hf
      cases hf
      exact hF3
    have hf := giff c13 hf
    by_cases c14 : x1 = 8
    · have hf := gift c14 hf
      cases hf
      exact hF3
    have hf := giff c14 hf
    by_cases c15 : x1 = 9
    · have hf := gift c15 hf
      cases hf
      exact hF3
    have hf := giff c15 hf
    by_cases c16 : x1 = 10
    · have hf := gift c16 hf
      obtain ⟨q17, hq17, hf⟩ := gbind hf
      have hF18 : Fr (W_M_count) s0 q17.2 := Fr.c hF3 (w_M_groups q2 _ hq17) (by intro a ha; simp only [W_M_count, W_M_groups, List.mem_cons, List.not_mem_nil, or_false, not_or] at ha ⊢; omega)
      cases hf
      exact hF18
    have hf := giff c16 hf
    cases hf
    exact hF3
  · have hf := giff c1 hf
    obtain ⟨q19, hq19, hf⟩ := gbind hf
    by_cases c20 : q19 = 0
    · have hf := gift c20 hf
      exact w_M_count_18 x1 x3 x2 0 s0 s h0 _ hf
    · have hf := giff c20 hf
      obtain ⟨j21, i22, hf⟩ := gbI hf
      exact w_M_count_18 x1 x3 x2 (s 89 j21) s0 s h0 _ hf
theorem w_M_count_4 (x1 : Int) (x2 : Int) (x3 : Int) (s0 s : kM) (h0 : Fr (W_M_count) s0 s) (t : Int × kM) (hf : f_M_count_4 x1 x2 x3 s = some t) : (fun r => Fr (W_M_count) s0 r.2) t :=
  gL_fr (P := fun (x : Int × Int) => Fr (W_M_count) s0 s) (q := (fun r => Fr (W_M_count) s0 r.2)) (fun x t hf h0 => w_M_count_4b x1 x.1 x.2 s0 s h0 t hf) gF (x2, x3) t hf h0
theorem w_M_count (x1 : Int) (s : kM) (t : Int × kM) (hf : f_M_count x1 s = some t) : Fr (W_M_count) s t.2 := by
  unfold f_M_count at hf
  have h0 : Fr (W_M_count) s s := Fr.r
  exact w_M_count_4 x1 0 0 s s h0 _ hf
def W_M_carry (a1 : Nat) (n1 : Nat) : List Nat := [a1, 85, 123]
theorem w_M_carry_26 (a1 : Nat) (n1 : Nat) (x2 : Int) (s0 s : kM) (h0 : Fr (W_M_carry a1 n1) s0 s) (t : (Int × kM) ⊕ (kM)) (hf : f_M_carry_26 a1 n1 x2 s = some t) : (gE (fun x => Fr (W_M_carry a1 n1) s0 x.2) (fun r => Fr (W_M_carry a1 n1) s0 r)) t := by
  unfold f_M_carry_26 at hf
  obtain ⟨s1, ee2, hf⟩ := gbL hf
  have hF3 : Fr (W_M_carry a1 n1) s0 s1 := by rw [ee2]; exact Fr.u h0 (by simp [W_M_carry])
  cases hf
  exact hF3
theorem w_M_carry_2b (a1 : Nat) (n1 : Nat) (x2 : Int) (s0 s : kM) (h0 : Fr (W_M_carry a1 n1) s0 s) (t : (Int × kM) ⊕ (kM)) (hf : f_M_carry_2b a1 n1 x2 s = some t) : (gE (fun x => Fr (W_M_carry a1 n1) s0 x.2) (fun r => Fr (W_M_carry a1 n1) s0 r)) t := by
  unfold f_M_carry_2b at hf
  by_cases c1 : ((n1 : Nat) : Int) ≤ x2
  · have hf := gift c1 hf
    cases hf
    exact h0
  · have hf := giff c1 hf
    by_cases c2 : (s 85 58) = 0
    · have hf := gift c2 hf
      obtain ⟨j3, i4, hf⟩ := gbI hf
      obtain ⟨j5, i6, hf⟩ := gbI hf
      obtain ⟨s7, ee8, hf⟩ := gbL hf
      have hF9 : Fr (W_M_carry a1 n1) s0 s7 := by rw [ee8]; exact Fr.u h0 (by simp [W_M_carry])
      exact w_M_carry_26 a1 n1 x2 s0 s7 hF9 _ hf
    · have hf := giff c2 hf
      obtain ⟨j10, i11, hf⟩ := gbI hf
      obtain ⟨j12, i13, hf⟩ := gbI hf
      obtain ⟨s14, ee15, hf⟩ := gbL hf
      have hF16 : Fr (W_M_carry a1 n1) s0 s14 := by rw [ee15]; exact Fr.u h0 (by simp [W_M_carry])
      exact w_M_carry_26 a1 n1 x2 s0 s14 hF16 _ hf
theorem w_M_carry_2 (a1 : Nat) (n1 : Nat) (x2 : Int) (s0 s : kM) (h0 : Fr (W_M_carry a1 n1) s0 s) (t : kM) (hf : f_M_carry_2 a1 n1 x2 s = some t) : (fun r => Fr (W_M_carry a1 n1) s0 r) t :=
  gL_fr (P := fun (x : Int × kM) => Fr (W_M_carry a1 n1) s0 x.2) (q := (fun r => Fr (W_M_carry a1 n1) s0 r)) (fun x t hf h0 => w_M_carry_2b a1 n1 x.1 s0 x.2 h0 t hf) gF (x2, s) t hf h0
theorem w_M_carry (a1 : Nat) (n1 : Nat) (s : kM) (t : kM) (hf : f_M_carry a1 n1 s = some t) : Fr (W_M_carry a1 n1) s t := by
  unfold f_M_carry at hf
  have h0 : Fr (W_M_carry a1 n1) s s := Fr.r
  exact w_M_carry_2 a1 n1 0 s s h0 _ hf
def W_M_carriesAll : List Nat := [85, 86, 87, 88, 89, 98, 99, 123]
theorem w_M_carriesAll (x1 : Int) (x2 : Int) (s : kM) (t : kM) (hf : f_M_carriesAll x1 x2 s = some t) : Fr (W_M_carriesAll) s t := by
  unfold f_M_carriesAll at hf
  have h0 : Fr (W_M_carriesAll) s s := Fr.r
  obtain ⟨s1, ee2, hf⟩ := gbL hf
  have hF3 : Fr (W_M_carriesAll) s s1 := by rw [ee2]; exact Fr.u h0 (by simp [W_M_carriesAll])
  obtain ⟨w4, hf⟩ := gbB hf
  obtain ⟨s5, ee6, hf⟩ := gbL hf
  have hF7 : Fr (W_M_carriesAll) s s5 := by rw [ee6]; exact Fr.u hF3 (by simp [W_M_carriesAll])
  obtain ⟨q8, hq8, hf⟩ := gbind hf
  have hF9 : Fr (W_M_carriesAll) s q8 := Fr.c hF7 (w_M_carry 86 6 s5 _ hq8) (by intro a ha; simp only [W_M_carriesAll, W_M_carry, List.mem_cons, List.not_mem_nil, or_false, not_or] at ha ⊢; omega)
  obtain ⟨q10, hq10, hf⟩ := gbind hf
  have hF11 : Fr (W_M_carriesAll) s q10 := Fr.c hF9 (w_M_carry 87 22 q8 _ hq10) (by intro a ha; simp only [W_M_carriesAll, W_M_carry, List.mem_cons, List.not_mem_nil, or_false, not_or] at ha ⊢; omega)
  obtain ⟨q12, hq12, hf⟩ := gbind hf
  have hF13 : Fr (W_M_carriesAll) s q12 := Fr.c hF11 (w_M_carry 88 22 q10 _ hq12) (by intro a ha; simp only [W_M_carriesAll, W_M_carry, List.mem_cons, List.not_mem_nil, or_false, not_or] at ha ⊢; omega)
  obtain ⟨q14, hq14, hf⟩ := gbind hf
  have hF15 : Fr (W_M_carriesAll) s q14 := Fr.c hF13 (w_M_carry 89 11 q12 _ hq14) (by intro a ha; simp only [W_M_carriesAll, W_M_carry, List.mem_cons, List.not_mem_nil, or_false, not_or] at ha ⊢; omega)
  obtain ⟨q16, hq16, hf⟩ := gbind hf
  have hF17 : Fr (W_M_carriesAll) s q16 := Fr.c hF15 (w_M_refresh q14 _ hq16) (by intro a ha; simp only [W_M_carriesAll, W_M_refresh, List.mem_cons, List.not_mem_nil, or_false, not_or] at ha ⊢; omega)
  cases hf
  exact hF17
def W_M_image : List Nat := [85, 86, 87, 88, 89, 98, 99, 123, 124]
theorem w_M_image (x1 : Int) (s : kM) (t : Int × kM) (hf : f_M_image x1 s = some t) : Fr (W_M_image) s t.2 := by
  unfold f_M_image at hf
  have h0 : Fr (W_M_image) s s := Fr.r
  obtain ⟨q1, hq1, hf⟩ := gbind hf
  by_cases c2 : q1 = 0
  · have hf := gift c2 hf
    cases hf
    exact h0
  · have hf := giff c2 hf
    obtain ⟨j3, i4, hf⟩ := gbI hf
    obtain ⟨s5, ee6, hf⟩ := gbL hf
    have hF7 : Fr (W_M_image) s s5 := by rw [ee6]; exact Fr.u h0 (by simp [W_M_image])
    obtain ⟨q8, hq8, hf⟩ := gbind hf
    have hF9 : Fr (W_M_image) s q8 := Fr.c hF7 (w_M_carriesAll x1 0 s5 _ hq8) (by intro a ha; simp only [W_M_image, W_M_carriesAll, List.mem_cons, List.not_mem_nil, or_false, not_or] at ha ⊢; omega)
    cases hf
    exact hF9
def W_M_back : List Nat := [85, 86, 87, 88, 89, 98, 99, 123]
theorem w_M_back (x1 : Int) (s : kM) (t : Int × kM) (hf : f_M_back x1 s = some t) : Fr (W_M_back) s t.2 := by
  unfold f_M_back at hf
  have h0 : Fr (W_M_back) s s := Fr.r
  obtain ⟨q1, hq1, hf⟩ := gbind hf
  by_cases c2 : q1 = 0
  · have hf := gift c2 hf
    cases hf
    exact h0
  · have hf := giff c2 hf
    obtain ⟨j3, i4, hf⟩ := gbI hf
    by_cases c5 : (s 124 j3) = 0
    · have hf := gift c5 hf
      cases hf
      exact h0
    · have hf := giff c5 hf
      obtain ⟨q6, hq6, hf⟩ := gbind hf
      have hF7 : Fr (W_M_back) s q6 := Fr.c h0 (w_M_carriesAll x1 1 s _ hq6) (by intro a ha; simp only [W_M_back, W_M_carriesAll, List.mem_cons, List.not_mem_nil, or_false, not_or] at ha ⊢; omega)
      cases hf
      exact hF7
def W_KT_gossip : List Nat := [51, 52, 53]
theorem w_KT_gossip (x1 : Int) (x2 : Int) (s : kM) (t : Int × kM) (hf : f_KT_gossip x1 x2 s = some t) : Fr (W_KT_gossip) s t.2 := by
  unfold f_KT_gossip at hf
  have h0 : Fr (W_KT_gossip) s s := Fr.r
  obtain ⟨q1, hq1, hf⟩ := gbind hf
  by_cases c2 : q1 = 0
  · have hf := gift c2 hf
    cases hf
    exact h0
  · have hf := giff c2 hf
    by_cases c3 : x2 < 0
    · have hf := gift c3 hf
      cases hf
      exact h0
    · have hf := giff c3 hf
      by_cases c4 : x2 ≤ 60
      · have hf := gift c4 hf
        obtain ⟨q5, hq5, hf⟩ := gbind hf
        obtain ⟨q6, hq6, hf⟩ := gbind hf
        have hF7 : Fr (W_KT_gossip) s q6.2 := Fr.c h0 (w_Gossip_spread 4 q5 x1 x2 s _ hq6) (by intro a ha; simp only [W_KT_gossip, W_Gossip_spread, List.mem_cons, List.not_mem_nil, or_false, not_or] at ha ⊢; omega)
        cases hf
        exact hF7
      · have hf := giff c4 hf
        cases hf
        exact h0
