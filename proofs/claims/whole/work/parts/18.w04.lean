/-! PRINTED by wip/whole/decall.py: frames -/
def W_M_pass : List Nat := [85, 90, 91, 92, 93]
theorem w_M_pass_61 (x1 : Int) (x3 : Int) (y1 : Int) (y2 : Int) (s0 s : kM) (h0 : Fr (W_M_pass) s0 s) (t : kM) (hf : f_M_pass_61 x1 x3 y1 y2 s = some t) : (fun r => Fr (W_M_pass) s0 r) t := by
  unfold f_M_pass_61 at hf
  obtain ⟨j1, i2, hf⟩ := gbI hf
  obtain ⟨s3, ee4, hf⟩ := gbL hf
  have hF5 : Fr (W_M_pass) s0 s3 := by rw [ee4]; exact Fr.u h0 (by simp [W_M_pass])
  obtain ⟨j6, i7, hf⟩ := gbI hf
  obtain ⟨j8, i9, hf⟩ := gbI hf
  obtain ⟨s10, ee11, hf⟩ := gbL hf
  have hF12 : Fr (W_M_pass) s0 s10 := by rw [ee11]; exact Fr.u hF5 (by simp [W_M_pass])
  by_cases c13 : x1 = 0
  · have hf := gift c13 hf
    obtain ⟨s14, ee15, hf⟩ := gbL hf
    have hF16 : Fr (W_M_pass) s0 s14 := by rw [ee15]; exact Fr.u hF12 (by simp [W_M_pass])
    cases hf
    exact hF16
  · have hf := giff c13 hf
    obtain ⟨s17, ee18, hf⟩ := gbL hf
    have hF19 : Fr (W_M_pass) s0 s17 := by rw [ee18]; exact Fr.u hF12 (by simp [W_M_pass])
    obtain ⟨q20, hq20, hf⟩ := gbind hf
    have hF21 : Fr (W_M_pass) s0 q20 := Fr.c hF19 (w_M_signOf x3 s17 _ hq20) (by intro a ha; simp only [W_M_pass, W_M_signOf, List.mem_cons, List.not_mem_nil, or_false, not_or] at ha ⊢; omega)
    cases hf
    exact hF21
theorem w_M_pass_27 (x1 : Int) (x2 : Int) (x3 : Int) (y0 : Int) (s0 s : kM) (h0 : Fr (W_M_pass) s0 s) (t : kM) (hf : f_M_pass_27 x1 x2 x3 y0 s = some t) : (fun r => Fr (W_M_pass) s0 r) t := by
  unfold f_M_pass_27 at hf
  by_cases c1 : (kand (kshr y0 x3) 1) = 1
  · have hf := gift c1 hf
    obtain ⟨q8, hq8, hf⟩ := gbind hf
    have hF9 : Fr (W_M_pass) s0 q8 := Fr.c h0 (w_M_fails 5 x2 s _ hq8) (by intro a ha; simp only [W_M_pass, W_M_fails, List.mem_cons, List.not_mem_nil, or_false, not_or] at ha ⊢; omega)
    cases hf
    exact hF9
  · have hf := giff c1 hf
    obtain ⟨j2, i3, hf⟩ := gbI hf
    obtain ⟨s4, ee5, hf⟩ := gbL hf
    have hF6 : Fr (W_M_pass) s0 s4 := by rw [ee5]; exact Fr.u h0 (by simp [W_M_pass])
    by_cases c7 : x1 = 0
    · have hf := gift c7 hf
      exact w_M_pass_61 x1 x3 (wI ((s 90 1) + (s 90 2))) 0 s0 s4 hF6 _ hf
    · have hf := giff c7 hf
      exact w_M_pass_61 x1 x3 (wI ((s 90 1) + (s 90 2))) 1 s0 s4 hF6 _ hf
theorem w_M_pass (x1 : Int) (s : kM) (t : kM) (hf : f_M_pass x1 s = some t) : Fr (W_M_pass) s t := by
  unfold f_M_pass at hf
  have h0 : Fr (W_M_pass) s s := Fr.r
  obtain ⟨s1, ee2, hf⟩ := gbL hf
  have hF3 : Fr (W_M_pass) s s1 := by rw [ee2]; exact Fr.u h0 (by simp [W_M_pass])
  obtain ⟨q4, hq4, hf⟩ := gbind hf
  have hF5 : Fr (W_M_pass) s q4 := Fr.c hF3 (w_M_blanks s1 _ hq4) (by intro a ha; simp only [W_M_pass, W_M_blanks, List.mem_cons, List.not_mem_nil, or_false, not_or] at ha ⊢; omega)
  obtain ⟨q6, hq6, hf⟩ := gbind hf
  have hF7 : Fr (W_M_pass) s q6.2 := Fr.c hF5 (w_M_amount 0 10 q4 _ hq6) (by intro a ha; simp only [W_M_pass, W_M_amount, List.mem_cons, List.not_mem_nil, or_false, not_or] at ha ⊢; omega)
  by_cases c8 : (q6.2 85 23) ≤ 0
  · have hf := gift c8 hf
    by_cases c9 : x1 = 0
    · have hf := gift c9 hf
      exact w_M_pass_27 x1 (q4 85 22) q6.1 (q6.2 85 32) s q6.2 hF7 _ hf
    · have hf := giff c9 hf
      exact w_M_pass_27 x1 (q4 85 22) q6.1 (q6.2 85 31) s q6.2 hF7 _ hf
  · have hf := giff c8 hf
    cases hf
    exact hF7
def W_M_road : List Nat := [85, 90, 91, 92, 93]
theorem w_M_road_54 (x2 : Int) (s0 s : kM) (h0 : Fr (W_M_road) s0 s) (t : (Int × kM) ⊕ (kM)) (hf : f_M_road_54 x2 s = some t) : (gE (fun x => Fr (W_M_road) s0 x.2) (fun r => Fr (W_M_road) s0 r)) t := by
  unfold f_M_road_54 at hf
  obtain ⟨q1, hq1, hf⟩ := gbind hf
  have hF2 : Fr (W_M_road) s0 q1 := Fr.c h0 (w_M_pass x2 s _ hq1) (by intro a ha; simp only [W_M_road, W_M_pass, List.mem_cons, List.not_mem_nil, or_false, not_or] at ha ⊢; omega)
  obtain ⟨q3, hq3, hf⟩ := gbind hf
  have hF4 : Fr (W_M_road) s0 q3 := Fr.c hF2 (w_M_blanks q1 _ hq3) (by intro a ha; simp only [W_M_road, W_M_blanks, List.mem_cons, List.not_mem_nil, or_false, not_or] at ha ⊢; omega)
  obtain ⟨q5, hq5, hf⟩ := gbind hf
  cases hf
  exact hF4
theorem w_M_road_45b (x2 : Int) (s0 s : kM) (h0 : Fr (W_M_road) s0 s) (t : (Int × kM) ⊕ (kM)) (hf : f_M_road_45b x2 s = some t) : (gE (fun x => Fr (W_M_road) s0 x.2) (fun r => Fr (W_M_road) s0 r)) t := by
  unfold f_M_road_45b at hf
  by_cases c1 : (s 85 23) = 0
  · have hf := gift c1 hf
    by_cases c2 : x2 = 0
    · have hf := gift c2 hf
      obtain ⟨q3, hq3, hf⟩ := gbind hf
      by_cases c4 : q3 = 0
      · have hf := gift c4 hf
        cases hf
        exact h0
      · have hf := giff c4 hf
        exact w_M_road_54 x2 s0 s h0 _ hf
    · have hf := giff c2 hf
      exact w_M_road_54 x2 s0 s h0 _ hf
  · have hf := giff c1 hf
    cases hf
    exact h0
theorem w_M_road_45 (x2 : Int) (s0 s : kM) (h0 : Fr (W_M_road) s0 s) (t : kM) (hf : f_M_road_45 x2 s = some t) : (fun r => Fr (W_M_road) s0 r) t :=
  gL_fr (P := fun (x : Int × kM) => Fr (W_M_road) s0 x.2) (q := (fun r => Fr (W_M_road) s0 r)) (fun x t hf h0 => w_M_road_45b x.1 s0 x.2 h0 t hf) gF (x2, s) t hf h0
theorem w_M_road (s : kM) (t : kM) (hf : f_M_road s = some t) : Fr (W_M_road) s t := by
  unfold f_M_road at hf
  have h0 : Fr (W_M_road) s s := Fr.r
  obtain ⟨q1, hq1, hf⟩ := gbind hf
  have hF2 : Fr (W_M_road) s q1 := Fr.c h0 (w_M_blanks s _ hq1) (by intro a ha; simp only [W_M_road, W_M_blanks, List.mem_cons, List.not_mem_nil, or_false, not_or] at ha ⊢; omega)
  obtain ⟨q3, hq3, hf⟩ := gbind hf
  by_cases c4 : q3 = 0
  · have hf := gift c4 hf
    obtain ⟨q17, hq17, hf⟩ := gbind hf
    have hF18 : Fr (W_M_road) s q17 := Fr.c hF2 (w_M_fails 0 (q1 85 22) q1 _ hq17) (by intro a ha; simp only [W_M_road, W_M_fails, List.mem_cons, List.not_mem_nil, or_false, not_or] at ha ⊢; omega)
    cases hf
    exact hF18
  · have hf := giff c4 hf
    by_cases c5 : (q1 90 0) = 2
    · have hf := gift c5 hf
      obtain ⟨q15, hq15, hf⟩ := gbind hf
      have hF16 : Fr (W_M_road) s q15 := Fr.c hF2 (w_M_fails 4 (q1 85 22) q1 _ hq15) (by intro a ha; simp only [W_M_road, W_M_fails, List.mem_cons, List.not_mem_nil, or_false, not_or] at ha ⊢; omega)
      cases hf
      exact hF16
    · have hf := giff c5 hf
      obtain ⟨s6, ee7, hf⟩ := gbL hf
      have hF8 : Fr (W_M_road) s s6 := by rw [ee7]; exact Fr.u hF2 (by simp [W_M_road])
      obtain ⟨s9, ee10, hf⟩ := gbL hf
      have hF11 : Fr (W_M_road) s s9 := by rw [ee10]; exact Fr.u hF8 (by simp [W_M_road])
      obtain ⟨q12, hq12, hf⟩ := gbind hf
      have hF13 : Fr (W_M_road) s q12 := Fr.c hF11 (w_M_blanks s9 _ hq12) (by intro a ha; simp only [W_M_road, W_M_blanks, List.mem_cons, List.not_mem_nil, or_false, not_or] at ha ⊢; omega)
      obtain ⟨q14, hq14, hf⟩ := gbind hf
      exact w_M_road_45 q14 s q12 hF13 _ hf
def W_M_goesOn : List Nat := [85]
theorem w_M_goesOn_30 (y0 : Int) (s0 s : kM) (h0 : Fr (W_M_goesOn) s0 s) (t : Int × kM) (hf : f_M_goesOn_30 y0 s = some t) : (fun r => Fr (W_M_goesOn) s0 r.2) t := by
  unfold f_M_goesOn_30 at hf
  obtain ⟨s1, ee2, hf⟩ := gbL hf
  have hF3 : Fr (W_M_goesOn) s0 s1 := by rw [ee2]; exact Fr.u h0 (by simp [W_M_goesOn])
  obtain ⟨w4, hf⟩ := gbB hf
  cases hf
  exact hF3
theorem w_M_goesOn_29 (s0 s : kM) (h0 : Fr (W_M_goesOn) s0 s) (t : Int × kM) (hf : f_M_goesOn_29 s = some t) : (fun r => Fr (W_M_goesOn) s0 r.2) t := by
  unfold f_M_goesOn_29 at hf
  exact w_M_goesOn_30 0 s0 s h0 _ hf
theorem w_M_goesOn_19 (s0 s : kM) (h0 : Fr (W_M_goesOn) s0 s) (t : Int × kM) (hf : f_M_goesOn_19 s = some t) : (fun r => Fr (W_M_goesOn) s0 r.2) t := by
  unfold f_M_goesOn_19 at hf
  by_cases c1 : (s 85 23) = 0
  · have hf := gift c1 hf
    by_cases c2 : (s 85 21) ≤ (s 85 22)
    · have hf := gift c2 hf
      exact w_M_goesOn_29 s0 s h0 _ hf
    · have hf := giff c2 hf
      exact w_M_goesOn_30 1 s0 s h0 _ hf
  · have hf := giff c1 hf
    exact w_M_goesOn_29 s0 s h0 _ hf
theorem w_M_goesOn (s : kM) (t : Int × kM) (hf : f_M_goesOn s = some t) : Fr (W_M_goesOn) s t.2 := by
  unfold f_M_goesOn at hf
  have h0 : Fr (W_M_goesOn) s s := Fr.r
  obtain ⟨q1, hq1, hf⟩ := gbind hf
  have hF2 : Fr (W_M_goesOn) s q1 := Fr.c h0 (w_M_blanks s _ hq1) (by intro a ha; simp only [W_M_goesOn, W_M_blanks, List.mem_cons, List.not_mem_nil, or_false, not_or] at ha ⊢; omega)
  by_cases c3 : (q1 85 23) = 0
  · have hf := gift c3 hf
    by_cases c4 : (q1 85 21) ≤ (q1 85 22)
    · have hf := gift c4 hf
      exact w_M_goesOn_19 s q1 hF2 _ hf
    · have hf := giff c4 hf
      obtain ⟨q5, hq5, hf⟩ := gbind hf
      by_cases c6 : q5 = 59
      · have hf := gift c6 hf
        exact w_M_goesOn_19 s q1 hF2 _ hf
      · have hf := giff c6 hf
        obtain ⟨q7, hq7, hf⟩ := gbind hf
        have hF8 : Fr (W_M_goesOn) s q7 := Fr.c hF2 (w_M_fails 0 (q1 85 22) q1 _ hq7) (by intro a ha; simp only [W_M_goesOn, W_M_fails, List.mem_cons, List.not_mem_nil, or_false, not_or] at ha ⊢; omega)
        exact w_M_goesOn_19 s q7 hF8 _ hf
  · have hf := giff c3 hf
    exact w_M_goesOn_19 s q1 hF2 _ hf
def W_M_lay (a0 : Nat) (n0 : Nat) (a1 : Nat) (n1 : Nat) : List Nat := [a1]
theorem w_M_lay_2b (a0 : Nat) (n0 : Nat) (a1 : Nat) (n1 : Nat) (x2 : Int) (s0 s : kM) (h0 : Fr (W_M_lay a0 n0 a1 n1) s0 s) (t : (Int × kM) ⊕ (kM)) (hf : f_M_lay_2b a0 n0 a1 n1 x2 s = some t) : (gE (fun x => Fr (W_M_lay a0 n0 a1 n1) s0 x.2) (fun r => Fr (W_M_lay a0 n0 a1 n1) s0 r)) t := by
  unfold f_M_lay_2b at hf
  by_cases c1 : ((n0 : Nat) : Int) ≤ x2
  · have hf := gift c1 hf
    cases hf
    exact h0
  · have hf := giff c1 hf
    obtain ⟨j2, i3, hf⟩ := gbI hf
    obtain ⟨j4, i5, hf⟩ := gbI hf
    obtain ⟨s6, ee7, hf⟩ := gbL hf
    have hF8 : Fr (W_M_lay a0 n0 a1 n1) s0 s6 := by rw [ee7]; exact Fr.u h0 (by simp [W_M_lay])
    cases hf
    exact hF8
theorem w_M_lay_2 (a0 : Nat) (n0 : Nat) (a1 : Nat) (n1 : Nat) (x2 : Int) (s0 s : kM) (h0 : Fr (W_M_lay a0 n0 a1 n1) s0 s) (t : kM) (hf : f_M_lay_2 a0 n0 a1 n1 x2 s = some t) : (fun r => Fr (W_M_lay a0 n0 a1 n1) s0 r) t :=
  gL_fr (P := fun (x : Int × kM) => Fr (W_M_lay a0 n0 a1 n1) s0 x.2) (q := (fun r => Fr (W_M_lay a0 n0 a1 n1) s0 r)) (fun x t hf h0 => w_M_lay_2b a0 n0 a1 n1 x.1 s0 x.2 h0 t hf) gF (x2, s) t hf h0
theorem w_M_lay (a0 : Nat) (n0 : Nat) (a1 : Nat) (n1 : Nat) (s : kM) (t : kM) (hf : f_M_lay a0 n0 a1 n1 s = some t) : Fr (W_M_lay a0 n0 a1 n1) s t := by
  unfold f_M_lay at hf
  have h0 : Fr (W_M_lay a0 n0 a1 n1) s s := Fr.r
  exact w_M_lay_2 a0 n0 a1 n1 0 s s h0 _ hf
def W_M_keeps : List Nat := [94, 95, 96, 97]
theorem w_M_keeps (s : kM) (t : kM) (hf : f_M_keeps s = some t) : Fr (W_M_keeps) s t := by
  unfold f_M_keeps at hf
  have h0 : Fr (W_M_keeps) s s := Fr.r
  obtain ⟨q1, hq1, hf⟩ := gbind hf
  have hF2 : Fr (W_M_keeps) s q1 := Fr.c h0 (w_M_lay 86 6 94 6 s _ hq1) (by intro a ha; simp only [W_M_keeps, W_M_lay, List.mem_cons, List.not_mem_nil, or_false, not_or] at ha ⊢; omega)
  obtain ⟨q3, hq3, hf⟩ := gbind hf
  have hF4 : Fr (W_M_keeps) s q3 := Fr.c hF2 (w_M_lay 87 22 95 22 q1 _ hq3) (by intro a ha; simp only [W_M_keeps, W_M_lay, List.mem_cons, List.not_mem_nil, or_false, not_or] at ha ⊢; omega)
  obtain ⟨q5, hq5, hf⟩ := gbind hf
  have hF6 : Fr (W_M_keeps) s q5 := Fr.c hF4 (w_M_lay 88 22 96 22 q3 _ hq5) (by intro a ha; simp only [W_M_keeps, W_M_lay, List.mem_cons, List.not_mem_nil, or_false, not_or] at ha ⊢; omega)
  obtain ⟨q7, hq7, hf⟩ := gbind hf
  have hF8 : Fr (W_M_keeps) s q7 := Fr.c hF6 (w_M_lay 89 11 97 11 q5 _ hq7) (by intro a ha; simp only [W_M_keeps, W_M_lay, List.mem_cons, List.not_mem_nil, or_false, not_or] at ha ⊢; omega)
  cases hf
  exact hF8
def W_M_turns : List Nat := [100]
theorem w_M_turns (x1 : Int) (x2 : Int) (x3 : Int) (x4 : Int) (s : kM) (t : kM) (hf : f_M_turns x1 x2 x3 x4 s = some t) : Fr (W_M_turns) s t := by
  unfold f_M_turns at hf
  have h0 : Fr (W_M_turns) s s := Fr.r
  obtain ⟨j1, i2, hf⟩ := gbI hf
  obtain ⟨s3, ee4, hf⟩ := gbL hf
  have hF5 : Fr (W_M_turns) s s3 := by rw [ee4]; exact Fr.u h0 (by simp [W_M_turns])
  obtain ⟨j6, i7, hf⟩ := gbI hf
  obtain ⟨s8, ee9, hf⟩ := gbL hf
  have hF10 : Fr (W_M_turns) s s8 := by rw [ee9]; exact Fr.u hF5 (by simp [W_M_turns])
  obtain ⟨j11, i12, hf⟩ := gbI hf
  obtain ⟨s13, ee14, hf⟩ := gbL hf
  have hF15 : Fr (W_M_turns) s s13 := by rw [ee14]; exact Fr.u hF10 (by simp [W_M_turns])
  obtain ⟨j16, i17, hf⟩ := gbI hf
  obtain ⟨s18, ee19, hf⟩ := gbL hf
  have hF20 : Fr (W_M_turns) s s18 := by rw [ee19]; exact Fr.u hF15 (by simp [W_M_turns])
  cases hf
  exact hF20
def W_M_fillsLand : List Nat := [85, 100, 101, 102, 103]
theorem w_M_fillsLand_138 (x1 : Int) (s0 s : kM) (h0 : Fr (W_M_fillsLand) s0 s) (t : (Int × kM) ⊕ (kM)) (hf : f_M_fillsLand_138 x1 s = some t) : (gE (fun x => Fr (W_M_fillsLand) s0 x.2) (fun r => Fr (W_M_fillsLand) s0 r)) t := by
  unfold f_M_fillsLand_138 at hf
  cases hf
  exact h0
theorem w_M_fillsLand_99b (x1 : Int) (x2 : Int) (x3 : Int) (s0 s : kM) (h0 : Fr (W_M_fillsLand) s0 s) (t : (Int × Int × kM) ⊕ ((Int × kM) ⊕ (kM))) (hf : f_M_fillsLand_99b x1 x2 x3 s = some t) : (gE (fun x => Fr (W_M_fillsLand) s0 x.2.2) (gE (fun x => Fr (W_M_fillsLand) s0 x.2) (fun r => Fr (W_M_fillsLand) s0 r))) t := by
  unfold f_M_fillsLand_99b at hf
  obtain ⟨j1, i2, hf⟩ := gbI hf
  by_cases c3 : (s 101 j1) = (-1)
  · have hf := gift c3 hf
    obtain ⟨j19, i20, hf⟩ := gbI hf
    obtain ⟨s21, ee22, hf⟩ := gbL hf
    have hF23 : Fr (W_M_fillsLand) s0 s21 := by rw [ee22]; exact Fr.u h0 (by simp [W_M_fillsLand])
    obtain ⟨j24, i25, hf⟩ := gbI hf
    cases hf
    exact hF23
  · have hf := giff c3 hf
    obtain ⟨j4, i5, hf⟩ := gbI hf
    obtain ⟨s6, ee7, hf⟩ := gbL hf
    have hF8 : Fr (W_M_fillsLand) s0 s6 := by rw [ee7]; exact Fr.u h0 (by simp [W_M_fillsLand])
    obtain ⟨j9, i10, hf⟩ := gbI hf
    obtain ⟨s11, ee12, hf⟩ := gbL hf
    have hF13 : Fr (W_M_fillsLand) s0 s11 := by rw [ee12]; exact Fr.u hF8 (by simp [W_M_fillsLand])
    obtain ⟨s14, ee15, hf⟩ := gbL hf
    have hF16 : Fr (W_M_fillsLand) s0 s14 := by rw [ee15]; exact Fr.u hF13 (by simp [W_M_fillsLand])
    obtain ⟨t17, hg18, rfl⟩ := gmap hf
    exact w_M_fillsLand_138 x1 s0 s14 hF16 _ hg18
theorem w_M_fillsLand_99 (x1 : Int) (x2 : Int) (x3 : Int) (s0 s : kM) (h0 : Fr (W_M_fillsLand) s0 s) (t : (Int × kM) ⊕ (kM)) (hf : f_M_fillsLand_99 x1 x2 x3 s = some t) : (gE (fun x => Fr (W_M_fillsLand) s0 x.2) (fun r => Fr (W_M_fillsLand) s0 r)) t :=
  gL_fr (P := fun (x : Int × Int × kM) => Fr (W_M_fillsLand) s0 x.2.2) (q := (gE (fun x => Fr (W_M_fillsLand) s0 x.2) (fun r => Fr (W_M_fillsLand) s0 r))) (fun x t hf h0 => w_M_fillsLand_99b x1 x.1 x.2.1 s0 x.2.2 h0 t hf) gF (x2, x3, s) t hf h0
theorem w_M_fillsLand_83b (x1 : Int) (s0 s : kM) (h0 : Fr (W_M_fillsLand) s0 s) (t : (Int × kM) ⊕ (kM)) (hf : f_M_fillsLand_83b x1 s = some t) : (gE (fun x => Fr (W_M_fillsLand) s0 x.2) (fun r => Fr (W_M_fillsLand) s0 r)) t := by
  unfold f_M_fillsLand_83b at hf
  obtain ⟨q1, hq1, hf⟩ := gbind hf
  by_cases c2 : (wI (2 * q1)) ≤ x1
  · have hf := gift c2 hf
    cases hf
    exact h0
  · have hf := giff c2 hf
    obtain ⟨j3, i4, hf⟩ := gbI hf
    by_cases c5 : (s 101 j3) = (-1)
    · have hf := gift c5 hf
      exact w_M_fillsLand_99 x1 0 x1 s0 s h0 _ hf
    · have hf := giff c5 hf
      exact w_M_fillsLand_138 x1 s0 s h0 _ hf
theorem w_M_fillsLand_83 (x1 : Int) (s0 s : kM) (h0 : Fr (W_M_fillsLand) s0 s) (t : kM) (hf : f_M_fillsLand_83 x1 s = some t) : (fun r => Fr (W_M_fillsLand) s0 r) t :=
  gL_fr (P := fun (x : Int × kM) => Fr (W_M_fillsLand) s0 x.2) (q := (fun r => Fr (W_M_fillsLand) s0 r)) (fun x t hf h0 => w_M_fillsLand_83b x.1 s0 x.2 h0 t hf) gF (x1, s) t hf h0
theorem w_M_fillsLand_68b (x1 : Int) (s0 s : kM) (h0 : Fr (W_M_fillsLand) s0 s) (t : (Int × kM) ⊕ (kM)) (hf : f_M_fillsLand_68b x1 s = some t) : (gE (fun x => Fr (W_M_fillsLand) s0 x.2) (fun r => Fr (W_M_fillsLand) s0 r)) t := by
  unfold f_M_fillsLand_68b at hf
  by_cases c1 : 44 ≤ x1
  · have hf := gift c1 hf
    obtain ⟨s2, ee3, hf⟩ := gbL hf
    have hF4 : Fr (W_M_fillsLand) s0 s2 := by rw [ee3]; exact Fr.u h0 (by simp [W_M_fillsLand])
    obtain ⟨t5, hg6, rfl⟩ := gmap hf
    exact w_M_fillsLand_83 0 s0 s2 hF4 _ hg6
  · have hf := giff c1 hf
    obtain ⟨j7, i8, hf⟩ := gbI hf
    obtain ⟨s9, ee10, hf⟩ := gbL hf
    have hF11 : Fr (W_M_fillsLand) s0 s9 := by rw [ee10]; exact Fr.u h0 (by simp [W_M_fillsLand])
    cases hf
    exact hF11
theorem w_M_fillsLand_68 (x1 : Int) (s0 s : kM) (h0 : Fr (W_M_fillsLand) s0 s) (t : kM) (hf : f_M_fillsLand_68 x1 s = some t) : (fun r => Fr (W_M_fillsLand) s0 r) t :=
  gL_fr (P := fun (x : Int × kM) => Fr (W_M_fillsLand) s0 x.2) (q := (fun r => Fr (W_M_fillsLand) s0 r)) (fun x t hf h0 => w_M_fillsLand_68b x.1 s0 x.2 h0 t hf) gF (x1, s) t hf h0
theorem w_M_fillsLand_64 (x1 : Int) (s0 s : kM) (h0 : Fr (W_M_fillsLand) s0 s) (t : (Int × kM) ⊕ (kM)) (hf : f_M_fillsLand_64 x1 s = some t) : (gE (fun x => Fr (W_M_fillsLand) s0 x.2) (fun r => Fr (W_M_fillsLand) s0 r)) t := by
  unfold f_M_fillsLand_64 at hf
  cases hf
  exact h0
theorem w_M_fillsLand_2b (x1 : Int) (s0 s : kM) (h0 : Fr (W_M_fillsLand) s0 s) (t : (Int × kM) ⊕ (kM)) (hf : f_M_fillsLand_2b x1 s = some t) : (gE (fun x => Fr (W_M_fillsLand) s0 x.2) (fun r => Fr (W_M_fillsLand) s0 r)) t := by
  unfold f_M_fillsLand_2b at hf
  by_cases c1 : 11 ≤ x1
  · have hf := gift c1 hf
    obtain ⟨t2, hg3, rfl⟩ := gmap hf
    exact w_M_fillsLand_68 0 s0 s h0 _ hg3
  · have hf := giff c1 hf
    obtain ⟨q4, hq4, hf⟩ := gbind hf
    by_cases c5 : q4 = 0
    · have hf := gift c5 hf
      exact w_M_fillsLand_64 x1 s0 s h0 _ hf
    · have hf := giff c5 hf
      obtain ⟨j6, i7, hf⟩ := gbI hf
      obtain ⟨j8, i9, hf⟩ := gbI hf
      obtain ⟨j10, i11, hf⟩ := gbI hf
      obtain ⟨q12, hq12, hf⟩ := gbind hf
      obtain ⟨j13, i14, hf⟩ := gbI hf
      obtain ⟨q15, hq15, hf⟩ := gbind hf
      obtain ⟨j16, i17, hf⟩ := gbI hf
      by_cases c18 : (s 89 j16) = 1
      · have hf := gift c18 hf
        obtain ⟨q21, hq21, hf⟩ := gbind hf
        have hF22 : Fr (W_M_fillsLand) s0 q21 := Fr.c h0 (w_M_turns (wI (2 * (s 98 j6))) (wI (2 * (s 99 j8))) (wI ((wI (2 * q12)) + 1)) (wI ((wI (2 * q15)) + 1)) s _ hq21) (by intro a ha; simp only [W_M_fillsLand, W_M_turns, List.mem_cons, List.not_mem_nil, or_false, not_or] at ha ⊢; omega)
        exact w_M_fillsLand_64 x1 s0 q21 hF22 _ hf
      · have hf := giff c18 hf
        obtain ⟨q19, hq19, hf⟩ := gbind hf
        have hF20 : Fr (W_M_fillsLand) s0 q19 := Fr.c h0 (w_M_turns (wI (2 * (s 98 j6))) (wI ((wI (2 * q15)) + 1)) (wI ((wI (2 * q12)) + 1)) (wI (2 * (s 99 j8))) s _ hq19) (by intro a ha; simp only [W_M_fillsLand, W_M_turns, List.mem_cons, List.not_mem_nil, or_false, not_or] at ha ⊢; omega)
        exact w_M_fillsLand_64 x1 s0 q19 hF20 _ hf
theorem w_M_fillsLand_2 (x1 : Int) (s0 s : kM) (h0 : Fr (W_M_fillsLand) s0 s) (t : kM) (hf : f_M_fillsLand_2 x1 s = some t) : (fun r => Fr (W_M_fillsLand) s0 r) t :=
  gL_fr (P := fun (x : Int × kM) => Fr (W_M_fillsLand) s0 x.2) (q := (fun r => Fr (W_M_fillsLand) s0 r)) (fun x t hf h0 => w_M_fillsLand_2b x.1 s0 x.2 h0 t hf) gF (x1, s) t hf h0
theorem w_M_fillsLand (s : kM) (t : kM) (hf : f_M_fillsLand s = some t) : Fr (W_M_fillsLand) s t := by
  unfold f_M_fillsLand at hf
  have h0 : Fr (W_M_fillsLand) s s := Fr.r
  exact w_M_fillsLand_2 0 s s h0 _ hf
def W_M_groups : List Nat := [104]
theorem w_M_groups_104 (x3 : Int) (y0 : Int) (y1 : Int) (s0 s : kM) (h0 : Fr (W_M_groups) s0 s) (t : (Int × Int) ⊕ (Int × kM)) (hf : f_M_groups_104 x3 y0 y1 s = some t) : (gE (fun x => Fr (W_M_groups) s0 s) (fun r => Fr (W_M_groups) s0 r.2)) t := by
  unfold f_M_groups_104 at hf
  cases hf
  exact h0
theorem w_M_groups_103 (x3 : Int) (y0 : Int) (s0 s : kM) (h0 : Fr (W_M_groups) s0 s) (t : (Int × Int) ⊕ (Int × kM)) (hf : f_M_groups_103 x3 y0 s = some t) : (gE (fun x => Fr (W_M_groups) s0 s) (fun r => Fr (W_M_groups) s0 r.2)) t := by
  unfold f_M_groups_103 at hf
  exact w_M_groups_104 x3 y0 0 s0 s h0 _ hf
theorem w_M_groups_87b (x2 : Int) (x3 : Int) (s0 s : kM) (h0 : Fr (W_M_groups) s0 s) (t : (Int × Int) ⊕ (Int × kM)) (hf : f_M_groups_87b x2 x3 s = some t) : (gE (fun x => Fr (W_M_groups) s0 s) (fun r => Fr (W_M_groups) s0 r.2)) t := by
  unfold f_M_groups_87b at hf
  by_cases c1 : 11 ≤ x3
  · have hf := gift c1 hf
    cases hf
    exact h0
  · have hf := giff c1 hf
    obtain ⟨q2, hq2, hf⟩ := gbind hf
    by_cases c3 : q2 = 0
    · have hf := gift c3 hf
      exact w_M_groups_103 x3 x2 s0 s h0 _ hf
    · have hf := giff c3 hf
      obtain ⟨j4, i5, hf⟩ := gbI hf
      by_cases c6 : (s 104 j4) = x3
      · have hf := gift c6 hf
        exact w_M_groups_104 x3 x2 1 s0 s h0 _ hf
      · have hf := giff c6 hf
        exact w_M_groups_103 x3 x2 s0 s h0 _ hf
theorem w_M_groups_87 (x2 : Int) (x3 : Int) (s0 s : kM) (h0 : Fr (W_M_groups) s0 s) (t : Int × kM) (hf : f_M_groups_87 x2 x3 s = some t) : (fun r => Fr (W_M_groups) s0 r.2) t :=
  gL_fr (P := fun (x : Int × Int) => Fr (W_M_groups) s0 s) (q := (fun r => Fr (W_M_groups) s0 r.2)) (fun x t hf h0 => w_M_groups_87b x.1 x.2 s0 s h0 t hf) gF (x2, x3) t hf h0
theorem w_M_groups_69 (x2 : Int) (x3 : Int) (x4 : Int) (x5 : Int) (y0 : Int) (s0 s : kM) (h0 : Fr (W_M_groups) s0 s) (t : (Int × Int × kM) ⊕ ((Int × kM) ⊕ (Int × kM))) (hf : f_M_groups_69 x2 x3 x4 x5 y0 s = some t) : (gE (fun x => Fr (W_M_groups) s0 x.2.2) (gE (fun x => Fr (W_M_groups) s0 x.2) (fun r => Fr (W_M_groups) s0 r.2))) t := by
  unfold f_M_groups_69 at hf
  obtain ⟨j1, i2, hf⟩ := gbI hf
  obtain ⟨s3, ee4, hf⟩ := gbL hf
  have hF5 : Fr (W_M_groups) s0 s3 := by rw [ee4]; exact Fr.u h0 (by simp [W_M_groups])
  obtain ⟨j6, i7, hf⟩ := gbI hf
  obtain ⟨s8, ee9, hf⟩ := gbL hf
  have hF10 : Fr (W_M_groups) s0 s8 := by rw [ee9]; exact Fr.u hF5 (by simp [W_M_groups])
  cases hf
  exact hF10
theorem w_M_groups_66 (x2 : Int) (x3 : Int) (x4 : Int) (x5 : Int) (s0 s : kM) (h0 : Fr (W_M_groups) s0 s) (t : (Int × Int × kM) ⊕ ((Int × kM) ⊕ (Int × kM))) (hf : f_M_groups_66 x2 x3 x4 x5 s = some t) : (gE (fun x => Fr (W_M_groups) s0 x.2.2) (gE (fun x => Fr (W_M_groups) s0 x.2) (fun r => Fr (W_M_groups) s0 r.2))) t := by
  unfold f_M_groups_66 at hf
  exact w_M_groups_69 x2 x3 x4 x5 1 s0 s h0 _ hf
theorem w_M_groups_54 (x1 : Int) (x2 : Int) (x3 : Int) (x4 : Int) (y0 : Int) (s0 s : kM) (h0 : Fr (W_M_groups) s0 s) (t : (Int × Int × kM) ⊕ ((Int × kM) ⊕ (Int × kM))) (hf : f_M_groups_54 x1 x2 x3 x4 y0 s = some t) : (gE (fun x => Fr (W_M_groups) s0 x.2.2) (gE (fun x => Fr (W_M_groups) s0 x.2) (fun r => Fr (W_M_groups) s0 r.2))) t := by
  unfold f_M_groups_54 at hf
  by_cases c1 : x1 = 0
  · have hf := gift c1 hf
    obtain ⟨j2, i3, hf⟩ := gbI hf
    obtain ⟨j4, i5, hf⟩ := gbI hf
    by_cases c6 : (s 104 j2) = (s 104 j4)
    · have hf := gift c6 hf
      exact w_M_groups_69 x2 x3 x4 y0 0 s0 s h0 _ hf
    · have hf := giff c6 hf
      exact w_M_groups_66 x2 x3 x4 y0 s0 s h0 _ hf
  · have hf := giff c1 hf
    exact w_M_groups_66 x2 x3 x4 y0 s0 s h0 _ hf
theorem w_M_groups_20b (x1 : Int) (x2 : Int) (s0 s : kM) (h0 : Fr (W_M_groups) s0 s) (t : (Int × Int × kM) ⊕ ((Int × kM) ⊕ (Int × kM))) (hf : f_M_groups_20b x1 x2 s = some t) : (gE (fun x => Fr (W_M_groups) s0 x.2.2) (gE (fun x => Fr (W_M_groups) s0 x.2) (fun r => Fr (W_M_groups) s0 r.2))) t := by
  unfold f_M_groups_20b at hf
  obtain ⟨q1, hq1, hf⟩ := gbind hf
  by_cases c2 : q1 ≤ x2
  · have hf := gift c2 hf
    cases hf
    exact h0
  · have hf := giff c2 hf
    obtain ⟨j3, i4, hf⟩ := gbI hf
    obtain ⟨q5, hq5, hf⟩ := gbind hf
    obtain ⟨j6, i7, hf⟩ := gbI hf
    obtain ⟨j8, i9, hf⟩ := gbI hf
    obtain ⟨j10, i11, hf⟩ := gbI hf
    by_cases c12 : (s 104 j10) ≤ (s 104 j8)
    · have hf := gift c12 hf
      obtain ⟨j13, i14, hf⟩ := gbI hf
      exact w_M_groups_54 x1 x2 (s 87 j3) (s 87 j6) (s 104 j13) s0 s h0 _ hf
    · have hf := giff c12 hf
      obtain ⟨j15, i16, hf⟩ := gbI hf
      exact w_M_groups_54 x1 x2 (s 87 j3) (s 87 j6) (s 104 j15) s0 s h0 _ hf
theorem w_M_groups_20 (x1 : Int) (x2 : Int) (s0 s : kM) (h0 : Fr (W_M_groups) s0 s) (t : (Int × kM) ⊕ (Int × kM)) (hf : f_M_groups_20 x1 x2 s = some t) : (gE (fun x => Fr (W_M_groups) s0 x.2) (fun r => Fr (W_M_groups) s0 r.2)) t :=
  gL_fr (P := fun (x : Int × Int × kM) => Fr (W_M_groups) s0 x.2.2) (q := (gE (fun x => Fr (W_M_groups) s0 x.2) (fun r => Fr (W_M_groups) s0 r.2))) (fun x t hf h0 => w_M_groups_20b x.1 x.2.1 s0 x.2.2 h0 t hf) gF (x1, x2, s) t hf h0
theorem w_M_groups_14b (x1 : Int) (s0 s : kM) (h0 : Fr (W_M_groups) s0 s) (t : (Int × kM) ⊕ (Int × kM)) (hf : f_M_groups_14b x1 s = some t) : (gE (fun x => Fr (W_M_groups) s0 x.2) (fun r => Fr (W_M_groups) s0 r.2)) t := by
  unfold f_M_groups_14b at hf
  by_cases c1 : x1 = 0
  · have hf := gift c1 hf
    obtain ⟨t2, hg3, rfl⟩ := gmap hf
    exact w_M_groups_87 0 0 s0 s h0 _ hg3
  · have hf := giff c1 hf
    exact w_M_groups_20 0 0 s0 s h0 _ hf
theorem w_M_groups_14 (x1 : Int) (s0 s : kM) (h0 : Fr (W_M_groups) s0 s) (t : Int × kM) (hf : f_M_groups_14 x1 s = some t) : (fun r => Fr (W_M_groups) s0 r.2) t :=
  gL_fr (P := fun (x : Int × kM) => Fr (W_M_groups) s0 x.2) (q := (fun r => Fr (W_M_groups) s0 r.2)) (fun x t hf h0 => w_M_groups_14b x.1 s0 x.2 h0 t hf) gF (x1, s) t hf h0
theorem w_M_groups_2b (x1 : Int) (s0 s : kM) (h0 : Fr (W_M_groups) s0 s) (t : (Int × kM) ⊕ (Int × kM)) (hf : f_M_groups_2b x1 s = some t) : (gE (fun x => Fr (W_M_groups) s0 x.2) (fun r => Fr (W_M_groups) s0 r.2)) t := by
  unfold f_M_groups_2b at hf
  by_cases c1 : 11 ≤ x1
  · have hf := gift c1 hf
    obtain ⟨t2, hg3, rfl⟩ := gmap hf
    exact w_M_groups_14 1 s0 s h0 _ hg3
  · have hf := giff c1 hf
    obtain ⟨j4, i5, hf⟩ := gbI hf
    obtain ⟨s6, ee7, hf⟩ := gbL hf
    have hF8 : Fr (W_M_groups) s0 s6 := by rw [ee7]; exact Fr.u h0 (by simp [W_M_groups])
    cases hf
    exact hF8
theorem w_M_groups_2 (x1 : Int) (s0 s : kM) (h0 : Fr (W_M_groups) s0 s) (t : Int × kM) (hf : f_M_groups_2 x1 s = some t) : (fun r => Fr (W_M_groups) s0 r.2) t :=
  gL_fr (P := fun (x : Int × kM) => Fr (W_M_groups) s0 x.2) (q := (fun r => Fr (W_M_groups) s0 r.2)) (fun x t hf h0 => w_M_groups_2b x.1 s0 x.2 h0 t hf) gF (x1, s) t hf h0
theorem w_M_groups (s : kM) (t : Int × kM) (hf : f_M_groups s = some t) : Fr (W_M_groups) s t.2 := by
  unfold f_M_groups at hf
  have h0 : Fr (W_M_groups) s s := Fr.r
  exact w_M_groups_2 0 s s h0 _ hf
def W_M_canBeDrawn : List Nat := [85, 100, 101, 102, 103, 104]
theorem w_M_canBeDrawn (s : kM) (t : Int × kM) (hf : f_M_canBeDrawn s = some t) : Fr (W_M_canBeDrawn) s t.2 := by
  unfold f_M_canBeDrawn at hf
  have h0 : Fr (W_M_canBeDrawn) s s := Fr.r
  obtain ⟨q1, hq1, hf⟩ := gbind hf
  have hF2 : Fr (W_M_canBeDrawn) s q1 := Fr.c h0 (w_M_fillsLand s _ hq1) (by intro a ha; simp only [W_M_canBeDrawn, W_M_fillsLand, List.mem_cons, List.not_mem_nil, or_false, not_or] at ha ⊢; omega)
  obtain ⟨q3, hq3, hf⟩ := gbind hf
  obtain ⟨q4, hq4, hf⟩ := gbind hf
  have hF5 : Fr (W_M_canBeDrawn) s q4.2 := Fr.c hF2 (w_M_groups q1 _ hq4) (by intro a ha; simp only [W_M_canBeDrawn, W_M_groups, List.mem_cons, List.not_mem_nil, or_false, not_or] at ha ⊢; omega)
  by_cases c6 : (q1 85 20) = (wI (q3 + (wI (2 * q4.1))))
  · have hf := gift c6 hf
    cases hf
    exact hF5
  · have hf := giff c6 hf
    cases hf
    exact hF5
def W_M_laysBack : List Nat := [86, 87, 88, 89, 98, 99]
theorem w_M_laysBack (s : kM) (t : kM) (hf : f_M_laysBack s = some t) : Fr (W_M_laysBack) s t := by
  unfold f_M_laysBack at hf
  have h0 : Fr (W_M_laysBack) s s := Fr.r
  obtain ⟨q1, hq1, hf⟩ := gbind hf
  have hF2 : Fr (W_M_laysBack) s q1 := Fr.c h0 (w_M_lay 94 6 86 6 s _ hq1) (by intro a ha; simp only [W_M_laysBack, W_M_lay, List.mem_cons, List.not_mem_nil, or_false, not_or] at ha ⊢; omega)
  obtain ⟨q3, hq3, hf⟩ := gbind hf
  have hF4 : Fr (W_M_laysBack) s q3 := Fr.c hF2 (w_M_lay 95 22 87 22 q1 _ hq3) (by intro a ha; simp only [W_M_laysBack, W_M_lay, List.mem_cons, List.not_mem_nil, or_false, not_or] at ha ⊢; omega)
  obtain ⟨q5, hq5, hf⟩ := gbind hf
  have hF6 : Fr (W_M_laysBack) s q5 := Fr.c hF4 (w_M_lay 96 22 88 22 q3 _ hq5) (by intro a ha; simp only [W_M_laysBack, W_M_lay, List.mem_cons, List.not_mem_nil, or_false, not_or] at ha ⊢; omega)
  obtain ⟨q7, hq7, hf⟩ := gbind hf
  have hF8 : Fr (W_M_laysBack) s q7 := Fr.c hF6 (w_M_lay 97 11 89 11 q5 _ hq7) (by intro a ha; simp only [W_M_laysBack, W_M_lay, List.mem_cons, List.not_mem_nil, or_false, not_or] at ha ⊢; omega)
  obtain ⟨q9, hq9, hf⟩ := gbind hf
  have hF10 : Fr (W_M_laysBack) s q9 := Fr.c hF8 (w_M_refresh q7 _ hq9) (by intro a ha; simp only [W_M_laysBack, W_M_refresh, List.mem_cons, List.not_mem_nil, or_false, not_or] at ha ⊢; omega)
  cases hf
  exact hF10
def W_M_town : List Nat := [85, 86, 87, 88, 89, 90, 91, 92, 93, 94, 95, 96, 97, 98, 99, 100, 101, 102, 103, 104]
theorem w_M_town_98 (s0 s : kM) (h0 : Fr (W_M_town) s0 s) (t : Int × kM) (hf : f_M_town_98 s = some t) : (fun r => Fr (W_M_town) s0 r.2) t := by
  unfold f_M_town_98 at hf
  by_cases c1 : (s 85 23) ≤ 0
  · have hf := gift c1 hf
    obtain ⟨q2, hq2, hf⟩ := gbind hf
    cases hf
    exact h0
  · have hf := giff c1 hf
    obtain ⟨q3, hq3, hf⟩ := gbind hf
    have hF4 : Fr (W_M_town) s0 q3 := Fr.c h0 (w_M_laysBack s _ hq3) (by intro a ha; simp only [W_M_town, W_M_laysBack, List.mem_cons, List.not_mem_nil, or_false, not_or] at ha ⊢; omega)
    cases hf
    exact hF4
theorem w_M_town_48b (x2 : Int) (x3 : Int) (s0 s : kM) (h0 : Fr (W_M_town) s0 s) (t : (Int × kM) ⊕ (Int × kM)) (hf : f_M_town_48b x2 x3 s = some t) : (gE (fun x => Fr (W_M_town) s0 x.2) (fun r => Fr (W_M_town) s0 r.2)) t := by
  unfold f_M_town_48b at hf
  by_cases c1 : 3 ≤ x3
  · have hf := gift c1 hf
    obtain ⟨s2, ee3, hf⟩ := gbL hf
    have hF4 : Fr (W_M_town) s0 s2 := by rw [ee3]; exact Fr.u h0 (by simp [W_M_town])
    obtain ⟨q5, hq5, hf⟩ := gbind hf
    have hF6 : Fr (W_M_town) s0 q5 := Fr.c hF4 (w_M_lay 91 22 87 22 s2 _ hq5) (by intro a ha; simp only [W_M_town, W_M_lay, List.mem_cons, List.not_mem_nil, or_false, not_or] at ha ⊢; omega)
    obtain ⟨q7, hq7, hf⟩ := gbind hf
    have hF8 : Fr (W_M_town) s0 q7 := Fr.c hF6 (w_M_lay 92 22 88 22 q5 _ hq7) (by intro a ha; simp only [W_M_town, W_M_lay, List.mem_cons, List.not_mem_nil, or_false, not_or] at ha ⊢; omega)
    obtain ⟨q9, hq9, hf⟩ := gbind hf
    have hF10 : Fr (W_M_town) s0 q9 := Fr.c hF8 (w_M_lay 93 11 89 11 q7 _ hq9) (by intro a ha; simp only [W_M_town, W_M_lay, List.mem_cons, List.not_mem_nil, or_false, not_or] at ha ⊢; omega)
    obtain ⟨q11, hq11, hf⟩ := gbind hf
    have hF12 : Fr (W_M_town) s0 q11 := Fr.c hF10 (w_M_refresh q9 _ hq11) (by intro a ha; simp only [W_M_town, W_M_refresh, List.mem_cons, List.not_mem_nil, or_false, not_or] at ha ⊢; omega)
    obtain ⟨q13, hq13, hf⟩ := gbind hf
    by_cases c14 : q13 = 0
    · have hf := gift c14 hf
      obtain ⟨q24, hq24, hf⟩ := gbind hf
      have hF25 : Fr (W_M_town) s0 q24 := Fr.c hF12 (w_M_fails 6 x2 q11 _ hq24) (by intro a ha; simp only [W_M_town, W_M_fails, List.mem_cons, List.not_mem_nil, or_false, not_or] at ha ⊢; omega)
      obtain ⟨t26, hg27, rfl⟩ := gmap hf
      exact w_M_town_98 s0 q24 hF25 _ hg27
    · have hf := giff c14 hf
      obtain ⟨q15, hq15, hf⟩ := gbind hf
      have hF16 : Fr (W_M_town) s0 q15.2 := Fr.c hF12 (w_M_canBeDrawn q11 _ hq15) (by intro a ha; simp only [W_M_town, W_M_canBeDrawn, List.mem_cons, List.not_mem_nil, or_false, not_or] at ha ⊢; omega)
      by_cases c17 : q15.1 = 0
      · have hf := gift c17 hf
        obtain ⟨q20, hq20, hf⟩ := gbind hf
        have hF21 : Fr (W_M_town) s0 q20 := Fr.c hF16 (w_M_fails 7 x2 q15.2 _ hq20) (by intro a ha; simp only [W_M_town, W_M_fails, List.mem_cons, List.not_mem_nil, or_false, not_or] at ha ⊢; omega)
        obtain ⟨t22, hg23, rfl⟩ := gmap hf
        exact w_M_town_98 s0 q20 hF21 _ hg23
      · have hf := giff c17 hf
        obtain ⟨t18, hg19, rfl⟩ := gmap hf
        exact w_M_town_98 s0 q15.2 hF16 _ hg19
  · have hf := giff c1 hf
    obtain ⟨j28, i29, hf⟩ := gbI hf
    obtain ⟨j30, i31, hf⟩ := gbI hf
    obtain ⟨s32, ee33, hf⟩ := gbL hf
    have hF34 : Fr (W_M_town) s0 s32 := by rw [ee33]; exact Fr.u h0 (by simp [W_M_town])
    cases hf
    exact hF34
theorem w_M_town_48 (x2 : Int) (x3 : Int) (s0 s : kM) (h0 : Fr (W_M_town) s0 s) (t : Int × kM) (hf : f_M_town_48 x2 x3 s = some t) : (fun r => Fr (W_M_town) s0 r.2) t :=
  gL_fr (P := fun (x : Int × kM) => Fr (W_M_town) s0 x.2) (q := (fun r => Fr (W_M_town) s0 r.2)) (fun x t hf h0 => w_M_town_48b x2 x.1 s0 x.2 h0 t hf) gF (x3, s) t hf h0
theorem w_M_town_22b (x1 : Int) (s0 s : kM) (h0 : Fr (W_M_town) s0 s) (t : (Int × kM) ⊕ (Int × kM)) (hf : f_M_town_22b x1 s = some t) : (gE (fun x => Fr (W_M_town) s0 x.2) (fun r => Fr (W_M_town) s0 r.2)) t := by
  unfold f_M_town_22b at hf
  by_cases c1 : x1 = 0
  · have hf := gift c1 hf
    obtain ⟨s2, ee3, hf⟩ := gbL hf
    have hF4 : Fr (W_M_town) s0 s2 := by rw [ee3]; exact Fr.u h0 (by simp [W_M_town])
    by_cases c5 : (s2 85 23) ≤ 0
    · have hf := gift c5 hf
      obtain ⟨q6, hq6, hf⟩ := gbind hf
      have hF7 : Fr (W_M_town) s0 q6 := Fr.c hF4 (w_M_keeps s2 _ hq6) (by intro a ha; simp only [W_M_town, W_M_keeps, List.mem_cons, List.not_mem_nil, or_false, not_or] at ha ⊢; omega)
      obtain ⟨t8, hg9, rfl⟩ := gmap hf
      exact w_M_town_48 (s 85 21) 0 s0 q6 hF7 _ hg9
    · have hf := giff c5 hf
      cases hf
      exact hF4
  · have hf := giff c1 hf
    obtain ⟨q10, hq10, hf⟩ := gbind hf
    have hF11 : Fr (W_M_town) s0 q10 := Fr.c h0 (w_M_road s _ hq10) (by intro a ha; simp only [W_M_town, W_M_road, List.mem_cons, List.not_mem_nil, or_false, not_or] at ha ⊢; omega)
    obtain ⟨q12, hq12, hf⟩ := gbind hf
    have hF13 : Fr (W_M_town) s0 q12.2 := Fr.c hF11 (w_M_goesOn q10 _ hq12) (by intro a ha; simp only [W_M_town, W_M_goesOn, List.mem_cons, List.not_mem_nil, or_false, not_or] at ha ⊢; omega)
    cases hf
    exact hF13
theorem w_M_town_22 (x1 : Int) (s0 s : kM) (h0 : Fr (W_M_town) s0 s) (t : Int × kM) (hf : f_M_town_22 x1 s = some t) : (fun r => Fr (W_M_town) s0 r.2) t :=
  gL_fr (P := fun (x : Int × kM) => Fr (W_M_town) s0 x.2) (q := (fun r => Fr (W_M_town) s0 r.2)) (fun x t hf h0 => w_M_town_22b x.1 s0 x.2 h0 t hf) gF (x1, s) t hf h0
theorem w_M_town_10b (x1 : Int) (s0 s : kM) (h0 : Fr (W_M_town) s0 s) (t : (Int × kM) ⊕ (Int × kM)) (hf : f_M_town_10b x1 s = some t) : (gE (fun x => Fr (W_M_town) s0 x.2) (fun r => Fr (W_M_town) s0 r.2)) t := by
  unfold f_M_town_10b at hf
  by_cases c1 : 3 ≤ x1
  · have hf := gift c1 hf
    obtain ⟨t2, hg3, rfl⟩ := gmap hf
    exact w_M_town_22 1 s0 s h0 _ hg3
  · have hf := giff c1 hf
    obtain ⟨j4, i5, hf⟩ := gbI hf
    obtain ⟨s6, ee7, hf⟩ := gbL hf
    have hF8 : Fr (W_M_town) s0 s6 := by rw [ee7]; exact Fr.u h0 (by simp [W_M_town])
    cases hf
    exact hF8
theorem w_M_town_10 (x1 : Int) (s0 s : kM) (h0 : Fr (W_M_town) s0 s) (t : Int × kM) (hf : f_M_town_10 x1 s = some t) : (fun r => Fr (W_M_town) s0 r.2) t :=
  gL_fr (P := fun (x : Int × kM) => Fr (W_M_town) s0 x.2) (q := (fun r => Fr (W_M_town) s0 r.2)) (fun x t hf h0 => w_M_town_10b x.1 s0 x.2 h0 t hf) gF (x1, s) t hf h0
theorem w_M_town (s : kM) (t : Int × kM) (hf : f_M_town s = some t) : Fr (W_M_town) s t.2 := by
  unfold f_M_town at hf
  have h0 : Fr (W_M_town) s s := Fr.r
  obtain ⟨q1, hq1, hf⟩ := gbind hf
  have hF2 : Fr (W_M_town) s q1 := Fr.c h0 (w_M_starts s _ hq1) (by intro a ha; simp only [W_M_town, W_M_starts, List.mem_cons, List.not_mem_nil, or_false, not_or] at ha ⊢; omega)
  obtain ⟨s3, ee4, hf⟩ := gbL hf
  have hF5 : Fr (W_M_town) s s3 := by rw [ee4]; exact Fr.u hF2 (by simp [W_M_town])
  obtain ⟨s6, ee7, hf⟩ := gbL hf
  have hF8 : Fr (W_M_town) s s6 := by rw [ee7]; exact Fr.u hF5 (by simp [W_M_town])
  exact w_M_town_10 0 s s6 hF8 _ hf
def W_M_opens : List Nat := [85, 111]
theorem w_M_opens_21 (x1 : Int) (s0 s : kM) (h0 : Fr (W_M_opens) s0 s) (t : kM) (hf : f_M_opens_21 x1 s = some t) : (fun r => Fr (W_M_opens) s0 r) t := by
  unfold f_M_opens_21 at hf
  obtain ⟨j1, i2, hf⟩ := gbI hf
  obtain ⟨s3, ee4, hf⟩ := gbL hf
  have hF5 : Fr (W_M_opens) s0 s3 := by rw [ee4]; exact Fr.u h0 (by simp [W_M_opens])
  obtain ⟨s6, ee7, hf⟩ := gbL hf
  have hF8 : Fr (W_M_opens) s0 s6 := by rw [ee7]; exact Fr.u hF5 (by simp [W_M_opens])
  cases hf
  exact hF8
theorem w_M_opens_15 (x1 : Int) (s0 s : kM) (h0 : Fr (W_M_opens) s0 s) (t : kM) (hf : f_M_opens_15 x1 s = some t) : (fun r => Fr (W_M_opens) s0 r) t := by
  unfold f_M_opens_15 at hf
  obtain ⟨s1, ee2, hf⟩ := gbL hf
  have hF3 : Fr (W_M_opens) s0 s1 := by rw [ee2]; exact Fr.u h0 (by simp [W_M_opens])
  exact w_M_opens_21 x1 s0 s1 hF3 _ hf
theorem w_M_opens_6 (x1 : Int) (s0 s : kM) (h0 : Fr (W_M_opens) s0 s) (t : kM) (hf : f_M_opens_6 x1 s = some t) : (fun r => Fr (W_M_opens) s0 r) t := by
  unfold f_M_opens_6 at hf
  by_cases c1 : (s 85 27) = 10
  · have hf := gift c1 hf
    obtain ⟨q2, hq2, hf⟩ := gbind hf
    have hF3 : Fr (W_M_opens) s0 q2 := Fr.c h0 (w_M_fails 2 (s 85 22) s _ hq2) (by intro a ha; simp only [W_M_opens, W_M_fails, List.mem_cons, List.not_mem_nil, or_false, not_or] at ha ⊢; omega)
    exact w_M_opens_15 x1 s0 q2 hF3 _ hf
  · have hf := giff c1 hf
    exact w_M_opens_15 x1 s0 s h0 _ hf
theorem w_M_opens (x1 : Int) (s : kM) (t : kM) (hf : f_M_opens x1 s = some t) : Fr (W_M_opens) s t := by
  unfold f_M_opens at hf
  have h0 : Fr (W_M_opens) s s := Fr.r
  by_cases c1 : x1 = 9
  · have hf := gift c1 hf
    exact w_M_opens_6 x1 s s h0 _ hf
  · have hf := giff c1 hf
    by_cases c2 : x1 = 12
    · have hf := gift c2 hf
      exact w_M_opens_6 x1 s s h0 _ hf
    · have hf := giff c2 hf
      exact w_M_opens_21 x1 s s h0 _ hf
def W_M_isCounted : List Nat := [85]
theorem w_M_isCounted_8 (s0 s : kM) (h0 : Fr (W_M_isCounted) s0 s) (t : kM) (hf : f_M_isCounted_8 s = some t) : (fun r => Fr (W_M_isCounted) s0 r) t := by
  unfold f_M_isCounted_8 at hf
  obtain ⟨s1, ee2, hf⟩ := gbL hf
  have hF3 : Fr (W_M_isCounted) s0 s1 := by rw [ee2]; exact Fr.u h0 (by simp [W_M_isCounted])
  cases hf
  exact hF3
theorem w_M_isCounted (x1 : Int) (s : kM) (t : kM) (hf : f_M_isCounted x1 s = some t) : Fr (W_M_isCounted) s t := by
  unfold f_M_isCounted at hf
  have h0 : Fr (W_M_isCounted) s s := Fr.r
  by_cases c1 : (s 85 28) = 60
  · have hf := gift c1 hf
    obtain ⟨q2, hq2, hf⟩ := gbind hf
    have hF3 : Fr (W_M_isCounted) s q2 := Fr.c h0 (w_M_fails 3 x1 s _ hq2) (by intro a ha; simp only [W_M_isCounted, W_M_fails, List.mem_cons, List.not_mem_nil, or_false, not_or] at ha ⊢; omega)
    exact w_M_isCounted_8 s q2 hF3 _ hf
  · have hf := giff c1 hf
    exact w_M_isCounted_8 s s h0 _ hf
def W_M_entry : List Nat := [85, 106, 107]
theorem w_M_entry (x1 : Int) (x2 : Int) (s : kM) (t : kM) (hf : f_M_entry x1 x2 s = some t) : Fr (W_M_entry) s t := by
  unfold f_M_entry at hf
  have h0 : Fr (W_M_entry) s s := Fr.r
  by_cases c1 : (s 85 23) = 0
  · have hf := gift c1 hf
    obtain ⟨j2, i3, hf⟩ := gbI hf
    obtain ⟨s4, ee5, hf⟩ := gbL hf
    have hF6 : Fr (W_M_entry) s s4 := by rw [ee5]; exact Fr.u h0 (by simp [W_M_entry])
    obtain ⟨j7, i8, hf⟩ := gbI hf
    obtain ⟨s9, ee10, hf⟩ := gbL hf
    have hF11 : Fr (W_M_entry) s s9 := by rw [ee10]; exact Fr.u hF6 (by simp [W_M_entry])
    obtain ⟨s12, ee13, hf⟩ := gbL hf
    have hF14 : Fr (W_M_entry) s s12 := by rw [ee13]; exact Fr.u hF11 (by simp [W_M_entry])
    cases hf
    exact hF14
  · have hf := giff c1 hf
    cases hf
    exact h0
def W_M_value : List Nat := [85, 106, 107]
theorem w_M_value_33 (x1 : Int) (x2 : Int) (s0 s : kM) (h0 : Fr (W_M_value) s0 s) (t : kM) (hf : f_M_value_33 x1 x2 s = some t) : (fun r => Fr (W_M_value) s0 r) t := by
  unfold f_M_value_33 at hf
  by_cases c1 : x2 = (s 85 30)
  · have hf := gift c1 hf
    obtain ⟨q11, hq11, hf⟩ := gbind hf
    have hF12 : Fr (W_M_value) s0 q11 := Fr.c h0 (w_M_fails 0 x1 s _ hq11) (by intro a ha; simp only [W_M_value, W_M_fails, List.mem_cons, List.not_mem_nil, or_false, not_or] at ha ⊢; omega)
    cases hf
    exact hF12
  · have hf := giff c1 hf
    obtain ⟨q2, hq2, hf⟩ := gbind hf
    have hF3 : Fr (W_M_value) s0 q2 := Fr.c h0 (w_M_isCounted x1 s _ hq2) (by intro a ha; simp only [W_M_value, W_M_isCounted, List.mem_cons, List.not_mem_nil, or_false, not_or] at ha ⊢; omega)
    obtain ⟨q4, hq4, hf⟩ := gbind hf
    obtain ⟨z5, hf⟩ := gbJ hf
    obtain ⟨s6, ee7, hf⟩ := gbL hf
    have hF8 : Fr (W_M_value) s0 s6 := by rw [ee7]; exact Fr.u hF3 (by simp [W_M_value])
    obtain ⟨q9, hq9, hf⟩ := gbind hf
    have hF10 : Fr (W_M_value) s0 q9 := Fr.c hF8 (w_M_entry 1 x2 s6 _ hq9) (by intro a ha; simp only [W_M_value, W_M_entry, List.mem_cons, List.not_mem_nil, or_false, not_or] at ha ⊢; omega)
    cases hf
    exact hF10
theorem w_M_value_22b (x1 : Int) (x2 : Int) (s0 s : kM) (h0 : Fr (W_M_value) s0 s) (t : (Int) ⊕ (kM)) (hf : f_M_value_22b x1 x2 s = some t) : (gE (fun x => Fr (W_M_value) s0 s) (fun r => Fr (W_M_value) s0 r)) t := by
  unfold f_M_value_22b at hf
  by_cases c1 : (s 85 30) ≤ x2
  · have hf := gift c1 hf
    obtain ⟨t2, hg3, rfl⟩ := gmap hf
    exact w_M_value_33 x1 x2 s0 s h0 _ hg3
  · have hf := giff c1 hf
    obtain ⟨q4, hq4, hf⟩ := gbind hf
    obtain ⟨q5, hq5, hf⟩ := gbind hf
    by_cases c6 : q5 = 0
    · have hf := gift c6 hf
      cases hf
      exact h0
    · have hf := giff c6 hf
      obtain ⟨t7, hg8, rfl⟩ := gmap hf
      exact w_M_value_33 x1 x2 s0 s h0 _ hg8
theorem w_M_value_22 (x1 : Int) (x2 : Int) (s0 s : kM) (h0 : Fr (W_M_value) s0 s) (t : kM) (hf : f_M_value_22 x1 x2 s = some t) : (fun r => Fr (W_M_value) s0 r) t :=
  gL_fr (P := fun (x : Int) => Fr (W_M_value) s0 s) (q := (fun r => Fr (W_M_value) s0 r)) (fun x t hf h0 => w_M_value_22b x1 x s0 s h0 t hf) gF (x2) t hf h0
theorem w_M_value (s : kM) (t : kM) (hf : f_M_value s = some t) : Fr (W_M_value) s t := by
  unfold f_M_value at hf
  have h0 : Fr (W_M_value) s s := Fr.r
  obtain ⟨q1, hq1, hf⟩ := gbind hf
  have hF2 : Fr (W_M_value) s q1 := Fr.c h0 (w_M_blanks s _ hq1) (by intro a ha; simp only [W_M_value, W_M_blanks, List.mem_cons, List.not_mem_nil, or_false, not_or] at ha ⊢; omega)
  obtain ⟨q3, hq3, hf⟩ := gbind hf
  by_cases c4 : q3 = 0
  · have hf := gift c4 hf
    exact w_M_value_22 (q1 85 22) 0 s q1 hF2 _ hf
  · have hf := giff c4 hf
    obtain ⟨q5, hq5, hf⟩ := gbind hf
    have hF6 : Fr (W_M_value) s q5.2 := Fr.c hF2 (w_M_digits 99999 q1 _ hq5) (by intro a ha; simp only [W_M_value, W_M_digits, List.mem_cons, List.not_mem_nil, or_false, not_or] at ha ⊢; omega)
    obtain ⟨q7, hq7, hf⟩ := gbind hf
    have hF8 : Fr (W_M_value) s q7 := Fr.c hF6 (w_M_isCounted (q1 85 22) q5.2 _ hq7) (by intro a ha; simp only [W_M_value, W_M_isCounted, List.mem_cons, List.not_mem_nil, or_false, not_or] at ha ⊢; omega)
    obtain ⟨q9, hq9, hf⟩ := gbind hf
    have hF10 : Fr (W_M_value) s q9 := Fr.c hF8 (w_M_entry 0 q5.1 q7 _ hq9) (by intro a ha; simp only [W_M_value, W_M_entry, List.mem_cons, List.not_mem_nil, or_false, not_or] at ha ⊢; omega)
    cases hf
    exact hF10
def W_M_term : List Nat := [85, 106, 107]
theorem w_M_term_32 (y0 : Int) (s0 s : kM) (h0 : Fr (W_M_term) s0 s) (t : (kM) ⊕ (kM)) (hf : f_M_term_32 y0 s = some t) : (gE (fun x => Fr (W_M_term) s0 x) (fun r => Fr (W_M_term) s0 r)) t := by
  unfold f_M_term_32 at hf
  obtain ⟨s1, ee2, hf⟩ := gbL hf
  have hF3 : Fr (W_M_term) s0 s1 := by rw [ee2]; exact Fr.u h0 (by simp [W_M_term])
  obtain ⟨q4, hq4, hf⟩ := gbind hf
  have hF5 : Fr (W_M_term) s0 q4 := Fr.c hF3 (w_M_value s1 _ hq4) (by intro a ha; simp only [W_M_term, W_M_value, List.mem_cons, List.not_mem_nil, or_false, not_or] at ha ⊢; omega)
  obtain ⟨q6, hq6, hf⟩ := gbind hf
  have hF7 : Fr (W_M_term) s0 q6 := Fr.c hF5 (w_M_entry y0 0 q4 _ hq6) (by intro a ha; simp only [W_M_term, W_M_entry, List.mem_cons, List.not_mem_nil, or_false, not_or] at ha ⊢; omega)
  obtain ⟨q8, hq8, hf⟩ := gbind hf
  have hF9 : Fr (W_M_term) s0 q8 := Fr.c hF7 (w_M_blanks q6 _ hq8) (by intro a ha; simp only [W_M_term, W_M_blanks, List.mem_cons, List.not_mem_nil, or_false, not_or] at ha ⊢; omega)
  cases hf
  exact hF9
theorem w_M_term_19 (s0 s : kM) (h0 : Fr (W_M_term) s0 s) (t : (kM) ⊕ (kM)) (hf : f_M_term_19 s = some t) : (gE (fun x => Fr (W_M_term) s0 x) (fun r => Fr (W_M_term) s0 r)) t := by
  unfold f_M_term_19 at hf
  obtain ⟨q1, hq1, hf⟩ := gbind hf
  by_cases c2 : q1 = 42
  · have hf := gift c2 hf
    exact w_M_term_32 13 s0 s h0 _ hf
  · have hf := giff c2 hf
    obtain ⟨q3, hq3, hf⟩ := gbind hf
    by_cases c4 : q3 = 47
    · have hf := gift c4 hf
      exact w_M_term_32 14 s0 s h0 _ hf
    · have hf := giff c4 hf
      exact w_M_term_32 15 s0 s h0 _ hf
theorem w_M_term_4b (s0 s : kM) (h0 : Fr (W_M_term) s0 s) (t : (kM) ⊕ (kM)) (hf : f_M_term_4b s = some t) : (gE (fun x => Fr (W_M_term) s0 x) (fun r => Fr (W_M_term) s0 r)) t := by
  unfold f_M_term_4b at hf
  by_cases c1 : (s 85 23) = 0
  · have hf := gift c1 hf
    obtain ⟨q2, hq2, hf⟩ := gbind hf
    by_cases c3 : q2 = 42
    · have hf := gift c3 hf
      exact w_M_term_19 s0 s h0 _ hf
    · have hf := giff c3 hf
      obtain ⟨q4, hq4, hf⟩ := gbind hf
      by_cases c5 : q4 = 47
      · have hf := gift c5 hf
        exact w_M_term_19 s0 s h0 _ hf
      · have hf := giff c5 hf
        obtain ⟨q6, hq6, hf⟩ := gbind hf
        by_cases c7 : q6 = 37
        · have hf := gift c7 hf
          exact w_M_term_19 s0 s h0 _ hf
        · have hf := giff c7 hf
          cases hf
          exact h0
  · have hf := giff c1 hf
    cases hf
    exact h0
theorem w_M_term_4 (s0 s : kM) (h0 : Fr (W_M_term) s0 s) (t : kM) (hf : f_M_term_4 s = some t) : (fun r => Fr (W_M_term) s0 r) t :=
  gL_fr (P := fun (x : kM) => Fr (W_M_term) s0 x) (q := (fun r => Fr (W_M_term) s0 r)) (fun x t hf h0 => w_M_term_4b s0 x h0 t hf) gF (s) t hf h0
theorem w_M_term (s : kM) (t : kM) (hf : f_M_term s = some t) : Fr (W_M_term) s t := by
  unfold f_M_term at hf
  have h0 : Fr (W_M_term) s s := Fr.r
  obtain ⟨q1, hq1, hf⟩ := gbind hf
  have hF2 : Fr (W_M_term) s q1 := Fr.c h0 (w_M_value s _ hq1) (by intro a ha; simp only [W_M_term, W_M_value, List.mem_cons, List.not_mem_nil, or_false, not_or] at ha ⊢; omega)
  obtain ⟨q3, hq3, hf⟩ := gbind hf
  have hF4 : Fr (W_M_term) s q3 := Fr.c hF2 (w_M_blanks q1 _ hq3) (by intro a ha; simp only [W_M_term, W_M_blanks, List.mem_cons, List.not_mem_nil, or_false, not_or] at ha ⊢; omega)
  exact w_M_term_4 s q3 hF4 _ hf
def W_M_sum : List Nat := [85, 106, 107]
theorem w_M_sum_20 (y0 : Int) (s0 s : kM) (h0 : Fr (W_M_sum) s0 s) (t : (kM) ⊕ (kM)) (hf : f_M_sum_20 y0 s = some t) : (gE (fun x => Fr (W_M_sum) s0 x) (fun r => Fr (W_M_sum) s0 r)) t := by
  unfold f_M_sum_20 at hf
  obtain ⟨s1, ee2, hf⟩ := gbL hf
  have hF3 : Fr (W_M_sum) s0 s1 := by rw [ee2]; exact Fr.u h0 (by simp [W_M_sum])
  obtain ⟨q4, hq4, hf⟩ := gbind hf
  have hF5 : Fr (W_M_sum) s0 q4 := Fr.c hF3 (w_M_term s1 _ hq4) (by intro a ha; simp only [W_M_sum, W_M_term, List.mem_cons, List.not_mem_nil, or_false, not_or] at ha ⊢; omega)
  obtain ⟨q6, hq6, hf⟩ := gbind hf
  have hF7 : Fr (W_M_sum) s0 q6 := Fr.c hF5 (w_M_entry y0 0 q4 _ hq6) (by intro a ha; simp only [W_M_sum, W_M_entry, List.mem_cons, List.not_mem_nil, or_false, not_or] at ha ⊢; omega)
  cases hf
  exact hF7
theorem w_M_sum_13 (s0 s : kM) (h0 : Fr (W_M_sum) s0 s) (t : (kM) ⊕ (kM)) (hf : f_M_sum_13 s = some t) : (gE (fun x => Fr (W_M_sum) s0 x) (fun r => Fr (W_M_sum) s0 r)) t := by
  unfold f_M_sum_13 at hf
  obtain ⟨q1, hq1, hf⟩ := gbind hf
  by_cases c2 : q1 = 43
  · have hf := gift c2 hf
    exact w_M_sum_20 2 s0 s h0 _ hf
  · have hf := giff c2 hf
    exact w_M_sum_20 3 s0 s h0 _ hf
theorem w_M_sum_2b (s0 s : kM) (h0 : Fr (W_M_sum) s0 s) (t : (kM) ⊕ (kM)) (hf : f_M_sum_2b s = some t) : (gE (fun x => Fr (W_M_sum) s0 x) (fun r => Fr (W_M_sum) s0 r)) t := by
  unfold f_M_sum_2b at hf
  by_cases c1 : (s 85 23) = 0
  · have hf := gift c1 hf
    obtain ⟨q2, hq2, hf⟩ := gbind hf
    by_cases c3 : q2 = 43
    · have hf := gift c3 hf
      exact w_M_sum_13 s0 s h0 _ hf
    · have hf := giff c3 hf
      obtain ⟨q4, hq4, hf⟩ := gbind hf
      by_cases c5 : q4 = 45
      · have hf := gift c5 hf
        exact w_M_sum_13 s0 s h0 _ hf
      · have hf := giff c5 hf
        cases hf
        exact h0
  · have hf := giff c1 hf
    cases hf
    exact h0
theorem w_M_sum_2 (s0 s : kM) (h0 : Fr (W_M_sum) s0 s) (t : kM) (hf : f_M_sum_2 s = some t) : (fun r => Fr (W_M_sum) s0 r) t :=
  gL_fr (P := fun (x : kM) => Fr (W_M_sum) s0 x) (q := (fun r => Fr (W_M_sum) s0 r)) (fun x t hf h0 => w_M_sum_2b s0 x h0 t hf) gF (s) t hf h0
theorem w_M_sum (s : kM) (t : kM) (hf : f_M_sum s = some t) : Fr (W_M_sum) s t := by
  unfold f_M_sum at hf
  have h0 : Fr (W_M_sum) s s := Fr.r
  obtain ⟨q1, hq1, hf⟩ := gbind hf
  have hF2 : Fr (W_M_sum) s q1 := Fr.c h0 (w_M_term s _ hq1) (by intro a ha; simp only [W_M_sum, W_M_term, List.mem_cons, List.not_mem_nil, or_false, not_or] at ha ⊢; omega)
  exact w_M_sum_2 s q1 hF2 _ hf
def W_M_compared : List Nat := [85, 106, 107]
theorem w_M_compared_73 (y1 : Int) (s0 s : kM) (h0 : Fr (W_M_compared) s0 s) (t : kM) (hf : f_M_compared_73 y1 s = some t) : (fun r => Fr (W_M_compared) s0 r) t := by
  unfold f_M_compared_73 at hf
  obtain ⟨q1, hq1, hf⟩ := gbind hf
  have hF2 : Fr (W_M_compared) s0 q1 := Fr.c h0 (w_M_entry y1 0 s _ hq1) (by intro a ha; simp only [W_M_compared, W_M_entry, List.mem_cons, List.not_mem_nil, or_false, not_or] at ha ⊢; omega)
  cases hf
  exact hF2
theorem w_M_compared_49 (x1 : Int) (x2 : Int) (y1 : Int) (y2 : Int) (s0 s : kM) (h0 : Fr (W_M_compared) s0 s) (t : kM) (hf : f_M_compared_49 x1 x2 y1 y2 s = some t) : (fun r => Fr (W_M_compared) s0 r) t := by
  unfold f_M_compared_49 at hf
  obtain ⟨s1, ee2, hf⟩ := gbL hf
  have hF3 : Fr (W_M_compared) s0 s1 := by rw [ee2]; exact Fr.u h0 (by simp [W_M_compared])
  obtain ⟨q4, hq4, hf⟩ := gbind hf
  have hF5 : Fr (W_M_compared) s0 q4 := Fr.c hF3 (w_M_sum s1 _ hq4) (by intro a ha; simp only [W_M_compared, W_M_sum, List.mem_cons, List.not_mem_nil, or_false, not_or] at ha ⊢; omega)
  by_cases c6 : x1 = 61
  · have hf := gift c6 hf
    exact w_M_compared_73 6 s0 q4 hF5 _ hf
  · have hf := giff c6 hf
    by_cases c7 : x1 = 60
    · have hf := gift c7 hf
      by_cases c9 : x2 = 0
      · have hf := gift c9 hf
        exact w_M_compared_73 4 s0 q4 hF5 _ hf
      · have hf := giff c9 hf
        exact w_M_compared_73 5 s0 q4 hF5 _ hf
    · have hf := giff c7 hf
      by_cases c8 : x2 = 0
      · have hf := gift c8 hf
        exact w_M_compared_73 8 s0 q4 hF5 _ hf
      · have hf := giff c8 hf
        exact w_M_compared_73 7 s0 q4 hF5 _ hf
theorem w_M_compared_40 (x1 : Int) (y0 : Int) (s0 s : kM) (h0 : Fr (W_M_compared) s0 s) (t : kM) (hf : f_M_compared_40 x1 y0 s = some t) : (fun r => Fr (W_M_compared) s0 r) t := by
  unfold f_M_compared_40 at hf
  by_cases c1 : y0 = 0
  · have hf := gift c1 hf
    exact w_M_compared_49 x1 y0 (s 85 22) 0 s0 s h0 _ hf
  · have hf := giff c1 hf
    exact w_M_compared_49 x1 y0 (s 85 22) 1 s0 s h0 _ hf
theorem w_M_compared_39 (x1 : Int) (s0 s : kM) (h0 : Fr (W_M_compared) s0 s) (t : kM) (hf : f_M_compared_39 x1 s = some t) : (fun r => Fr (W_M_compared) s0 r) t := by
  unfold f_M_compared_39 at hf
  exact w_M_compared_40 x1 0 s0 s h0 _ hf
theorem w_M_compared_20 (x1 : Int) (s0 s : kM) (h0 : Fr (W_M_compared) s0 s) (t : kM) (hf : f_M_compared_20 x1 s = some t) : (fun r => Fr (W_M_compared) s0 r) t := by
  unfold f_M_compared_20 at hf
  obtain ⟨q1, hq1, hf⟩ := gbind hf
  have hF2 : Fr (W_M_compared) s0 q1 := Fr.c h0 (w_M_isCounted (s 85 22) s _ hq1) (by intro a ha; simp only [W_M_compared, W_M_isCounted, List.mem_cons, List.not_mem_nil, or_false, not_or] at ha ⊢; omega)
  obtain ⟨s3, ee4, hf⟩ := gbL hf
  have hF5 : Fr (W_M_compared) s0 s3 := by rw [ee4]; exact Fr.u hF2 (by simp [W_M_compared])
  by_cases c6 : x1 = 61
  · have hf := gift c6 hf
    exact w_M_compared_39 x1 s0 s3 hF5 _ hf
  · have hf := giff c6 hf
    obtain ⟨q7, hq7, hf⟩ := gbind hf
    by_cases c8 : q7 = 61
    · have hf := gift c8 hf
      exact w_M_compared_40 x1 1 s0 s3 hF5 _ hf
    · have hf := giff c8 hf
      exact w_M_compared_39 x1 s0 s3 hF5 _ hf
theorem w_M_compared (s : kM) (t : kM) (hf : f_M_compared s = some t) : Fr (W_M_compared) s t := by
  unfold f_M_compared at hf
  have h0 : Fr (W_M_compared) s s := Fr.r
  obtain ⟨q1, hq1, hf⟩ := gbind hf
  have hF2 : Fr (W_M_compared) s q1 := Fr.c h0 (w_M_sum s _ hq1) (by intro a ha; simp only [W_M_compared, W_M_sum, List.mem_cons, List.not_mem_nil, or_false, not_or] at ha ⊢; omega)
  obtain ⟨q3, hq3, hf⟩ := gbind hf
  by_cases c4 : q3 = 60
  · have hf := gift c4 hf
    exact w_M_compared_20 q3 s q1 hF2 _ hf
  · have hf := giff c4 hf
    by_cases c5 : q3 = 61
    · have hf := gift c5 hf
      exact w_M_compared_20 q3 s q1 hF2 _ hf
    · have hf := giff c5 hf
      by_cases c6 : q3 = 62
      · have hf := gift c6 hf
        exact w_M_compared_20 q3 s q1 hF2 _ hf
      · have hf := giff c6 hf
        obtain ⟨q7, hq7, hf⟩ := gbind hf
        have hF8 : Fr (W_M_compared) s q7 := Fr.c hF2 (w_M_fails 0 (q1 85 22) q1 _ hq7) (by intro a ha; simp only [W_M_compared, W_M_fails, List.mem_cons, List.not_mem_nil, or_false, not_or] at ha ⊢; omega)
        cases hf
        exact hF8
def W_M_fact : List Nat := [85, 106, 107, 111]
theorem w_M_fact (s : kM) (t : Int × kM) (hf : f_M_fact s = some t) : Fr (W_M_fact) s t.2 := by
  unfold f_M_fact at hf
  have h0 : Fr (W_M_fact) s s := Fr.r
  obtain ⟨q1, hq1, hf⟩ := gbind hf
  have hF2 : Fr (W_M_fact) s q1 := Fr.c h0 (w_M_blanks s _ hq1) (by intro a ha; simp only [W_M_fact, W_M_blanks, List.mem_cons, List.not_mem_nil, or_false, not_or] at ha ⊢; omega)
  obtain ⟨q3, hq3, hf⟩ := gbind hf
  by_cases c4 : q3 = 0
  · have hf := gift c4 hf
    obtain ⟨q5, hq5, hf⟩ := gbind hf
    by_cases c6 : q5 = 91
    · have hf := gift c6 hf
      obtain ⟨q9, hq9, hf⟩ := gbind hf
      have hF10 : Fr (W_M_fact) s q9 := Fr.c hF2 (w_M_opens 12 q1 _ hq9) (by intro a ha; simp only [W_M_fact, W_M_opens, List.mem_cons, List.not_mem_nil, or_false, not_or] at ha ⊢; omega)
      obtain ⟨s11, ee12, hf⟩ := gbL hf
      have hF13 : Fr (W_M_fact) s s11 := by rw [ee12]; exact Fr.u hF10 (by simp [W_M_fact])
      cases hf
      exact hF13
    · have hf := giff c6 hf
      obtain ⟨q7, hq7, hf⟩ := gbind hf
      have hF8 : Fr (W_M_fact) s q7 := Fr.c hF2 (w_M_compared q1 _ hq7) (by intro a ha; simp only [W_M_fact, W_M_compared, List.mem_cons, List.not_mem_nil, or_false, not_or] at ha ⊢; omega)
      cases hf
      exact hF8
  · have hf := giff c4 hf
    obtain ⟨q14, hq14, hf⟩ := gbind hf
    have hF15 : Fr (W_M_fact) s q14 := Fr.c hF2 (w_M_opens 9 q1 _ hq14) (by intro a ha; simp only [W_M_fact, W_M_opens, List.mem_cons, List.not_mem_nil, or_false, not_or] at ha ⊢; omega)
    obtain ⟨s16, ee17, hf⟩ := gbL hf
    have hF18 : Fr (W_M_fact) s s16 := by rw [ee17]; exact Fr.u hF15 (by simp [W_M_fact])
    cases hf
    exact hF18
def W_M_answers : List Nat := [85, 106, 107]
theorem w_M_answers_26 (x1 : Int) (y1 : Int) (y2 : Int) (s0 s : kM) (h0 : Fr (W_M_answers) s0 s) (t : (kM) ⊕ (kM)) (hf : f_M_answers_26 x1 y1 y2 s = some t) : (gE (fun x => Fr (W_M_answers) s0 x) (fun r => Fr (W_M_answers) s0 r)) t := by
  unfold f_M_answers_26 at hf
  obtain ⟨s1, ee2, hf⟩ := gbL hf
  have hF3 : Fr (W_M_answers) s0 s1 := by rw [ee2]; exact Fr.u h0 (by simp [W_M_answers])
  cases hf
  exact hF3
theorem w_M_answers_0b (x1 : Int) (s0 s : kM) (h0 : Fr (W_M_answers) s0 s) (t : (kM) ⊕ (kM)) (hf : f_M_answers_0b x1 s = some t) : (gE (fun x => Fr (W_M_answers) s0 x) (fun r => Fr (W_M_answers) s0 r)) t := by
  unfold f_M_answers_0b at hf
  obtain ⟨q1, hq1, hf⟩ := gbind hf
  by_cases c2 : q1 = x1
  · have hf := gift c2 hf
    by_cases c3 : (s 85 23) = 0
    · have hf := gift c3 hf
      obtain ⟨q4, hq4, hf⟩ := gbind hf
      have hF5 : Fr (W_M_answers) s0 q4 := Fr.c h0 (w_M_entry x1 0 s _ hq4) (by intro a ha; simp only [W_M_answers, W_M_entry, List.mem_cons, List.not_mem_nil, or_false, not_or] at ha ⊢; omega)
      obtain ⟨s6, ee7, hf⟩ := gbL hf
      have hF8 : Fr (W_M_answers) s0 s6 := by rw [ee7]; exact Fr.u hF5 (by simp [W_M_answers])
      by_cases c9 : x1 = 9
      · have hf := gift c9 hf
        exact w_M_answers_26 x1 (s6 85 27) 1 s0 s6 hF8 _ hf
      · have hf := giff c9 hf
        exact w_M_answers_26 x1 (s6 85 27) 0 s0 s6 hF8 _ hf
    · have hf := giff c3 hf
      cases hf
      exact h0
  · have hf := giff c2 hf
    cases hf
    exact h0
theorem w_M_answers_0 (x1 : Int) (s0 s : kM) (h0 : Fr (W_M_answers) s0 s) (t : kM) (hf : f_M_answers_0 x1 s = some t) : (fun r => Fr (W_M_answers) s0 r) t :=
  gL_fr (P := fun (x : kM) => Fr (W_M_answers) s0 x) (q := (fun r => Fr (W_M_answers) s0 r)) (fun x t hf h0 => w_M_answers_0b x1 s0 x h0 t hf) gF (s) t hf h0
theorem w_M_answers (x1 : Int) (s : kM) (t : kM) (hf : f_M_answers x1 s = some t) : Fr (W_M_answers) s t := by
  unfold f_M_answers at hf
  exact w_M_answers_0 x1 s s Fr.r t hf
