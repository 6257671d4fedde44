/-! PRINTED by wip/whole/decall.py: frames -/
def W_M_fillsMatrix : List Nat := [85, 114, 115, 117]
theorem w_M_fillsMatrix_86 (x1 : Int) (x2 : Int) (s0 s : kM) (h0 : Fr (W_M_fillsMatrix) s0 s) (t : (Int × Int × kM) ⊕ (Int × kM)) (hf : f_M_fillsMatrix_86 x1 x2 s = some t) : (gE (fun x => Fr (W_M_fillsMatrix) s0 x.2.2) (fun r => Fr (W_M_fillsMatrix) s0 r.2)) t := by
  unfold f_M_fillsMatrix_86 at hf
  cases hf
  exact h0
theorem w_M_fillsMatrix_15b (x1 : Int) (x2 : Int) (x3 : Int) (s0 s : kM) (h0 : Fr (W_M_fillsMatrix) s0 s) (t : (Int × kM) ⊕ ((Int × Int × kM) ⊕ (Int × kM))) (hf : f_M_fillsMatrix_15b x1 x2 x3 s = some t) : (gE (fun x => Fr (W_M_fillsMatrix) s0 x.2) (gE (fun x => Fr (W_M_fillsMatrix) s0 x.2.2) (fun r => Fr (W_M_fillsMatrix) s0 r.2))) t := by
  unfold f_M_fillsMatrix_15b at hf
  by_cases c1 : 13 ≤ x3
  · have hf := gift c1 hf
    obtain ⟨j2, i3, hf⟩ := gbI hf
    obtain ⟨j4, i5, hf⟩ := gbI hf
    obtain ⟨j6, i7, hf⟩ := gbI hf
    obtain ⟨j8, i9, hf⟩ := gbI hf
    obtain ⟨s10, ee11, hf⟩ := gbL hf
    have hF12 : Fr (W_M_fillsMatrix) s0 s10 := by rw [ee11]; exact Fr.u h0 (by simp [W_M_fillsMatrix])
    obtain ⟨j13, i14, hf⟩ := gbI hf
    obtain ⟨j15, i16, hf⟩ := gbI hf
    obtain ⟨j17, i18, hf⟩ := gbI hf
    obtain ⟨j19, i20, hf⟩ := gbI hf
    obtain ⟨s21, ee22, hf⟩ := gbL hf
    have hF23 : Fr (W_M_fillsMatrix) s0 s21 := by rw [ee22]; exact Fr.u hF12 (by simp [W_M_fillsMatrix])
    obtain ⟨j24, i25, hf⟩ := gbI hf
    obtain ⟨q26, hq26, hf⟩ := gbind hf
    obtain ⟨j27, i28, hf⟩ := gbI hf
    obtain ⟨j29, i30, hf⟩ := gbI hf
    obtain ⟨j31, i32, hf⟩ := gbI hf
    obtain ⟨s33, ee34, hf⟩ := gbL hf
    have hF35 : Fr (W_M_fillsMatrix) s0 s33 := by rw [ee34]; exact Fr.u hF23 (by simp [W_M_fillsMatrix])
    obtain ⟨t36, hg37, rfl⟩ := gmap hf
    exact w_M_fillsMatrix_86 (wI (x1 + 1)) x2 s0 s33 hF35 _ hg37
  · have hf := giff c1 hf
    obtain ⟨j38, i39, hf⟩ := gbI hf
    obtain ⟨s40, ee41, hf⟩ := gbL hf
    have hF42 : Fr (W_M_fillsMatrix) s0 s40 := by rw [ee41]; exact Fr.u h0 (by simp [W_M_fillsMatrix])
    cases hf
    exact hF42
theorem w_M_fillsMatrix_15 (x1 : Int) (x2 : Int) (x3 : Int) (s0 s : kM) (h0 : Fr (W_M_fillsMatrix) s0 s) (t : (Int × Int × kM) ⊕ (Int × kM)) (hf : f_M_fillsMatrix_15 x1 x2 x3 s = some t) : (gE (fun x => Fr (W_M_fillsMatrix) s0 x.2.2) (fun r => Fr (W_M_fillsMatrix) s0 r.2)) t :=
  gL_fr (P := fun (x : Int × kM) => Fr (W_M_fillsMatrix) s0 x.2) (q := (gE (fun x => Fr (W_M_fillsMatrix) s0 x.2.2) (fun r => Fr (W_M_fillsMatrix) s0 r.2))) (fun x t hf h0 => w_M_fillsMatrix_15b x1 x2 x.1 s0 x.2 h0 t hf) gF (x3, s) t hf h0
theorem w_M_fillsMatrix_6b (x1 : Int) (x2 : Int) (s0 s : kM) (h0 : Fr (W_M_fillsMatrix) s0 s) (t : (Int × Int × kM) ⊕ (Int × kM)) (hf : f_M_fillsMatrix_6b x1 x2 s = some t) : (gE (fun x => Fr (W_M_fillsMatrix) s0 x.2.2) (fun r => Fr (W_M_fillsMatrix) s0 r.2)) t := by
  unfold f_M_fillsMatrix_6b at hf
  by_cases c1 : 11 ≤ x2
  · have hf := gift c1 hf
    cases hf
    exact h0
  · have hf := giff c1 hf
    obtain ⟨q2, hq2, hf⟩ := gbind hf
    by_cases c3 : q2 = 0
    · have hf := gift c3 hf
      exact w_M_fillsMatrix_86 x1 x2 s0 s h0 _ hf
    · have hf := giff c3 hf
      exact w_M_fillsMatrix_15 x1 x2 0 s0 s h0 _ hf
theorem w_M_fillsMatrix_6 (x1 : Int) (x2 : Int) (s0 s : kM) (h0 : Fr (W_M_fillsMatrix) s0 s) (t : Int × kM) (hf : f_M_fillsMatrix_6 x1 x2 s = some t) : (fun r => Fr (W_M_fillsMatrix) s0 r.2) t :=
  gL_fr (P := fun (x : Int × Int × kM) => Fr (W_M_fillsMatrix) s0 x.2.2) (q := (fun r => Fr (W_M_fillsMatrix) s0 r.2)) (fun x t hf h0 => w_M_fillsMatrix_6b x.1 x.2.1 s0 x.2.2 h0 t hf) gF (x1, x2, s) t hf h0
theorem w_M_fillsMatrix (s : kM) (t : Int × kM) (hf : f_M_fillsMatrix s = some t) : Fr (W_M_fillsMatrix) s t.2 := by
  unfold f_M_fillsMatrix at hf
  have h0 : Fr (W_M_fillsMatrix) s s := Fr.r
  obtain ⟨q1, hq1, hf⟩ := gbind hf
  have hF2 : Fr (W_M_fillsMatrix) s q1 := Fr.c h0 (w_M_fillsBows s _ hq1) (by intro a ha; simp only [W_M_fillsMatrix, W_M_fillsBows, List.mem_cons, List.not_mem_nil, or_false, not_or] at ha ⊢; omega)
  exact w_M_fillsMatrix_6 0 0 s q1 hF2 _ hf
def W_M_swapsRows : List Nat := [117]
theorem w_M_swapsRows_2b (x1 : Int) (x2 : Int) (x3 : Int) (s0 s : kM) (h0 : Fr (W_M_swapsRows) s0 s) (t : (Int × kM) ⊕ (kM)) (hf : f_M_swapsRows_2b x1 x2 x3 s = some t) : (gE (fun x => Fr (W_M_swapsRows) s0 x.2) (fun r => Fr (W_M_swapsRows) s0 r)) t := by
  unfold f_M_swapsRows_2b at hf
  by_cases c1 : 13 ≤ x3
  · have hf := gift c1 hf
    cases hf
    exact h0
  · have hf := giff c1 hf
    obtain ⟨j2, i3, hf⟩ := gbI hf
    obtain ⟨j4, i5, hf⟩ := gbI hf
    obtain ⟨j6, i7, hf⟩ := gbI hf
    obtain ⟨s8, ee9, hf⟩ := gbL hf
    have hF10 : Fr (W_M_swapsRows) s0 s8 := by rw [ee9]; exact Fr.u h0 (by simp [W_M_swapsRows])
    obtain ⟨j11, i12, hf⟩ := gbI hf
    obtain ⟨s13, ee14, hf⟩ := gbL hf
    have hF15 : Fr (W_M_swapsRows) s0 s13 := by rw [ee14]; exact Fr.u hF10 (by simp [W_M_swapsRows])
    cases hf
    exact hF15
theorem w_M_swapsRows_2 (x1 : Int) (x2 : Int) (x3 : Int) (s0 s : kM) (h0 : Fr (W_M_swapsRows) s0 s) (t : kM) (hf : f_M_swapsRows_2 x1 x2 x3 s = some t) : (fun r => Fr (W_M_swapsRows) s0 r) t :=
  gL_fr (P := fun (x : Int × kM) => Fr (W_M_swapsRows) s0 x.2) (q := (fun r => Fr (W_M_swapsRows) s0 r)) (fun x t hf h0 => w_M_swapsRows_2b x1 x2 x.1 s0 x.2 h0 t hf) gF (x3, s) t hf h0
theorem w_M_swapsRows (x1 : Int) (x2 : Int) (s : kM) (t : kM) (hf : f_M_swapsRows x1 x2 s = some t) : Fr (W_M_swapsRows) s t := by
  unfold f_M_swapsRows at hf
  have h0 : Fr (W_M_swapsRows) s s := Fr.r
  exact w_M_swapsRows_2 x1 x2 0 s s h0 _ hf
def W_M_colours : List Nat := [85, 114, 115, 117]
theorem w_M_colours_146b (x1 : Int) (x4 : Int) (x6 : Int) (s0 s : kM) (h0 : Fr (W_M_colours) s0 s) (t : (Int × Int) ⊕ (Int × kM)) (hf : f_M_colours_146b x1 x4 x6 s = some t) : (gE (fun x => Fr (W_M_colours) s0 s) (fun r => Fr (W_M_colours) s0 r.2)) t := by
  unfold f_M_colours_146b at hf
  by_cases c1 : (s 85 44) ≤ x6
  · have hf := gift c1 hf
    cases hf
    exact h0
  · have hf := giff c1 hf
    cases hf
    exact h0
theorem w_M_colours_146 (x1 : Int) (x4 : Int) (x6 : Int) (s0 s : kM) (h0 : Fr (W_M_colours) s0 s) (t : Int × kM) (hf : f_M_colours_146 x1 x4 x6 s = some t) : (fun r => Fr (W_M_colours) s0 r.2) t :=
  gL_fr (P := fun (x : Int × Int) => Fr (W_M_colours) s0 s) (q := (fun r => Fr (W_M_colours) s0 r.2)) (fun x t hf h0 => w_M_colours_146b x1 x.1 x.2 s0 s h0 t hf) gF (x4, x6) t hf h0
theorem w_M_colours_142 (x1 : Int) (x3 : Int) (s0 s : kM) (h0 : Fr (W_M_colours) s0 s) (t : Int × kM) (hf : f_M_colours_142 x1 x3 s = some t) : (fun r => Fr (W_M_colours) s0 r.2) t := by
  unfold f_M_colours_142 at hf
  exact w_M_colours_146 x1 1 x3 s0 s h0 _ hf
theorem w_M_colours_140 (x1 : Int) (x2 : Int) (x3 : Int) (x4 : Int) (s0 s : kM) (h0 : Fr (W_M_colours) s0 s) (t : (Int × Int × kM) ⊕ (Int × kM)) (hf : f_M_colours_140 x1 x2 x3 x4 s = some t) : (gE (fun x => Fr (W_M_colours) s0 x.2.2) (fun r => Fr (W_M_colours) s0 r.2)) t := by
  unfold f_M_colours_140 at hf
  cases hf
  exact h0
theorem w_M_colours_137 (x1 : Int) (x2 : Int) (x3 : Int) (x4 : Int) (x6 : Int) (x8 : Int) (s0 s : kM) (h0 : Fr (W_M_colours) s0 s) (t : (Int × kM) ⊕ ((Int × Int × kM) ⊕ (Int × kM))) (hf : f_M_colours_137 x1 x2 x3 x4 x6 x8 s = some t) : (gE (fun x => Fr (W_M_colours) s0 x.2) (gE (fun x => Fr (W_M_colours) s0 x.2.2) (fun r => Fr (W_M_colours) s0 r.2))) t := by
  unfold f_M_colours_137 at hf
  cases hf
  exact h0
theorem w_M_colours_97b (x1 : Int) (x2 : Int) (x3 : Int) (x4 : Int) (x6 : Int) (x8 : Int) (x9 : Int) (x11 : Int) (s0 s : kM) (h0 : Fr (W_M_colours) s0 s) (t : (Int × kM) ⊕ ((Int × kM) ⊕ ((Int × Int × kM) ⊕ (Int × kM)))) (hf : f_M_colours_97b x1 x2 x3 x4 x6 x8 x9 x11 s = some t) : (gE (fun x => Fr (W_M_colours) s0 x.2) (gE (fun x => Fr (W_M_colours) s0 x.2) (gE (fun x => Fr (W_M_colours) s0 x.2.2) (fun r => Fr (W_M_colours) s0 r.2)))) t := by
  unfold f_M_colours_97b at hf
  by_cases c1 : (s 85 44) ≤ x11
  · have hf := gift c1 hf
    obtain ⟨t2, hg3, rfl⟩ := gmap hf
    exact w_M_colours_137 x1 x2 x3 x4 x6 x8 s0 s h0 _ hg3
  · have hf := giff c1 hf
    by_cases c4 : x8 = x3
    · have hf := gift c4 hf
      obtain ⟨t5, hg6, rfl⟩ := gmap hf
      exact w_M_colours_137 x1 x2 x3 x4 x6 x8 s0 s h0 _ hg6
    · have hf := giff c4 hf
      obtain ⟨j7, i8, hf⟩ := gbI hf
      obtain ⟨j9, i10, hf⟩ := gbI hf
      obtain ⟨q11, hq11, hf⟩ := gbind hf
      obtain ⟨q12, hq12, hf⟩ := gbind hf
      obtain ⟨j13, i14, hf⟩ := gbI hf
      obtain ⟨s15, ee16, hf⟩ := gbL hf
      have hF17 : Fr (W_M_colours) s0 s15 := by rw [ee16]; exact Fr.u h0 (by simp [W_M_colours])
      cases hf
      exact hF17
theorem w_M_colours_97 (x1 : Int) (x2 : Int) (x3 : Int) (x4 : Int) (x6 : Int) (x8 : Int) (x9 : Int) (x11 : Int) (s0 s : kM) (h0 : Fr (W_M_colours) s0 s) (t : (Int × kM) ⊕ ((Int × Int × kM) ⊕ (Int × kM))) (hf : f_M_colours_97 x1 x2 x3 x4 x6 x8 x9 x11 s = some t) : (gE (fun x => Fr (W_M_colours) s0 x.2) (gE (fun x => Fr (W_M_colours) s0 x.2.2) (fun r => Fr (W_M_colours) s0 r.2))) t :=
  gL_fr (P := fun (x : Int × kM) => Fr (W_M_colours) s0 x.2) (q := (gE (fun x => Fr (W_M_colours) s0 x.2) (gE (fun x => Fr (W_M_colours) s0 x.2.2) (fun r => Fr (W_M_colours) s0 r.2)))) (fun x t hf h0 => w_M_colours_97b x1 x2 x3 x4 x6 x8 x9 x.1 s0 x.2 h0 t hf) gF (x11, s) t hf h0
theorem w_M_colours_76b (x1 : Int) (x2 : Int) (x3 : Int) (x4 : Int) (x6 : Int) (x8 : Int) (s0 s : kM) (h0 : Fr (W_M_colours) s0 s) (t : (Int × kM) ⊕ ((Int × Int × kM) ⊕ (Int × kM))) (hf : f_M_colours_76b x1 x2 x3 x4 x6 x8 s = some t) : (gE (fun x => Fr (W_M_colours) s0 x.2) (gE (fun x => Fr (W_M_colours) s0 x.2.2) (fun r => Fr (W_M_colours) s0 r.2))) t := by
  unfold f_M_colours_76b at hf
  by_cases c1 : x2 ≤ x8
  · have hf := gift c1 hf
    obtain ⟨t2, hg3, rfl⟩ := gmap hf
    exact w_M_colours_140 x1 x2 (wI (x3 + 1)) x4 s0 s h0 _ hg3
  · have hf := giff c1 hf
    obtain ⟨j4, i5, hf⟩ := gbI hf
    obtain ⟨q6, hq6, hf⟩ := gbind hf
    obtain ⟨z7, hf⟩ := gbD hf
    exact w_M_colours_97 x1 x2 x3 x4 x6 x8 (klrem (wL (q6 * x6)) x1) 0 s0 s h0 _ hf
theorem w_M_colours_76 (x1 : Int) (x2 : Int) (x3 : Int) (x4 : Int) (x6 : Int) (x8 : Int) (s0 s : kM) (h0 : Fr (W_M_colours) s0 s) (t : (Int × Int × kM) ⊕ (Int × kM)) (hf : f_M_colours_76 x1 x2 x3 x4 x6 x8 s = some t) : (gE (fun x => Fr (W_M_colours) s0 x.2.2) (fun r => Fr (W_M_colours) s0 r.2)) t :=
  gL_fr (P := fun (x : Int × kM) => Fr (W_M_colours) s0 x.2) (q := (gE (fun x => Fr (W_M_colours) s0 x.2.2) (fun r => Fr (W_M_colours) s0 r.2))) (fun x t hf h0 => w_M_colours_76b x1 x2 x3 x4 x6 x.1 s0 x.2 h0 t hf) gF (x8, s) t hf h0
theorem w_M_colours_54 (x1 : Int) (x2 : Int) (x3 : Int) (x4 : Int) (x5 : Int) (s0 s : kM) (h0 : Fr (W_M_colours) s0 s) (t : (Int × Int × kM) ⊕ (Int × kM)) (hf : f_M_colours_54 x1 x2 x3 x4 x5 s = some t) : (gE (fun x => Fr (W_M_colours) s0 x.2.2) (fun r => Fr (W_M_colours) s0 r.2)) t := by
  unfold f_M_colours_54 at hf
  by_cases c1 : x2 ≤ x5
  · have hf := gift c1 hf
    exact w_M_colours_140 x1 x2 x3 x4 s0 s h0 _ hf
  · have hf := giff c1 hf
    obtain ⟨q2, hq2, hf⟩ := gbind hf
    have hF3 : Fr (W_M_colours) s0 q2 := Fr.c h0 (w_M_swapsRows x5 x3 s _ hq2) (by intro a ha; simp only [W_M_colours, W_M_swapsRows, List.mem_cons, List.not_mem_nil, or_false, not_or] at ha ⊢; omega)
    obtain ⟨j4, i5, hf⟩ := gbI hf
    obtain ⟨q6, hq6, hf⟩ := gbind hf
    obtain ⟨q7, hq7, hf⟩ := gbind hf
    exact w_M_colours_76 x1 x2 x3 x4 q7 0 s0 q2 hF3 _ hf
theorem w_M_colours_36b (x1 : Int) (x2 : Int) (x3 : Int) (x4 : Int) (x5 : Int) (s0 s : kM) (h0 : Fr (W_M_colours) s0 s) (t : (Int) ⊕ ((Int × Int × kM) ⊕ (Int × kM))) (hf : f_M_colours_36b x1 x2 x3 x4 x5 s = some t) : (gE (fun x => Fr (W_M_colours) s0 s) (gE (fun x => Fr (W_M_colours) s0 x.2.2) (fun r => Fr (W_M_colours) s0 r.2))) t := by
  unfold f_M_colours_36b at hf
  by_cases c1 : x2 ≤ x5
  · have hf := gift c1 hf
    obtain ⟨t2, hg3, rfl⟩ := gmap hf
    exact w_M_colours_54 x1 x2 x3 x4 x5 s0 s h0 _ hg3
  · have hf := giff c1 hf
    obtain ⟨j4, i5, hf⟩ := gbI hf
    obtain ⟨q6, hq6, hf⟩ := gbind hf
    by_cases c7 : q6 = 0
    · have hf := gift c7 hf
      cases hf
      exact h0
    · have hf := giff c7 hf
      obtain ⟨t8, hg9, rfl⟩ := gmap hf
      exact w_M_colours_54 x1 x2 x3 x4 x5 s0 s h0 _ hg9
theorem w_M_colours_36 (x1 : Int) (x2 : Int) (x3 : Int) (x4 : Int) (x5 : Int) (s0 s : kM) (h0 : Fr (W_M_colours) s0 s) (t : (Int × Int × kM) ⊕ (Int × kM)) (hf : f_M_colours_36 x1 x2 x3 x4 x5 s = some t) : (gE (fun x => Fr (W_M_colours) s0 x.2.2) (fun r => Fr (W_M_colours) s0 r.2)) t :=
  gL_fr (P := fun (x : Int) => Fr (W_M_colours) s0 s) (q := (gE (fun x => Fr (W_M_colours) s0 x.2.2) (fun r => Fr (W_M_colours) s0 r.2))) (fun x t hf h0 => w_M_colours_36b x1 x2 x3 x4 x s0 s h0 t hf) gF (x5) t hf h0
theorem w_M_colours_27b (x1 : Int) (x2 : Int) (x3 : Int) (x4 : Int) (s0 s : kM) (h0 : Fr (W_M_colours) s0 s) (t : (Int × Int × kM) ⊕ (Int × kM)) (hf : f_M_colours_27b x1 x2 x3 x4 s = some t) : (gE (fun x => Fr (W_M_colours) s0 x.2.2) (fun r => Fr (W_M_colours) s0 r.2)) t := by
  unfold f_M_colours_27b at hf
  by_cases c1 : (s 85 44) ≤ x4
  · have hf := gift c1 hf
    obtain ⟨t2, hg3, rfl⟩ := gmap hf
    exact w_M_colours_142 x1 x3 s0 s h0 _ hg3
  · have hf := giff c1 hf
    by_cases c4 : x2 ≤ x3
    · have hf := gift c4 hf
      obtain ⟨t5, hg6, rfl⟩ := gmap hf
      exact w_M_colours_142 x1 x3 s0 s h0 _ hg6
    · have hf := giff c4 hf
      exact w_M_colours_36 x1 x2 x3 x4 x3 s0 s h0 _ hf
theorem w_M_colours_27 (x1 : Int) (x2 : Int) (x3 : Int) (x4 : Int) (s0 s : kM) (h0 : Fr (W_M_colours) s0 s) (t : Int × kM) (hf : f_M_colours_27 x1 x2 x3 x4 s = some t) : (fun r => Fr (W_M_colours) s0 r.2) t :=
  gL_fr (P := fun (x : Int × Int × kM) => Fr (W_M_colours) s0 x.2.2) (q := (fun r => Fr (W_M_colours) s0 r.2)) (fun x t hf h0 => w_M_colours_27b x1 x2 x.1 x.2.1 s0 x.2.2 h0 t hf) gF (x3, x4, s) t hf h0
theorem w_M_colours_20 (x1 : Int) (s0 s : kM) (h0 : Fr (W_M_colours) s0 s) (t : Int × kM) (hf : f_M_colours_20 x1 s = some t) : (fun r => Fr (W_M_colours) s0 r.2) t := by
  unfold f_M_colours_20 at hf
  obtain ⟨q1, hq1, hf⟩ := gbind hf
  have hF2 : Fr (W_M_colours) s0 q1.2 := Fr.c h0 (w_M_fillsMatrix s _ hq1) (by intro a ha; simp only [W_M_colours, W_M_fillsMatrix, List.mem_cons, List.not_mem_nil, or_false, not_or] at ha ⊢; omega)
  exact w_M_colours_27 x1 q1.1 0 0 s0 q1.2 hF2 _ hf
theorem w_M_colours (x1 : Int) (s : kM) (t : Int × kM) (hf : f_M_colours x1 s = some t) : Fr (W_M_colours) s t.2 := by
  unfold f_M_colours at hf
  have h0 : Fr (W_M_colours) s s := Fr.r
  obtain ⟨q1, hq1, hf⟩ := gbind hf
  by_cases c2 : q1 = 0
  · have hf := gift c2 hf
    cases hf
    exact h0
  · have hf := giff c2 hf
    by_cases c3 : x1 = 3
    · have hf := gift c3 hf
      exact w_M_colours_20 x1 s s h0 _ hf
    · have hf := giff c3 hf
      by_cases c4 : x1 = 5
      · have hf := gift c4 hf
        exact w_M_colours_20 x1 s s h0 _ hf
      · have hf := giff c4 hf
        by_cases c5 : x1 = 7
        · have hf := gift c5 hf
          exact w_M_colours_20 x1 s s h0 _ hf
        · have hf := giff c5 hf
          by_cases c6 : x1 = 11
          · have hf := gift c6 hf
            exact w_M_colours_20 x1 s s h0 _ hf
          · have hf := giff c6 hf
            by_cases c7 : x1 = 13
            · have hf := gift c7 hf
              exact w_M_colours_20 x1 s s h0 _ hf
            · have hf := giff c7 hf
              cases hf
              exact h0
def W_M_determinant : List Nat := [85, 114, 115, 117]
theorem w_M_determinant_66b (x2 : Int) (x3 : Int) (x5 : Int) (x7 : Int) (x8 : Int) (s0 s : kM) (h0 : Fr (W_M_determinant) s0 s) (t : (Int × kM) ⊕ ((Int × kM) ⊕ ((Int × Int × kM) ⊕ (Int × kM)))) (hf : f_M_determinant_66b x2 x3 x5 x7 x8 s = some t) : (gE (fun x => Fr (W_M_determinant) s0 x.2) (gE (fun x => Fr (W_M_determinant) s0 x.2) (gE (fun x => Fr (W_M_determinant) s0 x.2.2) (fun r => Fr (W_M_determinant) s0 r.2)))) t := by
  unfold f_M_determinant_66b at hf
  by_cases c1 : x2 ≤ x8
  · have hf := gift c1 hf
    cases hf
    exact h0
  · have hf := giff c1 hf
    obtain ⟨j2, i3, hf⟩ := gbI hf
    obtain ⟨j4, i5, hf⟩ := gbI hf
    obtain ⟨j6, i7, hf⟩ := gbI hf
    obtain ⟨j8, i9, hf⟩ := gbI hf
    obtain ⟨z10, hf⟩ := gbD hf
    obtain ⟨j11, i12, hf⟩ := gbI hf
    obtain ⟨s13, ee14, hf⟩ := gbL hf
    have hF15 : Fr (W_M_determinant) s0 s13 := by rw [ee14]; exact Fr.u h0 (by simp [W_M_determinant])
    cases hf
    exact hF15
theorem w_M_determinant_66 (x2 : Int) (x3 : Int) (x5 : Int) (x7 : Int) (x8 : Int) (s0 s : kM) (h0 : Fr (W_M_determinant) s0 s) (t : (Int × kM) ⊕ ((Int × Int × kM) ⊕ (Int × kM))) (hf : f_M_determinant_66 x2 x3 x5 x7 x8 s = some t) : (gE (fun x => Fr (W_M_determinant) s0 x.2) (gE (fun x => Fr (W_M_determinant) s0 x.2.2) (fun r => Fr (W_M_determinant) s0 r.2))) t :=
  gL_fr (P := fun (x : Int × kM) => Fr (W_M_determinant) s0 x.2) (q := (gE (fun x => Fr (W_M_determinant) s0 x.2) (gE (fun x => Fr (W_M_determinant) s0 x.2.2) (fun r => Fr (W_M_determinant) s0 r.2)))) (fun x t hf h0 => w_M_determinant_66b x2 x3 x5 x7 x.1 s0 x.2 h0 t hf) gF (x8, s) t hf h0
theorem w_M_determinant_59b (x2 : Int) (x3 : Int) (x5 : Int) (x7 : Int) (s0 s : kM) (h0 : Fr (W_M_determinant) s0 s) (t : (Int × kM) ⊕ ((Int × Int × kM) ⊕ (Int × kM))) (hf : f_M_determinant_59b x2 x3 x5 x7 s = some t) : (gE (fun x => Fr (W_M_determinant) s0 x.2) (gE (fun x => Fr (W_M_determinant) s0 x.2.2) (fun r => Fr (W_M_determinant) s0 r.2))) t := by
  unfold f_M_determinant_59b at hf
  by_cases c1 : x2 ≤ x7
  · have hf := gift c1 hf
    obtain ⟨j2, i3, hf⟩ := gbI hf
    cases hf
    exact h0
  · have hf := giff c1 hf
    exact w_M_determinant_66 x2 x3 x5 x7 (wI (x5 + 1)) s0 s h0 _ hf
theorem w_M_determinant_59 (x2 : Int) (x3 : Int) (x5 : Int) (x7 : Int) (s0 s : kM) (h0 : Fr (W_M_determinant) s0 s) (t : (Int × Int × kM) ⊕ (Int × kM)) (hf : f_M_determinant_59 x2 x3 x5 x7 s = some t) : (gE (fun x => Fr (W_M_determinant) s0 x.2.2) (fun r => Fr (W_M_determinant) s0 r.2)) t :=
  gL_fr (P := fun (x : Int × kM) => Fr (W_M_determinant) s0 x.2) (q := (gE (fun x => Fr (W_M_determinant) s0 x.2.2) (fun r => Fr (W_M_determinant) s0 r.2))) (fun x t hf h0 => w_M_determinant_59b x2 x3 x5 x.1 s0 x.2 h0 t hf) gF (x7, s) t hf h0
theorem w_M_determinant_46 (x2 : Int) (x3 : Int) (x5 : Int) (x6 : Int) (s0 s : kM) (h0 : Fr (W_M_determinant) s0 s) (t : (Int × Int × kM) ⊕ (Int × kM)) (hf : f_M_determinant_46 x2 x3 x5 x6 s = some t) : (gE (fun x => Fr (W_M_determinant) s0 x.2.2) (fun r => Fr (W_M_determinant) s0 r.2)) t := by
  unfold f_M_determinant_46 at hf
  by_cases c1 : x6 = x2
  · have hf := gift c1 hf
    cases hf
    exact h0
  · have hf := giff c1 hf
    obtain ⟨q2, hq2, hf⟩ := gbind hf
    have hF3 : Fr (W_M_determinant) s0 q2 := Fr.c h0 (w_M_swapsRows x6 x5 s _ hq2) (by intro a ha; simp only [W_M_determinant, W_M_swapsRows, List.mem_cons, List.not_mem_nil, or_false, not_or] at ha ⊢; omega)
    exact w_M_determinant_59 x2 x3 x5 (wI (x5 + 1)) s0 q2 hF3 _ hf
theorem w_M_determinant_30b (x2 : Int) (x3 : Int) (x5 : Int) (x6 : Int) (s0 s : kM) (h0 : Fr (W_M_determinant) s0 s) (t : (Int) ⊕ ((Int × Int × kM) ⊕ (Int × kM))) (hf : f_M_determinant_30b x2 x3 x5 x6 s = some t) : (gE (fun x => Fr (W_M_determinant) s0 s) (gE (fun x => Fr (W_M_determinant) s0 x.2.2) (fun r => Fr (W_M_determinant) s0 r.2))) t := by
  unfold f_M_determinant_30b at hf
  by_cases c1 : x2 ≤ x6
  · have hf := gift c1 hf
    obtain ⟨t2, hg3, rfl⟩ := gmap hf
    exact w_M_determinant_46 x2 x3 x5 x6 s0 s h0 _ hg3
  · have hf := giff c1 hf
    obtain ⟨j4, i5, hf⟩ := gbI hf
    by_cases c6 : (s 117 j4) = 0
    · have hf := gift c6 hf
      cases hf
      exact h0
    · have hf := giff c6 hf
      obtain ⟨t7, hg8, rfl⟩ := gmap hf
      exact w_M_determinant_46 x2 x3 x5 x6 s0 s h0 _ hg8
theorem w_M_determinant_30 (x2 : Int) (x3 : Int) (x5 : Int) (x6 : Int) (s0 s : kM) (h0 : Fr (W_M_determinant) s0 s) (t : (Int × Int × kM) ⊕ (Int × kM)) (hf : f_M_determinant_30 x2 x3 x5 x6 s = some t) : (gE (fun x => Fr (W_M_determinant) s0 x.2.2) (fun r => Fr (W_M_determinant) s0 r.2)) t :=
  gL_fr (P := fun (x : Int) => Fr (W_M_determinant) s0 s) (q := (gE (fun x => Fr (W_M_determinant) s0 x.2.2) (fun r => Fr (W_M_determinant) s0 r.2))) (fun x t hf h0 => w_M_determinant_30b x2 x3 x5 x s0 s h0 t hf) gF (x6) t hf h0
theorem w_M_determinant_25b (x2 : Int) (x3 : Int) (x5 : Int) (s0 s : kM) (h0 : Fr (W_M_determinant) s0 s) (t : (Int × Int × kM) ⊕ (Int × kM)) (hf : f_M_determinant_25b x2 x3 x5 s = some t) : (gE (fun x => Fr (W_M_determinant) s0 x.2.2) (fun r => Fr (W_M_determinant) s0 r.2)) t := by
  unfold f_M_determinant_25b at hf
  by_cases c1 : x2 ≤ x5
  · have hf := gift c1 hf
    by_cases c2 : 0 ≤ x3
    · have hf := gift c2 hf
      cases hf
      exact h0
    · have hf := giff c2 hf
      cases hf
      exact h0
  · have hf := giff c1 hf
    exact w_M_determinant_30 x2 x3 x5 x5 s0 s h0 _ hf
theorem w_M_determinant_25 (x2 : Int) (x3 : Int) (x5 : Int) (s0 s : kM) (h0 : Fr (W_M_determinant) s0 s) (t : Int × kM) (hf : f_M_determinant_25 x2 x3 x5 s = some t) : (fun r => Fr (W_M_determinant) s0 r.2) t :=
  gL_fr (P := fun (x : Int × Int × kM) => Fr (W_M_determinant) s0 x.2.2) (q := (fun r => Fr (W_M_determinant) s0 r.2)) (fun x t hf h0 => w_M_determinant_25b x2 x.1 x.2.1 s0 x.2.2 h0 t hf) gF (x3, x5, s) t hf h0
theorem w_M_determinant (s : kM) (t : Int × kM) (hf : f_M_determinant s = some t) : Fr (W_M_determinant) s t.2 := by
  unfold f_M_determinant at hf
  have h0 : Fr (W_M_determinant) s s := Fr.r
  obtain ⟨q1, hq1, hf⟩ := gbind hf
  by_cases c2 : q1 = 0
  · have hf := gift c2 hf
    cases hf
    exact h0
  · have hf := giff c2 hf
    obtain ⟨q3, hq3, hf⟩ := gbind hf
    have hF4 : Fr (W_M_determinant) s q3.2 := Fr.c h0 (w_M_fillsMatrix s _ hq3) (by intro a ha; simp only [W_M_determinant, W_M_fillsMatrix, List.mem_cons, List.not_mem_nil, or_false, not_or] at ha ⊢; omega)
    by_cases c5 : (q3.2 85 44) ≤ (wI (q3.1 + 1))
    · have hf := gift c5 hf
      exact w_M_determinant_25 (wI ((q3.2 85 44) - 1)) 1 0 s q3.2 hF4 _ hf
    · have hf := giff c5 hf
      cases hf
      exact hF4
def W_M_joins : List Nat := [119]
theorem w_M_joins_31 (x3 : Int) (x4 : Int) (x5 : Int) (y1 : Int) (y2 : Int) (s0 s : kM) (h0 : Fr (W_M_joins) s0 s) (t : (Int × kM) ⊕ (kM)) (hf : f_M_joins_31 x3 x4 x5 y1 y2 s = some t) : (gE (fun x => Fr (W_M_joins) s0 x.2) (fun r => Fr (W_M_joins) s0 r)) t := by
  unfold f_M_joins_31 at hf
  obtain ⟨j1, i2, hf⟩ := gbI hf
  obtain ⟨s3, ee4, hf⟩ := gbL hf
  have hF5 : Fr (W_M_joins) s0 s3 := by rw [ee4]; exact Fr.u h0 (by simp [W_M_joins])
  cases hf
  exact hF5
theorem w_M_joins_12b (x3 : Int) (x4 : Int) (x5 : Int) (s0 s : kM) (h0 : Fr (W_M_joins) s0 s) (t : (Int × kM) ⊕ (kM)) (hf : f_M_joins_12b x3 x4 x5 s = some t) : (gE (fun x => Fr (W_M_joins) s0 x.2) (fun r => Fr (W_M_joins) s0 r)) t := by
  unfold f_M_joins_12b at hf
  obtain ⟨q1, hq1, hf⟩ := gbind hf
  by_cases c2 : q1 ≤ x5
  · have hf := gift c2 hf
    cases hf
    exact h0
  · have hf := giff c2 hf
    obtain ⟨j3, i4, hf⟩ := gbI hf
    by_cases c5 : (s 119 j3) = x4
    · have hf := gift c5 hf
      exact w_M_joins_31 x3 x4 x5 x5 x3 s0 s h0 _ hf
    · have hf := giff c5 hf
      obtain ⟨j6, i7, hf⟩ := gbI hf
      exact w_M_joins_31 x3 x4 x5 x5 (s 119 j6) s0 s h0 _ hf
theorem w_M_joins_12 (x3 : Int) (x4 : Int) (x5 : Int) (s0 s : kM) (h0 : Fr (W_M_joins) s0 s) (t : kM) (hf : f_M_joins_12 x3 x4 x5 s = some t) : (fun r => Fr (W_M_joins) s0 r) t :=
  gL_fr (P := fun (x : Int × kM) => Fr (W_M_joins) s0 x.2) (q := (fun r => Fr (W_M_joins) s0 r)) (fun x t hf h0 => w_M_joins_12b x3 x4 x.1 s0 x.2 h0 t hf) gF (x5, s) t hf h0
theorem w_M_joins (x1 : Int) (x2 : Int) (s : kM) (t : kM) (hf : f_M_joins x1 x2 s = some t) : Fr (W_M_joins) s t := by
  unfold f_M_joins at hf
  have h0 : Fr (W_M_joins) s s := Fr.r
  obtain ⟨j1, i2, hf⟩ := gbI hf
  obtain ⟨j3, i4, hf⟩ := gbI hf
  exact w_M_joins_12 (s 119 j1) (s 119 j3) 0 s s h0 _ hf
def W_M_rings : List Nat := [119]
theorem w_M_rings_126 (y0 : Int) (y1 : Int) (s0 s : kM) (h0 : Fr (W_M_rings) s0 s) (t : Int × kM) (hf : f_M_rings_126 y0 y1 s = some t) : (fun r => Fr (W_M_rings) s0 r.2) t := by
  unfold f_M_rings_126 at hf
  by_cases c1 : (s 86 0) = 2
  · have hf := gift c1 hf
    by_cases c2 : (s 86 2) = 0
    · have hf := gift c2 hf
      cases hf
      exact h0
    · have hf := giff c2 hf
      cases hf
      exact h0
  · have hf := giff c1 hf
    cases hf
    exact h0
theorem w_M_rings_113 (x3 : Int) (y0 : Int) (y1 : Int) (s0 s : kM) (h0 : Fr (W_M_rings) s0 s) (t : (Int × Int) ⊕ (Int × kM)) (hf : f_M_rings_113 x3 y0 y1 s = some t) : (gE (fun x => Fr (W_M_rings) s0 s) (fun r => Fr (W_M_rings) s0 r.2)) t := by
  unfold f_M_rings_113 at hf
  cases hf
  exact h0
theorem w_M_rings_99b (x2 : Int) (x3 : Int) (s0 s : kM) (h0 : Fr (W_M_rings) s0 s) (t : (Int × Int) ⊕ (Int × kM)) (hf : f_M_rings_99b x2 x3 s = some t) : (gE (fun x => Fr (W_M_rings) s0 s) (fun r => Fr (W_M_rings) s0 r.2)) t := by
  unfold f_M_rings_99b at hf
  obtain ⟨q1, hq1, hf⟩ := gbind hf
  by_cases c2 : q1 ≤ x3
  · have hf := gift c2 hf
    by_cases c3 : (s 86 1) = 0
    · have hf := gift c3 hf
      obtain ⟨t6, hg7, rfl⟩ := gmap hf
      exact w_M_rings_126 x2 1 s0 s h0 _ hg7
    · have hf := giff c3 hf
      obtain ⟨t4, hg5, rfl⟩ := gmap hf
      exact w_M_rings_126 x2 0 s0 s h0 _ hg5
  · have hf := giff c2 hf
    obtain ⟨j8, i9, hf⟩ := gbI hf
    by_cases c10 : (s 119 j8) = x3
    · have hf := gift c10 hf
      exact w_M_rings_113 x3 x2 1 s0 s h0 _ hf
    · have hf := giff c10 hf
      exact w_M_rings_113 x3 x2 0 s0 s h0 _ hf
theorem w_M_rings_99 (x2 : Int) (x3 : Int) (s0 s : kM) (h0 : Fr (W_M_rings) s0 s) (t : Int × kM) (hf : f_M_rings_99 x2 x3 s = some t) : (fun r => Fr (W_M_rings) s0 r.2) t :=
  gL_fr (P := fun (x : Int × Int) => Fr (W_M_rings) s0 s) (q := (fun r => Fr (W_M_rings) s0 r.2)) (fun x t hf h0 => w_M_rings_99b x.1 x.2 s0 s h0 t hf) gF (x2, x3) t hf h0
theorem w_M_rings_93 (x1 : Int) (x2 : Int) (s0 s : kM) (h0 : Fr (W_M_rings) s0 s) (t : (Int × kM) ⊕ (Int × kM)) (hf : f_M_rings_93 x1 x2 s = some t) : (gE (fun x => Fr (W_M_rings) s0 x.2) (fun r => Fr (W_M_rings) s0 r.2)) t := by
  unfold f_M_rings_93 at hf
  cases hf
  exact h0
theorem w_M_rings_43 (x1 : Int) (x2 : Int) (y0 : Int) (y1 : Int) (s0 s : kM) (h0 : Fr (W_M_rings) s0 s) (t : (Int × kM) ⊕ (Int × kM)) (hf : f_M_rings_43 x1 x2 y0 y1 s = some t) : (gE (fun x => Fr (W_M_rings) s0 x.2) (fun r => Fr (W_M_rings) s0 r.2)) t := by
  unfold f_M_rings_43 at hf
  by_cases c1 : y0 = y1
  · have hf := gift c1 hf
    obtain ⟨j16, i17, hf⟩ := gbI hf
    obtain ⟨q18, hq18, hf⟩ := gbind hf
    obtain ⟨j19, i20, hf⟩ := gbI hf
    obtain ⟨q21, hq21, hf⟩ := gbind hf
    have hF22 : Fr (W_M_rings) s0 q21 := Fr.c h0 (w_M_joins q18 (s 99 j19) s _ hq21) (by intro a ha; simp only [W_M_rings, W_M_joins, List.mem_cons, List.not_mem_nil, or_false, not_or] at ha ⊢; omega)
    obtain ⟨j23, i24, hf⟩ := gbI hf
    obtain ⟨q25, hq25, hf⟩ := gbind hf
    obtain ⟨j26, i27, hf⟩ := gbI hf
    obtain ⟨q28, hq28, hf⟩ := gbind hf
    have hF29 : Fr (W_M_rings) s0 q28 := Fr.c hF22 (w_M_joins q25 (q21 98 j26) q21 _ hq28) (by intro a ha; simp only [W_M_rings, W_M_joins, List.mem_cons, List.not_mem_nil, or_false, not_or] at ha ⊢; omega)
    exact w_M_rings_93 x1 x2 s0 q28 hF29 _ hf
  · have hf := giff c1 hf
    obtain ⟨j2, i3, hf⟩ := gbI hf
    obtain ⟨q4, hq4, hf⟩ := gbind hf
    obtain ⟨j5, i6, hf⟩ := gbI hf
    obtain ⟨q7, hq7, hf⟩ := gbind hf
    obtain ⟨q8, hq8, hf⟩ := gbind hf
    have hF9 : Fr (W_M_rings) s0 q8 := Fr.c h0 (w_M_joins q4 q7 s _ hq8) (by intro a ha; simp only [W_M_rings, W_M_joins, List.mem_cons, List.not_mem_nil, or_false, not_or] at ha ⊢; omega)
    obtain ⟨j10, i11, hf⟩ := gbI hf
    obtain ⟨j12, i13, hf⟩ := gbI hf
    obtain ⟨q14, hq14, hf⟩ := gbind hf
    have hF15 : Fr (W_M_rings) s0 q14 := Fr.c hF9 (w_M_joins (q8 98 j10) (q8 99 j12) q8 _ hq14) (by intro a ha; simp only [W_M_rings, W_M_joins, List.mem_cons, List.not_mem_nil, or_false, not_or] at ha ⊢; omega)
    exact w_M_rings_93 x1 x2 s0 q14 hF15 _ hf
theorem w_M_rings_32 (x1 : Int) (x2 : Int) (y0 : Int) (s0 s : kM) (h0 : Fr (W_M_rings) s0 s) (t : (Int × kM) ⊕ (Int × kM)) (hf : f_M_rings_32 x1 x2 y0 s = some t) : (gE (fun x => Fr (W_M_rings) s0 x.2) (fun r => Fr (W_M_rings) s0 r.2)) t := by
  unfold f_M_rings_32 at hf
  obtain ⟨j1, i2, hf⟩ := gbI hf
  by_cases c3 : (s 89 j1) = 1
  · have hf := gift c3 hf
    exact w_M_rings_43 x1 x2 y0 1 s0 s h0 _ hf
  · have hf := giff c3 hf
    exact w_M_rings_43 x1 x2 y0 0 s0 s h0 _ hf
theorem w_M_rings_15b (x1 : Int) (x2 : Int) (s0 s : kM) (h0 : Fr (W_M_rings) s0 s) (t : (Int × kM) ⊕ (Int × kM)) (hf : f_M_rings_15b x1 x2 s = some t) : (gE (fun x => Fr (W_M_rings) s0 x.2) (fun r => Fr (W_M_rings) s0 r.2)) t := by
  unfold f_M_rings_15b at hf
  by_cases c1 : 11 ≤ x2
  · have hf := gift c1 hf
    obtain ⟨t2, hg3, rfl⟩ := gmap hf
    exact w_M_rings_99 0 0 s0 s h0 _ hg3
  · have hf := giff c1 hf
    obtain ⟨q4, hq4, hf⟩ := gbind hf
    by_cases c5 : q4 = 0
    · have hf := gift c5 hf
      exact w_M_rings_93 x1 x2 s0 s h0 _ hf
    · have hf := giff c5 hf
      by_cases c6 : (kand (kshr x1 x2) 1) = 1
      · have hf := gift c6 hf
        exact w_M_rings_32 x1 x2 1 s0 s h0 _ hf
      · have hf := giff c6 hf
        exact w_M_rings_32 x1 x2 0 s0 s h0 _ hf
theorem w_M_rings_15 (x1 : Int) (x2 : Int) (s0 s : kM) (h0 : Fr (W_M_rings) s0 s) (t : Int × kM) (hf : f_M_rings_15 x1 x2 s = some t) : (fun r => Fr (W_M_rings) s0 r.2) t :=
  gL_fr (P := fun (x : Int × kM) => Fr (W_M_rings) s0 x.2) (q := (fun r => Fr (W_M_rings) s0 r.2)) (fun x t hf h0 => w_M_rings_15b x1 x.1 s0 x.2 h0 t hf) gF (x2, s) t hf h0
theorem w_M_rings_2b (x1 : Int) (x2 : Int) (s0 s : kM) (h0 : Fr (W_M_rings) s0 s) (t : (Int × kM) ⊕ (Int × kM)) (hf : f_M_rings_2b x1 x2 s = some t) : (gE (fun x => Fr (W_M_rings) s0 x.2) (fun r => Fr (W_M_rings) s0 r.2)) t := by
  unfold f_M_rings_2b at hf
  obtain ⟨q1, hq1, hf⟩ := gbind hf
  by_cases c2 : q1 ≤ x2
  · have hf := gift c2 hf
    obtain ⟨t3, hg4, rfl⟩ := gmap hf
    exact w_M_rings_15 x1 0 s0 s h0 _ hg4
  · have hf := giff c2 hf
    obtain ⟨j5, i6, hf⟩ := gbI hf
    obtain ⟨s7, ee8, hf⟩ := gbL hf
    have hF9 : Fr (W_M_rings) s0 s7 := by rw [ee8]; exact Fr.u h0 (by simp [W_M_rings])
    cases hf
    exact hF9
theorem w_M_rings_2 (x1 : Int) (x2 : Int) (s0 s : kM) (h0 : Fr (W_M_rings) s0 s) (t : Int × kM) (hf : f_M_rings_2 x1 x2 s = some t) : (fun r => Fr (W_M_rings) s0 r.2) t :=
  gL_fr (P := fun (x : Int × kM) => Fr (W_M_rings) s0 x.2) (q := (fun r => Fr (W_M_rings) s0 r.2)) (fun x t hf h0 => w_M_rings_2b x1 x.1 s0 x.2 h0 t hf) gF (x2, s) t hf h0
theorem w_M_rings (x1 : Int) (s : kM) (t : Int × kM) (hf : f_M_rings x1 s = some t) : Fr (W_M_rings) s t.2 := by
  unfold f_M_rings at hf
  have h0 : Fr (W_M_rings) s s := Fr.r
  exact w_M_rings_2 x1 0 s s h0 _ hf
def W_M_adds : List Nat := [118]
theorem w_M_adds_10b (x1 : Int) (x2 : Int) (x3 : Int) (x4 : Int) (s0 s : kM) (h0 : Fr (W_M_adds) s0 s) (t : (Int × Int × kM) ⊕ (kM)) (hf : f_M_adds_10b x1 x2 x3 x4 s = some t) : (gE (fun x => Fr (W_M_adds) s0 x.2.2) (fun r => Fr (W_M_adds) s0 r)) t := by
  unfold f_M_adds_10b at hf
  by_cases c1 : x2 < x4
  · have hf := gift c1 hf
    cases hf
    exact h0
  · have hf := giff c1 hf
    obtain ⟨j2, i3, hf⟩ := gbI hf
    obtain ⟨j4, i5, hf⟩ := gbI hf
    obtain ⟨s6, ee7, hf⟩ := gbL hf
    have hF8 : Fr (W_M_adds) s0 s6 := by rw [ee7]; exact Fr.u h0 (by simp [W_M_adds])
    obtain ⟨z9, hf⟩ := gbD hf
    cases hf
    exact hF8
theorem w_M_adds_10 (x1 : Int) (x2 : Int) (x3 : Int) (x4 : Int) (s0 s : kM) (h0 : Fr (W_M_adds) s0 s) (t : kM) (hf : f_M_adds_10 x1 x2 x3 x4 s = some t) : (fun r => Fr (W_M_adds) s0 r) t :=
  gL_fr (P := fun (x : Int × Int × kM) => Fr (W_M_adds) s0 x.2.2) (q := (fun r => Fr (W_M_adds) s0 r)) (fun x t hf h0 => w_M_adds_10b x1 x2 x.1 x.2.1 s0 x.2.2 h0 t hf) gF (x3, x4, s) t hf h0
theorem w_M_adds_7 (x1 : Int) (x2 : Int) (y0 : Int) (s0 s : kM) (h0 : Fr (W_M_adds) s0 s) (t : kM) (hf : f_M_adds_7 x1 x2 y0 s = some t) : (fun r => Fr (W_M_adds) s0 r) t := by
  unfold f_M_adds_7 at hf
  exact w_M_adds_10 x1 x2 y0 0 s0 s h0 _ hf
theorem w_M_adds (x1 : Int) (x2 : Int) (s : kM) (t : kM) (hf : f_M_adds x1 x2 s = some t) : Fr (W_M_adds) s t := by
  unfold f_M_adds at hf
  have h0 : Fr (W_M_adds) s s := Fr.r
  by_cases c1 : (krem x2 2) = 0
  · have hf := gift c1 hf
    exact w_M_adds_7 x1 x2 1 s s h0 _ hf
  · have hf := giff c1 hf
    exact w_M_adds_7 x1 x2 (-1) s s h0 _ hf
def W_M_fillsBracket : List Nat := [118, 119]
theorem w_M_fillsBracket_39 (x1 : Int) (x2 : Int) (s0 s : kM) (h0 : Fr (W_M_fillsBracket) s0 s) (t : (Int × kM) ⊕ (kM)) (hf : f_M_fillsBracket_39 x1 x2 s = some t) : (gE (fun x => Fr (W_M_fillsBracket) s0 x.2) (fun r => Fr (W_M_fillsBracket) s0 r)) t := by
  unfold f_M_fillsBracket_39 at hf
  cases hf
  exact h0
theorem w_M_fillsBracket_17b (x1 : Int) (x2 : Int) (s0 s : kM) (h0 : Fr (W_M_fillsBracket) s0 s) (t : (Int × kM) ⊕ (kM)) (hf : f_M_fillsBracket_17b x1 x2 s = some t) : (gE (fun x => Fr (W_M_fillsBracket) s0 x.2) (fun r => Fr (W_M_fillsBracket) s0 r)) t := by
  unfold f_M_fillsBracket_17b at hf
  by_cases c1 : 2048 ≤ x2
  · have hf := gift c1 hf
    cases hf
    exact h0
  · have hf := giff c1 hf
    by_cases c2 : (kand x2 x1) = x2
    · have hf := gift c2 hf
      obtain ⟨q3, hq3, hf⟩ := gbind hf
      obtain ⟨q4, hq4, hf⟩ := gbind hf
      obtain ⟨q5, hq5, hf⟩ := gbind hf
      have hF6 : Fr (W_M_fillsBracket) s0 q5.2 := Fr.c h0 (w_M_rings x2 s _ hq5) (by intro a ha; simp only [W_M_fillsBracket, W_M_rings, List.mem_cons, List.not_mem_nil, or_false, not_or] at ha ⊢; omega)
      obtain ⟨q7, hq7, hf⟩ := gbind hf
      have hF8 : Fr (W_M_fillsBracket) s0 q7 := Fr.c hF6 (w_M_adds (wI ((wI (2 * q3)) - q4)) (wI (q5.1 - 1)) q5.2 _ hq7) (by intro a ha; simp only [W_M_fillsBracket, W_M_adds, List.mem_cons, List.not_mem_nil, or_false, not_or] at ha ⊢; omega)
      exact w_M_fillsBracket_39 x1 x2 s0 q7 hF8 _ hf
    · have hf := giff c2 hf
      exact w_M_fillsBracket_39 x1 x2 s0 s h0 _ hf
theorem w_M_fillsBracket_17 (x1 : Int) (x2 : Int) (s0 s : kM) (h0 : Fr (W_M_fillsBracket) s0 s) (t : kM) (hf : f_M_fillsBracket_17 x1 x2 s = some t) : (fun r => Fr (W_M_fillsBracket) s0 r) t :=
  gL_fr (P := fun (x : Int × kM) => Fr (W_M_fillsBracket) s0 x.2) (q := (fun r => Fr (W_M_fillsBracket) s0 r)) (fun x t hf h0 => w_M_fillsBracket_17b x1 x.1 s0 x.2 h0 t hf) gF (x2, s) t hf h0
theorem w_M_fillsBracket_2b (x1 : Int) (s0 s : kM) (h0 : Fr (W_M_fillsBracket) s0 s) (t : (Int × kM) ⊕ (kM)) (hf : f_M_fillsBracket_2b x1 s = some t) : (gE (fun x => Fr (W_M_fillsBracket) s0 x.2) (fun r => Fr (W_M_fillsBracket) s0 r)) t := by
  unfold f_M_fillsBracket_2b at hf
  by_cases c1 : 199 ≤ x1
  · have hf := gift c1 hf
    obtain ⟨q2, hq2, hf⟩ := gbind hf
    obtain ⟨t3, hg4, rfl⟩ := gmap hf
    exact w_M_fillsBracket_17 q2 0 s0 s h0 _ hg4
  · have hf := giff c1 hf
    obtain ⟨j5, i6, hf⟩ := gbI hf
    obtain ⟨s7, ee8, hf⟩ := gbL hf
    have hF9 : Fr (W_M_fillsBracket) s0 s7 := by rw [ee8]; exact Fr.u h0 (by simp [W_M_fillsBracket])
    cases hf
    exact hF9
theorem w_M_fillsBracket_2 (x1 : Int) (s0 s : kM) (h0 : Fr (W_M_fillsBracket) s0 s) (t : kM) (hf : f_M_fillsBracket_2 x1 s = some t) : (fun r => Fr (W_M_fillsBracket) s0 r) t :=
  gL_fr (P := fun (x : Int × kM) => Fr (W_M_fillsBracket) s0 x.2) (q := (fun r => Fr (W_M_fillsBracket) s0 r)) (fun x t hf h0 => w_M_fillsBracket_2b x.1 s0 x.2 h0 t hf) gF (x1, s) t hf h0
theorem w_M_fillsBracket (s : kM) (t : kM) (hf : f_M_fillsBracket s = some t) : Fr (W_M_fillsBracket) s t := by
  unfold f_M_fillsBracket at hf
  have h0 : Fr (W_M_fillsBracket) s s := Fr.r
  exact w_M_fillsBracket_2 0 s s h0 _ hf
def W_M_polynomial : List Nat := [118, 119]
theorem w_M_polynomial_47 (x1 : Int) (x3 : Int) (y0 : Int) (s0 s : kM) (h0 : Fr (W_M_polynomial) s0 s) (t : Int × kM) (hf : f_M_polynomial_47 x1 x3 y0 s = some t) : (fun r => Fr (W_M_polynomial) s0 r.2) t := by
  unfold f_M_polynomial_47 at hf
  by_cases c1 : x1 = 1
  · have hf := gift c1 hf
    by_cases c2 : (krem x3 2) = 0
    · have hf := gift c2 hf
      cases hf
      exact h0
    · have hf := giff c2 hf
      cases hf
      exact h0
  · have hf := giff c1 hf
    cases hf
    exact h0
theorem w_M_polynomial_32 (x1 : Int) (x3 : Int) (y0 : Int) (s0 s : kM) (h0 : Fr (W_M_polynomial) s0 s) (t : Int × kM) (hf : f_M_polynomial_32 x1 x3 y0 s = some t) : (fun r => Fr (W_M_polynomial) s0 r.2) t := by
  unfold f_M_polynomial_32 at hf
  obtain ⟨q1, hq1, hf⟩ := gbind hf
  by_cases c2 : q1 = 0
  · have hf := gift c2 hf
    exact w_M_polynomial_47 x1 x3 0 s0 s h0 _ hf
  · have hf := giff c2 hf
    obtain ⟨j3, i4, hf⟩ := gbI hf
    exact w_M_polynomial_47 x1 x3 (s 118 j3) s0 s h0 _ hf
theorem w_M_polynomial (x1 : Int) (x2 : Int) (s : kM) (t : Int × kM) (hf : f_M_polynomial x1 x2 s = some t) : Fr (W_M_polynomial) s t.2 := by
  unfold f_M_polynomial at hf
  have h0 : Fr (W_M_polynomial) s s := Fr.r
  obtain ⟨q1, hq1, hf⟩ := gbind hf
  by_cases c2 : q1 = 0
  · have hf := gift c2 hf
    cases hf
    exact h0
  · have hf := giff c2 hf
    obtain ⟨q3, hq3, hf⟩ := gbind hf
    by_cases c4 : q3 = 0
    · have hf := gift c4 hf
      cases hf
      exact h0
    · have hf := giff c4 hf
      obtain ⟨q5, hq5, hf⟩ := gbind hf
      by_cases c6 : q5 = 0
      · have hf := gift c6 hf
        cases hf
        exact h0
      · have hf := giff c6 hf
        obtain ⟨q7, hq7, hf⟩ := gbind hf
        have hF8 : Fr (W_M_polynomial) s q7 := Fr.c h0 (w_M_fillsBracket s _ hq7) (by intro a ha; simp only [W_M_polynomial, W_M_fillsBracket, List.mem_cons, List.not_mem_nil, or_false, not_or] at ha ⊢; omega)
        obtain ⟨q9, hq9, hf⟩ := gbind hf
        by_cases c10 : x1 = 0
        · have hf := gift c10 hf
          exact w_M_polynomial_32 x1 q9 x2 s q7 hF8 _ hf
        · have hf := giff c10 hf
          exact w_M_polynomial_32 x1 q9 (wI (x2 + (wI (3 * q9)))) s q7 hF8 _ hf
def W_M_fillsRow : List Nat := [120]
theorem w_M_fillsRow_53 (x1 : Int) (x2 : Int) (y1 : Int) (y2 : Int) (s0 s : kM) (h0 : Fr (W_M_fillsRow) s0 s) (t : (Int × kM) ⊕ (kM)) (hf : f_M_fillsRow_53 x1 x2 y1 y2 s = some t) : (gE (fun x => Fr (W_M_fillsRow) s0 x.2) (fun r => Fr (W_M_fillsRow) s0 r)) t := by
  unfold f_M_fillsRow_53 at hf
  obtain ⟨j1, i2, hf⟩ := gbI hf
  obtain ⟨s3, ee4, hf⟩ := gbL hf
  have hF5 : Fr (W_M_fillsRow) s0 s3 := by rw [ee4]; exact Fr.u h0 (by simp [W_M_fillsRow])
  cases hf
  exact hF5
theorem w_M_fillsRow_24b (x1 : Int) (x2 : Int) (s0 s : kM) (h0 : Fr (W_M_fillsRow) s0 s) (t : (Int × kM) ⊕ (kM)) (hf : f_M_fillsRow_24b x1 x2 s = some t) : (gE (fun x => Fr (W_M_fillsRow) s0 x.2) (fun r => Fr (W_M_fillsRow) s0 r)) t := by
  unfold f_M_fillsRow_24b at hf
  by_cases c1 : 22 ≤ x2
  · have hf := gift c1 hf
    cases hf
    exact h0
  · have hf := giff c1 hf
    obtain ⟨q2, hq2, hf⟩ := gbind hf
    by_cases c3 : q2 ≤ x2
    · have hf := gift c3 hf
      exact w_M_fillsRow_53 x1 x2 (wI ((wI ((wI (24 * x1)) + 2)) + x2)) (-1) s0 s h0 _ hf
    · have hf := giff c3 hf
      obtain ⟨j4, i5, hf⟩ := gbI hf
      obtain ⟨j6, i7, hf⟩ := gbI hf
      exact w_M_fillsRow_53 x1 x2 (wI ((wI ((wI (24 * x1)) + 2)) + x2)) (wI ((wI (2 * (s 87 j4))) + (s 88 j6))) s0 s h0 _ hf
theorem w_M_fillsRow_24 (x1 : Int) (x2 : Int) (s0 s : kM) (h0 : Fr (W_M_fillsRow) s0 s) (t : kM) (hf : f_M_fillsRow_24 x1 x2 s = some t) : (fun r => Fr (W_M_fillsRow) s0 r) t :=
  gL_fr (P := fun (x : Int × kM) => Fr (W_M_fillsRow) s0 x.2) (q := (fun r => Fr (W_M_fillsRow) s0 r)) (fun x t hf h0 => w_M_fillsRow_24b x1 x.1 s0 x.2 h0 t hf) gF (x2, s) t hf h0
theorem w_M_fillsRow (x1 : Int) (s : kM) (t : kM) (hf : f_M_fillsRow x1 s = some t) : Fr (W_M_fillsRow) s t := by
  unfold f_M_fillsRow at hf
  have h0 : Fr (W_M_fillsRow) s s := Fr.r
  obtain ⟨j1, i2, hf⟩ := gbI hf
  obtain ⟨s3, ee4, hf⟩ := gbL hf
  have hF5 : Fr (W_M_fillsRow) s s3 := by rw [ee4]; exact Fr.u h0 (by simp [W_M_fillsRow])
  obtain ⟨j6, i7, hf⟩ := gbI hf
  obtain ⟨s8, ee9, hf⟩ := gbL hf
  have hF10 : Fr (W_M_fillsRow) s s8 := by rw [ee9]; exact Fr.u hF5 (by simp [W_M_fillsRow])
  exact w_M_fillsRow_24 x1 0 s s8 hF10 _ hf
def W_M_isOld : List Nat := [120]
theorem w_M_isOld_43 (x1 : Int) (x2 : Int) (s0 s : kM) (h0 : Fr (W_M_isOld) s0 s) (t : (Int) ⊕ (Int × kM)) (hf : f_M_isOld_43 x1 x2 s = some t) : (gE (fun x => Fr (W_M_isOld) s0 s) (fun r => Fr (W_M_isOld) s0 r.2)) t := by
  unfold f_M_isOld_43 at hf
  by_cases c1 : x2 = 0
  · have hf := gift c1 hf
    cases hf
    exact h0
  · have hf := giff c1 hf
    cases hf
    exact h0
theorem w_M_isOld_40 (x1 : Int) (x3 : Int) (y0 : Int) (s0 s : kM) (h0 : Fr (W_M_isOld) s0 s) (t : (Int × Int) ⊕ ((Int) ⊕ (Int × kM))) (hf : f_M_isOld_40 x1 x3 y0 s = some t) : (gE (fun x => Fr (W_M_isOld) s0 s) (gE (fun x => Fr (W_M_isOld) s0 s) (fun r => Fr (W_M_isOld) s0 r.2))) t := by
  unfold f_M_isOld_40 at hf
  cases hf
  exact h0
theorem w_M_isOld_14b (x1 : Int) (x2 : Int) (x3 : Int) (s0 s : kM) (h0 : Fr (W_M_isOld) s0 s) (t : (Int × Int) ⊕ ((Int) ⊕ (Int × kM))) (hf : f_M_isOld_14b x1 x2 x3 s = some t) : (gE (fun x => Fr (W_M_isOld) s0 s) (gE (fun x => Fr (W_M_isOld) s0 s) (fun r => Fr (W_M_isOld) s0 r.2))) t := by
  unfold f_M_isOld_14b at hf
  by_cases c1 : 24 ≤ x3
  · have hf := gift c1 hf
    obtain ⟨t2, hg3, rfl⟩ := gmap hf
    exact w_M_isOld_43 x1 x2 s0 s h0 _ hg3
  · have hf := giff c1 hf
    by_cases c4 : x2 = 0
    · have hf := gift c4 hf
      obtain ⟨t5, hg6, rfl⟩ := gmap hf
      exact w_M_isOld_43 x1 x2 s0 s h0 _ hg6
    · have hf := giff c4 hf
      obtain ⟨j7, i8, hf⟩ := gbI hf
      obtain ⟨j9, i10, hf⟩ := gbI hf
      by_cases c11 : (s 120 j7) = (s 120 j9)
      · have hf := gift c11 hf
        exact w_M_isOld_40 x1 x3 1 s0 s h0 _ hf
      · have hf := giff c11 hf
        exact w_M_isOld_40 x1 x3 0 s0 s h0 _ hf
theorem w_M_isOld_14 (x1 : Int) (x2 : Int) (x3 : Int) (s0 s : kM) (h0 : Fr (W_M_isOld) s0 s) (t : (Int) ⊕ (Int × kM)) (hf : f_M_isOld_14 x1 x2 x3 s = some t) : (gE (fun x => Fr (W_M_isOld) s0 s) (fun r => Fr (W_M_isOld) s0 r.2)) t :=
  gL_fr (P := fun (x : Int × Int) => Fr (W_M_isOld) s0 s) (q := (gE (fun x => Fr (W_M_isOld) s0 s) (fun r => Fr (W_M_isOld) s0 r.2))) (fun x t hf h0 => w_M_isOld_14b x1 x.1 x.2 s0 s h0 t hf) gF (x2, x3) t hf h0
theorem w_M_isOld_6b (x1 : Int) (s0 s : kM) (h0 : Fr (W_M_isOld) s0 s) (t : (Int) ⊕ (Int × kM)) (hf : f_M_isOld_6b x1 s = some t) : (gE (fun x => Fr (W_M_isOld) s0 s) (fun r => Fr (W_M_isOld) s0 r.2)) t := by
  unfold f_M_isOld_6b at hf
  by_cases c1 : (s 85 52) ≤ x1
  · have hf := gift c1 hf
    cases hf
    exact h0
  · have hf := giff c1 hf
    exact w_M_isOld_14 x1 1 0 s0 s h0 _ hf
theorem w_M_isOld_6 (x1 : Int) (s0 s : kM) (h0 : Fr (W_M_isOld) s0 s) (t : Int × kM) (hf : f_M_isOld_6 x1 s = some t) : (fun r => Fr (W_M_isOld) s0 r.2) t :=
  gL_fr (P := fun (x : Int) => Fr (W_M_isOld) s0 s) (q := (fun r => Fr (W_M_isOld) s0 r.2)) (fun x t hf h0 => w_M_isOld_6b x s0 s h0 t hf) gF (x1) t hf h0
theorem w_M_isOld (s : kM) (t : Int × kM) (hf : f_M_isOld s = some t) : Fr (W_M_isOld) s t.2 := by
  unfold f_M_isOld at hf
  have h0 : Fr (W_M_isOld) s s := Fr.r
  obtain ⟨q1, hq1, hf⟩ := gbind hf
  have hF2 : Fr (W_M_isOld) s q1 := Fr.c h0 (w_M_fillsRow (s 85 52) s _ hq1) (by intro a ha; simp only [W_M_isOld, W_M_fillsRow, List.mem_cons, List.not_mem_nil, or_false, not_or] at ha ⊢; omega)
  exact w_M_isOld_6 0 s q1 hF2 _ hf
def W_M_comes : List Nat := [85, 120, 121, 122]
theorem w_M_comes_40 (y1 : Int) (s0 s : kM) (h0 : Fr (W_M_comes) s0 s) (t : Int × kM) (hf : f_M_comes_40 y1 s = some t) : (fun r => Fr (W_M_comes) s0 r.2) t := by
  unfold f_M_comes_40 at hf
  obtain ⟨s1, ee2, hf⟩ := gbL hf
  have hF3 : Fr (W_M_comes) s0 s1 := by rw [ee2]; exact Fr.u h0 (by simp [W_M_comes])
  obtain ⟨s4, ee5, hf⟩ := gbL hf
  have hF6 : Fr (W_M_comes) s0 s4 := by rw [ee5]; exact Fr.u hF3 (by simp [W_M_comes])
  cases hf
  exact hF6
theorem w_M_comes_20 (x1 : Int) (x2 : Int) (x3 : Int) (s0 s : kM) (h0 : Fr (W_M_comes) s0 s) (t : Int × kM) (hf : f_M_comes_20 x1 x2 x3 s = some t) : (fun r => Fr (W_M_comes) s0 r.2) t := by
  unfold f_M_comes_20 at hf
  obtain ⟨j1, i2, hf⟩ := gbI hf
  obtain ⟨s3, ee4, hf⟩ := gbL hf
  have hF5 : Fr (W_M_comes) s0 s3 := by rw [ee4]; exact Fr.u h0 (by simp [W_M_comes])
  obtain ⟨j6, i7, hf⟩ := gbI hf
  obtain ⟨s8, ee9, hf⟩ := gbL hf
  have hF10 : Fr (W_M_comes) s0 s8 := by rw [ee9]; exact Fr.u hF5 (by simp [W_M_comes])
  by_cases c11 : x3 = 0
  · have hf := gift c11 hf
    exact w_M_comes_40 (s8 85 53) s0 s8 hF10 _ hf
  · have hf := giff c11 hf
    exact w_M_comes_40 (s8 85 52) s0 s8 hF10 _ hf
theorem w_M_comes_11 (x1 : Int) (x2 : Int) (y0 : Int) (s0 s : kM) (h0 : Fr (W_M_comes) s0 s) (t : Int × kM) (hf : f_M_comes_11 x1 x2 y0 s = some t) : (fun r => Fr (W_M_comes) s0 r.2) t := by
  unfold f_M_comes_11 at hf
  by_cases c1 : (s 85 52) = 300
  · have hf := gift c1 hf
    by_cases c2 : y0 = 0
    · have hf := gift c2 hf
      cases hf
      exact h0
    · have hf := giff c2 hf
      exact w_M_comes_20 x1 x2 y0 s0 s h0 _ hf
  · have hf := giff c1 hf
    exact w_M_comes_20 x1 x2 y0 s0 s h0 _ hf
theorem w_M_comes (x1 : Int) (x2 : Int) (s : kM) (t : Int × kM) (hf : f_M_comes x1 x2 s = some t) : Fr (W_M_comes) s t.2 := by
  unfold f_M_comes at hf
  have h0 : Fr (W_M_comes) s s := Fr.r
  obtain ⟨q1, hq1, hf⟩ := gbind hf
  have hF2 : Fr (W_M_comes) s q1.2 := Fr.c h0 (w_M_isOld s _ hq1) (by intro a ha; simp only [W_M_comes, W_M_isOld, List.mem_cons, List.not_mem_nil, or_false, not_or] at ha ⊢; omega)
  by_cases c3 : q1.1 = 0
  · have hf := gift c3 hf
    obtain ⟨q4, hq4, hf⟩ := gbind hf
    by_cases c5 : q4 = 0
    · have hf := gift c5 hf
      exact w_M_comes_11 x1 x2 1 s q1.2 hF2 _ hf
    · have hf := giff c5 hf
      exact w_M_comes_11 x1 x2 0 s q1.2 hF2 _ hf
  · have hf := giff c3 hf
    cases hf
    exact hF2
def W_M_laysRow : List Nat := [86, 87, 88, 98, 99]
theorem w_M_laysRow_24b (x1 : Int) (x2 : Int) (s0 s : kM) (h0 : Fr (W_M_laysRow) s0 s) (t : (Int × kM) ⊕ (kM)) (hf : f_M_laysRow_24b x1 x2 s = some t) : (gE (fun x => Fr (W_M_laysRow) s0 x.2) (fun r => Fr (W_M_laysRow) s0 r)) t := by
  unfold f_M_laysRow_24b at hf
  obtain ⟨q1, hq1, hf⟩ := gbind hf
  by_cases c2 : q1 ≤ x2
  · have hf := gift c2 hf
    obtain ⟨q3, hq3, hf⟩ := gbind hf
    have hF4 : Fr (W_M_laysRow) s0 q3 := Fr.c h0 (w_M_refresh s _ hq3) (by intro a ha; simp only [W_M_laysRow, W_M_refresh, List.mem_cons, List.not_mem_nil, or_false, not_or] at ha ⊢; omega)
    cases hf
    exact hF4
  · have hf := giff c2 hf
    obtain ⟨j5, i6, hf⟩ := gbI hf
    obtain ⟨j7, i8, hf⟩ := gbI hf
    obtain ⟨s9, ee10, hf⟩ := gbL hf
    have hF11 : Fr (W_M_laysRow) s0 s9 := by rw [ee10]; exact Fr.u h0 (by simp [W_M_laysRow])
    obtain ⟨j12, i13, hf⟩ := gbI hf
    obtain ⟨j14, i15, hf⟩ := gbI hf
    obtain ⟨s16, ee17, hf⟩ := gbL hf
    have hF18 : Fr (W_M_laysRow) s0 s16 := by rw [ee17]; exact Fr.u hF11 (by simp [W_M_laysRow])
    cases hf
    exact hF18
theorem w_M_laysRow_24 (x1 : Int) (x2 : Int) (s0 s : kM) (h0 : Fr (W_M_laysRow) s0 s) (t : kM) (hf : f_M_laysRow_24 x1 x2 s = some t) : (fun r => Fr (W_M_laysRow) s0 r) t :=
  gL_fr (P := fun (x : Int × kM) => Fr (W_M_laysRow) s0 x.2) (q := (fun r => Fr (W_M_laysRow) s0 r)) (fun x t hf h0 => w_M_laysRow_24b x1 x.1 s0 x.2 h0 t hf) gF (x2, s) t hf h0
theorem w_M_laysRow (x1 : Int) (s : kM) (t : kM) (hf : f_M_laysRow x1 s = some t) : Fr (W_M_laysRow) s t := by
  unfold f_M_laysRow at hf
  have h0 : Fr (W_M_laysRow) s s := Fr.r
  obtain ⟨j1, i2, hf⟩ := gbI hf
  obtain ⟨s3, ee4, hf⟩ := gbL hf
  have hF5 : Fr (W_M_laysRow) s s3 := by rw [ee4]; exact Fr.u h0 (by simp [W_M_laysRow])
  obtain ⟨j6, i7, hf⟩ := gbI hf
  obtain ⟨s8, ee9, hf⟩ := gbL hf
  have hF10 : Fr (W_M_laysRow) s s8 := by rw [ee9]; exact Fr.u hF5 (by simp [W_M_laysRow])
  exact w_M_laysRow_24 x1 0 s s8 hF10 _ hf
def W_M_does : List Nat := [86, 87, 88, 98, 99]
theorem w_M_does (x1 : Int) (s : kM) (t : kM) (hf : f_M_does x1 s = some t) : Fr (W_M_does) s t := by
  unfold f_M_does at hf
  have h0 : Fr (W_M_does) s s := Fr.r
  obtain ⟨q1, hq1, hf⟩ := gbind hf
  obtain ⟨q2, hq2, hf⟩ := gbind hf
  by_cases c3 : q2 = 1
  · have hf := gift c3 hf
    obtain ⟨q4, hq4, hf⟩ := gbind hf
    have hF5 : Fr (W_M_does) s q4 := Fr.c h0 (w_M_removes (kshl 1 q1) s _ hq4) (by intro a ha; simp only [W_M_does, W_M_removes, List.mem_cons, List.not_mem_nil, or_false, not_or] at ha ⊢; omega)
    cases hf
    exact hF5
  have hf := giff c3 hf
  by_cases c6 : q2 = 2
  · have hf := gift c6 hf
    obtain ⟨q7, hq7, hf⟩ := gbind hf
    obtain ⟨q8, hq8, hf⟩ := gbind hf
    have hF9 : Fr (W_M_does) s q8 := Fr.c h0 (w_M_removes (kor (kshl 1 q1) (kshl 1 q7)) s _ hq8) (by intro a ha; simp only [W_M_does, W_M_removes, List.mem_cons, List.not_mem_nil, or_false, not_or] at ha ⊢; omega)
    cases hf
    exact hF9
  have hf := giff c6 hf
  obtain ⟨q10, hq10, hf⟩ := gbind hf
  have hF11 : Fr (W_M_does) s q10 := Fr.c h0 (w_M_slides s _ hq10) (by intro a ha; simp only [W_M_does, W_M_slides, List.mem_cons, List.not_mem_nil, or_false, not_or] at ha ⊢; omega)
  cases hf
  exact hF11
def W_M_finds : List Nat := [85, 86, 87, 88, 89, 94, 95, 96, 97, 98, 99, 100, 101, 102, 103, 116, 120, 121, 122]
theorem w_M_finds_80b (x2 : Int) (x3 : Int) (s0 s : kM) (h0 : Fr (W_M_finds) s0 s) (t : (Int × Int) ⊕ (Int × kM)) (hf : f_M_finds_80b x2 x3 s = some t) : (gE (fun x => Fr (W_M_finds) s0 s) (fun r => Fr (W_M_finds) s0 r.2)) t := by
  unfold f_M_finds_80b at hf
  obtain ⟨j1, i2, hf⟩ := gbI hf
  by_cases c3 : (s 121 j1) = (-1)
  · have hf := gift c3 hf
    cases hf
    exact h0
  · have hf := giff c3 hf
    obtain ⟨j4, i5, hf⟩ := gbI hf
    cases hf
    exact h0
theorem w_M_finds_80 (x2 : Int) (x3 : Int) (s0 s : kM) (h0 : Fr (W_M_finds) s0 s) (t : Int × kM) (hf : f_M_finds_80 x2 x3 s = some t) : (fun r => Fr (W_M_finds) s0 r.2) t :=
  gL_fr (P := fun (x : Int × Int) => Fr (W_M_finds) s0 s) (q := (fun r => Fr (W_M_finds) s0 r.2)) (fun x t hf h0 => w_M_finds_80b x.1 x.2 s0 s h0 t hf) gF (x2, x3) t hf h0
theorem w_M_finds_63 (x1 : Int) (s0 s : kM) (h0 : Fr (W_M_finds) s0 s) (t : Int × kM) (hf : f_M_finds_63 x1 s = some t) : (fun r => Fr (W_M_finds) s0 r.2) t := by
  unfold f_M_finds_63 at hf
  obtain ⟨q1, hq1, hf⟩ := gbind hf
  have hF2 : Fr (W_M_finds) s0 q1 := Fr.c h0 (w_M_laysBack s _ hq1) (by intro a ha; simp only [W_M_finds, W_M_laysBack, List.mem_cons, List.not_mem_nil, or_false, not_or] at ha ⊢; omega)
  by_cases c3 : (q1 85 53) = (-1)
  · have hf := gift c3 hf
    by_cases c4 : x1 = 0
    · have hf := gift c4 hf
      cases hf
      exact hF2
    · have hf := giff c4 hf
      cases hf
      exact hF2
  · have hf := giff c3 hf
    exact w_M_finds_80 0 (q1 85 53) s0 q1 hF2 _ hf
theorem w_M_finds_61 (x1 : Int) (x2 : Int) (s0 s : kM) (h0 : Fr (W_M_finds) s0 s) (t : (Int × Int × kM) ⊕ (Int × kM)) (hf : f_M_finds_61 x1 x2 s = some t) : (gE (fun x => Fr (W_M_finds) s0 x.2.2) (fun r => Fr (W_M_finds) s0 r.2)) t := by
  unfold f_M_finds_61 at hf
  cases hf
  exact h0
theorem w_M_finds_59 (x1 : Int) (x2 : Int) (x3 : Int) (s0 s : kM) (h0 : Fr (W_M_finds) s0 s) (t : (Int × Int × kM) ⊕ ((Int × Int × kM) ⊕ (Int × kM))) (hf : f_M_finds_59 x1 x2 x3 s = some t) : (gE (fun x => Fr (W_M_finds) s0 x.2.2) (gE (fun x => Fr (W_M_finds) s0 x.2.2) (fun r => Fr (W_M_finds) s0 r.2))) t := by
  unfold f_M_finds_59 at hf
  cases hf
  exact h0
theorem w_M_finds_35b (x1 : Int) (x2 : Int) (x3 : Int) (s0 s : kM) (h0 : Fr (W_M_finds) s0 s) (t : (Int × Int × kM) ⊕ ((Int × Int × kM) ⊕ (Int × kM))) (hf : f_M_finds_35b x1 x2 x3 s = some t) : (gE (fun x => Fr (W_M_finds) s0 x.2.2) (gE (fun x => Fr (W_M_finds) s0 x.2.2) (fun r => Fr (W_M_finds) s0 r.2))) t := by
  unfold f_M_finds_35b at hf
  by_cases c1 : 1463 ≤ x3
  · have hf := gift c1 hf
    obtain ⟨t2, hg3, rfl⟩ := gmap hf
    exact w_M_finds_61 x1 x2 s0 s h0 _ hg3
  · have hf := giff c1 hf
    by_cases c4 : (s 85 53) = (-1)
    · have hf := gift c4 hf
      by_cases c7 : x1 = 0
      · have hf := gift c7 hf
        obtain ⟨q10, hq10, hf⟩ := gbind hf
        have hF11 : Fr (W_M_finds) s0 q10.2 := Fr.c h0 (w_M_canMove x3 s _ hq10) (by intro a ha; simp only [W_M_finds, W_M_canMove, List.mem_cons, List.not_mem_nil, or_false, not_or] at ha ⊢; omega)
        by_cases c12 : q10.1 = 0
        · have hf := gift c12 hf
          exact w_M_finds_59 x1 x2 x3 s0 q10.2 hF11 _ hf
        · have hf := giff c12 hf
          obtain ⟨q13, hq13, hf⟩ := gbind hf
          have hF14 : Fr (W_M_finds) s0 q13 := Fr.c hF11 (w_M_does x3 q10.2 _ hq13) (by intro a ha; simp only [W_M_finds, W_M_does, List.mem_cons, List.not_mem_nil, or_false, not_or] at ha ⊢; omega)
          obtain ⟨q15, hq15, hf⟩ := gbind hf
          have hF16 : Fr (W_M_finds) s0 q15.2 := Fr.c hF14 (w_M_comes x2 x3 q13 _ hq15) (by intro a ha; simp only [W_M_finds, W_M_comes, List.mem_cons, List.not_mem_nil, or_false, not_or] at ha ⊢; omega)
          obtain ⟨q17, hq17, hf⟩ := gbind hf
          have hF18 : Fr (W_M_finds) s0 q17 := Fr.c hF16 (w_M_laysRow x2 q15.2 _ hq17) (by intro a ha; simp only [W_M_finds, W_M_laysRow, List.mem_cons, List.not_mem_nil, or_false, not_or] at ha ⊢; omega)
          exact w_M_finds_59 q15.1 x2 x3 s0 q17 hF18 _ hf
      · have hf := giff c7 hf
        obtain ⟨t8, hg9, rfl⟩ := gmap hf
        exact w_M_finds_61 x1 x2 s0 s h0 _ hg9
    · have hf := giff c4 hf
      obtain ⟨t5, hg6, rfl⟩ := gmap hf
      exact w_M_finds_61 x1 x2 s0 s h0 _ hg6
theorem w_M_finds_35 (x1 : Int) (x2 : Int) (x3 : Int) (s0 s : kM) (h0 : Fr (W_M_finds) s0 s) (t : (Int × Int × kM) ⊕ (Int × kM)) (hf : f_M_finds_35 x1 x2 x3 s = some t) : (gE (fun x => Fr (W_M_finds) s0 x.2.2) (fun r => Fr (W_M_finds) s0 r.2)) t :=
  gL_fr (P := fun (x : Int × Int × kM) => Fr (W_M_finds) s0 x.2.2) (q := (gE (fun x => Fr (W_M_finds) s0 x.2.2) (fun r => Fr (W_M_finds) s0 r.2))) (fun x t hf h0 => w_M_finds_35b x.1 x2 x.2.1 s0 x.2.2 h0 t hf) gF (x1, x3, s) t hf h0
theorem w_M_finds_15b (x1 : Int) (x2 : Int) (s0 s : kM) (h0 : Fr (W_M_finds) s0 s) (t : (Int × Int × kM) ⊕ (Int × kM)) (hf : f_M_finds_15b x1 x2 s = some t) : (gE (fun x => Fr (W_M_finds) s0 x.2.2) (fun r => Fr (W_M_finds) s0 r.2)) t := by
  unfold f_M_finds_15b at hf
  by_cases c1 : (s 85 52) ≤ x2
  · have hf := gift c1 hf
    obtain ⟨t2, hg3, rfl⟩ := gmap hf
    exact w_M_finds_63 x1 s0 s h0 _ hg3
  · have hf := giff c1 hf
    by_cases c4 : 300 ≤ x2
    · have hf := gift c4 hf
      obtain ⟨t5, hg6, rfl⟩ := gmap hf
      exact w_M_finds_63 x1 s0 s h0 _ hg6
    · have hf := giff c4 hf
      by_cases c7 : (s 85 53) = (-1)
      · have hf := gift c7 hf
        by_cases c10 : x1 = 0
        · have hf := gift c10 hf
          obtain ⟨q13, hq13, hf⟩ := gbind hf
          have hF14 : Fr (W_M_finds) s0 q13 := Fr.c h0 (w_M_laysRow x2 s _ hq13) (by intro a ha; simp only [W_M_finds, W_M_laysRow, List.mem_cons, List.not_mem_nil, or_false, not_or] at ha ⊢; omega)
          obtain ⟨q15, hq15, hf⟩ := gbind hf
          have hF16 : Fr (W_M_finds) s0 q15 := Fr.c hF14 (w_M_fillsLand q13 _ hq15) (by intro a ha; simp only [W_M_finds, W_M_fillsLand, List.mem_cons, List.not_mem_nil, or_false, not_or] at ha ⊢; omega)
          exact w_M_finds_35 x1 x2 0 s0 q15 hF16 _ hf
        · have hf := giff c10 hf
          obtain ⟨t11, hg12, rfl⟩ := gmap hf
          exact w_M_finds_63 x1 s0 s h0 _ hg12
      · have hf := giff c7 hf
        obtain ⟨t8, hg9, rfl⟩ := gmap hf
        exact w_M_finds_63 x1 s0 s h0 _ hg9
theorem w_M_finds_15 (x1 : Int) (x2 : Int) (s0 s : kM) (h0 : Fr (W_M_finds) s0 s) (t : Int × kM) (hf : f_M_finds_15 x1 x2 s = some t) : (fun r => Fr (W_M_finds) s0 r.2) t :=
  gL_fr (P := fun (x : Int × Int × kM) => Fr (W_M_finds) s0 x.2.2) (q := (fun r => Fr (W_M_finds) s0 r.2)) (fun x t hf h0 => w_M_finds_15b x.1 x.2.1 s0 x.2.2 h0 t hf) gF (x1, x2, s) t hf h0
theorem w_M_finds (s : kM) (t : Int × kM) (hf : f_M_finds s = some t) : Fr (W_M_finds) s t.2 := by
  unfold f_M_finds at hf
  have h0 : Fr (W_M_finds) s s := Fr.r
  obtain ⟨q1, hq1, hf⟩ := gbind hf
  have hF2 : Fr (W_M_finds) s q1 := Fr.c h0 (w_M_keeps s _ hq1) (by intro a ha; simp only [W_M_finds, W_M_keeps, List.mem_cons, List.not_mem_nil, or_false, not_or] at ha ⊢; omega)
  obtain ⟨s3, ee4, hf⟩ := gbL hf
  have hF5 : Fr (W_M_finds) s s3 := by rw [ee4]; exact Fr.u hF2 (by simp [W_M_finds])
  obtain ⟨s6, ee7, hf⟩ := gbL hf
  have hF8 : Fr (W_M_finds) s s6 := by rw [ee7]; exact Fr.u hF5 (by simp [W_M_finds])
  obtain ⟨q9, hq9, hf⟩ := gbind hf
  have hF10 : Fr (W_M_finds) s q9.2 := Fr.c hF8 (w_M_comes (-1) (-1) s6 _ hq9) (by intro a ha; simp only [W_M_finds, W_M_comes, List.mem_cons, List.not_mem_nil, or_false, not_or] at ha ⊢; omega)
  exact w_M_finds_15 q9.1 0 s q9.2 hF10 _ hf
def W_M_shaken : List Nat := [85, 86, 87, 88, 89, 94, 95, 96, 97, 98, 99, 100, 101, 102, 103, 116, 120, 121, 122]
theorem w_M_shaken (s : kM) (t : Int × kM) (hf : f_M_shaken s = some t) : Fr (W_M_shaken) s t.2 := by
  unfold f_M_shaken at hf
  have h0 : Fr (W_M_shaken) s s := Fr.r
  obtain ⟨q1, hq1, hf⟩ := gbind hf
  by_cases c2 : q1 = 0
  · have hf := gift c2 hf
    cases hf
    exact h0
  · have hf := giff c2 hf
    obtain ⟨q3, hq3, hf⟩ := gbind hf
    have hF4 : Fr (W_M_shaken) s q3.2 := Fr.c h0 (w_M_finds s _ hq3) (by intro a ha; simp only [W_M_shaken, W_M_finds, List.mem_cons, List.not_mem_nil, or_false, not_or] at ha ⊢; omega)
    cases hf
    exact hF4
def W_M_row : List Nat := [85, 86, 87, 88, 89, 94, 95, 96, 97, 98, 99, 100, 101, 102, 103, 116, 120, 121, 122]
theorem w_M_row_21 (x3 : Int) (s0 s : kM) (h0 : Fr (W_M_row) s0 s) (t : Int × kM) (hf : f_M_row_21 x3 s = some t) : (fun r => Fr (W_M_row) s0 r.2) t := by
  unfold f_M_row_21 at hf
  by_cases c1 : 0 ≤ x3
  · have hf := gift c1 hf
    cases hf
    exact h0
  · have hf := giff c1 hf
    cases hf
    exact h0
theorem w_M_row_34b (x1 : Int) (x2 : Int) (x4 : Int) (x5 : Int) (s0 s : kM) (h0 : Fr (W_M_row) s0 s) (t : (Int × Int) ⊕ (Int × kM)) (hf : f_M_row_34b x1 x2 x4 x5 s = some t) : (gE (fun x => Fr (W_M_row) s0 s) (fun r => Fr (W_M_row) s0 r.2)) t := by
  unfold f_M_row_34b at hf
  by_cases c1 : x5 ≤ x1
  · have hf := gift c1 hf
    by_cases c2 : x2 = 0
    · have hf := gift c2 hf
      obtain ⟨j6, i7, hf⟩ := gbI hf
      obtain ⟨q8, hq8, hf⟩ := gbind hf
      cases hf
      exact h0
    · have hf := giff c2 hf
      obtain ⟨j3, i4, hf⟩ := gbI hf
      obtain ⟨q5, hq5, hf⟩ := gbind hf
      cases hf
      exact h0
  · have hf := giff c1 hf
    obtain ⟨j9, i10, hf⟩ := gbI hf
    cases hf
    exact h0
theorem w_M_row_34 (x1 : Int) (x2 : Int) (x4 : Int) (x5 : Int) (s0 s : kM) (h0 : Fr (W_M_row) s0 s) (t : Int × kM) (hf : f_M_row_34 x1 x2 x4 x5 s = some t) : (fun r => Fr (W_M_row) s0 r.2) t :=
  gL_fr (P := fun (x : Int × Int) => Fr (W_M_row) s0 s) (q := (fun r => Fr (W_M_row) s0 r.2)) (fun x t hf h0 => w_M_row_34b x1 x2 x.1 x.2 s0 s h0 t hf) gF (x4, x5) t hf h0
theorem w_M_row (x1 : Int) (x2 : Int) (s : kM) (t : Int × kM) (hf : f_M_row x1 x2 s = some t) : Fr (W_M_row) s t.2 := by
  unfold f_M_row at hf
  have h0 : Fr (W_M_row) s s := Fr.r
  obtain ⟨q1, hq1, hf⟩ := gbind hf
  by_cases c2 : q1 = 0
  · have hf := gift c2 hf
    cases hf
    exact h0
  · have hf := giff c2 hf
    by_cases c3 : x1 < 0
    · have hf := gift c3 hf
      cases hf
      exact h0
    · have hf := giff c3 hf
      obtain ⟨q4, hq4, hf⟩ := gbind hf
      by_cases c5 : q4 = 0
      · have hf := gift c5 hf
        cases hf
        exact h0
      · have hf := giff c5 hf
        obtain ⟨q6, hq6, hf⟩ := gbind hf
        have hF7 : Fr (W_M_row) s q6.2 := Fr.c h0 (w_M_finds s _ hq6) (by intro a ha; simp only [W_M_row, W_M_finds, List.mem_cons, List.not_mem_nil, or_false, not_or] at ha ⊢; omega)
        by_cases c8 : q6.1 < 0
        · have hf := gift c8 hf
          exact w_M_row_21 q6.1 s q6.2 hF7 _ hf
        · have hf := giff c8 hf
          by_cases c9 : x1 < q6.1
          · have hf := gift c9 hf
            exact w_M_row_34 x1 x2 (q6.2 85 53) (wI (q6.1 - 1)) s q6.2 hF7 _ hf
          · have hf := giff c9 hf
            exact w_M_row_21 q6.1 s q6.2 hF7 _ hf
