/-! PRINTED by wip/whole/decall.py: frames -/
def W_Town_reverse (b0 : Nat) : List Nat := [b0 + 1, b0 + 2]
theorem w_Town_reverse_64 (b0 : Nat) (x2 : Int) (x3 : Int) (s0 s : kM) (h0 : Fr (W_Town_reverse b0) s0 s) (t : (Int × kM) ⊕ (kM)) (hf : f_Town_reverse_64 b0 x2 x3 s = some t) : (gE (fun x => Fr (W_Town_reverse b0) s0 x.2) (fun r => Fr (W_Town_reverse b0) s0 r)) t := by
  unfold f_Town_reverse_64 at hf
  cases hf
  exact h0
theorem w_Town_reverse_44b (b0 : Nat) (x2 : Int) (x3 : Int) (s0 s : kM) (h0 : Fr (W_Town_reverse b0) s0 s) (t : (Int × kM) ⊕ (kM)) (hf : f_Town_reverse_44b b0 x2 x3 s = some t) : (gE (fun x => Fr (W_Town_reverse b0) s0 x.2) (fun r => Fr (W_Town_reverse b0) s0 r)) t := by
  unfold f_Town_reverse_44b at hf
  by_cases c1 : 11 ≤ x3
  · have hf := gift c1 hf
    cases hf
    exact h0
  · have hf := giff c1 hf
    by_cases c2 : (kand (kshr x2 x3) 1) = 1
    · have hf := gift c2 hf
      obtain ⟨j3, i4, hf⟩ := gbI hf
      obtain ⟨j5, i6, hf⟩ := gbI hf
      obtain ⟨s7, ee8, hf⟩ := gbL hf
      have hF9 : Fr (W_Town_reverse b0) s0 s7 := by rw [ee8]; exact Fr.u h0 (by simp [W_Town_reverse])
      exact w_Town_reverse_64 b0 x2 x3 s0 s7 hF9 _ hf
    · have hf := giff c2 hf
      exact w_Town_reverse_64 b0 x2 x3 s0 s h0 _ hf
theorem w_Town_reverse_44 (b0 : Nat) (x2 : Int) (x3 : Int) (s0 s : kM) (h0 : Fr (W_Town_reverse b0) s0 s) (t : kM) (hf : f_Town_reverse_44 b0 x2 x3 s = some t) : (fun r => Fr (W_Town_reverse b0) s0 r) t :=
  gL_fr (P := fun (x : Int × kM) => Fr (W_Town_reverse b0) s0 x.2) (q := (fun r => Fr (W_Town_reverse b0) s0 r)) (fun x t hf h0 => w_Town_reverse_44b b0 x2 x.1 s0 x.2 h0 t hf) gF (x3, s) t hf h0
theorem w_Town_reverse_18b (b0 : Nat) (x2 : Int) (x3 : Int) (x4 : Int) (s0 s : kM) (h0 : Fr (W_Town_reverse b0) s0 s) (t : (Int × Int × kM) ⊕ (kM)) (hf : f_Town_reverse_18b b0 x2 x3 x4 s = some t) : (gE (fun x => Fr (W_Town_reverse b0) s0 x.2.2) (fun r => Fr (W_Town_reverse b0) s0 r)) t := by
  unfold f_Town_reverse_18b at hf
  by_cases c1 : x4 ≤ x3
  · have hf := gift c1 hf
    obtain ⟨t2, hg3, rfl⟩ := gmap hf
    exact w_Town_reverse_44 b0 x2 0 s0 s h0 _ hg3
  · have hf := giff c1 hf
    obtain ⟨j4, i5, hf⟩ := gbI hf
    obtain ⟨j6, i7, hf⟩ := gbI hf
    obtain ⟨j8, i9, hf⟩ := gbI hf
    obtain ⟨s10, ee11, hf⟩ := gbL hf
    have hF12 : Fr (W_Town_reverse b0) s0 s10 := by rw [ee11]; exact Fr.u h0 (by simp [W_Town_reverse])
    obtain ⟨j13, i14, hf⟩ := gbI hf
    obtain ⟨s15, ee16, hf⟩ := gbL hf
    have hF17 : Fr (W_Town_reverse b0) s0 s15 := by rw [ee16]; exact Fr.u hF12 (by simp [W_Town_reverse])
    cases hf
    exact hF17
theorem w_Town_reverse_18 (b0 : Nat) (x2 : Int) (x3 : Int) (x4 : Int) (s0 s : kM) (h0 : Fr (W_Town_reverse b0) s0 s) (t : kM) (hf : f_Town_reverse_18 b0 x2 x3 x4 s = some t) : (fun r => Fr (W_Town_reverse b0) s0 r) t :=
  gL_fr (P := fun (x : Int × Int × kM) => Fr (W_Town_reverse b0) s0 x.2.2) (q := (fun r => Fr (W_Town_reverse b0) s0 r)) (fun x t hf h0 => w_Town_reverse_18b b0 x2 x.1 x.2.1 s0 x.2.2 h0 t hf) gF (x3, x4, s) t hf h0
theorem w_Town_reverse (b0 : Nat) (x1 : Int) (s : kM) (t : kM) (hf : f_Town_reverse b0 x1 s = some t) : Fr (W_Town_reverse b0) s t := by
  unfold f_Town_reverse at hf
  have h0 : Fr (W_Town_reverse b0) s s := Fr.r
  obtain ⟨q1, hq1, hf⟩ := gbind hf
  obtain ⟨q2, hq2, hf⟩ := gbind hf
  obtain ⟨q3, hq3, hf⟩ := gbind hf
  obtain ⟨q4, hq4, hf⟩ := gbind hf
  exact w_Town_reverse_18 b0 (kand q1 q2) q3 (wI (q4 - 1)) s s h0 _ hf
def W_KT_backToFront : List Nat := [4, 5, 6, 7, 8, 9, 21, 44]
theorem w_KT_backToFront (x1 : Int) (s : kM) (t : Int × kM) (hf : f_KT_backToFront x1 s = some t) : Fr (W_KT_backToFront) s t.2 := by
  unfold f_KT_backToFront at hf
  have h0 : Fr (W_KT_backToFront) s s := Fr.r
  by_cases c1 : x1 < 0
  · have hf := gift c1 hf
    cases hf
    exact h0
  · have hf := giff c1 hf
    by_cases c2 : x1 < (s 4 0)
    · have hf := gift c2 hf
      obtain ⟨q3, hq3, hf⟩ := gbind hf
      have hF4 : Fr (W_KT_backToFront) s q3 := Fr.c h0 (w_Town_reverse 4 x1 s _ hq3) (by intro a ha; simp only [W_KT_backToFront, W_Town_reverse, List.mem_cons, List.not_mem_nil, or_false, not_or] at ha ⊢; omega)
      obtain ⟨q5, hq5, hf⟩ := gbind hf
      have hF6 : Fr (W_KT_backToFront) s q5 := Fr.c hF4 (w_Town_settle 4 q3 _ hq5) (by intro a ha; simp only [W_KT_backToFront, W_Town_settle, List.mem_cons, List.not_mem_nil, or_false, not_or] at ha ⊢; omega)
      obtain ⟨q7, hq7, hf⟩ := gbind hf
      have hF8 : Fr (W_KT_backToFront) s q7 := Fr.c hF6 (w_KT_forget q5 _ hq7) (by intro a ha; simp only [W_KT_backToFront, W_KT_forget, List.mem_cons, List.not_mem_nil, or_false, not_or] at ha ⊢; omega)
      obtain ⟨q9, hq9, hf⟩ := gbind hf
      obtain ⟨q10, hq10, hf⟩ := gbind hf
      cases hf
      exact hF8
    · have hf := giff c2 hf
      cases hf
      exact h0
def W_KT_can : List Nat := [17, 18, 19, 20]
theorem w_KT_can (x1 : Int) (s : kM) (t : Int × kM) (hf : f_KT_can x1 s = some t) : Fr (W_KT_can) s t.2 := by
  unfold f_KT_can at hf
  have h0 : Fr (W_KT_can) s s := Fr.r
  by_cases c1 : (s 4 0) = 0
  · have hf := gift c1 hf
    cases hf
    exact h0
  · have hf := giff c1 hf
    by_cases c2 : x1 < 1
    · have hf := gift c2 hf
      cases hf
      exact h0
    · have hf := giff c2 hf
      by_cases c3 : x1 ≤ 3
      · have hf := gift c3 hf
        obtain ⟨q4, hq4, hf⟩ := gbind hf
        have hF5 : Fr (W_KT_can) s q4 := Fr.c h0 (w_Land_survey 17 4 s _ hq4) (by intro a ha; simp only [W_KT_can, W_Land_survey, List.mem_cons, List.not_mem_nil, or_false, not_or] at ha ⊢; omega)
        obtain ⟨q6, hq6, hf⟩ := gbind hf
        cases hf
        exact hF5
      · have hf := giff c3 hf
        cases hf
        exact h0
def W_Arrays_fill_JJ (a0 : Nat) (n0 : Nat) : List Nat := [a0]
theorem w_Arrays_fill_JJ_5b (a0 : Nat) (n0 : Nat) (x1 : Int) (x3 : Int) (x4 : Int) (s0 s : kM) (h0 : Fr (W_Arrays_fill_JJ a0 n0) s0 s) (t : (Int × kM) ⊕ (kM)) (hf : f_Arrays_fill_JJ_5b a0 n0 x1 x3 x4 s = some t) : (gE (fun x => Fr (W_Arrays_fill_JJ a0 n0) s0 x.2) (fun r => Fr (W_Arrays_fill_JJ a0 n0) s0 r)) t := by
  unfold f_Arrays_fill_JJ_5b at hf
  by_cases c1 : x4 ≤ x3
  · have hf := gift c1 hf
    cases hf
    exact h0
  · have hf := giff c1 hf
    obtain ⟨j2, i3, hf⟩ := gbI hf
    obtain ⟨s4, ee5, hf⟩ := gbL hf
    have hF6 : Fr (W_Arrays_fill_JJ a0 n0) s0 s4 := by rw [ee5]; exact Fr.u h0 (by simp [W_Arrays_fill_JJ])
    cases hf
    exact hF6
theorem w_Arrays_fill_JJ_5 (a0 : Nat) (n0 : Nat) (x1 : Int) (x3 : Int) (x4 : Int) (s0 s : kM) (h0 : Fr (W_Arrays_fill_JJ a0 n0) s0 s) (t : kM) (hf : f_Arrays_fill_JJ_5 a0 n0 x1 x3 x4 s = some t) : (fun r => Fr (W_Arrays_fill_JJ a0 n0) s0 r) t :=
  gL_fr (P := fun (x : Int × kM) => Fr (W_Arrays_fill_JJ a0 n0) s0 x.2) (q := (fun r => Fr (W_Arrays_fill_JJ a0 n0) s0 r)) (fun x t hf h0 => w_Arrays_fill_JJ_5b a0 n0 x1 x.1 x4 s0 x.2 h0 t hf) gF (x3, s) t hf h0
theorem w_Arrays_fill_JJ (a0 : Nat) (n0 : Nat) (x1 : Int) (s : kM) (t : kM) (hf : f_Arrays_fill_JJ a0 n0 x1 s = some t) : Fr (W_Arrays_fill_JJ a0 n0) s t := by
  unfold f_Arrays_fill_JJ at hf
  have h0 : Fr (W_Arrays_fill_JJ a0 n0) s s := Fr.r
  exact w_Arrays_fill_JJ_5 a0 n0 x1 0 ((n0 : Nat) : Int) s s h0 _ hf
def W_Bows_addTo : List Nat := [50]
theorem w_Bows_addTo (x1 : Int) (x2 : Int) (s : kM) (t : kM) (hf : f_Bows_addTo x1 x2 s = some t) : Fr (W_Bows_addTo) s t := by
  unfold f_Bows_addTo at hf
  have h0 : Fr (W_Bows_addTo) s s := Fr.r
  by_cases c1 : x1 < 0
  · have hf := gift c1 hf
    cases hf
    exact h0
  · have hf := giff c1 hf
    by_cases c2 : 13 ≤ x1
    · have hf := gift c2 hf
      cases hf
      exact h0
    · have hf := giff c2 hf
      obtain ⟨j3, i4, hf⟩ := gbI hf
      obtain ⟨j5, i6, hf⟩ := gbI hf
      obtain ⟨s7, ee8, hf⟩ := gbL hf
      have hF9 : Fr (W_Bows_addTo) s s7 := by rw [ee8]; exact Fr.u h0 (by simp [W_Bows_addTo])
      cases hf
      exact hF9
def W_Bows_fill (b1 : Nat) : List Nat := [48, 49, 50]
theorem w_Bows_fill_55 (b1 : Nat) (x2 : Int) (s0 s : kM) (h0 : Fr (W_Bows_fill b1) s0 s) (t : (Int × kM) ⊕ (kM)) (hf : f_Bows_fill_55 b1 x2 s = some t) : (gE (fun x => Fr (W_Bows_fill b1) s0 x.2) (fun r => Fr (W_Bows_fill b1) s0 r)) t := by
  unfold f_Bows_fill_55 at hf
  cases hf
  exact h0
theorem w_Bows_fill_12b (b1 : Nat) (x2 : Int) (s0 s : kM) (h0 : Fr (W_Bows_fill b1) s0 s) (t : (Int × kM) ⊕ (kM)) (hf : f_Bows_fill_12b b1 x2 s = some t) : (gE (fun x => Fr (W_Bows_fill b1) s0 x.2) (fun r => Fr (W_Bows_fill b1) s0 r)) t := by
  unfold f_Bows_fill_12b at hf
  by_cases c1 : 11 ≤ x2
  · have hf := gift c1 hf
    cases hf
    exact h0
  · have hf := giff c1 hf
    obtain ⟨q2, hq2, hf⟩ := gbind hf
    by_cases c3 : q2 = 0
    · have hf := gift c3 hf
      exact w_Bows_fill_55 b1 x2 s0 s h0 _ hf
    · have hf := giff c3 hf
      obtain ⟨q4, hq4, hf⟩ := gbind hf
      obtain ⟨q5, hq5, hf⟩ := gbind hf
      obtain ⟨j6, i7, hf⟩ := gbI hf
      obtain ⟨q8, hq8, hf⟩ := gbind hf
      have hF9 : Fr (W_Bows_fill b1) s0 q8 := Fr.c h0 (w_Bows_addTo (s 49 j6) 2 s _ hq8) (by intro a ha; simp only [W_Bows_fill, W_Bows_addTo, List.mem_cons, List.not_mem_nil, or_false, not_or] at ha ⊢; omega)
      obtain ⟨j10, i11, hf⟩ := gbI hf
      obtain ⟨q12, hq12, hf⟩ := gbind hf
      have hF13 : Fr (W_Bows_fill b1) s0 q12 := Fr.c hF9 (w_Bows_addTo (q8 49 j10) (-1) q8 _ hq12) (by intro a ha; simp only [W_Bows_fill, W_Bows_addTo, List.mem_cons, List.not_mem_nil, or_false, not_or] at ha ⊢; omega)
      obtain ⟨j14, i15, hf⟩ := gbI hf
      obtain ⟨j16, i17, hf⟩ := gbI hf
      obtain ⟨q18, hq18, hf⟩ := gbind hf
      have hF19 : Fr (W_Bows_fill b1) s0 q18 := Fr.c hF13 (w_Bows_addTo (q12 49 j16) (-1) q12 _ hq18) (by intro a ha; simp only [W_Bows_fill, W_Bows_addTo, List.mem_cons, List.not_mem_nil, or_false, not_or] at ha ⊢; omega)
      obtain ⟨s20, ee21, hf⟩ := gbL hf
      have hF22 : Fr (W_Bows_fill b1) s0 s20 := by rw [ee21]; exact Fr.u hF19 (by simp [W_Bows_fill])
      exact w_Bows_fill_55 b1 x2 s0 s20 hF22 _ hf
theorem w_Bows_fill_12 (b1 : Nat) (x2 : Int) (s0 s : kM) (h0 : Fr (W_Bows_fill b1) s0 s) (t : kM) (hf : f_Bows_fill_12 b1 x2 s = some t) : (fun r => Fr (W_Bows_fill b1) s0 r) t :=
  gL_fr (P := fun (x : Int × kM) => Fr (W_Bows_fill b1) s0 x.2) (q := (fun r => Fr (W_Bows_fill b1) s0 r)) (fun x t hf h0 => w_Bows_fill_12b b1 x.1 s0 x.2 h0 t hf) gF (x2, s) t hf h0
theorem w_Bows_fill (b1 : Nat) (s : kM) (t : kM) (hf : f_Bows_fill b1 s = some t) : Fr (W_Bows_fill b1) s t := by
  unfold f_Bows_fill at hf
  have h0 : Fr (W_Bows_fill b1) s s := Fr.r
  obtain ⟨q1, hq1, hf⟩ := gbind hf
  have hF2 : Fr (W_Bows_fill b1) s q1 := Fr.c h0 (w_Bows_find b1 s _ hq1) (by intro a ha; simp only [W_Bows_fill, W_Bows_find, List.mem_cons, List.not_mem_nil, or_false, not_or] at ha ⊢; omega)
  obtain ⟨q3, hq3, hf⟩ := gbind hf
  have hF4 : Fr (W_Bows_fill b1) s q3 := Fr.c hF2 (w_Arrays_fill_JJ 50 143 0 q1 _ hq3) (by intro a ha; simp only [W_Bows_fill, W_Arrays_fill_JJ, List.mem_cons, List.not_mem_nil, or_false, not_or] at ha ⊢; omega)
  obtain ⟨s5, ee6, hf⟩ := gbL hf
  have hF7 : Fr (W_Bows_fill b1) s s5 := by rw [ee6]; exact Fr.u hF4 (by simp [W_Bows_fill])
  exact w_Bows_fill_12 b1 0 s s5 hF7 _ hf
def W_Bows_swapRows : List Nat := [50]
theorem w_Bows_swapRows_2b (x1 : Int) (x2 : Int) (x3 : Int) (s0 s : kM) (h0 : Fr (W_Bows_swapRows) s0 s) (t : (Int × kM) ⊕ (kM)) (hf : f_Bows_swapRows_2b x1 x2 x3 s = some t) : (gE (fun x => Fr (W_Bows_swapRows) s0 x.2) (fun r => Fr (W_Bows_swapRows) s0 r)) t := by
  unfold f_Bows_swapRows_2b at hf
  by_cases c1 : 13 ≤ x3
  · have hf := gift c1 hf
    cases hf
    exact h0
  · have hf := giff c1 hf
    obtain ⟨j2, i3, hf⟩ := gbI hf
    obtain ⟨j4, i5, hf⟩ := gbI hf
    obtain ⟨j6, i7, hf⟩ := gbI hf
    obtain ⟨s8, ee9, hf⟩ := gbL hf
    have hF10 : Fr (W_Bows_swapRows) s0 s8 := by rw [ee9]; exact Fr.u h0 (by simp [W_Bows_swapRows])
    obtain ⟨j11, i12, hf⟩ := gbI hf
    obtain ⟨s13, ee14, hf⟩ := gbL hf
    have hF15 : Fr (W_Bows_swapRows) s0 s13 := by rw [ee14]; exact Fr.u hF10 (by simp [W_Bows_swapRows])
    cases hf
    exact hF15
theorem w_Bows_swapRows_2 (x1 : Int) (x2 : Int) (x3 : Int) (s0 s : kM) (h0 : Fr (W_Bows_swapRows) s0 s) (t : kM) (hf : f_Bows_swapRows_2 x1 x2 x3 s = some t) : (fun r => Fr (W_Bows_swapRows) s0 r) t :=
  gL_fr (P := fun (x : Int × kM) => Fr (W_Bows_swapRows) s0 x.2) (q := (fun r => Fr (W_Bows_swapRows) s0 r)) (fun x t hf h0 => w_Bows_swapRows_2b x1 x2 x.1 s0 x.2 h0 t hf) gF (x3, s) t hf h0
theorem w_Bows_swapRows (x1 : Int) (x2 : Int) (s : kM) (t : kM) (hf : f_Bows_swapRows x1 x2 s = some t) : Fr (W_Bows_swapRows) s t := by
  unfold f_Bows_swapRows at hf
  have h0 : Fr (W_Bows_swapRows) s s := Fr.r
  exact w_Bows_swapRows_2 x1 x2 0 s s h0 _ hf
def W_Bows_clearBelow : List Nat := [50]
theorem w_Bows_clearBelow_71 (x1 : Int) (x2 : Int) (x3 : Int) (x4 : Int) (x6 : Int) (s0 s : kM) (h0 : Fr (W_Bows_clearBelow) s0 s) (t : (Int × kM) ⊕ (kM)) (hf : f_Bows_clearBelow_71 x1 x2 x3 x4 x6 s = some t) : (gE (fun x => Fr (W_Bows_clearBelow) s0 x.2) (fun r => Fr (W_Bows_clearBelow) s0 r)) t := by
  unfold f_Bows_clearBelow_71 at hf
  cases hf
  exact h0
theorem w_Bows_clearBelow_28b (x1 : Int) (x2 : Int) (x3 : Int) (x4 : Int) (x6 : Int) (x7 : Int) (x9 : Int) (s0 s : kM) (h0 : Fr (W_Bows_clearBelow) s0 s) (t : (Int × kM) ⊕ ((Int × kM) ⊕ (kM))) (hf : f_Bows_clearBelow_28b x1 x2 x3 x4 x6 x7 x9 s = some t) : (gE (fun x => Fr (W_Bows_clearBelow) s0 x.2) (gE (fun x => Fr (W_Bows_clearBelow) s0 x.2) (fun r => Fr (W_Bows_clearBelow) s0 r))) t := by
  unfold f_Bows_clearBelow_28b at hf
  by_cases c1 : 13 ≤ x9
  · have hf := gift c1 hf
    obtain ⟨t2, hg3, rfl⟩ := gmap hf
    exact w_Bows_clearBelow_71 x1 x2 x3 x4 x6 s0 s h0 _ hg3
  · have hf := giff c1 hf
    by_cases c4 : x7 = 0
    · have hf := gift c4 hf
      obtain ⟨t5, hg6, rfl⟩ := gmap hf
      exact w_Bows_clearBelow_71 x1 x2 x3 x4 x6 s0 s h0 _ hg6
    · have hf := giff c4 hf
      obtain ⟨j7, i8, hf⟩ := gbI hf
      obtain ⟨j9, i10, hf⟩ := gbI hf
      obtain ⟨q11, hq11, hf⟩ := gbind hf
      obtain ⟨j12, i13, hf⟩ := gbI hf
      obtain ⟨s14, ee15, hf⟩ := gbL hf
      have hF16 : Fr (W_Bows_clearBelow) s0 s14 := by rw [ee15]; exact Fr.u h0 (by simp [W_Bows_clearBelow])
      cases hf
      exact hF16
theorem w_Bows_clearBelow_28 (x1 : Int) (x2 : Int) (x3 : Int) (x4 : Int) (x6 : Int) (x7 : Int) (x9 : Int) (s0 s : kM) (h0 : Fr (W_Bows_clearBelow) s0 s) (t : (Int × kM) ⊕ (kM)) (hf : f_Bows_clearBelow_28 x1 x2 x3 x4 x6 x7 x9 s = some t) : (gE (fun x => Fr (W_Bows_clearBelow) s0 x.2) (fun r => Fr (W_Bows_clearBelow) s0 r)) t :=
  gL_fr (P := fun (x : Int × kM) => Fr (W_Bows_clearBelow) s0 x.2) (q := (gE (fun x => Fr (W_Bows_clearBelow) s0 x.2) (fun r => Fr (W_Bows_clearBelow) s0 r))) (fun x t hf h0 => w_Bows_clearBelow_28b x1 x2 x3 x4 x6 x7 x.1 s0 x.2 h0 t hf) gF (x9, s) t hf h0
theorem w_Bows_clearBelow_13b (x1 : Int) (x2 : Int) (x3 : Int) (x4 : Int) (x6 : Int) (s0 s : kM) (h0 : Fr (W_Bows_clearBelow) s0 s) (t : (Int × kM) ⊕ (kM)) (hf : f_Bows_clearBelow_13b x1 x2 x3 x4 x6 s = some t) : (gE (fun x => Fr (W_Bows_clearBelow) s0 x.2) (fun r => Fr (W_Bows_clearBelow) s0 r)) t := by
  unfold f_Bows_clearBelow_13b at hf
  by_cases c1 : (s 48 3) ≤ x6
  · have hf := gift c1 hf
    cases hf
    exact h0
  · have hf := giff c1 hf
    obtain ⟨j2, i3, hf⟩ := gbI hf
    exact w_Bows_clearBelow_28 x1 x2 x3 x4 x6 (s 50 j2) 0 s0 s h0 _ hf
theorem w_Bows_clearBelow_13 (x1 : Int) (x2 : Int) (x3 : Int) (x4 : Int) (x6 : Int) (s0 s : kM) (h0 : Fr (W_Bows_clearBelow) s0 s) (t : kM) (hf : f_Bows_clearBelow_13 x1 x2 x3 x4 x6 s = some t) : (fun r => Fr (W_Bows_clearBelow) s0 r) t :=
  gL_fr (P := fun (x : Int × kM) => Fr (W_Bows_clearBelow) s0 x.2) (q := (fun r => Fr (W_Bows_clearBelow) s0 r)) (fun x t hf h0 => w_Bows_clearBelow_13b x1 x2 x3 x4 x.1 s0 x.2 h0 t hf) gF (x6, s) t hf h0
theorem w_Bows_clearBelow (x1 : Int) (x2 : Int) (x3 : Int) (s : kM) (t : kM) (hf : f_Bows_clearBelow x1 x2 x3 s = some t) : Fr (W_Bows_clearBelow) s t := by
  unfold f_Bows_clearBelow at hf
  have h0 : Fr (W_Bows_clearBelow) s s := Fr.r
  obtain ⟨j1, i2, hf⟩ := gbI hf
  exact w_Bows_clearBelow_13 x1 x2 x3 (s 50 j1) (wI (x1 + 1)) s s h0 _ hf
def W_Bows_ways (b1 : Nat) : List Nat := [48, 49, 50]
theorem w_Bows_ways_64b (b1 : Nat) (x2 : Int) (x3 : Int) (x5 : Int) (x7 : Int) (s0 s : kM) (h0 : Fr (W_Bows_ways b1) s0 s) (t : (Int × Int) ⊕ (Int × kM)) (hf : f_Bows_ways_64b b1 x2 x3 x5 x7 s = some t) : (gE (fun x => Fr (W_Bows_ways b1) s0 s) (fun r => Fr (W_Bows_ways b1) s0 r.2)) t := by
  unfold f_Bows_ways_64b at hf
  by_cases c1 : x3 ≤ x7
  · have hf := gift c1 hf
    cases hf
    exact h0
  · have hf := giff c1 hf
    cases hf
    exact h0
theorem w_Bows_ways_64 (b1 : Nat) (x2 : Int) (x3 : Int) (x5 : Int) (x7 : Int) (s0 s : kM) (h0 : Fr (W_Bows_ways b1) s0 s) (t : Int × kM) (hf : f_Bows_ways_64 b1 x2 x3 x5 x7 s = some t) : (fun r => Fr (W_Bows_ways b1) s0 r.2) t :=
  gL_fr (P := fun (x : Int × Int) => Fr (W_Bows_ways b1) s0 s) (q := (fun r => Fr (W_Bows_ways b1) s0 r.2)) (fun x t hf h0 => w_Bows_ways_64b b1 x2 x3 x.1 x.2 s0 s h0 t hf) gF (x5, x7) t hf h0
theorem w_Bows_ways_60 (b1 : Nat) (x2 : Int) (x3 : Int) (s0 s : kM) (h0 : Fr (W_Bows_ways b1) s0 s) (t : Int × kM) (hf : f_Bows_ways_60 b1 x2 x3 s = some t) : (fun r => Fr (W_Bows_ways b1) s0 r.2) t := by
  unfold f_Bows_ways_60 at hf
  exact w_Bows_ways_64 b1 x2 x3 1 0 s0 s h0 _ hf
theorem w_Bows_ways_58 (b1 : Nat) (x2 : Int) (x3 : Int) (x4 : Int) (x5 : Int) (s0 s : kM) (h0 : Fr (W_Bows_ways b1) s0 s) (t : (Int × Int × Int × kM) ⊕ (Int × kM)) (hf : f_Bows_ways_58 b1 x2 x3 x4 x5 s = some t) : (gE (fun x => Fr (W_Bows_ways b1) s0 x.2.2.2) (fun r => Fr (W_Bows_ways b1) s0 r.2)) t := by
  unfold f_Bows_ways_58 at hf
  cases hf
  exact h0
theorem w_Bows_ways_30b (b1 : Nat) (x2 : Int) (x3 : Int) (x4 : Int) (x5 : Int) (s0 s : kM) (h0 : Fr (W_Bows_ways b1) s0 s) (t : (Int × Int × Int × kM) ⊕ (Int × kM)) (hf : f_Bows_ways_30b b1 x2 x3 x4 x5 s = some t) : (gE (fun x => Fr (W_Bows_ways b1) s0 x.2.2.2) (fun r => Fr (W_Bows_ways b1) s0 r.2)) t := by
  unfold f_Bows_ways_30b at hf
  by_cases c1 : (s 48 0) ≤ x5
  · have hf := gift c1 hf
    obtain ⟨t2, hg3, rfl⟩ := gmap hf
    exact w_Bows_ways_60 b1 x2 x3 s0 s h0 _ hg3
  · have hf := giff c1 hf
    by_cases c4 : 13 ≤ x5
    · have hf := gift c4 hf
      obtain ⟨t5, hg6, rfl⟩ := gmap hf
      exact w_Bows_ways_60 b1 x2 x3 s0 s h0 _ hg6
    · have hf := giff c4 hf
      obtain ⟨q7, hq7, hf⟩ := gbind hf
      by_cases c8 : 0 ≤ q7
      · have hf := gift c8 hf
        obtain ⟨q9, hq9, hf⟩ := gbind hf
        have hF10 : Fr (W_Bows_ways b1) s0 q9 := Fr.c h0 (w_Bows_swapRows q7 x4 s _ hq9) (by intro a ha; simp only [W_Bows_ways, W_Bows_swapRows, List.mem_cons, List.not_mem_nil, or_false, not_or] at ha ⊢; omega)
        obtain ⟨q11, hq11, hf⟩ := gbind hf
        have hF12 : Fr (W_Bows_ways b1) s0 q11 := Fr.c hF10 (w_Bows_clearBelow x4 x5 x2 q9 _ hq11) (by intro a ha; simp only [W_Bows_ways, W_Bows_clearBelow, List.mem_cons, List.not_mem_nil, or_false, not_or] at ha ⊢; omega)
        exact w_Bows_ways_58 b1 x2 x3 (wI (x4 + 1)) x5 s0 q11 hF12 _ hf
      · have hf := giff c8 hf
        exact w_Bows_ways_58 b1 x2 (wI (x3 + 1)) x4 x5 s0 s h0 _ hf
theorem w_Bows_ways_30 (b1 : Nat) (x2 : Int) (x3 : Int) (x4 : Int) (x5 : Int) (s0 s : kM) (h0 : Fr (W_Bows_ways b1) s0 s) (t : Int × kM) (hf : f_Bows_ways_30 b1 x2 x3 x4 x5 s = some t) : (fun r => Fr (W_Bows_ways b1) s0 r.2) t :=
  gL_fr (P := fun (x : Int × Int × Int × kM) => Fr (W_Bows_ways b1) s0 x.2.2.2) (q := (fun r => Fr (W_Bows_ways b1) s0 r.2)) (fun x t hf h0 => w_Bows_ways_30b b1 x2 x.1 x.2.1 x.2.2.1 s0 x.2.2.2 h0 t hf) gF (x3, x4, x5, s) t hf h0
theorem w_Bows_ways_5b (b1 : Nat) (x2 : Int) (x3 : Int) (s0 s : kM) (h0 : Fr (W_Bows_ways b1) s0 s) (t : (Int × kM) ⊕ (Int × kM)) (hf : f_Bows_ways_5b b1 x2 x3 s = some t) : (gE (fun x => Fr (W_Bows_ways b1) s0 x.2) (fun r => Fr (W_Bows_ways b1) s0 r.2)) t := by
  unfold f_Bows_ways_5b at hf
  by_cases c1 : (wI ((s 48 3) * 13)) ≤ x3
  · have hf := gift c1 hf
    obtain ⟨t2, hg3, rfl⟩ := gmap hf
    exact w_Bows_ways_30 b1 x2 0 0 0 s0 s h0 _ hg3
  · have hf := giff c1 hf
    obtain ⟨j4, i5, hf⟩ := gbI hf
    obtain ⟨q6, hq6, hf⟩ := gbind hf
    obtain ⟨j7, i8, hf⟩ := gbI hf
    obtain ⟨s9, ee10, hf⟩ := gbL hf
    have hF11 : Fr (W_Bows_ways b1) s0 s9 := by rw [ee10]; exact Fr.u h0 (by simp [W_Bows_ways])
    cases hf
    exact hF11
theorem w_Bows_ways_5 (b1 : Nat) (x2 : Int) (x3 : Int) (s0 s : kM) (h0 : Fr (W_Bows_ways b1) s0 s) (t : Int × kM) (hf : f_Bows_ways_5 b1 x2 x3 s = some t) : (fun r => Fr (W_Bows_ways b1) s0 r.2) t :=
  gL_fr (P := fun (x : Int × kM) => Fr (W_Bows_ways b1) s0 x.2) (q := (fun r => Fr (W_Bows_ways b1) s0 r.2)) (fun x t hf h0 => w_Bows_ways_5b b1 x2 x.1 s0 x.2 h0 t hf) gF (x3, s) t hf h0
theorem w_Bows_ways (b1 : Nat) (x2 : Int) (s : kM) (t : Int × kM) (hf : f_Bows_ways b1 x2 s = some t) : Fr (W_Bows_ways b1) s t.2 := by
  unfold f_Bows_ways at hf
  have h0 : Fr (W_Bows_ways b1) s s := Fr.r
  obtain ⟨q1, hq1, hf⟩ := gbind hf
  have hF2 : Fr (W_Bows_ways b1) s q1 := Fr.c h0 (w_Bows_fill b1 s _ hq1) (by intro a ha; simp only [W_Bows_ways, W_Bows_fill, List.mem_cons, List.not_mem_nil, or_false, not_or] at ha ⊢; omega)
  exact w_Bows_ways_5 b1 x2 0 s q1 hF2 _ hf
def W_KT_colours : List Nat := [48, 49, 50]
theorem w_KT_colours_18 (x1 : Int) (y0 : Int) (s0 s : kM) (h0 : Fr (W_KT_colours) s0 s) (t : Int × kM) (hf : f_KT_colours_18 x1 y0 s = some t) : (fun r => Fr (W_KT_colours) s0 r.2) t := by
  unfold f_KT_colours_18 at hf
  by_cases c1 : y0 = 0
  · have hf := gift c1 hf
    cases hf
    exact h0
  · have hf := giff c1 hf
    by_cases c2 : (s 4 0) = 0
    · have hf := gift c2 hf
      cases hf
      exact h0
    · have hf := giff c2 hf
      obtain ⟨q3, hq3, hf⟩ := gbind hf
      have hF4 : Fr (W_KT_colours) s0 q3.2 := Fr.c h0 (w_Bows_ways 4 x1 s _ hq3) (by intro a ha; simp only [W_KT_colours, W_Bows_ways, List.mem_cons, List.not_mem_nil, or_false, not_or] at ha ⊢; omega)
      cases hf
      exact hF4
theorem w_KT_colours_15 (x1 : Int) (s0 s : kM) (h0 : Fr (W_KT_colours) s0 s) (t : Int × kM) (hf : f_KT_colours_15 x1 s = some t) : (fun r => Fr (W_KT_colours) s0 r.2) t := by
  unfold f_KT_colours_15 at hf
  exact w_KT_colours_18 x1 1 s0 s h0 _ hf
theorem w_KT_colours (x1 : Int) (s : kM) (t : Int × kM) (hf : f_KT_colours x1 s = some t) : Fr (W_KT_colours) s t.2 := by
  unfold f_KT_colours at hf
  have h0 : Fr (W_KT_colours) s s := Fr.r
  by_cases c1 : x1 = 3
  · have hf := gift c1 hf
    exact w_KT_colours_15 x1 s s h0 _ hf
  · have hf := giff c1 hf
    by_cases c2 : x1 = 5
    · have hf := gift c2 hf
      exact w_KT_colours_15 x1 s s h0 _ hf
    · have hf := giff c2 hf
      by_cases c3 : x1 = 7
      · have hf := gift c3 hf
        exact w_KT_colours_15 x1 s s h0 _ hf
      · have hf := giff c3 hf
        by_cases c4 : x1 = 11
        · have hf := gift c4 hf
          exact w_KT_colours_15 x1 s s h0 _ hf
        · have hf := giff c4 hf
          by_cases c5 : x1 = 13
          · have hf := gift c5 hf
            exact w_KT_colours_15 x1 s s h0 _ hf
          · have hf := giff c5 hf
            exact w_KT_colours_18 x1 0 s s h0 _ hf
def W_Bows_reduceBelow : List Nat := [50]
theorem w_Bows_reduceBelow_15b (x1 : Int) (x2 : Int) (x3 : Int) (x5 : Int) (x6 : Int) (s0 s : kM) (h0 : Fr (W_Bows_reduceBelow) s0 s) (t : (Int × kM) ⊕ ((Int × kM) ⊕ (kM))) (hf : f_Bows_reduceBelow_15b x1 x2 x3 x5 x6 s = some t) : (gE (fun x => Fr (W_Bows_reduceBelow) s0 x.2) (gE (fun x => Fr (W_Bows_reduceBelow) s0 x.2) (fun r => Fr (W_Bows_reduceBelow) s0 r))) t := by
  unfold f_Bows_reduceBelow_15b at hf
  by_cases c1 : x2 ≤ x6
  · have hf := gift c1 hf
    cases hf
    exact h0
  · have hf := giff c1 hf
    obtain ⟨j2, i3, hf⟩ := gbI hf
    obtain ⟨j4, i5, hf⟩ := gbI hf
    obtain ⟨j6, i7, hf⟩ := gbI hf
    obtain ⟨j8, i9, hf⟩ := gbI hf
    obtain ⟨z10, hf⟩ := gbD hf
    obtain ⟨j11, i12, hf⟩ := gbI hf
    obtain ⟨s13, ee14, hf⟩ := gbL hf
    have hF15 : Fr (W_Bows_reduceBelow) s0 s13 := by rw [ee14]; exact Fr.u h0 (by simp [W_Bows_reduceBelow])
    cases hf
    exact hF15
theorem w_Bows_reduceBelow_15 (x1 : Int) (x2 : Int) (x3 : Int) (x5 : Int) (x6 : Int) (s0 s : kM) (h0 : Fr (W_Bows_reduceBelow) s0 s) (t : (Int × kM) ⊕ (kM)) (hf : f_Bows_reduceBelow_15 x1 x2 x3 x5 x6 s = some t) : (gE (fun x => Fr (W_Bows_reduceBelow) s0 x.2) (fun r => Fr (W_Bows_reduceBelow) s0 r)) t :=
  gL_fr (P := fun (x : Int × kM) => Fr (W_Bows_reduceBelow) s0 x.2) (q := (gE (fun x => Fr (W_Bows_reduceBelow) s0 x.2) (fun r => Fr (W_Bows_reduceBelow) s0 r))) (fun x t hf h0 => w_Bows_reduceBelow_15b x1 x2 x3 x5 x.1 s0 x.2 h0 t hf) gF (x6, s) t hf h0
theorem w_Bows_reduceBelow_4b (x1 : Int) (x2 : Int) (x3 : Int) (x5 : Int) (s0 s : kM) (h0 : Fr (W_Bows_reduceBelow) s0 s) (t : (Int × kM) ⊕ (kM)) (hf : f_Bows_reduceBelow_4b x1 x2 x3 x5 s = some t) : (gE (fun x => Fr (W_Bows_reduceBelow) s0 x.2) (fun r => Fr (W_Bows_reduceBelow) s0 r)) t := by
  unfold f_Bows_reduceBelow_4b at hf
  by_cases c1 : x2 ≤ x5
  · have hf := gift c1 hf
    cases hf
    exact h0
  · have hf := giff c1 hf
    by_cases c2 : x3 = 0
    · have hf := gift c2 hf
      cases hf
      exact h0
    · have hf := giff c2 hf
      exact w_Bows_reduceBelow_15 x1 x2 x3 x5 (wI (x1 + 1)) s0 s h0 _ hf
theorem w_Bows_reduceBelow_4 (x1 : Int) (x2 : Int) (x3 : Int) (x5 : Int) (s0 s : kM) (h0 : Fr (W_Bows_reduceBelow) s0 s) (t : kM) (hf : f_Bows_reduceBelow_4 x1 x2 x3 x5 s = some t) : (fun r => Fr (W_Bows_reduceBelow) s0 r) t :=
  gL_fr (P := fun (x : Int × kM) => Fr (W_Bows_reduceBelow) s0 x.2) (q := (fun r => Fr (W_Bows_reduceBelow) s0 r)) (fun x t hf h0 => w_Bows_reduceBelow_4b x1 x2 x3 x.1 s0 x.2 h0 t hf) gF (x5, s) t hf h0
theorem w_Bows_reduceBelow (x1 : Int) (x2 : Int) (x3 : Int) (s : kM) (t : kM) (hf : f_Bows_reduceBelow x1 x2 x3 s = some t) : Fr (W_Bows_reduceBelow) s t := by
  unfold f_Bows_reduceBelow at hf
  have h0 : Fr (W_Bows_reduceBelow) s s := Fr.r
  exact w_Bows_reduceBelow_4 x1 x2 x3 (wI (x1 + 1)) s s h0 _ hf
def W_Bows_minor (b1 : Nat) : List Nat := [48, 49, 50]
theorem w_Bows_minor_25b (b1 : Nat) (x2 : Int) (x3 : Int) (x5 : Int) (s0 s : kM) (h0 : Fr (W_Bows_minor b1) s0 s) (t : (Int × Int × kM) ⊕ (Int × kM)) (hf : f_Bows_minor_25b b1 x2 x3 x5 s = some t) : (gE (fun x => Fr (W_Bows_minor b1) s0 x.2.2) (fun r => Fr (W_Bows_minor b1) s0 r.2)) t := by
  unfold f_Bows_minor_25b at hf
  by_cases c1 : (wI (x2 - 1)) ≤ x5
  · have hf := gift c1 hf
    obtain ⟨j2, i3, hf⟩ := gbI hf
    obtain ⟨q4, hq4, hf⟩ := gbind hf
    cases hf
    exact h0
  · have hf := giff c1 hf
    obtain ⟨q5, hq5, hf⟩ := gbind hf
    by_cases c6 : q5 < 0
    · have hf := gift c6 hf
      cases hf
      exact h0
    · have hf := giff c6 hf
      by_cases c7 : x3 = 0
      · have hf := gift c7 hf
        cases hf
        exact h0
      · have hf := giff c7 hf
        obtain ⟨q8, hq8, hf⟩ := gbind hf
        have hF9 : Fr (W_Bows_minor b1) s0 q8 := Fr.c h0 (w_Bows_swapRows q5 x5 s _ hq8) (by intro a ha; simp only [W_Bows_minor, W_Bows_swapRows, List.mem_cons, List.not_mem_nil, or_false, not_or] at ha ⊢; omega)
        obtain ⟨q10, hq10, hf⟩ := gbind hf
        have hF11 : Fr (W_Bows_minor b1) s0 q10 := Fr.c hF9 (w_Bows_reduceBelow x5 x2 x3 q8 _ hq10) (by intro a ha; simp only [W_Bows_minor, W_Bows_reduceBelow, List.mem_cons, List.not_mem_nil, or_false, not_or] at ha ⊢; omega)
        obtain ⟨j12, i13, hf⟩ := gbI hf
        cases hf
        exact hF11
theorem w_Bows_minor_25 (b1 : Nat) (x2 : Int) (x3 : Int) (x5 : Int) (s0 s : kM) (h0 : Fr (W_Bows_minor b1) s0 s) (t : Int × kM) (hf : f_Bows_minor_25 b1 x2 x3 x5 s = some t) : (fun r => Fr (W_Bows_minor b1) s0 r.2) t :=
  gL_fr (P := fun (x : Int × Int × kM) => Fr (W_Bows_minor b1) s0 x.2.2) (q := (fun r => Fr (W_Bows_minor b1) s0 r.2)) (fun x t hf h0 => w_Bows_minor_25b b1 x2 x.1 x.2.1 s0 x.2.2 h0 t hf) gF (x3, x5, s) t hf h0
theorem w_Bows_minor (b1 : Nat) (s : kM) (t : Int × kM) (hf : f_Bows_minor b1 s = some t) : Fr (W_Bows_minor b1) s t.2 := by
  unfold f_Bows_minor at hf
  have h0 : Fr (W_Bows_minor b1) s s := Fr.r
  obtain ⟨q1, hq1, hf⟩ := gbind hf
  have hF2 : Fr (W_Bows_minor b1) s q1 := Fr.c h0 (w_Bows_fill b1 s _ hq1) (by intro a ha; simp only [W_Bows_minor, W_Bows_fill, List.mem_cons, List.not_mem_nil, or_false, not_or] at ha ⊢; omega)
  by_cases c3 : (q1 48 0) < (wI ((q1 48 3) + 2))
  · have hf := gift c3 hf
    by_cases c4 : 0 < (wI ((q1 48 0) - 1))
    · have hf := gift c4 hf
      exact w_Bows_minor_25 b1 (wI ((q1 48 0) - 1)) 1 0 s q1 hF2 _ hf
    · have hf := giff c4 hf
      cases hf
      exact hF2
  · have hf := giff c3 hf
    cases hf
    exact hF2
def W_KT_determinant : List Nat := [48, 49, 50]
theorem w_KT_determinant (s : kM) (t : Int × kM) (hf : f_KT_determinant s = some t) : Fr (W_KT_determinant) s t.2 := by
  unfold f_KT_determinant at hf
  have h0 : Fr (W_KT_determinant) s s := Fr.r
  by_cases c1 : (s 4 0) = 0
  · have hf := gift c1 hf
    cases hf
    exact h0
  · have hf := giff c1 hf
    obtain ⟨q2, hq2, hf⟩ := gbind hf
    have hF3 : Fr (W_KT_determinant) s q2.2 := Fr.c h0 (w_Bows_minor 4 s _ hq2) (by intro a ha; simp only [W_KT_determinant, W_Bows_minor, List.mem_cons, List.not_mem_nil, or_false, not_or] at ha ⊢; omega)
    cases hf
    exact hF3
def W_Bracket_tie : List Nat := [47]
theorem w_Bracket_tie (x1 : Int) (x2 : Int) (s : kM) (t : Int × kM) (hf : f_Bracket_tie x1 x2 s = some t) : Fr (W_Bracket_tie) s t.2 := by
  unfold f_Bracket_tie at hf
  have h0 : Fr (W_Bracket_tie) s s := Fr.r
  obtain ⟨j1, i2, hf⟩ := gbI hf
  obtain ⟨j3, i4, hf⟩ := gbI hf
  by_cases c5 : (s 47 j1) = x2
  · have hf := gift c5 hf
    cases hf
    exact h0
  · have hf := giff c5 hf
    obtain ⟨j6, i7, hf⟩ := gbI hf
    obtain ⟨s8, ee9, hf⟩ := gbL hf
    have hF10 : Fr (W_Bracket_tie) s s8 := by rw [ee9]; exact Fr.u h0 (by simp [W_Bracket_tie])
    obtain ⟨j11, i12, hf⟩ := gbI hf
    obtain ⟨s13, ee14, hf⟩ := gbL hf
    have hF15 : Fr (W_Bracket_tie) s s13 := by rw [ee14]; exact Fr.u hF10 (by simp [W_Bracket_tie])
    cases hf
    exact hF15
def W_Bracket_untie : List Nat := [47]
theorem w_Bracket_untie (x1 : Int) (x2 : Int) (s : kM) (t : kM) (hf : f_Bracket_untie x1 x2 s = some t) : Fr (W_Bracket_untie) s t := by
  unfold f_Bracket_untie at hf
  have h0 : Fr (W_Bracket_untie) s s := Fr.r
  obtain ⟨j1, i2, hf⟩ := gbI hf
  obtain ⟨j3, i4, hf⟩ := gbI hf
  obtain ⟨j5, i6, hf⟩ := gbI hf
  obtain ⟨s7, ee8, hf⟩ := gbL hf
  have hF9 : Fr (W_Bracket_untie) s s7 := by rw [ee8]; exact Fr.u h0 (by simp [W_Bracket_untie])
  obtain ⟨j10, i11, hf⟩ := gbI hf
  obtain ⟨s12, ee13, hf⟩ := gbL hf
  have hF14 : Fr (W_Bracket_untie) s s12 := by rw [ee13]; exact Fr.u hF9 (by simp [W_Bracket_untie])
  cases hf
  exact hF14
def W_Bracket_cut (b1 : Nat) : List Nat := [46, 47]
theorem w_Bracket_cut (b1 : Nat) (rec : Nat → Int → Int → Int → kM → Option kM) (hrec : ∀ w x2 x3 x4 s t, rec w x2 x3 x4 s = some t → Fr (W_Bracket_cut b1) s t) (x2 : Int) (x3 : Int) (x4 : Int) (s : kM) (t : kM) (hf : f_Bracket_cut b1 rec x2 x3 x4 s = some t) : Fr (W_Bracket_cut b1) s t := by
  unfold f_Bracket_cut at hf
  have h0 : Fr (W_Bracket_cut b1) s s := Fr.r
  by_cases c1 : x2 < 11
  · have hf := gift c1 hf
    obtain ⟨q2, hq2, hf⟩ := gbind hf
    by_cases c3 : q2 = 0
    · have hf := gift c3 hf
      obtain ⟨q32, hq32, hf⟩ := gbind hf
      have hF33 : Fr (W_Bracket_cut b1) s q32 := Fr.c h0 (hrec 0 (wI (x2 + 1)) x3 x4 _ _ hq32) (by intro a ha; exact ha)
      cases hf
      exact hF33
    · have hf := giff c3 hf
      obtain ⟨j4, i5, hf⟩ := gbI hf
      obtain ⟨q6, hq6, hf⟩ := gbind hf
      obtain ⟨q7, hq7, hf⟩ := gbind hf
      obtain ⟨j8, i9, hf⟩ := gbI hf
      obtain ⟨j10, i11, hf⟩ := gbI hf
      obtain ⟨q12, hq12, hf⟩ := gbind hf
      have hF13 : Fr (W_Bracket_cut b1) s q12.2 := Fr.c h0 (w_Bracket_tie (wI ((wI (2 * (s (b1 + 4) j8))) + 1)) (wI (2 * q7)) s _ hq12) (by intro a ha; simp only [W_Bracket_cut, W_Bracket_tie, List.mem_cons, List.not_mem_nil, or_false, not_or] at ha ⊢; omega)
      obtain ⟨q14, hq14, hf⟩ := gbind hf
      have hF15 : Fr (W_Bracket_cut b1) s q14.2 := Fr.c hF13 (w_Bracket_tie (wI ((wI (2 * (s (b1 + 4) j10))) + 1)) (wI (2 * q6)) q12.2 _ hq14) (by intro a ha; simp only [W_Bracket_cut, W_Bracket_tie, List.mem_cons, List.not_mem_nil, or_false, not_or] at ha ⊢; omega)
      obtain ⟨q16, hq16, hf⟩ := gbind hf
      have hF17 : Fr (W_Bracket_cut b1) s q16 := Fr.c hF15 (hrec 0 (wI (x2 + 1)) (wI (x3 + (s (b1 + 2) j4))) (wI (x4 + (wI (q12.1 + q14.1)))) _ _ hq16) (by intro a ha; exact ha)
      obtain ⟨q18, hq18, hf⟩ := gbind hf
      have hF19 : Fr (W_Bracket_cut b1) s q18 := Fr.c hF17 (w_Bracket_untie (wI ((wI (2 * (s (b1 + 4) j10))) + 1)) (wI (2 * q6)) q16 _ hq18) (by intro a ha; simp only [W_Bracket_cut, W_Bracket_untie, List.mem_cons, List.not_mem_nil, or_false, not_or] at ha ⊢; omega)
      obtain ⟨q20, hq20, hf⟩ := gbind hf
      have hF21 : Fr (W_Bracket_cut b1) s q20 := Fr.c hF19 (w_Bracket_untie (wI ((wI (2 * (s (b1 + 4) j8))) + 1)) (wI (2 * q7)) q18 _ hq20) (by intro a ha; simp only [W_Bracket_cut, W_Bracket_untie, List.mem_cons, List.not_mem_nil, or_false, not_or] at ha ⊢; omega)
      obtain ⟨q22, hq22, hf⟩ := gbind hf
      have hF23 : Fr (W_Bracket_cut b1) s q22.2 := Fr.c hF21 (w_Bracket_tie (wI ((wI (2 * (s (b1 + 4) j8))) + 1)) (wI ((wI (2 * (s (b1 + 4) j10))) + 1)) q20 _ hq22) (by intro a ha; simp only [W_Bracket_cut, W_Bracket_tie, List.mem_cons, List.not_mem_nil, or_false, not_or] at ha ⊢; omega)
      obtain ⟨q24, hq24, hf⟩ := gbind hf
      have hF25 : Fr (W_Bracket_cut b1) s q24.2 := Fr.c hF23 (w_Bracket_tie (wI (2 * q6)) (wI (2 * q7)) q22.2 _ hq24) (by intro a ha; simp only [W_Bracket_cut, W_Bracket_tie, List.mem_cons, List.not_mem_nil, or_false, not_or] at ha ⊢; omega)
      obtain ⟨q26, hq26, hf⟩ := gbind hf
      have hF27 : Fr (W_Bracket_cut b1) s q26 := Fr.c hF25 (hrec 0 (wI (x2 + 1)) (wI ((wI (x3 + 1)) - (s (b1 + 2) j4))) (wI (x4 + (wI (q22.1 + q24.1)))) _ _ hq26) (by intro a ha; exact ha)
      obtain ⟨q28, hq28, hf⟩ := gbind hf
      have hF29 : Fr (W_Bracket_cut b1) s q28 := Fr.c hF27 (w_Bracket_untie (wI (2 * q6)) (wI (2 * q7)) q26 _ hq28) (by intro a ha; simp only [W_Bracket_cut, W_Bracket_untie, List.mem_cons, List.not_mem_nil, or_false, not_or] at ha ⊢; omega)
      obtain ⟨q30, hq30, hf⟩ := gbind hf
      have hF31 : Fr (W_Bracket_cut b1) s q30 := Fr.c hF29 (w_Bracket_untie (wI ((wI (2 * (s (b1 + 4) j8))) + 1)) (wI ((wI (2 * (s (b1 + 4) j10))) + 1)) q28 _ hq30) (by intro a ha; simp only [W_Bracket_cut, W_Bracket_untie, List.mem_cons, List.not_mem_nil, or_false, not_or] at ha ⊢; omega)
      cases hf
      exact hF31
  · have hf := giff c1 hf
    by_cases c34 : 16 ≤ x4
    · have hf := gift c34 hf
      cases hf
      exact h0
    · have hf := giff c34 hf
      obtain ⟨j35, i36, hf⟩ := gbI hf
      obtain ⟨j37, i38, hf⟩ := gbI hf
      obtain ⟨s39, ee40, hf⟩ := gbL hf
      have hF41 : Fr (W_Bracket_cut b1) s s39 := by rw [ee40]; exact Fr.u h0 (by simp [W_Bracket_cut])
      cases hf
      exact hF41
theorem wr_Bracket_cut (b1 : Nat) : ∀ (n w : Nat) (x2 x3 x4 : Int) (s t : kM), fr_Bracket_cut b1 n w x2 x3 x4 s = some t → Fr (W_Bracket_cut b1) s t := by
  intro n
  induction n with
  | zero => intro w x2 x3 x4 s t h; cases h
  | succ n ih =>
    intro w x2 x3 x4 s t h
    exact w_Bracket_cut b1 (fr_Bracket_cut b1 n) ih x2 x3 x4 s t h
def W_Bracket_addUp : List Nat := [45]
theorem w_Bracket_addUp_43 (x1 : Int) (x2 : Int) (x4 : Int) (x5 : Int) (s0 s : kM) (h0 : Fr (W_Bracket_addUp) s0 s) (t : (Int × Int × kM) ⊕ (kM)) (hf : f_Bracket_addUp_43 x1 x2 x4 x5 s = some t) : (gE (fun x => Fr (W_Bracket_addUp) s0 x.2.2) (fun r => Fr (W_Bracket_addUp) s0 r)) t := by
  unfold f_Bracket_addUp_43 at hf
  obtain ⟨z1, hf⟩ := gbD hf
  cases hf
  exact h0
theorem w_Bracket_addUp_11b (x1 : Int) (x2 : Int) (x4 : Int) (x5 : Int) (s0 s : kM) (h0 : Fr (W_Bracket_addUp) s0 s) (t : (Int × Int × kM) ⊕ (kM)) (hf : f_Bracket_addUp_11b x1 x2 x4 x5 s = some t) : (gE (fun x => Fr (W_Bracket_addUp) s0 x.2.2) (fun r => Fr (W_Bracket_addUp) s0 r)) t := by
  unfold f_Bracket_addUp_11b at hf
  by_cases c1 : x2 < x5
  · have hf := gift c1 hf
    cases hf
    exact h0
  · have hf := giff c1 hf
    by_cases c2 : x4 = 0
    · have hf := gift c2 hf
      cases hf
      exact h0
    · have hf := giff c2 hf
      by_cases c3 : (wI ((wI ((wI (x1 + (wI (2 * x2)))) - (wI (4 * x5)))) + 99)) < 0
      · have hf := gift c3 hf
        exact w_Bracket_addUp_43 x1 x2 x4 x5 s0 s h0 _ hf
      · have hf := giff c3 hf
        by_cases c4 : 199 ≤ (wI ((wI ((wI (x1 + (wI (2 * x2)))) - (wI (4 * x5)))) + 99))
        · have hf := gift c4 hf
          exact w_Bracket_addUp_43 x1 x2 x4 x5 s0 s h0 _ hf
        · have hf := giff c4 hf
          obtain ⟨j5, i6, hf⟩ := gbI hf
          obtain ⟨j7, i8, hf⟩ := gbI hf
          obtain ⟨s9, ee10, hf⟩ := gbL hf
          have hF11 : Fr (W_Bracket_addUp) s0 s9 := by rw [ee10]; exact Fr.u h0 (by simp [W_Bracket_addUp])
          exact w_Bracket_addUp_43 x1 x2 x4 x5 s0 s9 hF11 _ hf
theorem w_Bracket_addUp_11 (x1 : Int) (x2 : Int) (x4 : Int) (x5 : Int) (s0 s : kM) (h0 : Fr (W_Bracket_addUp) s0 s) (t : kM) (hf : f_Bracket_addUp_11 x1 x2 x4 x5 s = some t) : (fun r => Fr (W_Bracket_addUp) s0 r) t :=
  gL_fr (P := fun (x : Int × Int × kM) => Fr (W_Bracket_addUp) s0 x.2.2) (q := (fun r => Fr (W_Bracket_addUp) s0 r)) (fun x t hf h0 => w_Bracket_addUp_11b x1 x2 x.1 x.2.1 s0 x.2.2 h0 t hf) gF (x4, x5, s) t hf h0
theorem w_Bracket_addUp_8 (x1 : Int) (x2 : Int) (y0 : Int) (s0 s : kM) (h0 : Fr (W_Bracket_addUp) s0 s) (t : kM) (hf : f_Bracket_addUp_8 x1 x2 y0 s = some t) : (fun r => Fr (W_Bracket_addUp) s0 r) t := by
  unfold f_Bracket_addUp_8 at hf
  exact w_Bracket_addUp_11 x1 x2 y0 0 s0 s h0 _ hf
theorem w_Bracket_addUp (x1 : Int) (x2 : Int) (x3 : Int) (s : kM) (t : kM) (hf : f_Bracket_addUp x1 x2 x3 s = some t) : Fr (W_Bracket_addUp) s t := by
  unfold f_Bracket_addUp at hf
  have h0 : Fr (W_Bracket_addUp) s s := Fr.r
  by_cases c1 : (kand x2 1) = 0
  · have hf := gift c1 hf
    exact w_Bracket_addUp_8 x1 x2 x3 s s h0 _ hf
  · have hf := giff c1 hf
    exact w_Bracket_addUp_8 x1 x2 (wI (-x3)) s s h0 _ hf
def W_Bracket_prepare (b1 : Nat) : List Nat := [44, 45, 46, 47]
theorem w_Bracket_prepare_46b (b1 : Nat) (x2 : Int) (x3 : Int) (s0 s : kM) (h0 : Fr (W_Bracket_prepare b1) s0 s) (t : (Int × kM) ⊕ ((Int × kM) ⊕ (kM))) (hf : f_Bracket_prepare_46b b1 x2 x3 s = some t) : (gE (fun x => Fr (W_Bracket_prepare b1) s0 x.2) (gE (fun x => Fr (W_Bracket_prepare b1) s0 x.2) (fun r => Fr (W_Bracket_prepare b1) s0 r))) t := by
  unfold f_Bracket_prepare_46b at hf
  by_cases c1 : 16 ≤ x3
  · have hf := gift c1 hf
    cases hf
    exact h0
  · have hf := giff c1 hf
    obtain ⟨q2, hq2, hf⟩ := gbind hf
    obtain ⟨j3, i4, hf⟩ := gbI hf
    obtain ⟨q5, hq5, hf⟩ := gbind hf
    have hF6 : Fr (W_Bracket_prepare b1) s0 q5 := Fr.c h0 (w_Bracket_addUp (wI ((wI (2 * x2)) - q2)) (wI (x3 - 1)) (s 46 j3) s _ hq5) (by intro a ha; simp only [W_Bracket_prepare, W_Bracket_addUp, List.mem_cons, List.not_mem_nil, or_false, not_or] at ha ⊢; omega)
    cases hf
    exact hF6
theorem w_Bracket_prepare_46 (b1 : Nat) (x2 : Int) (x3 : Int) (s0 s : kM) (h0 : Fr (W_Bracket_prepare b1) s0 s) (t : (Int × kM) ⊕ (kM)) (hf : f_Bracket_prepare_46 b1 x2 x3 s = some t) : (gE (fun x => Fr (W_Bracket_prepare b1) s0 x.2) (fun r => Fr (W_Bracket_prepare b1) s0 r)) t :=
  gL_fr (P := fun (x : Int × kM) => Fr (W_Bracket_prepare b1) s0 x.2) (q := (gE (fun x => Fr (W_Bracket_prepare b1) s0 x.2) (fun r => Fr (W_Bracket_prepare b1) s0 r))) (fun x t hf h0 => w_Bracket_prepare_46b b1 x2 x.1 s0 x.2 h0 t hf) gF (x3, s) t hf h0
theorem w_Bracket_prepare_40b (b1 : Nat) (x2 : Int) (s0 s : kM) (h0 : Fr (W_Bracket_prepare b1) s0 s) (t : (Int × kM) ⊕ (kM)) (hf : f_Bracket_prepare_40b b1 x2 s = some t) : (gE (fun x => Fr (W_Bracket_prepare b1) s0 x.2) (fun r => Fr (W_Bracket_prepare b1) s0 r)) t := by
  unfold f_Bracket_prepare_40b at hf
  obtain ⟨q1, hq1, hf⟩ := gbind hf
  by_cases c2 : q1 < x2
  · have hf := gift c2 hf
    obtain ⟨s3, ee4, hf⟩ := gbL hf
    have hF5 : Fr (W_Bracket_prepare b1) s0 s3 := by rw [ee4]; exact Fr.u h0 (by simp [W_Bracket_prepare])
    cases hf
    exact hF5
  · have hf := giff c2 hf
    exact w_Bracket_prepare_46 b1 x2 1 s0 s h0 _ hf
theorem w_Bracket_prepare_40 (b1 : Nat) (x2 : Int) (s0 s : kM) (h0 : Fr (W_Bracket_prepare b1) s0 s) (t : kM) (hf : f_Bracket_prepare_40 b1 x2 s = some t) : (fun r => Fr (W_Bracket_prepare b1) s0 r) t :=
  gL_fr (P := fun (x : Int × kM) => Fr (W_Bracket_prepare b1) s0 x.2) (q := (fun r => Fr (W_Bracket_prepare b1) s0 r)) (fun x t hf h0 => w_Bracket_prepare_40b b1 x.1 s0 x.2 h0 t hf) gF (x2, s) t hf h0
theorem w_Bracket_prepare_14b (b1 : Nat) (x2 : Int) (s0 s : kM) (h0 : Fr (W_Bracket_prepare b1) s0 s) (t : (Int × kM) ⊕ (kM)) (hf : f_Bracket_prepare_14b b1 x2 s = some t) : (gE (fun x => Fr (W_Bracket_prepare b1) s0 x.2) (fun r => Fr (W_Bracket_prepare b1) s0 r)) t := by
  unfold f_Bracket_prepare_14b at hf
  by_cases c1 : 44 ≤ x2
  · have hf := gift c1 hf
    obtain ⟨q2, hq2, hf⟩ := gbind hf
    obtain ⟨q3, hq3, hf⟩ := gbind hf
    obtain ⟨q4, hq4, hf⟩ := gbind hf
    have hF5 : Fr (W_Bracket_prepare b1) s0 q4 := Fr.c h0 (wr_Bracket_cut b1 _ 0 0 0 (wI (q2 + q3)) _ _ hq4) (by intro a ha; simp only [W_Bracket_prepare, W_Bracket_cut, List.mem_cons, List.not_mem_nil, or_false, not_or] at ha ⊢; omega)
    obtain ⟨t6, hg7, rfl⟩ := gmap hf
    exact w_Bracket_prepare_40 b1 0 s0 q4 hF5 _ hg7
  · have hf := giff c1 hf
    obtain ⟨j8, i9, hf⟩ := gbI hf
    obtain ⟨s10, ee11, hf⟩ := gbL hf
    have hF12 : Fr (W_Bracket_prepare b1) s0 s10 := by rw [ee11]; exact Fr.u h0 (by simp [W_Bracket_prepare])
    cases hf
    exact hF12
theorem w_Bracket_prepare_14 (b1 : Nat) (x2 : Int) (s0 s : kM) (h0 : Fr (W_Bracket_prepare b1) s0 s) (t : kM) (hf : f_Bracket_prepare_14 b1 x2 s = some t) : (fun r => Fr (W_Bracket_prepare b1) s0 r) t :=
  gL_fr (P := fun (x : Int × kM) => Fr (W_Bracket_prepare b1) s0 x.2) (q := (fun r => Fr (W_Bracket_prepare b1) s0 r)) (fun x t hf h0 => w_Bracket_prepare_14b b1 x.1 s0 x.2 h0 t hf) gF (x2, s) t hf h0
theorem w_Bracket_prepare (b1 : Nat) (s : kM) (t : kM) (hf : f_Bracket_prepare b1 s = some t) : Fr (W_Bracket_prepare b1) s t := by
  unfold f_Bracket_prepare at hf
  have h0 : Fr (W_Bracket_prepare b1) s s := Fr.r
  by_cases c1 : (s 44 0) = 0
  · have hf := gift c1 hf
    obtain ⟨q2, hq2, hf⟩ := gbind hf
    have hF3 : Fr (W_Bracket_prepare b1) s q2 := Fr.c h0 (w_Arrays_fill_II 45 199 0 s _ hq2) (by intro a ha; simp only [W_Bracket_prepare, W_Arrays_fill_II, List.mem_cons, List.not_mem_nil, or_false, not_or] at ha ⊢; omega)
    obtain ⟨q4, hq4, hf⟩ := gbind hf
    have hF5 : Fr (W_Bracket_prepare b1) s q4 := Fr.c hF3 (w_Arrays_fill_II 46 192 0 q2 _ hq4) (by intro a ha; simp only [W_Bracket_prepare, W_Arrays_fill_II, List.mem_cons, List.not_mem_nil, or_false, not_or] at ha ⊢; omega)
    exact w_Bracket_prepare_14 b1 0 s q4 hF5 _ hf
  · have hf := giff c1 hf
    cases hf
    exact h0
def W_KT_polynomial : List Nat := [44, 45, 46, 47]
theorem w_KT_polynomial (x1 : Int) (x2 : Int) (s : kM) (t : Int × kM) (hf : f_KT_polynomial x1 x2 s = some t) : Fr (W_KT_polynomial) s t.2 := by
  unfold f_KT_polynomial at hf
  have h0 : Fr (W_KT_polynomial) s s := Fr.r
  by_cases c1 : (s 4 0) = 0
  · have hf := gift c1 hf
    cases hf
    exact h0
  · have hf := giff c1 hf
    by_cases c2 : x1 < 0
    · have hf := gift c2 hf
      cases hf
      exact h0
    · have hf := giff c2 hf
      by_cases c3 : x1 ≤ 1
      · have hf := gift c3 hf
        obtain ⟨q4, hq4, hf⟩ := gbind hf
        have hF5 : Fr (W_KT_polynomial) s q4 := Fr.c h0 (w_Bracket_prepare 4 s _ hq4) (by intro a ha; simp only [W_KT_polynomial, W_Bracket_prepare, List.mem_cons, List.not_mem_nil, or_false, not_or] at ha ⊢; omega)
        by_cases c6 : x1 = 0
        · have hf := gift c6 hf
          obtain ⟨q9, hq9, hf⟩ := gbind hf
          cases hf
          exact hF5
        · have hf := giff c6 hf
          obtain ⟨q7, hq7, hf⟩ := gbind hf
          obtain ⟨q8, hq8, hf⟩ := gbind hf
          cases hf
          exact hF5
      · have hf := giff c3 hf
        cases hf
        exact h0
def W_Arrays_fill_SS (a0 : Nat) (n0 : Nat) : List Nat := [a0]
theorem w_Arrays_fill_SS_5b (a0 : Nat) (n0 : Nat) (x1 : Int) (x2 : Int) (x3 : Int) (s0 s : kM) (h0 : Fr (W_Arrays_fill_SS a0 n0) s0 s) (t : (Int × kM) ⊕ (kM)) (hf : f_Arrays_fill_SS_5b a0 n0 x1 x2 x3 s = some t) : (gE (fun x => Fr (W_Arrays_fill_SS a0 n0) s0 x.2) (fun r => Fr (W_Arrays_fill_SS a0 n0) s0 r)) t := by
  unfold f_Arrays_fill_SS_5b at hf
  by_cases c1 : x3 ≤ x2
  · have hf := gift c1 hf
    cases hf
    exact h0
  · have hf := giff c1 hf
    obtain ⟨j2, i3, hf⟩ := gbI hf
    obtain ⟨s4, ee5, hf⟩ := gbL hf
    have hF6 : Fr (W_Arrays_fill_SS a0 n0) s0 s4 := by rw [ee5]; exact Fr.u h0 (by simp [W_Arrays_fill_SS])
    cases hf
    exact hF6
theorem w_Arrays_fill_SS_5 (a0 : Nat) (n0 : Nat) (x1 : Int) (x2 : Int) (x3 : Int) (s0 s : kM) (h0 : Fr (W_Arrays_fill_SS a0 n0) s0 s) (t : kM) (hf : f_Arrays_fill_SS_5 a0 n0 x1 x2 x3 s = some t) : (fun r => Fr (W_Arrays_fill_SS a0 n0) s0 r) t :=
  gL_fr (P := fun (x : Int × kM) => Fr (W_Arrays_fill_SS a0 n0) s0 x.2) (q := (fun r => Fr (W_Arrays_fill_SS a0 n0) s0 r)) (fun x t hf h0 => w_Arrays_fill_SS_5b a0 n0 x1 x.1 x3 s0 x.2 h0 t hf) gF (x2, s) t hf h0
theorem w_Arrays_fill_SS (a0 : Nat) (n0 : Nat) (x1 : Int) (s : kM) (t : kM) (hf : f_Arrays_fill_SS a0 n0 x1 s = some t) : Fr (W_Arrays_fill_SS a0 n0) s t := by
  unfold f_Arrays_fill_SS at hf
  have h0 : Fr (W_Arrays_fill_SS a0 n0) s s := Fr.r
  exact w_Arrays_fill_SS_5 a0 n0 x1 0 ((n0 : Nat) : Int) s s h0 _ hf
def W_Search_pack : List Nat := [21]
theorem w_Search_pack_78 (x1 : Int) (x2 : Int) (x3 : Int) (s0 s : kM) (h0 : Fr (W_Search_pack) s0 s) (t : (Int × Int × kM) ⊕ (kM)) (hf : f_Search_pack_78 x1 x2 x3 s = some t) : (gE (fun x => Fr (W_Search_pack) s0 x.2.2) (fun r => Fr (W_Search_pack) s0 r)) t := by
  unfold f_Search_pack_78 at hf
  cases hf
  exact h0
theorem w_Search_pack_76 (x1 : Int) (x2 : Int) (x3 : Int) (y1 : Int) (y2 : Int) (s0 s : kM) (h0 : Fr (W_Search_pack) s0 s) (t : (Int × Int × kM) ⊕ (kM)) (hf : f_Search_pack_76 x1 x2 x3 y1 y2 s = some t) : (gE (fun x => Fr (W_Search_pack) s0 x.2.2) (fun r => Fr (W_Search_pack) s0 r)) t := by
  unfold f_Search_pack_76 at hf
  obtain ⟨s1, ee2, hf⟩ := gbL hf
  have hF3 : Fr (W_Search_pack) s0 s1 := by rw [ee2]; exact Fr.u h0 (by simp [W_Search_pack])
  exact w_Search_pack_78 x1 x2 x3 s0 s1 hF3 _ hf
theorem w_Search_pack_64 (x1 : Int) (x2 : Int) (x3 : Int) (s0 s : kM) (h0 : Fr (W_Search_pack) s0 s) (t : (Int × Int × kM) ⊕ (kM)) (hf : f_Search_pack_64 x1 x2 x3 s = some t) : (gE (fun x => Fr (W_Search_pack) s0 x.2.2) (fun r => Fr (W_Search_pack) s0 r)) t := by
  unfold f_Search_pack_64 at hf
  by_cases c1 : (s 28 1) ≤ x3
  · have hf := gift c1 hf
    exact w_Search_pack_76 x1 (wI (x2 + 1)) x3 (s 21 12) 0 s0 s h0 _ hf
  · have hf := giff c1 hf
    exact w_Search_pack_76 x1 (wI (x2 + 1)) x3 (s 21 12) 1 s0 s h0 _ hf
theorem w_Search_pack_13b (x1 : Int) (x2 : Int) (x3 : Int) (s0 s : kM) (h0 : Fr (W_Search_pack) s0 s) (t : (Int × Int × kM) ⊕ (kM)) (hf : f_Search_pack_13b x1 x2 x3 s = some t) : (gE (fun x => Fr (W_Search_pack) s0 x.2.2) (fun r => Fr (W_Search_pack) s0 r)) t := by
  unfold f_Search_pack_13b at hf
  by_cases c1 : (s 28 2) ≤ x3
  · have hf := gift c1 hf
    cases hf
    exact h0
  · have hf := giff c1 hf
    obtain ⟨j2, i3, hf⟩ := gbI hf
    by_cases c4 : (kand (kshr x1 (kshr (s 29 j2) 1)) 1) = 0
    · have hf := gift c4 hf
      by_cases c5 : 12 ≤ x2
      · have hf := gift c5 hf
        obtain ⟨s6, ee7, hf⟩ := gbL hf
        have hF8 : Fr (W_Search_pack) s0 s6 := by rw [ee7]; exact Fr.u h0 (by simp [W_Search_pack])
        exact w_Search_pack_64 x1 x2 x3 s0 s6 hF8 _ hf
      · have hf := giff c5 hf
        obtain ⟨s9, ee10, hf⟩ := gbL hf
        have hF11 : Fr (W_Search_pack) s0 s9 := by rw [ee10]; exact Fr.u h0 (by simp [W_Search_pack])
        exact w_Search_pack_64 x1 x2 x3 s0 s9 hF11 _ hf
    · have hf := giff c4 hf
      exact w_Search_pack_78 x1 x2 x3 s0 s h0 _ hf
theorem w_Search_pack_13 (x1 : Int) (x2 : Int) (x3 : Int) (s0 s : kM) (h0 : Fr (W_Search_pack) s0 s) (t : kM) (hf : f_Search_pack_13 x1 x2 x3 s = some t) : (fun r => Fr (W_Search_pack) s0 r) t :=
  gL_fr (P := fun (x : Int × Int × kM) => Fr (W_Search_pack) s0 x.2.2) (q := (fun r => Fr (W_Search_pack) s0 r)) (fun x t hf h0 => w_Search_pack_13b x1 x.1 x.2.1 s0 x.2.2 h0 t hf) gF (x2, x3, s) t hf h0
theorem w_Search_pack (x1 : Int) (s : kM) (t : kM) (hf : f_Search_pack x1 s = some t) : Fr (W_Search_pack) s t := by
  unfold f_Search_pack at hf
  have h0 : Fr (W_Search_pack) s s := Fr.r
  obtain ⟨s1, ee2, hf⟩ := gbL hf
  have hF3 : Fr (W_Search_pack) s s1 := by rw [ee2]; exact Fr.u h0 (by simp [W_Search_pack])
  obtain ⟨s4, ee5, hf⟩ := gbL hf
  have hF6 : Fr (W_Search_pack) s s4 := by rw [ee5]; exact Fr.u hF3 (by simp [W_Search_pack])
  obtain ⟨s7, ee8, hf⟩ := gbL hf
  have hF9 : Fr (W_Search_pack) s s7 := by rw [ee8]; exact Fr.u hF6 (by simp [W_Search_pack])
  exact w_Search_pack_13 x1 0 0 s s7 hF9 _ hf
def W_Search_add : List Nat := [21, 22, 23, 24, 25, 26, 27]
theorem w_Search_add (x1 : Int) (x2 : Int) (x3 : Int) (s : kM) (t : kM) (hf : f_Search_add x1 x2 x3 s = some t) : Fr (W_Search_add) s t := by
  unfold f_Search_add at hf
  have h0 : Fr (W_Search_add) s s := Fr.r
  by_cases c1 : x1 < 0
  · have hf := gift c1 hf
    cases hf
    exact h0
  · have hf := giff c1 hf
    by_cases c2 : (s 21 9) < 300
    · have hf := gift c2 hf
      obtain ⟨j3, i4, hf⟩ := gbI hf
      obtain ⟨s5, ee6, hf⟩ := gbL hf
      have hF7 : Fr (W_Search_add) s s5 := by rw [ee6]; exact Fr.u h0 (by simp [W_Search_add])
      obtain ⟨j8, i9, hf⟩ := gbI hf
      obtain ⟨s10, ee11, hf⟩ := gbL hf
      have hF12 : Fr (W_Search_add) s s10 := by rw [ee11]; exact Fr.u hF7 (by simp [W_Search_add])
      obtain ⟨j13, i14, hf⟩ := gbI hf
      obtain ⟨s15, ee16, hf⟩ := gbL hf
      have hF17 : Fr (W_Search_add) s s15 := by rw [ee16]; exact Fr.u hF12 (by simp [W_Search_add])
      obtain ⟨j18, i19, hf⟩ := gbI hf
      obtain ⟨s20, ee21, hf⟩ := gbL hf
      have hF22 : Fr (W_Search_add) s s20 := by rw [ee21]; exact Fr.u hF17 (by simp [W_Search_add])
      obtain ⟨j23, i24, hf⟩ := gbI hf
      obtain ⟨s25, ee26, hf⟩ := gbL hf
      have hF27 : Fr (W_Search_add) s s25 := by rw [ee26]; exact Fr.u hF22 (by simp [W_Search_add])
      obtain ⟨s28, ee29, hf⟩ := gbL hf
      have hF30 : Fr (W_Search_add) s s28 := by rw [ee29]; exact Fr.u hF27 (by simp [W_Search_add])
      obtain ⟨j31, i32, hf⟩ := gbI hf
      obtain ⟨s33, ee34, hf⟩ := gbL hf
      have hF35 : Fr (W_Search_add) s s33 := by rw [ee34]; exact Fr.u hF30 (by simp [W_Search_add])
      cases hf
      exact hF35
    · have hf := giff c2 hf
      cases hf
      exact h0
def W_Search_unpack : List Nat := [28, 29, 31, 32, 33]
theorem w_Search_unpack_48 (x1 : Int) (x2 : Int) (s0 s : kM) (h0 : Fr (W_Search_unpack) s0 s) (t : (Int × kM) ⊕ (kM)) (hf : f_Search_unpack_48 x1 x2 s = some t) : (gE (fun x => Fr (W_Search_unpack) s0 x.2) (fun r => Fr (W_Search_unpack) s0 r)) t := by
  unfold f_Search_unpack_48 at hf
  cases hf
  exact h0
theorem w_Search_unpack_31 (x1 : Int) (x2 : Int) (y0 : Int) (s0 s : kM) (h0 : Fr (W_Search_unpack) s0 s) (t : (Int × kM) ⊕ (kM)) (hf : f_Search_unpack_31 x1 x2 y0 s = some t) : (gE (fun x => Fr (W_Search_unpack) s0 x.2) (fun r => Fr (W_Search_unpack) s0 r)) t := by
  unfold f_Search_unpack_31 at hf
  by_cases c1 : (wI ((wI (klnd y0 31)) - 1)) < 0
  · have hf := gift c1 hf
    exact w_Search_unpack_48 x1 x2 s0 s h0 _ hf
  · have hf := giff c1 hf
    by_cases c2 : 22 ≤ (wI ((wI (klnd y0 31)) - 1))
    · have hf := gift c2 hf
      exact w_Search_unpack_48 x1 x2 s0 s h0 _ hf
    · have hf := giff c2 hf
      obtain ⟨q3, hq3, hf⟩ := gbind hf
      have hF4 : Fr (W_Search_unpack) s0 q3 := Fr.c h0 (w_Town_append 28 (wI ((wI (klnd y0 31)) - 1)) s _ hq3) (by intro a ha; simp only [W_Search_unpack, W_Town_append, List.mem_cons, List.not_mem_nil, or_false, not_or] at ha ⊢; omega)
      exact w_Search_unpack_48 x1 x2 s0 q3 hF4 _ hf
theorem w_Search_unpack_6b (x1 : Int) (x2 : Int) (s0 s : kM) (h0 : Fr (W_Search_unpack) s0 s) (t : (Int × kM) ⊕ (kM)) (hf : f_Search_unpack_6b x1 x2 s = some t) : (gE (fun x => Fr (W_Search_unpack) s0 x.2) (fun r => Fr (W_Search_unpack) s0 r)) t := by
  unfold f_Search_unpack_6b at hf
  by_cases c1 : 22 ≤ x2
  · have hf := gift c1 hf
    obtain ⟨j2, i3, hf⟩ := gbI hf
    obtain ⟨s4, ee5, hf⟩ := gbL hf
    have hF6 : Fr (W_Search_unpack) s0 s4 := by rw [ee5]; exact Fr.u h0 (by simp [W_Search_unpack])
    obtain ⟨q7, hq7, hf⟩ := gbind hf
    have hF8 : Fr (W_Search_unpack) s0 q7 := Fr.c hF6 (w_Town_settle 28 s4 _ hq7) (by intro a ha; simp only [W_Search_unpack, W_Town_settle, List.mem_cons, List.not_mem_nil, or_false, not_or] at ha ⊢; omega)
    cases hf
    exact hF8
  · have hf := giff c1 hf
    by_cases c9 : 12 ≤ x2
    · have hf := gift c9 hf
      obtain ⟨j10, i11, hf⟩ := gbI hf
      exact w_Search_unpack_31 x1 x2 (klshr (s 23 j10) (wI (5 * (wI (x2 - 12))))) s0 s h0 _ hf
    · have hf := giff c9 hf
      obtain ⟨j12, i13, hf⟩ := gbI hf
      exact w_Search_unpack_31 x1 x2 (klshr (s 22 j12) (wI (5 * x2))) s0 s h0 _ hf
theorem w_Search_unpack_6 (x1 : Int) (x2 : Int) (s0 s : kM) (h0 : Fr (W_Search_unpack) s0 s) (t : kM) (hf : f_Search_unpack_6 x1 x2 s = some t) : (fun r => Fr (W_Search_unpack) s0 r) t :=
  gL_fr (P := fun (x : Int × kM) => Fr (W_Search_unpack) s0 x.2) (q := (fun r => Fr (W_Search_unpack) s0 r)) (fun x t hf h0 => w_Search_unpack_6b x1 x.1 s0 x.2 h0 t hf) gF (x2, s) t hf h0
theorem w_Search_unpack (x1 : Int) (s : kM) (t : kM) (hf : f_Search_unpack x1 s = some t) : Fr (W_Search_unpack) s t := by
  unfold f_Search_unpack at hf
  have h0 : Fr (W_Search_unpack) s s := Fr.r
  obtain ⟨s1, ee2, hf⟩ := gbL hf
  have hF3 : Fr (W_Search_unpack) s s1 := by rw [ee2]; exact Fr.u h0 (by simp [W_Search_unpack])
  exact w_Search_unpack_6 x1 0 s s1 hF3 _ hf
def W_Search_packBehind : List Nat := [21, 28, 29]
theorem w_Search_packBehind (x1 : Int) (s : kM) (t : kM) (hf : f_Search_packBehind x1 s = some t) : Fr (W_Search_packBehind) s t := by
  unfold f_Search_packBehind at hf
  have h0 : Fr (W_Search_packBehind) s s := Fr.r
  obtain ⟨q1, hq1, hf⟩ := gbind hf
  by_cases c2 : q1 = 0
  · have hf := gift c2 hf
    obtain ⟨q3, hq3, hf⟩ := gbind hf
    have hF4 : Fr (W_Search_packBehind) s q3 := Fr.c h0 (w_Land_perform 40 28 x1 s _ hq3) (by intro a ha; simp only [W_Search_packBehind, W_Land_perform, List.mem_cons, List.not_mem_nil, or_false, not_or] at ha ⊢; omega)
    obtain ⟨q5, hq5, hf⟩ := gbind hf
    have hF6 : Fr (W_Search_packBehind) s q5 := Fr.c hF4 (w_Search_pack 0 q3 _ hq5) (by intro a ha; simp only [W_Search_packBehind, W_Search_pack, List.mem_cons, List.not_mem_nil, or_false, not_or] at ha ⊢; omega)
    obtain ⟨q7, hq7, hf⟩ := gbind hf
    have hF8 : Fr (W_Search_packBehind) s q7 := Fr.c hF6 (w_Land_perform 40 28 x1 q5 _ hq7) (by intro a ha; simp only [W_Search_packBehind, W_Land_perform, List.mem_cons, List.not_mem_nil, or_false, not_or] at ha ⊢; omega)
    cases hf
    exact hF8
  · have hf := giff c2 hf
    obtain ⟨q9, hq9, hf⟩ := gbind hf
    have hF10 : Fr (W_Search_packBehind) s q9 := Fr.c h0 (w_Search_pack q1 s _ hq9) (by intro a ha; simp only [W_Search_packBehind, W_Search_pack, List.mem_cons, List.not_mem_nil, or_false, not_or] at ha ⊢; omega)
    cases hf
    exact hF10
def W_Search_goOnFrom : List Nat := [21, 22, 23, 24, 25, 26, 27, 28, 29, 31, 32, 33, 40, 41, 42, 43]
theorem w_Search_goOnFrom_57 (x1 : Int) (x2 : Int) (s0 s : kM) (h0 : Fr (W_Search_goOnFrom) s0 s) (t : (Int × kM) ⊕ (Int × kM)) (hf : f_Search_goOnFrom_57 x1 x2 s = some t) : (gE (fun x => Fr (W_Search_goOnFrom) s0 x.2) (fun r => Fr (W_Search_goOnFrom) s0 r.2)) t := by
  unfold f_Search_goOnFrom_57 at hf
  cases hf
  exact h0
theorem w_Search_goOnFrom_46 (x1 : Int) (x2 : Int) (x3 : Int) (s0 s : kM) (h0 : Fr (W_Search_goOnFrom) s0 s) (t : (Int × kM) ⊕ (Int × kM)) (hf : f_Search_goOnFrom_46 x1 x2 x3 s = some t) : (gE (fun x => Fr (W_Search_goOnFrom) s0 x.2) (fun r => Fr (W_Search_goOnFrom) s0 r.2)) t := by
  unfold f_Search_goOnFrom_46 at hf
  by_cases c1 : x3 < 0
  · have hf := gift c1 hf
    exact w_Search_goOnFrom_57 x1 x2 s0 s h0 _ hf
  · have hf := giff c1 hf
    obtain ⟨j2, i3, hf⟩ := gbI hf
    obtain ⟨q4, hq4, hf⟩ := gbind hf
    have hF5 : Fr (W_Search_goOnFrom) s0 q4 := Fr.c h0 (w_Search_add x3 x1 (s 41 j2) s _ hq4) (by intro a ha; simp only [W_Search_goOnFrom, W_Search_add, List.mem_cons, List.not_mem_nil, or_false, not_or] at ha ⊢; omega)
    exact w_Search_goOnFrom_57 x1 x2 s0 q4 hF5 _ hf
theorem w_Search_goOnFrom_10b (x1 : Int) (x2 : Int) (s0 s : kM) (h0 : Fr (W_Search_goOnFrom) s0 s) (t : (Int × kM) ⊕ (Int × kM)) (hf : f_Search_goOnFrom_10b x1 x2 s = some t) : (gE (fun x => Fr (W_Search_goOnFrom) s0 x.2) (fun r => Fr (W_Search_goOnFrom) s0 r.2)) t := by
  unfold f_Search_goOnFrom_10b at hf
  by_cases c1 : (s 40 6) ≤ x2
  · have hf := gift c1 hf
    cases hf
    exact h0
  · have hf := giff c1 hf
    obtain ⟨q2, hq2, hf⟩ := gbind hf
    have hF3 : Fr (W_Search_goOnFrom) s0 q2 := Fr.c h0 (w_Search_packBehind x2 s _ hq2) (by intro a ha; simp only [W_Search_goOnFrom, W_Search_packBehind, List.mem_cons, List.not_mem_nil, or_false, not_or] at ha ⊢; omega)
    by_cases c4 : (q2 21 10) = 0
    · have hf := gift c4 hf
      obtain ⟨s8, ee9, hf⟩ := gbL hf
      have hF10 : Fr (W_Search_goOnFrom) s0 s8 := by rw [ee9]; exact Fr.u hF3 (by simp [W_Search_goOnFrom])
      obtain ⟨j11, i12, hf⟩ := gbI hf
      obtain ⟨s13, ee14, hf⟩ := gbL hf
      have hF15 : Fr (W_Search_goOnFrom) s0 s13 := by rw [ee14]; exact Fr.u hF10 (by simp [W_Search_goOnFrom])
      cases hf
      exact hF15
    · have hf := giff c4 hf
      obtain ⟨q5, hq5, hf⟩ := gbind hf
      by_cases c6 : q5 < 0
      · have hf := gift c6 hf
        exact w_Search_goOnFrom_46 x1 x2 q5 s0 q2 hF3 _ hf
      · have hf := giff c6 hf
        by_cases c7 : (q2 21 9) < 300
        · have hf := gift c7 hf
          exact w_Search_goOnFrom_46 x1 x2 q5 s0 q2 hF3 _ hf
        · have hf := giff c7 hf
          cases hf
          exact hF3
theorem w_Search_goOnFrom_10 (x1 : Int) (x2 : Int) (s0 s : kM) (h0 : Fr (W_Search_goOnFrom) s0 s) (t : Int × kM) (hf : f_Search_goOnFrom_10 x1 x2 s = some t) : (fun r => Fr (W_Search_goOnFrom) s0 r.2) t :=
  gL_fr (P := fun (x : Int × kM) => Fr (W_Search_goOnFrom) s0 x.2) (q := (fun r => Fr (W_Search_goOnFrom) s0 r.2)) (fun x t hf h0 => w_Search_goOnFrom_10b x1 x.1 s0 x.2 h0 t hf) gF (x2, s) t hf h0
theorem w_Search_goOnFrom (x1 : Int) (s : kM) (t : Int × kM) (hf : f_Search_goOnFrom x1 s = some t) : Fr (W_Search_goOnFrom) s t.2 := by
  unfold f_Search_goOnFrom at hf
  have h0 : Fr (W_Search_goOnFrom) s s := Fr.r
  obtain ⟨q1, hq1, hf⟩ := gbind hf
  have hF2 : Fr (W_Search_goOnFrom) s q1 := Fr.c h0 (w_Search_unpack x1 s _ hq1) (by intro a ha; simp only [W_Search_goOnFrom, W_Search_unpack, List.mem_cons, List.not_mem_nil, or_false, not_or] at ha ⊢; omega)
  obtain ⟨q3, hq3, hf⟩ := gbind hf
  have hF4 : Fr (W_Search_goOnFrom) s q3 := Fr.c hF2 (w_Land_survey 40 28 q1 _ hq3) (by intro a ha; simp only [W_Search_goOnFrom, W_Land_survey, List.mem_cons, List.not_mem_nil, or_false, not_or] at ha ⊢; omega)
  exact w_Search_goOnFrom_10 x1 0 s q3 hF4 _ hf
