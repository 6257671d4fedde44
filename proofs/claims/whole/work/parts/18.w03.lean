/-! PRINTED by wip/whole/decall.py: frames -/
def W_Search_shake (b1 : Nat) : List Nat := [21, 22, 23, 24, 25, 26, 27, 28, 29, 30, 31, 32, 33, 40, 41, 42, 43]
theorem w_Search_shake_27b (b1 : Nat) (x2 : Int) (s0 s : kM) (h0 : Fr (W_Search_shake b1) s0 s) (t : (Int × kM) ⊕ (Int × kM)) (hf : f_Search_shake_27b b1 x2 s = some t) : (gE (fun x => Fr (W_Search_shake b1) s0 x.2) (fun r => Fr (W_Search_shake b1) s0 r.2)) t := by
  unfold f_Search_shake_27b at hf
  by_cases c1 : (s 21 9) ≤ x2
  · have hf := gift c1 hf
    cases hf
    exact h0
  · have hf := giff c1 hf
    by_cases c2 : 300 ≤ x2
    · have hf := gift c2 hf
      cases hf
      exact h0
    · have hf := giff c2 hf
      obtain ⟨q3, hq3, hf⟩ := gbind hf
      have hF4 : Fr (W_Search_shake b1) s0 q3.2 := Fr.c h0 (w_Search_goOnFrom x2 s _ hq3) (by intro a ha; simp only [W_Search_shake, W_Search_goOnFrom, List.mem_cons, List.not_mem_nil, or_false, not_or] at ha ⊢; omega)
      by_cases c5 : q3.1 = (-2)
      · have hf := gift c5 hf
        cases hf
        exact hF4
      · have hf := giff c5 hf
        by_cases c6 : q3.1 = (-3)
        · have hf := gift c6 hf
          cases hf
          exact hF4
        · have hf := giff c6 hf
          obtain ⟨q7, hq7, hf⟩ := gbind hf
          cases hf
          exact hF4
theorem w_Search_shake_27 (b1 : Nat) (x2 : Int) (s0 s : kM) (h0 : Fr (W_Search_shake b1) s0 s) (t : Int × kM) (hf : f_Search_shake_27 b1 x2 s = some t) : (fun r => Fr (W_Search_shake b1) s0 r.2) t :=
  gL_fr (P := fun (x : Int × kM) => Fr (W_Search_shake b1) s0 x.2) (q := (fun r => Fr (W_Search_shake b1) s0 r.2)) (fun x t hf h0 => w_Search_shake_27b b1 x.1 s0 x.2 h0 t hf) gF (x2, s) t hf h0
theorem w_Search_shake (b1 : Nat) (s : kM) (t : Int × kM) (hf : f_Search_shake b1 s = some t) : Fr (W_Search_shake b1) s t.2 := by
  unfold f_Search_shake at hf
  have h0 : Fr (W_Search_shake b1) s s := Fr.r
  by_cases c1 : (s b1 2) = 0
  · have hf := gift c1 hf
    cases hf
    exact h0
  · have hf := giff c1 hf
    obtain ⟨q2, hq2, hf⟩ := gbind hf
    have hF3 : Fr (W_Search_shake b1) s q2 := Fr.c h0 (w_Arrays_fill_SS 27 1024 0 s _ hq2) (by intro a ha; simp only [W_Search_shake, W_Arrays_fill_SS, List.mem_cons, List.not_mem_nil, or_false, not_or] at ha ⊢; omega)
    obtain ⟨q4, hq4, hf⟩ := gbind hf
    have hF5 : Fr (W_Search_shake b1) s q4 := Fr.c hF3 (w_Town_copyFrom 28 b1 q2 _ hq4) (by intro a ha; simp only [W_Search_shake, W_Town_copyFrom, List.mem_cons, List.not_mem_nil, or_false, not_or] at ha ⊢; omega)
    obtain ⟨s6, ee7, hf⟩ := gbL hf
    have hF8 : Fr (W_Search_shake b1) s s6 := by rw [ee7]; exact Fr.u hF5 (by simp [W_Search_shake])
    obtain ⟨q9, hq9, hf⟩ := gbind hf
    have hF10 : Fr (W_Search_shake b1) s q9 := Fr.c hF8 (w_Search_pack 0 s6 _ hq9) (by intro a ha; simp only [W_Search_shake, W_Search_pack, List.mem_cons, List.not_mem_nil, or_false, not_or] at ha ⊢; omega)
    obtain ⟨q11, hq11, hf⟩ := gbind hf
    obtain ⟨q12, hq12, hf⟩ := gbind hf
    have hF13 : Fr (W_Search_shake b1) s q12 := Fr.c hF10 (w_Search_add q11 (-1) 0 q9 _ hq12) (by intro a ha; simp only [W_Search_shake, W_Search_add, List.mem_cons, List.not_mem_nil, or_false, not_or] at ha ⊢; omega)
    exact w_Search_shake_27 b1 0 s q12 hF13 _ hf
def W_Search_fewestMoves (b1 : Nat) : List Nat := [21, 22, 23, 24, 25, 26, 27, 28, 29, 30, 31, 32, 33, 40, 41, 42, 43]
theorem w_Search_fewestMoves_11 (b1 : Nat) (s0 s : kM) (h0 : Fr (W_Search_fewestMoves b1) s0 s) (t : Int × kM) (hf : f_Search_fewestMoves_11 b1 s = some t) : (fun r => Fr (W_Search_fewestMoves b1) s0 r.2) t := by
  unfold f_Search_fewestMoves_11 at hf
  cases hf
  exact h0
theorem w_Search_fewestMoves (b1 : Nat) (s : kM) (t : Int × kM) (hf : f_Search_fewestMoves b1 s = some t) : Fr (W_Search_fewestMoves b1) s t.2 := by
  unfold f_Search_fewestMoves at hf
  have h0 : Fr (W_Search_fewestMoves b1) s s := Fr.r
  by_cases c1 : (s 21 16) = 0
  · have hf := gift c1 hf
    obtain ⟨q2, hq2, hf⟩ := gbind hf
    have hF3 : Fr (W_Search_fewestMoves b1) s q2.2 := Fr.c h0 (w_Search_shake b1 s _ hq2) (by intro a ha; simp only [W_Search_fewestMoves, W_Search_shake, List.mem_cons, List.not_mem_nil, or_false, not_or] at ha ⊢; omega)
    obtain ⟨s4, ee5, hf⟩ := gbL hf
    have hF6 : Fr (W_Search_fewestMoves b1) s s4 := by rw [ee5]; exact Fr.u hF3 (by simp [W_Search_fewestMoves])
    obtain ⟨s7, ee8, hf⟩ := gbL hf
    have hF9 : Fr (W_Search_fewestMoves b1) s s7 := by rw [ee8]; exact Fr.u hF6 (by simp [W_Search_fewestMoves])
    exact w_Search_fewestMoves_11 b1 s s7 hF9 _ hf
  · have hf := giff c1 hf
    exact w_Search_fewestMoves_11 b1 s s h0 _ hf
def W_KT_shaken : List Nat := [21, 22, 23, 24, 25, 26, 27, 28, 29, 30, 31, 32, 33, 40, 41, 42, 43]
theorem w_KT_shaken (s : kM) (t : Int × kM) (hf : f_KT_shaken s = some t) : Fr (W_KT_shaken) s t.2 := by
  unfold f_KT_shaken at hf
  have h0 : Fr (W_KT_shaken) s s := Fr.r
  by_cases c1 : (s 4 0) = 0
  · have hf := gift c1 hf
    cases hf
    exact h0
  · have hf := giff c1 hf
    obtain ⟨q2, hq2, hf⟩ := gbind hf
    have hF3 : Fr (W_KT_shaken) s q2.2 := Fr.c h0 (w_Search_fewestMoves 4 s _ hq2) (by intro a ha; simp only [W_KT_shaken, W_Search_fewestMoves, List.mem_cons, List.not_mem_nil, or_false, not_or] at ha ⊢; omega)
    cases hf
    exact hF3
def W_KT_row : List Nat := [21, 22, 23, 24, 25, 26, 27, 28, 29, 30, 31, 32, 33, 40, 41, 42, 43]
theorem w_KT_row (x1 : Int) (x2 : Int) (s : kM) (t : Int × kM) (hf : f_KT_row x1 x2 s = some t) : Fr (W_KT_row) s t.2 := by
  unfold f_KT_row at hf
  have h0 : Fr (W_KT_row) s s := Fr.r
  by_cases c1 : (s 4 0) = 0
  · have hf := gift c1 hf
    cases hf
    exact h0
  · have hf := giff c1 hf
    by_cases c2 : x1 < 0
    · have hf := gift c2 hf
      cases hf
      exact h0
    · have hf := giff c2 hf
      by_cases c3 : x2 < 0
      · have hf := gift c3 hf
        cases hf
        exact h0
      · have hf := giff c3 hf
        by_cases c4 : x2 ≤ 3
        · have hf := gift c4 hf
          obtain ⟨q5, hq5, hf⟩ := gbind hf
          have hF6 : Fr (W_KT_row) s q5.2 := Fr.c h0 (w_Search_fewestMoves 4 s _ hq5) (by intro a ha; simp only [W_KT_row, W_Search_fewestMoves, List.mem_cons, List.not_mem_nil, or_false, not_or] at ha ⊢; omega)
          by_cases c7 : 0 ≤ q5.1
          · have hf := gift c7 hf
            by_cases c8 : x1 < q5.1
            · have hf := gift c8 hf
              obtain ⟨q9, hq9, hf⟩ := gbind hf
              obtain ⟨q10, hq10, hf⟩ := gbind hf
              cases hf
              exact hF6
            · have hf := giff c8 hf
              cases hf
              exact hF6
          · have hf := giff c7 hf
            cases hf
            exact hF6
        · have hf := giff c4 hf
          cases hf
          exact h0
def W_Search_tryOut (b1 : Nat) : List Nat := [34, 35, 36, 37, 38, 39]
theorem w_Search_tryOut_20 (b1 : Nat) (x2 : Int) (x3 : Int) (s0 s : kM) (h0 : Fr (W_Search_tryOut b1) s0 s) (t : (Int × kM) ⊕ (Int × kM)) (hf : f_Search_tryOut_20 b1 x2 x3 s = some t) : (gE (fun x => Fr (W_Search_tryOut b1) s0 x.2) (fun r => Fr (W_Search_tryOut b1) s0 r.2)) t := by
  unfold f_Search_tryOut_20 at hf
  cases hf
  exact h0
theorem w_Search_tryOut_6b (b1 : Nat) (x2 : Int) (x3 : Int) (s0 s : kM) (h0 : Fr (W_Search_tryOut b1) s0 s) (t : (Int × kM) ⊕ (Int × kM)) (hf : f_Search_tryOut_6b b1 x2 x3 s = some t) : (gE (fun x => Fr (W_Search_tryOut b1) s0 x.2) (fun r => Fr (W_Search_tryOut b1) s0 r.2)) t := by
  unfold f_Search_tryOut_6b at hf
  by_cases c1 : 11 ≤ x3
  · have hf := gift c1 hf
    obtain ⟨q2, hq2, hf⟩ := gbind hf
    by_cases c3 : q2 = 0
    · have hf := gift c3 hf
      cases hf
      exact h0
    · have hf := giff c3 hf
      cases hf
      exact h0
  · have hf := giff c1 hf
    by_cases c4 : (kand (kshr x2 x3) 1) = 1
    · have hf := gift c4 hf
      obtain ⟨q5, hq5, hf⟩ := gbind hf
      have hF6 : Fr (W_Search_tryOut b1) s0 q5 := Fr.c h0 (w_Town_flip 34 x3 s _ hq5) (by intro a ha; simp only [W_Search_tryOut, W_Town_flip, List.mem_cons, List.not_mem_nil, or_false, not_or] at ha ⊢; omega)
      exact w_Search_tryOut_20 b1 x2 x3 s0 q5 hF6 _ hf
    · have hf := giff c4 hf
      exact w_Search_tryOut_20 b1 x2 x3 s0 s h0 _ hf
theorem w_Search_tryOut_6 (b1 : Nat) (x2 : Int) (x3 : Int) (s0 s : kM) (h0 : Fr (W_Search_tryOut b1) s0 s) (t : Int × kM) (hf : f_Search_tryOut_6 b1 x2 x3 s = some t) : (fun r => Fr (W_Search_tryOut b1) s0 r.2) t :=
  gL_fr (P := fun (x : Int × kM) => Fr (W_Search_tryOut b1) s0 x.2) (q := (fun r => Fr (W_Search_tryOut b1) s0 r.2)) (fun x t hf h0 => w_Search_tryOut_6b b1 x2 x.1 s0 x.2 h0 t hf) gF (x3, s) t hf h0
theorem w_Search_tryOut (b1 : Nat) (x2 : Int) (s : kM) (t : Int × kM) (hf : f_Search_tryOut b1 x2 s = some t) : Fr (W_Search_tryOut b1) s t.2 := by
  unfold f_Search_tryOut at hf
  have h0 : Fr (W_Search_tryOut b1) s s := Fr.r
  obtain ⟨q1, hq1, hf⟩ := gbind hf
  have hF2 : Fr (W_Search_tryOut b1) s q1 := Fr.c h0 (w_Town_copyFrom 34 b1 s _ hq1) (by intro a ha; simp only [W_Search_tryOut, W_Town_copyFrom, List.mem_cons, List.not_mem_nil, or_false, not_or] at ha ⊢; omega)
  exact w_Search_tryOut_6 b1 x2 0 s q1 hF2 _ hf
def W_Search_fewestChanges (b1 : Nat) : List Nat := [21, 22, 23, 24, 25, 26, 27, 28, 29, 30, 31, 32, 33, 34, 35, 36, 37, 38, 39, 40, 41, 42, 43]
theorem w_Search_fewestChanges_77 (b1 : Nat) (s0 s : kM) (h0 : Fr (W_Search_fewestChanges b1) s0 s) (t : Int × kM) (hf : f_Search_fewestChanges_77 b1 s = some t) : (fun r => Fr (W_Search_fewestChanges b1) s0 r.2) t := by
  unfold f_Search_fewestChanges_77 at hf
  cases hf
  exact h0
theorem w_Search_fewestChanges_68 (b1 : Nat) (s0 s : kM) (h0 : Fr (W_Search_fewestChanges b1) s0 s) (t : Int × kM) (hf : f_Search_fewestChanges_68 b1 s = some t) : (fun r => Fr (W_Search_fewestChanges b1) s0 r.2) t := by
  unfold f_Search_fewestChanges_68 at hf
  by_cases c1 : (s 21 18) = 0
  · have hf := gift c1 hf
    obtain ⟨s2, ee3, hf⟩ := gbL hf
    have hF4 : Fr (W_Search_fewestChanges b1) s0 s2 := by rw [ee3]; exact Fr.u h0 (by simp [W_Search_fewestChanges])
    obtain ⟨s5, ee6, hf⟩ := gbL hf
    have hF7 : Fr (W_Search_fewestChanges b1) s0 s5 := by rw [ee6]; exact Fr.u hF4 (by simp [W_Search_fewestChanges])
    exact w_Search_fewestChanges_77 b1 s0 s5 hF7 _ hf
  · have hf := giff c1 hf
    exact w_Search_fewestChanges_77 b1 s0 s h0 _ hf
theorem w_Search_fewestChanges_66 (b1 : Nat) (x2 : Int) (x3 : Int) (s0 s : kM) (h0 : Fr (W_Search_fewestChanges b1) s0 s) (t : (Int × kM) ⊕ (Int × kM)) (hf : f_Search_fewestChanges_66 b1 x2 x3 s = some t) : (gE (fun x => Fr (W_Search_fewestChanges b1) s0 x.2) (fun r => Fr (W_Search_fewestChanges b1) s0 r.2)) t := by
  unfold f_Search_fewestChanges_66 at hf
  cases hf
  exact h0
theorem w_Search_fewestChanges_56 (b1 : Nat) (x2 : Int) (x3 : Int) (x4 : Int) (x5 : Int) (s0 s : kM) (h0 : Fr (W_Search_fewestChanges b1) s0 s) (t : (Int × Int × kM) ⊕ ((Int × kM) ⊕ (Int × kM))) (hf : f_Search_fewestChanges_56 b1 x2 x3 x4 x5 s = some t) : (gE (fun x => Fr (W_Search_fewestChanges b1) s0 x.2.2) (gE (fun x => Fr (W_Search_fewestChanges b1) s0 x.2) (fun r => Fr (W_Search_fewestChanges b1) s0 r.2))) t := by
  unfold f_Search_fewestChanges_56 at hf
  cases hf
  exact h0
theorem w_Search_fewestChanges_30b (b1 : Nat) (x2 : Int) (x3 : Int) (x4 : Int) (x5 : Int) (s0 s : kM) (h0 : Fr (W_Search_fewestChanges b1) s0 s) (t : (Int × Int × kM) ⊕ ((Int × kM) ⊕ (Int × kM))) (hf : f_Search_fewestChanges_30b b1 x2 x3 x4 x5 s = some t) : (gE (fun x => Fr (W_Search_fewestChanges b1) s0 x.2.2) (gE (fun x => Fr (W_Search_fewestChanges b1) s0 x.2) (fun r => Fr (W_Search_fewestChanges b1) s0 r.2))) t := by
  unfold f_Search_fewestChanges_30b at hf
  by_cases c1 : x2 ≤ x5
  · have hf := gift c1 hf
    obtain ⟨t2, hg3, rfl⟩ := gmap hf
    exact w_Search_fewestChanges_66 b1 x2 x3 s0 s h0 _ hg3
  · have hf := giff c1 hf
    by_cases c4 : (s 21 18) = 0
    · have hf := gift c4 hf
      obtain ⟨q7, hq7, hf⟩ := gbind hf
      by_cases c8 : q7 = x3
      · have hf := gift c8 hf
        obtain ⟨q9, hq9, hf⟩ := gbind hf
        have hF10 : Fr (W_Search_fewestChanges b1) s0 q9.2 := Fr.c h0 (w_Search_tryOut b1 x4 s _ hq9) (by intro a ha; simp only [W_Search_fewestChanges, W_Search_tryOut, List.mem_cons, List.not_mem_nil, or_false, not_or] at ha ⊢; omega)
        by_cases c11 : q9.1 = 0
        · have hf := gift c11 hf
          exact w_Search_fewestChanges_56 b1 x2 x3 x4 x5 s0 q9.2 hF10 _ hf
        · have hf := giff c11 hf
          obtain ⟨q12, hq12, hf⟩ := gbind hf
          have hF13 : Fr (W_Search_fewestChanges b1) s0 q12.2 := Fr.c hF10 (w_Search_shake 34 q9.2 _ hq12) (by intro a ha; simp only [W_Search_fewestChanges, W_Search_shake, List.mem_cons, List.not_mem_nil, or_false, not_or] at ha ⊢; omega)
          by_cases c14 : q12.1 < 0
          · have hf := gift c14 hf
            exact w_Search_fewestChanges_56 b1 x2 x3 x4 x5 s0 q12.2 hF13 _ hf
          · have hf := giff c14 hf
            obtain ⟨s15, ee16, hf⟩ := gbL hf
            have hF17 : Fr (W_Search_fewestChanges b1) s0 s15 := by rw [ee16]; exact Fr.u hF13 (by simp [W_Search_fewestChanges])
            obtain ⟨s18, ee19, hf⟩ := gbL hf
            have hF20 : Fr (W_Search_fewestChanges b1) s0 s18 := by rw [ee19]; exact Fr.u hF17 (by simp [W_Search_fewestChanges])
            exact w_Search_fewestChanges_56 b1 x2 x3 x4 x5 s0 s18 hF20 _ hf
      · have hf := giff c8 hf
        exact w_Search_fewestChanges_56 b1 x2 x3 x4 x5 s0 s h0 _ hf
    · have hf := giff c4 hf
      obtain ⟨t5, hg6, rfl⟩ := gmap hf
      exact w_Search_fewestChanges_66 b1 x2 x3 s0 s h0 _ hg6
theorem w_Search_fewestChanges_30 (b1 : Nat) (x2 : Int) (x3 : Int) (x4 : Int) (x5 : Int) (s0 s : kM) (h0 : Fr (W_Search_fewestChanges b1) s0 s) (t : (Int × kM) ⊕ (Int × kM)) (hf : f_Search_fewestChanges_30 b1 x2 x3 x4 x5 s = some t) : (gE (fun x => Fr (W_Search_fewestChanges b1) s0 x.2) (fun r => Fr (W_Search_fewestChanges b1) s0 r.2)) t :=
  gL_fr (P := fun (x : Int × Int × kM) => Fr (W_Search_fewestChanges b1) s0 x.2.2) (q := (gE (fun x => Fr (W_Search_fewestChanges b1) s0 x.2) (fun r => Fr (W_Search_fewestChanges b1) s0 r.2))) (fun x t hf h0 => w_Search_fewestChanges_30b b1 x2 x3 x.1 x.2.1 s0 x.2.2 h0 t hf) gF (x4, x5, s) t hf h0
theorem w_Search_fewestChanges_20b (b1 : Nat) (x2 : Int) (x3 : Int) (s0 s : kM) (h0 : Fr (W_Search_fewestChanges b1) s0 s) (t : (Int × kM) ⊕ (Int × kM)) (hf : f_Search_fewestChanges_20b b1 x2 x3 s = some t) : (gE (fun x => Fr (W_Search_fewestChanges b1) s0 x.2) (fun r => Fr (W_Search_fewestChanges b1) s0 r.2)) t := by
  unfold f_Search_fewestChanges_20b at hf
  by_cases c1 : 6 < x3
  · have hf := gift c1 hf
    obtain ⟨t2, hg3, rfl⟩ := gmap hf
    exact w_Search_fewestChanges_68 b1 s0 s h0 _ hg3
  · have hf := giff c1 hf
    by_cases c4 : (s 21 18) = 0
    · have hf := gift c4 hf
      exact w_Search_fewestChanges_30 b1 x2 x3 0 0 s0 s h0 _ hf
    · have hf := giff c4 hf
      obtain ⟨t5, hg6, rfl⟩ := gmap hf
      exact w_Search_fewestChanges_68 b1 s0 s h0 _ hg6
theorem w_Search_fewestChanges_20 (b1 : Nat) (x2 : Int) (x3 : Int) (s0 s : kM) (h0 : Fr (W_Search_fewestChanges b1) s0 s) (t : Int × kM) (hf : f_Search_fewestChanges_20 b1 x2 x3 s = some t) : (fun r => Fr (W_Search_fewestChanges b1) s0 r.2) t :=
  gL_fr (P := fun (x : Int × kM) => Fr (W_Search_fewestChanges b1) s0 x.2) (q := (fun r => Fr (W_Search_fewestChanges b1) s0 r.2)) (fun x t hf h0 => w_Search_fewestChanges_20b b1 x2 x.1 s0 x.2 h0 t hf) gF (x3, s) t hf h0
theorem w_Search_fewestChanges_17 (b1 : Nat) (x2 : Int) (y1 : Int) (s0 s : kM) (h0 : Fr (W_Search_fewestChanges b1) s0 s) (t : Int × kM) (hf : f_Search_fewestChanges_17 b1 x2 y1 s = some t) : (fun r => Fr (W_Search_fewestChanges b1) s0 r.2) t := by
  unfold f_Search_fewestChanges_17 at hf
  obtain ⟨w1, hf⟩ := gbB hf
  obtain ⟨s2, ee3, hf⟩ := gbL hf
  have hF4 : Fr (W_Search_fewestChanges b1) s0 s2 := by rw [ee3]; exact Fr.u h0 (by simp [W_Search_fewestChanges])
  exact w_Search_fewestChanges_20 b1 x2 0 s0 s2 hF4 _ hf
theorem w_Search_fewestChanges_16 (b1 : Nat) (x2 : Int) (s0 s : kM) (h0 : Fr (W_Search_fewestChanges b1) s0 s) (t : Int × kM) (hf : f_Search_fewestChanges_16 b1 x2 s = some t) : (fun r => Fr (W_Search_fewestChanges b1) s0 r.2) t := by
  unfold f_Search_fewestChanges_16 at hf
  exact w_Search_fewestChanges_17 b1 x2 0 s0 s h0 _ hf
theorem w_Search_fewestChanges (b1 : Nat) (s : kM) (t : Int × kM) (hf : f_Search_fewestChanges b1 s = some t) : Fr (W_Search_fewestChanges b1) s t.2 := by
  unfold f_Search_fewestChanges at hf
  have h0 : Fr (W_Search_fewestChanges b1) s s := Fr.r
  obtain ⟨q1, hq1, hf⟩ := gbind hf
  obtain ⟨q2, hq2, hf⟩ := gbind hf
  by_cases c3 : (s 21 16) = 0
  · have hf := gift c3 hf
    exact w_Search_fewestChanges_16 b1 (kshl 1 q2) s s h0 _ hf
  · have hf := giff c3 hf
    by_cases c4 : (s 21 18) = 0
    · have hf := gift c4 hf
      exact w_Search_fewestChanges_16 b1 (kshl 1 q2) s s h0 _ hf
    · have hf := giff c4 hf
      exact w_Search_fewestChanges_17 b1 (kshl 1 q2) 1 s s h0 _ hf
def W_KT_changes : List Nat := [21, 22, 23, 24, 25, 26, 27, 28, 29, 30, 31, 32, 33, 34, 35, 36, 37, 38, 39, 40, 41, 42, 43]
theorem w_KT_changes (x1 : Int) (s : kM) (t : Int × kM) (hf : f_KT_changes x1 s = some t) : Fr (W_KT_changes) s t.2 := by
  unfold f_KT_changes at hf
  have h0 : Fr (W_KT_changes) s s := Fr.r
  by_cases c1 : (s 4 0) = 0
  · have hf := gift c1 hf
    cases hf
    exact h0
  · have hf := giff c1 hf
    by_cases c2 : x1 < 0
    · have hf := gift c2 hf
      cases hf
      exact h0
    · have hf := giff c2 hf
      by_cases c3 : 1 < x1
      · have hf := gift c3 hf
        cases hf
        exact h0
      · have hf := giff c3 hf
        obtain ⟨q4, hq4, hf⟩ := gbind hf
        by_cases c5 : q4 ≤ 6
        · have hf := gift c5 hf
          obtain ⟨q6, hq6, hf⟩ := gbind hf
          have hF7 : Fr (W_KT_changes) s q6.2 := Fr.c h0 (w_Search_fewestChanges 4 s _ hq6) (by intro a ha; simp only [W_KT_changes, W_Search_fewestChanges, List.mem_cons, List.not_mem_nil, or_false, not_or] at ha ⊢; omega)
          by_cases c8 : 0 ≤ q6.1
          · have hf := gift c8 hf
            by_cases c9 : x1 = 0
            · have hf := gift c9 hf
              obtain ⟨q10, hq10, hf⟩ := gbind hf
              cases hf
              exact hF7
            · have hf := giff c9 hf
              cases hf
              exact hF7
          · have hf := giff c8 hf
            cases hf
            exact hF7
        · have hf := giff c5 hf
          cases hf
          exact h0
def W_Gossip_begin (b1 : Nat) : List Nat := [51, 52]
theorem w_Gossip_begin (b1 : Nat) (x2 : Int) (s : kM) (t : kM) (hf : f_Gossip_begin b1 x2 s = some t) : Fr (W_Gossip_begin b1) s t := by
  unfold f_Gossip_begin at hf
  have h0 : Fr (W_Gossip_begin b1) s s := Fr.r
  obtain ⟨s1, ee2, hf⟩ := gbL hf
  have hF3 : Fr (W_Gossip_begin b1) s s1 := by rw [ee2]; exact Fr.u h0 (by simp [W_Gossip_begin])
  obtain ⟨q4, hq4, hf⟩ := gbind hf
  obtain ⟨s5, ee6, hf⟩ := gbL hf
  have hF7 : Fr (W_Gossip_begin b1) s s5 := by rw [ee6]; exact Fr.u hF3 (by simp [W_Gossip_begin])
  cases hf
  exact hF7
def W_Rule_bars (e0 : Int) (a1 : Nat) (n1 : Nat) (a2 : Nat) (n2 : Nat) : List Nat := [a2]
theorem w_Rule_bars_71 (e0 : Int) (a1 : Nat) (n1 : Nat) (a2 : Nat) (n2 : Nat) (x3 : Int) (x4 : Int) (s0 s : kM) (h0 : Fr (W_Rule_bars e0 a1 n1 a2 n2) s0 s) (t : (Int × Int × kM) ⊕ (Int × kM)) (hf : f_Rule_bars_71 e0 a1 n1 a2 n2 x3 x4 s = some t) : (gE (fun x => Fr (W_Rule_bars e0 a1 n1 a2 n2) s0 x.2.2) (fun r => Fr (W_Rule_bars e0 a1 n1 a2 n2) s0 r.2)) t := by
  unfold f_Rule_bars_71 at hf
  cases hf
  exact h0
theorem w_Rule_bars_31 (e0 : Int) (a1 : Nat) (n1 : Nat) (a2 : Nat) (n2 : Nat) (x3 : Int) (x4 : Int) (y1 : Int) (y2 : Int) (s0 s : kM) (h0 : Fr (W_Rule_bars e0 a1 n1 a2 n2) s0 s) (t : (Int × Int × kM) ⊕ (Int × kM)) (hf : f_Rule_bars_31 e0 a1 n1 a2 n2 x3 x4 y1 y2 s = some t) : (gE (fun x => Fr (W_Rule_bars e0 a1 n1 a2 n2) s0 x.2.2) (fun r => Fr (W_Rule_bars e0 a1 n1 a2 n2) s0 r.2)) t := by
  unfold f_Rule_bars_31 at hf
  obtain ⟨j1, i2, hf⟩ := gbI hf
  obtain ⟨s3, ee4, hf⟩ := gbL hf
  have hF5 : Fr (W_Rule_bars e0 a1 n1 a2 n2) s0 s3 := by rw [ee4]; exact Fr.u h0 (by simp [W_Rule_bars])
  exact w_Rule_bars_71 e0 a1 n1 a2 n2 (wI (x3 + 1)) x4 s0 s3 hF5 _ hf
theorem w_Rule_bars_4b (e0 : Int) (a1 : Nat) (n1 : Nat) (a2 : Nat) (n2 : Nat) (x3 : Int) (x4 : Int) (s0 s : kM) (h0 : Fr (W_Rule_bars e0 a1 n1 a2 n2) s0 s) (t : (Int × Int × kM) ⊕ (Int × kM)) (hf : f_Rule_bars_4b e0 a1 n1 a2 n2 x3 x4 s = some t) : (gE (fun x => Fr (W_Rule_bars e0 a1 n1 a2 n2) s0 x.2.2) (fun r => Fr (W_Rule_bars e0 a1 n1 a2 n2) s0 r.2)) t := by
  unfold f_Rule_bars_4b at hf
  obtain ⟨k1, h2, hf⟩ := gbR hf
  by_cases c3 : (((s k1 0).toNat : Nat) : Int) ≤ x4
  · have hf := gift c3 hf
    by_cases c4 : x3 ≤ 0
    · have hf := gift c4 hf
      cases hf
      exact h0
    · have hf := giff c4 hf
      obtain ⟨j5, i6, hf⟩ := gbI hf
      by_cases c7 : (s a2 j5) = 0
      · have hf := gift c7 hf
        cases hf
        exact h0
      · have hf := giff c7 hf
        cases hf
        exact h0
  · have hf := giff c3 hf
    obtain ⟨k8, h9, hf⟩ := gbR hf
    obtain ⟨j10, i11, hf⟩ := gbI hf
    by_cases c12 : (s (k8 + 1) j10) ≤ (-10)
    · have hf := gift c12 hf
      by_cases c13 : (s (k8 + 1) j10) = (-22)
      · have hf := gift c13 hf
        by_cases c25 : x3 ≤ 0
        · have hf := gift c25 hf
          exact w_Rule_bars_71 e0 a1 n1 a2 n2 x3 x4 s0 s h0 _ hf
        · have hf := giff c25 hf
          obtain ⟨j26, i27, hf⟩ := gbI hf
          obtain ⟨j28, i29, hf⟩ := gbI hf
          obtain ⟨s30, ee31, hf⟩ := gbL hf
          have hF32 : Fr (W_Rule_bars e0 a1 n1 a2 n2) s0 s30 := by rw [ee31]; exact Fr.u h0 (by simp [W_Rule_bars])
          exact w_Rule_bars_71 e0 a1 n1 a2 n2 x3 x4 s0 s30 hF32 _ hf
      · have hf := giff c13 hf
        by_cases c14 : x3 ≤ 1
        · have hf := gift c14 hf
          exact w_Rule_bars_71 e0 a1 n1 a2 n2 x3 x4 s0 s h0 _ hf
        · have hf := giff c14 hf
          obtain ⟨j15, i16, hf⟩ := gbI hf
          obtain ⟨j17, i18, hf⟩ := gbI hf
          obtain ⟨q19, hq19, hf⟩ := gbind hf
          obtain ⟨j20, i21, hf⟩ := gbI hf
          obtain ⟨s22, ee23, hf⟩ := gbL hf
          have hF24 : Fr (W_Rule_bars e0 a1 n1 a2 n2) s0 s22 := by rw [ee23]; exact Fr.u h0 (by simp [W_Rule_bars])
          exact w_Rule_bars_71 e0 a1 n1 a2 n2 (wI (x3 + (-1))) x4 s0 s22 hF24 _ hf
    · have hf := giff c12 hf
      by_cases c33 : ((n2 : Nat) : Int) ≤ x3
      · have hf := gift c33 hf
        exact w_Rule_bars_71 e0 a1 n1 a2 n2 x3 x4 s0 s h0 _ hf
      · have hf := giff c33 hf
        by_cases c34 : (s (k8 + 1) j10) < 0
        · have hf := gift c34 hf
          obtain ⟨q35, hq35, hf⟩ := gbind hf
          exact w_Rule_bars_31 e0 a1 n1 a2 n2 x3 x4 x3 q35 s0 s h0 _ hf
        · have hf := giff c34 hf
          exact w_Rule_bars_31 e0 a1 n1 a2 n2 x3 x4 x3 (s (k8 + 1) j10) s0 s h0 _ hf
theorem w_Rule_bars_4 (e0 : Int) (a1 : Nat) (n1 : Nat) (a2 : Nat) (n2 : Nat) (x3 : Int) (x4 : Int) (s0 s : kM) (h0 : Fr (W_Rule_bars e0 a1 n1 a2 n2) s0 s) (t : Int × kM) (hf : f_Rule_bars_4 e0 a1 n1 a2 n2 x3 x4 s = some t) : (fun r => Fr (W_Rule_bars e0 a1 n1 a2 n2) s0 r.2) t :=
  gL_fr (P := fun (x : Int × Int × kM) => Fr (W_Rule_bars e0 a1 n1 a2 n2) s0 x.2.2) (q := (fun r => Fr (W_Rule_bars e0 a1 n1 a2 n2) s0 r.2)) (fun x t hf h0 => w_Rule_bars_4b e0 a1 n1 a2 n2 x.1 x.2.1 s0 x.2.2 h0 t hf) gF (x3, x4, s) t hf h0
theorem w_Rule_bars (e0 : Int) (a1 : Nat) (n1 : Nat) (a2 : Nat) (n2 : Nat) (s : kM) (t : Int × kM) (hf : f_Rule_bars e0 a1 n1 a2 n2 s = some t) : Fr (W_Rule_bars e0 a1 n1 a2 n2) s t.2 := by
  unfold f_Rule_bars at hf
  have h0 : Fr (W_Rule_bars e0 a1 n1 a2 n2) s s := Fr.r
  exact w_Rule_bars_4 e0 a1 n1 a2 n2 0 0 s s h0 _ hf
def W_Gossip_tell (e1 : Int) : List Nat := [51, 52, 53]
theorem w_Gossip_tell_24 (e1 : Int) (x2 : Int) (s0 s : kM) (h0 : Fr (W_Gossip_tell e1) s0 s) (t : kM) (hf : f_Gossip_tell_24 e1 x2 s = some t) : (fun r => Fr (W_Gossip_tell e1) s0 r) t := by
  unfold f_Gossip_tell_24 at hf
  obtain ⟨s1, ee2, hf⟩ := gbL hf
  have hF3 : Fr (W_Gossip_tell e1) s0 s1 := by rw [ee2]; exact Fr.u h0 (by simp [W_Gossip_tell])
  cases hf
  exact hF3
theorem w_Gossip_tell (e1 : Int) (x2 : Int) (s : kM) (t : kM) (hf : f_Gossip_tell e1 x2 s = some t) : Fr (W_Gossip_tell e1) s t := by
  unfold f_Gossip_tell at hf
  have h0 : Fr (W_Gossip_tell e1) s s := Fr.r
  by_cases c1 : (kand (kshr (s 51 2) x2) 1) = 1
  · have hf := gift c1 hf
    cases hf
    exact h0
  · have hf := giff c1 hf
    obtain ⟨s2, ee3, hf⟩ := gbL hf
    have hF4 : Fr (W_Gossip_tell e1) s s2 := by rw [ee3]; exact Fr.u h0 (by simp [W_Gossip_tell])
    by_cases c5 : e1 < 0
    · have hf := gift c5 hf
      exact w_Gossip_tell_24 e1 x2 s s2 hF4 _ hf
    · have hf := giff c5 hf
      obtain ⟨k7, h8, hf⟩ := gbR hf
      obtain ⟨q6, hq6, hf⟩ := gbind hf
      have hF9 : Fr (W_Gossip_tell e1) s q6.2 := Fr.c hF4 (w_Rule_bars e1 52 8 53 64 s2 _ hq6) (by intro a ha; simp only [W_Gossip_tell, W_Rule_bars, List.mem_cons, List.not_mem_nil, or_false, not_or] at ha ⊢; omega)
      by_cases c10 : q6.1 = 0
      · have hf := gift c10 hf
        exact w_Gossip_tell_24 e1 x2 s q6.2 hF9 _ hf
      · have hf := giff c10 hf
        cases hf
        exact hF9
def W_Gossip_meet (b1 : Nat) (e2 : Int) : List Nat := [51, 52, 53]
theorem w_Gossip_meet (b1 : Nat) (e2 : Int) (x3 : Int) (x4 : Int) (s : kM) (t : kM) (hf : f_Gossip_meet b1 e2 x3 x4 s = some t) : Fr (W_Gossip_meet b1 e2) s t := by
  unfold f_Gossip_meet at hf
  have h0 : Fr (W_Gossip_meet b1 e2) s s := Fr.r
  obtain ⟨j1, i2, hf⟩ := gbI hf
  obtain ⟨j3, i4, hf⟩ := gbI hf
  obtain ⟨q5, hq5, hf⟩ := gbind hf
  by_cases c6 : q5 = 0
  · have hf := gift c6 hf
    cases hf
    exact h0
  · have hf := giff c6 hf
    obtain ⟨s7, ee8, hf⟩ := gbL hf
    have hF9 : Fr (W_Gossip_meet b1 e2) s s7 := by rw [ee8]; exact Fr.u h0 (by simp [W_Gossip_meet])
    obtain ⟨j10, i11, hf⟩ := gbI hf
    obtain ⟨s12, ee13, hf⟩ := gbL hf
    have hF14 : Fr (W_Gossip_meet b1 e2) s s12 := by rw [ee13]; exact Fr.u hF9 (by simp [W_Gossip_meet])
    obtain ⟨s15, ee16, hf⟩ := gbL hf
    have hF17 : Fr (W_Gossip_meet b1 e2) s s15 := by rw [ee16]; exact Fr.u hF14 (by simp [W_Gossip_meet])
    obtain ⟨s18, ee19, hf⟩ := gbL hf
    have hF20 : Fr (W_Gossip_meet b1 e2) s s18 := by rw [ee19]; exact Fr.u hF17 (by simp [W_Gossip_meet])
    obtain ⟨q21, hq21, hf⟩ := gbind hf
    have hF22 : Fr (W_Gossip_meet b1 e2) s q21 := Fr.c hF20 (w_Gossip_tell e2 x4 s18 _ hq21) (by intro a ha; simp only [W_Gossip_meet, W_Gossip_tell, List.mem_cons, List.not_mem_nil, or_false, not_or] at ha ⊢; omega)
    obtain ⟨s23, ee24, hf⟩ := gbL hf
    have hF25 : Fr (W_Gossip_meet b1 e2) s s23 := by rw [ee24]; exact Fr.u hF22 (by simp [W_Gossip_meet])
    obtain ⟨q26, hq26, hf⟩ := gbind hf
    have hF27 : Fr (W_Gossip_meet b1 e2) s q26 := Fr.c hF25 (w_Gossip_tell e2 (s (b1 + 5) j3) s23 _ hq26) (by intro a ha; simp only [W_Gossip_meet, W_Gossip_tell, List.mem_cons, List.not_mem_nil, or_false, not_or] at ha ⊢; omega)
    obtain ⟨j28, i29, hf⟩ := gbI hf
    obtain ⟨q30, hq30, hf⟩ := gbind hf
    have hF31 : Fr (W_Gossip_meet b1 e2) s q30 := Fr.c hF27 (w_Gossip_tell e2 (q26 (b1 + 4) j28) q26 _ hq30) (by intro a ha; simp only [W_Gossip_meet, W_Gossip_tell, List.mem_cons, List.not_mem_nil, or_false, not_or] at ha ⊢; omega)
    cases hf
    exact hF31
def W_Gossip_passOn (b1 : Nat) (e2 : Int) : List Nat := [51, 52, 53]
theorem w_Gossip_passOn_59 (b1 : Nat) (e2 : Int) (x4 : Int) (y0 : Int) (s0 s : kM) (h0 : Fr (W_Gossip_passOn b1 e2) s0 s) (t : Int × kM) (hf : f_Gossip_passOn_59 b1 e2 x4 y0 s = some t) : (fun r => Fr (W_Gossip_passOn b1 e2) s0 r.2) t := by
  unfold f_Gossip_passOn_59 at hf
  by_cases c1 : (s 51 2) = (wI ((kshl 1 (s b1 2)) - 1))
  · have hf := gift c1 hf
    cases hf
    exact h0
  · have hf := giff c1 hf
    by_cases c2 : (s 51 2) = x4
    · have hf := gift c2 hf
      by_cases c3 : y0 = 0
      · have hf := gift c3 hf
        cases hf
        exact h0
      · have hf := giff c3 hf
        cases hf
        exact h0
    · have hf := giff c2 hf
      cases hf
      exact h0
theorem w_Gossip_passOn_58 (b1 : Nat) (e2 : Int) (x4 : Int) (s0 s : kM) (h0 : Fr (W_Gossip_passOn b1 e2) s0 s) (t : Int × kM) (hf : f_Gossip_passOn_58 b1 e2 x4 s = some t) : (fun r => Fr (W_Gossip_passOn b1 e2) s0 r.2) t := by
  unfold f_Gossip_passOn_58 at hf
  exact w_Gossip_passOn_59 b1 e2 x4 0 s0 s h0 _ hf
theorem w_Gossip_passOn_49 (b1 : Nat) (e2 : Int) (x4 : Int) (x5 : Int) (s0 s : kM) (h0 : Fr (W_Gossip_passOn b1 e2) s0 s) (t : (Int × kM) ⊕ (Int × kM)) (hf : f_Gossip_passOn_49 b1 e2 x4 x5 s = some t) : (gE (fun x => Fr (W_Gossip_passOn b1 e2) s0 x.2) (fun r => Fr (W_Gossip_passOn b1 e2) s0 r.2)) t := by
  unfold f_Gossip_passOn_49 at hf
  cases hf
  exact h0
theorem w_Gossip_passOn_11b (b1 : Nat) (e2 : Int) (x4 : Int) (x5 : Int) (s0 s : kM) (h0 : Fr (W_Gossip_passOn b1 e2) s0 s) (t : (Int × kM) ⊕ (Int × kM)) (hf : f_Gossip_passOn_11b b1 e2 x4 x5 s = some t) : (gE (fun x => Fr (W_Gossip_passOn b1 e2) s0 x.2) (fun r => Fr (W_Gossip_passOn b1 e2) s0 r.2)) t := by
  unfold f_Gossip_passOn_11b at hf
  by_cases c1 : (s b1 2) ≤ x5
  · have hf := gift c1 hf
    by_cases c2 : e2 < 0
    · have hf := gift c2 hf
      obtain ⟨t3, hg4, rfl⟩ := gmap hf
      exact w_Gossip_passOn_58 b1 e2 x4 s0 s h0 _ hg4
    · have hf := giff c2 hf
      obtain ⟨k5, h6, hf⟩ := gbR hf
      by_cases c7 : (s k5 1) = 0
      · have hf := gift c7 hf
        obtain ⟨t8, hg9, rfl⟩ := gmap hf
        exact w_Gossip_passOn_58 b1 e2 x4 s0 s h0 _ hg9
      · have hf := giff c7 hf
        obtain ⟨t10, hg11, rfl⟩ := gmap hf
        exact w_Gossip_passOn_59 b1 e2 x4 1 s0 s h0 _ hg11
  · have hf := giff c1 hf
    by_cases c12 : (kand (kshr x4 x5) 1) = 1
    · have hf := gift c12 hf
      obtain ⟨s13, ee14, hf⟩ := gbL hf
      have hF15 : Fr (W_Gossip_passOn b1 e2) s0 s13 := by rw [ee14]; exact Fr.u h0 (by simp [W_Gossip_passOn])
      obtain ⟨j16, i17, hf⟩ := gbI hf
      obtain ⟨j18, i19, hf⟩ := gbI hf
      obtain ⟨q20, hq20, hf⟩ := gbind hf
      have hF21 : Fr (W_Gossip_passOn b1 e2) s0 q20 := Fr.c hF15 (w_Gossip_meet b1 e2 (s13 (b1 + 3) j16) (s13 (b1 + 3) j18) s13 _ hq20) (by intro a ha; simp only [W_Gossip_passOn, W_Gossip_meet, List.mem_cons, List.not_mem_nil, or_false, not_or] at ha ⊢; omega)
      obtain ⟨j22, i23, hf⟩ := gbI hf
      obtain ⟨q24, hq24, hf⟩ := gbind hf
      have hF25 : Fr (W_Gossip_passOn b1 e2) s0 q24 := Fr.c hF21 (w_Gossip_meet b1 e2 x5 (q20 (b1 + 4) j22) q20 _ hq24) (by intro a ha; simp only [W_Gossip_passOn, W_Gossip_meet, List.mem_cons, List.not_mem_nil, or_false, not_or] at ha ⊢; omega)
      exact w_Gossip_passOn_49 b1 e2 x4 x5 s0 q24 hF25 _ hf
    · have hf := giff c12 hf
      exact w_Gossip_passOn_49 b1 e2 x4 x5 s0 s h0 _ hf
theorem w_Gossip_passOn_11 (b1 : Nat) (e2 : Int) (x4 : Int) (x5 : Int) (s0 s : kM) (h0 : Fr (W_Gossip_passOn b1 e2) s0 s) (t : Int × kM) (hf : f_Gossip_passOn_11 b1 e2 x4 x5 s = some t) : (fun r => Fr (W_Gossip_passOn b1 e2) s0 r.2) t :=
  gL_fr (P := fun (x : Int × kM) => Fr (W_Gossip_passOn b1 e2) s0 x.2) (q := (fun r => Fr (W_Gossip_passOn b1 e2) s0 r.2)) (fun x t hf h0 => w_Gossip_passOn_11b b1 e2 x4 x.1 s0 x.2 h0 t hf) gF (x5, s) t hf h0
theorem w_Gossip_passOn (b1 : Nat) (e2 : Int) (x3 : Int) (s : kM) (t : Int × kM) (hf : f_Gossip_passOn b1 e2 x3 s = some t) : Fr (W_Gossip_passOn b1 e2) s t.2 := by
  unfold f_Gossip_passOn at hf
  have h0 : Fr (W_Gossip_passOn b1 e2) s s := Fr.r
  obtain ⟨s1, ee2, hf⟩ := gbL hf
  have hF3 : Fr (W_Gossip_passOn b1 e2) s s1 := by rw [ee2]; exact Fr.u h0 (by simp [W_Gossip_passOn])
  exact w_Gossip_passOn_11 b1 e2 (s 51 2) 0 s s1 hF3 _ hf
def W_Gossip_spread (b1 : Nat) (e2 : Int) : List Nat := [51, 52, 53]
theorem w_Gossip_spread_6b (b1 : Nat) (e2 : Int) (x4 : Int) (x5 : Int) (s0 s : kM) (h0 : Fr (W_Gossip_spread b1 e2) s0 s) (t : (Int × kM) ⊕ (Int × kM)) (hf : f_Gossip_spread_6b b1 e2 x4 x5 s = some t) : (gE (fun x => Fr (W_Gossip_spread b1 e2) s0 x.2) (fun r => Fr (W_Gossip_spread b1 e2) s0 r.2)) t := by
  unfold f_Gossip_spread_6b at hf
  by_cases c1 : x4 < x5
  · have hf := gift c1 hf
    cases hf
    exact h0
  · have hf := giff c1 hf
    obtain ⟨q2, hq2, hf⟩ := gbind hf
    have hF3 : Fr (W_Gossip_spread b1 e2) s0 q2.2 := Fr.c h0 (w_Gossip_passOn b1 e2 x5 s _ hq2) (by intro a ha; simp only [W_Gossip_spread, W_Gossip_passOn, List.mem_cons, List.not_mem_nil, or_false, not_or] at ha ⊢; omega)
    by_cases c4 : q2.1 = 0
    · have hf := gift c4 hf
      cases hf
      exact hF3
    · have hf := giff c4 hf
      cases hf
      exact hF3
theorem w_Gossip_spread_6 (b1 : Nat) (e2 : Int) (x4 : Int) (x5 : Int) (s0 s : kM) (h0 : Fr (W_Gossip_spread b1 e2) s0 s) (t : Int × kM) (hf : f_Gossip_spread_6 b1 e2 x4 x5 s = some t) : (fun r => Fr (W_Gossip_spread b1 e2) s0 r.2) t :=
  gL_fr (P := fun (x : Int × kM) => Fr (W_Gossip_spread b1 e2) s0 x.2) (q := (fun r => Fr (W_Gossip_spread b1 e2) s0 r.2)) (fun x t hf h0 => w_Gossip_spread_6b b1 e2 x4 x.1 s0 x.2 h0 t hf) gF (x5, s) t hf h0
theorem w_Gossip_spread (b1 : Nat) (e2 : Int) (x3 : Int) (x4 : Int) (s : kM) (t : Int × kM) (hf : f_Gossip_spread b1 e2 x3 x4 s = some t) : Fr (W_Gossip_spread b1 e2) s t.2 := by
  unfold f_Gossip_spread at hf
  have h0 : Fr (W_Gossip_spread b1 e2) s s := Fr.r
  obtain ⟨q1, hq1, hf⟩ := gbind hf
  have hF2 : Fr (W_Gossip_spread b1 e2) s q1 := Fr.c h0 (w_Gossip_begin b1 x3 s _ hq1) (by intro a ha; simp only [W_Gossip_spread, W_Gossip_begin, List.mem_cons, List.not_mem_nil, or_false, not_or] at ha ⊢; omega)
  exact w_Gossip_spread_6 b1 e2 x4 1 s q1 hF2 _ hf
def W_Gossip_minuteOf (b1 : Nat) (e2 : Int) : List Nat := [51, 52, 53]
theorem w_Gossip_minuteOf_36 (b1 : Nat) (e2 : Int) (x4 : Int) (x5 : Int) (s0 s : kM) (h0 : Fr (W_Gossip_minuteOf b1 e2) s0 s) (t : Int × kM) (hf : f_Gossip_minuteOf_36 b1 e2 x4 x5 s = some t) : (fun r => Fr (W_Gossip_minuteOf b1 e2) s0 r.2) t := by
  unfold f_Gossip_minuteOf_36 at hf
  by_cases c1 : (kand (kshr (s 51 2) x4) 1) = 1
  · have hf := gift c1 hf
    cases hf
    exact h0
  · have hf := giff c1 hf
    cases hf
    exact h0
theorem w_Gossip_minuteOf_10b (b1 : Nat) (e2 : Int) (x4 : Int) (x5 : Int) (x6 : Int) (x7 : Int) (s0 s : kM) (h0 : Fr (W_Gossip_minuteOf b1 e2) s0 s) (t : (Int × Int × Int × kM) ⊕ (Int × kM)) (hf : f_Gossip_minuteOf_10b b1 e2 x4 x5 x6 x7 s = some t) : (gE (fun x => Fr (W_Gossip_minuteOf b1 e2) s0 x.2.2.2) (fun r => Fr (W_Gossip_minuteOf b1 e2) s0 r.2)) t := by
  unfold f_Gossip_minuteOf_10b at hf
  by_cases c1 : 60 ≤ x7
  · have hf := gift c1 hf
    obtain ⟨t2, hg3, rfl⟩ := gmap hf
    exact w_Gossip_minuteOf_36 b1 e2 x4 x5 s0 s h0 _ hg3
  · have hf := giff c1 hf
    by_cases c4 : x6 = 0
    · have hf := gift c4 hf
      obtain ⟨t5, hg6, rfl⟩ := gmap hf
      exact w_Gossip_minuteOf_36 b1 e2 x4 x5 s0 s h0 _ hg6
    · have hf := giff c4 hf
      by_cases c7 : (kand (kshr (s 51 2) x4) 1) = 0
      · have hf := gift c7 hf
        obtain ⟨q10, hq10, hf⟩ := gbind hf
        have hF11 : Fr (W_Gossip_minuteOf b1 e2) s0 q10.2 := Fr.c h0 (w_Gossip_passOn b1 e2 (wI (x7 + 1)) s _ hq10) (by intro a ha; simp only [W_Gossip_minuteOf, W_Gossip_passOn, List.mem_cons, List.not_mem_nil, or_false, not_or] at ha ⊢; omega)
        cases hf
        exact hF11
      · have hf := giff c7 hf
        obtain ⟨t8, hg9, rfl⟩ := gmap hf
        exact w_Gossip_minuteOf_36 b1 e2 x4 x5 s0 s h0 _ hg9
theorem w_Gossip_minuteOf_10 (b1 : Nat) (e2 : Int) (x4 : Int) (x5 : Int) (x6 : Int) (x7 : Int) (s0 s : kM) (h0 : Fr (W_Gossip_minuteOf b1 e2) s0 s) (t : Int × kM) (hf : f_Gossip_minuteOf_10 b1 e2 x4 x5 x6 x7 s = some t) : (fun r => Fr (W_Gossip_minuteOf b1 e2) s0 r.2) t :=
  gL_fr (P := fun (x : Int × Int × Int × kM) => Fr (W_Gossip_minuteOf b1 e2) s0 x.2.2.2) (q := (fun r => Fr (W_Gossip_minuteOf b1 e2) s0 r.2)) (fun x t hf h0 => w_Gossip_minuteOf_10b b1 e2 x4 x.1 x.2.1 x.2.2.1 s0 x.2.2.2 h0 t hf) gF (x5, x6, x7, s) t hf h0
theorem w_Gossip_minuteOf (b1 : Nat) (e2 : Int) (x3 : Int) (x4 : Int) (s : kM) (t : Int × kM) (hf : f_Gossip_minuteOf b1 e2 x3 x4 s = some t) : Fr (W_Gossip_minuteOf b1 e2) s t.2 := by
  unfold f_Gossip_minuteOf at hf
  have h0 : Fr (W_Gossip_minuteOf b1 e2) s s := Fr.r
  obtain ⟨q1, hq1, hf⟩ := gbind hf
  have hF2 : Fr (W_Gossip_minuteOf b1 e2) s q1 := Fr.c h0 (w_Gossip_begin b1 x3 s _ hq1) (by intro a ha; simp only [W_Gossip_minuteOf, W_Gossip_begin, List.mem_cons, List.not_mem_nil, or_false, not_or] at ha ⊢; omega)
  exact w_Gossip_minuteOf_10 b1 e2 x4 0 1 0 s q1 hF2 _ hf
def W_KT_heard : List Nat := [51, 52, 53]
theorem w_KT_heard (x1 : Int) (x2 : Int) (s : kM) (t : Int × kM) (hf : f_KT_heard x1 x2 s = some t) : Fr (W_KT_heard) s t.2 := by
  unfold f_KT_heard at hf
  have h0 : Fr (W_KT_heard) s s := Fr.r
  obtain ⟨q1, hq1, hf⟩ := gbind hf
  by_cases c2 : q1 = 0
  · have hf := gift c2 hf
    cases hf
    exact h0
  · have hf := giff c2 hf
    obtain ⟨q3, hq3, hf⟩ := gbind hf
    by_cases c4 : q3 = 0
    · have hf := gift c4 hf
      cases hf
      exact h0
    · have hf := giff c4 hf
      obtain ⟨q5, hq5, hf⟩ := gbind hf
      obtain ⟨q6, hq6, hf⟩ := gbind hf
      have hF7 : Fr (W_KT_heard) s q6.2 := Fr.c h0 (w_Gossip_minuteOf 4 q5 x1 x2 s _ hq6) (by intro a ha; simp only [W_KT_heard, W_Gossip_minuteOf, List.mem_cons, List.not_mem_nil, or_false, not_or] at ha ⊢; omega)
      cases hf
      exact hF7
def W_KT_seed : List Nat := [3]
theorem w_KT_seed (x1 : Int) (s : kM) (t : Int × kM) (hf : f_KT_seed x1 s = some t) : Fr (W_KT_seed) s t.2 := by
  unfold f_KT_seed at hf
  have h0 : Fr (W_KT_seed) s s := Fr.r
  by_cases c1 : 0 ≤ x1
  · have hf := gift c1 hf
    obtain ⟨s2, ee3, hf⟩ := gbL hf
    have hF4 : Fr (W_KT_seed) s s2 := by rw [ee3]; exact Fr.u h0 (by simp [W_KT_seed])
    cases hf
    exact hF4
  · have hf := giff c1 hf
    cases hf
    exact h0
def W_KT_count : List Nat := [48, 49]
theorem w_KT_count (x1 : Int) (s : kM) (t : Int × kM) (hf : f_KT_count x1 s = some t) : Fr (W_KT_count) s t.2 := by
  unfold f_KT_count at hf
  have h0 : Fr (W_KT_count) s s := Fr.r
  by_cases c1 : x1 = 0
  · have hf := gift c1 hf
    cases hf
    exact h0
  have hf := giff c1 hf
  by_cases c2 : x1 = 1
  · have hf := gift c2 hf
    obtain ⟨q3, hq3, hf⟩ := gbind hf
    cases hf
    exact h0
  have hf := giff c2 hf
  by_cases c4 : x1 = 2
  · have hf := gift c4 hf
    cases hf
    exact h0
  have hf := giff c4 hf
  by_cases c5 : x1 = 3
  · have hf := gift c5 hf
    obtain ⟨q6, hq6, hf⟩ := gbind hf
    cases hf
    exact h0
  have hf := giff c5 hf
  by_cases c7 : x1 = 4
  · have hf := gift c7 hf
    cases hf
    exact h0
  have hf := giff c7 hf
  by_cases c8 : x1 = 5
  · have hf := gift c8 hf
    obtain ⟨q9, hq9, hf⟩ := gbind hf
    have hF10 : Fr (W_KT_count) s q9 := Fr.c h0 (w_Bows_find 4 s _ hq9) (by intro a ha; simp only [W_KT_count, W_Bows_find, List.mem_cons, List.not_mem_nil, or_false, not_or] at ha ⊢; omega)
    cases hf
    exact hF10
  have hf := giff c8 hf
  by_cases c11 : x1 = 6
  · have hf := gift c11 hf
    cases hf
    exact h0
  have hf := giff c11 hf
  by_cases c12 : x1 = 7
  · have hf := gift c12 hf
    cases hf
    exact h0
  have hf := giff c12 hf
  by_cases c13 : x1 = 8
  · have hf := gift c13 hf
    cases hf
    exact h0
  have hf := giff c13 hf
  by_cases c14 : x1 = 9
  · have hf := gift c14 hf
    cases hf
    exact h0
  have hf := giff c14 hf
  by_cases c15 : x1 = 10
  · have hf := gift c15 hf
    obtain ⟨q16, hq16, hf⟩ := gbind hf
    cases hf
    exact h0
  have hf := giff c15 hf
  cases hf
  exact h0
def W_Stand_copyFrom (b0 : Nat) (b1 : Nat) : List Nat := [b0, b0 + 1, b0 + 2, b0 + 3, b0 + 4, b0 + 5, b0 + 6]
theorem w_Stand_copyFrom (b0 : Nat) (b1 : Nat) (s : kM) (t : kM) (hf : f_Stand_copyFrom b0 b1 s = some t) : Fr (W_Stand_copyFrom b0 b1) s t := by
  unfold f_Stand_copyFrom at hf
  have h0 : Fr (W_Stand_copyFrom b0 b1) s s := Fr.r
  obtain ⟨q1, hq1, hf⟩ := gbind hf
  have hF2 : Fr (W_Stand_copyFrom b0 b1) s q1 := Fr.c h0 (w_Town_copyFrom (b0 + 1) (b1 + 1) s _ hq1) (by intro a ha; simp only [W_Stand_copyFrom, W_Town_copyFrom, List.mem_cons, List.not_mem_nil, or_false, not_or] at ha ⊢; omega)
  obtain ⟨s3, ee4, hf⟩ := gbL hf
  have hF5 : Fr (W_Stand_copyFrom b0 b1) s s3 := by rw [ee4]; exact Fr.u hF2 (by simp [W_Stand_copyFrom])
  obtain ⟨s6, ee7, hf⟩ := gbL hf
  have hF8 : Fr (W_Stand_copyFrom b0 b1) s s6 := by rw [ee7]; exact Fr.u hF5 (by simp [W_Stand_copyFrom])
  obtain ⟨s9, ee10, hf⟩ := gbL hf
  have hF11 : Fr (W_Stand_copyFrom b0 b1) s s9 := by rw [ee10]; exact Fr.u hF8 (by simp [W_Stand_copyFrom])
  cases hf
  exact hF11
def W_KT_image : List Nat := [57, 58, 59, 60, 61, 62, 63, 64, 65, 66, 67, 68, 69, 70, 71, 72, 73, 74, 75, 76, 77, 78, 79, 80, 81, 82, 83, 84]
theorem w_KT_image (x1 : Int) (s : kM) (t : Int × kM) (hf : f_KT_image x1 s = some t) : Fr (W_KT_image) s t.2 := by
  unfold f_KT_image at hf
  have h0 : Fr (W_KT_image) s s := Fr.r
  by_cases c1 : x1 < 0
  · have hf := gift c1 hf
    cases hf
    exact h0
  · have hf := giff c1 hf
    by_cases c2 : x1 < 4
    · have hf := gift c2 hf
      obtain ⟨j3, i4, hf⟩ := gbI hf
      obtain ⟨q5, hq5, hf⟩ := gbind hf
      have hF6 : Fr (W_KT_image) s q5 := Fr.c h0 (w_Stand_copyFrom (57 + 7 * j3) 3 s _ hq5) (by intro a ha; simp only [W_KT_image, W_Stand_copyFrom, List.mem_cons, List.not_mem_nil, or_false, not_or] at ha ⊢; omega)
      obtain ⟨j7, i8, hf⟩ := gbI hf
      obtain ⟨s9, ee10, hf⟩ := gbL hf
      have hF11 : Fr (W_KT_image) s s9 := by rw [ee10]; exact Fr.u hF6 (by first | (simp [W_KT_image]; done) | (simp [W_KT_image]; omega))
      cases hf
      exact hF11
    · have hf := giff c2 hf
      cases hf
      exact h0
def W_KT_back : List Nat := [3, 4, 5, 6, 7, 8, 9, 21, 44]
theorem w_KT_back (x1 : Int) (s : kM) (t : Int × kM) (hf : f_KT_back x1 s = some t) : Fr (W_KT_back) s t.2 := by
  unfold f_KT_back at hf
  have h0 : Fr (W_KT_back) s s := Fr.r
  by_cases c1 : x1 < 0
  · have hf := gift c1 hf
    cases hf
    exact h0
  · have hf := giff c1 hf
    by_cases c2 : 4 ≤ x1
    · have hf := gift c2 hf
      cases hf
      exact h0
    · have hf := giff c2 hf
      obtain ⟨j3, i4, hf⟩ := gbI hf
      by_cases c5 : (s (57 + 7 * j3) 4) = 0
      · have hf := gift c5 hf
        cases hf
        exact h0
      · have hf := giff c5 hf
        obtain ⟨j6, i7, hf⟩ := gbI hf
        obtain ⟨q8, hq8, hf⟩ := gbind hf
        have hF9 : Fr (W_KT_back) s q8 := Fr.c h0 (w_Stand_copyFrom 3 (57 + 7 * j6) s _ hq8) (by intro a ha; simp only [W_KT_back, W_Stand_copyFrom, List.mem_cons, List.not_mem_nil, or_false, not_or] at ha ⊢; omega)
        obtain ⟨q10, hq10, hf⟩ := gbind hf
        have hF11 : Fr (W_KT_back) s q10 := Fr.c hF9 (w_KT_forget q8 _ hq10) (by intro a ha; simp only [W_KT_back, W_KT_forget, List.mem_cons, List.not_mem_nil, or_false, not_or] at ha ⊢; omega)
        cases hf
        exact hF11
def W_M_refresh : List Nat := [98, 99]
theorem w_M_refresh_46 (x1 : Int) (s0 s : kM) (h0 : Fr (W_M_refresh) s0 s) (t : (Int × kM) ⊕ (kM)) (hf : f_M_refresh_46 x1 s = some t) : (gE (fun x => Fr (W_M_refresh) s0 x.2) (fun r => Fr (W_M_refresh) s0 r)) t := by
  unfold f_M_refresh_46 at hf
  cases hf
  exact h0
theorem w_M_refresh_19b (x1 : Int) (s0 s : kM) (h0 : Fr (W_M_refresh) s0 s) (t : (Int × kM) ⊕ (kM)) (hf : f_M_refresh_19b x1 s = some t) : (gE (fun x => Fr (W_M_refresh) s0 x.2) (fun r => Fr (W_M_refresh) s0 r)) t := by
  unfold f_M_refresh_19b at hf
  obtain ⟨q1, hq1, hf⟩ := gbind hf
  by_cases c2 : q1 ≤ x1
  · have hf := gift c2 hf
    cases hf
    exact h0
  · have hf := giff c2 hf
    obtain ⟨j3, i4, hf⟩ := gbI hf
    by_cases c5 : (s 88 j3) = 1
    · have hf := gift c5 hf
      obtain ⟨j13, i14, hf⟩ := gbI hf
      obtain ⟨j15, i16, hf⟩ := gbI hf
      obtain ⟨s17, ee18, hf⟩ := gbL hf
      have hF19 : Fr (W_M_refresh) s0 s17 := by rw [ee18]; exact Fr.u h0 (by simp [W_M_refresh])
      exact w_M_refresh_46 x1 s0 s17 hF19 _ hf
    · have hf := giff c5 hf
      obtain ⟨j6, i7, hf⟩ := gbI hf
      obtain ⟨j8, i9, hf⟩ := gbI hf
      obtain ⟨s10, ee11, hf⟩ := gbL hf
      have hF12 : Fr (W_M_refresh) s0 s10 := by rw [ee11]; exact Fr.u h0 (by simp [W_M_refresh])
      exact w_M_refresh_46 x1 s0 s10 hF12 _ hf
theorem w_M_refresh_19 (x1 : Int) (s0 s : kM) (h0 : Fr (W_M_refresh) s0 s) (t : kM) (hf : f_M_refresh_19 x1 s = some t) : (fun r => Fr (W_M_refresh) s0 r) t :=
  gL_fr (P := fun (x : Int × kM) => Fr (W_M_refresh) s0 x.2) (q := (fun r => Fr (W_M_refresh) s0 r)) (fun x t hf h0 => w_M_refresh_19b x.1 s0 x.2 h0 t hf) gF (x1, s) t hf h0
theorem w_M_refresh_2b (x1 : Int) (s0 s : kM) (h0 : Fr (W_M_refresh) s0 s) (t : (Int × kM) ⊕ (kM)) (hf : f_M_refresh_2b x1 s = some t) : (gE (fun x => Fr (W_M_refresh) s0 x.2) (fun r => Fr (W_M_refresh) s0 r)) t := by
  unfold f_M_refresh_2b at hf
  by_cases c1 : 11 ≤ x1
  · have hf := gift c1 hf
    obtain ⟨t2, hg3, rfl⟩ := gmap hf
    exact w_M_refresh_19 0 s0 s h0 _ hg3
  · have hf := giff c1 hf
    obtain ⟨j4, i5, hf⟩ := gbI hf
    obtain ⟨s6, ee7, hf⟩ := gbL hf
    have hF8 : Fr (W_M_refresh) s0 s6 := by rw [ee7]; exact Fr.u h0 (by simp [W_M_refresh])
    obtain ⟨j9, i10, hf⟩ := gbI hf
    obtain ⟨s11, ee12, hf⟩ := gbL hf
    have hF13 : Fr (W_M_refresh) s0 s11 := by rw [ee12]; exact Fr.u hF8 (by simp [W_M_refresh])
    cases hf
    exact hF13
theorem w_M_refresh_2 (x1 : Int) (s0 s : kM) (h0 : Fr (W_M_refresh) s0 s) (t : kM) (hf : f_M_refresh_2 x1 s = some t) : (fun r => Fr (W_M_refresh) s0 r) t :=
  gL_fr (P := fun (x : Int × kM) => Fr (W_M_refresh) s0 x.2) (q := (fun r => Fr (W_M_refresh) s0 r)) (fun x t hf h0 => w_M_refresh_2b x.1 s0 x.2 h0 t hf) gF (x1, s) t hf h0
theorem w_M_refresh (s : kM) (t : kM) (hf : f_M_refresh s = some t) : Fr (W_M_refresh) s t := by
  unfold f_M_refresh at hf
  have h0 : Fr (W_M_refresh) s s := Fr.r
  exact w_M_refresh_2 0 s s h0 _ hf
def W_M_put : List Nat := [85, 105]
theorem w_M_put_2b (x1 : Int) (x2 : Int) (s0 s : kM) (h0 : Fr (W_M_put) s0 s) (t : (Int × kM) ⊕ (kM)) (hf : f_M_put_2b x1 x2 s = some t) : (gE (fun x => Fr (W_M_put) s0 x.2) (fun r => Fr (W_M_put) s0 r)) t := by
  unfold f_M_put_2b at hf
  by_cases c1 : x2 < 0
  · have hf := gift c1 hf
    cases hf
    exact h0
  · have hf := giff c1 hf
    obtain ⟨j2, i3, hf⟩ := gbI hf
    obtain ⟨s4, ee5, hf⟩ := gbL hf
    have hF6 : Fr (W_M_put) s0 s4 := by rw [ee5]; exact Fr.u h0 (by simp [W_M_put])
    obtain ⟨s7, ee8, hf⟩ := gbL hf
    have hF9 : Fr (W_M_put) s0 s7 := by rw [ee8]; exact Fr.u hF6 (by simp [W_M_put])
    cases hf
    exact hF9
theorem w_M_put_2 (x1 : Int) (x2 : Int) (s0 s : kM) (h0 : Fr (W_M_put) s0 s) (t : kM) (hf : f_M_put_2 x1 x2 s = some t) : (fun r => Fr (W_M_put) s0 r) t :=
  gL_fr (P := fun (x : Int × kM) => Fr (W_M_put) s0 x.2) (q := (fun r => Fr (W_M_put) s0 r)) (fun x t hf h0 => w_M_put_2b x1 x.1 s0 x.2 h0 t hf) gF (x2, s) t hf h0
theorem w_M_put (x1 : Int) (s : kM) (t : kM) (hf : f_M_put x1 s = some t) : Fr (W_M_put) s t := by
  unfold f_M_put at hf
  have h0 : Fr (W_M_put) s s := Fr.r
  exact w_M_put_2 x1 24 s s h0 _ hf
def W_M_feed : List Nat := [85, 105]
theorem w_M_feed (x1 : Int) (x2 : Int) (x3 : Int) (x4 : Int) (x5 : Int) (s : kM) (t : Int × kM) (hf : f_M_feed x1 x2 x3 x4 x5 s = some t) : Fr (W_M_feed) s t.2 := by
  unfold f_M_feed at hf
  have h0 : Fr (W_M_feed) s s := Fr.r
  by_cases c1 : (wI ((s 85 21) + 20)) ≤ 400
  · have hf := gift c1 hf
    obtain ⟨q2, hq2, hf⟩ := gbind hf
    have hF3 : Fr (W_M_feed) s q2 := Fr.c h0 (w_M_put x1 s _ hq2) (by intro a ha; simp only [W_M_feed, W_M_put, List.mem_cons, List.not_mem_nil, or_false, not_or] at ha ⊢; omega)
    obtain ⟨q4, hq4, hf⟩ := gbind hf
    have hF5 : Fr (W_M_feed) s q4 := Fr.c hF3 (w_M_put x2 q2 _ hq4) (by intro a ha; simp only [W_M_feed, W_M_put, List.mem_cons, List.not_mem_nil, or_false, not_or] at ha ⊢; omega)
    obtain ⟨q6, hq6, hf⟩ := gbind hf
    have hF7 : Fr (W_M_feed) s q6 := Fr.c hF5 (w_M_put x3 q4 _ hq6) (by intro a ha; simp only [W_M_feed, W_M_put, List.mem_cons, List.not_mem_nil, or_false, not_or] at ha ⊢; omega)
    obtain ⟨q8, hq8, hf⟩ := gbind hf
    have hF9 : Fr (W_M_feed) s q8 := Fr.c hF7 (w_M_put x4 q6 _ hq8) (by intro a ha; simp only [W_M_feed, W_M_put, List.mem_cons, List.not_mem_nil, or_false, not_or] at ha ⊢; omega)
    obtain ⟨q10, hq10, hf⟩ := gbind hf
    have hF11 : Fr (W_M_feed) s q10 := Fr.c hF9 (w_M_put x5 q8 _ hq10) (by intro a ha; simp only [W_M_feed, W_M_put, List.mem_cons, List.not_mem_nil, or_false, not_or] at ha ⊢; omega)
    cases hf
    exact hF11
  · have hf := giff c1 hf
    cases hf
    exact h0
def W_M_end : List Nat := [85]
theorem w_M_end (x1 : Int) (s : kM) (t : Int × kM) (hf : f_M_end x1 s = some t) : Fr (W_M_end) s t.2 := by
  unfold f_M_end at hf
  have h0 : Fr (W_M_end) s s := Fr.r
  by_cases c1 : x1 < 0
  · have hf := gift c1 hf
    cases hf
    exact h0
  · have hf := giff c1 hf
    by_cases c2 : x1 ≤ (s 85 21)
    · have hf := gift c2 hf
      obtain ⟨s3, ee4, hf⟩ := gbL hf
      have hF5 : Fr (W_M_end) s s3 := by rw [ee4]; exact Fr.u h0 (by simp [W_M_end])
      cases hf
      exact hF5
    · have hf := giff c2 hf
      cases hf
      exact h0
def W_M_starts : List Nat := [85]
theorem w_M_starts (s : kM) (t : kM) (hf : f_M_starts s = some t) : Fr (W_M_starts) s t := by
  unfold f_M_starts at hf
  have h0 : Fr (W_M_starts) s s := Fr.r
  obtain ⟨s1, ee2, hf⟩ := gbL hf
  have hF3 : Fr (W_M_starts) s s1 := by rw [ee2]; exact Fr.u h0 (by simp [W_M_starts])
  obtain ⟨s4, ee5, hf⟩ := gbL hf
  have hF6 : Fr (W_M_starts) s s4 := by rw [ee5]; exact Fr.u hF3 (by simp [W_M_starts])
  obtain ⟨s7, ee8, hf⟩ := gbL hf
  have hF9 : Fr (W_M_starts) s s7 := by rw [ee8]; exact Fr.u hF6 (by simp [W_M_starts])
  obtain ⟨s10, ee11, hf⟩ := gbL hf
  have hF12 : Fr (W_M_starts) s s10 := by rw [ee11]; exact Fr.u hF9 (by simp [W_M_starts])
  obtain ⟨s13, ee14, hf⟩ := gbL hf
  have hF15 : Fr (W_M_starts) s s13 := by rw [ee14]; exact Fr.u hF12 (by simp [W_M_starts])
  cases hf
  exact hF15
def W_M_blanks : List Nat := [85]
theorem w_M_blanks_0b (s0 s : kM) (h0 : Fr (W_M_blanks) s0 s) (t : (kM) ⊕ (kM)) (hf : f_M_blanks_0b s = some t) : (gE (fun x => Fr (W_M_blanks) s0 x) (fun r => Fr (W_M_blanks) s0 r)) t := by
  unfold f_M_blanks_0b at hf
  obtain ⟨q1, hq1, hf⟩ := gbind hf
  by_cases c2 : q1 = 32
  · have hf := gift c2 hf
    obtain ⟨s3, ee4, hf⟩ := gbL hf
    have hF5 : Fr (W_M_blanks) s0 s3 := by rw [ee4]; exact Fr.u h0 (by simp [W_M_blanks])
    cases hf
    exact hF5
  · have hf := giff c2 hf
    cases hf
    exact h0
theorem w_M_blanks_0 (s0 s : kM) (h0 : Fr (W_M_blanks) s0 s) (t : kM) (hf : f_M_blanks_0 s = some t) : (fun r => Fr (W_M_blanks) s0 r) t :=
  gL_fr (P := fun (x : kM) => Fr (W_M_blanks) s0 x) (q := (fun r => Fr (W_M_blanks) s0 r)) (fun x t hf h0 => w_M_blanks_0b s0 x h0 t hf) gF (s) t hf h0
theorem w_M_blanks (s : kM) (t : kM) (hf : f_M_blanks s = some t) : Fr (W_M_blanks) s t := by
  unfold f_M_blanks at hf
  exact w_M_blanks_0 s s Fr.r t hf
def W_M_fails : List Nat := [85]
theorem w_M_fails_14 (y1 : Int) (s0 s : kM) (h0 : Fr (W_M_fails) s0 s) (t : kM) (hf : f_M_fails_14 y1 s = some t) : (fun r => Fr (W_M_fails) s0 r) t := by
  unfold f_M_fails_14 at hf
  obtain ⟨s1, ee2, hf⟩ := gbL hf
  have hF3 : Fr (W_M_fails) s0 s1 := by rw [ee2]; exact Fr.u h0 (by simp [W_M_fails])
  cases hf
  exact hF3
theorem w_M_fails (x1 : Int) (x2 : Int) (s : kM) (t : kM) (hf : f_M_fails x1 x2 s = some t) : Fr (W_M_fails) s t := by
  unfold f_M_fails at hf
  have h0 : Fr (W_M_fails) s s := Fr.r
  by_cases c1 : (s 85 23) = 0
  · have hf := gift c1 hf
    exact w_M_fails_14 (wI ((wI (1 + (wI (8 * x2)))) + x1)) s s h0 _ hf
  · have hf := giff c1 hf
    exact w_M_fails_14 (s 85 23) s s h0 _ hf
def W_M_digits : List Nat := [85]
theorem w_M_digits_51 (x2 : Int) (x3 : Int) (s0 s : kM) (h0 : Fr (W_M_digits) s0 s) (t : Int × kM) (hf : f_M_digits_51 x2 x3 s = some t) : (fun r => Fr (W_M_digits) s0 r.2) t := by
  unfold f_M_digits_51 at hf
  obtain ⟨q1, hq1, hf⟩ := gbind hf
  have hF2 : Fr (W_M_digits) s0 q1 := Fr.c h0 (w_M_fails 1 x2 s _ hq1) (by intro a ha; simp only [W_M_digits, W_M_fails, List.mem_cons, List.not_mem_nil, or_false, not_or] at ha ⊢; omega)
  cases hf
  exact hF2
theorem w_M_digits_34 (x1 : Int) (x2 : Int) (y0 : Int) (s0 s : kM) (h0 : Fr (W_M_digits) s0 s) (t : (Int × kM) ⊕ (Int × kM)) (hf : f_M_digits_34 x1 x2 y0 s = some t) : (gE (fun x => Fr (W_M_digits) s0 x.2) (fun r => Fr (W_M_digits) s0 r.2)) t := by
  unfold f_M_digits_34 at hf
  obtain ⟨s1, ee2, hf⟩ := gbL hf
  have hF3 : Fr (W_M_digits) s0 s1 := by rw [ee2]; exact Fr.u h0 (by simp [W_M_digits])
  cases hf
  exact hF3
theorem w_M_digits_15b (x1 : Int) (x2 : Int) (x3 : Int) (s0 s : kM) (h0 : Fr (W_M_digits) s0 s) (t : (Int × kM) ⊕ (Int × kM)) (hf : f_M_digits_15b x1 x2 x3 s = some t) : (gE (fun x => Fr (W_M_digits) s0 x.2) (fun r => Fr (W_M_digits) s0 r.2)) t := by
  unfold f_M_digits_15b at hf
  obtain ⟨q1, hq1, hf⟩ := gbind hf
  by_cases c2 : q1 = 0
  · have hf := gift c2 hf
    by_cases c3 : 5 < (wI ((s 85 22) - x2))
    · have hf := gift c3 hf
      obtain ⟨t4, hg5, rfl⟩ := gmap hf
      exact w_M_digits_51 x2 x3 s0 s h0 _ hg5
    · have hf := giff c3 hf
      by_cases c6 : x3 ≤ x1
      · have hf := gift c6 hf
        cases hf
        exact h0
      · have hf := giff c6 hf
        obtain ⟨t7, hg8, rfl⟩ := gmap hf
        exact w_M_digits_51 x2 x3 s0 s h0 _ hg8
  · have hf := giff c2 hf
    by_cases c9 : 5 ≤ (wI ((s 85 22) - x2))
    · have hf := gift c9 hf
      exact w_M_digits_34 x1 x2 x3 s0 s h0 _ hf
    · have hf := giff c9 hf
      obtain ⟨q10, hq10, hf⟩ := gbind hf
      exact w_M_digits_34 x1 x2 (wI ((wI ((wI (10 * x3)) + q10)) - 48)) s0 s h0 _ hf
theorem w_M_digits_15 (x1 : Int) (x2 : Int) (x3 : Int) (s0 s : kM) (h0 : Fr (W_M_digits) s0 s) (t : Int × kM) (hf : f_M_digits_15 x1 x2 x3 s = some t) : (fun r => Fr (W_M_digits) s0 r.2) t :=
  gL_fr (P := fun (x : Int × kM) => Fr (W_M_digits) s0 x.2) (q := (fun r => Fr (W_M_digits) s0 r.2)) (fun x t hf h0 => w_M_digits_15b x1 x2 x.1 s0 x.2 h0 t hf) gF (x3, s) t hf h0
theorem w_M_digits (x1 : Int) (s : kM) (t : Int × kM) (hf : f_M_digits x1 s = some t) : Fr (W_M_digits) s t.2 := by
  unfold f_M_digits at hf
  have h0 : Fr (W_M_digits) s s := Fr.r
  obtain ⟨q1, hq1, hf⟩ := gbind hf
  by_cases c2 : q1 = 0
  · have hf := gift c2 hf
    obtain ⟨q3, hq3, hf⟩ := gbind hf
    have hF4 : Fr (W_M_digits) s q3 := Fr.c h0 (w_M_fails 0 (s 85 22) s _ hq3) (by intro a ha; simp only [W_M_digits, W_M_fails, List.mem_cons, List.not_mem_nil, or_false, not_or] at ha ⊢; omega)
    cases hf
    exact hF4
  · have hf := giff c2 hf
    exact w_M_digits_15 x1 (s 85 22) 0 s s h0 _ hf
def W_M_amount : List Nat := [85]
theorem w_M_amount_13 (x1 : Int) (x2 : Int) (x3 : Int) (y0 : Int) (s0 s : kM) (h0 : Fr (W_M_amount) s0 s) (t : Int × kM) (hf : f_M_amount_13 x1 x2 x3 y0 s = some t) : (fun r => Fr (W_M_amount) s0 r.2) t := by
  unfold f_M_amount_13 at hf
  by_cases c1 : (s 85 23) = 0
  · have hf := gift c1 hf
    obtain ⟨q2, hq2, hf⟩ := gbind hf
    by_cases c3 : q2 = 0
    · have hf := gift c3 hf
      obtain ⟨q4, hq4, hf⟩ := gbind hf
      have hF5 : Fr (W_M_amount) s0 q4 := Fr.c h0 (w_M_fails 1 x3 s _ hq4) (by intro a ha; simp only [W_M_amount, W_M_fails, List.mem_cons, List.not_mem_nil, or_false, not_or] at ha ⊢; omega)
      cases hf
      exact hF5
    · have hf := giff c3 hf
      cases hf
      exact h0
  · have hf := giff c1 hf
    cases hf
    exact h0
theorem w_M_amount (x1 : Int) (x2 : Int) (s : kM) (t : Int × kM) (hf : f_M_amount x1 x2 s = some t) : Fr (W_M_amount) s t.2 := by
  unfold f_M_amount at hf
  have h0 : Fr (W_M_amount) s s := Fr.r
  obtain ⟨q1, hq1, hf⟩ := gbind hf
  have hF2 : Fr (W_M_amount) s q1 := Fr.c h0 (w_M_blanks s _ hq1) (by intro a ha; simp only [W_M_amount, W_M_blanks, List.mem_cons, List.not_mem_nil, or_false, not_or] at ha ⊢; omega)
  by_cases c3 : (q1 85 23) = 0
  · have hf := gift c3 hf
    obtain ⟨q4, hq4, hf⟩ := gbind hf
    have hF5 : Fr (W_M_amount) s q4.2 := Fr.c hF2 (w_M_digits 99999 q1 _ hq4) (by intro a ha; simp only [W_M_amount, W_M_digits, List.mem_cons, List.not_mem_nil, or_false, not_or] at ha ⊢; omega)
    exact w_M_amount_13 x1 x2 (q1 85 22) q4.1 s q4.2 hF5 _ hf
  · have hf := giff c3 hf
    exact w_M_amount_13 x1 x2 (q1 85 22) 0 s q1 hF2 _ hf
def W_M_signOf : List Nat := [85, 93]
theorem w_M_signOf_25 (s0 s : kM) (h0 : Fr (W_M_signOf) s0 s) (t : kM) (hf : f_M_signOf_25 s = some t) : (fun r => Fr (W_M_signOf) s0 r) t := by
  unfold f_M_signOf_25 at hf
  obtain ⟨q1, hq1, hf⟩ := gbind hf
  have hF2 : Fr (W_M_signOf) s0 q1 := Fr.c h0 (w_M_fails 0 (s 85 22) s _ hq1) (by intro a ha; simp only [W_M_signOf, W_M_fails, List.mem_cons, List.not_mem_nil, or_false, not_or] at ha ⊢; omega)
  cases hf
  exact hF2
theorem w_M_signOf_44 (y1 : Int) (y2 : Int) (s0 s : kM) (h0 : Fr (W_M_signOf) s0 s) (t : kM) (hf : f_M_signOf_44 y1 y2 s = some t) : (fun r => Fr (W_M_signOf) s0 r) t := by
  unfold f_M_signOf_44 at hf
  obtain ⟨j1, i2, hf⟩ := gbI hf
  obtain ⟨s3, ee4, hf⟩ := gbL hf
  have hF5 : Fr (W_M_signOf) s0 s3 := by rw [ee4]; exact Fr.u h0 (by simp [W_M_signOf])
  obtain ⟨s6, ee7, hf⟩ := gbL hf
  have hF8 : Fr (W_M_signOf) s0 s6 := by rw [ee7]; exact Fr.u hF5 (by simp [W_M_signOf])
  cases hf
  exact hF8
theorem w_M_signOf_31 (x1 : Int) (s0 s : kM) (h0 : Fr (W_M_signOf) s0 s) (t : kM) (hf : f_M_signOf_31 x1 s = some t) : (fun r => Fr (W_M_signOf) s0 r) t := by
  unfold f_M_signOf_31 at hf
  obtain ⟨j1, i2, hf⟩ := gbI hf
  by_cases c3 : (s 105 j1) = 43
  · have hf := gift c3 hf
    exact w_M_signOf_44 x1 1 s0 s h0 _ hf
  · have hf := giff c3 hf
    exact w_M_signOf_44 x1 0 s0 s h0 _ hf
theorem w_M_signOf (x1 : Int) (s : kM) (t : kM) (hf : f_M_signOf x1 s = some t) : Fr (W_M_signOf) s t := by
  unfold f_M_signOf at hf
  have h0 : Fr (W_M_signOf) s s := Fr.r
  obtain ⟨q1, hq1, hf⟩ := gbind hf
  have hF2 : Fr (W_M_signOf) s q1 := Fr.c h0 (w_M_blanks s _ hq1) (by intro a ha; simp only [W_M_signOf, W_M_blanks, List.mem_cons, List.not_mem_nil, or_false, not_or] at ha ⊢; omega)
  by_cases c3 : (q1 85 23) ≤ 0
  · have hf := gift c3 hf
    by_cases c4 : (q1 85 21) ≤ (q1 85 22)
    · have hf := gift c4 hf
      exact w_M_signOf_25 s q1 hF2 _ hf
    · have hf := giff c4 hf
      obtain ⟨j5, i6, hf⟩ := gbI hf
      by_cases c7 : (q1 105 j5) = 43
      · have hf := gift c7 hf
        exact w_M_signOf_31 x1 s q1 hF2 _ hf
      · have hf := giff c7 hf
        obtain ⟨j8, i9, hf⟩ := gbI hf
        by_cases c10 : (q1 105 j8) = 45
        · have hf := gift c10 hf
          exact w_M_signOf_31 x1 s q1 hF2 _ hf
        · have hf := giff c10 hf
          exact w_M_signOf_25 s q1 hF2 _ hf
  · have hf := giff c3 hf
    cases hf
    exact hF2
