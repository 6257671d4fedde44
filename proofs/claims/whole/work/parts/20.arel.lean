/-! WHAT HOLDS BETWEEN THE CALLS. RC: what the class keeps of the town as it is (search, bracket); RU: one RULE on both sides: said later; here only what they rest on. -/
def hRC (RC : zA → kM → Prop) : Prop := (∀ A s s', RC A s → (∀ a, 21 ≤ a → a ≤ 47 → s' a = s a) → RC A s') ∧ (∀ A s, s 44 0 = 0 → s 21 16 = 0 → s 21 18 = 0 → RC A s)
def hRU (RU : Nat → kM → Prop) : Prop := ∀ k s s', RU k s → (∀ a, a = 125 + 2 * k ∨ a = 126 + 2 * k ∨ (106 ≤ a ∧ a ≤ 110) → s' a = s a) → RU k s'
def RTape (s : kM) : Prop := s 1 1 = s 85 21 ∧ 0 ≤ s 1 1 ∧ s 1 1 ≤ 400 ∧ s 2 = s 105 ∧ ∀ j, -128 ≤ s 2 j ∧ s 2 j ≤ 127
def RScal (s : kM) : Prop := s 3 1 = s 86 3 ∧ s 3 2 = s 86 5 ∧ -1 ≤ s 3 2 ∧ s 3 2 < s 0 11 ∧ s 3 3 = s 86 4 ∧ 0 ≤ s 3 3 ∧ s 3 3 ≤ 2147483647
def RRule (RU : Nat → kM → Prop) (s : kM) : Prop := s 0 11 = s 85 25 ∧ 0 ≤ s 0 11 ∧ s 0 11 ≤ 6 ∧ s 900 0 = s 0 11 ∧ s 85 30 = 8 ∧ ∀ k : Nat, (k : Int) < s 0 11 → s 56 k = k ∧ RU k s
/-- image i: the class's stand at 57 + 7 i, the reference's 70 numbers -/
def RIm1 (i : Nat) (A : zA) (s : kM) : Prop := okA A ∧ KR (58 + 7 * i) A s ∧ s (57 + 7 * i) 1 = s 123 (70 * i + 3) ∧ s (57 + 7 * i) 2 = s 123 (70 * i + 5) ∧ -1 ≤ s (57 + 7 * i) 2 ∧ s (57 + 7 * i) 2 < s 0 11 ∧ s (57 + 7 * i) 3 = s 123 (70 * i + 4) ∧ 0 ≤ s (57 + 7 * i) 3 ∧ s (57 + 7 * i) 3 ≤ 2147483647 ∧ s 123 (70 * i) = aR A ∧ s 123 (70 * i + 1) = aF A ∧ s 123 (70 * i + 2) = (aN A : Int) - aF A ∧ (∀ j, j < aN A → s 123 (70 * i + 6 + j) = ((ap A j / 2 : Nat) : Int) ∧ s 123 (70 * i + 28 + j) = ((ap A j % 2 : Nat) : Int)) ∧ (∀ k, pr A k → s 123 (70 * i + 50 + k) = ah A k)
def RImg (s : kM) : Prop := ∀ i, i < 4 → s (57 + 7 * i) 4 = s 124 i ∧ (s 124 i = 0 ∨ s 124 i = 1) ∧ (s 124 i = 1 → ∃ A, RIm1 i A s)
def Rel (RC : zA → kM → Prop) (RU : Nat → kM → Prop) (s : kM) : Prop := ∃ A, okA A ∧ KT 4 A s ∧ MT A s ∧ RTape s ∧ RScal s ∧ RRule RU s ∧ RImg s ∧ RC A s
/-! what each rests on -/
theorem KR_c {b : Nat} {A : zA} {s s' : kM} (h : KR b A s) (h0 : s' b = s b) (h1 : s' (b + 1) = s (b + 1)) (h2 : s' (b + 2) = s (b + 2)) : KR b A s' := by
  unfold KR at h ⊢
  rw [h0, h1, h2]
  exact h
theorem KT_c {b : Nat} {A : zA} {s s' : kM} (h : KT b A s) (h0 : ∀ i, i < 6 → s' (b + i) = s (b + i)) : KT b A s' := by
  refine ⟨KR_c h.1 (h0 0 (by decide)) (h0 1 (by decide)) (h0 2 (by decide)), ?_⟩
  have h2 := h.2
  unfold KS at h2 ⊢
  rw [show s' b = s b from h0 0 (by decide), h0 3 (by decide), h0 4 (by decide), h0 5 (by decide)]
  exact h2
theorem MT_c {A : zA} {s s' : kM} (h : MT A s) (h1 : s' 86 0 = s 86 0 ∧ s' 86 1 = s 86 1 ∧ s' 86 2 = s 86 2) (h2 : s' 87 = s 87) (h3 : s' 88 = s 88) (h4 : s' 89 = s 89) (h5 : s' 98 = s 98) (h6 : s' 99 = s 99) : MT A s' := by
  unfold MT MR MS at h ⊢
  rw [h1.1, h1.2.1, h1.2.2, h2, h3, h4, h5, h6]
  exact h
theorem RTape_c {s s' : kM} (h : RTape s) (h1 : s' 1 = s 1) (h2 : s' 2 = s 2) (h3 : s' 85 21 = s 85 21) (h4 : s' 105 = s 105) : RTape s' := by
  unfold RTape at h ⊢
  rw [h1, h2, h3, h4]
  exact h
theorem RScal_c {s s' : kM} (h : RScal s) (h0 : s' 3 1 = s 3 1 ∧ s' 3 2 = s 3 2 ∧ s' 3 3 = s 3 3) (h1 : s' 86 3 = s 86 3 ∧ s' 86 4 = s 86 4 ∧ s' 86 5 = s 86 5) (h2 : s' 0 11 = s 0 11) : RScal s' := by
  unfold RScal at h ⊢
  rw [h0.1, h0.2.1, h0.2.2, h1.1, h1.2.1, h1.2.2, h2]
  exact h
theorem RRule_c {RU : Nat → kM → Prop} (hU : hRU RU) {s s' : kM} (h : RRule RU s) (h0 : s' 0 11 = s 0 11) (h1 : s' 85 25 = s 85 25 ∧ s' 85 30 = s 85 30) (h2 : s' 900 0 = s 900 0) (h3 : s' 56 = s 56) (h4 : ∀ a, 106 ≤ a → a ≤ 110 → s' a = s a) (h5 : ∀ a, 125 ≤ a → a < 900 → s' a = s a) : RRule RU s' := by
  obtain ⟨q1, q2, q3, q4, q5, q6⟩ := h
  refine ⟨by rw [h0, h1.1, q1], by omega, by omega, by rw [h2, h0, q4], by rw [h1.2, q5], ?_⟩
  intro k hk
  rw [h0] at hk
  rw [h3]
  refine ⟨(q6 k hk).1, hU k s s' (q6 k hk).2 ?_⟩
  rintro a (rfl | rfl | ⟨x1, x2⟩)
  · exact h5 _ (by omega) (by omega)
  · exact h5 _ (by omega) (by omega)
  · exact h4 _ x1 x2
theorem RIm1_c {i : Nat} {A : zA} {s s' : kM} (h : RIm1 i A s) (h0 : ∀ a, a = 57 + 7 * i ∨ a = 58 + 7 * i ∨ a = 59 + 7 * i ∨ a = 60 + 7 * i → s' a = s a) (h1 : s' 123 = s 123) (h2 : s 0 11 ≤ s' 0 11) : RIm1 i A s' := by
  unfold RIm1 at h ⊢
  obtain ⟨q1, q2, q3, q4, q5, q6, q7⟩ := h
  have e1 : s' (57 + 7 * i) = s (57 + 7 * i) := h0 _ (Or.inl rfl)
  rw [e1, h1]
  refine ⟨q1, KR_c q2 (h0 _ (by omega)) (h0 _ (by omega)) (h0 _ (by omega)), q3, q4, q5, by omega, q7⟩
theorem RImg_c {s s' : kM} (h : RImg s) (h0 : ∀ a, 57 ≤ a → a < 85 → s' a = s a) (h1 : s' 123 = s 123) (h3 : s' 124 = s 124) (h2 : s 0 11 ≤ s' 0 11) : RImg s' := by
  intro i hi
  obtain ⟨q1, q2, q3⟩ := h i hi
  refine ⟨?_, ?_, ?_⟩
  · rw [h0 _ (by omega) (by omega), h3, q1]
  · rw [h3]; exact q2
  · intro hm
    rw [h3] at hm
    obtain ⟨A, hA⟩ := q3 hm
    exact ⟨A, RIm1_c hA (fun a ha => h0 a (by omega) (by omega)) h1 h2⟩
/-- what no answer rests on may change: scratch cells -/
def scr (a : Nat) : Bool := (10 ≤ a && a ≤ 20) || (48 ≤ a && a ≤ 55) || (90 ≤ a && a ≤ 97) || (100 ≤ a && a ≤ 104) || (111 ≤ a && a ≤ 122)
theorem Rel_scr {RC : zA → kM → Prop} {RU : Nat → kM → Prop} (hC : hRC RC) (hU : hRU RU) {s s' : kM} (h : Rel RC RU s) (h1 : ∀ a, a ≠ 85 → scr a = false → s' a = s a) (h2 : ∀ j, j = 21 ∨ j = 25 ∨ j = 30 → s' 85 j = s 85 j) : Rel RC RU s' := by
  obtain ⟨A, q1, q2, q3, q4, q5, q6, q7, q8⟩ := h
  have e : ∀ a, a ≠ 85 → scr a = false → s' a = s a := h1
  refine ⟨A, q1, KT_c q2 (fun i hi => e _ (by omega) ?_), MT_c q3 ?_ (e _ (by decide) rfl) (e _ (by decide) rfl) (e _ (by decide) rfl) (e _ (by decide) rfl) (e _ (by decide) rfl), RTape_c q4 (e _ (by decide) rfl) (e _ (by decide) rfl) (h2 _ (by decide)) (e _ (by decide) rfl), RScal_c q5 ?_ ?_ ?_, RRule_c hU q6 ?_ ⟨h2 _ (by decide), h2 _ (by decide)⟩ ?_ (e _ (by decide) rfl) (fun a h1 h2 => e a (by omega) ?_) (fun a h1 h2 => e a (by omega) ?_), RImg_c q7 (fun a h1 h2 => e a (by omega) ?_) (e _ (by decide) rfl) (e _ (by decide) rfl) ?_, hC.1 A s s' q8 (fun a h1 h2 => e a (by omega) ?_)⟩
  · simp only [scr]; simp; omega
  · rw [e 86 (by decide) rfl]; exact ⟨rfl, rfl, rfl⟩
  · rw [e 3 (by decide) rfl]; exact ⟨rfl, rfl, rfl⟩
  · rw [e 86 (by decide) rfl]; exact ⟨rfl, rfl, rfl⟩
  · rw [e 0 (by decide) rfl]
  · rw [e 0 (by decide) rfl]
  · rw [e 900 (by decide) rfl]
  · simp only [scr]; simp; omega
  · simp only [scr]; simp; omega
  · simp only [scr]; simp; omega
  · rw [e 0 (by decide) rfl]; omega
  · simp only [scr]; simp; omega
