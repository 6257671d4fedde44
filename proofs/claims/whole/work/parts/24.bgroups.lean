/-- each bridge has a number not above it, of a bridge that hangs together with it -/
def grI (A : zA) (f : Nat → Int) : Prop := ∀ k, k < 11 → ∃ g : Nat, f k = g ∧ g ≤ k ∧ sg A k g
theorem pr_road {A : zA} {k : Nat} (h : pr A k) : (mk (ap A) (aF A)).testBit k = true ∨ (mo A).testBit k = true := by
  obtain ⟨j, h1, rfl⟩ := h
  by_cases hF : j < aF A
  · exact Or.inl ((on_road h1).1 hF)
  · exact Or.inr ((on_road h1).2 (by omega))
theorem st_road {A : zA} (hA : okB A) {f : Nat → Int} (hs : ∀ j, j < aN A → f (ap A j / 2) = f (ap A (nx (aF A) (aN A) j) / 2)) : (∀ d, d < aF A → f (ap A d / 2) = f (ap A 0 / 2)) ∧ (∀ d, aF A + d < aN A → f (ap A (aF A + d) / 2) = f (ap A (aF A) / 2)) := by
  have hn := okB_n hA
  constructor
  · intro d
    induction d with
    | zero => intro _; rfl
    | succ d ih =>
      intro h
      have := hs d (by omega)
      rw [show nx (aF A) (aN A) d = d + 1 by unfold nx; rw [if_pos (by omega), if_neg (by omega)]] at this
      rw [← this]
      exact ih (by omega)
  · intro d
    induction d with
    | zero => intro _; rfl
    | succ d ih =>
      intro h
      have := hs (aF A + d) (by omega)
      rw [show nx (aF A) (aN A) (aF A + d) = aF A + (d + 1) by unfold nx; rw [if_neg (by omega), if_neg (by omega)]; omega] at this
      rw [← this]
      exact ih (by omega)
theorem st_sg {A : zA} (hA : okB A) {f : Nat → Int} (hs : ∀ j, j < aN A → f (ap A j / 2) = f (ap A (nx (aF A) (aN A) j) / 2)) {k l : Nat} (h : sg A k l) : f k = f l := by
  obtain ⟨s0, s1⟩ := st_road hA hs
  have r0 : ∀ x, (mk (ap A) (aF A)).testBit x = true → f x = f (ap A 0 / 2) := by
    intro x hx
    rw [mk_bit] at hx
    obtain ⟨j, h1, rfl⟩ := hx
    exact s0 j h1
  have r1 : ∀ x, (mo A).testBit x = true → f x = f (ap A (aF A) / 2) := by
    intro x hx
    unfold mo at hx
    rw [mk_bit] at hx
    obtain ⟨j, h1, rfl⟩ := hx
    exact s1 j (by omega)
  rcases h with rfl | ⟨h1, h2, h3⟩
  · rfl
  rcases h3 with h3 | h3 | h3
  · obtain ⟨b, hb⟩ : ∃ b, (sm A).testBit b = true := by
      apply Classical.byContradiction
      intro hno
      apply h3
      apply Nat.eq_of_testBit_eq
      intro i
      rw [Nat.zero_testBit]
      cases hi : (sm A).testBit i with
      | false => rfl
      | true => exact absurd ⟨i, hi⟩ hno
    unfold sm at hb
    rw [Nat.testBit_and, Bool.and_eq_true] at hb
    have e01 : f (ap A 0 / 2) = f (ap A (aF A) / 2) := (r0 b hb.1).symm.trans (r1 b hb.2)
    have all : ∀ x, pr A x → f x = f (ap A 0 / 2) := by
      intro x hx
      rcases pr_road hx with q | q
      · exact r0 x q
      · exact (r1 x q).trans e01.symm
    rw [all k h1, all l h2]
  · rw [r0 k h3.1, r0 l h3.2]
  · rw [r1 k h3.1, r1 l h3.2]
theorem cq_grp {A : zA} (hA : okB A) {f : Nat → Int} (hg : grI A f) (hs : ∀ j, j < aN A → f (ap A j / 2) = f (ap A (nx (aF A) (aN A) j) / 2)) : cq (fun k => pb A k && decide (f k = (k : Int))) 11 = grp A := by
  have hP : ∀ k, ((pb A k && decide (f k = (k : Int))) = true) ↔ pr A k ∧ f k = (k : Int) := by
    intro k
    rw [Bool.and_eq_true, pb_iff, decide_eq_true_iff]
  have lt11 : ∀ k, pr A k → k < 11 := fun k h => pr_lt hA h
  have prl : ∀ k l, pr A k → sg A k l → pr A l := by
    intro k l hk h
    rcases h with rfl | ⟨_, h2, _⟩
    · exact hk
    · exact h2
  -- the head of a group
  have head : ∀ k0, pr A k0 → ∃ m : Nat, m < 11 ∧ pr A m ∧ sg A k0 m ∧ ∀ k, pr A k → sg A k k0 → (f k = (k : Int) ↔ k = m) := by
    intro k0 h0
    obtain ⟨m, h1, h2, h3⟩ := hg k0 (lt11 k0 h0)
    have hm := prl k0 m h0 h3
    refine ⟨m, lt11 m hm, hm, h3, fun k hk hsg => ?_⟩
    have e : f k = (m : Int) := (st_sg hA hs hsg).trans h1
    rw [e]
    omega
  have nz : ∀ x : Nat, x ≠ 0 → ∃ b, x.testBit b = true := by
    intro x hx
    apply Classical.byContradiction
    intro hno
    apply hx
    apply Nat.eq_of_testBit_eq
    intro i
    rw [Nat.zero_testBit]
    cases hi : x.testBit i with
    | false => rfl
    | true => exact absurd ⟨i, hi⟩ hno
  have p0 : ∀ x, (mk (ap A) (aF A)).testBit x = true → pr A x := by
    intro x hx
    rw [mk_bit] at hx
    obtain ⟨j, h1, h2⟩ := hx
    exact ⟨j, by have := okB_n hA; omega, h2⟩
  have p1 : ∀ x, (mo A).testBit x = true → pr A x := by
    intro x hx
    unfold mo at hx
    rw [mk_bit] at hx
    obtain ⟨j, h1, h2⟩ := hx
    exact ⟨aF A + j, by omega, h2⟩
  -- one group
  have one : ∀ k0, pr A k0 → (∀ k, pr A k → sg A k k0) → cq (fun k => pb A k && decide (f k = (k : Int))) 11 = 1 := by
    intro k0 h0 hall
    obtain ⟨m, m1, m2, m3, m4⟩ := head k0 h0
    refine cq_1 (m := m) 11 m1 (fun k hk => ?_)
    rw [hP]
    exact ⟨fun q => (m4 k q.1 (hall k q.1)).mp q.2, fun q => by subst q; exact ⟨m2, (m4 k m2 (hall k m2)).mpr rfl⟩⟩
  unfold grp
  by_cases z0 : mk (ap A) (aF A) = 0
  · rw [if_pos (Or.inl z0)]
    by_cases z1 : mo A = 0
    · rw [if_pos (by omega)]
      refine cq_0 11 (fun k _ q => ?_)
      rw [hP] at q
      rcases pr_road q.1 with w | w
      · rw [z0, Nat.zero_testBit] at w; cases w
      · rw [z1, Nat.zero_testBit] at w; cases w
    · rw [if_neg (by omega)]
      obtain ⟨b, hb⟩ := nz _ z1
      refine one b (p1 b hb) (fun k hk => Or.inr ⟨hk, p1 b hb, Or.inr (Or.inr ⟨?_, hb⟩)⟩)
      rcases pr_road hk with w | w
      · rw [z0, Nat.zero_testBit] at w; cases w
      · exact w
  · obtain ⟨a, ha⟩ := nz _ z0
    by_cases z1 : mo A = 0
    · rw [if_pos (Or.inr z1), if_neg (by omega)]
      refine one a (p0 a ha) (fun k hk => Or.inr ⟨hk, p0 a ha, Or.inr (Or.inl ⟨?_, ha⟩)⟩)
      rcases pr_road hk with w | w
      · exact w
      · rw [z1, Nat.zero_testBit] at w; cases w
    · rw [if_neg (fun q => q.elim z0 z1)]
      by_cases zs : sm A = 0
      · rw [if_pos zs]
        obtain ⟨b, hb⟩ := nz _ z1
        obtain ⟨m, m1, m2, m3, m4⟩ := head a (p0 a ha)
        obtain ⟨l, l1, l2, l3, l4⟩ := head b (p1 b hb)
        have hm0 : (mk (ap A) (aF A)).testBit m = true := by
          rcases m3 with q | ⟨_, _, q | q | q⟩
          · rw [← q]; exact ha
          · exact absurd zs q
          · exact q.2
          · exact absurd zs (sm_bit ha q.1)
        have hl1 : (mo A).testBit l = true := by
          rcases l3 with q | ⟨_, _, q | q | q⟩
          · rw [← q]; exact hb
          · exact absurd zs q
          · exact absurd zs (sm_bit q.1 hb)
          · exact q.2
        have hne : m ≠ l := fun q => sm_bit hm0 (by rw [q]; exact hl1) zs
        have both : ∀ k, k < 11 → (((pb A k && decide (f k = (k : Int))) = true) ↔ k = m ∨ k = l) := by
          intro k _
          rw [hP]
          constructor
          · rintro ⟨q1, q2⟩
            rcases pr_road q1 with w | w
            · exact Or.inl ((m4 k q1 (Or.inr ⟨q1, p0 a ha, Or.inr (Or.inl ⟨w, ha⟩)⟩)).mp q2)
            · exact Or.inr ((l4 k q1 (Or.inr ⟨q1, p1 b hb, Or.inr (Or.inr ⟨w, hb⟩)⟩)).mp q2)
          · rintro (q | q)
            · subst q
              exact ⟨m2, (m4 k m2 (Or.inr ⟨m2, p0 a ha, Or.inr (Or.inl ⟨hm0, ha⟩)⟩)).mpr rfl⟩
            · subst q
              exact ⟨l2, (l4 k l2 (Or.inr ⟨l2, p1 b hb, Or.inr (Or.inr ⟨hl1, hb⟩)⟩)).mpr rfl⟩
        by_cases hlt : m < l
        · exact cq_2 11 hlt l1 both
        · exact cq_2 (m := l) (l := m) 11 (by omega) m1 (fun k hk => (both k hk).trans ⟨Or.symm, Or.symm⟩)
      · rw [if_neg zs]
        exact one a (p0 a ha) (fun k hk => Or.inr ⟨hk, p0 a ha, Or.inl zs⟩)
