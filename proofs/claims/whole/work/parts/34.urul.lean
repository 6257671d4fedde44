/-! all clauses together -/
def vof (c : List Int) (w : Nat → Int) : Int := (run w c ((fun _ => 0), 0)).1 0
theorem vof_v {c : List Int} {val : (Nat → Int) → Int} (h : WFv c val) (w : Nat → Int) : vof c w = val w := (h.2.2.1 w (fun _ => 0) 0).1
def PA (acc : List (List Int)) (kc : List Int) (p n : Nat) : Prop := (∀ c, c ∈ acc → WF true c) ∧ pus kc ≤ n ∧ 3 * kc.length ≤ 6 * n + p ∧ (acc = [] → kc = []) ∧ (acc ≠ [] → WF true kc ∧ ∀ w, vof kc w = 1 ↔ ∃ c, c ∈ acc ∧ vof c w = 1)
theorem lor_1 {a b : Int} (ha : a = 0 ∨ a = 1) (hb : b = 0 ∨ b = 1) : klor a b = 1 ↔ a = 1 ∨ b = 1 := by
  rcases ha with ha | ha <;> rcases hb with hb | hb <;> subst ha <;> subst hb <;> decide
theorem PA_s {acc : List (List Int)} {kc : List Int} {p n a : Nat} (ha : acc.length = a) (h : PA acc kc p n) {c : List Int} {q m : Nat} (h1 : p + 3 < q) (h2 : n < m) (h3 : 3 * c.length + 3 ≤ 6 * (m - n) + (q - p - 3)) (h4 : pus c ≤ m - n) (h5 : WF true c) : PA (acc ++ [c]) (kc ++ jnK a c) q m := by
  obtain ⟨p1, p2, p3, p4, p5⟩ := h
  have hm : ∀ c', c' ∈ acc ++ [c] → WF true c' := by
    intro c' hc'
    rw [List.mem_append, List.mem_singleton] at hc'
    rcases hc' with hc' | hc'
    · exact p1 c' hc'
    · rw [hc']; exact h5
  have hne : acc ++ [c] ≠ [] := by
    intro q
    have := congrArg List.length q
    rw [List.length_append] at this
    exact absurd this (Nat.succ_ne_zero _)
  unfold jnK
  by_cases h0 : a = 0
  · have hacc : acc = [] := List.length_eq_zero_iff.mp (by omega)
    have hkc := p4 hacc
    subst hacc
    subst hkc
    rw [if_pos h0]
    refine ⟨hm, by show pus c ≤ m; omega, by show 3 * c.length ≤ _; omega, fun q => absurd q hne, fun _ => ⟨h5, fun w => ⟨fun z => ⟨c, List.mem_singleton.mpr rfl, z⟩, ?_⟩⟩⟩
    rintro ⟨c', hc', hv⟩
    have : c' = c := List.mem_singleton.mp hc'
    rw [← this]
    exact hv
  · have hacc : acc ≠ [] := fun q => h0 (by rw [← ha, q]; rfl)
    obtain ⟨k1, k2⟩ := p5 hacc
    rw [if_neg h0, ← List.append_assoc]
    refine ⟨hm, ?_, ?_, fun q => absurd q hne, fun _ => ⟨WF_2 k1 h5 (by decide) (by decide) (fun _ => ⟨by decide, fun _ => rfl⟩), fun w => ?_⟩⟩
    · rw [pus_app, pus_app]
      show pus kc + pus c + 0 ≤ m
      omega
    · rw [List.length_append, List.length_append]
      show 3 * (kc.length + c.length + 1) ≤ _
      omega
    · obtain ⟨va, a1, a2⟩ := k1
      obtain ⟨vb, b1, b2⟩ := h5
      have e1 := vof_v a1 w
      have e2 := vof_v b1 w
      have ev : vof (kc ++ c ++ [-21]) w = klor (vof kc w) (vof c w) := by
        unfold vof
        rw [run_app, run_app]
        have d1 := run_d w kc ((fun _ => 0), 0)
        rw [(a1.2.1 0).2] at d1
        obtain ⟨f1, hf1⟩ : ∃ f1, run w kc ((fun _ => 0), 0) = (f1, 0 + 1) := ⟨(run w kc ((fun _ => 0), 0)).1, by rw [← d1]⟩
        have g1 := b1.2.2.1 w f1 (0 + 1)
        have d2 := run_d w c (f1, 0 + 1)
        rw [(b1.2.1 (0 + 1)).2] at d2
        rw [hf1]
        have hvc : (run w c ((fun _ => 0), 0)).1 0 = vb w := (b1.2.2.1 w (fun _ => 0) 0).1
        rw [hvc]
        generalize run w c (f1, 0 + 1) = z at g1 d2
        show (stp w (-21) z).1 0 = _
        unfold stp
        rw [if_neg (by decide), if_neg (by decide), d2]
        show kup z.1 0 (op2 (-21) (z.1 0) (z.1 1)) 0 = _
        unfold kup
        rw [if_pos rfl, g1.2 0 (by omega)]
        have : z.1 1 = vb w := g1.1
        rw [this]
        rfl
      have ba := a2 rfl w
      have bb := b2 rfl w
      rw [ev, lor_1 (by rw [e1]; exact ba) (by rw [e2]; exact bb), k2 w]
      constructor
      · rintro (⟨c', hc', hv⟩ | hv)
        · exact ⟨c', List.mem_append_left _ hc', hv⟩
        · exact ⟨c, List.mem_append_right _ (List.mem_singleton.mpr rfl), hv⟩
      · rintro ⟨c', hc', hv⟩
        rw [List.mem_append, List.mem_singleton] at hc'
        rcases hc' with hc' | hc'
        · exact Or.inl ⟨c', hc', hv⟩
        · rw [hc'] at hv
          exact Or.inr hv
theorem Rl_i {T : Nat → Int} {L : Nat} (hL : L ≤ 400) : ∀ kk a acc kc p n, acc.length = a → p ≤ L → n ≤ 60 → PA acc kc p n → ∀ x, pRl T L kk a acc kc p n = .inr x → (∃ q m, q ≤ L ∧ m ≤ 60 ∧ PA x.1 x.2 q m) ∧ x.1 ≠ []
  | 0, _, _, _, _, _, _, _, _, _, x, h => by cases h
  | kk + 1, a, acc, kc, p, n, h1, h2, h3, h4, x, h => by
    obtain ⟨i1, i2⟩ := Cl_i (T := T) hL (a := a) h2 h3
    cases hr : pCl T L a p n with
    | inl e0 =>
      rw [pRl_l hr] at h
      cases h
    | inr y =>
      obtain ⟨c, q, n1⟩ := y
      obtain ⟨⟨v1, v2, v3, v4⟩, v5, v6, v7, v8, v9⟩ := i2 c q n1 hr
      have hP := PA_s h1 h4 v1 v3 v5 v6 v7
      rw [pRl_r hr] at h
      by_cases h59 : q < L ∧ T q = 59
      · rw [if_pos h59] at h
        have hP2 : PA (acc ++ [c]) (kc ++ jnK a c) (q + 1) n1 := ⟨hP.1, hP.2.1, by have := hP.2.2.1; omega, hP.2.2.2⟩
        exact Rl_i hL kk (a + 1) _ _ (q + 1) n1 (by rw [List.length_append, h1]; rfl) (by omega) v4 hP2 x h
      · rw [if_neg h59] at h
        by_cases hq : q < L
        · rw [if_pos hq] at h
          cases h
        · rw [if_neg hq] at h
          injection h with h
          rw [← h]
          refine ⟨⟨q, n1, v2, v4, hP⟩, fun z => ?_⟩
          have := congrArg List.length z
          rw [List.length_append] at this
          exact absurd this (Nat.succ_ne_zero _)
