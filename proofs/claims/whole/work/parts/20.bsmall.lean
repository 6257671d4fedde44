/-! the smallest calls -/
def gP (f : kM → Option Int) : kM → Option (Int × kM) := fun s => (f s).map fun v => (v, s)
/-- both answer the same, and what held holds again -/
def OB (RC : zA → kM → Prop) (RU : Nat → kM → Prop) (fK fM : kM → Option (Int × kM)) : Prop := ∀ s, Rel RC RU s → ∃ v s1 s2, fK s = some (v, s1) ∧ fM s1 = some (v, s2) ∧ Rel RC RU s2
section SMALL
variable {RC : zA → kM → Prop} {RU : Nat → kM → Prop}
theorem OB_pp {fK fM : kM → Option Int} (h : ∀ A s, Rel RC RU s → okA A → KT 4 A s → MT A s → ∃ v, fK s = some v ∧ fM s = some v) : OB RC RU (gP fK) (gP fM) := by
  intro s hs
  have hs' := hs
  obtain ⟨A, h1, h2, h3, -⟩ := hs'
  obtain ⟨v, e1, e2⟩ := h A s hs h1 h2 h3
  exact ⟨v, s, s, by unfold gP; rw [e1]; rfl, by unfold gP; rw [e2]; rfl, hs⟩
/-- tape and numbers alone have changed -/
theorem Rel_num (hC : hRC RC) (hU : hRU RU) {s t : kM} (h : Rel RC RU s) (e : ∀ a, a ≠ 1 → a ≠ 2 → a ≠ 3 → a ≠ 85 → a ≠ 86 → a ≠ 105 → t a = s a) (h1 : RTape t) (h2 : RScal t) (h3 : t 86 0 = s 86 0 ∧ t 86 1 = s 86 1 ∧ t 86 2 = s 86 2) (h4 : t 85 25 = s 85 25 ∧ t 85 30 = s 85 30) : Rel RC RU t := by
  obtain ⟨A, q1, q2, q3, q4, q5, q6, q7, q8⟩ := h
  have e' : ∀ a, a ≠ 1 ∧ a ≠ 2 ∧ a ≠ 3 ∧ a ≠ 85 ∧ a ≠ 86 ∧ a ≠ 105 → t a = s a := fun a h => e a h.1 h.2.1 h.2.2.1 h.2.2.2.1 h.2.2.2.2.1 h.2.2.2.2.2
  exact ⟨A, q1, KT_c q2 (fun i hi => e' _ (by omega)), MT_c q3 h3 (e' _ (by decide)) (e' _ (by decide)) (e' _ (by decide)) (e' _ (by decide)) (e' _ (by decide)), h1, h2, RRule_c hU q6 (by rw [e' 0 (by decide)]) h4 (by rw [e' 900 (by decide)]) (e' _ (by decide)) (fun a _ _ => e' a (by omega)) (fun a _ _ => e' a (by omega)), RImg_c q7 (fun a _ _ => e' a (by omega)) (e' _ (by decide)) (e' _ (by decide)) (by rw [e' 0 (by decide)]; omega), hC.1 A s t q8 (fun a _ _ => e' a (by omega))⟩
theorem O_end (hC : hRC RC) (hU : hRU RU) (n : Int) : OB RC RU (f_KT_end n) (f_M_end n) := by
  intro s hs
  have hs' := hs
  obtain ⟨A, q1, q2, q3, ⟨t1, t2, t3, t4, t5⟩, q5, q6, q7, q8⟩ := hs'
  unfold f_KT_end f_M_end gLet
  by_cases c1 : n < 0
  · exact ⟨-1, s, s, if_pos c1, if_pos c1, hs⟩
  · by_cases c2 : n ≤ s 1 1
    · refine ⟨n, gU s 1 1 n, gU (gU s 1 1 n) 85 21 n, by rw [if_neg c1, if_pos c2], by rw [if_neg c1, if_pos (by rw [gUn _ _ _ (by decide)]; omega)], ?_⟩
      refine Rel_num hC hU hs (fun a b1 b2 b3 b4 b5 b6 => by rw [gU_n _ _ _ b4, gU_n _ _ _ b1]) ?_ (RScal_c q5 ?_ ?_ ?_) ?_ ?_
      · refine ⟨?_, ?_, ?_, ?_, ?_⟩
        · simp [gU, gA, kup]
        · simp [gU, gA, kup]; omega
        · simp [gU, gA, kup]; omega
        · simp [gU, gA, t4]
        · simpa [gU, gA] using t5
      all_goals simp [gU, gA, kup]
    · exact ⟨-1, s, s, by rw [if_neg c1, if_neg c2], by rw [if_neg c1, if_neg (by omega)], hs⟩
theorem O_seed (hC : hRC RC) (hU : hRU RU) (n : Int) (hn : kR32 n) : OB RC RU (f_KT_seed n) (f_M_seed n) := by
  intro s hs
  have hs' := hs
  obtain ⟨A, q1, q2, q3, q4, q5, q6, q7, q8⟩ := hs'
  unfold f_KT_seed f_M_seed gLet
  unfold kR32 at hn
  by_cases c1 : 0 ≤ n
  · refine ⟨s 3 3, gU s 3 3 n, gU (gU s 3 3 n) 86 4 n, if_pos c1, ?_, ?_⟩
    · rw [if_pos c1, gUn _ _ _ (by decide), q5.2.2.2.2.1]
    · refine Rel_num hC hU hs (fun a b1 b2 b3 b4 b5 b6 => by rw [gU_n _ _ _ b5, gU_n _ _ _ b3]) (RTape_c q4 ?_ ?_ ?_ ?_) ?_ ?_ ?_
      any_goals simp [gU, gA, kup]
      obtain ⟨r1, r2, r3, r4, r5, r6, r7⟩ := q5
      refine ⟨?_, ?_, ?_, ?_, ?_, ?_, ?_⟩ <;> simp [gU, gA, kup] <;> omega
  · exact ⟨-1, s, s, if_neg c1, if_neg c1, hs⟩
theorem O_force (hC : hRC RC) (hU : hRU RU) (n : Int) : OB RC RU (f_KT_force n) (f_M_force n) := by
  intro s hs
  have hs' := hs
  obtain ⟨A, q1, q2, q3, q4, q5, q6, q7, q8⟩ := hs'
  have hr := q6
  obtain ⟨u1, u2, u3, -⟩ := hr
  unfold f_KT_force f_M_force gLet
  simp only [e_M_in, Option.bind_some]
  by_cases c1 : -1 ≤ n ∧ n < s 0 11
  · refine ⟨s 3 2, gU s 3 2 n, gU (gU s 3 2 n) 86 5 n, by rw [if_neg (by omega), if_pos (by omega)], ?_, ?_⟩
    · have e1 : gU s 3 2 n 85 25 = s 85 25 := by rw [gUn _ _ _ (by decide)]
      have e2 : gU s 3 2 n 86 5 = s 86 5 := by rw [gUn _ _ _ (by decide)]
      rw [e1, wI_id (by omega) (by omega), if_pos (show -1 ≤ n ∧ n ≤ s 85 25 - 1 by omega), if_neg (by decide), e2, q5.2.1]
    · refine Rel_num hC hU hs (fun a b1 b2 b3 b4 b5 b6 => by rw [gU_n _ _ _ b5, gU_n _ _ _ b3]) (RTape_c q4 ?_ ?_ ?_ ?_) ?_ ?_ ?_
      any_goals simp [gU, gA, kup]
      obtain ⟨r1, r2, r3, r4, r5, r6, r7⟩ := q5
      refine ⟨?_, ?_, ?_, ?_, ?_, ?_, ?_⟩ <;> simp [gU, gA, kup] <;> omega
  · refine ⟨-2, s, s, ?_, ?_, hs⟩
    · by_cases c2 : n < -1
      · rw [if_pos c2]
      · rw [if_neg c2, if_neg (by omega)]
    · rw [wI_id (by omega) (by omega), if_neg (show ¬ (-1 ≤ n ∧ n ≤ s 85 25 - 1) by omega), if_pos rfl]
theorem O_bridge (x y : Int) : OB RC RU (gP (f_KT_bridge x y)) (gP (f_M_bridge x y)) := by
  refine OB_pp ?_
  intro A s _ hA hK hM
  unfold f_KT_bridge f_M_bridge
  rw [e_has hA hK, e_M_isBridge hA hM]
  simp only [Option.bind_some]
  by_cases c : 0 ≤ x ∧ x < 11 ∧ pb A x.toNat = true
  · obtain ⟨k, rfl⟩ : ∃ k : Nat, x = (k : Int) := ⟨x.toNat, by omega⟩
    rw [Int.toNat_natCast] at c
    rw [Int.toNat_natCast, if_pos c, e_overAt hK (by omega), e_underAt hK (by omega)]
    have e6 : s 6 k = ah A k := hK.1.2.2.2.2 k (pb_iff.mp c.2.2)
    have hg : gI 11 (k : Int) = some k := by unfold gI; rw [if_pos (by omega), Int.toNat_natCast]
    rw [hg]
    simp only [Option.bind_some, show ¬ ((1 : Int) = 0) by decide, if_false]
    rw [e6, hM.1.2.2.2.2 k (pb_iff.mp c.2.2), (hM.2 k (by omega)).1, (hM.2 k (by omega)).2]
    by_cases h0 : y = 0 <;> by_cases h1 : y = 1 <;> by_cases h2 : y = 2 <;> simp [h0, h1, h2]
  · rw [if_neg c]
    exact ⟨-1, rfl, rfl⟩
end SMALL
