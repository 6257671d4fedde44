def cv (A : zA) (x : Int) (a4 a6 a7 a8 a9 : Int) : Int := if x = 0 then (aR A : Int) else if x = 1 then ((aN A / 2 : Nat) : Int) else if x = 2 then (aN A : Int) else if x = 3 then ((hs (ah A) (mk (ap A) (aN A)) 11 : Nat) : Int) else if x = 4 then a4 else if x = 5 then ((rb A (aR A) + ra A (aR A) : Nat) : Int) else if x = 6 then a6 else if x = 7 then a7 else if x = 8 then a8 else if x = 9 then a9 else if x = 10 then ((grp A : Nat) : Int) else -1
theorem wp_M_count {A : zA} (hA : okA A) {g : kM} (hM : MT A g) (x : Int) : wp (f_M_count x g) (fun r => r.1 = cv A x (g 86 3) (g 85 25) (g 86 5) (g 86 4) (g 85 21) ∧ ∀ i, i ≠ 44 → r.2 85 i = g 85 i) := by
  have hh : ∀ k, (mk (ap A) (aN A)).testBit k = true → ah A k ≤ 1 := fun k hk => hA.2.2.2.2 k (mk_pr hk)
  unfold f_M_count f_M_count_4
  refine wp_for 11 (fun k y => y.1 = ((hs (ah A) (mk (ap A) (aN A)) k : Nat) : Int) ∧ y.2 = (k : Int)) 0 _ (by omega) (by omega) (by exact ⟨rfl, rfl⟩) ?_ ?_
  · rintro k ⟨y1, y2⟩ _ hk ⟨rfl, rfl⟩
    have hl := hs_le hh k
    have n11 : ¬ (11 : Int) ≤ (k : Int) := by omega
    have hkl : k < 2147483647 := by omega
    dsimp only
    unfold f_M_count_4b f_M_count_18
    rw [if_neg n11, e_M_isBridge hA hM, Option.bind_some, Int.toNat_natCast, gI_n hk, Option.bind_some]
    by_cases hp : pb A k = true
    · have h1 := hh k hp
      have e89 := hM.1.2.2.2.2 k (pb_iff.mp hp)
      have hw : wI (((hs (ah A) (mk (ap A) (aN A)) k : Nat) : Int) + ((ah A k : Nat) : Int)) = ((hs (ah A) (mk (ap A) (aN A)) (k + 1) : Nat) : Int) := by
        have hp' : (mk (ap A) (aN A)).testBit k = true := hp
        rw [hs_succ, if_pos hp', wI_id (by omega) (by omega)]
        omega
      rw [if_pos (show 0 ≤ (k : Int) ∧ (k : Int) < 11 ∧ pb A k = true from ⟨by omega, by omega, hp⟩), if_neg (show ¬ (1 : Int) = 0 by decide), e89, hw, wI_s hkl, wp_some, gE_l]
      exact ⟨rfl, rfl⟩
    · have hw : wI (((hs (ah A) (mk (ap A) (aN A)) k : Nat) : Int) + 0) = ((hs (ah A) (mk (ap A) (aN A)) (k + 1) : Nat) : Int) := by
        have hp' : ¬ (mk (ap A) (aN A)).testBit k = true := hp
        rw [hs_succ, if_neg hp', wI_id (by omega) (by omega)]
        omega
      rw [if_neg (show ¬ (0 ≤ (k : Int) ∧ (k : Int) < 11 ∧ pb A k = true) from fun q => hp q.2.2), if_pos rfl, hw, wI_s hkl, wp_some, gE_l]
      exact ⟨rfl, rfl⟩
  · rintro ⟨y1, y2⟩ ⟨rfl, rfl⟩
    obtain ⟨t, e1, p1, p2, p3, p4⟩ := wp_fillsBows hA hM.1
    have hMt : MT A t := MT_k hM (fun a h1 h2 => p1 a (by omega) (by omega) (by omega))
    have t86 : t 86 = g 86 := p1 86 (by decide) (by decide) (by decide)
    obtain ⟨⟨zv, w⟩, e2, k2⟩ := wp_M_groups hA hMt
    have fw : w 85 = t 85 := w_M_groups t _ e2 85 (by decide)
    dsimp only at k2
    dsimp only
    unfold f_M_count_4b
    rw [if_pos (show (11 : Int) ≤ ((11 : Nat) : Int) by decide), e1, Option.bind_some, e_M_many hA.1 hMt.1, Option.bind_some, e_M_places hA.1 hMt.1, Option.bind_some, e2, Option.bind_some, t86, p2 25 (by decide), p2 21 (by decide), p3, hM.1.1]
    unfold cv
    dsimp only
    rw [k2]
    have fin : ∀ (c : Int) (u : kM), (∀ i, i ≠ 44 → u 85 i = g 85 i) → wp (some (Sum.inr (c, u))) (gE (fun _ : Int × Int => False) (fun r : Int × kM => r.1 = c ∧ ∀ i, i ≠ 44 → r.2 85 i = g 85 i)) := fun c u hu => by
      rw [wp_some, gE_r]
      exact ⟨rfl, hu⟩
    have hw85 : ∀ i, i ≠ 44 → w 85 i = g 85 i := fun i hi => by rw [fw]; exact p2 i hi
    by_cases c0 : x = 0
    · simp only [if_pos c0]; exact fin _ _ p2
    simp only [if_neg c0]
    by_cases c1 : x = 1
    · simp only [if_pos c1]; exact fin _ _ p2
    simp only [if_neg c1]
    by_cases c2 : x = 2
    · simp only [if_pos c2]; exact fin _ _ p2
    simp only [if_neg c2]
    by_cases c3 : x = 3
    · simp only [if_pos c3]; exact fin _ _ p2
    simp only [if_neg c3]
    by_cases c4 : x = 4
    · simp only [if_pos c4]; exact fin _ _ p2
    simp only [if_neg c4]
    by_cases c5 : x = 5
    · simp only [if_pos c5]; exact fin _ _ p2
    simp only [if_neg c5]
    by_cases c6 : x = 6
    · simp only [if_pos c6]; exact fin _ _ p2
    simp only [if_neg c6]
    by_cases c7 : x = 7
    · simp only [if_pos c7]; exact fin _ _ p2
    simp only [if_neg c7]
    by_cases c8 : x = 8
    · simp only [if_pos c8]; exact fin _ _ p2
    simp only [if_neg c8]
    by_cases c9 : x = 9
    · simp only [if_pos c9]; exact fin _ _ p2
    simp only [if_neg c9]
    by_cases c10 : x = 10
    · simp only [if_pos c10]; exact fin _ _ hw85
    simp only [if_neg c10]
    exact fin _ _ p2
section TOWN
variable {RC : zA → kM → Prop} {RU : Nat → kM → Prop}
theorem O_count (hC : hRC RC) (hU : hRU RU) (x : Int) : OB RC RU (f_KT_count x) (f_M_count x) := by
  intro s hs
  have hs' := hs
  obtain ⟨A, hA, hK, hM, q4, q5, q6, -⟩ := hs'
  have key : ∀ t : kM, (∀ z, z ≠ 48 → z ≠ 49 → t z = s z) → f_KT_count x s = some (cv A x (s 86 3) (s 85 25) (s 86 5) (s 86 4) (s 85 21), t) → ∃ v s1 s2, f_KT_count x s = some (v, s1) ∧ f_M_count x s1 = some (v, s2) ∧ Rel RC RU s2 := by
    intro t ft hk
    have hMt : MT A t := MT_k hM (fun a h1 h2 => ft a (by omega) (by omega))
    obtain ⟨⟨zv, w⟩, e2, k1, k2⟩ := wp_M_count hA hMt x
    have fw : ∀ z, z ∉ W_M_count → w z = t z := w_M_count x t _ e2
    dsimp only at k1 k2
    rw [ft 86 (by decide) (by decide), ft 85 (by decide) (by decide)] at k1
    refine ⟨_, t, w, hk, by rw [e2, k1], Rel_fr hC hU hs (fun a h1 h2 => ?_) (fun i h1 h2 => ?_)⟩
    · have n114 : a ≠ 114 := fun z => by subst z; cases h2
      have n115 : a ≠ 115 := fun z => by subst z; cases h2
      have n104 : a ≠ 104 := fun z => by subst z; cases h2
      have n48 : a ≠ 48 := fun z => by subst z; cases h2
      have n49 : a ≠ 49 := fun z => by subst z; cases h2
      rw [fw a (by simp [W_M_count]; omega), ft a n48 n49]
    · rw [k2 i h1, ft 85 (by decide) (by decide)]
  obtain ⟨t, e1, k1, k2⟩ := wp_Bows_find hA hK
  have ft : ∀ z, z ≠ 48 → z ≠ 49 → t z = s z := fun z z1 z2 => w_Bows_find 4 s t e1 z (by simp [W_Bows_find]; omega)
  by_cases c5 : x = 5
  · refine key t ft ?_
    unfold f_KT_count cv
    subst c5
    rw [if_neg (by decide), if_neg (by decide), if_neg (by decide), if_neg (by decide), if_neg (by decide), if_pos rfl, e1, Option.bind_some, k1, if_neg (by decide), if_neg (by decide), if_neg (by decide), if_neg (by decide), if_neg (by decide), if_pos rfl]
  · refine key s (fun _ _ _ => rfl) ?_
    unfold f_KT_count cv
    rw [hK.1.1, e_bridges hA.1 hK, (oc_half hA).1, hK.1.2.2.1, e_plusHands hA hK, e_groups hA.1 hK, q5.1, q6.1, q5.2.1, q5.2.2.2.2.1, q4.1]
    simp only [Option.bind_some, if_neg c5]
    by_cases c0 : x = 0
    · simp only [if_pos c0]
    simp only [if_neg c0]
    by_cases c1 : x = 1
    · simp only [if_pos c1]
    simp only [if_neg c1]
    by_cases c2 : x = 2
    · simp only [if_pos c2]
    simp only [if_neg c2]
    by_cases c3 : x = 3
    · simp only [if_pos c3]
    simp only [if_neg c3]
    by_cases c4 : x = 4
    · simp only [if_pos c4]
    simp only [if_neg c4]
    by_cases c6 : x = 6
    · simp only [if_pos c6]
    simp only [if_neg c6]
    by_cases c7 : x = 7
    · simp only [if_pos c7]
    simp only [if_neg c7]
    by_cases c8 : x = 8
    · simp only [if_pos c8]
    simp only [if_neg c8]
    by_cases c9 : x = 9
    · simp only [if_pos c9]
    simp only [if_neg c9]
    by_cases c10 : x = 10
    · simp only [if_pos c10]
    simp only [if_neg c10]
end TOWN
