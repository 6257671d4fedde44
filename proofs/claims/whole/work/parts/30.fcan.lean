def pmz (w : Int) (m : Nat) : Int := kand (kshr ((ky m : Nat) : Int) (wI (4 * (wI (3 - w))))) 15
theorem pm_0 : ∀ m : Fin 1463, pmz 0 m.val = ((knd m.val : Nat) : Int) := by decide +kernel
theorem pm_1 : ∀ m : Fin 1463, pmz 1 m.val = ((mv1 m.val : Nat) : Int) := by decide +kernel
theorem pm_2 : ∀ m : Fin 1463, pmz 2 m.val = if m.val < 11 then 15 else ((mv2 m.val : Nat) : Int) := by decide +kernel
theorem pm_3 : ∀ m : Fin 1463, pmz 3 m.val = if m.val < 132 then 15 else ((mv3 m.val : Nat) : Int) := by decide +kernel
theorem mv_lt {m : Nat} (hm : m < 1463) : mv1 m < 11 ∧ mv2 m < 11 ∧ mv3 m < 11 := by
  unfold mv1 mv2 mv3
  refine ⟨?_, ?_, ?_⟩
  · split
    · omega
    · split <;> omega
  · split <;> omega
  · omega
theorem e_part {m : Nat} (hm : m < 1463) (s : kM) : f_Land_partOfMove ((ky m : Nat) : Int) 0 s = some ((knd m : Nat) : Int) ∧ f_Land_partOfMove ((ky m : Nat) : Int) 1 s = some ((mv1 m : Nat) : Int) ∧ f_Land_partOfMove ((ky m : Nat) : Int) 2 s = some (if m < 11 then -1 else ((mv2 m : Nat) : Int)) ∧ f_Land_partOfMove ((ky m : Nat) : Int) 3 s = some (if m < 132 then -1 else ((mv3 m : Nat) : Int)) := by
  have h0 := pm_0 ⟨m, hm⟩
  have h1 := pm_1 ⟨m, hm⟩
  have h2 := pm_2 ⟨m, hm⟩
  have h3 := pm_3 ⟨m, hm⟩
  obtain ⟨l1, l2, l3⟩ := mv_lt hm
  unfold pmz at h0 h1 h2 h3
  dsimp only at h0 h1 h2 h3
  unfold f_Land_partOfMove
  refine ⟨?_, ?_, ?_, ?_⟩
  · rw [if_pos (by decide), h0]
  · rw [if_neg (by decide), h1, if_neg (by omega)]
  · rw [if_neg (by decide), h2]
    by_cases c : m < 11
    · rw [if_pos c, if_pos c, if_pos rfl]
    · rw [if_neg c, if_neg c, if_neg (by omega)]
  · rw [if_neg (by decide), h3]
    by_cases c : m < 132
    · rw [if_pos c, if_pos c, if_pos rfl]
    · rw [if_neg c, if_neg c, if_neg (by omega)]
theorem cq_same {P Q : Nat → Bool} (hQ : ∀ m, Q m = true → P m = true) {a : Nat} : ∀ n, a ≤ n → cq P a = cq P n → cq Q a = cq Q n
  | 0, h, _ => by rw [show a = 0 by omega]
  | n + 1, h, he => by
    by_cases ha : a = n + 1
    · rw [ha]
    · have h1 := cq_mono P (m := a) n (by omega)
      rw [cq_succ] at he
      have hP : ¬ P n = true := fun q => by rw [if_pos q] at he; omega
      rw [if_neg hP] at he
      rw [cq_succ, if_neg (fun q => hP (hQ n q)), Nat.add_zero]
      exact cq_same hQ n (by omega) he
theorem e_movesOfKind {b : Nat} {P : Nat → Bool} {st : Nat → Nat} {t : kM} (h : KLs b P st t) (h48 : cq P 1463 ≤ 48) (k : Nat) : f_Land_movesOfKind b k t = some ((cq (fun m => P m && decide (knd m = k)) 1463 : Nat) : Int) := by
  obtain ⟨k1, k2⟩ := h
  have hQ : ∀ m, (fun m => P m && decide (knd m = k)) m = true → P m = true := fun m q => by
    dsimp only at q
    rw [Bool.and_eq_true] at q
    exact q.1
  obtain ⟨Q, hQe⟩ : ∃ Q, Q = (fun m => P m && decide (knd m = k)) := ⟨_, rfl⟩
  rw [← hQe] at hQ ⊢
  have hQm : ∀ m, Q m = (P m && decide (knd m = k)) := fun m => by rw [hQe]
  have hle : ∀ n, cq Q n ≤ cq P n := by
    intro n
    induction n with
    | zero => exact Nat.le_refl _
    | succ n ih =>
      rw [cq_succ, cq_succ]
      by_cases q : Q n = true
      · rw [if_pos q, if_pos (hQ n q)]
        omega
      · rw [if_neg q]
        omega
  unfold f_Land_movesOfKind f_Land_movesOfKind_4
  apply wp_eq
  refine wp_for (cq P 1463) (fun j x => ∃ M, M ≤ 1463 ∧ cq P M = j ∧ x.1 = ((cq Q M : Nat) : Int) ∧ x.2 = (j : Int)) 0 _ (by omega) (by omega) (by exact ⟨0, by omega, rfl, rfl, rfl⟩) ?_ ?_
  · rintro j ⟨y1, y2⟩ _ hj ⟨M, M1, M2, rfl, rfl⟩
    obtain ⟨m, h1, h2, h3⟩ := cq_sur 1463 hj
    have hMm : M ≤ m := by
      by_cases q : m < M
      · have := cq_lt q h2
        omega
      · omega
    have e1 := cq_same hQ m hMm (by omega)
    have he : t (b + 1) j = ((ky m : Nat) : Int) := by rw [← h3]; exact (k2 m h1 h2).1
    have hb := hle M
    dsimp only
    unfold f_Land_movesOfKind_4b f_Land_movesOfKind_20
    rw [k1, if_neg (show ¬ ((cq P 1463 : Nat) : Int) ≤ (j : Int) by omega), gI_n (show j < 48 by omega), Option.bind_some, he, (e_part h1 t).1, Option.bind_some]
    have s1 : cq P (m + 1) = j + 1 := by rw [cq_succ, if_pos h2, h3]
    by_cases hk : knd m = k
    · have hq : Q m = true := by rw [hQm, h2, decide_eq_true hk]; rfl
      rw [if_pos (by omega), wp_some, gE_l]
      dsimp only
      rw [wI_s (by omega), wI_s (by omega)]
      refine ⟨m + 1, by omega, s1, ?_, rfl⟩
      rw [cq_succ, if_pos hq, ← e1]
    · have hq : ¬ Q m = true := by rw [hQm, decide_eq_false hk, Bool.and_false]; decide
      rw [if_neg (by omega), wp_some, gE_l]
      dsimp only
      rw [wI_s (by omega), Int.add_zero, wI_id (by omega) (by omega)]
      refine ⟨m + 1, by omega, s1, ?_, rfl⟩
      rw [cq_succ, if_neg hq, ← e1]
      rfl
  · rintro ⟨y1, y2⟩ ⟨M, M1, M2, rfl, rfl⟩
    have e1 := cq_same hQ 1463 M1 M2
    dsimp only
    unfold f_Land_movesOfKind_4b
    rw [k1, if_pos (Int.le_refl _), wp_some, gE_r, e1]
theorem fLd_c {A : zA} {s t w : kM} (h : fLd A s t) (h1 : ∀ z, z ≠ 116 → w z = t z) : fLd A w w := by
  obtain ⟨f1, f2, f3, f4, f5⟩ := h
  refine ⟨fun _ _ _ _ _ _ => rfl, fun _ _ => rfl, ?_, ?_, ?_⟩
  · rw [h1 100 (by decide)]; exact f3
  · rw [h1 85 (by decide)]; exact f4
  · rw [h1 102 (by decide), h1 103 (by decide)]; exact f5
theorem wp_M_can {A : zA} (hA : okA A) {s t : kM} (hM : MT A t) (hF : fLd A s t) (k : Nat) : wp (f_M_can_17 k 0 0 t) (fun r => r.1 = ((cq (fun m => PK A (2 * aN A) m && decide (knd m = k)) 1463 : Nat) : Int) ∧ ∀ z, z ≠ 116 → r.2 z = t z) := by
  obtain ⟨Q, hQe⟩ : ∃ Q, Q = (fun m => PK A (2 * aN A) m && decide (knd m = k)) := ⟨_, rfl⟩
  have hQm : ∀ m, Q m = (PK A (2 * aN A) m && decide (knd m = k)) := fun m => by rw [hQe]
  rw [← hQe]
  have hle : ∀ n, cq Q n ≤ n := by
    intro n
    induction n with
    | zero => exact Nat.le_refl _
    | succ n ih =>
      rw [cq_succ]
      split <;> omega
  unfold f_M_can_17
  refine wp_for 1463 (fun m x => x.1 = ((cq Q m : Nat) : Int) ∧ x.2.1 = (m : Int) ∧ ∀ z, z ≠ 116 → x.2.2 z = t z) 0 _ (by omega) (by omega) (by exact ⟨rfl, rfl, fun _ _ => rfl⟩) ?_ ?_
  · rintro m ⟨y1, y2, w⟩ _ hm ⟨rfl, rfl, q1⟩
    dsimp only at q1
    have hb := hle m
    have hMw : MT A w := MT_k hM (fun a h1 h2 => q1 a (by omega))
    have hFw := fLd_c hF q1
    dsimp only
    unfold f_M_can_17b f_M_can_31 f_M_can_32
    rw [if_neg (show ¬ (1463 : Int) ≤ (m : Int) by omega), e_kindOf, Option.bind_some]
    have no : ∀ w' : kM, (∀ z, z ≠ 116 → w' z = t z) → ¬ Q m = true → wp (some (Sum.inl (wI (((cq Q m : Nat) : Int) + 0), wI ((m : Int) + 1), w'))) (gE (fun x : Int × Int × kM => x.1 = ((cq Q (m + 1) : Nat) : Int) ∧ x.2.1 = ((m + 1 : Nat) : Int) ∧ ∀ z, z ≠ 116 → x.2.2 z = t z) (fun r : Int × kM => r.1 = ((cq Q 1463 : Nat) : Int) ∧ ∀ z, z ≠ 116 → r.2 z = t z)) := by
      intro w' hw' hq
      rw [wp_some, gE_l]
      dsimp only
      rw [wI_s (by omega), Int.add_zero, wI_id (by omega) (by omega), cq_succ, if_neg hq]
      exact ⟨rfl, rfl, hw'⟩
    by_cases hk : knd m = k
    · obtain ⟨⟨r, u⟩, f1, u1, u2, -⟩ := wp_canMove hA hMw hFw hm
      dsimp only at u1 u2
      have fu : ∀ z, z ≠ 116 → u z = t z := fun z hz => by rw [u1 z hz, q1 z hz]
      rw [if_pos (by omega), f1, Option.bind_some]
      dsimp only
      rw [u2]
      by_cases hc : PK A (2 * aN A) m = true
      · have hq : Q m = true := by rw [hQm, hc, decide_eq_true hk]; rfl
        rw [if_pos hc, if_neg (by decide), wp_some, gE_l]
        dsimp only
        rw [wI_s (by omega), wI_s (by omega), cq_succ, if_pos hq]
        exact ⟨rfl, rfl, fu⟩
      · have hq : ¬ Q m = true := by rw [hQm, Bool.eq_false_iff.mpr hc, Bool.false_and]; decide
        rw [if_neg hc, if_pos rfl]
        exact no u fu hq
    · have hq : ¬ Q m = true := by rw [hQm, decide_eq_false hk, Bool.and_false]; decide
      rw [if_neg (by omega)]
      exact no w q1 hq
  · rintro ⟨y1, y2, w⟩ ⟨rfl, rfl, q1⟩
    dsimp only at q1
    dsimp only
    unfold f_M_can_17b
    rw [if_pos (show (1463 : Int) ≤ ((1463 : Nat) : Int) by decide), wp_some, gE_r]
    exact ⟨rfl, q1⟩
section TOWN
variable {RC : zA → kM → Prop} {RU : Nat → kM → Prop}
theorem O_can (hC : hRC RC) (hU : hRU RU) (x : Int) : OB RC RU (f_KT_can x) (f_M_can x) := by
  intro s hs
  have hs' := hs
  obtain ⟨A, hA, hK, hM, -⟩ := hs'
  have hn := okB_n hA.1
  by_cases h0 : aR A = 0
  · refine ⟨-1, s, s, ?_, ?_, hs⟩
    · unfold f_KT_can
      rw [hK.1.1, if_pos (by omega)]
    · unfold f_M_can
      rw [e_M_isTown hM.1, if_neg (by omega)]
      rfl
  · by_cases hx : 1 ≤ x ∧ x ≤ 3
    · obtain ⟨k, rfl⟩ : ∃ k : Nat, x = (k : Int) := ⟨x.toNat, by omega⟩
      obtain ⟨u, e1, hu⟩ := wp_survey (b := 17) (b1 := 4) (Or.inl (by decide)) hA hK
      obtain ⟨f0, -, -, -, -, -, hL⟩ := hu
      have hMu : MT A u := MT_k hM (fun a h1 h2 => f0 a (by omega) (by omega) (by omega) (by omega))
      have h48 := PK_48 hA (Nat.le_refl (2 * aN A))
      obtain ⟨w, e2, hw⟩ := wp_fillsLand hA hMu
      have hMw : MT A w := MT_k hMu (fun a h1 h2 => hw.1 a (by omega) (by omega) (by omega) (by omega) (by omega))
      obtain ⟨⟨zv, w2⟩, e3, k1, k2⟩ := wp_M_can hA hMw hw k
      dsimp only at k1 k2
      refine ⟨((cq (fun m => PK A (2 * aN A) m && decide (knd m = k)) 1463 : Nat) : Int), u, w2, ?_, ?_, Rel_ld hC hU hs f0 (fun z z1 z2 z3 z4 z5 z6 => by rw [k2 z z6]; exact hw.1 z z1 z2 z3 z4 z5) (fun i hi => by rw [k2 85 (by decide)]; exact hw.2.1 i hi)⟩
      · unfold f_KT_can
        rw [hK.1.1, if_neg (show ¬ ((aR A : Nat) : Int) = 0 by omega), if_neg (by omega), if_pos (by omega), e1, Option.bind_some, e_movesOfKind hL (by omega), Option.bind_some]
      · unfold f_M_can
        rw [e_M_isTown hMu.1, if_pos (by omega), Option.bind_some, if_neg (by decide), e_M_in, if_pos hx, Option.bind_some, if_neg (by decide), e2, Option.bind_some, e3, k1]
    · refine ⟨-1, s, s, ?_, ?_, hs⟩
      · unfold f_KT_can
        rw [hK.1.1, if_neg (show ¬ ((aR A : Nat) : Int) = 0 by omega)]
        by_cases h1 : x < 1
        · rw [if_pos h1]
        · rw [if_neg h1, if_neg (by omega)]
      · unfold f_M_can
        rw [e_M_isTown hM.1, if_pos (by omega), Option.bind_some, if_neg (by decide), e_M_in, if_neg hx, Option.bind_some, if_pos rfl]
end TOWN
