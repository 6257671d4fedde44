/-! the reference's rings -/
def AL (N : Nat) (lb : Nat → Nat) (f : Nat → Int) : Prop := ∀ q, q < N → f q = ((lb q : Nat) : Int)
theorem wp_joins {A : zA} (hA : okA A) {s : kM} (hM : MT A s) {lb : Nat → Nat} (hL : AL (aN A) lb (s 119)) {a b : Nat} (ha : a < aN A) (hb : b < aN A) : wp (f_M_joins (a : Int) (b : Int) s) (fun t => (∀ z, z ≠ 119 → t z = s z) ∧ AL (aN A) (jn lb a b) (t 119)) := by
  have hn := okB_n hA.1
  unfold f_M_joins
  rw [gI_n (show a < 22 by omega), Option.bind_some, gI_n (show b < 22 by omega), Option.bind_some, hL a ha, hL b hb]
  unfold f_M_joins_12
  refine wp_for (aN A) (fun k x => x.1 = (k : Int) ∧ (∀ z, z ≠ 119 → x.2 z = s z) ∧ (∀ q, q < k → x.2 119 q = ((jn lb a b q : Nat) : Int)) ∧ ∀ q, k ≤ q → q < aN A → x.2 119 q = ((lb q : Nat) : Int)) 0 _ (by omega) (by omega) (by exact ⟨rfl, fun _ _ => rfl, fun q hq => by omega, fun q _ hq => hL q hq⟩) ?_ ?_
  · rintro k ⟨y1, t⟩ _ hk ⟨rfl, q1, q2, q3⟩
    dsimp only at q1 q2 q3
    have hMt : MT A t := MT_k hM (fun z h1 h2 => q1 z (by omega))
    have hlk := q3 k (Nat.le_refl k) hk
    have hi : gI 22 (k : Int) = some k := gI_n (by omega)
    have key : ∀ v : Int, v = ((jn lb a b k : Nat) : Int) → wp (f_M_joins_31 ((lb a : Nat) : Int) ((lb b : Nat) : Int) (k : Int) (k : Int) v t) (gE (fun x => x.1 = ((k + 1 : Nat) : Int) ∧ (∀ z, z ≠ 119 → x.2 z = s z) ∧ (∀ q, q < k + 1 → x.2 119 q = ((jn lb a b q : Nat) : Int)) ∧ ∀ q, k + 1 ≤ q → q < aN A → x.2 119 q = ((lb q : Nat) : Int)) (fun t => (∀ z, z ≠ 119 → t z = s z) ∧ AL (aN A) (jn lb a b) (t 119))) := by
      intro v hv
      unfold f_M_joins_31
      rw [hi, Option.bind_some, gLet_eq, wI_s (by omega), wp_some, gE_l]
      refine ⟨rfl, fun z hz => by dsimp only; rw [gU_n _ _ _ hz]; exact q1 z hz, fun q hq => ?_, fun q h1 h2 => ?_⟩
      · dsimp only
        by_cases hqk : q = k
        · rw [hqk, gUs, hv]
        · rw [gUo _ _ _ hqk]
          exact q2 q (by omega)
      · dsimp only
        rw [gUo _ _ _ (show q ≠ k by omega)]
        exact q3 q (by omega) h2
    dsimp only
    unfold f_M_joins_12b
    rw [e_M_places hA.1 hMt.1, Option.bind_some, if_neg (by omega), hi, Option.bind_some, Option.bind_some, hlk]
    by_cases hc : lb k = lb b
    · rw [if_pos (by rw [hc])]
      exact key _ (by unfold jn; rw [if_pos hc])
    · rw [if_neg (by omega)]
      exact key _ (by unfold jn; rw [if_neg hc])
  · rintro ⟨y1, t⟩ ⟨rfl, q1, q2, q3⟩
    dsimp only at q1 q2 q3
    have hMt : MT A t := MT_k hM (fun z h1 h2 => q1 z (by omega))
    dsimp only
    unfold f_M_joins_12b
    rw [e_M_places hA.1 hMt.1, Option.bind_some, if_pos (Int.le_refl _), wp_some, gE_r]
    exact ⟨q1, q2⟩
theorem cq_le (P : Nat → Bool) : ∀ n, cq P n ≤ n
  | 0 => Nat.le_refl 0
  | n + 1 => by
    have := cq_le P n
    rw [cq_succ]
    split <;> omega
theorem wI_nn {x : Nat} (h : x < 2147483648) : wI ((x : Int) + 0) = ((x + 0 : Nat) : Int) := by rw [Int.add_zero, Nat.add_zero]; exact wI_id (by omega) (by omega)
theorem e_ones {S : Nat} (hS : S < 2048) (s : kM) : f_M_ones (S : Int) s = some ((oc S 11 : Nat) : Int) := by
  unfold f_M_ones f_M_ones_4
  apply wp_eq
  refine wp_for 11 (fun k x => x.1 = ((oc S k : Nat) : Int) ∧ x.2 = (k : Int)) 0 _ (by omega) (by omega) (by exact ⟨rfl, rfl⟩) ?_ ?_
  · rintro k ⟨y1, y2⟩ _ hk ⟨rfl, rfl⟩
    have := oc_le S k
    dsimp only
    unfold f_M_ones_4b
    rw [if_neg (by omega), kbit (by omega) (by omega), wI_s (by omega), wp_some, gE_l]
    refine ⟨?_, rfl⟩
    dsimp only
    rw [oc_succ]
    split
    · exact wI_add2 (b := 1) (by omega)
    · exact wI_add2 (b := 0) (by omega)
  · rintro ⟨y1, y2⟩ ⟨rfl, rfl⟩
    dsimp only
    unfold f_M_ones_4b
    rw [if_pos (by decide), wp_some, gE_r]
theorem wp_rings99 {A : zA} (hA : okA A) (hR : 1 ≤ aR A) {s : kM} (hM : MT A s) {lb : Nat → Nat} (hL : AL (aN A) lb (s 119)) : f_M_rings_99 0 0 s = some (((aln A + cls lb (aN A) : Nat) : Int), s) := by
  have hn := okB_n hA.1
  have hr2 := hA.1.1
  unfold f_M_rings_99
  apply wp_eq
  refine wp_for (aN A) (fun k x => x.1 = ((cls lb k : Nat) : Int) ∧ x.2 = (k : Int)) 0 _ (by omega) (by omega) (by exact ⟨rfl, rfl⟩) ?_ ?_
  · rintro k ⟨y1, y2⟩ _ hk ⟨rfl, rfl⟩
    have hc : cls lb k ≤ k := cq_le _ _
    have hcs : cls lb (k + 1) = cls lb k + (if lb k = k then 1 else 0) := by
      show cq _ (k + 1) = cq _ k + _
      rw [cq_succ]
      by_cases h : lb k = k
      · rw [if_pos h, if_pos (decide_eq_true h)]
      · rw [if_neg h, if_neg (by rw [decide_eq_true_eq]; exact h)]
    dsimp only
    unfold f_M_rings_99b f_M_rings_113
    rw [e_M_places hA.1 hM.1, Option.bind_some, if_neg (by omega), gI_n (show k < 22 by omega), Option.bind_some, hL k hk]
    by_cases h : lb k = k
    · rw [if_pos (by rw [h]), wp_some, gE_l, wI_s (by omega), wI_s (by omega), hcs, if_pos h]
      exact ⟨rfl, rfl⟩
    · rw [if_neg (by omega), wp_some, gE_l, wI_s (by omega), hcs, if_neg h]
      have e0 : wI (((cls lb k : Nat) : Int) + 0) = ((cls lb k + 0 : Nat) : Int) := wI_nn (by omega)
      rw [e0]
      exact ⟨rfl, rfl⟩
  · rintro ⟨y1, y2⟩ ⟨rfl, rfl⟩
    have hc : cls lb (aN A) ≤ aN A := cq_le _ _
    dsimp only
    unfold f_M_rings_99b f_M_rings_126
    rw [e_M_places hA.1 hM.1, Option.bind_some, if_pos (Int.le_refl _), hM.1.1, hM.1.2.1, hM.1.2.2.1]
    have W : ∀ x y z : Nat, x ≤ 22 → y ≤ 1 → z ≤ 1 → wI (wI (((x : Nat) : Int) + ((y : Nat) : Int)) + ((z : Nat) : Int)) = ((x + y + z : Nat) : Int) := fun x y z h1 h2 h3 => by rw [wI_add2 (by omega), wI_add2 (by omega)]
    have W00 := W (cls lb (aN A)) 0 0 (by omega) (by omega) (by omega)
    have W01 := W (cls lb (aN A)) 0 1 (by omega) (by omega) (by omega)
    have W10 := W (cls lb (aN A)) 1 0 (by omega) (by omega) (by omega)
    have W11 := W (cls lb (aN A)) 1 1 (by omega) (by omega) (by omega)
    clear W
    rw [show ((0 : Nat) : Int) = 0 from rfl] at W00 W01 W10
    rw [show ((1 : Nat) : Int) = 1 from rfl] at W01 W10 W11
    unfold aln
    by_cases h1 : aF A = 0
    · by_cases h2 : aR A = 2 ∧ aF A = aN A
      · rw [if_pos (show ((aF A : Nat) : Int) = 0 by clear W00 W01 W10 W11; omega), if_pos (show ((aR A : Nat) : Int) = 2 by clear W00 W01 W10 W11; omega), if_pos (show ((aN A : Nat) : Int) - ((aF A : Nat) : Int) = 0 by clear W00 W01 W10 W11; omega), if_pos ⟨hR, h1⟩, if_pos (show 2 ≤ aR A ∧ aF A = aN A by clear W00 W01 W10 W11; omega), Option.map_some, wp_some, gE_r, W11]
        clear W00 W01 W10 W11
        congr 2
        omega
      · have e : ∀ v : Int × kM, (if ((aR A : Nat) : Int) = 2 then (if ((aN A : Nat) : Int) - ((aF A : Nat) : Int) = 0 then some v else some (wI (wI (((cls lb (aN A) : Nat) : Int) + 1) + 0), s)) else some (wI (wI (((cls lb (aN A) : Nat) : Int) + 1) + 0), s)) = some (wI (wI (((cls lb (aN A) : Nat) : Int) + 1) + 0), s) := fun v => by
          clear W00 W01 W10 W11
          by_cases q1 : aR A = 2
          · rw [if_pos (by omega), if_neg (by omega)]
          · rw [if_neg (by omega)]
        rw [if_pos (show ((aF A : Nat) : Int) = 0 by clear W00 W01 W10 W11; omega), e, if_pos ⟨hR, h1⟩, if_neg (show ¬ (2 ≤ aR A ∧ aF A = aN A) by clear W00 W01 W10 W11; omega), Option.map_some, wp_some, gE_r, W10]
        clear W00 W01 W10 W11 e
        congr 2
        omega
    · by_cases h2 : aR A = 2 ∧ aF A = aN A
      · rw [if_neg (show ¬ ((aF A : Nat) : Int) = 0 by clear W00 W01 W10 W11; omega), if_pos (show ((aR A : Nat) : Int) = 2 by clear W00 W01 W10 W11; omega), if_pos (show ((aN A : Nat) : Int) - ((aF A : Nat) : Int) = 0 by clear W00 W01 W10 W11; omega), if_neg (fun q => h1 q.2), if_pos (show 2 ≤ aR A ∧ aF A = aN A by clear W00 W01 W10 W11; omega), Option.map_some, wp_some, gE_r, W01]
        clear W00 W01 W10 W11
        congr 2
        omega
      · have e : ∀ v : Int × kM, (if ((aR A : Nat) : Int) = 2 then (if ((aN A : Nat) : Int) - ((aF A : Nat) : Int) = 0 then some v else some (wI (wI (((cls lb (aN A) : Nat) : Int) + 0) + 0), s)) else some (wI (wI (((cls lb (aN A) : Nat) : Int) + 0) + 0), s)) = some (wI (wI (((cls lb (aN A) : Nat) : Int) + 0) + 0), s) := fun v => by
          clear W00 W01 W10 W11
          by_cases q1 : aR A = 2
          · rw [if_pos (by omega), if_neg (by omega)]
          · rw [if_neg (by omega)]
        rw [if_neg (show ¬ ((aF A : Nat) : Int) = 0 by clear W00 W01 W10 W11; omega), e, if_neg (fun q => h1 q.2), if_neg (show ¬ (2 ≤ aR A ∧ aF A = aN A) by clear W00 W01 W10 W11; omega), Option.map_some, wp_some, gE_r, W00]
        clear W00 W01 W10 W11 e
        congr 2
        omega
