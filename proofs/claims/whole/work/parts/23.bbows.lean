theorem wp_Bows_find {A : zA} (hA : okA A) {s : kM} (hK : KT 4 A s) : wp (f_Bows_find 4 s) (fun t => t 48 0 = ((rb A (aR A) + ra A (aR A) : Nat) : Int) ∧ ∀ j, j < aN A → t 49 j = ((bwA A j : Nat) : Int)) := by
  have hn := okB_n hA.1
  have hR := hA.1.1
  have hb0 := nb_le (ap A) 0 (aF A)
  have hb1 := nb_le (ap A) (aF A) (aN A)
  have hra : ∀ r, ra A r ≤ 2 := by
    intro r
    unfold ra
    split
    · omega
    · split <;> split <;> (try split) <;> omega
  unfold f_Bows_find
  rw [gLet_eq]
  unfold f_Bows_find_7
  refine wp_for (aR A) (fun r x => x.1 = ((ra A r : Nat) : Int) ∧ x.2.1 = (r : Int) ∧ (∀ z, z ≠ 48 → z ≠ 49 → x.2.2 z = s z) ∧ x.2.2 48 0 = ((rb A r : Nat) : Int) ∧ (0 < r → ∀ j, j < aF A → x.2.2 49 j = ((bwA A j : Nat) : Int)) ∧ (1 < r → ∀ j, aF A ≤ j → j < aN A → x.2.2 49 j = ((bwA A j : Nat) : Int))) 0 _ (by omega) (by omega) (by exact ⟨rfl, rfl, fun z z1 z2 => gU_n _ _ _ z1, (gUs s 48 0 0).trans rfl, fun h => by omega, fun h => by omega⟩) ?_ ?_
  · rintro r ⟨y1, y2, t⟩ _ hr ⟨rfl, rfl, q1, q2, q3, q4⟩
    dsimp only at q1 q2 q3 q4
    have hKt : KT 4 A t := KT_c hK (fun i hi => q1 _ (by omega) (by omega))
    have h4 : t 4 0 = aR A := hKt.1.1
    have hra' := hra r
    have hr01 : r = 0 ∨ r = 1 := by omega
    obtain ⟨a, e, hae, he, ea, ee, hab, hrb⟩ : ∃ a e : Nat, a ≤ e ∧ e ≤ aN A ∧ (if (r : Int) = 0 then 0 else (aF A : Int)) = a ∧ (if (r : Int) = 0 then (aF A : Int) else aN A) = e ∧ ((r = 0 ∧ a = 0 ∧ e = aF A) ∨ (r = 1 ∧ a = aF A ∧ e = aN A)) ∧ rb A r ≤ 22 := by
      rcases hr01 with rfl | rfl
      · exact ⟨0, aF A, by omega, by omega, rfl, rfl, Or.inl ⟨rfl, rfl, rfl⟩, by show 0 ≤ 22; omega⟩
      · exact ⟨aF A, aN A, by omega, by omega, rfl, rfl, Or.inr ⟨rfl, rfl, rfl⟩, by show nb (ap A) 0 (aF A) ≤ 22; omega⟩
    have key : ∀ d : Nat, (d = if a = e then 1 else 0) → wp (f_Bows_find_22 4 r ((ra A r : Nat) : Int) d t) (gE (fun x => x.1 = ((ra A (r + 1) : Nat) : Int) ∧ x.2.1 = ((r + 1 : Nat) : Int) ∧ (∀ z, z ≠ 48 → z ≠ 49 → x.2.2 z = s z) ∧ x.2.2 48 0 = ((rb A (r + 1) : Nat) : Int) ∧ (0 < r + 1 → ∀ j, j < aF A → x.2.2 49 j = ((bwA A j : Nat) : Int)) ∧ (1 < r + 1 → ∀ j, aF A ≤ j → j < aN A → x.2.2 49 j = ((bwA A j : Nat) : Int))) (fun t => t 48 0 = ((rb A (aR A) + ra A (aR A) : Nat) : Int) ∧ ∀ j, j < aN A → t 49 j = ((bwA A j : Nat) : Int))) := by
      intro d hd
      have hd1 : d ≤ 1 := by rw [hd]; split <;> omega
      have era : ra A (r + 1) = ra A r + d := by
        rw [hd]
        rcases hab with ⟨rfl, rfl, rfl⟩ | ⟨rfl, rfl, rfl⟩
        · unfold ra
          by_cases h : aF A = 0
          · simp [h]
          · simp [h, Ne.symm h]
        · unfold ra
          simp
      unfold f_Bows_find_22
      rw [e_roadStart hKt, e_roadEnd hKt, ea, ee, Option.bind_some, Option.bind_some, wp_bind]
      refine (wp_findOnRoad (b := 4) ⟨by decide, by decide⟩ hA.1 hKt.1.2.2.2.1 hae he hrb q2).mono ?_
      rintro w ⟨w1, w2, w3, w4⟩
      rw [wp_some, gE_l]
      dsimp only
      rw [wI_s (by omega), wI_id (by omega) (by omega), era]
      refine ⟨by omega, rfl, fun z z1 z2 => by rw [w4 z z1 z2, q1 z z1 z2], ?_, fun _ j hj => ?_, fun h1 j hj1 hj2 => ?_⟩
      · rw [w1]
        rcases hab with ⟨rfl, rfl, rfl⟩ | ⟨rfl, rfl, rfl⟩
        · show ((0 + nb (ap A) 0 (aF A) : Nat) : Int) = ((nb (ap A) 0 (aF A) : Nat) : Int)
          rw [Nat.zero_add]
        · rfl
      · rcases hab with ⟨rfl, rfl, rfl⟩ | ⟨rfl, rfl, rfl⟩
        · rw [w2 j (by omega) hj]
          unfold bwA
          rw [if_pos hj]
          rfl
        · rw [w3 j (Or.inl hj)]
          exact q3 (by omega) j hj
      · rcases hab with ⟨rfl, rfl, rfl⟩ | ⟨rfl, rfl, rfl⟩
        · omega
        · rw [w2 j hj1 hj2]
          unfold bwA
          rw [if_neg (by omega)]
          rfl
    simp only [f_Bows_find_7b, e_roadStart hKt, e_roadEnd hKt, ea, ee, Option.bind_some, wp_ite]
    rw [h4]
    refine ⟨fun c => by omega, fun _ => ⟨fun c => key 1 (by rw [if_pos (by omega)]), fun c => key 0 (by rw [if_neg (by omega)])⟩⟩
  · rintro ⟨y1, y2, t⟩ ⟨rfl, rfl, q1, q2, q3, q4⟩
    dsimp only at q1 q2 q3 q4
    have h4 : t 4 0 = aR A := by rw [q1 4 (by decide) (by decide)]; exact hK.1.1
    have hra' := hra (aR A)
    have hrb : rb A (aR A) ≤ 44 := by
      unfold rb
      split
      · omega
      · split <;> omega
    simp only [f_Bows_find_7b, wp_ite, wp_gLet, wp_some, gE_r]
    rw [h4]
    refine ⟨fun _ => ⟨?_, fun j hj => ?_⟩, fun c => absurd (Int.le_refl _) c⟩
    · rw [gUs, q2, wI_id (by omega) (by omega)]
      omega
    · rw [gUn _ _ _ (by decide)]
      by_cases h0 : aR A = 0
      · have := hA.2.1 h0
        omega
      · by_cases hj2 : j < aF A
        · exact q3 (by omega) j hj2
        · by_cases h1 : aR A ≤ 1
          · have := hA.2.2.1 h1
            omega
          · exact q4 (by omega) j (by omega) hj
