theorem wp_M_land {A : zA} {s t : kM} (hn : aN A ≤ 22) (h : fLd A s t) {x : Nat} : f_M_land_19 x 0 0 0 t = some (((if x = 0 then (FL A (2 * aN A)).length else if x = 1 then mxs A (FL A (2 * aN A)) else czs A x (FL A (2 * aN A)) : Nat) : Int), t) := by
  obtain ⟨-, -, -, h4, h5⟩ := h
  have hlen := FL_len A (2 * aN A)
  generalize FL A (2 * aN A) = l at h4 h5 hlen ⊢
  unfold f_M_land_19
  apply wp_eq
  refine wp_for l.length (fun k y => y.1 = ((mxs A (l.take k) : Nat) : Int) ∧ y.2.1 = ((czs A x (l.take k) : Nat) : Int) ∧ y.2.2 = (k : Int)) 0 _ (by omega) (by omega) (by exact ⟨rfl, rfl, rfl⟩) ?_ ?_
  · rintro k ⟨y1, y2, y3⟩ _ hk ⟨rfl, rfl, rfl⟩
    obtain ⟨z1, z2⟩ := h5 k hk
    have et : l.take (k + 1) = l.take k ++ [l[k]] := List.take_succ_eq_append_getElem hk
    have hc : czs A x (l.take k) ≤ 44 := by
      have := czs_le A x (l.take k)
      rw [List.length_take] at this
      omega
    have ik : gI 44 (k : Int) = some k := gI_n (by omega)
    have at35 : wp (f_M_land_35 x ((czs A x (l.take k) : Nat) : Int) k ((mxs A (l.take (k + 1)) : Nat) : Int) t) (gE (fun y => y.1 = ((mxs A (l.take (k + 1)) : Nat) : Int) ∧ y.2.1 = ((czs A x (l.take (k + 1)) : Nat) : Int) ∧ y.2.2 = ((k + 1 : Nat) : Int)) (fun r => r = (((if x = 0 then l.length else if x = 1 then mxs A l else czs A x l : Nat) : Int), t))) := by
      unfold f_M_land_35 f_M_land_46
      have e2 : czs A x (l.take (k + 1)) = czs A x (l.take k) + if sz A l[k] = x then 1 else 0 := by rw [et, czs_a]
      rw [ik, Option.bind_some, z1]
      by_cases hx : sz A l[k] = x
      · rw [if_pos hx] at e2
        rw [if_pos (by omega), wp_some, gE_l]
        dsimp only
        rw [wI_s (by omega), wI_s (by omega), e2]
        exact ⟨rfl, rfl, rfl⟩
      · rw [if_neg hx] at e2
        rw [if_neg (by omega), wp_some, gE_l]
        dsimp only
        rw [wI_s (by omega), Int.add_zero, wI_id (by omega) (by omega), e2]
        exact ⟨rfl, rfl, rfl⟩
    have e1 : mxs A (l.take (k + 1)) = ma (mxs A (l.take k)) (sz A l[k]) := by rw [et, mxs_a]
    dsimp only
    unfold f_M_land_19b
    rw [h4, if_neg (show ¬ (l.length : Int) ≤ (k : Int) by omega), ik, Option.bind_some, z1]
    unfold ma at e1
    by_cases hm : mxs A (l.take k) < sz A l[k]
    · rw [if_pos hm] at e1
      rw [if_neg (by omega), Option.bind_some, z1, ← e1]
      exact at35
    · rw [if_neg hm] at e1
      rw [if_pos (by omega), ← e1]
      exact at35
  · rintro ⟨y1, y2, y3⟩ ⟨rfl, rfl, rfl⟩
    rw [List.take_length]
    dsimp only
    unfold f_M_land_19b
    rw [h4, if_pos (Int.le_refl _)]
    by_cases x0 : x = 0
    · rw [if_pos (by omega), if_pos x0, wp_some, gE_r]
    · rw [if_neg (by omega), if_neg x0]
      by_cases x1 : x = 1
      · rw [if_pos (by omega), if_pos x1, wp_some, gE_r]
      · rw [if_neg (by omega), if_neg x1, wp_some, gE_r]
section TOWN
variable {RC : zA → kM → Prop} {RU : Nat → kM → Prop}
theorem Rel_ld (hC : hRC RC) (hU : hRU RU) {s u w : kM} (hs : Rel RC RU s) (h1 : frL 17 s u) (h2 : ∀ z, z ≠ 85 → z ≠ 100 → z ≠ 101 → z ≠ 102 → z ≠ 103 → z ≠ 116 → w z = u z) (h3 : ∀ i, i ≠ 20 → w 85 i = u 85 i) : Rel RC RU w := by
  refine Rel_fr hC hU hs (fun a x1 x2 => ?_) (fun i x1 x2 => ?_)
  · have n1 : a ≠ 100 := fun z => by subst z; cases x2
    have n2 : a ≠ 101 := fun z => by subst z; cases x2
    have n3 : a ≠ 102 := fun z => by subst z; cases x2
    have n4 : a ≠ 103 := fun z => by subst z; cases x2
    have n5 : a ≠ 116 := fun z => by subst z; cases x2
    have m1 : a ≠ 17 := fun z => by subst z; cases x2
    have m2 : a ≠ 18 := fun z => by subst z; cases x2
    have m3 : a ≠ 19 := fun z => by subst z; cases x2
    have m4 : a ≠ 20 := fun z => by subst z; cases x2
    rw [h2 a x1 n1 n2 n3 n4 n5, h1 a m1 m2 m3 m4]
  · rw [h3 i x2, h1 85 (by decide) (by decide) (by decide) (by decide)]
theorem O_land (hC : hRC RC) (hU : hRU RU) (x : Int) : OB RC RU (f_KT_land x) (f_M_land x) := by
  intro s hs
  have hs' := hs
  obtain ⟨A, hA, hK, hM, -⟩ := hs'
  have hn := okB_n hA.1
  by_cases h0 : aR A = 0
  · refine ⟨-1, s, s, ?_, ?_, hs⟩
    · unfold f_KT_land
      rw [hK.1.1, if_pos (by omega)]
    · unfold f_M_land
      rw [e_M_isTown hM.1, if_neg (by omega)]
      rfl
  · obtain ⟨u, e1, hu⟩ := wp_survey (b := 17) (b1 := 4) (Or.inl (by decide)) hA hK
    obtain ⟨f0, p0, p1, p2, p3, -, -⟩ := hu
    have hMu : MT A u := MT_k hM (fun a h1 h2 => f0 a (by omega) (by omega) (by omega) (by omega))
    have ek : f_KT_land x s = if x = 0 then some (u 17 0, u) else if x = 1 then some (u 17 1, u) else if x = 2 then some (u 17 2, u) else if x = 3 then some (u 17 3, u) else some (-1, u) := by
      unfold f_KT_land
      rw [hK.1.1, if_neg (show ¬ ((aR A : Nat) : Int) = 0 by omega), e1, Option.bind_some]
    by_cases hx : 0 ≤ x ∧ x ≤ 3
    · obtain ⟨w, e2, hw⟩ := wp_fillsLand hA hMu
      obtain ⟨k, rfl⟩ : ∃ k : Nat, x = (k : Int) := ⟨x.toNat, by omega⟩
      have em : f_M_land (k : Int) u = some (((if k = 0 then (FL A (2 * aN A)).length else if k = 1 then mxs A (FL A (2 * aN A)) else czs A k (FL A (2 * aN A)) : Nat) : Int), w) := by
        unfold f_M_land
        rw [e_M_isTown hMu.1, if_pos (by omega), Option.bind_some, if_neg (by decide), e_M_in, if_pos hx, Option.bind_some, if_neg (by decide), e2, Option.bind_some]
        exact wp_M_land hn.2 hw
      refine ⟨_, u, w, ?_, em, Rel_ld hC hU hs f0 (fun z z1 z2 z3 z4 z5 _ => hw.1 z z1 z2 z3 z4 z5) hw.2.1⟩
      rw [ek]
      have : k = 0 ∨ k = 1 ∨ k = 2 ∨ k = 3 := by omega
      rcases this with rfl | rfl | rfl | rfl
      · rw [if_pos rfl, p0]
        rfl
      · rw [if_neg (by decide), if_pos rfl, p1]
        rfl
      · rw [if_neg (by decide), if_neg (by decide), if_pos (by decide), p2]
        rfl
      · rw [if_neg (by decide), if_neg (by decide), if_neg (by decide), if_pos (by decide), p3]
        rfl
    · refine ⟨-1, u, u, ?_, ?_, Rel_ld hC hU hs f0 (fun _ _ _ _ _ _ _ => rfl) (fun _ _ => rfl)⟩
      · rw [ek, if_neg (by omega), if_neg (by omega), if_neg (by omega), if_neg (by omega)]
      · unfold f_M_land
        rw [e_M_isTown hMu.1, if_pos (by omega), Option.bind_some, if_neg (by decide), e_M_in, if_neg hx, Option.bind_some, if_pos rfl]
end TOWN
