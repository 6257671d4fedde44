theorem bbc_N {A : zA} (hA : okA A) : bbc A (aN A) + (if 0 < aR A ∧ aF A = 0 then 1 else 0) + (if 1 < aR A ∧ aF A = aN A then 1 else 0) = rb A (aR A) + ra A (aR A) := by
  have hn := okB_n hA.1
  have hR := hA.1.1
  have e1 := bbc_1 hA.1 (aN A - aF A) (by omega)
  rw [show aF A + (aN A - aF A) = aN A by omega] at e1
  have hn1 : (if aN A - aF A = 0 then 0 else if uc (ap A) (aF A) (aN A - aF A) = 0 then 1 else uc (ap A) (aF A) (aN A - aF A)) = nb (ap A) (aF A) (aN A) := by
    unfold nb
    by_cases h : aF A < aN A
    · rw [if_neg (by omega), if_pos h]
    · rw [if_pos (by omega), if_neg h]
  rw [hn1] at e1
  have z1 : aF A = aN A → nb (ap A) (aF A) (aN A) = 0 := fun h => by unfold nb; rw [if_neg (by omega)]
  have z0 : aF A = 0 → nb (ap A) 0 (aF A) = 0 := fun h => by unfold nb; rw [if_neg (by omega)]
  rw [e1]
  unfold rb ra
  have h3 : aR A = 0 ∨ aR A = 1 ∨ aR A = 2 := by omega
  rcases h3 with h | h | h
  · have hN := hA.2.1 h
    rw [h, z0 (by omega), z1 (by omega)]
    simp
  · have hF := hA.2.2.1 (by omega)
    rw [h, z1 hF]
    simp
  · rw [h]
    simp
    omega
def fbP (A : zA) (s t : kM) : Prop := (∀ z, z ≠ 85 → z ≠ 114 → z ≠ 115 → t z = s z) ∧ (∀ i, i ≠ 44 → t 85 i = s 85 i) ∧ t 85 44 = ((rb A (aR A) + ra A (aR A) : Nat) : Int) ∧ ∀ j, j < aN A → t 114 j = ((bwA A j : Nat) : Int)
theorem wp_fb97 {A : zA} (hA : okA A) {s g : kM} (hM : MR A s) (g1 : ∀ z, z ≠ 85 → z ≠ 114 → z ≠ 115 → g z = s z) (g2 : ∀ i, i ≠ 44 → g 85 i = s 85 i) (g4 : ∀ j, j < aN A → g 114 j = ((bwA A j : Nat) : Int)) {B y : Nat} (hB : B ≤ 22) (hy : y ≤ 1) (hsum : B + y + (if 1 < aR A ∧ aF A = aN A then 1 else 0) = rb A (aR A) + ra A (aR A)) : wp (f_M_fillsBows_97 B y g) (fun t => fbP A s t) := by
  have hn := okB_n hA.1
  have g86 : g 86 = s 86 := g1 86 (by decide) (by decide) (by decide)
  have last : ∀ d : Nat, d ≤ 1 → B + y + d = rb A (aR A) + ra A (aR A) → wp (f_M_fillsBows_116 ((B + y : Nat) : Int) d (gU g 85 44 ((B + y : Nat) : Int))) (fun t => fbP A s t) := by
    intro d hd he
    have hw : wI (((B + y : Nat) : Int) + d) = ((B + y + d : Nat) : Int) := by rw [wI_id (by omega) (by omega)]; omega
    unfold f_M_fillsBows_116
    rw [hw, gLet_eq, wp_some]
    clear hw
    refine ⟨fun z z1 z2 z3 => by rw [gU_n _ _ _ z1, gU_n _ _ _ z1]; exact g1 z z1 z2 z3, fun i hi => by rw [gUo _ _ _ hi, gUo _ _ _ hi]; exact g2 i hi, by rw [gUs, he], fun j hj => by rw [gUn _ _ _ (by decide), gUn _ _ _ (by decide)]; exact g4 j hj⟩
  have hw : wI ((B : Int) + y) = ((B + y : Nat) : Int) := by rw [wI_id (by omega) (by omega)]; omega
  unfold f_M_fillsBows_97 f_M_fillsBows_115
  rw [hw, gLet_eq]
  clear hw
  rw [gUs, gUn _ _ _ (by decide), gUn _ _ _ (by decide), g86, hM.1, hM.2.2.1]
  by_cases h1 : (aR A : Int) ≤ 1
  · rw [if_pos h1]
    exact last 0 (by omega) (by rw [← hsum, if_neg (fun q => by omega)])
  · rw [if_neg h1]
    by_cases h2 : (aN A : Int) - aF A = 0
    · rw [if_pos h2]
      exact last 1 (by omega) (by rw [← hsum, if_pos ⟨by omega, by omega⟩])
    · rw [if_neg h2]
      exact last 0 (by omega) (by rw [← hsum, if_neg (fun q => h2 (by omega))])
theorem wp_fillsBows {A : zA} (hA : okA A) {s : kM} (hM : MR A s) : wp (f_M_fillsBows s) (fun t => fbP A s t) := by
  have hn := okB_n hA.1
  have hbl := bbc_le A (aN A)
  -- the second half
  have half : ∀ g : kM, fbI A s (aN A) g → wp (f_M_fillsBows_54 0 g) (fun t => fbP A s t) := by
    rintro g ⟨g1, g2, g3, g4⟩
    unfold f_M_fillsBows_54
    refine wp_for (aN A) (fun q x => x.1 = (q : Int) ∧ (∀ z, z ≠ 114 → x.2 z = g z) ∧ ∀ j, j < q → x.2 114 j = ((bwA A j : Nat) : Int)) 0 _ (by omega) (by omega) (by exact ⟨rfl, fun _ _ => rfl, fun j hj => by omega⟩) ?_ ?_
    · rintro q ⟨y, t⟩ _ hq ⟨rfl, q1, q2⟩
      dsimp only at q1 q2
      have hMt : MR A t := by
        unfold MR at hM ⊢
        rw [q1 86 (by decide), q1 87 (by decide), q1 88 (by decide), q1 89 (by decide), g1 86 (by decide) (by decide), g1 87 (by decide) (by decide), g1 88 (by decide) (by decide), g1 89 (by decide) (by decide)]
        exact hM
      have nle : ¬ (aN A : Int) ≤ (q : Int) := by omega
      have hql : q < 2147483647 := by omega
      have q22 : gI 22 (q : Int) = some q := gI_n (by omega)
      dsimp only
      unfold f_M_fillsBows_54b
      rw [e_M_places hA.1 hMt, Option.bind_some, if_neg nle]
      unfold f_M_fillsBows_60
      refine wp_gL (fun n z => ∃ x : Nat, x < aN A ∧ z = (x : Int) ∧ bm A x = n ∧ bwA A x = bwA A q) ?_ gF (bm A q) (q : Int) ⟨q, hq, rfl, rfl, rfl⟩ ?_
      · rintro n z ⟨x, hx, rfl, hbm, hbw⟩
        have x23 : gI 23 (x : Int) = some x := gI_n (by omega)
        have e115 : t 115 x = bgA A x := by rw [q1 115 (by decide)]; exact g4 x hx
        unfold f_M_fillsBows_60b
        rw [x23, Option.bind_some, e115]
        by_cases hb : bgA A x = -1
        · obtain ⟨b1, b2, b3⟩ := bg_back hA.1 hx hb
          rw [if_pos hb, e_M_ahead hA.1 hMt hx, Option.bind_some, wp_some, gE_l]
          exact ⟨bm A (pv (aF A) (aN A) x), by omega, _, b1, rfl, rfl, b2.trans hbw⟩
        · have hbb := bg_bw hA.1 hx hb
          rw [if_neg hb, Option.bind_some, q22, Option.bind_some, gLet_eq, wp_some, gE_r, gE_l]
          dsimp only
          rw [wI_s hql]
          refine ⟨rfl, fun z hz => by rw [gU_n _ _ _ hz]; exact q1 z hz, fun j hj => ?_⟩
          by_cases hjq : j = q
          · rw [hjq, gUs, e115, hbb, hbw]
          · rw [gUo _ _ _ hjq]
            exact q2 j (by omega)
      · show bm A q < 4096
        obtain ⟨k1, k2, k3⟩ := rAE hA.1 hq
        unfold bm
        split <;> omega
    · rintro ⟨y, t⟩ ⟨rfl, q1, q2⟩
      dsimp only at q1 q2
      have hMt : MR A t := by
        unfold MR at hM ⊢
        rw [q1 86 (by decide), q1 87 (by decide), q1 88 (by decide), q1 89 (by decide), g1 86 (by decide) (by decide), g1 87 (by decide) (by decide), g1 88 (by decide) (by decide), g1 89 (by decide) (by decide)]
        exact hM
      have t1 : ∀ z, z ≠ 85 → z ≠ 114 → z ≠ 115 → t z = s z := fun z z1 z2 z3 => by rw [q1 z z2, g1 z z1 z3]
      have t2 : ∀ i, i ≠ 44 → t 85 i = s 85 i := fun i hi => by rw [q1 85 (by decide), g2 i hi]
      have t3 : t 85 44 = ((bbc A (aN A) : Nat) : Int) := by rw [q1 85 (by decide)]; exact g3
      have hsum := bbc_N hA
      dsimp only
      unfold f_M_fillsBows_54b f_M_fillsBows_96
      rw [e_M_places hA.1 hMt, Option.bind_some, if_pos (Int.le_refl _), hMt.1, hMt.2.1, t3]
      by_cases hR : (aR A : Int) ≤ 0
      · rw [if_pos hR, wp_map]
        exact wp_fb97 hA hM t1 t2 q2 (B := bbc A (aN A)) (y := 0) (by omega) (by omega) (by rw [← hsum, if_neg (fun q : 0 < aR A ∧ aF A = 0 => by omega)])
      · rw [if_neg hR]
        by_cases hF : (aF A : Int) = 0
        · rw [if_pos hF, wp_map]
          exact wp_fb97 hA hM t1 t2 q2 (B := bbc A (aN A)) (y := 1) (by omega) (by omega) (by rw [← hsum, if_pos (show 0 < aR A ∧ aF A = 0 from ⟨by omega, by omega⟩)])
        · rw [if_neg hF, wp_map]
          exact wp_fb97 hA hM t1 t2 q2 (B := bbc A (aN A)) (y := 0) (by omega) (by omega) (by rw [← hsum, if_neg (fun q : 0 < aR A ∧ aF A = 0 => hF (by omega))])
  unfold f_M_fillsBows
  rw [gLet_eq]
  unfold f_M_fillsBows_5
  refine wp_for (aN A) (fun q x => x.1 = (q : Int) ∧ fbI A s q x.2) 0 _ (by omega) (by omega) (by exact ⟨rfl, fun z z1 z2 => gU_n _ _ _ z1, fun i hi => gUo s 85 0 hi, (gUs s 85 44 0).trans rfl, fun j hj => by omega⟩) ?_ ?_
  · rintro q ⟨y, t⟩ _ hq ⟨rfl, hI⟩
    refine (wp_fb1 hA hM hq hI).mono ?_
    intro r hr
    cases r with
    | inl w => exact hr
    | inr w => exact hr.elim
  · rintro ⟨y, t⟩ ⟨rfl, hI⟩
    dsimp only at hI
    have hMt : MR A t := by
      unfold MR at hM ⊢
      rw [hI.1 86 (by decide) (by decide), hI.1 87 (by decide) (by decide), hI.1 88 (by decide) (by decide), hI.1 89 (by decide) (by decide)]
      exact hM
    dsimp only
    unfold f_M_fillsBows_5b
    rw [e_M_places hA.1 hMt, Option.bind_some, if_pos (Int.le_refl _), wp_map]
    exact half t hI
