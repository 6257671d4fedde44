theorem wp_fill {A : zA} (hA : okA A) {s : kM} (hK : KT 4 A s) : wp (f_Bows_fill 4 s) (fun t => (∀ z, z ≠ 48 → z ≠ 49 → z ≠ 50 → t z = s z) ∧ t 48 0 = ((nbw A : Nat) : Int) ∧ t 48 3 = ((rw_ A 11 : Nat) : Int) ∧ ∀ j, j < 143 → t 50 j = mxf A 11 j) := by
  have hn := okB_n hA.1
  have h13 := nbw_13 hA.1
  obtain ⟨t, e1, k1, k2⟩ := wp_Bows_find hA hK
  have fr : ∀ z, z ≠ 48 → z ≠ 49 → t z = s z := fun z z1 z2 => w_Bows_find 4 s t e1 z (by simp [W_Bows_find]; omega)
  obtain ⟨g, hg⟩ : ∃ g, g = gU (gA t 50 (kfill 0 143 (t 50))) 48 3 0 := ⟨_, rfl⟩
  have g0 : ∀ z, z ≠ 48 → z ≠ 49 → z ≠ 50 → g z = s z := fun z z1 z2 z3 => by rw [hg, gU_n _ _ _ z1, gAn _ _ z3]; exact fr z z1 z2
  have g1 : g 48 0 = ((nbw A : Nat) : Int) := by rw [hg, gUo _ _ _ (by decide), gAn _ _ (by decide)]; exact k1
  have g2 : g 48 3 = 0 := by rw [hg, gUs]
  have g3 : ∀ j, j < 143 → g 50 j = 0 := fun j hj => by rw [hg, gUn _ _ _ (by decide), gA_s]; unfold kfill; rw [if_pos hj]
  have g4 : ∀ j, j < aN A → g 49 j = ((bwA A j : Nat) : Int) := fun j hj => by rw [hg, gUn _ _ _ (by decide), gAn _ _ (by decide)]; exact k2 j hj
  unfold f_Bows_fill
  rw [e1, Option.bind_some, e_Arrays_fill_JJ _ _ _ _ (by decide), Option.bind_some, gLet_eq, ← hg]
  clear hg e1 k1 k2 fr
  unfold f_Bows_fill_12
  refine wp_for 11 (fun b x => x.1 = (b : Int) ∧ (∀ z, z ≠ 48 → z ≠ 50 → x.2 z = g z) ∧ x.2 48 0 = g 48 0 ∧ x.2 48 3 = ((rw_ A b : Nat) : Int) ∧ ∀ j, j < 143 → x.2 50 j = mxf A b j) 0 _ (by omega) (by omega) (by exact ⟨rfl, fun _ _ _ => rfl, rfl, g2, g3⟩) ?_ ?_
  · rintro b ⟨y, w⟩ _ hb ⟨rfl, q1, q2, q3, q4⟩
    dsimp only at q1 q2 q3 q4
    have hKw : KT 4 A w := KT_c hK (fun i hi => by rw [q1 _ (by omega) (by omega), g0 _ (by omega) (by omega) (by omega)])
    have n11 : ¬ (11 : Int) ≤ (b : Int) := by omega
    have hbl : b < 2147483647 := by omega
    have hrl := rw_le A b
    dsimp only
    unfold f_Bows_fill_12b
    rw [if_neg n11, e_has hA hKw, Option.bind_some, Int.toNat_natCast]
    by_cases hp : pb A b = true
    · obtain ⟨h1, h2, h3, h4⟩ := oA_lt hA hp
      have h5 := pv_lt hA.1 h4
      have b1 : bwA A (oA A b) < 13 := by have := bwA_lt hA h2; omega
      have b2 : bwA A (uA A b) < 13 := by have := bwA_lt hA h4; omega
      have b3 : bwA A (pv (aF A) (aN A) (uA A b)) < 13 := by have := bwA_lt hA h5; omega
      have i1 : gI 22 ((oA A b : Nat) : Int) = some (oA A b) := gI_n (by omega)
      have i2 : gI 22 ((uA A b : Nat) : Int) = some (uA A b) := gI_n (by omega)
      have i3 : gI 22 ((pv (aF A) (aN A) (uA A b) : Nat) : Int) = some (pv (aF A) (aN A) (uA A b)) := gI_n (by omega)
      have w49 : w 49 = g 49 := q1 49 (by decide) (by decide)
      have w8 : ∀ j, j < aN A → w (4 + 4) j = ((pv (aF A) (aN A) j : Nat) : Int) := hKw.2.2.2.2
      have hr11 : rw_ A b < 11 := by omega
      have key : ∀ G : kM, (∀ z, z ≠ 50 → G z = w z) → G 50 = add3 (w 50) (13 * rw_ A b + bwA A (oA A b)) (13 * rw_ A b + bwA A (uA A b)) (13 * rw_ A b + bwA A (pv (aF A) (aN A) (uA A b))) → wp (f_Bows_fill_55 4 b (gU G 48 3 (wI (G 48 3 + 1)))) (gE (fun x => x.1 = ((b + 1 : Nat) : Int) ∧ (∀ z, z ≠ 48 → z ≠ 50 → x.2 z = g z) ∧ x.2 48 0 = g 48 0 ∧ x.2 48 3 = ((rw_ A (b + 1) : Nat) : Int) ∧ ∀ j, j < 143 → x.2 50 j = mxf A (b + 1) j) (fun t => (∀ z, z ≠ 48 → z ≠ 49 → z ≠ 50 → t z = s z) ∧ t 48 0 = ((nbw A : Nat) : Int) ∧ t 48 3 = ((rw_ A 11 : Nat) : Int) ∧ ∀ j, j < 143 → t 50 j = mxf A 11 j)) := by
        intro G G1 G2
        have G48 : G 48 = w 48 := G1 48 (by decide)
        unfold f_Bows_fill_55
        rw [wp_some, gE_l]
        dsimp only
        rw [wI_s hbl, G48, q3, wI_s (by omega)]
        refine ⟨rfl, fun z z1 z2 => by rw [gU_n _ _ _ z1, G1 z z2]; exact q1 z z1 z2, by rw [gUo _ _ _ (by decide), G48]; exact q2, by rw [gUs, rw_s, if_pos hp], fun j hj => ?_⟩
        rw [gUn _ _ _ (by decide), G2, mxf_s, if_pos hp]
        exact add3_c (f := w 50) (g := mxf A b) (fun j => j < 143) (by omega) (by omega) (by omega) q4 j hj
      rw [if_pos (show 0 ≤ (b : Int) ∧ (b : Int) < 11 ∧ pb A b = true from ⟨by omega, by omega, hp⟩), if_neg (show ¬ (1 : Int) = 0 by decide), e_underAt hKw hb, Option.bind_some, e_overAt hKw hb, Option.bind_some, h1, h3, i1, Option.bind_some, w49, g4 _ h2, e_addTo hr11 b1 q3, Option.bind_some, i2, Option.bind_some, gUn _ _ _ (by decide), w49, g4 _ h4, e_addTo hr11 b2 (by rw [gUn _ _ _ (by decide)]; exact q3), Option.bind_some, Option.bind_some, gUn _ _ _ (by decide), gUn _ _ _ (by decide), w8 _ h4, i3, Option.bind_some, gUn _ _ _ (by decide), gUn _ _ _ (by decide), w49, g4 _ h5, e_addTo hr11 b3 (by rw [gUn _ _ _ (by decide), gUn _ _ _ (by decide)]; exact q3), Option.bind_some, gLet_eq]
      exact key _ (fun z hz => by rw [gU_n _ _ _ hz, gU_n _ _ _ hz, gU_n _ _ _ hz]) (by rw [gU_s, gU_s, gU_s]; rfl)
    · rw [if_neg (show ¬ (0 ≤ (b : Int) ∧ (b : Int) < 11 ∧ pb A b = true) from fun q => hp q.2.2), if_pos rfl]
      unfold f_Bows_fill_55
      rw [wp_some, gE_l]
      dsimp only
      rw [wI_s hbl, rw_s, mxf_s, if_neg hp, if_neg hp]
      exact ⟨rfl, q1, q2, q3, q4⟩
  · rintro ⟨y, w⟩ ⟨rfl, q1, q2, q3, q4⟩
    dsimp only at q1 q2 q3 q4
    dsimp only
    unfold f_Bows_fill_12b
    rw [if_pos (show (11 : Int) ≤ ((11 : Nat) : Int) by decide), wp_some, gE_r]
    exact ⟨fun z z1 z2 z3 => by rw [q1 z z1 z3]; exact g0 z z1 z2 z3, by rw [q2]; exact g1, q3, q4⟩
def fmP (A : zA) (s t : kM) : Prop := (∀ z, z ≠ 85 → z ≠ 114 → z ≠ 115 → z ≠ 117 → t z = s z) ∧ (∀ i, i ≠ 44 → t 85 i = s 85 i) ∧ t 85 44 = ((nbw A : Nat) : Int) ∧ ∀ j, j < 13 * rw_ A 11 → t 117 j = mxf A 11 j
theorem wp_fillsMatrix {A : zA} (hA : okA A) {s : kM} (hM : MT A s) : wp (f_M_fillsMatrix s) (fun r => r.1 = ((rw_ A 11 : Nat) : Int) ∧ fmP A s r.2) := by
  have hn := okB_n hA.1
  have h13 := nbw_13 hA.1
  have hbw : ∀ i, i < aN A → bwA A i < 13 := fun i hi => by have := bwA_lt hA hi; omega
  obtain ⟨g, e1, g0, g1, g2, g3⟩ := wp_fillsBows hA hM.1
  unfold f_M_fillsMatrix
  rw [e1, Option.bind_some]
  unfold f_M_fillsMatrix_6
  refine wp_for 11 (fun b x => x.1 = ((rw_ A b : Nat) : Int) ∧ x.2.1 = (b : Int) ∧ (∀ z, z ≠ 117 → x.2.2 z = g z) ∧ ∀ j, j < 13 * rw_ A b → x.2.2 117 j = mxf A b j) 0 _ (by omega) (by omega) (by exact ⟨rfl, rfl, fun _ _ => rfl, fun j hj => by have : rw_ A 0 = 0 := rfl; omega⟩) ?_ ?_
  · rintro b ⟨y1, y2, w⟩ _ hb ⟨rfl, rfl, q1, q2⟩
    dsimp only at q1 q2
    have hw : ∀ w' : kM, (∀ z, z ≠ 117 → w' z = w z) → MT A w' := fun w' h => MT_k hM (fun a h1 h2 => by rw [h a (by omega), q1 a (by omega), g0 a (by omega) (by omega) (by omega)])
    have hMw : MT A w := hw w (fun _ _ => rfl)
    have n11 : ¬ (11 : Int) ≤ (b : Int) := by omega
    have hbl : b < 2147483647 := by omega
    have hrl := rw_le A b
    have hrl2 : rw_ A b < 2147483647 := by omega
    have hr11 : rw_ A b < 11 := by omega
    dsimp only
    unfold f_M_fillsMatrix_6b
    rw [if_neg n11, e_M_isBridge hA hMw, Option.bind_some, Int.toNat_natCast]
    by_cases hp : pb A b = true
    · obtain ⟨h1, h2, h3, h4⟩ := oA_lt hA hp
      have h5 := pv_lt hA.1 h4
      have b1 := hbw _ h2
      have b2 := hbw _ h4
      have b3 := hbw _ h5
      rw [if_pos (show 0 ≤ (b : Int) ∧ (b : Int) < 11 ∧ pb A b = true from ⟨by omega, by omega, hp⟩), if_neg (show ¬ (1 : Int) = 0 by decide)]
      unfold f_M_fillsMatrix_15
      refine wp_for 13 (fun c x => x.1 = (c : Int) ∧ (∀ z, z ≠ 117 → x.2 z = w z) ∧ ∀ j, j < 13 * rw_ A b + c → x.2 117 j = mxf A b j) 0 _ (by omega) (by omega) (by exact ⟨rfl, fun _ _ => rfl, q2⟩) ?_ ?_
      · rintro c ⟨y, zw⟩ _ hc ⟨rfl, p1, p2⟩
        dsimp only at p1 p2
        have n13 : ¬ (13 : Int) ≤ (c : Int) := by omega
        have hcl : c < 2147483647 := by omega
        dsimp only
        unfold f_M_fillsMatrix_15b
        rw [if_neg n13, gI_cr hr11 hc, Option.bind_some, gLet_eq, wp_some, gE_l]
        dsimp only
        rw [wI_s hcl]
        refine ⟨rfl, fun z hz => by rw [gU_n _ _ _ hz]; exact p1 z hz, fun j hj => ?_⟩
        by_cases hjc : j = 13 * rw_ A b + c
        · rw [hjc, gUs, mxf_0 A b _ (by omega) hbw hA]
        · rw [gUo _ _ _ hjc]
          exact p2 j (by omega)
      · rintro ⟨y, zw⟩ ⟨rfl, p1, p2⟩
        dsimp only at p1 p2
        have z98 : zw 98 b = ((oA A b : Nat) : Int) := by rw [p1 98 (by decide), (hMw.2 b hb).1, h1]
        have z99 : zw 99 b = ((uA A b : Nat) : Int) := by rw [p1 99 (by decide), (hMw.2 b hb).2, h3]
        have z114 : ∀ j, j < aN A → zw 114 j = ((bwA A j : Nat) : Int) := fun j hj => by rw [p1 114 (by decide), q1 114 (by decide)]; exact g3 j hj
        have i0 : gI 11 (b : Int) = some b := gI_n hb
        have i1 : gI 22 ((oA A b : Nat) : Int) = some (oA A b) := gI_n (by omega)
        have i2 : gI 22 ((uA A b : Nat) : Int) = some (uA A b) := gI_n (by omega)
        have i3 : gI 22 ((pv (aF A) (aN A) (uA A b) : Nat) : Int) = some (pv (aF A) (aN A) (uA A b)) := gI_n (by omega)
        dsimp only
        unfold f_M_fillsMatrix_15b
        rw [if_pos (show (13 : Int) ≤ ((13 : Nat) : Int) by decide), i0, Option.bind_some, z98, i1, Option.bind_some, z114 _ h2, gI_cr hr11 b1, Option.bind_some, Option.bind_some, gLet_eq, Option.bind_some, gUn _ _ _ (by decide), z99, i2, Option.bind_some, gUn _ _ _ (by decide), z114 _ h4, gI_cr hr11 b2, Option.bind_some, Option.bind_some, gLet_eq, Option.bind_some, gUn _ _ _ (by decide), gUn _ _ _ (by decide), z99, e_M_ahead hA.1 (hw _ (fun z hz => by rw [gU_n _ _ _ hz, gU_n _ _ _ hz]; exact p1 z hz)).1 h4, Option.bind_some, i3, Option.bind_some, gUn _ _ _ (by decide), gUn _ _ _ (by decide), z114 _ h5, gI_cr hr11 b3, Option.bind_some, Option.bind_some, gLet_eq]
        unfold f_M_fillsMatrix_86
        rw [Option.map_some, wp_some, gE_r, gE_l]
        dsimp only
        rw [wI_s hbl, wI_s hrl2, rw_s, if_pos hp]
        refine ⟨rfl, rfl, fun z hz => by rw [gU_n _ _ _ hz, gU_n _ _ _ hz, gU_n _ _ _ hz, p1 z hz]; exact q1 z hz, fun j hj => ?_⟩
        rw [gU_s, gU_s, gU_s, mxf_s, if_pos hp]
        exact add3_c (f := zw 117) (g := mxf A b) (fun j => j < 13 * rw_ A b + 13) (by omega) (by omega) (by omega) p2 j (by omega)
    · rw [if_neg (show ¬ (0 ≤ (b : Int) ∧ (b : Int) < 11 ∧ pb A b = true) from fun q => hp q.2.2), if_pos rfl]
      unfold f_M_fillsMatrix_86
      rw [wp_some, gE_l]
      dsimp only
      rw [wI_s hbl, rw_s, mxf_s, if_neg hp, if_neg hp]
      exact ⟨rfl, rfl, q1, q2⟩
  · rintro ⟨y1, y2, w⟩ ⟨rfl, rfl, q1, q2⟩
    dsimp only at q1 q2
    dsimp only
    unfold f_M_fillsMatrix_6b
    rw [if_pos (show (11 : Int) ≤ ((11 : Nat) : Int) by decide), wp_some, gE_r]
    refine ⟨rfl, ?_⟩
    dsimp only
    exact ⟨fun z z1 z2 z3 z4 => by rw [q1 z z4]; exact g0 z z1 z2 z3, fun i hi => by rw [q1 85 (by decide)]; exact g1 i hi, by rw [q1 85 (by decide)]; exact g2, q2⟩
