/-! the reference takes the town, or lays the old one back -/
theorem wp_laysBack {B : zA} (hB : okA B) {s w : kM} (hM : MT B s) (h94 : ∀ j, j < 6 → w 94 j = s 86 j) (h95 : ∀ j, j < 22 → w 95 j = s 87 j) (h96 : ∀ j, j < 22 → w 96 j = s 88 j) (h97 : ∀ j, j < 11 → w 97 j = s 89 j) : wp (f_M_laysBack w) (fun r => MT B r ∧ (∀ j, j < 6 → r 86 j = s 86 j) ∧ r 85 = w 85) := by
  have hn := okB_n hB.1
  unfold f_M_laysBack
  rw [e_M_lay (by decide) (by decide) (by decide), Option.bind_some, e_M_lay (by decide) (by decide) (by decide), Option.bind_some, e_M_lay (by decide) (by decide) (by decide), Option.bind_some, e_M_lay (by decide) (by decide) (by decide), Option.bind_some]
  obtain ⟨G, hG⟩ : ∃ G, G = gA (gA (gA (gA w 86 (fun j => if j < 6 then w 94 j else w 86 j)) 87 (fun j => if j < 22 then (gA w 86 (fun j => if j < 6 then w 94 j else w 86 j)) 95 j else (gA w 86 (fun j => if j < 6 then w 94 j else w 86 j)) 87 j)) 88 (fun j => if j < 22 then (gA (gA w 86 (fun j => if j < 6 then w 94 j else w 86 j)) 87 (fun j => if j < 22 then (gA w 86 (fun j => if j < 6 then w 94 j else w 86 j)) 95 j else (gA w 86 (fun j => if j < 6 then w 94 j else w 86 j)) 87 j)) 96 j else (gA (gA w 86 (fun j => if j < 6 then w 94 j else w 86 j)) 87 (fun j => if j < 22 then (gA w 86 (fun j => if j < 6 then w 94 j else w 86 j)) 95 j else (gA w 86 (fun j => if j < 6 then w 94 j else w 86 j)) 87 j)) 88 j)) 89 (fun j => if j < 11 then (gA (gA (gA w 86 (fun j => if j < 6 then w 94 j else w 86 j)) 87 (fun j => if j < 22 then (gA w 86 (fun j => if j < 6 then w 94 j else w 86 j)) 95 j else (gA w 86 (fun j => if j < 6 then w 94 j else w 86 j)) 87 j)) 88 (fun j => if j < 22 then (gA (gA w 86 (fun j => if j < 6 then w 94 j else w 86 j)) 87 (fun j => if j < 22 then (gA w 86 (fun j => if j < 6 then w 94 j else w 86 j)) 95 j else (gA w 86 (fun j => if j < 6 then w 94 j else w 86 j)) 87 j)) 96 j else (gA (gA w 86 (fun j => if j < 6 then w 94 j else w 86 j)) 87 (fun j => if j < 22 then (gA w 86 (fun j => if j < 6 then w 94 j else w 86 j)) 95 j else (gA w 86 (fun j => if j < 6 then w 94 j else w 86 j)) 87 j)) 88 j)) 97 j else (gA (gA (gA w 86 (fun j => if j < 6 then w 94 j else w 86 j)) 87 (fun j => if j < 22 then (gA w 86 (fun j => if j < 6 then w 94 j else w 86 j)) 95 j else (gA w 86 (fun j => if j < 6 then w 94 j else w 86 j)) 87 j)) 88 (fun j => if j < 22 then (gA (gA w 86 (fun j => if j < 6 then w 94 j else w 86 j)) 87 (fun j => if j < 22 then (gA w 86 (fun j => if j < 6 then w 94 j else w 86 j)) 95 j else (gA w 86 (fun j => if j < 6 then w 94 j else w 86 j)) 87 j)) 96 j else (gA (gA w 86 (fun j => if j < 6 then w 94 j else w 86 j)) 87 (fun j => if j < 22 then (gA w 86 (fun j => if j < 6 then w 94 j else w 86 j)) 95 j else (gA w 86 (fun j => if j < 6 then w 94 j else w 86 j)) 87 j)) 88 j)) 89 j) := ⟨_, rfl⟩
  rw [← hG]
  have g86 : ∀ j, j < 6 → G 86 j = s 86 j := fun j hj => by
    rw [hG, gAn _ _ (by decide), gAn _ _ (by decide), gAn _ _ (by decide), gA_s, if_pos hj]
    exact h94 j hj
  have g87 : ∀ j, j < 22 → G 87 j = s 87 j := fun j hj => by
    rw [hG, gAn _ _ (by decide), gAn _ _ (by decide), gA_s, if_pos hj, gAn _ _ (by decide)]
    exact h95 j hj
  have g88 : ∀ j, j < 22 → G 88 j = s 88 j := fun j hj => by
    rw [hG, gAn _ _ (by decide), gA_s, if_pos hj, gAn _ _ (by decide), gAn _ _ (by decide)]
    exact h96 j hj
  have g89 : ∀ j, j < 11 → G 89 j = s 89 j := fun j hj => by
    rw [hG, gA_s, if_pos hj, gAn _ _ (by decide), gAn _ _ (by decide), gAn _ _ (by decide)]
    exact h97 j hj
  have g85 : G 85 = w 85 := by rw [hG, gAn _ _ (by decide), gAn _ _ (by decide), gAn _ _ (by decide), gAn _ _ (by decide)]
  clear hG
  obtain ⟨m1, m2, m3, m4, m5⟩ := hM.1
  have hMR : MR B G := ⟨by rw [g86 0 (by decide)]; exact m1, by rw [g86 1 (by decide)]; exact m2, by rw [g86 2 (by decide)]; exact m3, fun j hj => by rw [g87 j (by omega), g88 j (by omega)]; exact m4 j hj, fun k hk => by rw [g89 k (pr_lt hB.1 hk)]; exact m5 k hk⟩
  obtain ⟨r, f1, r1⟩ := wp_refresh hB.1 hMR
  have fr : ∀ z, z ∉ W_M_refresh → r z = G z := w_M_refresh G r f1
  rw [f1, Option.bind_some, wp_some]
  exact ⟨r1, fun j hj => by rw [fr 86 (by decide)]; exact g86 j hj, by rw [fr 85 (by decide)]; exact g85⟩
/-- what the reference's town call leaves -/
def tQ (T : Nat → Int) (L : Nat) (g : Nat → Int) (B : zA) (s : kM) (r : Int × kM) : Prop := r.2 85 21 = 0 ∧ r.2 85 25 = g 25 ∧ r.2 85 30 = g 30 ∧ r.2 86 4 = s 86 4 ∧ r.2 86 5 = s 86 5 ∧ ((tF T L ≠ 0 ∧ r.1 = wI (-2 - ((tF T L : Nat) : Int)) ∧ MT B r.2 ∧ r.2 86 3 = s 86 3) ∨ (tF T L = 0 ∧ r.1 = ((aN (pTn T L 3 0 A00).2.2 / 2 : Nat) : Int) ∧ MT (pTn T L 3 0 A00).2.2 r.2 ∧ r.2 86 3 = 0))
theorem wp_M_take {T g : Nat → Int} {L : Nat} (hL : L ≤ 400) {B : zA} (hB : okA B) {s t : kM} (hs : MT B s) (h86 : t 86 = s 86) (h87 : t 87 = s 87) (h88 : t 88 = s 88) (h89 : t 89 = s 89) (h98 : t 98 = s 98) (h99 : t 99 = s 99) (ht : MZ T L g (pTn T L 3 0 A00) t) : wp (f_M_town_22b 0 t) (gE (fun _ => False) (fun r => tQ T L g B s r)) := by
  have hok := pTn_ok (T := T) (L := L) 3 0 A00 PI_00 (by omega) rfl
  obtain ⟨t1, t2, t3, t4⟩ := ht
  obtain ⟨t2a, t2b, t2c⟩ := t2
  unfold f_M_town_22b
  rw [if_pos rfl, gLet_eq]
  by_cases hf : (pTn T L 3 0 A00).2.1 = 0
  · obtain ⟨hPI, hpos, hR⟩ := hok hf
    have hP := t4 hf
    have hA := hPI.1
    have etF : tF T L = if whB (pTn T L 3 0 A00).2.2 11 = true then (if dLd (pTn T L 3 0 A00).2.2 = true then 0 else flt L 7) else flt L 6 := by unfold tF; rw [if_neg (fun z => z hf)]
    unfold tQ
    rw [etF]
    generalize (pTn T L 3 0 A00).2.2 = A at hPI hR hP hA ⊢
    have hn := okB_n hA
    have hn2 := okB_n hB.1
    rw [if_pos (by rw [gUo _ _ _ (by decide), t1, hf]; decide), t2a, wp_bind]
    -- kept
    obtain ⟨K, e1, K1, K94, K95, K96, K97⟩ : ∃ K, f_M_keeps (gU t 85 21 0) = some K ∧ (∀ z, z ≠ 94 → z ≠ 95 → z ≠ 96 → z ≠ 97 → K z = gU t 85 21 0 z) ∧ (∀ j, j < 6 → K 94 j = s 86 j) ∧ (∀ j, j < 22 → K 95 j = s 87 j) ∧ (∀ j, j < 22 → K 96 j = s 88 j) ∧ (∀ j, j < 11 → K 97 j = s 89 j) := by
      unfold f_M_keeps
      rw [e_M_lay (by decide) (by decide) (by decide), Option.bind_some, e_M_lay (by decide) (by decide) (by decide), Option.bind_some, e_M_lay (by decide) (by decide) (by decide), Option.bind_some, e_M_lay (by decide) (by decide) (by decide), Option.bind_some]
      refine ⟨_, rfl, fun z z1 z2 z3 z4 => ?_, fun j hj => ?_, fun j hj => ?_, fun j hj => ?_, fun j hj => ?_⟩
      · rw [gAn _ _ z4, gAn _ _ z3, gAn _ _ z2, gAn _ _ z1]
      · rw [gAn _ _ (by decide), gAn _ _ (by decide), gAn _ _ (by decide), gA_s, if_pos hj, gU_n _ _ _ (by decide), h86]
      · rw [gAn _ _ (by decide), gAn _ _ (by decide), gA_s, if_pos hj, gAn _ _ (by decide), gU_n _ _ _ (by decide), h87]
      · rw [gAn _ _ (by decide), gA_s, if_pos hj, gAn _ _ (by decide), gAn _ _ (by decide), gU_n _ _ _ (by decide), h88]
      · rw [gA_s, if_pos hj, gAn _ _ (by decide), gAn _ _ (by decide), gAn _ _ (by decide), gU_n _ _ _ (by decide), h89]
    rw [e1, wp_some, wp_map]
    clear e1
    obtain ⟨p0, p1, p2, p3, p4, p5, p6⟩ := hP
    have Kt : ∀ z, z ≠ 85 → z ≠ 94 → z ≠ 95 → z ≠ 96 → z ≠ 97 → K z = t z := fun z z0 z1 z2 z3 z4 => by rw [K1 z z1 z2 z3 z4, gU_n _ _ _ z0]
    have K85 : ∀ i, i ≠ 21 → K 85 i = t 85 i := fun i hi => by rw [K1 85 (by decide) (by decide) (by decide) (by decide), gUo _ _ _ hi]
    have K21 : K 85 21 = 0 := by rw [K1 85 (by decide) (by decide) (by decide) (by decide), gUs]
    unfold f_M_town_48
    refine wp_for 3 (fun k x => x.1 = (k : Int) ∧ (∀ z, z ≠ 86 → x.2 z = K z) ∧ (∀ j, j < k → x.2 86 j = K 90 j) ∧ ∀ j, 3 ≤ j → x.2 86 j = K 86 j) 0 _ (by omega) (by omega) (by exact ⟨rfl, fun _ _ => rfl, fun j hj => by omega, fun _ _ => rfl⟩) ?_ ?_
    · rintro k ⟨y, w⟩ _ hk ⟨rfl, q1, q2, q3⟩
      dsimp only at q1 q2 q3
      dsimp only
      unfold f_M_town_48b
      rw [if_neg (show ¬ (3 : Int) ≤ (k : Int) by omega), gI_n hk, Option.bind_some, gI_n (show k < 6 by omega), Option.bind_some, gLet_eq, wp_some, gE_l]
      dsimp only
      rw [wI_s (by omega)]
      refine ⟨rfl, fun z hz => by rw [gU_n _ _ _ hz]; exact q1 z hz, fun j hj => ?_, fun j hj => ?_⟩
      · by_cases hjk : j = k
        · rw [hjk, gUs, q1 90 (by decide)]
        · rw [gUo _ _ _ hjk]
          exact q2 j (by omega)
      · rw [gUo _ _ _ (by omega)]
        exact q3 j hj
    · rintro ⟨y, w⟩ ⟨rfl, q1, q2, q3⟩
      dsimp only at q1 q2 q3
      dsimp only
      unfold f_M_town_48b
      rw [if_pos (show (3 : Int) ≤ ((3 : Nat) : Int) by decide), gLet_eq, e_M_lay (by decide) (by decide) (by decide), Option.bind_some, e_M_lay (by decide) (by decide) (by decide), Option.bind_some, e_M_lay (by decide) (by decide) (by decide), Option.bind_some]
      obtain ⟨G, hG⟩ : ∃ G, G = gA (gA (gA (gU w 86 3 0) 87 (fun j => if j < 22 then gU w 86 3 0 91 j else gU w 86 3 0 87 j)) 88 (fun j => if j < 22 then gA (gU w 86 3 0) 87 (fun j => if j < 22 then gU w 86 3 0 91 j else gU w 86 3 0 87 j) 92 j else gA (gU w 86 3 0) 87 (fun j => if j < 22 then gU w 86 3 0 91 j else gU w 86 3 0 87 j) 88 j)) 89 (fun j => if j < 11 then gA (gA (gU w 86 3 0) 87 (fun j => if j < 22 then gU w 86 3 0 91 j else gU w 86 3 0 87 j)) 88 (fun j => if j < 22 then gA (gU w 86 3 0) 87 (fun j => if j < 22 then gU w 86 3 0 91 j else gU w 86 3 0 87 j) 92 j else gA (gU w 86 3 0) 87 (fun j => if j < 22 then gU w 86 3 0 91 j else gU w 86 3 0 87 j) 88 j) 93 j else gA (gA (gU w 86 3 0) 87 (fun j => if j < 22 then gU w 86 3 0 91 j else gU w 86 3 0 87 j)) 88 (fun j => if j < 22 then gA (gU w 86 3 0) 87 (fun j => if j < 22 then gU w 86 3 0 91 j else gU w 86 3 0 87 j) 92 j else gA (gU w 86 3 0) 87 (fun j => if j < 22 then gU w 86 3 0 91 j else gU w 86 3 0 87 j) 88 j) 89 j) := ⟨_, rfl⟩
      rw [← hG]
      have G1 : ∀ z, z ≠ 86 → z ≠ 87 → z ≠ 88 → z ≠ 89 → G z = K z := fun z z1 z2 z3 z4 => by rw [hG, gAn _ _ z4, gAn _ _ z3, gAn _ _ z2, gU_n _ _ _ z1, q1 z z1]
      have G86 : ∀ j, j < 3 → G 86 j = K 90 j := fun j hj => by rw [hG, gAn _ _ (by decide), gAn _ _ (by decide), gAn _ _ (by decide), gUo _ _ _ (by omega)]; exact q2 j hj
      have G863 : G 86 3 = 0 := by rw [hG, gAn _ _ (by decide), gAn _ _ (by decide), gAn _ _ (by decide), gUs]
      have G864 : ∀ j, 4 ≤ j → G 86 j = s 86 j := fun j hj => by rw [hG, gAn _ _ (by decide), gAn _ _ (by decide), gAn _ _ (by decide), gUo _ _ _ (by omega), q3 j (by omega), Kt 86 (by decide) (by decide) (by decide) (by decide) (by decide), h86]
      have G87 : ∀ j, j < 22 → G 87 j = t 91 j := fun j hj => by rw [hG, gAn _ _ (by decide), gAn _ _ (by decide), gA_s, if_pos hj, gU_n _ _ _ (by decide), q1 91 (by decide), Kt 91 (by decide) (by decide) (by decide) (by decide) (by decide)]
      have G88 : ∀ j, j < 22 → G 88 j = t 92 j := fun j hj => by rw [hG, gAn _ _ (by decide), gA_s, if_pos hj, gAn _ _ (by decide), gU_n _ _ _ (by decide), q1 92 (by decide), Kt 92 (by decide) (by decide) (by decide) (by decide) (by decide)]
      have G89 : ∀ j, j < 11 → G 89 j = t 93 j := fun j hj => by rw [hG, gA_s, if_pos hj, gAn _ _ (by decide), gAn _ _ (by decide), gU_n _ _ _ (by decide), q1 93 (by decide), Kt 93 (by decide) (by decide) (by decide) (by decide) (by decide)]
      clear hG
      have k90 : ∀ j, K 90 j = t 90 j := fun j => by rw [Kt 90 (by decide) (by decide) (by decide) (by decide) (by decide)]
      have hM0 : M0 A G := ⟨by rw [G86 1 (by decide), k90]; exact p1, by rw [G86 2 (by decide), k90]; exact p2, fun j hj => by rw [G87 j (by omega), G88 j (by omega)]; exact p3 j hj⟩
      obtain ⟨R, f1, r1, r2⟩ := wp_refresh0 hA hM0
      rw [f1, Option.bind_some, e_areWhole r2, Option.bind_some]
      have RK : ∀ z, z ≠ 86 → z ≠ 87 → z ≠ 88 → z ≠ 89 → z ≠ 98 → z ≠ 99 → R z = K z := fun z z1 z2 z3 z4 z5 z6 => by rw [r1 z z5 z6, G1 z z1 z2 z3 z4]
      have R23 : R 85 23 = 0 := by rw [RK 85 (by decide) (by decide) (by decide) (by decide) (by decide) (by decide), K85 23 (by decide), t1, hf]; rfl
      -- it is laid back
      have back : ∀ (U : kM) (f : Nat), f ≠ 0 → U 85 23 = (f : Int) → U 85 21 = 0 → U 85 25 = g 25 → U 85 30 = g 30 → (∀ z, 94 ≤ z → z ≤ 97 → U z = K z) → wp (f_M_town_98 U) (fun r => r.2 85 21 = 0 ∧ r.2 85 25 = g 25 ∧ r.2 85 30 = g 30 ∧ r.2 86 4 = s 86 4 ∧ r.2 86 5 = s 86 5 ∧ r.1 = wI (-2 - (f : Int)) ∧ MT B r.2 ∧ r.2 86 3 = s 86 3) := by
        intro U f hf0 u1 u2 u3 u4 u5
        unfold f_M_town_98
        obtain ⟨X, e1, x1, x2, x3⟩ := wp_laysBack hB hs (w := U) (fun j hj => by rw [u5 94 (by decide) (by decide)]; exact K94 j hj) (fun j hj => by rw [u5 95 (by decide) (by decide)]; exact K95 j hj) (fun j hj => by rw [u5 96 (by decide) (by decide)]; exact K96 j hj) (fun j hj => by rw [u5 97 (by decide) (by decide)]; exact K97 j hj)
        rw [if_neg (by rw [u1]; omega), e1, Option.bind_some, x3, u1, wp_some]
        exact ⟨by dsimp only; rw [x3]; exact u2, by dsimp only; rw [x3]; exact u3, by dsimp only; rw [x3]; exact u4, x2 4 (by decide), x2 5 (by decide), rfl, x1, x2 3 (by decide)⟩
      have R21 : R 85 21 = 0 := by rw [RK 85 (by decide) (by decide) (by decide) (by decide) (by decide) (by decide)]; exact K21
      have R25 : R 85 25 = g 25 := by rw [RK 85 (by decide) (by decide) (by decide) (by decide) (by decide) (by decide), K85 25 (by decide)]; exact t2b
      have R30 : R 85 30 = g 30 := by rw [RK 85 (by decide) (by decide) (by decide) (by decide) (by decide) (by decide), K85 30 (by decide)]; exact t2c
      by_cases hw : whB A 11 = true
      · have hwh : whA A := (whB_iff 11).mp hw
        have hoA := okA_wh hPI hR hwh
        have hMR : MT A R := by
          refine ⟨⟨?_, ?_, ?_, fun j hj => ?_, fun k hk => ?_⟩, r2⟩
          · rw [r1 86 (by decide) (by decide), G86 0 (by decide), k90]; exact p0
          · rw [r1 86 (by decide) (by decide), G86 1 (by decide), k90]; exact p1
          · rw [r1 86 (by decide) (by decide), G86 2 (by decide), k90]; exact p2
          · rw [r1 87 (by decide) (by decide), r1 88 (by decide) (by decide), G87 j (by omega), G88 j (by omega)]; exact p3 j hj
          · rw [r1 89 (by decide) (by decide), G89 k (pr_lt hA hk)]; exact p4 k (pr_tld hA hwh hk)
        rw [if_pos hw, if_neg (by decide), if_pos hw]
        unfold f_M_canBeDrawn
        obtain ⟨V, e2, hV⟩ := wp_fillsLand hoA hMR
        have hMV : MT A V := MT_k hMR (fun a h1 h2 => hV.1 a (by omega) (by omega) (by omega) (by omega) (by omega))
        obtain ⟨⟨zv, X⟩, e3, k2⟩ := wp_M_groups hoA hMV
        have fX : ∀ z, z ∉ W_M_groups → X z = V z := w_M_groups V _ e3
        dsimp only at k2
        subst k2
        have hMX : MT A X := MT_k hMV (fun a h1 h2 => fX a (by simp [W_M_groups]; omega))
        have hg := grp_le hA
        have ew2 : wI (2 * ((grp A : Nat) : Int)) = ((2 * grp A : Nat) : Int) := by rw [wI_id (by omega) (by omega)]; omega
        rw [e2, Option.bind_some, e_M_many hA hMV.1, Option.bind_some, e3, Option.bind_some]
        dsimp only
        rw [ew2, wI_add2 (by clear ew2; omega), hV.2.2.2.1]
        clear ew2
        have x85 : ∀ i, i ≠ 20 → X 85 i = R 85 i := fun i hi => by rw [fX 85 (by decide)]; exact hV.2.1 i hi
        have x86 : X 86 = R 86 := by rw [fX 86 (by decide), hV.1 86 (by decide) (by decide) (by decide) (by decide) (by decide)]
        by_cases hd : dLd A = true
        · have hd' := of_decide_eq_true hd
          rw [if_pos (by omega), Option.bind_some]
          dsimp only
          unfold f_M_town_98
          rw [if_neg (by decide), if_pos (by rw [x85 23 (by decide), R23]; decide), e_M_many hA hMX.1, Option.bind_some, Option.map_some, wp_some, gE_r, if_pos hd]
          refine ⟨by dsimp only; rw [x85 21 (by decide)]; exact R21, by dsimp only; rw [x85 25 (by decide)]; exact R25, by dsimp only; rw [x85 30 (by decide)]; exact R30, by dsimp only; rw [x86, r1 86 (by decide) (by decide)]; exact G864 4 (by decide), by dsimp only; rw [x86, r1 86 (by decide) (by decide)]; exact G864 5 (by decide), Or.inr ⟨rfl, rfl, hMX, by dsimp only; rw [x86, r1 86 (by decide) (by decide)]; exact G863⟩⟩
        · have hd' : ¬ ((FL A (2 * aN A)).length = aN A / 2 + 2 * grp A) := fun z => hd (decide_eq_true z)
          have ef := e_M_fails (p := L) (c := 7) (s := X) (by omega) (by omega)
          rw [if_pos (by rw [x85 23 (by decide)]; exact R23), show ((7 : Nat) : Int) = 7 from rfl] at ef
          rw [if_neg (by omega), Option.bind_some]
          dsimp only
          rw [if_pos rfl, ef, Option.bind_some, wp_map, if_neg hd]
          refine (back (gU X 85 23 ((flt L 7 : Nat) : Int)) (flt L 7) (by unfold flt; omega) (gUs _ _ _ _) (by rw [gUo _ _ _ (by decide), x85 21 (by decide)]; exact R21) (by rw [gUo _ _ _ (by decide), x85 25 (by decide)]; exact R25) (by rw [gUo _ _ _ (by decide), x85 30 (by decide)]; exact R30) (fun z h1 h2 => by rw [gU_n _ _ _ (by omega), fX z (by simp [W_M_groups]; omega), hV.1 z (by omega) (by omega) (by omega) (by omega) (by omega), RK z (by omega) (by omega) (by omega) (by omega) (by omega) (by omega)])).mono ?_
          rintro r ⟨a1, a2, a3, a4, a5, a6, a7, a8⟩
          exact ⟨a1, a2, a3, a4, a5, Or.inl ⟨by unfold flt; omega, a6, a7, a8⟩⟩
      · have ef := e_M_fails (p := L) (c := 6) (s := R) (by omega) (by omega)
        rw [if_pos R23, show ((6 : Nat) : Int) = 6 from rfl] at ef
        rw [if_neg hw, if_pos rfl, ef, Option.bind_some, wp_map, if_neg hw]
        refine (back (gU R 85 23 ((flt L 6 : Nat) : Int)) (flt L 6) (by unfold flt; omega) (gUs _ _ _ _) (by rw [gUo _ _ _ (by decide)]; exact R21) (by rw [gUo _ _ _ (by decide)]; exact R25) (by rw [gUo _ _ _ (by decide)]; exact R30) (fun z h1 h2 => by rw [gU_n _ _ _ (by omega), RK z (by omega) (by omega) (by omega) (by omega) (by omega) (by omega)])).mono ?_
        rintro r ⟨a1, a2, a3, a4, a5, a6, a7, a8⟩
        exact ⟨a1, a2, a3, a4, a5, Or.inl ⟨by unfold flt; omega, a6, a7, a8⟩⟩
  · have etF : tF T L = (pTn T L 3 0 A00).2.1 := by unfold tF; rw [if_pos hf]
    rw [if_neg (by rw [gUo _ _ _ (by decide), t1]; omega), gUo _ _ _ (by decide), t1, wp_some, gE_r]
    refine ⟨by dsimp only; rw [gUs], by dsimp only; rw [gUo _ _ _ (by decide)]; exact t2b, by dsimp only; rw [gUo _ _ _ (by decide)]; exact t2c, by dsimp only; rw [gU_n _ _ _ (by decide), h86], by dsimp only; rw [gU_n _ _ _ (by decide), h86], Or.inl ⟨by rw [etF]; exact hf, by rw [etF], ?_, by dsimp only; rw [gU_n _ _ _ (by decide), h86]⟩⟩
    dsimp only
    refine MT_c hs ?_ ?_ ?_ ?_ ?_ ?_
    · rw [gU_n _ _ _ (by decide), h86]; exact ⟨rfl, rfl, rfl⟩
    · rw [gU_n _ _ _ (by decide), h87]
    · rw [gU_n _ _ _ (by decide), h88]
    · rw [gU_n _ _ _ (by decide), h89]
    · rw [gU_n _ _ _ (by decide), h98]
    · rw [gU_n _ _ _ (by decide), h99]
