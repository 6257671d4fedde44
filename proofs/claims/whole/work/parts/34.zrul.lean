/-! O_rule. OBr: as OB; some cells may be made -/
def OBr (RC : zA → kM → Prop) (RU : Nat → kM → Prop) (fK fM : kM → Option (Int × kM)) : Prop := ∀ s, 0 ≤ s 900 1 → Rel RC RU s → ∃ zv s1 s2, fK s = some (zv, s1) ∧ fM s1 = some (zv, s2) ∧ Rel RC RU s2 ∧ s1 900 0 ≤ s 900 0 + 1 ∧ s1 900 1 ≤ s 900 1 + 500 ∧ 0 ≤ s1 900 1
theorem Rel_rul {RC : zA → kM → Prop} (hC : hRC RC) {s s2 : kM} (h : Rel RC RU0 s) (F : ∀ z, z ≠ 0 → z ≠ 1 → z ≠ 56 → z ≠ 85 → (z < 54 ∨ 55 < z) → (z < 106 ∨ 111 < z) → z < 125 → s2 z = s z) (a1 : s2 1 1 = 0) (a2 : s2 85 21 = 0) (a3 : s 0 11 ≤ s2 0 11) (a4 : RRule RU0 s2) : Rel RC RU0 s2 := by
  obtain ⟨A, q1, q2, q3, q4, q5, q6, q7, q8⟩ := h
  have e : ∀ z, (2 ≤ z ∧ z < 54) ∨ (57 ≤ z ∧ z < 85) ∨ (86 ≤ z ∧ z < 106) ∨ (112 ≤ z ∧ z < 125) → s2 z = s z := fun z hz => F z (by omega) (by omega) (by omega) (by omega) (by omega) (by omega) (by omega)
  refine ⟨A, q1, KT_c q2 (fun i hi => e _ (by omega)), MT_c q3 (by rw [e 86 (by omega)]; exact ⟨rfl, rfl, rfl⟩) (e _ (by omega)) (e _ (by omega)) (e _ (by omega)) (e _ (by omega)) (e _ (by omega)), ?_, ?_, a4, RImg_c q7 (fun a x y => e a (by omega)) (e _ (by omega)) (e _ (by omega)) a3, hC.1 A s s2 q8 (fun a x y => e a (by omega))⟩
  · obtain ⟨r1, r2, r3, r4, r5⟩ := q4
    exact ⟨by rw [a1, a2], by rw [a1]; decide, by rw [a1]; decide, by rw [e 2 (by omega), e 105 (by omega)]; exact r4, by rw [e 2 (by omega)]; exact r5⟩
  · obtain ⟨r1, r2, r3, r4, r5, r6, r7⟩ := q5
    unfold RScal
    rw [e 3 (by omega), e 86 (by omega)]
    exact ⟨r1, r2, r3, by omega, r5, r6, r7⟩
theorem O_rule {RC : zA → kM → Prop} (hC : hRC RC) : OBr RC RU0 f_KT_rule f_M_rule := by
  intro s h900 hs
  have hs' := hs
  obtain ⟨A, hA, hK, hM, qT, qS, qR, qI, qC⟩ := hs'
  obtain ⟨r1, r2, r3, r4, r5⟩ := qT
  obtain ⟨w1, w2, w3, w4, w5, w6⟩ := qR
  by_cases h6 : s 0 11 < 6
  · obtain ⟨k, hk⟩ : ∃ k : Nat, s 0 11 = (k : Int) := ⟨(s 0 11).toNat, by omega⟩
    have hk6 : k < 6 := by omega
    obtain ⟨L, hL⟩ : ∃ L : Nat, s 1 1 = (L : Int) := ⟨(s 1 1).toNat, by omega⟩
    have hL4 : L ≤ 400 := by omega
    obtain ⟨t, e1, t1, t2⟩ := K_read2 (T := s 2) r5 hL4 hL rfl
    have t900 : t 900 = s 900 := t1 900 (by decide) (by decide) (by decide)
    cases hr : pRl (s 2) L 13 0 [] [] 0 0 with
    | inl e =>
      rw [hr] at t2
      obtain ⟨t3, t4, t5, t6⟩ := (show KEr (s 2) L e t from t2)
      obtain ⟨G, hG⟩ : ∃ G, G = gU t 1 1 0 := ⟨_, rfl⟩
      have G1 : ∀ z, z ≠ 1 → z ≠ 54 → z ≠ 55 → G z = s z := fun z z1 z2 z3 => by rw [hG, gU_n _ _ _ z1]; exact t1 z z1 z2 z3
      have G11 : G 1 1 = 0 := by rw [hG, gUs]
      have ek : f_KT_rule s = some (wI (-2 - (e : Int)), G) := by
        unfold f_KT_rule
        rw [if_pos h6, e1]
        unfold f_RuleText_read_43
        rw [if_neg (by rw [t4]; omega), Option.bind_some]
        dsimp only
        rw [gLet_eq, if_pos (by decide), gUo _ _ _ (by decide), t4, ← hG]
      clear hG
      have G85 : G 85 = s 85 := G1 85 (by decide) (by decide) (by decide)
      obtain ⟨zv, u, g1, g2, g3, g4, g5, g6⟩ := M_rule (T := s 2) r5 (L := L) (k := k) hL4 hk6 (s := G) (by rw [G85, ← w1]; exact hk) (by rw [G85, ← r1]; exact hL) (by rw [G1 105 (by decide) (by decide) (by decide)]; exact r4.symm) (by rw [G85]; exact w5)
      rw [hr] at g6
      obtain ⟨g7, g8⟩ := g6
      have fu : ∀ z, z ≠ 1 → z ≠ 85 → (z < 54 ∨ 55 < z) → (z < 106 ∨ 111 < z) → u z = s z := fun z z1 z2 z3 z4 => by rw [g4 z z4 z2]; exact G1 z z1 (by omega) (by omega)
      have u0 : u 0 = s 0 := fu 0 (by decide) (by decide) (by decide) (by decide)
      have u900 : u 900 = s 900 := fu 900 (by decide) (by decide) (by decide) (by decide)
      have G900 : G 900 = s 900 := G1 900 (by decide) (by decide) (by decide)
      refine ⟨_, G, u, ek, by rw [g1, g7], Rel_rul hC hs (fun z _ z1 _ z2 z3 z4 _ => fu z z1 z2 z3 z4) (by rw [g4 1 (by decide) (by decide)]; exact G11) g2 (by rw [u0]; omega) ?_, by rw [G900]; omega, by rw [G900]; omega, by rw [G900]; exact h900⟩
      refine ⟨by rw [u0, g8]; exact hk, by rw [u0]; exact w2, by rw [u0]; exact w3, by rw [u900, u0]; exact w4, g3, fun j hj => ?_⟩
      rw [u0] at hj
      obtain ⟨x1, x2⟩ := w6 j hj
      refine ⟨by rw [fu 56 (by decide) (by decide) (by decide) (by decide)]; exact x1, RU0_c x2 (fu _ (by omega) (by omega) (by omega) (by omega)) (fu _ (by omega) (by omega) (by omega) (by omega)) (MSl_r (MSl_e (fun a y1 y2 => G1 a (by omega) (by omega) (by omega))) (g5 j (by omega)))⟩
    | inr x =>
      rw [hr] at t2
      obtain ⟨p, n, kt, t13, t542, ⟨c1, c2⟩, t543⟩ := (show ∃ p n, KXr (s 2) L x.2 p n t from t2)
      obtain ⟨⟨q, m, hq, hm, p1, p2, p3, p4, p5⟩, hne⟩ := Rl_i (T := s 2) hL4 13 0 [] [] 0 0 rfl (by omega) (by omega) ⟨fun c hc => (by cases hc), Nat.le_refl 0, Nat.le_refl 0, fun _ => rfl, fun z => absurd rfl z⟩ x hr
      obtain ⟨j1, j2⟩ := Rl_j (T := s 2) hL4 13 0 [] [] 0 0 (by omega) (by omega) ⟨fun c hc => (by cases hc), Nat.le_refl 0⟩ x hr
      obtain ⟨W1, W2⟩ := p5 hne
      have hlen : x.2.length < 400 := by omega
      have t541 : t 54 1 = ((x.2.length : Nat) : Int) := by
        rw [c1]
        unfold m4
        rw [if_pos (by omega)]
      have hflg : flg x.2 = 0 ∨ flg x.2 = 1 := by
        unfold flg
        split
        · exact Or.inr rfl
        · exact Or.inl rfl
      have k900 : t 900 0 = (k : Int) := by rw [t900, w4]; exact hk
      obtain ⟨N, hN⟩ : ∃ N, N = gN t (t 54 1) (t 54 3) := ⟨_, rfl⟩
      have kN : (t 900 0).toNat = k := by rw [k900]; exact Int.toNat_natCast k
      have eN : gNw t = some N := by
        unfold gNw
        rw [if_pos ⟨by rw [t541]; omega, by rw [t543]; exact hflg, by rw [k900]; omega, by rw [t900]; exact h900⟩, hN]
      have N0 : N 900 0 = ((k + 1 : Nat) : Int) := by
        rw [hN]
        unfold gN
        rw [if_pos rfl]
        show t 900 0 + 1 = _
        rw [k900]
        omega
      have N1 : N 900 1 = s 900 1 + 2 + ((x.2.length : Nat) : Int) := by
        rw [hN]
        unfold gN
        rw [if_pos rfl]
        show t 900 1 + 2 + t 54 1 = _
        rw [t900, t541]
      have Na : N (125 + 2 * k) = fun j => if j = 0 then t 54 1 else t 54 3 := by
        rw [hN]
        unfold gN
        rw [if_neg (by omega), kN, if_pos rfl]
      have Nb : N (126 + 2 * k) = fun j => if j < (t 54 1).toNat then t 55 j else 0 := by
        rw [hN]
        unfold gN
        rw [if_neg (by omega), kN, if_neg (by omega), if_pos rfl]
      have No : ∀ z, z ≠ 900 → z ≠ 125 + 2 * k → z ≠ 126 + 2 * k → N z = t z := fun z z1 z2 z3 => by
        rw [hN]
        unfold gN
        rw [if_neg z1, kN, if_neg z2, if_neg z3]
      clear hN
      obtain ⟨G, hG⟩ : ∃ G, G = gU (gU (gU N 1 1 0) 56 k (k : Int)) 0 11 ((k + 1 : Nat) : Int) := ⟨_, rfl⟩
      have G0 : G 0 11 = ((k + 1 : Nat) : Int) := by rw [hG, gUs]
      have G11 : G 1 1 = 0 := by rw [hG, gU_n _ _ _ (by decide), gU_n _ _ _ (by decide), gUs]
      have G56 : G 56 k = (k : Int) := by rw [hG, gU_n _ _ _ (by decide), gUs]
      have G56o : ∀ j, j ≠ k → G 56 j = s 56 j := fun j hj => by rw [hG, gU_n _ _ _ (by decide), gUo _ _ _ hj, gU_n _ _ _ (by decide), No 56 (by decide) (by omega) (by omega), t1 56 (by decide) (by decide) (by decide)]
      have GN : ∀ z, z ≠ 0 → z ≠ 1 → z ≠ 56 → G z = N z := fun z z1 z2 z3 => by rw [hG, gU_n _ _ _ z1, gU_n _ _ _ z3, gU_n _ _ _ z2]
      have G1 : ∀ z, z ≠ 0 → z ≠ 1 → z ≠ 54 → z ≠ 55 → z ≠ 56 → z ≠ 900 → z ≠ 125 + 2 * k → z ≠ 126 + 2 * k → G z = s z := fun z z1 z2 z3 z4 z5 z6 z7 z8 => by rw [GN z z1 z2 z5, No z z6 z7 z8]; exact t1 z z2 z3 z4
      have n011 : N 0 11 = (k : Int) := by rw [No 0 (by decide) (by omega) (by omega), t1 0 (by decide) (by decide) (by decide)]; exact hk
      have ek : f_KT_rule s = some ((k : Int), G) := by
        have ew : wI (((k + 1 : Nat) : Int) - 1) = (k : Int) := by
          rw [wI_id (by omega) (by omega)]
          omega
        have es : wI ((k : Int) + 1) = ((k + 1 : Nat) : Int) := wI_s (by clear ew; omega)
        have eR : gR (gU N 1 1 0) (k : Int) = some (125 + 2 * (k : Int).toNat) := by
          unfold gR
          rw [if_pos ⟨by clear ew es; omega, by rw [gU_n _ _ _ (by decide), N0]; clear ew es; omega⟩]
        unfold f_KT_rule
        rw [if_pos h6, e1]
        unfold f_RuleText_read_43
        rw [if_pos t13, eN, Option.bind_some, Option.bind_some]
        dsimp only
        rw [gLet_eq, k900, if_neg (by clear ew es; omega), eR, Option.bind_some, gU_n _ _ _ (by decide), n011, gI_n hk6, Option.bind_some, gLet_eq, gLet_eq, gUs, gU_n _ _ _ (by decide), gU_n _ _ _ (by decide), n011, es, ew, ← hG]
      clear hG
      have G85 : G 85 = s 85 := G1 85 (by decide) (by decide) (by decide) (by decide) (by decide) (by decide) (by omega) (by omega)
      obtain ⟨zv, u, g1, g2, g3, g4, g5, g6⟩ := M_rule (T := s 2) r5 (L := L) (k := k) hL4 hk6 (s := G) (by rw [G85, ← w1]; exact hk) (by rw [G85, ← r1]; exact hL) (by rw [G1 105 (by decide) (by decide) (by decide) (by decide) (by decide) (by decide) (by omega) (by omega)]; exact r4.symm) (by rw [G85]; exact w5)
      rw [hr] at g6
      obtain ⟨g7, g8, g9, g10, g11, g12⟩ := g6
      have fu : ∀ z, z ≠ 0 → z ≠ 1 → z ≠ 56 → z ≠ 85 → (z < 54 ∨ 55 < z) → (z < 106 ∨ 111 < z) → z ≠ 900 → z ≠ 125 + 2 * k → z ≠ 126 + 2 * k → u z = s z := fun z z1 z2 z3 z4 z5 z6 z7 z8 z9 => by rw [g4 z z6 z4]; exact G1 z z1 z2 (by omega) (by omega) z3 z7 z8 z9
      have u0 : u 0 = G 0 := g4 0 (by decide) (by decide)
      have u900 : u 900 = N 900 := by rw [g4 900 (by decide) (by decide), GN 900 (by decide) (by decide) (by decide)]
      have G900 : G 900 = N 900 := GN 900 (by decide) (by decide) (by decide)
      have ua : u (125 + 2 * k) = N (125 + 2 * k) := by rw [g4 _ (by omega) (by omega), GN _ (by omega) (by omega) (by omega)]
      have ub : u (126 + 2 * k) = N (126 + 2 * k) := by rw [g4 _ (by omega) (by omega), GN _ (by omega) (by omega) (by omega)]
      refine ⟨_, G, u, ek, by rw [g1, g7], Rel_rul hC hs (fun z z0 z1 z5 z2 z3 z4 z6 => fu z z0 z1 z5 z2 z3 z4 (by omega) (by omega) (by omega)) (by rw [g4 1 (by decide) (by decide)]; exact G11) g2 (by rw [u0, G0]; omega) ?_, by rw [G900, N0, w4]; omega, by rw [G900, N1]; omega, by rw [G900, N1]; omega⟩
      refine ⟨by rw [u0, g8]; exact G0, by rw [u0, G0]; omega, by rw [u0, G0]; omega, by rw [u900, u0, G0]; exact N0, g3, fun j hj => ?_⟩
      rw [u0, G0] at hj
      have u56 : u 56 = G 56 := g4 56 (by decide) (by decide)
      by_cases hjk : j = k
      · rw [hjk]
        refine ⟨by rw [u56]; exact G56, (fun y => decide (vof x.2 y = 1)), (E_of W1).1, fun h => (E_of W1).2 ?_, ?_, ?_⟩
        · rw [ua, Na] at h
          rw [← t543]
          exact h
        · refine KB_of hk6 (kc := x.2) (by rw [ua, Na]; exact t541) hlen (fun i hi => ?_) W1 (by omega)
          rw [ub, Nb]
          dsimp only
          rw [t541, Int.toNat_natCast, if_pos hi]
          exact c2 i hi (by omega)
        · refine MB_of hk6 (acc := x.1) g9 g10 g11 j2 g12 p1 j1 (fun y => ?_)
          rw [decide_eq_true_eq]
          exact W2 y
      · obtain ⟨x1, x2⟩ := w6 j (by omega)
        refine ⟨by rw [u56, G56o j hjk]; exact x1, RU0_c x2 (fu _ (by omega) (by omega) (by omega) (by omega) (by omega) (by omega) (by omega) (by omega) (by omega)) (fu _ (by omega) (by omega) (by omega) (by omega) (by omega) (by omega) (by omega) (by omega) (by omega)) (MSl_r (MSl_e (fun a y1 y2 => G1 a (by omega) (by omega) (by omega) (by omega) (by omega) (by omega) (by omega) (by omega))) (g5 j (by omega)))⟩
  · have ek : f_KT_rule s = some (-1, s) := by
      unfold f_KT_rule
      rw [if_neg h6]
    have em : f_M_rule s = some (-1, s) := by
      unfold f_M_rule
      rw [if_pos (by rw [← w1]; omega)]
    exact ⟨_, s, s, ek, em, hs, by omega, by omega, h900⟩
