/-! the reference reads roads -/
theorem wp_M_road {T g : Nat → Int} (hT : TB T) {L p : Nat} {A : zA} (hA : PI A) (hpL : p ≤ L) {s : kM} (h : MX T L g (p, 0, A) s) : wp (f_M_road s) (fun t => MX T L g (pRoad T L p A) t) := by
  obtain ⟨h1, h2, h3, h5⟩ := h
  obtain ⟨k1, k2⟩ := h5 rfl
  have hX : MX T L g (p, 0, A) s := ⟨h1, h2, h3, h5⟩
  dsimp only at h1 k1 k2
  have hL := k1.1.1
  have hb := bl_le (T := T) hpL
  have hR2 := hA.1.1
  have hq := MX_u (q := bl T L p) hX (by omega)
  obtain ⟨m1, m2⟩ := hq.2.2.2 rfl
  dsimp only at m1 m2
  have hf0 : gU s 85 22 ((bl T L p : Nat) : Int) 85 23 = 0 := hq.1
  have st := e_M_stood m1 (w := 15) (by decide)
  rw [kw_same.1] at st
  unfold f_M_road
  rw [e_M_blanks hT k1, Option.bind_some]
  unfold pRoad
  have fail : ∀ c : Nat, c ≤ 10 → f_M_fails c ((bl T L p : Nat) : Int) (gU s 85 22 ((bl T L p : Nat) : Int)) = some (gU (gU s 85 22 ((bl T L p : Nat) : Int)) 85 23 ((flt (bl T L p) c : Nat) : Int)) := fun c hc => by
    rw [e_M_fails (by omega) hc, if_pos hf0]
  by_cases c1 : std T L (bl T L p) WR = true
  · have hl := std_len hb.2 c1
    have hlen : (WR).length = 4 := kw_same.2.2.2.1
    rw [hlen] at hl
    have c1' : std T L (bl T L p) (kstrs.getD 0 []) = true := c1
    rw [if_pos c1'] at st
    have h90 := m2.1
    rw [st, Option.bind_some, if_neg (by decide), if_pos c1, gUs]
    by_cases c2 : aR A = 2
    · have f4 := fail 4 (by omega)
      rw [show ((4 : Nat) : Int) = 4 from rfl] at f4
      rw [if_pos (by rw [h90]; omega), if_pos c2, f4, Option.bind_some, wp_some]
      exact MX_f hq.2.1 ⟨_, m1⟩
    · rw [if_neg (by rw [h90]; omega), if_neg c2, show (4 : Int) = ((4 : Nat) : Int) from rfl, wI_add2 (by omega), gLet_eq, gU_gU, gU_n _ _ _ (show 90 ≠ 85 by decide), k2.1, wI_s (by omega), gLet_eq]
      have hq4 := MX_u (q := bl T L p + 4) hX (by omega)
      obtain ⟨r1, r2⟩ := hq4.2.2.2 rfl
      dsimp only at r1 r2
      obtain ⟨G, hG⟩ : ∃ G, G = gU (gU s 85 22 ((bl T L p + 4 : Nat) : Int)) 90 0 ((aR A + 1 : Nat) : Int) := ⟨_, rfl⟩
      rw [← hG]
      have hKG : MX T L g (bl T L p + 4, 0, iRd A) G := by
        refine ⟨by rw [hG, gU_n _ _ _ (by decide)]; exact hq4.1, m21_n hq4.2.1 (by rw [hG, gU_n _ _ _ (by decide)]), ⟨by rw [hG, gU_n _ _ _ (by decide)]; exact hq4.2.2.1.1, bl T L p + 4, r1.1, by rw [hG, gU_n _ _ _ (by decide)]; exact r1.2.1, by rw [hG, gU_n _ _ _ (by decide)]; exact r1.2.2.1, by rw [hG, gU_n _ _ _ (by decide)]; exact r1.2.2.2⟩, fun _ => ⟨⟨r1.1, by rw [hG, gU_n _ _ _ (by decide)]; exact r1.2.1, by rw [hG, gU_n _ _ _ (by decide)]; exact r1.2.2.1, by rw [hG, gU_n _ _ _ (by decide)]; exact r1.2.2.2⟩, by rw [hG, gUs]; rfl, by rw [hG, gUo _ _ _ (by decide)]; exact r2.2.1, by rw [hG, gUo _ _ _ (by decide)]; exact r2.2.2.1, fun j hj => by rw [hG, gU_n _ _ _ (by decide), gU_n _ _ _ (by decide)]; exact r2.2.2.2.1 j hj, fun i hi => by rw [hG, gU_n _ _ _ (by decide)]; exact r2.2.2.2.2.1 i hi, by rw [hG, gU_n _ _ _ (by decide)]; exact r2.2.2.2.2.2.1, by rw [hG, gU_n _ _ _ (by decide)]; exact r2.2.2.2.2.2.2⟩⟩
      clear hG
      have hPi := PI_iRd hA c2
      obtain ⟨D, hD⟩ : ∃ D, D = pLp T L 23 (bl T L p + 4) (iRd A) := ⟨_, rfl⟩
      rw [← hD]
      obtain ⟨x1, -⟩ := hKG.2.2.2 rfl
      dsimp only at x1
      have hbb := bl_le (T := T) hl
      have hKB := MX_u (q := bl T L (bl T L p + 4)) hKG (by omega)
      obtain ⟨x2, -⟩ := hKB.2.2.2 rfl
      dsimp only at x2
      have so := e_M_stood x2 (w := 16) (by decide)
      rw [kw_same.2.1] at so
      rw [e_M_blanks hT x1, Option.bind_some, so, Option.bind_some]
      have pL0 : ∀ n p' B, pLp T L n (bl T L p') B = pLp T L n p' B ∨ n = 0 := fun n p' B => by
        cases n with
        | zero => exact Or.inr rfl
        | succ n =>
          left
          have e1 : isw T L (bl T L p') = isw T L p' := by unfold isw; rw [bl_bl _ _ rfl]
          have e2 : pNx T L (bl T L p') B = pNx T L p' B := by unfold pNx; rw [bl_bl _ _ rfl]
          rw [pLp_s, pLp_s, e1, e2, bl_bl _ _ rfl]
      unfold f_M_road_45
      refine wp_gL (fun n x => (n = 0 ∧ D.2.1 ≠ 0 ∧ MX T L g D x.2) ∨ (∃ (k q : Nat) (B : zA), n = k + 1 ∧ PI B ∧ 1 ≤ aR B ∧ q ≤ L ∧ bl T L q = q ∧ MX T L g (q, 0, B) x.2 ∧ x.1 = (if std T L q WO = true then 1 else 0) ∧ 23 ≤ k + aN B ∧ pLp T L k q B = D)) ?_ gF 24 _ (by
        refine Or.inr ⟨23, bl T L (bl T L p + 4), iRd A, rfl, hPi, by show 1 ≤ aR A + 1; omega, hbb.2, bl_bl _ _ rfl, hKB, rfl, by omega, ?_⟩
        rcases pL0 23 (bl T L p + 4) (iRd A) with h | h
        · rw [h, hD]
        · omega) (by show 24 < 4096; omega)
      rintro n ⟨y, w⟩ (⟨rfl, hDf, hw⟩ | ⟨k, q, B, rfl, hB, hRB, hqL, hqb, hw, hy, hk, hDD⟩)
      · dsimp only at hw
        have hw1 := hw.1
        dsimp only
        unfold f_M_road_45b
        rw [if_neg (by rw [hw1]; omega), wp_some, gE_r]
        exact hw
      · dsimp only at hw hy
        subst hy
        have hw1 := hw.1
        obtain ⟨w2, w3⟩ := hw.2.2.2 rfl
        dsimp only at w2 w3
        have hnB := okB_n hB.1
        obtain ⟨k', rfl⟩ : ∃ k', k = k' + 1 := ⟨k - 1, by omega⟩
        have su := e_M_stood w2 (w := 17) (by decide)
        rw [kw_same.2.2.1] at su
        rw [pLp_s] at hDD
        -- a pass follows
        have go : ∀ ov : Nat, ov < 2 → isw T L q = true → pNx T L q B = pPs T L ov (q + 1) B → q + 1 ≤ L → ∀ z : Int, z = (ov : Int) → wp (f_M_road_54 z w) (gE (fun x => ∃ m, m < k' + 1 + 1 ∧ ((m = 0 ∧ D.2.1 ≠ 0 ∧ MX T L g D x.2) ∨ (∃ (k q : Nat) (B : zA), m = k + 1 ∧ PI B ∧ 1 ≤ aR B ∧ q ≤ L ∧ bl T L q = q ∧ MX T L g (q, 0, B) x.2 ∧ x.1 = (if std T L q WO = true then 1 else 0) ∧ 23 ≤ k + aN B ∧ pLp T L k q B = D))) (fun t => MX T L g D t)) := by
          intro ov hov hiw hpn hq1 z hz
          subst hz
          unfold f_M_road_54
          obtain ⟨u, f1, u1⟩ := wp_M_pass hT hov hB hRB hq1 hw
          rw [← hpn] at u1
          rw [f1, Option.bind_some]
          rw [if_pos hiw] at hDD
          by_cases c4 : (pNx T L q B).2.1 = 0
          · obtain ⟨y1, y2, y3, y4, y5⟩ := pNx_ok hB hqL c4 hiw
            rw [if_pos c4] at hDD
            have u1' : MX T L g ((pNx T L q B).1, 0, (pNx T L q B).2.2) u := by
              rw [show ((pNx T L q B).1, 0, (pNx T L q B).2.2) = pNx T L q B from by rw [← c4]]
              exact u1
            obtain ⟨v1, -⟩ := u1'.2.2.2 rfl
            dsimp only at v1
            have hbn := bl_le (T := T) y2
            have hvb := MX_u (q := bl T L (pNx T L q B).1) u1' (by omega)
            obtain ⟨v2, -⟩ := hvb.2.2.2 rfl
            dsimp only at v2
            have so2 := e_M_stood v2 (w := 16) (by decide)
            rw [kw_same.2.1] at so2
            rw [e_M_blanks hT v1, Option.bind_some, so2, Option.bind_some, wp_some, gE_l]
            refine ⟨k' + 1, by omega, Or.inr ⟨k', bl T L (pNx T L q B).1, (pNx T L q B).2.2, rfl, y1, by omega, hbn.2, bl_bl _ _ rfl, hvb, rfl, by omega, ?_⟩⟩
            rcases pL0 k' (pNx T L q B).1 (pNx T L q B).2.2 with h | h
            · rw [h, hDD]
            · have := okB_n y1.1
              omega
          · rw [if_neg c4] at hDD
            have u23 : u 85 23 ≠ 0 := by rw [u1.1]; omega
            obtain ⟨q0, u4⟩ := u1.2.2.1.2
            have u5 := MTp_u (q := bl T L q0) u4 (by
              by_cases hq0 : q0 ≤ L
              · have := (bl_le (T := T) hq0).2
                omega
              · rw [bl_no (fun z => by omega)]
                exact u4.1.2)
            have so2 := e_M_stood u5 (w := 16) (by decide)
            rw [e_M_blanks hT u4, Option.bind_some, so2, Option.bind_some, wp_some, gE_l]
            refine ⟨0, by omega, Or.inl ⟨rfl, by rw [← hDD]; exact c4, ?_⟩⟩
            rw [← hDD]
            exact ⟨by dsimp only; rw [gUo _ _ _ (by decide)]; exact u1.1, m21_u u1.2.1 (by decide), ⟨by dsimp only; rw [gU_n _ _ _ (by decide)]; exact u1.2.2.1.1, _, u5⟩, fun z => absurd z c4⟩
        dsimp only
        unfold f_M_road_45b
        rw [if_pos (by rw [hw1]; rfl)]
        by_cases c3 : std T L q WO = true
        · have hiw : isw T L q = true := by unfold isw; rw [hqb, c3]; rfl
          have hl2 := std_len hqL c3
          have hlen2 : (WO).length = 1 := kw_same.2.2.2.2.1
          have hpn : pNx T L q B = pPs T L 1 (q + 1) B := by unfold pNx; rw [hqb, if_pos c3]
          rw [if_pos c3, if_neg (by decide)]
          exact go 1 (by omega) hiw hpn (by omega) 1 rfl
        · rw [if_neg c3, if_pos rfl, su, Option.bind_some]
          by_cases c4 : std T L q WU = true
          · have hiw : isw T L q = true := by unfold isw; rw [hqb, c4, Bool.or_true]
            have hl2 := std_len hqL c4
            have hlen2 : (WU).length = 1 := kw_same.2.2.2.2.2
            have hpn : pNx T L q B = pPs T L 0 (q + 1) B := by unfold pNx; rw [hqb, if_neg c3, if_pos c4]
            have c4' : std T L q (kstrs.getD 2 []) = true := c4
            rw [if_pos c4', if_neg (by decide)]
            exact go 0 (by omega) hiw hpn (by omega) 0 rfl
          · have hiw : ¬ isw T L q = true := by unfold isw; rw [hqb, Bool.eq_false_iff.mpr c3, Bool.eq_false_iff.mpr c4]; decide
            have c4' : ¬ std T L q (kstrs.getD 2 []) = true := c4
            rw [if_neg hiw, hqb] at hDD
            rw [if_neg c4', if_pos rfl, wp_some, gE_r, ← hDD]
            exact hw
  · have f0 := fail 0 (by omega)
    rw [show ((0 : Nat) : Int) = 0 from rfl] at f0
    have c1' : ¬ std T L (bl T L p) (kstrs.getD 0 []) = true := c1
    rw [if_neg c1'] at st
    rw [st, Option.bind_some, if_pos rfl, if_neg c1, gUs, f0, Option.bind_some, wp_some]
    exact MX_f hq.2.1 ⟨_, m1⟩
/-- behind the text -/
def MZ (T : Nat → Int) (L : Nat) (g : Nat → Int) (S : Nat × Nat × zA) (t : kM) : Prop := t 85 23 = ((S.2.1 : Nat) : Int) ∧ m21 L g t ∧ t 105 = T ∧ (S.2.1 = 0 → MP S.2.2 t)
theorem wp_M_text {T g : Nat → Int} (hT : TB T) {L : Nat} {A : zA} (hA : PI A) (hR : aR A = 0) {s : kM} (h : MX T L g (0, 0, A) s) {Q : Int × kM → Prop} (hQ : ∀ t, MZ T L g (pTn T L 3 0 A) t → (∀ z, z ≠ 85 → ¬ (90 ≤ z ∧ z ≤ 93) → t z = s z) → wp (f_M_town_22b 0 t) (gE (fun _ => False) Q)) : wp (f_M_town_22 1 s) Q := by
  obtain ⟨D, hD⟩ : ∃ D, D = pTn T L 3 0 A := ⟨_, rfl⟩
  rw [← hD] at hQ
  unfold f_M_town_22
  refine wp_gL (fun n x => (∀ z, z ≠ 85 → ¬ (90 ≤ z ∧ z ≤ 93) → x.2 z = s z) ∧ ((n = 0 ∧ x.1 = 0 ∧ MZ T L g D x.2) ∨ (∃ (k p : Nat) (B : zA), n = k + 1 ∧ x.1 = 1 ∧ PI B ∧ p ≤ L ∧ aR B + k = 3 ∧ MX T L g (p, 0, B) x.2 ∧ pTn T L k p B = D))) ?_ gF 4 _ (by exact ⟨fun _ _ _ => rfl, Or.inr ⟨3, 0, A, rfl, rfl, hA, by omega, by omega, h, hD.symm⟩⟩) (by show 4 < 4096; omega)
  rintro n ⟨y, w⟩ ⟨fw, (⟨rfl, hy, hw⟩ | ⟨k, p, B, rfl, hy, hB, hpL, hRk, hw, hDD⟩)⟩
  · dsimp only at hy hw fw
    subst hy
    exact (hQ w hw fw).mono (fun a ha => by
      cases a with
      | inl a => exact ha.elim
      | inr a => exact ha)
  · dsimp only at hy hw
    subst hy
    have hR2 := hB.1.1
    obtain ⟨k', rfl⟩ : ∃ k', k = k' + 1 := ⟨k - 1, by omega⟩
    obtain ⟨u, f1, u1⟩ := wp_M_road hT hB hpL hw
    dsimp only at fw
    have fu : ∀ z, z ≠ 85 → ¬ (90 ≤ z ∧ z ≤ 93) → u z = s z := fun z z1 z2 => by rw [w_M_road w u f1 z (by simp [W_M_road]; omega)]; exact fw z z1 z2
    dsimp only
    unfold f_M_town_22b
    rw [if_neg (by decide), f1, Option.bind_some]
    rw [pTn_s] at hDD
    unfold f_M_goesOn f_M_goesOn_19 f_M_goesOn_29 f_M_goesOn_30
    by_cases c4 : (pRoad T L p B).2.1 = 0
    · obtain ⟨x1, x2, x3, x4⟩ := pRoad_ok hB hpL c4
      obtain ⟨z1, z2⟩ := u1.2.2.2 c4
      have hL := z1.1.1
      have hb := bl_le (T := T) x2
      have u1' : MX T L g ((pRoad T L p B).1, 0, (pRoad T L p B).2.2) u := by
        rw [show ((pRoad T L p B).1, 0, (pRoad T L p B).2.2) = pRoad T L p B from by rw [← c4]]
        exact u1
      rw [if_pos c4] at hDD
      have hv := MX_u (q := bl T L (pRoad T L p B).1) u1' (by omega)
      rw [e_M_blanks hT z1, Option.bind_some]
      generalize hq : bl T L (pRoad T L p B).1 = q at hb hv hDD ⊢
      obtain ⟨G, hG⟩ : ∃ G, G = gU u 85 22 (q : Int) := ⟨_, rfl⟩
      rw [← hG] at hv ⊢
      have fG : ∀ z, z ≠ 85 → ¬ (90 ≤ z ∧ z ≤ 93) → G z = s z := fun z z1 z2 => by rw [hG, gU_n _ _ _ z1]; exact fu z z1 z2
      clear hG
      obtain ⟨v1, v2, v3, v4⟩ := hv
      obtain ⟨v5, v6⟩ := v4 rfl
      dsimp only at v1 v5 v6
      have hs := sgn_eq hT (L := L) (p := q) (c := 59) (by decide) (by decide)
      rw [if_pos (show G 85 23 = 0 from v1), v5.2.1, v5.2.2.1]
      have hgb1 : gB 1 = some () := rfl
      have hgb0 : gB 0 = some () := rfl
      by_cases c5 : q < L
      · rw [if_pos c5] at hDD
        rw [if_neg (by omega), e_M_sign v5, Option.bind_some]
        by_cases c6 : T q = 59
        · rw [if_pos c6] at hDD
          rw [if_pos (hs.mpr ⟨c5, c6⟩), if_pos (show G 85 23 = 0 from v1), if_neg (by omega), wI_s (by omega), gLet_eq, hgb1, Option.bind_some, Option.bind_some, wp_some, gE_l]
          exact ⟨k' + 1, by omega, fun z z1 z2 => by dsimp only; rw [gU_n _ _ _ z1]; exact fG z z1 z2, Or.inr ⟨k', q + 1, (pRoad T L p B).2.2, rfl, rfl, x1, by omega, by omega, MX_u (q := q + 1) ⟨v1, v2, v3, v4⟩ (by omega), hDD⟩⟩
        · rw [if_neg c6] at hDD
          have ef := e_M_fails (p := q) (c := 0) (s := G) (by omega) (by omega)
          rw [if_pos (show G 85 23 = 0 from v1), show ((0 : Nat) : Int) = 0 from rfl] at ef
          rw [if_neg (fun z => c6 (hs.mp z).2), ef, Option.bind_some, if_neg (by rw [gUs]; unfold flt; omega), gLet_eq, hgb0, Option.bind_some, Option.bind_some, wp_some, gE_l]
          refine ⟨0, by omega, fun z z1 z2 => by dsimp only; rw [gU_n _ _ _ z1, gU_n _ _ _ z1]; exact fG z z1 z2, Or.inl ⟨rfl, rfl, ?_⟩⟩
          rw [← hDD]
          refine ⟨by dsimp only; rw [gUo _ _ _ (by decide), gUs], m21_u (m21_u v2 (by decide)) (by decide), by dsimp only; rw [gU_n _ _ _ (by decide), gU_n _ _ _ (by decide)]; exact v3.1, fun z => ?_⟩
          have : flt q 0 = 0 := z
          unfold flt at this
          omega
      · rw [if_neg c5] at hDD
        rw [if_pos (by omega), if_pos (show G 85 23 = 0 from v1), if_pos (by omega), gLet_eq, hgb0, Option.bind_some, Option.bind_some, wp_some, gE_l]
        refine ⟨0, by omega, fun z z1 z2 => by dsimp only; rw [gU_n _ _ _ z1]; exact fG z z1 z2, Or.inl ⟨rfl, rfl, ?_⟩⟩
        rw [← hDD]
        exact ⟨by dsimp only; rw [gUo _ _ _ (by decide)]; exact v1, m21_u v2 (by decide), by dsimp only; rw [gU_n _ _ _ (by decide)]; exact v3.1, fun _ => by dsimp only; exact MP_c v6 (gU_n _ _ _ (by decide)) (gU_n _ _ _ (by decide)) (gU_n _ _ _ (by decide)) (gU_n _ _ _ (by decide)) ⟨gUo _ _ _ (by decide), gUo _ _ _ (by decide)⟩⟩
    · rw [if_neg c4] at hDD
      obtain ⟨u2, u3, u4, -⟩ := u1
      obtain ⟨q0, u5⟩ := u4.2
      have hgb0 : gB 0 = some () := rfl
      have hn0 : ¬ gU u 85 22 ((bl T L q0 : Nat) : Int) 85 23 = 0 := by rw [gUo _ _ _ (by decide), u2]; omega
      rw [e_M_blanks hT u5, Option.bind_some, if_neg hn0, if_neg hn0, gLet_eq, hgb0, Option.bind_some, Option.bind_some, wp_some, gE_l]
      refine ⟨0, by omega, fun z z1 z2 => by dsimp only; rw [gU_n _ _ _ z1, gU_n _ _ _ z1]; exact fu z z1 z2, Or.inl ⟨rfl, rfl, ?_⟩⟩
      rw [← hDD]
      exact ⟨by dsimp only; rw [gUo _ _ _ (by decide), gUo _ _ _ (by decide)]; exact u2, m21_u (m21_u u3 (by decide)) (by decide), by dsimp only; rw [gU_n _ _ _ (by decide), gU_n _ _ _ (by decide)]; exact u4.1, fun z => absurd z c4⟩
