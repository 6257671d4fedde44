theorem red20 {T : Nat → Int} (hT : TB T) {L q : Nat} {s t : kM} (hM : MTp T L q s) (hM2 : MTp T L q t) (hc : csg T L q ≠ 0) (g : f_M_isCounted ((q : Nat) : Int) s = some t) : f_M_compared_20 (sgn T L q) s = (f_M_sum (gU t 85 22 ((q + csl (csg T L q) : Nat) : Int))).bind fun q4 => f_M_entry (mt1 (csg T L q)) 0 q4 := by
  obtain ⟨x1, x2⟩ := csg_i hc
  have hL := hM.1.1
  have hM3 := MTp_u hM2 (q := q + 1) (by omega)
  have ew1 : gU t 85 22 (wI (t 85 22 + 1)) = gU t 85 22 ((q + 1 : Nat) : Int) := by rw [hM2.2.2.1, wI_s (by omega)]
  have e49 : ∀ (x y : Int) (z : Nat), z ≤ 1 → f_M_compared_49 x y (gU t 85 22 ((q + 1 : Nat) : Int) 85 22) ((z : Nat) : Int) (gU t 85 22 ((q + 1 : Nat) : Int)) = (f_M_sum (gU t 85 22 ((q + 1 + z : Nat) : Int))).bind fun q4 => if x = 61 then (f_M_entry 6 0 q4) else (if x = 60 then (if y = 0 then (f_M_entry 4 0 q4) else (f_M_entry 5 0 q4)) else (if y = 0 then (f_M_entry 8 0 q4) else (f_M_entry 7 0 q4))) := by
    intro x y z hz
    unfold f_M_compared_49 f_M_compared_73
    rw [gUs, wI_add2 (by omega), gLet_eq, gU_gU]
    simp only [bind_id]
  have red : f_M_compared_20 (sgn T L q) s = if sgn T L q = 61 then f_M_compared_40 (sgn T L q) 0 (gU t 85 22 ((q + 1 : Nat) : Int)) else (if sgn T L (q + 1) = 61 then f_M_compared_40 (sgn T L q) 1 (gU t 85 22 ((q + 1 : Nat) : Int)) else f_M_compared_40 (sgn T L q) 0 (gU t 85 22 ((q + 1 : Nat) : Int))) := by
    unfold f_M_compared_20 f_M_compared_39
    rw [hM.2.2.1, g, Option.bind_some, gLet_eq, ew1, e_M_sign hM3, Option.bind_some]
  have e40 : ∀ x : Int, f_M_compared_40 x 0 (gU t 85 22 ((q + 1 : Nat) : Int)) = _ := fun x => (show f_M_compared_40 x 0 (gU t 85 22 ((q + 1 : Nat) : Int)) = f_M_compared_49 x 0 (gU t 85 22 ((q + 1 : Nat) : Int) 85 22) ((0 : Nat) : Int) (gU t 85 22 ((q + 1 : Nat) : Int)) from rfl).trans (e49 x 0 0 (by omega))
  have e41 : ∀ x : Int, f_M_compared_40 x 1 (gU t 85 22 ((q + 1 : Nat) : Int)) = _ := fun x => (show f_M_compared_40 x 1 (gU t 85 22 ((q + 1 : Nat) : Int)) = f_M_compared_49 x 1 (gU t 85 22 ((q + 1 : Nat) : Int) 85 22) ((1 : Nat) : Int) (gU t 85 22 ((q + 1 : Nat) : Int)) from rfl).trans (e49 x 1 1 (by omega))
  rw [red]
  clear red ew1 e49
  unfold csg at hc ⊢
  by_cases c1 : q < L ∧ T q = 61
  · have es : sgn T L q = 61 := (sgn_eq hT (by decide) (by decide)).mpr c1
    rw [if_pos es, e40, if_pos c1, es]
    rfl
  · have n1 : ¬ sgn T L q = 61 := fun z => c1 ((sgn_eq hT (by decide) (by decide)).mp z)
    rw [if_neg c1] at hc ⊢
    rw [if_neg n1]
    have sq : sgn T L (q + 1) = 61 ↔ q + 1 < L ∧ T (q + 1) = 61 := sgn_eq hT (by decide) (by decide)
    by_cases c2 : q < L ∧ T q = 60
    · have es : sgn T L q = 60 := (sgn_eq hT (by decide) (by decide)).mpr c2
      rw [if_pos c2, es]
      by_cases c3 : q + 1 < L ∧ T (q + 1) = 61
      · rw [if_pos (sq.mpr c3), if_pos c3, e41]
        rfl
      · rw [if_neg (fun z => c3 (sq.mp z)), if_neg c3, e40]
        rfl
    · rw [if_neg c2] at hc ⊢
      by_cases c4 : q < L ∧ T q = 62
      · have es : sgn T L q = 62 := (sgn_eq hT (by decide) (by decide)).mpr c4
        rw [if_pos c4, es]
        by_cases c3 : q + 1 < L ∧ T (q + 1) = 61
        · rw [if_pos (sq.mpr c3), if_pos c3, e41]
          rfl
        · rw [if_neg (fun z => c3 (sq.mp z)), if_neg c3, e40]
          rfl
      · rw [if_neg c4] at hc
        exact absurd rfl hc
theorem csg_s {T : Nat → Int} (hT : TB T) (L q : Nat) : csg T L q ≠ 0 ↔ sgn T L q = 60 ∨ sgn T L q = 61 ∨ sgn T L q = 62 := by
  rw [sgn_eq hT (by decide) (by decide), sgn_eq hT (by decide) (by decide), sgn_eq hT (by decide) (by decide)]
  unfold csg
  constructor
  · intro h
    by_cases c1 : q < L ∧ T q = 61
    · exact Or.inr (Or.inl c1)
    · rw [if_neg c1] at h
      by_cases c2 : q < L ∧ T q = 60
      · exact Or.inl c2
      · rw [if_neg c2] at h
        by_cases c4 : q < L ∧ T q = 62
        · exact Or.inr (Or.inr c4)
        · rw [if_neg c4] at h
          exact absurd rfl h
  · intro h
    by_cases c1 : q < L ∧ T q = 61
    · rw [if_pos c1]; decide
    · rw [if_neg c1]
      by_cases c2 : q < L ∧ T q = 60
      · rw [if_pos c2]; split <;> decide
      · rw [if_neg c2]
        have c4 : q < L ∧ T q = 62 := by rcases h with h | h | h; exact absurd h c2; exact absurd h c1; exact h
        rw [if_pos c4]; split <;> decide
theorem e_cmp {s t : kM} {x : Int} (g : f_M_sum s = some t) (gs : f_M_sign t = some x) : f_M_compared s = if x = 60 ∨ x = 61 ∨ x = 62 then f_M_compared_20 x t else f_M_fails 0 (t 85 22) t := by
  unfold f_M_compared
  rw [g, Option.bind_some, gs, Option.bind_some, bind_id]
  by_cases h1 : x = 60
  · rw [if_pos h1, if_pos (Or.inl h1)]
  · rw [if_neg h1]
    by_cases h2 : x = 61
    · rw [if_pos h2, if_pos (Or.inr (Or.inl h2))]
    · rw [if_neg h2]
      by_cases h3 : x = 62
      · rw [if_pos h3, if_pos (Or.inr (Or.inr h3))]
      · rw [if_neg h3, if_neg (fun q => q.elim h1 (fun q => q.elim h2 h3))]
theorem M_cmp {T : Nat → Int} (hT : TB T) {L k : Nat} (hL : L ≤ 400) (hk : k < 6) : MIt T L k (pC T L) f_M_compared := by
  intro c p n s hn hp hc hX
  obtain ⟨hS, hSb⟩ := It_Sm (T := T) hL
  obtain ⟨i1, i2⟩ := hS p n hp hn
  obtain ⟨t, g1, ht⟩ := M_sum hT hL hk c p n s hn hp hc hX
  -- behind a fault
  have c20E : ∀ (u y : kM) (e q : Nat), MTp T L q u → csg T L q ≠ 0 → f_M_isCounted ((q : Nat) : Int) u = some y → y 85 22 = u 85 22 → MEr T L e y → wp (f_M_compared_20 (sgn T L q) u) (fun w => mfv k y w ∧ MEr T L e w) := by
    intro u y e q hM hcs hg hy22 hE
    obtain ⟨x1, x2⟩ := csg_i hcs
    obtain ⟨⟨p2, hp2, hM2⟩, -⟩ := id hE
    have hMy : MTp T L q y := ⟨hM.1, hM2.2.1, by rw [hy22]; exact hM.2.2.1, hM2.2.2.2⟩
    rw [red20 hT hM hMy hcs hg]
    have hE2 := MEr_u hE (q := q + csl (csg T L q)) (by omega)
    have hM3 := MTp_u hMy (q := q + csl (csg T L q)) (by omega)
    obtain ⟨w, g2, w1, w2⟩ := M_sumE (k := k) hT hE2 hM3 x2.2
    rw [g2, Option.bind_some, e_M_entryE w2, wp_some]
    exact ⟨mfv_t (mfv_85 k y _ (by decide)) w1, w2⟩
  unfold pC
  cases hr : pSm T L p n with
  | inl e0 =>
    rw [hr] at ht
    obtain ⟨t1, t2⟩ := ht
    obtain ⟨⟨q, hq, hM⟩, t3⟩ := id t2
    rw [e_cmp g1 (e_M_sign hM), bR_l]
    by_cases hcs : csg T L q = 0
    · rw [if_neg (fun z => (csg_s hT L q).mpr z hcs), hM.2.2.1]
      have ef : f_M_fails 0 ((q : Nat) : Int) t = some t := e_M_failE (x := 0) t2 (by decide) hM.1.2
      rw [ef, wp_some]
      exact mvo_l t1 t2
    · rw [if_pos ((csg_s hT L q).mp hcs)]
      obtain ⟨y, g2, y1, y0, y2⟩ := e_countedE (q := q) t2 k hM.1.2
      exact (c20E t y e0 q hM hcs g2 y0 y2).mono (fun w hw => mvo_l (mfv_t t1 (mfv_t y1 hw.1)) hw.2)
  | inr z =>
    obtain ⟨c1, q, n1⟩ := z
    rw [hr] at ht
    obtain ⟨t1, t2⟩ := ht
    dsimp only at t2
    obtain ⟨⟨v1, v2, v3, v4⟩, v5, v6, v7⟩ := i2 c1 q n1 hr
    have hlen : (c ++ c1).length = c.length + c1.length := List.length_append
    rw [e_cmp g1 (e_M_sign t2.1), bR_r]
    by_cases hcs : csg T L q = 0
    · have ef : f_M_fails 0 ((q : Nat) : Int) t = some (gU t 85 23 ((flt q 0 : Nat) : Int)) := e_M_failX (x := 0) t2 (by decide) t2.1.1.2
      rw [if_neg (fun z => (csg_s hT L q).mpr z hcs), t2.1.2.2.1, ef, if_pos hcs, wp_some]
      exact mvo_l (mfv_t t1 (mfv_85 k t _ (by decide))) (MVr_e t2 (by omega) (flt_0 _ _))
    · rw [if_pos ((csg_s hT L q).mp hcs), if_neg hcs]
      obtain ⟨x1, x2⟩ := csg_i hcs
      obtain ⟨y, g2, y1, y0, y2⟩ := e_counted (q := q) t2 v4 (by omega) t2.1.1.2
      rcases y2 with ⟨h6, y2⟩ | ⟨h6, y2⟩
      · rw [if_pos h6, red20 hT t2.1 y2.1 hcs g2]
        have hX3 := MVr_u y2 (q := q + csl (csg T L q)) (by omega)
        obtain ⟨w, g3, hw⟩ := M_sum hT hL hk (c ++ c1) (q + csl (csg T L q)) (n1 + 1) _ (by omega) x2.2 (by rw [hlen]; omega) hX3
        obtain ⟨j1, j2⟩ := hS (q + csl (csg T L q)) (n1 + 1) x2.2 (by omega)
        rw [g3, Option.bind_some]
        cases hr2 : pSm T L (q + csl (csg T L q)) (n1 + 1) with
        | inl e0 =>
          rw [hr2] at hw
          obtain ⟨w1, w2⟩ := hw
          rw [e_M_entryE w2, wp_some, bR_l]
          exact mvo_l (mfv_t t1 (mfv_t y1 (mfv_t (mfv_85 k y _ (by decide)) w1))) w2
        | inr z =>
          obtain ⟨c2, q2, n2⟩ := z
          rw [hr2] at hw
          obtain ⟨w1, w2⟩ := hw
          dsimp only at w2
          obtain ⟨⟨r1, r2, r3, r4⟩, r5, r6, r7⟩ := j2 c2 q2 n2 hr2
          have hlen2 : (c ++ c1 ++ c2).length = c.length + c1.length + c2.length := by rw [List.length_append, hlen]
          have hm2 : (0 : Int) = mt2 (csg T L q) := by unfold mt2; rw [if_neg (by omega), if_neg (by omega)]
          obtain ⟨u, g4, u1, u2⟩ := e_M_entryX hk w2 (x := csg T L q) (a := mt1 (csg T L q)) (b := 0) (by omega) rfl hm2
          rw [g4, wp_some, bR_r]
          refine mvo_r (mfv_t t1 (mfv_t y1 (mfv_t (mfv_85 k y _ (by decide)) (mfv_t w1 u2)))) ?_
          rw [← List.append_assoc, ← List.append_assoc]
          exact u1
      · rw [if_neg h6]
        exact (c20E t y _ q t2.1 hcs g2 y0 y2).mono (fun w hw => mvo_l (mfv_t t1 (mfv_t y1 hw.1)) hw.2)
