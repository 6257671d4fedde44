theorem M_value {T : Nat → Int} (hT : TB T) {L k : Nat} (hk : k < 6) : MIt T L k (pV T L) f_M_value := by
  intro c p n s hn hp hc hX
  have hL := hX.1.1.1
  have hb := bl_le (T := T) hp
  have hX1 := MVr_u hX (q := bl T L p) (by omega)
  have hf1 : mfv k s (gU s 85 22 ((bl T L p : Nat) : Int)) := mfv_85 k s _ (by decide)
  unfold f_M_value pV
  rw [e_M_blanks hT hX.1, Option.bind_some]
  generalize bl T L p = q at *
  generalize gU s 85 22 ((q : Nat) : Int) = s1 at *
  rw [e_M_isDigit hT hX1.1, Option.bind_some, hX1.1.2.2.1]
  by_cases hd : dgt T L q = true
  · have hdl := drn_le T L _ q rfl
    have hv := val_lt T L q
    have ed : f_M_digits 99999 s1 = _ := e_M_digits hT hX1.1 hX1.2.1 (m := 99999) (by decide)
    rw [if_pos hd] at ed
    rw [if_pos hd, if_neg (by decide), ed, Option.bind_some, if_pos hd]
    clear ed
    dsimp only
    by_cases h5 : drn T L q ≤ 5
    · rw [if_pos ⟨h5, by omega⟩, if_pos h5]
      have hX2 := MVr_u hX1 (q := q + drn T L q) (by omega)
      have hf2 : mfv k s1 (gU s1 85 22 ((q + drn T L q : Nat) : Int)) := mfv_85 k s1 _ (by decide)
      generalize gU s1 85 22 ((q + drn T L q : Nat) : Int) = s2 at *
      obtain ⟨t, g, t1, t0, t2⟩ := e_counted (q := q) hX2 hn (by omega) (by omega)
      rw [g, Option.bind_some]
      rcases t2 with ⟨h6, t2⟩ | ⟨h6, t2⟩
      · obtain ⟨u, g2, u1, u2⟩ := e_M_entryX hk t2 (x := ((val T L q : Nat) : Int)) (a := 0) (b := ((val T L q : Nat) : Int)) (by omega) (by unfold mt1; rw [if_pos (by omega)]) (by unfold mt2; rw [if_pos (by omega)])
        rw [if_pos h6, g2, Option.bind_some, wp_some]
        exact mvo_r (mfv_t hf1 (mfv_t hf2 (mfv_t t1 u2))) u1
      · rw [if_neg h6, e_M_entryE t2, Option.bind_some, wp_some]
        exact mvo_l (mfv_t hf1 (mfv_t hf2 t1)) t2
    · rw [if_neg (fun z => h5 z.1), if_neg h5]
      have hX2 := MVr_e (e := flt q 1) (MVr_u hX1 (q := q + drn T L q) (by omega)) (by omega) (flt_0 _ _)
      have hf2 : mfv k s1 (gU (gU s1 85 22 ((q + drn T L q : Nat) : Int)) 85 23 ((flt q 1 : Nat) : Int)) := mfv_t (mfv_85 k s1 _ (by decide)) (mfv_85 k _ _ (by decide))
      generalize gU (gU s1 85 22 ((q + drn T L q : Nat) : Int)) 85 23 ((flt q 1 : Nat) : Int) = s2 at *
      obtain ⟨t, g, t1, t0, t2⟩ := e_countedE (q := q) hX2 k (by omega)
      rw [g, Option.bind_some, e_M_entryE t2, Option.bind_some, wp_some]
      exact mvo_l (mfv_t hf1 (mfv_t hf2 t1)) t2
  · rw [if_neg hd, if_pos rfl, if_neg hd, e_22 hX1.1 hX1.2.2.2.2.2.1]
    unfold f_M_value_33
    rw [hX1.2.2.2.2.2.1]
    by_cases hw : fw T L q 8 0 < 8
    · have hs := fw_std (T := T) (L := L) (q := q) 8 0 (by omega)
      have hl := std_len hb.2 hs
      rw [if_neg (by omega), if_pos hw]
      generalize fw T L q 8 0 = w at *
      obtain ⟨t, g, t1, t0, t2⟩ := e_counted (q := q) hX1 hn (by omega) (by omega)
      have hJ : gJ (20 + w) = some () := by unfold gJ; rw [if_pos (by omega)]
      have hlen : (kstrs.getD (20 + w) []).length = (wnm w).length := by rw [wnm_20 ⟨w, hw⟩]
      rw [g, Option.bind_some, e_wordOf hw, Option.bind_some, hJ, Option.bind_some, gLet_eq, hlen]
      rcases t2 with ⟨h6, t2⟩ | ⟨h6, t2⟩
      · have hX3 := MVr_u t2 (q := q + (wnm w).length) (by omega)
        rw [if_pos h6, t2.1.2.2.1, wI_add2 (by omega)]
        obtain ⟨u, g2, u1, u2⟩ := e_M_entryX hk hX3 (x := -1 - (w : Int)) (a := 1) (b := (w : Int)) (by omega) (by unfold mt1; rw [if_neg (by omega), if_pos (by omega)]) (by unfold mt2; rw [if_neg (by omega), if_pos (by omega)]; omega)
        rw [g2, Option.bind_some, wp_some]
        exact mvo_r (mfv_t hf1 (mfv_t t1 (mfv_t (mfv_85 k _ _ (by decide)) u2))) u1
      · obtain ⟨⟨p2, hp2, hM2⟩, t3⟩ := id t2
        have e22 : t 85 22 = (q : Int) := by rw [t0]; exact hX1.1.2.2.1
        rw [if_neg h6, e22, wI_add2 (by omega), e_M_entryE (MEr_u t2 (by omega)), Option.bind_some, wp_some]
        exact mvo_l (mfv_t hf1 (mfv_t t1 (mfv_85 k _ _ (by decide)))) (MEr_u t2 (by omega))
    · have hw8 : fw T L q 8 0 = 8 := by
        have : ∀ k w, fw T L q k w ≤ w + k := by
          intro k
          induction k with
          | zero => intro w; exact Nat.le_refl _
          | succ k ih =>
            intro w
            rw [fw_s]
            split
            · omega
            · have := ih (w + 1); omega
        have := this 8 0
        omega
      have ef : f_M_fails 0 q s1 = some (gU s1 85 23 ((flt q 0 : Nat) : Int)) := e_M_failX (x := 0) hX1 (by decide) (by omega)
      rw [if_pos (by rw [hw8]; rfl), if_neg hw, ef, Option.bind_some, wp_some]
      exact mvo_l (mfv_t hf1 (mfv_85 k _ _ (by decide))) (MVr_e hX1 (by omega) (flt_0 _ _))
theorem e_digE {T : Nat → Int} (hT : TB T) {L e p : Nat} {s : kM} (h : MEr T L e s) (hM : MTp T L p s) (hp : p ≤ L) : ∃ zv q, q ≤ L ∧ f_M_digits 99999 s = some (zv, gU s 85 22 ((q : Nat) : Int)) := by
  have hL := hM.1.1
  have eid : gU s 85 22 ((p : Nat) : Int) = s := gU_id hM.2.2.1
  unfold f_M_digits
  rw [e_M_isDigit hT hM, Option.bind_some]
  by_cases hd : dgt T L p = true
  · rw [if_pos hd, if_neg (by decide), hM.2.2.1]
    unfold f_M_digits_15
    have key : wp (gL (fun (x : Int × kM) => f_M_digits_15b 99999 ((p : Nat) : Int) x.1 x.2) gF (0, s)) (fun r => ∃ zv q, q ≤ L ∧ r = (zv, gU s 85 22 ((q : Nat) : Int))) := by
      refine wp_gL (fun m x => ∃ q, q ≤ L ∧ L - q = m ∧ x.2 = gU s 85 22 ((q : Nat) : Int)) ?_ gF (L - p) _ ⟨p, hp, rfl, eid.symm⟩ (by show L - p < 4096; omega)
      rintro m ⟨y1, t⟩ ⟨q, hq, hm, rfl⟩
      have hMq := MTp_u hM (q := q) (by omega)
      have hE := MEr_u h (q := q) (by omega)
      dsimp only
      unfold f_M_digits_15b f_M_digits_51 f_M_digits_34
      have ef : f_M_fails 1 ((p : Nat) : Int) (gU s 85 22 ((q : Nat) : Int)) = some (gU s 85 22 ((q : Nat) : Int)) := e_M_failE (x := 1) hE (by decide) (by omega)
      rw [e_M_isDigit hT hMq, Option.bind_some, e_M_sign hMq, Option.bind_some, ef, Option.bind_some]
      by_cases hd2 : dgt T L q = true
      · have := dgt_i hd2
        have e1 : gU (gU s 85 22 ((q : Nat) : Int)) 85 22 (wI (gU s 85 22 ((q : Nat) : Int) 85 22 + 1)) = gU s 85 22 ((q + 1 : Nat) : Int) := by rw [gU_gU, gUs, wI_s (by omega)]
        rw [if_pos hd2, if_neg (by decide), gLet_eq, gLet_eq, e1]
        split
        · rw [wp_some, gE_l]
          exact ⟨L - (q + 1), by omega, q + 1, by omega, rfl, rfl⟩
        · rw [wp_some, gE_l]
          exact ⟨L - (q + 1), by omega, q + 1, by omega, rfl, rfl⟩
      · rw [if_neg hd2, if_pos rfl]
        have fin : wp (some (Sum.inr (y1, gU s 85 22 ((q : Nat) : Int)) : (Int × kM) ⊕ (Int × kM))) (gE (fun y => ∃ m_1, m_1 < m ∧ ∃ q, q ≤ L ∧ L - q = m_1 ∧ y.2 = gU s 85 22 ((q : Nat) : Int)) (fun r => ∃ zv q, q ≤ L ∧ r = (zv, gU s 85 22 ((q : Nat) : Int)))) := by
          rw [wp_some, gE_r]
          exact ⟨y1, q, hq, rfl⟩
        split
        · exact fin
        · split
          · exact fin
          · exact fin
    obtain ⟨r, g, zv, q, hq, rfl⟩ := key
    exact ⟨zv, q, hq, g⟩
  · have ef : f_M_fails 0 (s 85 22) s = some s := by rw [hM.2.2.1]; exact e_M_failE (x := 0) h (by decide) hM.1.2
    rw [if_neg hd, if_pos rfl, ef, Option.bind_some]
    exact ⟨0, p, hp, by rw [eid]⟩
theorem fw_le (T : Nat → Int) (L q : Nat) : ∀ k w, fw T L q k w ≤ w + k := by
  intro k
  induction k with
  | zero => intro w; exact Nat.le_refl _
  | succ k ih =>
    intro w
    rw [fw_s]
    split
    · omega
    · have := ih (w + 1)
      omega
/-- behind a fault a value is read in vain -/
theorem M_valueE {T : Nat → Int} (hT : TB T) {L k e p : Nat} {s : kM} (h : MEr T L e s) (hM : MTp T L p s) (hp : p ≤ L) : wp (f_M_value s) (fun t => mfv k s t ∧ MEr T L e t) := by
  have hL := hM.1.1
  have hb := bl_le (T := T) hp
  have hE1 := MEr_u h (q := bl T L p) (by omega)
  have hM1 := MTp_u hM (q := bl T L p) (by omega)
  have hf1 : mfv k s (gU s 85 22 ((bl T L p : Nat) : Int)) := mfv_85 k s _ (by decide)
  unfold f_M_value
  rw [e_M_blanks hT hM, Option.bind_some]
  generalize bl T L p = q at *
  generalize gU s 85 22 ((q : Nat) : Int) = s1 at *
  rw [e_M_isDigit hT hM1, Option.bind_some, hM1.2.2.1]
  by_cases hd : dgt T L q = true
  · obtain ⟨zv, q2, hq2, g⟩ := e_digE hT hE1 hM1 hb.2
    rw [if_pos hd, if_neg (by decide), g, Option.bind_some]
    dsimp only
    obtain ⟨t, g2, t1, t0, t2⟩ := e_countedE (q := q) (MEr_u hE1 (q := q2) (by omega)) k (by omega)
    rw [g2, Option.bind_some, e_M_entryE t2, Option.bind_some, wp_some]
    exact ⟨mfv_t hf1 (mfv_t (mfv_85 k _ _ (by decide)) t1), t2⟩
  · rw [if_neg hd, if_pos rfl, e_22 hM1 hE1.2.2.2]
    have hw := fw_le T L q 8 0
    unfold f_M_value_33
    rw [hE1.2.2.2]
    by_cases hw8 : fw T L q 8 0 < 8
    · have hs := fw_std (T := T) (L := L) (q := q) 8 0 (by omega)
      have hl := std_len hb.2 hs
      rw [if_neg (by omega)]
      generalize fw T L q 8 0 = w at *
      obtain ⟨t, g, t1, t0, t2⟩ := e_countedE (q := q) hE1 k (by omega)
      have hJ : gJ (20 + w) = some () := by unfold gJ; rw [if_pos (by omega)]
      have hlen : (kstrs.getD (20 + w) []).length = (wnm w).length := by rw [wnm_20 ⟨w, hw8⟩]
      have e22 : t 85 22 = (q : Int) := by rw [t0]; exact hM1.2.2.1
      rw [g, Option.bind_some, e_wordOf hw8, Option.bind_some, hJ, Option.bind_some, gLet_eq, hlen, e22, wI_add2 (by omega), e_M_entryE (MEr_u t2 (by omega)), Option.bind_some, wp_some]
      exact ⟨mfv_t hf1 (mfv_t t1 (mfv_85 k _ _ (by decide))), MEr_u t2 (by omega)⟩
    · have ef : f_M_fails 0 q s1 = some s1 := e_M_failE (x := 0) hE1 (by decide) (by omega)
      rw [if_pos (by omega), ef, Option.bind_some, wp_some]
      exact ⟨hf1, hE1⟩
