theorem rep_9 (x : Nat) (st : List Nat) : ∀ i, List.replicate i x ++ x :: st = List.replicate (i + 1) x ++ st
  | 0 => rfl
  | i + 1 => by
    show x :: (List.replicate i x ++ x :: st) = x :: (List.replicate (i + 1) x ++ st)
    rw [rep_9 x st i]
theorem rep_s (x : Int) : ∀ i, List.replicate i x ++ [x] = List.replicate (i + 1) x
  | 0 => rfl
  | i + 1 => by
    show x :: (List.replicate i x ++ [x]) = x :: List.replicate (i + 1) x
    rw [rep_s x i]
/-- the end of a test -/
theorem e_end {T : Nat → Int} (hT : TB T) {L k : Nat} (hk : k < 6) {st : List Nat} (hst : hd st ≠ 9 ∧ hd st ≠ 10 ∧ hd st ≠ 11) {c c0 : List Int} {i l o q n : Nat} {t : kM} (hL : L ≤ 400) (h2 : q ≤ L) (hn : n ≤ 60) (h5 : l ≤ 1) (h5' : o ≤ 1) (h7 : 3 * (c.length + (c0.length + i + l + o) + pnd st) + 3 ≤ 6 * n + q) (h8 : i + l + o + st.length ≤ q) (h11 : MXr T L k (List.replicate i 9 ++ (List.replicate l 10 ++ (List.replicate o 11 ++ st))) (c ++ c0) q n t) (j1 : jt T L 1 (bl T L q) = none) (j0 : jt T L 0 (bl T L q) = none) : ∃ d, MXr T L k st (c ++ (c0 ++ List.replicate i (-22) ++ List.replicate l (-20) ++ List.replicate o (-21))) (bl T L q) n d ∧ mft k t d ∧ fTt (0, 1, t) = if hd st = 12 then ((f_M_sign d).bind fun q18 => if q18 = 93 then (f_M_test_83 0 1 d) else ((f_M_fails 0 (d 85 22) d).bind fun q20 => f_M_test_83 0 1 q20)) else some (.inl (0, 0, d)) := by
  have hb := bl_le (T := T) h2
  have hlen1 : (c ++ c0).length = c.length + c0.length := List.length_append
  rw [jt_1] at j1
  rw [jt_0] at j0
  have hna : ¬ std T L (bl T L q) (kstrs.getD 14 []) = true := fun z => by rw [if_pos z] at j1; cases j1
  have hno : ¬ std T L (bl T L q) (kstrs.getD 13 []) = true := fun z => by rw [if_pos z] at j0; cases j0
  obtain ⟨a, g9, a1, a2, gb, b1⟩ := e_look9 hT hk (i := i) (hd_10 h5 (hd_10 h5' hst.1 (by decide)) (by decide)) h2 (by rw [rep_len, rep_len]; omega) (by omega) h11
  have hf2 : mft k a (gU a 85 22 ((bl T L q : Nat) : Int)) := mft_85 k a _ (by decide)
  generalize gU a 85 22 ((bl T L q : Nat) : Int) = b at gb b1 hf2
  have hlen2 : (c ++ c0 ++ List.replicate i (-22 : Int)).length = c.length + c0.length + i := by rw [List.length_append, hlen1, List.length_replicate]
  obtain ⟨f, g10, f1, f2⟩ := e_ans hk (x := 10) (by omega) (hd_10 h5' hst.2.1 (by decide)) (by rw [rep_len, rep_len]; omega) (by omega) b1
  have hlen4 : (c ++ c0 ++ List.replicate i (-22 : Int) ++ List.replicate l (tk 10)).length = c.length + c0.length + i + l := by rw [List.length_append, hlen2, List.length_replicate]
  obtain ⟨f', g11, f1', f2'⟩ := e_ans hk (x := 11) (by omega) hst.2.2 (by rw [rep_len]; omega) (by omega) f1
  have e28 : f_M_stood 28 b = some 0 := by rw [e_M_stood b1.1.1 (by decide), std_and.1, if_neg hna]
  have e29 : f_M_stood 29 b = some 0 := by rw [e_M_stood b1.1.1 (by decide), std_and.2, if_neg hno]
  have g10' : f_M_answers 10 b = some f := g10
  have g11' : f_M_answers 11 f = some f' := g11
  have et := e_top f1'.2.2.1 f1'.2.2.2 (by omega)
  have hcc : c ++ c0 ++ List.replicate i (-22) ++ List.replicate l (tk 10) ++ List.replicate o (tk 11) = c ++ (c0 ++ List.replicate i (-22) ++ List.replicate l (-20) ++ List.replicate o (-21)) := by
    rw [← List.append_assoc, ← List.append_assoc, ← List.append_assoc]
    rfl
  rw [hcc] at f1'
  refine ⟨f', f1', mft_t a2 (mft_t hf2 (mft_t f2 f2')), ?_⟩
  show f_M_test_7b 0 1 t = _
  unfold f_M_test_7b
  rw [if_neg (by decide), if_pos h11.1.2.1, if_pos rfl, g9, Option.bind_some, gb, Option.bind_some, e28, Option.bind_some, e29, Option.bind_some, g10', Option.bind_some, if_pos rfl, if_pos rfl, g11', Option.bind_some, et, Option.bind_some]
  rfl
theorem MEr_x {T : Nat → Int} {L e : Nat} {s : kM} (h : MEr T L e s) {i : Nat} (x : Int) (hi : i = 27 ∨ i = 29) : MEr T L e (gU s 85 i x) := by
  obtain ⟨⟨p, hp, a1, a2, a3, a4⟩, h2, h3, h4⟩ := h
  refine ⟨⟨p, hp, a1, by rw [gUo _ _ _ (by omega)]; exact a2, by rw [gUo _ _ _ (by omega)]; exact a3, by rw [gU_n _ _ _ (by decide)]; exact a4⟩, by rw [gUo _ _ _ (by omega)]; exact h2, h3, by rw [gUo _ _ _ (by omega)]; exact h4⟩
theorem std_not : kstrs.getD 19 [] = kstrs.getD 4 [] ∧ kstrs.getD 18 [] = kstrs.getD 3 [] := by decide
theorem sim_fact {T : Nat → Int} (hT : TB T) {L k : Nat} (hL : L ≤ 400) (hk : k < 6) : ∀ (e d : Nat), d + e = 10 → ∀ st c p n s, cnd L d st c p n → MXr T L k st c p n s → res (pF T L e p n) (SE T L k p s) (SF T L k st c p s) := by
  intro e
  induction e with
  | zero =>
    intro d hd st c p n s hc hX
    obtain ⟨a1, a2, a3, a4, a5⟩ := hc
    have hb := bl_le (T := T) a2
    have hXb := MXr_v hX (mfv_85 k s _ (by decide)) (MVr_u hX.1 (q := bl T L p) (by omega))
    have hfb : mfv k s (gU s 85 22 ((bl T L p : Nat) : Int)) := mfv_85 k s _ (by decide)
    have gb := e_M_blanks hT hX.1.1
    rw [pF_0]
    unfold isN
    generalize bl T L p = q at *
    generalize gU s 85 22 ((q : Nat) : Int) = b at *
    have e19 : f_M_stood 19 b = some (if std T L q (kstrs.getD 4 []) = true then 1 else 0) := by rw [e_M_stood hXb.1.1 (by decide), std_not.1]
    have step : ∀ (r : Int) (u : kM), f_M_fact s = some (r, u) → fTt (1, 1, s) = some (.inl (if r = 0 then 1 else 0, 1, u)) := by
      intro r u g
      show f_M_test_7b 1 1 s = _
      unfold f_M_test_7b f_M_test_20
      rw [if_neg (by decide), if_pos hX.1.2.1, if_neg (by decide), g, Option.bind_some]
      dsimp only
      by_cases hr : r = 0
      · rw [if_pos hr, if_pos hr]
      · rw [if_neg hr, if_neg hr]
    have fail : ∀ (x y : Nat), (x = 9 ∨ x = 12) → q + y ≤ L → (∀ u : kM, f_M_opens (x : Int) b = some u → f_M_fact s = some (0, gU u 85 22 (wI (u 85 22 + (y : Int))))) → SE T L k p s (flt q 2) := by
      intro x y hx hy hg
      obtain ⟨u, go, u1, u2, u3⟩ := e_openF hXb hb.2 (by omega) (by omega) hx
      have := hg u go
      rw [u3, wI_add2 (by omega)] at this
      have st1 := step _ _ this
      exact ⟨1, 1, _, by omega, Rch_1 st1, mft_t (mft_v hfb) (mft_t u2 (mft_85 k u _ (by decide))), MEr_u u1 (by omega)⟩
    by_cases hs : std T L q (kstrs.getD 4 []) = true
    · have hl : q + 3 ≤ L := std_len hb.2 hs
      rw [if_pos (Or.inl hs)]
      refine fail 9 3 (Or.inl rfl) hl (fun u go => ?_)
      have go' : f_M_opens 9 b = some u := go
      unfold f_M_fact
      rw [gb, Option.bind_some, e19, if_pos hs, Option.bind_some, if_neg (by decide), go', Option.bind_some, gLet_eq]
      rfl
    · by_cases h9 : q < L ∧ T q = 91
      · have es : sgn T L q = 91 := (sgn_eq hT (by decide) (by decide)).mpr h9
        rw [if_pos (Or.inr h9)]
        refine fail 12 1 (Or.inr rfl) (by omega) (fun u go => ?_)
        have go' : f_M_opens 12 b = some u := go
        unfold f_M_fact
        rw [gb, Option.bind_some, e19, if_neg hs, Option.bind_some, if_pos rfl, e_M_sign hXb.1.1, Option.bind_some, if_pos es, go', Option.bind_some, gLet_eq]
        rfl
      · have es : ¬ sgn T L q = 91 := fun z => h9 ((sgn_eq hT (by decide) (by decide)).mp z)
        rw [if_neg (fun z => z.elim hs h9)]
        obtain ⟨u, g, hu⟩ := M_cmp hT hL hk c q n b a1 hb.2 (by omega) hXb.1
        have gf : f_M_fact s = some (1, u) := by
          unfold f_M_fact
          rw [gb, Option.bind_some, e19, if_neg hs, Option.bind_some, if_pos rfl, e_M_sign hXb.1.1, Option.bind_some, if_neg es, g, Option.bind_some]
        have st1 := step _ _ gf
        rw [if_neg (by decide)] at st1
        obtain ⟨i1, i2⟩ := It_C (T := T) hL q n hb.2 a1
        cases hv : pC T L q n with
        | inl e0 =>
          rw [hv] at hu
          exact ⟨1, 0, u, by omega, Rch_1 st1, mft_t (mft_v hfb) (mft_v hu.1), hu.2⟩
        | inr y =>
          obtain ⟨c2, p3, n3⟩ := y
          rw [hv] at hu
          obtain ⟨⟨v1, v2, v3, v4⟩, v5, v6, v7⟩ := i2 c2 p3 n3 hv
          exact ⟨1, 0, c2, u, by dsimp only; omega, (List.append_nil _).symm, by dsimp only; omega, Rch_1 st1, mft_t (mft_v hfb) (mft_v hu.1), MXr_v hXb hu.1 hu.2⟩
  | succ e ih =>
    intro d hd' st c p n s hc hX
    obtain ⟨a1, a2, a3, a4, a5⟩ := hc
    have hb := bl_le (T := T) a2
    have hXb := MXr_v hX (mfv_85 k s _ (by decide)) (MVr_u hX.1 (q := bl T L p) (by omega))
    have hfb : mfv k s (gU s 85 22 ((bl T L p : Nat) : Int)) := mfv_85 k s _ (by decide)
    have gb := e_M_blanks hT hX.1.1
    rw [pF_s]
    unfold isN
    generalize bl T L p = q at *
    generalize gU s 85 22 ((q : Nat) : Int) = b at *
    have e19 : f_M_stood 19 b = some (if std T L q (kstrs.getD 4 []) = true then 1 else 0) := by rw [e_M_stood hXb.1.1 (by decide), std_not.1]
    have step : ∀ (r : Int) (u : kM), f_M_fact s = some (r, u) → fTt (1, 1, s) = some (.inl (if r = 0 then 1 else 0, 1, u)) := by
      intro r u g
      show f_M_test_7b 1 1 s = _
      unfold f_M_test_7b f_M_test_20
      rw [if_neg (by decide), if_pos hX.1.2.1, if_neg (by decide), g, Option.bind_some]
      dsimp only
      by_cases hr : r = 0
      · rw [if_pos hr, if_pos hr]
      · rw [if_neg hr, if_neg hr]
    by_cases hs : std T L q (kstrs.getD 4 []) = true
    · have hl : q + 3 ≤ L := std_len hb.2 hs
      rw [if_pos hs]
      obtain ⟨u, go, u1, u2⟩ := e_openD hXb (by omega) (by omega) (x := 9) (by omega)
      have go' : f_M_opens 9 b = some u := go
      have e3 : wI (u 85 22 + 3) = ((q + 3 : Nat) : Int) := by rw [u1.1.1.2.2.1]; exact wI_add2 (b := 3) (by omega)
      have gf : f_M_fact s = some (0, gU u 85 22 ((q + 3 : Nat) : Int)) := by
        unfold f_M_fact
        rw [gb, Option.bind_some, e19, if_pos hs, Option.bind_some, if_neg (by decide), go', Option.bind_some, gLet_eq, e3]
      clear e3
      have hXu := MXr_v u1 (mfv_85 k u _ (by decide)) (MVr_u u1.1 (q := q + 3) (by omega))
      have hfu : mft k s (gU u 85 22 ((q + 3 : Nat) : Int)) := mft_t (mft_v hfb) (mft_t u2 (mft_85 k u _ (by decide)))
      have st1 := step _ _ gf
      rw [if_pos rfl] at st1
      generalize gU u 85 22 ((q + 3 : Nat) : Int) = v at *
      have hpn : pnd (9 :: st) = 1 + pnd st := rfl
      have hdp : dep (9 :: st) = 1 + dep st := rfl
      have hr := ih (d + 1) (by omega) (9 :: st) c (q + 3) n v ⟨a1, hl, by rw [hpn]; omega, by show st.length + 1 ≤ _; omega, by rw [hdp]; omega⟩ hXu
      obtain ⟨i1, i2⟩ := It_F (T := T) hL e (q + 3) n hl a1
      cases hv : pF T L e (q + 3) n with
      | inl e0 =>
        rw [hv] at hr
        obtain ⟨j2, x1, w2, k1, k2, k3, k4⟩ := hr
        rw [bR_l]
        exact ⟨1 + j2, x1, w2, by omega, Rch_t (Rch_1 st1) k2, mft_t hfu k3, k4⟩
      | inr y =>
        obtain ⟨c2, p3, n3⟩ := y
        rw [hv] at hr
        obtain ⟨j2, i', c0', w2, k1, k2, k3, k4, k5, k6⟩ := hr
        dsimp only at k1 k2 k3 k6
        obtain ⟨⟨v1, v2, v3, v4⟩, v5, v6, v7⟩ := i2 c2 p3 n3 hv
        have k3' : i' + (st.length + 1) ≤ p3 := k3
        rw [bR_r]
        refine ⟨1 + j2, i' + 1, c0', w2, by dsimp only; omega, ?_, by dsimp only; omega, Rch_t (Rch_1 st1) k4, mft_t hfu k5, ?_⟩
        · dsimp only
          rw [k2, List.append_assoc, rep_s]
        · rw [← rep_9]
          exact k6
    · rw [if_neg hs]
      by_cases h9 : q < L ∧ T q = 91
      · have es : sgn T L q = 91 := (sgn_eq hT (by decide) (by decide)).mpr h9
        rw [if_pos h9]
        obtain ⟨u, go, u1, u2⟩ := e_openD hXb (by omega) (by omega) (x := 12) (by omega)
        have go' : f_M_opens 12 b = some u := go
        have e3 : wI (u 85 22 + 1) = ((q + 1 : Nat) : Int) := by rw [u1.1.1.2.2.1]; exact wI_s (by omega)
        have gf : f_M_fact s = some (0, gU u 85 22 ((q + 1 : Nat) : Int)) := by
          unfold f_M_fact
          rw [gb, Option.bind_some, e19, if_neg hs, Option.bind_some, if_pos rfl, e_M_sign hXb.1.1, Option.bind_some, if_pos es, go', Option.bind_some, gLet_eq, e3]
        clear e3
        have hXu := MXr_v u1 (mfv_85 k u _ (by decide)) (MVr_u u1.1 (q := q + 1) (by omega))
        have hfu : mft k s (gU u 85 22 ((q + 1 : Nat) : Int)) := mft_t (mft_v hfb) (mft_t u2 (mft_85 k u _ (by decide)))
        have st1 := step _ _ gf
        rw [if_pos rfl] at st1
        generalize gU u 85 22 ((q + 1 : Nat) : Int) = v at *
        have hpn : pnd (12 :: st) = pnd st := by show 0 + pnd st = pnd st; omega
        have hdp : dep (12 :: st) = 1 + dep st := rfl
        have hst12 : hd (12 :: st) ≠ 9 ∧ hd (12 :: st) ≠ 10 ∧ hd (12 :: st) ≠ 11 := ⟨by show ((12 : Nat) : Int) ≠ 9; decide, by show ((12 : Nat) : Int) ≠ 10; decide, by show ((12 : Nat) : Int) ≠ 11; decide⟩
        have hIF := It_F (T := T) hL e
        have hr := sim_test hT hL hk hIF (ih (d + 1) (by omega)) (12 :: st) hst12 c (q + 1) n v ⟨a1, by omega, by rw [hpn]; omega, by show st.length + 1 ≤ _; omega, by rw [hdp]; omega⟩ hXu
        have hTT := It_T (T := T) hL hIF
        obtain ⟨i1, i2⟩ := hTT.1 (q + 1) n (by omega) a1
        cases hv : pT T L (pF T L e) (q + 1) n with
        | inl e0 =>
          rw [hv] at hr
          obtain ⟨j2, x1, w2, k1, k2, k3, k4⟩ := hr
          rw [bR_l]
          exact ⟨1 + j2, x1, w2, by omega, Rch_t (Rch_1 st1) k2, mft_t hfu k3, k4⟩
        | inr y =>
          obtain ⟨c2, p3, n3⟩ := y
          rw [hv] at hr
          obtain ⟨j2, i', l', o', c0', q', t, k1, k1', k1'', k2, kl, ko, k3, k3', k4, k5, k6, k7, k7', k8⟩ := hr
          dsimp only at k2 k3 k6 k7 k7' k8
          obtain ⟨⟨v1, v2, v3, v4⟩, v5, v6, v7⟩ := i2 c2 p3 n3 hv
          have hc2 : c2.length = c0'.length + i' + l' + o' := by rw [k3, List.length_append, List.length_append, List.length_append, List.length_replicate, List.length_replicate, List.length_replicate]
          have hbq := bl_le (T := T) k1''
          rw [k2] at k7 k7'
          obtain ⟨g, g1, g2, g3⟩ := e_end hT hk hst12 hL k1'' v4 kl ko (by omega) k3' k6 k7 k7'
          rw [← k3, ← k2] at g1
          have eh : hd (12 :: st) = 12 := rfl
          rw [if_pos eh, e_M_sign g1.1.1, Option.bind_some, g1.1.1.2.2.1] at g3
          have hl29 : g 85 29 = ((st.length + 1 : Nat) : Int) := g1.2.2.1
          have hl27 : g 85 27 = ((1 + dep st : Nat) : Int) := g1.2.1
          have hdl := dep_le st
          have e83 : ∀ w : kM, w 85 22 = (p3 : Int) → w 85 29 = g 85 29 → w 85 27 = g 85 27 → f_M_test_83 0 1 w = some (.inl (0, 1, gU (gU (gU w 85 22 ((p3 + 1 : Nat) : Int)) 85 29 ((st.length : Nat) : Int)) 85 27 ((dep st : Nat) : Int))) := by
            intro w w1 w2 w3
            have z1 : wI (((st.length + 1 : Nat) : Int) - 1) = ((st.length : Nat) : Int) := by rw [wI_id (by omega) (by omega)]; omega
            have z2 : wI (((1 + dep st : Nat) : Int) - 1) = ((dep st : Nat) : Int) := by rw [wI_id (by omega) (by omega)]; omega
            unfold f_M_test_83 f_M_test_104
            rw [gLet_eq, gLet_eq, gLet_eq, w1, wI_s (by clear z1 z2; omega), gUo _ _ _ (show 29 ≠ 22 by decide), w2, hl29, z1, gUo _ _ _ (show 27 ≠ 29 by decide), gUo _ _ _ (show 27 ≠ 22 by decide), w3, hl27, z2]
          rw [bR_r]
          by_cases h93 : p3 < L ∧ T p3 = 93
          · rw [if_pos ((sgn_eq hT (by decide) (by decide)).mpr h93), e83 g g1.1.1.2.2.1 rfl rfl] at g3
            rw [if_pos h93]
            refine ⟨1 + j2 + 1, 0, c2, _, by dsimp only; omega, (List.append_nil _).symm, by dsimp only; omega, Rch_t (Rch_t (Rch_1 st1) k4) (Rch_1 g3), mft_t hfu (mft_t k5 (mft_t g2 (mft_t (mft_85 k g _ (by decide)) (mft_t (mft_85 k _ _ (by decide)) (mft_85 k _ _ (by decide)))))), ?_⟩
            exact ⟨MVr_85 (MVr_85 (MVr_u g1.1 (show p3 + 1 ≤ 1000 by omega)) _ (by decide)) _ (by decide), gUs _ _ _ _, by rw [gUo _ _ _ (by decide), gUs]; rfl, Sk_c st (fun i _ => by rw [gU_n _ _ _ (by decide), gU_n _ _ _ (by decide), gU_n _ _ _ (by decide)]) g1.2.2.2.2⟩
          · have ef : f_M_fails 0 ((p3 : Nat) : Int) g = some (gU g 85 23 ((flt p3 0 : Nat) : Int)) := e_M_failX (x := 0) g1.1 (by decide) (by omega)
            rw [if_neg (fun z => h93 ((sgn_eq hT (by decide) (by decide)).mp z)), ef, Option.bind_some, e83 _ (by rw [gUo _ _ _ (by decide)]; exact g1.1.1.2.2.1) (gUo _ _ _ (by decide)) (gUo _ _ _ (by decide))] at g3
            rw [if_neg h93]
            refine ⟨1 + j2 + 1, 0, _, by omega, Rch_t (Rch_t (Rch_1 st1) k4) (Rch_1 g3), mft_t hfu (mft_t k5 (mft_t g2 (mft_t (mft_85 k g _ (by decide)) (mft_t (mft_85 k _ _ (by decide)) (mft_t (mft_85 k _ _ (by decide)) (mft_85 k _ _ (by decide))))))), ?_⟩
            exact MEr_x (MEr_x (MEr_u (MVr_e g1.1 (by omega) (flt_0 _ _)) (by omega)) _ (by decide)) _ (by decide)
      · have es : ¬ sgn T L q = 91 := fun z => h9 ((sgn_eq hT (by decide) (by decide)).mp z)
        rw [if_neg h9]
        obtain ⟨u, g, hu⟩ := M_cmp hT hL hk c q n b a1 hb.2 (by omega) hXb.1
        have gf : f_M_fact s = some (1, u) := by
          unfold f_M_fact
          rw [gb, Option.bind_some, e19, if_neg hs, Option.bind_some, if_pos rfl, e_M_sign hXb.1.1, Option.bind_some, if_neg es, g, Option.bind_some]
        have st1 := step _ _ gf
        rw [if_neg (by decide)] at st1
        obtain ⟨i1, i2⟩ := It_C (T := T) hL q n hb.2 a1
        cases hv : pC T L q n with
        | inl e0 =>
          rw [hv] at hu
          exact ⟨1, 0, u, by omega, Rch_1 st1, mft_t (mft_v hfb) (mft_v hu.1), hu.2⟩
        | inr y =>
          obtain ⟨c2, p3, n3⟩ := y
          rw [hv] at hu
          obtain ⟨⟨v1, v2, v3, v4⟩, v5, v6, v7⟩ := i2 c2 p3 n3 hv
          exact ⟨1, 0, c2, u, by dsimp only; omega, (List.append_nil _).symm, by dsimp only; omega, Rch_1 st1, mft_t (mft_v hfb) (mft_v hu.1), MXr_v hXb hu.1 hu.2⟩
