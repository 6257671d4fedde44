def ST (T : Nat → Int) (L k : Nat) (st : List Nat) (c : List Int) (p : Nat) (s : kM) (x : List Int × Nat × Nat) : Prop := ∃ j i l o c0 q t, j ≤ q - p ∧ p < q ∧ q ≤ L ∧ x.2.1 = bl T L q ∧ l ≤ 1 ∧ o ≤ 1 ∧ x.1 = c0 ++ List.replicate i (-22) ++ List.replicate l (-20) ++ List.replicate o (-21) ∧ i + l + o + st.length ≤ q ∧ Rch j (1, 1, s) (0, 1, t) ∧ mft k s t ∧ MXr T L k (List.replicate i 9 ++ (List.replicate l 10 ++ (List.replicate o 11 ++ st))) (c ++ c0) q x.2.2 t ∧ jt T L 1 x.2.1 = none ∧ jt T L 0 x.2.1 = none ∧ 3 * (c.length + x.1.length + pnd st) + 3 ≤ 6 * x.2.2 + q
theorem hd_10 {l x : Nat} {st : List Nat} {y : Int} (hl : l ≤ 1) (h : hd st ≠ y) (h2 : (x : Int) ≠ y) : hd (List.replicate l x ++ st) ≠ y := by
  have : l = 0 ∨ l = 1 := by omega
  rcases this with e | e
  · subst e; exact h
  · subst e; exact h2
theorem test_loop {T : Nat → Int} (hT : TB T) {L k : Nat} (hL : L ≤ 400) (hk : k < 6) {I : Nat → Nat → pR} (hI : It L true I) {d : Nat} {st : List Nat} (hst : hd st ≠ 9 ∧ hd st ≠ 10 ∧ hd st ≠ 11)
    (hF : ∀ st, hd st ≠ 9 ∧ hd st ≠ 10 → ∀ c p n s, cnd L d st c p n → MXr T L k st c p n s → res (I p n) (SE T L k p s) (SP T L k st c p s)) {c : List Int} {p : Nat} {s : kM} (hdp : dep st = d) : ∀ kk i l o c0 q n t j, L - q < kk → q ≤ L → p < q → n ≤ 60 → l ≤ 1 → o ≤ 1 → j ≤ q - p → 3 * (c.length + c0.length + i + l + o + pnd st) + 3 ≤ 6 * n + q → i + l + o + st.length ≤ q → Rch j (1, 1, s) (0, 1, t) → mft k s t → MXr T L k (List.replicate i 9 ++ (List.replicate l 10 ++ (List.replicate o 11 ++ st))) (c ++ c0) q n t → jt T L 1 (bl T L q) = none → res (pJn T L I 0 kk (c0 ++ List.replicate i (-22) ++ List.replicate l (-20) ++ List.replicate o (-21)) (bl T L q) n) (SE T L k p s) (ST T L k st c p s)
  | 0, _, _, _, _, _, _, _, _, h, _, _, _, _, _, _, _, _, _, _, _, _ => by omega
  | kk + 1, i, l, o, c0, q, n, t, j, h1, h2, h3, h4, h5, h5', h6, h7, h8, h9, h10, h11, h12 => by
    have hb := bl_le (T := T) h2
    have hbb : bl T L (bl T L q) = bl T L q := bl_bl _ _ rfl
    have hlen1 : (c ++ c0).length = c.length + c0.length := List.length_append
    have hlc : (c0 ++ List.replicate i (-22 : Int) ++ List.replicate l (-20) ++ List.replicate o (-21)).length = c0.length + i + l + o := by rw [List.length_append, List.length_append, List.length_append, List.length_replicate, List.length_replicate, List.length_replicate]
    cases hj : jt T L 0 (bl T L q) with
    | none =>
      rw [pJn_n (by rw [hbb]; exact hj), hbb]
      exact ⟨j, i, l, o, c0, q, t, h6, h3, h2, rfl, h5, h5', rfl, h8, h9, h10, h11, h12, hj, by rw [hlc]; dsimp only; omega⟩
    | some w =>
      rw [pJn_s (by rw [hbb]; exact hj)]
      rw [jt_0] at hj
      rw [jt_1] at h12
      by_cases hs : std T L (bl T L q) (kstrs.getD 13 []) = true
      · rw [if_pos hs] at hj
        injection hj with hj
        subst hj
        dsimp only
        have hna : ¬ std T L (bl T L q) (kstrs.getD 14 []) = true := fun z => by rw [if_pos z] at h12; cases h12
        have hl3 : bl T L q + 2 ≤ L := std_len hb.2 hs
        obtain ⟨a, g9, a1, a2, gb, b1⟩ := e_look9 hT hk (i := i) (hd_10 h5 (hd_10 h5' hst.1 (by decide)) (by decide)) h2 (by rw [rep_len, rep_len]; omega) (by omega) h11
        have hf2 : mft k a (gU a 85 22 ((bl T L q : Nat) : Int)) := mft_85 k a _ (by decide)
        generalize gU a 85 22 ((bl T L q : Nat) : Int) = b at gb b1 hf2
        have hlen2 : (c ++ c0 ++ List.replicate i (-22 : Int)).length = c.length + c0.length + i := by rw [List.length_append, hlen1, List.length_replicate]
        obtain ⟨f, g10, f1, f2⟩ := e_ans hk (x := 10) (by omega) (hd_10 h5' hst.2.1 (by decide)) (by rw [rep_len, rep_len]; omega) (by omega) b1
        have hlen4 : (c ++ c0 ++ List.replicate i (-22 : Int) ++ List.replicate l (tk 10)).length = c.length + c0.length + i + l := by rw [List.length_append, hlen2, List.length_replicate]
        obtain ⟨f', g11, f1', f2'⟩ := e_ans hk (x := 11) (by omega) hst.2.2 (by rw [rep_len]; omega) (by omega) f1
        obtain ⟨u, go, u1, u2⟩ := e_open f1' (by omega) (x := 11) (by omega)
        have e28 : f_M_stood 28 b = some 0 := by rw [e_M_stood b1.1.1 (by decide), std_and.1, if_neg hna]
        have e29 : f_M_stood 29 b = some 1 := by rw [e_M_stood b1.1.1 (by decide), std_and.2, if_pos hs]
        have g10' : f_M_answers 10 b = some f := g10
        have g11' : f_M_answers 11 f = some f' := g11
        have go' : f_M_opens 11 f' = some u := go
        have e3 : wI (u 85 22 + 2) = ((bl T L q + 2 : Nat) : Int) := by rw [u1.1.1.2.2.1]; exact wI_add2 (b := 2) (by omega)
        have step : fTt (0, 1, t) = some (.inl (1, 1, gU u 85 22 ((bl T L q + 2 : Nat) : Int))) := by
          show f_M_test_7b 0 1 t = _
          unfold f_M_test_7b
          rw [if_neg (by decide), if_pos h11.1.2.1, if_pos rfl, g9, Option.bind_some, gb, Option.bind_some, e28, Option.bind_some, e29, Option.bind_some, g10', Option.bind_some, if_pos rfl, if_neg (by decide)]
          unfold f_M_test_42 f_M_test_47 f_M_test_53 f_M_test_62 f_M_test_104
          rw [if_neg (by decide), g11', Option.bind_some, if_pos rfl, go', Option.bind_some, if_pos rfl, gLet_eq, e3]
        clear e3
        have hX3 : MXr T L k (11 :: st) (c ++ c0 ++ List.replicate i (-22) ++ List.replicate l (tk 10) ++ List.replicate o (tk 11)) (bl T L q + 2) n (gU u 85 22 ((bl T L q + 2 : Nat) : Int)) := MXr_v u1 (mfv_85 k u _ (by decide)) (MVr_u u1.1 (by omega))
        have hf3 : mft k s (gU u 85 22 ((bl T L q + 2 : Nat) : Int)) := mft_t h10 (mft_t a2 (mft_t hf2 (mft_t f2 (mft_t f2' (mft_t u2 (mft_85 k u _ (by decide)))))))
        generalize gU u 85 22 ((bl T L q + 2 : Nat) : Int) = v at step hX3 hf3
        have hcc : c ++ c0 ++ List.replicate i (-22) ++ List.replicate l (tk 10) ++ List.replicate o (tk 11) = c ++ (c0 ++ List.replicate i (-22) ++ List.replicate l (-20) ++ List.replicate o (-21)) := by
          rw [← List.append_assoc, ← List.append_assoc, ← List.append_assoc]
          rfl
        rw [hcc] at hX3
        have hlen3 : (c ++ (c0 ++ List.replicate i (-22 : Int) ++ List.replicate l (-20) ++ List.replicate o (-21))).length = c.length + c0.length + i + l + o := by rw [List.length_append, hlc]; omega
        have hpn : pnd (11 :: st) = 1 + pnd st := rfl
        have hdp2 : dep (11 :: st) = dep st := by show 0 + dep st = dep st; omega
        have hr := hF (11 :: st) ⟨by show ((11 : Nat) : Int) ≠ 9; decide, by show ((11 : Nat) : Int) ≠ 10; decide⟩ _ (bl T L q + 2) n v ⟨h4, hl3, by rw [hlen3, hpn]; omega, by show st.length + 1 ≤ _; omega, by rw [hdp2]; exact hdp⟩ hX3
        obtain ⟨i1, i2⟩ := hI (bl T L q + 2) n hl3 h4
        have R2 := Rch_t h9 (Rch_1 step)
        cases hv : I (bl T L q + 2) n with
        | inl e0 =>
          rw [hv] at hr
          obtain ⟨j2, x1, w2, k1, k2, k3, k4⟩ := hr
          rw [bR_l]
          exact ⟨j + 1 + j2, x1, w2, by omega, Rch_t R2 k2, mft_t hf3 k3, k4⟩
        | inr y =>
          obtain ⟨c2, p3, n3⟩ := y
          rw [hv] at hr
          obtain ⟨j2, i', l', c0', q', w2, k1, k1', k1'', k2, kl, k3, k3', k4, k5, k6, k7, k8⟩ := hr
          dsimp only at k2 k3 k6 k7 k8
          obtain ⟨⟨v1, v2, v3, v4⟩, v5, v6, v7⟩ := i2 c2 p3 n3 hv
          rw [bR_r]
          have hc2 : c2.length = c0'.length + i' + l' := by rw [k3, List.length_append, List.length_append, List.length_replicate, List.length_replicate]
          have k3'' : i' + l' + (st.length + 1) ≤ q' := k3'
          have hcl0 : (c0 ++ List.replicate i (-22 : Int) ++ List.replicate l (-20) ++ List.replicate o (-21) ++ c0').length = c0.length + i + l + o + c0'.length := by rw [List.length_append, hlc]
          rw [hlen3, hpn] at k8
          rw [k2] at k7
          have ih := test_loop hT hL hk hI hst hF (c := c) (p := p) (s := s) hdp kk i' l' 1 (c0 ++ List.replicate i (-22) ++ List.replicate l (-20) ++ List.replicate o (-21) ++ c0') q' n3 w2 (j + 1 + j2) (by omega) k1'' (by omega) v4 kl (by omega) (by omega) (by rw [hcl0]; omega) (by omega) (Rch_t R2 k4) (mft_t hf3 k5) (by rw [← List.append_assoc c]; exact k6) k7
          have hceq : c0 ++ List.replicate i (-22) ++ List.replicate l (-20) ++ List.replicate o (-21) ++ c0' ++ List.replicate i' (-22) ++ List.replicate l' (-20) ++ List.replicate 1 (-21) = c0 ++ List.replicate i (-22) ++ List.replicate l (-20) ++ List.replicate o (-21) ++ c2 ++ [-21] := by
            rw [k3, List.append_assoc (c0 ++ List.replicate i (-22) ++ List.replicate l (-20) ++ List.replicate o (-21)) c0', List.append_assoc (c0 ++ List.replicate i (-22) ++ List.replicate l (-20) ++ List.replicate o (-21)) (c0' ++ List.replicate i' (-22))]
            rfl
          rw [hceq, ← k2] at ih
          exact ih
      · rw [if_neg hs] at hj
        cases hj
theorem sim_test {T : Nat → Int} (hT : TB T) {L k : Nat} (hL : L ≤ 400) (hk : k < 6) {I : Nat → Nat → pR} (hI : It L true I) {d : Nat} (hF : ∀ st c p n s, cnd L d st c p n → MXr T L k st c p n s → res (I p n) (SE T L k p s) (SF T L k st c p s)) (st : List Nat) (hst : hd st ≠ 9 ∧ hd st ≠ 10 ∧ hd st ≠ 11) (c : List Int) (p n : Nat) (s : kM) (hc : cnd L d st c p n) (hX : MXr T L k st c p n s) : res (pT T L I p n) (SE T L k p s) (ST T L k st c p s) := by
  have hP := sim_part hT hL hk hI hF
  have hr := hP st ⟨hst.1, hst.2.1⟩ c p n s hc hX
  obtain ⟨a1, a2, a3, a4, a5⟩ := hc
  have hI1 := (It_Sq (T := T) hL hI (lv := 1) (fun _ => by decide)).1
  obtain ⟨i1, i2⟩ := hI1 p n a2 a1
  unfold pT
  show res (bR (pSq T L I 1 p n) (fun c p' n' => pJn T L (pSq T L I 1) 0 401 c p' n')) _ _
  cases hv : pSq T L I 1 p n with
  | inl e0 =>
    rw [hv] at hr
    rw [bR_l]
    exact hr
  | inr y =>
    obtain ⟨c2, p3, n3⟩ := y
    rw [hv] at hr
    obtain ⟨j2, i', l', c0', q', w2, k1, k1', k1'', k2, kl, k3, k3', k4, k5, k6, k7, k8⟩ := hr
    dsimp only at k2 k3 k6 k7 k8
    obtain ⟨⟨v1, v2, v3, v4⟩, v5, v6, v7⟩ := i2 c2 p3 n3 hv
    have hc2 : c2.length = c0'.length + i' + l' := by rw [k3, List.length_append, List.length_append, List.length_replicate, List.length_replicate]
    rw [k2] at k7
    have ih := test_loop hT hL hk hI1 hst hP (c := c) (p := p) (s := s) a5 401 i' l' 0 c0' q' n3 w2 j2 (by omega) k1'' (by omega) v4 kl (by omega) (by omega) (by omega) (by omega) k4 k5 k6 k7
    rw [bR_r, k3]
    have : c0' ++ List.replicate i' (-22 : Int) ++ List.replicate l' (-20) ++ List.replicate 0 (-21) = c0' ++ List.replicate i' (-22) ++ List.replicate l' (-20) := List.append_nil _
    rw [this, ← k2] at ih
    exact ih
