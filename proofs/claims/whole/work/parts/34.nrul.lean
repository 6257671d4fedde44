theorem MXr_push {T : Nat → Int} {L k : Nat} {st : List Nat} {c : List Int} {p n : Nat} {s : kM} (h : MXr T L k st c p n s) (hl : st.length < 402) (x : Nat) {d : Nat} (hd : d = dep (x :: st)) : ∃ t, f_M_opens_21 (x : Int) (gU s 85 27 (d : Int)) = some t ∧ MXr T L k (x :: st) c p n t ∧ mft k s t := by
  obtain ⟨x1, x2, x3, x4⟩ := h
  unfold f_M_opens_21
  rw [gUo _ _ _ (by decide), x3, gI_n hl, Option.bind_some, gLet_eq, gLet_eq, gU_n _ _ _ (by decide), gUo _ _ _ (by decide), x3, wI_s (by omega)]
  refine ⟨_, rfl, ⟨MVr_85 (MVr_111 (MVr_85 x1 _ (by decide)) _ _) _ (by decide), ?_, ?_, ?_, ?_⟩, mft_t (mft_85 k _ _ (by decide)) (mft_t (mft_111 k _ _ _) (mft_85 k _ _ (by decide)))⟩
  · rw [gUo _ _ _ (by decide), gU_n _ _ _ (by decide), gUs, hd]
  · rw [gUs]; rfl
  · rw [gU_n _ _ _ (by decide), gUs]
  · exact Sk_c st (fun i hi => by rw [gU_n _ _ _ (by decide), gUo _ _ _ (by omega), gU_n _ _ _ (by decide)]) x4
theorem e_open {T : Nat → Int} {L k : Nat} {st : List Nat} {c : List Int} {p n : Nat} {s : kM} (h : MXr T L k st c p n s) (hl : st.length < 402) {x : Nat} (hx : x = 10 ∨ x = 11) : ∃ t, f_M_opens (x : Int) s = some t ∧ MXr T L k (x :: st) c p n t ∧ mft k s t := by
  have hd' : dep st = dep (x :: st) := by
    show dep st = (if x = 9 ∨ x = 12 then 1 else 0) + dep st
    rw [if_neg (by omega)]
    omega
  have := MXr_push h hl x hd'
  rw [gU_id h.2.1] at this
  unfold f_M_opens
  rw [if_neg (by omega), if_neg (by omega)]
  exact this
theorem dep_le : ∀ l : List Nat, dep l ≤ l.length
  | [] => Nat.le_refl _
  | y :: l => by
    have := dep_le l
    show (if _ then 1 else 0) + dep l ≤ l.length + 1
    split <;> omega
theorem e_openD {T : Nat → Int} {L k : Nat} {st : List Nat} {c : List Int} {p n : Nat} {s : kM} (h : MXr T L k st c p n s) (hl : st.length < 402) (hd10 : dep st < 10) {x : Nat} (hx : x = 9 ∨ x = 12) : ∃ t, f_M_opens (x : Int) s = some t ∧ MXr T L k (x :: st) c p n t ∧ mft k s t := by
  have hd' : dep st + 1 = dep (x :: st) := by
    show dep st + 1 = (if x = 9 ∨ x = 12 then 1 else 0) + dep st
    rw [if_pos hx]
    omega
  have e6 : f_M_opens (x : Int) s = f_M_opens_6 (x : Int) s := by
    unfold f_M_opens
    rcases hx with h | h
    · rw [if_pos (by omega)]
    · rw [if_neg (by omega), if_pos (by omega)]
  rw [e6]
  unfold f_M_opens_6 f_M_opens_15
  rw [h.2.1, if_neg (by omega), gLet_eq, wI_s (by omega)]
  exact MXr_push h hl x hd'
theorem e_openF {T : Nat → Int} {L k : Nat} {st : List Nat} {c : List Int} {p n : Nat} {s : kM} (h : MXr T L k st c p n s) (hp : p ≤ L) (hl : st.length < 402) (hd10 : dep st = 10) {x : Nat} (hx : x = 9 ∨ x = 12) : ∃ t, f_M_opens (x : Int) s = some t ∧ MEr T L (flt p 2) t ∧ mft k s t ∧ t 85 22 = (p : Int) := by
  have e6 : f_M_opens (x : Int) s = f_M_opens_6 (x : Int) s := by
    unfold f_M_opens
    rcases hx with h | h
    · rw [if_pos (by omega)]
    · rw [if_neg (by omega), if_pos (by omega)]
  have ef : f_M_fails 2 ((p : Nat) : Int) s = some (gU s 85 23 ((flt p 2 : Nat) : Int)) := e_M_failX (x := 2) h.1 (by decide) h.1.1.1.2
  have hE := MVr_e h.1 (e := flt p 2) (by omega) (flt_0 _ _)
  rw [e6]
  unfold f_M_opens_6 f_M_opens_15 f_M_opens_21
  rw [h.2.1, if_pos (by omega), h.1.1.2.2.1, ef, Option.bind_some, gLet_eq, gUo _ _ _ (show 29 ≠ 27 by decide), gUo _ _ _ (show 29 ≠ 23 by decide), h.2.2.1, gI_n hl, Option.bind_some, gLet_eq, gLet_eq]
  refine ⟨_, rfl, ?_, mft_t (mft_85 k _ _ (by decide)) (mft_t (mft_85 k _ _ (by decide)) (mft_t (mft_111 k _ _ _) (mft_85 k _ _ (by decide)))), ?_⟩
  · obtain ⟨⟨p2, hp2, a1, a2, a3, a4⟩, h2, h3, h4⟩ := hE
    refine ⟨⟨p2, hp2, a1, ?_, ?_, ?_⟩, ?_, h3, ?_⟩
    · rw [gUo _ _ _ (by decide), gU_n _ _ _ (by decide), gUo _ _ _ (by decide)]; exact a2
    · rw [gUo _ _ _ (by decide), gU_n _ _ _ (by decide), gUo _ _ _ (by decide)]; exact a3
    · rw [gU_n _ _ _ (by decide), gU_n _ _ _ (by decide), gU_n _ _ _ (by decide)]; exact a4
    · rw [gUo _ _ _ (by decide), gU_n _ _ _ (by decide), gUo _ _ _ (by decide)]; exact h2
    · rw [gUo _ _ _ (by decide), gU_n _ _ _ (by decide), gUo _ _ _ (by decide)]; exact h4
  · rw [gUo _ _ _ (by decide), gU_n _ _ _ (by decide), gUo _ _ _ (by decide), gUo _ _ _ (by decide)]; exact h.1.1.2.2.1
/-! steps of the reference's loop -/
def fTt : Int × Int × kM → Option ((Int × Int × kM) ⊕ kM) := fun x => f_M_test_7b x.1 x.2.1 x.2.2
def Rch (j : Nat) (X Y : Int × Int × kM) : Prop := ∀ m, gL fTt (m + j) X = gL fTt m Y
theorem Rch_0 (X : Int × Int × kM) : Rch 0 X X := fun _ => rfl
theorem Rch_1 {X Y : Int × Int × kM} (h : fTt X = some (.inl Y)) : Rch 1 X Y := fun m => gL_l h
theorem Rch_t {i j : Nat} {X Y Z : Int × Int × kM} (h : Rch i X Y) (h2 : Rch j Y Z) : Rch (i + j) X Z := fun m => by
  rw [show m + (i + j) = (m + j) + i by omega, h, h2]
def SE (T : Nat → Int) (L k p : Nat) (s : kM) (e : Nat) : Prop := ∃ j x1 t, j ≤ L - p + 1 ∧ Rch j (1, 1, s) (x1, 1, t) ∧ mft k s t ∧ MEr T L e t
def SF (T : Nat → Int) (L k : Nat) (st : List Nat) (c : List Int) (p : Nat) (s : kM) (x : List Int × Nat × Nat) : Prop := ∃ j i c0 t, j ≤ x.2.1 - p ∧ x.1 = c0 ++ List.replicate i (-22) ∧ i + st.length ≤ x.2.1 ∧ Rch j (1, 1, s) (0, 1, t) ∧ mft k s t ∧ MXr T L k (List.replicate i 9 ++ st) (c ++ c0) x.2.1 x.2.2 t
def SP (T : Nat → Int) (L k : Nat) (st : List Nat) (c : List Int) (p : Nat) (s : kM) (x : List Int × Nat × Nat) : Prop := ∃ j i l c0 q t, j ≤ q - p ∧ p < q ∧ q ≤ L ∧ x.2.1 = bl T L q ∧ l ≤ 1 ∧ x.1 = c0 ++ List.replicate i (-22) ++ List.replicate l (-20) ∧ i + l + st.length ≤ q ∧ Rch j (1, 1, s) (0, 1, t) ∧ mft k s t ∧ MXr T L k (List.replicate i 9 ++ (List.replicate l 10 ++ st)) (c ++ c0) q x.2.2 t ∧ jt T L 1 x.2.1 = none ∧ 3 * (c.length + x.1.length + pnd st) + 3 ≤ 6 * x.2.2 + q
def cnd (L d : Nat) (st : List Nat) (c : List Int) (p n : Nat) : Prop := n ≤ 60 ∧ p ≤ L ∧ 3 * (c.length + pnd st) ≤ 6 * n + p ∧ st.length ≤ p ∧ dep st = d
def res (r : pR) (A : Nat → Prop) (B : List Int × Nat × Nat → Prop) : Prop := match r with
  | .inl e => A e
  | .inr x => B x
theorem std_and : kstrs.getD 28 [] = kstrs.getD 14 [] ∧ kstrs.getD 29 [] = kstrs.getD 13 [] := by decide
theorem and_or {T : Nat → Int} {L q : Nat} (h : std T L q (kstrs.getD 14 []) = true) : ¬ std T L q (kstrs.getD 13 []) = true := by
  intro h2
  have e1 := (std_iff.mp h).1
  have e2 := (std_iff.mp h2).1
  rw [e1] at e2
  exact absurd e2 (by decide)
theorem jt_1 (T : Nat → Int) (L q : Nat) : jt T L 1 q = if std T L q (kstrs.getD 14 []) = true then some (q + 3, -20) else none := by
  unfold jt
  rw [if_neg (by decide), if_pos rfl]
theorem jt_0 (T : Nat → Int) (L q : Nat) : jt T L 0 q = if std T L q (kstrs.getD 13 []) = true then some (q + 2, -21) else none := by
  unfold jt
  rw [if_pos rfl]
theorem rep_len (i x : Nat) (st : List Nat) : (List.replicate i x ++ st).length = i + st.length := by rw [List.length_append, List.length_replicate]
/-- up to where the next word is looked at -/
theorem e_look9 {T : Nat → Int} (hT : TB T) {L k : Nat} (hk : k < 6) {i : Nat} {st : List Nat} (hh : hd st ≠ 9) {c : List Int} {q n : Nat} {t : kM} (hq : q ≤ L) (hl : i + st.length ≤ q) (hc : c.length + i < 300) (hX : MXr T L k (List.replicate i 9 ++ st) c q n t) : ∃ a, f_M_answers 9 t = some a ∧ MXr T L k st (c ++ List.replicate i (-22)) q n a ∧ mft k t a ∧ f_M_blanks a = some (gU a 85 22 ((bl T L q : Nat) : Int)) ∧ MXr T L k st (c ++ List.replicate i (-22)) (bl T L q) n (gU a 85 22 ((bl T L q : Nat) : Int)) := by
  have hL := hX.1.1.1.1
  have hb := bl_le (T := T) hq
  obtain ⟨a, g, a1, a2⟩ := e_ans hk (x := 9) (by omega) hh (by rw [rep_len]; omega) hc hX
  exact ⟨a, g, a1, a2, e_M_blanks hT a1.1.1, MXr_v a1 (mfv_85 k a _ (by decide)) (MVr_u a1.1 (by omega))⟩
theorem part_loop {T : Nat → Int} (hT : TB T) {L k : Nat} (hL : L ≤ 400) (hk : k < 6) {I : Nat → Nat → pR} (hI : It L true I) {d : Nat} {st : List Nat} (hst : hd st ≠ 9 ∧ hd st ≠ 10)
    (hF : ∀ st c p n s, cnd L d st c p n → MXr T L k st c p n s → res (I p n) (SE T L k p s) (SF T L k st c p s)) {c : List Int} {p : Nat} {s : kM} (hdp : dep st = d) : ∀ kk i l c0 q n t j, L - q < kk → q ≤ L → p < q → n ≤ 60 → l ≤ 1 → j ≤ q - p → 3 * (c.length + c0.length + i + l + pnd st) + 3 ≤ 6 * n + q → i + l + st.length ≤ q → Rch j (1, 1, s) (0, 1, t) → mft k s t → MXr T L k (List.replicate i 9 ++ (List.replicate l 10 ++ st)) (c ++ c0) q n t → res (pJn T L I 1 kk (c0 ++ List.replicate i (-22) ++ List.replicate l (-20)) q n) (SE T L k p s) (SP T L k st c p s)
  | 0, _, _, _, _, _, _, _, h, _, _, _, _, _, _, _, _, _, _ => by omega
  | kk + 1, i, l, c0, q, n, t, j, h1, h2, h3, h4, h5, h6, h7, h8, h9, h10, h11 => by
    have hb := bl_le (T := T) h2
    have hlen1 : (c ++ c0).length = c.length + c0.length := List.length_append
    have hlc : (c0 ++ List.replicate i (-22 : Int) ++ List.replicate l (-20)).length = c0.length + i + l := by rw [List.length_append, List.length_append, List.length_replicate, List.length_replicate]
    cases hj : jt T L 1 (bl T L q) with
    | none =>
      rw [pJn_n hj]
      exact ⟨j, i, l, c0, q, t, h6, h3, h2, rfl, h5, rfl, h8, h9, h10, h11, hj, by rw [hlc]; dsimp only; omega⟩
    | some w =>
      rw [pJn_s hj]
      rw [jt_1] at hj
      by_cases hs : std T L (bl T L q) (kstrs.getD 14 []) = true
      · rw [if_pos hs] at hj
        injection hj with hj
        subst hj
        dsimp only
        have hl3 : bl T L q + 3 ≤ L := std_len hb.2 hs
        have hhd : hd (List.replicate l 10 ++ st) ≠ 9 := by
          have : l = 0 ∨ l = 1 := by omega
          rcases this with h | h
          · subst h; exact hst.1
          · subst h; show ((10 : Nat) : Int) ≠ 9; decide
        obtain ⟨a, g9, a1, a2, gb, b1⟩ := e_look9 hT hk (i := i) hhd h2 (by rw [rep_len]; omega) (by omega) h11
        have hf2 : mft k a (gU a 85 22 ((bl T L q : Nat) : Int)) := mft_85 k a _ (by decide)
        generalize gU a 85 22 ((bl T L q : Nat) : Int) = b at gb b1 hf2
        have hlen2 : (c ++ c0 ++ List.replicate i (-22 : Int)).length = c.length + c0.length + i := by rw [List.length_append, hlen1, List.length_replicate]
        obtain ⟨f, g10, f1, f2⟩ := e_ans hk (x := 10) (by omega) hst.2 (by rw [rep_len]; omega) (by omega) b1
        obtain ⟨u, go, u1, u2⟩ := e_open f1 (by omega) (x := 10) (by omega)
        have e28 : f_M_stood 28 b = some 1 := by rw [e_M_stood b1.1.1 (by decide), std_and.1, if_pos hs]
        have e29 : f_M_stood 29 b = some 0 := by rw [e_M_stood b1.1.1 (by decide), std_and.2, if_neg (and_or hs)]
        have g10' : f_M_answers 10 b = some f := g10
        have go' : f_M_opens 10 f = some u := go
        have e3 : wI (u 85 22 + 3) = ((bl T L q + 3 : Nat) : Int) := by rw [u1.1.1.2.2.1]; exact wI_add2 (b := 3) (by omega)
        have step : fTt (0, 1, t) = some (.inl (1, 1, gU u 85 22 ((bl T L q + 3 : Nat) : Int))) := by
          show f_M_test_7b 0 1 t = _
          unfold f_M_test_7b
          rw [if_neg (by decide), if_pos h11.1.2.1, if_pos rfl, g9, Option.bind_some, gb, Option.bind_some, e28, Option.bind_some, e29, Option.bind_some, g10', Option.bind_some, if_neg (by decide)]
          unfold f_M_test_42 f_M_test_47 f_M_test_53 f_M_test_62 f_M_test_104
          rw [if_pos rfl, if_neg (by decide), go', Option.bind_some, if_neg (by decide), gLet_eq, e3]
        clear e3
        have hX3 : MXr T L k (10 :: st) (c ++ c0 ++ List.replicate i (-22) ++ List.replicate l (tk 10)) (bl T L q + 3) n (gU u 85 22 ((bl T L q + 3 : Nat) : Int)) := MXr_v u1 (mfv_85 k u _ (by decide)) (MVr_u u1.1 (by omega))
        have hf3 : mft k s (gU u 85 22 ((bl T L q + 3 : Nat) : Int)) := mft_t h10 (mft_t a2 (mft_t hf2 (mft_t f2 (mft_t u2 (mft_85 k u _ (by decide))))))
        generalize gU u 85 22 ((bl T L q + 3 : Nat) : Int) = v at step hX3 hf3
        have hcc : c ++ c0 ++ List.replicate i (-22) ++ List.replicate l (tk 10) = c ++ (c0 ++ List.replicate i (-22) ++ List.replicate l (-20)) := by
          rw [← List.append_assoc, ← List.append_assoc]
          rfl
        rw [hcc] at hX3
        have hlen3 : (c ++ (c0 ++ List.replicate i (-22 : Int) ++ List.replicate l (-20))).length = c.length + c0.length + i + l := by rw [List.length_append, hlc]; omega
        have hpn : pnd (10 :: st) = 1 + pnd st := rfl
        have hdp2 : dep (10 :: st) = dep st := by show 0 + dep st = dep st; omega
        have hr := hF (10 :: st) _ (bl T L q + 3) n v ⟨h4, hl3, by rw [hlen3, hpn]; omega, by show st.length + 1 ≤ _; omega, by rw [hdp2]; exact hdp⟩ hX3
        obtain ⟨i1, i2⟩ := hI (bl T L q + 3) n hl3 h4
        have R2 := Rch_t h9 (Rch_1 step)
        cases hv : I (bl T L q + 3) n with
        | inl e0 =>
          rw [hv] at hr
          obtain ⟨j2, x1, w2, k1, k2, k3, k4⟩ := hr
          rw [bR_l]
          exact ⟨j + 1 + j2, x1, w2, by omega, Rch_t R2 k2, mft_t hf3 k3, k4⟩
        | inr y =>
          obtain ⟨c2, p3, n3⟩ := y
          rw [hv] at hr
          obtain ⟨j2, i', c0', w2, k1, k2, k3, k4, k5, k6⟩ := hr
          dsimp only at k1 k2 k3 k6
          obtain ⟨⟨v1, v2, v3, v4⟩, v5, v6, v7⟩ := i2 c2 p3 n3 hv
          rw [bR_r]
          have hc2 : c2.length = c0'.length + i' := by rw [k2, List.length_append, List.length_replicate]
          have k3' : i' + (st.length + 1) ≤ p3 := k3
          have hcl0 : (c0 ++ List.replicate i (-22 : Int) ++ List.replicate l (-20) ++ c0').length = c0.length + i + l + c0'.length := by rw [List.length_append, hlc]
          have ih := part_loop hT hL hk hI hst hF (c := c) (p := p) (s := s) hdp kk i' 1 (c0 ++ List.replicate i (-22) ++ List.replicate l (-20) ++ c0') p3 n3 w2 (j + 1 + j2) (by omega) v2 (by omega) v4 (by omega) (by omega) (by rw [hcl0]; omega) (by omega) (Rch_t R2 k4) (mft_t hf3 k5) (by rw [← List.append_assoc c]; exact k6)
          have hceq : c0 ++ List.replicate i (-22) ++ List.replicate l (-20) ++ c0' ++ List.replicate i' (-22) ++ List.replicate 1 (-20) = c0 ++ List.replicate i (-22) ++ List.replicate l (-20) ++ c2 ++ [-20] := by
            rw [k2, List.append_assoc (c0 ++ List.replicate i (-22) ++ List.replicate l (-20)) c0']
            rfl
          rw [hceq] at ih
          exact ih
      · rw [if_neg hs] at hj
        cases hj
theorem sim_part {T : Nat → Int} (hT : TB T) {L k : Nat} (hL : L ≤ 400) (hk : k < 6) {I : Nat → Nat → pR} (hI : It L true I) {d : Nat} (hF : ∀ st c p n s, cnd L d st c p n → MXr T L k st c p n s → res (I p n) (SE T L k p s) (SF T L k st c p s)) (st : List Nat) (hst : hd st ≠ 9 ∧ hd st ≠ 10) (c : List Int) (p n : Nat) (s : kM) (hc : cnd L d st c p n) (hX : MXr T L k st c p n s) : res (pSq T L I 1 p n) (SE T L k p s) (SP T L k st c p s) := by
  have hr := hF st c p n s hc hX
  obtain ⟨a1, a2, a3, a4, a5⟩ := hc
  obtain ⟨i1, i2⟩ := hI p n a2 a1
  unfold pSq
  cases hv : I p n with
  | inl e0 =>
    rw [hv] at hr
    rw [bR_l]
    exact hr
  | inr y =>
    obtain ⟨c2, p3, n3⟩ := y
    rw [hv] at hr
    obtain ⟨j2, i', c0', w2, k1, k2, k3, k4, k5, k6⟩ := hr
    dsimp only at k1 k2 k3 k6
    obtain ⟨⟨v1, v2, v3, v4⟩, v5, v6, v7⟩ := i2 c2 p3 n3 hv
    have hc2 : c2.length = c0'.length + i' := by rw [k2, List.length_append, List.length_replicate]
    have ih := part_loop hT hL hk hI hst hF (c := c) (p := p) (s := s) a5 401 i' 0 c0' p3 n3 w2 j2 (by omega) v2 (by omega) v4 (by omega) (by omega) (by omega) (by omega) k4 k5 k6
    rw [bR_r, k2]
    have : c0' ++ List.replicate i' (-22 : Int) ++ List.replicate 0 (-20) = c0' ++ List.replicate i' (-22) := List.append_nil _
    rw [this] at ih
    exact ih
