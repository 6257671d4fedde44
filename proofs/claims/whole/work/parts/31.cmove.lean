/-! a MOVE is made -/
def gb (m : Nat) : Nat := if m < 11 then 2 ^ mv1 m else if m < 132 then 2 ^ mv1 m ||| 2 ^ mv2 m else 0
def mvA (A : zA) (m : Nat) : zA := if m < 132 then drp (gb m) A else sw3 A (SK A (2 * aN A) m / 2) (sgm A (SK A (2 * aN A) m) / 2) (sgm A (sgm A (SK A (2 * aN A) m)) / 2)
theorem gb_lt {m : Nat} (hm : m < 1463) : gb m < 2 ^ 11 := by
  obtain ⟨l1, l2, l3⟩ := mv_lt hm
  have p1 : 2 ^ mv1 m < 2 ^ 11 := Nat.pow_lt_pow_right (by decide) l1
  have p2 : 2 ^ mv2 m < 2 ^ 11 := Nat.pow_lt_pow_right (by decide) l2
  unfold gb
  split
  · exact p1
  · split
    · exact Nat.or_lt_two_pow p1 p2
    · exact Nat.two_pow_pos _
theorem SK_lt {A : zA} (hA : okA A) {m : Nat} (hm : 132 ≤ m) (hP : PK A (2 * aN A) m = true) : SK A (2 * aN A) m < 2 * aN A := FL_mem _ (SK_min hA hm _ (Nat.le_refl _) hP).1.1
theorem okA_mv {A : zA} (hA : okA A) {m : Nat} (hP : PK A (2 * aN A) m = true) : okA (mvA A m) := by
  unfold mvA
  by_cases h : m < 132
  · rw [if_pos h]
    exact okA_drp hA
  · have h1 := SK_lt hA (show 132 ≤ m by omega) hP
    have h2 := sgm_lt hA h1
    have h3 := sgm_lt hA h2
    rw [if_neg h]
    exact okA_sw3 hA (by omega) (by omega) (by omega)
theorem e_gone {b : Nat} {P : Nat → Bool} {st : Nat → Nat} {t : kM} (h : KLs b P st t) (h48 : cq P 1463 ≤ 48) {m : Nat} (hm : m < 1463) (hP : P m = true) : f_Land_gone b ((cq P m : Nat) : Int) t = some ((gb m : Nat) : Int) := by
  obtain ⟨k1, k2⟩ := h
  have hc := cq_lt hm hP
  have ik : gI 48 ((cq P m : Nat) : Int) = some (cq P m) := gI_n (by omega)
  have ek := (k2 m hm hP).1
  obtain ⟨p0, p1, p2, p3⟩ := e_part hm t
  obtain ⟨l1, l2, l3⟩ := mv_lt hm
  have q1 : 2 ^ mv1 m < 2 ^ 11 := Nat.pow_lt_pow_right (by decide) l1
  have q2 : 2 ^ mv2 m < 2 ^ 11 := Nat.pow_lt_pow_right (by decide) l2
  unfold f_Land_gone
  rw [if_neg (by omega), k1, if_neg (show ¬ ((cq P 1463 : Nat) : Int) ≤ ((cq P m : Nat) : Int) by omega), ik, Option.bind_some, ek, p0, Option.bind_some]
  unfold knd gb
  by_cases h3 : 132 ≤ m
  · simp only [if_neg (show ¬ m < 11 by omega), if_neg (show ¬ m < 132 by omega)]
    rfl
  · have hk : ¬ (((if m < 11 then 1 else if m < 132 then 2 else 3 : Nat) : Int) = 3) := by
      split
      · decide
      · rw [if_pos (by omega)]
        decide
    rw [if_neg hk]
    unfold f_Land_gone_20
    have s1 : f_Land_gone_20b b ((cq P m : Nat) : Int) 0 1 t = some (.inl (((2 ^ mv1 m : Nat) : Int), 2)) := by
      unfold f_Land_gone_20b f_Land_gone_38
      rw [if_neg (by decide), ik, Option.bind_some, ek, p1, Option.bind_some, if_pos (by omega), kone (by omega), show (0 : Int) = ((0 : Nat) : Int) from rfl, kor_n (by omega) (by omega), Nat.zero_or]
      rfl
    refine (gLl (n := 4095) (x := ((0 : Int), (1 : Int))) s1).trans ?_
    by_cases h1 : m < 11
    · rw [if_pos h1] at p2
      have s2 : f_Land_gone_20b b ((cq P m : Nat) : Int) ((2 ^ mv1 m : Nat) : Int) 2 t = some (.inl (((2 ^ mv1 m : Nat) : Int), 3)) := by
        unfold f_Land_gone_20b f_Land_gone_38
        rw [if_neg (by decide), ik, Option.bind_some, ek, p2, Option.bind_some, if_neg (by decide), show (0 : Int) = ((0 : Nat) : Int) from rfl, kor_n (by omega) (by omega), Nat.or_zero]
        rfl
      refine (gLl (n := 4094) (x := (((2 ^ mv1 m : Nat) : Int), (2 : Int))) s2).trans ?_
      rw [if_pos h1]
      refine gLr (n := 4093) ?_
      show f_Land_gone_20b b ((cq P m : Nat) : Int) ((2 ^ mv1 m : Nat) : Int) 3 t = _
      unfold f_Land_gone_20b
      rw [if_pos (by decide)]
    · rw [if_neg h1] at p2
      have s2 : f_Land_gone_20b b ((cq P m : Nat) : Int) ((2 ^ mv1 m : Nat) : Int) 2 t = some (.inl (((2 ^ mv1 m ||| 2 ^ mv2 m : Nat) : Int), 3)) := by
        unfold f_Land_gone_20b f_Land_gone_38
        rw [if_neg (by decide), ik, Option.bind_some, ek, p2, Option.bind_some, if_pos (by omega), kone (by omega), kor_n (by omega) (by omega)]
        rfl
      refine (gLl (n := 4094) (x := (((2 ^ mv1 m : Nat) : Int), (2 : Int))) s2).trans ?_
      rw [if_neg h1, if_pos (by omega)]
      refine gLr (n := 4093) ?_
      show f_Land_gone_20b b ((cq P m : Nat) : Int) ((2 ^ mv1 m ||| 2 ^ mv2 m : Nat) : Int) 3 t = _
      unfold f_Land_gone_20b
      rw [if_pos (by decide)]
theorem wp_perform {b b1 : Nat} (hd : b1 + 5 < b ∨ b + 3 < b1) {A : zA} (hA : okA A) {t : kM} (hK : KT b1 A t) (hT : TN A 11 (t (b + 3))) (hL : KLs b (PK A (2 * aN A)) (SK A (2 * aN A)) t) {m : Nat} (hm : m < 1463) (hP : PK A (2 * aN A) m = true) : wp (f_Land_perform b b1 ((cq (PK A (2 * aN A)) m : Nat) : Int) t) (fun u => KR b1 (mvA A m) u ∧ (∀ z, z ≠ b1 → z ≠ b1 + 1 → u z = t z) ∧ ∀ i, i ≠ 1 → i ≠ 2 → u b1 i = t b1 i) := by
  have hn := okB_n hA.1
  have h48 := PK_48 hA (Nat.le_refl (2 * aN A))
  have hc := cq_lt hm hP
  have hg := e_gone hL (by omega) hm hP
  obtain ⟨k1, k2⟩ := hL
  have ik : gI 48 ((cq (PK A (2 * aN A)) m : Nat) : Int) = some (cq (PK A (2 * aN A)) m) := gI_n (by omega)
  obtain ⟨ek, es⟩ := k2 m hm hP
  obtain ⟨p0, -, -, -⟩ := e_part hm t
  unfold f_Land_perform
  rw [if_neg (by omega), k1, if_pos (show ((cq (PK A (2 * aN A)) m : Nat) : Int) < ((cq (PK A (2 * aN A)) 1463 : Nat) : Int) by omega), ik, Option.bind_some, ek, p0, Option.bind_some]
  unfold mvA
  by_cases h3 : 132 ≤ m
  · have ekd : knd m = 3 := by unfold knd; rw [if_neg (by omega), if_neg (by omega)]
    rw [ekd, if_pos (by decide), if_neg (by omega), Option.bind_some, es]
    have hx := SK_lt hA h3 hP
    generalize SK A (2 * aN A) m = x at hx es ⊢
    have hs := sgm_lt hA hx
    have hs2 := sgm_lt hA hs
    have d : ∀ y : Nat, y < 2 * aN A → kshr (y : Int) 1 = ((y / 2 : Nat) : Int) := fun y hy => kshr_n (k := 1) (by omega) (by omega)
    have n1 : b1 + 3 ≠ b1 + 1 := by omega
    have hX : ∀ j, j < aN A → t (b1 + 3) j = ((nx (aF A) (aN A) j : Nat) : Int) := hK.2.2.2.1
    obtain ⟨t1, f1, m1, e1⟩ := wp_swapAlong hA hK.1 hX (j := x / 2) (by omega)
    obtain ⟨t2, f2, m2, e2⟩ := wp_swapAlong (okA_sw hA (j := x / 2) (by omega)) m1 (by rw [e1 _ n1]; exact hX) (j := sgm A x / 2) (by show sgm A x / 2 < aN A; omega)
    have hb3 : t2 (b + 3) = t (b + 3) := by rw [e2 _ (by omega), e1 _ (by omega)]
    obtain ⟨t3, f3, m3, e3⟩ := wp_swapAlong (okA_sw (okA_sw hA (j := x / 2) (by omega)) (j := sgm A x / 2) (by show sgm A x / 2 < aN A; omega)) m2 (by rw [e2 _ n1, e1 _ n1]; exact hX) (j := sgm A (sgm A x) / 2) (by show sgm A (sgm A x) / 2 < aN A; omega)
    rw [e_stepFrom hA hT hx, Option.bind_some, Option.bind_some, es, d x hx, f1, Option.bind_some, d _ hs, f2, Option.bind_some, e_stepFrom hA (by rw [hb3]; exact hT) hs, Option.bind_some, d _ hs2, f3, Option.bind_some, wp_some]
    refine ⟨m3, fun z z1 z2 => by rw [e3 z z2, e2 z z2, e1 z z2], fun i _ _ => by rw [e3 b1 (by omega), e2 b1 (by omega), e1 b1 (by omega)]⟩
  · have ekd : ¬ (((knd m : Nat) : Int) = 3) := by
      unfold knd
      split
      · decide
      · rw [if_pos (by omega)]
        decide
    rw [if_neg ekd, if_pos (by omega), hg, Option.bind_some]
    obtain ⟨u, f1, u1, u2, u3⟩ := wp_drop hA hK.1 (gb_lt hm)
    rw [f1, Option.bind_some, wp_some]
    exact ⟨u1, u2, u3⟩
theorem wp_moveBy {A : zA} (hA : okA A) {s : kM} (hK : KT 4 A s) {m : Nat} (hm : m < 1463) : wp (f_KT_moveBy ((ky m : Nat) : Int) s) (fun r => (PK A (2 * aN A) m = true ∧ r.1 = 1 ∧ KT 4 (mvA A m) r.2 ∧ r.2 3 1 = wI (s 3 1 + 1) ∧ (r.2 3 2 = s 3 2 ∧ r.2 3 3 = s 3 3) ∧ r.2 44 0 = 0 ∧ r.2 21 16 = 0 ∧ r.2 21 18 = 0) ∨ (¬ PK A (2 * aN A) m = true ∧ r.1 = 0 ∧ frL 17 s r.2)) := by
  obtain ⟨u, e1, f0, -, -, -, -, hT, hL⟩ := wp_survey (b := 17) (b1 := 4) (Or.inl (by decide)) hA hK
  have h48 := PK_48 hA (Nat.le_refl (2 * aN A))
  have hKu : KT 4 A u := frL_K (Or.inl (by decide)) hK f0
  unfold f_KT_moveBy
  rw [e1, Option.bind_some, e_index hL (by omega) hm, Option.bind_some]
  by_cases hP : PK A (2 * aN A) m = true
  · have ho := okA_mv hA hP
    obtain ⟨t, f1, t1, t2, t3⟩ := wp_perform (b := 17) (b1 := 4) (Or.inl (by decide)) hA hKu hT hL hm hP
    obtain ⟨w, g1, g2, g3, g4, g5, g6, g7⟩ := wp_settle (b := 4) rfl ho.1 t1.2.1 t1.2.2.1 t1.2.2.2.1
    have fr : ∀ z, z ∉ W_Town_settle 4 → w z = t z := w_Town_settle 4 t w g1
    have w3 : w 3 = s 3 := by rw [fr 3 (by decide), t2 3 (by decide) (by decide), f0 3 (by decide) (by decide) (by decide) (by decide)]
    have hKR : KR 4 (mvA A m) w := by
      refine ⟨by rw [g3]; exact t1.1, by rw [g4]; exact t1.2.1, by rw [g5]; exact t1.2.2.1, by rw [g6]; exact t1.2.2.2.1, by rw [g7]; exact t1.2.2.2.2⟩
    rw [if_pos hP, if_pos (by omega), f1, Option.bind_some, g1, Option.bind_some, gLet_eq]
    unfold f_KT_forget f_Search_forget
    rw [gLet_eq, gLet_eq, Option.bind_some, gLet_eq, Option.bind_some, wp_some, w3]
    refine Or.inl ⟨hP, rfl, KT_c ⟨hKR, g2⟩ (fun i hi => by dsimp only; rw [gU_n _ _ _ (by omega), gU_n _ _ _ (by omega), gU_n _ _ _ (by omega), gU_n _ _ _ (by omega)]), ?_, ⟨?_, ?_⟩, ?_, ?_, ?_⟩
    · dsimp only
      rw [gU_n _ _ _ (by decide), gU_n _ _ _ (by decide), gU_n _ _ _ (by decide), gUs]
    · dsimp only
      rw [gU_n _ _ _ (by decide), gU_n _ _ _ (by decide), gU_n _ _ _ (by decide), gUo _ _ _ (by decide), w3]
    · dsimp only
      rw [gU_n _ _ _ (by decide), gU_n _ _ _ (by decide), gU_n _ _ _ (by decide), gUo _ _ _ (by decide), w3]
    · dsimp only
      rw [gUs]
    · dsimp only
      rw [gU_n _ _ _ (by decide), gUo _ _ _ (by decide), gUs]
    · dsimp only
      rw [gU_n _ _ _ (by decide), gUs]
  · rw [if_neg hP, if_neg (by decide), wp_some]
    exact Or.inr ⟨hP, rfl, f0⟩
section TOWN
variable {RC : zA → kM → Prop} {RU : Nat → kM → Prop}
theorem OB_move (hC : hRC RC) (hU : hRU RU) {s : kM} (hs : Rel RC RU s) {A : zA} (hA : okA A) (hK : KT 4 A s) (hM : MT A s) {fK fM : kM → Option (Int × kM)} {m : Nat} (hm : m < 1463) (hk : fK s = (f_KT_moveBy ((ky m : Nat) : Int) s).bind fun q => if q.1 = 0 then some (0, q.2) else some (1, q.2))
    (hMm : ∀ g, MT A g → wp (fM g) (fun r => ((PK A (2 * aN A) m = true ∧ r.1 = 1 ∧ MT (mvA A m) r.2 ∧ r.2 86 3 = wI (g 86 3 + 1) ∧ r.2 86 4 = g 86 4 ∧ r.2 86 5 = g 86 5) ∨ (¬ PK A (2 * aN A) m = true ∧ r.1 = 0 ∧ ∀ z, z ≠ 85 → z ≠ 100 → z ≠ 101 → z ≠ 102 → z ≠ 103 → z ≠ 116 → r.2 z = g z)) ∧ (∀ i, i ≠ 20 → r.2 85 i = g 85 i)))
    (frM : ∀ g t, fM g = some t → Fr W_M_slide g t.2) : ∃ v s1 s2, fK s = some (v, s1) ∧ fM s1 = some (v, s2) ∧ Rel RC RU s2 := by
  have hs' := hs
  obtain ⟨B, -, -, -, -, q5, -⟩ := hs'
  obtain ⟨⟨zv, u⟩, e1, k⟩ := wp_moveBy hA hK hm
  have fk : ∀ z, z ∉ W_KT_moveBy → u z = s z := w_KT_moveBy _ s _ e1
  dsimp only at k
  have hMu : MT A u := MT_k hM (fun a h1 h2 => fk a (by simp [W_KT_moveBy]; omega))
  obtain ⟨⟨zw, w⟩, e2, mm, m85⟩ := hMm u hMu
  have fm : ∀ z, z ∉ W_M_slide → w z = u z := frM u _ e2
  dsimp only at mm m85
  rw [hk, e1]
  rcases k with ⟨hP, k1, k2, k3, k4, k5, k6, k7⟩ | ⟨hP, k1, k2⟩
  · rcases mm with ⟨-, m1, m2, m3, m4, m5⟩ | ⟨h, -⟩
    · subst k1 m1
      refine ⟨1, u, w, rfl, e2, Rel_town hC hU hs (okA_mv hA hP) (KT_c k2 (fun i hi => fm _ (by simp [W_M_slide]; omega))) m2 (fun a ha => ?_) ?_ ?_ ?_ ?_ ?_⟩
      · rw [fm a (by simp [W_M_slide]; omega), fk a (by simp [W_KT_moveBy]; omega)]
      · rw [fm 3 (by decide), k3, m3, fk 86 (by decide), q5.1]
      · rw [fm 3 (by decide)]; exact k4
      · rw [m4, m5, fk 86 (by decide)]; exact ⟨rfl, rfl⟩
      · rw [m85 21 (by decide), m85 25 (by decide), m85 30 (by decide), fk 85 (by decide)]; exact ⟨rfl, rfl, rfl⟩
      · rw [fm 44 (by decide), fm 21 (by decide)]; exact ⟨k5, k6, k7⟩
    · exact absurd hP h
  · rcases mm with ⟨h, -⟩ | ⟨-, m1, m2⟩
    · exact absurd h hP
    · subst k1 m1
      exact ⟨0, u, w, rfl, e2, Rel_ld hC hU hs k2 m2 m85⟩
end TOWN
