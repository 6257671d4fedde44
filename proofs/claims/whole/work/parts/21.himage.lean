def cp4 (s : kM) (i : Nat) : Nat → Int := cpf (cpf (cpf (cpf (s 123) (s 86) (70 * i) 6) (s 87) (70 * i + 6) 22) (s 88) (70 * i + 28) 22) (s 89) (70 * i + 50) 11
theorem wp_carries0 {i : Nat} (hi : i < 4) {A : zA} (hA : okB A) {s : kM} (hM : MR A s) : wp (f_M_carriesAll i 0 s) (fun t => MT A t ∧ t 123 = cp4 s i ∧ (∀ a, a ≠ 85 → a ≠ 98 → a ≠ 99 → a ≠ 123 → t a = s a) ∧ ∀ j, j ≠ 57 → j ≠ 58 → t 85 j = s 85 j) := by
  unfold f_M_carriesAll
  have hw : wI (70 * (i : Int)) = ((70 * i : Nat) : Int) := by rw [wI_id (by omega) (by omega)]; rfl
  rw [hw]
  simp only [gLet]
  have hB : gB 0 = some () := rfl
  rw [hB, Option.bind_some]
  generalize g0 : gU (gU s 85 57 ((70 * i : Nat) : Int)) 85 58 0 = z0
  have c1 := e_carry0 (a := 86) (n := 6) (m := 70 * i) (s := z0) (by decide) (by decide) (by decide) (by rw [← g0, gUs]) (by rw [← g0, gUo _ _ _ (by decide), gUs]) (by omega)
  generalize g1 : gU (gA z0 123 (cpf (z0 123) (z0 86) (70 * i) 6)) 85 57 (((70 * i : Nat) : Int) + (6 : Nat)) = z1 at c1
  have y1 : z1 85 58 = 0 := by rw [← g1, gUo _ _ _ (by decide), gAn _ _ (by decide), ← g0, gUs]
  have c2 := e_carry0 (a := 87) (n := 22) (m := 70 * i + 6) (s := z1) (by decide) (by decide) (by decide) y1 (by rw [← g1, gUs]; omega) (by omega)
  generalize g2 : gU (gA z1 123 (cpf (z1 123) (z1 87) (70 * i + 6) 22)) 85 57 (((70 * i + 6 : Nat) : Int) + (22 : Nat)) = z2 at c2
  have y2 : z2 85 58 = 0 := by rw [← g2, gUo _ _ _ (by decide), gAn _ _ (by decide)]; exact y1
  have c3 := e_carry0 (a := 88) (n := 22) (m := 70 * i + 28) (s := z2) (by decide) (by decide) (by decide) y2 (by rw [← g2, gUs]; omega) (by omega)
  generalize g3 : gU (gA z2 123 (cpf (z2 123) (z2 88) (70 * i + 28) 22)) 85 57 (((70 * i + 28 : Nat) : Int) + (22 : Nat)) = z3 at c3
  have y3 : z3 85 58 = 0 := by rw [← g3, gUo _ _ _ (by decide), gAn _ _ (by decide)]; exact y2
  have c4 := e_carry0 (a := 89) (n := 11) (m := 70 * i + 50) (s := z3) (by decide) (by decide) (by decide) y3 (by rw [← g3, gUs]; omega) (by omega)
  generalize g4 : gU (gA z3 123 (cpf (z3 123) (z3 89) (70 * i + 50) 11)) 85 57 (((70 * i + 50 : Nat) : Int) + (11 : Nat)) = z4 at c4
  rw [c1, Option.bind_some, c2, Option.bind_some, c3, Option.bind_some, c4, Option.bind_some]
  have o0 : ∀ a, a ≠ 85 → z0 a = s a := fun a h => by rw [← g0, gU_n _ _ _ h, gU_n _ _ _ h]
  have o1 : ∀ a, a ≠ 85 → a ≠ 123 → z1 a = s a := fun a h h' => by rw [← g1, gU_n _ _ _ h, gAn _ _ h', o0 a h]
  have o2 : ∀ a, a ≠ 85 → a ≠ 123 → z2 a = s a := fun a h h' => by rw [← g2, gU_n _ _ _ h, gAn _ _ h', o1 a h h']
  have o3 : ∀ a, a ≠ 85 → a ≠ 123 → z3 a = s a := fun a h h' => by rw [← g3, gU_n _ _ _ h, gAn _ _ h', o2 a h h']
  have o4 : ∀ a, a ≠ 85 → a ≠ 123 → z4 a = s a := fun a h h' => by rw [← g4, gU_n _ _ _ h, gAn _ _ h', o3 a h h']
  have p1 : z1 123 = cpf (s 123) (s 86) (70 * i) 6 := by rw [← g1, gU_n _ _ _ (by decide), gA_s, o0 123 (by decide), o0 86 (by decide)]
  have p2 : z2 123 = cpf (z1 123) (s 87) (70 * i + 6) 22 := by rw [← g2, gU_n _ _ _ (by decide), gA_s, o1 87 (by decide) (by decide)]
  have p3 : z3 123 = cpf (z2 123) (s 88) (70 * i + 28) 22 := by rw [← g3, gU_n _ _ _ (by decide), gA_s, o2 88 (by decide) (by decide)]
  have p4 : z4 123 = cp4 s i := by rw [← g4, gU_n _ _ _ (by decide), gA_s, o3 89 (by decide) (by decide), p3, p2, p1]; rfl
  have q0 : ∀ j, j ≠ 57 → j ≠ 58 → z0 85 j = s 85 j := fun j h h' => by rw [← g0, gUo _ _ _ h', gUo _ _ _ h]
  have q1 : ∀ j, j ≠ 57 → j ≠ 58 → z1 85 j = s 85 j := fun j h h' => by rw [← g1, gUo _ _ _ h, gAn _ _ (by decide), q0 j h h']
  have q2 : ∀ j, j ≠ 57 → j ≠ 58 → z2 85 j = s 85 j := fun j h h' => by rw [← g2, gUo _ _ _ h, gAn _ _ (by decide), q1 j h h']
  have q3 : ∀ j, j ≠ 57 → j ≠ 58 → z3 85 j = s 85 j := fun j h h' => by rw [← g3, gUo _ _ _ h, gAn _ _ (by decide), q2 j h h']
  have q4 : ∀ j, j ≠ 57 → j ≠ 58 → z4 85 j = s 85 j := fun j h h' => by rw [← g4, gUo _ _ _ h, gAn _ _ (by decide), q3 j h h']
  have hM4 : MR A z4 := by
    unfold MR at hM ⊢
    rw [o4 86 (by decide) (by decide), o4 87 (by decide) (by decide), o4 88 (by decide) (by decide), o4 89 (by decide) (by decide)]
    exact hM
  simp only [wp_bind, wp_some]
  refine (wp_fr (wp_refresh hA hM4) (fun t ht => w_M_refresh z4 t ht)).mono ?_
  rintro t ⟨h1, h2⟩
  have fr : ∀ a, a ≠ 98 → a ≠ 99 → t a = z4 a := fun a ha hb => h2 a (by simp [W_M_refresh]; omega)
  refine ⟨h1, by rw [fr 123 (by decide) (by decide), p4], fun a h3 h4 h5 h6 => by rw [fr a h4 h5, o4 a h3 h6], fun j h3 h4 => by rw [fr 85 (by decide) (by decide), q4 j h3 h4]⟩
theorem wp_carries1 {i : Nat} (hi : i < 4) {A : zA} (hA : okB A) {s : kM} (i0 : s 123 (70 * i) = aR A) (i1 : s 123 (70 * i + 1) = aF A) (i2 : s 123 (70 * i + 2) = (aN A : Int) - aF A) (i3 : ∀ j, j < aN A → s 123 (70 * i + 6 + j) = ((ap A j / 2 : Nat) : Int) ∧ s 123 (70 * i + 28 + j) = ((ap A j % 2 : Nat) : Int)) (i4 : ∀ k, pr A k → s 123 (70 * i + 50 + k) = ah A k) : wp (f_M_carriesAll i 1 s) (fun t => MT A t ∧ (t 86 3 = s 123 (70 * i + 3) ∧ t 86 4 = s 123 (70 * i + 4) ∧ t 86 5 = s 123 (70 * i + 5)) ∧ (∀ a, a < 85 ∨ (90 ≤ a ∧ a ≤ 97) ∨ 100 ≤ a → t a = s a) ∧ ∀ j, j ≠ 57 → j ≠ 58 → t 85 j = s 85 j) := by
  have hn := okB_n hA
  unfold f_M_carriesAll
  have hw : wI (70 * (i : Int)) = ((70 * i : Nat) : Int) := by rw [wI_id (by omega) (by omega)]; rfl
  rw [hw]
  simp only [gLet]
  have hB : gB 1 = some () := rfl
  rw [hB, Option.bind_some]
  generalize g0 : gU (gU s 85 57 ((70 * i : Nat) : Int)) 85 58 1 = z0
  have c1 := e_carry1 (a := 86) (n := 6) (m := 70 * i) (s := z0) (by decide) (by decide) (by decide) (by rw [← g0, gUs]) (by rw [← g0, gUo _ _ _ (by decide), gUs]) (by omega)
  generalize g1 : gU (gA z0 86 (fun j => if j < 6 then z0 123 (70 * i + j) else z0 86 j)) 85 57 (((70 * i : Nat) : Int) + (6 : Nat)) = z1 at c1
  have y1 : z1 85 58 = 1 := by rw [← g1, gUo _ _ _ (by decide), gAn _ _ (by decide), ← g0, gUs]
  have c2 := e_carry1 (a := 87) (n := 22) (m := 70 * i + 6) (s := z1) (by decide) (by decide) (by decide) y1 (by rw [← g1, gUs]; omega) (by omega)
  generalize g2 : gU (gA z1 87 (fun j => if j < 22 then z1 123 (70 * i + 6 + j) else z1 87 j)) 85 57 (((70 * i + 6 : Nat) : Int) + (22 : Nat)) = z2 at c2
  have y2 : z2 85 58 = 1 := by rw [← g2, gUo _ _ _ (by decide), gAn _ _ (by decide)]; exact y1
  have c3 := e_carry1 (a := 88) (n := 22) (m := 70 * i + 28) (s := z2) (by decide) (by decide) (by decide) y2 (by rw [← g2, gUs]; omega) (by omega)
  generalize g3 : gU (gA z2 88 (fun j => if j < 22 then z2 123 (70 * i + 28 + j) else z2 88 j)) 85 57 (((70 * i + 28 : Nat) : Int) + (22 : Nat)) = z3 at c3
  have y3 : z3 85 58 = 1 := by rw [← g3, gUo _ _ _ (by decide), gAn _ _ (by decide)]; exact y2
  have c4 := e_carry1 (a := 89) (n := 11) (m := 70 * i + 50) (s := z3) (by decide) (by decide) (by decide) y3 (by rw [← g3, gUs]; omega) (by omega)
  generalize g4 : gU (gA z3 89 (fun j => if j < 11 then z3 123 (70 * i + 50 + j) else z3 89 j)) 85 57 (((70 * i + 50 : Nat) : Int) + (11 : Nat)) = z4 at c4
  rw [c1, Option.bind_some, c2, Option.bind_some, c3, Option.bind_some, c4, Option.bind_some]
  have o0 : ∀ a, a ≠ 85 → z0 a = s a := fun a h => by rw [← g0, gU_n _ _ _ h, gU_n _ _ _ h]
  have o1 : ∀ a, a ≠ 85 → a ≠ 86 → z1 a = s a := fun a h h' => by rw [← g1, gU_n _ _ _ h, gAn _ _ h', o0 a h]
  have o2 : ∀ a, a ≠ 85 → a ≠ 87 → z2 a = z1 a := fun a h h' => by rw [← g2, gU_n _ _ _ h, gAn _ _ h']
  have o3 : ∀ a, a ≠ 85 → a ≠ 88 → z3 a = z2 a := fun a h h' => by rw [← g3, gU_n _ _ _ h, gAn _ _ h']
  have o4 : ∀ a, a ≠ 85 → a ≠ 89 → z4 a = z3 a := fun a h h' => by rw [← g4, gU_n _ _ _ h, gAn _ _ h']
  have k123 : z1 123 = s 123 ∧ z2 123 = s 123 ∧ z3 123 = s 123 := by
    have h1 := o1 123 (by decide) (by decide)
    have h2 := o2 123 (by decide) (by decide)
    have h3 := o3 123 (by decide) (by decide)
    exact ⟨h1, h2.trans h1, h3.trans (h2.trans h1)⟩
  have p86 : ∀ j, j < 6 → z4 86 j = s 123 (70 * i + j) := fun j hj => by
    rw [o4 86 (by decide) (by decide), o3 86 (by decide) (by decide), o2 86 (by decide) (by decide), ← g1, gU_n _ _ _ (by decide), gA_s, if_pos hj, o0 123 (by decide)]
  have p87 : ∀ j, j < 22 → z4 87 j = s 123 (70 * i + 6 + j) := fun j hj => by
    rw [o4 87 (by decide) (by decide), o3 87 (by decide) (by decide), ← g2, gU_n _ _ _ (by decide), gA_s, if_pos hj, k123.1]
  have p88 : ∀ j, j < 22 → z4 88 j = s 123 (70 * i + 28 + j) := fun j hj => by
    rw [o4 88 (by decide) (by decide), ← g3, gU_n _ _ _ (by decide), gA_s, if_pos hj, k123.2.1]
  have p89 : ∀ j, j < 11 → z4 89 j = s 123 (70 * i + 50 + j) := fun j hj => by
    rw [← g4, gU_n _ _ _ (by decide), gA_s, if_pos hj, k123.2.2]
  have oo : ∀ a, a < 85 ∨ 90 ≤ a → z4 a = s a := fun a h => by
    rw [o4 a (by omega) (by omega), o3 a (by omega) (by omega), o2 a (by omega) (by omega), o1 a (by omega) (by omega)]
  have q0 : ∀ j, j ≠ 57 → j ≠ 58 → z0 85 j = s 85 j := fun j h h' => by rw [← g0, gUo _ _ _ h', gUo _ _ _ h]
  have q1 : ∀ j, j ≠ 57 → j ≠ 58 → z1 85 j = s 85 j := fun j h h' => by rw [← g1, gUo _ _ _ h, gAn _ _ (by decide), q0 j h h']
  have q2 : ∀ j, j ≠ 57 → j ≠ 58 → z2 85 j = s 85 j := fun j h h' => by rw [← g2, gUo _ _ _ h, gAn _ _ (by decide), q1 j h h']
  have q3 : ∀ j, j ≠ 57 → j ≠ 58 → z3 85 j = s 85 j := fun j h h' => by rw [← g3, gUo _ _ _ h, gAn _ _ (by decide), q2 j h h']
  have q4 : ∀ j, j ≠ 57 → j ≠ 58 → z4 85 j = s 85 j := fun j h h' => by rw [← g4, gUo _ _ _ h, gAn _ _ (by decide), q3 j h h']
  have hM4 : MR A z4 := by
    refine ⟨?_, ?_, ?_, ?_, ?_⟩
    · rw [p86 0 (by decide)]; exact i0
    · rw [p86 1 (by decide)]; exact i1
    · rw [p86 2 (by decide)]; exact i2
    · intro j hj
      rw [p87 j (by omega), p88 j (by omega)]
      exact i3 j hj
    · intro k hk
      rw [p89 k (pr_lt hA hk)]
      exact i4 k hk
  simp only [wp_bind, wp_some]
  refine (wp_fr (wp_refresh hA hM4) (fun t ht => w_M_refresh z4 t ht)).mono ?_
  rintro t ⟨h1, h2⟩
  have fr : ∀ a, a ≠ 98 → a ≠ 99 → t a = z4 a := fun a ha hb => h2 a (by simp [W_M_refresh]; omega)
  refine ⟨h1, ?_, fun a h3 => by rw [fr a (by omega) (by omega), oo a (by omega)], fun j h3 h4 => by rw [fr 85 (by decide) (by decide), q4 j h3 h4]⟩
  rw [fr 86 (by decide) (by decide), p86 3 (by decide), p86 4 (by decide), p86 5 (by decide)]
  exact ⟨rfl, rfl, rfl⟩
theorem RIm1_c2 {i : Nat} {A : zA} {s s' : kM} (h : RIm1 i A s) (h0 : ∀ a, a = 57 + 7 * i ∨ a = 58 + 7 * i ∨ a = 59 + 7 * i ∨ a = 60 + 7 * i → s' a = s a) (h1 : ∀ z, 70 * i ≤ z → z < 70 * i + 70 → s' 123 z = s 123 z) (h2 : s' 0 11 = s 0 11) : RIm1 i A s' := by
  obtain ⟨q1, q2, q3, q4, q5, q6, q7, q8, q9, q10, q11, q12, q13, q14⟩ := h
  have e1 : s' (57 + 7 * i) = s (57 + 7 * i) := h0 _ (Or.inl rfl)
  have hn := okB_n q1.1
  unfold RIm1
  rw [e1, h2, h1 _ (by omega) (by omega), h1 (70 * i + 5) (by omega) (by omega), h1 (70 * i + 4) (by omega) (by omega), h1 (70 * i) (by omega) (by omega), h1 (70 * i + 1) (by omega) (by omega), h1 (70 * i + 2) (by omega) (by omega)]
  refine ⟨q1, KR_c q2 (h0 _ (by omega)) (h0 _ (by omega)) (h0 _ (by omega)), q3, q4, q5, q6, q7, q8, q9, q10, q11, q12, fun j hj => ?_, fun k hk => ?_⟩
  · rw [h1 _ (by omega) (by omega), h1 _ (by omega) (by omega)]; exact q13 j hj
  · have := pr_lt q1.1 hk
    rw [h1 _ (by omega) (by omega)]; exact q14 k hk
theorem gLet_eq {α β : Type} (x : α) (f : α → β) : gLet x f = f x := rfl
theorem e_M_image {i : Nat} (hi : i < 4) {zs zt : kM} (h : f_M_carriesAll i 0 (gU zs 124 i 1) = some zt) : f_M_image i zs = some (zt 86 3, zt) := by
  unfold f_M_image
  rw [e_M_in, if_pos (by omega), Option.bind_some, if_neg (by decide), gI_n hi, Option.bind_some]
  rw [gLet_eq, h, Option.bind_some]
section TOWN
variable {RC : zA → kM → Prop} {RU : Nat → kM → Prop}
theorem O_image (hC : hRC RC) (hU : hRU RU) (x : Int) : OB RC RU (f_KT_image x) (f_M_image x) := by
  intro s hs
  have hs' := hs
  obtain ⟨A, hA, hK, hM, q4, q5, q6, q7, q8⟩ := hs'
  by_cases c : 0 ≤ x ∧ x < 4
  · obtain ⟨i, rfl⟩ : ∃ i : Nat, x = (i : Int) := ⟨x.toNat, by omega⟩
    have hi : i < 4 := by omega
    have hn := okB_n hA.1
    obtain ⟨t, e1, k1, k2, k3, k4, k5, k6⟩ := wp_Stand_copy (b := 57 + 7 * i) (c := 3) (tS_i hi) rfl (by omega) hA.1 (s := s) hK.1
    generalize g1 : gU t (57 + 7 * i) 4 1 = zs
    have o1 : ∀ a, a < 57 + 7 * i ∨ 64 + 7 * i ≤ a → zs a = s a := fun a ha => by rw [← g1, gU_n _ _ _ (by omega), k6 a (by omega)]
    have hkk : f_KT_image i s = some (s 3 1, zs) := by
      unfold f_KT_image
      rw [if_neg (by omega), if_pos (by omega), gI_n hi]
      simp only [Option.bind_some]
      rw [e1]
      simp only [Option.bind_some, gLet, g1]
      rw [o1 3 (by omega)]
    have hM1 : MR A (gU zs 124 i 1) := by
      have h1 := hM.1
      unfold MR at h1 ⊢
      rw [gU_n _ _ _ (by decide), gU_n _ _ _ (by decide), gU_n _ _ _ (by decide), gU_n _ _ _ (by decide), o1 86 (by omega), o1 87 (by omega), o1 88 (by omega), o1 89 (by omega)]
      exact h1
    obtain ⟨zt, e2, m1, m2, m3, m4⟩ := wp_carries0 hi hA.1 hM1
    have o2 : ∀ a, a ≠ 85 → a ≠ 98 → a ≠ 99 → a ≠ 123 → a ≠ 124 → zt a = zs a := fun a h1 h2 h3 h4 h5 => by rw [m3 a h1 h2 h3 h4, gU_n _ _ _ h5]
    have hmm : f_M_image i zs = some (s 3 1, zt) := by
      have w86 : zt 86 3 = s 3 1 := by rw [o2 86 (by decide) (by decide) (by decide) (by decide) (by decide), o1 86 (by omega), q5.1]
      rw [e_M_image hi e2, w86]
    refine ⟨s 3 1, zs, zt, hkk, hmm, ?_⟩
    have o3 : ∀ a, a < 57 + 7 * i ∨ 64 + 7 * i ≤ a → a ≠ 85 → a ≠ 98 → a ≠ 99 → a ≠ 123 → a ≠ 124 → zt a = s a := fun a h0 h1 h2 h3 h4 h5 => by rw [o2 a h1 h2 h3 h4 h5, o1 a h0]
    have e85 : ∀ j, j ≠ 57 → j ≠ 58 → zt 85 j = s 85 j := fun j h1 h2 => by rw [m4 j h1 h2, gUn _ _ _ (by decide), o1 85 (by omega)]
    refine ⟨A, hA, KT_c hK (fun j hj => o3 _ (by omega) (by omega) (by omega) (by omega) (by omega) (by omega)), m1, RTape_c q4 (o3 _ (by omega) (by decide) (by decide) (by decide) (by decide) (by decide)) (o3 _ (by omega) (by decide) (by decide) (by decide) (by decide) (by decide)) (e85 _ (by decide) (by decide)) (o3 _ (by omega) (by decide) (by decide) (by decide) (by decide) (by decide)), RScal_c q5 ?_ ?_ ?_, RRule_c hU q6 ?_ ⟨e85 _ (by decide) (by decide), e85 _ (by decide) (by decide)⟩ ?_ ?_ (fun a h1 h2 => o3 a (by omega) (by omega) (by omega) (by omega) (by omega) (by omega)) (fun a h1 h2 => o3 a (by omega) (by omega) (by omega) (by omega) (by omega) (by omega)), ?_, hC.1 A s zt q8 (fun a h1 h2 => o3 a (by omega) (by omega) (by omega) (by omega) (by omega) (by omega))⟩
    · rw [o3 3 (by omega) (by decide) (by decide) (by decide) (by decide) (by decide)]; exact ⟨rfl, rfl, rfl⟩
    · rw [o3 86 (by omega) (by decide) (by decide) (by decide) (by decide) (by decide)]; exact ⟨rfl, rfl, rfl⟩
    · rw [o3 0 (by omega) (by decide) (by decide) (by decide) (by decide) (by decide)]
    · rw [o3 0 (by omega) (by decide) (by decide) (by decide) (by decide) (by decide)]
    · rw [o3 900 (by omega) (by decide) (by decide) (by decide) (by decide) (by decide)]
    · exact o3 56 (by omega) (by decide) (by decide) (by decide) (by decide) (by decide)
    · intro l hl
      have e124 : zt 124 l = if l = i then 1 else s 124 l := by
        rw [m3 124 (by decide) (by decide) (by decide) (by decide), gU_s]
        unfold kup
        by_cases h : l = i
        · rw [if_pos h, if_pos h]
        · rw [if_neg h, if_neg h, o1 124 (by omega)]
      have e0 : zt 0 = s 0 := o3 0 (by omega) (by decide) (by decide) (by decide) (by decide) (by decide)
      have c0 : gU zs 124 i 1 123 = s 123 := by rw [gU_n _ _ _ (by decide), o1 123 (by omega)]
      have c86 : gU zs 124 i 1 86 = s 86 := by rw [gU_n _ _ _ (by decide), o1 86 (by omega)]
      have c87 : gU zs 124 i 1 87 = s 87 := by rw [gU_n _ _ _ (by decide), o1 87 (by omega)]
      have c88 : gU zs 124 i 1 88 = s 88 := by rw [gU_n _ _ _ (by decide), o1 88 (by omega)]
      have c89 : gU zs 124 i 1 89 = s 89 := by rw [gU_n _ _ _ (by decide), o1 89 (by omega)]
      unfold cp4 at m2
      rw [c0, c86, c87, c88, c89] at m2
      by_cases hli : l = i
      · subst hli
        have eb : zt (57 + 7 * l) = zs (57 + 7 * l) := o2 _ (by omega) (by omega) (by omega) (by omega) (by omega)
        rw [e124, if_pos rfl, eb]
        refine ⟨by rw [← g1, gUs], Or.inr rfl, fun _ => ⟨A, ?_⟩⟩
        have f1 : zs (57 + 7 * l) 1 = s 3 1 := by rw [← g1, gUo _ _ _ (by decide), k2]
        have f2 : zs (57 + 7 * l) 2 = s 3 2 := by rw [← g1, gUo _ _ _ (by decide), k3]
        have f3 : zs (57 + 7 * l) 3 = s 3 3 := by rw [← g1, gUo _ _ _ (by decide), k4]
        obtain ⟨w1, w2, w3, w4, w5, w6, w7⟩ := q5
        obtain ⟨v86a, v86b, v86c, v87, v89⟩ := hM.1
        have z86 : ∀ j, j < 6 → zt 123 (70 * l + j) = s 86 j := fun j hj => by
          rw [m2]; unfold cpf
          rw [if_neg (by omega), if_neg (by omega), if_neg (by omega), if_pos (by omega), show 70 * l + j - 70 * l = j by omega]
        have z87 : ∀ j, j < 22 → zt 123 (70 * l + 6 + j) = s 87 j := fun j hj => by
          rw [m2]; unfold cpf
          rw [if_neg (by omega), if_neg (by omega), if_pos (by omega), show 70 * l + 6 + j - (70 * l + 6) = j by omega]
        have z88 : ∀ j, j < 22 → zt 123 (70 * l + 28 + j) = s 88 j := fun j hj => by
          rw [m2]; unfold cpf
          rw [if_neg (by omega), if_pos (by omega), show 70 * l + 28 + j - (70 * l + 28) = j by omega]
        have z89 : ∀ j, j < 11 → zt 123 (70 * l + 50 + j) = s 89 j := fun j hj => by
          rw [m2]; unfold cpf
          rw [if_pos (by omega), show 70 * l + 50 + j - (70 * l + 50) = j by omega]
        have kr : KR (58 + 7 * l) A zt := by
          have h1 := k1.1
          rw [show 57 + 7 * l + 1 = 58 + 7 * l by omega] at h1
          refine KR_c h1 ?_ ?_ ?_
          · rw [o2 _ (by omega) (by omega) (by omega) (by omega) (by omega), ← g1, gU_n _ _ _ (by omega)]
          · rw [o2 _ (by omega) (by omega) (by omega) (by omega) (by omega), ← g1, gU_n _ _ _ (by omega)]
          · rw [o2 _ (by omega) (by omega) (by omega) (by omega) (by omega), ← g1, gU_n _ _ _ (by omega)]
        refine ⟨hA, kr, ?_, ?_, ?_, ?_, ?_, ?_, ?_, ?_, ?_, ?_, ?_, ?_⟩
        · rw [eb, f1, z86 3 (by decide), w1]
        · rw [eb, f2, z86 5 (by decide), w2]
        · rw [eb, f2]; exact w3
        · rw [eb, f2, e0]; exact w4
        · rw [eb, f3, z86 4 (by decide), w5]
        · rw [eb, f3]; exact w6
        · rw [eb, f3]; exact w7
        · have := z86 0 (by decide)
          rw [Nat.add_zero] at this
          rw [this, v86a]
        · rw [z86 1 (by decide), v86b]
        · rw [z86 2 (by decide), v86c]
        · intro j hj
          rw [z87 j (by omega), z88 j (by omega)]
          exact v87 j hj
        · intro k hk
          rw [z89 k (pr_lt hA.1 hk)]
          exact v89 k hk
      · obtain ⟨u1, u2, u3⟩ := q7 l hl
        have ea : ∀ a, a = 57 + 7 * l ∨ a = 58 + 7 * l ∨ a = 59 + 7 * l ∨ a = 60 + 7 * l → zt a = s a := fun a ha => o3 a (by omega) (by omega) (by omega) (by omega) (by omega) (by omega)
        rw [e124, if_neg hli, ea _ (Or.inl rfl)]
        refine ⟨u1, u2, fun h => ?_⟩
        obtain ⟨B, hB⟩ := u3 h
        refine ⟨B, RIm1_c2 hB ea (fun z hz1 hz2 => ?_) (by rw [e0])⟩
        rw [m2]; unfold cpf
        rw [if_neg (by omega), if_neg (by omega), if_neg (by omega), if_neg (by omega)]
  · refine ⟨-1, s, s, ?_, ?_, hs⟩
    · unfold f_KT_image
      by_cases c2 : x < 0
      · rw [if_pos c2]
      · rw [if_neg c2, if_neg (by omega)]
    · unfold f_M_image
      rw [e_M_in, if_neg (by omega)]
      rfl
theorem O_back (hC : hRC RC) (hU : hRU RU) (x : Int) : OB RC RU (f_KT_back x) (f_M_back x) := by
  intro s hs
  have hs' := hs
  obtain ⟨A, hA, hK, hM, q4, q5, q6, q7, q8⟩ := hs'
  by_cases c : 0 ≤ x ∧ x < 4
  · obtain ⟨i, rfl⟩ : ∃ i : Nat, x = (i : Int) := ⟨x.toNat, by omega⟩
    have hi : i < 4 := by omega
    obtain ⟨u1, u2, u3⟩ := q7 i hi
    rcases u2 with u2 | u2
    · refine ⟨-1, s, s, ?_, ?_, hs⟩
      · unfold f_KT_back
        rw [if_neg (by omega), if_neg (by omega), gI_n hi]
        simp only [Option.bind_some]
        rw [if_pos (by omega)]
      · unfold f_M_back
        rw [e_M_in, if_pos (by omega)]
        simp only [Option.bind_some, show ¬ ((1 : Int) = 0) by decide, if_false, gI_n hi]
        rw [if_pos u2]
    · obtain ⟨B, b1, b2, b3, b4, b5, b6, b7, b8, b9, b10, b11, b12, b13, b14⟩ := u3 u2
      have hKB : KR (57 + 7 * i + 1) B s := by rw [show 57 + 7 * i + 1 = 58 + 7 * i by omega]; exact b2
      obtain ⟨t, e1, k1, k2, k3, k4, k5, k6⟩ := wp_Stand_copy (b := 3) (c := 57 + 7 * i) rfl (tS_i hi) (by omega) b1.1 hKB
      have e3 := e_forget t
      generalize g3 : gU (gU (gU t 21 16 0) 21 18 0) 44 0 0 = zs at e3
      have ot : ∀ a, a ≠ 21 → a ≠ 44 → zs a = t a := fun a h1 h2 => by rw [← g3, gU_n _ _ _ h2, gU_n _ _ _ h1, gU_n _ _ _ h1]
      have o1 : ∀ a, a ≠ 21 → a ≠ 44 → a < 3 ∨ 10 ≤ a → zs a = s a := fun a h1 h2 h3 => by rw [ot a h1 h2, k6 a (by omega)]
      have hkk : f_KT_back i s = some (zs 3 1, zs) := by
        unfold f_KT_back
        rw [if_neg (by omega), if_neg (by omega), gI_n hi]
        simp only [Option.bind_some]
        rw [if_neg (by omega), e1]
        simp only [Option.bind_some]
        rw [e3]
        rfl
      have z123 : zs 123 = s 123 := o1 123 (by decide) (by decide) (by decide)
      obtain ⟨zt, e2, m1, m2, m3, m4⟩ := wp_carries1 hi b1.1 (s := zs) (by rw [z123]; exact b10) (by rw [z123]; exact b11) (by rw [z123]; exact b12) (fun j hj => by rw [z123]; exact b13 j hj) (fun k hk => by rw [z123]; exact b14 k hk)
      rw [z123] at m2
      have f1 : zs 3 1 = s (57 + 7 * i) 1 := by rw [ot 3 (by decide) (by decide), k2]
      have f2 : zs 3 2 = s (57 + 7 * i) 2 := by rw [ot 3 (by decide) (by decide), k3]
      have f3 : zs 3 3 = s (57 + 7 * i) 3 := by rw [ot 3 (by decide) (by decide), k4]
      have hmm : f_M_back i zs = some (zs 3 1, zt) := by
        unfold f_M_back
        rw [e_M_in, if_pos (by omega)]
        simp only [Option.bind_some, show ¬ ((1 : Int) = 0) by decide, if_false, gI_n hi]
        rw [o1 124 (by decide) (by decide) (by decide), if_neg (by rw [u2]; decide), e2]
        simp only [Option.bind_some]
        rw [m2.1, f1, b3]
      refine ⟨zs 3 1, zs, zt, hkk, hmm, ?_⟩
      have o2 : ∀ a, a < 85 ∨ (90 ≤ a ∧ a ≤ 97) ∨ 100 ≤ a → zt a = zs a := m3
      have o3 : ∀ a, a < 3 ∨ (10 ≤ a ∧ a < 21) ∨ (45 ≤ a ∧ a < 85) ∨ 100 ≤ a → zt a = s a := fun a h => by rw [o2 a (by omega), o1 a (by omega) (by omega) (by omega)]
      have e85 : ∀ j, j ≠ 57 → j ≠ 58 → zt 85 j = s 85 j := fun j h1 h2 => by rw [m4 j h1 h2, o1 85 (by decide) (by decide) (by decide)]
      have hKT : KT 4 B zt := KT_c k1 (fun j hj => by rw [o2 _ (by omega)]; exact ot _ (by omega) (by omega))
      refine ⟨B, b1, hKT, m1, RTape_c q4 (o3 _ (by decide)) (o3 _ (by decide)) (e85 _ (by decide) (by decide)) (o3 _ (by decide)), ?_, RRule_c hU q6 (by rw [o3 0 (by decide)]) ⟨e85 _ (by decide) (by decide), e85 _ (by decide) (by decide)⟩ (by rw [o3 900 (by decide)]) (o3 56 (by decide)) (fun a h1 h2 => o3 a (by omega)) (fun a h1 h2 => o3 a (by omega)), RImg_c q7 (fun a h1 h2 => o3 a (by omega)) (o3 123 (by decide)) (o3 124 (by decide)) (by rw [o3 0 (by decide)]; omega), hC.2 B zt ?_ ?_ ?_⟩
      · unfold RScal
        rw [o2 3 (by decide), f1, f2, f3, m2.1, m2.2.1, m2.2.2, o3 0 (by decide)]
        exact ⟨b3, b4, b5, b6, b7, b8, b9⟩
      · rw [o2 44 (by decide), ← g3, gUs]
      · rw [o2 21 (by decide), ← g3, gUn _ _ _ (by decide), gUo _ _ _ (by decide), gUs]
      · rw [o2 21 (by decide), ← g3, gUn _ _ _ (by decide), gUs]
  · refine ⟨-1, s, s, ?_, ?_, hs⟩
    · unfold f_KT_back
      by_cases c2 : x < 0
      · rw [if_pos c2]
      · rw [if_neg c2, if_pos (by omega)]
    · unfold f_M_back
      rw [e_M_in, if_neg (by omega)]
      rfl
end TOWN
