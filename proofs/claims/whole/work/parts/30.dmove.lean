def tb (A : zA) (e : Nat) : Nat := 2 ^ bre A e ||| 2 ^ bre A (xo e)
def mtF (A : zA) (X x : Nat) : Nat → Nat
  | 0 => 0
  | i + 1 => mtF A X x i ||| (X ^^^ tb A (sit A x i))
def hhF (A : zA) (x : Nat) : Nat → Nat
  | 0 => 0
  | i + 1 => hhF A x i ||| 2 ^ hgt A (sit A x i / 2)
def ggF (A : zA) (X x : Nat) : Nat → Bool
  | 0 => true
  | i + 1 => ggF A X x i && decide (bre A (sit A x i) ≠ bre A (xo (sit A x i)) ∧ tb A (sit A x i) &&& X = tb A (sit A x i) ∧ mtF A X x i &&& (X ^^^ tb A (sit A x i)) = 0)
theorem tb_lt {A : zA} (hA : okA A) {e : Nat} (he : e < 2 * aN A) : tb A e < 2 ^ 11 :=
  Nat.or_lt_two_pow (Nat.pow_lt_pow_right (by decide) (bre_lt hA.1 he)) (Nat.pow_lt_pow_right (by decide) (bre_lt hA.1 (xo_lt he)))
theorem mtF_lt {A : zA} (hA : okA A) {X x : Nat} (hX : X < 2 ^ 11) (hx : x < 2 * aN A) : ∀ i, mtF A X x i < 2 ^ 11
  | 0 => Nat.two_pow_pos _
  | i + 1 => Nat.or_lt_two_pow (mtF_lt hA hX hx i) (Nat.xor_lt_two_pow hX (tb_lt hA (sit_lt hA hx i)))
theorem hhF_lt {A : zA} {x : Nat} : ∀ i, hhF A x i < 2 ^ 11
  | 0 => Nat.two_pow_pos _
  | i + 1 => Nat.or_lt_two_pow (hhF_lt i) (Nat.pow_lt_pow_right (by decide) (by have := hgt_le A (sit A x i / 2); omega))
theorem wp_isSlideLand {A : zA} (hA : okA A) {t : kM} (hM : MT A t) (hT : TN A 11 (t 100)) {X x k : Nat} (hk : k < 44) (hX : X < 2 ^ 11) (hx : x < 2 * aN A) (h103 : t 103 k = (x : Int)) : wp (f_M_isSlideLand k X t) (fun r => r.1 = (if (ggF A X x 3 && decide (hhF A x 3 = 7)) = true then 1 else 0) ∧ (∀ z, z ≠ 116 → r.2 z = t z) ∧ ∀ i, i < 3 → r.2 116 i = ((sit A x i / 2 : Nat) : Int)) := by
  unfold f_M_isSlideLand
  rw [gI_n hk, Option.bind_some, h103]
  unfold f_M_isSlideLand_13
  refine wp_for 3 (fun i y => y.1 = ((sit A x i : Nat) : Int) ∧ y.2.1 = ((mtF A X x i : Nat) : Int) ∧ y.2.2.1 = ((hhF A x i : Nat) : Int) ∧ y.2.2.2.1 = (if ggF A X x i = true then 1 else 0) ∧ y.2.2.2.2.1 = (i : Int) ∧ (∀ z, z ≠ 116 → y.2.2.2.2.2 z = t z) ∧ ∀ j, j < i → y.2.2.2.2.2 116 j = ((sit A x j / 2 : Nat) : Int)) 0 _ (by omega) (by omega) (by exact ⟨rfl, rfl, rfl, rfl, rfl, fun _ _ => rfl, fun j hj => by omega⟩) ?_ ?_
  · rintro i ⟨y1, y2, y3, y4, y5, w⟩ _ hi ⟨rfl, rfl, rfl, rfl, rfl, q1, q2⟩
    dsimp only at q1 q2
    dsimp only
    refine (wp_sl1 hA (MT_k hM (fun a h1 h2 => q1 a (by omega))) (by rw [q1 100 (by decide)]; exact hT) hX (sit_lt hA hx i) (mtF_lt hA hX hx i) (hhF_lt i) hi (g := ggF A X x i)).mono ?_
    rintro (⟨z1, z2, z3, z4, z5, z6⟩ | r) hr
    · obtain ⟨r1, r2, r3, r4, r5, r6⟩ := hr
      dsimp only at r1 r2 r3 r4 r5 r6
      refine ⟨r1, r2, r3, r4, r5, fun z hz => ?_, fun j hj => ?_⟩
      · dsimp only
        rw [r6, gU_n _ _ _ hz]
        exact q1 z hz
      · dsimp only
        rw [r6]
        by_cases hji : j = i
        · rw [hji, gUs]
        · rw [gUo _ _ _ hji]
          exact q2 j (by omega)
    · exact hr.elim
  · rintro ⟨y1, y2, y3, y4, y5, w⟩ ⟨rfl, rfl, rfl, rfl, rfl, q1, q2⟩
    dsimp only at q1 q2
    dsimp only
    unfold f_M_isSlideLand_13b
    rw [if_pos (show (3 : Int) ≤ ((3 : Nat) : Int) by decide)]
    by_cases c1 : ggF A X x 3 = true
    · rw [if_pos c1, if_neg (by decide), c1, Bool.true_and]
      by_cases c2 : hhF A x 3 = 7
      · rw [if_pos (by omega), wp_some, gE_r, if_pos (decide_eq_true c2)]
        exact ⟨rfl, q1, q2⟩
      · rw [if_neg (by omega), wp_some, gE_r, if_neg (fun q => c2 (of_decide_eq_true q))]
        exact ⟨rfl, q1, q2⟩
    · rw [if_neg c1, if_pos rfl, wp_some, gE_r, Bool.eq_false_iff.mpr c1, Bool.false_and]
      exact ⟨rfl, q1, q2⟩
theorem gg3 {A : zA} (hA : okA A) {a b c x : Nat} (hx : x < 2 * aN A) (h3 : sz A x = 3) (h1 : a ≠ b) (h2 : b ≠ c) (h4 : a ≠ c) : (ggF A (2 ^ a ||| 2 ^ b ||| 2 ^ c) x 3 && decide (hhF A x 3 = 7)) = slc A a b c x := by
  have h5 := (orb_all hA hx).2.2.2.2
  rw [h3] at h5
  have h6 : sgm A (sgm A (sgm A x)) = x := h5
  have hs := sgm_lt hA hx
  have hs2 := sgm_lt hA hs
  have e1 := bre_sgm hA hx
  have e2 := bre_sgm hA hs
  have e3 := bre_sgm hA hs2
  rw [h6] at e3
  have s0 : sit A x 0 = x := rfl
  have s1 : sit A x 1 = sgm A x := rfl
  have s2 : sit A x 2 = sgm A (sgm A x) := rfl
  obtain ⟨X, hX⟩ : ∃ X, X = 2 ^ a ||| 2 ^ b ||| 2 ^ c := ⟨_, rfl⟩
  have hbit : ∀ i, X.testBit i = true ↔ i = a ∨ i = b ∨ i = c := fun i => by rw [hX]; exact bit3 a b c i
  obtain ⟨u, hu⟩ : ∃ u, u = bre A x := ⟨_, rfl⟩
  obtain ⟨zv, hzv⟩ : ∃ zv, zv = bre A (sgm A x) := ⟨_, rfl⟩
  obtain ⟨w, hw⟩ : ∃ w, w = bre A (sgm A (sgm A x)) := ⟨_, rfl⟩
  have t0 : tb A x = 2 ^ u ||| 2 ^ zv := by unfold tb; rw [← e1, ← hu, ← hzv]
  have t1 : tb A (sgm A x) = 2 ^ zv ||| 2 ^ w := by unfold tb; rw [← e2, ← hzv, ← hw]
  have t2 : tb A (sgm A (sgm A x)) = 2 ^ w ||| 2 ^ u := by unfold tb; rw [← e3, ← hw, ← hu]
  rw [← hX, Bool.eq_iff_iff]
  have hh : hhF A x 3 = 2 ^ hgt A (x / 2) ||| 2 ^ hgt A (sgm A x / 2) ||| 2 ^ hgt A (sgm A (sgm A x) / 2) := by
    show ((0 ||| 2 ^ hgt A (sit A x 0 / 2)) ||| 2 ^ hgt A (sit A x 1 / 2)) ||| 2 ^ hgt A (sit A x 2 / 2) = _
    rw [Nat.zero_or]
    rfl
  have gg : ggF A X x 3 = (((true && decide (bre A (sit A x 0) ≠ bre A (xo (sit A x 0)) ∧ tb A (sit A x 0) &&& X = tb A (sit A x 0) ∧ mtF A X x 0 &&& (X ^^^ tb A (sit A x 0)) = 0)) && decide (bre A (sit A x 1) ≠ bre A (xo (sit A x 1)) ∧ tb A (sit A x 1) &&& X = tb A (sit A x 1) ∧ mtF A X x 1 &&& (X ^^^ tb A (sit A x 1)) = 0)) && decide (bre A (sit A x 2) ≠ bre A (xo (sit A x 2)) ∧ tb A (sit A x 2) &&& X = tb A (sit A x 2) ∧ mtF A X x 2 &&& (X ^^^ tb A (sit A x 2)) = 0)) := rfl
  rw [gg, hh, s0, s1, s2, ← e1, ← e2, ← e3, t0, t1, t2, ← hu, ← hzv, ← hw, slc_iff, ← hu, ← hzv, ← hw]
  simp only [Bool.and_eq_true, decide_eq_true_eq, Bool.true_and]
  rw [bit_sub, bit_sub, bit_sub]
  constructor
  · rintro ⟨⟨⟨⟨a1, ⟨a2, a3⟩, -⟩, ⟨b1, ⟨-, b3⟩, -⟩⟩, ⟨c1, -, -⟩⟩, hv⟩
    refine ⟨decide_eq_true ⟨h3, by rw [← hu, ← hzv]; exact a1, by rw [← hzv, ← hw]; exact b1, by rw [← hu, ← hw]; exact fun q => c1 q.symm, hv⟩, (hbit _).mp a2, (hbit _).mp a3, (hbit _).mp b3⟩
  · rintro ⟨hc, k1, k2, k3⟩
    obtain ⟨-, d1, d2, d3, hv⟩ := of_decide_eq_true hc
    rw [← hu, ← hzv] at d1
    rw [← hzv, ← hw] at d2
    rw [← hu, ← hw] at d3
    have hXe : X = 2 ^ u ||| 2 ^ zv ||| 2 ^ w := by rw [hX]; exact bit3_eq d1 d2 d3 k1 k2 k3
    have x0 : X ^^^ (2 ^ u ||| 2 ^ zv) = 2 ^ w := by rw [hXe]; exact bit_x d1 d2 d3
    have x1 : X ^^^ (2 ^ zv ||| 2 ^ w) = 2 ^ u := by
      rw [hXe, show 2 ^ u ||| 2 ^ zv ||| 2 ^ w = 2 ^ zv ||| 2 ^ w ||| 2 ^ u by rw [Nat.or_assoc, Nat.or_comm]]
      exact bit_x d2 (Ne.symm d3) (Ne.symm d1)
    have x2 : X ^^^ (2 ^ w ||| 2 ^ u) = 2 ^ zv := by
      rw [hXe, show 2 ^ u ||| 2 ^ zv ||| 2 ^ w = 2 ^ w ||| 2 ^ u ||| 2 ^ zv by rw [Nat.or_comm, ← Nat.or_assoc]]
      exact bit_x (Ne.symm d3) d1 (Ne.symm d2)
    have m0 : mtF A X x 0 = 0 := rfl
    have m1 : mtF A X x 1 = 2 ^ w := by
      show 0 ||| (X ^^^ tb A (sit A x 0)) = _
      rw [s0, t0, x0, Nat.zero_or]
    have m2 : mtF A X x 2 = 2 ^ w ||| 2 ^ u := by
      show mtF A X x 1 ||| (X ^^^ tb A (sit A x 1)) = _
      rw [m1, s1, t1, x1]
    rw [m0, m1, m2, x0, x1, x2]
    refine ⟨⟨⟨⟨d1, ⟨(hbit _).mpr k1, (hbit _).mpr k2⟩, Nat.zero_and _⟩, ⟨d2, ⟨(hbit _).mpr k2, (hbit _).mpr k3⟩, bit_dis (Ne.symm d3)⟩⟩, ⟨Ne.symm d3, ⟨(hbit _).mpr k3, (hbit _).mpr k1⟩, ?_⟩⟩, hv⟩
    rw [Nat.and_or_distrib_right, bit_dis (Ne.symm d2), bit_dis d1]
    rfl
/-- what is slid: the pieces of the first such land -/
theorem wp_M_isSlide {A : zA} (hA : okA A) {s t : kM} (hM : MT A t) (hF : fLd A s t) {a b c : Nat} (ha : pb A a = true) (hb : pb A b = true) (hc : pb A c = true) (ha1 : a < 11) (hb1 : b < 11) (hc1 : c < 11) : wp (f_M_isSlide a b c t) (fun r => (∀ z, z ≠ 116 → r.2 z = t z) ∧ ((r.1 = 0 ∧ ¬ (a ≠ b ∧ b ≠ c ∧ a ≠ c ∧ (FL A (2 * aN A)).any (slc A a b c) = true)) ∨ (r.1 = 1 ∧ (a ≠ b ∧ b ≠ c ∧ a ≠ c ∧ (FL A (2 * aN A)).any (slc A a b c) = true) ∧ ∃ x, (x ∈ FL A (2 * aN A) ∧ slc A a b c x = true ∧ ∀ y, y ∈ FL A (2 * aN A) → slc A a b c y = true → x ≤ y) ∧ ∀ i, i < 3 → r.2 116 i = ((sit A x i / 2 : Nat) : Int)))) := by
  have hn := okB_n hA.1
  unfold f_M_isSlide
  rw [e_M_isB hA hM ha ha1, Option.bind_some, if_neg (show ¬ (1 : Int) = 0 by decide), e_M_isB hA hM hb hb1, Option.bind_some, if_neg (show ¬ (1 : Int) = 0 by decide), e_M_isB hA hM hc hc1, Option.bind_some, if_neg (show ¬ (1 : Int) = 0 by decide)]
  by_cases hab : a = b
  · rw [if_pos (by omega), wp_some]
    exact ⟨fun _ _ => rfl, Or.inl ⟨rfl, fun q => q.1 hab⟩⟩
  · rw [if_neg (by omega)]
    by_cases hbc : b = c
    · rw [if_pos (by omega), wp_some]
      exact ⟨fun _ _ => rfl, Or.inl ⟨rfl, fun q => q.2.1 hbc⟩⟩
    · rw [if_neg (by omega)]
      by_cases hac : a = c
      · rw [if_pos (by omega), wp_some]
        exact ⟨fun _ _ => rfl, Or.inl ⟨rfl, fun q => q.2.2.1 hac⟩⟩
      · rw [if_neg (by omega)]
        obtain ⟨-, -, hT, h4, h5⟩ := hF
        have hlen := FL_len A (2 * aN A)
        have hmem : ∀ x, x ∈ FL A (2 * aN A) → x < 2 * aN A := fun x h => FL_mem _ h
        have hsrt := FL_srt (A := A) (2 * aN A)
        generalize FL A (2 * aN A) = l at h4 h5 hlen hmem hsrt ⊢
        have p1 : 2 ^ a < 2 ^ 11 := Nat.pow_lt_pow_right (by decide) ha1
        have p2 : 2 ^ b < 2 ^ 11 := Nat.pow_lt_pow_right (by decide) hb1
        have p3 : 2 ^ c < 2 ^ 11 := Nat.pow_lt_pow_right (by decide) hc1
        have p4 := Nat.or_lt_two_pow p1 p2
        have p5 := Nat.or_lt_two_pow p4 p3
        have eX : kor (kor (kshl 1 (a : Int)) (kshl 1 (b : Int))) (kshl 1 (c : Int)) = ((2 ^ a ||| 2 ^ b ||| 2 ^ c : Nat) : Int) := by
          rw [kone (by omega), kone (by omega), kone (by omega), kor_n (by omega) (by omega), kor_n (by omega) (by omega)]
        unfold f_M_isSlide_25
        refine wp_for l.length (fun k y => y.1 = (k : Int) ∧ (∀ z, z ≠ 116 → y.2 z = t z) ∧ ∀ j, (hj : j < l.length) → j < k → ¬ slc A a b c l[j] = true) 0 _ (by omega) (by omega) (by exact ⟨rfl, fun _ _ => rfl, fun j _ h => by omega⟩) ?_ ?_
        · rintro k ⟨y, w⟩ _ hk ⟨rfl, q1, q2⟩
          dsimp only at q1 q2
          obtain ⟨z1, z2⟩ := h5 k hk
          have hx := hmem l[k] (List.getElem_mem hk)
          have ik : gI 44 (k : Int) = some k := gI_n (by omega)
          generalize hXX : l[k] = x at z1 z2 hx
          have next : ∀ w' : kM, (∀ z, z ≠ 116 → w' z = t z) → ¬ slc A a b c x = true → wp (f_M_isSlide_52 a b c k w') (gE (fun y => y.1 = ((k + 1 : Nat) : Int) ∧ (∀ z, z ≠ 116 → y.2 z = t z) ∧ ∀ j, (hj : j < l.length) → j < k + 1 → ¬ slc A a b c l[j] = true) (fun r => (∀ z, z ≠ 116 → r.2 z = t z) ∧ ((r.1 = 0 ∧ ¬ (a ≠ b ∧ b ≠ c ∧ a ≠ c ∧ l.any (slc A a b c) = true)) ∨ (r.1 = 1 ∧ (a ≠ b ∧ b ≠ c ∧ a ≠ c ∧ l.any (slc A a b c) = true) ∧ ∃ x, (x ∈ l ∧ slc A a b c x = true ∧ ∀ y, y ∈ l → slc A a b c y = true → x ≤ y) ∧ ∀ i, i < 3 → r.2 116 i = ((sit A x i / 2 : Nat) : Int))))) := by
            intro w' hw' hc
            unfold f_M_isSlide_52
            rw [wp_some, gE_l]
            dsimp only
            rw [wI_s (by omega)]
            refine ⟨rfl, hw', fun j hj hjk => ?_⟩
            by_cases hjk2 : j = k
            · subst hjk2
              rw [hXX]
              exact hc
            · exact q2 j hj (by omega)
          dsimp only
          unfold f_M_isSlide_25b
          rw [q1 85 (by decide), h4, if_neg (show ¬ (l.length : Int) ≤ (k : Int) by omega), ik, Option.bind_some, q1 102 (by decide), z1]
          by_cases h3 : sz A x = 3
          · have hg := gg3 hA hx h3 hab hbc hac
            obtain ⟨⟨r, u⟩, f1, u1, u2, u3⟩ := wp_isSlideLand hA (MT_k hM (fun a h1 h2 => q1 a (by omega))) (by rw [q1 100 (by decide)]; exact hT) (show k < 44 by omega) p5 hx (by rw [q1 103 (by decide)]; exact z2)
            dsimp only at u1 u2 u3
            have fu : ∀ z, z ≠ 116 → u z = t z := fun z hz => by rw [u2 z hz, q1 z hz]
            rw [if_pos (by omega), eX, f1, Option.bind_some]
            dsimp only
            rw [u1, hg]
            by_cases hsl : slc A a b c x = true
            · rw [if_pos hsl, if_neg (by decide), wp_some, gE_r]
              refine ⟨fu, Or.inr ⟨rfl, ⟨hab, hbc, hac, List.any_eq_true.mpr ⟨l[k], List.getElem_mem hk, by rw [hXX]; exact hsl⟩⟩, x, ⟨by rw [← hXX]; exact List.getElem_mem hk, hsl, fun y hy hys => ?_⟩, u3⟩⟩
              obtain ⟨j, hj, rfl⟩ := List.getElem_of_mem hy
              by_cases hjk : j < k
              · exact absurd hys (q2 j hj hjk)
              · rw [← hXX]
                by_cases hjk2 : j = k
                · subst hjk2
                  exact Nat.le_refl _
                · have := hsrt k j hj (by omega)
                  omega
            · rw [if_neg hsl, if_pos rfl]
              exact next u fu hsl
          · rw [if_neg (by omega)]
            refine next w q1 (fun z => ?_)
            exact h3 (of_decide_eq_true (slc_iff.mp z).1).1
        · rintro ⟨y, w⟩ ⟨rfl, q1, q2⟩
          dsimp only at q1 q2
          dsimp only
          unfold f_M_isSlide_25b
          rw [q1 85 (by decide), h4, if_pos (Int.le_refl _), wp_some, gE_r]
          refine ⟨q1, Or.inl ⟨rfl, fun z => ?_⟩⟩
          obtain ⟨x, h1, h2⟩ := List.any_eq_true.mp z.2.2.2
          obtain ⟨j, hj, rfl⟩ := List.getElem_of_mem h1
          exact q2 j hj hj h2
