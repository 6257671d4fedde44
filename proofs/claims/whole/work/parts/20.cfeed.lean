/-! feed -/
section FEED
variable {RC : zA → kM → Prop} {RU : Nat → kM → Prop}
theorem ki2b_r (x : Int) : -128 ≤ ki2b x ∧ ki2b x ≤ 127 := by
  unfold ki2b
  rw [Int8.toInt_toInt32]
  have h1 := Int8.toInt_lt (Int32.ofInt x).toInt8
  have h2 := Int8.le_toInt (Int32.ofInt x).toInt8
  omega
/-- four bytes behind place n -/
def pt (x : Int) (f : Nat → Int) (n : Nat) : Nat → Nat → Int
  | 0 => f
  | k + 1 => kup (pt x f n k) (n + k) (ki2b (ki2b (kshr x (24 - 8 * (k : Int)))))
theorem e_Tape_put (x : Int) (s : kM) (n : Nat) (hn : s 1 1 = n) (h : n + 4 ≤ 400) : f_Tape_put x s = some (gU (gA s 2 (pt x (s 2) n 4)) 1 1 ((n : Int) + 4)) := by
  unfold f_Tape_put f_Tape_put_2
  apply wp_eq
  refine wp_for 4 (fun k y => y.1 = 24 - 8 * (k : Int) ∧ y.2 = gU (gA s 2 (pt x (s 2) n k)) 1 1 ((n : Int) + k)) 0 _ (by omega) (by omega) ⟨rfl, ?_⟩ ?_ ?_
  · show s = _
    funext a j
    simp only [gU, gA, kup, pt]
    by_cases h1 : a = 1
    · subst h1
      simp [kup]
      intro h2
      subst h2
      omega
    · by_cases h2 : a = 2 <;> simp [h1, h2]
  · rintro k ⟨i, s'⟩ _ hk ⟨rfl, rfl⟩
    simp only [f_Tape_put_2b, f_Tape_put_23, wp_ite, wp_bind, wp_gI, wp_gLet, wp_some, gE_l, gE_r, gUs]
    refine ⟨fun c => by omega, fun _ => ⟨fun c => by omega, fun _ => ⟨by omega, ?_, ?_⟩⟩⟩
    · rw [wI_id (by omega) (by omega)]; omega
    · rw [show ((n : Int) + k).toNat = n + k by omega]
      funext a j
      have e1 : wI ((n : Int) + k + 1) = (n : Int) + (k + 1 : Nat) := by rw [wI_id (by omega) (by omega)]; omega
      simp only [gU, gA, kup, pt]
      by_cases h1 : a = 1
      · subst h1
        simp [kup]
        split
        · rw [wI_id (by omega) (by omega)]; omega
        · rfl
      · by_cases h2 : a = 2 <;> simp [h1, h2]
  · rintro ⟨i, s'⟩ ⟨rfl, rfl⟩
    simp only [f_Tape_put_2b, f_Tape_put_23, wp_ite, wp_bind, wp_gI, wp_gLet, wp_some, gE_l, gE_r]
    exact ⟨fun _ => rfl, fun c => by omega⟩
theorem e_M_put (x : Int) (s : kM) (n : Nat) (hn : s 85 21 = n) (h : n + 4 ≤ 400) : f_M_put x s = some (gU (gA s 105 (pt x (s 105) n 4)) 85 21 ((n : Int) + 4)) := by
  unfold f_M_put f_M_put_2
  apply wp_eq
  refine wp_for 4 (fun k y => y.1 = 24 - 8 * (k : Int) ∧ y.2 = gU (gA s 105 (pt x (s 105) n k)) 85 21 ((n : Int) + k)) 0 _ (by omega) (by omega) ⟨rfl, ?_⟩ ?_ ?_
  · show s = _
    funext a j
    simp only [gU, gA, kup, pt]
    by_cases h1 : a = 85
    · subst h1
      simp [kup]
      intro h2
      subst h2
      omega
    · by_cases h2 : a = 105 <;> simp [h1, h2]
  · rintro k ⟨i, s'⟩ _ hk ⟨rfl, rfl⟩
    simp only [f_M_put_2b, wp_ite, wp_bind, wp_gI, wp_gLet, wp_some, gE_l, gE_r, gUs]
    refine ⟨fun c => by omega, fun _ => ⟨by omega, ?_, ?_⟩⟩
    · rw [wI_id (by omega) (by omega)]; omega
    · rw [show ((n : Int) + k).toNat = n + k by omega]
      funext a j
      have e1 : wI ((n : Int) + k + 1) = (n : Int) + (k + 1 : Nat) := by rw [wI_id (by omega) (by omega)]; omega
      simp only [gU, gA, kup, pt]
      by_cases h1 : a = 85
      · subst h1
        simp [kup]
        split
        · rw [wI_id (by omega) (by omega)]; omega
        · rfl
      · by_cases h2 : a = 105 <;> simp [h1, h2]
  · rintro ⟨i, s'⟩ ⟨rfl, rfl⟩
    simp only [f_M_put_2b, wp_ite, wp_bind, wp_gI, wp_gLet, wp_some, gE_l, gE_r]
    exact ⟨fun _ => rfl, fun c => by omega⟩
theorem pt_r (x : Int) (f : Nat → Int) (n : Nat) (hf : ∀ j, -128 ≤ f j ∧ f j ≤ 127) : ∀ k j, -128 ≤ pt x f n k j ∧ pt x f n k j ≤ 127
  | 0, j => hf j
  | k + 1, j => by
    unfold pt kup
    split
    · exact ki2b_r _
    · exact pt_r x f n hf k j
def pt5 (a b c d e : Int) (f : Nat → Int) (n : Nat) : Nat → Int := pt e (pt d (pt c (pt b (pt a f n 4) (n + 4) 4) (n + 8) 4) (n + 12) 4) (n + 16) 4
theorem O_feed (hC : hRC RC) (hU : hRU RU) (a b c d e : Int) : OB RC RU (f_KT_feed a b c d e) (f_M_feed a b c d e) := by
  intro s hs
  have hs' := hs
  obtain ⟨A, q1, q2, q3, ⟨t1, t2, t3, t4, t5⟩, q5, q6, q7, q8⟩ := hs'
  obtain ⟨n, hn⟩ : ∃ n : Nat, s 1 1 = n := ⟨(s 1 1).toNat, by omega⟩
  unfold f_KT_feed f_M_feed
  by_cases hc : n + 20 ≤ 400
  · have k1 := e_Tape_put a s n hn (by omega)
    generalize g1 : gU (gA s 2 (pt a (s 2) n 4)) 1 1 ((n : Int) + 4) = s1 at k1
    have k2 := e_Tape_put b s1 (n + 4) (by rw [← g1, gUs]; rfl) (by omega)
    generalize g2 : gU (gA s1 2 (pt b (s1 2) (n + 4) 4)) 1 1 (((n + 4 : Nat) : Int) + 4) = s2 at k2
    have k3 := e_Tape_put c s2 (n + 8) (by rw [← g2, gUs]; omega) (by omega)
    generalize g3 : gU (gA s2 2 (pt c (s2 2) (n + 8) 4)) 1 1 (((n + 8 : Nat) : Int) + 4) = s3 at k3
    have k4 := e_Tape_put d s3 (n + 12) (by rw [← g3, gUs]; omega) (by omega)
    generalize g4 : gU (gA s3 2 (pt d (s3 2) (n + 12) 4)) 1 1 (((n + 12 : Nat) : Int) + 4) = s4 at k4
    have k5 := e_Tape_put e s4 (n + 16) (by rw [← g4, gUs]; omega) (by omega)
    generalize g5 : gU (gA s4 2 (pt e (s4 2) (n + 16) 4)) 1 1 (((n + 16 : Nat) : Int) + 4) = s5 at k5
    have u1 : s5 2 = pt5 a b c d e (s 2) n := by
      rw [← g5, ← g4, ← g3, ← g2, ← g1]
      simp [gU, gA, pt5]
    have u2 : s5 1 = kup (s 1) 1 ((n : Int) + 20) := by
      rw [← g5, ← g4, ← g3, ← g2, ← g1]
      funext j
      simp only [gU, gA, kup]
      simp [kup]
      split
      · omega
      · rfl
    have u3 : ∀ z, z ≠ 1 → z ≠ 2 → s5 z = s z := by
      intro z z1 z2
      rw [← g5, ← g4, ← g3, ← g2, ← g1]
      simp [gU, gA, z1, z2]
    have m0 : s5 85 21 = n := by rw [u3 85 (by decide) (by decide)]; omega
    have m1 := e_M_put a s5 n m0 (by omega)
    generalize r1 : gU (gA s5 105 (pt a (s5 105) n 4)) 85 21 ((n : Int) + 4) = z1 at m1
    have m2 := e_M_put b z1 (n + 4) (by rw [← r1, gUs]; rfl) (by omega)
    generalize r2 : gU (gA z1 105 (pt b (z1 105) (n + 4) 4)) 85 21 (((n + 4 : Nat) : Int) + 4) = z2 at m2
    have m3 := e_M_put c z2 (n + 8) (by rw [← r2, gUs]; omega) (by omega)
    generalize r3 : gU (gA z2 105 (pt c (z2 105) (n + 8) 4)) 85 21 (((n + 8 : Nat) : Int) + 4) = z3 at m3
    have m4 := e_M_put d z3 (n + 12) (by rw [← r3, gUs]; omega) (by omega)
    generalize r4 : gU (gA z3 105 (pt d (z3 105) (n + 12) 4)) 85 21 (((n + 12 : Nat) : Int) + 4) = z4 at m4
    have m5 := e_M_put e z4 (n + 16) (by rw [← r4, gUs]; omega) (by omega)
    generalize r5 : gU (gA z4 105 (pt e (z4 105) (n + 16) 4)) 85 21 (((n + 16 : Nat) : Int) + 4) = z5 at m5
    have v1 : z5 105 = pt5 a b c d e (s5 105) n := by
      rw [← r5, ← r4, ← r3, ← r2, ← r1]
      simp [gU, gA, pt5]
    have v2 : z5 85 = kup (s5 85) 21 ((n : Int) + 20) := by
      rw [← r5, ← r4, ← r3, ← r2, ← r1]
      funext j
      simp only [gU, gA, kup]
      simp [kup]
      split
      · omega
      · rfl
    have v3 : ∀ z, z ≠ 85 → z ≠ 105 → z5 z = s5 z := by
      intro z y1 y2
      rw [← r5, ← r4, ← r3, ← r2, ← r1]
      simp [gU, gA, y1, y2]
    refine ⟨(n : Int) + 20, s5, z5, ?_, ?_, ?_⟩
    · rw [hn, wI_id (by omega) (by omega), if_pos (by omega), k1, Option.bind_some, k2, Option.bind_some, k3, Option.bind_some, k4, Option.bind_some, k5, Option.bind_some, u2]
      simp [kup]
    · rw [m0, wI_id (by omega) (by omega), if_pos (by omega), m1, Option.bind_some, m2, Option.bind_some, m3, Option.bind_some, m4, Option.bind_some, m5, Option.bind_some, v2]
      simp [kup]
    · refine Rel_num hC hU hs (fun z b1 b2 b3 b4 b5 b6 => by rw [v3 z b4 b6, u3 z b1 b2]) ?_ (RScal_c q5 ?_ ?_ ?_) ?_ ?_
      · refine ⟨?_, ?_, ?_, ?_, ?_⟩
        · rw [v3 1 (by decide) (by decide), u2, v2]; simp [kup]
        · rw [v3 1 (by decide) (by decide), u2]; simp [kup]; omega
        · rw [v3 1 (by decide) (by decide), u2]; simp [kup]; omega
        · rw [v3 2 (by decide) (by decide), u1, v1, u3 105 (by decide) (by decide), t4]
        · intro j
          rw [v3 2 (by decide) (by decide), u1]
          unfold pt5
          exact pt_r _ _ _ (pt_r _ _ _ (pt_r _ _ _ (pt_r _ _ _ (pt_r _ _ _ t5 4) 4) 4) 4) 4 j
      · rw [v3 3 (by decide) (by decide), u3 3 (by decide) (by decide)]; exact ⟨rfl, rfl, rfl⟩
      · rw [v3 86 (by decide) (by decide), u3 86 (by decide) (by decide)]; exact ⟨rfl, rfl, rfl⟩
      · rw [v3 0 (by decide) (by decide), u3 0 (by decide) (by decide)]
      · rw [v3 86 (by decide) (by decide), u3 86 (by decide) (by decide)]; exact ⟨rfl, rfl, rfl⟩
      · rw [v2, u3 85 (by decide) (by decide)]; simp [kup]
  · refine ⟨-1, s, s, ?_, ?_, hs⟩
    · rw [hn, wI_id (by omega) (by omega), if_neg (by omega)]
    · rw [← t1, hn, wI_id (by omega) (by omega), if_neg (by omega)]
end FEED
