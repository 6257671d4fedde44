theorem pw_le {p : Nat} (hp : isP p) {i : Nat} (hi : i ≤ 13) : p ^ i ≤ 302875106592253 := by
  have hp13 := isP_le hp
  have h1 : p ^ i ≤ 13 ^ i := Nat.pow_le_pow_left hp13.2 i
  have h2 : 13 ^ i ≤ 13 ^ 13 := Nat.pow_le_pow_right (by decide) hi
  have h3 : 13 ^ 13 = 302875106592253 := by decide
  omega
theorem wL_pw {p : Nat} (hp : isP p) {i : Nat} (hi : i + 1 ≤ 13) : wL (((p ^ i : Nat) : Int) * (p : Int)) = ((p ^ (i + 1) : Nat) : Int) := by
  have := pw_le hp hi
  rw [← Int.natCast_mul, show p ^ i * p = p ^ (i + 1) from rfl, wL_id (by omega) (by omega)]
theorem wp_pow {p m : Nat} (hp : isP p) (hm : m ≤ 13) (s : kM) : f_Bows_ways_64 4 p m 1 0 s = some (((p ^ m : Nat) : Int), s) := by
  unfold f_Bows_ways_64
  apply wp_eq
  refine wp_for m (fun i x => x.1 = ((p ^ i : Nat) : Int) ∧ x.2 = (i : Int)) 0 _ (by omega) (by omega) (by exact ⟨rfl, rfl⟩) ?_ ?_
  · rintro i ⟨y1, y2⟩ _ h2 ⟨rfl, rfl⟩
    have nle : ¬ (m : Int) ≤ (i : Int) := by omega
    dsimp only
    unfold f_Bows_ways_64b
    rw [if_neg nle, wp_some, gE_l]
    dsimp only
    rw [wL_pw hp (by omega), wI_s (by omega)]
    exact ⟨rfl, rfl⟩
  · rintro ⟨y1, y2⟩ ⟨rfl, rfl⟩
    dsimp only
    unfold f_Bows_ways_64b
    rw [if_pos (Int.le_refl _), wp_some, gE_r]
theorem wp_M_pow {p rk B : Nat} (hp : isP p) (hr : rk ≤ B) (hB : B ≤ 13) {s : kM} (h85 : s 85 44 = (B : Int)) : f_M_colours_142 p rk s = some (((p ^ (B - rk) : Nat) : Int), s) := by
  unfold f_M_colours_142 f_M_colours_146
  apply wp_eq
  refine wp_for B (fun i x => x.1 = ((p ^ (i - rk) : Nat) : Int) ∧ x.2 = (i : Int)) rk _ hr (by omega) (by exact ⟨by rw [Nat.sub_self]; rfl, rfl⟩) ?_ ?_
  · rintro i ⟨y1, y2⟩ h1 h2 ⟨rfl, rfl⟩
    have nle : ¬ (B : Int) ≤ (i : Int) := by omega
    dsimp only
    unfold f_M_colours_146b
    rw [h85, if_neg nle, wp_some, gE_l]
    dsimp only
    rw [wL_pw hp (by omega), wI_s (by omega), show i - rk + 1 = i + 1 - rk by omega]
    exact ⟨rfl, rfl⟩
  · rintro ⟨y1, y2⟩ ⟨rfl, rfl⟩
    dsimp only
    unfold f_M_colours_146b
    rw [h85, if_pos (Int.le_refl _), wp_some, gE_r]
theorem wp_ways30 {n B p : Nat} (hn : n ≤ 11) (hB : B ≤ 13) (hp : isP p) {s : kM} (h48 : s 48 3 = (n : Int)) (h480 : s 48 0 = (B : Int)) (hb : ∀ j, j < 13 * n → 0 ≤ s 50 j ∧ s 50 j < p) : wp (f_Bows_ways_30 4 p 0 0 0 s) (fun r => r.1 = ((p ^ (B - krk p n B (s 50) 0 0) : Nat) : Int) ∧ ∀ z, z ≠ 50 → r.2 z = s z) := by
  have hp13 := isP_le hp
  obtain ⟨D, hD⟩ : ∃ D, D = krk p n B (s 50) 0 0 := ⟨_, rfl⟩
  rw [← hD]
  unfold f_Bows_ways_30
  refine wp_for B (fun c x => ∃ rk : Nat, (rk ≤ c ∧ rk ≤ n) ∧ x.1 = ((c - rk : Nat) : Int) ∧ x.2.1 = (rk : Int) ∧ x.2.2.1 = (c : Int) ∧ (∀ z, z ≠ 50 → x.2.2.2 z = s z) ∧ (∀ j, j < 13 * n → 0 ≤ x.2.2.2 50 j ∧ x.2.2.2 50 j < (p : Int)) ∧ krk p n (B - c) (x.2.2.2 50) c rk = D) 0 _ (by omega) (by omega) (by exact ⟨0, ⟨by omega, by omega⟩, rfl, rfl, rfl, fun _ _ => rfl, hb, hD.symm⟩) ?_ ?_
  · rintro c ⟨y1, y2, y3, t⟩ _ hc ⟨rk, ⟨r1, r2⟩, q1, q2, q3, q4, q5, q6⟩
    dsimp only at q1 q2 q3 q4 q5 q6
    subst q1 q2 q3
    have nle : ¬ (B : Int) ≤ (c : Int) := by omega
    have n13 : ¬ (13 : Int) ≤ (c : Int) := by omega
    have t48 : t 48 = s 48 := q4 48 (by decide)
    have hpl := fpv_le (t 50) c (n - rk) rk
    rw [show B - c = (B - (c + 1)) + 1 by omega, krk_s] at q6
    dsimp only
    unfold f_Bows_ways_30b
    rw [t48, h480, h48, if_neg nle, if_neg n13, e_pivot r2 hn (by omega), Option.bind_some]
    by_cases hz : fpv (t 50) c rk (n - rk) = n
    · rw [if_pos hz] at q6 ⊢
      rw [if_neg (show ¬ (0 : Int) ≤ -1 by decide)]
      unfold f_Bows_ways_58
      rw [wp_some, gE_l]
      exact ⟨rk, ⟨by omega, r2⟩, by dsimp only; rw [wI_s (by omega)]; omega, rfl, by dsimp only; rw [wI_s (by omega)], q4, q5, q6⟩
    · rw [if_neg hz] at q6 ⊢
      rw [if_pos (show (0 : Int) ≤ ((fpv (t 50) c rk (n - rk) : Nat) : Int) by omega)]
      obtain ⟨u, e1, u1, u2⟩ := wp_swapRows (a := fpv (t 50) c rk (n - rk)) (b := rk) (by omega) (by omega) t
      have f1 : u 50 = swr (fpv (t 50) c rk (n - rk)) rk (t 50) := funext u2
      have hbu : ∀ j, j < 13 * n → 0 ≤ u 50 j ∧ u 50 j < p := fun j hj => by
        rw [u2]
        unfold swr
        split
        · exact q5 _ (by omega)
        · split
          · exact q5 _ (by omega)
          · exact q5 _ hj
      obtain ⟨u', e2, p1, p2⟩ := wp_clearBelow (d := rk) (c := c) (n := n) (by omega) hn (by omega) hp (s := u) (by rw [u1 48 (by decide), t48]; exact h48) hbu
      have f2 : u' 50 = clr rk c n p (u 50) := funext p2
      rw [← f1, ← f2] at q6
      rw [e1, Option.bind_some, e2, Option.bind_some]
      unfold f_Bows_ways_58
      rw [wp_some, gE_l]
      refine ⟨rk + 1, ⟨by omega, by omega⟩, ?_, by dsimp only; rw [wI_s (by omega)], by dsimp only; rw [wI_s (by omega)], fun z hz => by dsimp only; rw [p1 z hz, u1 z hz]; exact q4 z hz, fun j hj => ?_, q6⟩
      · dsimp only
        rw [show c + 1 - (rk + 1) = c - rk by omega]
      · dsimp only
        rw [p2]
        unfold clr
        split
        · exact ⟨Int.emod_nonneg _ (by omega), Int.emod_lt_of_pos _ (by omega)⟩
        · exact hbu j hj
  · rintro ⟨y1, y2, y3, t⟩ ⟨rk, ⟨r1, r2⟩, q1, q2, q3, q4, q5, q6⟩
    dsimp only at q1 q2 q3 q4 q5 q6
    subst q1 q2 q3
    have t48 : t 48 = s 48 := q4 48 (by decide)
    rw [Nat.sub_self] at q6
    have q7 : rk = D := q6
    dsimp only
    unfold f_Bows_ways_30b f_Bows_ways_60
    rw [t48, h480, if_pos (Int.le_refl _), wp_pow hp (by omega), Option.map_some, wp_some, gE_r, ← q7]
    exact ⟨rfl, q4⟩
theorem wp_M_col27 {n B p : Nat} (hn : n ≤ 11) (hB : B ≤ 13) (hp : isP p) {s : kM} (h85 : s 85 44 = (B : Int)) {g : Nat → Int} (hI : CI p n B 0 g (s 117)) : wp (f_M_colours_27 p n 0 0 s) (fun r => r.1 = ((p ^ (B - krk p n B g 0 0) : Nat) : Int) ∧ ∀ z, z ≠ 117 → r.2 z = s z) := by
  have hp13 := isP_le hp
  have hp0 : (0 : Int) < (p : Int) := by omega
  obtain ⟨D, hD⟩ : ∃ D, D = krk p n B g 0 0 := ⟨_, rfl⟩
  rw [← hD]
  unfold f_M_colours_27
  refine wp_for B (fun c x => ∃ (rk : Nat) (g : Nat → Int), (rk ≤ c ∧ rk ≤ n) ∧ x.1 = (rk : Int) ∧ x.2.1 = (c : Int) ∧ (∀ z, z ≠ 117 → x.2.2 z = s z) ∧ CI p n B rk g (x.2.2 117) ∧ krk p n (B - c) g c rk = D) 0 _ (by omega) (by omega) (by exact ⟨0, g, ⟨by omega, by omega⟩, rfl, rfl, fun _ _ => rfl, hI, hD.symm⟩) ?_ ?_
  · rintro c ⟨y1, y2, t⟩ _ hc ⟨rk, g, ⟨r1, r2⟩, q1, q2, q4, q5, q6⟩
    dsimp only at q1 q2 q4 q5 q6
    subst q1 q2
    have nle : ¬ (B : Int) ≤ (c : Int) := by omega
    have t85 : t 85 44 = (B : Int) := by rw [q4 85 (by decide)]; exact h85
    dsimp only
    unfold f_M_colours_27b
    rw [t85, if_neg nle]
    by_cases hrn : n ≤ rk
    · have hr : rk = n := by omega
      rw [if_pos (show (n : Int) ≤ (rk : Int) by omega), wp_M_pow hp (by omega) hB t85, Option.map_some, wp_some, gE_r]
      rw [hr, krk_n] at q6
      rw [hr, q6]
      exact ⟨rfl, q4⟩
    · rw [if_neg (show ¬ (n : Int) ≤ (rk : Int) by omega)]
      have hgf : fpv g c rk (n - rk) = fpv (fun j => t 117 j % (p : Int)) c rk (n - rk) := fpv_c c _ _ (fun i h1 h2 => CI_z q5 hB hc i h1 (by omega))
      obtain ⟨zv, hzv⟩ : ∃ zv, zv = fpv (fun j => t 117 j % (p : Int)) c rk (n - rk) := ⟨_, rfl⟩
      have hpl := fpv_le (fun j => t 117 j % (p : Int)) c (n - rk) rk
      have hnz := fpv_nz (fun j => t 117 j % (p : Int)) c (n - rk) rk
      rw [show B - c = (B - (c + 1)) + 1 by omega, krk_s, hgf] at q6
      rw [← hzv] at q6 hpl hnz
      have at54 : wp (f_M_colours_54 p n rk c zv t) (gE (fun x => ∃ (rk : Nat) (g : Nat → Int), (rk ≤ c + 1 ∧ rk ≤ n) ∧ x.1 = (rk : Int) ∧ x.2.1 = ((c + 1 : Nat) : Int) ∧ (∀ z, z ≠ 117 → x.2.2 z = s z) ∧ CI p n B rk g (x.2.2 117) ∧ krk p n (B - (c + 1)) g (c + 1) rk = D) (fun r => r.1 = ((p ^ (B - D) : Nat) : Int) ∧ ∀ z, z ≠ 117 → r.2 z = s z)) := by
        unfold f_M_colours_54
        by_cases hz : zv = n
        · rw [if_pos hz] at q6
          rw [if_pos (show (n : Int) ≤ (zv : Int) by omega)]
          unfold f_M_colours_140
          rw [wp_some, gE_l]
          exact ⟨rk, g, ⟨by omega, r2⟩, rfl, by dsimp only; rw [wI_s (by omega)], q4, q5, q6⟩
        · rw [if_neg hz] at q6
          rw [if_neg (show ¬ (n : Int) ≤ (zv : Int) by omega)]
          obtain ⟨u, e1, u1, u2⟩ := wp_swapsRows (a := zv) (b := rk) (by omega) (by omega) t
          have f1 : u 117 = swr zv rk (t 117) := funext u2
          have hCu : CI p n B rk (swr zv rk g) (u 117) := by rw [f1]; exact CI_swr q5 hB (by omega) (by omega)
          have hbu := hCu.2.1
          have ehd : u 117 (13 * rk + c) = t 117 (13 * zv + c) := by
            rw [u2]
            unfold swr
            rw [show (13 * rk + c) / 13 = rk by omega, show (13 * rk + c) % 13 = c by omega]
            split
            · rename_i hh
              rw [hh]
            · rw [if_pos rfl]
          have hz2 : u 117 (13 * rk + c) % (p : Int) ≠ 0 := by rw [ehd]; exact hnz (by omega)
          have bh := hbu (13 * rk + c) (by omega)
          have x0 := Int.emod_nonneg (u 117 (13 * rk + c)) (b := (p : Int)) (by omega)
          have x1 := Int.emod_lt_of_pos (u 117 (13 * rk + c)) hp0
          obtain ⟨fn, hfn⟩ : ∃ fn : Nat, u 117 (13 * rk + c) % (p : Int) = (fn : Int) := ⟨(u 117 (13 * rk + c) % (p : Int)).toNat, by omega⟩
          obtain ⟨iv', e2, iv, rfl, iv1, iv2⟩ := wp_inverse hp (a := fn) (by omega) (by omega) u
          have em := e_modulo hp (x := u 117 (13 * rk + c)) (by omega) (by omega) u
          rw [e1, Option.bind_some, gI_cr (by omega) (by omega), Option.bind_some, em, Option.bind_some, hfn, e2, Option.bind_some]
          refine (wp_M_gj (rk := rk) (c := c) (n := n) (B := B) (p := p) (iv := iv) (by omega) hn hc hB hp iv1 (s := u) (by rw [u1 85 (by decide)]; exact t85) hbu).mono ?_
          rintro (⟨z1, z2, z3⟩ | r) hr
          · obtain ⟨⟨p1, p2⟩, p3, p4⟩ := hr
            dsimp only at p1 p2 p3 p4
            have f2 : z3 117 = gjo rk c n B p iv (u 117) := funext p4
            refine ⟨rk + 1, clr rk c n p (swr zv rk g), ⟨by omega, by omega⟩, p1, p2, fun z hz => by dsimp only; rw [p3 z hz, u1 z hz]; exact q4 z hz, ?_, q6⟩
            dsimp only
            rw [f2]
            refine CI_row hp0 (by omega) hCu hB hc (by omega) ?_
            rw [hfn, ← Int.natCast_mul, ← Int.natCast_emod, iv2]
            rw [Int.emod_eq_of_lt (by omega) (by omega)]
            rfl
          · exact hr.elim
      unfold f_M_colours_36
      refine wp_for n (fun i x => x = (i : Int) ∧ fpv (fun j => t 117 j % (p : Int)) c i (n - i) = zv) rk _ (by omega) (by omega) (by exact ⟨rfl, hzv.symm⟩) ?_ ?_
      · rintro i y h3 h4 ⟨rfl, q⟩
        have nle2 : ¬ (n : Int) ≤ (i : Int) := by omega
        have hil : i < 2147483647 := by omega
        have bi := q5.2.1 (13 * i + c) (by omega)
        unfold f_M_colours_36b
        rw [if_neg nle2, gI_cr (by omega) (by omega), Option.bind_some, e_modulo hp (by omega) (by omega), Option.bind_some]
        rw [show n - i = (n - (i + 1)) + 1 by omega, fpv_s] at q
        by_cases h0 : t 117 (13 * i + c) % (p : Int) = 0
        · rw [if_pos h0] at q
          rw [if_pos h0, wp_some, gE_l, wI_s hil]
          exact ⟨rfl, q⟩
        · rw [if_neg h0] at q
          rw [if_neg h0, wp_map, q]
          exact at54
      · rintro y ⟨rfl, q⟩
        unfold f_M_colours_36b
        rw [Nat.sub_self] at q
        have q' : n = zv := q
        rw [if_pos (Int.le_refl _), wp_map]
        rw [← q'] at at54
        exact at54
  · rintro ⟨y1, y2, t⟩ ⟨rk, g, ⟨r1, r2⟩, q1, q2, q4, q5, q6⟩
    dsimp only at q1 q2 q4 q5 q6
    subst q1 q2
    have t85 : t 85 44 = (B : Int) := by rw [q4 85 (by decide)]; exact h85
    rw [Nat.sub_self] at q6
    have q7 : rk = D := q6
    dsimp only
    unfold f_M_colours_27b
    rw [t85, if_pos (Int.le_refl _), wp_M_pow hp (by omega) hB t85, Option.map_some, wp_some, gE_r, ← q7]
    exact ⟨rfl, q4⟩
theorem krk_c {p : Int} {n : Nat} : ∀ m (g h : Nat → Int) c rk, (∀ j, j < 13 * n → g j = h j) → c + m ≤ 13 → rk ≤ n → krk p n m g c rk = krk p n m h c rk
  | 0, _, _, _, _, _, _, _ => rfl
  | m + 1, g, h, c, rk, hgh, hc, hr => by
    have ep : fpv g c rk (n - rk) = fpv h c rk (n - rk) := fpv_c c _ _ (fun i h1 h2 => by rw [hgh _ (by omega)])
    have hl := fpv_le h c (n - rk) rk
    rw [krk_s, krk_s, ep]
    by_cases hz : fpv h c rk (n - rk) = n
    · rw [if_pos hz, if_pos hz]
      exact krk_c m g h (c + 1) rk hgh (by omega) hr
    · have hs := swr_c hgh (a := fpv h c rk (n - rk)) (b := rk) (by omega) (by omega)
      rw [if_neg hz, if_neg hz]
      refine krk_c m _ _ (c + 1) (rk + 1) (fun j hj => ?_) (by omega) (by omega)
      unfold clr
      rw [hs j hj, hs (13 * rk + c) (by omega), hs (13 * (j / 13) + c) (by omega), hs (13 * rk + j % 13) (by omega)]
theorem mxf_b (A : zA) (hA : okA A) : ∀ b, b ≤ 11 → ∀ j, -4 ≤ mxf A b j ∧ mxf A b j ≤ 4
  | 0, _, _ => ⟨by show (-4 : Int) ≤ 0; decide, by show (0 : Int) ≤ 4; decide⟩
  | b + 1, h, j => by
    have ih := mxf_b A hA b (by omega) j
    have h13 := nbw_13 hA.1
    have hbw : ∀ i, i < aN A → bwA A i < 13 := fun i hi => by have := bwA_lt hA hi; omega
    have h0 := fun i hi => mxf_0 A b i hi hbw hA
    rw [mxf_s]
    by_cases hp : pb A b = true
    · obtain ⟨-, h2, -, h4⟩ := oA_lt hA hp
      rw [if_pos hp]
      obtain ⟨x1, e1⟩ : ∃ x1, x1 = 13 * rw_ A b + bwA A (oA A b) := ⟨_, rfl⟩
      obtain ⟨x2, e2⟩ : ∃ x2, x2 = 13 * rw_ A b + bwA A (uA A b) := ⟨_, rfl⟩
      obtain ⟨x3, e3⟩ : ∃ x3, x3 = 13 * rw_ A b + bwA A (pv (aF A) (aN A) (uA A b)) := ⟨_, rfl⟩
      rw [← e1, ← e2, ← e3]
      have z1 := h0 x1 (by omega)
      have z2 := h0 x2 (by omega)
      have z3 := h0 x3 (by omega)
      have hw2 : wL (0 + 2) = 2 := by decide
      have hwm : wL (0 + -1) = -1 := by decide
      have hw1 : wL (2 + -1) = 1 := by decide
      have hw0 : wL (1 + -1) = 0 := by decide
      have hwn : wL (-1 + -1) = -2 := by decide
      unfold add3 kup
      rw [z1, z2, z3, hw2]
      by_cases a1 : x2 = x1
      · rw [if_pos a1, hw1]
        by_cases a2 : x3 = x2
        · rw [if_pos a2, hw0]
          split
          · omega
          · split
            · omega
            · split <;> omega
        · rw [if_neg a2, if_neg (fun q : x3 = x1 => a2 (q.trans a1.symm)), hwm]
          split
          · omega
          · split
            · omega
            · split <;> omega
      · rw [if_neg a1, hwm]
        by_cases a2 : x3 = x2
        · rw [if_pos a2, hwn]
          split
          · omega
          · split
            · omega
            · split <;> omega
        · rw [if_neg a2]
          by_cases a3 : x3 = x1
          · rw [if_pos a3, hw1]
            split
            · omega
            · split
              · omega
              · split <;> omega
          · rw [if_neg a3, hwm]
            split
            · omega
            · split
              · omega
              · split <;> omega
    · rw [if_neg hp]
      exact ih
theorem wp_ways {A : zA} (hA : okA A) {p : Nat} (hp : isP p) {s : kM} (hK : KT 4 A s) : wp (f_Bows_ways 4 p s) (fun r => r.1 = ((p ^ (nbw A - krk p (rw_ A 11) (nbw A) (fun j => mxf A 11 j % (p : Int)) 0 0) : Nat) : Int) ∧ ∀ z, z ≠ 48 → z ≠ 49 → z ≠ 50 → r.2 z = s z) := by
  have h13 := nbw_13 hA.1
  have hr11 := rw_le A 11
  have hp13 := isP_le hp
  have hp0 : (0 : Int) < (p : Int) := by omega
  obtain ⟨t, e1, t1, t2, t3, t4⟩ := wp_fill hA hK
  unfold f_Bows_ways
  rw [e1, Option.bind_some]
  unfold f_Bows_ways_5
  refine wp_for (13 * rw_ A 11) (fun i x => x.1 = (i : Int) ∧ (∀ z, z ≠ 50 → x.2 z = t z) ∧ (∀ j, j < i → x.2 50 j = mxf A 11 j % (p : Int)) ∧ ∀ j, i ≤ j → x.2 50 j = t 50 j) 0 _ (by omega) (by omega) (by exact ⟨rfl, fun _ _ => rfl, fun j hj => by omega, fun _ _ => rfl⟩) ?_ ?_
  · rintro i ⟨y, w⟩ _ hi ⟨rfl, q1, q2, q3⟩
    dsimp only at q1 q2 q3
    have w48 : w 48 = t 48 := q1 48 (by decide)
    have hw1 : wI (((rw_ A 11 : Nat) : Int) * 13) = ((13 * rw_ A 11 : Nat) : Int) := by rw [wI_id (by omega) (by omega)]; omega
    have hb := mxf_b A hA 11 (Nat.le_refl _) i
    dsimp only
    unfold f_Bows_ways_5b
    rw [w48, t3, hw1, if_neg (show ¬ ((13 * rw_ A 11 : Nat) : Int) ≤ (i : Int) by omega), gI_n (show i < 143 by omega), Option.bind_some, q3 i (Nat.le_refl _), t4 i (by omega), e_floorMod hp (by omega) (by omega), Option.bind_some, Option.bind_some, gLet_eq, wp_some, gE_l]
    clear hw1
    dsimp only
    rw [wI_s (by omega)]
    refine ⟨rfl, fun z hz => by rw [gU_n _ _ _ hz]; exact q1 z hz, fun j hj => ?_, fun j hj => ?_⟩
    · by_cases hji : j = i
      · rw [hji, gUs]
      · rw [gUo _ _ _ hji]
        exact q2 j (by omega)
    · rw [gUo _ _ _ (by omega)]
      exact q3 j (by omega)
  · rintro ⟨y, w⟩ ⟨rfl, q1, q2, q3⟩
    dsimp only at q1 q2 q3
    have w48 : w 48 = t 48 := q1 48 (by decide)
    have hw1 : wI (((rw_ A 11 : Nat) : Int) * 13) = ((13 * rw_ A 11 : Nat) : Int) := by rw [wI_id (by omega) (by omega)]; omega
    have hbd : ∀ j, j < 13 * rw_ A 11 → 0 ≤ w 50 j ∧ w 50 j < p := fun j hj => by
      rw [q2 j hj]
      exact ⟨Int.emod_nonneg _ (by omega), Int.emod_lt_of_pos _ hp0⟩
    have hk := wp_ways30 (n := rw_ A 11) (B := nbw A) hr11 h13 hp (s := w) (by rw [w48]; exact t3) (by rw [w48]; exact t2) hbd
    dsimp only
    unfold f_Bows_ways_5b
    rw [w48, t3, hw1, if_pos (Int.le_refl _), wp_map]
    clear hw1
    refine hk.mono ?_
    rintro ⟨zv, u⟩ ⟨k1, k2⟩
    rw [gE_r]
    dsimp only at k1 k2 ⊢
    refine ⟨?_, fun z z1 z2 z3 => by rw [k2 z z3, q1 z z3, t1 z z1 z2 z3]⟩
    rw [k1, krk_c _ (w 50) (fun j => mxf A 11 j % (p : Int)) 0 0 q2 (by omega) (by omega)]
theorem wp_M_col20 {A : zA} (hA : okA A) {p : Nat} (hp : isP p) {s : kM} (hM : MT A s) : wp (f_M_colours_20 p s) (fun r => r.1 = ((p ^ (nbw A - krk p (rw_ A 11) (nbw A) (fun j => mxf A 11 j % (p : Int)) 0 0) : Nat) : Int) ∧ (∀ z, z ≠ 85 → z ≠ 114 → z ≠ 115 → z ≠ 117 → r.2 z = s z) ∧ ∀ i, i ≠ 44 → r.2 85 i = s 85 i) := by
  have h13 := nbw_13 hA.1
  have hr11 := rw_le A 11
  have hp13 := isP_le hp
  have hp0 : (0 : Int) < (p : Int) := by omega
  obtain ⟨⟨m1, m⟩, e2, m2, m3, m4, m5, m6⟩ := wp_fillsMatrix hA hM
  dsimp only at m2 m3 m4 m5 m6
  subst m2
  unfold f_M_colours_20
  rw [e2, Option.bind_some]
  dsimp only
  have hI : CI p (rw_ A 11) (nbw A) 0 (fun j => mxf A 11 j % (p : Int)) (m 117) := by
    refine ⟨fun j hj => ⟨Int.emod_nonneg _ (by omega), Int.emod_lt_of_pos _ hp0⟩, fun j hj => ?_, fun r h1 h2 => ⟨1, un_1 _, fun k hk => ?_⟩⟩
    · have := mxf_b A hA 11 (Nat.le_refl _) j
      rw [m6 j hj]
      omega
    · rw [m6 _ (by omega), Int.one_mul]
      exact cg_mod _ _
  refine (wp_M_col27 (n := rw_ A 11) (B := nbw A) hr11 h13 hp m5 hI).mono ?_
  rintro ⟨zv, u⟩ ⟨k1, k2⟩
  dsimp only at k1 k2 ⊢
  exact ⟨k1, fun z z1 z2 z3 z4 => by rw [k2 z z4, m3 z z1 z2 z3 z4], fun i hi => by rw [k2 85 (by decide)]; exact m4 i hi⟩
section TOWN
variable {RC : zA → kM → Prop} {RU : Nat → kM → Prop}
theorem O_colours (hC : hRC RC) (hU : hRU RU) (x : Int) : OB RC RU (f_KT_colours x) (f_M_colours x) := by
  intro s hs
  have hs' := hs
  obtain ⟨A, hA, hK, hM, -⟩ := hs'
  by_cases hx : ∃ p : Nat, isP p ∧ x = (p : Int)
  · obtain ⟨p, hp, rfl⟩ := hx
    have ek : f_KT_colours p s = f_KT_colours_18 p 1 s := by
      unfold f_KT_colours f_KT_colours_15
      rcases hp with rfl | rfl | rfl | rfl | rfl <;> rfl
    by_cases h0 : aR A = 0
    · refine ⟨-1, s, s, ?_, ?_, hs⟩
      · rw [ek]
        unfold f_KT_colours_18
        rw [hK.1.1, if_neg (by decide), if_pos (by omega)]
      · unfold f_M_colours
        rw [e_M_isTown hM.1, if_neg (by omega)]
        rfl
    · obtain ⟨⟨zv, u⟩, e1, k1, k2⟩ := wp_ways hA hp hK
      dsimp only at k1 k2
      have hMu : MT A u := MT_k hM (fun a h1 h2 => k2 a (by omega) (by omega) (by omega))
      obtain ⟨⟨zw, u2⟩, e2, m1, m2, m3⟩ := wp_M_col20 hA hp hMu
      dsimp only at m1 m2 m3
      have em : f_M_colours p u = f_M_colours_20 p u := by
        unfold f_M_colours
        rw [e_M_isTown hMu.1, if_pos (by omega), Option.bind_some, if_neg (by decide)]
        rcases hp with rfl | rfl | rfl | rfl | rfl <;> rfl
      refine ⟨zv, u, u2, ?_, ?_, Rel_fr hC hU hs (fun a h1 h2 => ?_) (fun i h1 h2 => ?_)⟩
      · rw [ek]
        unfold f_KT_colours_18
        rw [hK.1.1, if_neg (by decide), if_neg (by omega), e1, Option.bind_some]
      · rw [em, e2, m1, k1]
      · have n114 : a ≠ 114 := fun z => by subst z; cases h2
        have n115 : a ≠ 115 := fun z => by subst z; cases h2
        have n117 : a ≠ 117 := fun z => by subst z; cases h2
        have n48 : a ≠ 48 := fun z => by subst z; cases h2
        have n49 : a ≠ 49 := fun z => by subst z; cases h2
        have n50 : a ≠ 50 := fun z => by subst z; cases h2
        rw [m2 a h1 n114 n115 n117, k2 a n48 n49 n50]
      · rw [m3 i h1, k2 85 (by decide) (by decide) (by decide)]
  · have x3 : x ≠ 3 := fun q => hx ⟨3, Or.inl rfl, q⟩
    have x5 : x ≠ 5 := fun q => hx ⟨5, Or.inr (Or.inl rfl), q⟩
    have x7 : x ≠ 7 := fun q => hx ⟨7, Or.inr (Or.inr (Or.inl rfl)), q⟩
    have x11 : x ≠ 11 := fun q => hx ⟨11, Or.inr (Or.inr (Or.inr (Or.inl rfl))), q⟩
    have x13 : x ≠ 13 := fun q => hx ⟨13, Or.inr (Or.inr (Or.inr (Or.inr rfl))), q⟩
    refine ⟨-1, s, s, ?_, ?_, hs⟩
    · unfold f_KT_colours f_KT_colours_18
      rw [if_neg x3, if_neg x5, if_neg x7, if_neg x11, if_neg x13, if_pos rfl]
    · unfold f_M_colours
      rw [e_M_isTown hM.1, Option.bind_some, if_neg x3, if_neg x5, if_neg x7, if_neg x11, if_neg x13]
      split <;> rfl
end TOWN
