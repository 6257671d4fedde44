def isP (p : Nat) : Prop := p = 3 ∨ p = 5 ∨ p = 7 ∨ p = 11 ∨ p = 13
theorem isP_le {p : Nat} (h : isP p) : 3 ≤ p ∧ p ≤ 13 := by unfold isP at h; omega
def fmZ (x p : Int) : Int := if 0 ≤ klxor x p then klrem x p else if klrem x p = 0 then klrem x p else wL (klrem x p + p)
def mdZ (x p : Int) : Int := klrem (wL (klrem x p + p)) p
def fmokZ (p : Int) (i : Nat) : Bool := decide (fmZ ((i : Int) - 200) p = ((i : Int) - 200) % p) && decide (mdZ ((i : Int) - 200) p = ((i : Int) - 200) % p)
theorem fm_3 : ∀ i : Fin 401, fmokZ 3 i.val = true := by decide +kernel
theorem fm_5 : ∀ i : Fin 401, fmokZ 5 i.val = true := by decide +kernel
theorem fm_7 : ∀ i : Fin 401, fmokZ 7 i.val = true := by decide +kernel
theorem fm_11 : ∀ i : Fin 401, fmokZ 11 i.val = true := by decide +kernel
theorem fm_13 : ∀ i : Fin 401, fmokZ 13 i.val = true := by decide +kernel
theorem fm_all {p : Nat} (hp : isP p) {x : Int} (h1 : -200 ≤ x) (h2 : x ≤ 200) : fmZ x p = x % p ∧ mdZ x p = x % p := by
  have key : fmokZ p (x + 200).toNat = true := by
    rcases hp with rfl | rfl | rfl | rfl | rfl
    · exact fm_3 ⟨(x + 200).toNat, by omega⟩
    · exact fm_5 ⟨(x + 200).toNat, by omega⟩
    · exact fm_7 ⟨(x + 200).toNat, by omega⟩
    · exact fm_11 ⟨(x + 200).toNat, by omega⟩
    · exact fm_13 ⟨(x + 200).toNat, by omega⟩
  unfold fmokZ at key
  rw [show (((x + 200).toNat : Nat) : Int) - 200 = x by omega, Bool.and_eq_true, decide_eq_true_eq, decide_eq_true_eq] at key
  exact key
theorem gD_p {p : Nat} (hp : isP p) : gD (p : Int) = some () := by
  have := isP_le hp
  unfold gD
  rw [if_neg (by omega)]
theorem e_floorMod {p : Nat} (hp : isP p) {x : Int} (h1 : -200 ≤ x) (h2 : x ≤ 200) (s : kM) : f_Math_floorMod x p s = some (x % p) := by
  rw [← (fm_all hp h1 h2).1]
  unfold f_Math_floorMod fmZ
  rw [gD_p hp, Option.bind_some]
  by_cases c1 : 0 ≤ klxor x p
  · rw [if_pos c1, if_pos c1]
  · rw [if_neg c1, if_neg c1]
    by_cases c2 : klrem x p = 0
    · rw [if_pos c2, if_pos c2]
    · rw [if_neg c2, if_neg c2]
theorem e_modulo {p : Nat} (hp : isP p) {x : Int} (h1 : -200 ≤ x) (h2 : x ≤ 200) (s : kM) : f_M_modulo x p s = some (x % p) := by
  rw [← (fm_all hp h1 h2).2]
  unfold f_M_modulo
  rw [gD_p hp, Option.bind_some, Option.bind_some]
  rfl
def ivok (p a : Nat) : Bool := (List.range 13).any fun y => decide (1 ≤ y ∧ a * y % p = 1)
theorem iv_3 : ∀ a : Fin 3, 0 < a.val → ivok 3 a.val = true := by decide +kernel
theorem iv_5 : ∀ a : Fin 5, 0 < a.val → ivok 5 a.val = true := by decide +kernel
theorem iv_7 : ∀ a : Fin 7, 0 < a.val → ivok 7 a.val = true := by decide +kernel
theorem iv_11 : ∀ a : Fin 11, 0 < a.val → ivok 11 a.val = true := by decide +kernel
theorem iv_13 : ∀ a : Fin 13, 0 < a.val → ivok 13 a.val = true := by decide +kernel
theorem iv_all {p : Nat} (hp : isP p) {a : Nat} (h0 : 0 < a) (ha : a < p) : ∃ y, 1 ≤ y ∧ y < 13 ∧ a * y % p = 1 := by
  have key : ivok p a = true := by
    rcases hp with rfl | rfl | rfl | rfl | rfl
    · exact iv_3 ⟨a, ha⟩ h0
    · exact iv_5 ⟨a, ha⟩ h0
    · exact iv_7 ⟨a, ha⟩ h0
    · exact iv_11 ⟨a, ha⟩ h0
    · exact iv_13 ⟨a, ha⟩ h0
  unfold ivok at key
  rw [List.any_eq_true] at key
  obtain ⟨y, h1, h2⟩ := key
  rw [List.mem_range] at h1
  rw [decide_eq_true_eq] at h2
  exact ⟨y, h2.1, h1, h2.2⟩
theorem wp_inverse {p : Nat} (hp : isP p) {a : Nat} (h0 : 0 < a) (ha : a < p) (s : kM) : wp (f_M_inverse a p s) (fun r => ∃ x : Nat, r = (x : Int) ∧ x < 13 ∧ a * x % p = 1) := by
  obtain ⟨y, y1, y2, y3⟩ := iv_all hp h0 ha
  have hp13 := isP_le hp
  unfold f_M_inverse f_M_inverse_2
  refine wp_gL (fun n x => ∃ k : Nat, x = (k : Int) ∧ 1 ≤ k ∧ k + n = y) ?_ gF (y - 1) 1 ⟨1, rfl, by omega, by omega⟩ (show y - 1 < 4096 by omega)
  rintro n x ⟨k, rfl, k1, k2⟩
  have hm : a * k ≤ 12 * 12 := Nat.mul_le_mul (by omega) (by omega)
  have e1 : wL ((a : Int) * (k : Int)) = ((a * k : Nat) : Int) := by rw [← Int.natCast_mul, wL_id (by omega) (by omega)]
  have e2 : klrem ((a * k : Nat) : Int) (p : Int) = ((a * k % p : Nat) : Int) := klrem_n (by omega) (by omega) (by omega)
  have e3 : wL ((k : Int) + 1) = ((k + 1 : Nat) : Int) := by rw [wL_id (by omega) (by omega)]; omega
  unfold f_M_inverse_2b
  rw [gD_p hp, Option.bind_some, e1, e2, e3]
  clear e1 e2 e3
  by_cases h1 : a * k % p = 1
  · rw [if_pos (by omega), wp_some, gE_r]
    exact ⟨k, rfl, by omega, h1⟩
  · rw [if_neg (by omega), wp_some, gE_l]
    have hky : k ≠ y := fun z => h1 (by rw [z]; exact y3)
    exact ⟨n - 1, by omega, k + 1, rfl, by omega, by omega⟩
theorem mul_12 {a b : Int} (h1 : 0 ≤ a) (h2 : a ≤ 12) (h3 : 0 ≤ b) (h4 : b ≤ 12) : 0 ≤ a * b ∧ a * b ≤ 144 := by
  obtain ⟨m, rfl⟩ : ∃ m : Nat, a = m := ⟨a.toNat, by omega⟩
  obtain ⟨n, rfl⟩ : ∃ n : Nat, b = n := ⟨b.toNat, by omega⟩
  have hm : m * n ≤ 12 * 12 := Nat.mul_le_mul (by omega) (by omega)
  rw [← Int.natCast_mul]
  omega
theorem wp_clearBelow {d c n p : Nat} (hd : d < n) (hn : n ≤ 11) (hc : c < 13) (hp : isP p) {s : kM} (h48 : s 48 3 = (n : Int)) (hb : ∀ j, j < 13 * n → 0 ≤ s 50 j ∧ s 50 j < p) : wp (f_Bows_clearBelow d c p s) (fun t => (∀ z, z ≠ 50 → t z = s z) ∧ ∀ j, t 50 j = clr d c n p (s 50) j) := by
  have hp13 := isP_le hp
  have h00 : ∀ j, s 50 j = if j / 13 < d + 1 then clr d c n p (s 50) j else s 50 j := fun j => by
    by_cases h : j / 13 < d + 1
    · unfold clr
      rw [if_pos h, if_neg (fun q => by omega)]
    · rw [if_neg h]
  unfold f_Bows_clearBelow
  rw [gI_rc (by omega) hc, Option.bind_some, wI_s (k := d) (by omega)]
  unfold f_Bows_clearBelow_13
  refine wp_for n (fun r x => x.1 = (r : Int) ∧ (∀ z, z ≠ 50 → x.2 z = s z) ∧ ∀ j, x.2 50 j = if j / 13 < r then clr d c n p (s 50) j else s 50 j) (d + 1) _ (by omega) (by omega) (by exact ⟨rfl, fun _ _ => rfl, h00⟩) ?_ ?_
  · rintro r ⟨y, t⟩ h1 h2 ⟨rfl, q1, q2⟩
    dsimp only at q1 q2
    have nle : ¬ (n : Int) ≤ (r : Int) := by omega
    have hrl : r < 2147483647 := by omega
    have ehere : t 50 (13 * r + c) = s 50 (13 * r + c) := by rw [q2, if_neg (by omega)]
    have t48 : t 48 = s 48 := q1 48 (by decide)
    dsimp only
    unfold f_Bows_clearBelow_13b
    rw [t48, h48, if_neg nle, gI_rc (by omega) hc, Option.bind_some, ehere]
    have last : ∀ w : kM, (∀ z, z ≠ 50 → w z = t z) → (∀ j, w 50 j = if j / 13 = r then clr d c n p (s 50) j else t 50 j) → wp (f_Bows_clearBelow_71 d c p (s 50 (13 * d + c)) r w) (gE (fun x => x.1 = ((r + 1 : Nat) : Int) ∧ (∀ z, z ≠ 50 → x.2 z = s z) ∧ ∀ j, x.2 50 j = if j / 13 < r + 1 then clr d c n p (s 50) j else s 50 j) (fun t => (∀ z, z ≠ 50 → t z = s z) ∧ ∀ j, t 50 j = clr d c n p (s 50) j)) := by
      intro w w1 w2
      unfold f_Bows_clearBelow_71
      rw [wp_some, gE_l]
      dsimp only
      rw [wI_s hrl]
      refine ⟨rfl, fun z hz => by rw [w1 z hz, q1 z hz], fun j => ?_⟩
      rw [w2]
      by_cases hj : j / 13 = r
      · rw [if_pos hj, if_pos (by omega)]
      · rw [if_neg hj, q2]
        by_cases hj2 : j / 13 < r
        · rw [if_pos hj2, if_pos (by omega)]
        · rw [if_neg hj2, if_neg (by omega)]
    unfold f_Bows_clearBelow_28
    by_cases h0 : s 50 (13 * r + c) = 0
    · refine wp_for 0 (fun _ x => x = (0, t)) 0 _ (by omega) (by omega) rfl (fun k x _ h => by omega) ?_
      rintro x rfl
      dsimp only
      unfold f_Bows_clearBelow_28b
      rw [if_neg (by decide), if_pos h0, wp_map]
      refine (last t (fun _ _ => rfl) (fun j => ?_)).mono (fun a ha => ha)
      by_cases hj : j / 13 = r
      · unfold clr
        rw [if_pos hj, hj, if_neg (fun q => q.2 h0), q2, if_neg (by omega)]
      · rw [if_neg hj]
    · refine wp_for 13 (fun k x => x.1 = (k : Int) ∧ (∀ z, z ≠ 50 → x.2 z = t z) ∧ ∀ j, x.2 50 j = if j / 13 = r ∧ j % 13 < k then clr d c n p (s 50) j else t 50 j) 0 _ (by omega) (by omega) (by exact ⟨rfl, fun _ _ => rfl, fun j => by rw [if_neg (by omega)]⟩) ?_ ?_
      · rintro k ⟨y, w⟩ _ h4 ⟨rfl, p1, p2⟩
        dsimp only at p1 p2
        have n13 : ¬ (13 : Int) ≤ (k : Int) := by omega
        have hkl : k < 2147483647 := by omega
        have e1 : w 50 (13 * r + k) = s 50 (13 * r + k) := by rw [p2, if_neg (by omega), q2, if_neg (by omega)]
        have e2 : w 50 (13 * d + k) = s 50 (13 * d + k) := by
          rw [p2, if_neg (by omega), q2, if_pos (by omega)]
          unfold clr
          rw [if_neg (fun q => by omega)]
        have b1 := hb (13 * r + k) (by omega)
        have b2 := hb (13 * d + k) (by omega)
        have b3 := hb (13 * r + c) (by omega)
        have b4 := hb (13 * d + c) (by omega)
        have m1 := mul_12 b4.1 (by omega) b1.1 (by omega)
        have m2 := mul_12 b3.1 (by omega) b2.1 (by omega)
        have w1 : wL (s 50 (13 * d + c) * s 50 (13 * r + k)) = s 50 (13 * d + c) * s 50 (13 * r + k) := wL_id (by omega) (by omega)
        have w2 : wL (s 50 (13 * r + c) * s 50 (13 * d + k)) = s 50 (13 * r + c) * s 50 (13 * d + k) := wL_id (by omega) (by omega)
        have w3 : wL (s 50 (13 * d + c) * s 50 (13 * r + k) - s 50 (13 * r + c) * s 50 (13 * d + k)) = s 50 (13 * d + c) * s 50 (13 * r + k) - s 50 (13 * r + c) * s 50 (13 * d + k) := wL_id (by omega) (by omega)
        have ef := e_floorMod hp (x := s 50 (13 * d + c) * s 50 (13 * r + k) - s 50 (13 * r + c) * s 50 (13 * d + k)) (by omega) (by omega) w
        dsimp only
        unfold f_Bows_clearBelow_28b
        rw [if_neg n13, if_neg h0, gI_rc (by omega) (by omega), Option.bind_some, gI_rc (by omega) (by omega), Option.bind_some, e1, e2, w1, w2, w3, ef, Option.bind_some, Option.bind_some, gLet_eq, wp_some, gE_l]
        clear w1 w2 w3 ef
        dsimp only
        rw [wI_s hkl]
        refine ⟨rfl, fun z hz => by rw [gU_n _ _ _ hz]; exact p1 z hz, fun j => ?_⟩
        by_cases hj : j = 13 * r + k
        · have x1 : (13 * r + k) / 13 = r := by omega
          have x2 : (13 * r + k) % 13 = k := by omega
          rw [hj, gUs, if_pos (by omega)]
          unfold clr
          rw [x1, x2, if_pos ⟨⟨by omega, by omega⟩, h0⟩]
        · rw [gUo _ _ _ hj, p2]
          by_cases hj2 : j / 13 = r ∧ j % 13 < k
          · rw [if_pos hj2, if_pos (by omega)]
          · rw [if_neg hj2, if_neg (by omega)]
      · rintro ⟨y, w⟩ ⟨rfl, p1, p2⟩
        dsimp only at p1 p2
        dsimp only
        unfold f_Bows_clearBelow_28b
        rw [if_pos (show (13 : Int) ≤ ((13 : Nat) : Int) by decide), wp_map]
        refine (last w p1 (fun j => ?_)).mono (fun a ha => ha)
        rw [p2]
        by_cases hj : j / 13 = r
        · rw [if_pos ⟨hj, by omega⟩, if_pos hj]
        · rw [if_neg (fun q => hj q.1), if_neg hj]
  · rintro ⟨y, t⟩ ⟨rfl, q1, q2⟩
    dsimp only at q1 q2
    have t48 : t 48 = s 48 := q1 48 (by decide)
    dsimp only
    unfold f_Bows_clearBelow_13b
    rw [t48, h48, if_pos (Int.le_refl _), wp_some, gE_r]
    refine ⟨q1, fun j => ?_⟩
    rw [q2]
    by_cases h : j / 13 < n
    · rw [if_pos h]
    · unfold clr
      rw [if_neg h, if_neg (fun q => h q.1.2)]
theorem wp_M_gj {rk c n B p iv : Nat} (hr : rk < n) (hn : n ≤ 11) (hc : c < B) (hB : B ≤ 13) (hp : isP p) (hiv : iv < 13) {s : kM} (h85 : s 85 44 = (B : Int)) (hb : ∀ j, j < 13 * n → -4 ≤ s 117 j ∧ s 117 j ≤ 12) : wp (f_M_colours_76 p n rk c iv 0 s) (gE (fun x => (x.1 = ((rk + 1 : Nat) : Int) ∧ x.2.1 = ((c + 1 : Nat) : Int)) ∧ (∀ z, z ≠ 117 → x.2.2 z = s z) ∧ ∀ j, x.2.2 117 j = gjo rk c n B p iv (s 117) j) (fun _ => False)) := by
  have hp13 := isP_le hp
  have hp0 : (0 : Int) < (p : Int) := by omega
  unfold f_M_colours_76
  refine wp_for n (fun r x => x.1 = (r : Int) ∧ (∀ z, z ≠ 117 → x.2 z = s z) ∧ ∀ j, x.2 117 j = if j / 13 < r then gjo rk c n B p iv (s 117) j else s 117 j) 0 _ (by omega) (by omega) (by exact ⟨rfl, fun _ _ => rfl, fun j => by rw [if_neg (by omega)]⟩) ?_ ?_
  · rintro r ⟨y, t⟩ _ h2 ⟨rfl, q1, q2⟩
    dsimp only at q1 q2
    have nle : ¬ (n : Int) ≤ (r : Int) := by omega
    have hrl : r < 2147483647 := by omega
    have t85 : t 85 = s 85 := q1 85 (by decide)
    have eh : t 117 (13 * r + c) = s 117 (13 * r + c) := by rw [q2, if_neg (by omega)]
    have bh := hb (13 * r + c) (by omega)
    have eh1 := e_modulo hp (x := s 117 (13 * r + c)) (by omega) (by omega) t
    have x0 := Int.emod_nonneg (s 117 (13 * r + c)) (b := (p : Int)) (by omega)
    have x1 := Int.emod_lt_of_pos (s 117 (13 * r + c)) hp0
    obtain ⟨fn, hfn⟩ : ∃ fn : Nat, s 117 (13 * r + c) % (p : Int) = (fn : Int) := ⟨(s 117 (13 * r + c) % (p : Int)).toNat, by omega⟩
    have hm : fn * iv ≤ 12 * 12 := Nat.mul_le_mul (by omega) (by omega)
    have w1 : wL ((fn : Int) * (iv : Int)) = ((fn * iv : Nat) : Int) := by rw [← Int.natCast_mul, wL_id (by omega) (by omega)]
    have w2 : klrem ((fn * iv : Nat) : Int) (p : Int) = ((fn * iv % p : Nat) : Int) := klrem_n (a := fn * iv) (b := p) (by clear w1; omega) (by clear w1; omega) (by clear w1; omega)
    have hti : s 117 (13 * r + c) % (p : Int) * (iv : Int) % (p : Int) = ((fn * iv % p : Nat) : Int) := by rw [hfn, ← Int.natCast_mul, Int.natCast_emod]
    have htl : fn * iv % p < p := Nat.mod_lt _ (by omega)
    obtain ⟨tm, htm⟩ : ∃ tm, tm = fn * iv % p := ⟨_, rfl⟩
    rw [← htm] at w2 hti htl
    dsimp only
    unfold f_M_colours_76b
    rw [if_neg nle, gI_cr (by omega) (by omega), Option.bind_some, eh, eh1, Option.bind_some, gD_p hp, Option.bind_some, hfn, w1, w2]
    clear w1 w2 eh1
    have last : ∀ w : kM, (∀ z, z ≠ 117 → w z = t z) → (∀ j, w 117 j = if j / 13 = r then gjo rk c n B p iv (s 117) j else t 117 j) → wp (f_M_colours_137 p n rk c iv r w) (gE (fun x => x.1 = ((r + 1 : Nat) : Int) ∧ (∀ z, z ≠ 117 → x.2 z = s z) ∧ ∀ j, x.2 117 j = if j / 13 < r + 1 then gjo rk c n B p iv (s 117) j else s 117 j) (gE (fun x => (x.1 = ((rk + 1 : Nat) : Int) ∧ x.2.1 = ((c + 1 : Nat) : Int)) ∧ (∀ z, z ≠ 117 → x.2.2 z = s z) ∧ ∀ j, x.2.2 117 j = gjo rk c n B p iv (s 117) j) (fun _ => False))) := by
      intro w w1 w2
      unfold f_M_colours_137
      rw [wp_some, gE_l]
      dsimp only
      rw [wI_s hrl]
      refine ⟨rfl, fun z hz => by rw [w1 z hz, q1 z hz], fun j => ?_⟩
      rw [w2]
      by_cases hj : j / 13 = r
      · rw [if_pos hj, if_pos (by omega)]
      · rw [if_neg hj, q2]
        by_cases hj2 : j / 13 < r
        · rw [if_pos hj2, if_pos (by omega)]
        · rw [if_neg hj2, if_neg (by omega)]
    unfold f_M_colours_97
    by_cases h0 : r = rk
    · refine wp_for 0 (fun _ x => x = (0, t)) 0 _ (by omega) (by omega) rfl (fun k x _ h => by omega) ?_
      rintro x rfl
      dsimp only
      unfold f_M_colours_97b
      rw [t85, h85, if_neg (show ¬ (B : Int) ≤ 0 by omega), if_pos (by omega), wp_map]
      refine (last t (fun _ _ => rfl) (fun j => ?_)).mono (fun a ha => ha)
      by_cases hj : j / 13 = r
      · unfold gjo
        rw [if_pos hj, if_neg (fun q => q.1.2 (by omega)), q2, if_neg (by omega)]
      · rw [if_neg hj]
    · refine wp_for B (fun k x => x.1 = (k : Int) ∧ (∀ z, z ≠ 117 → x.2 z = t z) ∧ ∀ j, x.2 117 j = if j / 13 = r ∧ j % 13 < k then gjo rk c n B p iv (s 117) j else t 117 j) 0 _ (by omega) (by omega) (by exact ⟨rfl, fun _ _ => rfl, fun j => by rw [if_neg (by omega)]⟩) ?_ ?_
      · rintro k ⟨y, w⟩ _ h4 ⟨rfl, p1, p2⟩
        dsimp only at p1 p2
        have nB : ¬ (B : Int) ≤ (k : Int) := by omega
        have hkl : k < 2147483647 := by omega
        have w85 : w 85 = s 85 := by rw [p1 85 (by decide), t85]
        have e1 : w 117 (13 * r + k) = s 117 (13 * r + k) := by rw [p2, if_neg (by omega), q2, if_neg (by omega)]
        have e2 : w 117 (13 * rk + k) = s 117 (13 * rk + k) := by
          rw [p2, if_neg (by omega), q2]
          by_cases hh : (13 * rk + k) / 13 < r
          · unfold gjo
            rw [if_pos hh, if_neg (fun q => q.1.2 (by omega))]
          · rw [if_neg hh]
        have b1 := hb (13 * r + k) (by omega)
        have b2 := hb (13 * rk + k) (by omega)
        have em := e_modulo hp (x := s 117 (13 * rk + k)) (by omega) (by omega) w
        have y0 := Int.emod_nonneg (s 117 (13 * rk + k)) (b := (p : Int)) (by omega)
        have y1 := Int.emod_lt_of_pos (s 117 (13 * rk + k)) hp0
        have m1 := mul_12 (a := (tm : Int)) (b := s 117 (13 * rk + k) % (p : Int)) (by omega) (by omega) y0 (by omega)
        have w1 : wL ((tm : Int) * (s 117 (13 * rk + k) % (p : Int))) = (tm : Int) * (s 117 (13 * rk + k) % (p : Int)) := wL_id (by omega) (by omega)
        have w2 : wL (s 117 (13 * r + k) - (tm : Int) * (s 117 (13 * rk + k) % (p : Int))) = s 117 (13 * r + k) - (tm : Int) * (s 117 (13 * rk + k) % (p : Int)) := wL_id (by omega) (by omega)
        have ef := e_modulo hp (x := s 117 (13 * r + k) - (tm : Int) * (s 117 (13 * rk + k) % (p : Int))) (by omega) (by omega) w
        dsimp only
        unfold f_M_colours_97b
        rw [w85, h85, if_neg nB, if_neg (show ¬ (r : Int) = (rk : Int) by omega), gI_cr (by omega) (by omega), Option.bind_some, gI_cr (by omega) (by omega), Option.bind_some, e1, e2, em, Option.bind_some, w1, w2, ef, Option.bind_some, Option.bind_some, gLet_eq, wp_some, gE_l]
        clear w1 w2 ef em
        dsimp only
        rw [wI_s hkl]
        refine ⟨rfl, fun z hz => by rw [gU_n _ _ _ hz]; exact p1 z hz, fun j => ?_⟩
        by_cases hj : j = 13 * r + k
        · have z1 : (13 * r + k) / 13 = r := by omega
          have z2 : (13 * r + k) % 13 = k := by omega
          rw [hj, gUs, if_pos (by omega)]
          unfold gjo
          rw [z1, z2, if_pos ⟨⟨by omega, h0⟩, h4⟩, hti]
        · rw [gUo _ _ _ hj, p2]
          by_cases hj2 : j / 13 = r ∧ j % 13 < k
          · rw [if_pos hj2, if_pos (by omega)]
          · rw [if_neg hj2, if_neg (by omega)]
      · rintro ⟨y, w⟩ ⟨rfl, p1, p2⟩
        dsimp only at p1 p2
        have w85 : w 85 = s 85 := by rw [p1 85 (by decide), t85]
        dsimp only
        unfold f_M_colours_97b
        rw [w85, h85, if_pos (Int.le_refl _), wp_map]
        refine (last w p1 (fun j => ?_)).mono (fun a ha => ha)
        rw [p2]
        by_cases hj : j / 13 = r
        · rw [if_pos hj]
          by_cases hj2 : j % 13 < B
          · rw [if_pos ⟨hj, hj2⟩]
          · unfold gjo
            rw [if_neg (fun q => hj2 q.2), if_neg (fun q => hj2 q.2), q2, if_neg (by omega)]
        · rw [if_neg (fun q => hj q.1), if_neg hj]
  · rintro ⟨y, t⟩ ⟨rfl, q1, q2⟩
    dsimp only at q1 q2
    dsimp only
    unfold f_M_colours_76b f_M_colours_140
    rw [if_pos (Int.le_refl _), Option.map_some, wp_some, gE_r, gE_l]
    dsimp only
    rw [wI_s (by omega), wI_s (by omega)]
    refine ⟨⟨rfl, rfl⟩, q1, fun j => ?_⟩
    rw [q2]
    by_cases h : j / 13 < n
    · rw [if_pos h]
    · unfold gjo
      rw [if_neg h, if_neg (fun q => h q.1.1)]
