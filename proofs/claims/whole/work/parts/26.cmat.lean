/-! rows are swapped, a row is looked for, rows below are reduced -/
def swr (a b : Nat) (f : Nat → Int) : Nat → Int := fun j => if j / 13 = a then f (13 * b + j % 13) else if j / 13 = b then f (13 * a + j % 13) else f j
/-- the first row from k on, m rows far, with something in column c -/
def fpv (f : Nat → Int) (c : Nat) : Nat → Nat → Nat
  | k, 0 => k
  | k, m + 1 => if f (13 * k + c) = 0 then fpv f c (k + 1) m else k
theorem fpv_s (f : Nat → Int) (c k m : Nat) : fpv f c k (m + 1) = if f (13 * k + c) = 0 then fpv f c (k + 1) m else k := rfl
theorem fpv_le (f : Nat → Int) (c : Nat) : ∀ m k, k ≤ fpv f c k m ∧ fpv f c k m ≤ k + m
  | 0, k => ⟨Nat.le_refl _, Nat.le_refl _⟩
  | m + 1, k => by
    rw [fpv_s]
    have := fpv_le f c m (k + 1)
    split <;> omega
theorem fpv_nz (f : Nat → Int) (c : Nat) : ∀ m k, fpv f c k m < k + m → f (13 * fpv f c k m + c) ≠ 0
  | 0, k, h => by
    have : fpv f c k 0 = k := rfl
    omega
  | m + 1, k, h => by
    rw [fpv_s] at h ⊢
    by_cases h0 : f (13 * k + c) = 0
    · rw [if_pos h0] at h ⊢
      exact fpv_nz f c m (k + 1) (by omega)
    · rw [if_neg h0]
      exact h0
theorem fpv_c {f g : Nat → Int} (c : Nat) : ∀ m k, (∀ i, k ≤ i → i < k + m → (f (13 * i + c) = 0 ↔ g (13 * i + c) = 0)) → fpv f c k m = fpv g c k m
  | 0, k, _ => rfl
  | m + 1, k, h => by
    have h0 := h k (by omega) (by omega)
    have ih := fpv_c (f := f) (g := g) c m (k + 1) (fun i h1 h2 => h i (by omega) (by omega))
    rw [fpv_s, fpv_s, ih]
    by_cases hz : f (13 * k + c) = 0
    · rw [if_pos hz, if_pos (h0.mp hz)]
    · rw [if_neg hz, if_neg (fun z => hz (h0.mpr z))]
def red (k n : Nat) (last : Int) (f : Nat → Int) : Nat → Int := fun j => if (k < j / 13 ∧ j / 13 < n) ∧ k < j % 13 ∧ j % 13 < n then kldiv (wL (wL (f j * f (13 * k + k)) - wL (f (13 * (j / 13) + k) * f (13 * k + j % 13)))) last else f j
theorem wp_swapRows {a b : Nat} (ha : a < 11) (hb : b < 11) (s : kM) : wp (f_Bows_swapRows a b s) (fun t => (∀ z, z ≠ 50 → t z = s z) ∧ ∀ j, t 50 j = swr a b (s 50) j) := by
  unfold f_Bows_swapRows f_Bows_swapRows_2
  refine wp_for 13 (fun c x => x.1 = (c : Int) ∧ (∀ z, z ≠ 50 → x.2 z = s z) ∧ ∀ j, x.2 50 j = if j % 13 < c then swr a b (s 50) j else s 50 j) 0 _ (by omega) (by omega) (by exact ⟨rfl, fun _ _ => rfl, fun j => by rw [if_neg (by omega)]⟩) ?_ ?_
  · rintro c ⟨y, t⟩ _ hc ⟨rfl, q1, q2⟩
    dsimp only at q1 q2
    have n13 : ¬ (13 : Int) ≤ (c : Int) := by omega
    have hcl : c < 2147483647 := by omega
    dsimp only
    unfold f_Bows_swapRows_2b
    rw [if_neg n13, gI_rc ha hc, Option.bind_some, gI_rc hb hc, Option.bind_some, Option.bind_some, gLet_eq, Option.bind_some, gLet_eq, wp_some, gE_l]
    dsimp only
    rw [wI_s hcl]
    refine ⟨rfl, fun z hz => by rw [gU_n _ _ _ hz, gU_n _ _ _ hz]; exact q1 z hz, fun j => ?_⟩
    have ea : t 50 (13 * a + c) = s 50 (13 * a + c) := by rw [q2, if_neg (by omega)]
    have eb : t 50 (13 * b + c) = s 50 (13 * b + c) := by rw [q2, if_neg (by omega)]
    rw [ea, eb]
    by_cases h1 : j = 13 * b + c
    · rw [h1, gUs, if_pos (by omega)]
      unfold swr
      rw [show (13 * b + c) / 13 = b by omega, show (13 * b + c) % 13 = c by omega]
      by_cases hab : b = a
      · rw [if_pos hab, hab]
      · rw [if_neg hab, if_pos rfl]
    · rw [gUo _ _ _ h1]
      by_cases h2 : j = 13 * a + c
      · rw [h2, gUs, if_pos (by omega)]
        unfold swr
        rw [show (13 * a + c) / 13 = a by omega, show (13 * a + c) % 13 = c by omega, if_pos rfl]
      · rw [gUo _ _ _ h2, q2]
        by_cases h3 : j % 13 = c
        · rw [if_neg (by omega), if_pos (by omega)]
          unfold swr
          rw [if_neg (by omega), if_neg (by omega)]
        · by_cases h4 : j % 13 < c
          · rw [if_pos h4, if_pos (by omega)]
          · rw [if_neg h4, if_neg (by omega)]
  · rintro ⟨y, t⟩ ⟨rfl, q1, q2⟩
    dsimp only at q1 q2
    dsimp only
    unfold f_Bows_swapRows_2b
    rw [if_pos (show (13 : Int) ≤ ((13 : Nat) : Int) by decide), wp_some, gE_r]
    exact ⟨q1, fun j => by rw [q2, if_pos (by omega)]⟩
theorem wp_swapsRows {a b : Nat} (ha : a < 11) (hb : b < 11) (s : kM) : wp (f_M_swapsRows a b s) (fun t => (∀ z, z ≠ 117 → t z = s z) ∧ ∀ j, t 117 j = swr a b (s 117) j) := by
  unfold f_M_swapsRows f_M_swapsRows_2
  refine wp_for 13 (fun c x => x.1 = (c : Int) ∧ (∀ z, z ≠ 117 → x.2 z = s z) ∧ ∀ j, x.2 117 j = if j % 13 < c then swr a b (s 117) j else s 117 j) 0 _ (by omega) (by omega) (by exact ⟨rfl, fun _ _ => rfl, fun j => by rw [if_neg (by omega)]⟩) ?_ ?_
  · rintro c ⟨y, t⟩ _ hc ⟨rfl, q1, q2⟩
    dsimp only at q1 q2
    have n13 : ¬ (13 : Int) ≤ (c : Int) := by omega
    have hcl : c < 2147483647 := by omega
    dsimp only
    unfold f_M_swapsRows_2b
    rw [if_neg n13, gI_cr ha hc, Option.bind_some, gI_cr hb hc, Option.bind_some, Option.bind_some, gLet_eq, Option.bind_some, gLet_eq, wp_some, gE_l]
    dsimp only
    rw [wI_s hcl]
    refine ⟨rfl, fun z hz => by rw [gU_n _ _ _ hz, gU_n _ _ _ hz]; exact q1 z hz, fun j => ?_⟩
    have ea : t 117 (13 * a + c) = s 117 (13 * a + c) := by rw [q2, if_neg (by omega)]
    have eb : t 117 (13 * b + c) = s 117 (13 * b + c) := by rw [q2, if_neg (by omega)]
    rw [ea, eb]
    by_cases h1 : j = 13 * b + c
    · rw [h1, gUs, if_pos (by omega)]
      unfold swr
      rw [show (13 * b + c) / 13 = b by omega, show (13 * b + c) % 13 = c by omega]
      by_cases hab : b = a
      · rw [if_pos hab, hab]
      · rw [if_neg hab, if_pos rfl]
    · rw [gUo _ _ _ h1]
      by_cases h2 : j = 13 * a + c
      · rw [h2, gUs, if_pos (by omega)]
        unfold swr
        rw [show (13 * a + c) / 13 = a by omega, show (13 * a + c) % 13 = c by omega, if_pos rfl]
      · rw [gUo _ _ _ h2, q2]
        by_cases h3 : j % 13 = c
        · rw [if_neg (by omega), if_pos (by omega)]
          unfold swr
          rw [if_neg (by omega), if_neg (by omega)]
        · by_cases h4 : j % 13 < c
          · rw [if_pos h4, if_pos (by omega)]
          · rw [if_neg h4, if_neg (by omega)]
  · rintro ⟨y, t⟩ ⟨rfl, q1, q2⟩
    dsimp only at q1 q2
    dsimp only
    unfold f_M_swapsRows_2b
    rw [if_pos (show (13 : Int) ≤ ((13 : Nat) : Int) by decide), wp_some, gE_r]
    exact ⟨q1, fun j => by rw [q2, if_pos (by omega)]⟩
theorem e_pivot {k n c : Nat} (hkn : k ≤ n) (hn : n ≤ 11) (hc : c < 13) (s : kM) : f_Bows_pivot k n c s = some (if fpv (s 50) c k (n - k) = n then -1 else ((fpv (s 50) c k (n - k) : Nat) : Int)) := by
  obtain ⟨zv, hzv⟩ : ∃ zv, zv = fpv (s 50) c k (n - k) := ⟨_, rfl⟩
  rw [← hzv]
  unfold f_Bows_pivot f_Bows_pivot_2
  apply wp_eq
  refine wp_for n (fun i x => x = (i : Int) ∧ fpv (s 50) c i (n - i) = zv) k _ hkn (by omega) (by exact ⟨rfl, hzv.symm⟩) ?_ ?_
  · rintro i y h1 h2 ⟨rfl, q⟩
    have nle : ¬ (n : Int) ≤ (i : Int) := by omega
    have hil : i < 2147483647 := by omega
    unfold f_Bows_pivot_2b
    rw [if_neg nle, gI_rc (by omega) hc, Option.bind_some]
    rw [show n - i = (n - (i + 1)) + 1 by omega, fpv_s] at q
    by_cases h0 : s 50 (13 * i + c) = 0
    · rw [if_pos h0] at q
      rw [if_pos h0, wp_some, gE_l, wI_s hil]
      exact ⟨rfl, q⟩
    · rw [if_neg h0] at q
      rw [if_neg h0, wp_some, gE_r, ← q, if_neg (by omega)]
  · rintro y ⟨rfl, q⟩
    unfold f_Bows_pivot_2b
    rw [Nat.sub_self] at q
    have q' : n = zv := q
    rw [if_pos (Int.le_refl _), wp_some, gE_r, if_pos q'.symm]
theorem wp_reduceBelow {k n : Nat} (hkn : k < n) (hn : n ≤ 11) {last : Int} (hl : last ≠ 0) (s : kM) : wp (f_Bows_reduceBelow k n last s) (fun t => (∀ z, z ≠ 50 → t z = s z) ∧ ∀ j, t 50 j = red k n last (s 50) j) := by
  have h00 : ∀ j, s 50 j = if j / 13 < k + 1 then red k n last (s 50) j else s 50 j := fun j => by
    by_cases h : j / 13 < k + 1
    · unfold red
      rw [if_pos h, if_neg (by omega)]
    · rw [if_neg h]
  unfold f_Bows_reduceBelow f_Bows_reduceBelow_4
  rw [wI_s (k := k) (by omega)]
  refine wp_for n (fun i x => x.1 = (i : Int) ∧ (∀ z, z ≠ 50 → x.2 z = s z) ∧ ∀ j, x.2 50 j = if j / 13 < i then red k n last (s 50) j else s 50 j) (k + 1) _ (by omega) (by omega) (by exact ⟨rfl, fun _ _ => rfl, h00⟩) ?_ ?_
  · rintro i ⟨y, t⟩ h1 h2 ⟨rfl, q1, q2⟩
    dsimp only at q1 q2
    have nle : ¬ (n : Int) ≤ (i : Int) := by omega
    have hil : i < 2147483647 := by omega
    have h01 : ∀ j, t 50 j = if j / 13 = i ∧ j % 13 < k + 1 then red k n last (s 50) j else t 50 j := fun j => by
      by_cases h : j / 13 = i ∧ j % 13 < k + 1
      · rw [if_pos h, q2, if_neg (by omega)]
        unfold red
        rw [if_neg (by omega)]
      · rw [if_neg h]
    dsimp only
    unfold f_Bows_reduceBelow_4b f_Bows_reduceBelow_15
    rw [if_neg nle, if_neg hl, wI_s (k := k) (by omega)]
    refine wp_for n (fun c x => x.1 = (c : Int) ∧ (∀ z, z ≠ 50 → x.2 z = t z) ∧ ∀ j, x.2 50 j = if j / 13 = i ∧ j % 13 < c then red k n last (s 50) j else t 50 j) (k + 1) _ (by omega) (by omega) (by exact ⟨rfl, fun _ _ => rfl, h01⟩) ?_ ?_
    · rintro c ⟨y, w⟩ h3 h4 ⟨rfl, p1, p2⟩
      dsimp only at p1 p2
      have nle2 : ¬ (n : Int) ≤ (c : Int) := by omega
      have hcl : c < 2147483647 := by omega
      have e1 : w 50 (13 * i + c) = s 50 (13 * i + c) := by rw [p2, if_neg (by omega), q2, if_neg (by omega)]
      have e2 : w 50 (13 * k + k) = s 50 (13 * k + k) := by
        rw [p2, if_neg (by omega), q2, if_pos (by omega)]
        unfold red
        rw [if_neg (by omega)]
      have e3 : w 50 (13 * i + k) = s 50 (13 * i + k) := by
        rw [p2, if_pos (by omega)]
        unfold red
        rw [if_neg (by omega)]
      have e4 : w 50 (13 * k + c) = s 50 (13 * k + c) := by
        rw [p2, if_neg (by omega), q2, if_pos (by omega)]
        unfold red
        rw [if_neg (by omega)]
      have egD : gD last = some () := by unfold gD; rw [if_neg hl]
      dsimp only
      unfold f_Bows_reduceBelow_15b
      rw [if_neg nle2, gI_rc (by omega) (by omega), Option.bind_some, gI_rc (by omega) (by omega), Option.bind_some, gI_rc (by omega) (by omega), Option.bind_some, gI_rc (by omega) (by omega), Option.bind_some, egD, Option.bind_some, Option.bind_some, gLet_eq, wp_some, gE_l]
      dsimp only
      rw [wI_s hcl, e1, e2, e3, e4]
      refine ⟨rfl, fun z hz => by rw [gU_n _ _ _ hz]; exact p1 z hz, fun j => ?_⟩
      by_cases hj : j = 13 * i + c
      · rw [hj, gUs, if_pos (by omega)]
        unfold red
        rw [if_pos (by omega), show (13 * i + c) / 13 = i by omega, show (13 * i + c) % 13 = c by omega]
      · rw [gUo _ _ _ hj, p2]
        by_cases hj2 : j / 13 = i ∧ j % 13 < c
        · rw [if_pos hj2, if_pos (by omega)]
        · rw [if_neg hj2, if_neg (by omega)]
    · rintro ⟨y, w⟩ ⟨rfl, p1, p2⟩
      dsimp only at p1 p2
      dsimp only
      unfold f_Bows_reduceBelow_15b
      rw [if_pos (Int.le_refl _), wp_some, gE_r, gE_l]
      dsimp only
      rw [wI_s hil]
      refine ⟨rfl, fun z hz => by rw [p1 z hz]; exact q1 z hz, fun j => ?_⟩
      rw [p2, q2]
      by_cases hj : j / 13 = i
      · by_cases hj2 : j % 13 < n
        · rw [if_pos ⟨hj, hj2⟩, if_pos (by omega)]
        · rw [if_neg (fun z => hj2 z.2), if_neg (by omega), if_pos (by omega)]
          unfold red
          rw [if_neg (by omega)]
      · rw [if_neg (fun z => hj z.1)]
        by_cases hj3 : j / 13 < i
        · rw [if_pos hj3, if_pos (by omega)]
        · rw [if_neg hj3, if_neg (by omega)]
  · rintro ⟨y, t⟩ ⟨rfl, q1, q2⟩
    dsimp only at q1 q2
    have fin : ∀ j, t 50 j = red k n last (s 50) j := fun j => by
      rw [q2]
      by_cases h : j / 13 < n
      · rw [if_pos h]
      · rw [if_neg h]
        unfold red
        rw [if_neg (by omega)]
    dsimp only
    unfold f_Bows_reduceBelow_4b
    rw [if_pos (Int.le_refl _), wp_some, gE_r]
    exact ⟨q1, fin⟩
theorem wp_M_reduce {k n : Nat} (hkn : k < n) (hn : n ≤ 11) {last : Int} (hl : last ≠ 0) (s : kM) : wp (f_M_determinant_59 n last k ((k + 1 : Nat) : Int) s) (gE (fun x => (x.1 = red k n last (s 117) (13 * k + k) ∧ x.2.1 = ((k + 1 : Nat) : Int)) ∧ (∀ z, z ≠ 117 → x.2.2 z = s z) ∧ ∀ j, x.2.2 117 j = red k n last (s 117) j) (fun _ => False)) := by
  have h00 : ∀ j, s 117 j = if j / 13 < k + 1 then red k n last (s 117) j else s 117 j := fun j => by
    by_cases h : j / 13 < k + 1
    · unfold red
      rw [if_pos h, if_neg (by omega)]
    · rw [if_neg h]
  unfold f_M_determinant_59
  refine wp_for n (fun i x => x.1 = (i : Int) ∧ (∀ z, z ≠ 117 → x.2 z = s z) ∧ ∀ j, x.2 117 j = if j / 13 < i then red k n last (s 117) j else s 117 j) (k + 1) _ (by omega) (by omega) (by exact ⟨rfl, fun _ _ => rfl, h00⟩) ?_ ?_
  · rintro i ⟨y, t⟩ h1 h2 ⟨rfl, q1, q2⟩
    dsimp only at q1 q2
    have nle : ¬ (n : Int) ≤ (i : Int) := by omega
    have hil : i < 2147483647 := by omega
    have h01 : ∀ j, t 117 j = if j / 13 = i ∧ j % 13 < k + 1 then red k n last (s 117) j else t 117 j := fun j => by
      by_cases h : j / 13 = i ∧ j % 13 < k + 1
      · rw [if_pos h, q2, if_neg (by omega)]
        unfold red
        rw [if_neg (by omega)]
      · rw [if_neg h]
    dsimp only
    unfold f_M_determinant_59b f_M_determinant_66
    rw [if_neg nle, wI_s (k := k) (by omega)]
    refine wp_for n (fun c x => x.1 = (c : Int) ∧ (∀ z, z ≠ 117 → x.2 z = t z) ∧ ∀ j, x.2 117 j = if j / 13 = i ∧ j % 13 < c then red k n last (s 117) j else t 117 j) (k + 1) _ (by omega) (by omega) (by exact ⟨rfl, fun _ _ => rfl, h01⟩) ?_ ?_
    · rintro c ⟨y, w⟩ h3 h4 ⟨rfl, p1, p2⟩
      dsimp only at p1 p2
      have nle2 : ¬ (n : Int) ≤ (c : Int) := by omega
      have hcl : c < 2147483647 := by omega
      have e1 : w 117 (13 * i + c) = s 117 (13 * i + c) := by rw [p2, if_neg (by omega), q2, if_neg (by omega)]
      have e2 : w 117 (13 * k + k) = s 117 (13 * k + k) := by
        rw [p2, if_neg (by omega), q2, if_pos (by omega)]
        unfold red
        rw [if_neg (by omega)]
      have e3 : w 117 (13 * i + k) = s 117 (13 * i + k) := by
        rw [p2, if_pos (by omega)]
        unfold red
        rw [if_neg (by omega)]
      have e4 : w 117 (13 * k + c) = s 117 (13 * k + c) := by
        rw [p2, if_neg (by omega), q2, if_pos (by omega)]
        unfold red
        rw [if_neg (by omega)]
      have egD : gD last = some () := by unfold gD; rw [if_neg hl]
      dsimp only
      unfold f_M_determinant_66b
      rw [if_neg nle2, gI_cr (by omega) (by omega), Option.bind_some, gI_cr (by omega) (by omega), Option.bind_some, gI_cr (by omega) (by omega), Option.bind_some, gI_cr (by omega) (by omega), Option.bind_some, egD, Option.bind_some, Option.bind_some, gLet_eq, wp_some, gE_l]
      dsimp only
      rw [wI_s hcl, e1, e2, e3, e4]
      refine ⟨rfl, fun z hz => by rw [gU_n _ _ _ hz]; exact p1 z hz, fun j => ?_⟩
      by_cases hj : j = 13 * i + c
      · rw [hj, gUs, if_pos (by omega)]
        unfold red
        rw [if_pos (by omega), show (13 * i + c) / 13 = i by omega, show (13 * i + c) % 13 = c by omega]
      · rw [gUo _ _ _ hj, p2]
        by_cases hj2 : j / 13 = i ∧ j % 13 < c
        · rw [if_pos hj2, if_pos (by omega)]
        · rw [if_neg hj2, if_neg (by omega)]
    · rintro ⟨y, w⟩ ⟨rfl, p1, p2⟩
      dsimp only at p1 p2
      dsimp only
      unfold f_M_determinant_66b
      rw [if_pos (Int.le_refl _), wp_some, gE_r, gE_l]
      dsimp only
      rw [wI_s hil]
      refine ⟨rfl, fun z hz => by rw [p1 z hz]; exact q1 z hz, fun j => ?_⟩
      rw [p2, q2]
      by_cases hj : j / 13 = i
      · by_cases hj2 : j % 13 < n
        · rw [if_pos ⟨hj, hj2⟩, if_pos (by omega)]
        · rw [if_neg (fun z => hj2 z.2), if_neg (by omega), if_pos (by omega)]
          unfold red
          rw [if_neg (by omega)]
      · rw [if_neg (fun z => hj z.1)]
        by_cases hj3 : j / 13 < i
        · rw [if_pos hj3, if_pos (by omega)]
        · rw [if_neg hj3, if_neg (by omega)]
  · rintro ⟨y, t⟩ ⟨rfl, q1, q2⟩
    dsimp only at q1 q2
    have fin : ∀ j, t 117 j = red k n last (s 117) j := fun j => by
      rw [q2]
      by_cases h : j / 13 < n
      · rw [if_pos h]
      · rw [if_neg h]
        unfold red
        rw [if_neg (by omega)]
    dsimp only
    unfold f_M_determinant_59b
    rw [if_pos (Int.le_refl _), gI_cr (by omega) (by omega), Option.bind_some, wp_some, gE_r, gE_l]
    dsimp only
    rw [wI_s (by omega)]
    exact ⟨⟨fin _, rfl⟩, q1, fin⟩
