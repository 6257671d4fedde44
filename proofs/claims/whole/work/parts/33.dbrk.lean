/-! a power of A times a power of what each ring more brings -/
theorem wI_add (a b : Int) : wI (wI a + b) = wI (a + b) := Int.bmod_add_bmod ..
theorem kdiv_mul {a : Int} {b : Nat} (h0 : 0 < b) (hb : b < 1000) (h1 : -100000000 ≤ a) (h2 : a ≤ 100000000) (h3 : -2000000000 ≤ a * (b : Int)) (h4 : a * (b : Int) ≤ 2000000000) : kdiv (a * (b : Int)) (b : Int) = a := by
  unfold kdiv
  rw [Int32.toInt_div, i32_toInt (by omega) (by omega), i32_toInt (by omega) (by omega), Int.mul_tdiv_cancel _ (by omega)]
  exact wI_id (x := a) (by omega) (by omega)
def bnz : Nat → Nat → Nat
  | _, 0 => 1
  | 0, _ + 1 => 0
  | n + 1, k + 1 => bnz n k + bnz n (k + 1)
theorem bnz_all : ∀ n : Fin 16, ∀ k : Fin 16, (k.val ≤ n.val → bnz n.val k.val * (n.val - k.val) = bnz n.val (k.val + 1) * (k.val + 1)) ∧ bnz n.val k.val ≤ 6435 ∧ (k.val ≤ n.val → 0 < bnz n.val k.val) := by decide +kernel
theorem bnz_step {n k : Nat} (hn : n < 16) (hk : k ≤ n) : bnz n k * (n - k) = bnz n (k + 1) * (k + 1) := (bnz_all ⟨n, hn⟩ ⟨k, by omega⟩).1 hk
theorem bnz_le {n k : Nat} (hn : n < 16) (hk : k < 16) : bnz n k ≤ 6435 := (bnz_all ⟨n, hn⟩ ⟨k, hk⟩).2.1
theorem bnz_pos {n k : Nat} (hn : n < 16) (hk : k ≤ n) : 0 < bnz n k := (bnz_all ⟨n, hn⟩ ⟨k, by omega⟩).2.2 hk
def sgz (n : Nat) : Int := if n % 2 = 0 then 1 else -1
/-- what k brings to a place -/
def cft (pw : Int) (n at' : Nat) : Nat → Int := fun k => if pw + 2 * (n : Int) - 4 * (k : Int) + 99 = (at' : Int) then sgz n * ((bnz n k : Nat) : Int) else 0
def cfa (pw : Int) (n at' : Nat) : Int := smr (cft pw n at') (n + 1)
theorem sgz_c (n : Nat) : sgz n = 1 ∨ sgz n = -1 := by unfold sgz; split <;> simp
/-- one step of the walk: place, next factor -/
theorem pos_w {pw : Int} {n k : Nat} (h1 : -20 ≤ pw) (h2 : pw ≤ 20) (hn : n < 16) (hk : k ≤ n) : wI (wI (wI (pw + wI (2 * (n : Int))) - wI (4 * (k : Int))) + 99) = pw + 2 * (n : Int) - 4 * (k : Int) + 99 := by
  have e1 : wI (2 * (n : Int)) = 2 * (n : Int) := wI_id (by omega) (by omega)
  have e2 : wI (4 * (k : Int)) = 4 * (k : Int) := wI_id (by omega) (by omega)
  have e3 : wI (pw + 2 * (n : Int)) = pw + 2 * (n : Int) := wI_id (by omega) (by omega)
  have e4 : wI (pw + 2 * (n : Int) - 4 * (k : Int)) = pw + 2 * (n : Int) - 4 * (k : Int) := wI_id (by omega) (by omega)
  rw [e1, e2, e3, e4]
  exact wI_id (by clear e1 e2 e3 e4; omega) (by clear e1 e2 e3 e4; omega)
theorem pos_w2 {pw : Int} {n k : Nat} (h1 : -20 ≤ pw) (h2 : pw ≤ 20) (hn : n < 16) (hk : k ≤ n) : wI (wI (wI (99 + pw) + wI (2 * (n : Int))) - wI (4 * (k : Int))) = pw + 2 * (n : Int) - 4 * (k : Int) + 99 := by
  have e1 : wI (2 * (n : Int)) = 2 * (n : Int) := wI_id (by omega) (by omega)
  have e2 : wI (4 * (k : Int)) = 4 * (k : Int) := wI_id (by omega) (by omega)
  have e3 : wI (99 + pw) = 99 + pw := wI_id (by omega) (by omega)
  have e4 : wI (99 + pw + 2 * (n : Int)) = 99 + pw + 2 * (n : Int) := wI_id (by omega) (by omega)
  rw [e1, e2, e3, e4, wI_id (by clear e1 e2 e3 e4; omega) (by clear e1 e2 e3 e4; omega)]
  omega
/-- the factor behind k -/
theorem fac_w {n k tm : Nat} {sg : Int} (hsg : sg = 1 ∨ sg = -1) (hn : n < 16) (hk : k ≤ n) (htm : tm ≤ 4096) : kdiv (wI (sg * ((tm * bnz n k : Nat) : Int) * wI ((n : Int) - (k : Int)))) (wI ((k : Int) + 1)) = sg * ((tm * bnz n (k + 1) : Nat) : Int) := by
  have hb := bnz_step hn hk
  have hl : bnz n (k + 1) ≤ 6435 := by
    by_cases h : k + 1 < 16
    · exact bnz_le hn h
    · have : n = 15 := by omega
      have : k = 15 := by omega
      subst this
      subst n
      decide
  have hl2 := bnz_le hn (show k < 16 by omega)
  have e0 : tm * bnz n k * (n - k) = tm * bnz n (k + 1) * (k + 1) := by rw [Nat.mul_assoc, hb, Nat.mul_assoc]
  have b1 : tm * bnz n (k + 1) ≤ 4096 * 6435 := Nat.mul_le_mul htm hl
  have b2 : tm * bnz n (k + 1) * (k + 1) ≤ 4096 * 6435 * 16 := Nat.mul_le_mul b1 (by omega)
  have e1 : wI ((n : Int) - (k : Int)) = ((n - k : Nat) : Int) := wI_sub2 hk (by omega)
  have e2 : wI ((k : Int) + 1) = ((k + 1 : Nat) : Int) := wI_s (by omega)
  rw [e1, e2]
  clear e1 e2
  have e3 : sg * ((tm * bnz n k : Nat) : Int) * ((n - k : Nat) : Int) = sg * ((tm * bnz n (k + 1) : Nat) : Int) * ((k + 1 : Nat) : Int) := by
    rw [Int.mul_assoc, Int.mul_assoc, ← Int.natCast_mul, ← Int.natCast_mul, e0]
  generalize tm * bnz n (k + 1) = X at b1 b2 e3 ⊢
  have e4 : sg * (X : Int) * ((k + 1 : Nat) : Int) = sg * ((X * (k + 1) : Nat) : Int) := by rw [Int.mul_assoc, ← Int.natCast_mul]
  have e5 : wI (sg * (X : Int) * ((k + 1 : Nat) : Int)) = sg * (X : Int) * ((k + 1 : Nat) : Int) := by
    rw [e4]
    generalize X * (k + 1) = Y at b2
    rcases hsg with h | h
    · rw [h]; exact wI_id (by omega) (by omega)
    · rw [h]; exact wI_id (by omega) (by omega)
  rw [e3, e5]
  clear e5
  apply kdiv_mul (by omega) (by omega)
  · rcases hsg with h | h <;> rw [h] <;> omega
  · rcases hsg with h | h <;> rw [h] <;> omega
  · rw [e4]
    generalize X * (k + 1) = Y at b2
    rcases hsg with h | h <;> rw [h] <;> omega
  · rw [e4]
    generalize X * (k + 1) = Y at b2
    rcases hsg with h | h <;> rw [h] <;> omega
theorem smr_mul (c : Int) (f : Nat → Int) : ∀ n, smr (fun i => c * f i) n = c * smr f n
  | 0 => by show (0 : Int) = c * 0; rw [Int.mul_zero]
  | n + 1 => by rw [smr_s, smr_s, smr_mul c f n, Int.mul_add]
theorem wp_addUp {pw : Int} {n tm : Nat} (h1 : -20 ≤ pw) (h2 : pw ≤ 20) (hn : n < 16) (htm : tm ≤ 4096) {s : kM} {V : Nat → Int} (hV : ∀ j, j < 199 → s 45 j = wI (V j)) : wp (f_Bracket_addUp pw n tm s) (fun t => (∀ z, z ≠ 45 → t z = s z) ∧ ∀ j, j < 199 → t 45 j = wI (V j + (tm : Int) * cfa pw n j)) := by
  have hsg := sgz_c n
  have start : f_Bracket_addUp pw n tm s = f_Bracket_addUp_11 pw n (sgz n * ((tm * bnz n 0 : Nat) : Int)) 0 s := by
    have b0 : bnz n 0 = 1 := by cases n <;> rfl
    unfold f_Bracket_addUp f_Bracket_addUp_8
    rw [kand1_n (by omega), b0, Nat.mul_one]
    unfold sgz
    by_cases hp : n % 2 = 0
    · rw [if_pos (by omega), if_pos hp, Int.one_mul]
    · have : wI (-(tm : Int)) = -1 * (tm : Int) := by rw [wI_id (by omega) (by omega)]; omega
      rw [if_neg (by omega), if_neg hp, this]
  rw [start]
  unfold f_Bracket_addUp_11
  refine wp_for (n + 1) (fun k x => x.1 = sgz n * ((tm * bnz n k : Nat) : Int) ∧ x.2.1 = (k : Int) ∧ (∀ z, z ≠ 45 → x.2.2 z = s z) ∧ ∀ j, j < 199 → x.2.2 45 j = wI (V j + (tm : Int) * smr (cft pw n j) k)) 0 _ (by omega) (by omega) (by exact ⟨rfl, rfl, fun _ _ => rfl, fun j hj => by show s 45 j = wI (V j + (tm : Int) * 0); rw [Int.mul_zero, Int.add_zero]; exact hV j hj⟩) ?_ ?_
  · rintro k ⟨y1, y2, t⟩ _ hk ⟨rfl, rfl, q1, q2⟩
    dsimp only at q1 q2
    have hbp := bnz_pos hn (show k ≤ n by omega)
    dsimp only
    unfold f_Bracket_addUp_11b f_Bracket_addUp_43
    rw [if_neg (by omega)]
    by_cases ht0 : tm = 0
    · subst ht0
      rw [if_pos (by rw [Nat.zero_mul]; exact Int.mul_zero _), wp_some, gE_r]
      refine ⟨q1, fun j hj => ?_⟩
      have := q2 j hj
      rw [show ((0 : Nat) : Int) = 0 from rfl, Int.zero_mul] at this ⊢
      exact this
    · have hpos : 0 < tm * bnz n k := Nat.mul_pos (by omega) hbp
      have hne : ¬ sgz n * ((tm * bnz n k : Nat) : Int) = 0 := by
        generalize tm * bnz n k = X at hpos
        rcases hsg with h | h <;> rw [h] <;> omega
      obtain ⟨P, hP⟩ : ∃ P : Nat, pw + 2 * (n : Int) - 4 * (k : Int) + 99 = (P : Int) := ⟨(pw + 2 * (n : Int) - 4 * (k : Int) + 99).toNat, by omega⟩
      have hP199 : P < 199 := by omega
      have ew := pos_w h1 h2 hn (show k ≤ n by omega)
      rw [hP] at ew
      have egD : gD (wI ((k : Int) + 1)) = some () := by
        unfold gD
        rw [wI_s (by omega), if_neg (by omega)]
      rw [if_neg hne, ew, if_neg (by clear ew egD; omega), if_neg (by clear ew egD; omega), gI_n hP199, Option.bind_some, Option.bind_some, gLet_eq, egD, Option.bind_some, fac_w hsg hn (show k ≤ n by clear ew egD; omega) htm, wI_s (by clear ew egD; omega), wp_some, gE_l]
      clear ew egD
      refine ⟨rfl, rfl, fun z hz => by dsimp only; rw [gU_n _ _ _ hz]; exact q1 z hz, fun j hj => ?_⟩
      dsimp only
      rw [smr_s]
      have ec : cft pw n j k = if j = P then sgz n * ((bnz n k : Nat) : Int) else 0 := by
        unfold cft
        by_cases hjP : j = P
        · rw [if_pos hjP, if_pos (by rw [hP, hjP])]
        · rw [if_neg hjP, if_neg (fun z => hjP (by omega))]
      rw [ec]
      by_cases hjP : j = P
      · rw [if_pos hjP, hjP, gUs, q2 P hP199, wI_add]
        congr 1
        rw [Int.mul_add, Int.natCast_mul]
        have : sgz n * ((tm : Int) * ((bnz n k : Nat) : Int)) = (tm : Int) * (sgz n * ((bnz n k : Nat) : Int)) := by rw [Int.mul_left_comm]
        rw [this, Int.add_assoc]
      · rw [if_neg hjP, gUo _ _ _ hjP, Int.add_zero]
        exact q2 j hj
  · rintro ⟨y1, y2, t⟩ ⟨rfl, rfl, q1, q2⟩
    dsimp only at q1 q2
    dsimp only
    unfold f_Bracket_addUp_11b
    rw [if_pos (by omega), wp_some, gE_r]
    exact ⟨q1, q2⟩
theorem wp_adds {pw : Int} {n : Nat} (h1 : -20 ≤ pw) (h2 : pw ≤ 20) (hn : n < 16) {s : kM} {V : Nat → Int} (hV : ∀ j, j < 199 → s 118 j = wI (V j)) : wp (f_M_adds pw n s) (fun t => (∀ z, z ≠ 118 → t z = s z) ∧ ∀ j, j < 199 → t 118 j = wI (V j + cfa pw n j)) := by
  have hsg := sgz_c n
  have start : f_M_adds pw n s = f_M_adds_10 pw n (sgz n * ((1 * bnz n 0 : Nat) : Int)) 0 s := by
    have b0 : bnz n 0 = 1 := by cases n <;> rfl
    unfold f_M_adds f_M_adds_7
    have ek : krem (n : Int) 2 = ((n % 2 : Nat) : Int) := krem_n (b := 2) (by omega) (by decide) (by decide)
    rw [ek, b0]
    unfold sgz
    by_cases hp : n % 2 = 0
    · rw [if_pos (by omega), if_pos hp]
      rfl
    · rw [if_neg (by omega), if_neg hp]
      rfl
  rw [start]
  unfold f_M_adds_10
  refine wp_for (n + 1) (fun k x => x.1 = sgz n * ((1 * bnz n k : Nat) : Int) ∧ x.2.1 = (k : Int) ∧ (∀ z, z ≠ 118 → x.2.2 z = s z) ∧ ∀ j, j < 199 → x.2.2 118 j = wI (V j + smr (cft pw n j) k)) 0 _ (by omega) (by omega) (by exact ⟨rfl, rfl, fun _ _ => rfl, fun j hj => by show s 118 j = wI (V j + 0); rw [Int.add_zero]; exact hV j hj⟩) ?_ ?_
  · rintro k ⟨y1, y2, t⟩ _ hk ⟨rfl, rfl, q1, q2⟩
    dsimp only at q1 q2
    obtain ⟨P, hP⟩ : ∃ P : Nat, pw + 2 * (n : Int) - 4 * (k : Int) + 99 = (P : Int) := ⟨(pw + 2 * (n : Int) - 4 * (k : Int) + 99).toNat, by omega⟩
    have hP199 : P < 199 := by omega
    have ew := pos_w2 h1 h2 hn (show k ≤ n by omega)
    rw [hP] at ew
    have egD : gD (wI ((k : Int) + 1)) = some () := by
      unfold gD
      rw [wI_s (by omega), if_neg (by omega)]
    dsimp only
    unfold f_M_adds_10b
    rw [if_neg (by clear ew egD; omega), ew, gI_n hP199, Option.bind_some, Option.bind_some, gLet_eq, egD, Option.bind_some, fac_w (tm := 1) hsg hn (show k ≤ n by clear ew egD; omega) (by decide), wI_s (by clear ew egD; omega), wp_some, gE_l]
    clear ew egD
    refine ⟨rfl, rfl, fun z hz => by dsimp only; rw [gU_n _ _ _ hz]; exact q1 z hz, fun j hj => ?_⟩
    dsimp only
    rw [smr_s]
    have ec : cft pw n j k = if j = P then sgz n * ((bnz n k : Nat) : Int) else 0 := by
      unfold cft
      by_cases hjP : j = P
      · rw [if_pos hjP, if_pos (by rw [hP, hjP])]
      · rw [if_neg hjP, if_neg (fun z => hjP (by omega))]
    rw [ec]
    by_cases hjP : j = P
    · rw [if_pos hjP, hjP, gUs, q2 P hP199, wI_add, Nat.one_mul, Int.add_assoc]
    · rw [if_neg hjP, gUo _ _ _ hjP, Int.add_zero]
      exact q2 j hj
  · rintro ⟨y1, y2, t⟩ ⟨rfl, rfl, q1, q2⟩
    dsimp only at q1 q2
    dsimp only
    unfold f_M_adds_10b
    rw [if_pos (by omega), wp_some, gE_r]
    exact ⟨q1, q2⟩
