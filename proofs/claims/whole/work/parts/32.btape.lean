/-! numbers on the tape -/
def dgt (T : Nat → Int) (L p : Nat) : Bool := decide (p < L ∧ 48 ≤ T p ∧ T p ≤ 57)
def drF (T : Nat → Int) (L : Nat) : Nat → Nat → Nat
  | 0, _ => 0
  | n + 1, p => if dgt T L p = true then drF T L n (p + 1) + 1 else 0
def drn (T : Nat → Int) (L p : Nat) : Nat := drF T L (L - p) p
theorem drn_go {T : Nat → Int} {L p : Nat} (h : dgt T L p = true) : drn T L p = drn T L (p + 1) + 1 := by
  have hp := (of_decide_eq_true h).1
  unfold drn
  rw [show L - p = (L - (p + 1)) + 1 by omega]
  show (if dgt T L p = true then drF T L (L - (p + 1)) (p + 1) + 1 else 0) = _
  rw [if_pos h]
theorem drn_no {T : Nat → Int} {L p : Nat} (h : ¬ dgt T L p = true) : drn T L p = 0 := by
  unfold drn
  by_cases hp : p < L
  · rw [show L - p = (L - (p + 1)) + 1 by omega]
    show (if dgt T L p = true then drF T L (L - (p + 1)) (p + 1) + 1 else 0) = _
    rw [if_neg h]
  · rw [show L - p = 0 by omega]
    rfl
theorem drn_le (T : Nat → Int) (L : Nat) : ∀ n p, L - p = n → drn T L p ≤ n
  | 0, p, h => by rw [drn_no (fun q => by have := (of_decide_eq_true q).1; omega)]; omega
  | n + 1, p, h => by
    by_cases hl : dgt T L p = true
    · have := drn_le T L n (p + 1) (by omega)
      rw [drn_go hl]
      omega
    · rw [drn_no hl]
      omega
theorem drn_at {T : Nat → Int} {L : Nat} : ∀ i p, i < drn T L p → dgt T L (p + i) = true
  | 0, p, h => by
    by_cases hl : dgt T L p = true
    · exact hl
    · rw [drn_no hl] at h; omega
  | i + 1, p, h => by
    by_cases hl : dgt T L p = true
    · rw [drn_go hl] at h
      have := drn_at (T := T) (L := L) i (p + 1) (by omega)
      rw [show p + (i + 1) = p + 1 + i by omega]
      exact this
    · rw [drn_no hl] at h; omega
theorem drn_end {T : Nat → Int} {L : Nat} : ∀ n p, L - p = n → ¬ dgt T L (p + drn T L p) = true
  | 0, p, h => by
    have hl : ¬ dgt T L p = true := fun q => by have := (of_decide_eq_true q).1; omega
    rw [drn_no hl]
    exact hl
  | n + 1, p, h => by
    by_cases hl : dgt T L p = true
    · have := drn_end (T := T) (L := L) n (p + 1) (by omega)
      rw [drn_go hl, show p + (drn T L (p + 1) + 1) = p + 1 + drn T L (p + 1) by omega]
      exact this
    · rw [drn_no hl]
      exact hl
/-- the value of n digits -/
def nv (T : Nat → Int) (p : Nat) : Nat → Nat
  | 0 => 0
  | n + 1 => 10 * nv T p n + (T (p + n) - 48).toNat
theorem nv_s (T : Nat → Int) (p n : Nat) : nv T p (n + 1) = 10 * nv T p n + (T (p + n) - 48).toNat := rfl
theorem nv_lt {T : Nat → Int} {L p : Nat} : ∀ n, n ≤ drn T L p → nv T p n < 10 ^ n
  | 0, _ => by show 0 < 1; decide
  | n + 1, h => by
    have ih := nv_lt (T := T) (L := L) (p := p) n (by omega)
    obtain ⟨-, h2, h3⟩ := of_decide_eq_true (drn_at (T := T) (L := L) n p (by omega))
    rw [nv_s, Nat.pow_succ]
    omega
/-- at most five of them are reckoned -/
def n5 (T : Nat → Int) (L p : Nat) : Nat := mi (drn T L p) 5
def val (T : Nat → Int) (L p : Nat) : Nat := nv T p (n5 T L p)
theorem n5_le (T : Nat → Int) (L p : Nat) : n5 T L p ≤ 5 ∧ n5 T L p ≤ drn T L p := by
  unfold n5 mi
  split <;> omega
theorem nv_5 {T : Nat → Int} {L p n : Nat} (h1 : n ≤ 5) (h2 : n ≤ drn T L p) : nv T p n < 100000 := by
  have := nv_lt (T := T) (L := L) (p := p) n h2
  have h3 : 10 ^ n ≤ 10 ^ 5 := Nat.pow_le_pow_right (by decide) h1
  omega
theorem val_lt (T : Nat → Int) (L p : Nat) : val T L p < 100000 := nv_5 (n5_le T L p).1 (n5_le T L p).2
theorem e_seesNumber {T : Nat → Int} (hT : TB T) {L p : Nat} {s : kM} (h : KTp T L p s) : f_Tape_seesNumber s = some (if dgt T L (bl T L p) = true then 1 else 0, gU s 1 2 ((bl T L p : Nat) : Int)) := by
  unfold f_Tape_seesNumber
  rw [e_look h, Option.bind_some]
  dsimp only
  generalize bl T L p = q
  have := hT q
  unfold sgn dgt
  by_cases hq : q < L
  · rw [if_pos hq, a255 this]
    by_cases h0 : T q < 0
    · rw [if_pos h0, if_neg (by omega), if_pos (by omega), if_neg (fun z => by have := of_decide_eq_true z; omega)]
    · rw [if_neg h0]
      by_cases c1 : T q < 48
      · rw [if_pos c1, if_neg (fun z => by have := of_decide_eq_true z; omega)]
      · rw [if_neg c1]
        by_cases c2 : 57 < T q
        · rw [if_pos c2, if_neg (fun z => by have := of_decide_eq_true z; omega)]
        · rw [if_neg c2, if_pos (decide_eq_true ⟨hq, by omega, by omega⟩)]
  · rw [if_neg hq, if_pos (by decide), if_neg (fun z => hq (of_decide_eq_true z).1)]
theorem e_digitsHere {T : Nat → Int} {L p : Nat} {s : kM} (h : KTp T L p s) : f_Tape_digitsHere s = some ((drn T L p : Nat) : Int) := by
  obtain ⟨h0, h1, h2, h3, h4⟩ := h
  have hle := drn_le T L (L - p) p rfl
  unfold f_Tape_digitsHere f_Tape_digitsHere_2
  apply wp_eq
  refine wp_for (drn T L p) (fun i x => x = (i : Int)) 0 _ (by omega) (by omega) (by exact rfl) ?_ ?_
  · rintro i y _ hi rfl
    obtain ⟨l1, l2, l3⟩ := of_decide_eq_true (drn_at (T := T) (L := L) i p hi)
    unfold f_Tape_digitsHere_2b
    rw [h3, h2, wI_add2 (by omega), if_neg (by omega), gI_n (show p + i < 400 by omega), Option.bind_some, h4, if_neg (by omega), Option.bind_some, if_neg (by omega), wp_some, gE_l, wI_s (by omega)]
  · rintro y rfl
    have he := drn_end (T := T) (L := L) (L - p) p rfl
    unfold f_Tape_digitsHere_2b
    rw [h3, h2, wI_add2 (by omega)]
    by_cases c1 : p + drn T L p < L
    · rw [if_neg (by omega), gI_n (show p + drn T L p < 400 by omega), Option.bind_some, h4]
      by_cases c2 : T (p + drn T L p) < 48
      · rw [if_pos c2, wp_some, gE_r]
      · rw [if_neg c2, Option.bind_some]
        by_cases c3 : 57 < T (p + drn T L p)
        · rw [if_pos c3, wp_some, gE_r]
        · exact absurd (decide_eq_true ⟨c1, by omega, by omega⟩) he
    · rw [if_pos (by omega), wp_some, gE_r]
/-- the first fault along the text -/
def flt (p c : Nat) : Nat := 1 + 8 * p + c
theorem flt_w {p c : Nat} (hp : p ≤ 1000) (hc : c ≤ 10) : wI (wI (1 + wI (8 * (p : Int))) + (c : Int)) = ((flt p c : Nat) : Int) := by
  have e1 : wI (8 * (p : Int)) = ((8 * p : Nat) : Int) := by rw [wI_id (by omega) (by omega)]; omega
  have e2 : wI (1 + ((8 * p : Nat) : Int)) = ((1 + 8 * p : Nat) : Int) := wI_1 (by omega)
  rw [e1, e2, wI_add2 (by omega)]
  rfl
theorem e_fail {p c : Nat} {s : kM} (hp : p ≤ 1000) (hc : c ≤ 10) (h : s 1 2 = (p : Int)) : f_Tape_fail c s = some (if s 1 3 = 0 then gU s 1 3 ((flt p c : Nat) : Int) else s) := by
  unfold f_Tape_fail
  rw [h, flt_w hp hc, gLet_eq]
  split <;> rfl
theorem e_M_fails {p c : Nat} {s : kM} (hp : p ≤ 1000) (hc : c ≤ 10) : f_M_fails c p s = some (if s 85 23 = 0 then gU s 85 23 ((flt p c : Nat) : Int) else s) := by
  unfold f_M_fails f_M_fails_14
  rw [flt_w hp hc, gLet_eq, gLet_eq, gU_id rfl]
  split <;> rfl
/-- the number that stands behind blanks -/
theorem e_seenNumber {T : Nat → Int} (hT : TB T) {L p m : Nat} {s : kM} (h : KTp T L p s) (hf : s 1 3 = 0) : f_Tape_seenNumber m s = some (if dgt T L (bl T L p) = true then (if drn T L (bl T L p) ≤ 5 ∧ val T L (bl T L p) ≤ m then (((val T L (bl T L p) : Nat) : Int), gU s 1 2 ((bl T L p : Nat) : Int)) else (-1, gU (gU s 1 2 ((bl T L p : Nat) : Int)) 1 3 ((flt (bl T L p) 1 : Nat) : Int))) else (-1, gU (gU s 1 2 ((bl T L p : Nat) : Int)) 1 3 ((flt (bl T L p) 0 : Nat) : Int))) := by
  have hb := (bl_le (T := T) h.2.1).2
  have h0 := h.1
  unfold f_Tape_seenNumber
  rw [e_seesNumber hT h, Option.bind_some]
  have hq := KTp_u h hb
  generalize bl T L p = q at hb hq ⊢
  obtain ⟨G, hG⟩ : ∃ G, G = gU s 1 2 (q : Int) := ⟨_, rfl⟩
  rw [← hG] at hq ⊢
  have hfG : G 1 3 = 0 := by rw [hG, gUo _ _ _ (by decide)]; exact hf
  clear hG
  by_cases hd : dgt T L q = true
  · rw [if_pos hd, if_pos hd]
    dsimp only
    rw [if_neg (by decide), e_digitsHere hq, Option.bind_some]
    obtain ⟨-, -, h2, h3, h4⟩ := hq
    have hle := drn_le T L (L - q) q rfl
    obtain ⟨n1, n2⟩ := n5_le T L q
    have n3 : n5 T L q = drn T L q ∨ n5 T L q = 5 := by unfold n5 mi; split <;> omega
    have hv := val_lt T L q
    have at45 : f_Tape_seenNumber_45 m ((drn T L q : Nat) : Int) ((val T L q : Nat) : Int) G = some (if drn T L q ≤ 5 ∧ val T L q ≤ m then (((val T L q : Nat) : Int), G) else (-1, gU G 1 3 ((flt q 1 : Nat) : Int))) := by
      have at51 : f_Tape_seenNumber_51 G = some (-1, gU G 1 3 ((flt q 1 : Nat) : Int)) := by
        unfold f_Tape_seenNumber_51
        have := e_fail (p := q) (c := 1) (s := G) (by omega) (by omega) h3
        rw [show ((1 : Nat) : Int) = 1 from rfl] at this
        rw [this, if_pos hfG, Option.bind_some]
      unfold f_Tape_seenNumber_45
      rw [at51]
      by_cases c1 : 5 < drn T L q
      · rw [if_pos (by omega), if_neg (fun z => by omega)]
      · rw [if_neg (by omega)]
        by_cases c2 : val T L q ≤ m
        · rw [if_pos (by omega), if_pos ⟨by omega, c2⟩]
        · rw [if_neg (by omega), if_neg (fun z => c2 z.2)]
    unfold f_Tape_seenNumber_16
    rw [h3]
    apply wp_eq
    refine wp_for (n5 T L q) (fun i x => x.1 = ((nv T q i : Nat) : Int) ∧ x.2 = ((q + i : Nat) : Int)) 0 _ (by omega) (by omega) (by exact ⟨rfl, rfl⟩) ?_ ?_
    · rintro i ⟨y1, y2⟩ _ hi ⟨rfl, rfl⟩
      obtain ⟨l1, l2, l3⟩ := of_decide_eq_true (drn_at (T := T) (L := L) i q (by omega))
      have hb2 := nv_5 (T := T) (L := L) (p := q) (n := i) (by omega) (by omega)
      have e1 : wI (10 * ((nv T q i : Nat) : Int)) = ((10 * nv T q i : Nat) : Int) := by rw [wI_id (by omega) (by omega)]; omega
      have e2 : wI (((10 * nv T q i : Nat) : Int) + T (q + i)) = ((10 * nv T q i : Nat) : Int) + T (q + i) := wI_id (by omega) (by omega)
      have e3 : wI (((10 * nv T q i : Nat) : Int) + T (q + i) - 48) = ((nv T q (i + 1) : Nat) : Int) := by
        rw [wI_id (by omega) (by omega), nv_s]
        omega
      dsimp only
      unfold f_Tape_seenNumber_16b
      rw [h3, h2, wI_add2 (by omega), if_neg (by omega), show (5 : Int) = ((5 : Nat) : Int) from rfl, wI_add2 (by omega), if_neg (by omega), if_neg (by omega), gI_n (show q + i < 400 by omega), Option.bind_some, h4, e1, e2, e3, wI_s (by clear e1 e2 e3; omega), wp_some, gE_l]
      exact ⟨rfl, rfl⟩
    · rintro ⟨y1, y2⟩ ⟨rfl, rfl⟩
      dsimp only
      unfold f_Tape_seenNumber_16b
      have hval : nv T q (n5 T L q) = val T L q := rfl
      rw [h3, h2, wI_add2 (by omega), show (5 : Int) = ((5 : Nat) : Int) from rfl, wI_add2 (by omega), hval, at45, Option.map_some]
      by_cases c1 : drn T L q ≤ n5 T L q
      · rw [if_pos (by omega), wp_some, gE_r]
      · rw [if_neg (by omega), if_pos (by omega), wp_some, gE_r]
  · rw [if_neg hd, if_neg hd]
    dsimp only
    have := e_fail (p := q) (c := 0) (s := G) (by omega) (by omega) hq.2.2.2.1
    rw [show ((0 : Nat) : Int) = 0 from rfl] at this
    rw [if_pos rfl, this, if_pos hfG, Option.bind_some]
theorem e_skipNumber {T : Nat → Int} {L p : Nat} {s : kM} (h : KTp T L p s) : f_Tape_skipNumber s = some (gU s 1 2 ((p + drn T L p : Nat) : Int)) := by
  have hle := drn_le T L (L - p) p rfl
  unfold f_Tape_skipNumber
  rw [e_digitsHere h, Option.bind_some, h.2.2.2.1, wI_add2 (by have := h.1; have := h.2.1; omega), gLet_eq]
theorem e_takeSign {T : Nat → Int} (hT : TB T) {L p : Nat} {s : kM} (h : KTp T L p s) {c : Nat} (hc : c < 128) : f_Tape_takeSign c s = some (if bl T L p < L ∧ T (bl T L p) = (c : Int) then (1, gU s 1 2 ((bl T L p + 1 : Nat) : Int)) else (0, gU s 1 2 ((bl T L p : Nat) : Int))) := by
  have hb := (bl_le (T := T) h.2.1).2
  have h0 := h.1
  have hs := sgn_eq hT (L := L) (p := bl T L p) (c := (c : Int)) (by omega) (by omega)
  unfold f_Tape_takeSign
  rw [e_look h, Option.bind_some]
  dsimp only
  by_cases hc : bl T L p < L ∧ T (bl T L p) = (c : Int)
  · rw [if_pos (hs.mpr hc), if_pos hc, gUs, wI_s (by omega), gLet_eq, gU_gU]
  · rw [if_neg (fun z => hc (hs.mp z)), if_neg hc]
theorem e_M_isDigit {T : Nat → Int} (hT : TB T) {L p : Nat} {s : kM} (h : MTp T L p s) : f_M_isDigit s = some (if dgt T L p = true then 1 else 0) := by
  unfold f_M_isDigit
  rw [e_M_sign h, Option.bind_some, e_M_in, Option.bind_some]
  have := hT p
  unfold sgn dgt
  by_cases hq : p < L
  · rw [if_pos hq, a255 this]
    by_cases h0 : T p < 0
    · rw [if_pos h0, if_neg (by omega), if_neg (fun z => by have := of_decide_eq_true z; omega)]
      rfl
    · rw [if_neg h0]
      by_cases c1 : 48 ≤ T p ∧ T p ≤ 57
      · rw [if_pos c1, if_pos (decide_eq_true ⟨hq, c1.1, c1.2⟩)]
        rfl
      · rw [if_neg c1, if_neg (fun z => c1 (of_decide_eq_true z).2)]
        rfl
  · rw [if_neg hq, if_neg (by decide), if_neg (fun z => hq (of_decide_eq_true z).1)]
    rfl
/-- the reference's number, behind blanks; it goes on behind it -/
theorem e_M_digits {T : Nat → Int} (hT : TB T) {L p m : Nat} {s : kM} (h : MTp T L p s) (hf : s 85 23 = 0) (hm : m ≤ 99999) : f_M_digits m s = some (if dgt T L p = true then (((val T L p : Nat) : Int), if drn T L p ≤ 5 ∧ val T L p ≤ m then gU s 85 22 ((p + drn T L p : Nat) : Int) else gU (gU s 85 22 ((p + drn T L p : Nat) : Int)) 85 23 ((flt p 1 : Nat) : Int)) else (0, gU s 85 23 ((flt p 0 : Nat) : Int))) := by
  unfold f_M_digits
  rw [e_M_isDigit hT h, Option.bind_some]
  by_cases hd : dgt T L p = true
  · have hpL := (of_decide_eq_true hd).1
    have h0 := h.1.1
    have hle := drn_le T L (L - p) p rfl
    rw [if_pos hd, if_neg (by decide), if_pos hd, h.2.2.1]
    unfold f_M_digits_15
    apply wp_eq
    refine wp_for (drn T L p) (fun i x => x.1 = ((nv T p (mi i 5) : Nat) : Int) ∧ x.2 = gU s 85 22 ((p + i : Nat) : Int)) 0 _ (by omega) (by omega) (by exact ⟨rfl, (gU_id h.2.2.1).symm⟩) ?_ ?_
    · rintro i ⟨y1, y2⟩ _ hi ⟨rfl, rfl⟩
      have hdi := drn_at (T := T) (L := L) i p hi
      obtain ⟨l1, l2, l3⟩ := of_decide_eq_true hdi
      have hMi := MTp_u (q := p + i) h (by omega)
      have hsg : sgn T L (p + i) = T (p + i) := by
        unfold sgn
        rw [if_pos l1, a255 (hT _), if_neg (by omega)]
      dsimp only
      unfold f_M_digits_15b f_M_digits_34
      rw [e_M_isDigit hT hMi, Option.bind_some, if_pos hdi, if_neg (by decide), gUs, wI_sub2 (by omega) (by omega), show p + i - p = i by omega]
      by_cases c5 : 5 ≤ i
      · rw [if_pos (by omega), gLet_eq, wI_s (by omega), wp_some, gE_l, gU_gU]
        have e1 : mi i 5 = 5 := by unfold mi; split <;> omega
        have e2 : mi (i + 1) 5 = 5 := by unfold mi; split <;> omega
        rw [e1, e2]
        exact ⟨rfl, rfl⟩
      · have e1 : mi i 5 = i := by unfold mi; split <;> omega
        have e2 : mi (i + 1) 5 = i + 1 := by unfold mi; split <;> omega
        have hb2 := nv_5 (T := T) (L := L) (p := p) (n := i) (by omega) (by omega)
        have w1 : wI (10 * ((nv T p i : Nat) : Int)) = ((10 * nv T p i : Nat) : Int) := by rw [wI_id (by omega) (by omega)]; omega
        have w2 : wI (((10 * nv T p i : Nat) : Int) + T (p + i)) = ((10 * nv T p i : Nat) : Int) + T (p + i) := wI_id (by omega) (by omega)
        have w3 : wI (((10 * nv T p i : Nat) : Int) + T (p + i) - 48) = ((nv T p (i + 1) : Nat) : Int) := by
          rw [wI_id (by omega) (by omega), nv_s]
          omega
        rw [if_neg (by omega), e_M_sign hMi, Option.bind_some, hsg, e1, w1, w2, w3, gLet_eq, wI_s (by clear w1 w2 w3; omega), wp_some, gE_l, gU_gU, e2]
        exact ⟨rfl, rfl⟩
    · rintro ⟨y1, y2⟩ ⟨rfl, rfl⟩
      have he := drn_end (T := T) (L := L) (L - p) p rfl
      have hMi := MTp_u (q := p + drn T L p) h (by omega)
      have hval : nv T p (mi (drn T L p) 5) = val T L p := rfl
      have hv := val_lt T L p
      have hfG : gU s 85 22 ((p + drn T L p : Nat) : Int) 85 23 = 0 := by rw [gUo _ _ _ (by decide)]; exact hf
      dsimp only
      unfold f_M_digits_15b f_M_digits_51
      rw [e_M_isDigit hT hMi, Option.bind_some, if_neg he, if_pos rfl, gUs, wI_sub2 (by omega) (by omega), show p + drn T L p - p = drn T L p by omega, hval]
      have hfl := e_M_fails (p := p) (c := 1) (s := gU s 85 22 ((p + drn T L p : Nat) : Int)) (by omega) (by omega)
      rw [if_pos hfG, show ((1 : Nat) : Int) = 1 from rfl] at hfl
      rw [hfl, Option.bind_some, Option.map_some]
      by_cases c1 : 5 < drn T L p
      · rw [if_pos (by omega), wp_some, gE_r, if_neg (fun z => by omega)]
      · rw [if_neg (by omega)]
        by_cases c2 : val T L p ≤ m
        · rw [if_pos (by omega), wp_some, gE_r, if_pos ⟨by omega, c2⟩]
        · rw [if_neg (by omega), wp_some, gE_r, if_neg (fun z => c2 z.2)]
  · have hfl := e_M_fails (p := p) (c := 0) (s := s) (by have := h.1.2; omega) (by omega)
    rw [if_pos hf, show ((0 : Nat) : Int) = 0 from rfl] at hfl
    rw [if_neg hd, if_pos rfl, if_neg hd, h.2.2.1, hfl, Option.bind_some]
