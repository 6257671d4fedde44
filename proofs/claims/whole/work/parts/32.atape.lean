/-! THE TAPE, as both sides read it -/
def blF (T : Nat → Int) (L : Nat) : Nat → Nat → Nat
  | 0, p => p
  | n + 1, p => if T p = 32 then blF T L n (p + 1) else p
/-- behind blanks -/
def bl (T : Nat → Int) (L p : Nat) : Nat := blF T L (L - p) p
theorem bl_go {T : Nat → Int} {L p : Nat} (h : p < L) (h2 : T p = 32) : bl T L p = bl T L (p + 1) := by
  unfold bl
  rw [show L - p = (L - (p + 1)) + 1 by omega]
  show (if T p = 32 then blF T L (L - (p + 1)) (p + 1) else p) = _
  rw [if_pos h2]
theorem bl_no {T : Nat → Int} {L p : Nat} (h : ¬ (p < L ∧ T p = 32)) : bl T L p = p := by
  unfold bl
  by_cases hp : p < L
  · rw [show L - p = (L - (p + 1)) + 1 by omega]
    show (if T p = 32 then blF T L (L - (p + 1)) (p + 1) else p) = _
    rw [if_neg (fun q => h ⟨hp, q⟩)]
  · rw [show L - p = 0 by omega]
    rfl
theorem blF_le (T : Nat → Int) (L : Nat) : ∀ n p, p ≤ blF T L n p ∧ blF T L n p ≤ p + n
  | 0, p => ⟨Nat.le_refl _, Nat.le_refl _⟩
  | n + 1, p => by
    have ih := blF_le T L n (p + 1)
    show p ≤ (if T p = 32 then blF T L n (p + 1) else p) ∧ (if T p = 32 then blF T L n (p + 1) else p) ≤ _
    split <;> omega
theorem bl_le {T : Nat → Int} {L p : Nat} (h : p ≤ L) : p ≤ bl T L p ∧ bl T L p ≤ L := by
  have := blF_le T L (L - p) p
  unfold bl
  omega
theorem bl_bl {T : Nat → Int} {L : Nat} : ∀ n p, L - p = n → bl T L (bl T L p) = bl T L p
  | 0, p, h => by
    rw [bl_no (p := p) (fun q => by omega)]
    exact bl_no (fun q => by omega)
  | n + 1, p, h => by
    by_cases h2 : T p = 32
    · rw [bl_go (p := p) (by omega) h2]
      exact bl_bl n (p + 1) (by omega)
    · rw [bl_no (p := p) (fun q => h2 q.2), bl_no (p := p) (fun q => h2 q.2)]
def sgn (T : Nat → Int) (L p : Nat) : Int := if p < L then kand (T p) 255 else -1
theorem gU_id {s : kM} {a i : Nat} {x : Int} (h : s a i = x) : gU s a i x = s := by
  funext b
  by_cases hb : b = a
  · subst hb
    rw [gU_s]
    funext j
    unfold kup
    split
    · rename_i hj
      rw [hj, h]
    · rfl
  · rw [gU_n _ _ _ hb]
theorem gU_gU (s : kM) (a i : Nat) (x y : Int) : gU (gU s a i x) a i y = gU s a i y := by
  funext b
  by_cases hb : b = a
  · subst hb
    rw [gU_s, gU_s, gU_s]
    funext j
    unfold kup
    split <;> rfl
  · rw [gU_n _ _ _ hb, gU_n _ _ _ hb, gU_n _ _ _ hb]
/-- the class's tape: bytes, length; the reference's -/
def KTp (T : Nat → Int) (L p : Nat) (s : kM) : Prop := L ≤ 400 ∧ p ≤ L ∧ s 1 1 = (L : Int) ∧ s 1 2 = (p : Int) ∧ s 2 = T
def MTp (T : Nat → Int) (L p : Nat) (s : kM) : Prop := (L ≤ 400 ∧ p ≤ 1000) ∧ s 85 21 = (L : Int) ∧ s 85 22 = (p : Int) ∧ s 105 = T
theorem KTp_u {T : Nat → Int} {L p q : Nat} {s : kM} (h : KTp T L p s) (hq : q ≤ L) : KTp T L q (gU s 1 2 (q : Int)) := ⟨h.1, hq, by rw [gUo _ _ _ (by decide)]; exact h.2.2.1, gUs _ _ _ _, by rw [gU_n _ _ _ (by decide)]; exact h.2.2.2.2⟩
theorem MTp_u {T : Nat → Int} {L p q : Nat} {s : kM} (h : MTp T L p s) (hq : q ≤ 1000) : MTp T L q (gU s 85 22 (q : Int)) := ⟨⟨h.1.1, hq⟩, by rw [gUo _ _ _ (by decide)]; exact h.2.1, gUs _ _ _ _, by rw [gU_n _ _ _ (by decide)]; exact h.2.2.2⟩
theorem e_look {T : Nat → Int} {L p : Nat} {s : kM} (h : KTp T L p s) : f_Tape_look s = some (sgn T L (bl T L p), gU s 1 2 ((bl T L p : Nat) : Int)) := by
  obtain ⟨h0, h1, h2, h3, h4⟩ := h
  obtain ⟨B, hB⟩ : ∃ B, B = bl T L p := ⟨_, rfl⟩
  have at19 : ∀ q : Nat, q = B → q ≤ L → f_Tape_look_19 (gU s 1 2 (q : Int)) = some (sgn T L B, gU s 1 2 (B : Int)) := by
    intro q hq hl
    subst hq
    unfold f_Tape_look_19 sgn
    rw [gUo _ _ _ (by decide), gUs, h2]
    by_cases hlt : q < L
    · rw [if_neg (by omega), if_pos hlt, gI_n (show q < 400 by omega), Option.bind_some, gU_n _ _ _ (by decide), h4]
    · rw [if_pos (by omega), if_neg hlt]
  rw [← hB]
  unfold f_Tape_look f_Tape_look_0
  apply wp_eq
  refine wp_for L (fun q x => x = gU s 1 2 (q : Int) ∧ bl T L q = B) p s h1 (by omega) (by exact ⟨(gU_id h3).symm, hB.symm⟩) ?_ ?_
  · rintro q x hq1 hq2 ⟨rfl, hb⟩
    unfold f_Tape_look_0b
    rw [gUo _ _ _ (by decide), gUs, h2, if_neg (by omega), gI_n (show q < 400 by omega), Option.bind_some, gU_n _ _ _ (show 2 ≠ 1 by decide), h4]
    by_cases h32 : T q = 32
    · rw [if_pos h32, gLet_eq, wp_some, gE_l, wI_s (by omega), gU_gU]
      exact ⟨rfl, by rw [← hb, bl_go hq2 h32]⟩
    · have : q = B := by rw [← hb, bl_no (fun z => h32 z.2)]
      rw [if_neg h32, at19 q this (by omega), Option.map_some, wp_some, gE_r]
  · rintro x ⟨rfl, hb⟩
    unfold f_Tape_look_0b
    have : L = B := by rw [← hb, bl_no (fun z => by omega)]
    rw [gUo _ _ _ (by decide), gUs, h2, if_pos (Int.le_refl _), at19 L this (by omega), Option.map_some, wp_some, gE_r]
theorem e_M_sign {T : Nat → Int} {L p : Nat} {s : kM} (h : MTp T L p s) : f_M_sign s = some (sgn T L p) := by
  obtain ⟨h0, h2, h3, h4⟩ := h
  unfold f_M_sign sgn
  rw [h2, h3]
  by_cases hlt : p < L
  · rw [if_neg (by omega), if_pos hlt, gI_n (show p < 400 by omega), Option.bind_some, h4]
  · rw [if_pos (by omega), if_neg hlt]
theorem a255_all : ∀ x : Fin 256, (kand ((x.val : Int) - 128) 255 = if x.val < 128 then (x.val : Int) + 128 else (x.val : Int) - 128) := by decide +kernel
theorem a255 {x : Int} (h : -128 ≤ x ∧ x ≤ 127) : kand x 255 = if x < 0 then x + 256 else x := by
  have := a255_all ⟨(x + 128).toNat, by omega⟩
  dsimp only at this
  rw [show (((x + 128).toNat : Nat) : Int) - 128 = x by omega] at this
  rw [this]
  by_cases hx : x < 0
  · rw [if_pos (by omega), if_pos hx]
    omega
  · rw [if_neg (by omega), if_neg hx]
def TB (T : Nat → Int) : Prop := ∀ j, -128 ≤ T j ∧ T j ≤ 127
theorem sgn_eq {T : Nat → Int} (hT : TB T) {L p : Nat} {c : Int} (hc : 0 ≤ c) (hc2 : c < 128) : sgn T L p = c ↔ p < L ∧ T p = c := by
  have := hT p
  unfold sgn
  by_cases hp : p < L
  · rw [if_pos hp, a255 this]
    by_cases h0 : T p < 0
    · rw [if_pos h0]
      constructor
      · intro h; omega
      · intro h; omega
    · rw [if_neg h0]
      exact ⟨fun h => ⟨hp, h⟩, fun h => h.2⟩
  · rw [if_neg hp]
    constructor
    · intro h; omega
    · intro h; omega
theorem e_M_blanks {T : Nat → Int} (hT : TB T) {L p : Nat} {s : kM} (h : MTp T L p s) : f_M_blanks s = some (gU s 85 22 ((bl T L p : Nat) : Int)) := by
  have h' := h
  obtain ⟨h0, h2, h3, h4⟩ := h'
  obtain ⟨B, hB⟩ : ∃ B, B = bl T L p := ⟨_, rfl⟩
  rw [← hB]
  unfold f_M_blanks f_M_blanks_0
  by_cases hpL : p ≤ L
  · apply wp_eq
    refine wp_for L (fun q x => x = gU s 85 22 (q : Int) ∧ bl T L q = B) p s hpL (by omega) (by exact ⟨(gU_id h3).symm, hB.symm⟩) ?_ ?_
    · rintro q x hq1 hq2 ⟨rfl, hb⟩
      have hs := sgn_eq hT (L := L) (p := q) (c := 32) (by decide) (by decide)
      unfold f_M_blanks_0b
      rw [e_M_sign (MTp_u (q := q) h (by omega)), Option.bind_some]
      by_cases h32 : T q = 32
      · rw [if_pos (hs.mpr ⟨hq2, h32⟩), gLet_eq, wp_some, gE_l, gUs, wI_s (by omega), gU_gU]
        exact ⟨rfl, by rw [← hb, bl_go hq2 h32]⟩
      · have : q = B := by rw [← hb, bl_no (fun z => h32 z.2)]
        rw [if_neg (fun z => h32 (hs.mp z).2), wp_some, gE_r, this]
    · rintro x ⟨rfl, hb⟩
      have hs := sgn_eq hT (L := L) (p := L) (c := 32) (by decide) (by decide)
      have : L = B := by rw [← hb, bl_no (fun z => by omega)]
      unfold f_M_blanks_0b
      rw [e_M_sign (MTp_u (q := L) h (by omega)), Option.bind_some, if_neg (fun z => by have := (hs.mp z).1; omega), wp_some, gE_r, this]
  · have hs := sgn_eq hT (L := L) (p := p) (c := 32) (by decide) (by decide)
    have : p = B := by rw [hB, bl_no (fun z => by omega)]
    refine gLr (n := 4095) ?_
    show f_M_blanks_0b s = _
    unfold f_M_blanks_0b
    rw [e_M_sign h, Option.bind_some, if_neg (fun z => by have := (hs.mp z).1; omega), ← this, gU_id h3]
/-! letters -/
def ltr (T : Nat → Int) (L p : Nat) : Bool := decide (p < L ∧ 97 ≤ T p ∧ T p ≤ 122)
def lrF (T : Nat → Int) (L : Nat) : Nat → Nat → Nat
  | 0, _ => 0
  | n + 1, p => if ltr T L p = true then lrF T L n (p + 1) + 1 else 0
def lr (T : Nat → Int) (L p : Nat) : Nat := lrF T L (L - p) p
theorem lr_go {T : Nat → Int} {L p : Nat} (h : ltr T L p = true) : lr T L p = lr T L (p + 1) + 1 := by
  have hp := (of_decide_eq_true h).1
  unfold lr
  rw [show L - p = (L - (p + 1)) + 1 by omega]
  show (if ltr T L p = true then lrF T L (L - (p + 1)) (p + 1) + 1 else 0) = _
  rw [if_pos h]
theorem lr_no {T : Nat → Int} {L p : Nat} (h : ¬ ltr T L p = true) : lr T L p = 0 := by
  unfold lr
  by_cases hp : p < L
  · rw [show L - p = (L - (p + 1)) + 1 by omega]
    show (if ltr T L p = true then lrF T L (L - (p + 1)) (p + 1) + 1 else 0) = _
    rw [if_neg h]
  · rw [show L - p = 0 by omega]
    rfl
theorem lr_le (T : Nat → Int) (L : Nat) : ∀ n p, L - p = n → lr T L p ≤ n
  | 0, p, h => by rw [lr_no (fun q => by have := (of_decide_eq_true q).1; omega)]; omega
  | n + 1, p, h => by
    by_cases hl : ltr T L p = true
    · have := lr_le T L n (p + 1) (by omega)
      rw [lr_go hl]
      omega
    · rw [lr_no hl]
      omega
theorem lr_at {T : Nat → Int} {L : Nat} : ∀ i p, i < lr T L p → ltr T L (p + i) = true
  | 0, p, h => by
    by_cases hl : ltr T L p = true
    · exact hl
    · rw [lr_no hl] at h; omega
  | i + 1, p, h => by
    by_cases hl : ltr T L p = true
    · rw [lr_go hl] at h
      have := lr_at (T := T) (L := L) i (p + 1) (by omega)
      rw [show p + (i + 1) = p + 1 + i by omega]
      exact this
    · rw [lr_no hl] at h; omega
theorem lr_end {T : Nat → Int} {L : Nat} : ∀ n p, L - p = n → ¬ ltr T L (p + lr T L p) = true
  | 0, p, h => by
    have hl : ¬ ltr T L p = true := fun q => by have := (of_decide_eq_true q).1; omega
    rw [lr_no hl]
    exact hl
  | n + 1, p, h => by
    by_cases hl : ltr T L p = true
    · have := lr_end (T := T) (L := L) n (p + 1) (by omega)
      rw [lr_go hl, show p + (lr T L (p + 1) + 1) = p + 1 + lr T L (p + 1) by omega]
      exact this
    · rw [lr_no hl]
      exact hl
/-- a word stands here -/
def smw (T : Nat → Int) (p : Nat) (W : List Int) : Nat → Bool
  | 0 => true
  | n + 1 => smw T p W n && decide (n < W.length ∧ T (p + n) = W.getD n 0)
def std (T : Nat → Int) (L p : Nat) (W : List Int) : Bool := decide (lr T L p = W.length) && smw T p W W.length
theorem smw_s {T : Nat → Int} {p : Nat} {W : List Int} {n : Nat} : smw T p W (n + 1) = true ↔ smw T p W n = true ∧ n < W.length ∧ T (p + n) = W.getD n 0 := by
  show (smw T p W n && decide (n < W.length ∧ T (p + n) = W.getD n 0)) = true ↔ _
  rw [Bool.and_eq_true, decide_eq_true_eq]
theorem smw_le {T : Nat → Int} {p : Nat} {W : List Int} {m : Nat} : ∀ n, m ≤ n → smw T p W n = true → smw T p W m = true
  | 0, h, q => by rw [show m = 0 by omega]; exact q
  | n + 1, h, q => by
    by_cases hm : m = n + 1
    · rw [hm]; exact q
    · exact smw_le n (by omega) (smw_s.mp q).1
theorem std_iff {T : Nat → Int} {L p : Nat} {W : List Int} : std T L p W = true ↔ lr T L p = W.length ∧ smw T p W W.length = true := by
  unfold std
  rw [Bool.and_eq_true, decide_eq_true_eq]
theorem e_sees7 {T : Nat → Int} {L p : Nat} {s : kM} (h : KTp T L p s) {w : Nat} (hw : w < 30) : f_Tape_seesWord_7 w 0 1 s = some (if std T L p (kstrs.getD w []) = true then 1 else 0, s) := by
  obtain ⟨h0, h1, h2, h3, h4⟩ := h
  have hJ : gJ w = some () := by unfold gJ; rw [if_pos hw]
  generalize hW : kstrs.getD w [] = W
  have hle := lr_le T L (L - p) p rfl
  have at55 : f_Tape_seesWord_55 w ((lr T L p : Nat) : Int) (if smw T p W (lr T L p) = true then 1 else 0) s = some (if std T L p W = true then 1 else 0, s) := by
    unfold f_Tape_seesWord_55
    by_cases c1 : smw T p W (lr T L p) = true
    · rw [if_pos c1, if_neg (by decide), hJ, Option.bind_some, hW]
      by_cases c2 : lr T L p = W.length
      · rw [if_pos (by omega), if_pos (std_iff.mpr ⟨c2, by rw [← c2]; exact c1⟩)]
      · rw [if_neg (by omega), if_neg (fun q => c2 (std_iff.mp q).1)]
    · rw [if_neg c1, if_pos rfl, if_neg (fun q => c1 (by rw [(std_iff.mp q).1]; exact (std_iff.mp q).2))]
  unfold f_Tape_seesWord_7
  apply wp_eq
  refine wp_for (lr T L p) (fun i x => x.1 = (i : Int) ∧ x.2 = if smw T p W i = true then 1 else 0) 0 _ (by omega) (by omega) (by exact ⟨rfl, rfl⟩) ?_ ?_
  · rintro i ⟨y1, y2⟩ _ hi ⟨rfl, rfl⟩
    obtain ⟨l1, l2, l3⟩ := of_decide_eq_true (lr_at i p hi)
    have ip : gI 400 ((p + i : Nat) : Int) = some (p + i) := gI_n (by omega)
    dsimp only
    unfold f_Tape_seesWord_7b f_Tape_seesWord_51 f_Tape_seesWord_52
    rw [h3, h2, wI_add2 (by omega), if_neg (by omega), ip, Option.bind_some, h4, if_neg (by omega), Option.bind_some, if_neg (by omega), wI_s (by omega)]
    by_cases c1 : smw T p W i = true
    · rw [if_pos c1, if_neg (by decide), hJ, Option.bind_some, hW]
      by_cases c2 : i < W.length
      · rw [if_neg (by omega), Option.bind_some, Option.bind_some, gI_n c2, Option.bind_some]
        by_cases c3 : T (p + i) = W.getD i 0
        · rw [if_pos c3, wp_some, gE_l]
          refine ⟨rfl, ?_⟩
          dsimp only
          rw [if_pos (smw_s.mpr ⟨c1, c2, c3⟩)]
        · rw [if_neg c3, wp_some, gE_l]
          refine ⟨rfl, ?_⟩
          dsimp only
          rw [if_neg (fun q => c3 (smw_s.mp q).2.2)]
      · rw [if_pos (by omega), wp_some, gE_l]
        refine ⟨rfl, ?_⟩
        dsimp only
        rw [if_neg (fun q => c2 (smw_s.mp q).2.1)]
    · rw [if_neg c1, if_pos rfl, wp_some, gE_l]
      refine ⟨rfl, ?_⟩
      dsimp only
      rw [if_neg (fun q => c1 (smw_s.mp q).1)]
  · rintro ⟨y1, y2⟩ ⟨rfl, rfl⟩
    have he := lr_end (T := T) (L := L) (L - p) p rfl
    dsimp only
    unfold f_Tape_seesWord_7b
    rw [h3, h2, wI_add2 (by omega), at55, Option.map_some]
    by_cases c1 : p + lr T L p < L
    · rw [if_neg (by omega), gI_n (show p + lr T L p < 400 by omega), Option.bind_some, h4]
      by_cases c2 : T (p + lr T L p) < 97
      · rw [if_pos c2, wp_some, gE_r]
      · rw [if_neg c2, Option.bind_some]
        by_cases c3 : 122 < T (p + lr T L p)
        · rw [if_pos c3, wp_some, gE_r]
        · exact absurd (decide_eq_true ⟨c1, by omega, by omega⟩) he
    · rw [if_pos (by omega), wp_some, gE_r]
theorem e_seesWord {T : Nat → Int} {L p : Nat} {s : kM} (h : KTp T L p s) {w : Nat} (hw : w < 30) : f_Tape_seesWord w s = some (if std T L (bl T L p) (kstrs.getD w []) = true then 1 else 0, gU s 1 2 ((bl T L p : Nat) : Int)) := by
  unfold f_Tape_seesWord
  rw [e_look h, Option.bind_some]
  exact e_sees7 (KTp_u h (bl_le h.2.1).2) hw
theorem e_takeWord {T : Nat → Int} {L p : Nat} {s : kM} (h : KTp T L p s) {w : Nat} (hw : w < 30) : f_Tape_takeWord w s = some (if std T L (bl T L p) (kstrs.getD w []) = true then (1, gU s 1 2 ((bl T L p + (kstrs.getD w []).length : Nat) : Int)) else (0, gU s 1 2 ((bl T L p : Nat) : Int))) := by
  have hJ : gJ w = some () := by unfold gJ; rw [if_pos hw]
  have hb := (bl_le (T := T) h.2.1).2
  have hl := lr_le T L (L - bl T L p) (bl T L p) rfl
  have h0 := h.1
  unfold f_Tape_takeWord
  rw [e_seesWord h hw, Option.bind_some]
  by_cases c : std T L (bl T L p) (kstrs.getD w []) = true
  · have hlen := (std_iff.mp c).1
    rw [if_pos c, if_pos c]
    dsimp only
    rw [if_neg (by decide), hJ, Option.bind_some, gUs, wI_add2 (by omega), gLet_eq, gU_gU]
  · rw [if_neg c, if_neg c, if_pos rfl]
theorem std_len {T : Nat → Int} {L p : Nat} {W : List Int} (hp : p ≤ L) (h : std T L p W = true) : p + W.length ≤ L := by
  have := lr_le T L (L - p) p rfl
  have := (std_iff.mp h).1
  omega
theorem e_M_stood {T : Nat → Int} {L p : Nat} {s : kM} (h : MTp T L p s) {w : Nat} (hw : w < 30) : f_M_stood w s = some (if std T L p (kstrs.getD w []) = true then 1 else 0) := by
  obtain ⟨h0, h2, h3, h4⟩ := h
  have hJ : gJ w = some () := by unfold gJ; rw [if_pos hw]
  generalize hW : kstrs.getD w [] = W
  have hle := lr_le T L (L - p) p rfl
  have at34 : ∀ y : Int, (y = if lr T L p = W.length then 1 else 0) → f_M_stood_34 w y 0 s = some (if std T L p W = true then 1 else 0) := by
    intro y hy
    unfold f_M_stood_34
    by_cases c0 : lr T L p = W.length
    · rw [if_pos c0] at hy
      subst hy
      apply wp_eq
      refine wp_for W.length (fun i x => x.2 = (i : Int) ∧ x.1 = if smw T p W i = true then 1 else 0) 0 _ (by omega) (by omega) (by exact ⟨rfl, rfl⟩) ?_ ?_
      · rintro i ⟨y1, y2⟩ _ hi ⟨rfl, rfl⟩
        obtain ⟨l1, l2, l3⟩ := of_decide_eq_true (lr_at (T := T) (L := L) i p (by omega))
        dsimp only
        unfold f_M_stood_34b f_M_stood_54
        rw [hJ, Option.bind_some, hW, if_neg (by omega)]
        by_cases c1 : smw T p W i = true
        · rw [if_pos c1, if_neg (by decide), h3, wI_add2 (by omega), gI_n (show p + i < 400 by omega), Option.bind_some, Option.bind_some, gI_n hi, Option.bind_some, h4, wI_s (by omega)]
          by_cases c3 : T (p + i) = W.getD i 0
          · rw [if_pos c3, wp_some, gE_l]
            refine ⟨rfl, ?_⟩
            dsimp only
            rw [if_pos (smw_s.mpr ⟨c1, hi, c3⟩)]
          · rw [if_neg c3, wp_some, gE_l]
            refine ⟨rfl, ?_⟩
            dsimp only
            rw [if_neg (fun q => c3 (smw_s.mp q).2.2)]
        · have : ¬ smw T p W W.length = true := fun q => c1 (smw_le _ (by omega) q)
          rw [if_neg c1, if_pos rfl, show gB 0 = some () from rfl, Option.bind_some, wp_some, gE_r, if_neg (fun q => this (std_iff.mp q).2)]
      · rintro ⟨y1, y2⟩ ⟨rfl, rfl⟩
        dsimp only
        unfold f_M_stood_34b
        rw [hJ, Option.bind_some, hW, if_pos (Int.le_refl _)]
        by_cases c1 : smw T p W W.length = true
        · rw [if_pos c1, show gB 1 = some () from rfl, Option.bind_some, wp_some, gE_r, if_pos (std_iff.mpr ⟨c0, c1⟩)]
        · rw [if_neg c1, show gB 0 = some () from rfl, Option.bind_some, wp_some, gE_r, if_neg (fun q => c1 (std_iff.mp q).2)]
    · rw [if_neg c0] at hy
      subst hy
      refine gLr (n := 4095) ?_
      show f_M_stood_34b w 0 0 s = _
      unfold f_M_stood_34b
      rw [hJ, Option.bind_some, hW, if_pos rfl, show gB 0 = some () from rfl, Option.bind_some, if_neg (fun q => c0 (std_iff.mp q).1)]
      split <;> rfl
  have at21 : f_M_stood_21 w ((p + lr T L p : Nat) : Int) s = some (if std T L p W = true then 1 else 0) := by
    unfold f_M_stood_21 f_M_stood_31
    rw [hJ, Option.bind_some, hW, h3, wI_sub2 (by omega) (by omega), show p + lr T L p - p = lr T L p by omega]
    by_cases c0 : lr T L p = W.length
    · rw [if_pos (by omega)]
      exact at34 1 (by rw [if_pos c0])
    · rw [if_neg (by omega)]
      exact at34 0 (by rw [if_neg c0])
  unfold f_M_stood f_M_stood_3
  rw [h3]
  apply wp_eq
  refine wp_for (lr T L p) (fun i x => x = ((p + i : Nat) : Int)) 0 _ (by omega) (by omega) (by exact rfl) ?_ ?_
  · rintro i y _ hi rfl
    obtain ⟨l1, l2, l3⟩ := of_decide_eq_true (lr_at (T := T) (L := L) i p hi)
    unfold f_M_stood_3b
    rw [h2, if_neg (by omega), gI_n (show p + i < 400 by omega), Option.bind_some, h4, if_neg (by omega), Option.bind_some, if_neg (by omega), wp_some, gE_l, wI_s (by omega)]
    rfl
  · rintro y rfl
    have he := lr_end (T := T) (L := L) (L - p) p rfl
    unfold f_M_stood_3b
    rw [h2, at21, Option.map_some]
    by_cases c1 : p + lr T L p < L
    · rw [if_neg (by omega), gI_n (show p + lr T L p < 400 by omega), Option.bind_some, h4]
      by_cases c2 : T (p + lr T L p) < 97
      · rw [if_pos c2, wp_some, gE_r]
      · rw [if_neg c2, Option.bind_some]
        by_cases c3 : 122 < T (p + lr T L p)
        · rw [if_pos c3, wp_some, gE_r]
        · exact absurd (decide_eq_true ⟨c1, by omega, by omega⟩) he
    · rw [if_pos (by omega), wp_some, gE_r]
