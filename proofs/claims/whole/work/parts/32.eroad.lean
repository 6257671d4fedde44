/-! roads, and the whole text -/
theorem kw_same : kstrs.getD 15 [] = kstrs.getD 0 [] ∧ kstrs.getD 16 [] = kstrs.getD 1 [] ∧ kstrs.getD 17 [] = kstrs.getD 2 [] ∧ (kstrs.getD 0 []).length = 4 ∧ (kstrs.getD 1 []).length = 1 ∧ (kstrs.getD 2 []).length = 1 := by decide +kernel
def WR : List Int := kstrs.getD 0 []
def WO : List Int := kstrs.getD 1 []
def WU : List Int := kstrs.getD 2 []
/-- the next pass of a road, if one is told -/
def pNx (T : Nat → Int) (L p : Nat) (A : zA) : Nat × Nat × zA := if std T L (bl T L p) WO = true then pPs T L 1 (bl T L p + 1) A else if std T L (bl T L p) WU = true then pPs T L 0 (bl T L p + 1) A else (bl T L p, 0, A)
def isw (T : Nat → Int) (L p : Nat) : Bool := std T L (bl T L p) WO || std T L (bl T L p) WU
def pLp (T : Nat → Int) (L : Nat) : Nat → Nat → zA → Nat × Nat × zA
  | 0, p, A => (p, 0, A)
  | n + 1, p, A => if isw T L p = true then (if (pNx T L p A).2.1 = 0 then pLp T L n (pNx T L p A).1 (pNx T L p A).2.2 else pNx T L p A) else (bl T L p, 0, A)
theorem pLp_s (T : Nat → Int) (L n p : Nat) (A : zA) : pLp T L (n + 1) p A = if isw T L p = true then (if (pNx T L p A).2.1 = 0 then pLp T L n (pNx T L p A).1 (pNx T L p A).2.2 else pNx T L p A) else (bl T L p, 0, A) := rfl
theorem pPs_F {T : Nat → Int} {L ov p : Nat} {A : zA} (hR : aR A = 2) : aF (pPs T L ov p A).2.2 = aF A := by
  have h0 : ∀ c, aF (app A c) = aF A := fun c => by
    show (if aR A ≤ 1 then aF A + 1 else aF A) = aF A
    rw [if_neg (by omega)]
  unfold pPs
  split
  · split
    · split
      · rfl
      · split
        · exact h0 _
        · split
          · exact h0 (2 * val T L (bl T L p) + 1)
          · split
            · exact h0 (2 * val T L (bl T L p) + 1)
            · rfl
    · rfl
  · rfl
theorem pNx_ok {T : Nat → Int} {L p : Nat} {A : zA} (h : PI A) (hp : p ≤ L) (hf : (pNx T L p A).2.1 = 0) (hw : isw T L p = true) : PI (pNx T L p A).2.2 ∧ (pNx T L p A).1 ≤ L ∧ aN (pNx T L p A).2.2 = aN A + 1 ∧ aR (pNx T L p A).2.2 = aR A ∧ (aR A = 2 → aF (pNx T L p A).2.2 = aF A) := by
  have hb := (bl_le (T := T) hp).2
  unfold pNx at hf ⊢
  by_cases c1 : std T L (bl T L p) WO = true
  · have hl := std_len hb c1
    have : (WO).length = 1 := kw_same.2.2.2.2.1
    rw [if_pos c1] at hf ⊢
    have := pPs_ok h (by omega) (by omega) hf
    exact ⟨this.1, this.2.1, this.2.2.1, this.2.2.2, fun hr => pPs_F hr⟩
  · rw [if_neg c1] at hf ⊢
    by_cases c2 : std T L (bl T L p) WU = true
    · have hl := std_len hb c2
      have : (WU).length = 1 := kw_same.2.2.2.2.2
      rw [if_pos c2] at hf ⊢
      have := pPs_ok h (by omega) (by omega) hf
      exact ⟨this.1, this.2.1, this.2.2.1, this.2.2.2, fun hr => pPs_F hr⟩
    · unfold isw at hw
      rw [Bool.eq_false_iff.mpr c1, Bool.eq_false_iff.mpr c2] at hw
      cases hw
theorem pLp_ok {T : Nat → Int} {L : Nat} : ∀ n p A, PI A → p ≤ L → 23 ≤ n + aN A → (pLp T L n p A).2.1 = 0 → PI (pLp T L n p A).2.2 ∧ (pLp T L n p A).1 ≤ L ∧ aR (pLp T L n p A).2.2 = aR A ∧ (aR A = 2 → aF (pLp T L n p A).2.2 = aF A)
  | 0, p, A, h, hp, hn, hf => by
    have := okB_n h.1
    omega
  | n + 1, p, A, h, hp, hn, hf => by
    rw [pLp_s] at hf ⊢
    by_cases c1 : isw T L p = true
    · rw [if_pos c1] at hf ⊢
      by_cases c2 : (pNx T L p A).2.1 = 0
      · rw [if_pos c2] at hf ⊢
        obtain ⟨x1, x2, x3, x4, x5⟩ := pNx_ok h hp c2 c1
        obtain ⟨y1, y2, y3, y4⟩ := pLp_ok n _ _ x1 x2 (by omega) hf
        exact ⟨y1, y2, by rw [y3, x4], fun hr => by rw [y4 (by omega), x5 hr]⟩
      · rw [if_neg c2] at hf
        exact absurd hf c2
    · rw [if_neg c1]
      exact ⟨h, (bl_le (T := T) hp).2, rfl, fun _ => rfl⟩
def pRoad (T : Nat → Int) (L p : Nat) (A : zA) : Nat × Nat × zA := if std T L (bl T L p) WR = true then (if aR A = 2 then (bl T L p, flt (bl T L p) 4, A) else pLp T L 23 (bl T L p + 4) (iRd A)) else (bl T L p, flt (bl T L p) 0, A)
theorem PI_iRd {A : zA} (h : PI A) (hR : aR A ≠ 2) : PI (iRd A) := by
  have := h.1.1
  refine ⟨⟨by show aR A + 1 ≤ 2; omega, h.1.2.1, h.1.2.2.1, h.1.2.2.2.1, h.1.2.2.2.2⟩, fun hr => ?_, h.2.2⟩
  have hr' : aR A + 1 ≤ 1 := hr
  exact h.2.1 (by omega)
theorem pRoad_ok {T : Nat → Int} {L p : Nat} {A : zA} (h : PI A) (hp : p ≤ L) (hf : (pRoad T L p A).2.1 = 0) : PI (pRoad T L p A).2.2 ∧ (pRoad T L p A).1 ≤ L ∧ aR (pRoad T L p A).2.2 = aR A + 1 ∧ aR A ≠ 2 := by
  have hb := (bl_le (T := T) hp).2
  unfold pRoad at hf ⊢
  by_cases c1 : std T L (bl T L p) WR = true
  · have hl := std_len hb c1
    have : (WR).length = 4 := kw_same.2.2.2.1
    rw [if_pos c1] at hf ⊢
    by_cases c2 : aR A = 2
    · rw [if_pos c2] at hf
      unfold flt at hf
      dsimp only at hf
      omega
    · rw [if_neg c2] at hf ⊢
      obtain ⟨y1, y2, y3, y4⟩ := pLp_ok 23 _ _ (PI_iRd h c2) (show bl T L p + 4 ≤ L by omega) (by omega) hf
      exact ⟨y1, y2, y3, c2⟩
  · rw [if_neg c1] at hf
    unfold flt at hf
    dsimp only at hf
    omega
def pTn (T : Nat → Int) (L : Nat) : Nat → Nat → zA → Nat × Nat × zA
  | 0, p, A => (p, 0, A)
  | n + 1, p, A => if (pRoad T L p A).2.1 = 0 then (if bl T L (pRoad T L p A).1 < L then (if T (bl T L (pRoad T L p A).1) = 59 then pTn T L n (bl T L (pRoad T L p A).1 + 1) (pRoad T L p A).2.2 else (bl T L (pRoad T L p A).1, flt (bl T L (pRoad T L p A).1) 0, (pRoad T L p A).2.2)) else (bl T L (pRoad T L p A).1, 0, (pRoad T L p A).2.2)) else pRoad T L p A
theorem pTn_s (T : Nat → Int) (L n p : Nat) (A : zA) : pTn T L (n + 1) p A = if (pRoad T L p A).2.1 = 0 then (if bl T L (pRoad T L p A).1 < L then (if T (bl T L (pRoad T L p A).1) = 59 then pTn T L n (bl T L (pRoad T L p A).1 + 1) (pRoad T L p A).2.2 else (bl T L (pRoad T L p A).1, flt (bl T L (pRoad T L p A).1) 0, (pRoad T L p A).2.2)) else (bl T L (pRoad T L p A).1, 0, (pRoad T L p A).2.2)) else pRoad T L p A := rfl
theorem pTn_ok {T : Nat → Int} {L : Nat} : ∀ n p A, PI A → p ≤ L → aR A + n = 3 → (pTn T L n p A).2.1 = 0 → PI (pTn T L n p A).2.2 ∧ (pTn T L n p A).1 = L ∧ 1 ≤ aR (pTn T L n p A).2.2
  | 0, p, A, h, hp, hn, hf => by
    have := h.1.1
    omega
  | n + 1, p, A, h, hp, hn, hf => by
    rw [pTn_s] at hf ⊢
    by_cases c1 : (pRoad T L p A).2.1 = 0
    · obtain ⟨x1, x2, x3, x4⟩ := pRoad_ok h hp c1
      have hb := bl_le (T := T) x2
      rw [if_pos c1] at hf ⊢
      by_cases c2 : bl T L (pRoad T L p A).1 < L
      · rw [if_pos c2] at hf ⊢
        by_cases c3 : T (bl T L (pRoad T L p A).1) = 59
        · rw [if_pos c3] at hf ⊢
          exact pTn_ok n _ _ x1 (by omega) (by omega) hf
        · rw [if_neg c3] at hf
          unfold flt at hf
          dsimp only at hf
          omega
      · rw [if_neg c2]
        exact ⟨x1, by show bl T L (pRoad T L p A).1 = L; omega, by show 1 ≤ aR (pRoad T L p A).2.2; omega⟩
    · rw [if_neg c1] at hf
      exact absurd hf c1
/-! the class -/
theorem wp_readPass {T : Nat → Int} (hT : TB T) {L : Nat} {e : Int} {p : Nat} {A : zA} (hA : PI A) {s : kM} (h : KX T L e (p, 0, A) s) : wp (f_TownText_readPass 11 s) (fun r => r.1 = (if isw T L p = true then 1 else 0) ∧ KX T L e (pNx T L p A) r.2) := by
  have h' := h
  obtain ⟨h1, h2, h3, h4, h5⟩ := h'
  obtain ⟨k1, k2⟩ := h5 rfl
  dsimp only at k1 k2
  have hb := bl_le (T := T) k1.2.1
  have tw := e_takeWord k1 (w := 1) (by decide)
  unfold f_TownText_readPass pNx isw
  by_cases c1 : std T L (bl T L p) WO = true
  · have hl := std_len hb.2 c1
    have hlen : (WO).length = 1 := kw_same.2.2.2.2.1
    have c1' : std T L (bl T L p) (kstrs.getD 1 []) = true := c1
    have hlen' : (kstrs.getD 1 []).length = 1 := hlen
    rw [hlen] at hl
    rw [if_pos c1', hlen'] at tw
    rw [tw, Option.bind_some, if_pos c1, c1, Bool.true_or, if_pos rfl]
    dsimp only
    rw [if_neg (by decide)]
    exact wp_readPass12 hT (ov := 1) (by omega) hA (KX_u h hl)
  · have c1' : ¬ std T L (bl T L p) (kstrs.getD 1 []) = true := c1
    rw [if_neg c1'] at tw
    rw [tw, Option.bind_some, if_neg c1, Bool.eq_false_iff.mpr c1, Bool.false_or]
    dsimp only
    rw [if_pos rfl]
    have hx := KX_u h hb.2
    obtain ⟨m1, m2⟩ := hx.2.2.2.2 rfl
    dsimp only at m1 m2
    have tw2 := e_takeWord m1 (w := 2) (by decide)
    rw [bl_bl _ _ rfl, gU_gU, gU_gU] at tw2
    by_cases c2 : std T L (bl T L p) WU = true
    · have hl := std_len hb.2 c2
      have hlen : (WU).length = 1 := kw_same.2.2.2.2.2
      have c2' : std T L (bl T L p) (kstrs.getD 2 []) = true := c2
      have hlen' : (kstrs.getD 2 []).length = 1 := hlen
      rw [hlen] at hl
      rw [if_pos c2', hlen'] at tw2
      rw [tw2, Option.bind_some, if_pos c2, if_pos c2]
      dsimp only
      rw [if_neg (by decide)]
      exact wp_readPass12 hT (ov := 0) (by omega) hA (KX_u h hl)
    · have c2' : ¬ std T L (bl T L p) (kstrs.getD 2 []) = true := c2
      rw [if_neg c2'] at tw2
      rw [tw2, Option.bind_some, if_neg c2, if_neg c2]
      dsimp only
      rw [if_pos rfl, wp_some]
      exact ⟨rfl, hx⟩
/-- behind a road -/
def KY (T : Nat → Int) (L : Nat) (S : Nat × Nat × zA) (t : kM) : Prop := t 1 3 = ((S.2.1 : Nat) : Int) ∧ t 1 1 = (L : Int) ∧ t 2 = T ∧ (S.2.1 = 0 → KTp T L S.1 t ∧ KP S.2.2 t ∧ t 11 1 = ((aF S.2.2 : Nat) : Int))
theorem wp_readRoad {T : Nat → Int} (hT : TB T) {L p : Nat} {A : zA} (hA : PI A) {s : kM} (h : KY T L (p, 0, A) s) : wp (f_TownText_readRoad 11 s) (fun t => KY T L (pRoad T L p A) t) := by
  obtain ⟨h1, h2, h3, h5⟩ := h
  obtain ⟨k1, k2, k3⟩ := h5 rfl
  dsimp only at h1 k1 k2 k3
  have hL := k1.1
  have hb := bl_le (T := T) k1.2.1
  have hR2 := hA.1.1
  have hX : KX T L ((aF A : Nat) : Int) (p, 0, A) s := ⟨h1, h2, h3, k3, fun _ => ⟨k1, k2⟩⟩
  have hq := KX_u hX hb.2
  obtain ⟨m1, m2⟩ := hq.2.2.2.2 rfl
  dsimp only at m1 m2
  have hf0 : gU s 1 2 ((bl T L p : Nat) : Int) 1 3 = 0 := hq.1
  have sw := e_seesWord k1 (w := 0) (by decide)
  unfold f_TownText_readRoad
  unfold pRoad
  have fail : ∀ c : Nat, c ≤ 10 → f_Tape_fail c (gU s 1 2 ((bl T L p : Nat) : Int)) = some (gU (gU s 1 2 ((bl T L p : Nat) : Int)) 1 3 ((flt (bl T L p) c : Nat) : Int)) := fun c hc => by
    rw [e_fail (by omega) hc m1.2.2.2.1, if_pos hf0]
  have KYf : ∀ c : Nat, KY T L (bl T L p, flt (bl T L p) c, A) (gU (gU s 1 2 ((bl T L p : Nat) : Int)) 1 3 ((flt (bl T L p) c : Nat) : Int)) := fun c => by
    obtain ⟨w1, w2, w3, w4, w5⟩ := KX_f (p' := bl T L p) (q := bl T L p) (c := c) (B := A) hX (x := ((bl T L p : Nat) : Int))
    refine ⟨w1, w2, w3, fun z => ?_⟩
    have : flt (bl T L p) c = 0 := z
    unfold flt at this
    omega
  by_cases c1 : std T L (bl T L p) WR = true
  · have hl := std_len hb.2 c1
    have hlen : (WR).length = 4 := kw_same.2.2.2.1
    rw [hlen] at hl
    have c1' : std T L (bl T L p) (kstrs.getD 0 []) = true := c1
    have hlen' : (kstrs.getD 0 []).length = 4 := hlen
    rw [if_pos c1'] at sw
    rw [sw, Option.bind_some, if_pos c1]
    dsimp only
    have hm20 := m2.1
    rw [if_neg (by decide)]
    by_cases c2 : aR A = 2
    · have f4 := fail 4 (by omega)
      rw [show ((4 : Nat) : Int) = 4 from rfl] at f4
      rw [if_pos (by rw [hm20]; omega), if_pos c2, f4, Option.bind_some, wp_some]
      exact KYf 4
    · have tw := e_takeWord m1 (w := 0) (by decide)
      rw [bl_bl _ _ rfl, gU_gU, gU_gU, if_pos c1', hlen'] at tw
      rw [if_neg (by rw [hm20]; omega), if_neg c2, tw, Option.bind_some]
      dsimp only
      have hq4 := KX_u hX hl
      obtain ⟨r1, r2⟩ := hq4.2.2.2.2 rfl
      dsimp only at r1 r2
      rw [r2.1, wI_s (by omega), gLet_eq]
      obtain ⟨G, hG⟩ : ∃ G, G = gU (gU s 1 2 ((bl T L p + 4 : Nat) : Int)) 11 0 ((aR A + 1 : Nat) : Int) := ⟨_, rfl⟩
      rw [← hG]
      have hKG : KX T L ((aF A : Nat) : Int) (bl T L p + 4, 0, iRd A) G := by
        refine ⟨by rw [hG, gU_n _ _ _ (by decide)]; exact hq4.1, by rw [hG, gU_n _ _ _ (by decide)]; exact hq4.2.1, by rw [hG, gU_n _ _ _ (by decide)]; exact hq4.2.2.1, by rw [hG, gUo _ _ _ (by decide)]; exact hq4.2.2.2.1, fun _ => ⟨⟨r1.1, r1.2.1, by rw [hG, gU_n _ _ _ (by decide)]; exact r1.2.2.1, by rw [hG, gU_n _ _ _ (by decide)]; exact r1.2.2.2.1, by rw [hG, gU_n _ _ _ (by decide)]; exact r1.2.2.2.2⟩, by rw [hG, gUs]; rfl, by rw [hG, gUo _ _ _ (by decide)]; exact r2.2.1, fun j hj => by rw [hG, gU_n _ _ _ (by decide)]; exact r2.2.2.1 j hj, fun i hi => by rw [hG, gU_n _ _ _ (by decide)]; exact r2.2.2.2 i hi⟩⟩
      clear hG
      have hPi := PI_iRd hA c2
      obtain ⟨D, hD⟩ : ∃ D, D = pLp T L 23 (bl T L p + 4) (iRd A) := ⟨_, rfl⟩
      rw [← hD]
      have hDok : D.2.1 = 0 → PI D.2.2 ∧ aR D.2.2 = aR A + 1 ∧ (aR A + 1 = 2 → aF D.2.2 = aF A) := fun hz => by
        rw [hD] at hz ⊢
        obtain ⟨y1, y2, y3, y4⟩ := pLp_ok 23 _ _ hPi hl (by omega) hz
        exact ⟨y1, y3, y4⟩
      -- the road's end
      have at48 : ∀ w : kM, KX T L ((aF A : Nat) : Int) D w → wp (f_TownText_readRoad_48 11 w) (fun t => KY T L D t) := by
        intro w hw
        obtain ⟨w1, w2, w3, w4, w5⟩ := hw
        unfold f_TownText_readRoad_48
        rw [gLet_eq]
        by_cases c3 : w 11 0 = 1
        · rw [if_pos c3, wp_some]
          refine ⟨by rw [gU_n _ _ _ (by decide)]; exact w1, by rw [gU_n _ _ _ (by decide)]; exact w2, by rw [gU_n _ _ _ (by decide)]; exact w3, fun hz => ?_⟩
          obtain ⟨x1, x2⟩ := w5 hz
          obtain ⟨y1, y2, y3⟩ := hDok hz
          refine ⟨⟨x1.1, x1.2.1, by rw [gU_n _ _ _ (by decide)]; exact x1.2.2.1, by rw [gU_n _ _ _ (by decide)]; exact x1.2.2.2.1, by rw [gU_n _ _ _ (by decide)]; exact x1.2.2.2.2⟩, ⟨by rw [gUo _ _ _ (by decide)]; exact x2.1, by rw [gUo _ _ _ (by decide)]; exact x2.2.1, fun j hj => by rw [gU_n _ _ _ (by decide)]; exact x2.2.2.1 j hj, fun i hi => by rw [gU_n _ _ _ (by decide)]; exact x2.2.2.2 i hi⟩, ?_⟩
          have hr1 : aR D.2.2 = 1 := by have := x2.1; omega
          rw [gUs, x2.2.1, y1.2.1 (by omega)]
        · rw [if_neg c3, wp_some]
          refine ⟨w1, w2, w3, fun hz => ?_⟩
          obtain ⟨x1, x2⟩ := w5 hz
          obtain ⟨y1, y2, y3⟩ := hDok hz
          refine ⟨x1, x2, ?_⟩
          have hr1 : aR D.2.2 ≠ 1 := fun z => c3 (by rw [x2.1, z]; rfl)
          rw [w4, y3 (by omega)]
      unfold f_TownText_readRoad_30
      refine wp_gL (fun n x => ∃ i : Nat, x.2.1 = (i : Int) ∧ ((x.1 = 0 ∧ KX T L ((aF A : Nat) : Int) D x.2.2 ∧ n = 0) ∨ (x.1 = 1 ∧ i ≤ 22 ∧ n = 24 - i ∧ ∃ (p' : Nat) (B : zA), PI B ∧ p' ≤ L ∧ KX T L ((aF A : Nat) : Int) (p', 0, B) x.2.2 ∧ i ≤ aN B ∧ pLp T L (23 - i) p' B = D))) ?_ gF 24 _ (by exact ⟨0, rfl, Or.inr ⟨rfl, by omega, rfl, bl T L p + 4, iRd A, hPi, hl, hKG, by omega, hD.symm⟩⟩) (by show 24 < 4096; omega)
      rintro n ⟨y1, y2, w⟩ ⟨i, rfl, hI⟩
      dsimp only at hI
      dsimp only
      unfold f_TownText_readRoad_30b
      rcases hI with ⟨rfl, hw, rfl⟩ | ⟨rfl, hi, rfl, p', B, hB, hp', hw, hiN, hDD⟩
      · by_cases c3 : (22 : Int) < (i : Int)
        · rw [if_pos c3, wp_map]
          exact (at48 w hw).mono (fun a ha => ha)
        · rw [if_neg c3, if_pos rfl, wp_map]
          exact (at48 w hw).mono (fun a ha => ha)
      · rw [if_neg (by omega), if_neg (by decide)]
        obtain ⟨⟨zv, u⟩, f1, u1, u2⟩ := wp_readPass hT hB hw
        dsimp only at u1 u2
        rw [f1, Option.bind_some]
        dsimp only
        rw [show 23 - i = (22 - i) + 1 by omega, pLp_s] at hDD
        unfold f_TownText_readRoad_44 f_TownText_readRoad_45
        rw [u1]
        by_cases c3 : isw T L p' = true
        · rw [if_pos c3] at hDD ⊢
          have hu13 := u2.1
          rw [if_neg (by decide)]
          by_cases c4 : (pNx T L p' B).2.1 = 0
          · rw [if_pos c4] at hDD
            obtain ⟨x1, x2, x3, x4, x5⟩ := pNx_ok hB hp' c4 c3
            have hn22 := (okB_n x1.1).2
            rw [if_pos (by rw [hu13, c4]; rfl), wp_some, gE_l, wI_s (by omega)]
            refine ⟨24 - (i + 1), by omega, i + 1, rfl, Or.inr ⟨rfl, by omega, rfl, (pNx T L p' B).1, (pNx T L p' B).2.2, x1, x2, ?_, by omega, by rw [show 23 - (i + 1) = 22 - i by omega]; exact hDD⟩⟩
            rw [show ((pNx T L p' B).1, 0, (pNx T L p' B).2.2) = pNx T L p' B from by rw [← c4]]
            exact u2
          · rw [if_neg c4] at hDD
            rw [if_neg (by rw [hu13]; omega), wp_some, gE_l, wI_s (by omega)]
            exact ⟨0, by omega, i + 1, rfl, Or.inl ⟨rfl, by rw [← hDD]; exact u2, rfl⟩⟩
        · rw [if_neg c3] at hDD ⊢
          have eN : pNx T L p' B = (bl T L p', 0, B) := by
            have c3' : ¬ (std T L (bl T L p') WO || std T L (bl T L p') WU) = true := c3
            rw [Bool.or_eq_true] at c3'
            unfold pNx
            rw [if_neg (fun z => c3' (Or.inl z)), if_neg (fun z => c3' (Or.inr z))]
          rw [if_pos rfl, wp_some, gE_l, wI_s (by omega)]
          exact ⟨0, by omega, i + 1, rfl, Or.inl ⟨rfl, by rw [← hDD, ← eN]; exact u2, rfl⟩⟩
  · have f0 := fail 0 (by omega)
    rw [show ((0 : Nat) : Int) = 0 from rfl] at f0
    have c1' : ¬ std T L (bl T L p) (kstrs.getD 0 []) = true := c1
    rw [if_neg c1'] at sw
    rw [sw, Option.bind_some, if_neg c1]
    dsimp only
    rw [if_pos rfl, f0, Option.bind_some, wp_some]
    exact KYf 0
theorem wp_readText {T : Nat → Int} (hT : TB T) {L : Nat} {A : zA} (hA : PI A) (hR : aR A = 0) {s : kM} (h : KY T L (0, 0, A) s) {Q : kM → Prop} (hQ : ∀ t, KY T L (pTn T L 3 0 A) t → wp (f_TownText_read_35 11 17 t) Q) : wp (f_TownText_read_8 11 17 1 0 s) Q := by
  obtain ⟨D, hD⟩ : ∃ D, D = pTn T L 3 0 A := ⟨_, rfl⟩
  rw [← hD] at hQ
  -- the text's end: what is left is a fault
  have at29 : ∀ (w : kM) (p' f' : Nat) (B : zA), KY T L (p', f', B) w → D = (if f' = 0 then (if p' < L then (p', flt p' 0, B) else (p', 0, B)) else (p', f', B)) → wp (f_TownText_read_29 11 17 w) Q := by
    intro w p' f' B hw hDD
    obtain ⟨w1, w2, w3, w4⟩ := hw
    dsimp only at w1 w4
    have hat : ∃ b : Int, f_Tape_atEnd w = some b ∧ (b = 0 ∨ b = 1) ∧ (b = 0 ↔ w 1 2 < w 1 1) := by
      unfold f_Tape_atEnd
      by_cases c : w 1 2 < w 1 1
      · exact ⟨0, by rw [if_pos c], Or.inl rfl, ⟨fun _ => c, fun _ => rfl⟩⟩
      · exact ⟨1, by rw [if_neg c], Or.inr rfl, ⟨fun z => (by cases z), fun z => absurd z c⟩⟩
    obtain ⟨b, e1, e2, e3⟩ := hat
    unfold f_TownText_read_29
    rw [e1, Option.bind_some]
    by_cases hf : f' = 0
    · obtain ⟨x1, x2, x3⟩ := w4 hf
      rw [if_pos hf] at hDD
      have hpos : (b = 0 ↔ p' < L) := by rw [e3, w2, x1.2.2.2.1]; omega
      by_cases hb : b = 0
      · rw [if_pos (hpos.mp hb)] at hDD
        have ef := e_fail (p := p') (c := 0) (s := w) (by have := x1.1; have := x1.2.1; omega) (by omega) x1.2.2.2.1
        rw [if_pos (by rw [w1, hf]; rfl), show ((0 : Nat) : Int) = 0 from rfl] at ef
        rw [if_pos hb, ef, Option.bind_some]
        apply hQ
        rw [hDD]
        refine ⟨gUs _ _ _ _, by rw [gUo _ _ _ (by decide)]; exact w2, by rw [gU_n _ _ _ (by decide)]; exact w3, fun z => ?_⟩
        have : flt p' 0 = 0 := z
        unfold flt at this
        omega
      · rw [if_neg (fun z => hb (hpos.mpr z))] at hDD
        rw [if_neg hb]
        apply hQ
        rw [hDD, ← hf]
        exact ⟨w1, w2, w3, w4⟩
    · rw [if_neg hf] at hDD
      have hq : KY T L D w := by rw [hDD]; exact ⟨w1, w2, w3, w4⟩
      by_cases hb : b = 0
      · have ef : f_Tape_fail 0 w = some w := by
          unfold f_Tape_fail
          rw [if_neg (by rw [w1]; omega)]
        rw [if_pos hb, ef, Option.bind_some]
        exact hQ w hq
      · rw [if_neg hb]
        exact hQ w hq
  unfold f_TownText_read_8
  refine wp_gL (fun n x => ∃ i : Nat, x.2.1 = (i : Int) ∧ ((x.1 = 0 ∧ n = 0 ∧ ∃ (p' f' : Nat) (B : zA), KY T L (p', f', B) x.2.2 ∧ D = (if f' = 0 then (if p' < L then (p', flt p' 0, B) else (p', 0, B)) else (p', f', B))) ∨ (x.1 = 1 ∧ i ≤ 2 ∧ n = 4 - i ∧ ∃ (p' : Nat) (B : zA), PI B ∧ p' ≤ L ∧ aR B = i ∧ KY T L (p', 0, B) x.2.2 ∧ pTn T L (3 - i) p' B = D))) ?_ gF 4 _ (by exact ⟨0, rfl, Or.inr ⟨rfl, by omega, rfl, 0, A, hA, by omega, hR, h, hD.symm⟩⟩) (by show 4 < 4096; omega)
  rintro n ⟨y1, y2, w⟩ ⟨i, rfl, hI⟩
  dsimp only at hI
  dsimp only
  unfold f_TownText_read_8b
  rcases hI with ⟨rfl, rfl, p', f', B, hw, hDD⟩ | ⟨rfl, hi, rfl, p', B, hB, hp', hRB, hw, hDD⟩
  · by_cases c3 : (2 : Int) < (i : Int)
    · rw [if_pos c3, wp_map]
      exact (at29 w p' f' B hw hDD).mono (fun a ha => ha)
    · rw [if_neg c3, if_pos rfl, wp_map]
      exact (at29 w p' f' B hw hDD).mono (fun a ha => ha)
  · rw [if_neg (by omega), if_neg (by decide)]
    obtain ⟨u, f1, u1⟩ := wp_readRoad hT hB hw
    rw [f1, Option.bind_some]
    rw [show 3 - i = (2 - i) + 1 by omega, pTn_s] at hDD
    unfold f_TownText_read_25 f_TownText_read_26
    obtain ⟨v1, v2, v3, v4⟩ := u1
    by_cases c4 : (pRoad T L p' B).2.1 = 0
    · obtain ⟨x1, x2, x3, x4⟩ := pRoad_ok hB hp' c4
      obtain ⟨z1, z2, z3⟩ := v4 c4
      have hb := bl_le (T := T) x2
      rw [if_pos c4] at hDD
      have ts := e_takeSign hT z1 (c := 59) (by decide)
      rw [show ((59 : Nat) : Int) = 59 from rfl] at ts
      rw [if_pos (by rw [v1, c4]; rfl), ts, Option.bind_some]
      have KYu : ∀ q : Nat, q ≤ L → KY T L (q, 0, (pRoad T L p' B).2.2) (gU u 1 2 (q : Int)) := fun q hq => by
        refine ⟨by rw [gUo _ _ _ (by decide), v1, c4], by rw [gUo _ _ _ (by decide)]; exact v2, by rw [gU_n _ _ _ (by decide)]; exact v3, fun _ => ⟨KTp_u z1 hq, KP_c z2 (gU_n _ _ _ (by decide)) (gU_n _ _ _ (by decide)) (gU_n _ _ _ (by decide)), by rw [gU_n _ _ _ (by decide)]; exact z3⟩⟩
      by_cases c5 : bl T L (pRoad T L p' B).1 < L ∧ T (bl T L (pRoad T L p' B).1) = 59
      · have hR2 := x1.1.1
        rw [if_pos c5.1, if_pos c5.2] at hDD
        rw [if_pos c5]
        dsimp only
        rw [if_neg (by decide), wp_some, gE_l, wI_s (by omega)]
        exact ⟨4 - (i + 1), by omega, i + 1, rfl, Or.inr ⟨rfl, by omega, rfl, bl T L (pRoad T L p' B).1 + 1, (pRoad T L p' B).2.2, x1, by omega, by omega, KYu _ (by omega), by rw [show 3 - (i + 1) = 2 - i by omega]; exact hDD⟩⟩
      · rw [if_neg c5]
        dsimp only
        rw [if_pos rfl, wp_some, gE_l, wI_s (by omega)]
        refine ⟨0, by omega, i + 1, rfl, Or.inl ⟨rfl, rfl, bl T L (pRoad T L p' B).1, 0, (pRoad T L p' B).2.2, KYu _ hb.2, ?_⟩⟩
        rw [if_pos rfl, ← hDD]
        by_cases c6 : bl T L (pRoad T L p' B).1 < L
        · rw [if_pos c6, if_pos c6, if_neg (fun z => c5 ⟨c6, z⟩)]
        · rw [if_neg c6, if_neg c6]
    · rw [if_neg c4] at hDD
      rw [if_neg (by rw [v1]; omega), wp_some, gE_l, wI_s (by omega)]
      refine ⟨0, by omega, i + 1, rfl, Or.inl ⟨rfl, rfl, (pRoad T L p' B).1, (pRoad T L p' B).2.1, (pRoad T L p' B).2.2, ⟨v1, v2, v3, v4⟩, ?_⟩⟩
      rw [if_neg c4, ← hDD]
