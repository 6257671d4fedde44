/-! the reference reads by the same grammar -/
def mt1 (x : Int) : Int := if 0 ≤ x then 0 else if -9 ≤ x then 1 else if x = -10 then 2 else if x = -11 then 3 else if x = -12 then 13 else if x = -13 then 14 else if x = -14 then 15 else if x = -15 then 4 else if x = -16 then 5 else if x = -17 then 6 else if x = -18 then 7 else if x = -19 then 8 else if x = -20 then 10 else if x = -21 then 11 else 9
def mt2 (x : Int) : Int := if 0 ≤ x then x else if -9 ≤ x then -1 - x else 0
def MOr (k : Nat) (c : List Int) (s : kM) : Prop := s 85 24 = (k : Int) ∧ s 85 26 = ((c.length : Nat) : Int) ∧ s 85 30 = 8 ∧ ∀ i, i < c.length → s 106 (300 * k + i) = mt1 (c.getD i 0) ∧ s 107 (300 * k + i) = mt2 (c.getD i 0)
def MVr (T : Nat → Int) (L k : Nat) (c : List Int) (p n : Nat) (s : kM) : Prop := MTp T L p s ∧ s 85 23 = 0 ∧ s 85 28 = (n : Int) ∧ MOr k c s
def MEr (T : Nat → Int) (L e : Nat) (s : kM) : Prop := (∃ p, p ≤ L + 1 ∧ MTp T L p s) ∧ s 85 23 = (e : Int) ∧ e ≠ 0 ∧ s 85 30 = 8
/-- what a reading of values may write -/
def mfv (k : Nat) (s t : kM) : Prop := (∀ z, z ≠ 85 → z ≠ 106 → z ≠ 107 → t z = s z) ∧ (∀ i, i ≠ 22 → i ≠ 23 → i ≠ 26 → i ≠ 28 → t 85 i = s 85 i) ∧ ∀ j, j < 300 * k ∨ 300 * k + 300 ≤ j → t 106 j = s 106 j ∧ t 107 j = s 107 j
theorem mfv_r (k : Nat) (s : kM) : mfv k s s := ⟨fun _ _ _ _ => rfl, fun _ _ _ _ _ => rfl, fun _ _ => ⟨rfl, rfl⟩⟩
theorem mfv_t {k : Nat} {s t u : kM} (h : mfv k s t) (h2 : mfv k t u) : mfv k s u := ⟨fun z a b c => by rw [h2.1 z a b c, h.1 z a b c], fun i a b c d => by rw [h2.2.1 i a b c d, h.2.1 i a b c d], fun j hj => ⟨by rw [(h2.2.2 j hj).1, (h.2.2 j hj).1], by rw [(h2.2.2 j hj).2, (h.2.2 j hj).2]⟩⟩
theorem mfv_85 (k : Nat) (s : kM) {i : Nat} (x : Int) (hi : i = 22 ∨ i = 23 ∨ i = 26 ∨ i = 28) : mfv k s (gU s 85 i x) := ⟨fun z a _ _ => gU_n _ _ _ a, fun j a b c d => gUo _ _ _ (by omega), fun j _ => ⟨by rw [gU_n _ _ _ (by decide)], by rw [gU_n _ _ _ (by decide)]⟩⟩
theorem MOr_85 {k : Nat} {c : List Int} {s : kM} (h : MOr k c s) {i : Nat} (x : Int) (hi : i ≠ 24 ∧ i ≠ 26 ∧ i ≠ 30) : MOr k c (gU s 85 i x) := ⟨by rw [gUo _ _ _ (by omega)]; exact h.1, by rw [gUo _ _ _ (by omega)]; exact h.2.1, by rw [gUo _ _ _ (by omega)]; exact h.2.2.1, fun j hj => by rw [gU_n _ _ _ (by decide), gU_n _ _ _ (by decide)]; exact h.2.2.2 j hj⟩
theorem MVr_u {T : Nat → Int} {L k : Nat} {c : List Int} {p q n : Nat} {s : kM} (h : MVr T L k c p n s) (hq : q ≤ 1000) : MVr T L k c q n (gU s 85 22 (q : Int)) := ⟨MTp_u h.1 hq, by rw [gUo _ _ _ (by decide)]; exact h.2.1, by rw [gUo _ _ _ (by decide)]; exact h.2.2.1, MOr_85 h.2.2.2 _ (by decide)⟩
theorem MVr_e {T : Nat → Int} {L k : Nat} {c : List Int} {p n e : Nat} {s : kM} (h : MVr T L k c p n s) (hp : p ≤ L + 1) (he : e ≠ 0) : MEr T L e (gU s 85 23 (e : Int)) := by
  obtain ⟨⟨a1, a2, a3, a4⟩, h2, h3, h4⟩ := h
  refine ⟨⟨p, hp, a1, by rw [gUo _ _ _ (by decide)]; exact a2, by rw [gUo _ _ _ (by decide)]; exact a3, by rw [gU_n _ _ _ (by decide)]; exact a4⟩, gUs _ _ _ _, he, by rw [gUo _ _ _ (by decide)]; exact h4.2.2.1⟩
theorem MEr_n {T : Nat → Int} {L e : Nat} {s : kM} (h : MEr T L e s) (x : Int) : MEr T L e (gU s 85 28 x) := by
  obtain ⟨⟨p, hp, a1, a2, a3, a4⟩, h2, h3, h4⟩ := h
  refine ⟨⟨p, hp, a1, by rw [gUo _ _ _ (by decide)]; exact a2, by rw [gUo _ _ _ (by decide)]; exact a3, by rw [gU_n _ _ _ (by decide)]; exact a4⟩, by rw [gUo _ _ _ (by decide)]; exact h2, h3, by rw [gUo _ _ _ (by decide)]; exact h4⟩
theorem MEr_u {T : Nat → Int} {L e q : Nat} {s : kM} (h : MEr T L e s) (hq : q ≤ L + 1) : MEr T L e (gU s 85 22 (q : Int)) := by
  obtain ⟨⟨p, hp, h1⟩, h2, h3, h4⟩ := h
  have := h1.1.1
  exact ⟨⟨q, hq, MTp_u h1 (by omega)⟩, by rw [gUo _ _ _ (by decide)]; exact h2, h3, by rw [gUo _ _ _ (by decide)]; exact h4⟩
theorem e_M_failX {T : Nat → Int} {L k : Nat} {c : List Int} {p n x q : Nat} {s : kM} (h : MVr T L k c p n s) (hx : x ≤ 10) (hq : q ≤ 1000) : f_M_fails x q s = some (gU s 85 23 ((flt q x : Nat) : Int)) := by
  rw [e_M_fails hq hx, if_pos h.2.1]
theorem e_M_failE {T : Nat → Int} {L e x q : Nat} {s : kM} (h : MEr T L e s) (hx : x ≤ 10) (hq : q ≤ 1000) : f_M_fails x q s = some s := by
  rw [e_M_fails hq hx, if_neg (by rw [h.2.1]; have := h.2.2.1; omega)]
/-- a token put down -/
theorem e_M_entry {k : Nat} (hk : k < 6) {c : List Int} {s : kM} (h : MOr k c s) (h0 : s 85 23 = 0) (hc : c.length < 300) {x : Int} {a b : Int} (ha : a = mt1 x) (hb : b = mt2 x) : ∃ t, f_M_entry a b s = some t ∧ MOr k (c ++ [x]) t ∧ mfv k s t ∧ ∀ i, i ≠ 26 → t 85 i = s 85 i := by
  obtain ⟨h1, h2, h3, h4⟩ := h
  have hl : (c ++ [x]).length = c.length + 1 := by rw [List.length_append]; rfl
  have ew : wI (wI (300 * s 85 24) + s 85 26) = ((300 * k + c.length : Nat) : Int) := by
    rw [h1, h2, wI_id (x := 300 * (k : Int)) (by omega) (by omega)]
    rw [wI_id (by omega) (by omega)]
    omega
  have ei : gI 1800 ((300 * k + c.length : Nat) : Int) = some (300 * k + c.length) := gI_n (by omega)
  unfold f_M_entry
  rw [if_pos h0, ew, ei, Option.bind_some, gLet_eq, gU_n _ _ _ (show 85 ≠ 106 by decide), ew, ei, Option.bind_some, gLet_eq, gLet_eq, gU_n _ _ _ (show 85 ≠ 107 by decide), gU_n _ _ _ (show 85 ≠ 106 by decide), h2, wI_s (by clear ew; omega)]
  clear ew ei
  refine ⟨_, rfl, ⟨?_, ?_, ?_, fun i hi => ?_⟩, ⟨fun z z1 z2 z3 => ?_, fun i i1 i2 i3 i4 => ?_, fun j hj => ?_⟩, fun i hi => ?_⟩
  · rw [gUo _ _ _ (by decide), gU_n _ _ _ (by decide), gU_n _ _ _ (by decide)]; exact h1
  · rw [gUs, hl]
  · rw [gUo _ _ _ (by decide), gU_n _ _ _ (by decide), gU_n _ _ _ (by decide)]; exact h3
  · rw [getD_app (by omega)]
    by_cases hic : i = c.length
    · rw [if_pos hic, hic]
      refine ⟨?_, ?_⟩
      · rw [gU_n _ _ _ (by decide), gU_n _ _ _ (by decide), gUs]; exact ha
      · rw [gU_n _ _ _ (by decide), gUs]; exact hb
    · rw [if_neg hic]
      have := h4 i (by omega)
      refine ⟨?_, ?_⟩
      · rw [gU_n _ _ _ (by decide), gU_n _ _ _ (by decide), gUo _ _ _ (by omega)]; exact this.1
      · rw [gU_n _ _ _ (by decide), gUo _ _ _ (by omega), gU_n _ _ _ (by decide)]; exact this.2
  · rw [gU_n _ _ _ z1, gU_n _ _ _ z3, gU_n _ _ _ z2]
  · rw [gUo _ _ _ i3, gU_n _ _ _ (by decide), gU_n _ _ _ (by decide)]
  · refine ⟨?_, ?_⟩
    · rw [gU_n _ _ _ (by decide), gU_n _ _ _ (by decide), gUo _ _ _ (by omega)]
    · rw [gU_n _ _ _ (by decide), gUo _ _ _ (by omega), gU_n _ _ _ (by decide)]
  · rw [gUo _ _ _ hi, gU_n _ _ _ (by decide), gU_n _ _ _ (by decide)]
theorem e_M_entryX {T : Nat → Int} {L k : Nat} (hk : k < 6) {c : List Int} {p n : Nat} {s : kM} (h : MVr T L k c p n s) (hc : c.length < 300) {x a b : Int} (ha : a = mt1 x) (hb : b = mt2 x) : ∃ t, f_M_entry a b s = some t ∧ MVr T L k (c ++ [x]) p n t ∧ mfv k s t := by
  obtain ⟨⟨a1, a2, a3, a4⟩, h2, h3, h4⟩ := h
  obtain ⟨t, g, t1, t2, t3⟩ := e_M_entry hk h4 h2 hc ha hb
  refine ⟨t, g, ⟨⟨a1, ?_, ?_, ?_⟩, ?_, ?_, t1⟩, t2⟩
  · rw [t3 21 (by decide)]; exact a2
  · rw [t3 22 (by decide)]; exact a3
  · rw [t2.1 105 (by decide) (by decide) (by decide)]; exact a4
  · rw [t3 23 (by decide)]; exact h2
  · rw [t3 28 (by decide)]; exact h3
theorem e_M_entryE {T : Nat → Int} {L e : Nat} {s : kM} (h : MEr T L e s) (a b : Int) : f_M_entry a b s = some s := by
  unfold f_M_entry
  rw [if_neg (by rw [h.2.1]; have := h.2.2.1; omega)]
/-- counted -/
theorem e_counted {T : Nat → Int} {L k : Nat} {c : List Int} {p n q : Nat} {s : kM} (h : MVr T L k c p n s) (hn : n ≤ 60) (hp : p ≤ L + 1) (hq : q ≤ 1000) : ∃ t, f_M_isCounted q s = some t ∧ mfv k s t ∧ t 85 22 = s 85 22 ∧ ((n < 60 ∧ MVr T L k c p (n + 1) t) ∨ (¬ n < 60 ∧ MEr T L (flt q 3) t)) := by
  unfold f_M_isCounted f_M_isCounted_8
  by_cases h6 : n < 60
  · rw [h.2.2.1, if_neg (by omega), gLet_eq, wI_s (by omega)]
    exact ⟨_, rfl, mfv_85 k s _ (by decide), gUo _ _ _ (by decide), Or.inl ⟨h6, ⟨h.1.1, by rw [gUo _ _ _ (by decide)]; exact h.1.2.1, by rw [gUo _ _ _ (by decide)]; exact h.1.2.2.1, by rw [gU_n _ _ _ (by decide)]; exact h.1.2.2.2⟩, by rw [gUo _ _ _ (by decide)]; exact h.2.1, gUs _ _ _ _, MOr_85 h.2.2.2 _ (by decide)⟩⟩
  · have ef : f_M_fails 3 q s = some (gU s 85 23 ((flt q 3 : Nat) : Int)) := e_M_failX (x := 3) h (by decide) hq
    rw [h.2.2.1, if_pos (by omega), ef, Option.bind_some, gLet_eq]
    exact ⟨_, rfl, mfv_t (mfv_85 k s _ (by decide)) (mfv_85 k _ _ (by decide)), by rw [gUo _ _ _ (by decide), gUo _ _ _ (by decide)], Or.inr ⟨h6, MEr_n (MVr_e h hp (flt_0 _ _)) _⟩⟩
theorem e_countedE {T : Nat → Int} {L e q : Nat} {s : kM} (h : MEr T L e s) (k : Nat) (hq : q ≤ 1000) : ∃ t, f_M_isCounted q s = some t ∧ mfv k s t ∧ t 85 22 = s 85 22 ∧ MEr T L e t := by
  have ef : f_M_fails 3 q s = some s := e_M_failE (x := 3) h (by decide) hq
  unfold f_M_isCounted f_M_isCounted_8
  by_cases h6 : s 85 28 = 60
  · rw [if_pos h6, ef, Option.bind_some, gLet_eq]
    exact ⟨_, rfl, mfv_85 k s _ (by decide), gUo _ _ _ (by decide), MEr_n h _⟩
  · rw [if_neg h6, gLet_eq]
    exact ⟨_, rfl, mfv_85 k s _ (by decide), gUo _ _ _ (by decide), MEr_n h _⟩
def mvo (T : Nat → Int) (L k : Nat) (c : List Int) (r : pR) (s t : kM) : Prop := mfv k s t ∧ match r with
  | .inl e => MEr T L e t
  | .inr x => MVr T L k (c ++ x.1) x.2.1 x.2.2 t
def MIt (T : Nat → Int) (L k : Nat) (I : Nat → Nat → pR) (g : kM → Option kM) : Prop := ∀ c p n s, n ≤ 60 → p ≤ L → 3 * c.length ≤ 6 * n + p → MVr T L k c p n s → wp (g s) (mvo T L k c (I p n) s)
theorem mvo_l {T : Nat → Int} {L k : Nat} {c : List Int} {e : Nat} {s t : kM} (h1 : mfv k s t) (h2 : MEr T L e t) : mvo T L k c (.inl e) s t := ⟨h1, h2⟩
theorem mvo_r {T : Nat → Int} {L k : Nat} {c c' : List Int} {p n : Nat} {s t : kM} (h1 : mfv k s t) (h2 : MVr T L k (c ++ c') p n t) : mvo T L k c (.inr (c', p, n)) s t := ⟨h1, h2⟩
theorem wnm_20 : ∀ w : Fin 8, kstrs.getD (20 + w.val) [] = wnm w.val := by decide
theorem e_wordOf {w : Nat} (hw : w < 8) (s : kM) : f_M_wordOf (w : Int) s = some (20 + w) := by
  unfold f_M_wordOf
  have : w = 0 ∨ w = 1 ∨ w = 2 ∨ w = 3 ∨ w = 4 ∨ w = 5 ∨ w = 6 ∨ w = 7 := by omega
  rcases this with h | h | h | h | h | h | h | h <;> subst h <;> rfl
/-- the words one by one -/
theorem e_22 {T : Nat → Int} {L q : Nat} {s : kM} (h : MTp T L q s) (h8 : s 85 30 = 8) (x : Int) : f_M_value_22 x 0 s = f_M_value_33 x ((fw T L q 8 0 : Nat) : Int) s := by
  unfold f_M_value_22
  obtain ⟨F, hF⟩ : ∃ F, fw T L q 8 0 = F := ⟨_, rfl⟩
  rw [hF]
  have key : ∀ k m w, w + k = 8 → k < m → fw T L q k w = F → gL (fun (y : Int) => f_M_value_22b x y s) m ((w : Nat) : Int) = f_M_value_33 x ((F : Nat) : Int) s := by
    intro k
    induction k with
    | zero =>
      intro m w hw hm hf
      obtain ⟨m', rfl⟩ : ∃ m', m = m' + 1 := ⟨m - 1, by omega⟩
      have : w = F := hf
      subst this
      apply gL_m
      show f_M_value_22b x ((w : Nat) : Int) s = _
      unfold f_M_value_22b
      rw [h8, if_pos (by omega)]
    | succ k ih =>
      intro m w hw hm hf
      obtain ⟨m', rfl⟩ : ∃ m', m = m' + 1 := ⟨m - 1, by omega⟩
      have es := e_M_stood h (w := 20 + w) (by omega)
      rw [wnm_20 ⟨w, by omega⟩] at es
      rw [fw_s] at hf
      dsimp only at es
      by_cases hs : std T L q (wnm w) = true
      · rw [if_pos hs] at hf es
        subst hf
        apply gL_m
        show f_M_value_22b x ((w : Nat) : Int) s = _
        unfold f_M_value_22b
        rw [h8, if_neg (by omega), e_wordOf (by omega), Option.bind_some, es, Option.bind_some, if_neg (by decide)]
      · rw [if_neg hs] at hf es
        have e1 : (fun (y : Int) => f_M_value_22b x y s) ((w : Nat) : Int) = some (.inl (((w + 1 : Nat) : Int))) := by
          show f_M_value_22b x ((w : Nat) : Int) s = _
          unfold f_M_value_22b
          rw [h8, if_neg (by omega), e_wordOf (by omega), Option.bind_some, es, Option.bind_some, if_pos rfl, wI_s (by omega)]
        rw [gL_l e1]
        exact ih m' (w + 1) (by omega) (by omega) hf
  exact key 8 gF 0 (by omega) (by show 8 < 4096; omega) hF
