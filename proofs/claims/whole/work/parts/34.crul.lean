/-! the class reads by this grammar -/
def flg (c : List Int) : Int := if (-7 : Int) ∈ c then 1 else 0
def m4 (n : Nat) : Nat := if n ≤ 400 then n else 400
def KCr (c : List Int) (s : kM) : Prop := s 54 1 = ((m4 c.length : Nat) : Int) ∧ ∀ i, i < c.length → i < 400 → s 55 i = c.getD i 0
def KXr (T : Nat → Int) (L : Nat) (c : List Int) (p n : Nat) (s : kM) : Prop := KTp T L p s ∧ s 1 3 = 0 ∧ s 54 2 = (n : Int) ∧ KCr c s ∧ s 54 3 = flg c
def KEr (T : Nat → Int) (L e : Nat) (s : kM) : Prop := (∃ p, KTp T L p s) ∧ s 1 3 = (e : Int) ∧ e ≠ 0 ∧ 0 ≤ s 54 1 ∧ s 54 1 ≤ 400
def kfr (s t : kM) : Prop := ∀ z, z ≠ 1 → z ≠ 54 → z ≠ 55 → t z = s z
def kpo (T : Nat → Int) (L : Nat) (c : List Int) (r : pR) (s t : kM) : Prop := kfr s t ∧ match r with
  | .inl e => KEr T L e t
  | .inr x => KXr T L (c ++ x.1) x.2.1 x.2.2 t
def KIt (T : Nat → Int) (L : Nat) (I : Nat → Nat → pR) (g : kM → Option kM) : Prop := ∀ c p n s, n ≤ 60 → KXr T L c p n s → wp (g s) (kpo T L c (I p n) s)
theorem kfr_r (s : kM) : kfr s s := fun _ _ _ _ => rfl
theorem kfr_t {s t u : kM} (h : kfr s t) (h2 : kfr t u) : kfr s u := fun z a b c => by rw [h2 z a b c, h z a b c]
theorem kfr_1 (s : kM) (i : Nat) (x : Int) : kfr s (gU s 1 i x) := fun z a _ _ => gU_n _ _ _ a
theorem kfr_54 (s : kM) (i : Nat) (x : Int) : kfr s (gU s 54 i x) := fun z _ a _ => gU_n _ _ _ a
theorem KXr_u {T : Nat → Int} {L : Nat} {c : List Int} {p q n : Nat} {s : kM} (h : KXr T L c p n s) (hq : q ≤ L) : KXr T L c q n (gU s 1 2 (q : Int)) := by
  obtain ⟨h1, h2, h3, h4, h5⟩ := h
  refine ⟨KTp_u h1 hq, by rw [gUo _ _ _ (by decide)]; exact h2, by rw [gU_n _ _ _ (by decide)]; exact h3, ⟨by rw [gU_n _ _ _ (by decide)]; exact h4.1, by rw [gU_n _ _ _ (by decide)]; exact h4.2⟩, by rw [gU_n _ _ _ (by decide)]; exact h5⟩
theorem KXr_e {T : Nat → Int} {L : Nat} {c : List Int} {p n e : Nat} {s : kM} (h : KXr T L c p n s) (he : e ≠ 0) : KEr T L e (gU s 1 3 (e : Int)) := by
  obtain ⟨⟨a1, a2, a3, a4, a5⟩, h2, h3, h4, h5⟩ := h
  refine ⟨⟨p, a1, a2, by rw [gUo _ _ _ (by decide)]; exact a3, by rw [gUo _ _ _ (by decide)]; exact a4, by rw [gU_n _ _ _ (by decide)]; exact a5⟩, gUs _ _ _ _, he, ?_⟩
  rw [gU_n _ _ _ (by decide), h4.1]
  unfold m4
  split <;> omega
/-- a failing -/
theorem e_failX {T : Nat → Int} {L : Nat} {c : List Int} {p n k : Nat} {s : kM} (h : KXr T L c p n s) (hk : k ≤ 10) : f_Tape_fail k s = some (gU s 1 3 ((flt p k : Nat) : Int)) := by
  have h0 := h.1.1
  have h1 := h.1.2.1
  rw [e_fail (p := p) (by omega) hk h.1.2.2.2.1, if_pos h.2.1]
theorem getD_app {c : List Int} {x : Int} {i : Nat} (hi : i < c.length + 1) : (c ++ [x]).getD i 0 = if i = c.length then x else c.getD i 0 := by
  by_cases h : i = c.length
  · rw [if_pos h, h, List.getD_eq_getElem?_getD, List.getElem?_append_right (Nat.le_refl _), Nat.sub_self]
    rfl
  · rw [if_neg h, List.getD_eq_getElem?_getD, List.getElem?_append_left (by omega), List.getD_eq_getElem?_getD]
theorem e_emit {c : List Int} {s : kM} (h : KCr c s) (x : Int) : ∃ t, f_RuleText_emit x s = some t ∧ KCr (c ++ [x]) t ∧ (∀ z, z ≠ 54 → z ≠ 55 → t z = s z) ∧ ∀ i, i ≠ 1 → t 54 i = s 54 i := by
  obtain ⟨h1, h2⟩ := h
  have hl : (c ++ [x]).length = c.length + 1 := by rw [List.length_append]; rfl
  unfold f_RuleText_emit
  rw [h1]
  by_cases h4 : 400 ≤ c.length
  · have e4 : m4 c.length = 400 := by unfold m4; split <;> omega
    rw [e4, if_pos (by decide)]
    refine ⟨s, rfl, ⟨?_, fun i hi hi4 => ?_⟩, fun _ _ _ => rfl, fun _ _ => rfl⟩
    · rw [h1, hl, e4]
      unfold m4
      rw [if_neg (by omega)]
    · rw [getD_app (by omega), if_neg (by omega)]
      exact h2 i (by omega) hi4
  · have e4 : m4 c.length = c.length := by unfold m4; rw [if_pos (by omega)]
    rw [e4, if_neg (by omega), gI_n (show c.length < 400 by omega), Option.bind_some, gLet_eq, gLet_eq]
    refine ⟨_, rfl, ⟨?_, fun i hi hi4 => ?_⟩, fun z z1 z2 => ?_, fun i hi => ?_⟩
    · rw [gUs, gU_n _ _ _ (by decide), h1, e4, wI_s (by omega), hl]
      unfold m4
      rw [if_pos (by omega)]
    · rw [gU_n _ _ _ (by decide), getD_app (by omega)]
      by_cases hic : i = c.length
      · rw [if_pos hic, hic, gUs]
      · rw [if_neg hic, gUo _ _ _ hic]
        exact h2 i (by omega) hi4
    · rw [gU_n _ _ _ z1, gU_n _ _ _ z2]
    · rw [gUo _ _ _ hi, gU_n _ _ _ (by decide)]
/-- behind a fault -/
theorem e_emitE {T : Nat → Int} {L e : Nat} {s : kM} (h : KEr T L e s) (x : Int) : ∃ t, f_RuleText_emit x s = some t ∧ KEr T L e t ∧ kfr s t := by
  obtain ⟨⟨p, a1, a2, a3, a4, a5⟩, h2, h3, h4, h5⟩ := h
  unfold f_RuleText_emit
  by_cases h6 : 400 ≤ s 54 1
  · rw [if_pos h6]
    exact ⟨s, rfl, ⟨⟨p, a1, a2, a3, a4, a5⟩, h2, h3, h4, h5⟩, kfr_r s⟩
  · obtain ⟨j, hj⟩ : ∃ j : Nat, s 54 1 = (j : Int) := ⟨(s 54 1).toNat, by omega⟩
    rw [if_neg h6, hj, gI_n (show j < 400 by omega), Option.bind_some, gLet_eq, gLet_eq]
    refine ⟨_, rfl, ⟨⟨p, a1, a2, ?_, ?_, ?_⟩, ?_, h3, ?_⟩, fun z z1 z2 z3 => by rw [gU_n _ _ _ z2, gU_n _ _ _ z3]⟩
    · rw [gU_n _ _ _ (by decide), gU_n _ _ _ (by decide)]; exact a3
    · rw [gU_n _ _ _ (by decide), gU_n _ _ _ (by decide)]; exact a4
    · rw [gU_n _ _ _ (by decide), gU_n _ _ _ (by decide)]; exact a5
    · rw [gU_n _ _ _ (by decide), gU_n _ _ _ (by decide)]; exact h2
    · rw [gUs, gU_n _ _ _ (by decide), hj, wI_s (by omega)]
      omega
theorem flg_app (c : List Int) {x : Int} (hx : x ≠ -7) : flg (c ++ [x]) = flg c := by
  unfold flg
  by_cases h : (-7 : Int) ∈ c
  · rw [if_pos h, if_pos (List.mem_append_left _ h)]
  · rw [if_neg h, if_neg]
    intro q
    rw [List.mem_append, List.mem_singleton] at q
    rcases q with q | q
    · exact h q
    · exact hx q.symm
/-- a sign put down -/
theorem e_emitX {T : Nat → Int} {L : Nat} {c : List Int} {p n : Nat} {s : kM} (h : KXr T L c p n s) {x : Int} (hx : x ≠ -7) : ∃ t, f_RuleText_emit x s = some t ∧ KXr T L (c ++ [x]) p n t ∧ kfr s t := by
  obtain ⟨⟨a1, a2, a3, a4, a5⟩, h2, h3, h4, h5⟩ := h
  obtain ⟨t, g, t1, t2, t3⟩ := e_emit h4 x
  refine ⟨t, g, ⟨⟨a1, a2, ?_, ?_, ?_⟩, ?_, ?_, t1, ?_⟩, fun z z1 z2 z3 => t2 z z2 z3⟩
  · rw [t2 1 (by decide) (by decide)]; exact a3
  · rw [t2 1 (by decide) (by decide)]; exact a4
  · rw [t2 2 (by decide) (by decide)]; exact a5
  · rw [t2 1 (by decide) (by decide)]; exact h2
  · rw [t3 2 (by decide)]; exact h3
  · rw [t3 3 (by decide), h5, flg_app c hx]
theorem e_wn {w : Nat} (hw : w < 8) (s : kM) : f_RuleText_wordNamed (w : Int) s = some (5 + w) := by
  unfold f_RuleText_wordNamed
  have : w = 0 ∨ w = 1 ∨ w = 2 ∨ w = 3 ∨ w = 4 ∨ w = 5 ∨ w = 6 ∨ w = 7 := by omega
  rcases this with h | h | h | h | h | h | h | h <;> subst h <;> rfl
theorem e_seenWord {T : Nat → Int} {L q : Nat} {s : kM} (h : KTp T L q s) (hq : bl T L q = q) : f_RuleText_seenWord s = some (if fw T L q 8 0 < 8 then ((fw T L q 8 0 : Nat) : Int) else -1, s) := by
  unfold f_RuleText_seenWord f_RuleText_seenWord_2
  apply wp_eq
  obtain ⟨F, hF⟩ : ∃ F, fw T L q 8 0 = F := ⟨_, rfl⟩
  rw [hF]
  refine wp_for 8 (fun k x => x.1 = (k : Int) ∧ x.2 = s ∧ F = fw T L q (8 - k) k) 0 _ (by omega) (by omega) (by exact ⟨rfl, rfl, hF.symm⟩) ?_ ?_
  · rintro k ⟨y1, t⟩ _ hk ⟨rfl, rfl, e⟩
    dsimp only
    have eid : gU t 1 2 ((q : Nat) : Int) = t := gU_id h.2.2.2.1
    unfold f_RuleText_seenWord_2b
    rw [if_neg (by omega), e_wn hk, Option.bind_some, e_seesWord h (show 5 + k < 30 by omega), Option.bind_some, hq, eid]
    dsimp only
    rw [show 8 - k = (8 - (k + 1)) + 1 by omega, fw_s] at e
    unfold wnm at e
    by_cases hs : std T L q (kstrs.getD (5 + k) []) = true
    · rw [if_pos hs] at e ⊢
      rw [if_neg (by decide), wp_some, gE_r, e, if_pos hk]
    · rw [if_neg hs] at e ⊢
      rw [if_pos rfl, wp_some, gE_l, wI_s (by omega)]
      exact ⟨rfl, rfl, e⟩
  · rintro ⟨y1, t⟩ ⟨rfl, rfl, e⟩
    dsimp only
    unfold f_RuleText_seenWord_2b
    have e8 : F = 8 := e
    rw [if_pos (by decide), wp_some, gE_r, e8, if_neg (by decide)]
theorem KXr_n {T : Nat → Int} {L : Nat} {c : List Int} {p n : Nat} {s : kM} (h : KXr T L c p n s) (hn : n < 60) : KXr T L c p (n + 1) (gU s 54 2 (wI (s 54 2 + 1))) := by
  obtain ⟨⟨a1, a2, a3, a4, a5⟩, h2, h3, h4, h5⟩ := h
  refine ⟨⟨a1, a2, ?_, ?_, ?_⟩, ?_, ?_, ⟨?_, ?_⟩, ?_⟩
  · rw [gU_n _ _ _ (by decide)]; exact a3
  · rw [gU_n _ _ _ (by decide)]; exact a4
  · rw [gU_n _ _ _ (by decide)]; exact a5
  · rw [gU_n _ _ _ (by decide)]; exact h2
  · rw [gUs, h3, wI_s (by omega)]
  · rw [gUo _ _ _ (by decide)]; exact h4.1
  · rw [gU_n _ _ _ (by decide)]; exact h4.2
  · rw [gUo _ _ _ (by decide)]; exact h5
