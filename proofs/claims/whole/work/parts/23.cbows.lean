/-! the reference's bows -/
def rA (A : zA) (j : Nat) : Nat := if j < aF A then 0 else aF A
def rE (A : zA) (j : Nat) : Nat := if j < aF A then aF A else aN A
def rB (A : zA) (j : Nat) : Nat := if j < aF A then 0 else nb (ap A) 0 (aF A)
def ru (A : zA) (j : Nat) : Nat := uc (ap A) (rA A j) (rE A j - rA A j)
def rc (A : zA) (j : Nat) : Nat := uc (ap A) (rA A j) (j + 1 - rA A j)
/-- the bow that begins at a place, or -1 -/
def bgA (A : zA) (j : Nat) : Int := if ap A j % 2 = 0 then ((rB A j + uc (ap A) (rA A j) (j - rA A j) : Nat) : Int) else if j = rA A j ∧ ru A j = 0 then ((rB A j : Nat) : Int) else -1
def bbc (A : zA) : Nat → Nat
  | 0 => 0
  | q + 1 => bbc A q + if bgA A q = -1 then 0 else 1
theorem bbc_s (A : zA) (q : Nat) : bbc A (q + 1) = bbc A q + if bgA A q = -1 then 0 else 1 := rfl
theorem rAE {A : zA} (hA : okB A) {j : Nat} (hj : j < aN A) : rA A j ≤ j ∧ j < rE A j ∧ rE A j ≤ aN A := by
  have := okB_n hA
  unfold rA rE
  split <;> omega
theorem bwA_r (A : zA) (j : Nat) : bwA A j = bw (ap A) (rA A j) (rE A j) (rB A j) j := by
  unfold bwA rA rE rB
  split <;> rfl
theorem rc_s {A : zA} (hA : okB A) {j : Nat} (hj : j < aN A) : rc A j = uc (ap A) (rA A j) (j - rA A j) + if ap A j % 2 = 0 then 1 else 0 := by
  obtain ⟨h1, h2, h3⟩ := rAE hA hj
  unfold rc
  rw [show j + 1 - rA A j = (j - rA A j) + 1 by omega, uc_succ, show rA A j + (j - rA A j) = j by omega]
theorem rc_ru {A : zA} (hA : okB A) {j : Nat} (hj : j < aN A) : rc A j ≤ ru A j := by
  obtain ⟨h1, h2, h3⟩ := rAE hA hj
  exact uc_mono _ _ _ (by omega)
theorem bg_bw {A : zA} (hA : okB A) {j : Nat} (hj : j < aN A) (h : bgA A j ≠ -1) : bgA A j = ((bwA A j : Nat) : Int) := by
  have e1 := rc_s hA hj
  have e2 := rc_ru hA hj
  rw [bwA_r]
  unfold bw
  show _ = ((if ru A j = 0 then rB A j else if rc A j = 0 then rB A j + ru A j - 1 else rB A j + rc A j - 1 : Nat) : Int)
  unfold bgA at h ⊢
  by_cases hu : ap A j % 2 = 0
  · rw [if_pos hu] at e1 ⊢
    rw [if_neg (by omega), if_neg (by omega)]
    omega
  · rw [if_neg hu] at h ⊢
    by_cases hc : j = rA A j ∧ ru A j = 0
    · rw [if_pos hc, if_pos hc.2]
    · rw [if_neg hc] at h
      exact absurd rfl h
/-- how far back a bow's begin may be -/
def bm (A : zA) (j : Nat) : Nat := if ru A j = 0 ∨ rc A j ≠ 0 then j - rA A j else j - rA A j + 1 + (rE A j - rA A j)
theorem bg_back {A : zA} (hA : okB A) {j : Nat} (hj : j < aN A) (h : bgA A j = -1) : pv (aF A) (aN A) j < aN A ∧ bwA A (pv (aF A) (aN A) j) = bwA A j ∧ bm A (pv (aF A) (aN A) j) < bm A j := by
  have hn := okB_n hA
  obtain ⟨h1, h2, h3⟩ := rAE hA hj
  have e1 := rc_s hA hj
  have hover : ap A j % 2 ≠ 0 := by
    intro q
    unfold bgA at h
    rw [if_pos q] at h
    omega
  have hnf : ¬ (j = rA A j ∧ ru A j = 0) := by
    intro q
    unfold bgA at h
    rw [if_neg hover, if_pos q] at h
    omega
  rw [if_neg hover] at e1
  obtain ⟨i, hi⟩ : ∃ i, pv (aF A) (aN A) j = i := ⟨_, rfl⟩
  rw [hi]
  by_cases hja : j = rA A j
  · -- round to the end of the road
    have hie : i = rE A j - 1 := by
      rw [← hi]
      unfold pv rE
      unfold rA at hja
      by_cases hF : j < aF A
      · rw [if_pos hF] at hja ⊢
        rw [if_pos hF, if_pos hja]
      · rw [if_neg hF] at hja ⊢
        rw [if_neg hF, if_pos hja]
    have hlt : i < aN A := by omega
    have hr : rA A i = rA A j ∧ rE A i = rE A j ∧ rB A i = rB A j := by
      unfold rA rE rB
      unfold rE at hie h2 h3
      by_cases hF : j < aF A
      · rw [if_pos hF] at hie h2 h3
        rw [if_pos hF, if_pos hF, if_pos hF, if_pos (by omega), if_pos (by omega), if_pos (by omega)]
        exact ⟨rfl, rfl, rfl⟩
      · rw [if_neg hF] at hie h2 h3
        rw [if_neg hF, if_neg hF, if_neg hF, if_neg (by omega), if_neg (by omega), if_neg (by omega)]
        exact ⟨rfl, rfl, rfl⟩
    have hru : ru A i = ru A j := by unfold ru; rw [hr.1, hr.2.1]
    have hrc : rc A i = ru A j := by
      unfold rc ru
      rw [hr.1, show i + 1 - rA A j = rE A j - rA A j by omega]
    have hj0 : rc A j = 0 := by
      rw [e1, show j - rA A j = 0 by omega]
      rfl
    have hu0 : ru A j ≠ 0 := fun q => hnf ⟨hja, q⟩
    refine ⟨hlt, ?_, ?_⟩
    · rw [bwA_r, bwA_r, hr.1, hr.2.1, hr.2.2]
      unfold bw
      show (if ru A j = 0 then rB A j else if uc (ap A) (rA A j) (i + 1 - rA A j) = 0 then rB A j + ru A j - 1 else rB A j + uc (ap A) (rA A j) (i + 1 - rA A j) - 1) = (if ru A j = 0 then rB A j else if rc A j = 0 then rB A j + ru A j - 1 else rB A j + rc A j - 1)
      rw [show uc (ap A) (rA A j) (i + 1 - rA A j) = ru A j from by unfold ru; rw [show i + 1 - rA A j = rE A j - rA A j by omega], if_neg hu0, if_neg hu0, if_neg hu0, if_pos hj0]
    · unfold bm
      rw [hru, hrc, hr.1, hr.2.1, if_pos (Or.inr hu0), if_neg (fun q => q.elim hu0 (fun z => z hj0))]
      omega
  · have hij : i = j - 1 := by
      rw [← hi]
      unfold pv
      unfold rA at hja
      by_cases hF : j < aF A
      · rw [if_pos hF] at hja ⊢
        rw [if_neg hja]
      · rw [if_neg hF] at hja ⊢
        rw [if_neg hja]
    have hr : rA A i = rA A j ∧ rE A i = rE A j ∧ rB A i = rB A j := by
      unfold rA at h1 hja
      unfold rA rE rB
      by_cases hF : j < aF A
      · rw [if_pos hF] at h1 hja
        rw [if_pos hF, if_pos hF, if_pos hF, if_pos (by omega), if_pos (by omega), if_pos (by omega)]
        exact ⟨rfl, rfl, rfl⟩
      · rw [if_neg hF] at h1 hja
        rw [if_neg hF, if_neg hF, if_neg hF, if_neg (by omega), if_neg (by omega), if_neg (by omega)]
        exact ⟨rfl, rfl, rfl⟩
    have hru : ru A i = ru A j := by unfold ru; rw [hr.1, hr.2.1]
    have hrc : rc A i = rc A j := by
      rw [e1]
      unfold rc
      rw [hr.1, show i + 1 - rA A j = j - rA A j by omega]
      omega
    refine ⟨by omega, ?_, ?_⟩
    · rw [bwA_r, bwA_r]
      unfold bw
      show (if ru A i = 0 then rB A i else if rc A i = 0 then rB A i + ru A i - 1 else rB A i + rc A i - 1) = (if ru A j = 0 then rB A j else if rc A j = 0 then rB A j + ru A j - 1 else rB A j + rc A j - 1)
      rw [hru, hrc, hr.2.2]
    · unfold bm
      rw [hru, hrc, hr.1, hr.2.1]
      split <;> omega
/-- the count of begins is the bows' numbering -/
theorem bbc_0 {A : zA} (hA : okB A) : ∀ q, q ≤ aF A → bbc A q = if q = 0 then 0 else if uc (ap A) 0 (aF A) = 0 then 1 else uc (ap A) 0 q
  | 0, _ => rfl
  | q + 1, h => by
    have hn := okB_n hA
    have ih := bbc_0 hA q (by omega)
    have hqF : q < aF A := by omega
    have hm := uc_mono (ap A) 0 (m := q + 1) (aF A) h
    have hs := uc_succ (ap A) 0 q
    rw [Nat.zero_add] at hs
    rw [bbc_s, ih, if_neg (show ¬ q + 1 = 0 by omega)]
    have er : rA A q = 0 ∧ rB A q = 0 ∧ ru A q = uc (ap A) 0 (aF A) := by
      unfold ru rA rB rE
      rw [if_pos hqF, if_pos hqF, if_pos hqF]
      exact ⟨rfl, rfl, rfl⟩
    unfold bgA
    rw [er.1, er.2.1, er.2.2, Nat.sub_zero]
    by_cases hu : ap A q % 2 = 0
    · rw [if_pos hu] at hs ⊢
      rw [if_neg (show ¬ ((0 + uc (ap A) 0 q : Nat) : Int) = -1 by omega), if_neg (show ¬ uc (ap A) 0 (aF A) = 0 by omega), if_neg (show ¬ uc (ap A) 0 (aF A) = 0 by omega), hs]
      by_cases hq : q = 0
      · subst hq
        rw [if_pos rfl]
        rfl
      · rw [if_neg hq]
    · rw [if_neg hu] at hs ⊢
      by_cases hc : q = 0 ∧ uc (ap A) 0 (aF A) = 0
      · rw [if_pos hc, if_pos hc.1, if_pos hc.2]
        rfl
      · rw [if_neg hc, if_pos rfl]
        by_cases hq : q = 0
        · subst hq
          rw [if_pos rfl, if_neg (fun z => hc ⟨rfl, z⟩), hs]
          rfl
        · rw [if_neg hq, hs]
          rfl
theorem bbc_1 {A : zA} (hA : okB A) : ∀ q, aF A + q ≤ aN A → bbc A (aF A + q) = nb (ap A) 0 (aF A) + if q = 0 then 0 else if uc (ap A) (aF A) (aN A - aF A) = 0 then 1 else uc (ap A) (aF A) q
  | 0, _ => by
    rw [Nat.add_zero, if_pos rfl, Nat.add_zero, bbc_0 hA _ (Nat.le_refl _)]
    unfold nb
    by_cases h : aF A = 0
    · rw [if_pos h, if_neg (by omega)]
    · rw [if_neg h, if_pos (show 0 < aF A by omega), Nat.sub_zero]
  | q + 1, h => by
    have hn := okB_n hA
    have ih := bbc_1 hA q (by omega)
    have hm := uc_mono (ap A) (aF A) (m := q + 1) (aN A - aF A) (by omega)
    have hs := uc_succ (ap A) (aF A) q
    rw [show aF A + (q + 1) = (aF A + q) + 1 by omega, bbc_s, ih, if_neg (show ¬ q + 1 = 0 by omega)]
    have hqF : ¬ aF A + q < aF A := by omega
    have er : rA A (aF A + q) = aF A ∧ rB A (aF A + q) = nb (ap A) 0 (aF A) ∧ ru A (aF A + q) = uc (ap A) (aF A) (aN A - aF A) := by
      unfold ru rA rB rE
      rw [if_neg hqF, if_neg hqF, if_neg hqF]
      exact ⟨rfl, rfl, rfl⟩
    unfold bgA
    rw [er.1, er.2.1, er.2.2, show aF A + q - aF A = q by omega]
    by_cases hu : ap A (aF A + q) % 2 = 0
    · rw [if_pos hu] at hs ⊢
      rw [if_neg (show ¬ ((nb (ap A) 0 (aF A) + uc (ap A) (aF A) q : Nat) : Int) = -1 by omega), if_neg (show ¬ uc (ap A) (aF A) (aN A - aF A) = 0 by omega), if_neg (show ¬ uc (ap A) (aF A) (aN A - aF A) = 0 by omega), hs]
      by_cases hq : q = 0
      · subst hq
        rw [if_pos rfl]
        rfl
      · rw [if_neg hq]
        omega
    · rw [if_neg hu] at hs ⊢
      by_cases hc : aF A + q = aF A ∧ uc (ap A) (aF A) (aN A - aF A) = 0
      · rw [if_pos hc, if_pos (show q = 0 by omega), if_neg (show ¬ ((nb (ap A) 0 (aF A) : Nat) : Int) = -1 by omega), if_pos hc.2]
      · rw [if_neg hc, if_pos rfl]
        by_cases hq : q = 0
        · subst hq
          rw [if_pos rfl, if_neg (fun z => hc ⟨rfl, z⟩), hs]
          rfl
        · rw [if_neg hq, hs]
          rfl
theorem bg_bbc {A : zA} (hA : okB A) {q : Nat} (hq : q < aN A) (h : bgA A q ≠ -1) : bgA A q = ((bbc A q : Nat) : Int) := by
  have hn := okB_n hA
  unfold bgA at h ⊢
  by_cases hF : q < aF A
  · have e := bbc_0 hA q (by omega)
    have hm := uc_mono (ap A) 0 (m := q + 1) (aF A) (by omega)
    have hs := uc_succ (ap A) 0 q
    rw [Nat.zero_add] at hs
    have er : rA A q = 0 ∧ rB A q = 0 ∧ ru A q = uc (ap A) 0 (aF A) := by
      unfold ru rA rB rE
      rw [if_pos hF, if_pos hF, if_pos hF]
      exact ⟨rfl, rfl, rfl⟩
    rw [er.1, er.2.1, er.2.2] at h ⊢
    by_cases hu : ap A q % 2 = 0
    · rw [if_pos hu] at hs ⊢
      rw [e]
      by_cases h0 : q = 0
      · subst h0; rfl
      · rw [if_neg h0, if_neg (by omega), Nat.sub_zero, Nat.zero_add]
    · rw [if_neg hu] at h ⊢
      by_cases hc : q = 0 ∧ uc (ap A) 0 (aF A) = 0
      · rw [if_pos hc, e, if_pos hc.1]
      · rw [if_neg hc] at h
        exact absurd rfl h
  · obtain ⟨d, rfl⟩ : ∃ d, q = aF A + d := ⟨q - aF A, by omega⟩
    have e := bbc_1 hA d (by omega)
    have hm := uc_mono (ap A) (aF A) (m := d + 1) (aN A - aF A) (by omega)
    have hs := uc_succ (ap A) (aF A) d
    have er : rA A (aF A + d) = aF A ∧ rB A (aF A + d) = nb (ap A) 0 (aF A) ∧ ru A (aF A + d) = uc (ap A) (aF A) (aN A - aF A) := by
      unfold ru rA rB rE
      rw [if_neg hF, if_neg hF, if_neg hF]
      exact ⟨rfl, rfl, rfl⟩
    rw [er.1, er.2.1, er.2.2] at h ⊢
    by_cases hu : ap A (aF A + d) % 2 = 0
    · rw [if_pos hu] at hs ⊢
      rw [e, show aF A + d - aF A = d by omega]
      by_cases h0 : d = 0
      · subst h0; rfl
      · rw [if_neg h0, if_neg (by omega)]
    · rw [if_neg hu] at h ⊢
      by_cases hc : aF A + d = aF A ∧ uc (ap A) (aF A) (aN A - aF A) = 0
      · rw [if_pos hc, e, if_pos (show d = 0 by omega), Nat.add_zero]
      · rw [if_neg hc] at h
        exact absurd rfl h
