/-! the grammar, once for both sides -/
abbrev pR : Type := Sum Nat (List Int × Nat × Nat)
def bR (r : pR) (f : List Int → Nat → Nat → pR) : pR := match r with
  | .inl e => .inl e
  | .inr x => f x.1 x.2.1 x.2.2
theorem bR_l (e : Nat) (f : List Int → Nat → Nat → pR) : bR (.inl e) f = .inl e := rfl
theorem bR_r (c : List Int) (p n : Nat) (f : List Int → Nat → Nat → pR) : bR (.inr (c, p, n)) f = f c p n := rfl
theorem bR_i {r : pR} {f : List Int → Nat → Nat → pR} {y : List Int × Nat × Nat} (h : bR r f = .inr y) : ∃ c p n, r = .inr (c, p, n) ∧ f c p n = .inr y := by
  cases r with
  | inl e => cases h
  | inr x => exact ⟨x.1, x.2.1, x.2.2, rfl, h⟩
def wnm (w : Nat) : List Int := kstrs.getD (5 + w) []
def fw (T : Nat → Int) (L q : Nat) : Nat → Nat → Nat
  | 0, w => w
  | k + 1, w => if std T L q (wnm w) = true then w else fw T L q k (w + 1)
theorem fw_s (T : Nat → Int) (L q k w : Nat) : fw T L q (k + 1) w = if std T L q (wnm w) = true then w else fw T L q k (w + 1) := rfl
theorem fw_std {T : Nat → Int} {L q : Nat} : ∀ k w, fw T L q k w < w + k → std T L q (wnm (fw T L q k w)) = true
  | 0, w, h => by
    have : fw T L q 0 w = w := rfl
    omega
  | k + 1, w, h => by
    rw [fw_s] at h ⊢
    by_cases hs : std T L q (wnm w) = true
    · rw [if_pos hs]
      exact hs
    · rw [if_neg hs] at h ⊢
      exact fw_std k (w + 1) (by omega)
def pV (T : Nat → Int) (L p n : Nat) : pR := if dgt T L (bl T L p) = true then (if drn T L (bl T L p) ≤ 5 then (if n < 60 then .inr ([((val T L (bl T L p) : Nat) : Int)], bl T L p + drn T L (bl T L p), n + 1) else .inl (flt (bl T L p) 3)) else .inl (flt (bl T L p) 1)) else (if fw T L (bl T L p) 8 0 < 8 then (if n < 60 then .inr ([-1 - ((fw T L (bl T L p) 8 0 : Nat) : Int)], bl T L p + (wnm (fw T L (bl T L p) 8 0)).length, n + 1) else .inl (flt (bl T L p) 3)) else .inl (flt (bl T L p) 0))
/-- what joins on a level -/
def jt (T : Nat → Int) (L lv q : Nat) : Option (Nat × Int) := if lv = 0 then (if std T L q (kstrs.getD 13 []) = true then some (q + 2, -21) else none) else if lv = 1 then (if std T L q (kstrs.getD 14 []) = true then some (q + 3, -20) else none) else if lv = 3 then (if q < L ∧ T q = 43 then some (q + 1, -10) else if q < L ∧ T q = 45 then some (q + 1, -11) else none) else (if q < L ∧ T q = 42 then some (q + 1, -12) else if q < L ∧ T q = 47 then some (q + 1, -13) else if q < L ∧ T q = 37 then some (q + 1, -14) else none)
def pJn (T : Nat → Int) (L : Nat) (I : Nat → Nat → pR) (lv : Nat) : Nat → List Int → Nat → Nat → pR
  | 0, _, _, _ => .inl 0
  | k + 1, c, p, n => match jt T L lv (bl T L p) with
    | none => .inr (c, bl T L p, n)
    | some j => bR (I j.1 n) (fun c2 p3 n3 => pJn T L I lv k (c ++ c2 ++ [j.2]) p3 n3)
theorem pJn_n {T : Nat → Int} {L : Nat} {I : Nat → Nat → pR} {lv k : Nat} {c : List Int} {p n : Nat} (h : jt T L lv (bl T L p) = none) : pJn T L I lv (k + 1) c p n = .inr (c, bl T L p, n) := by
  show (match jt T L lv (bl T L p) with | none => (Sum.inr (c, bl T L p, n) : pR) | some j => bR (I j.1 n) (fun c2 p3 n3 => pJn T L I lv k (c ++ c2 ++ [j.2]) p3 n3)) = _
  rw [h]
theorem pJn_s {T : Nat → Int} {L : Nat} {I : Nat → Nat → pR} {lv k : Nat} {c : List Int} {p n : Nat} {j : Nat × Int} (h : jt T L lv (bl T L p) = some j) : pJn T L I lv (k + 1) c p n = bR (I j.1 n) (fun c2 p3 n3 => pJn T L I lv k (c ++ c2 ++ [j.2]) p3 n3) := by
  show (match jt T L lv (bl T L p) with | none => (Sum.inr (c, bl T L p, n) : pR) | some j => bR (I j.1 n) (fun c2 p3 n3 => pJn T L I lv k (c ++ c2 ++ [j.2]) p3 n3)) = _
  rw [h]
def pSq (T : Nat → Int) (L : Nat) (I : Nat → Nat → pR) (lv p n : Nat) : pR := bR (I p n) (fun c p' n' => pJn T L I lv 401 c p' n')
def pSm (T : Nat → Int) (L : Nat) : Nat → Nat → pR := pSq T L (pSq T L (pV T L) 4) 3
def csg (T : Nat → Int) (L q : Nat) : Int := if q < L ∧ T q = 61 then -17 else if q < L ∧ T q = 60 then (if q + 1 < L ∧ T (q + 1) = 61 then -16 else -15) else if q < L ∧ T q = 62 then (if q + 1 < L ∧ T (q + 1) = 61 then -18 else -19) else 0
def csl (x : Int) : Nat := if x = -16 ∨ x = -18 then 2 else 1
def pC (T : Nat → Int) (L p n : Nat) : pR := bR (pSm T L p n) (fun c q n1 => if csg T L q = 0 then .inl (flt q 0) else if n1 < 60 then bR (pSm T L (q + csl (csg T L q)) (n1 + 1)) (fun c2 q2 n2 => .inr (c ++ c2 ++ [csg T L q], q2, n2)) else .inl (flt q 3))
def pT (T : Nat → Int) (L : Nat) (I : Nat → Nat → pR) : Nat → Nat → pR := pSq T L (pSq T L I 1) 0
def isN (T : Nat → Int) (L q : Nat) : Bool := std T L q (kstrs.getD 4 [])
def pF (T : Nat → Int) (L : Nat) : Nat → Nat → Nat → pR
  | 0, p, n => if isN T L (bl T L p) = true ∨ (bl T L p < L ∧ T (bl T L p) = 91) then .inl (flt (bl T L p) 2) else pC T L (bl T L p) n
  | e + 1, p, n => if isN T L (bl T L p) = true then bR (pF T L e (bl T L p + 3) n) (fun c p' n' => .inr (c ++ [-22], p', n')) else if bl T L p < L ∧ T (bl T L p) = 91 then bR (pT T L (pF T L e) (bl T L p + 1) n) (fun c p' n' => if p' < L ∧ T p' = 93 then .inr (c, p' + 1, n') else .inl (flt p' 0)) else pC T L (bl T L p) n
theorem pF_0 (T : Nat → Int) (L p n : Nat) : pF T L 0 p n = if isN T L (bl T L p) = true ∨ (bl T L p < L ∧ T (bl T L p) = 91) then .inl (flt (bl T L p) 2) else pC T L (bl T L p) n := rfl
theorem pF_s (T : Nat → Int) (L e p n : Nat) : pF T L (e + 1) p n = if isN T L (bl T L p) = true then bR (pF T L e (bl T L p + 3) n) (fun c p' n' => .inr (c ++ [-22], p', n')) else if bl T L p < L ∧ T (bl T L p) = 91 then bR (pT T L (pF T L e) (bl T L p + 1) n) (fun c p' n' => if p' < L ∧ T p' = 93 then .inr (c, p' + 1, n') else .inl (flt p' 0)) else pC T L (bl T L p) n := rfl
def pCl (T : Nat → Int) (L ah p n : Nat) : pR := if std T L (bl T L p) (kstrs.getD 3 []) = true then (if ah = 12 then .inl (flt (bl T L p) 4) else pT T L (pF T L 10) (bl T L p + 3) n) else .inl (flt (bl T L p) 0)
/-- what a piece of the grammar keeps -/
def It (L : Nat) (b : Bool) (I : Nat → Nat → pR) : Prop := ∀ p n, p ≤ L → n ≤ 60 → (∀ e, I p n = .inl e → e ≠ 0) ∧ ∀ c p' n', I p n = .inr (c, p', n') → (p < p' ∧ p' ≤ L ∧ n < n' ∧ n' ≤ 60) ∧ 3 * c.length + 3 ≤ 6 * (n' - n) + (p' - p) ∧ pus c ≤ n' - n ∧ WF b c
theorem flt_0 (p c : Nat) : flt p c ≠ 0 := by unfold flt; omega
theorem dgt_i {T : Nat → Int} {L p : Nat} (h : dgt T L p = true) : 1 ≤ drn T L p ∧ p < L := by
  rw [drn_go h]
  unfold dgt at h
  rw [decide_eq_true_eq] at h
  omega
theorem wnm_8 : ∀ w : Fin 8, 2 ≤ (wnm w.val).length ∧ (wnm w.val).length ≤ 7 := by decide
theorem It_V {T : Nat → Int} {L : Nat} : It L false (pV T L) := by
  intro p n hp hn
  have hb := bl_le (T := T) hp
  unfold pV
  by_cases hd : dgt T L (bl T L p) = true
  · have h1 := dgt_i hd
    have h2 := drn_le T L _ (bl T L p) rfl
    rw [if_pos hd]
    by_cases h5 : drn T L (bl T L p) ≤ 5
    · rw [if_pos h5]
      by_cases h6 : n < 60
      · rw [if_pos h6]
        refine ⟨fun e he => (by cases he), fun c p' n' h => ?_⟩
        injection h with h
        injection h with r1 h
        injection h with r2 r3
        subst r1 r2 r3
        have := val_lt T L (bl T L p)
        refine ⟨by omega, by show 3 * 1 + 3 ≤ _; omega, ?_, WF_1 (by omega) (by omega)⟩
        show (if _ then 1 else 0) + 0 ≤ _
        split <;> omega
      · rw [if_neg h6]
        exact ⟨fun e he => by injection he with he; rw [← he]; exact flt_0 _ _, fun c p' n' h => (by cases h)⟩
    · rw [if_neg h5]
      exact ⟨fun e he => by injection he with he; rw [← he]; exact flt_0 _ _, fun c p' n' h => (by cases h)⟩
  · rw [if_neg hd]
    by_cases hw : fw T L (bl T L p) 8 0 < 8
    · rw [if_pos hw]
      have hs := fw_std (T := T) (L := L) (q := bl T L p) 8 0 (by omega)
      have hl := std_len hb.2 hs
      have h8 := wnm_8 ⟨_, hw⟩
      dsimp only at h8
      by_cases h6 : n < 60
      · rw [if_pos h6]
        refine ⟨fun e he => (by cases he), fun c p' n' h => ?_⟩
        injection h with h
        injection h with r1 h
        injection h with r2 r3
        subst r1 r2 r3
        refine ⟨by omega, by show 3 * 1 + 3 ≤ _; omega, ?_, WF_1 (by omega) (by omega)⟩
        show (if _ then 1 else 0) + 0 ≤ _
        split <;> omega
      · rw [if_neg h6]
        exact ⟨fun e he => by injection he with he; rw [← he]; exact flt_0 _ _, fun c p' n' h => (by cases h)⟩
    · rw [if_neg hw]
      exact ⟨fun e he => by injection he with he; rw [← he]; exact flt_0 _ _, fun c p' n' h => (by cases h)⟩
theorem jt_i {T : Nat → Int} {L lv q : Nat} {j : Nat × Int} (hq : q ≤ L) (h : jt T L lv q = some j) : (q < j.1 ∧ j.1 ≤ L) ∧ (-21 ≤ j.2 ∧ j.2 ≤ -10) ∧ (lv < 2 → j.2 = -21 ∨ j.2 = -20) := by
  unfold jt at h
  by_cases h0 : lv = 0
  · rw [if_pos h0] at h
    by_cases hs : std T L q (kstrs.getD 13 []) = true
    · have hl : q + 2 ≤ L := std_len hq hs
      rw [if_pos hs] at h
      injection h with h
      rw [← h]
      exact ⟨by dsimp only; omega, by dsimp only; omega, fun _ => Or.inl rfl⟩
    · rw [if_neg hs] at h
      cases h
  · rw [if_neg h0] at h
    by_cases h1 : lv = 1
    · rw [if_pos h1] at h
      by_cases hs : std T L q (kstrs.getD 14 []) = true
      · have hl : q + 3 ≤ L := std_len hq hs
        rw [if_pos hs] at h
        injection h with h
        rw [← h]
        exact ⟨by dsimp only; omega, by dsimp only; omega, fun _ => Or.inr rfl⟩
      · rw [if_neg hs] at h
        cases h
    · rw [if_neg h1] at h
      have fin : ∀ (P : Prop) (x : Int), P → (P → q < L) → (-21 ≤ x ∧ x ≤ -10) → some (q + 1, x) = some j → (q < j.1 ∧ j.1 ≤ L) ∧ (-21 ≤ j.2 ∧ j.2 ≤ -10) ∧ (lv < 2 → j.2 = -21 ∨ j.2 = -20) := by
        intro P x hP hPL hx h
        injection h with h
        have := hPL hP
        rw [← h]
        exact ⟨by dsimp only; omega, hx, fun _ => by omega⟩
      by_cases h3 : lv = 3
      · rw [if_pos h3] at h
        by_cases c1 : q < L ∧ T q = 43
        · rw [if_pos c1] at h
          exact fin _ _ c1 (fun q => q.1) (by decide) h
        · rw [if_neg c1] at h
          by_cases c2 : q < L ∧ T q = 45
          · rw [if_pos c2] at h
            exact fin _ _ c2 (fun q => q.1) (by decide) h
          · rw [if_neg c2] at h
            cases h
      · rw [if_neg h3] at h
        by_cases c1 : q < L ∧ T q = 42
        · rw [if_pos c1] at h
          exact fin _ _ c1 (fun q => q.1) (by decide) h
        · rw [if_neg c1] at h
          by_cases c2 : q < L ∧ T q = 47
          · rw [if_pos c2] at h
            exact fin _ _ c2 (fun q => q.1) (by decide) h
          · rw [if_neg c2] at h
            by_cases c3 : q < L ∧ T q = 37
            · rw [if_pos c3] at h
              exact fin _ _ c3 (fun q => q.1) (by decide) h
            · rw [if_neg c3] at h
              cases h
/-- a chain -/
theorem Lp_i {T : Nat → Int} {L : Nat} {b : Bool} {I : Nat → Nat → pR} (hI : It L b I) {lv : Nat} (hlv : b = true → lv < 2) {p0 n0 : Nat} : ∀ k c p n, L - p < k → p0 < p → p ≤ L → n0 < n → n ≤ 60 → 3 * c.length + 3 ≤ 6 * (n - n0) + (p - p0) → pus c ≤ n - n0 → WF b c → (∀ e, pJn T L I lv k c p n = .inl e → e ≠ 0) ∧ ∀ c' p' n', pJn T L I lv k c p n = .inr (c', p', n') → ((p0 < p' ∧ p' ≤ L ∧ n0 < n' ∧ n' ≤ 60) ∧ 3 * c'.length + 3 ≤ 6 * (n' - n0) + (p' - p0) ∧ pus c' ≤ n' - n0 ∧ WF b c') ∧ bl T L p' = p'
  | 0, c, p, n, hk, _, _, _, _, _, _, _ => by omega
  | k + 1, c, p, n, hk, h1, h2, h3, h4, h5, h6, h7 => by
    have hb := bl_le (T := T) h2
    cases hj : jt T L lv (bl T L p) with
    | none =>
      rw [pJn_n hj]
      refine ⟨fun e he => (by cases he), fun c' p' n' h => ?_⟩
      injection h with h
      injection h with r1 h
      injection h with r2 r3
      subst r1 r2 r3
      exact ⟨⟨by omega, by omega, h6, h7⟩, bl_bl _ _ rfl⟩
    | some j =>
      obtain ⟨⟨j1, j2⟩, j3, j4⟩ := jt_i hb.2 hj
      rw [pJn_s hj]
      obtain ⟨i1, i2⟩ := hI j.1 n j2 h4
      cases hr : I j.1 n with
      | inl e0 =>
        rw [bR_l]
        exact ⟨fun e he => by injection he with he; rw [← he]; exact i1 e0 hr, fun c' p' n' h => (by cases h)⟩
      | inr y =>
        obtain ⟨c2, p3, n3⟩ := y
        rw [bR_r]
        obtain ⟨⟨u1, u2, u3, u4⟩, u5, u6, u7⟩ := i2 c2 p3 n3 hr
        have hlen : (c ++ c2 ++ [j.2]).length = c.length + c2.length + 1 := by rw [List.length_append, List.length_append]; rfl
        have hpus : pus (c ++ c2 ++ [j.2]) = pus c + pus c2 := by
          rw [pus_app, pus_app]
          show pus c + pus c2 + ((if _ then 1 else 0) + 0) = _
          rw [if_neg (by omega)]
          omega
        exact Lp_i hI hlv k (c ++ c2 ++ [j.2]) p3 n3 (by omega) (by omega) u2 (by omega) u4 (by rw [hlen]; omega) (by rw [hpus]; omega) (WF_2 h7 u7 j3.1 j3.2 (fun hb => ⟨by have := j4 (hlv hb); omega, fun _ => hb⟩))
theorem It_Sq {T : Nat → Int} {L : Nat} (hL : L ≤ 400) {b : Bool} {I : Nat → Nat → pR} (hI : It L b I) {lv : Nat} (hlv : b = true → lv < 2) : It L b (pSq T L I lv) ∧ ∀ p n c p' n', p ≤ L → n ≤ 60 → pSq T L I lv p n = .inr (c, p', n') → bl T L p' = p' := by
  have key : ∀ p n, p ≤ L → n ≤ 60 → ((∀ e, pSq T L I lv p n = .inl e → e ≠ 0) ∧ ∀ c' p' n', pSq T L I lv p n = .inr (c', p', n') → ((p < p' ∧ p' ≤ L ∧ n < n' ∧ n' ≤ 60) ∧ 3 * c'.length + 3 ≤ 6 * (n' - n) + (p' - p) ∧ pus c' ≤ n' - n ∧ WF b c') ∧ bl T L p' = p') := by
    intro p n hp hn
    obtain ⟨i1, i2⟩ := hI p n hp hn
    unfold pSq
    cases hr : I p n with
    | inl e0 =>
      rw [bR_l]
      exact ⟨fun e he => by injection he with he; rw [← he]; exact i1 e0 hr, fun c' p' n' h => (by cases h)⟩
    | inr y =>
      obtain ⟨c2, p3, n3⟩ := y
      rw [bR_r]
      obtain ⟨⟨u1, u2, u3, u4⟩, u5, u6, u7⟩ := i2 c2 p3 n3 hr
      exact Lp_i hI hlv 401 c2 p3 n3 (by omega) u1 u2 u3 u4 u5 u6 u7
  exact ⟨fun p n hp hn => ⟨(key p n hp hn).1, fun c p' n' h => ((key p n hp hn).2 c p' n' h).1⟩, fun p n c p' n' hp hn h => ((key p n hp hn).2 c p' n' h).2⟩
theorem It_Sm {T : Nat → Int} {L : Nat} (hL : L ≤ 400) : It L false (pSm T L) ∧ ∀ p n c p' n', p ≤ L → n ≤ 60 → pSm T L p n = .inr (c, p', n') → bl T L p' = p' := It_Sq hL (It_Sq hL It_V (fun h => (by cases h))).1 (fun h => (by cases h))
theorem csg_i {T : Nat → Int} {L q : Nat} (h : csg T L q ≠ 0) : (-19 ≤ csg T L q ∧ csg T L q ≤ -15) ∧ (1 ≤ csl (csg T L q) ∧ q + csl (csg T L q) ≤ L) := by
  unfold csg csl at *
  by_cases h1 : q < L ∧ T q = 61
  · rw [if_pos h1]
    refine ⟨by omega, ?_⟩
    rw [if_neg (by decide)]
    omega
  · rw [if_neg h1] at h ⊢
    by_cases h2 : q < L ∧ T q = 60
    · rw [if_pos h2] at h ⊢
      by_cases h3 : q + 1 < L ∧ T (q + 1) = 61
      · rw [if_pos h3, if_pos (by decide)]
        omega
      · rw [if_neg h3, if_neg (by decide)]
        omega
    · rw [if_neg h2] at h ⊢
      by_cases h4 : q < L ∧ T q = 62
      · rw [if_pos h4] at h ⊢
        by_cases h3 : q + 1 < L ∧ T (q + 1) = 61
        · rw [if_pos h3, if_pos (by decide)]
          omega
        · rw [if_neg h3, if_neg (by decide)]
          omega
      · rw [if_neg h4] at h
        exact absurd rfl h
theorem It_C {T : Nat → Int} {L : Nat} (hL : L ≤ 400) : It L true (pC T L) := by
  intro p n hp hn
  obtain ⟨i1, i2⟩ := (It_Sm (T := T) hL).1 p n hp hn
  unfold pC
  cases hr : pSm T L p n with
  | inl e0 =>
    rw [bR_l]
    exact ⟨fun e he => by injection he with he; rw [← he]; exact i1 e0 hr, fun c' p' n' h => (by cases h)⟩
  | inr y =>
    obtain ⟨c, q, n1⟩ := y
    rw [bR_r]
    obtain ⟨⟨u1, u2, u3, u4⟩, u5, u6, u7⟩ := i2 c q n1 hr
    by_cases hc : csg T L q = 0
    · rw [if_pos hc]
      exact ⟨fun e he => by injection he with he; rw [← he]; exact flt_0 _ _, fun c p' n' h => (by cases h)⟩
    · rw [if_neg hc]
      by_cases h6 : n1 < 60
      · rw [if_pos h6]
        obtain ⟨x1, x2⟩ := csg_i hc
        obtain ⟨k1, k2⟩ := (It_Sm (T := T) hL).1 (q + csl (csg T L q)) (n1 + 1) x2.2 (by omega)
        cases hr2 : pSm T L (q + csl (csg T L q)) (n1 + 1) with
        | inl e0 =>
          rw [bR_l]
          exact ⟨fun e he => by injection he with he; rw [← he]; exact k1 e0 hr2, fun c' p' n' h => (by cases h)⟩
        | inr y =>
          obtain ⟨c2, q2, n2⟩ := y
          rw [bR_r]
          obtain ⟨⟨w1, w2, w3, w4⟩, w5, w6, w7⟩ := k2 c2 q2 n2 hr2
          refine ⟨fun e he => (by cases he), fun c' p' n' h => ?_⟩
          injection h with h
          injection h with r1 h
          injection h with r2 r3
          subst r1 r2 r3
          refine ⟨by omega, ?_, ?_, WF_2 u7 w7 (by omega) (by omega) (fun _ => ⟨by omega, fun h => by omega⟩)⟩
          · rw [List.length_append, List.length_append]
            show 3 * (_ + _ + 1) + 3 ≤ _
            omega
          · rw [pus_app, pus_app]
            show pus c + pus c2 + ((if _ then 1 else 0) + 0) ≤ _
            rw [if_neg (by omega)]
            omega
      · rw [if_neg h6]
        exact ⟨fun e he => by injection he with he; rw [← he]; exact flt_0 _ _, fun c p' n' h => (by cases h)⟩
theorem It_T {T : Nat → Int} {L : Nat} (hL : L ≤ 400) {I : Nat → Nat → pR} (hI : It L true I) : It L true (pT T L I) ∧ ∀ p n c p' n', p ≤ L → n ≤ 60 → pT T L I p n = .inr (c, p', n') → bl T L p' = p' := It_Sq hL (It_Sq hL hI (fun _ => by decide)).1 (fun _ => by decide)
theorem It_F {T : Nat → Int} {L : Nat} (hL : L ≤ 400) : ∀ e, It L true (pF T L e)
  | 0 => by
    intro p n hp hn
    have hb := bl_le (T := T) hp
    rw [pF_0]
    by_cases h : isN T L (bl T L p) = true ∨ (bl T L p < L ∧ T (bl T L p) = 91)
    · rw [if_pos h]
      exact ⟨fun e he => by injection he with he; rw [← he]; exact flt_0 _ _, fun c p' n' h => (by cases h)⟩
    · rw [if_neg h]
      obtain ⟨i1, i2⟩ := It_C (T := T) hL (bl T L p) n hb.2 hn
      refine ⟨i1, fun c p' n' h => ?_⟩
      obtain ⟨u1, u2, u3⟩ := i2 c p' n' h
      exact ⟨by omega, by omega, u3⟩
  | e + 1 => by
    intro p n hp hn
    have hb := bl_le (T := T) hp
    rw [pF_s]
    by_cases h : isN T L (bl T L p) = true
    · rw [if_pos h]
      have hl : bl T L p + 3 ≤ L := std_len hb.2 h
      obtain ⟨i1, i2⟩ := It_F hL e (bl T L p + 3) n hl hn
      cases hr : pF T L e (bl T L p + 3) n with
      | inl e0 =>
        rw [bR_l]
        exact ⟨fun e he => by injection he with he; rw [← he]; exact i1 e0 hr, fun c' p' n' h => (by cases h)⟩
      | inr y =>
        obtain ⟨c, q, n1⟩ := y
        rw [bR_r]
        obtain ⟨⟨u1, u2, u3, u4⟩, u5, u6, u7⟩ := i2 c q n1 hr
        refine ⟨fun e he => (by cases he), fun c' p' n' h => ?_⟩
        injection h with h
        injection h with r1 h
        injection h with r2 r3
        subst r1 r2 r3
        refine ⟨by omega, ?_, ?_, WF_not u7⟩
        · rw [List.length_append]
          show 3 * (_ + 1) + 3 ≤ _
          omega
        · rw [pus_app]
          show pus c + ((if _ then 1 else 0) + 0) ≤ _
          rw [if_neg (by decide)]
          omega
    · rw [if_neg h]
      by_cases h9 : bl T L p < L ∧ T (bl T L p) = 91
      · rw [if_pos h9]
        obtain ⟨i1, i2⟩ := (It_T hL (It_F hL e)).1 (bl T L p + 1) n (by omega) hn
        cases hr : pT T L (pF T L e) (bl T L p + 1) n with
        | inl e0 =>
          rw [bR_l]
          exact ⟨fun e he => by injection he with he; rw [← he]; exact i1 e0 hr, fun c' p' n' h => (by cases h)⟩
        | inr y =>
          obtain ⟨c, q, n1⟩ := y
          rw [bR_r]
          obtain ⟨⟨u1, u2, u3, u4⟩, u5, u6, u7⟩ := i2 c q n1 hr
          by_cases hq : q < L ∧ T q = 93
          · rw [if_pos hq]
            refine ⟨fun e he => (by cases he), fun c' p' n' h => ?_⟩
            injection h with h
            injection h with r1 h
            injection h with r2 r3
            subst r1 r2 r3
            exact ⟨by omega, by omega, by omega, u7⟩
          · rw [if_neg hq]
            exact ⟨fun e he => by injection he with he; rw [← he]; exact flt_0 _ _, fun c p' n' h => (by cases h)⟩
      · rw [if_neg h9]
        obtain ⟨i1, i2⟩ := It_C (T := T) hL (bl T L p) n hb.2 hn
        refine ⟨i1, fun c p' n' h => ?_⟩
        obtain ⟨u1, u2, u3⟩ := i2 c p' n' h
        exact ⟨by omega, by omega, u3⟩
