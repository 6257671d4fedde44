/-! a TOWN as it is told -/
def tld (p : Nat → Nat) (c : Nat) : Nat → Bool
  | 0 => false
  | n + 1 => tld p c n || decide (p n = c)
theorem tld_s (p : Nat → Nat) (c n : Nat) : tld p c (n + 1) = (tld p c n || decide (p n = c)) := rfl
theorem tld_iff {p : Nat → Nat} {c : Nat} : ∀ n, tld p c n = true ↔ ∃ j, j < n ∧ p j = c
  | 0 => ⟨fun h => (by cases h), fun ⟨j, h, _⟩ => (by omega)⟩
  | n + 1 => by
    rw [tld_s, Bool.or_eq_true, decide_eq_true_eq, tld_iff n]
    constructor
    · rintro (⟨j, h1, h2⟩ | h)
      · exact ⟨j, by omega, h2⟩
      · exact ⟨n, by omega, h⟩
    · rintro ⟨j, h1, h2⟩
      by_cases hj : j = n
      · subst hj; exact Or.inr h2
      · exact Or.inl ⟨j, by omega, h2⟩
theorem tld_c {p q : Nat → Nat} {c : Nat} : ∀ n, (∀ j, j < n → p j = q j) → tld p c n = tld q c n
  | 0, _ => rfl
  | n + 1, h => by rw [tld_s, tld_s, tld_c n (fun j hj => h j (by omega)), h n (by omega)]
def bmk (p : Nat → Nat) (w : Nat) : Nat → Nat
  | 0 => 0
  | n + 1 => bmk p w n ||| (if p n % 2 = w then 2 ^ (p n / 2) else 0)
theorem bmk_s (p : Nat → Nat) (w n : Nat) : bmk p w (n + 1) = bmk p w n ||| (if p n % 2 = w then 2 ^ (p n / 2) else 0) := rfl
theorem bmk_bit {p : Nat → Nat} {w k : Nat} (hw : w < 2) : ∀ n, (bmk p w n).testBit k = tld p (2 * k + w) n
  | 0 => by show (0 : Nat).testBit k = false; exact Nat.zero_testBit _
  | n + 1 => by
    rw [bmk_s, tld_s, Nat.testBit_or, bmk_bit hw n]
    congr 1
    by_cases h : p n % 2 = w
    · rw [if_pos h, Nat.testBit_two_pow]
      by_cases h2 : p n / 2 = k
      · rw [decide_eq_true h2, decide_eq_true (by omega)]
      · rw [decide_eq_false h2, decide_eq_false (by omega)]
    · rw [if_neg h, Nat.zero_testBit, decide_eq_false (by omega)]
theorem bmk_c {p q : Nat → Nat} {w : Nat} : ∀ n, (∀ j, j < n → p j = q j) → bmk p w n = bmk q w n
  | 0, _ => rfl
  | n + 1, h => by rw [bmk_s, bmk_s, bmk_c n (fun j hj => h j (by omega)), h n (by omega)]
theorem bmk_lt {p : Nat → Nat} {w : Nat} : ∀ n, (∀ j, j < n → p j < 22) → bmk p w n < 2 ^ 11
  | 0, _ => Nat.two_pow_pos _
  | n + 1, h => by
    have ih := bmk_lt (p := p) (w := w) n (fun j hj => h j (by omega))
    have := h n (by omega)
    rw [bmk_s]
    refine Nat.or_lt_two_pow ih ?_
    split
    · exact Nat.pow_lt_pow_right (by decide) (by omega)
    · exact Nat.two_pow_pos _
def cmk (p : Nat → Nat) : Nat → Nat
  | 0 => 0
  | n + 1 => cmk p n ||| 2 ^ p n
theorem cmk_bit {p : Nat → Nat} {k : Nat} : ∀ n, (cmk p n).testBit k = tld p k n
  | 0 => by show (0 : Nat).testBit k = false; exact Nat.zero_testBit _
  | n + 1 => by
    show (cmk p n ||| 2 ^ p n).testBit k = _
    rw [Nat.testBit_or, cmk_bit n, Nat.testBit_two_pow, tld_s]
theorem cmk_oc {p : Nat → Nat} : ∀ n, (∀ j, j < n → p j < 22) → (∀ i j, i < n → j < n → p i = p j → i = j) → oc (cmk p n) 22 = n
  | 0, _, _ => oc_0 22
  | n + 1, h1, h2 => by
    have ih := cmk_oc (p := p) n (fun j hj => h1 j (by omega)) (fun i j hi hj => h2 i j (by omega) (by omega))
    show oc (cmk p n ||| 2 ^ p n) 22 = n + 1
    rw [oc_or, ih, if_pos (h1 n (by omega))]
    rw [cmk_bit, Bool.eq_false_iff]
    intro q
    obtain ⟨j, hj, he⟩ := (tld_iff n).mp q
    have := h2 j n (by omega) (by omega) he
    omega
/-- there is room for a pass that was not told -/
theorem tld_room {A : zA} (hA : okB A) {c : Nat} (hc : c < 22) (h : ¬ tld (ap A) c (aN A) = true) : aN A < 22 := by
  have h1 := cmk_oc (p := ap A) (aN A) hA.2.2.2.1 hA.2.2.2.2
  have h2 := oc_miss (x := cmk (ap A) (aN A)) (k := c) (by rw [cmk_bit]; exact Bool.eq_false_iff.mpr h) 22 hc
  omega
def app (A : zA) (c : Nat) : zA := (aR A, if aR A ≤ 1 then aF A + 1 else aF A, aN A + 1, fun j => if j = aN A then c else ap A j, ah A)
def shd (A : zA) (k h : Nat) : zA := (aR A, aF A, aN A, ap A, fun j => if j = k then h else ah A j)
def iRd (A : zA) : zA := (aR A + 1, aF A, aN A, ap A, ah A)
/-- while it is told -/
def PI (A : zA) : Prop := okB A ∧ (aR A ≤ 1 → aF A = aN A) ∧ ∀ k, tld (ap A) (2 * k + 1) (aN A) = true → ah A k ≤ 1
theorem app_ap {A : zA} {c j : Nat} (h : j < aN A) : ap (app A c) j = ap A j := by
  show (if j = aN A then c else ap A j) = _
  rw [if_neg (by omega)]
theorem app_ap' {A : zA} {c : Nat} : ap (app A c) (aN A) = c := by
  show (if aN A = aN A then c else ap A (aN A)) = _
  rw [if_pos rfl]
theorem app_tld {A : zA} {c d : Nat} : tld (ap (app A c)) d (aN (app A c)) = (tld (ap A) d (aN A) || decide (c = d)) := by
  show tld (ap (app A c)) d (aN A + 1) = _
  rw [tld_s, app_ap', tld_c (p := ap (app A c)) (q := ap A) (aN A) (fun j hj => app_ap hj)]
theorem okB_app {A : zA} (hA : okB A) (h2 : aR A ≤ 1 → aF A = aN A) {c : Nat} (hc : c < 22) (h : ¬ tld (ap A) c (aN A) = true) : okB (app A c) := by
  have hr := tld_room hA hc h
  have hn := okB_n hA
  refine ⟨hA.1, ?_, ?_, ?_, ?_⟩
  · show (if aR A ≤ 1 then aF A + 1 else aF A) ≤ aN A + 1
    split <;> omega
  · show aN A + 1 ≤ 22
    omega
  · intro j hj
    have hj' : j < aN A + 1 := hj
    by_cases hjn : j = aN A
    · rw [hjn, app_ap']; exact hc
    · rw [app_ap (by omega)]; exact hA.2.2.2.1 j (by omega)
  · intro i j hi hj he
    have hi' : i < aN A + 1 := hi
    have hj' : j < aN A + 1 := hj
    by_cases hin : i = aN A
    · by_cases hjn : j = aN A
      · omega
      · rw [hin, app_ap', app_ap (by omega)] at he
        exact absurd ((tld_iff _).mpr ⟨j, by omega, he.symm⟩) h
    · by_cases hjn : j = aN A
      · rw [hjn, app_ap', app_ap (by omega)] at he
        exact absurd ((tld_iff _).mpr ⟨i, by omega, he⟩) h
      · rw [app_ap (by omega), app_ap (by omega)] at he
        exact hA.2.2.2.2 i j (by omega) (by omega) he
/-- one pass, told behind its word at p; ov: over -/
def pPs (T : Nat → Int) (L ov p : Nat) (A : zA) : Nat × Nat × zA :=
  if dgt T L (bl T L p) = true then
    if drn T L (bl T L p) ≤ 5 ∧ val T L (bl T L p) ≤ 10 then
      if tld (ap A) (2 * val T L (bl T L p) + ov) (aN A) = true then (bl T L p, flt (bl T L p) 5, A)
      else if ov = 0 then (bl T L p + drn T L (bl T L p), 0, app A (2 * val T L (bl T L p)))
      else if bl T L (bl T L p + drn T L (bl T L p)) < L ∧ T (bl T L (bl T L p + drn T L (bl T L p))) = 43 then (bl T L (bl T L p + drn T L (bl T L p)) + 1, 0, shd (app A (2 * val T L (bl T L p) + 1)) (val T L (bl T L p)) 1)
      else if bl T L (bl T L p + drn T L (bl T L p)) < L ∧ T (bl T L (bl T L p + drn T L (bl T L p))) = 45 then (bl T L (bl T L p + drn T L (bl T L p)) + 1, 0, shd (app A (2 * val T L (bl T L p) + 1)) (val T L (bl T L p)) 0)
      else (bl T L (bl T L p + drn T L (bl T L p)), flt (bl T L (bl T L p + drn T L (bl T L p))) 0, A)
    else (bl T L p, flt (bl T L p) 1, A)
  else (bl T L p, flt (bl T L p) 0, A)
theorem PI_app0 {A : zA} (h : PI A) {k : Nat} (hk : k ≤ 10) (ht : ¬ tld (ap A) (2 * k) (aN A) = true) : PI (app A (2 * k)) := by
  refine ⟨okB_app h.1 h.2.1 (by omega) ht, ?_, ?_⟩
  · intro hr
    have hr' : aR A ≤ 1 := hr
    have := h.2.1 hr'
    show (if aR A ≤ 1 then aF A + 1 else aF A) = aN A + 1
    rw [if_pos hr']
    omega
  · intro j hj
    rw [app_tld, Bool.or_eq_true, decide_eq_true_eq] at hj
    rcases hj with hj | hj
    · exact h.2.2 j hj
    · omega
theorem PI_app1 {A : zA} (h : PI A) {k d : Nat} (hk : k ≤ 10) (hd : d ≤ 1) (ht : ¬ tld (ap A) (2 * k + 1) (aN A) = true) : PI (shd (app A (2 * k + 1)) k d) := by
  have ho := okB_app h.1 h.2.1 (c := 2 * k + 1) (by omega) ht
  refine ⟨⟨ho.1, ho.2.1, ho.2.2.1, ho.2.2.2.1, ho.2.2.2.2⟩, ?_, ?_⟩
  · intro hr
    have hr' : aR A ≤ 1 := hr
    have := h.2.1 hr'
    show (if aR A ≤ 1 then aF A + 1 else aF A) = aN A + 1
    rw [if_pos hr']
    omega
  · intro j hj
    have hj' : tld (ap (app A (2 * k + 1))) (2 * j + 1) (aN (app A (2 * k + 1))) = true := hj
    rw [app_tld, Bool.or_eq_true, decide_eq_true_eq] at hj'
    show (if j = k then d else ah A j) ≤ 1
    by_cases hjk : j = k
    · rw [if_pos hjk]; exact hd
    · rw [if_neg hjk]
      rcases hj' with hj' | hj'
      · exact h.2.2 j hj'
      · omega
theorem pPs_ok {T : Nat → Int} {L ov p : Nat} {A : zA} (h : PI A) (hp : p ≤ L) (hov : ov < 2) (hf : (pPs T L ov p A).2.1 = 0) : PI (pPs T L ov p A).2.2 ∧ (pPs T L ov p A).1 ≤ L ∧ aN (pPs T L ov p A).2.2 = aN A + 1 ∧ aR (pPs T L ov p A).2.2 = aR A := by
  have hb := (bl_le (T := T) hp).2
  have hdl := drn_le T L (L - bl T L p) (bl T L p) rfl
  have hb2 := bl_le (T := T) (L := L) (p := bl T L p + drn T L (bl T L p)) (by omega)
  unfold pPs at hf ⊢
  split at hf
  · rename_i c1
    split at hf
    · rename_i c2
      split at hf
      · rename_i c3; unfold flt at hf; dsimp only at hf; omega
      · rename_i c3
        split at hf
        · rename_i c4
          simp only [if_pos c1, if_pos c2, if_neg c3, if_pos c4]
          subst c4
          exact ⟨PI_app0 h c2.2 c3, by omega, rfl, rfl⟩
        · rename_i c4
          have hov1 : ov = 1 := by omega
          subst hov1
          split at hf
          · rename_i c5
            simp only [if_pos c1, if_pos c2, if_neg c3, if_neg c4, if_pos c5]
            exact ⟨PI_app1 h c2.2 (by omega) c3, by omega, rfl, rfl⟩
          · rename_i c5
            split at hf
            · rename_i c6
              simp only [if_pos c1, if_pos c2, if_neg c3, if_neg c4, if_neg c5, if_pos c6]
              exact ⟨PI_app1 h c2.2 (by omega) c3, by omega, rfl, rfl⟩
            · unfold flt at hf; dsimp only at hf; omega
    · unfold flt at hf; dsimp only at hf; omega
  · unfold flt at hf; dsimp only at hf; omega
/-! the class reads a pass -/
def KP (A : zA) (t : kM) : Prop := t 11 0 = ((aR A : Nat) : Int) ∧ t 11 2 = ((aN A : Nat) : Int) ∧ (∀ j, j < aN A → t 12 j = ((ap A j : Nat) : Int)) ∧ ∀ k, tld (ap A) (2 * k + 1) (aN A) = true → t 13 k = ((ah A k : Nat) : Int)
def KX (T : Nat → Int) (L : Nat) (e : Int) (S : Nat × Nat × zA) (t : kM) : Prop := t 1 3 = ((S.2.1 : Nat) : Int) ∧ t 1 1 = (L : Int) ∧ t 2 = T ∧ t 11 1 = e ∧ (S.2.1 = 0 → KTp T L S.1 t ∧ KP S.2.2 t)
theorem KP_c {A : zA} {s t : kM} (h : KP A s) (h1 : t 11 = s 11) (h2 : t 12 = s 12) (h3 : t 13 = s 13) : KP A t := by
  unfold KP at h ⊢
  rw [h1, h2, h3]
  exact h
theorem KX_f {T : Nat → Int} {L : Nat} {e : Int} {p p' q c : Nat} {A B : zA} {s : kM} (h : KX T L e (p, 0, A) s) {x : Int} : KX T L e (p', flt q c, B) (gU (gU s 1 2 x) 1 3 ((flt q c : Nat) : Int)) := by
  obtain ⟨-, h2, h3, h4, -⟩ := h
  refine ⟨gUs _ _ _ _, by rw [gUo _ _ _ (by decide), gUo _ _ _ (by decide)]; exact h2, by rw [gU_n _ _ _ (by decide), gU_n _ _ _ (by decide)]; exact h3, by rw [gU_n _ _ _ (by decide), gU_n _ _ _ (by decide)]; exact h4, fun z => ?_⟩
  have : flt q c = 0 := z
  unfold flt at this
  omega
theorem KX_u {T : Nat → Int} {L : Nat} {e : Int} {p q : Nat} {A : zA} {s : kM} (h : KX T L e (p, 0, A) s) (hq : q ≤ L) : KX T L e (q, 0, A) (gU s 1 2 (q : Int)) := by
  obtain ⟨h1, h2, h3, h4, h5⟩ := h
  obtain ⟨k1, k2⟩ := h5 rfl
  exact ⟨by rw [gUo _ _ _ (by decide)]; exact h1, by rw [gUo _ _ _ (by decide)]; exact h2, by rw [gU_n _ _ _ (by decide)]; exact h3, by rw [gU_n _ _ _ (by decide)]; exact h4, fun _ => ⟨KTp_u k1 hq, KP_c k2 (gU_n _ _ _ (by decide)) (gU_n _ _ _ (by decide)) (gU_n _ _ _ (by decide))⟩⟩
theorem e_isTold {A : zA} (hn : aN A ≤ 22) {s : kM} (h : KP A s) (c : Nat) : f_TownText_isTold 11 c s = some (if tld (ap A) c (aN A) = true then 1 else 0) := by
  obtain ⟨h1, h2, h3, h4⟩ := h
  unfold f_TownText_isTold f_TownText_isTold_2
  apply wp_eq
  refine wp_for (aN A) (fun j x => x = (j : Int) ∧ ¬ tld (ap A) c j = true) 0 _ (by omega) (by omega) (by exact ⟨rfl, fun z => (by cases z)⟩) ?_ ?_
  · rintro j y _ hj ⟨rfl, q⟩
    unfold f_TownText_isTold_2b
    rw [h2, if_neg (by omega), gI_n (show j < 22 by omega), Option.bind_some, h3 j hj]
    by_cases hc : ap A j = c
    · rw [if_pos (by omega), wp_some, gE_r, if_pos ((tld_iff _).mpr ⟨j, hj, hc⟩)]
    · rw [if_neg (by omega), wp_some, gE_l, wI_s (by omega)]
      refine ⟨rfl, ?_⟩
      rw [tld_s, Bool.or_eq_true, decide_eq_true_eq]
      rintro (z | z)
      · exact q z
      · exact hc z
  · rintro y ⟨rfl, q⟩
    unfold f_TownText_isTold_2b
    rw [h2, if_pos (Int.le_refl _), wp_some, gE_r, if_neg q]
theorem wp_readPass12 {T : Nat → Int} (hT : TB T) {L : Nat} {e : Int} {p ov : Nat} (hov : ov < 2) {A : zA} (hA : PI A) {s : kM} (h : KX T L e (p, 0, A) s) : wp (f_TownText_readPass_12 11 ov s) (fun r => r.1 = 1 ∧ KX T L e (pPs T L ov p A) r.2) := by
  have h' := h
  obtain ⟨h1, h2, h3, h4, h5⟩ := h'
  obtain ⟨k1, k2⟩ := h5 rfl
  have hL := k1.1
  have hpL := k1.2.1
  have hn := okB_n hA.1
  have h10 : s 1 3 = 0 := h1
  unfold f_TownText_readPass_12
  have esn := e_seenNumber hT (m := 10) k1 h10
  rw [show ((10 : Nat) : Int) = 10 from rfl] at esn
  rw [esn, Option.bind_some]
  unfold pPs
  have hb := (bl_le (T := T) hpL).2
  have hq := KX_u h hb
  generalize bl T L p = q at hb hq ⊢
  by_cases c1 : dgt T L q = true
  · rw [if_pos c1, if_pos c1]
    by_cases c2 : drn T L q ≤ 5 ∧ val T L q ≤ 10
    · rw [if_pos c2, if_pos c2]
      dsimp only
      rw [if_pos (by omega)]
      have hdl := drn_le T L (L - q) q rfl
      generalize hv : val T L q = k at c2 ⊢
      have ew : wI (2 * (k : Int)) = ((2 * k : Nat) : Int) := by rw [wI_id (by omega) (by omega)]; omega
      have hcase : (if (ov : Int) = 0 then f_TownText_readPass_28 11 ov k (wI (2 * (k : Int))) 0 (gU s 1 2 (q : Int)) else f_TownText_readPass_28 11 ov k (wI (2 * (k : Int))) 1 (gU s 1 2 (q : Int))) = f_TownText_readPass_28 11 ov k ((2 * k : Nat) : Int) ov (gU s 1 2 (q : Int)) := by
        rw [ew]
        have : ov = 0 ∨ ov = 1 := by omega
        rcases this with rfl | rfl <;> rfl
      rw [hcase]
      clear ew hcase
      obtain ⟨G, hG⟩ : ∃ G, G = gU s 1 2 (q : Int) := ⟨_, rfl⟩
      rw [← hG] at hq ⊢
      obtain ⟨g1, g2, g3, g4, g5⟩ := hq
      obtain ⟨m1, m2⟩ := g5 rfl
      dsimp only at m1 m2
      unfold f_TownText_readPass_28
      rw [wI_add2 (by omega), e_isTold hn.2 m2, Option.bind_some]
      by_cases c3 : tld (ap A) (2 * k + ov) (aN A) = true
      · have ef := e_fail (p := q) (c := 5) (s := G) (by omega) (by omega) m1.2.2.2.1
        have hG3 : G 1 3 = 0 := g1
        rw [if_pos hG3, show ((5 : Nat) : Int) = 5 from rfl] at ef
        rw [if_pos c3, if_neg (by decide), if_pos c3, ef, Option.bind_some, wp_some, hG]
        exact ⟨rfl, KX_f h⟩
      · have hr := tld_room hA.1 (c := 2 * k + ov) (by omega) c3
        rw [if_neg c3, if_pos rfl, if_neg c3, e_skipNumber m1, Option.bind_some]
        obtain ⟨H, hH⟩ : ∃ H, H = gU G 1 2 ((q + drn T L q : Nat) : Int) := ⟨_, rfl⟩
        rw [← hH]
        have hKH : KX T L e (q + drn T L q, 0, A) H := by rw [hH]; exact KX_u ⟨g1, g2, g3, g4, g5⟩ (by omega)
        obtain ⟨x1, x2, x3, x4, x5⟩ := hKH
        obtain ⟨y1, y2⟩ := x5 rfl
        obtain ⟨z1, z2, z3, z4⟩ := y2
        dsimp only at x1 x2 x3 x4 y1 z1 z2 z3 z4
        unfold f_Town_append
        rw [z2, if_neg (by omega), gI_n hr, Option.bind_some, gLet_eq, gLet_eq, gUn _ _ _ (show 11 ≠ 11 + 1 by decide), z2, wI_s (by omega), Option.bind_some]
        obtain ⟨J, hJ⟩ : ∃ J, J = gU (gU H (11 + 1) (aN A) ((2 * k + ov : Nat) : Int)) 11 2 ((aN A + 1 : Nat) : Int) := ⟨_, rfl⟩
        rw [← hJ]
        have J1 : ∀ z, z ≠ 11 → z ≠ 12 → J z = H z := fun z w1 w2 => by rw [hJ, gU_n _ _ _ w1, gU_n _ _ _ w2]
        have J11 : J 11 0 = H 11 0 ∧ J 11 1 = H 11 1 ∧ J 11 2 = ((aN A + 1 : Nat) : Int) := by
          rw [hJ]
          refine ⟨by rw [gUo _ _ _ (by decide), gU_n _ _ _ (by decide)], by rw [gUo _ _ _ (by decide), gU_n _ _ _ (by decide)], gUs _ _ _ _⟩
        have J12 : ∀ j, j < aN A + 1 → J 12 j = ((ap (app A (2 * k + ov)) j : Nat) : Int) := fun j hj => by
          rw [hJ, gU_n _ _ _ (show 12 ≠ 11 by decide)]
          by_cases hjn : j = aN A
          · rw [hjn, gUs, app_ap']
          · rw [gUo _ _ _ hjn, app_ap (by omega)]
            exact z3 j (by omega)
        clear hJ
        have hTJ : KTp T L (q + drn T L q) J := by
          obtain ⟨w1, w2, w3, w4, w5⟩ := y1
          exact ⟨w1, w2, by rw [J1 1 (by decide) (by decide)]; exact w3, by rw [J1 1 (by decide) (by decide)]; exact w4, by rw [J1 2 (by decide) (by decide)]; exact w5⟩
        have hJ3 : J 1 3 = 0 := by rw [J1 1 (by decide) (by decide)]; exact x1
        have hJ1 : J 1 1 = (L : Int) := by rw [J1 1 (by decide) (by decide)]; exact x2
        have hJ2 : J 2 = T := by rw [J1 2 (by decide) (by decide)]; exact x3
        have hJe : J 11 1 = e := by rw [J11.2.1]; exact x4
        by_cases c4 : ov = 0
        · subst c4
          rw [if_pos (show ((0 : Nat) : Int) = 0 from rfl), if_pos rfl, wp_some]
          refine ⟨rfl, hJ3, hJ1, hJ2, hJe, fun _ => ⟨hTJ, by dsimp only; rw [J11.1]; exact z1, J11.2.2, J12, fun i hi => ?_⟩⟩
          have hi' : tld (ap (app A (2 * k))) (2 * i + 1) (aN (app A (2 * k))) = true := hi
          rw [app_tld, Bool.or_eq_true, decide_eq_true_eq] at hi'
          dsimp only
          rw [J1 13 (by decide) (by decide)]
          rcases hi' with hi' | hi'
          · exact z4 i hi'
          · omega
        · have hov1 : ov = 1 := by omega
          subst hov1
          rw [if_neg (by decide), if_neg (by decide)]
          unfold f_TownText_readHand
          have ts := e_takeSign hT hTJ (c := 43) (by decide)
          rw [show ((43 : Nat) : Int) = 43 from rfl] at ts
          rw [ts, Option.bind_some]
          have hb2 := bl_le (T := T) (L := L) (p := q + drn T L q) (by omega)
          have fin : ∀ (d : Nat) (U : kM), d ≤ 1 → KTp T L (bl T L (q + drn T L q) + 1) U → (∀ z, z ≠ 1 → U z = J z) → U 1 3 = 0 → wp (some ((1 : Int), gU U 13 k (d : Int))) (fun r => r.1 = 1 ∧ KX T L e (bl T L (q + drn T L q) + 1, 0, shd (app A (2 * k + 1)) k d) r.2) := by
            intro d U hd u1 u2 u3
            rw [wp_some]
            refine ⟨rfl, ?_⟩
            show KX T L e (bl T L (q + drn T L q) + 1, 0, shd (app A (2 * k + 1)) k d) (gU U 13 k (d : Int))
            refine ⟨by rw [gU_n _ _ _ (by decide)]; exact u3, by rw [gU_n _ _ _ (by decide)]; exact u1.2.2.1, by rw [gU_n _ _ _ (by decide)]; exact u1.2.2.2.2, by rw [gU_n _ _ _ (by decide), u2 11 (by decide)]; exact hJe, fun _ => ⟨⟨u1.1, u1.2.1, by rw [gU_n _ _ _ (by decide)]; exact u1.2.2.1, by rw [gU_n _ _ _ (by decide)]; exact u1.2.2.2.1, by rw [gU_n _ _ _ (by decide)]; exact u1.2.2.2.2⟩, ?_, ?_, fun j hj => ?_, fun i hi => ?_⟩⟩
            · rw [gU_n _ _ _ (by decide), u2 11 (by decide), J11.1]
              exact z1
            · rw [gU_n _ _ _ (by decide), u2 11 (by decide)]
              exact J11.2.2
            · rw [gU_n _ _ _ (by decide), u2 12 (by decide)]
              exact J12 j hj
            · have hi' : tld (ap (app A (2 * k + 1))) (2 * i + 1) (aN (app A (2 * k + 1))) = true := hi
              rw [app_tld, Bool.or_eq_true, decide_eq_true_eq] at hi'
              show _ = ((if i = k then d else ah A i : Nat) : Int)
              by_cases hik : i = k
              · rw [hik, gUs, if_pos rfl]
              · rw [gUo _ _ _ hik, if_neg hik, u2 13 (by decide), J1 13 (by decide) (by decide)]
                rcases hi' with hi' | hi'
                · exact z4 i hi'
                · omega
          by_cases c5 : bl T L (q + drn T L q) < L ∧ T (bl T L (q + drn T L q)) = 43
          · rw [if_pos c5, if_pos c5]
            dsimp only
            rw [if_neg (by decide), gI_n (show k < 11 by omega), Option.bind_some, gLet_eq, Option.bind_some]
            exact fin 1 _ (by omega) (KTp_u hTJ (by omega)) (fun z hz => gU_n _ _ _ hz) (by rw [gUo _ _ _ (by decide)]; exact hJ3)
          · rw [if_neg c5, if_neg c5]
            dsimp only
            have hTJ2 := KTp_u hTJ hb2.2
            have ts2 := e_takeSign hT hTJ2 (c := 45) (by decide)
            rw [show ((45 : Nat) : Int) = 45 from rfl, bl_bl _ _ rfl, gU_gU, gU_gU] at ts2
            rw [if_pos rfl, ts2, Option.bind_some]
            by_cases c6 : bl T L (q + drn T L q) < L ∧ T (bl T L (q + drn T L q)) = 45
            · rw [if_pos c6, if_pos c6]
              dsimp only
              rw [if_neg (by decide), gI_n (show k < 11 by omega), Option.bind_some, gLet_eq, Option.bind_some]
              exact fin 0 _ (by omega) (KTp_u hTJ (by omega)) (fun z hz => gU_n _ _ _ hz) (by rw [gUo _ _ _ (by decide)]; exact hJ3)
            · rw [if_neg c6, if_neg c6]
              dsimp only
              have ef := e_fail (p := bl T L (q + drn T L q)) (c := 0) (s := gU J 1 2 ((bl T L (q + drn T L q) : Nat) : Int)) (by omega) (by omega) hTJ2.2.2.2.1
              rw [if_pos (by rw [gUo _ _ _ (by decide)]; exact hJ3), show ((0 : Nat) : Int) = 0 from rfl] at ef
              rw [if_pos rfl, ef, Option.bind_some, Option.bind_some, wp_some]
              refine ⟨rfl, ?_⟩
              dsimp only
              refine ⟨gUs _ _ _ _, by rw [gUo _ _ _ (by decide), gUo _ _ _ (by decide)]; exact hJ1, by rw [gU_n _ _ _ (by decide), gU_n _ _ _ (by decide)]; exact hJ2, by rw [gU_n _ _ _ (by decide), gU_n _ _ _ (by decide)]; exact hJe, fun z => ?_⟩
              have : flt (bl T L (q + drn T L q)) 0 = 0 := z
              unfold flt at this
              omega
    · rw [if_neg c2, if_neg c2]
      dsimp only
      rw [if_neg (by decide), wp_some]
      exact ⟨rfl, KX_f h⟩
  · rw [if_neg c1, if_neg c1]
    dsimp only
    rw [if_neg (by decide), wp_some]
    exact ⟨rfl, KX_f h⟩
