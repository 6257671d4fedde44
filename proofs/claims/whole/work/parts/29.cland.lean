/-! pieces of land: the ends round one of them -/
def sit (A : zA) (e : Nat) : Nat → Nat
  | 0 => e
  | i + 1 => sgm A (sit A e i)
theorem sit_s (A : zA) (e i : Nat) : sit A e (i + 1) = sgm A (sit A e i) := rfl
def pz (A : zA) (e : Nat) : Nat → Nat
  | 0 => 0
  | n + 1 => pz A e n ||| 2 ^ sit A e n
theorem pz_s (A : zA) (e n : Nat) : pz A e (n + 1) = pz A e n ||| 2 ^ sit A e n := rfl
theorem pz_bit (A : zA) (e x : Nat) : ∀ n, (pz A e n).testBit x = true ↔ ∃ j, j < n ∧ sit A e j = x
  | 0 => ⟨fun h => by simp [pz] at h, fun ⟨j, h, _⟩ => by omega⟩
  | n + 1 => by
    rw [pz_s, Nat.testBit_or, Bool.or_eq_true, pz_bit A e x n, Nat.testBit_two_pow, decide_eq_true_eq]
    constructor
    · rintro (⟨j, h1, h2⟩ | h)
      · exact ⟨j, by omega, h2⟩
      · exact ⟨n, by omega, h⟩
    · rintro ⟨j, h1, h2⟩
      by_cases hj : j = n
      · subst hj
        exact Or.inr h2
      · exact Or.inl ⟨j, by omega, h2⟩
theorem sit_lt {A : zA} (hA : okA A) {e : Nat} (he : e < 2 * aN A) : ∀ i, sit A e i < 2 * aN A
  | 0 => he
  | i + 1 => sgm_lt hA (sit_lt hA he i)
theorem pz_lt {A : zA} (hA : okA A) {e : Nat} (he : e < 2 * aN A) : ∀ n, pz A e n < 2 ^ (2 * aN A)
  | 0 => Nat.two_pow_pos _
  | n + 1 => Nat.or_lt_two_pow (pz_lt hA he n) (Nat.pow_lt_pow_right (by decide) (sit_lt hA he n))
theorem oc_ltp {x k : Nat} (h : x < 2 ^ k) : ∀ d, oc x (k + d) ≤ k
  | 0 => oc_le _ _
  | d + 1 => by
    have ih := oc_ltp h d
    have hb : x.testBit (k + d) = false := Nat.testBit_lt_two_pow (Nat.lt_of_lt_of_le h (Nat.pow_le_pow_right (by decide) (by omega)))
    rw [show k + (d + 1) = (k + d) + 1 by omega, oc_succ, hb]
    exact ih
theorem pz_oc {A : zA} (hA : okA A) {e : Nat} (he : e < 2 * aN A) : ∀ n, (∀ i, i < n → ¬ (pz A e i).testBit (sit A e i) = true) → oc (pz A e n) 64 = n
  | 0, _ => oc_0 64
  | n + 1, h => by
    have ih := pz_oc hA he n (fun i hi => h i (by omega))
    have hl := sit_lt hA he n
    have hn := okB_n hA.1
    rw [pz_s, oc_or (Bool.eq_false_iff.mpr (h n (by omega))), ih, if_pos (by omega)]
/-- the first end that comes again -/
theorem pz_first {A : zA} (hA : okA A) {e : Nat} (he : e < 2 * aN A) : ∃ n, 1 ≤ n ∧ n ≤ 2 * aN A ∧ (∀ i, i < n → ¬ (pz A e i).testBit (sit A e i) = true) ∧ (pz A e n).testBit (sit A e n) = true := by
  have hn := okB_n hA.1
  have key : ∀ k, (∃ n, n ≤ k ∧ (∀ i, i < n → ¬ (pz A e i).testBit (sit A e i) = true) ∧ (pz A e n).testBit (sit A e n) = true) ∨ ∀ i, i ≤ k → ¬ (pz A e i).testBit (sit A e i) = true := by
    intro k
    induction k with
    | zero =>
      right
      intro i hi
      rw [show i = 0 by omega]
      show ¬ (0 : Nat).testBit (sit A e 0) = true
      rw [Nat.zero_testBit]
      decide
    | succ k ih =>
      rcases ih with ⟨n, h1, h2, h3⟩ | h
      · exact Or.inl ⟨n, by omega, h2, h3⟩
      · by_cases hb : (pz A e (k + 1)).testBit (sit A e (k + 1)) = true
        · exact Or.inl ⟨k + 1, by omega, fun i hi => h i (by omega), hb⟩
        · refine Or.inr (fun i hi => ?_)
          by_cases hik : i = k + 1
          · rw [hik]; exact hb
          · exact h i (by omega)
  rcases key (2 * aN A) with ⟨n, h1, h2, h3⟩ | h
  · refine ⟨n, ?_, h1, h2, h3⟩
    by_cases h0 : n = 0
    · subst h0
      have : (pz A e 0).testBit (sit A e 0) = false := by
        show (0 : Nat).testBit _ = false
        exact Nat.zero_testBit _
      rw [this] at h3
      cases h3
    · omega
  · have h1 := pz_oc hA he (2 * aN A + 1) (fun i hi => h i (by omega))
    have h2 := oc_ltp (pz_lt hA he (2 * aN A + 1)) (64 - 2 * aN A)
    rw [show 2 * aN A + (64 - 2 * aN A) = 64 by omega] at h2
    omega
theorem pz_round {A : zA} (hA : okA A) {e n : Nat} (he : e < 2 * aN A) (h1 : 1 ≤ n) (h2 : ∀ i, i < n → ¬ (pz A e i).testBit (sit A e i) = true) (h3 : (pz A e n).testBit (sit A e n) = true) : sit A e n = e := by
  obtain ⟨j, hj, hs⟩ := (pz_bit A e _ n).mp h3
  by_cases h0 : j = 0
  · subst h0
    exact hs.symm
  · exfalso
    obtain ⟨i, rfl⟩ : ∃ i, j = i + 1 := ⟨j - 1, by omega⟩
    obtain ⟨m, rfl⟩ : ∃ m, n = m + 1 := ⟨n - 1, by omega⟩
    rw [sit_s, sit_s] at hs
    have := sgm_inj hA (sit_lt hA he i) (sit_lt hA he m) hs
    exact h2 m (by omega) ((pz_bit A e _ m).mpr ⟨i, by omega, this⟩)
/-- the ends of the land of an end, as bits -/
def orbF (A : zA) : Nat → Nat → Nat → Nat
  | 0, _, X => X
  | n + 1, e, X => if X.testBit e = true then X else orbF A n (sgm A e) (X ||| 2 ^ e)
def orb (A : zA) (e : Nat) : Nat := orbF A 44 e 0
def sz (A : zA) (e : Nat) : Nat := oc (orb A e) 64
theorem orbF_pz {A : zA} {e n : Nat} (h2 : ∀ i, i < n → ¬ (pz A e i).testBit (sit A e i) = true) (h3 : (pz A e n).testBit (sit A e n) = true) : ∀ m i, i ≤ n → n ≤ i + m → orbF A m (sit A e i) (pz A e i) = pz A e n
  | 0, i, h4, h5 => by
    have : i = n := by omega
    subst this
    rfl
  | m + 1, i, h4, h5 => by
    show (if (pz A e i).testBit (sit A e i) = true then pz A e i else orbF A m (sgm A (sit A e i)) (pz A e i ||| 2 ^ sit A e i)) = _
    by_cases hi : i = n
    · subst hi
      rw [if_pos h3]
    · rw [if_neg (h2 i (by omega))]
      exact orbF_pz h2 h3 m (i + 1) (by omega) (by omega)
/-- all that is asked of the land of an end -/
theorem orb_all {A : zA} (hA : okA A) {e : Nat} (he : e < 2 * aN A) : 1 ≤ sz A e ∧ sz A e ≤ 2 * aN A ∧ (∀ i, i < sz A e → ¬ (pz A e i).testBit (sit A e i) = true) ∧ orb A e = pz A e (sz A e) ∧ sit A e (sz A e) = e := by
  have hn := okB_n hA.1
  obtain ⟨n, h1, h2, h3, h4⟩ := pz_first hA he
  have e1 : orb A e = pz A e n := orbF_pz h3 h4 44 0 (by omega) (by omega)
  have e2 : sz A e = n := by unfold sz; rw [e1, pz_oc hA he n h3]
  rw [e2]
  exact ⟨h1, h2, h3, e1, pz_round hA he h1 h3 h4⟩
theorem orb_again {A : zA} (hA : okA A) {e : Nat} (he : e < 2 * aN A) : (pz A e (sz A e)).testBit (sit A e (sz A e)) = true := by
  obtain ⟨h1, h2, h3, h4, h5⟩ := orb_all hA he
  rw [h5]
  exact (pz_bit A e e _).mpr ⟨0, by omega, rfl⟩
/-- no step leads in from outside -/
def clo (A : zA) (S : Nat) : Prop := ∀ x, x < 2 * aN A → S.testBit (sgm A x) = true → S.testBit x = true
theorem clo_orb {A : zA} (hA : okA A) {S e : Nat} (he : e < 2 * aN A) (h : clo A S) : clo A (S ||| orb A e) := by
  obtain ⟨h1, h2, h3, h4, h5⟩ := orb_all hA he
  intro x hx hb
  rw [Nat.testBit_or, Bool.or_eq_true] at hb ⊢
  rcases hb with hb | hb
  · exact Or.inl (h x hx hb)
  · right
    rw [h4] at hb ⊢
    obtain ⟨j, hj, hs⟩ := (pz_bit A e _ _).mp hb
    obtain ⟨m, hm⟩ : ∃ m, sz A e = m + 1 := ⟨sz A e - 1, by omega⟩
    rw [pz_bit]
    by_cases h0 : j = 0
    · subst h0
      have e1 : sgm A (sit A e m) = sgm A x := by rw [← sit_s, ← hm, h5]; exact hs
      exact ⟨m, by omega, sgm_inj hA (sit_lt hA he m) hx e1⟩
    · obtain ⟨i, rfl⟩ : ∃ i, j = i + 1 := ⟨j - 1, by omega⟩
      rw [sit_s] at hs
      exact ⟨i, by omega, sgm_inj hA (sit_lt hA he i) hx hs⟩
theorem clo_sit {A : zA} (hA : okA A) {S e : Nat} (he : e < 2 * aN A) (h : clo A S) (h0 : ¬ S.testBit e = true) : ∀ i, ¬ S.testBit (sit A e i) = true
  | 0 => h0
  | i + 1 => fun hb => clo_sit hA he h h0 i (h _ (sit_lt hA he i) hb)
/-- walked so far: ends seen, the least ends of the pieces of land -/
def SS (A : zA) : Nat → Nat
  | 0 => 0
  | e + 1 => if (SS A e).testBit e = true then SS A e else SS A e ||| orb A e
def FL (A : zA) : Nat → List Nat
  | 0 => []
  | e + 1 => if (SS A e).testBit e = true then FL A e else FL A e ++ [e]
theorem SS_s (A : zA) (e : Nat) : SS A (e + 1) = if (SS A e).testBit e = true then SS A e else SS A e ||| orb A e := rfl
theorem FL_s (A : zA) (e : Nat) : FL A (e + 1) = if (SS A e).testBit e = true then FL A e else FL A e ++ [e] := rfl
theorem SS_ok {A : zA} (hA : okA A) : ∀ e, e ≤ 2 * aN A → clo A (SS A e) ∧ SS A e < 2 ^ (2 * aN A)
  | 0, _ => ⟨fun x _ h => by simp [SS] at h, Nat.two_pow_pos _⟩
  | e + 1, h => by
    have ih := SS_ok hA e (by omega)
    rw [SS_s]
    split
    · exact ih
    · refine ⟨clo_orb hA (by omega) ih.1, Nat.or_lt_two_pow ih.2 ?_⟩
      rw [(orb_all hA (e := e) (by omega)).2.2.2.1]
      exact pz_lt hA (by omega) _
theorem FL_len (A : zA) : ∀ e, (FL A e).length ≤ e
  | 0 => Nat.le_refl 0
  | e + 1 => by
    have ih := FL_len A e
    rw [FL_s]
    split
    · omega
    · rw [List.length_append, List.length_singleton]
      omega
theorem FL_mem {A : zA} {x : Nat} : ∀ e, x ∈ FL A e → x < e
  | 0, h => by cases h
  | e + 1, h => by
    rw [FL_s] at h
    split at h
    · have := FL_mem e h
      omega
    · rcases List.mem_append.mp h with h | h
      · have := FL_mem e h
        omega
      · rw [List.mem_singleton] at h
        omega
/-- what the reference has of the land -/
def fLd (A : zA) (s t : kM) : Prop := (∀ z, z ≠ 85 → z ≠ 100 → z ≠ 101 → z ≠ 102 → z ≠ 103 → t z = s z) ∧ (∀ i, i ≠ 20 → t 85 i = s 85 i) ∧ TN A 11 (t 100) ∧ t 85 20 = ((FL A (2 * aN A)).length : Int) ∧ ∀ k, (hk : k < (FL A (2 * aN A)).length) → t 102 k = ((sz A ((FL A (2 * aN A))[k]) : Nat) : Int) ∧ t 103 k = (((FL A (2 * aN A))[k] : Nat) : Int)
theorem wp_fillsLand {A : zA} (hA : okA A) {s : kM} (hM : MT A s) : wp (f_M_fillsLand s) (fun t => fLd A s t) := by
  have hn := okB_n hA.1
  refine wp_M_fill2 hA hM ?_
  intro t t0 hT
  -- marks are cleared
  unfold f_M_fillsLand_68
  refine wp_for 44 (fun k x => x.1 = (k : Int) ∧ (∀ z, z ≠ 101 → x.2 z = t z) ∧ ∀ j, j < k → x.2 101 j = -1) 0 _ (by omega) (by omega) (by exact ⟨rfl, fun _ _ => rfl, fun j hj => by omega⟩) ?_ ?_
  · rintro k ⟨y, w⟩ _ hk ⟨rfl, q1, q2⟩
    dsimp only at q1 q2
    dsimp only
    unfold f_M_fillsLand_68b
    rw [if_neg (show ¬ (44 : Int) ≤ (k : Int) by omega), gI_n hk, Option.bind_some, gLet_eq, wp_some, gE_l]
    dsimp only
    rw [wI_s (by omega)]
    refine ⟨rfl, fun z hz => by rw [gU_n _ _ _ hz]; exact q1 z hz, fun j hj => ?_⟩
    by_cases hjk : j = k
    · rw [hjk, gUs]
    · rw [gUo _ _ _ hjk]
      exact q2 j (by omega)
  · rintro ⟨y, w⟩ ⟨rfl, q1, q2⟩
    dsimp only at q1 q2
    dsimp only
    unfold f_M_fillsLand_68b
    rw [if_pos (show (44 : Int) ≤ ((44 : Nat) : Int) by decide), gLet_eq, wp_map]
    obtain ⟨g, hg⟩ : ∃ g, g = gU w 85 20 0 := ⟨_, rfl⟩
    rw [← hg]
    have g1 : ∀ z, z ≠ 85 → z ≠ 100 → z ≠ 101 → g z = s z := fun z z1 z2 z3 => by rw [hg, gU_n _ _ _ z1, q1 z z3, t0 z z2]
    have g2 : ∀ i, i ≠ 20 → g 85 i = s 85 i := fun i hi => by rw [hg, gUo _ _ _ hi, q1 85 (by decide), t0 85 (by decide)]
    have g3 : g 85 20 = 0 := by rw [hg, gUs]
    have g4 : TN A 11 (g 100) := by rw [hg, gU_n _ _ _ (by decide), q1 100 (by decide)]; exact hT
    have g5 : ∀ j, j < 44 → g 101 j = -1 := fun j hj => by rw [hg, gUn _ _ _ (by decide)]; exact q2 j hj
    clear hg q1 q2
    unfold f_M_fillsLand_83
    refine wp_for (2 * aN A) (fun e x => x.1 = (e : Int) ∧ (∀ z, z ≠ 85 → z ≠ 101 → z ≠ 102 → z ≠ 103 → x.2 z = g z) ∧ (∀ i, i ≠ 20 → x.2 85 i = g 85 i) ∧ x.2 85 20 = ((FL A e).length : Int) ∧ (∀ j, j < 44 → (x.2 101 j = -1 ↔ ¬ (SS A e).testBit j = true)) ∧ ∀ k, (hk : k < (FL A e).length) → x.2 102 k = ((sz A ((FL A e)[k]) : Nat) : Int) ∧ x.2 103 k = (((FL A e)[k] : Nat) : Int)) 0 _ (by omega) (by omega) (by exact ⟨rfl, fun _ _ _ _ _ => rfl, fun _ _ => rfl, g3, fun j hj => ⟨fun _ => by simp [SS], fun _ => g5 j hj⟩, fun k hk => absurd hk (Nat.not_lt_zero k)⟩) ?_ ?_
    · rintro e ⟨y, w⟩ _ he ⟨rfl, q1, q2, q3, q4, q5⟩
      dsimp only at q1 q2 q3 q4 q5
      have hMw : MT A w := MT_k hM (fun a h1 h2 => by rw [q1 a (by omega) (by omega) (by omega) (by omega), g1 a (by omega) (by omega) (by omega)])
      have w100 : w 100 = g 100 := q1 100 (by decide) (by decide) (by decide) (by decide)
      have hlen := FL_len A e
      have hw2 : wI (2 * ((aN A : Nat) : Int)) = ((2 * aN A : Nat) : Int) := by rw [wI_id (by omega) (by omega)]; omega
      have i44 : gI 44 (e : Int) = some e := gI_n (by omega)
      dsimp only
      unfold f_M_fillsLand_83b
      rw [e_M_places hA.1 hMw.1, Option.bind_some, hw2, if_neg (show ¬ ((2 * aN A : Nat) : Int) ≤ (e : Int) by omega), i44, Option.bind_some]
      clear hw2
      by_cases hb : (SS A e).testBit e = true
      · rw [if_neg (fun z => (q4 e (by omega)).mp z hb)]
        unfold f_M_fillsLand_138
        rw [wp_some, gE_l]
        dsimp only
        rw [wI_s (by omega), FL_s, SS_s, if_pos hb, if_pos hb]
        simp only [FL_s, if_pos hb]
        exact ⟨trivial, q1, q2, q3, q4, q5⟩
      · rw [if_pos ((q4 e (by omega)).mpr hb)]
        obtain ⟨h1, h2, h3, h4, h5⟩ := orb_all hA he
        have hag := orb_again hA he
        have hcl := (SS_ok hA e (by omega)).1
        have hns := clo_sit hA he hcl hb
        unfold f_M_fillsLand_99
        refine wp_for (sz A e) (fun i x => x.1 = (i : Int) ∧ x.2.1 = ((sit A e i : Nat) : Int) ∧ (∀ z, z ≠ 101 → x.2.2 z = w z) ∧ ∀ j, j < 44 → (x.2.2 101 j = -1 ↔ ¬ (SS A e ||| pz A e i).testBit j = true)) 0 _ (by omega) (by omega) (by exact ⟨rfl, rfl, fun _ _ => rfl, fun j hj => by rw [show pz A e 0 = 0 from rfl, Nat.or_zero]; exact q4 j hj⟩) ?_ ?_
        · rintro i ⟨y1, y2, u⟩ _ hi ⟨rfl, rfl, p1, p2⟩
          dsimp only at p1 p2
          have hsl := sit_lt hA he i
          have hxl := xo_lt hsl
          have j1 : gI 44 ((sit A e i : Nat) : Int) = some (sit A e i) := gI_n (by omega)
          have ex : kxor ((sit A e i : Nat) : Int) 1 = ((xo (sit A e i) : Nat) : Int) := by
            rw [show (1 : Int) = ((1 : Nat) : Int) from rfl, kxor_n (by omega) (by decide), xo_xor (by omega)]
          have j2 : gI 44 ((xo (sit A e i) : Nat) : Int) = some (xo (sit A e i)) := gI_n (by omega)
          have hfree : u 101 (sit A e i) = -1 := (p2 _ (by omega)).mpr (by
            rw [Nat.testBit_or, Bool.or_eq_true]
            rintro (z | z)
            · exact hns i z
            · exact h3 i hi z)
          have u85 : u 85 20 = ((FL A e).length : Int) := by rw [p1 85 (by decide)]; exact q3
          have etn : u 100 (xo (sit A e i)) = ((tn A (xo (sit A e i)) : Nat) : Int) := by rw [p1 100 (by decide), w100]; exact g4 _ hxl (bre_lt hA.1 hxl)
          dsimp only
          unfold f_M_fillsLand_99b
          rw [j1, Option.bind_some, if_pos hfree, Option.bind_some, gLet_eq, ex, j2, Option.bind_some, wp_some, gE_l]
          dsimp only
          rw [wI_s (by omega), gUn _ _ _ (by decide), etn]
          refine ⟨rfl, rfl, fun z hz => by rw [gU_n _ _ _ hz]; exact p1 z hz, fun j hj => ?_⟩
          rw [pz_s, ← Nat.or_assoc, Nat.testBit_or, Nat.testBit_two_pow]
          by_cases hjs : j = sit A e i
          · rw [hjs, gUs, u85]
            constructor
            · intro z
              omega
            · intro z
              exfalso
              apply z
              rw [decide_eq_true rfl, Bool.or_true]
          · rw [gUo _ _ _ hjs, decide_eq_false (fun z => hjs z.symm), Bool.or_false]
            exact p2 j hj
        · rintro ⟨y1, y2, u⟩ ⟨rfl, rfl, p1, p2⟩
          dsimp only at p1 p2
          have hbit : (SS A e ||| pz A e (sz A e)).testBit e = true := by
            rw [Nat.testBit_or, Bool.or_eq_true]
            right
            rw [h5] at hag
            exact hag
          have hmk : ¬ u 101 e = -1 := fun z => (p2 e (by omega)).mp z hbit
          have u85 : u 85 20 = ((FL A e).length : Int) := by rw [p1 85 (by decide)]; exact q3
          have jl : gI 44 ((FL A e).length : Int) = some (FL A e).length := gI_n (by omega)
          dsimp only
          rw [h5]
          unfold f_M_fillsLand_99b
          rw [i44, Option.bind_some, if_neg hmk, u85, jl, Option.bind_some, gLet_eq, gUn _ _ _ (by decide), u85, jl, Option.bind_some, gLet_eq, gUn _ _ _ (by decide), gUn _ _ _ (by decide), u85, gLet_eq]
          unfold f_M_fillsLand_138
          rw [Option.map_some, wp_some, gE_r, gE_l]
          dsimp only
          rw [wI_s (by omega), wI_s (by omega)]
          have eFL : FL A (e + 1) = FL A e ++ [e] := by rw [FL_s, if_neg hb]
          have eSS : SS A (e + 1) = SS A e ||| pz A e (sz A e) := by rw [SS_s, if_neg hb, h4]
          refine ⟨rfl, fun z z1 z2 z3 z4 => by rw [gU_n _ _ _ z1, gU_n _ _ _ z4, gU_n _ _ _ z3, p1 z z2]; exact q1 z z1 z2 z3 z4, fun i hi => by rw [gUo _ _ _ hi, gUn _ _ _ (by decide), gUn _ _ _ (by decide), p1 85 (by decide)]; exact q2 i hi, ?_, fun j hj => ?_, ?_⟩
          · rw [gUs, eFL, List.length_append, List.length_singleton]
          · rw [gUn _ _ _ (by decide), gUn _ _ _ (by decide), gUn _ _ _ (by decide), eSS]
            exact p2 j hj
          · rw [eFL]
            intro k hk
            rw [List.length_append, List.length_singleton] at hk
            rw [gU_n _ _ _ (show 102 ≠ 85 by decide), gU_n _ _ _ (show 102 ≠ 103 by decide), gU_n _ _ _ (show 103 ≠ 85 by decide)]
            by_cases hkl : k = (FL A e).length
            · subst hkl
              rw [gUs, gUs, List.getElem_append_right (Nat.le_refl _)]
              simp
            · rw [gUo _ _ _ hkl, gUo _ _ _ hkl, gU_n _ _ _ (show 103 ≠ 102 by decide), p1 102 (by decide), p1 103 (by decide), List.getElem_append_left (by omega)]
              exact q5 k (by omega)
    · rintro ⟨y, w⟩ ⟨rfl, q1, q2, q3, q4, q5⟩
      dsimp only at q1 q2 q3 q4 q5
      have hMw : MT A w := MT_k hM (fun a h1 h2 => by rw [q1 a (by omega) (by omega) (by omega) (by omega), g1 a (by omega) (by omega) (by omega)])
      have hw2 : wI (2 * ((aN A : Nat) : Int)) = ((2 * aN A : Nat) : Int) := by rw [wI_id (by omega) (by omega)]; omega
      dsimp only
      unfold f_M_fillsLand_83b
      rw [e_M_places hA.1 hMw.1, Option.bind_some, hw2, if_pos (Int.le_refl _), wp_some, gE_r]
      refine ⟨fun z z1 z2 z3 z4 z5 => by rw [q1 z z1 z3 z4 z5]; exact g1 z z1 z2 z3, fun i hi => by rw [q2 i hi]; exact g2 i hi, by rw [q1 100 (by decide) (by decide) (by decide) (by decide)]; exact g4, q3, q5⟩
