theorem M_loop {T : Nat → Int} (hT : TB T) {L k : Nat} (hk : k < 6) {lv : Nat} (hlv : lv = 3 ∨ lv = 4) {b : Bool} {I : Nat → Nat → pR} (hI : It L b I) {g : kM → Option kM} (hg : MIt T L k I g) {fb : kM → Option (kM ⊕ kM)} {bk : kM → Option kM}
    (f1 : ∀ c q n s, MVr T L k c q n s → jt T L lv q = none → fb s = some (.inr s))
    (f2 : ∀ c q n s j, MVr T L k c q n s → q ≤ L → jt T L lv q = some j → fb s = (g (gU s 85 22 ((j.1 : Nat) : Int))).bind fun t => (f_M_entry (mt1 j.2) 0 t).bind fun u => (bk u).bind fun w => some (.inl w))
    (f3 : ∀ e s, MEr T L e s → fb s = some (.inr s))
    (b1 : ∀ p n c' p3 n3 cc u, p ≤ L → n ≤ 60 → I p n = .inr (c', p3, n3) → MVr T L k cc p3 n3 u → bk u = some (gU u 85 22 ((bl T L p3 : Nat) : Int)))
    (b2 : ∀ e u, MEr T L e u → ∃ w, bk u = some w ∧ MEr T L e w ∧ mfv k u w) {c0 : List Int} {s0 : kM} : ∀ kk m c p n s, L - p < kk → L - p + 1 < m → p ≤ L → n ≤ 60 → 3 * (c0 ++ c).length + 3 ≤ 6 * n + p → MVr T L k (c0 ++ c) (bl T L p) n s → mfv k s0 s → wp (gL fb m s) (mvo T L k c0 (pJn T L I lv kk c p n) s0)
  | 0, _, _, _, _, _, h, _, _, _, _, _, _ => by omega
  | kk + 1, m, c, p, n, s, h1, h2, h3, h4, h5, h6, h7 => by
    obtain ⟨m', rfl⟩ : ∃ m', m = m' + 1 := ⟨m - 1, by omega⟩
    have hL := h6.1.1.1
    have hb := bl_le (T := T) h3
    cases hj : jt T L lv (bl T L p) with
    | none =>
      rw [gL_r (f1 _ _ _ _ h6 hj), pJn_n hj, wp_some]
      exact mvo_r h7 h6
    | some j =>
      obtain ⟨⟨j1, j2⟩, j3, j4⟩ := jt_i hb.2 hj
      have hX := MVr_u h6 (q := j.1) (by omega)
      have hfX : mfv k s (gU s 85 22 ((j.1 : Nat) : Int)) := mfv_85 k s _ (by decide)
      have ef := f2 _ _ _ _ j h6 hb.2 hj
      generalize gU s 85 22 ((j.1 : Nat) : Int) = s1 at *
      obtain ⟨t, g1, ht⟩ := hg (c0 ++ c) j.1 n s1 h4 j2 (by omega) hX
      obtain ⟨i1, i2⟩ := hI j.1 n j2 h4
      rw [g1, Option.bind_some] at ef
      rw [pJn_s hj]
      cases hr : I j.1 n with
      | inl e0 =>
        rw [hr] at ht
        obtain ⟨t1, t2⟩ := ht
        obtain ⟨w, g3, w1, w2⟩ := b2 e0 t t2
        rw [e_M_entryE t2, Option.bind_some, g3, Option.bind_some] at ef
        obtain ⟨m2, rfl⟩ : ∃ m2, m' = m2 + 1 := ⟨m' - 1, by omega⟩
        rw [gL_l ef, gL_r (f3 e0 w w1), wp_some, bR_l]
        exact mvo_l (mfv_t h7 (mfv_t hfX (mfv_t t1 w2))) w1
      | inr y =>
        obtain ⟨c2, p3, n3⟩ := y
        rw [hr] at ht
        obtain ⟨t1, t2⟩ := ht
        dsimp only at t2
        obtain ⟨⟨v1, v2, v3, v4⟩, v5, v6, v7⟩ := i2 c2 p3 n3 hr
        have hlen : (c0 ++ c ++ c2).length = (c0 ++ c).length + c2.length := List.length_append
        have hm2 : (0 : Int) = mt2 j.2 := by unfold mt2; rw [if_neg (by omega), if_neg (by omega)]
        obtain ⟨u, g2, u1, u2⟩ := e_M_entryX hk t2 (x := j.2) (a := mt1 j.2) (b := 0) (by omega) rfl hm2
        rw [g2, Option.bind_some, b1 j.1 n c2 p3 n3 _ u j2 h4 hr u1, Option.bind_some] at ef
        have hb3 := bl_le (T := T) v2
        rw [gL_l ef, bR_r]
        have hass : c0 ++ (c ++ c2 ++ [j.2]) = c0 ++ c ++ c2 ++ [j.2] := by rw [← List.append_assoc, ← List.append_assoc]
        have hlen2 : (c0 ++ (c ++ c2 ++ [j.2])).length = (c0 ++ c).length + c2.length + 1 := by rw [hass, List.length_append, hlen]; rfl
        refine M_loop hT hk hlv hI hg f1 f2 f3 b1 b2 kk m' (c ++ c2 ++ [j.2]) p3 n3 _ (by omega) (by omega) v2 v4 (by rw [hlen2]; omega) ?_ (mfv_t h7 (mfv_t hfX (mfv_t t1 (mfv_t u2 (mfv_85 k u _ (by decide))))))
        rw [hass]
        exact MVr_u u1 (by omega)
theorem MEr_b {T : Nat → Int} (hT : TB T) {L e : Nat} {u : kM} (h : MEr T L e u) (k : Nat) : ∃ w, f_M_blanks u = some w ∧ MEr T L e w ∧ mfv k u w := by
  obtain ⟨⟨p, hp, hM⟩, h2⟩ := id h
  have hL := hM.1.1
  refine ⟨_, e_M_blanks hT hM, MEr_u h ?_, mfv_85 k u _ (by decide)⟩
  by_cases h3 : p ≤ L
  · have := bl_le (T := T) h3
    omega
  · rw [bl_no (by omega)]
    exact hp
theorem M_term {T : Nat → Int} (hT : TB T) {L k : Nat} (hk : k < 6) : MIt T L k (pSq T L (pV T L) 4) f_M_term := by
  have f3 : ∀ e s, MEr T L e s → f_M_term_4b s = some (.inr s) := by
    intro e s h
    unfold f_M_term_4b
    rw [if_neg (by rw [h.2.1]; have := h.2.2.1; omega)]
  intro c p n s hn hp hc hX
  have hL := hX.1.1.1
  obtain ⟨t, g1, ht⟩ := M_value hT hk c p n s hn hp hc hX
  obtain ⟨i1, i2⟩ := It_V (T := T) p n hp hn
  unfold f_M_term pSq
  rw [g1, Option.bind_some]
  cases hr : pV T L p n with
  | inl e0 =>
    rw [hr] at ht
    obtain ⟨t1, t2⟩ := ht
    obtain ⟨w, g3, w1, w2⟩ := MEr_b hT t2 k
    unfold f_M_term_4
    rw [g3, Option.bind_some, show gF = 4095 + 1 from rfl, gL_r (f3 e0 w w1), wp_some, bR_l]
    exact mvo_l (mfv_t t1 w2) w1
  | inr y =>
    obtain ⟨c2, p3, n3⟩ := y
    rw [hr] at ht
    obtain ⟨t1, t2⟩ := ht
    dsimp only at t2
    obtain ⟨⟨v1, v2, v3, v4⟩, v5, v6, v7⟩ := i2 c2 p3 n3 hr
    have hb3 := bl_le (T := T) v2
    have hlen : (c ++ c2).length = c.length + c2.length := List.length_append
    unfold f_M_term_4
    rw [e_M_blanks hT t2.1, Option.bind_some, bR_r]
    refine M_loop hT hk (lv := 4) (by omega) It_V (M_value hT hk) (bk := f_M_blanks) ?_ ?_ f3 (fun p n c' p3 n3 cc u _ _ _ h => e_M_blanks hT h.1) (fun e u h => MEr_b hT h k) 401 gF c2 p3 n3 _ (by omega) (by show L - p3 + 1 < 4096; omega) v2 v4 (by rw [hlen]; omega) (MVr_u t2 (by omega)) (mfv_t t1 (mfv_85 k t _ (by decide)))
    · intro c q n s h hj
      have ej : jt T L 4 q = (if q < L ∧ T q = 42 then some (q + 1, -12) else if q < L ∧ T q = 47 then some (q + 1, -13) else if q < L ∧ T q = 37 then some (q + 1, -14) else none) := by
        unfold jt
        rw [if_neg (by decide), if_neg (by decide), if_neg (by decide)]
      rw [ej] at hj
      unfold f_M_term_4b
      rw [if_pos h.2.1, e_M_sign h.1, Option.bind_some, Option.bind_some, Option.bind_some]
      by_cases h1 : q < L ∧ T q = 42
      · rw [if_pos h1] at hj
        cases hj
      · rw [if_neg h1] at hj
        by_cases h2 : q < L ∧ T q = 47
        · rw [if_pos h2] at hj
          cases hj
        · rw [if_neg h2] at hj
          by_cases h3 : q < L ∧ T q = 37
          · rw [if_pos h3] at hj
            cases hj
          · rw [if_neg (fun z => h1 ((sgn_eq hT (by decide) (by decide)).mp z)), if_neg (fun z => h2 ((sgn_eq hT (by decide) (by decide)).mp z)), if_neg (fun z => h3 ((sgn_eq hT (by decide) (by decide)).mp z))]
    · intro c q n s j h hq hj
      have ej : jt T L 4 q = (if q < L ∧ T q = 42 then some (q + 1, -12) else if q < L ∧ T q = 47 then some (q + 1, -13) else if q < L ∧ T q = 37 then some (q + 1, -14) else none) := by
        unfold jt
        rw [if_neg (by decide), if_neg (by decide), if_neg (by decide)]
      rw [ej] at hj
      have ew : wI (s 85 22 + 1) = ((q + 1 : Nat) : Int) := by rw [h.1.2.2.1]; exact wI_s (by omega)
      unfold f_M_term_4b f_M_term_19 f_M_term_32
      rw [if_pos h.2.1, e_M_sign h.1, Option.bind_some, Option.bind_some, Option.bind_some, Option.bind_some, Option.bind_some, gLet_eq, gLet_eq, gLet_eq, ew]
      clear ew
      by_cases h1 : q < L ∧ T q = 42
      · have es : sgn T L q = 42 := (sgn_eq hT (by decide) (by decide)).mpr h1
        rw [if_pos h1] at hj
        injection hj with hj
        rw [← hj, if_pos es, if_pos es]
        rfl
      · have n1 : ¬ sgn T L q = 42 := fun z => h1 ((sgn_eq hT (by decide) (by decide)).mp z)
        rw [if_neg h1] at hj
        rw [if_neg n1, if_neg n1]
        by_cases h2 : q < L ∧ T q = 47
        · have es : sgn T L q = 47 := (sgn_eq hT (by decide) (by decide)).mpr h2
          rw [if_pos h2] at hj
          injection hj with hj
          rw [← hj, if_pos es, if_pos es]
          rfl
        · have n2 : ¬ sgn T L q = 47 := fun z => h2 ((sgn_eq hT (by decide) (by decide)).mp z)
          rw [if_neg h2] at hj
          rw [if_neg n2, if_neg n2]
          by_cases h3 : q < L ∧ T q = 37
          · have es : sgn T L q = 37 := (sgn_eq hT (by decide) (by decide)).mpr h3
            rw [if_pos h3] at hj
            injection hj with hj
            rw [← hj, if_pos es]
            rfl
          · rw [if_neg h3] at hj
            cases hj
theorem M_sum {T : Nat → Int} (hT : TB T) {L k : Nat} (hL : L ≤ 400) (hk : k < 6) : MIt T L k (pSm T L) f_M_sum := by
  have f3 : ∀ e s, MEr T L e s → f_M_sum_2b s = some (.inr s) := by
    intro e s h
    unfold f_M_sum_2b
    rw [if_neg (by rw [h.2.1]; have := h.2.2.1; omega)]
  have hTm := It_Sq (T := T) hL (It_V (T := T)) (lv := 4) (fun h => (by cases h))
  intro c p n s hn hp hc hX
  obtain ⟨t, g1, ht⟩ := M_term hT hk c p n s hn hp hc hX
  obtain ⟨i1, i2⟩ := hTm.1 p n hp hn
  unfold f_M_sum pSm
  show wp _ (mvo T L k c (bR (pSq T L (pV T L) 4 p n) (fun c p' n' => pJn T L (pSq T L (pV T L) 4) 3 401 c p' n')) s)
  rw [g1, Option.bind_some]
  cases hr : pSq T L (pV T L) 4 p n with
  | inl e0 =>
    rw [hr] at ht
    obtain ⟨t1, t2⟩ := ht
    unfold f_M_sum_2
    rw [show gF = 4095 + 1 from rfl, gL_r (f3 e0 t t2), wp_some, bR_l]
    exact mvo_l t1 t2
  | inr y =>
    obtain ⟨c2, p3, n3⟩ := y
    rw [hr] at ht
    obtain ⟨t1, t2⟩ := ht
    dsimp only at t2
    obtain ⟨⟨v1, v2, v3, v4⟩, v5, v6, v7⟩ := i2 c2 p3 n3 hr
    have hb3 := hTm.2 p n c2 p3 n3 hp hn hr
    have hlen : (c ++ c2).length = c.length + c2.length := List.length_append
    unfold f_M_sum_2
    rw [bR_r]
    refine M_loop hT hk (lv := 3) (by omega) hTm.1 (M_term hT hk) (bk := some) ?_ ?_ f3 (fun p n c' p3 n3 cc u hp hn h1 h => ?_) (fun e u h => ⟨u, rfl, h, mfv_r k u⟩) 401 gF c2 p3 n3 _ (by omega) (by show L - p3 + 1 < 4096; omega) v2 v4 (by rw [hlen]; omega) (by rw [hb3]; exact t2) t1
    · intro c q n s h hj
      have ej : jt T L 3 q = (if q < L ∧ T q = 43 then some (q + 1, -10) else if q < L ∧ T q = 45 then some (q + 1, -11) else none) := by
        unfold jt
        rw [if_neg (by decide), if_neg (by decide), if_pos rfl]
      rw [ej] at hj
      unfold f_M_sum_2b
      rw [if_pos h.2.1, e_M_sign h.1, Option.bind_some, Option.bind_some]
      by_cases h1 : q < L ∧ T q = 43
      · rw [if_pos h1] at hj
        cases hj
      · rw [if_neg h1] at hj
        by_cases h2 : q < L ∧ T q = 45
        · rw [if_pos h2] at hj
          cases hj
        · rw [if_neg (fun z => h1 ((sgn_eq hT (by decide) (by decide)).mp z)), if_neg (fun z => h2 ((sgn_eq hT (by decide) (by decide)).mp z))]
    · intro c q n s j h hq hj
      have ej : jt T L 3 q = (if q < L ∧ T q = 43 then some (q + 1, -10) else if q < L ∧ T q = 45 then some (q + 1, -11) else none) := by
        unfold jt
        rw [if_neg (by decide), if_neg (by decide), if_pos rfl]
      rw [ej] at hj
      have ew : wI (s 85 22 + 1) = ((q + 1 : Nat) : Int) := by rw [h.1.2.2.1]; exact wI_s (by omega)
      unfold f_M_sum_2b f_M_sum_13 f_M_sum_20
      rw [if_pos h.2.1, e_M_sign h.1, Option.bind_some, Option.bind_some, Option.bind_some, gLet_eq, gLet_eq, ew]
      clear ew
      by_cases h1 : q < L ∧ T q = 43
      · have es : sgn T L q = 43 := (sgn_eq hT (by decide) (by decide)).mpr h1
        rw [if_pos h1] at hj
        injection hj with hj
        rw [← hj, if_pos es, if_pos es]
        rfl
      · have n1 : ¬ sgn T L q = 43 := fun z => h1 ((sgn_eq hT (by decide) (by decide)).mp z)
        rw [if_neg h1] at hj
        rw [if_neg n1, if_neg n1]
        by_cases h2 : q < L ∧ T q = 45
        · have es : sgn T L q = 45 := (sgn_eq hT (by decide) (by decide)).mpr h2
          rw [if_pos h2] at hj
          injection hj with hj
          rw [← hj, if_pos es]
          rfl
        · rw [if_neg h2] at hj
          cases hj
    · rw [hTm.2 p n c' p3 n3 hp hn h1, gU_id h.1.2.2.1]
theorem M_sumE {T : Nat → Int} (hT : TB T) {L k e p : Nat} {s : kM} (h : MEr T L e s) (hM : MTp T L p s) (hp : p ≤ L) : wp (f_M_sum s) (fun t => mfv k s t ∧ MEr T L e t) := by
  obtain ⟨t, g1, t1, t2⟩ := M_valueE (k := k) hT h hM hp
  obtain ⟨w, g3, w1, w2⟩ := MEr_b hT t2 k
  have e4 : f_M_term_4b w = some (.inr w) := by
    unfold f_M_term_4b
    rw [if_neg (by rw [w1.2.1]; have := w1.2.2.1; omega)]
  have e2 : f_M_sum_2b w = some (.inr w) := by
    unfold f_M_sum_2b
    rw [if_neg (by rw [w1.2.1]; have := w1.2.2.1; omega)]
  unfold f_M_sum f_M_term f_M_term_4 f_M_sum_2
  rw [g1, Option.bind_some, g3, Option.bind_some, show gF = 4095 + 1 from rfl, gL_r e4, Option.bind_some, gL_r e2, wp_some]
  exact ⟨mfv_t t1 w2, w1⟩
