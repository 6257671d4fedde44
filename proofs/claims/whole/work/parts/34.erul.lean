theorem e_takeS {T : Nat → Int} (hT : TB T) {L q : Nat} {s : kM} (h : KTp T L q s) (hq : bl T L q = q) {k : Nat} (hk : k < 128) : f_Tape_takeSign k s = some (if q < L ∧ T q = (k : Int) then (1, gU s 1 2 ((q + 1 : Nat) : Int)) else (0, s)) := by
  have := e_takeSign hT h hk
  rw [hq, gU_id h.2.2.2.1] at this
  exact this
theorem e_joint {T : Nat → Int} (hT : TB T) {L : Nat} {c : List Int} {p n : Nat} {s : kM} (h : KXr T L c p n s) {lv : Nat} (hlv : lv = 0 ∨ lv = 1 ∨ lv = 3 ∨ lv = 4) : (jt T L lv (bl T L p) = none → f_RuleText_takenJoint (lv : Int) s = some (0, gU s 1 2 ((bl T L p : Nat) : Int))) ∧ ∀ j, jt T L lv (bl T L p) = some j → f_RuleText_takenJoint (lv : Int) s = some (j.2, gU s 1 2 ((j.1 : Nat) : Int)) := by
  have hb := bl_le (T := T) h.1.2.1
  have hbb : bl T L (bl T L p) = bl T L p := bl_bl _ _ rfl
  unfold f_RuleText_takenJoint
  rw [if_pos h.2.1]
  rcases hlv with hlv | hlv | hlv | hlv
  · subst hlv
    have e0 : f_Tape_takeWord 13 s = _ := e_takeWord h.1 (w := 13) (by decide)
    have ej : jt T L 0 (bl T L p) = (if std T L (bl T L p) (kstrs.getD 13 []) = true then some (bl T L p + 2, -21) else none) := if_pos rfl
    rw [if_pos (by decide), e0, ej, Option.bind_some]
    by_cases hs : std T L (bl T L p) (kstrs.getD 13 []) = true
    · rw [if_pos hs, if_pos hs]
      refine ⟨fun q => (by cases q), fun j hj => ?_⟩
      injection hj with hj
      rw [← hj]
      dsimp only
      rw [if_neg (by decide)]
      rfl
    · rw [if_neg hs, if_neg hs]
      exact ⟨fun _ => rfl, fun j hj => (by cases hj)⟩
  · subst hlv
    have e0 : f_Tape_takeWord 14 s = _ := e_takeWord h.1 (w := 14) (by decide)
    have ej : jt T L 1 (bl T L p) = (if std T L (bl T L p) (kstrs.getD 14 []) = true then some (bl T L p + 3, -20) else none) := by
      unfold jt
      rw [if_neg (by decide), if_pos rfl]
    rw [if_neg (by decide), if_pos (by decide), e0, ej, Option.bind_some]
    by_cases hs : std T L (bl T L p) (kstrs.getD 14 []) = true
    · rw [if_pos hs, if_pos hs]
      refine ⟨fun q => (by cases q), fun j hj => ?_⟩
      injection hj with hj
      rw [← hj]
      dsimp only
      rw [if_neg (by decide)]
      rfl
    · rw [if_neg hs, if_neg hs]
      exact ⟨fun _ => rfl, fun j hj => (by cases hj)⟩
  · subst hlv
    have hX1 := KXr_u h hb.2
    have e1 : f_Tape_takeSign 43 s = some (if bl T L p < L ∧ T (bl T L p) = 43 then (1, gU s 1 2 ((bl T L p + 1 : Nat) : Int)) else (0, gU s 1 2 ((bl T L p : Nat) : Int))) := e_takeSign hT h.1 (c := 43) (by decide)
    have e2 : f_Tape_takeSign 45 (gU s 1 2 ((bl T L p : Nat) : Int)) = some (if bl T L p < L ∧ T (bl T L p) = 45 then (1, gU (gU s 1 2 ((bl T L p : Nat) : Int)) 1 2 ((bl T L p + 1 : Nat) : Int)) else (0, gU s 1 2 ((bl T L p : Nat) : Int))) := e_takeS hT hX1.1 hbb (k := 45) (by decide)
    have ej : jt T L 3 (bl T L p) = (if bl T L p < L ∧ T (bl T L p) = 43 then some (bl T L p + 1, -10) else if bl T L p < L ∧ T (bl T L p) = 45 then some (bl T L p + 1, -11) else none) := by
      unfold jt
      rw [if_neg (by decide), if_neg (by decide), if_pos rfl]
    rw [gU_gU] at e2
    rw [if_neg (by decide), if_neg (by decide), if_neg (by decide), if_pos (by decide), e1, ej, Option.bind_some]
    generalize bl T L p = q at *
    by_cases h1 : q < L ∧ T q = 43
    · rw [if_pos h1, if_pos h1]
      refine ⟨fun q => (by cases q), fun j hj => ?_⟩
      injection hj with hj
      rw [← hj]
      dsimp only
      rw [if_neg (by decide)]
    · rw [if_neg h1, if_neg h1]
      dsimp only
      rw [if_pos rfl, e2, Option.bind_some]
      by_cases h2 : q < L ∧ T q = 45
      · rw [if_pos h2, if_pos h2]
        refine ⟨fun q => (by cases q), fun j hj => ?_⟩
        injection hj with hj
        rw [← hj]
        dsimp only
        rw [if_neg (by decide)]
      · rw [if_neg h2, if_neg h2]
        exact ⟨fun _ => rfl, fun j hj => (by cases hj)⟩
  · subst hlv
    have hX1 := KXr_u h hb.2
    have e1 : f_Tape_takeSign 42 s = some (if bl T L p < L ∧ T (bl T L p) = 42 then (1, gU s 1 2 ((bl T L p + 1 : Nat) : Int)) else (0, gU s 1 2 ((bl T L p : Nat) : Int))) := e_takeSign hT h.1 (c := 42) (by decide)
    have e2 : f_Tape_takeSign 47 (gU s 1 2 ((bl T L p : Nat) : Int)) = some (if bl T L p < L ∧ T (bl T L p) = 47 then (1, gU (gU s 1 2 ((bl T L p : Nat) : Int)) 1 2 ((bl T L p + 1 : Nat) : Int)) else (0, gU s 1 2 ((bl T L p : Nat) : Int))) := e_takeS hT hX1.1 hbb (k := 47) (by decide)
    have e3 : f_Tape_takeSign 37 (gU s 1 2 ((bl T L p : Nat) : Int)) = some (if bl T L p < L ∧ T (bl T L p) = 37 then (1, gU (gU s 1 2 ((bl T L p : Nat) : Int)) 1 2 ((bl T L p + 1 : Nat) : Int)) else (0, gU s 1 2 ((bl T L p : Nat) : Int))) := e_takeS hT hX1.1 hbb (k := 37) (by decide)
    have ej : jt T L 4 (bl T L p) = (if bl T L p < L ∧ T (bl T L p) = 42 then some (bl T L p + 1, -12) else if bl T L p < L ∧ T (bl T L p) = 47 then some (bl T L p + 1, -13) else if bl T L p < L ∧ T (bl T L p) = 37 then some (bl T L p + 1, -14) else none) := by
      unfold jt
      rw [if_neg (by decide), if_neg (by decide), if_neg (by decide)]
    rw [gU_gU] at e2 e3
    rw [if_neg (by decide), if_neg (by decide), if_neg (by decide), if_neg (by decide), e1, ej, Option.bind_some]
    generalize bl T L p = q at *
    by_cases h1 : q < L ∧ T q = 42
    · rw [if_pos h1, if_pos h1]
      refine ⟨fun q => (by cases q), fun j hj => ?_⟩
      injection hj with hj
      rw [← hj]
      dsimp only
      rw [if_neg (by decide)]
    · rw [if_neg h1, if_neg h1]
      dsimp only
      rw [if_pos rfl, e2, Option.bind_some]
      by_cases h2 : q < L ∧ T q = 47
      · rw [if_pos h2, if_pos h2]
        refine ⟨fun q => (by cases q), fun j hj => ?_⟩
        injection hj with hj
        rw [← hj]
        dsimp only
        rw [if_neg (by decide)]
      · rw [if_neg h2, if_neg h2]
        dsimp only
        rw [if_pos rfl, e3, Option.bind_some]
        by_cases h3 : q < L ∧ T q = 37
        · rw [if_pos h3, if_pos h3]
          refine ⟨fun q => (by cases q), fun j hj => ?_⟩
          injection hj with hj
          rw [← hj]
          dsimp only
          rw [if_neg (by decide)]
        · rw [if_neg h3, if_neg h3]
          exact ⟨fun _ => rfl, fun j hj => (by cases hj)⟩
theorem e_jointE {T : Nat → Int} {L e : Nat} {s : kM} (h : KEr T L e s) (x : Int) : f_RuleText_takenJoint x s = some (0, s) := by
  unfold f_RuleText_takenJoint
  rw [if_neg (by rw [h.2.1]; have := h.2.2.1; omega)]
/-- the loop's head -/
def HC (T : Nat → Int) (L lv : Nat) (c : List Int) (p n : Nat) (sg : Int) (s : kM) : Prop := (jt T L lv (bl T L p) = none → sg = 0 ∧ KXr T L c (bl T L p) n s) ∧ ∀ j, jt T L lv (bl T L p) = some j → sg = j.2 ∧ KXr T L c j.1 n s
theorem HC_of {T : Nat → Int} (hT : TB T) {L : Nat} {c : List Int} {p n : Nat} {s : kM} (h : KXr T L c p n s) {lv : Nat} (hlv : lv = 0 ∨ lv = 1 ∨ lv = 3 ∨ lv = 4) : ∃ sg t, f_RuleText_takenJoint (lv : Int) s = some (sg, t) ∧ kfr s t ∧ HC T L lv c p n sg t := by
  have hb := bl_le (T := T) h.1.2.1
  obtain ⟨e1, e2⟩ := e_joint hT h hlv
  cases hj : jt T L lv (bl T L p) with
  | none =>
    refine ⟨_, _, e1 hj, kfr_1 _ _ _, fun _ => ⟨rfl, KXr_u h hb.2⟩, fun j q => ?_⟩
    rw [hj] at q
    cases q
  | some j =>
    have := (jt_i hb.2 hj).1.2
    refine ⟨_, _, e2 j hj, kfr_1 _ _ _, fun q => ?_, fun j' q => ?_⟩
    · rw [hj] at q
      cases q
    · rw [hj] at q
      injection q with q
      rw [← q]
      exact ⟨rfl, KXr_u h this⟩
theorem gL_l {σ ρ : Type} {f : σ → Option (σ ⊕ ρ)} {m : Nat} {x y : σ} (h : f x = some (.inl y)) : gL f (m + 1) x = gL f m y := by
  show (match f x with | some (.inl y) => gL f m y | some (.inr r) => some r | none => none) = _
  rw [h]
theorem gL_r {σ ρ : Type} {f : σ → Option (σ ⊕ ρ)} {m : Nat} {x : σ} {r : ρ} (h : f x = some (.inr r)) : gL f (m + 1) x = some r := by
  show (match f x with | some (.inl y) => gL f m y | some (.inr r) => some r | none => none) = _
  rw [h]
theorem wp_K_loop {T : Nat → Int} (hT : TB T) {L : Nat} {lv d : Nat} (hlv : lv = 0 ∨ lv = 1 ∨ lv = 3 ∨ lv = 4) {b : Bool} {I : Nat → Nat → pR} (hI : It L b I) {rec : Nat → Int → Int → Int → kM → Option kM} (hr : KIt T L I (rec 0 ((lv + 1 : Nat) : Int) (d : Int) 0)) {c0 : List Int} {s0 : kM} : ∀ k m c p n i s sg, L - p < k → L - p < m → p ≤ L → i + (L - p) < 400 → n ≤ 60 → kfr s0 s → HC T L lv (c0 ++ c) p n sg s → wp (gL (fun (x : Int × Int × kM) => f_RuleText_readLevel_28b rec (lv : Int) (d : Int) x.1 x.2.1 x.2.2) m (sg, ((i : Nat) : Int), s)) (kpo T L c0 (pJn T L I lv k c p n) s0)
  | 0, _, _, _, _, _, _, _, h, _, _, _, _, _, _ => by omega
  | k + 1, m, c, p, n, i, s, sg, h1, h2, h3, h4, h5, h6, h7 => by
    obtain ⟨m', rfl⟩ : ∃ m', m = m' + 1 := ⟨m - 1, by omega⟩
    have hb := bl_le (T := T) h3
    cases hj : jt T L lv (bl T L p) with
    | none =>
      obtain ⟨e1, hX⟩ := h7.1 hj
      have ef : (fun (x : Int × Int × kM) => f_RuleText_readLevel_28b rec (lv : Int) (d : Int) x.1 x.2.1 x.2.2) (sg, ((i : Nat) : Int), s) = some (.inr s) := by
        show f_RuleText_readLevel_28b rec (lv : Int) (d : Int) sg ((i : Nat) : Int) s = _
        unfold f_RuleText_readLevel_28b
        rw [if_neg (by omega), if_pos e1]
      rw [gL_r ef, pJn_n hj, wp_some]
      exact kpo_r h6 hX
    | some j =>
      obtain ⟨e1, hX⟩ := h7.2 j hj
      obtain ⟨⟨j1, j2⟩, j3, j4⟩ := jt_i hb.2 hj
      obtain ⟨t, g1, ht⟩ := hr (c0 ++ c) j.1 n s h5 hX
      obtain ⟨i1, i2⟩ := hI j.1 n j2 h5
      have red : ∀ u sg' w, f_RuleText_emit j.2 t = some u → f_RuleText_takenJoint (lv : Int) u = some (sg', w) → (fun (x : Int × Int × kM) => f_RuleText_readLevel_28b rec (lv : Int) (d : Int) x.1 x.2.1 x.2.2) (sg, ((i : Nat) : Int), s) = some (.inl (sg', ((i + 1 : Nat) : Int), w)) := by
        intro u sg' w q1 q2
        show f_RuleText_readLevel_28b rec (lv : Int) (d : Int) sg ((i : Nat) : Int) s = _
        unfold f_RuleText_readLevel_28b
        rw [if_neg (by omega), if_neg (by omega), wI_s (show lv < 2147483647 by omega), g1, Option.bind_some, e1, q1, Option.bind_some, q2, Option.bind_some, wI_s (show i < 2147483647 by omega)]
      rw [pJn_s hj]
      cases hr2 : I j.1 n with
      | inl e0 =>
        rw [hr2] at ht
        obtain ⟨t1, t2⟩ := ht
        obtain ⟨u, g2, u1, u2⟩ := e_emitE t2 j.2
        rw [gL_l (red u 0 u g2 (e_jointE u1 _)), bR_l]
        obtain ⟨m2, rfl⟩ : ∃ m2, m' = m2 + 1 := ⟨m' - 1, by omega⟩
        have ef : (fun (x : Int × Int × kM) => f_RuleText_readLevel_28b rec (lv : Int) (d : Int) x.1 x.2.1 x.2.2) ((0 : Int), ((i + 1 : Nat) : Int), u) = some (.inr u) := by
          show f_RuleText_readLevel_28b rec (lv : Int) (d : Int) 0 ((i + 1 : Nat) : Int) u = _
          unfold f_RuleText_readLevel_28b
          by_cases hi : (400 : Int) ≤ ((i + 1 : Nat) : Int)
          · rw [if_pos hi]
          · rw [if_neg hi, if_pos rfl]
        rw [gL_r ef, wp_some]
        exact kpo_l (kfr_t h6 (kfr_t t1 u2)) u1
      | inr y =>
        obtain ⟨c2, p3, n3⟩ := y
        rw [hr2] at ht
        obtain ⟨t1, t2⟩ := ht
        obtain ⟨⟨v1, v2, v3, v4⟩, v5, v6, v7⟩ := i2 c2 p3 n3 hr2
        obtain ⟨u, g2, u1, u2⟩ := e_emitX (x := j.2) t2 (by omega)
        obtain ⟨sg', w, g3, w1, w2⟩ := HC_of hT u1 hlv
        rw [gL_l (red u sg' w g2 g3), bR_r]
        refine wp_K_loop hT hlv hI hr k m' (c ++ c2 ++ [j.2]) p3 n3 (i + 1) w sg' (by omega) (by omega) v2 (by omega) v4 (kfr_t (kfr_t h6 t1) (kfr_t u2 w1)) ?_
        dsimp only at w2
        rw [← List.append_assoc, ← List.append_assoc]
        exact w2
theorem wp_K_lv {T : Nat → Int} (hT : TB T) {L : Nat} {lv d : Nat} (hlv : lv = 0 ∨ lv = 1 ∨ lv = 3 ∨ lv = 4) {b : Bool} {I : Nat → Nat → pR} (hI : It L b I) {rec : Nat → Int → Int → Int → kM → Option kM} (hr : KIt T L I (rec 0 ((lv + 1 : Nat) : Int) (d : Int) 0)) : KIt T L (pSq T L I lv) (f_RuleText_readLevel rec (lv : Int) (d : Int)) := by
  intro c p n s hn hX
  have hL := hX.1.1
  have hp := hX.1.2.1
  obtain ⟨t, g1, ht⟩ := hr c p n s hn hX
  obtain ⟨i1, i2⟩ := hI p n hp hn
  have red : f_RuleText_readLevel rec (lv : Int) (d : Int) s = (f_RuleText_takenJoint (lv : Int) t).bind fun q5 => f_RuleText_readLevel_28 rec (lv : Int) (d : Int) q5.1 0 q5.2 := by
    unfold f_RuleText_readLevel
    rw [if_neg (by omega), if_neg (by omega), wI_s (show lv < 2147483647 by omega), g1, Option.bind_some]
  rw [red]
  unfold pSq
  cases hr2 : I p n with
  | inl e0 =>
    rw [hr2] at ht
    obtain ⟨t1, t2⟩ := ht
    rw [e_jointE t2, Option.bind_some, bR_l]
    dsimp only
    have ef : (fun (x : Int × Int × kM) => f_RuleText_readLevel_28b rec (lv : Int) (d : Int) x.1 x.2.1 x.2.2) ((0 : Int), (0 : Int), t) = some (.inr t) := by
      show f_RuleText_readLevel_28b rec (lv : Int) (d : Int) 0 0 t = _
      unfold f_RuleText_readLevel_28b
      rw [if_neg (by decide), if_pos rfl]
    unfold f_RuleText_readLevel_28
    rw [show gF = 4095 + 1 from rfl, gL_r ef, wp_some]
    exact kpo_l t1 t2
  | inr y =>
    obtain ⟨c2, p3, n3⟩ := y
    rw [hr2] at ht
    obtain ⟨t1, t2⟩ := ht
    obtain ⟨⟨v1, v2, v3, v4⟩, v5, v6, v7⟩ := i2 c2 p3 n3 hr2
    obtain ⟨sg', w, g3, w1, w2⟩ := HC_of hT t2 hlv
    rw [g3, Option.bind_some, bR_r]
    dsimp only
    unfold f_RuleText_readLevel_28
    exact wp_K_loop hT hlv hI hr 401 gF c2 p3 n3 0 w sg' (by omega) (by show L - p3 < 4096; omega) v2 (by omega) v4 (kfr_t t1 w1) w2
