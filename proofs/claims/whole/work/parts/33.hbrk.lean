theorem wp_r43 {A : zA} (hA : okA A) {s : kM} (hM : MT A s) {lb : Nat → Nat} (hL : AL (aN A) lb (s 119)) {b : Nat} (hb : b < 11) (hp : pb A b = true) (x1 y0 y1 : Int) : wp (f_M_rings_43 x1 (b : Int) y0 y1 s) (fun r => ∃ t, r = .inl (((b + 1 : Nat) : Int), t) ∧ (∀ z, z ≠ 119 → t z = s z) ∧ AL (aN A) (if y0 = y1 then L1 A b lb else L2 A b lb) (t 119)) := by
  obtain ⟨h1, h2, h3, h4⟩ := oA_lt hA hp
  have hpv1 := pv_lt hA.1 h2
  have hpv2 := pv_lt hA.1 h4
  have ib : gI 11 (b : Int) = some b := gI_n hb
  have e98 : ∀ t : kM, (∀ z, z ≠ 119 → t z = s z) → t 98 b = ((oA A b : Nat) : Int) := fun t ht => by rw [ht 98 (by decide), (hM.2 b hb).1, h1]
  have e99 : ∀ t : kM, (∀ z, z ≠ 119 → t z = s z) → t 99 b = ((uA A b : Nat) : Int) := fun t ht => by rw [ht 99 (by decide), (hM.2 b hb).2, h3]
  have hMt : ∀ t : kM, (∀ z, z ≠ 119 → t z = s z) → MT A t := fun t ht => MT_k hM (fun z h1 h2 => ht z (by omega))
  have hs : ∀ z, z ≠ 119 → s z = s z := fun _ _ => rfl
  unfold f_M_rings_43 f_M_rings_93
  by_cases hy : y0 = y1
  · obtain ⟨t, g1, t1, t2⟩ := wp_joins hA hM hL (a := pv (aF A) (aN A) (oA A b)) (b := uA A b) hpv1 h4
    have hMt1 := hMt t t1
    obtain ⟨u, g2, u1, u2⟩ := wp_joins hA hMt1 t2 (a := pv (aF A) (aN A) (uA A b)) (b := oA A b) hpv2 h2
    rw [if_pos hy, if_pos hy, ib, Option.bind_some, e98 s hs, e_M_ahead hA.1 hM.1 h2, Option.bind_some, Option.bind_some, e99 s hs, g1, Option.bind_some, Option.bind_some, e99 t t1, e_M_ahead hA.1 hMt1.1 h4, Option.bind_some, Option.bind_some, e98 t t1, g2, Option.bind_some, wI_s (by omega), wp_some]
    exact ⟨u, rfl, fun z hz => by rw [u1 z hz, t1 z hz], u2⟩
  · obtain ⟨t, g1, t1, t2⟩ := wp_joins hA hM hL (a := pv (aF A) (aN A) (oA A b)) (b := pv (aF A) (aN A) (uA A b)) hpv1 hpv2
    have hMt1 := hMt t t1
    obtain ⟨u, g2, u1, u2⟩ := wp_joins hA hMt1 t2 (a := oA A b) (b := uA A b) h2 h4
    rw [if_neg hy, if_neg hy, ib, Option.bind_some, e98 s hs, e_M_ahead hA.1 hM.1 h2, Option.bind_some, Option.bind_some, e99 s hs, e_M_ahead hA.1 hM.1 h4, Option.bind_some, g1, Option.bind_some, Option.bind_some, Option.bind_some, e98 t t1, e99 t t1, g2, Option.bind_some, wI_s (by omega), wp_some]
    exact ⟨u, rfl, fun z hz => by rw [u1 z hz, t1 z hz], u2⟩
theorem wp_rings {A : zA} (hA : okA A) (hR : 1 ≤ aR A) {s : kM} (hM : MT A s) {S : Nat} (hS : S < 2048) : wp (f_M_rings (S : Int) s) (fun r => r.1 = ((aln A + cls (LPm A S 11) (aN A) : Nat) : Int) ∧ ∀ z, z ≠ 119 → r.2 z = s z) := by
  have hn := okB_n hA.1
  unfold f_M_rings f_M_rings_2
  refine wp_for (aN A) (fun k x => x.1 = (k : Int) ∧ (∀ z, z ≠ 119 → x.2 z = s z) ∧ ∀ q, q < k → x.2 119 q = ((q : Nat) : Int)) 0 _ (by omega) (by omega) (by exact ⟨rfl, fun _ _ => rfl, fun q hq => by omega⟩) ?_ ?_
  · rintro k ⟨y1, t⟩ _ hk ⟨rfl, q1, q2⟩
    dsimp only at q1 q2
    have hMt : MT A t := MT_k hM (fun z h1 h2 => q1 z (by omega))
    dsimp only
    unfold f_M_rings_2b
    rw [e_M_places hA.1 hMt.1, Option.bind_some, if_neg (by omega), gI_n (show k < 22 by omega), Option.bind_some, gLet_eq, wI_s (by omega), wp_some, gE_l]
    refine ⟨rfl, fun z hz => by dsimp only; rw [gU_n _ _ _ hz]; exact q1 z hz, fun q hq => ?_⟩
    dsimp only
    by_cases hqk : q = k
    · rw [hqk, gUs]
    · rw [gUo _ _ _ hqk]
      exact q2 q (by omega)
  · rintro ⟨y1, t⟩ ⟨rfl, q1, q2⟩
    dsimp only at q1 q2
    have hMt : MT A t := MT_k hM (fun z h1 h2 => q1 z (by omega))
    dsimp only
    unfold f_M_rings_2b
    rw [e_M_places hA.1 hMt.1, Option.bind_some, if_pos (Int.le_refl _), wp_map]
    refine wp.mono (P := fun r => r.1 = ((aln A + cls (LPm A S 11) (aN A) : Nat) : Int) ∧ ∀ z, z ≠ 119 → r.2 z = s z) ?_ (fun a h => by rw [gE_r]; exact h)
    unfold f_M_rings_15
    refine wp_for 11 (fun b x => x.1 = (b : Int) ∧ (∀ z, z ≠ 119 → x.2 z = s z) ∧ AL (aN A) (LPm A S b) (x.2 119)) 0 _ (by omega) (by omega) (by exact ⟨rfl, q1, fun q hq => q2 q hq⟩) ?_ ?_
    · rintro b ⟨y1, u⟩ _ hb ⟨rfl, r1, r2⟩
      dsimp only at r1 r2
      have hMu : MT A u := MT_k hM (fun z h1 h2 => r1 z (by omega))
      dsimp only
      unfold f_M_rings_15b
      by_cases hp : pb A b = true
      · have eb : f_M_isBridge (b : Int) u = some 1 := by rw [e_M_isBridge hA hMu, Int.toNat_natCast, if_pos ⟨by omega, by omega, hp⟩]
        have hh := ah_1 hA hp
        have e89 : u 89 b = ((ah A b : Nat) : Int) := hMu.1.2.2.2.2 b (pb_iff.mp hp)
        have key : ∀ y0 : Nat, y0 = bt S b → wp (f_M_rings_32 (S : Int) (b : Int) (y0 : Int) u) (gE (fun x => x.1 = ((b + 1 : Nat) : Int) ∧ (∀ z, z ≠ 119 → x.2 z = s z) ∧ AL (aN A) (LPm A S (b + 1)) (x.2 119)) (fun r => r.1 = ((aln A + cls (LPm A S 11) (aN A) : Nat) : Int) ∧ ∀ z, z ≠ 119 → r.2 z = s z)) := by
          intro y0 hy0
          have e0 : f_M_rings_32 (S : Int) (b : Int) (y0 : Int) u = f_M_rings_43 (S : Int) (b : Int) (y0 : Int) ((ah A b : Nat) : Int) u := by
            unfold f_M_rings_32
            rw [gI_n hb, Option.bind_some, e89]
            by_cases h1 : ah A b = 1
            · rw [if_pos (by rw [h1]; rfl), h1]
              rfl
            · rw [if_neg (by omega), show ah A b = 0 by omega]
              rfl
          rw [e0]
          refine (wp_r43 hA hMu r2 hb hp _ _ _).mono ?_
          rintro r ⟨v, rfl, v1, v2⟩
          rw [gE_l]
          refine ⟨rfl, fun z hz => by dsimp only; rw [v1 z hz]; exact r1 z hz, ?_⟩
          dsimp only
          rw [LPm_s, if_pos hp, ← hy0]
          by_cases h1 : y0 = ah A b
          · rw [if_pos (by rw [h1])] at v2
            rw [if_pos h1]
            exact v2
          · rw [if_neg (by omega)] at v2
            rw [if_neg h1]
            exact v2
        rw [if_neg (by omega), eb, Option.bind_some, if_neg (by decide), kbit (by omega) (by omega)]
        by_cases hbit : S.testBit b = true
        · rw [if_pos hbit, if_pos rfl]
          exact key 1 (by unfold bt; rw [if_pos hbit])
        · rw [if_neg hbit, if_neg (by decide)]
          exact key 0 (by unfold bt; rw [if_neg hbit])
      · have eb : f_M_isBridge (b : Int) u = some 0 := by rw [e_M_isBridge hA hMu, Int.toNat_natCast, if_neg (fun q => hp q.2.2)]
        unfold f_M_rings_93
        rw [if_neg (by omega), eb, Option.bind_some, if_pos rfl, wI_s (by omega), wp_some, gE_l]
        refine ⟨rfl, r1, ?_⟩
        dsimp only
        rw [LPm_s, if_neg hp]
        exact r2
    · rintro ⟨y1, u⟩ ⟨rfl, r1, r2⟩
      dsimp only at r1 r2
      have hMu : MT A u := MT_k hM (fun z h1 h2 => r1 z (by omega))
      dsimp only
      unfold f_M_rings_15b
      rw [if_pos (by decide), wp_rings99 hA hR hMu r2, Option.map_some, wp_some, gE_r]
      exact ⟨rfl, r1⟩
theorem mod_or (P k : Nat) : P % 2 ^ (k + 1) = P % 2 ^ k ||| (if P.testBit k = true then 2 ^ k else 0) := by
  apply Nat.eq_of_testBit_eq
  intro i
  rw [Nat.testBit_or, Nat.testBit_mod_two_pow, Nat.testBit_mod_two_pow]
  by_cases hb : P.testBit k = true
  · rw [if_pos hb, Nat.testBit_two_pow]
    by_cases h1 : i < k
    · rw [decide_eq_true h1, decide_eq_true (show i < k + 1 by omega), decide_eq_false (show ¬ k = i by omega), Bool.or_false]
    · rw [decide_eq_false h1, Bool.false_and, Bool.false_or]
      by_cases h2 : i = k
      · rw [h2, decide_eq_true (show k < k + 1 by omega), hb, decide_eq_true rfl]
        rfl
      · rw [decide_eq_false (show ¬ i < k + 1 by omega), decide_eq_false (show ¬ k = i by omega)]
        rfl
  · rw [if_neg hb, Nat.zero_testBit, Bool.or_false]
    by_cases h1 : i < k
    · rw [decide_eq_true h1, decide_eq_true (show i < k + 1 by omega)]
    · rw [decide_eq_false h1, Bool.false_and]
      by_cases h2 : i = k
      · rw [Bool.not_eq_true] at hb
        rw [h2, hb, Bool.and_false]
      · rw [decide_eq_false (show ¬ i < k + 1 by omega), Bool.false_and]
theorem e_presentSet {A : zA} (hA : okA A) {s : kM} (hM : MT A s) : f_M_presentSet s = some ((mk (ap A) (aN A) : Nat) : Int) := by
  have hlt := mk_lt hA.1.2.2.2.1
  unfold f_M_presentSet f_M_presentSet_4
  apply wp_eq
  refine wp_for 11 (fun k x => x.1 = ((mk (ap A) (aN A) % 2 ^ k : Nat) : Int) ∧ x.2 = (k : Int)) 0 _ (by omega) (by omega) (by exact ⟨by show (0 : Int) = ((_ % 1 : Nat) : Int); rw [Nat.mod_one]; rfl, rfl⟩) ?_ ?_
  · rintro k ⟨y1, y2⟩ _ hk ⟨rfl, rfl⟩
    have hk2 : 2 ^ k ≤ 2 ^ 10 := Nat.pow_le_pow_right (by omega) (by omega)
    have hm2 : mk (ap A) (aN A) % 2 ^ k < 2 ^ k := Nat.mod_lt _ (Nat.two_pow_pos k)
    have hmo := mod_or (mk (ap A) (aN A)) k
    dsimp only
    unfold f_M_presentSet_4b f_M_presentSet_17
    rw [if_neg (by omega), wI_s (by omega)]
    by_cases hp : pb A k = true
    · have eb : f_M_isBridge (k : Int) s = some 1 := by rw [e_M_isBridge hA hM, Int.toNat_natCast, if_pos ⟨by omega, by omega, hp⟩]
      have ek : kshl 1 (k : Int) = ((2 ^ k : Nat) : Int) := by rw [← Nat.one_mul (2 ^ k)]; exact kshl_n (n := 1) (by omega) (by omega)
      rw [eb, Option.bind_some, if_neg (by decide), ek, wp_some, gE_l]
      refine ⟨?_, rfl⟩
      dsimp only
      rw [kor_n (by omega) (by omega), hmo, if_pos (show (mk (ap A) (aN A)).testBit k = true from hp)]
    · have eb : f_M_isBridge (k : Int) s = some 0 := by rw [e_M_isBridge hA hM, Int.toNat_natCast, if_neg (fun q => hp q.2.2)]
      rw [eb, Option.bind_some, if_pos rfl, wp_some, gE_l]
      refine ⟨?_, rfl⟩
      dsimp only
      rw [hmo, if_neg (show ¬ (mk (ap A) (aN A)).testBit k = true from hp)]
      exact kor_n (b := 0) (by omega) (by decide)
  · rintro ⟨y1, y2⟩ ⟨rfl, rfl⟩
    dsimp only
    unfold f_M_presentSet_4b
    rw [if_pos (by decide), wp_some, gE_r, Nat.mod_eq_of_lt (show mk (ap A) (aN A) < 2 ^ 11 from hlt)]
