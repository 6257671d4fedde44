theorem IV_path {A : zA} (hA : okA A) (S : Nat) : ∀ b, ∃ c, IV A b (LPm A S b) c
  | 0 => ⟨0, IV_0 A⟩
  | b + 1 => by
    obtain ⟨c, hc⟩ := IV_path hA S b
    rw [LPm_s]
    by_cases hp : pb A b = true
    · rw [if_pos hp]
      split
      · exact ⟨_, IV_1 hA hp hc⟩
      · exact ⟨_, IV_2 hA hp hc⟩
    · rw [if_neg hp]
      exact ⟨c, IV_no hp hc⟩
theorem oc_mono {S P : Nat} (h : ∀ k, S.testBit k = true → P.testBit k = true) : ∀ n, oc S n ≤ oc P n
  | 0 => Nat.le_refl 0
  | n + 1 => by
    have ih := oc_mono h n
    rw [oc_succ, oc_succ]
    by_cases hs : S.testBit n = true
    · rw [if_pos hs, if_pos (h n hs)]
      omega
    · rw [if_neg hs]
      omega
theorem wp_fB17 {A : zA} (hA : okA A) (hR : 1 ≤ aR A) {s : kM} (hM : MT A s) (h118 : ∀ j, j < 199 → s 118 j = 0) : wp (f_M_fillsBracket_17 ((mk (ap A) (aN A) : Nat) : Int) 0 s) (fun t => (∀ z, z ≠ 118 → z ≠ 119 → t z = s z) ∧ ∀ j, j < 199 → t 118 j = wI (brk A j)) := by
  have hn := okB_n hA.1
  have hh := oc_half hA
  have hlt := mk_lt hA.1.2.2.2.1
  unfold f_M_fillsBracket_17
  refine wp_for 2048 (fun k x => x.1 = (k : Int) ∧ (∀ z, z ≠ 118 → z ≠ 119 → x.2 z = s z) ∧ ∀ j, j < 199 → x.2 118 j = wI (smr (fS A (phj A j)) k)) 0 _ (by omega) (by omega) (by exact ⟨rfl, fun _ _ _ => rfl, fun j hj => by show s 118 j = wI 0; rw [h118 j hj]; rfl⟩) ?_ ?_
  · rintro k ⟨y1, t⟩ _ hk ⟨rfl, q1, q2⟩
    dsimp only at q1 q2
    have hMt : MT A t := MT_k hM (fun z h1 h2 => q1 z (by omega) (by omega))
    dsimp only
    unfold f_M_fillsBracket_17b f_M_fillsBracket_39
    rw [if_neg (by omega), kand_n (by omega) (by omega), wI_s (by omega)]
    by_cases hsub : k &&& mk (ap A) (aN A) = k
    · obtain ⟨c, hc⟩ := IV_path hA k 11
      have hro := rg_ok hA hR hc
      rw [← (IV_end hA hc).1] at hro
      have hoc : oc k 11 ≤ aN A / 2 := by
        rw [← hh.1]
        exact oc_mono (fun i hi => (sbs_i A k).mp hsub i hi) 11
      obtain ⟨⟨v0, u⟩, g1, u0, u1⟩ := wp_rings hA hR hMt (S := k) hk
      dsimp only at u0 u1
      subst u0
      have e3 : wI (wI (2 * ((oc k 11 : Nat) : Int)) - ((aN A / 2 : Nat) : Int)) = 2 * ((oc k 11 : Nat) : Int) - ((aN A / 2 : Nat) : Int) := by rw [wI_id (x := 2 * ((oc k 11 : Nat) : Int)) (by omega) (by omega), wI_id (by omega) (by omega)]
      have e4 : wI (((aln A + cls (LPm A k 11) (aN A) : Nat) : Int) - 1) = ((aln A + cls (LPm A k 11) (aN A) - 1 : Nat) : Int) := by rw [wI_id (by omega) (by omega)]; omega
      rw [if_pos (by rw [hsub]), e_ones hk, Option.bind_some, e_M_many hA.1 hMt.1, Option.bind_some, g1, Option.bind_some]
      dsimp only
      rw [e3, e4]
      clear e3 e4
      obtain ⟨v, g2, v1, v2⟩ := wp_adds (pw := 2 * ((oc k 11 : Nat) : Int) - ((aN A / 2 : Nat) : Int)) (n := aln A + cls (LPm A k 11) (aN A) - 1) (by omega) (by omega) (by omega) (s := u) (V := fun j => smr (fS A (phj A j)) k) (fun j hj => by rw [u1 118 (by decide)]; exact q2 j hj)
      rw [g2, Option.bind_some, wp_some, gE_l]
      refine ⟨rfl, fun z z1 z2 => by dsimp only; rw [v1 z z1, u1 z z2]; exact q1 z z1 z2, fun j hj => ?_⟩
      dsimp only
      rw [v2 j hj, smr_s]
      have ef : fS A (phj A j) k = phj A j (oc k 11) (aln A + cls (LPm A k 11) (aN A)) := if_pos hsub
      rw [ef]
      rfl
    · rw [if_neg (fun q => hsub (by omega)), wp_some, gE_l]
      refine ⟨rfl, q1, fun j hj => ?_⟩
      dsimp only
      have ef : fS A (phj A j) k = 0 := if_neg hsub
      rw [smr_s, ef, Int.add_zero]
      exact q2 j hj
  · rintro ⟨y1, t⟩ ⟨rfl, q1, q2⟩
    dsimp only at q1 q2
    dsimp only
    unfold f_M_fillsBracket_17b
    rw [if_pos (by decide), wp_some, gE_r]
    refine ⟨q1, fun j hj => ?_⟩
    rw [q2 j hj, sum_all hA]
    rfl
theorem wp_fillsBracket {A : zA} (hA : okA A) (hR : 1 ≤ aR A) {s : kM} (hM : MT A s) : wp (f_M_fillsBracket s) (fun t => (∀ z, z ≠ 118 → z ≠ 119 → t z = s z) ∧ ∀ j, j < 199 → t 118 j = wI (brk A j)) := by
  unfold f_M_fillsBracket f_M_fillsBracket_2
  refine wp_for 199 (fun k x => x.1 = (k : Int) ∧ (∀ z, z ≠ 118 → x.2 z = s z) ∧ ∀ j, j < k → x.2 118 j = 0) 0 _ (by omega) (by omega) (by exact ⟨rfl, fun _ _ => rfl, fun j hj => by omega⟩) ?_ ?_
  · rintro k ⟨y1, t⟩ _ hk ⟨rfl, q1, q2⟩
    dsimp only at q1 q2
    dsimp only
    unfold f_M_fillsBracket_2b
    rw [if_neg (by omega), gI_n hk, Option.bind_some, gLet_eq, wI_s (by omega), wp_some, gE_l]
    refine ⟨rfl, fun z hz => by dsimp only; rw [gU_n _ _ _ hz]; exact q1 z hz, fun j hj => ?_⟩
    dsimp only
    by_cases hjk : j = k
    · rw [hjk, gUs]
    · rw [gUo _ _ _ hjk]
      exact q2 j (by omega)
  · rintro ⟨y1, t⟩ ⟨rfl, q1, q2⟩
    dsimp only at q1 q2
    have hMt : MT A t := MT_k hM (fun z h1 h2 => q1 z (by omega))
    dsimp only
    unfold f_M_fillsBracket_2b
    rw [if_pos (by decide), e_presentSet hA hMt, Option.bind_some, wp_map]
    refine (wp_fB17 hA hR hMt q2).mono ?_
    rintro u ⟨u1, u2⟩
    rw [gE_r]
    exact ⟨fun z z1 z2 => by rw [u1 z z1 z2, q1 z z1], u2⟩
/-- parity of a small number, both ways -/
theorem par_all : ∀ x : Fin 45, (kand ((x.val : Int) - 22) 1 = 0 ↔ krem ((x.val : Int) - 22) 2 = 0) := by decide +kernel
theorem par_w {w : Int} (h1 : -22 ≤ w) (h2 : w ≤ 22) : kand w 1 = 0 ↔ krem w 2 = 0 := by
  have := par_all ⟨(w + 22).toNat, by omega⟩
  dsimp only at this
  rw [show (((w + 22).toNat : Nat) : Int) - 22 = w by omega] at this
  exact this
theorem Rel_cc {RC : zA → kM → Prop} {RU : Nat → kM → Prop} (hU : hRU RU) {A : zA} {s s' : kM} (q1 : okA A) (q2 : KT 4 A s) (q3 : MT A s) (q4 : RTape s) (q5 : RScal s) (q6 : RRule RU s) (q7 : RImg s) (e : ∀ a, a ≠ 85 → a < 10 ∨ 56 ≤ a → scr a = false → s' a = s a) (h2 : ∀ j, j = 21 ∨ j = 25 ∨ j = 30 → s' 85 j = s 85 j) (hc : RC A s') : Rel RC RU s' := by
  refine ⟨A, q1, KT_c q2 (fun i hi => e _ (by omega) (by omega) ?_), MT_c q3 ?_ (e _ (by decide) (by decide) rfl) (e _ (by decide) (by decide) rfl) (e _ (by decide) (by decide) rfl) (e _ (by decide) (by decide) rfl) (e _ (by decide) (by decide) rfl), RTape_c q4 (e _ (by decide) (by decide) rfl) (e _ (by decide) (by decide) rfl) (h2 _ (by decide)) (e _ (by decide) (by decide) rfl), RScal_c q5 ?_ ?_ ?_, RRule_c hU q6 ?_ ⟨h2 _ (by decide), h2 _ (by decide)⟩ ?_ (e _ (by decide) (by decide) rfl) (fun a h1 h2 => e a (by omega) (by omega) ?_) (fun a h1 h2 => e a (by omega) (by omega) ?_), RImg_c q7 (fun a h1 h2 => e a (by omega) (by omega) ?_) (e _ (by decide) (by decide) rfl) (e _ (by decide) (by decide) rfl) ?_, hc⟩
  · simp only [scr]; simp; omega
  · rw [e 86 (by decide) (by decide) rfl]; exact ⟨rfl, rfl, rfl⟩
  · rw [e 3 (by decide) (by decide) rfl]; exact ⟨rfl, rfl, rfl⟩
  · rw [e 86 (by decide) (by decide) rfl]; exact ⟨rfl, rfl, rfl⟩
  · rw [e 0 (by decide) (by decide) rfl]
  · rw [e 0 (by decide) (by decide) rfl]
  · rw [e 900 (by decide) (by decide) rfl]
  · simp only [scr]; simp; omega
  · simp only [scr]; simp; omega
  · simp only [scr]; simp; omega
  · rw [e 0 (by decide) (by decide) rfl]; omega
/-- one number of the bracket -/
def nAt (A : zA) (x : Int) : Int := if -99 ≤ x ∧ x ≤ 99 then wI (brk A (x + 99).toNat) else 0
theorem e_numberAt {A : zA} {t : kM} (h : ∀ j, j < 199 → t 45 j = wI (brk A j)) (x : Int) : f_Bracket_numberAt x t = some (nAt A x) := by
  unfold f_Bracket_numberAt nAt
  by_cases h1 : x < -99
  · rw [if_pos h1, if_neg (by omega)]
  · rw [if_neg h1]
    by_cases h2 : x ≤ 99
    · obtain ⟨j, hj⟩ : ∃ j : Nat, x + 99 = (j : Int) := ⟨(x + 99).toNat, by omega⟩
      have ew : wI (x + 99) = (j : Int) := by rw [hj]; exact wI_id (by omega) (by omega)
      rw [if_pos h2, if_pos (by omega), ew, gI_n (show j < 199 by clear ew; omega), Option.bind_some, h j (by clear ew; omega), hj, Int.toNat_natCast]
    · rw [if_neg h2, if_neg (by omega)]
theorem e_poly32 {A : zA} {t : kM} (h : ∀ j, j < 199 → t 118 j = wI (brk A j)) (x1 w y : Int) : f_M_polynomial_32 x1 w y t = f_M_polynomial_47 x1 w (nAt A y) t := by
  unfold f_M_polynomial_32 nAt
  rw [e_M_in, Option.bind_some]
  by_cases h1 : -99 ≤ y ∧ y ≤ 99
  · obtain ⟨j, hj⟩ : ∃ j : Nat, y + 99 = (j : Int) := ⟨(y + 99).toNat, by omega⟩
    have ew : wI (99 + y) = (j : Int) := by rw [Int.add_comm, hj]; exact wI_id (by omega) (by omega)
    rw [if_pos h1, if_pos h1, if_neg (by decide), ew, gI_n (show j < 199 by clear ew; omega), Option.bind_some, h j (by clear ew; omega), hj, Int.toNat_natCast]
  · rw [if_neg h1, if_neg h1, if_pos rfl]
section TOWN
variable {RC : zA → kM → Prop} {RU : Nat → kM → Prop}
theorem O_polynomial (hU : hRU RU) (hB : ∀ A s, RC A s → BRC A s) (hB2 : ∀ A s s', RC A s → (∀ z, 21 ≤ z → z ≤ 43 → s' z = s z) → BRC A s' → RC A s') (x1 x2 : Int) : OB RC RU (f_KT_polynomial x1 x2) (f_M_polynomial x1 x2) := by
  intro s hr
  obtain ⟨A, hA, hK, hM, r1, r2, r3, r4, hRC⟩ := id hr
  by_cases h0 : aR A = 0
  · refine ⟨0, s, s, ?_, ?_, hr⟩
    · unfold f_KT_polynomial
      rw [hK.1.1, if_pos (by omega)]
    · unfold f_M_polynomial
      rw [e_M_isTown hM.1, if_neg (by omega)]
      rfl
  · have eT : f_M_isTown s = some 1 := by rw [e_M_isTown hM.1, if_pos (by omega)]
    by_cases hx1 : 0 ≤ x1 ∧ x1 ≤ 1
    · obtain ⟨t, g1, t1, t2, t3⟩ := wp_prepare hA (by omega) hK (hB A s hRC)
      have hKt : KT 4 A t := KT_c hK (fun i hi => t1 _ (by omega) (by omega) (by omega) (by omega))
      have hMt : MT A t := MT_k hM (fun z h1 h2 => t1 z (by omega) (by omega) (by omega) (by omega))
      have hMT : f_M_isTown t = some 1 := by rw [e_M_isTown hMt.1, if_pos (by omega)]
      have hin : ∀ u : kM, f_M_in x1 0 1 u = some 1 := fun u => by rw [e_M_in, if_pos hx1]
      obtain ⟨u, g2, u1, u2⟩ := wp_fillsBracket hA (by omega) hMt
      have hMu : MT A u := MT_k hMt (fun z h1 h2 => u1 z (by omega) (by omega))
      have hRu : Rel RC RU u := by
        refine Rel_cc hU (s := s) hA hK hM r1 r2 r3 r4 (fun a h1 h2 h3 => ?_) (fun j hj => ?_) ?_
        · rw [u1 a (fun z => by subst z; cases h3) (fun z => by subst z; cases h3), t1 a (by omega) (by omega) (by omega) (by omega)]
        · rw [u1 85 (by decide) (by decide), t1 85 (by decide) (by decide) (by decide) (by decide)]
        · refine hB2 A s u hRC (fun z z1 z2 => by rw [u1 z (by omega) (by omega), t1 z (by omega) (by omega) (by omega) (by omega)]) (fun _ j hj => ?_)
          rw [u1 45 (by decide) (by decide)]
          exact t3 j hj
      have hRt : Rel RC RU t := by
        refine Rel_cc hU (s := s) hA hK hM r1 r2 r3 r4 (fun a h1 h2 h3 => ?_) (fun j hj => ?_) ?_
        · rw [t1 a (by omega) (by omega) (by omega) (by omega)]
        · rw [t1 85 (by decide) (by decide) (by decide) (by decide)]
        · exact hB2 A s t hRC (fun z z1 z2 => t1 z (by omega) (by omega) (by omega) (by omega)) (fun _ => t3)
      have l1 := hs_le (x := mk (ap A) (aN A)) (h := ah A) (fun k hk => hA.2.2.2.2 k (mk_pr hk)) 11
      have l2 := oc_le (mk (ap A) (aN A)) 11
      have eH : f_Town_handsTogether 4 t = _ := e_handsTogether hA hKt
      have eS : f_M_sumOfHands 0 u = _ := e_M_sumOfHands hA hMu 0 (x := mk (ap A) (aN A)) (fun k hk => ⟨fun h => ⟨h, Or.inl rfl⟩, fun h => h.1⟩)
      obtain ⟨w, hw⟩ : ∃ w : Int, w = 2 * (hs (ah A) (mk (ap A) (aN A)) 11 : Int) - (oc (mk (ap A) (aN A)) 11 : Int) := ⟨_, rfl⟩
      rw [← hw] at eH eS
      have hpar := par_w (w := w) (by omega) (by omega)
      clear hw l1 l2
      have eK : f_KT_polynomial x1 x2 s = if x1 = 0 then some (nAt A x2, t) else ((f_Bracket_jonesAt x2 w t).bind fun q8 => some (q8, t)) := by
        unfold f_KT_polynomial
        rw [hK.1.1, if_neg (by omega), if_neg (by omega), if_pos hx1.2, g1, Option.bind_some, e_numberAt t3, Option.bind_some, eH, Option.bind_some]
      by_cases hx : -99 ≤ x2 ∧ x2 ≤ 99
      · have eM : f_M_polynomial x1 x2 t = if x1 = 0 then f_M_polynomial_47 x1 w (nAt A x2) u else f_M_polynomial_47 x1 w (nAt A (wI (x2 + wI (3 * w)))) u := by
          unfold f_M_polynomial
          rw [hMT, Option.bind_some, if_neg (by decide), hin, Option.bind_some, if_neg (by decide), e_M_in, if_pos hx, Option.bind_some, if_neg (by decide), g2, Option.bind_some, eS, Option.bind_some, e_poly32 u2, e_poly32 u2]
        by_cases hx0 : x1 = 0
        · refine ⟨nAt A x2, t, u, ?_, ?_, hRu⟩
          · rw [eK, if_pos hx0]
          · rw [eM, if_pos hx0]
            unfold f_M_polynomial_47
            rw [if_neg (by omega)]
        · rw [if_neg hx0] at eK eM
          unfold f_Bracket_jonesAt at eK
          unfold f_M_polynomial_47 at eM
          rw [if_neg (by omega), if_pos hx.2, e_numberAt t3, Option.bind_some] at eK
          rw [if_pos (by omega)] at eM
          by_cases hw : kand w 1 = 0
          · rw [if_pos hw, Option.bind_some] at eK
            rw [if_pos (hpar.mp hw)] at eM
            exact ⟨_, t, u, eK, eM, hRu⟩
          · rw [if_neg hw, Option.bind_some] at eK
            rw [if_neg (fun q => hw (hpar.mpr q))] at eM
            exact ⟨_, t, u, eK, eM, hRu⟩
      · have eM : f_M_polynomial x1 x2 t = some (0, t) := by
          unfold f_M_polynomial
          rw [hMT, Option.bind_some, if_neg (by decide), hin, Option.bind_some, if_neg (by decide), e_M_in, if_neg hx, Option.bind_some, if_pos rfl]
        refine ⟨0, t, t, ?_, eM, hRt⟩
        rw [eK]
        by_cases hx0 : x1 = 0
        · have : nAt A x2 = 0 := if_neg hx
          rw [if_pos hx0, this]
        · rw [if_neg hx0]
          unfold f_Bracket_jonesAt
          by_cases hlt : x2 < -99
          · rw [if_pos hlt]
            rfl
          · rw [if_neg hlt, if_neg (by omega)]
            rfl
    · refine ⟨0, s, s, ?_, ?_, hr⟩
      · unfold f_KT_polynomial
        rw [hK.1.1, if_neg (by omega)]
        by_cases hlt : x1 < 0
        · rw [if_pos hlt]
        · rw [if_neg hlt, if_neg (by omega)]
      · unfold f_M_polynomial
        rw [eT, Option.bind_some, if_neg (by decide), e_M_in, if_neg hx1]
        rfl
end TOWN
