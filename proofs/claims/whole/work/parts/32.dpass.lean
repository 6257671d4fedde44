/-! the reference reads a pass -/
def MP (A : zA) (t : kM) : Prop := t 90 0 = ((aR A : Nat) : Int) ∧ t 90 1 = ((aF A : Nat) : Int) ∧ t 90 2 = ((aN A : Nat) : Int) - ((aF A : Nat) : Int) ∧ (∀ j, j < aN A → t 91 j = ((ap A j / 2 : Nat) : Int) ∧ t 92 j = ((ap A j % 2 : Nat) : Int)) ∧ (∀ k, tld (ap A) (2 * k + 1) (aN A) = true → t 93 k = ((ah A k : Nat) : Int)) ∧ t 85 31 = ((bmk (ap A) 1 (aN A) : Nat) : Int) ∧ t 85 32 = ((bmk (ap A) 0 (aN A) : Nat) : Int)
def m21 (L : Nat) (g : Nat → Int) (t : kM) : Prop := t 85 21 = (L : Int) ∧ t 85 25 = g 25 ∧ t 85 30 = g 30
theorem m21_u {L : Nat} {g : Nat → Int} {s : kM} (h : m21 L g s) {i : Nat} {x : Int} (hi : i ≠ 21 ∧ i ≠ 25 ∧ i ≠ 30) : m21 L g (gU s 85 i x) := by
  unfold m21
  rw [gUo _ _ _ (Ne.symm hi.1), gUo _ _ _ (Ne.symm hi.2.1), gUo _ _ _ (Ne.symm hi.2.2)]
  exact h
theorem m21_n {L : Nat} {g : Nat → Int} {s t : kM} (h : m21 L g s) (he : t 85 = s 85) : m21 L g t := by
  unfold m21
  rw [he]
  exact h
theorem m21_i {L : Nat} {g : Nat → Int} {s t : kM} (h : m21 L g s) (he : ∀ i, i ≠ 22 → t 85 i = s 85 i) : m21 L g t := by
  unfold m21
  rw [he 21 (by decide), he 25 (by decide), he 30 (by decide)]
  exact h
def MX (T : Nat → Int) (L : Nat) (g : Nat → Int) (S : Nat × Nat × zA) (t : kM) : Prop := t 85 23 = ((S.2.1 : Nat) : Int) ∧ m21 L g t ∧ (t 105 = T ∧ ∃ q, MTp T L q t) ∧ (S.2.1 = 0 → MTp T L S.1 t ∧ MP S.2.2 t)
theorem MP_c {A : zA} {s t : kM} (h : MP A s) (h1 : t 90 = s 90) (h2 : t 91 = s 91) (h3 : t 92 = s 92) (h4 : t 93 = s 93) (h5 : t 85 31 = s 85 31 ∧ t 85 32 = s 85 32) : MP A t := by
  unfold MP at h ⊢
  rw [h1, h2, h3, h4, h5.1, h5.2]
  exact h
theorem MX_u {T g : Nat → Int} {L p q : Nat} {A : zA} {s : kM} (h : MX T L g (p, 0, A) s) (hq : q ≤ 1000) : MX T L g (q, 0, A) (gU s 85 22 (q : Int)) := by
  obtain ⟨h1, h2, h3, h5⟩ := h
  obtain ⟨k1, k2⟩ := h5 rfl
  exact ⟨by rw [gUo _ _ _ (by decide)]; exact h1, m21_u h2 (by decide), ⟨by rw [gU_n _ _ _ (by decide)]; exact h3.1, q, MTp_u k1 hq⟩, fun _ => ⟨MTp_u k1 hq, MP_c k2 (gU_n _ _ _ (by decide)) (gU_n _ _ _ (by decide)) (gU_n _ _ _ (by decide)) (gU_n _ _ _ (by decide)) ⟨gUo _ _ _ (by decide), gUo _ _ _ (by decide)⟩⟩⟩
theorem MX_f {T g : Nat → Int} {L p' q c : Nat} {B : zA} {s : kM} (h2 : m21 L g s) (h3 : ∃ q, MTp T L q s) : MX T L g (p', flt q c, B) (gU s 85 23 ((flt q c : Nat) : Int)) := by
  obtain ⟨q0, h4, h5, h6, h7⟩ := h3
  refine ⟨gUs _ _ _ _, m21_u h2 (by decide), ⟨by rw [gU_n _ _ _ (by decide)]; exact h7, q0, h4, by rw [gUo _ _ _ (by decide)]; exact h5, by rw [gUo _ _ _ (by decide)]; exact h6, by rw [gU_n _ _ _ (by decide)]; exact h7⟩, fun z => ?_⟩
  have : flt q c = 0 := z
  unfold flt at this
  omega
theorem wp_M_signOf {T g : Nat → Int} (hT : TB T) {L p k : Nat} {A : zA} (hpL : p ≤ L) (hk : k ≤ 10) (hA : PI A) (ht : ¬ tld (ap A) (2 * k + 1) (aN A) = true) {s : kM} (hm : m21 L g s) (hT0 : MTp T L p s) (hf : s 85 23 = 0) (m1 : s 90 0 = ((aR A : Nat) : Int)) (m2 : s 90 1 = ((aF (app A (2 * k + 1)) : Nat) : Int)) (m3 : s 90 2 = ((aN A + 1 : Nat) : Int) - ((aF (app A (2 * k + 1)) : Nat) : Int)) (m4 : ∀ j, j < aN A + 1 → s 91 j = ((ap (app A (2 * k + 1)) j / 2 : Nat) : Int) ∧ s 92 j = ((ap (app A (2 * k + 1)) j % 2 : Nat) : Int)) (m5 : ∀ k, tld (ap A) (2 * k + 1) (aN A) = true → s 93 k = ((ah A k : Nat) : Int)) (m6 : s 85 31 = ((bmk (ap (app A (2 * k + 1))) 1 (aN A + 1) : Nat) : Int)) (m7 : s 85 32 = ((bmk (ap (app A (2 * k + 1))) 0 (aN A + 1) : Nat) : Int)) : wp (f_M_signOf k s) (fun t => MX T L g (if bl T L p < L ∧ T (bl T L p) = 43 then (bl T L p + 1, 0, shd (app A (2 * k + 1)) k 1) else if bl T L p < L ∧ T (bl T L p) = 45 then (bl T L p + 1, 0, shd (app A (2 * k + 1)) k 0) else (bl T L p, flt (bl T L p) 0, A)) t) := by
  have hb := bl_le (T := T) hpL
  have hL := hT0.1.1
  unfold f_M_signOf
  rw [e_M_blanks hT hT0, Option.bind_some]
  have hq := MTp_u (q := bl T L p) hT0 (by omega)
  generalize bl T L p = q at hb hq ⊢
  obtain ⟨G, hG⟩ : ∃ G, G = gU s 85 22 (q : Int) := ⟨_, rfl⟩
  rw [← hG] at hq ⊢
  have G1 : ∀ z, z ≠ 85 → G z = s z := fun z hz => by rw [hG, gU_n _ _ _ hz]
  have G2 : ∀ i, i ≠ 22 → G 85 i = s 85 i := fun i hi => by rw [hG, gUo _ _ _ hi]
  clear hG
  have hmG := m21_i hm G2
  have hqG := hq
  obtain ⟨-, g1, g2, g3⟩ := hq
  rw [G2 23 (by decide), hf, if_pos (by decide), g1, g2]
  have at25 : wp (f_M_signOf_25 G) (fun t => MX T L g (q, flt q 0, A) t) := by
    unfold f_M_signOf_25
    have ef := e_M_fails (p := q) (c := 0) (s := G) (by omega) (by omega)
    rw [if_pos (by rw [G2 23 (by decide)]; exact hf), show ((0 : Nat) : Int) = 0 from rfl] at ef
    rw [g2, ef, Option.bind_some, wp_some]
    exact MX_f hmG ⟨_, hqG⟩
  have at44 : ∀ d : Nat, d ≤ 1 → q < L → wp (f_M_signOf_44 k d G) (fun t => MX T L g (q + 1, 0, shd (app A (2 * k + 1)) k d) t) := by
    intro d hd hqL
    unfold f_M_signOf_44
    rw [gI_n (show k < 11 by omega), Option.bind_some, gLet_eq, gU_n _ _ _ (show 85 ≠ 93 by decide), g2, wI_s (by omega), gLet_eq, wp_some]
    refine ⟨by rw [gUo _ _ _ (by decide), gU_n _ _ _ (by decide), G2 23 (by decide)]; exact hf, m21_u (m21_n hmG (gU_n _ _ _ (by decide))) (by decide), ⟨by rw [gU_n _ _ _ (by decide), gU_n _ _ _ (by decide)]; exact g3, q + 1, ⟨hL, by omega⟩, by rw [gUo _ _ _ (by decide), gU_n _ _ _ (by decide)]; exact g1, gUs _ _ _ _, by rw [gU_n _ _ _ (by decide), gU_n _ _ _ (by decide)]; exact g3⟩, fun _ => ⟨⟨⟨hL, by show q + 1 ≤ 1000; omega⟩, by rw [gUo _ _ _ (by decide), gU_n _ _ _ (by decide)]; exact g1, gUs _ _ _ _, by rw [gU_n _ _ _ (by decide), gU_n _ _ _ (by decide)]; exact g3⟩, ?_, ?_, ?_, fun j hj => ?_, fun i hi => ?_, ?_, ?_⟩⟩
    · rw [gU_n _ _ _ (by decide), gU_n _ _ _ (by decide), G1 90 (by decide)]; exact m1
    · rw [gU_n _ _ _ (by decide), gU_n _ _ _ (by decide), G1 90 (by decide)]; exact m2
    · rw [gU_n _ _ _ (by decide), gU_n _ _ _ (by decide), G1 90 (by decide)]; exact m3
    · rw [gU_n _ _ _ (by decide), gU_n _ _ _ (by decide), gU_n _ _ _ (by decide), gU_n _ _ _ (by decide), G1 91 (by decide), G1 92 (by decide)]
      exact m4 j hj
    · have hi' : tld (ap (app A (2 * k + 1))) (2 * i + 1) (aN (app A (2 * k + 1))) = true := hi
      rw [app_tld, Bool.or_eq_true, decide_eq_true_eq] at hi'
      show _ = ((if i = k then d else ah A i : Nat) : Int)
      rw [gU_n _ _ _ (by decide)]
      by_cases hik : i = k
      · rw [hik, gUs, if_pos rfl]
      · rw [gUo _ _ _ hik, if_neg hik, G1 93 (by decide)]
        rcases hi' with hi' | hi'
        · exact m5 i hi'
        · omega
    · rw [gUo _ _ _ (by decide), gU_n _ _ _ (by decide), G2 31 (by decide)]; exact m6
    · rw [gUo _ _ _ (by decide), gU_n _ _ _ (by decide), G2 32 (by decide)]; exact m7
  by_cases hqL : q < L
  · rw [if_neg (by omega), gI_n (show q < 400 by omega), Option.bind_some, g3]
    unfold f_M_signOf_31
    rw [g2, gI_n (show q < 400 by omega), Option.bind_some, Option.bind_some, g3]
    by_cases c1 : T q = 43
    · rw [if_pos c1, if_pos c1, if_pos (show q < L ∧ T q = 43 from ⟨hqL, c1⟩)]
      exact at44 1 (by omega) hqL
    · rw [if_neg c1, if_neg (show ¬ (q < L ∧ T q = 43) from fun z => c1 z.2)]
      by_cases c2 : T q = 45
      · rw [if_pos c2, if_neg c1, if_pos (show q < L ∧ T q = 45 from ⟨hqL, c2⟩)]
        exact at44 0 (by omega) hqL
      · rw [if_neg c2, if_neg (show ¬ (q < L ∧ T q = 45) from fun z => c2 z.2)]
        exact at25
  · rw [if_pos (by omega), if_neg (fun z => hqL z.1), if_neg (fun z => hqL z.1)]
    exact at25
theorem wp_M_pass {T g : Nat → Int} (hT : TB T) {L p ov : Nat} (hov : ov < 2) {A : zA} (hA : PI A) (hR : 1 ≤ aR A) (hpL : p + 1 ≤ L) {s : kM} (h : MX T L g (p, 0, A) s) : wp (f_M_pass ov s) (fun t => MX T L g (pPs T L ov (p + 1) A) t) := by
  have h' := h
  obtain ⟨h1, h2, h3, h5⟩ := h'
  obtain ⟨k1, k2⟩ := h5 rfl
  have hL := k1.1.1
  dsimp only at k1 k2 h1
  have hn := okB_n hA.1
  have hR2 := hA.1.1
  unfold f_M_pass
  rw [gLet_eq, k1.2.2.1, wI_s (by omega)]
  have hp1 := MTp_u (q := p + 1) k1 (by omega)
  have hb := bl_le (T := T) hpL
  rw [e_M_blanks hT hp1, Option.bind_some, gU_gU]
  have hq := MX_u (q := bl T L (p + 1)) h (by omega)
  unfold pPs
  have hbb : bl T L (bl T L (p + 1)) = bl T L (p + 1) := bl_bl _ _ rfl
  generalize bl T L (p + 1) = q at hb hq hbb ⊢
  obtain ⟨G, hG⟩ : ∃ G, G = gU s 85 22 (q : Int) := ⟨_, rfl⟩
  rw [← hG] at hq ⊢
  clear hG
  obtain ⟨g1, g2, g3, g5⟩ := hq
  obtain ⟨m1, m2⟩ := g5 rfl
  dsimp only at g1 m1 m2
  have hf0 : G 85 23 = 0 := g1
  unfold f_M_amount
  rw [e_M_blanks hT m1, hbb, gU_id m1.2.2.1, Option.bind_some, if_pos hf0]
  have ed := e_M_digits hT (m := 99999) m1 hf0 (by omega)
  rw [show ((99999 : Nat) : Int) = 99999 from rfl] at ed
  rw [ed, Option.bind_some, m1.2.2.1]
  have hdl := drn_le T L (L - q) q rfl
  have hv := val_lt T L q
  by_cases c1 : dgt T L q = true
  · rw [if_pos c1, if_pos c1]
    dsimp only
    unfold f_M_amount_13
    by_cases c2 : drn T L q ≤ 5
    · rw [if_pos (show drn T L q ≤ 5 ∧ val T L q ≤ 99999 from ⟨c2, by omega⟩)]
      have hfu : gU G 85 22 ((q + drn T L q : Nat) : Int) 85 23 = 0 := by rw [gUo _ _ _ (by decide)]; exact hf0
      rw [if_pos hfu, e_M_in, Option.bind_some]
      by_cases c3 : val T L q ≤ 10
      · rw [if_pos (show drn T L q ≤ 5 ∧ val T L q ≤ 10 from ⟨c2, c3⟩), if_pos (show (0 : Int) ≤ ((val T L q : Nat) : Int) ∧ ((val T L q : Nat) : Int) ≤ 10 by omega), if_neg (by decide), Option.bind_some]
        dsimp only
        rw [if_pos (show gU G 85 22 ((q + drn T L q : Nat) : Int) 85 23 ≤ 0 by rw [hfu]; decide)]
        generalize hvk : val T L q = k at c3 hv ⊢
        obtain ⟨H, hH⟩ : ∃ H, H = gU G 85 22 ((q + drn T L q : Nat) : Int) := ⟨_, rfl⟩
        rw [← hH] at hfu ⊢
        have H1 : ∀ z, z ≠ 85 → H z = G z := fun z hz => by rw [hH, gU_n _ _ _ hz]
        have H2 : ∀ i, i ≠ 22 → H 85 i = G 85 i := fun i hi => by rw [hH, gUo _ _ _ hi]
        have H3 : H 85 22 = ((q + drn T L q : Nat) : Int) := by rw [hH, gUs]
        clear hH
        obtain ⟨n1, n2, n3, n4, n5', n6, n7⟩ := m2
        have bl1 := bmk_lt (p := ap A) (w := 1) (aN A) hA.1.2.2.2.1
        have bl0 := bmk_lt (p := ap A) (w := 0) (aN A) hA.1.2.2.2.1
        have hsel : (if (ov : Int) = 0 then f_M_pass_27 ov q k (H 85 32) H else f_M_pass_27 ov q k (H 85 31) H) = f_M_pass_27 ov q k ((bmk (ap A) ov (aN A) : Nat) : Int) H := by
          have : ov = 0 ∨ ov = 1 := by omega
          rcases this with rfl | rfl
          · rw [if_pos (show ((0 : Nat) : Int) = 0 from rfl), H2 32 (by decide), n7]
          · rw [if_neg (by decide), H2 31 (by decide), n6]
        rw [hsel]
        clear hsel
        unfold f_M_pass_27
        have hbm : bmk (ap A) ov (aN A) < 2147483648 := by
          have := bmk_lt (p := ap A) (w := ov) (aN A) hA.1.2.2.2.1
          omega
        rw [kbit hbm (by omega), bmk_bit hov]
        by_cases c4 : tld (ap A) (2 * k + ov) (aN A) = true
        · have ef := e_M_fails (p := q) (c := 5) (s := H) (by omega) (by omega)
          rw [if_pos hfu, show ((5 : Nat) : Int) = 5 from rfl] at ef
          rw [if_pos c4, if_pos rfl, if_pos c4, ef, Option.bind_some, wp_some]
          exact MX_f (m21_i g2 H2) ⟨q + drn T L q, ⟨hL, by omega⟩, by rw [H2 21 (by decide)]; exact g2.1, H3, by rw [H1 105 (by decide)]; exact g3.1⟩
        · have hr := tld_room hA.1 (c := 2 * k + ov) (by omega) c4
          have hsum : wI (H 90 1 + H 90 2) = ((aN A : Nat) : Int) := by
            rw [H1 90 (by decide), n2, n3, wI_id (by omega) (by omega)]
            omega
          rw [if_neg c4, if_neg (by decide), if_neg c4, hsum, gI_n hr, Option.bind_some, gLet_eq]
          obtain ⟨J, hJ⟩ : ∃ J, J = gU (gU H 91 (aN A) (k : Int)) 92 (aN A) (ov : Int) := ⟨_, rfl⟩
          have J1 : ∀ z, z ≠ 91 → z ≠ 92 → J z = H z := fun z z1 z2 => by rw [hJ, gU_n _ _ _ z2, gU_n _ _ _ z1]
          have J2 : ∀ j, j < aN A + 1 → J 91 j = ((ap (app A (2 * k + ov)) j / 2 : Nat) : Int) ∧ J 92 j = ((ap (app A (2 * k + ov)) j % 2 : Nat) : Int) := fun j hj => by
            rw [hJ, gU_n _ _ _ (show 91 ≠ 92 by decide)]
            by_cases hjn : j = aN A
            · rw [hjn, gUs, gUs, app_ap', show (2 * k + ov) / 2 = k by omega, show (2 * k + ov) % 2 = ov by omega]
              exact ⟨rfl, rfl⟩
            · rw [gUo _ _ _ hjn, gUo _ _ _ hjn, gU_n _ _ _ (show 92 ≠ 91 by decide), app_ap (by omega), H1 91 (by decide), H1 92 (by decide)]
              exact n4 j (by omega)
          have hsel2 : (if (ov : Int) = 0 then f_M_pass_61 ov k ((aN A : Nat) : Int) 0 (gU H 91 (aN A) (k : Int)) else f_M_pass_61 ov k ((aN A : Nat) : Int) 1 (gU H 91 (aN A) (k : Int))) = f_M_pass_61 ov k ((aN A : Nat) : Int) ov (gU H 91 (aN A) (k : Int)) := by
            have : ov = 0 ∨ ov = 1 := by omega
            rcases this with rfl | rfl <;> rfl
          rw [hsel2]
          clear hsel2
          unfold f_M_pass_61
          rw [gI_n hr, Option.bind_some, gLet_eq, ← hJ]
          clear hJ
          have j0 : J 90 = G 90 := by rw [J1 90 (by decide) (by decide), H1 90 (by decide)]
          have jr : gI 3 ((aR A : Nat) : Int) = some (aR A) := gI_n (by omega)
          rw [j0, n1, jr, Option.bind_some, Option.bind_some, gLet_eq]
          -- one more of its road
          have e90 : ∃ x, G 90 (aR A) = x ∧ gU J 90 (aR A) (wI (x + 1)) 90 0 = ((aR A : Nat) : Int) ∧ gU J 90 (aR A) (wI (x + 1)) 90 1 = ((aF (app A (2 * k + ov)) : Nat) : Int) ∧ gU J 90 (aR A) (wI (x + 1)) 90 2 = ((aN A + 1 : Nat) : Int) - ((aF (app A (2 * k + ov)) : Nat) : Int) := by
            have eF : aF (app A (2 * k + ov)) = if aR A ≤ 1 then aF A + 1 else aF A := rfl
            have hr12 : aR A = 1 ∨ aR A = 2 := by omega
            rcases hr12 with hr1 | hr1
            · rw [hr1, if_pos (by omega)] at eF
              rw [eF, hr1]
              refine ⟨_, n2, ?_, ?_, ?_⟩
              · rw [gUo _ _ _ (by decide), j0, n1, hr1]
              · rw [gUs, wI_s (by omega)]
              · rw [gUo _ _ _ (by decide), j0, n3]
                omega
            · rw [hr1, if_neg (by omega)] at eF
              rw [eF, hr1]
              refine ⟨_, n3, ?_, ?_, ?_⟩
              · rw [gUo _ _ _ (by decide), j0, n1, hr1]
              · rw [gUo _ _ _ (by decide), j0, n2]
              · rw [gUs, wI_id (by omega) (by omega)]
                omega
          obtain ⟨x, hx, e1, e2, e3⟩ := e90
          rw [hx]
          obtain ⟨K, hK⟩ : ∃ K, K = gU J 90 (aR A) (wI (x + 1)) := ⟨_, rfl⟩
          rw [← hK] at e1 e2 e3 ⊢
          have K1 : ∀ z, z ≠ 90 → K z = J z := fun z hz => by rw [hK, gU_n _ _ _ hz]
          clear hK hx
          have K85 : ∀ i, i ≠ 22 → K 85 i = G 85 i := fun i hi => by rw [K1 85 (by decide), J1 85 (by decide) (by decide), H2 i hi]
          have K22 : K 85 22 = ((q + drn T L q : Nat) : Int) := by rw [K1 85 (by decide), J1 85 (by decide) (by decide)]; exact H3
          have K105 : K 105 = T := by rw [K1 105 (by decide), J1 105 (by decide) (by decide), H1 105 (by decide)]; exact g3.1
          have K93 : K 93 = G 93 := by rw [K1 93 (by decide), J1 93 (by decide) (by decide), H1 93 (by decide)]
          have bap : ∀ w, bmk (ap (app A (2 * k + ov))) w (aN A + 1) = bmk (ap A) w (aN A) ||| (if ov = w then 2 ^ k else 0) := fun w => by
            rw [bmk_s, app_ap', bmk_c (p := ap (app A (2 * k + ov))) (q := ap A) (aN A) (fun j hj => app_ap hj), show (2 * k + ov) % 2 = ov by omega, show (2 * k + ov) / 2 = k by omega]
          have hpw : 2 ^ k < 2 ^ 11 := Nat.pow_lt_pow_right (by decide) (by omega)
          have c23 : drn T L q ≤ 5 ∧ k ≤ 10 := ⟨c2, c3⟩
          by_cases c5 : ov = 0
          · subst c5
            rw [if_pos (show ((0 : Nat) : Int) = 0 from rfl), if_pos rfl, kone (by omega), K85 32 (by decide), n7, kor_n (by omega) (by omega), gLet_eq, wp_some]
            have b0 := bap 0
            have b1 := bap 1
            rw [if_pos rfl] at b0
            rw [if_neg (by decide), Nat.or_zero] at b1
            refine ⟨by rw [gUo _ _ _ (by decide), K85 23 (by decide)]; exact hf0, m21_u (m21_i g2 K85) (by decide), ⟨by rw [gU_n _ _ _ (by decide)]; exact K105, q + drn T L q, ⟨hL, by omega⟩, by rw [gUo _ _ _ (by decide), K85 21 (by decide)]; exact g2.1, by rw [gUo _ _ _ (by decide)]; exact K22, by rw [gU_n _ _ _ (by decide)]; exact K105⟩, fun _ => ⟨⟨⟨hL, by show q + drn T L q ≤ 1000; omega⟩, by rw [gUo _ _ _ (by decide), K85 21 (by decide)]; exact g2.1, by rw [gUo _ _ _ (by decide)]; exact K22, by rw [gU_n _ _ _ (by decide)]; exact K105⟩, by rw [gU_n _ _ _ (by decide)]; exact e1, by rw [gU_n _ _ _ (by decide)]; exact e2, by rw [gU_n _ _ _ (by decide)]; exact e3, fun j hj => ?_, fun i hi => ?_, ?_, ?_⟩⟩
            · rw [gU_n _ _ _ (by decide), gU_n _ _ _ (by decide), K1 91 (by decide), K1 92 (by decide)]
              exact J2 j hj
            · have hi' : tld (ap (app A (2 * k))) (2 * i + 1) (aN (app A (2 * k))) = true := hi
              rw [app_tld, Bool.or_eq_true, decide_eq_true_eq] at hi'
              rw [gU_n _ _ _ (by decide), K93]
              rcases hi' with hi' | hi'
              · exact n5' i hi'
              · omega
            · rw [gUo _ _ _ (by decide), K85 31 (by decide), n6]
              show _ = ((bmk (ap (app A (2 * k + 0))) 1 (aN A + 1) : Nat) : Int)
              rw [b1]
            · rw [gUs]
              show _ = ((bmk (ap (app A (2 * k + 0))) 0 (aN A + 1) : Nat) : Int)
              rw [b0]
          · have hov1 : ov = 1 := by omega
            subst hov1
            have b0 := bap 0
            have b1 := bap 1
            rw [if_pos rfl] at b1
            rw [if_neg (by decide), Nat.or_zero] at b0
            rw [if_neg (by decide), if_neg (by decide), kone (by omega), K85 31 (by decide), n6, kor_n (by omega) (by omega), gLet_eq]
            have hw := wp_M_signOf hT (L := L) (p := q + drn T L q) (k := k) (A := A) (by omega) c3 hA c4 (s := gU K 85 31 ((bmk (ap A) 1 (aN A) ||| 2 ^ k : Nat) : Int)) (m21_u (m21_i g2 K85) (by decide)) ⟨⟨hL, by omega⟩, by rw [gUo _ _ _ (by decide), K85 21 (by decide)]; exact g2.1, by rw [gUo _ _ _ (by decide)]; exact K22, by rw [gU_n _ _ _ (by decide)]; exact K105⟩ (by rw [gUo _ _ _ (by decide), K85 23 (by decide)]; exact hf0) (by rw [gU_n _ _ _ (by decide)]; exact e1) (by rw [gU_n _ _ _ (by decide)]; exact e2) (by rw [gU_n _ _ _ (by decide)]; exact e3) (fun j hj => by rw [gU_n _ _ _ (by decide), gU_n _ _ _ (by decide), K1 91 (by decide), K1 92 (by decide)]; exact J2 j hj) (fun i hi => by rw [gU_n _ _ _ (by decide), K93]; exact n5' i hi) (by rw [gUs, b1]) (by rw [gUo _ _ _ (by decide), K85 32 (by decide), n7, b0])
            obtain ⟨t, f1, t1⟩ := hw
            rw [f1, Option.bind_some, wp_some]
            exact t1
      · rw [if_neg (show ¬ (drn T L q ≤ 5 ∧ val T L q ≤ 10) from fun z => c3 z.2), if_neg (show ¬ ((0 : Int) ≤ ((val T L q : Nat) : Int) ∧ ((val T L q : Nat) : Int) ≤ 10) by omega), if_pos rfl]
        have ef := e_M_fails (p := q) (c := 1) (s := gU G 85 22 ((q + drn T L q : Nat) : Int)) (by omega) (by omega)
        rw [if_pos hfu, show ((1 : Nat) : Int) = 1 from rfl] at ef
        rw [ef, Option.bind_some, Option.bind_some]
        dsimp only
        rw [if_neg (by rw [gUs]; unfold flt; omega), wp_some]
        exact MX_f (m21_u g2 (by decide)) ⟨_, MTp_u m1 (by omega)⟩
    · rw [if_neg (show ¬ (drn T L q ≤ 5 ∧ val T L q ≤ 99999) from fun z => c2 z.1), if_neg (show ¬ (drn T L q ≤ 5 ∧ val T L q ≤ 10) from fun z => c2 z.1), gUs, if_neg (by unfold flt; omega), Option.bind_some]
      dsimp only
      rw [if_neg (by rw [gUs]; unfold flt; omega), wp_some]
      exact MX_f (m21_u g2 (by decide)) ⟨_, MTp_u m1 (by omega)⟩
  · rw [if_neg c1, if_neg c1]
    dsimp only
    unfold f_M_amount_13
    rw [gUs, if_neg (by unfold flt; omega), Option.bind_some]
    dsimp only
    rw [if_neg (by rw [gUs]; unfold flt; omega), wp_some]
    exact MX_f g2 ⟨_, m1⟩
