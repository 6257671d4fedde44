theorem e_goesE {T : Nat → Int} (hT : TB T) {L k e : Nat} {s : kM} (h : MEr T L e s) : ∃ t, f_M_goesOn s = some (0, t) ∧ mft k s t ∧ t 85 23 = (e : Int) := by
  obtain ⟨w, g, w1, w2⟩ := MEr_b hT h k
  have hne : ¬ w 85 23 = 0 := by rw [w1.2.1]; have := w1.2.2.1; omega
  unfold f_M_goesOn f_M_goesOn_19 f_M_goesOn_29 f_M_goesOn_30
  rw [g, Option.bind_some, if_neg hne, if_neg hne, gLet_eq]
  refine ⟨_, rfl, mft_t (mft_v w2) (mft_85 k w _ (by decide)), ?_⟩
  rw [gUo _ _ _ (by decide)]
  exact w1.2.1
theorem e_goes {T : Nat → Int} (hT : TB T) {L k : Nat} {c : List Int} {q n : Nat} {s : kM} (h : MVr T L k c q n s) (hq : q ≤ L) (hb : bl T L q = q) : ((q < L ∧ T q = 59) → f_M_goesOn s = some (1, gU s 85 22 ((q + 1 : Nat) : Int))) ∧ (q < L → ¬ T q = 59 → ∃ t, f_M_goesOn s = some (0, t) ∧ mft k s t ∧ t 85 23 = ((flt q 0 : Nat) : Int)) ∧ (¬ q < L → f_M_goesOn s = some (0, gU s 85 22 ((q + 1 : Nat) : Int))) := by
  have hL := h.1.1.1
  have gb : f_M_blanks s = some s := by rw [e_M_blanks hT h.1, hb, gU_id h.1.2.2.1]
  have e1 : wI (s 85 22 + 1) = ((q + 1 : Nat) : Int) := by rw [h.1.2.2.1]; exact wI_s (by omega)
  have hle : (s 85 21 ≤ s 85 22) ↔ ¬ q < L := by rw [h.1.2.1, h.1.2.2.1]; clear e1; omega
  unfold f_M_goesOn f_M_goesOn_19 f_M_goesOn_29 f_M_goesOn_30
  rw [gb, Option.bind_some, if_pos h.2.1, e_M_sign h.1, Option.bind_some]
  refine ⟨fun hc => ?_, fun hc hn => ?_, fun hc => ?_⟩
  · rw [if_neg (fun z => hle.mp z hc.1), if_pos ((sgn_eq hT (by decide) (by decide)).mpr hc), if_pos h.2.1, if_neg (fun z => hle.mp z hc.1), gLet_eq, e1]
    rfl
  · have ef : f_M_fails 0 ((q : Nat) : Int) s = some (gU s 85 23 ((flt q 0 : Nat) : Int)) := e_M_failX (x := 0) h (by decide) (by clear e1; omega)
    have hne : ¬ gU s 85 23 ((flt q 0 : Nat) : Int) 85 23 = 0 := by rw [gUs]; have := flt_0 q 0; clear e1; omega
    rw [if_neg (fun z => hle.mp z hc), if_neg (fun z => hn ((sgn_eq hT (by decide) (by decide)).mp z).2), h.1.2.2.1, ef, Option.bind_some, if_neg hne, gLet_eq]
    refine ⟨_, rfl, mft_t (mft_85 k s _ (by decide)) (mft_85 k _ _ (by decide)), ?_⟩
    rw [gUo _ _ _ (by decide), gUs]
  · rw [if_pos (hle.mpr hc), if_pos h.2.1, if_pos (hle.mpr hc), gLet_eq, e1]
    rfl
def qrs (r : pQ) (A : Nat → Prop) (B : List (List Int) × List Int → Prop) : Prop := match r with
  | .inl e => A e
  | .inr x => B x
def fRt : Int × Int × kM → Option ((Int × Int × kM) ⊕ (Int × kM)) := fun x => f_M_rule_16b x.1 x.2.1 x.2.2
theorem M_rloop {T : Nat → Int} (hT : TB T) {L k : Nat} (hL : L ≤ 400) (hk : k < 6) {s0 : kM} : ∀ kk m a acc kc p n s, a + kk = 13 → a ≤ 12 → 14 ≤ m + a → acc.length = a → n ≤ 60 → p ≤ L → 3 * acc.flatten.length ≤ 6 * n + p → MVr T L k acc.flatten p n s → s 85 27 = 0 → CB k acc s → mfr k s0 s → ∃ a' t, (∀ o, f_M_rule_16b ((a' : Nat) : Int) 0 t = o.map Sum.inr → gL fRt m (((a : Nat) : Int), 1, s) = o) ∧ mfr k s0 t ∧ qrs (pRl T L kk a acc kc p n) (fun e => t 85 23 = (e : Int) ∧ e ≠ 0) (fun x => t 85 23 = 0 ∧ x.1.length = a' ∧ a' ≤ 12 ∧ MOr k x.1.flatten t ∧ CB k x.1 t)
  | 0, m, a, acc, kc, p, n, s, h1, h2, _, _, _, _, _, _, _, _, _ => by omega
  | kk + 1, m, a, acc, kc, p, n, s, h1, h2, h3, h4, h5, h6, h7, h8, h9, h10, h11 => by
    obtain ⟨m', rfl⟩ : ∃ m', m = m' + 1 := ⟨m - 1, by omega⟩
    obtain ⟨t, g1, t1, t2⟩ := M_clause hT hL hk h4 h2 h5 h6 h7 h8 h9 h10
    obtain ⟨i1, i2⟩ := Cl_i (T := T) hL (a := a) h6 h5
    have step : ∀ (y : Int) (u : kM), f_M_goesOn t = some (y, u) → fRt (((a : Nat) : Int), 1, s) = some (.inl (((a + 1 : Nat) : Int), y, u)) := by
      intro y u g
      show f_M_rule_16b ((a : Nat) : Int) 1 s = _
      unfold f_M_rule_16b
      rw [if_neg (by decide), g1, Option.bind_some, g, Option.bind_some, wI_s (by omega)]
    have fin : ∀ (u : kM), f_M_goesOn t = some (0, u) → ∀ o, f_M_rule_16b ((a + 1 : Nat) : Int) 0 u = o.map Sum.inr → gL fRt (m' + 1) (((a : Nat) : Int), 1, s) = o := by
      intro u g o ho
      obtain ⟨m2, rfl⟩ : ∃ m2, m' = m2 + 1 := ⟨m' - 1, by omega⟩
      have e1 : fRt (((a + 1 : Nat) : Int), 0, u) = o.map Sum.inr := ho
      rw [gL_l (step 0 u g), gL_m e1]
    cases hr : pCl T L a p n with
    | inl e0 =>
      rw [hr] at t2
      rw [pRl_l hr]
      obtain ⟨u, g, u1, u2⟩ := e_goesE (k := k) hT t2
      exact ⟨a + 1, u, fin u g, mfr_t h11 (mfr_t t1 (mfr_f u1)), u2, i1 e0 hr⟩
    | inr y =>
      obtain ⟨c, q, n1⟩ := y
      rw [hr] at t2
      obtain ⟨t3, t4, t5⟩ := t2
      dsimp only at t3 t5
      obtain ⟨⟨v1, v2, v3, v4⟩, v5, v6, v7, v8, v9⟩ := i2 c q n1 hr
      obtain ⟨G1, G2, G3⟩ := e_goes hT t3 v2 v8
      have hfl : (acc ++ [c]).flatten.length = acc.flatten.length + c.length := by
        rw [List.flatten_append, List.length_append]
        show _ + (c ++ []).length = _
        rw [List.append_nil]
      rw [pRl_r hr]
      by_cases h59 : q < L ∧ T q = 59
      · rw [if_pos h59]
        have g59 := G1 h59
        clear G1 G2 G3
        have hX := MVr_u t3 (q := q + 1) (by omega)
        have hf : mfr k t (gU t 85 22 ((q + 1 : Nat) : Int)) := mfr_f (mft_85 k t _ (by decide))
        have hlen : (acc ++ [c]).length = a + 1 := by rw [List.length_append, h4]; rfl
        obtain ⟨a', u, u1, u2, u3⟩ := M_rloop hT hL hk (s0 := s0) kk m' (a + 1) (acc ++ [c]) (kc ++ jnK a c) (q + 1) n1 _ (by omega) (by omega) (by omega) hlen v4 (by omega) (by rw [hfl]; omega) hX (by rw [gUo _ _ _ (by decide)]; exact t4) (fun i hi => by rw [gU_n _ _ _ (by decide), gU_n _ _ _ (by decide)]; exact t5 i hi) (mfr_t h11 (mfr_t t1 hf))
        refine ⟨a', u, fun o ho => ?_, u2, u3⟩
        rw [gL_l (step 1 _ g59)]
        exact u1 o ho
      · rw [if_neg h59]
        by_cases hq : q < L
        · rw [if_pos hq]
          obtain ⟨u, g, u1, u2⟩ := G2 hq (fun z => h59 ⟨hq, z⟩)
          exact ⟨a + 1, u, fin u g, mfr_t h11 (mfr_t t1 (mfr_f u1)), u2, flt_0 _ _⟩
        · rw [if_neg hq]
          have g3 := G3 hq
          clear G1 G2 G3
          have hX := MVr_u t3 (q := q + 1) (by omega)
          refine ⟨a + 1, _, fin _ g3, mfr_t h11 (mfr_t t1 (mfr_f (mft_85 k t _ (by decide)))), hX.2.1, by rw [List.length_append, h4]; rfl, by omega, hX.2.2.2, fun i hi => by rw [gU_n _ _ _ (by decide), gU_n _ _ _ (by decide)]; exact t5 i hi⟩
