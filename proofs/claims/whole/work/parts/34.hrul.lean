/-! the whole RULE -/
abbrev pQ : Type := Sum Nat (List (List Int) × List Int)
def pRl (T : Nat → Int) (L : Nat) : Nat → Nat → List (List Int) → List Int → Nat → Nat → pQ
  | 0, _, _, _, _, _ => .inl 0
  | k + 1, a, acc, kc, p, n => match pCl T L a p n with
    | .inl e => .inl e
    | .inr x => if x.2.1 < L ∧ T x.2.1 = 59 then pRl T L k (a + 1) (acc ++ [x.1]) (kc ++ jnK a x.1) (x.2.1 + 1) x.2.2 else if x.2.1 < L then .inl (flt x.2.1 0) else .inr (acc ++ [x.1], kc ++ jnK a x.1)
theorem pRl_l {T : Nat → Int} {L k a : Nat} {acc : List (List Int)} {kc : List Int} {p n e : Nat} (h : pCl T L a p n = .inl e) : pRl T L (k + 1) a acc kc p n = .inl e := by
  show (match pCl T L a p n with | .inl e => (Sum.inl e : pQ) | .inr x => if x.2.1 < L ∧ T x.2.1 = 59 then pRl T L k (a + 1) (acc ++ [x.1]) (kc ++ jnK a x.1) (x.2.1 + 1) x.2.2 else if x.2.1 < L then .inl (flt x.2.1 0) else .inr (acc ++ [x.1], kc ++ jnK a x.1)) = _
  rw [h]
theorem pRl_r {T : Nat → Int} {L k a : Nat} {acc : List (List Int)} {kc : List Int} {p n : Nat} {c : List Int} {q m : Nat} (h : pCl T L a p n = .inr (c, q, m)) : pRl T L (k + 1) a acc kc p n = if q < L ∧ T q = 59 then pRl T L k (a + 1) (acc ++ [c]) (kc ++ jnK a c) (q + 1) m else if q < L then .inl (flt q 0) else .inr (acc ++ [c], kc ++ jnK a c) := by
  show (match pCl T L a p n with | .inl e => (Sum.inl e : pQ) | .inr x => if x.2.1 < L ∧ T x.2.1 = 59 then pRl T L k (a + 1) (acc ++ [x.1]) (kc ++ jnK a x.1) (x.2.1 + 1) x.2.2 else if x.2.1 < L then .inl (flt x.2.1 0) else .inr (acc ++ [x.1], kc ++ jnK a x.1)) = _
  rw [h]
theorem Cl_i {T : Nat → Int} {L : Nat} (hL : L ≤ 400) {a p n : Nat} (hp : p ≤ L) (hn : n ≤ 60) : (∀ e, pCl T L a p n = .inl e → e ≠ 0) ∧ ∀ c q m, pCl T L a p n = .inr (c, q, m) → (p + 3 < q ∧ q ≤ L ∧ n < m ∧ m ≤ 60) ∧ 3 * c.length + 3 ≤ 6 * (m - n) + (q - p - 3) ∧ pus c ≤ m - n ∧ WF true c ∧ bl T L q = q ∧ a ≠ 12 := by
  have hb := bl_le (T := T) hp
  have hTT := It_T (T := T) hL (It_F (T := T) hL 10)
  unfold pCl
  by_cases hs : std T L (bl T L p) (kstrs.getD 3 []) = true
  · have hl : bl T L p + 3 ≤ L := std_len hb.2 hs
    rw [if_pos hs]
    by_cases h12 : a = 12
    · rw [if_pos h12]
      exact ⟨fun e he => by injection he with he; rw [← he]; exact flt_0 _ _, fun c q m h => (by cases h)⟩
    · rw [if_neg h12]
      obtain ⟨i1, i2⟩ := hTT.1 (bl T L p + 3) n hl hn
      refine ⟨i1, fun c q m h => ?_⟩
      obtain ⟨u1, u2, u3, u4⟩ := i2 c q m h
      exact ⟨by omega, by omega, u3, u4, hTT.2 _ _ _ _ _ hl hn h, h12⟩
  · rw [if_neg hs]
    exact ⟨fun e he => by injection he with he; rw [← he]; exact flt_0 _ _, fun c q m h => (by cases h)⟩
theorem gL_m {σ ρ : Type} {f : σ → Option (σ ⊕ ρ)} {m : Nat} {x : σ} {o : Option ρ} (h : f x = o.map Sum.inr) : gL f (m + 1) x = o := by
  show (match f x with | some (.inl y) => gL f m y | some (.inr r) => some r | none => none) = _
  rw [h]
  cases o <;> rfl
theorem e_37E {T : Nat → Int} {L e : Nat} {s : kM} (h : KEr T L e s) : f_RuleText_read_37 s = f_RuleText_read_43 s := by
  obtain ⟨⟨p, h1⟩, h2, h3, h4⟩ := h
  have hL := h1.1
  have hp := h1.2.1
  have ef : f_Tape_fail 0 s = some s := by
    have := e_fail (c := 0) (p := p) (s := s) (by omega) (by decide) h1.2.2.2.1
    rw [if_neg (by rw [h2]; omega)] at this
    exact this
  unfold f_RuleText_read_37 f_Tape_atEnd
  by_cases hc : s 1 2 < s 1 1
  · rw [if_pos hc, Option.bind_some, if_pos rfl, ef, Option.bind_some]
  · rw [if_neg hc, Option.bind_some, if_neg (by decide)]
def KRs (T : Nat → Int) (L : Nat) (r : pQ) (t : kM) : Prop := match r with
  | .inl e => KEr T L e t
  | .inr x => ∃ p n, KXr T L x.2 p n t
theorem K_loop {T : Nat → Int} (hT : TB T) {L : Nat} {s0 : kM} : ∀ k m a acc kc p n s, a + k = 13 → 14 ≤ m + a → n ≤ 60 → KXr T L kc p n s → kfr s0 s → ∃ t, gL (fun (x : Int × Int × kM) => f_RuleText_read_15b x.1 x.2.1 x.2.2) m (1, ((a : Nat) : Int), s) = f_RuleText_read_43 t ∧ kfr s0 t ∧ (a ≤ 12 → KRs T L (pRl T L k a acc kc p n) t)
  | 0, m, a, acc, kc, p, n, s, ha, hm, hn, hX, hf => by
    obtain ⟨m', rfl⟩ : ∃ m', m = m' + 1 := ⟨m - 1, by omega⟩
    have hX' := hX
    obtain ⟨⟨h1, h2, h3, h4, h5⟩, h6, -⟩ := hX'
    have e1 : (fun (x : Int × Int × kM) => f_RuleText_read_15b x.1 x.2.1 x.2.2) (1, ((a : Nat) : Int), s) = (f_RuleText_read_37 s).map Sum.inr := by
      show f_RuleText_read_15b 1 ((a : Nat) : Int) s = _
      unfold f_RuleText_read_15b
      rw [if_pos (by omega)]
    rw [gL_m e1]
    unfold f_RuleText_read_37 f_Tape_atEnd
    by_cases hc : s 1 2 < s 1 1
    · have ef : f_Tape_fail 0 s = _ := e_failX (k := 0) hX (by decide)
      rw [if_pos hc, Option.bind_some, if_pos rfl, ef, Option.bind_some]
      exact ⟨_, rfl, kfr_t hf (kfr_1 _ _ _), fun h => by omega⟩
    · rw [if_neg hc, Option.bind_some, if_neg (by decide)]
      exact ⟨s, rfl, hf, fun h => by omega⟩
  | k + 1, m, a, acc, kc, p, n, s, ha, hm, hn, hX, hf => by
    obtain ⟨m', rfl⟩ : ∃ m', m = m' + 1 := ⟨m - 1, by omega⟩
    have hL := hX.1.1
    obtain ⟨i1, i2⟩ := Cl_i (T := T) hL (a := a) hX.1.2.1 hn
    obtain ⟨t, g1, ht⟩ := K_clause hT (a := a) (by omega) hn hX
    have ew : wI (((a : Nat) : Int) + 1) = ((a + 1 : Nat) : Int) := wI_s (by omega)
    have fin0 : ∀ (u : kM) (o : Option (Int × kM)), f_RuleText_read_15b 1 ((a : Nat) : Int) s = some (.inl (0, ((a + 1 : Nat) : Int), u)) → f_RuleText_read_37 u = o → gL (fun (x : Int × Int × kM) => f_RuleText_read_15b x.1 x.2.1 x.2.2) (m' + 1) (1, ((a : Nat) : Int), s) = o := by
      intro u o q1 q2
      obtain ⟨m2, rfl⟩ : ∃ m2, m' = m2 + 1 := ⟨m' - 1, by clear ew; omega⟩
      have e1 : (fun (x : Int × Int × kM) => f_RuleText_read_15b x.1 x.2.1 x.2.2) ((0 : Int), ((a + 1 : Nat) : Int), u) = o.map Sum.inr := by
        show f_RuleText_read_15b 0 ((a + 1 : Nat) : Int) u = _
        unfold f_RuleText_read_15b
        rw [q2]
        by_cases h : (12 : Int) < ((a + 1 : Nat) : Int)
        · rw [if_pos h]
        · rw [if_neg h, if_pos rfl]
      rw [gL_l q1, gL_m e1]
    cases hr : pCl T L a p n with
    | inl e0 =>
      rw [hr, bR_l] at ht
      obtain ⟨t1, t2⟩ := ht
      dsimp only at t2
      have e1 : f_RuleText_read_15b 1 ((a : Nat) : Int) s = some (.inl (0, ((a + 1 : Nat) : Int), t)) := by
        unfold f_RuleText_read_15b f_RuleText_read_33 f_RuleText_read_34
        rw [if_neg (by clear ew; omega), if_neg (by decide), g1, Option.bind_some, if_neg (by rw [t2.2.1]; have := t2.2.2.1; clear ew; omega), ew]
      rw [fin0 t _ e1 rfl, pRl_l hr]
      exact ⟨t, e_37E t2, kfr_t hf t1, fun _ => t2⟩
    | inr y =>
      obtain ⟨c, q, n1⟩ := y
      rw [hr, bR_r] at ht
      obtain ⟨t1, t2⟩ := ht
      dsimp only at t2
      obtain ⟨⟨v1, v2, v3, v4⟩, v5, v6, v7, v8, v9⟩ := i2 c q n1 hr
      have et : f_Tape_takeSign 59 t = some (if q < L ∧ T q = 59 then (1, gU t 1 2 ((q + 1 : Nat) : Int)) else (0, t)) := e_takeS hT t2.1 v8 (k := 59) (by decide)
      rw [pRl_r hr]
      by_cases h59 : q < L ∧ T q = 59
      · rw [if_pos h59] at et ⊢
        have e1 : (fun (x : Int × Int × kM) => f_RuleText_read_15b x.1 x.2.1 x.2.2) (1, ((a : Nat) : Int), s) = some (.inl (1, ((a + 1 : Nat) : Int), gU t 1 2 ((q + 1 : Nat) : Int))) := by
          show f_RuleText_read_15b 1 ((a : Nat) : Int) s = _
          unfold f_RuleText_read_15b f_RuleText_read_34
          rw [if_neg (by clear ew; omega), if_neg (by decide), g1, Option.bind_some, if_pos t2.2.1, et, Option.bind_some]
          dsimp only
          rw [if_neg (by decide), ew]
        rw [gL_l e1]
        clear ew
        obtain ⟨u, g2, u1, u2⟩ := K_loop hT k m' (a + 1) (acc ++ [c]) (kc ++ jnK a c) (q + 1) n1 _ (by omega) (by omega) v4 (KXr_u t2 (by omega)) (kfr_t hf (kfr_t t1 (kfr_1 _ _ _)))
        exact ⟨u, g2, u1, fun _ => u2 (by omega)⟩
      · rw [if_neg h59] at et ⊢
        have e1 : f_RuleText_read_15b 1 ((a : Nat) : Int) s = some (.inl (0, ((a + 1 : Nat) : Int), t)) := by
          unfold f_RuleText_read_15b f_RuleText_read_33 f_RuleText_read_34
          rw [if_neg (by clear ew; omega), if_neg (by decide), g1, Option.bind_some, if_pos t2.2.1, et, Option.bind_some]
          dsimp only
          rw [if_pos rfl, ew]
        rw [fin0 t _ e1 rfl]
        clear ew fin0
        unfold f_RuleText_read_37 f_Tape_atEnd
        obtain ⟨-, k2, k3, k4, k5⟩ := t2.1
        by_cases hq : q < L
        · have ef : f_Tape_fail 0 t = some (gU t 1 3 ((flt q 0 : Nat) : Int)) := e_failX (k := 0) t2 (by decide)
          rw [if_pos (by rw [k3, k4]; omega), Option.bind_some, if_pos rfl, ef, Option.bind_some, if_pos hq]
          exact ⟨_, rfl, kfr_t hf (kfr_t t1 (kfr_1 _ _ _)), fun _ => KXr_e t2 (flt_0 _ _)⟩
        · rw [if_neg (by rw [k3, k4]; omega), Option.bind_some, if_neg (by decide), if_neg hq]
          exact ⟨t, rfl, kfr_t hf t1, fun _ => ⟨q, n1, t2⟩⟩
theorem K_read {T : Nat → Int} (hT : TB T) {L p : Nat} {s : kM} (h : KTp T L p s) : ∃ t, f_RuleText_read s = f_RuleText_read_43 t ∧ kfr s t ∧ KRs T L (pRl T L 13 0 [] [] 0 0) t := by
  obtain ⟨h1, h2, h3, h4, h5⟩ := h
  unfold f_RuleText_read f_Tape_rewind
  rw [gLet_eq, gLet_eq, gLet_eq, gLet_eq, gLet_eq, Option.bind_some]
  obtain ⟨u, hu⟩ : ∃ u, u = gU (gU (gU (gU (gU s 54 1 0) 54 2 0) 54 3 0) 1 2 0) 1 3 0 := ⟨_, rfl⟩
  have hfu : kfr s u := by rw [hu]; exact kfr_t (kfr_t (kfr_t (kfr_t (kfr_54 _ _ _) (kfr_54 _ _ _)) (kfr_54 _ _ _)) (kfr_1 _ _ _)) (kfr_1 _ _ _)
  have u11 : u 1 1 = (L : Int) := by rw [hu, gUo _ _ _ (by decide), gUo _ _ _ (by decide), gU_n _ _ _ (by decide), gU_n _ _ _ (by decide), gU_n _ _ _ (by decide)]; exact h3
  have u12 : u 1 2 = ((0 : Nat) : Int) := by rw [hu, gUo _ _ _ (by decide), gUs]; rfl
  have u13 : u 1 3 = 0 := by rw [hu, gUs]
  have u541 : u 54 1 = 0 := by rw [hu, gU_n _ _ _ (by decide), gU_n _ _ _ (by decide), gUo _ _ _ (by decide), gUo _ _ _ (by decide), gUs]
  have u542 : u 54 2 = ((0 : Nat) : Int) := by rw [hu, gU_n _ _ _ (by decide), gU_n _ _ _ (by decide), gUo _ _ _ (by decide), gUs]; rfl
  have u543 : u 54 3 = 0 := by rw [hu, gU_n _ _ _ (by decide), gU_n _ _ _ (by decide), gUs]
  rw [← hu]
  clear hu
  have hX : KXr T L [] 0 0 u := ⟨⟨h1, by omega, u11, u12, by rw [hfu 2 (by decide) (by decide) (by decide)]; exact h5⟩, u13, u542, ⟨by rw [u541]; rfl, fun i hi => absurd hi (Nat.not_lt_zero _)⟩, by rw [u543]; rfl⟩
  unfold f_RuleText_read_15
  obtain ⟨t, g1, t1, t2⟩ := K_loop hT (s0 := s) 13 gF 0 [] [] 0 0 u (by omega) (by show 14 ≤ 4096 + 0; omega) (by omega) hX hfu
  exact ⟨t, g1, t1, t2 (by omega)⟩
