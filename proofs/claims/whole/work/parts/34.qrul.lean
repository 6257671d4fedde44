theorem hd_nil : hd [] ≠ 9 ∧ hd [] ≠ 10 ∧ hd [] ≠ 11 := ⟨by show (-1 : Int) ≠ 9; decide, by show (-1 : Int) ≠ 10; decide, by show (-1 : Int) ≠ 11; decide⟩
/-- a whole test -/
theorem M_test {T : Nat → Int} (hT : TB T) {L k : Nat} (hL : L ≤ 400) (hk : k < 6) {c : List Int} {p n : Nat} {s : kM} (hn : n ≤ 60) (hp : p ≤ L) (hc : 3 * c.length ≤ 6 * n + p) (hX : MVr T L k c p n s) (h27 : s 85 27 = 0) : wp (f_M_test s) (fun t => mft k s t ∧ res (pT T L (pF T L 10) p n) (fun e => MEr T L e t) (fun x => MVr T L k (c ++ x.1) x.2.1 x.2.2 t ∧ t 85 27 = 0)) := by
  unfold f_M_test f_M_test_7
  rw [gLet_eq]
  have hX1 : MXr T L k [] c p n (gU s 85 29 0) := ⟨MVr_85 hX _ (by decide), by rw [gUo _ _ _ (by decide)]; exact h27, gUs _ _ _ _, trivial⟩
  have hf1 : mft k s (gU s 85 29 0) := mft_85 k s _ (by decide)
  generalize gU s 85 29 0 = s1 at *
  have hIF := It_F (T := T) hL 10
  have hr := sim_test hT hL hk hIF (sim_fact hT hL hk 10 0 (by omega)) [] hd_nil c p n s1 ⟨hn, hp, by show 3 * (c.length + 0) ≤ _; omega, Nat.zero_le _, rfl⟩ hX1
  obtain ⟨i1, i2⟩ := (It_T (T := T) hL hIF).1 p n hp hn
  show wp (gL fTt gF (1, 1, s1)) _
  cases hv : pT T L (pF T L 10) p n with
  | inl e0 =>
    rw [hv] at hr
    obtain ⟨j2, x1, w2, k1, k2, k3, k4⟩ := hr
    have ef : fTt (x1, 1, w2) = some (.inr w2) := by
      show f_M_test_7b x1 1 w2 = _
      unfold f_M_test_7b
      rw [if_neg (by decide), if_neg (by rw [k4.2.1]; have := k4.2.2.1; omega)]
    have eg : gF = (4095 - j2 + 1) + j2 := by show 4096 = _; omega
    rw [eg, k2, gL_r ef, wp_some]
    exact ⟨mft_t hf1 k3, k4⟩
  | inr y =>
    obtain ⟨c2, p3, n3⟩ := y
    rw [hv] at hr
    obtain ⟨j2, i', l', o', c0', q', t, k1, k1', k1'', k2, kl, ko, k3, k3', k4, k5, k6, k7, k7', k8⟩ := hr
    dsimp only at k2 k3 k6 k7 k7' k8
    obtain ⟨⟨v1, v2, v3, v4⟩, v5, v6, v7⟩ := i2 c2 p3 n3 hv
    have hc2 : c2.length = c0'.length + i' + l' + o' := by rw [k3, List.length_append, List.length_append, List.length_append, List.length_replicate, List.length_replicate, List.length_replicate]
    rw [k2] at k7 k7'
    obtain ⟨g, g1, g2, g3⟩ := e_end hT hk hd_nil hL k1'' v4 kl ko (by omega) k3' k6 k7 k7'
    rw [← k3, ← k2] at g1
    rw [if_neg (show ¬ hd [] = 12 by show ¬ (-1 : Int) = 12; decide)] at g3
    have ef : fTt (0, 0, g) = some (.inr g) := by
      show f_M_test_7b 0 0 g = _
      unfold f_M_test_7b
      rw [if_pos rfl]
    have eg : gF = (4094 - j2 + 1 + 1) + j2 := by show 4096 = _; omega
    rw [eg, k4, gL_l g3, gL_r ef, wp_some]
    exact ⟨mft_t hf1 (mft_t k5 g2), g1.1, g1.2.1⟩
/-- what stands of the clauses read: where each begins and ends -/
def CB (k : Nat) (acc : List (List Int)) (s : kM) : Prop := ∀ i, i < acc.length → s 109 (12 * k + i) = (((acc.take i).flatten.length : Nat) : Int) ∧ s 110 (12 * k + i) = (((acc.take (i + 1)).flatten.length : Nat) : Int)
def mfr (k : Nat) (s t : kM) : Prop := (∀ z, z ≠ 85 → z ≠ 106 → z ≠ 107 → z ≠ 109 → z ≠ 110 → z ≠ 111 → t z = s z) ∧ (∀ i, i ≠ 22 → i ≠ 23 → i ≠ 26 → i ≠ 27 → i ≠ 28 → i ≠ 29 → t 85 i = s 85 i) ∧ (∀ j, j < 300 * k ∨ 300 * k + 300 ≤ j → t 106 j = s 106 j ∧ t 107 j = s 107 j) ∧ ∀ j, j < 12 * k ∨ 12 * k + 12 ≤ j → t 109 j = s 109 j ∧ t 110 j = s 110 j
theorem mfr_t {k : Nat} {s t u : kM} (h : mfr k s t) (h2 : mfr k t u) : mfr k s u := ⟨fun z a b c d e f => by rw [h2.1 z a b c d e f, h.1 z a b c d e f], fun i a b c d e f => by rw [h2.2.1 i a b c d e f, h.2.1 i a b c d e f], fun j hj => ⟨by rw [(h2.2.2.1 j hj).1, (h.2.2.1 j hj).1], by rw [(h2.2.2.1 j hj).2, (h.2.2.1 j hj).2]⟩, fun j hj => ⟨by rw [(h2.2.2.2 j hj).1, (h.2.2.2 j hj).1], by rw [(h2.2.2.2 j hj).2, (h.2.2.2 j hj).2]⟩⟩
theorem mfr_f {k : Nat} {s t : kM} (h : mft k s t) : mfr k s t := ⟨fun z a b c _ _ d => h.1 z a b c d, h.2.1, h.2.2, fun j _ => ⟨by rw [h.1 109 (by decide) (by decide) (by decide) (by decide)], by rw [h.1 110 (by decide) (by decide) (by decide) (by decide)]⟩⟩
theorem mfr_cb {k : Nat} (s : kM) {a i : Nat} (x : Int) (ha : a = 109 ∨ a = 110) (hi : 12 * k ≤ i ∧ i < 12 * k + 12) : mfr k s (gU s a i x) := by
  refine ⟨fun z _ _ _ h1 h2 _ => gU_n _ _ _ (by omega), fun j _ _ _ _ _ _ => by rw [gU_n _ _ _ (by omega)], fun j _ => ⟨by rw [gU_n _ _ _ (by omega)], by rw [gU_n _ _ _ (by omega)]⟩, fun j hj => ?_⟩
  rcases ha with h | h
  · subst h
    exact ⟨gUo _ _ _ (by omega), by rw [gU_n _ _ _ (by decide)]⟩
  · subst h
    exact ⟨by rw [gU_n _ _ _ (by decide)], gUo _ _ _ (by omega)⟩
theorem MVr_cb {T : Nat → Int} {L k : Nat} {c : List Int} {p n : Nat} {s : kM} (h : MVr T L k c p n s) {a : Nat} (ha : a = 109 ∨ a = 110) (i : Nat) (x : Int) : MVr T L k c p n (gU s a i x) := ⟨⟨h.1.1, by rw [gU_n _ _ _ (by omega)]; exact h.1.2.1, by rw [gU_n _ _ _ (by omega)]; exact h.1.2.2.1, by rw [gU_n _ _ _ (by omega)]; exact h.1.2.2.2⟩, by rw [gU_n _ _ _ (by omega)]; exact h.2.1, by rw [gU_n _ _ _ (by omega)]; exact h.2.2.1, by rw [gU_n _ _ _ (by omega)]; exact h.2.2.2.1, by rw [gU_n _ _ _ (by omega)]; exact h.2.2.2.2.1, by rw [gU_n _ _ _ (by omega)]; exact h.2.2.2.2.2.1, fun j hj => by rw [gU_n _ _ _ (by omega), gU_n _ _ _ (by omega)]; exact h.2.2.2.2.2.2 j hj⟩
theorem MEr_cb {T : Nat → Int} {L e : Nat} {s : kM} (h : MEr T L e s) {a : Nat} (ha : a = 109 ∨ a = 110) (i : Nat) (x : Int) : MEr T L e (gU s a i x) := by
  obtain ⟨⟨p, hp, a1, a2, a3, a4⟩, h2, h3, h4⟩ := h
  exact ⟨⟨p, hp, a1, by rw [gU_n _ _ _ (by omega)]; exact a2, by rw [gU_n _ _ _ (by omega)]; exact a3, by rw [gU_n _ _ _ (by omega)]; exact a4⟩, by rw [gU_n _ _ _ (by omega)]; exact h2, h3, by rw [gU_n _ _ _ (by omega)]; exact h4⟩
theorem tk_app (acc : List (List Int)) (c : List Int) {i : Nat} (hi : i ≤ acc.length) : (acc ++ [c]).take i = acc.take i := List.take_append_of_le_length hi
/-- one clause -/
theorem M_clause {T : Nat → Int} (hT : TB T) {L k : Nat} (hL : L ≤ 400) (hk : k < 6) {acc : List (List Int)} {a : Nat} (ha : acc.length = a) (ha2 : a ≤ 12) {p n : Nat} {s : kM} (hn : n ≤ 60) (hp : p ≤ L) (hc : 3 * acc.flatten.length ≤ 6 * n + p) (hX : MVr T L k acc.flatten p n s) (h27 : s 85 27 = 0) (hB : CB k acc s) : wp (f_M_ruleClause (a : Int) s) (fun t => mfr k s t ∧ res (pCl T L a p n) (fun e => MEr T L e t) (fun x => MVr T L k (acc ++ [x.1]).flatten x.2.1 x.2.2 t ∧ t 85 27 = 0 ∧ CB k (acc ++ [x.1]) t)) := by
  have hb := bl_le (T := T) hp
  have hXb := MVr_u hX (q := bl T L p) (by omega)
  have hfb : mfr k s (gU s 85 22 ((bl T L p : Nat) : Int)) := mfr_f (mft_85 k s _ (by decide))
  have hb27 : gU s 85 22 ((bl T L p : Nat) : Int) 85 27 = 0 := by rw [gUo _ _ _ (by decide)]; exact h27
  have hBb : CB k acc (gU s 85 22 ((bl T L p : Nat) : Int)) := fun i hi => by rw [gU_n _ _ _ (by decide), gU_n _ _ _ (by decide)]; exact hB i hi
  unfold f_M_ruleClause pCl
  rw [e_M_blanks hT hX.1, Option.bind_some]
  generalize bl T L p = q at *
  generalize gU s 85 22 ((q : Nat) : Int) = b at *
  have e18 : f_M_stood 18 b = some (if std T L q (kstrs.getD 3 []) = true then 1 else 0) := by rw [e_M_stood hXb.1 (by decide), std_not.2]
  rw [e18, Option.bind_some]
  by_cases hs : std T L q (kstrs.getD 3 []) = true
  · have hl : q + 3 ≤ L := std_len hb.2 hs
    rw [if_pos hs, if_neg (by decide), if_pos hs]
    by_cases h12 : a = 12
    · have ef : f_M_fails 4 ((q : Nat) : Int) b = some (gU b 85 23 ((flt q 4 : Nat) : Int)) := e_M_failX (x := 4) hXb (by decide) (by omega)
      rw [if_pos (by omega), if_pos h12, hXb.1.2.2.1, ef, Option.bind_some, wp_some]
      exact ⟨mfr_t hfb (mfr_f (mft_85 k b _ (by decide))), MVr_e hXb (by omega) (flt_0 _ _)⟩
    · have e3 : wI (b 85 22 + 3) = ((q + 3 : Nat) : Int) := by rw [hXb.1.2.2.1]; exact wI_add2 (b := 3) (by omega)
      rw [if_neg (by omega), if_neg h12, e3, gLet_eq]
      clear e3
      have hX3 := MVr_u hXb (q := q + 3) (by omega)
      have hf3 : mfr k b (gU b 85 22 ((q + 3 : Nat) : Int)) := mfr_f (mft_85 k b _ (by decide))
      have h273 : gU b 85 22 ((q + 3 : Nat) : Int) 85 27 = 0 := by rw [gUo _ _ _ (by decide)]; exact hb27
      have hB3 : CB k acc (gU b 85 22 ((q + 3 : Nat) : Int)) := fun i hi => by rw [gU_n _ _ _ (by decide), gU_n _ _ _ (by decide)]; exact hBb i hi
      generalize gU b 85 22 ((q + 3 : Nat) : Int) = v at *
      have ei : wI (wI (12 * v 85 24) + (a : Int)) = ((12 * k + a : Nat) : Int) := by
        rw [hX3.2.2.2.1, wI_id (x := 12 * (k : Int)) (by omega) (by omega), wI_id (by omega) (by omega)]
        omega
      rw [ei, gI_n (show 12 * k + a < 72 by clear ei; omega), Option.bind_some, gLet_eq, hX3.2.2.2.2.1]
      clear ei
      have hX4 := MVr_cb hX3 (a := 109) (Or.inl rfl) (12 * k + a) ((acc.flatten.length : Nat) : Int)
      have hf4 : mfr k v (gU v 109 (12 * k + a) ((acc.flatten.length : Nat) : Int)) := mfr_cb v _ (Or.inl rfl) (by omega)
      have h274 : gU v 109 (12 * k + a) ((acc.flatten.length : Nat) : Int) 85 27 = 0 := by rw [gU_n _ _ _ (by decide)]; exact h273
      have hB4 : ∀ i, i < acc.length → gU v 109 (12 * k + a) ((acc.flatten.length : Nat) : Int) 109 (12 * k + i) = v 109 (12 * k + i) ∧ gU v 109 (12 * k + a) ((acc.flatten.length : Nat) : Int) 110 = v 110 := fun i hi => ⟨gUo _ _ _ (by omega), gU_n _ _ _ (by decide)⟩
      have hB5 : gU v 109 (12 * k + a) ((acc.flatten.length : Nat) : Int) 109 (12 * k + a) = ((acc.flatten.length : Nat) : Int) := gUs _ _ _ _
      generalize gU v 109 (12 * k + a) ((acc.flatten.length : Nat) : Int) = w at *
      obtain ⟨t, g, t1, t2⟩ := M_test hT hL hk hn hl (by omega) hX4 h274
      rw [g, Option.bind_some, Option.bind_some, gLet_eq, wp_some]
      have hf6 : mfr k t (gU t 110 (12 * k + a) (t 85 26)) := mfr_cb t _ (Or.inr rfl) (by omega)
      refine ⟨mfr_t hfb (mfr_t hf3 (mfr_t hf4 (mfr_t (mfr_f t1) hf6))), ?_⟩
      cases hv : pT T L (pF T L 10) (q + 3) n with
      | inl e0 =>
        rw [hv] at t2
        exact MEr_cb t2 (Or.inr rfl) _ _
      | inr y =>
        obtain ⟨c2, p3, n3⟩ := y
        rw [hv] at t2
        obtain ⟨t3, t4⟩ := t2
        dsimp only at t3
        have hfl : (acc ++ [c2]).flatten = acc.flatten ++ c2 := by rw [List.flatten_append]; show _ ++ (c2 ++ []) = _; rw [List.append_nil]
        refine ⟨by dsimp only; rw [hfl]; exact MVr_cb t3 (Or.inr rfl) _ _, by rw [gU_n _ _ _ (by decide)]; exact t4, fun i hi => ?_⟩
        have hi' : i < acc.length + 1 := by rw [List.length_append] at hi; exact hi
        have t109 : t 109 = w 109 := t1.1 109 (by decide) (by decide) (by decide) (by decide)
        have t110 : t 110 = w 110 := t1.1 110 (by decide) (by decide) (by decide) (by decide)
        rw [gU_n _ _ _ (show 109 ≠ 110 by decide), t109]
        dsimp only
        by_cases hia : i = a
        · subst hia
          have h1 : (acc ++ [c2]).take i = acc := by rw [tk_app acc c2 (by omega), ← ha, List.take_length]
          have h2 : (acc ++ [c2]).take (i + 1) = acc ++ [c2] := List.take_of_length_le (by rw [List.length_append]; show acc.length + 1 ≤ i + 1; omega)
          rw [h1, h2, hfl, hB5, gUs, t3.2.2.2.2.1]
          exact ⟨rfl, rfl⟩
        · have h1 := hB3 i (by omega)
          have h2 := hB4 i (by omega)
          rw [tk_app acc c2 (show i ≤ acc.length by omega), tk_app acc c2 (show i + 1 ≤ acc.length by omega), gUo _ _ _ (by omega), h2.1, t110, h2.2]
          exact h1
  · have ef : f_M_fails 0 ((q : Nat) : Int) b = some (gU b 85 23 ((flt q 0 : Nat) : Int)) := e_M_failX (x := 0) hXb (by decide) (by omega)
    rw [if_neg hs, if_pos rfl, if_neg hs, hXb.1.2.2.1, ef, Option.bind_some, wp_some]
    exact ⟨mfr_t hfb (mfr_f (mft_85 k b _ (by decide))), MVr_e hXb (by omega) (flt_0 _ _)⟩
