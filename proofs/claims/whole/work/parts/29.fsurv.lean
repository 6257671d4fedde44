theorem OF_in {A : zA} {b : Nat} (hp : pb A b = true) (ho : ofA A b = true) : ins (OF A b) b = OF A (b + 1) := by
  funext m
  unfold ins OF
  by_cases h : m = b
  · subst h
    rw [hp, ho, decide_eq_true rfl, decide_eq_true (show m < m + 1 by omega)]
    simp
  · rw [decide_eq_false h, Bool.or_false]
    by_cases h2 : m < b
    · rw [decide_eq_true h2, decide_eq_true (show m < b + 1 by omega)]
    · rw [decide_eq_false h2, decide_eq_false (show ¬ m < b + 1 by omega)]
theorem OF_no {A : zA} {b : Nat} (h : ¬ (pb A b = true ∧ ofA A b = true)) : OF A (b + 1) = OF A b := by
  funext m
  unfold OF
  by_cases hm : m = b
  · subst hm
    rw [decide_eq_true (show m < m + 1 by omega), decide_eq_false (show ¬ m < m by omega), Bool.true_and, Bool.false_and, Bool.eq_false_iff]
    intro q
    rw [Bool.and_eq_true] at q
    exact h q
  · by_cases h2 : m < b
    · rw [decide_eq_true h2, decide_eq_true (show m < b + 1 by omega)]
    · rw [decide_eq_false h2, decide_eq_false (show ¬ m < b + 1 by omega)]
theorem OF_b {A : zA} {b : Nat} : ∀ n, cq (OF A b) n ≤ b := by
  intro n
  have key : ∀ n, cq (OF A b) n ≤ if n < b then n else b := by
    intro n
    induction n with
    | zero => exact Nat.zero_le _
    | succ n ih =>
      rw [cq_succ]
      by_cases h : n < b
      · rw [if_pos h] at ih
        split <;> split <;> omega
      · rw [if_neg h] at ih
        have : ¬ OF A b n = true := by
          unfold OF
          rw [decide_eq_false h, Bool.false_and]
          decide
        rw [if_neg this, if_neg (by omega)]
        omega
  have := key n
  split at this <;> omega
/-- what a survey leaves as it was -/
def frL (b : Nat) (s t : kM) : Prop := (∀ z, z ≠ b → z ≠ b + 1 → z ≠ b + 2 → z ≠ b + 3 → t z = s z)
theorem frL_t {b : Nat} {s t u : kM} (h1 : frL b s t) (h2 : frL b t u) : frL b s u := fun z z1 z2 z3 z4 => by rw [h2 z z1 z2 z3 z4, h1 z z1 z2 z3 z4]
theorem frL_K {b b1 : Nat} (hd : b1 + 5 < b ∨ b + 3 < b1) {A : zA} {s t : kM} (hK : KT b1 A s) (h : frL b s t) : KT b1 A t := KT_c hK (fun i hi => h _ (by omega) (by omega) (by omega) (by omega))
theorem wp_lookRound {b b1 : Nat} (hd : b1 + 5 < b ∨ b + 3 < b1) {A : zA} (hA : okA A) {s : kM} (hK : KT b1 A s) {k : Nat} (hk : k < 11) (hp : pb A k = true) (hT : TN A k (s (b + 3))) (hL : KLs b (OF A k) (fun _ => 0) s) : wp (f_Land_lookRound b b1 k s) (fun t => frL b s t ∧ (∀ i, i ≠ 6 → t b i = s b i) ∧ TN A (k + 1) (t (b + 3)) ∧ KLs b (OF A (k + 1)) (fun _ => 0) t) := by
  have hn := okB_n hA.1
  obtain ⟨h1, h2, h3, h4⟩ := oA_lt hA hp
  have hh := ah_1 hA hp
  have L := fun k => en_lt hA.1 (k := k) h2
  have L2 := fun k => en_lt hA.1 (k := k) h4
  have c1 : en A (oA A k) 0 < 44 := by have := L 0; omega
  have c2 : en A (oA A k) 1 < 44 := by have := L 1; omega
  have c3 : en A (uA A k) 0 < 44 := by have := L2 0; omega
  have c4 : en A (uA A k) 1 < 44 := by have := L2 1; omega
  have p1 := pv_lt hA.1 h2
  have p2 := pv_lt hA.1 h4
  have e3 : s (b1 + 4) (oA A k) = ((pv (aF A) (aN A) (oA A k) : Nat) : Int) := hK.2.2.2.2 _ h2
  have e4 : s (b1 + 4) (uA A k) = ((pv (aF A) (aN A) (uA A k) : Nat) : Int) := hK.2.2.2.2 _ h4
  have e2 : s (b1 + 2) k = ((ah A k : Nat) : Int) := hK.1.2.2.2.2 k (pb_iff.mp hp)
  have st := TN_step hA hp hT
  have io : gI 22 ((oA A k : Nat) : Int) = some (oA A k) := gI_n (by omega)
  have iu : gI 22 ((uA A k : Nat) : Int) = some (uA A k) := gI_n (by omega)
  have cap := OF_b (A := A) (b := k) 1463
  have n1 : b ≠ b + 3 := by omega
  have n2 : b + 1 ≠ b + 3 := by omega
  have n3 : b + 2 ≠ b + 3 := by omega
  have n4 : b + 3 ≠ b := by omega
  have n5 : b + 3 ≠ b + 1 := by omega
  have n6 : b + 3 ≠ b + 2 := by omega
  -- behind the four writes
  have key : ∀ q : Nat, q < 44 → ∀ r : Nat, r < 44 → (q = en A (uA A k) ((ah A k + 1) % 2)) → (r = en A (uA A k) (ah A k % 2)) → wp (f_Land_lookRound_51 b b1 k ((oA A k : Nat) : Int) ((uA A k : Nat) : Int) ((en A (oA A k) 1 : Nat) : Int) (q : Int) (r : Int) s) (fun t => frL b s t ∧ (∀ i, i ≠ 6 → t b i = s b i) ∧ TN A (k + 1) (t (b + 3)) ∧ KLs b (OF A (k + 1)) (fun _ => 0) t) := by
    intro q hq r hr hq2 hr2
    unfold f_Land_lookRound_51
    rw [(en_w hA.1 h2).1, gI_n c1, Option.bind_some, gLet_eq, gI_n hq, Option.bind_some, gLet_eq, gI_n c2, Option.bind_some, gLet_eq, gI_n hr, Option.bind_some, gLet_eq, io, Option.bind_some, iu, Option.bind_some]
    obtain ⟨G, hG⟩ : ∃ G, G = gU (gU (gU (gU s (b + 3) (en A (oA A k) 0) (q : Int)) (b + 3) q ((en A (oA A k) 1 : Nat) : Int)) (b + 3) (en A (oA A k) 1) (r : Int)) (b + 3) r ((en A (oA A k) 0 : Nat) : Int) := ⟨_, rfl⟩
    rw [← hG]
    have G1 : ∀ z, z ≠ b + 3 → G z = s z := fun z hz => by rw [hG, gU_n _ _ _ hz, gU_n _ _ _ hz, gU_n _ _ _ hz, gU_n _ _ _ hz]
    have G2 : G (b + 3) = tw (en A (oA A k) 0) (en A (uA A k) ((ah A k + 1) % 2)) (en A (oA A k) 1) (en A (uA A k) (ah A k % 2)) (s (b + 3)) := by
      rw [hG, gU_s, gU_s, gU_s, gU_s, ← hq2, ← hr2]
      rfl
    clear hG
    have hf : frL b s G := fun z z1 z2 z3 z4 => G1 z z4
    have hTG : TN A (k + 1) (G (b + 3)) := by rw [G2]; exact st
    have hLG : KLs b (OF A k) (fun _ => 0) G := KLs_c hL (by rw [G1 b n1]) (G1 _ n2) (G1 _ n3)
    have hKG := frL_K hd hK hf
    have x1 : G (b1 + 3) (oA A k) = ((nx (aF A) (aN A) (oA A k) : Nat) : Int) := hKG.2.2.2.1 _ h2
    have x2 : G (b1 + 3) (uA A k) = ((nx (aF A) (aN A) (uA A k) : Nat) : Int) := hKG.2.2.2.1 _ h4
    have yes : ofA A k = true → wp (f_Land_lookRound_88 b b1 k G) (fun t => frL b s t ∧ (∀ i, i ≠ 6 → t b i = s b i) ∧ TN A (k + 1) (t (b + 3)) ∧ KLs b (OF A (k + 1)) (fun _ => 0) t) := by
      intro ho
      unfold f_Land_lookRound_88
      obtain ⟨u, f1, u1, u2, u3⟩ := wp_list hLG (m0 := k) (e := 0) (by omega) (by omega)
      rw [show ((0 : Nat) : Int) = 0 from rfl] at f1
      rw [e_offKey hk, Option.bind_some, f1, Option.bind_some, wp_some]
      rw [OF_in hp ho] at u1
      have est : (fun m => if OF A k k = true then 0 else if m = k then 0 else 0) = (fun _ : Nat => 0) := by
        funext m
        split
        · rfl
        · split <;> rfl
      refine ⟨fun z z1 z2 z3 z4 => by rw [u2 z z1 z2 z3, G1 z z4], fun i hi => by rw [u3 i hi, G1 b n1], by rw [u2 _ n4 n5 n6]; exact hTG, ?_⟩
      rw [est] at u1
      exact u1
    rw [x1, x2]
    by_cases o1 : nx (aF A) (aN A) (oA A k) = uA A k
    · rw [if_pos (by omega)]
      exact yes (decide_eq_true (Or.inl o1))
    · rw [if_neg (by omega)]
      by_cases o2 : nx (aF A) (aN A) (uA A k) = oA A k
      · rw [if_pos (by omega)]
        exact yes (decide_eq_true (Or.inr o2))
      · rw [if_neg (by omega), wp_some]
        refine ⟨hf, fun i hi => by rw [G1 b n1], hTG, ?_⟩
        rw [OF_no (fun q => by
          rcases of_decide_eq_true q.2 with z | z
          · exact o1 z
          · exact o2 z)]
        exact hLG
  unfold f_Land_lookRound
  rw [e_overAt hK hk, Option.bind_some, e_underAt hK hk, Option.bind_some, h1, h3, io, Option.bind_some, iu, Option.bind_some, gI_n hk, Option.bind_some, e2, e3, e4, (en_w hA.1 h2).2, (en_w hA.1 h4).2]
  have h01 : ah A k = 0 ∨ ah A k = 1 := by omega
  unfold f_Land_lookRound_35 f_Land_lookRound_43
  rw [(en_w hA.1 h4).1]
  rcases h01 with h0 | h0
  · rw [if_neg (by omega), if_pos rfl, if_pos rfl]
    exact key _ c4 _ c3 (by rw [h0]) (by rw [h0])
  · rw [if_pos (by omega), if_neg (by decide), if_neg (by decide)]
    exact key _ c3 _ c4 (by rw [h0]) (by rw [h0])
theorem or5 {a b : Nat} (ha : a ≤ 2) (hb : b ≤ 2) : kor (kshl 1 (a : Int)) (kshl 1 (b : Int)) = ((2 ^ a ||| 2 ^ b : Nat) : Int) := by
  have h1 : 2 ^ a ≤ 2 ^ 2 := Nat.pow_le_pow_right (by decide) ha
  have h2 : 2 ^ b ≤ 2 ^ 2 := Nat.pow_le_pow_right (by decide) hb
  rw [kone (by omega), kone (by omega), kor_n (by omega) (by omega)]
theorem or7 {a b c : Nat} (ha : a ≤ 2) (hb : b ≤ 2) (hc : c ≤ 2) : kor (kor (kshl 1 (a : Int)) (kshl 1 (b : Int))) (kshl 1 (c : Int)) = ((2 ^ a ||| 2 ^ b ||| 2 ^ c : Nat) : Int) := by
  have h1 : 2 ^ a < 2 ^ 3 := Nat.pow_lt_pow_right (by decide) (by omega)
  have h2 : 2 ^ b < 2 ^ 3 := Nat.pow_lt_pow_right (by decide) (by omega)
  have h3 : 2 ^ c < 2 ^ 3 := Nat.pow_lt_pow_right (by decide) (by omega)
  have h4 := Nat.or_lt_two_pow h1 h2
  rw [or5 ha hb, kone (by omega), kor_n (by omega) (by omega)]
/-- what the list may become at one piece of land -/
def lst (b : Nat) (P : Nat → Bool) (st : Nat → Nat) (m0 e : Nat) (c : Bool) (s u : kM) : Prop := KLs b (if c = true then ins P m0 else P) (fun m => if c = true then (if P m0 = true then st m else if m = m0 then e else st m) else st m) u ∧ (∀ z, z ≠ b → z ≠ b + 1 → z ≠ b + 2 → u z = s z) ∧ ∀ i, i ≠ 6 → u b i = s b i
theorem wp_listApart {b b1 : Nat} {A : zA} (hA : okA A) {s : kM} (hK : KT b1 A s) (hT : TN A 11 (s (b + 3))) {P : Nat → Bool} {st : Nat → Nat} (hL : KLs b P st s) (h48 : cq P 1463 < 48) {e : Nat} (he : e < 2 * aN A) (h2 : sz A e = 2) : wp (f_Land_listApart b b1 e s) (fun u => lst b P st (aM A e) e (cA A e) s u) := by
  have hn := okB_n hA.1
  have hx := xo_lt he
  have hs := sgm_lt hA he
  have b1' := bre_lt hA.1 he
  have b2' := bre_lt hA.1 hx
  have ex : kxor (e : Int) 1 = ((xo e : Nat) : Int) := by
    rw [show (1 : Int) = ((1 : Nat) : Int) from rfl, kxor_n (by omega) (by decide), xo_xor (by omega)]
  unfold f_Land_listApart
  rw [e_bridgeAtEnd hA hK he, Option.bind_some, ex, e_bridgeAtEnd hA hK hx, Option.bind_some, e_timesOver hA hK he, Option.bind_some, e_stepFrom hA hT he, Option.bind_some, e_timesOver hA hK hs, Option.bind_some, or5 (hgt_le _ _) (hgt_le _ _)]
  have no : ¬ cA A e = true → wp (some s) (fun u => lst b P st (aM A e) e (cA A e) s u) := by
    intro hc
    rw [wp_some]
    unfold lst
    simp only [if_neg hc]
    exact ⟨hL, by simp, by simp⟩
  by_cases c1 : bre A e = bre A (xo e)
  · rw [if_pos (by omega)]
    exact no (fun q => (of_decide_eq_true q).2.1 c1)
  · rw [if_neg (by omega)]
    by_cases c2 : 2 ^ hgt A (e / 2) ||| 2 ^ hgt A (sgm A e / 2) = 5
    · have hc : cA A e = true := decide_eq_true ⟨h2, c1, c2⟩
      obtain ⟨u, f1, u1, u2, u3⟩ := wp_list hL h48 (m0 := aM A e) (e := e) (mA_lt b1' b2')
      have f1' : f_Land_list b ((ky (mA (bre A e) (bre A (xo e))) : Nat) : Int) e s = some u := f1
      rw [if_pos (by rw [c2]; rfl), e_apartKey b1' b2', Option.bind_some, f1', Option.bind_some, wp_some]
      unfold lst
      simp only [if_pos hc]
      exact ⟨u1, u2, u3⟩
    · rw [if_neg (by omega)]
      exact no (fun q => c2 (of_decide_eq_true q).2.2)
theorem wp_listSlide {b b1 : Nat} {A : zA} (hA : okA A) {s : kM} (hK : KT b1 A s) (hT : TN A 11 (s (b + 3))) {P : Nat → Bool} {st : Nat → Nat} (hL : KLs b P st s) (h48 : cq P 1463 < 48) {e : Nat} (he : e < 2 * aN A) (h2 : sz A e = 3) : wp (f_Land_listSlide b b1 e s) (fun u => lst b P st (sM A e) e (cS A e) s u) := by
  have hn := okB_n hA.1
  have hs := sgm_lt hA he
  have hs2 := sgm_lt hA hs
  have b1' := bre_lt hA.1 he
  have b2' := bre_lt hA.1 hs
  have b3' := bre_lt hA.1 hs2
  unfold f_Land_listSlide
  rw [e_stepFrom hA hT he, Option.bind_some, e_stepFrom hA hT hs, Option.bind_some, e_bridgeAtEnd hA hK he, Option.bind_some, e_bridgeAtEnd hA hK hs, Option.bind_some, e_bridgeAtEnd hA hK hs2, Option.bind_some, e_timesOver hA hK he, Option.bind_some, e_timesOver hA hK hs, Option.bind_some, e_timesOver hA hK hs2, Option.bind_some, or7 (hgt_le _ _) (hgt_le _ _) (hgt_le _ _)]
  have no : ¬ cS A e = true → wp (some s) (fun u => lst b P st (sM A e) e (cS A e) s u) := by
    intro hc
    rw [wp_some]
    unfold lst
    simp only [if_neg hc]
    exact ⟨hL, by simp, by simp⟩
  by_cases c1 : bre A e = bre A (sgm A e)
  · rw [if_pos (by omega)]
    exact no (fun q => (of_decide_eq_true q).2.1 c1)
  · rw [if_neg (by omega)]
    by_cases c3 : bre A (sgm A e) = bre A (sgm A (sgm A e))
    · rw [if_pos (by omega)]
      exact no (fun q => (of_decide_eq_true q).2.2.1 c3)
    · rw [if_neg (by omega)]
      by_cases c4 : bre A e = bre A (sgm A (sgm A e))
      · rw [if_pos (by omega)]
        exact no (fun q => (of_decide_eq_true q).2.2.2.1 c4)
      · rw [if_neg (by omega)]
        by_cases c2 : 2 ^ hgt A (e / 2) ||| 2 ^ hgt A (sgm A e / 2) ||| 2 ^ hgt A (sgm A (sgm A e) / 2) = 7
        · have hc : cS A e = true := decide_eq_true ⟨h2, c1, c3, c4, c2⟩
          obtain ⟨u, f1, u1, u2, u3⟩ := wp_list hL h48 (m0 := sM A e) (e := e) (mS_lt b1' b2' b3')
          have f1' : f_Land_list b ((ky (mS (bre A e) (bre A (sgm A e)) (bre A (sgm A (sgm A e)))) : Nat) : Int) e s = some u := f1
          rw [if_pos (by rw [c2]; rfl), e_slideKey b1' b2' b3', Option.bind_some, f1', Option.bind_some, wp_some]
          unfold lst
          simp only [if_pos hc]
          exact ⟨u1, u2, u3⟩
        · rw [if_neg (by omega)]
          exact no (fun q => c2 (of_decide_eq_true q).2.2.2.2)
/-- the most ends of a piece of land; how many have k -/
def mxs (A : zA) (l : List Nat) : Nat := l.foldl (fun m e => ma m (sz A e)) 0
def czs (A : zA) (k : Nat) (l : List Nat) : Nat := l.countP (fun e => decide (sz A e = k))
theorem mxs_a (A : zA) (l : List Nat) (e : Nat) : mxs A (l ++ [e]) = ma (mxs A l) (sz A e) := by unfold mxs; rw [List.foldl_append]; rfl
theorem czs_a (A : zA) (k : Nat) (l : List Nat) (e : Nat) : czs A k (l ++ [e]) = czs A k l + if sz A e = k then 1 else 0 := by
  unfold czs
  rw [List.countP_append]
  congr 1
  by_cases h : sz A e = k
  · simp [h]
  · simp [h]
theorem czs_le (A : zA) (k : Nat) (l : List Nat) : czs A k l ≤ l.length := List.countP_le_length
/-- the survey's outcome -/
def srv (b : Nat) (A : zA) (e : Nat) (s t : kM) : Prop := frL b s t ∧ t b 0 = ((FL A e).length : Int) ∧ t b 1 = ((mxs A (FL A e) : Nat) : Int) ∧ t b 2 = ((czs A 2 (FL A e) : Nat) : Int) ∧ t b 3 = ((czs A 3 (FL A e) : Nat) : Int) ∧ TN A 11 (t (b + 3)) ∧ KLs b (PK A e) (SK A e) t
theorem wp_survey {b b1 : Nat} (hd : b1 + 5 < b ∨ b + 3 < b1) {A : zA} (hA : okA A) {s : kM} (hK : KT b1 A s) : wp (f_Land_survey b b1 s) (fun t => srv b A (2 * aN A) s t) := by
  have hn := okB_n hA.1
  have n1 : b ≠ b + 3 := by omega
  have n1' : b + 1 ≠ b := by omega
  have n2' : b + 2 ≠ b := by omega
  have n4 : b + 3 ≠ b := by omega
  have n5 : b + 3 ≠ b + 1 := by omega
  have n6 : b + 3 ≠ b + 2 := by omega
  unfold f_Land_survey
  rw [gLet_eq, gLet_eq, gLet_eq, gLet_eq, gLet_eq]
  obtain ⟨G, hG⟩ : ∃ G, G = gU (gU (gU (gU (gU s b 0 0) b 1 0) b 2 0) b 3 0) b 6 0 := ⟨_, rfl⟩
  rw [← hG]
  have G1 : ∀ z, z ≠ b → G z = s z := fun z hz => by rw [hG, gU_n _ _ _ hz, gU_n _ _ _ hz, gU_n _ _ _ hz, gU_n _ _ _ hz, gU_n _ _ _ hz]
  have G2 : G b 0 = 0 ∧ G b 1 = 0 ∧ G b 2 = 0 ∧ G b 3 = 0 ∧ G b 6 = 0 := by
    rw [hG]
    simp [gU_s, kup]
  clear hG
  unfold f_Land_survey_17
  refine wp_for 11 (fun k x => x.1 = (k : Int) ∧ frL b s x.2 ∧ (∀ i, i ≠ 6 → x.2 b i = G b i) ∧ TN A k (x.2 (b + 3)) ∧ KLs b (OF A k) (fun _ => 0) x.2) 0 _ (by omega) (by omega) ?_ ?_ ?_
  · refine ⟨rfl, fun z z1 z2 z3 z4 => G1 z z1, fun _ _ => rfl, fun e _ h => by omega, ?_, fun m _ h => ?_⟩
    · have : cq (OF A 0) 1463 = 0 := by have := OF_b (A := A) (b := 0) 1463; omega
      rw [this]
      exact G2.2.2.2.2
    · unfold OF at h
      rw [decide_eq_false (by omega), Bool.false_and] at h
      cases h
  · rintro k ⟨y, w⟩ _ hk ⟨rfl, q1, q2, q3, q4⟩
    dsimp only at q1 q2 q3 q4
    have hKw := frL_K hd hK q1
    dsimp only
    unfold f_Land_survey_17b
    rw [if_neg (show ¬ (11 : Int) ≤ (k : Int) by omega), e_has hA hKw, Option.bind_some, Int.toNat_natCast]
    by_cases hp : pb A k = true
    · obtain ⟨u, f1, u1, u2, u3, u4⟩ := wp_lookRound hd hA hKw hk hp q3 q4
      rw [if_pos (show 0 ≤ (k : Int) ∧ (k : Int) < 11 ∧ pb A k = true from ⟨by omega, by omega, hp⟩), if_neg (show ¬ (1 : Int) = 0 by decide), f1, Option.bind_some]
      unfold f_Land_survey_28
      rw [wp_some, gE_l]
      dsimp only
      rw [wI_s (by omega)]
      exact ⟨rfl, frL_t q1 u1, fun i hi => by rw [u2 i hi, q2 i hi], u3, u4⟩
    · rw [if_neg (show ¬ (0 ≤ (k : Int) ∧ (k : Int) < 11 ∧ pb A k = true) from fun q => hp q.2.2), if_pos rfl]
      unfold f_Land_survey_28
      rw [wp_some, gE_l]
      dsimp only
      rw [wI_s (by omega)]
      refine ⟨rfl, q1, q2, TN_no hA hp q3, ?_⟩
      rw [OF_no (fun q => hp q.1)]
      exact q4
  · rintro ⟨y, g⟩ ⟨rfl, q1, q2, q3, q4⟩
    dsimp only at q1 q2 q3 q4
    dsimp only
    unfold f_Land_survey_17b
    rw [if_pos (show (11 : Int) ≤ ((11 : Nat) : Int) by decide), wp_map]
    have h0 : g b 0 = 0 ∧ g b 1 = 0 ∧ g b 2 = 0 ∧ g b 3 = 0 := ⟨by rw [q2 _ (by decide)]; exact G2.1, by rw [q2 _ (by decide)]; exact G2.2.1, by rw [q2 _ (by decide)]; exact G2.2.2.1, by rw [q2 _ (by decide)]; exact G2.2.2.2.1⟩
    unfold f_Land_survey_34
    refine wp_for (2 * aN A) (fun e x => x.1 = ((SS A e : Nat) : Int) ∧ x.2.1 = (e : Int) ∧ srv b A e s x.2.2) 0 _ (by omega) (by omega) (by exact ⟨rfl, rfl, q1, h0.1, h0.2.1, h0.2.2.1, h0.2.2.2, q3, q4⟩) ?_ ?_
    · rintro e ⟨y1, y2, w⟩ _ he ⟨rfl, rfl, p1, p2, p3, p4, p5, p6, p7⟩
      dsimp only at p1 p2 p3 p4 p5 p6 p7
      have hKw := frL_K hd hK p1
      have hw2 : wI (2 * ((aN A : Nat) : Int)) = ((2 * aN A : Nat) : Int) := by rw [wI_id (by omega) (by omega)]; omega
      have w2 : w b1 2 = ((aN A : Nat) : Int) := hKw.1.2.2.1
      have hSl := (SS_ok hA e (by omega)).2
      have hp44 : 2 ^ (2 * aN A) ≤ 2 ^ 44 := Nat.pow_le_pow_right (by decide) (by omega)
      have hlen := FL_len A e
      dsimp only
      unfold f_Land_survey_34b
      rw [w2, hw2, if_neg (show ¬ ((2 * aN A : Nat) : Int) ≤ (e : Int) by omega), klbit (by omega) (by omega)]
      clear hw2
      by_cases hb : (SS A e).testBit e = true
      · rw [if_pos hb, if_neg (by decide)]
        unfold f_Land_survey_98
        rw [wp_some, gE_l]
        dsimp only
        rw [wI_s (by omega), SS_s, if_pos hb]
        refine ⟨rfl, rfl, ?_⟩
        unfold srv
        simp only [FL_s, PK_s, SK_s, if_pos hb]
        exact ⟨p1, p2, p3, p4, p5, p6, p7⟩
      · obtain ⟨h1, h2, h3, h4, h5⟩ := orb_all hA he
        have hol : orb A e < 2 ^ (2 * aN A) := by rw [h4]; exact pz_lt hA he _
        have eFL : FL A (e + 1) = FL A e ++ [e] := by rw [FL_s, if_neg hb]
        have eSS : SS A (e + 1) = SS A e ||| orb A e := by rw [SS_s, if_neg hb]
        have ePK : PK A (e + 1) = if cA A e = true then ins (PK A e) (aM A e) else if cS A e = true then ins (PK A e) (sM A e) else PK A e := by rw [PK_s, if_neg hb]
        have eSK : SK A (e + 1) = fun m => if cA A e = true then (if PK A e (aM A e) = true then SK A e m else if m = aM A e then e else SK A e m) else if cS A e = true then (if PK A e (sM A e) = true then SK A e m else if m = sM A e then e else SK A e m) else SK A e m := by
          rw [SK_s]
          simp only [if_neg hb]
        have m1 : mxs A (FL A (e + 1)) = ma (mxs A (FL A e)) (sz A e) := by rw [eFL, mxs_a]
        have m2 : czs A 2 (FL A (e + 1)) = czs A 2 (FL A e) + if sz A e = 2 then 1 else 0 := by rw [eFL, czs_a]
        have m3 : czs A 3 (FL A (e + 1)) = czs A 3 (FL A e) + if sz A e = 3 then 1 else 0 := by rw [eFL, czs_a]
        have l1 : (FL A (e + 1)).length = (FL A e).length + 1 := by rw [eFL, List.length_append, List.length_singleton]
        have z2 := czs_le A 2 (FL A e)
        have z3 := czs_le A 3 (FL A e)
        have ebc : f_Long_bitCount ((orb A e : Nat) : Int) w = some ((sz A e : Nat) : Int) := e_lbits (by omega) w
        rw [if_neg hb, if_pos rfl, e_roundFrom hA p6 he, Option.bind_some, ebc, Option.bind_some, p2, wI_s (by omega), gLet_eq, gUo _ _ _ (show 1 ≠ 0 by decide), p3, e_max, Option.bind_some, gLet_eq, klor_n (by omega) (by omega)]
        obtain ⟨H, hH⟩ : ∃ H, H = gU (gU w b 0 (((FL A e).length + 1 : Nat) : Int)) b 1 ((ma (mxs A (FL A e)) (sz A e) : Nat) : Int) := ⟨_, rfl⟩
        rw [← hH]
        have H1 : ∀ z, z ≠ b → H z = w z := fun z hz => by rw [hH, gU_n _ _ _ hz, gU_n _ _ _ hz]
        have H2 : H b 0 = (((FL A e).length + 1 : Nat) : Int) ∧ H b 1 = ((ma (mxs A (FL A e)) (sz A e) : Nat) : Int) ∧ H b 2 = w b 2 ∧ H b 3 = w b 3 ∧ H b 6 = w b 6 := by
          rw [hH]
          simp [gU_s, kup]
        clear hH
        -- the last step
        have fin : ∀ u : kM, (∀ z, z ≠ b → z ≠ b + 1 → z ≠ b + 2 → u z = w z) → u b 0 = (((FL A e).length + 1 : Nat) : Int) → u b 1 = ((ma (mxs A (FL A e)) (sz A e) : Nat) : Int) → u b 2 = ((czs A 2 (FL A (e + 1)) : Nat) : Int) → u b 3 = ((czs A 3 (FL A (e + 1)) : Nat) : Int) → KLs b (PK A (e + 1)) (SK A (e + 1)) u → wp (f_Land_survey_98 b b1 ((SS A e ||| orb A e : Nat) : Int) e u) (gE (fun x => x.1 = ((SS A (e + 1) : Nat) : Int) ∧ x.2.1 = ((e + 1 : Nat) : Int) ∧ srv b A (e + 1) s x.2.2) (gE (fun _ : Int × kM => False) (fun t => srv b A (2 * aN A) s t) ∘ Sum.inr)) := by
          intro u u1 u2 u3 u4 u5 u6
          unfold f_Land_survey_98
          rw [wp_some, gE_l]
          dsimp only
          rw [wI_s (by omega), eSS]
          refine ⟨rfl, rfl, fun z y1 y2 y3 y4 => by rw [u1 z y1 y2 y3]; exact p1 z y1 y2 y3 y4, by rw [u2, l1], by rw [u3, m1], u4, u5, by rw [u1 _ n4 n5 n6]; exact p6, u6⟩
        by_cases s2 : sz A e = 2
        · obtain ⟨J, hJ⟩ : ∃ J, J = gU H b 2 (((czs A 2 (FL A e) + 1 : Nat) : Int)) := ⟨_, rfl⟩
          have J1 : ∀ z, z ≠ b → J z = w z := fun z hz => by rw [hJ, gU_n _ _ _ hz, H1 z hz]
          have J2 : J b 0 = H b 0 ∧ J b 1 = H b 1 ∧ J b 2 = ((czs A 2 (FL A e) + 1 : Nat) : Int) ∧ J b 3 = H b 3 ∧ J b 6 = H b 6 := by
            rw [hJ]
            simp [gU_s, kup]
          have hLJ : KLs b (PK A e) (SK A e) J := KLs_c p7 (by rw [J2.2.2.2.2, H2.2.2.2.2]) (J1 _ n1') (J1 _ n2')
          obtain ⟨u, f1, u1, u2, u3⟩ := wp_listApart hA (KT_c hKw (fun i hi => J1 _ (by omega))) (by rw [J1 _ n4]; exact p6) hLJ (PK_48 hA (by omega)) he s2
          rw [if_pos (by omega), H2.2.2.1, p4, wI_s (by omega), gLet_eq, ← hJ, f1, Option.bind_some]
          clear hJ
          refine (fin u (fun z x1 x2 x3 => by rw [u2 z x1 x2 x3, J1 z x1]) (by rw [u3 _ (by decide), J2.1, H2.1]) (by rw [u3 _ (by decide), J2.2.1, H2.2.1]) (by rw [u3 _ (by decide), J2.2.2.1, m2, if_pos s2]) (by rw [u3 _ (by decide), J2.2.2.2.1, H2.2.2.2.1, p5, m3, if_neg (by omega)]; rfl) ?_).mono (fun a ha => ?_)
          · rw [ePK, eSK]
            have c3 : ¬ cS A e = true := fun q => by have := (of_decide_eq_true q).1; omega
            simp only [if_neg c3]
            exact u1
          · cases a with
            | inl a => exact ha
            | inr a => exact ha
        · rw [if_neg (by omega)]
          have c2 : ¬ cA A e = true := fun q => s2 (of_decide_eq_true q).1
          by_cases s3 : sz A e = 3
          · obtain ⟨J, hJ⟩ : ∃ J, J = gU H b 3 (((czs A 3 (FL A e) + 1 : Nat) : Int)) := ⟨_, rfl⟩
            have J1 : ∀ z, z ≠ b → J z = w z := fun z hz => by rw [hJ, gU_n _ _ _ hz, H1 z hz]
            have J2 : J b 0 = H b 0 ∧ J b 1 = H b 1 ∧ J b 3 = ((czs A 3 (FL A e) + 1 : Nat) : Int) ∧ J b 2 = H b 2 ∧ J b 6 = H b 6 := by
              rw [hJ]
              simp [gU_s, kup]
            have hLJ : KLs b (PK A e) (SK A e) J := KLs_c p7 (by rw [J2.2.2.2.2, H2.2.2.2.2]) (J1 _ n1') (J1 _ n2')
            obtain ⟨u, f1, u1, u2, u3⟩ := wp_listSlide hA (KT_c hKw (fun i hi => J1 _ (by omega))) (by rw [J1 _ n4]; exact p6) hLJ (PK_48 hA (by omega)) he s3
            rw [if_pos (by omega), H2.2.2.2.1, p5, wI_s (by omega), gLet_eq, ← hJ, f1, Option.bind_some]
            clear hJ
            refine (fin u (fun z x1 x2 x3 => by rw [u2 z x1 x2 x3, J1 z x1]) (by rw [u3 _ (by decide), J2.1, H2.1]) (by rw [u3 _ (by decide), J2.2.1, H2.2.1]) (by rw [u3 _ (by decide), J2.2.2.2.1, H2.2.2.1, p4, m2, if_neg s2]; rfl) (by rw [u3 _ (by decide), J2.2.2.1, m3, if_pos s3]) ?_).mono (fun a ha => ?_)
            · rw [ePK, eSK]
              simp only [if_neg c2]
              exact u1
            · cases a with
              | inl a => exact ha
              | inr a => exact ha
          · have c3 : ¬ cS A e = true := fun q => s3 (of_decide_eq_true q).1
            rw [if_neg (by omega)]
            refine (fin H (fun z x1 x2 x3 => H1 z x1) H2.1 H2.2.1 (by rw [H2.2.2.1, p4, m2, if_neg s2]; rfl) (by rw [H2.2.2.2.1, p5, m3, if_neg s3]; rfl) ?_).mono (fun a ha => ?_)
            · rw [ePK, eSK]
              simp only [if_neg c2, if_neg c3]
              exact KLs_c p7 (by rw [H2.2.2.2.2]) (H1 _ n1') (H1 _ n2')
            · cases a with
              | inl a => exact ha
              | inr a => exact ha
    · rintro ⟨y1, y2, w⟩ ⟨rfl, rfl, hs⟩
      dsimp only at hs
      have hKw := frL_K hd hK hs.1
      have w2 : w b1 2 = ((aN A : Nat) : Int) := hKw.1.2.2.1
      have hw2 : wI (2 * ((aN A : Nat) : Int)) = ((2 * aN A : Nat) : Int) := by rw [wI_id (by omega) (by omega)]; omega
      dsimp only
      unfold f_Land_survey_34b
      rw [w2, hw2, if_pos (Int.le_refl _), wp_some, gE_r]
      exact hs
