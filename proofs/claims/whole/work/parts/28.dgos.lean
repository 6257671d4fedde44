theorem itn_end {E : (Nat → Int) → Bool} (h8 : Eok E) {A : zA} (hA : okA A) {S m : Nat} (h : md E A (m + 1) (itn E A S m) = 2 ^ aN A - 1 ∨ (md E A (m + 1) (itn E A S m) = itn E A S m ∧ Etm E)) : ∀ d, itn E A S (m + 1 + d) = itn E A S (m + 1) := by
  apply itn_fix
  intro k
  rcases h with h | ⟨h1, h2⟩
  · rw [itn_s, h]
    exact md_full hA k
  · rw [itn_s, h1]
    have : md E A k (itn E A S m) = md E A (m + 1) (itn E A S m) := mdq_m h2 h8 A k (m + 1) _ _
    rw [this, h1]
theorem wp_spread {E : (Nat → Int) → Bool} (h8 : Eok E) {e : Int} {A : zA} (hA : okA A) {s : kM} (hE : KE E e s) (hT : ¬ tmd e s → Etm E) (hK : KT 4 A s) {q n : Nat} (hq : q < aN A) (hn60 : n ≤ 60) : wp (f_Gossip_spread 4 e q n s) (fun r => r.1 = ((itn E A (2 ^ q) n : Nat) : Int) ∧ ∀ z, z ≠ 51 → z ≠ 52 → z ≠ 53 → r.2 z = s z) := by
  have hn := okB_n hA.1
  have hS : 2 ^ q < 2 ^ aN A := Nat.pow_lt_pow_right (by decide) hq
  obtain ⟨t, e1, t1, t2, t3⟩ := wp_gbegin hA hK hq
  unfold f_Gossip_spread
  rw [e1, Option.bind_some]
  unfold f_Gossip_spread_6
  refine wp_for (n + 1) (fun k x => x.1 = (k : Int) ∧ x.2 51 2 = ((itn E A (2 ^ q) (k - 1) : Nat) : Int) ∧ x.2 52 7 = ((aN A / 2 : Nat) : Int) ∧ ∀ z, z ≠ 51 → z ≠ 52 → z ≠ 53 → x.2 z = s z) 1 _ (by omega) (by omega) (by exact ⟨rfl, t1, t2, fun z z1 z2 _ => t3 z z1 z2⟩) ?_ ?_
  · rintro k ⟨y, w⟩ hk1 hk2 ⟨rfl, q1, q2, q3⟩
    dsimp only at q1 q2 q3
    obtain ⟨m, rfl⟩ : ∃ m, k = m + 1 := ⟨k - 1, by omega⟩
    rw [Nat.add_sub_cancel] at q1
    have hKw : KT 4 A w := KT_c hK (fun i hi => q3 _ (by omega) (by omega) (by omega))
    have hwt : tmd e w → tmd e s := fun z => ⟨z.1, by rw [← q3 _ (by omega) (by omega) (by omega)]; exact z.2⟩
    have hst : tmd e s → tmd e w := fun z => ⟨z.1, by rw [q3 _ (by omega) (by omega) (by omega)]; exact z.2⟩
    obtain ⟨⟨r, u⟩, f1, ⟨u1, u2, u3⟩, u4, u5⟩ := wp_passOn h8 hA (KE_c hE q3) hKw (m := m + 1) (itn_lt hA hS m) q1 q2
    dsimp only at u1 u2 u3 u4 u5
    have u6 : u 51 2 = ((itn E A (2 ^ q) (m + 1) : Nat) : Int) := u1
    have fr : ∀ z, z ≠ 51 → z ≠ 52 → z ≠ 53 → u z = s z := fun z z1 z2 z3 => by rw [u3 z z1 z2 z3, q3 z z1 z2 z3]
    dsimp only
    unfold f_Gossip_spread_6b
    rw [if_neg (show ¬ (n : Int) < ((m + 1 : Nat) : Int) by omega), f1, Option.bind_some]
    dsimp only
    by_cases hr : r = 0
    · rw [if_pos hr, wp_some, gE_r]
      refine ⟨?_, fr⟩
      dsimp only
      rw [u6]
      have := itn_end h8 hA (S := 2 ^ q) (m := m) (by
        rcases u5 hr with h | ⟨h1, h2⟩
        · exact Or.inl h
        · exact Or.inr ⟨h1, hT (fun z => h2 (hst z))⟩) (n - (m + 1))
      rw [← this, show m + 1 + (n - (m + 1)) = n by omega]
    · rw [if_neg hr, wp_some, gE_l]
      dsimp only
      rw [wI_s (by omega)]
      exact ⟨rfl, u6, u2, fr⟩
  · rintro ⟨y, w⟩ ⟨rfl, q1, q2, q3⟩
    dsimp only at q1 q2 q3
    rw [Nat.add_sub_cancel] at q1
    dsimp only
    unfold f_Gossip_spread_6b
    rw [if_pos (show (n : Int) < ((n + 1 : Nat) : Int) by omega), wp_some, gE_r]
    exact ⟨q1, q3⟩
theorem wp_M_gossip {E : (Nat → Int) → Bool} (h8 : Eok E) {A : zA} (hA : okA A) {g : kM} (hE : ME E g) (hM : MT A g) {S n : Nat} (hS : S < 2 ^ aN A) (hn60 : n ≤ 60) : wp (f_M_gossip_18 n S 1 g) (fun r => r.1 = ((itn E A S n : Nat) : Int) ∧ ∀ z, z ≠ 112 → z ≠ 113 → r.2 z = g z) := by
  unfold f_M_gossip_18
  refine wp_for (n + 1) (fun k x => x.1 = ((itn E A S (k - 1) : Nat) : Int) ∧ x.2.1 = (k : Int) ∧ ∀ z, z ≠ 112 → z ≠ 113 → x.2.2 z = g z) 1 _ (by omega) (by omega) (by exact ⟨rfl, rfl, fun _ _ _ => rfl⟩) ?_ ?_
  · rintro k ⟨y1, y2, w⟩ hk1 hk2 ⟨q1, rfl, q3⟩
    dsimp only at q1 q3
    obtain ⟨m, rfl⟩ : ∃ m, k = m + 1 := ⟨k - 1, by omega⟩
    rw [Nat.add_sub_cancel] at q1
    subst q1
    obtain ⟨⟨r, u⟩, f1, u1, u2⟩ := wp_M_minuteOf h8 hA (ME_c hE q3) (MT_k hM (fun a h1 h2 => q3 a (by omega) (by omega))) (m := m + 1) (itn_lt (E := E) hA hS m)
    dsimp only at u1 u2
    dsimp only
    unfold f_M_gossip_18b
    rw [if_neg (show ¬ (n : Int) < ((m + 1 : Nat) : Int) by omega), f1, Option.bind_some, wp_some, gE_l]
    dsimp only
    rw [wI_s (by omega)]
    exact ⟨u1, rfl, fun z z1 z2 => by rw [u2 z z1 z2, q3 z z1 z2]⟩
  · rintro ⟨y1, y2, w⟩ ⟨q1, rfl, q3⟩
    dsimp only at q1 q3
    rw [Nat.add_sub_cancel] at q1
    dsimp only
    unfold f_M_gossip_18b
    rw [if_pos (show (n : Int) < ((n + 1 : Nat) : Int) by omega), wp_some, gE_r]
    exact ⟨q1, q3⟩
/-- the first minute of m from k on in which bit o is there -/
def hf (f : Nat → Nat) (o : Nat) : Nat → Nat → Int
  | _, 0 => -2
  | k, m + 1 => if (f k).testBit o = true then (k : Int) else hf f o (k + 1) m
theorem hf_s (f : Nat → Nat) (o k m : Nat) : hf f o k (m + 1) = if (f k).testBit o = true then (k : Int) else hf f o (k + 1) m := rfl
theorem hf_no {f : Nat → Nat} {o k : Nat} (hb : ¬ (f k).testBit o = true) (h : ∀ d, f (k + d) = f k) : ∀ m d, hf f o (k + d) m = -2
  | 0, _ => rfl
  | m + 1, d => by
    rw [hf_s, h d, if_neg hb, show k + d + 1 = k + (d + 1) by omega]
    exact hf_no hb h m (d + 1)
theorem wp_K_heard {E : (Nat → Int) → Bool} (h8 : Eok E) {e : Int} {A : zA} (hA : okA A) {s : kM} (hE : KE E e s) (hT : ¬ tmd e s → Etm E) (hK : KT 4 A s) {q o : Nat} (hq : q < aN A) (ho : o < aN A) : wp (f_Gossip_minuteOf 4 e q o s) (fun r => r.1 = hf (itn E A (2 ^ q)) o 0 61 ∧ ∀ z, z ≠ 51 → z ≠ 52 → z ≠ 53 → r.2 z = s z) := by
  have hn := okB_n hA.1
  have hS : 2 ^ q < 2 ^ aN A := Nat.pow_lt_pow_right (by decide) hq
  have hpw : 2 ^ aN A ≤ 2 ^ 22 := Nat.pow_le_pow_right (by decide) hn.2
  obtain ⟨D, hD⟩ : ∃ D, D = hf (itn E A (2 ^ q)) o 0 61 := ⟨_, rfl⟩
  rw [← hD]
  obtain ⟨t, e1, t1, t2, t3⟩ := wp_gbegin hA hK hq
  unfold f_Gossip_minuteOf
  rw [e1, Option.bind_some]
  have at36 : ∀ (k : Nat) (w : kM), k ≤ 60 → w 51 2 = ((itn E A (2 ^ q) k : Nat) : Int) → (∀ z, z ≠ 51 → z ≠ 52 → z ≠ 53 → w z = s z) → hf (itn E A (2 ^ q)) o k (61 - k) = D → (¬ (itn E A (2 ^ q) k).testBit o = true → k = 60 ∨ ∀ d, itn E A (2 ^ q) (k + d) = itn E A (2 ^ q) k) → wp (f_Gossip_minuteOf_36 4 e o k w) (fun r => r.1 = D ∧ ∀ z, z ≠ 51 → z ≠ 52 → z ≠ 53 → r.2 z = s z) := by
    intro k w hk w1 w2 w3 w4
    have hl := itn_lt (E := E) hA hS k
    rw [show 61 - k = (60 - k) + 1 by omega, hf_s] at w3
    unfold f_Gossip_minuteOf_36
    rw [w1, kbit (by omega) (by omega)]
    by_cases hb : (itn E A (2 ^ q) k).testBit o = true
    · rw [if_pos hb] at w3
      rw [if_pos hb, if_pos rfl, wp_some]
      exact ⟨w3, w2⟩
    · rw [if_neg hb] at w3
      rw [if_neg hb, if_neg (by decide), wp_some]
      refine ⟨?_, w2⟩
      dsimp only
      rw [← w3]
      rcases w4 hb with h | h
      · rw [h]
        rfl
      · exact (hf_no hb h (60 - k) 1).symm
  unfold f_Gossip_minuteOf_10
  refine wp_for 60 (fun k x => x.1 = (k : Int) ∧ x.2.2.1 = (k : Int) ∧ x.2.2.2 51 2 = ((itn E A (2 ^ q) k : Nat) : Int) ∧ x.2.2.2 52 7 = ((aN A / 2 : Nat) : Int) ∧ (∀ z, z ≠ 51 → z ≠ 52 → z ≠ 53 → x.2.2.2 z = s z) ∧ hf (itn E A (2 ^ q)) o k (61 - k) = D ∧ (x.2.1 = 0 → ∀ d, itn E A (2 ^ q) (k + d) = itn E A (2 ^ q) k)) 0 _ (by omega) (by omega) (by exact ⟨rfl, rfl, t1, t2, fun z z1 z2 _ => t3 z z1 z2, hD.symm, fun z => by cases z⟩) ?_ ?_
  · rintro k ⟨y1, y2, y3, w⟩ _ hk ⟨rfl, rfl, q1, q2, q3, q4, q5⟩
    dsimp only at q1 q2 q3 q4 q5
    have hl := itn_lt (E := E) hA hS k
    have hKw : KT 4 A w := KT_c hK (fun i hi => q3 _ (by omega) (by omega) (by omega))
    have hst : tmd e s → tmd e w := fun z => ⟨z.1, by rw [q3 _ (by omega) (by omega) (by omega)]; exact z.2⟩
    dsimp only
    unfold f_Gossip_minuteOf_10b
    rw [if_neg (show ¬ (60 : Int) ≤ (k : Int) by omega)]
    by_cases hy : y2 = 0
    · rw [if_pos hy, wp_map]
      exact at36 k w (by omega) q1 q3 q4 (fun _ => Or.inr (q5 hy))
    · rw [if_neg hy, q1, kbit (by omega) (by omega)]
      by_cases hb : (itn E A (2 ^ q) k).testBit o = true
      · rw [if_pos hb, if_neg (by decide), wp_map]
        exact at36 k w (by omega) q1 q3 q4 (fun z => absurd hb z)
      · obtain ⟨⟨r, u⟩, f1, ⟨u1, u2, u3⟩, u4, u5⟩ := wp_passOn h8 hA (KE_c hE q3) hKw (m := k + 1) hl q1 q2
        dsimp only at u1 u2 u3 u4 u5
        rw [show 61 - k = (61 - (k + 1)) + 1 by omega, hf_s, if_neg hb] at q4
        rw [if_neg hb, if_pos rfl, wI_s (by omega), f1, Option.bind_some, wp_some, gE_l]
        dsimp only
        refine ⟨rfl, rfl, u1, u2, fun z z1 z2 z3 => by rw [u3 z z1 z2 z3, q3 z z1 z2 z3], q4, fun hr => ?_⟩
        exact itn_end h8 hA (S := 2 ^ q) (m := k) (by
          rcases u5 hr with h | ⟨h1, h2⟩
          · exact Or.inl h
          · exact Or.inr ⟨h1, hT (fun z => h2 (hst z))⟩)
  · rintro ⟨y1, y2, y3, w⟩ ⟨rfl, rfl, q1, q2, q3, q4, q5⟩
    dsimp only at q1 q2 q3 q4 q5
    dsimp only
    unfold f_Gossip_minuteOf_10b
    rw [if_pos (show (60 : Int) ≤ ((60 : Nat) : Int) by decide), wp_map]
    exact at36 60 w (by omega) q1 q3 q4 (fun _ => Or.inl rfl)
theorem wp_M_heard {E : (Nat → Int) → Bool} (h8 : Eok E) {A : zA} (hA : okA A) {g : kM} (hE : ME E g) (hM : MT A g) {S o : Nat} (hS : S < 2 ^ aN A) (ho : o < aN A) : wp (f_M_heard_16 o S 0 g) (fun r => r.1 = hf (itn E A S) o 0 61 ∧ ∀ z, z ≠ 112 → z ≠ 113 → r.2 z = g z) := by
  have hn := okB_n hA.1
  have hpw : 2 ^ aN A ≤ 2 ^ 22 := Nat.pow_le_pow_right (by decide) hn.2
  obtain ⟨D, hD⟩ : ∃ D, D = hf (itn E A S) o 0 61 := ⟨_, rfl⟩
  rw [← hD]
  unfold f_M_heard_16
  refine wp_for 61 (fun k x => x.1 = ((itn E A S k : Nat) : Int) ∧ x.2.1 = (k : Int) ∧ hf (itn E A S) o k (61 - k) = D ∧ ∀ z, z ≠ 112 → z ≠ 113 → x.2.2 z = g z) 0 _ (by omega) (by omega) (by exact ⟨rfl, rfl, hD.symm, fun _ _ _ => rfl⟩) ?_ ?_
  · rintro k ⟨y1, y2, w⟩ _ hk ⟨rfl, rfl, q2, q3⟩
    dsimp only at q2 q3
    have hl := itn_lt (E := E) hA hS k
    rw [show 61 - k = (61 - (k + 1)) + 1 by omega, hf_s] at q2
    dsimp only
    unfold f_M_heard_16b
    rw [if_neg (show ¬ (60 : Int) < (k : Int) by omega), kbit (by omega) (by omega)]
    by_cases hb : (itn E A S k).testBit o = true
    · rw [if_pos hb] at q2
      rw [if_pos hb, if_pos rfl, wp_some, gE_r]
      exact ⟨q2, q3⟩
    · obtain ⟨⟨r, u⟩, f1, u1, u2⟩ := wp_M_minuteOf h8 hA (ME_c hE q3) (MT_k hM (fun a h1 h2 => q3 a (by omega) (by omega))) (m := k + 1) hl
      dsimp only at u1 u2
      rw [if_neg hb] at q2
      rw [if_neg hb, if_neg (by decide), wI_s (by omega), f1, Option.bind_some, wp_some, gE_l]
      exact ⟨u1, rfl, q2, fun z z1 z2 => by dsimp only; rw [u2 z z1 z2, q3 z z1 z2]⟩
  · rintro ⟨y1, y2, w⟩ ⟨rfl, rfl, q2, q3⟩
    dsimp only at q2 q3
    dsimp only
    unfold f_M_heard_16b
    rw [if_pos (show (60 : Int) < ((61 : Nat) : Int) by decide), wp_some, gE_r]
    exact ⟨q2, q3⟩
section TOWN
variable {RC : zA → kM → Prop}
/-- the rule in force, on both sides -/
theorem rule_in {s : kM} (hs : Rel RC RU0 s) : ∃ E, Eok E ∧ ∃ e, f_KT_ruleInForce s = some e ∧ KE E e s ∧ (¬ tmd e s → Etm E) ∧ ME E s := by
  obtain ⟨A, -, -, -, -, q5, q6, -⟩ := hs
  obtain ⟨s1, s2, s3, s4, -⟩ := q5
  obtain ⟨r1, r2, r3, r4, r5, r6⟩ := q6
  by_cases h : s 3 2 < 0
  · refine ⟨fun _ => false, fun _ _ _ => rfl, -1, ?_, Or.inl ⟨rfl, fun _ => rfl⟩, fun _ _ _ => rfl, Or.inl ⟨by omega, fun _ => rfl⟩⟩
    unfold f_KT_ruleInForce f_KT_ruleInForce_15
    rw [if_pos h]
  · obtain ⟨k, hk⟩ : ∃ k : Nat, s 3 2 = (k : Int) := ⟨(s 3 2).toNat, by omega⟩
    obtain ⟨e1, E, x1, x2, x3, x4⟩ := r6 k (by omega)
    refine ⟨E, x1, (k : Int), ?_, Or.inr ⟨k, rfl, by omega, x3⟩, fun z => x2 ?_, Or.inr ⟨k, by omega, by omega, x4⟩⟩
    · unfold f_KT_ruleInForce
      rw [if_neg h, if_neg (by omega), hk, gI_n (show k < 6 by omega), Option.bind_some, e1]
    · by_cases h0 : s (125 + 2 * k) 1 = 0
      · exact h0
      · exact absurd ⟨by omega, by rw [Int.toNat_natCast]; exact h0⟩ z
theorem Rel_go (hC : hRC RC) {s u w : kM} (hs : Rel RC RU0 s) (h1 : ∀ z, z ≠ 51 → z ≠ 52 → z ≠ 53 → u z = s z) (h2 : ∀ z, z ≠ 112 → z ≠ 113 → w z = u z) : Rel RC RU0 w := by
  refine Rel_fr hC hRU0 hs (fun a x1 x2 => ?_) (fun i x1 x2 => ?_)
  · have n112 : a ≠ 112 := fun z => by subst z; cases x2
    have n113 : a ≠ 113 := fun z => by subst z; cases x2
    have n51 : a ≠ 51 := fun z => by subst z; cases x2
    have n52 : a ≠ 52 := fun z => by subst z; cases x2
    have n53 : a ≠ 53 := fun z => by subst z; cases x2
    rw [h2 a n112 n113, h1 a n51 n52 n53]
  · rw [h2 85 (by decide) (by decide), h1 85 (by decide) (by decide) (by decide)]
theorem ME_k {E : (Nat → Int) → Bool} {s t : kM} (h : ME E s) (h1 : ∀ z, z ≠ 51 → z ≠ 52 → z ≠ 53 → t z = s z) : ME E t := by
  unfold ME
  rw [h1 86 (by decide) (by decide) (by decide)]
  rcases h with h | ⟨k, k1, k2, k3⟩
  · exact Or.inl h
  · exact Or.inr ⟨k, k1, k2, fun u q => k3 u (MSl_r (MSl_e (fun a x y => h1 a (by omega) (by omega) (by omega))) q)⟩
theorem O_gossip (hC : hRC RC) (x y : Int) : OB RC RU0 (f_KT_gossip x y) (f_M_gossip x y) := by
  intro s hs
  obtain ⟨E, h8, e, he, hE, hT, hME⟩ := rule_in hs
  have hs' := hs
  obtain ⟨A, hA, hK, hM, -⟩ := hs'
  have hn := okB_n hA.1
  by_cases c : (0 ≤ x ∧ x < aN A) ∧ 0 ≤ y ∧ y ≤ 60
  · obtain ⟨q, rfl⟩ : ∃ q : Nat, x = (q : Int) := ⟨x.toNat, by omega⟩
    obtain ⟨n, rfl⟩ : ∃ n : Nat, y = (n : Int) := ⟨y.toNat, by omega⟩
    have hq : q < aN A := by omega
    have hS : 2 ^ q < 2 ^ aN A := Nat.pow_lt_pow_right (by decide) hq
    obtain ⟨⟨zv, u⟩, e1, k1, k2⟩ := wp_spread h8 hA hE hT hK hq (n := n) (by omega)
    dsimp only at k1 k2
    have hMu : MT A u := MT_k hM (fun a h1 h2 => k2 a (by omega) (by omega) (by omega))
    obtain ⟨⟨zw, w⟩, e2, m1, m2⟩ := wp_M_gossip h8 hA (ME_k hME k2) hMu hS (n := n) (by omega)
    dsimp only at m1 m2
    refine ⟨zv, u, w, ?_, ?_, Rel_go hC hs k2 m2⟩
    · unfold f_KT_gossip
      rw [e_hasPlace hK, if_pos c.1, Option.bind_some, if_neg (by decide), if_neg (by omega), if_pos (by omega), he, Option.bind_some, e1, Option.bind_some]
    · unfold f_M_gossip
      rw [e_M_isPlace hA.1 hMu.1, if_pos c.1, Option.bind_some, if_neg (by decide), e_M_in, if_pos c.2, Option.bind_some, if_neg (by decide), kone (by omega), e2, m1, k1]
  · refine ⟨-1, s, s, ?_, ?_, hs⟩
    · unfold f_KT_gossip
      rw [e_hasPlace hK, Option.bind_some]
      by_cases c1 : 0 ≤ x ∧ x < aN A
      · rw [if_pos c1, if_neg (by decide)]
        by_cases c2 : y < 0
        · rw [if_pos c2]
        · rw [if_neg c2, if_neg (fun z => c ⟨c1, by omega, z⟩)]
      · rw [if_neg c1, if_pos rfl]
    · unfold f_M_gossip
      rw [e_M_isPlace hA.1 hM.1, Option.bind_some]
      by_cases c1 : 0 ≤ x ∧ x < aN A
      · rw [if_pos c1, if_neg (by decide), e_M_in, if_neg (fun z => c ⟨c1, z⟩), Option.bind_some, if_pos rfl]
      · rw [if_neg c1, if_pos rfl]
theorem O_heard (hC : hRC RC) (x y : Int) : OB RC RU0 (f_KT_heard x y) (f_M_heard x y) := by
  intro s hs
  obtain ⟨E, h8, e, he, hE, hT, hME⟩ := rule_in hs
  have hs' := hs
  obtain ⟨A, hA, hK, hM, -⟩ := hs'
  have hn := okB_n hA.1
  by_cases c : (0 ≤ x ∧ x < aN A) ∧ 0 ≤ y ∧ y < aN A
  · obtain ⟨q, rfl⟩ : ∃ q : Nat, x = (q : Int) := ⟨x.toNat, by omega⟩
    obtain ⟨o, rfl⟩ : ∃ n : Nat, y = (n : Int) := ⟨y.toNat, by omega⟩
    have hq : q < aN A := by omega
    have ho : o < aN A := by omega
    have hS : 2 ^ q < 2 ^ aN A := Nat.pow_lt_pow_right (by decide) hq
    obtain ⟨⟨zv, u⟩, e1, k1, k2⟩ := wp_K_heard h8 hA hE hT hK hq ho
    dsimp only at k1 k2
    have hMu : MT A u := MT_k hM (fun a h1 h2 => k2 a (by omega) (by omega) (by omega))
    obtain ⟨⟨zw, w⟩, e2, m1, m2⟩ := wp_M_heard h8 hA (ME_k hME k2) hMu hS ho
    dsimp only at m1 m2
    refine ⟨zv, u, w, ?_, ?_, Rel_go hC hs k2 m2⟩
    · unfold f_KT_heard
      rw [e_hasPlace hK, if_pos c.1, Option.bind_some, if_neg (by decide), e_hasPlace hK, if_pos c.2, Option.bind_some, if_neg (by decide), he, Option.bind_some, e1, Option.bind_some]
    · unfold f_M_heard
      rw [e_M_isPlace hA.1 hMu.1, if_pos c.1, Option.bind_some, if_neg (by decide), e_M_isPlace hA.1 hMu.1, if_pos c.2, Option.bind_some, if_neg (by decide), kone (by omega), e2, m1, k1]
  · refine ⟨-1, s, s, ?_, ?_, hs⟩
    · unfold f_KT_heard
      rw [e_hasPlace hK, Option.bind_some, e_hasPlace hK]
      by_cases c1 : 0 ≤ x ∧ x < aN A
      · rw [if_pos c1, if_neg (by decide), if_neg (fun z => c ⟨c1, z⟩), Option.bind_some, if_pos rfl]
      · rw [if_neg c1, if_pos rfl]
    · unfold f_M_heard
      rw [e_M_isPlace hA.1 hM.1, Option.bind_some, e_M_isPlace hA.1 hM.1]
      by_cases c1 : 0 ≤ x ∧ x < aN A
      · rw [if_pos c1, if_neg (by decide), if_neg (fun z => c ⟨c1, z⟩), Option.bind_some, if_pos rfl]
      · rw [if_neg c1, if_pos rfl]
end TOWN
