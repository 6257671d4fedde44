/-! CHANGES: no move changes how the roads are linked -/
def shB (A : zA) (k : Nat) : Bool := (mk (ap A) (aF A) &&& mo A).testBit k
theorem shB_iff {A : zA} (hA : okB A) {k : Nat} : shB A k = true ↔ (∃ i, i < aF A ∧ ap A i / 2 = k) ∧ ∃ i, aF A ≤ i ∧ i < aN A ∧ ap A i / 2 = k := by
  have hn := okB_n hA
  unfold shB mo
  rw [Nat.testBit_and, Bool.and_eq_true_iff, mk_bit, mk_bit]
  constructor
  · rintro ⟨h1, j, h2, h3⟩
    exact ⟨h1, aF A + j, by omega, by omega, h3⟩
  · rintro ⟨h1, i, h2, h3, h4⟩
    exact ⟨h1, i - aF A, by omega, by rw [show aF A + (i - aF A) = i by omega]; exact h4⟩
theorem ot_only {A : zA} (hA : okA A) {i j : Nat} (hi : i < aN A) (hj : j < aN A) (h : ap A i / 2 = ap A j / 2) : i = j ∨ i = otA A j := by
  obtain ⟨o1, o2, o3⟩ := ot_ot hA hj
  by_cases c : ap A i % 2 = ap A j % 2
  · exact Or.inl (hA.1.2.2.2.2 i j hi hj (by omega))
  · exact Or.inr (hA.1.2.2.2.2 i _ hi (ot_lt hA hj) (by omega))
/-- a bridge is of both roads if its two passes are -/
theorem shB_ot {A : zA} (hA : okA A) {j : Nat} (hj : j < aN A) : shB A (ap A j / 2) = true ↔ ¬ (j < aF A ↔ otA A j < aF A) := by
  obtain ⟨o1, o2, o3⟩ := ot_ot hA hj
  have ol := ot_lt hA hj
  have hn := okB_n hA.1
  rw [shB_iff hA.1]
  constructor
  · rintro ⟨⟨i, h1, h2⟩, i', h3, h4, h5⟩ h
    rcases ot_only hA (by omega) hj h2 with a | a
    · rcases ot_only hA h4 hj h5 with b | b
      · omega
      · omega
    · rcases ot_only hA h4 hj h5 with b | b
      · omega
      · omega
  · intro h
    by_cases c : j < aF A
    · exact ⟨⟨j, c, rfl⟩, otA A j, by omega, ol, o2⟩
    · exact ⟨⟨otA A j, by omega, o2⟩, j, by omega, hj, rfl⟩
def lks (A : zA) : Nat → Int
  | 0 => 0
  | n + 1 => lks A n + (if shB A n = true then 2 * ((ah A n : Nat) : Int) - 1 else 0)
theorem lks_s (A : zA) (n : Nat) : lks A (n + 1) = lks A n + (if shB A n = true then 2 * ((ah A n : Nat) : Int) - 1 else 0) := rfl
theorem lks_e (A : zA) : ∀ n, 2 * (hs (ah A) (mk (ap A) (aF A) &&& mo A) n : Int) - (oc (mk (ap A) (aF A) &&& mo A) n : Int) = lks A n
  | 0 => rfl
  | n + 1 => by
    have ih := lks_e A n
    rw [hs_succ, oc_succ, lks_s]
    unfold shB
    by_cases h : (mk (ap A) (aF A) &&& mo A).testBit n = true
    · rw [if_pos h, if_pos h, if_pos h]
      omega
    · rw [if_neg h, if_neg h, if_neg h]
      omega
theorem lks_c {A B : zA} (h1 : ∀ k, shB A k = shB B k) (h2 : ah A = ah B) : ∀ n, lks A n = lks B n
  | 0 => rfl
  | n + 1 => by rw [lks_s, lks_s, lks_c h1 h2 n, h1 n, h2]
theorem shB_drp {X : Nat} {A : zA} (hA : okA A) {k : Nat} : shB (drp X A) k = true ↔ ¬ X.testBit k = true ∧ shB A k = true := by
  have hn := okB_n hA.1
  have kb : ∀ i, ap A i / 2 = k → ¬ X.testBit k = true → kpt X A i = true := fun i h1 h2 => by unfold kpt; rw [h1, Bool.eq_false_iff.mpr h2]; rfl
  have kx : ∀ i, ap A i / 2 = k → kpt X A i = true → ¬ X.testBit k = true := fun i h1 h2 h3 => by
    unfold kpt at h2
    rw [h1, h3] at h2
    cases h2
  have key : ∀ i, i < aN A → kpt X A i = true → ap (drp X A) (kp X A i) = ap A i := fun i h1 h2 => dpf_at h2 (aN A) h1
  rw [shB_iff (okA_drp hA).1, shB_iff hA.1]
  constructor
  · rintro ⟨⟨j, h1, h2⟩, j', h3, h4, h5⟩
    have hl : aF (drp X A) ≤ aN (drp X A) := (okB_n (okA_drp hA).1).1
    obtain ⟨i, a1, a2, a3, a4⟩ := drp_at (show j < aN (drp X A) by omega)
    obtain ⟨i', b1, b2, b3, b4⟩ := drp_at h4
    rw [a4] at h2
    rw [b4] at h5
    refine ⟨kx i h2 a2, ⟨i, ?_, h2⟩, i', ?_, b1, h5⟩
    · exact (kp_lt a2).mp (show kp X A i < kp X A (aF A) by rw [a3]; exact h1)
    · by_cases c : i' < aF A
      · have := (kp_lt (n := aF A) b2).mpr c
        have h3' : kp X A (aF A) ≤ j' := h3
        omega
      · omega
  · rintro ⟨hx, ⟨i, h1, h2⟩, i', h3, h4, h5⟩
    have k1 := kb i h2 hx
    have k2 := kb i' h5 hx
    refine ⟨⟨kp X A i, (kp_lt (n := aF A) k1).mpr h1, by rw [key i (by omega) k1]; exact h2⟩, kp X A i', ?_, (kp_lt (n := aN A) k2).mpr h4, by rw [key i' h4 k2]; exact h5⟩
    show kp X A (aF A) ≤ kp X A i'
    by_cases c : kp X A i' < kp X A (aF A)
    · have := (kp_lt k2).mp c
      omega
    · omega
/-- what the bridges of X give -/
def lkx (X : Nat) (A : zA) : Nat → Int
  | 0 => 0
  | n + 1 => lkx X A n + (if (X.testBit n && shB A n) = true then 2 * ((ah A n : Nat) : Int) - 1 else 0)
theorem lkx_s (X : Nat) (A : zA) (n : Nat) : lkx X A (n + 1) = lkx X A n + (if (X.testBit n && shB A n) = true then 2 * ((ah A n : Nat) : Int) - 1 else 0) := rfl
theorem lks_drp {X : Nat} {A : zA} (hA : okA A) : ∀ n, lks (drp X A) n + lkx X A n = lks A n
  | 0 => rfl
  | n + 1 => by
    have ih := lks_drp (X := X) hA n
    have hd := shB_drp (X := X) hA (k := n)
    rw [lks_s, lks_s, lkx_s]
    show lks (drp X A) n + (if shB (drp X A) n = true then 2 * ((ah A n : Nat) : Int) - 1 else 0) + _ = _
    by_cases c1 : shB A n = true
    · by_cases c2 : X.testBit n = true
      · rw [if_neg (fun z => (hd.mp z).1 c2), if_pos (by rw [c1, c2]; rfl), if_pos c1]
        omega
      · rw [if_pos (hd.mpr ⟨c2, c1⟩), if_neg (fun z => c2 (Bool.and_eq_true_iff.mp z).1), if_pos c1]
        omega
    · rw [if_neg (fun z => c1 (hd.mp z).2), if_neg (fun z => c1 (Bool.and_eq_true_iff.mp z).2), if_neg c1]
      omega
theorem lkx_0 {X : Nat} {A : zA} (h : ∀ k, X.testBit k = true → ¬ shB A k = true) : ∀ n, lkx X A n = 0
  | 0 => rfl
  | n + 1 => by rw [lkx_s, lkx_0 h n, if_neg (fun z => h n (Bool.and_eq_true_iff.mp z).1 (Bool.and_eq_true_iff.mp z).2)]; rfl
theorem lkx_2 {X a b : Nat} {A : zA} (hab : a ≠ b) (h : ∀ k, X.testBit k = true ↔ k = a ∨ k = b) (ha : shB A a = true) (hb : shB A b = true) : ∀ n, lkx X A n = (if a < n then 2 * ((ah A a : Nat) : Int) - 1 else 0) + (if b < n then 2 * ((ah A b : Nat) : Int) - 1 else 0)
  | 0 => rfl
  | n + 1 => by
    rw [lkx_s, lkx_2 hab h ha hb n]
    by_cases c1 : n = a
    · have hx : (X.testBit n && shB A n) = true := by rw [(h n).mpr (Or.inl c1), c1, ha]; rfl
      have e1 : ¬ a < n := by omega
      have e2 : a < n + 1 := by omega
      rw [if_pos hx, if_neg e1, if_pos e2, c1]
      by_cases c2 : b < a
      · rw [if_pos c2, if_pos (show b < a + 1 by omega)]; omega
      · rw [if_neg c2, if_neg (show ¬ b < a + 1 by omega)]; omega
    · by_cases c2 : n = b
      · have hx : (X.testBit n && shB A n) = true := by rw [(h n).mpr (Or.inr c2), c2, hb]; rfl
        have e1 : ¬ b < n := by omega
        have e2 : b < n + 1 := by omega
        rw [if_pos hx, if_neg e1, if_pos e2, c2]
        by_cases c3 : a < b
        · rw [if_pos c3, if_pos (show a < b + 1 by omega)]; omega
        · rw [if_neg c3, if_neg (show ¬ a < b + 1 by omega)]; omega
      · have hx : ¬ (X.testBit n && shB A n) = true := fun z => by
          rcases (h n).mp (Bool.and_eq_true_iff.mp z).1 with q | q
          · exact c1 q
          · exact c2 q
        rw [if_neg hx, Int.add_zero]
        by_cases c3 : a < n
        · rw [if_pos c3, if_pos (show a < n + 1 by omega)]
          by_cases c4 : b < n
          · rw [if_pos c4, if_pos (show b < n + 1 by omega)]
          · rw [if_neg c4, if_neg (show ¬ b < n + 1 by omega)]
        · rw [if_neg c3, if_neg (show ¬ a < n + 1 by omega)]
          by_cases c4 : b < n
          · rw [if_pos c4, if_pos (show b < n + 1 by omega)]
          · rw [if_neg c4, if_neg (show ¬ b < n + 1 by omega)]
theorem shB_sw {A : zA} (hA : okA A) {q : Nat} (hq : q < aN A) (k : Nat) : shB (swA A q) k = shB A k := by
  have hn := okB_n hA.1
  have hx := nx_rd hn.1 hq
  have ht : ∀ i, tau A q i < aF A ↔ i < aF A := fun i => by
    unfold tau
    split
    · rename_i c
      rw [hx, c]
    · split
      · rename_i c
        rw [← hx, c]
      · exact Iff.rfl
  have h1 : shB (swA A q) k = true ↔ shB A k = true := by
    rw [shB_iff (okA_sw hA hq).1, shB_iff hA.1]
    constructor
    · rintro ⟨⟨i, a1, a2⟩, i', b1, b2, b3⟩
      rw [sw_ap] at a2 b3
      have a1' : i < aF A := a1
      have b1' : aF A ≤ i' := b1
      have b2' : i' < aN A := b2
      exact ⟨⟨tau A q i, (ht i).mpr a1', a2⟩, tau A q i', by have := ht i'; omega, tau_lt hA.1 hq b2', b3⟩
    · rintro ⟨⟨i, a1, a2⟩, i', b1, b2, b3⟩
      refine ⟨⟨tau A q i, (ht i).mpr a1, by rw [sw_ap, tau_tau]; exact a2⟩, tau A q i', ?_, tau_lt hA.1 hq b2, by rw [sw_ap, tau_tau]; exact b3⟩
      show aF A ≤ tau A q i'
      have := ht i'
      omega
  cases h2 : shB A k with
  | true => exact h1.mpr h2
  | false =>
    cases h3 : shB (swA A q) k with
    | true => rw [h1.mp h3] at h2; cases h2
    | false => rfl
theorem plc_rd {A : zA} (hA : okA A) {e : Nat} (he : e < 2 * aN A) : plc A e < aF A ↔ plc A (xo e) < aF A := by
  have hx := nx_rd (j := e / 2) (okB_n hA.1).1 (show e / 2 < aN A by omega)
  rcases plc_pair A e with ⟨a, b⟩ | ⟨a, b⟩
  · rw [← a, ← b, hx]
  · rw [← a, ← b, hx]
theorem hgt_plc (A : zA) (e : Nat) : hgt A (e / 2) = ap A (plc A e) % 2 + ap A (plc A (xo e)) % 2 := by
  unfold hgt
  rcases plc_pair A e with ⟨a, b⟩ | ⟨a, b⟩
  · rw [← a, ← b]
  · rw [b, a, Nat.add_comm]
theorem tn_m {A : zA} (hA : okA A) {e : Nat} (he : e < 2 * aN A) : tn A e % 2 = (ah A (bre A e) + ap A (plc A e) % 2 + e % 2) % 2 := (plc_en hA.1 (ot_lt hA (plc_lt hA.1 he)) (Nat.mod_lt _ (by decide))).2
/-- the two bridges of a piece of land with two corners that can be taken apart -/
theorem big {A : zA} (hA : okA A) {e : Nat} (he : e < 2 * aN A) (hc : cA A e = true) : (shB A (bre A e) = true ↔ shB A (bre A (xo e)) = true) ∧ ah A (bre A e) + ah A (bre A (xo e)) = 1 := by
  unfold cA at hc
  rw [decide_eq_true_eq] at hc
  obtain ⟨h2, hab, h5⟩ := hc
  have hs := sgm_lt hA he
  have hr := (orb_all hA he).2.2.2.2
  rw [h2] at hr
  have h6 : sgm A (sgm A e) = e := hr
  have hh := (h5_all ⟨hgt A (e / 2), by have := hgt_le A (e / 2); omega⟩ ⟨hgt A (sgm A e / 2), by have := hgt_le A (sgm A e / 2); omega⟩).mpr h5
  dsimp only at hh
  rw [hgt_plc, hgt_plc] at hh
  have p1 := plc_lt hA.1 he
  have p2 := plc_lt hA.1 (xo_lt he)
  have p3 := plc_lt hA.1 hs
  have p4 := plc_lt hA.1 (xo_lt hs)
  have o1 : plc A (sgm A e) = otA A (plc A (xo e)) := tn_plc hA (xo_lt he)
  have o2 : plc A e = otA A (plc A (xo (sgm A e))) := by
    have := tn_plc hA (xo_lt hs)
    have e2 : tn A (xo (sgm A e)) = e := h6
    rw [e2] at this
    exact this
  have o3 : plc A (xo (sgm A e)) = otA A (plc A e) := by rw [o2, (ot_ot hA p4).1]
  have b1 : bre A (xo (sgm A e)) = bre A e := by
    have := bre_sgm hA hs
    rw [h6] at this
    exact this.symm
  constructor
  · have s1 := shB_ot hA p1
    have s2 := shB_ot hA p2
    rw [← o3] at s1
    rw [← o1] at s2
    have r1 := plc_rd hA he
    have r2 := plc_rd hA hs
    show shB A (ap A (plc A e) / 2) = true ↔ shB A (ap A (plc A (xo e)) / 2) = true
    rw [s1, s2, r1, r2]
  · have m1 : sgm A e % 2 = (ah A (bre A (xo e)) + ap A (plc A (xo e)) % 2 + xo e % 2) % 2 := tn_m hA (xo_lt he)
    have m2 : e % 2 = (ah A (bre A (xo (sgm A e))) + ap A (plc A (xo (sgm A e))) % 2 + xo (sgm A e) % 2) % 2 := by
      have := tn_m hA (xo_lt hs)
      have e2 : tn A (xo (sgm A e)) = e := h6
      rw [e2] at this
      exact this
    rw [b1] at m2
    have x1 : xo e % 2 = 1 - e % 2 := by unfold xo; split <;> omega
    have x2 : xo (sgm A e) % 2 = 1 - sgm A e % 2 := by unfold xo; split <;> omega
    have l1 := hA.2.2.2.2 (bre A e) ⟨plc A e, p1, rfl⟩
    have l2 := hA.2.2.2.2 (bre A (xo e)) ⟨plc A (xo e), p2, rfl⟩
    rw [x1] at m1
    rw [x2] at m2
    generalize sgm A e = e1 at *
    omega
def GL (A B : zA) : Prop := okA B ∧ lks B 11 = lks A 11
theorem GM_L (A : zA) : GM (GL A) := by
  rintro B m ⟨h1, h2⟩ hm hP
  refine ⟨okA_mv h1 hP, ?_⟩
  rw [← h2]
  have hn := okB_n h1.1
  by_cases c1 : m < 132
  · have eB : mvA B m = drp (gb m) B := by unfold mvA; rw [if_pos c1]
    rw [eB]
    have hd := lks_drp (X := gb m) h1 11
    have h0 : lkx (gb m) B 11 = 0 := by
      by_cases c2 : m < 11
      · have eg : gb m = 2 ^ m := by unfold gb mv1; rw [if_pos c2, if_pos c2]
        obtain ⟨p1, p2⟩ := (PK_off h1 c2).mp hP
        obtain ⟨t1, t2, t3, t4⟩ := tn_o h1 p1
        obtain ⟨l1, l2, l3, l4⟩ := oA_lt h1 p1
        unfold ofA at p2
        rw [decide_eq_true_eq] at p2
        rw [eg]
        refine lkx_0 (fun k hk => ?_) 11
        rw [Nat.testBit_two_pow, decide_eq_true_eq] at hk
        subst hk
        have s1 := shB_ot h1 (j := oA B m) (by omega)
        rw [t3, t1, show (2 * m + 1) / 2 = m by omega] at s1
        rw [s1]
        intro z
        apply z
        have x1 := nx_rd (j := oA B m) hn.1 (by omega)
        have x2 := nx_rd (j := uA B m) hn.1 (by omega)
        rcases p2 with p2 | p2
        · rw [p2] at x1
          exact x1.symm
        · rw [p2] at x2
          exact x2
      · have hx : ∃ x, x < 2 * aN B ∧ cA B x = true ∧ aM B x = m := by
          rcases (PK_iff (2 * aN B)).mp hP with q | ⟨x, x1, ⟨x2, x3⟩ | ⟨x2, x3⟩⟩
          · unfold OF at q
            rw [decide_eq_false (by omega), Bool.false_and] at q
            cases q
          · exact ⟨x, FL_mem _ x1, x2, x3⟩
          · have := mS_r (bre B x) (bre B (sgm B x)) (bre B (sgm B (sgm B x)))
            unfold sM at x3
            omega
        obtain ⟨x, hx1, hx2, hx3⟩ := hx
        obtain ⟨g1, g2⟩ := big h1 hx1 hx2
        have ba := bre_lt h1.1 hx1
        have bb := bre_lt h1.1 (xo_lt hx1)
        have hne : bre B x ≠ bre B (xo x) := by
          unfold cA at hx2
          rw [decide_eq_true_eq] at hx2
          exact hx2.2.1
        have hbit : ∀ k, (gb m).testBit k = true ↔ k = bre B x ∨ k = bre B (xo x) := by
          intro k
          have e1 : mv1 m = mi (bre B x) (bre B (xo x)) ∧ mv2 m = ma (bre B x) (bre B (xo x)) := by
            rw [← hx3]
            unfold mv1 mv2 aM mA
            have q1 := mi_lt ba bb
            rw [if_neg (by omega), if_pos (by omega), if_pos (by omega)]
            omega
          unfold gb
          rw [if_neg c2, if_pos c1, e1.1, e1.2, Nat.testBit_or, Bool.or_eq_true_iff, Nat.testBit_two_pow, Nat.testBit_two_pow, decide_eq_true_eq, decide_eq_true_eq]
          unfold mi ma
          split <;> split <;> omega
        by_cases c3 : shB B (bre B x) = true
        · rw [lkx_2 hne hbit c3 (g1.mp c3), if_pos ba, if_pos bb]
          omega
        · refine lkx_0 (fun k hk => ?_) 11
          rcases (hbit k).mp hk with q | q
          · rw [q]; exact c3
          · rw [q]; exact fun z => c3 (g1.mpr z)
    omega
  · have eB : mvA B m = sw3 B (SK B (2 * aN B) m / 2) (sgm B (SK B (2 * aN B) m) / 2) (sgm B (sgm B (SK B (2 * aN B) m)) / 2) := by unfold mvA; rw [if_neg c1]
    obtain ⟨q1, q2, q3⟩ := mv_sl h1 c1 hP
    rw [eB]
    unfold sw3
    exact ((lks_c (fun k => shB_sw (okA_sw (okA_sw h1 q1) q2) q3 k) rfl 11).trans (lks_c (fun k => shB_sw (okA_sw h1 q1) q2 k) rfl 11)).trans (lks_c (fun k => shB_sw h1 q1 k) rfl 11)
theorem lks_0 {A : zA} (hA : okB A) (h : aN A = 0) : ∀ n, lks A n = 0
  | 0 => rfl
  | n + 1 => by
    rw [lks_s, lks_0 hA h n, if_neg]
    · rfl
    · rw [shB_iff hA]
      rintro ⟨-, i, -, h3, -⟩
      omega
/-- what can be shaken out is not linked -/
theorem shv_lk {A : zA} (hA : okA A) (h : 0 ≤ shv A) : lks A 11 = 0 := by
  by_cases h0 : aN A = 0
  · exact lks_0 hA.1 h0 11
  · have hp : 0 < shv A := by
      unfold shv at h ⊢
      rw [if_neg h0] at h ⊢
      unfold srr at h ⊢
      cases hc : (srq A).2 with
      | none =>
        rw [hc] at h
        exact absurd (show (0 : Int) ≤ -2 from h) (by decide)
      | some oo =>
        cases oo with
        | none =>
          rw [hc] at h
          exact absurd (show (0 : Int) ≤ -3 from h) (by decide)
        | some q => exact Int.natCast_pos.mpr (Nat.succ_pos _)
    obtain ⟨-, k, m, hc, -⟩ := shv_p hp
    have hS : SI (GL A) (srq A) := SI_ot (GM_L A) (SI_0 ⟨hA, rfl⟩ (by omega)) (snn A)
    obtain ⟨hm, e, he, hP, hz⟩ := hS.2.2 k m hc
    obtain ⟨g1, g2⟩ := GM_L A e.1 m (hS.2.1 k e he).1 hm hP
    rw [← g2]
    exact lks_0 g1.1 hz 11
