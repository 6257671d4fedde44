/-! hands: writhe, linked -/
def hs (h : Nat → Nat) (x : Nat) : Nat → Nat
  | 0 => 0
  | n + 1 => hs h x n + (if x.testBit n then h n else 0)
theorem hs_succ (h : Nat → Nat) (x n : Nat) : hs h x (n + 1) = hs h x n + (if x.testBit n then h n else 0) := rfl
theorem oc_succ (x n : Nat) : oc x (n + 1) = oc x n + (if x.testBit n then 1 else 0) := rfl
theorem oc_le (x : Nat) : ∀ n, oc x n ≤ n
  | 0 => Nat.le_refl 0
  | n + 1 => by
    have := oc_le x n
    unfold oc
    split <;> omega
theorem hs_le {h : Nat → Nat} {x : Nat} (hx : ∀ k, x.testBit k = true → h k ≤ 1) : ∀ n, hs h x n ≤ n
  | 0 => Nat.le_refl 0
  | n + 1 => by
    have := hs_le hx n
    unfold hs
    split
    · have := hx n (by assumption)
      omega
    · omega
/-- the passes of the other road -/
def mo (A : zA) : Nat := mk (fun i => ap A (aF A + i)) (aN A - aF A)
section HANDS
variable {A : zA} {s : kM} {b : Nat}
theorem met_loop (hA : okB A) (hK : KT b A s) (r : Int) (a e : Nat) (hae : a ≤ e) (heN : e ≤ aN A) (he : f_Town_roadEnd b r s = some (e : Int)) (ha : f_Town_roadStart b r s = some (a : Int)) : f_Town_met b r s = some ((mk (fun i => ap A (a + i)) (e - a) : Nat) : Int) := by
  obtain ⟨a1, a2, a3, a4, a5⟩ := hA
  unfold f_Town_met f_Town_met_6
  rw [ha, Option.bind_some]
  apply wp_eq
  refine wp_for e (fun k y => a ≤ k ∧ y.2 = (k : Int) ∧ y.1 = ((mk (fun i => ap A (a + i)) (k - a) : Nat) : Int)) a _ hae (by omega) ⟨Nat.le_refl _, rfl, by rw [Nat.sub_self]; rfl⟩ ?_ ?_
  · rintro k ⟨y1, y2⟩ h1 h2 ⟨_, rfl, rfl⟩
    simp only [f_Town_met_6b, he, Option.bind_some, wp_ite, wp_bind, wp_gI, wp_some, gE_l, gE_r, Int.toNat_natCast]
    refine ⟨fun c => by omega, fun _ => ⟨by omega, by omega, ?_, ?_⟩⟩
    · rw [wI_id (by omega) (by omega)]; rfl
    · have hp := a4 k (by omega)
      have hm : mk (fun i => ap A (a + i)) (k - a) < 2048 := mk_lt (fun j hj => a4 _ (by omega))
      have : kshr (ap A k : Int) 1 = ((ap A k / 2 : Nat) : Int) := kshr_n (n := ap A k) (k := 1) (by omega) (by omega)
      have h3 : 2 ^ (ap A k / 2) < 2 ^ 11 := Nat.pow_lt_pow_right (by omega) (by omega)
      rw [hK.1.2.2.2.1 k (by omega), this, kone (by omega), kor_n (by omega) (by omega), show k + 1 - a = (k - a) + 1 by omega]
      show _ = ((mk _ (k - a) ||| 2 ^ (ap A (a + (k - a)) / 2) : Nat) : Int)
      rw [show a + (k - a) = k by omega]
  · rintro ⟨y1, y2⟩ ⟨_, rfl, rfl⟩
    simp only [f_Town_met_6b, he, Option.bind_some, wp_ite, wp_bind, wp_gI, wp_some, gE_l, gE_r]
    exact ⟨fun _ => trivial, fun c => by omega⟩
theorem e_met0 (hA : okB A) (hK : KT b A s) : f_Town_met b 0 s = some ((mk (ap A) (aF A) : Nat) : Int) := by
  have := met_loop hA hK 0 0 (aF A) (by omega) (okB_n hA).1 (by rw [e_roadEnd hK]; simp) (by rw [e_roadStart hK]; simp)
  simpa using this
theorem e_met1 (hA : okB A) (hK : KT b A s) : f_Town_met b 1 s = some ((mo A : Nat) : Int) :=
  met_loop hA hK 1 (aF A) (aN A) (okB_n hA).1 (Nat.le_refl _) (by rw [e_roadEnd hK]; simp) (by rw [e_roadStart hK]; simp)
theorem e_bridges (hA : okB A) (hK : KT b A s) : f_Town_bridges b s = some ((oc (mk (ap A) (aN A)) 11 : Nat) : Int) := by
  unfold f_Town_bridges
  rw [hK.2.1, e_bitCount (mk_lt hA.2.2.2.1)]
  rfl
theorem e_handsOf (hA : okA A) (hK : KT b A s) {x : Nat} (hx : x < 2048) (hp : ∀ k, x.testBit k = true → pr A k) : f_Town_handsOf b x s = some ((hs (ah A) x 11 : Nat) : Int) := by
  have hh : ∀ k, x.testBit k = true → ah A k ≤ 1 := fun k hk => hA.2.2.2.2 k (hp k hk)
  unfold f_Town_handsOf f_Town_handsOf_4
  apply wp_eq
  refine wp_for 11 (fun k y => y.2 = (k : Int) ∧ y.1 = ((hs (ah A) x k : Nat) : Int)) 0 _ (by omega) (by omega) ⟨rfl, rfl⟩ ?_ ?_
  · rintro k ⟨y1, y2⟩ _ hk ⟨rfl, rfl⟩
    have h1 := hs_le hh k
    simp only [f_Town_handsOf_4b, f_Town_handsOf_21, wp_ite, wp_bind, wp_gI, wp_some, gE_l, gE_r, Int.toNat_natCast]
    rw [kbit (by omega) (by omega)]
    refine ⟨fun c => by omega, fun _ => ⟨fun c => ?_, fun c => ?_⟩⟩
    · have h2 : x.testBit k = true := by
        by_cases h : x.testBit k = true
        · exact h
        · rw [if_neg h] at c; omega
      have h3 := hh k h2
      rw [hK.1.2.2.2.2 k (hp k h2)]
      refine ⟨by omega, ?_, ?_⟩
      · rw [wI_id (by omega) (by omega)]; rfl
      · rw [wI_id (by omega) (by omega)]
        rw [hs_succ, if_pos h2]
        rfl
    · have h2 : ¬ x.testBit k = true := by
        intro h
        rw [if_pos h] at c; omega
      refine ⟨?_, ?_⟩
      · rw [wI_id (by omega) (by omega)]; rfl
      · rw [wI_id (by omega) (by omega)]
        rw [hs_succ, if_neg h2]
        rfl
  · rintro ⟨y1, y2⟩ ⟨rfl, rfl⟩
    simp only [f_Town_handsOf_4b, wp_ite, wp_bind, wp_gI, wp_some, gE_l, gE_r]
    exact ⟨fun _ => trivial, fun c => by omega⟩
theorem mk_pr {k : Nat} (h : (mk (ap A) (aN A)).testBit k = true) : pr A k := pb_iff.mp h
theorem e_plusHands (hA : okA A) (hK : KT b A s) : f_Town_plusHands b s = some ((hs (ah A) (mk (ap A) (aN A)) 11 : Nat) : Int) := by
  unfold f_Town_plusHands
  rw [hK.2.1, e_handsOf hA hK (mk_lt hA.1.2.2.2.1) (fun k hk => mk_pr hk)]
  rfl
theorem e_handsTogether (hA : okA A) (hK : KT b A s) : f_Town_handsTogether b s = some (2 * (hs (ah A) (mk (ap A) (aN A)) 11 : Int) - (oc (mk (ap A) (aN A)) 11 : Int)) := by
  unfold f_Town_handsTogether
  have h1 := hs_le (x := mk (ap A) (aN A)) (h := ah A) (fun k hk => hA.2.2.2.2 k (mk_pr hk)) 11
  have h2 := oc_le (mk (ap A) (aN A)) 11
  rw [e_plusHands hA hK, e_bridges hA.1 hK]
  simp only [Option.bind_some]
  rw [wI_id (x := 2 * _) (by omega) (by omega), wI_id (by omega) (by omega)]
theorem sh_and {k : Nat} (h : (mk (ap A) (aF A) &&& mo A).testBit k = true) : pr A k ∧ (∃ i, i < aF A ∧ ap A i / 2 = k) ∧ ∃ j, aF A ≤ j ∧ j < aN A ∧ ap A j / 2 = k := by
  rw [Nat.testBit_and, Bool.and_eq_true, mk_bit] at h
  obtain ⟨⟨i, h1, h2⟩, h3⟩ := h
  unfold mo at h3
  rw [mk_bit] at h3
  obtain ⟨j, h4, h5⟩ := h3
  exact ⟨⟨aF A + j, by omega, h5⟩, ⟨i, h1, h2⟩, aF A + j, by omega, by omega, h5⟩
theorem mo_lt (hA : okB A) : mk (ap A) (aF A) < 2048 ∧ mo A < 2048 ∧ mk (ap A) (aF A) &&& mo A < 2048 := by
  have h1 : mk (ap A) (aF A) < 2048 := mk_lt (fun j hj => hA.2.2.2.1 j (by have := okB_n hA; omega))
  refine ⟨h1, mk_lt (fun j hj => hA.2.2.2.1 _ (by have := okB_n hA; omega)), Nat.lt_of_le_of_lt Nat.and_le_left h1⟩
theorem e_sharedHands (hA : okA A) (hK : KT b A s) : f_Town_sharedHands b s = some (2 * (hs (ah A) (mk (ap A) (aF A) &&& mo A) 11 : Int) - (oc (mk (ap A) (aF A) &&& mo A) 11 : Int)) := by
  unfold f_Town_sharedHands
  obtain ⟨l1, l2, l3⟩ := mo_lt hA.1
  have h1 := hs_le (x := mk (ap A) (aF A) &&& mo A) (h := ah A) (fun k hk => hA.2.2.2.2 k (sh_and hk).1) 11
  have h2 := oc_le (mk (ap A) (aF A) &&& mo A) 11
  rw [e_met0 hA.1 hK, e_met1 hA.1 hK]
  simp only [Option.bind_some]
  rw [kand_n (by omega) (by omega), e_handsOf hA hK l3 (fun k hk => (sh_and hk).1), e_bitCount l3]
  simp only [Option.bind_some]
  rw [wI_id (x := 2 * _) (by omega) (by omega), wI_id (by omega) (by omega)]
theorem e_M_isOfBoth (hA : okA A) (hM : MT A s) {k : Nat} (hk : k < 11) (hp : pb A k = true) : f_M_isOfBoth k s = some (if (mk (ap A) (aF A) &&& mo A).testBit k then 1 else 0) := by
  obtain ⟨p1, p2⟩ := po_pair hA (k := k)
  unfold f_M_isOfBoth
  have hg : gI 11 (k : Int) = some k := by unfold gI; rw [if_pos (by omega), Int.toNat_natCast]
  rw [hg]
  simp only [Option.bind_some, (hM.2 k hk).1, (hM.2 k hk).2, e_M_roadOf hM.1]
  have key : ∀ c, (c = 2 * k ∨ c = 2 * k + 1) → ∃ j : Nat, j < aN A ∧ ap A j = c ∧ po (ap A) c (aN A) = j := by
    intro c hc
    rcases po_cases (ap A) c (aN A) with ⟨h1, h2⟩ | h
    · rcases hc with rfl | rfl
      · have := p1.mp hp; omega
      · have := p2.mp hp; omega
    · exact h
  obtain ⟨u, hu, hu2, hu3⟩ := key (2 * k) (Or.inl rfl)
  obtain ⟨o, ho, ho2, ho3⟩ := key (2 * k + 1) (Or.inr rfl)
  rw [hu3, ho3]
  have hb : ((mk (ap A) (aF A) &&& mo A).testBit k = true) ↔ ((o < aF A ∧ aF A ≤ u) ∨ (u < aF A ∧ aF A ≤ o)) := by
    constructor
    · intro h
      obtain ⟨-, ⟨i, h1, h2⟩, j, h3, h4, h5⟩ := sh_and h
      have e1 : ap A i = 2 * k ∨ ap A i = 2 * k + 1 := by omega
      have e2 : ap A j = 2 * k ∨ ap A j = 2 * k + 1 := by omega
      have inj := hA.1.2.2.2.2
      rcases e1 with e1 | e1 <;> rcases e2 with e2 | e2
      · have := inj i u (by omega) hu (by omega); have := inj j u (by omega) hu (by omega); omega
      · have := inj i u (by omega) hu (by omega); have := inj j o (by omega) ho (by omega); omega
      · have := inj i o (by omega) ho (by omega); have := inj j u (by omega) hu (by omega); omega
      · have := inj i o (by omega) ho (by omega); have := inj j o (by omega) ho (by omega); omega
    · intro h
      rw [Nat.testBit_and, Bool.and_eq_true, mk_bit]
      unfold mo
      rw [mk_bit]
      rcases h with ⟨h1, h2⟩ | ⟨h1, h2⟩
      · exact ⟨⟨o, h1, by omega⟩, u - aF A, by omega, by rw [show aF A + (u - aF A) = u by omega]; omega⟩
      · exact ⟨⟨u, h1, by omega⟩, o - aF A, by omega, by rw [show aF A + (o - aF A) = o by omega]; omega⟩
  by_cases c : (mk (ap A) (aF A) &&& mo A).testBit k = true
  · rw [if_pos c]
    rw [hb] at c
    rw [if_neg]
    grind
  · rw [if_neg c]
    rw [hb] at c
    rw [if_pos]
    grind
/-- the reference's sum over bridges of a set -/
theorem e_M_sumOfHands (hA : okA A) (hM : MT A s) (f : Int) {x : Nat} (hx : ∀ k, k < 11 → (x.testBit k = true ↔ pb A k = true ∧ (f = 0 ∨ (mk (ap A) (aF A) &&& mo A).testBit k = true))) : f_M_sumOfHands f s = some (2 * (hs (ah A) x 11 : Int) - (oc x 11 : Int)) := by
  unfold f_M_sumOfHands f_M_sumOfHands_4
  apply wp_eq
  refine wp_for 11 (fun k y => y.2 = (k : Int) ∧ (hs (ah A) x k ≤ k ∧ oc x k ≤ k) ∧ y.1 = 2 * (hs (ah A) x k : Int) - (oc x k : Int)) 0 _ (by omega) (by omega) ⟨rfl, ⟨Nat.le_refl _, Nat.le_refl _⟩, rfl⟩ ?_ ?_
  · rintro k ⟨y1, y2⟩ _ hk ⟨rfl, ⟨l1, l2⟩, rfl⟩
    simp only [f_M_sumOfHands_4b, f_M_sumOfHands_29, f_M_sumOfHands_27, f_M_sumOfHands_17, e_M_isBridge hA hM, Option.bind_some, wp_ite, wp_bind, wp_gI, wp_some, gE_l, gE_r, Int.toNat_natCast]
    have hz := hx k hk
    have hw : wI ((k : Int) + 1) = ((k + 1 : Nat) : Int) := by rw [wI_id (by omega) (by omega)]; rfl
    have no : ¬ x.testBit k = true → wI ((k : Int) + 1) = ((k + 1 : Nat) : Int) ∧ (hs (ah A) x (k + 1) ≤ k + 1 ∧ oc x (k + 1) ≤ k + 1) ∧ 2 * (hs (ah A) x k : Int) - (oc x k : Int) = 2 * (hs (ah A) x (k + 1) : Int) - (oc x (k + 1) : Int) := by
      intro h
      rw [hs_succ, oc_succ, if_neg h, if_neg h]
      exact ⟨hw, by omega, by omega⟩
    have yes : x.testBit k = true → ((0 : Int) ≤ k ∧ (k : Int) < ((11 : Nat) : Int)) ∧ (s 89 k = 1 → wI ((k : Int) + 1) = ((k + 1 : Nat) : Int) ∧ (hs (ah A) x (k + 1) ≤ k + 1 ∧ oc x (k + 1) ≤ k + 1) ∧ wI (2 * (hs (ah A) x k : Int) - (oc x k : Int) + 1) = 2 * (hs (ah A) x (k + 1) : Int) - (oc x (k + 1) : Int)) ∧ (¬ s 89 k = 1 → wI ((k : Int) + 1) = ((k + 1 : Nat) : Int) ∧ (hs (ah A) x (k + 1) ≤ k + 1 ∧ oc x (k + 1) ≤ k + 1) ∧ wI (2 * (hs (ah A) x k : Int) - (oc x k : Int) + -1) = 2 * (hs (ah A) x (k + 1) : Int) - (oc x (k + 1) : Int)) := by
      intro h
      have hp := pb_iff.mp (hz.mp h).1
      have hh := hA.2.2.2.2 k hp
      rw [hM.1.2.2.2.2 k hp]
      rw [hs_succ, oc_succ, if_pos h, if_pos h, wI_id (x := 2 * _ - _ + 1) (by omega) (by omega), wI_id (x := 2 * _ - _ + -1) (by omega) (by omega)]
      exact ⟨by omega, fun c => ⟨hw, by omega, by omega⟩, fun c => ⟨hw, by omega, by omega⟩⟩
    refine ⟨fun c => by omega, fun _ => ⟨fun c => ?_, fun c => ⟨fun c2 => ?_, fun c2 => ?_⟩⟩⟩
    · refine no (fun h => ?_)
      have := (hz.mp h).1
      rw [if_pos ⟨by omega, by omega, this⟩] at c
      omega
    · refine yes (hz.mpr ⟨?_, Or.inl c2⟩)
      by_cases h : pb A k = true
      · exact h
      · rw [if_neg (fun q => h q.2.2)] at c; omega
    · have hp : pb A k = true := by
        by_cases h : pb A k = true
        · exact h
        · rw [if_neg (fun q => h q.2.2)] at c; omega
      rw [e_M_isOfBoth hA hM hk hp]
      simp only [wp_some, wp_ite]
      refine ⟨fun c3 => ?_, fun c3 => ?_⟩
      · refine no (fun h => ?_)
        rcases (hz.mp h).2 with q | q
        · exact c2 q
        · rw [if_pos q] at c3; omega
      · refine yes (hz.mpr ⟨hp, Or.inr ?_⟩)
        by_cases h : (mk (ap A) (aF A) &&& mo A).testBit k = true
        · exact h
        · rw [if_neg h] at c3; omega
  · rintro ⟨y1, y2⟩ ⟨rfl, _, rfl⟩
    simp only [f_M_sumOfHands_4b, wp_ite, wp_bind, wp_gI, wp_some, gE_l, gE_r]
    exact ⟨fun _ => trivial, fun c => by omega⟩
end HANDS
section SMALL
variable {RC : zA → kM → Prop} {RU : Nat → kM → Prop}
theorem O_writhe : OB RC RU (gP f_KT_writhe) (gP f_M_writhe) := by
  refine OB_pp ?_
  intro A s _ hA hK hM
  unfold f_KT_writhe f_M_writhe
  rw [e_M_isTown hM.1, hK.1.1, e_handsTogether hA hK, e_M_sumOfHands hA hM 0 (x := mk (ap A) (aN A)) (fun k hk => ⟨fun h => ⟨h, Or.inl rfl⟩, fun h => h.1⟩)]
  simp only [Option.bind_some]
  by_cases c : aR A = 0
  · rw [if_pos (show (aR A : Int) = 0 by omega), if_neg (show ¬ 0 < aR A by omega)]
    exact ⟨_, rfl, rfl⟩
  · rw [if_neg (show ¬ (aR A : Int) = 0 by omega), if_pos (show 0 < aR A by omega)]
    exact ⟨_, rfl, rfl⟩
theorem O_linked : OB RC RU (gP f_KT_linked) (gP f_M_linked) := by
  refine OB_pp ?_
  intro A s _ hA hK hM
  unfold f_KT_linked f_M_linked
  rw [hK.1.1, hM.1.1, e_sharedHands hA hK, e_M_sumOfHands hA hM 1 (x := mk (ap A) (aF A) &&& mo A) (fun k hk => ⟨fun h => ⟨pb_iff.mpr (sh_and h).1, Or.inr h⟩, fun h => h.2.resolve_left (by decide)⟩)]
  simp only [Option.bind_some]
  have := hA.1.1
  by_cases c : aR A = 2
  · rw [if_pos (by omega), if_pos (by omega)]
    exact ⟨_, rfl, rfl⟩
  · rw [if_neg (by omega), if_neg (by omega)]
    exact ⟨_, rfl, rfl⟩
end SMALL
