/-! the passes at both ends of a piece change places -/
def swA (A : zA) (j : Nat) : zA := (aR A, aF A, aN A, fun i => if i = j then ap A (nx (aF A) (aN A) j) else if i = nx (aF A) (aN A) j then ap A j else ap A i, ah A)
def tau (A : zA) (j i : Nat) : Nat := if i = j then nx (aF A) (aN A) j else if i = nx (aF A) (aN A) j then j else i
theorem sw_ap (A : zA) (j i : Nat) : ap (swA A j) i = ap A (tau A j i) := by
  show (if i = j then ap A (nx (aF A) (aN A) j) else if i = nx (aF A) (aN A) j then ap A j else ap A i) = _
  unfold tau
  split
  · rfl
  · split <;> rfl
theorem tau_lt {A : zA} (hA : okB A) {j i : Nat} (hj : j < aN A) (hi : i < aN A) : tau A j i < aN A := by
  have := nx_lt hA hj
  unfold tau
  split
  · exact this
  · split <;> assumption
theorem tau_tau (A : zA) (j i : Nat) : tau A j (tau A j i) = i := by
  unfold tau
  by_cases h1 : i = j
  · rw [if_pos h1]
    by_cases h2 : nx (aF A) (aN A) j = j
    · rw [if_pos h2, h1, h2]
    · rw [if_neg h2, if_pos rfl, h1]
  · rw [if_neg h1]
    by_cases h2 : i = nx (aF A) (aN A) j
    · rw [if_pos h2, if_pos rfl, h2]
    · rw [if_neg h2, if_neg h1, if_neg h2]
theorem okA_sw {A : zA} (hA : okA A) {j : Nat} (hj : j < aN A) : okA (swA A j) := by
  refine ⟨⟨hA.1.1, hA.1.2.1, hA.1.2.2.1, ?_, ?_⟩, hA.2.1, hA.2.2.1, ?_, ?_⟩
  · intro i hi
    rw [sw_ap]
    exact hA.1.2.2.2.1 _ (tau_lt hA.1 hj hi)
  · intro i k hi hk he
    rw [sw_ap, sw_ap] at he
    have := hA.1.2.2.2.2 _ _ (tau_lt hA.1 hj hi) (tau_lt hA.1 hj hk) he
    rw [← tau_tau A j i, ← tau_tau A j k, this]
  · intro i hi
    obtain ⟨k, k1, k2, k3⟩ := hA.2.2.2.1 _ (tau_lt hA.1 hj hi)
    refine ⟨tau A j k, tau_lt hA.1 hj k1, ?_, ?_⟩
    · rw [sw_ap, sw_ap, tau_tau]
      exact k2
    · rw [sw_ap, sw_ap, tau_tau]
      exact k3
  · rintro k ⟨i, hi, hk⟩
    rw [sw_ap] at hk
    exact hA.2.2.2.2 k ⟨_, tau_lt hA.1 hj hi, hk⟩
theorem pr_sw {A : zA} (hA : okA A) {j k : Nat} (hj : j < aN A) (h : pr (swA A j) k) : pr A k := by
  obtain ⟨i, hi, hk⟩ := h
  rw [sw_ap] at hk
  exact ⟨_, tau_lt hA.1 hj hi, hk⟩
theorem wp_swapAlong {b : Nat} {A : zA} (hA : okA A) {s : kM} (hK : KR b A s) (hX : ∀ j, j < aN A → s (b + 3) j = ((nx (aF A) (aN A) j : Nat) : Int)) {j : Nat} (hj : j < aN A) : wp (f_Town_swapAlong b j s) (fun t => KR b (swA A j) t ∧ ∀ z, z ≠ b + 1 → t z = s z) := by
  have hn := okB_n hA.1
  have hl := nx_lt hA.1 hj
  have n1 : b ≠ b + 1 := by omega
  have n2 : b + 2 ≠ b + 1 := by omega
  have h1 : f_Town_hasPlace b (j : Int) s = some 1 := by
    unfold f_Town_hasPlace
    rw [hK.2.2.1]
    rw [if_neg (by omega), if_neg (by omega)]
  have i1 : gI 22 (j : Int) = some j := gI_n (by omega)
  have i2 : gI 22 ((nx (aF A) (aN A) j : Nat) : Int) = some (nx (aF A) (aN A) j) := gI_n (by omega)
  unfold f_Town_swapAlong
  rw [h1, Option.bind_some, if_neg (by decide), i1, Option.bind_some, Option.bind_some, hX j hj, i2, Option.bind_some, Option.bind_some, gLet_eq, Option.bind_some, gLet_eq, wp_some, hK.2.2.2.1 j hj, hK.2.2.2.1 _ hl]
  refine ⟨⟨by rw [gU_n _ _ _ n1, gU_n _ _ _ n1]; exact hK.1, by rw [gU_n _ _ _ n1, gU_n _ _ _ n1]; exact hK.2.1, by rw [gU_n _ _ _ n1, gU_n _ _ _ n1]; exact hK.2.2.1, fun i hi => ?_, fun k hk => ?_⟩, fun z hz => by rw [gU_n _ _ _ hz, gU_n _ _ _ hz]⟩
  · show _ = ((if i = j then ap A (nx (aF A) (aN A) j) else if i = nx (aF A) (aN A) j then ap A j else ap A i : Nat) : Int)
    by_cases c1 : i = nx (aF A) (aN A) j
    · rw [c1, gUs]
      by_cases c2 : nx (aF A) (aN A) j = j
      · rw [if_pos c2, c2]
      · rw [if_neg c2, if_pos rfl]
    · rw [gUo _ _ _ c1]
      by_cases c2 : i = j
      · rw [c2, gUs, if_pos rfl]
      · rw [gUo _ _ _ c2, if_neg c2, if_neg c1]
        exact hK.2.2.2.1 i hi
  · rw [gU_n _ _ _ n2, gU_n _ _ _ n2]
    exact hK.2.2.2.2 k (pr_sw hA hj hk)
theorem wp_swapsPasses {A : zA} (hA : okA A) {s : kM} (hM : MR A s) {j : Nat} (hj : j < aN A) : wp (f_M_swapsPasses j s) (fun t => MR (swA A j) t ∧ ∀ z, z ≠ 87 → z ≠ 88 → t z = s z) := by
  have hn := okB_n hA.1
  have hl := nx_lt hA.1 hj
  have i1 : gI 22 (j : Int) = some j := gI_n (by omega)
  have i2 : gI 22 ((nx (aF A) (aN A) j : Nat) : Int) = some (nx (aF A) (aN A) j) := gI_n (by omega)
  obtain ⟨m1, m2⟩ := hM.2.2.2.1 j hj
  obtain ⟨m3, m4⟩ := hM.2.2.2.1 _ hl
  unfold f_M_swapsPasses
  rw [e_M_next hA.1 hM hj, Option.bind_some, i1, Option.bind_some, Option.bind_some, i2, Option.bind_some, Option.bind_some, gLet_eq, Option.bind_some, Option.bind_some, gLet_eq, Option.bind_some, gLet_eq, Option.bind_some, gLet_eq, wp_some, gU_n _ _ _ (show 88 ≠ 87 by decide), m1, m2, m3, m4]
  obtain ⟨G, hG⟩ : ∃ G, G = gU (gU (gU (gU s 87 j ((ap A (nx (aF A) (aN A) j) / 2 : Nat) : Int)) 88 j ((ap A (nx (aF A) (aN A) j) % 2 : Nat) : Int)) 87 (nx (aF A) (aN A) j) ((ap A j / 2 : Nat) : Int)) 88 (nx (aF A) (aN A) j) ((ap A j % 2 : Nat) : Int) := ⟨_, rfl⟩
  rw [← hG]
  have G1 : ∀ z, z ≠ 87 → z ≠ 88 → G z = s z := fun z z1 z2 => by rw [hG, gU_n _ _ _ z2, gU_n _ _ _ z1, gU_n _ _ _ z2, gU_n _ _ _ z1]
  have G2 : G 87 = kup (kup (s 87) j ((ap A (nx (aF A) (aN A) j) / 2 : Nat) : Int)) (nx (aF A) (aN A) j) ((ap A j / 2 : Nat) : Int) := by
    rw [hG, gU_n _ _ _ (show 87 ≠ 88 by decide), gU_s, gU_n _ _ _ (show 87 ≠ 88 by decide), gU_s]
  have G3 : G 88 = kup (kup (s 88) j ((ap A (nx (aF A) (aN A) j) % 2 : Nat) : Int)) (nx (aF A) (aN A) j) ((ap A j % 2 : Nat) : Int) := by
    rw [hG, gU_s, gU_n _ _ _ (show 88 ≠ 87 by decide), gU_s, gU_n _ _ _ (show 88 ≠ 87 by decide)]
  clear hG
  have g86 : G 86 = s 86 := G1 86 (by decide) (by decide)
  refine ⟨⟨by rw [g86]; exact hM.1, by rw [g86]; exact hM.2.1, by rw [g86]; exact hM.2.2.1, fun i hi => ?_, fun k hk => ?_⟩, G1⟩
  · rw [G2, G3]
    have e1 : ap (swA A j) i = if i = j then ap A (nx (aF A) (aN A) j) else if i = nx (aF A) (aN A) j then ap A j else ap A i := rfl
    rw [e1]
    unfold kup
    by_cases c1 : i = nx (aF A) (aN A) j
    · by_cases c2 : i = j
      · simp only [if_pos c1, if_pos c2, ← c1, c2]
        exact ⟨rfl, rfl⟩
      · simp only [if_pos c1, if_neg c2]
        exact ⟨trivial, trivial⟩
    · by_cases c2 : i = j
      · simp only [if_neg c1, if_pos c2]
        exact ⟨trivial, trivial⟩
      · simp only [if_neg c1, if_neg c2]
        exact hM.2.2.2.1 i hi
  · rw [G1 89 (by decide) (by decide)]
    exact hM.2.2.2.2 k (pr_sw hA hj hk)
/-- three pieces -/
def sw3 (A : zA) (i j k : Nat) : zA := swA (swA (swA A i) j) k
theorem okA_sw3 {A : zA} (hA : okA A) {i j k : Nat} (hi : i < aN A) (hj : j < aN A) (hk : k < aN A) : okA (sw3 A i j k) := okA_sw (okA_sw (okA_sw hA hi) hj) hk
theorem wp_M_slides {A : zA} (hA : okA A) {s : kM} (hM : MT A s) {i j k : Nat} (hi : i < aN A) (hj : j < aN A) (hk : k < aN A) (h0 : s 116 0 = (i : Int)) (h1 : s 116 1 = (j : Int)) (h2 : s 116 2 = (k : Int)) : wp (f_M_slides s) (fun t => MT (sw3 A i j k) t) := by
  have a1 := okA_sw hA hi
  have a2 := okA_sw a1 (j := j) hj
  have a3 := okA_sw a2 (j := k) hk
  obtain ⟨t1, f1, m1, e1⟩ := wp_swapsPasses hA hM.1 hi
  obtain ⟨t2, f2, m2, e2⟩ := wp_swapsPasses a1 m1 (j := j) hj
  obtain ⟨t3, f3, m3, e3⟩ := wp_swapsPasses a2 m2 (j := k) hk
  obtain ⟨t4, f4, m4⟩ := wp_refresh a3.1 m3
  refine ⟨t4, ?_, m4⟩
  unfold f_M_slides f_M_slides_2
  have st : ∀ (n q r : Nat) (g g' : kM), q < 3 → g 116 q = (r : Int) → f_M_swapsPasses r g = some g' → gL (fun (x : Int × kM) => f_M_slides_2b x.1 x.2) (n + 1) ((q : Int), g) = gL (fun (x : Int × kM) => f_M_slides_2b x.1 x.2) n (((q + 1 : Nat) : Int), g') := by
    intro n q r g g' hq hg hf
    refine gLl ?_
    show f_M_slides_2b q g = _
    unfold f_M_slides_2b
    rw [if_neg (by omega), gI_n hq, Option.bind_some, hg, hf, Option.bind_some, wI_s (by omega)]
  refine (st 4095 0 i s t1 (by omega) h0 f1).trans ?_
  refine (st 4094 1 j t1 t2 (by omega) (by rw [e1 116 (by decide) (by decide)]; exact h1) f2).trans ?_
  refine (st 4093 2 k t2 t3 (by omega) (by rw [e2 116 (by decide) (by decide), e1 116 (by decide) (by decide)]; exact h2) f3).trans ?_
  refine gLr (n := 4092) ?_
  show f_M_slides_2b ((3 : Nat) : Int) t3 = _
  unfold f_M_slides_2b
  rw [if_pos (by decide), f4, Option.bind_some]
