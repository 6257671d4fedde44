/-! bridges that go: the passes that are kept, in their order -/
def kpt (X : Nat) (A : zA) : Nat → Bool := fun j => !X.testBit (ap A j / 2)
def kp (X : Nat) (A : zA) (n : Nat) : Nat := cq (kpt X A) n
def dpf (X : Nat) (A : zA) : Nat → Nat → Nat
  | 0 => fun _ => 0
  | n + 1 => if kpt X A n = true then (fun j => if j = kp X A n then ap A n else dpf X A n j) else dpf X A n
theorem dpf_s (X : Nat) (A : zA) (n : Nat) : dpf X A (n + 1) = if kpt X A n = true then (fun j => if j = kp X A n then ap A n else dpf X A n j) else dpf X A n := rfl
def drp (X : Nat) (A : zA) : zA := (aR A, kp X A (aF A), kp X A (aN A), dpf X A (aN A), ah A)
theorem kp_s (X : Nat) (A : zA) (n : Nat) : kp X A (n + 1) = kp X A n + if kpt X A n = true then 1 else 0 := rfl
theorem kp_le (X : Nat) (A : zA) : ∀ n, kp X A n ≤ n
  | 0 => Nat.le_refl 0
  | n + 1 => by
    have := kp_le X A n
    rw [kp_s]
    split <;> omega
theorem dpf_at {X : Nat} {A : zA} {i : Nat} (hi : kpt X A i = true) : ∀ n, i < n → dpf X A n (kp X A i) = ap A i
  | 0, h => by omega
  | n + 1, h => by
    rw [dpf_s]
    by_cases hin : i = n
    · subst hin
      rw [if_pos hi]
      show (if kp X A i = kp X A i then ap A i else dpf X A i (kp X A i)) = ap A i
      rw [if_pos rfl]
    · have ih := dpf_at hi n (by omega)
      by_cases hn : kpt X A n = true
      · have hlt : kp X A i < kp X A n := cq_lt (by omega) hi
        rw [if_pos hn]
        show (if kp X A i = kp X A n then ap A n else dpf X A n (kp X A i)) = ap A i
        rw [if_neg (by omega)]
        exact ih
      · rw [if_neg hn]
        exact ih
theorem drp_at {X : Nat} {A : zA} {j : Nat} (hj : j < aN (drp X A)) : ∃ i, i < aN A ∧ kpt X A i = true ∧ kp X A i = j ∧ ap (drp X A) j = ap A i := by
  obtain ⟨i, h1, h2, h3⟩ := cq_sur (P := kpt X A) (aN A) hj
  refine ⟨i, h1, h2, h3, ?_⟩
  show dpf X A (aN A) j = ap A i
  have h3' : kp X A i = j := h3
  rw [← h3']
  exact dpf_at h2 _ h1
theorem okA_drp {X : Nat} {A : zA} (hA : okA A) : okA (drp X A) := by
  have hn := okB_n hA.1
  refine ⟨⟨hA.1.1, cq_mono _ _ hn.1, ?_, ?_, ?_⟩, ?_, ?_, ?_, ?_⟩
  · have := kp_le X A (aN A)
    show kp X A (aN A) ≤ 22
    omega
  · intro j hj
    obtain ⟨i, h1, h2, h3, h4⟩ := drp_at hj
    rw [h4]
    exact hA.1.2.2.2.1 i h1
  · intro i j hi hj he
    obtain ⟨i', h1, h2, h3, h4⟩ := drp_at hi
    obtain ⟨j', k1, k2, k3, k4⟩ := drp_at hj
    rw [h4, k4] at he
    have := hA.1.2.2.2.2 i' j' h1 k1 he
    rw [← h3, ← k3, this]
  · intro h
    have h0 : aN A = 0 := hA.2.1 h
    show kp X A (aN A) = 0
    rw [h0]
    rfl
  · intro h
    have h0 : aF A = aN A := hA.2.2.1 h
    show kp X A (aF A) = kp X A (aN A)
    rw [h0]
  · intro j hj
    obtain ⟨i, h1, h2, h3, h4⟩ := drp_at hj
    obtain ⟨k, k1, k2, k3⟩ := hA.2.2.2.1 i h1
    have hk : kpt X A k = true := by
      unfold kpt at h2 ⊢
      rw [k2]
      exact h2
    refine ⟨kp X A k, cq_lt k1 hk, ?_, ?_⟩
    · show dpf X A (aN A) (kp X A k) / 2 = _
      rw [dpf_at hk _ k1, h4, k2]
    · show dpf X A (aN A) (kp X A k) ≠ _
      rw [dpf_at hk _ k1, h4]
      exact k3
  · rintro k ⟨j, hj, hk⟩
    obtain ⟨i, h1, h2, h3, h4⟩ := drp_at hj
    rw [h4] at hk
    exact hA.2.2.2.2 k ⟨i, h1, hk⟩
theorem pr_drp {X : Nat} {A : zA} {k : Nat} (h : pr (drp X A) k) : pr A k := by
  obtain ⟨j, hj, hk⟩ := h
  obtain ⟨i, h1, h2, h3, h4⟩ := drp_at hj
  rw [h4] at hk
  exact ⟨i, h1, hk⟩
/-- kept of the first road, among n places -/
theorem kpF {X : Nat} {A : zA} {n : Nat} : kp X A (mi n (aF A)) + (if kpt X A n = true then (if n < aF A then 1 else 0) else 0) = kp X A (mi (n + 1) (aF A)) := by
  have m1 : n < aF A → mi n (aF A) = n ∧ mi (n + 1) (aF A) = n + 1 := fun h => by
    unfold mi
    constructor <;> (rw [if_neg (by omega)])
  have m2 : ¬ n < aF A → mi n (aF A) = aF A ∧ mi (n + 1) (aF A) = aF A := fun h => by
    unfold mi
    constructor
    · split <;> omega
    · rw [if_pos (by omega)]
  by_cases h : n < aF A
  · rw [(m1 h).1, (m1 h).2, if_pos h, kp_s]
  · rw [(m2 h).1, (m2 h).2, if_neg h]
    split <;> rfl
theorem mi_0 (a : Nat) : mi 0 a = 0 := by unfold mi; rw [if_neg (by omega)]
theorem mi_N {a b : Nat} (h : b ≤ a) : mi a b = b := by unfold mi; split <;> omega
theorem wp_drop {b : Nat} {A : zA} (hA : okA A) {s : kM} (hK : KR b A s) {X : Nat} (hX : X < 2 ^ 11) : wp (f_Town_drop b X s) (fun t => KR b (drp X A) t ∧ (∀ z, z ≠ b → z ≠ b + 1 → t z = s z) ∧ ∀ i, i ≠ 1 → i ≠ 2 → t b i = s b i) := by
  have hn := okB_n hA.1
  have n1 : b ≠ b + 1 := by omega
  have n2 : b + 1 ≠ b := by omega
  have n3 : b + 2 ≠ b := by omega
  have n4 : b + 2 ≠ b + 1 := by omega
  unfold f_Town_drop f_Town_drop_6
  refine wp_for (aN A) (fun n x => x.1 = ((kp X A n : Nat) : Int) ∧ x.2.1 = ((kp X A (mi n (aF A)) : Nat) : Int) ∧ x.2.2.1 = (n : Int) ∧ (∀ z, z ≠ b + 1 → x.2.2.2 z = s z) ∧ (∀ j, j < kp X A n → x.2.2.2 (b + 1) j = ((dpf X A n j : Nat) : Int)) ∧ ∀ j, kp X A n ≤ j → x.2.2.2 (b + 1) j = s (b + 1) j) 0 _ (by omega) (by omega) (by exact ⟨rfl, by dsimp only; rw [mi_0]; rfl, rfl, fun _ _ => rfl, fun j hj => absurd hj (Nat.not_lt_zero j), fun _ _ => rfl⟩) ?_ ?_
  · rintro n ⟨y1, y2, y3, w⟩ _ hk ⟨rfl, rfl, rfl, q1, q2, q3⟩
    dsimp only at q1 q2 q3
    have hle := kp_le X A n
    have hpn := hA.1.2.2.2.1 n hk
    have e1 : w (b + 1) n = ((ap A n : Nat) : Int) := by rw [q3 n hle]; exact hK.2.2.2.1 n hk
    have e2 : kshr ((ap A n : Nat) : Int) 1 = ((ap A n / 2 : Nat) : Int) := kshr_n (k := 1) (by omega) (by omega)
    have wb : w b = s b := q1 b n1
    have i22 : gI 22 (n : Int) = some n := gI_n (by omega)
    have ik : gI 22 ((kp X A n : Nat) : Int) = some (kp X A n) := gI_n (by omega)
    have hkm : kp X A (mi n (aF A)) ≤ n := by
      have := kp_le X A (mi n (aF A))
      have : mi n (aF A) ≤ n := by unfold mi; split <;> omega
      omega
    have hF := kpF (X := X) (A := A) (n := n)
    dsimp only
    unfold f_Town_drop_6b
    rw [wb, hK.2.2.1, if_neg (show ¬ ((aN A : Nat) : Int) ≤ (n : Int) by omega), i22, Option.bind_some, e1, e2, kbit (by omega) (by omega)]
    by_cases hb : X.testBit (ap A n / 2) = true
    · have hkp : ¬ kpt X A n = true := by unfold kpt; rw [hb]; decide
      rw [if_neg hkp] at hF
      rw [if_pos hb, if_neg (by decide)]
      unfold f_Town_drop_40
      rw [wp_some, gE_l]
      dsimp only
      rw [wI_s (by omega), kp_s, dpf_s, if_neg hkp, if_neg hkp, ← hF]
      exact ⟨rfl, rfl, rfl, q1, q2, q3⟩
    · have hkp : kpt X A n = true := by unfold kpt; rw [Bool.eq_false_iff.mpr hb]; rfl
      rw [if_pos hkp] at hF
      rw [if_neg hb, if_pos rfl, Option.bind_some, ik, Option.bind_some, gLet_eq, e1, gU_n _ _ _ n1, wb, hK.2.1]
      have fin : ∀ d : Nat, d ≤ 1 → kp X A (mi n (aF A)) + d = kp X A (mi (n + 1) (aF A)) → wp (f_Town_drop_38 b X (wI (((kp X A n : Nat) : Int) + 1)) n ((kp X A (mi n (aF A)) : Nat) : Int) d (gU w (b + 1) (kp X A n) ((ap A n : Nat) : Int))) (gE (fun x => x.1 = ((kp X A (n + 1) : Nat) : Int) ∧ x.2.1 = ((kp X A (mi (n + 1) (aF A)) : Nat) : Int) ∧ x.2.2.1 = ((n + 1 : Nat) : Int) ∧ (∀ z, z ≠ b + 1 → x.2.2.2 z = s z) ∧ (∀ j, j < kp X A (n + 1) → x.2.2.2 (b + 1) j = ((dpf X A (n + 1) j : Nat) : Int)) ∧ ∀ j, kp X A (n + 1) ≤ j → x.2.2.2 (b + 1) j = s (b + 1) j) (fun t => KR b (drp X A) t ∧ (∀ z, z ≠ b → z ≠ b + 1 → t z = s z) ∧ ∀ i, i ≠ 1 → i ≠ 2 → t b i = s b i)) := by
        intro d hd he
        unfold f_Town_drop_38 f_Town_drop_40
        rw [wp_some, gE_l]
        dsimp only
        rw [wI_s (by omega), wI_s (by omega), wI_add2 (by omega), he, kp_s, dpf_s, if_pos hkp, if_pos hkp]
        refine ⟨rfl, rfl, rfl, fun z hz => by rw [gU_n _ _ _ hz]; exact q1 z hz, fun j hj => ?_, fun j hj => ?_⟩
        · by_cases hjk : j = kp X A n
          · rw [hjk, gUs, if_pos rfl]
          · rw [gUo _ _ _ hjk, if_neg hjk]
            exact q2 j (by omega)
        · rw [gUo _ _ _ (by omega)]
          exact q3 j (by omega)
      by_cases hnF : n < aF A
      · rw [if_pos hnF] at hF
        rw [if_neg (by omega)]
        exact fin 1 (by omega) hF
      · rw [if_neg hnF] at hF
        rw [if_pos (by omega)]
        exact fin 0 (by omega) hF
  · rintro ⟨y1, y2, y3, w⟩ ⟨rfl, rfl, rfl, q1, q2, q3⟩
    dsimp only at q1 q2 q3
    have wb : w b = s b := q1 b n1
    dsimp only
    unfold f_Town_drop_6b
    rw [wb, hK.2.2.1, if_pos (Int.le_refl _), gLet_eq, gLet_eq, wp_some, gE_r, mi_N hn.1]
    refine ⟨⟨?_, ?_, ?_, fun j hj => ?_, fun k hk => ?_⟩, fun z z1 z2 => ?_, fun i i1 i2 => ?_⟩
    · rw [gUo _ _ _ (by decide), gUo _ _ _ (by decide), wb]
      exact hK.1
    · rw [gUo _ _ _ (by decide), gUs]
      rfl
    · rw [gUs]
      rfl
    · rw [gU_n _ _ _ n2, gU_n _ _ _ n2]
      exact q2 j hj
    · rw [gU_n _ _ _ n3, gU_n _ _ _ n3, q1 _ n4]
      exact hK.2.2.2.2 k (pr_drp hk)
    · rw [gU_n _ _ _ z1, gU_n _ _ _ z1, q1 z z2]
    · rw [gUo _ _ _ i2, gUo _ _ _ i1, wb]
theorem wp_removes {A : zA} (hA : okA A) {s : kM} (hM : MT A s) {X : Nat} (hX : X < 2 ^ 11) : wp (f_M_removes X s) (fun t => MT (drp X A) t ∧ ∀ i, 3 ≤ i → t 86 i = s 86 i) := by
  have hn := okB_n hA.1
  unfold f_M_removes
  rw [e_M_places hA.1 hM.1, Option.bind_some]
  unfold f_M_removes_9
  refine wp_for (aN A) (fun n x => x.1 = ((kp X A n : Nat) : Int) ∧ x.2.1 = ((kp X A (mi n (aF A)) : Nat) : Int) ∧ x.2.2.1 = (n : Int) ∧ (∀ z, z ≠ 87 → z ≠ 88 → x.2.2.2 z = s z) ∧ (∀ j, j < kp X A n → x.2.2.2 87 j = ((dpf X A n j / 2 : Nat) : Int) ∧ x.2.2.2 88 j = ((dpf X A n j % 2 : Nat) : Int)) ∧ ∀ j, kp X A n ≤ j → x.2.2.2 87 j = s 87 j ∧ x.2.2.2 88 j = s 88 j) 0 _ (by omega) (by omega) (by exact ⟨rfl, by dsimp only; rw [mi_0]; rfl, rfl, fun _ _ _ => rfl, fun j hj => absurd hj (Nat.not_lt_zero j), fun _ _ => ⟨rfl, rfl⟩⟩) ?_ ?_
  · rintro n ⟨y1, y2, y3, w⟩ _ hk ⟨rfl, rfl, rfl, q1, q2, q3⟩
    dsimp only at q1 q2 q3
    have hle := kp_le X A n
    have hpn := hA.1.2.2.2.1 n hk
    have e1 : w 87 n = ((ap A n / 2 : Nat) : Int) := by rw [(q3 n hle).1]; exact (hM.1.2.2.2.1 n hk).1
    have e2 : w 88 n = ((ap A n % 2 : Nat) : Int) := by rw [(q3 n hle).2]; exact (hM.1.2.2.2.1 n hk).2
    have w86 : w 86 = s 86 := q1 86 (by decide) (by decide)
    have i22 : gI 22 (n : Int) = some n := gI_n (by omega)
    have ik : gI 22 ((kp X A n : Nat) : Int) = some (kp X A n) := gI_n (by omega)
    have hkm : kp X A (mi n (aF A)) ≤ n := by
      have := kp_le X A (mi n (aF A))
      have : mi n (aF A) ≤ n := by unfold mi; split <;> omega
      omega
    have hF := kpF (X := X) (A := A) (n := n)
    dsimp only
    unfold f_M_removes_9b
    rw [if_neg (show ¬ ((aN A : Nat) : Int) ≤ (n : Int) by omega), i22, Option.bind_some, e1, kbit (by omega) (by omega)]
    by_cases hb : X.testBit (ap A n / 2) = true
    · have hkp : ¬ kpt X A n = true := by unfold kpt; rw [hb]; decide
      rw [if_neg hkp] at hF
      rw [if_pos hb, if_neg (by decide)]
      unfold f_M_removes_50
      rw [wp_some, gE_l]
      dsimp only
      rw [wI_s (by omega), kp_s, dpf_s, if_neg hkp, if_neg hkp, ← hF]
      exact ⟨rfl, rfl, rfl, q1, q2, q3⟩
    · have hkp : kpt X A n = true := by unfold kpt; rw [Bool.eq_false_iff.mpr hb]; rfl
      rw [if_pos hkp] at hF
      rw [if_neg hb, if_pos rfl, w86, hM.1.2.1]
      have fin : ∀ d : Nat, d ≤ 1 → kp X A (mi n (aF A)) + d = kp X A (mi (n + 1) (aF A)) → wp (f_M_removes_31 X ((kp X A n : Nat) : Int) ((aN A : Nat) : Int) n ((kp X A (mi n (aF A)) : Nat) : Int) d w) (gE (fun x => x.1 = ((kp X A (n + 1) : Nat) : Int) ∧ x.2.1 = ((kp X A (mi (n + 1) (aF A)) : Nat) : Int) ∧ x.2.2.1 = ((n + 1 : Nat) : Int) ∧ (∀ z, z ≠ 87 → z ≠ 88 → x.2.2.2 z = s z) ∧ (∀ j, j < kp X A (n + 1) → x.2.2.2 87 j = ((dpf X A (n + 1) j / 2 : Nat) : Int) ∧ x.2.2.2 88 j = ((dpf X A (n + 1) j % 2 : Nat) : Int)) ∧ ∀ j, kp X A (n + 1) ≤ j → x.2.2.2 87 j = s 87 j ∧ x.2.2.2 88 j = s 88 j) (fun t => MT (drp X A) t ∧ ∀ i, 3 ≤ i → t 86 i = s 86 i)) := by
        intro d hd he
        unfold f_M_removes_31 f_M_removes_50
        rw [i22, Option.bind_some, ik, Option.bind_some, gLet_eq, Option.bind_some, Option.bind_some, gLet_eq, wp_some, gE_l]
        dsimp only
        rw [wI_s (by omega), wI_s (by omega), wI_add2 (by omega), he, kp_s, dpf_s, if_pos hkp, if_pos hkp, gU_n _ _ _ (show 88 ≠ 87 by decide), e1, e2]
        refine ⟨rfl, rfl, rfl, fun z z1 z2 => by rw [gU_n _ _ _ z2, gU_n _ _ _ z1]; exact q1 z z1 z2, fun j hj => ?_, fun j hj => ?_⟩
        · rw [gU_n _ _ _ (show 87 ≠ 88 by decide)]
          by_cases hjk : j = kp X A n
          · rw [hjk, gUs, gUs, if_pos rfl]
            exact ⟨rfl, rfl⟩
          · rw [gUo _ _ _ hjk, gUo _ _ _ hjk, gU_n _ _ _ (show 88 ≠ 87 by decide), if_neg hjk]
            exact q2 j (by omega)
        · rw [gU_n _ _ _ (show 87 ≠ 88 by decide), gUo _ _ _ (by omega), gUo _ _ _ (by omega), gU_n _ _ _ (show 88 ≠ 87 by decide)]
          exact q3 j (by omega)
      by_cases hnF : n < aF A
      · rw [if_pos hnF] at hF
        rw [if_neg (by omega)]
        exact fin 1 (by omega) hF
      · rw [if_neg hnF] at hF
        rw [if_pos (by omega)]
        exact fin 0 (by omega) hF
  · rintro ⟨y1, y2, y3, w⟩ ⟨rfl, rfl, rfl, q1, q2, q3⟩
    dsimp only at q1 q2 q3
    have w86 : w 86 = s 86 := q1 86 (by decide) (by decide)
    have hle := kp_le X A (aN A)
    have hmono : kp X A (aF A) ≤ kp X A (aN A) := cq_mono _ _ hn.1
    dsimp only
    unfold f_M_removes_9b
    rw [if_pos (Int.le_refl _), gLet_eq, gLet_eq, mi_N hn.1, wI_sub2 hmono (by omega)]
    obtain ⟨G, hG⟩ : ∃ G, G = gU (gU w 86 1 ((kp X A (aF A) : Nat) : Int)) 86 2 ((kp X A (aN A) - kp X A (aF A) : Nat) : Int) := ⟨_, rfl⟩
    rw [← hG]
    have hMG : MR (drp X A) G := by
      refine ⟨?_, ?_, ?_, fun j hj => ?_, fun k hk => ?_⟩
      · rw [hG, gUo _ _ _ (by decide), gUo _ _ _ (by decide), w86]
        exact hM.1.1
      · rw [hG, gUo _ _ _ (by decide), gUs]
        rfl
      · rw [hG, gUs]
        show ((kp X A (aN A) - kp X A (aF A) : Nat) : Int) = ((kp X A (aN A) : Nat) : Int) - ((kp X A (aF A) : Nat) : Int)
        omega
      · rw [hG, gU_n _ _ _ (by decide), gU_n _ _ _ (by decide), gU_n _ _ _ (by decide), gU_n _ _ _ (by decide)]
        exact q2 j hj
      · rw [hG, gU_n _ _ _ (by decide), gU_n _ _ _ (by decide), q1 89 (by decide) (by decide)]
        exact hM.1.2.2.2.2 k (pr_drp hk)
    have hG3 : ∀ i, 3 ≤ i → G 86 i = s 86 i := fun i hi => by rw [hG, gUo _ _ _ (by omega), gUo _ _ _ (by omega), w86]
    clear hG
    obtain ⟨u, f1, u1⟩ := wp_refresh (okA_drp (X := X) hA).1 hMG
    have fr : ∀ z, z ∉ W_M_refresh → u z = G z := w_M_refresh G u f1
    rw [f1, Option.bind_some, wp_some, gE_r]
    exact ⟨u1, fun i hi => by rw [fr 86 (by decide)]; exact hG3 i hi⟩
