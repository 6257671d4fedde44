/-! SEARCH: passes packed five bits each -/
def pkf (f : Nat → Nat) : Nat → Nat
  | 0 => 0
  | n + 1 => pkf f n + (f n + 1) * 32 ^ n
theorem pkf_s (f : Nat → Nat) (n : Nat) : pkf f (n + 1) = pkf f n + (f n + 1) * 32 ^ n := rfl
theorem pkf_c {f g : Nat → Nat} : ∀ n, (∀ i, i < n → f i = g i) → pkf f n = pkf g n
  | 0, _ => rfl
  | n + 1, h => by rw [pkf_s, pkf_s, pkf_c n (fun i hi => h i (by omega)), h n (by omega)]
theorem pkf_lt {f : Nat → Nat} : ∀ n, (∀ i, i < n → f i < 31) → pkf f n < 32 ^ n
  | 0, _ => Nat.zero_lt_one
  | n + 1, h => by
    have ih := pkf_lt n (fun i hi => h i (by omega))
    have h2 : f n + 1 ≤ 31 := by have := h n (by omega); omega
    have h3 : (f n + 1) * 32 ^ n ≤ 31 * 32 ^ n := Nat.mul_le_mul_right _ h2
    rw [pkf_s, Nat.pow_succ]
    omega
theorem pkf_d {f : Nat → Nat} {i : Nat} : ∀ n, (∀ j, j < n → f j < 31) → pkf f n / 32 ^ i % 32 = if i < n then f i + 1 else 0
  | 0, _ => by
    rw [if_neg (by omega)]
    show 0 / 32 ^ i % 32 = 0
    rw [Nat.zero_div]
  | n + 1, h => by
    have ih := pkf_d (i := i) n (fun j hj => h j (by omega))
    have hl := pkf_lt n (fun j hj => h j (by omega))
    have hp : 0 < 32 ^ n := Nat.pow_pos (by decide)
    have hpi : 0 < 32 ^ i := Nat.pow_pos (by decide)
    have hfn : f n + 1 ≤ 31 := by have := h n (by omega); omega
    rw [pkf_s]
    by_cases h1 : i < n
    · rw [if_pos (by omega), ← (if_pos h1 : (if i < n then f i + 1 else 0) = f i + 1), ← ih]
      have e1 : (f n + 1) * 32 ^ n = 32 ^ i * ((f n + 1) * 32 ^ (n - i)) := by
        have : 32 ^ n = 32 ^ i * 32 ^ (n - i) := by rw [← Nat.pow_add]; congr 1; omega
        rw [this, Nat.mul_left_comm]
      have e2 : 32 ^ (n - i) = 32 * 32 ^ (n - i - 1) := by
        have : n - i = (n - i - 1) + 1 := by omega
        conv => lhs; rw [this]
        rw [Nat.pow_succ, Nat.mul_comm]
      rw [e1, Nat.add_mul_div_left _ _ hpi, e2, Nat.mul_left_comm, Nat.add_mul_mod_self_left]
    · by_cases h2 : i = n
      · rw [h2, if_pos (by omega), Nat.add_mul_div_right _ _ hp, Nat.div_eq_of_lt hl, Nat.zero_add, Nat.mod_eq_of_lt (by omega)]
      · rw [if_neg (by omega)]
        have hlt : pkf f n + (f n + 1) * 32 ^ n < 32 ^ i := by
          have h3 := pkf_lt (f := f) (n + 1) h
          rw [pkf_s] at h3
          exact Nat.lt_of_lt_of_le h3 (Nat.pow_le_pow_right (by decide) (by omega))
        rw [Nat.div_eq_of_lt hlt]
theorem pkf_i {f g : Nat → Nat} {n m : Nat} (hf : ∀ j, j < n → f j < 31) (hg : ∀ j, j < m → g j < 31) (h : pkf f n = pkf g m) : n = m ∧ ∀ i, i < n → f i = g i := by
  have key : ∀ i, (if i < n then f i + 1 else 0) = (if i < m then g i + 1 else 0) := fun i => by rw [← pkf_d n hf, ← pkf_d m hg, h]
  have hnm : n = m := by
    by_cases h1 : n < m
    · have := key n
      rw [if_neg (by omega), if_pos h1] at this
      omega
    · by_cases h2 : m < n
      · have := key m
        rw [if_pos h2, if_neg (by omega)] at this
        omega
      · omega
  refine ⟨hnm, fun i hi => ?_⟩
  have := key i
  rw [if_pos hi, if_pos (by omega)] at this
  omega
/-- what comes on top -/
theorem pkf_or {p c k : Nat} (hp : p < 32 ^ k) (hc : c < 32) (hk : k < 12) : klor (p : Int) (klshl (wL ((c : Int) + 1)) (wI (5 * (k : Int)))) = ((p + (c + 1) * 32 ^ k : Nat) : Int) := by
  have e32 : (32 : Nat) ^ k = 2 ^ (5 * k) := by rw [show (32 : Nat) = 2 ^ 5 from rfl, ← Nat.pow_mul]
  have hk2 : (2 : Nat) ^ (5 * k) ≤ 2 ^ 55 := Nat.pow_le_pow_right (by decide) (by omega)
  have hm : (c + 1) * 2 ^ (5 * k) ≤ 32 * 2 ^ 55 := Nat.mul_le_mul (by omega) hk2
  have e1 : wL ((c : Int) + 1) = ((c + 1 : Nat) : Int) := by rw [wL_id (by omega) (by omega)]; omega
  have e2 : wI (5 * (k : Int)) = ((5 * k : Nat) : Int) := by rw [wI_id (by omega) (by omega)]; omega
  rw [e1, e2, klshl_n (by clear e1 e2; omega) (by clear e1 e2; omega), klor_n (by rw [e32] at hp; clear e1 e2; omega) (by clear e1 e2; omega), e32, Nat.or_comm, Nat.mul_comm (c + 1), ← Nat.two_pow_add_eq_or_of_lt (by rw [← e32]; exact hp), Nat.add_comm]
def plo (A : zA) : Nat := pkf (ap A) (mi (aN A) 12)
def phi (A : zA) : Nat := pkf (fun i => ap A (12 + i)) (aN A - 12)
theorem plo_lt {A : zA} (hA : okB A) : plo A < 32 ^ 12 := by
  have hm : mi (aN A) 12 ≤ 12 := by unfold mi; split <;> omega
  exact Nat.lt_of_lt_of_le (pkf_lt _ (fun i hi => by have := hA.2.2.2.1 i (by unfold mi at hi; split at hi <;> omega); omega)) (Nat.pow_le_pow_right (by decide) hm)
theorem phi_lt {A : zA} (hA : okB A) : phi A < 32 ^ 10 := by
  have hn := (okB_n hA).2
  exact Nat.lt_of_lt_of_le (pkf_lt _ (fun i hi => by have := hA.2.2.2.1 (12 + i) (by omega); omega)) (Nat.pow_le_pow_right (by decide) (by omega))
theorem plo_0 {A : zA} : plo A = 0 ↔ aN A = 0 := by
  constructor
  · intro h
    by_cases hn : aN A = 0
    · exact hn
    · exfalso
      obtain ⟨q, hq⟩ : ∃ q, mi (aN A) 12 = q + 1 := ⟨mi (aN A) 12 - 1, by unfold mi; split <;> omega⟩
      unfold plo at h
      rw [hq, pkf_s] at h
      have : 0 < (ap A q + 1) * 32 ^ q := Nat.mul_pos (by omega) (Nat.pow_pos (by decide))
      omega
  · intro h
    unfold plo
    rw [show mi (aN A) 12 = 0 by unfold mi; rw [h]; rfl]
    rfl
theorem pk_inj {A B C : zA} (hB : G0 A B) (hC : G0 A C) : (plo B = plo C ∧ phi B = phi C) ↔ smb B C = true := by
  have b1 := okB_n hB.1.1
  have c1 := okB_n hC.1.1
  unfold smb
  rw [decide_eq_true_eq]
  constructor
  · rintro ⟨h1, h2⟩
    have hb : ∀ j, j < aN B → ap B j < 31 := fun j hj => by have := hB.1.1.2.2.2.1 j hj; omega
    have hc : ∀ j, j < aN C → ap C j < 31 := fun j hj => by have := hC.1.1.2.2.2.1 j hj; omega
    have m1 : mi (aN B) 12 ≤ aN B ∧ mi (aN B) 12 ≤ 12 ∧ (mi (aN B) 12 = aN B ∨ mi (aN B) 12 = 12) := by unfold mi; split <;> omega
    have m2 : mi (aN C) 12 ≤ aN C ∧ mi (aN C) 12 ≤ 12 ∧ (mi (aN C) 12 = aN C ∨ mi (aN C) 12 = 12) := by unfold mi; split <;> omega
    obtain ⟨k1, k2⟩ := pkf_i (fun j hj => hb j (by omega)) (fun j hj => hc j (by omega)) h1
    obtain ⟨k3, k4⟩ := pkf_i (f := fun i => ap B (12 + i)) (g := fun i => ap C (12 + i)) (fun j hj => hb _ (by omega)) (fun j hj => hc _ (by omega)) h2
    have hn : aN B = aN C := by omega
    have hp : ∀ j, j < aN B → ap B j = ap C j := fun j hj => by
      by_cases h12 : j < 12
      · exact k2 j (by omega)
      · have := k4 (j - 12) (by omega)
        have e : 12 + (j - 12) = j := by omega
        rw [e] at this
        exact this
    exact ⟨hn, rdo_F hB hC hn hp, hp⟩
  · rintro ⟨h1, h2, h3⟩
    unfold plo phi
    rw [← h1]
    exact ⟨pkf_c _ (fun i hi => h3 i (by unfold mi at hi; split at hi <;> omega)), pkf_c _ (fun i hi => h3 _ (by omega))⟩
theorem kp0 (A : zA) : ∀ n, kp 0 A n = n
  | 0 => rfl
  | n + 1 => by
    rw [kp_s, kp0 A n, if_pos]
    unfold kpt
    rw [Nat.zero_testBit]
    rfl
theorem drp0 (A : zA) : aF (drp 0 A) = aF A ∧ aN (drp 0 A) = aN A ∧ ∀ j, j < aN A → ap (drp 0 A) j = ap A j := by
  refine ⟨kp0 A _, kp0 A _, fun j hj => ?_⟩
  have := dpf_at (X := 0) (A := A) (i := j) (by unfold kpt; rw [Nat.zero_testBit]; rfl) (aN A) hj
  rw [kp0] at this
  exact this
theorem plo_c {B C : zA} (hn : aN B = aN C) (hp : ∀ j, j < aN B → ap B j = ap C j) : plo B = plo C ∧ phi B = phi C := by
  unfold plo phi
  rw [← hn]
  exact ⟨pkf_c _ (fun i hi => hp i (by unfold mi at hi; split at hi <;> omega)), pkf_c _ (fun i hi => hp _ (by omega))⟩
/-- what is packed -/
def pkd (B : zA) (s t : kM) : Prop := t 21 10 = ((plo B : Nat) : Int) ∧ t 21 11 = ((phi B : Nat) : Int) ∧ t 21 12 = ((aF B : Nat) : Int) ∧ (∀ z, z ≠ 21 → t z = s z) ∧ ∀ i, i ≠ 10 → i ≠ 11 → i ≠ 12 → t 21 i = s 21 i
theorem wp_pack {A : zA} (hA : okA A) {s : kM} (hK : KR 28 A s) {X : Nat} (hX : X < 2 ^ 11) : wp (f_Search_pack X s) (fun t => pkd (drp X A) s t) := by
  have hn := okB_n hA.1
  unfold f_Search_pack f_Search_pack_13
  rw [gLet_eq, gLet_eq, gLet_eq]
  obtain ⟨G, hG⟩ : ∃ G, G = gU (gU (gU s 21 10 0) 21 11 0) 21 12 0 := ⟨_, rfl⟩
  have g1 : ∀ z, z ≠ 21 → G z = s z := fun z hz => by rw [hG, gU_n _ _ _ hz, gU_n _ _ _ hz, gU_n _ _ _ hz]
  have g2 : ∀ i, i ≠ 10 → i ≠ 11 → i ≠ 12 → G 21 i = s 21 i := fun i a b c => by rw [hG, gUo _ _ _ c, gUo _ _ _ b, gUo _ _ _ a]
  have g10 : G 21 10 = 0 := by rw [hG, gUo _ _ _ (by decide), gUo _ _ _ (by decide), gUs]
  have g11 : G 21 11 = 0 := by rw [hG, gUo _ _ _ (by decide), gUs]
  have g12 : G 21 12 = 0 := by rw [hG, gUs]
  rw [← hG]
  clear hG
  refine wp_for (aN A) (fun n x => x.1 = ((kp X A n : Nat) : Int) ∧ x.2.1 = (n : Int) ∧ (∀ z, z ≠ 21 → x.2.2 z = s z) ∧ (∀ i, i ≠ 10 → i ≠ 11 → i ≠ 12 → x.2.2 21 i = s 21 i) ∧ x.2.2 21 10 = ((pkf (dpf X A n) (mi (kp X A n) 12) : Nat) : Int) ∧ x.2.2 21 11 = ((pkf (fun i => dpf X A n (12 + i)) (kp X A n - 12) : Nat) : Int) ∧ x.2.2 21 12 = ((kp X A (mi n (aF A)) : Nat) : Int)) 0 _ (by omega) (by omega) (by exact ⟨rfl, rfl, g1, g2, by dsimp only; rw [g10]; rfl, by dsimp only; rw [g11]; rfl, by dsimp only; rw [g12, mi_0]; rfl⟩) ?_ ?_
  · rintro n ⟨y1, y2, w⟩ _ hk ⟨rfl, rfl, q1, q2, q3, q4, q5⟩
    dsimp only at q1 q2 q3 q4 q5
    have hle := kp_le X A n
    have hpn := hA.1.2.2.2.1 n hk
    have w28 : w 28 = s 28 := q1 28 (by decide)
    have w29 : w 29 n = ((ap A n : Nat) : Int) := by rw [q1 29 (by decide)]; exact hK.2.2.2.1 n hk
    have e2 : kshr ((ap A n : Nat) : Int) 1 = ((ap A n / 2 : Nat) : Int) := kshr_n (k := 1) (by omega) (by omega)
    have hkm : kp X A (mi n (aF A)) ≤ n := by
      have := kp_le X A (mi n (aF A))
      have : mi n (aF A) ≤ n := by unfold mi; split <;> omega
      omega
    have hF := kpF (X := X) (A := A) (n := n)
    have hdl : ∀ j, j < kp X A n → dpf X A n j < 31 := fun j hj => by
      obtain ⟨i, i1, i2, i3⟩ := cq_sur (P := kpt X A) n hj
      have hd := dpf_at i2 n i1
      have : kp X A i = j := i3
      rw [this] at hd
      rw [hd]
      have := hA.1.2.2.2.1 i (by omega)
      omega
    dsimp only
    unfold f_Search_pack_13b
    rw [w28, hK.2.2.1, if_neg (show ¬ ((aN A : Nat) : Int) ≤ (n : Int) by omega), gI_n (by omega), Option.bind_some, w29, e2, kbit (by omega) (by omega)]
    clear e2
    by_cases hb : X.testBit (ap A n / 2) = true
    · have hkp : ¬ kpt X A n = true := by unfold kpt; rw [hb]; decide
      rw [if_neg hkp] at hF
      rw [if_pos hb, if_neg (by decide)]
      unfold f_Search_pack_78
      rw [wp_some, gE_l]
      dsimp only
      rw [wI_s (by omega), kp_s, dpf_s, if_neg hkp, if_neg hkp, ← hF]
      exact ⟨rfl, rfl, q1, q2, q3, q4, q5⟩
    · have hkp : kpt X A n = true := by unfold kpt; rw [Bool.eq_false_iff.mpr hb]; rfl
      rw [if_pos hkp] at hF
      rw [if_neg hb, if_pos rfl]
      have hd1 : ∀ j, j < kp X A n → dpf X A (n + 1) j = dpf X A n j := fun j hj => by
        rw [dpf_s, if_pos hkp]
        rw [if_neg (by omega)]
      have hd2 : dpf X A (n + 1) (kp X A n) = ap A n := by
        rw [dpf_s, if_pos hkp]
        rw [if_pos rfl]
      have hk1 : kp X A (n + 1) = kp X A n + 1 := by rw [kp_s, if_pos hkp]
      have fin : ∀ u : kM, (∀ z, z ≠ 21 → u z = s z) → (∀ i, i ≠ 10 → i ≠ 11 → i ≠ 12 → u 21 i = s 21 i) → u 21 10 = ((pkf (dpf X A (n + 1)) (mi (kp X A (n + 1)) 12) : Nat) : Int) → u 21 11 = ((pkf (fun i => dpf X A (n + 1) (12 + i)) (kp X A (n + 1) - 12) : Nat) : Int) → u 21 12 = ((kp X A (mi n (aF A)) : Nat) : Int) → wp (f_Search_pack_64 X ((kp X A n : Nat) : Int) n u) (gE (fun x => x.1 = ((kp X A (n + 1) : Nat) : Int) ∧ x.2.1 = ((n + 1 : Nat) : Int) ∧ (∀ z, z ≠ 21 → x.2.2 z = s z) ∧ (∀ i, i ≠ 10 → i ≠ 11 → i ≠ 12 → x.2.2 21 i = s 21 i) ∧ x.2.2 21 10 = ((pkf (dpf X A (n + 1)) (mi (kp X A (n + 1)) 12) : Nat) : Int) ∧ x.2.2 21 11 = ((pkf (fun i => dpf X A (n + 1) (12 + i)) (kp X A (n + 1) - 12) : Nat) : Int) ∧ x.2.2 21 12 = ((kp X A (mi (n + 1) (aF A)) : Nat) : Int)) (fun t => pkd (drp X A) s t)) := by
        intro u u1 u2 u3 u4 u5
        have last : ∀ d : Nat, d ≤ 1 → kp X A (mi n (aF A)) + d = kp X A (mi (n + 1) (aF A)) → wp (f_Search_pack_76 X (wI (((kp X A n : Nat) : Int) + 1)) n ((kp X A (mi n (aF A)) : Nat) : Int) d u) (gE (fun x => x.1 = ((kp X A (n + 1) : Nat) : Int) ∧ x.2.1 = ((n + 1 : Nat) : Int) ∧ (∀ z, z ≠ 21 → x.2.2 z = s z) ∧ (∀ i, i ≠ 10 → i ≠ 11 → i ≠ 12 → x.2.2 21 i = s 21 i) ∧ x.2.2 21 10 = ((pkf (dpf X A (n + 1)) (mi (kp X A (n + 1)) 12) : Nat) : Int) ∧ x.2.2 21 11 = ((pkf (fun i => dpf X A (n + 1) (12 + i)) (kp X A (n + 1) - 12) : Nat) : Int) ∧ x.2.2 21 12 = ((kp X A (mi (n + 1) (aF A)) : Nat) : Int)) (fun t => pkd (drp X A) s t)) := by
          intro d hd he
          unfold f_Search_pack_76 f_Search_pack_78
          rw [gLet_eq, wp_some, gE_l]
          dsimp only
          rw [wI_s (by omega), wI_s (by omega), wI_add2 (by omega), he, hk1]
          rw [hk1] at u3 u4
          exact ⟨rfl, rfl, fun z hz => by rw [gU_n _ _ _ hz]; exact u1 z hz, fun i a b c => by rw [gUo _ _ _ c]; exact u2 i a b c, by rw [gUo _ _ _ (by decide)]; exact u3, by rw [gUo _ _ _ (by decide)]; exact u4, gUs _ _ _ _⟩
        unfold f_Search_pack_64
        rw [u1 28 (by decide), hK.2.1, u5]
        by_cases hnF : n < aF A
        · rw [if_pos hnF] at hF
          rw [if_neg (by omega)]
          exact last 1 (by omega) hF
        · rw [if_neg hnF] at hF
          rw [if_pos (by omega)]
          exact last 0 (by omega) hF
      by_cases h12 : kp X A n < 12
      · have mA1 : mi (kp X A n) 12 = kp X A n := by unfold mi; rw [if_neg (by omega)]
        have mA2 : mi (kp X A (n + 1)) 12 = kp X A n + 1 := by unfold mi; rw [hk1, if_neg (by omega)]
        rw [mA1] at q3
        have ho := pkf_or (p := pkf (dpf X A n) (kp X A n)) (c := ap A n) (k := kp X A n) (pkf_lt _ hdl) (by omega) h12
        rw [if_neg (by clear ho; omega), gLet_eq, q3, ho]
        clear ho
        refine fin _ (fun z hz => by rw [gU_n _ _ _ hz]; exact q1 z hz) (fun i a b c => by rw [gUo _ _ _ a]; exact q2 i a b c) ?_ ?_ (by rw [gUo _ _ _ (by decide)]; exact q5)
        · rw [gUs, mA2, pkf_s, hd2, pkf_c _ hd1]
        · rw [gUo _ _ _ (by decide), q4, hk1, show kp X A n - 12 = 0 by omega, show kp X A n + 1 - 12 = 0 by omega]
          rfl
      · have mA1 : mi (kp X A n) 12 = 12 := by unfold mi; split <;> omega
        have mA2 : mi (kp X A (n + 1)) 12 = 12 := by unfold mi; rw [hk1]; split <;> omega
        have ek : wI (((kp X A n : Nat) : Int) - 12) = ((kp X A n - 12 : Nat) : Int) := wI_sub2 (b := 12) (by omega) (by omega)
        have ho := pkf_or (p := pkf (fun i => dpf X A n (12 + i)) (kp X A n - 12)) (c := ap A n) (k := kp X A n - 12) (pkf_lt _ (fun i hi => hdl _ (by clear ek; omega))) (by clear ek; omega) (by clear ek; omega)
        rw [if_pos (by clear ho ek; omega), gLet_eq, q4, ek, ho]
        clear ho ek
        refine fin _ (fun z hz => by rw [gU_n _ _ _ hz]; exact q1 z hz) (fun i a b c => by rw [gUo _ _ _ b]; exact q2 i a b c) ?_ ?_ (by rw [gUo _ _ _ (by decide)]; exact q5)
        · rw [gUo _ _ _ (by decide), q3, mA1, mA2, pkf_c 12 (fun i hi => (hd1 i (by omega)).symm)]
        · rw [gUs, hk1, show kp X A n + 1 - 12 = (kp X A n - 12) + 1 by omega, pkf_s, show 12 + (kp X A n - 12) = kp X A n by omega, hd2, pkf_c (kp X A n - 12) (fun i hi => (hd1 (12 + i) (by omega)).symm)]
  · rintro ⟨y1, y2, w⟩ ⟨rfl, rfl, q1, q2, q3, q4, q5⟩
    dsimp only at q1 q2 q3 q4 q5
    have w28 : w 28 = s 28 := q1 28 (by decide)
    dsimp only
    unfold f_Search_pack_13b
    rw [w28, hK.2.2.1, if_pos (Int.le_refl _), wp_some, gE_r]
    rw [mi_N hn.1] at q5
    exact ⟨q3, q4, q5, q1, q2⟩
