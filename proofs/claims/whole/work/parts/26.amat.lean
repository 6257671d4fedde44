/-! how many bows there can be -/
def um (p : Nat → Nat) : Nat → Nat
  | 0 => 0
  | n + 1 => um p n ||| (if p n % 2 = 0 then 2 ^ (p n / 2) else 0)
theorem um_s (p : Nat → Nat) (n : Nat) : um p (n + 1) = um p n ||| (if p n % 2 = 0 then 2 ^ (p n / 2) else 0) := rfl
theorem um_bit (p : Nat → Nat) (k : Nat) : ∀ n, (um p n).testBit k = true → ∃ j, j < n ∧ p j = 2 * k
  | 0, h => by simp [um] at h
  | n + 1, h => by
    rw [um_s, Nat.testBit_or, Bool.or_eq_true] at h
    rcases h with h | h
    · obtain ⟨j, h1, h2⟩ := um_bit p k n h
      exact ⟨j, by omega, h2⟩
    · by_cases hp : p n % 2 = 0
      · rw [if_pos hp, Nat.testBit_two_pow] at h
        have : p n / 2 = k := by simpa using h
        exact ⟨n, by omega, by omega⟩
      · rw [if_neg hp] at h
        simp at h
theorem uc_oc {A : zA} (hA : okB A) : ∀ n, n ≤ aN A → uc (ap A) 0 n = oc (um (ap A) n) 11
  | 0, _ => by
    rw [show um (ap A) 0 = 0 from rfl, oc_0]
    rfl
  | n + 1, h => by
    have ih := uc_oc hA n (by omega)
    rw [uc_succ, um_s, ih, Nat.zero_add]
    by_cases hp : ap A n % 2 = 0
    · have hlt := hA.2.2.2.1 n (by omega)
      rw [if_pos hp, if_pos hp, oc_or, if_pos (by omega)]
      rw [Bool.eq_false_iff]
      intro hb
      obtain ⟨j, h1, h2⟩ := um_bit _ _ _ hb
      have := hA.2.2.2.2 j n (by omega) (by omega) (by omega)
      omega
    · rw [if_neg hp, if_neg hp, Nat.or_zero, Nat.add_zero]
theorem uc_add (p : Nat → Nat) (a : Nat) : ∀ n, uc p 0 (a + n) = uc p 0 a + uc p a n
  | 0 => rfl
  | n + 1 => by
    rw [show a + (n + 1) = (a + n) + 1 by omega, uc_succ, uc_succ, uc_add p a n, Nat.zero_add]
    omega
/-- bows of the town -/
def nbw (A : zA) : Nat := rb A (aR A) + ra A (aR A)
theorem uc_11 {A : zA} (hA : okB A) : uc (ap A) 0 (aF A) + uc (ap A) (aF A) (aN A - aF A) ≤ 11 := by
  have hn := okB_n hA
  rw [← uc_add, show aF A + (aN A - aF A) = aN A by omega, uc_oc hA _ (Nat.le_refl _)]
  exact oc_le _ _
theorem nbw_13 {A : zA} (hA : okB A) : nbw A ≤ 13 := by
  have hn := okB_n hA
  have hu := uc_11 hA
  have h0 : nb (ap A) 0 (aF A) + (if aF A = 0 then 1 else 0) ≤ uc (ap A) 0 (aF A) + 1 := by
    unfold nb
    rw [Nat.sub_zero]
    split <;> (try split) <;> (try split) <;> omega
  have h1 : nb (ap A) (aF A) (aN A) + (if aF A = aN A then 1 else 0) ≤ uc (ap A) (aF A) (aN A - aF A) + 1 := by
    unfold nb
    split <;> (try split) <;> (try split) <;> omega
  unfold nbw rb ra
  split
  · omega
  · split <;> omega
theorem bw_lt (p : Nat → Nat) {a e B j : Nat} (h1 : a ≤ j) (h2 : j < e) : bw p a e B j < B + nb p a e := by
  have hm := uc_mono p a (m := j + 1 - a) (e - a) (by omega)
  have hae : a < e := by omega
  unfold bw nb
  rw [if_pos hae]
  split
  · omega
  · split <;> omega
theorem bwA_lt {A : zA} (hA : okA A) {j : Nat} (hj : j < aN A) : bwA A j < nbw A := by
  have hn := okB_n hA.1
  have hR := hA.1.1
  have h0 : aR A ≠ 0 := fun h => by have := hA.2.1 h; omega
  unfold nbw rb bwA
  rw [if_neg h0]
  by_cases hF : j < aF A
  · have := bw_lt (ap A) (a := 0) (B := 0) (by omega) hF
    rw [if_pos hF]
    split <;> omega
  · have := bw_lt (ap A) (a := aF A) (B := nb (ap A) 0 (aF A)) (by omega) hj
    rw [if_neg hF]
    have h1 : aR A ≠ 1 := fun h => by have := hA.2.2.1 (by omega); omega
    rw [if_neg h1]
    omega
/-! the rows of the bows -/
def add3 (f : Nat → Int) (a b c : Nat) : Nat → Int := kup (kup (kup f a (wL (f a + 2))) b (wL (kup f a (wL (f a + 2)) b + -1))) c (wL (kup (kup f a (wL (f a + 2))) b (wL (kup f a (wL (f a + 2)) b + -1)) c + -1))
def oA (A : zA) (b : Nat) : Nat := (po (ap A) (2 * b + 1) (aN A)).toNat
def uA (A : zA) (b : Nat) : Nat := (po (ap A) (2 * b) (aN A)).toNat
theorem oA_lt {A : zA} (hA : okA A) {b : Nat} (h : pb A b = true) : po (ap A) (2 * b + 1) (aN A) = (oA A b : Int) ∧ oA A b < aN A ∧ po (ap A) (2 * b) (aN A) = (uA A b : Int) ∧ uA A b < aN A := by
  obtain ⟨h1, h2⟩ := po_pair hA (k := b)
  have h3 := po_lt (ap A) (2 * b) (aN A)
  have h4 := po_lt (ap A) (2 * b + 1) (aN A)
  have h5 := h1.mp h
  have h6 := h2.mp h
  unfold oA uA
  omega
theorem oA_at {A : zA} (hA : okA A) {b : Nat} (h : pb A b = true) : ap A (oA A b) = 2 * b + 1 ∧ ap A (uA A b) = 2 * b := by
  obtain ⟨h1, h2, h3, h4⟩ := oA_lt hA h
  rcases po_cases (ap A) (2 * b + 1) (aN A) with ⟨q, _⟩ | ⟨i, _, q2, q3⟩
  · omega
  · rcases po_cases (ap A) (2 * b) (aN A) with ⟨q, _⟩ | ⟨i2, _, q4, q5⟩
    · omega
    · rw [show oA A b = i by omega, show uA A b = i2 by omega]
      exact ⟨q2, q4⟩
theorem pv_lt {A : zA} (hA : okB A) {j : Nat} (hj : j < aN A) : pv (aF A) (aN A) j < aN A := by
  have := okB_n hA
  unfold pv
  split <;> split <;> omega
/-- rows ahead of bridge b -/
def rw_ (A : zA) (b : Nat) : Nat := oc (mk (ap A) (aN A)) b
theorem rw_s (A : zA) (b : Nat) : rw_ A (b + 1) = rw_ A b + (if pb A b = true then 1 else 0) := rfl
theorem rw_le (A : zA) (b : Nat) : rw_ A b ≤ b := oc_le _ _
def mxf (A : zA) : Nat → Nat → Int
  | 0 => fun _ => 0
  | b + 1 => if pb A b = true then add3 (mxf A b) (13 * rw_ A b + bwA A (oA A b)) (13 * rw_ A b + bwA A (uA A b)) (13 * rw_ A b + bwA A (pv (aF A) (aN A) (uA A b))) else mxf A b
theorem mxf_s (A : zA) (b : Nat) : mxf A (b + 1) = if pb A b = true then add3 (mxf A b) (13 * rw_ A b + bwA A (oA A b)) (13 * rw_ A b + bwA A (uA A b)) (13 * rw_ A b + bwA A (pv (aF A) (aN A) (uA A b))) else mxf A b := rfl
theorem add3_o (f : Nat → Int) {a b c j : Nat} (h1 : j ≠ a) (h2 : j ≠ b) (h3 : j ≠ c) : add3 f a b c j = f j := by
  unfold add3 kup
  rw [if_neg h3, if_neg h2, if_neg h1]
theorem add3_c {f g : Nat → Int} {a b c : Nat} (P : Nat → Prop) (ha : P a) (hb : P b) (hc : P c) (h : ∀ j, P j → f j = g j) : ∀ j, P j → add3 f a b c j = add3 g a b c j := by
  have s1 : ∀ (f g : Nat → Int) (a : Nat) (d : Int), P a → (∀ j, P j → f j = g j) → ∀ j, P j → kup f a (wL (f a + d)) j = kup g a (wL (g a + d)) j := by
    intro f g a d ha h j hj
    unfold kup
    rw [h a ha, h j hj]
  intro j hj
  unfold add3
  exact s1 _ _ c (-1) hc (s1 _ _ b (-1) hb (s1 _ _ a 2 ha h)) j hj
theorem mxf_0 (A : zA) : ∀ b j, 13 * rw_ A b ≤ j → (∀ i, i < aN A → bwA A i < 13) → okA A → mxf A b j = 0
  | 0, _, _, _, _ => rfl
  | b + 1, j, h, h13, hA => by
    rw [rw_s] at h
    rw [mxf_s]
    by_cases hp : pb A b = true
    · rw [if_pos hp] at h ⊢
      obtain ⟨-, h2, -, h4⟩ := oA_lt hA hp
      have b1 := h13 _ h2
      have b2 := h13 _ h4
      have b3 := h13 _ (pv_lt hA.1 h4)
      rw [add3_o _ (by omega) (by omega) (by omega)]
      exact mxf_0 A b j (by omega) h13 hA
    · rw [if_neg hp] at h ⊢
      exact mxf_0 A b j (by omega) h13 hA
theorem e_Arrays_fill_JJ (a n : Nat) (zv : Int) (s : kM) (hn : n < 4096) : f_Arrays_fill_JJ a n zv s = some (gA s a (kfill zv n (s a))) := by
  unfold f_Arrays_fill_JJ f_Arrays_fill_JJ_5
  apply wp_eq
  refine wp_for n (fun k x => x.1 = (k : Int) ∧ x.2 = gA s a (kfill zv k (s a))) 0 _ (by omega) hn ⟨rfl, ?_⟩ ?_ ?_
  · rw [kfill_0, gA_id]
  · rintro k ⟨i, s'⟩ h1 h2 ⟨rfl, rfl⟩
    simp only [f_Arrays_fill_JJ_5b, wp_ite, wp_bind, wp_gI, wp_gLet, wp_some, gE_l, gE_r]
    refine ⟨fun c => by omega, fun c => ⟨by omega, ?_, ?_⟩⟩
    · rw [wI_id (by omega) (by omega)]
      rfl
    · rw [Int.toNat_natCast, gUA, kfill_s]
  · rintro ⟨i, s'⟩ ⟨rfl, rfl⟩
    simp only [f_Arrays_fill_JJ_5b, wp_ite, wp_bind, wp_gI, wp_gLet, wp_some, gE_l, gE_r]
    exact ⟨fun c => trivial, fun c => by omega⟩
/-- an index of a cell -/
theorem gI_rc {r c : Nat} (hr : r < 11) (hc : c < 13) : gI 143 (wI (wI ((r : Int) * 13) + (c : Int))) = some (13 * r + c) := by
  have h1 : wI ((r : Int) * 13) = ((13 * r : Nat) : Int) := by rw [wI_id (by omega) (by omega)]; omega
  have h2 : wI (((13 * r : Nat) : Int) + (c : Int)) = ((13 * r + c : Nat) : Int) := by rw [wI_id (by omega) (by omega)]; omega
  rw [h1, h2]
  exact gI_n (by omega)
theorem gI_cr {r c : Nat} (hr : r < 11) (hc : c < 13) : gI 143 (wI (wI (13 * (r : Int)) + (c : Int))) = some (13 * r + c) := by
  rw [Int.mul_comm]
  exact gI_rc hr hc
theorem e_addTo {s : kM} {r c : Nat} (hr : r < 11) (hc : c < 13) (h : s 48 3 = (r : Int)) (zv : Int) : f_Bows_addTo (c : Int) zv s = some (gU s 50 (13 * r + c) (wL (s 50 (13 * r + c) + zv))) := by
  unfold f_Bows_addTo
  have h1 : ¬ (c : Int) < 0 := by omega
  have h2 : ¬ (13 : Int) ≤ (c : Int) := by omega
  rw [if_neg h1, if_neg h2, h, gI_rc hr hc, Option.bind_some, Option.bind_some, gLet_eq]
