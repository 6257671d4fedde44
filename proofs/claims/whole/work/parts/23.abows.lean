/-! bows -/
/-- passes under a bridge among n from a on -/
def uc (p : Nat → Nat) (a : Nat) : Nat → Nat
  | 0 => 0
  | n + 1 => uc p a n + if p (a + n) % 2 = 0 then 1 else 0
theorem uc_succ (p : Nat → Nat) (a n : Nat) : uc p a (n + 1) = uc p a n + if p (a + n) % 2 = 0 then 1 else 0 := rfl
theorem uc_le (p : Nat → Nat) (a : Nat) : ∀ n, uc p a n ≤ n
  | 0 => Nat.le_refl 0
  | n + 1 => by
    have := uc_le p a n
    rw [uc_succ]
    split <;> omega
theorem uc_mono (p : Nat → Nat) (a : Nat) {m : Nat} : ∀ n, m ≤ n → uc p a m ≤ uc p a n
  | 0, h => by
    have : m = 0 := by omega
    subst this
    exact Nat.le_refl _
  | n + 1, h => by
    by_cases hm : m = n + 1
    · subst hm
      exact Nat.le_refl _
    · have := uc_mono p a n (by omega : m ≤ n)
      rw [uc_succ]
      omega
/-- how many bows a road has that has passes; the bow of a place -/
def nb (p : Nat → Nat) (a e : Nat) : Nat := if a < e then (if uc p a (e - a) = 0 then 1 else uc p a (e - a)) else 0
def bw (p : Nat → Nat) (a e B j : Nat) : Nat := if uc p a (e - a) = 0 then B else if uc p a (j + 1 - a) = 0 then B + uc p a (e - a) - 1 else B + uc p a (j + 1 - a) - 1
theorem nb_le (p : Nat → Nat) (a e : Nat) : nb p a e ≤ e - a := by
  have := uc_le p a (e - a)
  unfold nb
  split
  · split <;> omega
  · omega
theorem wp_findOnRoad {b : Nat} (hb : b + 1 ≠ 48 ∧ b + 1 ≠ 49) {A : zA} (hA : okB A) {s : kM} (hp : ∀ j, j < aN A → s (b + 1) j = ap A j) {a e B : Nat} (hae : a ≤ e) (he : e ≤ aN A) (hB : B ≤ 22) (h48 : s 48 0 = B) : wp (f_Bows_findOnRoad b a e s) (fun t => t 48 0 = ((B + nb (ap A) a e : Nat) : Int) ∧ (∀ j, a ≤ j → j < e → t 49 j = ((bw (ap A) a e B j : Nat) : Int)) ∧ (∀ j, j < a ∨ e ≤ j → t 49 j = s 49 j) ∧ ∀ z, z ≠ 48 → z ≠ 49 → t z = s z) := by
  have hn := okB_n hA
  have hp22 := hA.2.2.2.1
  unfold f_Bows_findOnRoad
  rw [h48]
  -- the second walk
  have second : ∀ g : kM, (∀ z, z ≠ 48 → z ≠ 49 → g z = s z) → g 48 0 = ((B + nb (ap A) a e : Nat) : Int) → (∀ j, a ≤ j → j < e → g 49 j = ((B + uc (ap A) a (j + 1 - a) : Nat) : Int) - 1) → (∀ j, j < a ∨ e ≤ j → g 49 j = s 49 j) → wp (f_Bows_findOnRoad_46 b a e B g) (fun t => t 48 0 = ((B + nb (ap A) a e : Nat) : Int) ∧ (∀ j, a ≤ j → j < e → t 49 j = ((bw (ap A) a e B j : Nat) : Int)) ∧ (∀ j, j < a ∨ e ≤ j → t 49 j = s 49 j) ∧ ∀ z, z ≠ 48 → z ≠ 49 → t z = s z) := by
    intro g g0 g1 g2 g3
    have hnb := nb_le (ap A) a e
    unfold f_Bows_findOnRoad_46 f_Bows_findOnRoad_48
    refine wp_for e (fun k x => x.1 = (k : Int) ∧ (∀ z, z ≠ 49 → x.2 z = g z) ∧ uc (ap A) a (k - a) = 0 ∧ (∀ j, a ≤ j → j < k → x.2 49 j = ((B + nb (ap A) a e : Nat) : Int) - 1) ∧ ∀ j, j < a ∨ k ≤ j → x.2 49 j = g 49 j) a _ hae (by omega) (by exact ⟨rfl, fun _ _ => rfl, by rw [Nat.sub_self]; rfl, fun j h1 h2 => by omega, fun _ _ => rfl⟩) ?_ ?_
    · rintro k ⟨y, t⟩ hak hke ⟨rfl, q1, q2, q3, q4⟩
      dsimp only at q1 q2 q3 q4
      have e48 : t 48 = g 48 := q1 48 (by decide)
      have e49 : t 49 k = ((B + uc (ap A) a (k + 1 - a) : Nat) : Int) - 1 := by rw [q4 k (by omega), g2 k hak hke]
      simp only [f_Bows_findOnRoad_48b, wp_ite, wp_bind, wp_gI, wp_gLet, wp_some, gE_l, gE_r, Int.toNat_natCast]
      rw [e48, g1, e49]
      refine ⟨fun c => by omega, fun _ => ⟨by omega, fun c => ⟨?_, ?_, ?_, ?_⟩, fun c => ⟨by omega, ?_, ?_, ?_, ?_, ?_⟩⟩⟩
      · rfl
      · intro j h1 h2
        unfold bw
        have hm1 := uc_mono (ap A) a (m := k + 1 - a) (e - a) (by omega)
        rw [if_neg (by omega)]
        have hnbu : nb (ap A) a e = uc (ap A) a (e - a) := by unfold nb; rw [if_pos (by omega), if_neg (by omega)]
        by_cases hj : j < k
        · have hm2 := uc_mono (ap A) a (m := j + 1 - a) (k - a) (by omega)
          rw [if_pos (by omega), q3 j h1 hj, hnbu]
          omega
        · have hm2 := uc_mono (ap A) a (m := k + 1 - a) (j + 1 - a) (by omega)
          rw [if_neg (by omega), q4 j (by omega), g2 j h1 h2]
          omega
      · intro j hj
        rw [q4 j (by omega), g3 j hj]
      · intro z z1 z2
        rw [q1 z z2, g0 z z1 z2]
      · exact wI_s (by omega)
      · intro z hz
        rw [gU_n _ _ _ hz]
        exact q1 z hz
      · rw [show k + 1 - a = (k - a) + 1 by omega] at c ⊢
        omega
      · intro j h1 h2
        rw [gU_s]
        unfold kup
        by_cases hj : j = k
        · rw [if_pos hj, wI_id (by omega) (by omega)]
        · rw [if_neg hj]
          exact q3 j h1 (by omega)
      · intro j hj
        rw [gUo _ _ _ (by omega)]
        exact q4 j (by omega)
    · rintro ⟨y, t⟩ ⟨rfl, q1, q2, q3, q4⟩
      dsimp only at q1 q2 q3 q4
      simp only [f_Bows_findOnRoad_48b, wp_ite, wp_some, gE_r]
      refine ⟨fun _ => ⟨by rw [q1 48 (by decide), g1], ?_, fun j hj => by rw [q4 j hj, g3 j hj], fun z z1 z2 => by rw [q1 z z2, g0 z z1 z2]⟩, fun c => absurd (Int.le_refl _) c⟩
      intro j h1 h2
      rw [q3 j h1 h2]
      unfold bw nb
      rw [if_pos q2, if_pos q2, if_pos (by omega)]
      omega
  unfold f_Bows_findOnRoad_5
  refine wp_for e (fun k x => x.1 = (k : Int) ∧ (∀ z, z ≠ 48 → z ≠ 49 → x.2 z = s z) ∧ x.2 48 0 = ((B + uc (ap A) a (k - a) : Nat) : Int) ∧ (∀ j, a ≤ j → j < k → x.2 49 j = ((B + uc (ap A) a (j + 1 - a) : Nat) : Int) - 1) ∧ ∀ j, j < a ∨ k ≤ j → x.2 49 j = s 49 j) a _ hae (by omega) (by exact ⟨rfl, fun _ _ _ => rfl, by rw [Nat.sub_self]; exact h48, fun j h1 h2 => by omega, fun _ _ => rfl⟩) ?_ ?_
  · rintro k ⟨y, t⟩ hak hke ⟨rfl, q1, q2, q3, q4⟩
    dsimp only at q1 q2 q3 q4
    have hpk := hp22 k (by omega)
    have huc := uc_le (ap A) a (k - a)
    have ep : t (b + 1) k = ap A k := by rw [q1 _ hb.1 hb.2]; exact hp k (by omega)
    have es : uc (ap A) a (k + 1 - a) = uc (ap A) a (k - a) + if ap A k % 2 = 0 then 1 else 0 := by
      rw [show k + 1 - a = (k - a) + 1 by omega, uc_succ, show a + (k - a) = k by omega]
    simp only [f_Bows_findOnRoad_5b, f_Bows_findOnRoad_21, wp_ite, wp_bind, wp_gI, wp_gLet, wp_some, gE_l, gE_r, Int.toNat_natCast, gUs]
    rw [ep, kand1_n (by omega), q2]
    have fin : ∀ d : Nat, d ≤ 1 → uc (ap A) a (k + 1 - a) = uc (ap A) a (k - a) + d → (0 ≤ (k : Int) ∧ (k : Int) < ((22 : Nat) : Int)) ∧ wI ((k : Int) + 1) = ((k + 1 : Nat) : Int) ∧ (∀ z, z ≠ 48 → z ≠ 49 → gU (gU t 48 0 (wI (((B + uc (ap A) a (k - a) : Nat) : Int) + d))) 49 k (wI (wI (((B + uc (ap A) a (k - a) : Nat) : Int) + d) - 1)) z = s z) ∧ gU (gU t 48 0 (wI (((B + uc (ap A) a (k - a) : Nat) : Int) + d))) 49 k (wI (wI (((B + uc (ap A) a (k - a) : Nat) : Int) + d) - 1)) 48 0 = ((B + uc (ap A) a (k + 1 - a) : Nat) : Int) ∧ (∀ j, a ≤ j → j < k + 1 → gU (gU t 48 0 (wI (((B + uc (ap A) a (k - a) : Nat) : Int) + d))) 49 k (wI (wI (((B + uc (ap A) a (k - a) : Nat) : Int) + d) - 1)) 49 j = ((B + uc (ap A) a (j + 1 - a) : Nat) : Int) - 1) ∧ ∀ j, j < a ∨ k + 1 ≤ j → gU (gU t 48 0 (wI (((B + uc (ap A) a (k - a) : Nat) : Int) + d))) 49 k (wI (wI (((B + uc (ap A) a (k - a) : Nat) : Int) + d) - 1)) 49 j = s 49 j := by
      intro d hd hu
      have w1 : ((B + uc (ap A) a (k - a) : Nat) : Int) + d = ((B + uc (ap A) a (k + 1 - a) : Nat) : Int) := by omega
      rw [w1, wI_id (x := ((B + uc (ap A) a (k + 1 - a) : Nat) : Int)) (by omega) (by omega), wI_id (x := ((B + uc (ap A) a (k + 1 - a) : Nat) : Int) - 1) (by omega) (by omega)]
      refine ⟨by omega, wI_s (by omega), fun z z1 z2 => by rw [gU_n _ _ _ z2, gU_n _ _ _ z1]; exact q1 z z1 z2, by rw [gUn _ _ _ (by decide), gUs], fun j h1 h2 => ?_, fun j hj => ?_⟩
      · by_cases hj : j = k
        · rw [hj, gUs]
        · rw [gUo _ _ _ hj, gUn _ _ _ (by decide)]
          exact q3 j h1 (by omega)
      · rw [gUo _ _ _ (by omega), gUn _ _ _ (by decide)]
        exact q4 j (by omega)
    refine ⟨fun c => by omega, fun _ => ⟨by omega, fun c => fin 1 (by omega) (by rw [es, if_pos (by omega)]), fun c => fin 0 (by omega) (by rw [es, if_neg (by omega)])⟩⟩
  · rintro ⟨y, t⟩ ⟨rfl, q1, q2, q3, q4⟩
    dsimp only at q1 q2 q3 q4
    have huc := uc_le (ap A) a (e - a)
    simp only [f_Bows_findOnRoad_5b, wp_ite, wp_gLet, wp_map, gE_r]
    rw [q2]
    refine ⟨fun _ => ⟨fun c => ⟨fun c2 => ?_, fun c2 => ?_⟩, fun c => ?_⟩, fun c => absurd (Int.le_refl _) c⟩
    · refine second t q1 ?_ q3 q4
      rw [q2]
      unfold nb
      rw [if_neg (by omega)]
      omega
    · refine second _ (fun z z1 z2 => by rw [gU_n _ _ _ z1]; exact q1 z z1 z2) ?_ (fun j h1 h2 => by rw [gUn _ _ _ (by decide)]; exact q3 j h1 h2) (fun j hj => by rw [gUn _ _ _ (by decide)]; exact q4 j hj)
      rw [gUs, wI_id (by omega) (by omega)]
      unfold nb
      rw [if_pos (by omega), if_pos (by omega)]
      omega
    · refine second t q1 ?_ q3 q4
      rw [q2]
      have : a < e := by
        by_cases h : a < e
        · exact h
        · have h0 : e - a = 0 := by omega
          rw [h0] at c
          exact absurd rfl c
      unfold nb
      rw [if_pos this, if_neg (by omega)]
/-- of the whole town -/
def rb (A : zA) (r : Nat) : Nat := if r = 0 then 0 else if r = 1 then nb (ap A) 0 (aF A) else nb (ap A) 0 (aF A) + nb (ap A) (aF A) (aN A)
def ra (A : zA) (r : Nat) : Nat := if r = 0 then 0 else if r = 1 then (if aF A = 0 then 1 else 0) else (if aF A = 0 then 1 else 0) + (if aF A = aN A then 1 else 0)
def bwA (A : zA) (j : Nat) : Nat := if j < aF A then bw (ap A) 0 (aF A) 0 j else bw (ap A) (aF A) (aN A) (nb (ap A) 0 (aF A)) j
