/-! refresh; how many bridges; hands -/
theorem wp_refresh {A : zA} (hA : okB A) {s : kM} (hM : MR A s) : wp (f_M_refresh s) (fun t => MT A t) := by
  have hA' := hA
  obtain ⟨a1, a2, a3, a4, a5⟩ := hA'
  have hfr := w_M_refresh s
  have h2 : ∀ g : kM, (∀ a, a ≠ 98 → a ≠ 99 → g a = s a) → (∀ k, k < 11 → g 98 k = -1 ∧ g 99 k = -1) → wp (f_M_refresh_19 0 g) (fun t => (∀ a, a ≠ 98 → a ≠ 99 → t a = s a) ∧ MS A t) := by
    intro g h1 h2
    unfold f_M_refresh_19
    refine wp_for (aN A) (fun k x => x.1 = (k : Int) ∧ (∀ a, a ≠ 98 → a ≠ 99 → x.2 a = s a) ∧ ∀ b, b < 11 → x.2 98 b = po (ap A) (2 * b + 1) k ∧ x.2 99 b = po (ap A) (2 * b) k) 0 _ (by omega) (by omega) ⟨rfl, h1, h2⟩ ?_ ?_
    · rintro k ⟨i, s'⟩ _ hk ⟨rfl, q1, q2⟩
      dsimp only at q1 q2
      have hp := a4 k hk
      have hM' : MR A s' := by
        unfold MR
        rw [q1 86 (by decide) (by decide), q1 87 (by decide) (by decide), q1 88 (by decide) (by decide), q1 89 (by decide) (by decide)]
        exact hM
      simp only [f_M_refresh_19b, f_M_refresh_46, e_M_places hA hM', Option.bind_some, wp_ite, wp_bind, wp_gI, wp_gLet, wp_some, gE_l, gE_r, Int.toNat_natCast]
      obtain ⟨-, -, -, m4, -⟩ := hM'
      obtain ⟨m5, m6⟩ := m4 k hk
      rw [m5, m6, Int.toNat_natCast]
      refine ⟨fun c => by omega, fun _ => ⟨by omega, fun c => ⟨by omega, by omega, ?_, ?_, ?_⟩, fun c => ⟨by omega, by omega, ?_, ?_, ?_⟩⟩⟩
      · rw [wI_id (by omega) (by omega)]; rfl
      · intro a h98 h99
        rw [gU_n _ _ _ h98]
        exact q1 a h98 h99
      · intro b hb
        obtain ⟨e1, e2⟩ := q2 b hb
        unfold po
        refine ⟨?_, ?_⟩
        · by_cases hc : b = ap A k / 2
          · rw [hc, gUs, if_pos (by omega)]
          · rw [gUo _ _ _ hc, if_neg (by omega), e1]
        · rw [gUn _ _ _ (by decide), if_neg (by omega), e2]
      · rw [wI_id (by omega) (by omega)]; rfl
      · intro a h98 h99
        rw [gU_n _ _ _ h99]
        exact q1 a h98 h99
      · intro b hb
        obtain ⟨e1, e2⟩ := q2 b hb
        unfold po
        refine ⟨?_, ?_⟩
        · rw [gUn _ _ _ (by decide), if_neg (by omega), e1]
        · by_cases hc : b = ap A k / 2
          · rw [hc, gUs, if_pos (by omega)]
          · rw [gUo _ _ _ hc, if_neg (by omega), e2]
    · rintro ⟨i, s'⟩ ⟨rfl, q1, q2⟩
      dsimp only at q1 q2
      have hM' : MR A s' := by
        unfold MR
        rw [q1 86 (by decide) (by decide), q1 87 (by decide) (by decide), q1 88 (by decide) (by decide), q1 89 (by decide) (by decide)]
        exact hM
      simp only [f_M_refresh_19b, e_M_places hA hM', Option.bind_some, wp_ite, wp_bind, wp_gI, wp_gLet, wp_some, gE_l, gE_r]
      exact ⟨fun _ => ⟨q1, q2⟩, fun c => by omega⟩
  have h3 : wp (f_M_refresh s) (fun t => (∀ a, a ≠ 98 → a ≠ 99 → t a = s a) ∧ MS A t) := by
    unfold f_M_refresh f_M_refresh_2
    refine wp_for 11 (fun k x => x.1 = (k : Int) ∧ (∀ a, a ≠ 98 → a ≠ 99 → x.2 a = s a) ∧ ∀ b, b < k → x.2 98 b = -1 ∧ x.2 99 b = -1) 0 _ (by omega) (by omega) ⟨rfl, fun _ _ _ => rfl, fun b hb => by omega⟩ ?_ ?_
    · rintro k ⟨i, s'⟩ _ hk ⟨rfl, q1, q2⟩
      dsimp only at q1 q2
      simp only [f_M_refresh_2b, wp_ite, wp_bind, wp_gI, wp_gLet, wp_some, gE_l, gE_r, Int.toNat_natCast]
      refine ⟨fun c => by omega, fun _ => ⟨by omega, by omega, ?_, ?_, ?_⟩⟩
      · rw [wI_id (by omega) (by omega)]; rfl
      · intro a h98 h99
        rw [gU_n _ _ _ h99, gU_n _ _ _ h98]
        exact q1 a h98 h99
      · intro b hb
        rw [gUn _ _ _ (by decide)]
        by_cases hc : b = k
        · rw [hc, gUs, gUs]; exact ⟨rfl, rfl⟩
        · rw [gUo _ _ _ hc, gUo _ _ _ hc, gUn _ _ _ (by decide)]
          exact q2 b (by omega)
    · rintro ⟨i, s'⟩ ⟨rfl, q1, q2⟩
      simp only [f_M_refresh_2b, wp_ite, wp_bind, wp_gI, wp_gLet, wp_some, wp_map, gE_l, gE_r]
      exact ⟨fun _ => h2 s' q1 q2, fun c => by omega⟩
  refine h3.mono ?_
  rintro t ⟨h1, h4⟩
  refine ⟨?_, h4⟩
  unfold MR
  rw [h1 86 (by decide) (by decide), h1 87 (by decide) (by decide), h1 88 (by decide) (by decide), h1 89 (by decide) (by decide)]
  exact hM
/-- how many ones among the first n bits -/
def oc (x : Nat) : Nat → Nat
  | 0 => 0
  | n + 1 => oc x n + (if x.testBit n then 1 else 0)
def bc32 (x : Nat) : Bool := decide (f_Integer_bitCount (x : Int) (fun _ _ => 0) = some ((oc x 11 : Nat) : Int))
theorem bc_all : ∀ x : Fin 2048, bc32 x.val = true := by decide +kernel
theorem e_bitCount {x : Nat} (h : x < 2048) (s : kM) : f_Integer_bitCount (x : Int) s = some ((oc x 11 : Nat) : Int) := by
  have h1 := of_decide_eq_true (bc_all ⟨x, h⟩)
  exact h1
