/-! images: image, back -/
theorem tT_far {x y : Nat} (hx : tT x = true) (hy : tT y = true) (h : x ≠ y) : x + 6 ≤ y ∨ y + 6 ≤ x := by
  rcases tT_cases hx with rfl | rfl | rfl | rfl | rfl | rfl | rfl | rfl <;> rcases tT_cases hy with rfl | rfl | rfl | rfl | rfl | rfl | rfl | rfl <;> omega
theorem tS_far {x y : Nat} (hx : tS x = true) (hy : tS y = true) (h : x ≠ y) : x + 7 ≤ y ∨ y + 7 ≤ x := by
  rcases tS_cases hx with rfl | rfl | rfl | rfl | rfl <;> rcases tS_cases hy with rfl | rfl | rfl | rfl | rfl <;> omega
theorem pr_lt {A : zA} (hA : okB A) {k : Nat} (h : pr A k) : k < 11 := by
  obtain ⟨j, h1, h2⟩ := h
  have := hA.2.2.2.1 j h1
  omega
theorem wp_copyFrom {b c : Nat} (hb : tT b = true) (hc : tT c = true) (hbc : b ≠ c) {A : zA} (hA : okB A) {s : kM} (hK : KR c A s) : wp (f_Town_copyFrom b c s) (fun t => KT b A t) := by
  have far := tT_far hb hc hbc
  have hn := okB_n hA
  obtain ⟨r1, r2, r3, r4, r5⟩ := hK
  unfold f_Town_copyFrom
  simp only [gLet, wp_bind, wp_some]
  refine wp_resettle hb hA ?_
  refine ⟨?_, ?_, ?_, ?_, ?_⟩
  · rw [gAn _ _ (by omega), gAn _ _ (by omega), gUo _ _ _ (by decide), gUo _ _ _ (by decide), gUs]; exact r1
  · rw [gAn _ _ (by omega), gAn _ _ (by omega), gUo _ _ _ (by decide), gUs, gUn _ _ _ (by omega)]; exact r2
  · rw [gAn _ _ (by omega), gAn _ _ (by omega), gUs, gUn _ _ _ (by omega), gUn _ _ _ (by omega)]; exact r3
  · intro j hj
    rw [gAn _ _ (by omega), gA_s]
    unfold kcpy
    rw [if_pos (by omega), gUn _ _ _ (by omega), gUn _ _ _ (by omega), gUn _ _ _ (by omega)]
    simpa using r4 j hj
  · intro k hk
    have := pr_lt hA hk
    rw [gA_s]
    unfold kcpy
    rw [if_pos (by omega), gAn _ _ (by omega), gUn _ _ _ (by omega), gUn _ _ _ (by omega), gUn _ _ _ (by omega)]
    simpa using r5 k hk
theorem wp_Stand_copy {b c : Nat} (hb : tS b = true) (hc : tS c = true) (hbc : b ≠ c) {A : zA} (hA : okB A) {s : kM} (hK : KR (c + 1) A s) : wp (f_Stand_copyFrom b c s) (fun t => KT (b + 1) A t ∧ t b 1 = s c 1 ∧ t b 2 = s c 2 ∧ t b 3 = s c 3 ∧ (∀ j, j ≠ 1 → j ≠ 2 → j ≠ 3 → t b j = s b j) ∧ ∀ a, a < b ∨ b + 7 ≤ a → t a = s a) := by
  have hne : b + 1 ≠ c + 1 := by omega
  have far := tT_far (tS_1 hb) (tS_1 hc) hne
  unfold f_Stand_copyFrom
  simp only [wp_bind, wp_gLet, wp_some]
  refine (wp_fr (wp_copyFrom (tS_1 hb) (tS_1 hc) hne hA hK) (fun t ht => w_Town_copyFrom (b + 1) (c + 1) s t ht)).mono ?_
  rintro t ⟨h1, h2⟩
  have fr : ∀ a, a < b + 1 ∨ b + 7 ≤ a → t a = s a := fun a ha => h2 a (by simp only [W_Town_copyFrom, List.mem_cons, List.not_mem_nil, or_false]; omega)
  have hcb : c ≠ b := fun q => hbc q.symm
  have hcs : t c = s c := fr c (by have := tS_far hb hc hbc; omega)
  have hbs : t b = s b := fr b (Or.inl (by omega))
  refine ⟨KT_c h1 (fun i hi => by rw [gU_n _ _ _ (by omega), gU_n _ _ _ (by omega), gU_n _ _ _ (by omega)]), ?_, ?_, ?_, ?_, ?_⟩
  · rw [gUo _ _ _ (by decide), gUo _ _ _ (by decide), gUs, hcs]
  · rw [gUo _ _ _ (by decide), gUs, gUn _ _ _ hcb, hcs]
  · rw [gUs, gUn _ _ _ hcb, gUn _ _ _ hcb, hcs]
  · intro j j1 j2 j3
    rw [gUo _ _ _ j3, gUo _ _ _ j2, gUo _ _ _ j1, hbs]
  · intro a ha
    rw [gU_n _ _ _ (by omega), gU_n _ _ _ (by omega), gU_n _ _ _ (by omega), fr a (by omega)]
/-- n numbers of g into f from place m on -/
def cpf (f g : Nat → Int) (m n : Nat) : Nat → Int := fun j => if m ≤ j ∧ j < m + n then g (j - m) else f j
theorem e_carry0 {a n m : Nat} {s : kM} (ha : a ≠ 123) (ha2 : a ≠ 85) (hn : n < 100) (h0 : s 85 58 = 0) (hm : s 85 57 = m) (hmn : m + n ≤ 280) : f_M_carry a n s = some (gU (gA s 123 (cpf (s 123) (s a) m n)) 85 57 ((m : Int) + n)) := by
  unfold f_M_carry f_M_carry_2
  apply wp_eq
  refine wp_for n (fun k x => x.1 = (k : Int) ∧ x.2 = gU (gA s 123 (cpf (s 123) (s a) m k)) 85 57 ((m : Int) + k)) 0 _ (by omega) (by omega) ⟨rfl, ?_⟩ ?_ ?_
  · funext z j
    dsimp only
    by_cases h85 : z = 85
    · subst h85
      rw [gU_s, gAn _ _ (by decide)]
      unfold kup
      by_cases hj : j = 57
      · rw [if_pos hj, hj, hm]; simp
      · rw [if_neg hj]
    · rw [gUn _ _ _ h85]
      by_cases h123 : z = 123
      · subst h123
        rw [gA_s]
        unfold cpf
        rw [if_neg (by omega)]
      · rw [gAn _ _ h123]
  · rintro k ⟨y, t⟩ _ hk ⟨rfl, rfl⟩
    simp only [f_M_carry_2b, f_M_carry_26, wp_ite, wp_bind, wp_gI, wp_gLet, wp_some, gE_l, gUs, Int.toNat_natCast]
    have e58 : gU (gA s 123 (cpf (s 123) (s a) m k)) 85 57 ((m : Int) + k) 85 58 = 0 := by rw [gUo _ _ _ (by decide), gAn _ _ (by decide)]; exact h0
    rw [e58]
    refine ⟨fun c => by omega, fun _ => ⟨fun _ => ⟨by omega, by omega, ?_, ?_⟩, fun c => absurd rfl c⟩⟩
    · rw [wI_id (by omega) (by omega)]; rfl
    · rw [show ((m : Int) + k).toNat = m + k by omega]
      funext z j
      by_cases h85 : z = 85
      · subst h85
        rw [gU_s, gU_n _ _ _ (by decide), gU_s, gU_s, gAn _ _ (by decide), gAn _ _ (by decide)]
        unfold kup
        by_cases hj : j = 57
        · rw [if_pos hj, if_pos hj, if_pos rfl, wI_id (by omega) (by omega)]; omega
        · rw [if_neg hj, if_neg hj, if_neg hj]
      · rw [gUn _ _ _ h85, gUn (gA s 123 (cpf (s 123) (s a) m (k + 1))) _ _ h85]
        by_cases h123 : z = 123
        · subst h123
          rw [gU_s, gU_n _ _ _ (by decide), gA_s, gA_s, gU_n _ _ _ ha2, gAn _ _ ha]
          unfold kup cpf
          by_cases hj : j = m + k
          · rw [if_pos hj, if_pos (by omega), hj, show m + k - m = k by omega]
          · rw [if_neg hj]
            by_cases h1 : m ≤ j ∧ j < m + k
            · rw [if_pos h1, if_pos (by omega)]
            · rw [if_neg h1, if_neg (by omega)]
        · rw [gUn _ _ _ h123, gUn _ _ _ h85, gAn _ _ h123, gAn _ _ h123]
  · rintro ⟨y, t⟩ ⟨rfl, rfl⟩
    simp only [f_M_carry_2b, wp_ite, wp_some, gE_r]
    exact ⟨fun _ => trivial, fun c => absurd (Int.le_refl _) c⟩
theorem e_carry1 {a n m : Nat} {s : kM} (ha : a ≠ 123) (ha2 : a ≠ 85) (hn : n < 100) (h0 : s 85 58 = 1) (hm : s 85 57 = m) (hmn : m + n ≤ 280) : f_M_carry a n s = some (gU (gA s a (fun j => if j < n then s 123 (m + j) else s a j)) 85 57 ((m : Int) + n)) := by
  unfold f_M_carry f_M_carry_2
  apply wp_eq
  refine wp_for n (fun k x => x.1 = (k : Int) ∧ x.2 = gU (gA s a (fun j => if j < k then s 123 (m + j) else s a j)) 85 57 ((m : Int) + k)) 0 _ (by omega) (by omega) ⟨rfl, ?_⟩ ?_ ?_
  · funext z j
    dsimp only
    by_cases h85 : z = 85
    · subst h85
      rw [gU_s, gAn _ _ (Ne.symm ha2)]
      unfold kup
      by_cases hj : j = 57
      · rw [if_pos hj, hj, hm]; simp
      · rw [if_neg hj]
    · rw [gUn _ _ _ h85]
      by_cases hza : z = a
      · subst hza
        rw [gA_s]
        rw [if_neg (by omega)]
      · rw [gAn _ _ hza]
  · rintro k ⟨y, t⟩ _ hk ⟨rfl, rfl⟩
    simp only [f_M_carry_2b, f_M_carry_26, wp_ite, wp_bind, wp_gI, wp_gLet, wp_some, gE_l, gUs, Int.toNat_natCast]
    have e58 : gU (gA s a (fun j => if j < k then s 123 (m + j) else s a j)) 85 57 ((m : Int) + k) 85 58 = 1 := by rw [gUo _ _ _ (by decide), gAn _ _ (Ne.symm ha2)]; exact h0
    rw [e58]
    refine ⟨fun c => by omega, fun _ => ⟨fun c => absurd c (by decide), fun _ => ⟨by omega, by omega, ?_, ?_⟩⟩⟩
    · rw [wI_id (by omega) (by omega)]; rfl
    · rw [show ((m : Int) + k).toNat = m + k by omega]
      funext z j
      by_cases h85 : z = 85
      · subst h85
        rw [gU_s, gU_n _ _ _ (Ne.symm ha2), gU_s, gU_s, gAn _ _ (Ne.symm ha2), gAn _ _ (Ne.symm ha2)]
        unfold kup
        by_cases hj : j = 57
        · rw [if_pos hj, if_pos hj, if_pos rfl, wI_id (by omega) (by omega)]; omega
        · rw [if_neg hj, if_neg hj, if_neg hj]
      · rw [gUn _ _ _ h85, gUn (gA s a _) _ _ h85]
        by_cases hza : z = a
        · subst hza
          rw [gU_s, gU_n _ _ _ h85, gA_s, gA_s, gU_n _ _ _ (by decide : (123 : Nat) ≠ 85), gAn _ _ (Ne.symm ha)]
          unfold kup
          by_cases hj : j = k
          · rw [if_pos hj, if_pos (by omega), hj]
          · rw [if_neg hj]
            dsimp only
            by_cases h1 : j < k
            · rw [if_pos h1, if_pos (by omega)]
            · rw [if_neg h1, if_neg (by omega)]
        · rw [gUn _ _ _ hza, gUn _ _ _ h85, gAn _ _ hza, gAn _ _ hza]
  · rintro ⟨y, t⟩ ⟨rfl, rfl⟩
    simp only [f_M_carry_2b, wp_ite, wp_some, gE_r]
    exact ⟨fun _ => trivial, fun c => absurd (Int.le_refl _) c⟩
