theorem gbN2 {β : Type} {s : kM} {f : kM → Option β} {t : β} (h : (gNw s).bind f = some t) : ∃ q, q = gN s (s 54 1) (s 54 3) ∧ ((0 ≤ s 54 1 ∧ s 54 1 < 400) ∧ (s 54 3 = 0 ∨ s 54 3 = 1) ∧ (0 ≤ s 900 0 ∧ s 900 0 < 300) ∧ 0 ≤ s 900 1) ∧ f q = some t := ⟨_, rfl, gbN h⟩
theorem kw_newR2 {sc : List Int} {s q : kM} {Q : Option kV → kH → Prop} {l1 l2 l3 : Option kV} {d : Nat} (e : q = gN s (s 54 1) (s 54 3)) (hg : (0 ≤ s 54 1 ∧ s 54 1 < 400) ∧ (s 54 3 = 0 ∨ s 54 3 = 1) ∧ (0 ≤ s 900 0 ∧ s 900 0 < 300) ∧ 0 ≤ s 900 1) (k : kW sc (d + 2) kc_RuleText_read 4 56 [some (kr 54), l1, l2, l3] [kq (s 900 0)] (hH q) Q) : kW sc (d + 2) kc_RuleText_read 4 46 [some (kr 54), l1, l2, l3] [] (hH s) Q := by
  subst e
  exact kw_newR hg k
theorem hH_p56 {s : kM} {j : Nat} {e : Int} (he : 0 ≤ e) : kput (hH s) 56 (.inr (.inl (4, 6, kup (fun j => if 0 ≤ s 56 j then some (125 + 2 * (s 56 j).toNat) else none) j (some (125 + 2 * e.toNat))))) = hH (gU s 56 j e) := by
  have e900 : gU s 56 j e 900 = s 900 := gU_n _ _ _ (by decide)
  unfold kput hH
  rw [e900]
  congr 2
  funext c
  dsimp only
  by_cases hc : c = 56
  · subst hc
    rw [if_pos rfl]
    show _ = (some (.inr (.inl (4, 6, fun i => if 0 ≤ gU s 56 j e 56 i then some (125 + 2 * (gU s 56 j e 56 i).toNat) else none))) : Option kE)
    congr 5
    funext i
    rw [gU_s]
    unfold kup
    by_cases hi : i = j
    · rw [if_pos hi, if_pos hi, if_pos he]
    · rw [if_neg hi, if_neg hi]
  · rw [if_neg hc]
    unfold hC
    rw [e900, gU_n _ _ _ hc]
    by_cases h5 : c < 125
    · cases hk : ktab c with
      | some q => rfl
      | none =>
        dsimp only
        cases ho : kotab c with
        | some q => rfl
        | none =>
          dsimp only
          by_cases h10 : c = 10
          · rw [if_pos h10, if_pos h10]
          · rw [if_neg h10, if_neg h10, if_neg hc, if_neg hc, if_pos h5, if_pos h5]
    · obtain ⟨k1, k2⟩ := kt_odd (a := c) (by omega)
      rw [k1, k2]
      dsimp only
      have n10 : ¬ c = 10 := by omega
      have n56 : c - 1 ≠ 56 := by omega
      simp only [if_neg n10, if_neg hc, if_neg h5, gU_n s j e n56]
section KW
variable {sc : List Int} {d : Nat} {cd : List Instr} {rk pc : Nat} {L : kLs} {st : List kV} {Q : Option kV → kH → Prop} {s s2 : kM}
theorem kw_rast {e i : Int} {j k : Nat} (hc : cd[pc]? = some .aastore) (he : 0 ≤ e ∧ e < s 900 0 ∧ k = 125 + 2 * e.toNat) (h0 : 0 ≤ i) (h1 : i < ((6 : Nat) : Int)) (hj : i.toNat = j) (ee : s2 = gU s 56 j e) (kk : kW sc d cd rk (pc + 1) L st (hH s2) Q) : kW sc d cd rk pc L (kq e :: .inl i :: kr 56 :: st) (hH s) Q := by
  rw [kq_p he.1, ← he.2.2]
  refine kw_aast hc hH_56 (hH_R he) h0 h1 hj (Or.inl rfl) ?_
  rw [he.2.2, hH_p56 he.1, ← ee]
  exact kk
end KW
