/-! what the code answers, on both sides -/
theorem e_reckon {x : Int} (h1 : -21 ≤ x) (h2 : x ≤ -10) (a b : Int) (s : kM) : f_Rule_reckon x a b s = some (op2 x a b) := by
  have hD : ¬ b = 0 → gD b = some () := fun h => by unfold gD; rw [if_neg h]
  have : x = -21 ∨ x = -20 ∨ x = -19 ∨ x = -18 ∨ x = -17 ∨ x = -16 ∨ x = -15 ∨ x = -14 ∨ x = -13 ∨ x = -12 ∨ x = -11 ∨ x = -10 := by omega
  rcases this with h | h | h | h | h | h | h | h | h | h | h | h <;> subst h
  · rfl
  · rfl
  · show ((if a ≤ b then (some (0 : Int)) else some 1).bind fun q4 => if q4 = 0 then (some (0 : Int)) else some 1) = some (if a ≤ b then 0 else 1)
    split <;> rfl
  · show ((if a < b then (some (0 : Int)) else some 1).bind fun q4 => if q4 = 0 then (some (0 : Int)) else some 1) = some (if a < b then 0 else 1)
    split <;> rfl
  · show ((if a = b then (some (1 : Int)) else some 0).bind fun q4 => if q4 = 0 then (some (0 : Int)) else some 1) = some (if a = b then 1 else 0)
    split <;> rfl
  · show ((if b < a then (some (0 : Int)) else some 1).bind fun q4 => if q4 = 0 then (some (0 : Int)) else some 1) = some (if b < a then 0 else 1)
    split <;> rfl
  · show ((if b ≤ a then (some (0 : Int)) else some 1).bind fun q4 => if q4 = 0 then (some (0 : Int)) else some 1) = some (if b ≤ a then 0 else 1)
    split <;> rfl
  · show (if b = 0 then (some (0 : Int)) else ((gD b).bind fun _ => some (klrem a b))) = some (if b = 0 then 0 else klrem a b)
    by_cases h : b = 0
    · rw [if_pos h, if_pos h]
    · rw [if_neg h, if_neg h, hD h]; rfl
  · show (if b = 0 then (some (0 : Int)) else ((gD b).bind fun _ => some (kldiv a b))) = some (if b = 0 then 0 else kldiv a b)
    by_cases h : b = 0
    · rw [if_pos h, if_pos h]
    · rw [if_neg h, if_neg h, hD h]; rfl
  · rfl
  · rfl
  · rfl
theorem e_both {x : Int} (h1 : -21 ≤ x) (h2 : x ≤ -10) (a b : Int) (s : kM) : f_M_both (mt1 x) a b s = some (op2 x a b) := by
  have hD : ¬ b = 0 → gD b = some () := fun h => by unfold gD; rw [if_neg h]
  have : x = -21 ∨ x = -20 ∨ x = -19 ∨ x = -18 ∨ x = -17 ∨ x = -16 ∨ x = -15 ∨ x = -14 ∨ x = -13 ∨ x = -12 ∨ x = -11 ∨ x = -10 := by omega
  rcases this with h | h | h | h | h | h | h | h | h | h | h | h <;> subst h
  · rfl
  · rfl
  · show (if a ≤ b then (f_M_both_77 0 s) else (f_M_both_77 1 s)) = some (if a ≤ b then 0 else 1)
    split <;> rfl
  · show (if a < b then (f_M_both_68 0 s) else (f_M_both_68 1 s)) = some (if a < b then 0 else 1)
    split <;> rfl
  · show (if a = b then (f_M_both_59 1 s) else (f_M_both_59 0 s)) = some (if a = b then 1 else 0)
    split <;> rfl
  · show (if b < a then (f_M_both_50 0 s) else (f_M_both_50 1 s)) = some (if b < a then 0 else 1)
    split <;> rfl
  · show (if b ≤ a then (f_M_both_41 0 s) else (f_M_both_41 1 s)) = some (if b ≤ a then 0 else 1)
    split <;> rfl
  · show (if b = 0 then (some (0 : Int)) else ((gD b).bind fun _ => some (klrem a b))) = some (if b = 0 then 0 else klrem a b)
    by_cases h : b = 0
    · rw [if_pos h, if_pos h]
    · rw [if_neg h, if_neg h, hD h]; rfl
  · show (if b = 0 then (some (0 : Int)) else ((gD b).bind fun _ => some (kldiv a b))) = some (if b = 0 then 0 else kldiv a b)
    by_cases h : b = 0
    · rw [if_pos h, if_pos h]
    · rw [if_neg h, if_neg h, hD h]; rfl
  · rfl
  · rfl
  · rfl
theorem pus_c (x : Int) (c : List Int) : pus (x :: c) = (if -10 < x then 1 else 0) + pus c := rfl
theorem K_run {k : Nat} {kc : List Int} {s0 : kM} (hg : (k : Int) < s0 900 0) (hl : s0 (125 + 2 * k) 0 = ((kc.length : Nat) : Int)) (hl4 : kc.length < 400) (hk : k < 6) (hc : ∀ i, i < kc.length → s0 (126 + 2 * k) i = kc.getD i 0) : ∀ (rest : List Int) (i d m : Nat) (s : kM), i + rest.length = kc.length → (∀ j, j < rest.length → rest.getD j 0 = kc.getD (i + j) 0) → (∀ x, x ∈ rest → tkn x) → dOK d rest → d + pus rest ≤ 60 → rest.length < m → (∀ z, z ≠ 53 → s z = s0 z) → wp (gL (fun (x : Int × Int × kM) => f_Rule_bars_4b (k : Int) 52 8 53 64 x.1 x.2.1 x.2.2) m (((d : Nat) : Int), ((i : Nat) : Int), s)) (fun r => r.1 = (if 0 < dpt d rest ∧ (run (s0 52) rest (s 53, d)).1 0 ≠ 0 then 1 else 0) ∧ ∀ z, z ≠ 53 → r.2 z = s0 z)
  | [], i, d, m, s, h1, h2, h3, h4, h5, h6, h7 => by
    obtain ⟨m', rfl⟩ : ∃ m', m = m' + 1 := ⟨m - 1, by omega⟩
    have hi : i = kc.length := by have : i + 0 = kc.length := h1; omega
    have eR : gR s (k : Int) = some (125 + 2 * k) := by unfold gR; rw [h7 900 (by decide), if_pos ⟨by omega, hg⟩, Int.toNat_natCast]
    have e0 : f_Rule_bars_4b (k : Int) 52 8 53 64 ((d : Nat) : Int) ((i : Nat) : Int) s = some (.inr (if 0 < d ∧ s 53 0 ≠ 0 then 1 else 0, s)) := by
      unfold f_Rule_bars_4b
      rw [eR, Option.bind_some, h7 _ (by omega), hl, Int.toNat_natCast, if_pos (by omega)]
      by_cases hd : 0 < d
      · rw [if_neg (by omega), show gI 64 0 = some 0 from rfl, Option.bind_some]
        by_cases hz : s 53 0 = 0
        · rw [if_pos hz, if_neg (fun q => q.2 hz)]
        · rw [if_neg hz, if_pos ⟨hd, hz⟩]
      · rw [if_pos (by omega), if_neg (fun q => hd q.1)]
    have e0' : (fun (x : Int × Int × kM) => f_Rule_bars_4b (k : Int) 52 8 53 64 x.1 x.2.1 x.2.2) (((d : Nat) : Int), ((i : Nat) : Int), s) = some (.inr (if 0 < d ∧ s 53 0 ≠ 0 then 1 else 0, s)) := e0
    rw [gL_r e0', wp_some]
    exact ⟨rfl, h7⟩
  | x :: rest, i, d, m, s, h1, h2, h3, h4, h5, h6, h7 => by
    obtain ⟨m', rfl⟩ : ∃ m', m = m' + 1 := ⟨m - 1, by omega⟩
    have h1' : i + (rest.length + 1) = kc.length := h1
    have h6' : rest.length + 1 < m' + 1 := h6
    have eR : gR s (k : Int) = some (125 + 2 * k) := by unfold gR; rw [h7 900 (by decide), if_pos ⟨by omega, hg⟩, Int.toNat_natCast]
    have ex : s (125 + 2 * k + 1) i = x := by
      rw [h7 _ (by omega), show 125 + 2 * k + 1 = 126 + 2 * k by omega, hc i (by omega)]
      have := h2 0 (by show 0 < rest.length + 1; omega)
      exact this.symm
    have htk := h3 x (List.mem_cons_self)
    rw [pus_c] at h5
    have nexts : ∀ (d' : Nat) (u : kM), f_Rule_bars_4b (k : Int) 52 8 53 64 ((d : Nat) : Int) ((i : Nat) : Int) s = some (.inl (((d' : Nat) : Int), ((i + 1 : Nat) : Int), u)) → dOK d' rest → d' + pus rest ≤ 60 → (∀ z, z ≠ 53 → u z = s0 z) → stp (s0 52) x (s 53, d) = (u 53, d') → wp (gL (fun (x : Int × Int × kM) => f_Rule_bars_4b (k : Int) 52 8 53 64 x.1 x.2.1 x.2.2) (m' + 1) (((d : Nat) : Int), ((i : Nat) : Int), s)) (fun r => r.1 = (if 0 < dpt d (x :: rest) ∧ (run (s0 52) (x :: rest) (s 53, d)).1 0 ≠ 0 then 1 else 0) ∧ ∀ z, z ≠ 53 → r.2 z = s0 z) := by
      intro d' u g q1 q2 q3 q4
      have g' : (fun (x : Int × Int × kM) => f_Rule_bars_4b (k : Int) 52 8 53 64 x.1 x.2.1 x.2.2) (((d : Nat) : Int), ((i : Nat) : Int), s) = some (.inl (((d' : Nat) : Int), ((i + 1 : Nat) : Int), u)) := g
      rw [gL_l g']
      have ih := K_run hg hl hl4 hk hc rest (i + 1) d' m' u (by omega) (fun j hj => by have := h2 (j + 1) (by show j + 1 < rest.length + 1; omega); rw [show i + 1 + j = i + (j + 1) by omega, ← this]; rfl) (fun y hy => h3 y (List.mem_cons_of_mem _ hy)) q1 q2 (by omega) q3
      have hr : run (s0 52) (x :: rest) (s 53, d) = run (s0 52) rest (u 53, d') := by
        show run (s0 52) rest (stp (s0 52) x (s 53, d)) = _
        rw [q4]
      have hdd : dpt d (x :: rest) = dpt d' rest := by
        have e1 := run_d (s0 52) (x :: rest) (s 53, d)
        have e2 := run_d (s0 52) rest (u 53, d')
        rw [hr] at e1
        rw [← e1, e2]
      rw [hr, hdd]
      exact ih
    unfold dOK at h4
    unfold tkn at htk
    unfold stp at nexts
    dsimp only at nexts
    have red : ∀ o, (if x ≤ -10 then (if x = (-22) then (if ((d : Nat) : Int) ≤ 0 then (f_Rule_bars_71 (k : Int) 52 8 53 64 ((d : Nat) : Int) ((i : Nat) : Int) s) else ((gI 64 (wI (((d : Nat) : Int) - 1))).bind fun j26 => (gI 64 (wI (((d : Nat) : Int) - 1))).bind fun j28 => gLet (gU s 53 j28 (wL (1 - (s 53 j26)))) fun s30 => f_Rule_bars_71 (k : Int) 52 8 53 64 ((d : Nat) : Int) ((i : Nat) : Int) s30)) else (if ((d : Nat) : Int) ≤ 1 then (f_Rule_bars_71 (k : Int) 52 8 53 64 ((d : Nat) : Int) ((i : Nat) : Int) s) else ((gI 64 (wI ((wI (((d : Nat) : Int) + (-1))) - 1))).bind fun j15 => (gI 64 (wI (((d : Nat) : Int) + (-1)))).bind fun j17 => (f_Rule_reckon x (s 53 j15) (s 53 j17) s).bind fun q19 => (gI 64 (wI ((wI (((d : Nat) : Int) + (-1))) - 1))).bind fun j20 => gLet (gU s 53 j20 q19) fun s22 => f_Rule_bars_71 (k : Int) 52 8 53 64 (wI (((d : Nat) : Int) + (-1))) ((i : Nat) : Int) s22))) else (if ((64 : Nat) : Int) ≤ ((d : Nat) : Int) then (f_Rule_bars_71 (k : Int) 52 8 53 64 ((d : Nat) : Int) ((i : Nat) : Int) s) else (if x < 0 then ((f_Rule_wordOf 52 8 x s).bind fun q35 => f_Rule_bars_31 (k : Int) 52 8 53 64 ((d : Nat) : Int) ((i : Nat) : Int) ((d : Nat) : Int) q35 s) else (f_Rule_bars_31 (k : Int) 52 8 53 64 ((d : Nat) : Int) ((i : Nat) : Int) ((d : Nat) : Int) x s)))) = o → f_Rule_bars_4b (k : Int) 52 8 53 64 ((d : Nat) : Int) ((i : Nat) : Int) s = o := by
      intro o ho
      unfold f_Rule_bars_4b
      have e1 : s (125 + 2 * k) 0 = ((kc.length : Nat) : Int) := by rw [h7 _ (by omega)]; exact hl
      rw [eR, Option.bind_some, e1, Int.toNat_natCast, if_neg (by omega), Option.bind_some, e1, Int.toNat_natCast, gI_n (show i < kc.length by omega), Option.bind_some, ex]
      exact ho
    have ei : wI (((i : Nat) : Int) + 1) = ((i + 1 : Nat) : Int) := wI_s (by omega)
    by_cases hx : -10 < x
    · rw [if_pos hx] at h4 h5 nexts
      have fin : ∀ y : Int, y = (if x < 0 then s0 52 (-1 - x).toNat else x) → f_Rule_bars_31 (k : Int) 52 8 53 64 ((d : Nat) : Int) ((i : Nat) : Int) ((d : Nat) : Int) y s = some (.inl (((d + 1 : Nat) : Int), ((i + 1 : Nat) : Int), gU s 53 d (if x < 0 then s0 52 (-1 - x).toNat else x))) := by
        intro y hy
        unfold f_Rule_bars_31 f_Rule_bars_71
        rw [gI_n (show d < 64 by clear ei; omega), Option.bind_some, gLet_eq, wI_s (by clear ei; omega), ei, hy]
      refine nexts (d + 1) (gU s 53 d (if x < 0 then s0 52 (-1 - x).toNat else x)) (red _ ?_) h4 (by clear ei; omega) (fun z hz => by rw [gU_n _ _ _ hz]; exact h7 z hz) (by rw [gU_s])
      rw [if_neg (by clear ei; omega), if_neg (by clear ei; omega)]
      by_cases hn : x < 0
      · obtain ⟨w, hw⟩ : ∃ w : Nat, -1 - x = (w : Int) := ⟨(-1 - x).toNat, by clear ei; omega⟩
        have ew : f_Rule_wordOf 52 8 x s = some (s0 52 (-1 - x).toNat) := by
          unfold f_Rule_wordOf
          have e1 : wI (-1 - x) = (w : Int) := by rw [hw]; exact wI_id (by clear ei; omega) (by clear ei; omega)
          rw [e1, if_neg (by clear e1 ei; omega), if_neg (by clear e1 ei; omega), gI_n (show w < 8 by clear e1 ei; omega), Option.bind_some, hw, Int.toNat_natCast, h7 52 (by decide)]
        rw [if_pos hn, ew, Option.bind_some]
        rw [← fin _ rfl, if_pos hn]
      · rw [if_neg hn]
        exact fin x (by rw [if_neg hn])
    · rw [if_neg hx] at h4 h5 nexts
      by_cases h22 : x = -22
      · rw [if_pos h22] at h4 nexts
        have ed : wI (((d : Nat) : Int) - 1) = ((d - 1 : Nat) : Int) := by rw [wI_id (by clear ei; omega) (by clear ei; omega)]; clear ei; omega
        refine nexts d (gU s 53 (d - 1) (wL (1 - s 53 (d - 1)))) (red _ ?_) h4.2 (by clear ei ed; omega) (fun z hz => by rw [gU_n _ _ _ hz]; exact h7 z hz) (by rw [gU_s])
        rw [if_pos (by clear ei ed; omega), if_pos h22, if_neg (by clear ei ed; omega), ed, gI_n (show d - 1 < 64 by clear ei ed; omega), Option.bind_some, Option.bind_some, gLet_eq]
        unfold f_Rule_bars_71
        rw [ei]
      · rw [if_neg h22] at h4 nexts
        have ed : wI (((d : Nat) : Int) + (-1)) = ((d - 1 : Nat) : Int) := by rw [wI_id (by clear ei; omega) (by clear ei; omega)]; clear ei; omega
        have ed2 : wI (((d - 1 : Nat) : Int) - 1) = ((d - 2 : Nat) : Int) := by rw [wI_id (by clear ei ed; omega) (by clear ei ed; omega)]; clear ei ed; omega
        refine nexts (d - 1) (gU s 53 (d - 2) (op2 x (s 53 (d - 2)) (s 53 (d - 1)))) (red _ ?_) h4.2 (by clear ei ed ed2; omega) (fun z hz => by rw [gU_n _ _ _ hz]; exact h7 z hz) (by rw [gU_s])
        rw [if_pos (by clear ei ed ed2; omega), if_neg h22, if_neg (by clear ei ed ed2; omega), ed, ed2, gI_n (show d - 2 < 64 by clear ei ed ed2; omega), Option.bind_some, gI_n (show d - 1 < 64 by clear ei ed ed2; omega), Option.bind_some, e_reckon (by clear ei ed ed2; omega) (by clear ei ed ed2; omega), Option.bind_some, Option.bind_some, gLet_eq]
        unfold f_Rule_bars_71
        rw [ei]
