/-! a RULE is made: new Rule(Arrays.copyOf(code, length), timed) -/
theorem tMin {sc : List Int} {h : kH} (x y : Int) : kR sc 0 km_Math_min [kI x, kI y] h (some (kI (if y < x then y else x))) h := by
  refine kR.start rfl ?_
  show kW sc 0 kc_Math_min 1 0 [some (kI x), some (kI y)] [] h _
  refine kw_step rfl rfl rfl rfl ?_
  refine kw_step rfl rfl rfl rfl ?_
  refine kw_icmp_gt rfl rfl (fun c => ?_) (fun c => ?_)
  · refine kw_step rfl rfl rfl rfl ?_
    refine kw_ret rfl rfl rfl ⟨?_, rfl⟩
    rw [if_pos c]
  · refine kw_step rfl rfl rfl rfl ?_
    refine kw_goto rfl rfl ?_
    refine kw_ret rfl rfl rfl ⟨?_, rfl⟩
    rw [if_neg c]
theorem kadd_s (h : kH) (z : Nat) (e : kE) : (kadd h z e).2.2 h.1 = some e := by
  show (if h.1 = h.1 then some e else h.2.2 h.1) = some e
  rw [if_pos rfl]
theorem kadd_o (h : kH) (z : Nat) (e : kE) {a : Nat} (ha : a ≠ h.1) : (kadd h z e).2.2 a = h.2.2 a := by
  show (if a = h.1 then some e else h.2.2 a) = h.2.2 a
  rw [if_neg ha]
theorem tCopyOf {sc : List Int} {h : kH} {a : Nat} {f : Nat → Int} {n : Int} (ha : h.2.2 a = some (.inl (0, 400, f))) (hne : a ≠ h.1) (h0 : 0 ≤ n) (h1 : n < 400) : kR sc 1 km_Arrays_copyOf [kr a, kI n] h (some (kr h.1)) (kput (kadd h n.toNat (.inl (0, n.toNat, fun _ => 0))) h.1 (.inl (0, n.toNat, kcpy f (fun _ => 0) 0 0 n.toNat))) := by
  refine kR.start rfl ?_
  show kW sc 1 kc_Arrays_copyOf 4 0 [some (kr a), some (kI n), none] [] h _
  refine kw_step rfl rfl rfl rfl ?_
  refine kw_step rfl rfl rfl rfl ?_
  refine kw_alen rfl ha (by decide) ?_
  refine kw_icmp_ne rfl rfl (fun c => ?_) (fun c => absurd c (by show ¬ n = ((400 : Nat) : Int); omega))
  refine kw_step rfl rfl rfl rfl ?_
  refine kw_step (pc' := 10) (L' := [some (kr a), some (kI n), none]) (st' := [kr h.1]) (h' := kadd h n.toNat (.inl (0, n.toNat, fun _ => 0))) rfl rfl rfl (by unfold kst; dsimp only [kkind]; exact if_pos ⟨h0, by omega⟩) ?_
  refine kw_step (L' := [some (kr a), some (kI n), some (kr h.1)]) rfl rfl rfl rfl ?_
  refine kw_step rfl rfl rfl rfl ?_
  refine kw_step rfl rfl rfl rfl ?_
  refine kw_step rfl rfl rfl rfl ?_
  refine kw_step rfl rfl rfl rfl ?_
  refine kw_step rfl rfl rfl rfl ?_
  refine kw_alen rfl ((kadd_o h _ _ hne).trans ha) (by decide) ?_
  refine kw_step rfl rfl rfl rfl ?_
  refine kw_callS (vs := [_, _]) rfl rfl rfl ⟨rfl, Nat.le_of_ble_eq_true rfl, Nat.le_of_ble_eq_true rfl, rfl⟩ (tMin _ _) (Nat.le_refl 0) ?_
  rw [if_pos (show n < ((400 : Nat) : Int) by omega)]
  refine kw_step (pc' := 20) (L' := [some (kr a), some (kI n), some (kr h.1)]) (st' := []) (h' := kput (kadd h n.toNat (.inl (0, n.toNat, fun _ => 0))) h.1 (.inl (0, n.toNat, kcpy f (fun _ => 0) 0 0 n.toNat))) rfl rfl rfl ?_ ?_
  · unfold kst
    dsimp only [Option.toList, List.cons_append, List.nil_append]
    rw [(kadd_o h _ _ hne).trans ha, kadd_s]
    show (if _ then _ else _) = _
    rw [if_pos ⟨h0, by decide, by decide, by omega, by omega, by decide⟩]
    rfl
  · refine kw_step rfl rfl rfl rfl ?_
    exact kw_ret rfl rfl rfl ⟨rfl, rfl⟩
theorem tRuleInit {sc : List Int} {h : kH} {a b : Nat} {x : Int} (ha : h.2.2 a = some (.inr (.inr (4, [.inr (.inr (.inl none)), kI 0])))) (hx : x = 0 ∨ x = 1) : kR sc 0 km_Rule_init [kr a, kr b, kI x] h none (kput h a (.inr (.inr (4, [kr b, kI x])))) := by
  refine kR.start rfl ?_
  show kW sc 0 kc_Rule_init 0 0 [some (kr a), some (kr b), some (kI x)] [] h _
  refine kw_step rfl rfl rfl rfl ?_
  refine kw_step rfl rfl rfl rfl ?_
  refine kw_step rfl rfl rfl rfl ?_
  refine kw_step rfl rfl rfl rfl ?_
  refine kw_put rfl ha (by decide) rfl ?_
  refine kw_step rfl rfl rfl rfl ?_
  refine kw_step rfl rfl rfl rfl ?_
  refine kw_put rfl (kput_s _ _ _) (Nat.le_of_ble_eq_true rfl) (decide_eq_true hx) ?_
  rw [kput2]
  exact kw_ret rfl rfl rfl ⟨rfl, rfl⟩
/-- the memory behind it -/
def gN (s : kM) (n x : Int) : kM := fun a => if a = 900 then (fun j => if j = 0 then s 900 0 + 1 else if j = 1 then s 900 1 + 2 + n else s 900 j) else if a = 125 + 2 * (s 900 0).toNat then (fun j => if j = 0 then n else x) else if a = 126 + 2 * (s 900 0).toNat then (fun j => if j < n.toNat then s 55 j else 0) else s a
def gNw (s : kM) : Option kM := if (0 ≤ s 54 1 ∧ s 54 1 < 400) ∧ (s 54 3 = 0 ∨ s 54 3 = 1) ∧ (0 ≤ s 900 0 ∧ s 900 0 < 300) ∧ 0 ≤ s 900 1 then some (gN s (s 54 1) (s 54 3)) else none
theorem gbN {β : Type} {s : kM} {f : kM → Option β} {t : β} (h : (gNw s).bind f = some t) : ((0 ≤ s 54 1 ∧ s 54 1 < 400) ∧ (s 54 3 = 0 ∨ s 54 3 = 1) ∧ (0 ≤ s 900 0 ∧ s 900 0 < 300) ∧ 0 ≤ s 900 1) ∧ f (gN s (s 54 1) (s 54 3)) = some t := by
  unfold gNw at h
  split at h
  · rename_i c
    exact ⟨c, h⟩
  · cases h
theorem wp_gNw {s : kM} {Q : kM → Prop} : wp (gNw s) Q ↔ ((0 ≤ s 54 1 ∧ s 54 1 < 400) ∧ (s 54 3 = 0 ∨ s 54 3 = 1) ∧ (0 ≤ s 900 0 ∧ s 900 0 < 300) ∧ 0 ≤ s 900 1) ∧ Q (gN s (s 54 1) (s 54 3)) := by
  unfold gNw
  split
  · rename_i c
    rw [wp_some]
    exact ⟨fun q => ⟨c, q⟩, fun q => q.2⟩
  · rename_i c
    exact ⟨fun ⟨r, h, _⟩ => (by cases h), fun q => absurd q.1 c⟩
theorem hH_new {s : kM} {n x : Int} (h0 : 0 ≤ n) (hr : 0 ≤ s 900 0 ∧ s 900 0 < 300) (hz : 0 ≤ s 900 1) : kput (kput (kadd (kadd (hH s) 2 (.inr (.inr (4, [.inr (.inr (.inl none)), kI 0])))) n.toNat (.inl (0, n.toNat, fun _ => 0))) (hH s).1.succ (.inl (0, n.toNat, kcpy (s 55) (fun _ => 0) 0 0 n.toNat))) (hH s).1 (.inr (.inr (4, [kr (hH s).1.succ, kI x]))) = hH (gN s n x) := by
  have e900 : gN s n x 900 = fun j => if j = 0 then s 900 0 + 1 else if j = 1 then s 900 1 + 2 + n else s 900 j := by unfold gN; rw [if_pos rfl]
  have e56 : gN s n x 56 = s 56 := by unfold gN; rw [if_neg (by decide), if_neg (by omega), if_neg (by omega)]
  obtain ⟨r, hr2⟩ : ∃ r : Nat, s 900 0 = r := ⟨(s 900 0).toNat, by omega⟩
  have er : (s 900 0).toNat = r := by omega
  have f0 : gN s n x 900 0 = s 900 0 + 1 := by rw [e900]; rfl
  have f1 : gN s n x 900 1 = s 900 1 + 2 + n := by rw [e900]; rfl
  have eo : ∀ a, a ≠ 900 → a ≠ 125 + 2 * r → a ≠ 126 + 2 * r → gN s n x a = s a := fun a h1 h2 h3 => by
    unfold gN
    rw [er, if_neg h1, if_neg h2, if_neg h3]
  have ea : gN s n x (125 + 2 * r) = fun j => if j = 0 then n else x := by
    unfold gN
    rw [er, if_neg (by omega), if_pos rfl]
  have eb : gN s n x (126 + 2 * r) = fun j => if j < n.toNat then s 55 j else 0 := by
    unfold gN
    rw [er, if_neg (by omega), if_neg (by omega), if_pos rfl]
  have hh1 : (hH s).1 = 125 + 2 * r := by show 125 + 2 * (s 900 0).toNat = _; rw [er]
  refine Prod.ext ?_ (Prod.ext ?_ ?_)
  · show (hH s).1 + 1 + 1 = 125 + 2 * (gN s n x 900 0).toNat
    rw [f0, hh1]; omega
  · show (s 900 1).toNat + 2 + n.toNat = (gN s n x 900 1).toNat
    rw [f1]; omega
  · funext a
    show (if a = (hH s).1 then _ else if a = (hH s).1.succ then _ else if a = (hH s).1 + 1 then _ else if a = (hH s).1 then _ else hC s a) = hC (gN s n x) a
    rw [hh1]
    by_cases h1 : a = 125 + 2 * r
    · rw [if_pos h1]
      obtain ⟨k1, k2⟩ := kt_odd (a := a) (by omega)
      unfold hC
      rw [k1, k2]
      dsimp only
      rw [if_neg (by omega), if_neg (by omega), if_neg (by omega), f0, if_pos (by omega), if_pos (by omega), h1, ea]
      rfl
    · rw [if_neg h1]
      by_cases h2 : a = (125 + 2 * r).succ
      · rw [if_pos h2]
        obtain ⟨k1, k2⟩ := kt_odd (a := a) (by omega)
        unfold hC
        rw [k1, k2]
        dsimp only
        rw [if_neg (by omega), if_neg (by omega), if_neg (by omega), f0, if_pos (by omega), if_neg (by omega), show a - 1 = 125 + 2 * r by omega, ea, show a = 126 + 2 * r by omega, eb]
        dsimp only
        rw [if_pos rfl]
        congr 4
        funext j
        unfold kcpy
        by_cases hj : j < n.toNat
        · rw [if_pos (by omega), if_pos hj]
          congr 1
          omega
        · rw [if_neg (by omega), if_neg hj]
      · rw [if_neg h2, if_neg (by omega), if_neg (by omega)]
        unfold hC
        rw [e56, f0]
        by_cases h9 : a = 900
        · subst h9
          obtain ⟨k1, k2⟩ := kt_odd (a := 900) (by omega)
          rw [k1, k2]
          dsimp only
          rw [if_neg (by decide), if_neg (by decide), if_neg (by decide), if_neg (by omega), if_neg (by decide), if_neg (by decide), if_neg (by decide), if_neg (by omega)]
        · rw [eo a h9 h1 (by omega)]
          cases hk : ktab a with
          | some q => rfl
          | none =>
            dsimp only
            cases ho : kotab a with
            | some q => rfl
            | none =>
              dsimp only
              by_cases h10 : a = 10
              · rw [if_pos h10, if_pos h10]
              · rw [if_neg h10, if_neg h10]
                by_cases h56 : a = 56
                · rw [if_pos h56, if_pos h56]
                · rw [if_neg h56, if_neg h56]
                  by_cases hlt : a < 125
                  · rw [if_pos hlt, if_pos hlt]
                  · rw [if_neg hlt, if_neg hlt]
                    by_cases hin : a < 125 + 2 * (s 900 0).toNat
                    · have hin2 : a < 125 + 2 * (s 900 0 + 1).toNat := by omega
                      rw [if_pos hin, if_pos hin2]
                      by_cases hodd : a % 2 = 1
                      · rw [if_pos hodd, if_pos hodd]
                      · rw [if_neg hodd, if_neg hodd, eo (a - 1) (by omega) (by omega) (by omega)]
                    · have hin2 : ¬ a < 125 + 2 * (s 900 0 + 1).toNat := by omega
                      rw [if_neg hin, if_neg hin2]
theorem kw_newR {sc : List Int} {s : kM} {Q : Option kV → kH → Prop} {l1 l2 l3 : Option kV} {d : Nat} (hg : (0 ≤ s 54 1 ∧ s 54 1 < 400) ∧ (s 54 3 = 0 ∨ s 54 3 = 1) ∧ (0 ≤ s 900 0 ∧ s 900 0 < 300) ∧ 0 ≤ s 900 1) (k : kW sc (d + 2) kc_RuleText_read 4 56 [some (kr 54), l1, l2, l3] [kq (s 900 0)] (hH (gN s (s 54 1) (s 54 3))) Q) : kW sc (d + 2) kc_RuleText_read 4 46 [some (kr 54), l1, l2, l3] [] (hH s) Q := by
  obtain ⟨⟨n0, n1⟩, hx, hr, hz⟩ := hg
  have hh1 : (hH s).1 = 125 + 2 * (s 900 0).toNat := rfl
  generalize hA : kadd (hH s) 2 (.inr (.inr (4, [.inr (.inr (.inl none)), kI 0]))) = h1
  have a54 : h1.2.2 54 = some (kXo (s 54)) := by rw [← hA, kadd_o _ _ _ (by omega)]; exact hH_O (rfl : kotab 54 = some kXo)
  have a55 : h1.2.2 55 = some (.inl (0, 400, s 55)) := by rw [← hA, kadd_o _ _ _ (by omega)]; exact hH_A (rfl : ktab 55 = some (0, 400))
  have ar1 : h1.1 = (hH s).1.succ := by rw [← hA]; rfl
  refine kw_step (pc' := 47) (L' := [some (kr 54), l1, l2, l3]) (st' := [kr (hH s).1]) (h' := h1) rfl rfl rfl (by rw [← hA]; rfl) ?_
  refine kw_step rfl rfl rfl rfl ?_
  refine kw_step rfl rfl rfl rfl ?_
  refine kw_get rfl a54 rfl ?_
  refine kw_step rfl rfl rfl rfl ?_
  refine kw_get rfl a54 rfl ?_
  refine kw_callS (vs := [kr 55, kI (s 54 1)]) rfl rfl rfl ⟨rfl, Nat.le_of_ble_eq_true rfl, Nat.le_of_ble_eq_true rfl, rfl⟩ (tCopyOf a55 (by omega) n0 n1) (by omega) ?_
  generalize hB : kput (kadd h1 (s 54 1).toNat (.inl (0, (s 54 1).toNat, fun _ => 0))) h1.1 (.inl (0, (s 54 1).toNat, kcpy (s 55) (fun _ => 0) 0 0 (s 54 1).toNat)) = h2
  have b54 : h2.2.2 54 = some (kXo (s 54)) := by rw [← hB, kput_n _ _ (by omega), kadd_o _ _ _ (by omega)]; exact a54
  have brr : h2.2.2 (hH s).1 = some (.inr (.inr (4, [.inr (.inr (.inl none)), kI 0]))) := by rw [← hB, kput_n _ _ (by omega), kadd_o _ _ _ (by omega), ← hA, kadd_s]
  refine kw_step rfl rfl rfl rfl ?_
  refine kw_get rfl b54 rfl ?_
  refine kw_callI (vs := [kr h1.1, kI (s 54 3)]) rfl rfl rfl ⟨rfl, Nat.le_of_ble_eq_true rfl, Nat.le_of_ble_eq_true rfl, by decide, rfl⟩ brr (tRuleInit brr hx) (by omega) ?_
  have hfin : kput h2 (hH s).1 (.inr (.inr (4, [kr h1.1, kI (s 54 3)]))) = hH (gN s (s 54 1) (s 54 3)) := by
    rw [← hB, ar1, ← hA]
    exact hH_new n0 hr hz
  rw [hfin]
  rw [kq_p hr.1, ← hh1] at k
  exact k
