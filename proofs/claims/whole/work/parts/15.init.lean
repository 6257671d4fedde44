theorem kadd_n {h : kH} {z m j : Nat} {e : kE} (hm : h.1 = m) (hj : j ≠ m) : (kadd h z e).2.2 j = h.2.2 j := by
  subst hm
  exact if_neg hj
/-! THE CONSTRUCTORS -/
theorem tArrays_fill {sc : List Int} {h : kH} {a n : Nat} {f : Nat → Int} (x : Int) (ha : h.2.2 a = some (.inl (0, n, f))) (hn : n ≤ 1000000) : kR sc 0 km_Arrays_fill_II [kr a, kI x] h none (kput h a (.inl (0, n, kfill x n f))) := by
  refine kR.start rfl ?_
  show kW sc 0 kc_Arrays_fill_II 0 0 [some (kr a), some (kI x), none, none] [] h _
  refine kw_step rfl rfl rfl rfl ?_
  refine kw_step rfl rfl rfl rfl ?_
  refine kw_step rfl rfl rfl rfl ?_
  refine kw_alen rfl ha (by decide) ?_
  refine kw_step rfl rfl rfl rfl ?_
  have key : ∀ (m b : Nat), n - b ≤ m → b ≤ n → kW sc 0 kc_Arrays_fill_II 0 5 [some (kr a), some (kI x), some (kI (b : Int)), some (kI (n : Int))] [] (kput h a (.inl (0, n, kfill x b f))) (fun r g => r = none ∧ g = kput h a (.inl (0, n, kfill x n f))) := by
    intro m
    induction m with
    | zero =>
      intro b hm hb
      obtain rfl : b = n := by omega
      refine kw_step rfl rfl rfl rfl ?_
      refine kw_step rfl rfl rfl rfl ?_
      refine kw_icmp_ge rfl rfl (fun _ => ?_) (fun q => absurd q (by omega))
      exact kw_ret rfl rfl rfl ⟨rfl, rfl⟩
    | succ m ih =>
      intro b hm hb
      refine kw_step rfl rfl rfl rfl ?_
      refine kw_step rfl rfl rfl rfl ?_
      refine kw_icmp_ge rfl rfl (fun q => ?_) (fun q => ?_)
      · obtain rfl : b = n := by omega
        exact kw_ret rfl rfl rfl ⟨rfl, rfl⟩
      · refine kw_step rfl rfl rfl rfl ?_
        refine kw_step rfl rfl rfl rfl ?_
        refine kw_step rfl rfl rfl rfl ?_
        refine kw_iast rfl (kput_s _ _ _) (by omega) (by omega) (j := b) (by omega) ?_
        rw [kput2, kfill_s]
        refine kw_step rfl rfl rfl rfl ?_
        rw [wI_id (by omega) (by omega)]
        refine kw_goto rfl rfl ?_
        exact ih (b + 1) (by omega) (by omega)
  have := key n 0 (by omega) (by omega)
  rw [kfill_0] at this
  have e : kput h a (.inl (0, n, f)) = h := kput_id _ ha
  rw [e] at this
  exact this
set_option maxRecDepth 8000 in
set_option maxHeartbeats 2000000 in
theorem ti_Tape_init_1 {sc : List Int} (z : Nat) (f : Nat → Option kE) (hf : f 1 = some (.inr (.inr (8, (kfk 8).map kdef0)))) : ∃ (z' : Nat) (f' : Nat → Option kE), kR sc 0 km_Tape_init [kr 1] (2, z, f) none (3, z', f') ∧ (∀ j, j < 1 → f' j = f j) ∧ z' ≤ z + 1000 ∧ f' 1 = some (.inr (.inr (8, (((kfk 8).map kdef0).set 0 (kr 2))))) ∧ f' 2 = some (.inl (1, 400, fun _ => 0)) := by
  refine ⟨(kput (kadd (2, z, f) 400 (.inl (1, 400, fun _ => 0))) 1 (.inr (.inr (8, (((kfk 8).map kdef0).set 0 (kr 2)))))).2.1, (kput (kadd (2, z, f) 400 (.inl (1, 400, fun _ => 0))) 1 (.inr (.inr (8, (((kfk 8).map kdef0).set 0 (kr 2)))))).2.2, ?_, fun j hj => ?_, ?_, rfl, rfl⟩
  · refine kR.start rfl ?_
    show kW sc 0 kc_Tape_init 0 0 [some (kr 1)] [] (2, z, f) _
    refine kw_step rfl rfl rfl rfl ?_
    refine kw_step rfl rfl rfl rfl ?_
    refine kw_step rfl rfl rfl rfl ?_
    refine kw_step rfl rfl rfl rfl ?_
    refine kw_step rfl rfl rfl rfl ?_
    refine kw_put (fs := ((kfk 8).map kdef0)) rfl hf (Nat.le_of_ble_eq_true rfl) rfl ?_
    exact kw_ret rfl rfl rfl ⟨rfl, rfl⟩
  · exact ((kput_n _ _ (by omega)).trans ((kadd_n (m := 2) rfl (by omega)).trans rfl))
  · have l0 : (kfk 0).length ≤ 60 := by decide
    have l1 : (kfk 1).length ≤ 60 := by decide
    have l2 : (kfk 2).length ≤ 60 := by decide
    have l3 : (kfk 3).length ≤ 60 := by decide
    have l4 : (kfk 4).length ≤ 60 := by decide
    have l5 : (kfk 5).length ≤ 60 := by decide
    have l6 : (kfk 6).length ≤ 60 := by decide
    have l7 : (kfk 7).length ≤ 60 := by decide
    have l8 : (kfk 8).length ≤ 60 := by decide
    have l9 : (kfk 9).length ≤ 60 := by decide
    have l10 : (kfk 10).length ≤ 60 := by decide
    have l11 : (kfk 11).length ≤ 60 := by decide
    simp only [kput, kadd] at *
    omega
set_option maxRecDepth 8000 in
set_option maxHeartbeats 2000000 in
theorem ti_Town_init_4 {sc : List Int} (z : Nat) (f : Nat → Option kE) (hf : f 4 = some (.inr (.inr (9, (kfk 9).map kdef0)))) : ∃ (z' : Nat) (f' : Nat → Option kE), kR sc 1 km_Town_init [kr 4] (5, z, f) none (10, z', f') ∧ (∀ j, j < 4 → f' j = f j) ∧ z' ≤ z + 200 ∧ f' 4 = some (.inr (.inr (9, (((((((kfk 9).map kdef0).set 4 (kr 5)).set 5 (kr 6)).set 6 (kr 7)).set 7 (kr 8)).set 8 (kr 9))))) ∧ f' 5 = some (.inl (0, 22, fun _ => 0)) ∧ f' 6 = some (.inl (0, 11, fun _ => 0)) ∧ f' 7 = some (.inl (0, 22, fun _ => 0)) ∧ f' 8 = some (.inl (0, 22, fun _ => 0)) ∧ f' 9 = some (.inl (0, 22, (kfill (-1) 22 (fun _ => 0)))) := by
  refine ⟨(kput (kput (kadd (kput (kadd (kput (kadd (kput (kadd (kput (kadd (5, z, f) 22 (.inl (0, 22, fun _ => 0))) 4 (.inr (.inr (9, (((kfk 9).map kdef0).set 4 (kr 5)))))) 11 (.inl (0, 11, fun _ => 0))) 4 (.inr (.inr (9, ((((kfk 9).map kdef0).set 4 (kr 5)).set 5 (kr 6)))))) 22 (.inl (0, 22, fun _ => 0))) 4 (.inr (.inr (9, (((((kfk 9).map kdef0).set 4 (kr 5)).set 5 (kr 6)).set 6 (kr 7)))))) 22 (.inl (0, 22, fun _ => 0))) 4 (.inr (.inr (9, ((((((kfk 9).map kdef0).set 4 (kr 5)).set 5 (kr 6)).set 6 (kr 7)).set 7 (kr 8)))))) 22 (.inl (0, 22, fun _ => 0))) 4 (.inr (.inr (9, (((((((kfk 9).map kdef0).set 4 (kr 5)).set 5 (kr 6)).set 6 (kr 7)).set 7 (kr 8)).set 8 (kr 9)))))) 9 (.inl (0, 22, (kfill (-1) 22 (fun _ => 0))))).2.1, (kput (kput (kadd (kput (kadd (kput (kadd (kput (kadd (kput (kadd (5, z, f) 22 (.inl (0, 22, fun _ => 0))) 4 (.inr (.inr (9, (((kfk 9).map kdef0).set 4 (kr 5)))))) 11 (.inl (0, 11, fun _ => 0))) 4 (.inr (.inr (9, ((((kfk 9).map kdef0).set 4 (kr 5)).set 5 (kr 6)))))) 22 (.inl (0, 22, fun _ => 0))) 4 (.inr (.inr (9, (((((kfk 9).map kdef0).set 4 (kr 5)).set 5 (kr 6)).set 6 (kr 7)))))) 22 (.inl (0, 22, fun _ => 0))) 4 (.inr (.inr (9, ((((((kfk 9).map kdef0).set 4 (kr 5)).set 5 (kr 6)).set 6 (kr 7)).set 7 (kr 8)))))) 22 (.inl (0, 22, fun _ => 0))) 4 (.inr (.inr (9, (((((((kfk 9).map kdef0).set 4 (kr 5)).set 5 (kr 6)).set 6 (kr 7)).set 7 (kr 8)).set 8 (kr 9)))))) 9 (.inl (0, 22, (kfill (-1) 22 (fun _ => 0))))).2.2, ?_, fun j hj => ?_, ?_, rfl, rfl, rfl, rfl, rfl, rfl⟩
  · refine kR.start rfl ?_
    show kW sc 1 kc_Town_init 0 0 [some (kr 4)] [] (5, z, f) _
    refine kw_step rfl rfl rfl rfl ?_
    refine kw_step rfl rfl rfl rfl ?_
    refine kw_step rfl rfl rfl rfl ?_
    refine kw_step rfl rfl rfl rfl ?_
    refine kw_step rfl rfl rfl rfl ?_
    refine kw_put (fs := ((kfk 9).map kdef0)) rfl hf (Nat.le_of_ble_eq_true rfl) rfl ?_
    refine kw_step rfl rfl rfl rfl ?_
    refine kw_step rfl rfl rfl rfl ?_
    refine kw_step rfl rfl rfl rfl ?_
    refine kw_put (fs := (((kfk 9).map kdef0).set 4 (kr 5))) rfl rfl (Nat.le_of_ble_eq_true rfl) rfl ?_
    refine kw_step rfl rfl rfl rfl ?_
    refine kw_step rfl rfl rfl rfl ?_
    refine kw_step rfl rfl rfl rfl ?_
    refine kw_put (fs := ((((kfk 9).map kdef0).set 4 (kr 5)).set 5 (kr 6))) rfl rfl (Nat.le_of_ble_eq_true rfl) rfl ?_
    refine kw_step rfl rfl rfl rfl ?_
    refine kw_step rfl rfl rfl rfl ?_
    refine kw_step rfl rfl rfl rfl ?_
    refine kw_put (fs := (((((kfk 9).map kdef0).set 4 (kr 5)).set 5 (kr 6)).set 6 (kr 7))) rfl rfl (Nat.le_of_ble_eq_true rfl) rfl ?_
    refine kw_step rfl rfl rfl rfl ?_
    refine kw_step rfl rfl rfl rfl ?_
    refine kw_step rfl rfl rfl rfl ?_
    refine kw_put (fs := ((((((kfk 9).map kdef0).set 4 (kr 5)).set 5 (kr 6)).set 6 (kr 7)).set 7 (kr 8))) rfl rfl (Nat.le_of_ble_eq_true rfl) rfl ?_
    refine kw_step rfl rfl rfl rfl ?_
    refine kw_get (fs := (((((((kfk 9).map kdef0).set 4 (kr 5)).set 5 (kr 6)).set 6 (kr 7)).set 7 (kr 8)).set 8 (kr 9))) rfl rfl rfl ?_
    refine kw_step rfl rfl rfl rfl ?_
    refine kw_callS (vs := [_, _]) rfl rfl rfl ⟨rfl, Nat.le_of_ble_eq_true rfl, Nat.le_of_ble_eq_true rfl, rfl⟩ (tArrays_fill (n := 22) (f := (fun _ => 0)) _ rfl (by decide)) (by decide) ?_
    exact kw_ret rfl rfl rfl ⟨rfl, rfl⟩
  · exact ((kput_n _ _ (by omega)).trans ((kput_n _ _ (by omega)).trans ((kadd_n (m := 9) rfl (by omega)).trans ((kput_n _ _ (by omega)).trans ((kadd_n (m := 8) rfl (by omega)).trans ((kput_n _ _ (by omega)).trans ((kadd_n (m := 7) rfl (by omega)).trans ((kput_n _ _ (by omega)).trans ((kadd_n (m := 6) rfl (by omega)).trans ((kput_n _ _ (by omega)).trans ((kadd_n (m := 5) rfl (by omega)).trans rfl)))))))))))
  · have l0 : (kfk 0).length ≤ 60 := by decide
    have l1 : (kfk 1).length ≤ 60 := by decide
    have l2 : (kfk 2).length ≤ 60 := by decide
    have l3 : (kfk 3).length ≤ 60 := by decide
    have l4 : (kfk 4).length ≤ 60 := by decide
    have l5 : (kfk 5).length ≤ 60 := by decide
    have l6 : (kfk 6).length ≤ 60 := by decide
    have l7 : (kfk 7).length ≤ 60 := by decide
    have l8 : (kfk 8).length ≤ 60 := by decide
    have l9 : (kfk 9).length ≤ 60 := by decide
    have l10 : (kfk 10).length ≤ 60 := by decide
    have l11 : (kfk 11).length ≤ 60 := by decide
    simp only [kput, kadd] at *
    omega
set_option maxRecDepth 8000 in
set_option maxHeartbeats 2000000 in
theorem ti_Stand_init_3 {sc : List Int} (z : Nat) (f : Nat → Option kE) (hf : f 3 = some (.inr (.inr (7, (kfk 7).map kdef0)))) : ∃ (z' : Nat) (f' : Nat → Option kE), kR sc 2 km_Stand_init [kr 3] (4, z, f) none (10, z', f') ∧ (∀ j, j < 3 → f' j = f j) ∧ z' ≤ z + 300 ∧ f' 3 = some (.inr (.inr (7, ((((kfk 7).map kdef0).set 0 (kr 4)).set 2 (kI (-1)))))) ∧ f' 4 = some (.inr (.inr (9, (((((((kfk 9).map kdef0).set 4 (kr 5)).set 5 (kr 6)).set 6 (kr 7)).set 7 (kr 8)).set 8 (kr 9))))) ∧ f' 5 = some (.inl (0, 22, fun _ => 0)) ∧ f' 6 = some (.inl (0, 11, fun _ => 0)) ∧ f' 7 = some (.inl (0, 22, fun _ => 0)) ∧ f' 8 = some (.inl (0, 22, fun _ => 0)) ∧ f' 9 = some (.inl (0, 22, (kfill (-1) 22 (fun _ => 0)))) := by
  obtain ⟨z1, f1, r1, fr1, zb1, c1_4, c1_5, c1_6, c1_7, c1_8, c1_9⟩ := ti_Town_init_4 (sc := sc) (kadd (4, z, f) (kfk 9).length (.inr (.inr (9, (kfk 9).map kdef0)))).2.1 (kadd (4, z, f) (kfk 9).length (.inr (.inr (9, (kfk 9).map kdef0)))).2.2 rfl
  refine ⟨(kput (kput (10, z1, f1) 3 (.inr (.inr (7, (((kfk 7).map kdef0).set 0 (kr 4)))))) 3 (.inr (.inr (7, ((((kfk 7).map kdef0).set 0 (kr 4)).set 2 (kI (-1))))))).2.1, (kput (kput (10, z1, f1) 3 (.inr (.inr (7, (((kfk 7).map kdef0).set 0 (kr 4)))))) 3 (.inr (.inr (7, ((((kfk 7).map kdef0).set 0 (kr 4)).set 2 (kI (-1))))))).2.2, ?_, fun j hj => ?_, ?_, rfl, c1_4, c1_5, c1_6, c1_7, c1_8, c1_9⟩
  · refine kR.start rfl ?_
    show kW sc 2 kc_Stand_init 0 0 [some (kr 3)] [] (4, z, f) _
    refine kw_step rfl rfl rfl rfl ?_
    refine kw_step rfl rfl rfl rfl ?_
    refine kw_step rfl rfl rfl rfl ?_
    refine kw_step rfl rfl rfl rfl ?_
    refine kw_step rfl rfl rfl rfl ?_
    refine kw_callI (vs := []) rfl rfl rfl ⟨rfl, Nat.le_of_ble_eq_true rfl, Nat.le_of_ble_eq_true rfl, by decide, rfl⟩ rfl r1 (by decide) ?_
    refine kw_put (fs := ((kfk 7).map kdef0)) rfl ((fr1 3 (by decide)).trans hf) (Nat.le_of_ble_eq_true rfl) rfl ?_
    refine kw_step rfl rfl rfl rfl ?_
    refine kw_step rfl rfl rfl rfl ?_
    refine kw_put (fs := (((kfk 7).map kdef0).set 0 (kr 4))) rfl rfl (Nat.le_of_ble_eq_true rfl) rfl ?_
    exact kw_ret rfl rfl rfl ⟨rfl, rfl⟩
  · exact ((kput_n _ _ (by omega)).trans ((kput_n _ _ (by omega)).trans ((fr1 j (by omega)).trans ((kadd_n (m := 4) rfl (by omega)).trans rfl))))
  · have l0 : (kfk 0).length ≤ 60 := by decide
    have l1 : (kfk 1).length ≤ 60 := by decide
    have l2 : (kfk 2).length ≤ 60 := by decide
    have l3 : (kfk 3).length ≤ 60 := by decide
    have l4 : (kfk 4).length ≤ 60 := by decide
    have l5 : (kfk 5).length ≤ 60 := by decide
    have l6 : (kfk 6).length ≤ 60 := by decide
    have l7 : (kfk 7).length ≤ 60 := by decide
    have l8 : (kfk 8).length ≤ 60 := by decide
    have l9 : (kfk 9).length ≤ 60 := by decide
    have l10 : (kfk 10).length ≤ 60 := by decide
    have l11 : (kfk 11).length ≤ 60 := by decide
    simp only [kput, kadd] at *
    omega
set_option maxRecDepth 8000 in
set_option maxHeartbeats 2000000 in
theorem ti_Town_init_11 {sc : List Int} (z : Nat) (f : Nat → Option kE) (hf : f 11 = some (.inr (.inr (9, (kfk 9).map kdef0)))) : ∃ (z' : Nat) (f' : Nat → Option kE), kR sc 1 km_Town_init [kr 11] (12, z, f) none (17, z', f') ∧ (∀ j, j < 11 → f' j = f j) ∧ z' ≤ z + 200 ∧ f' 11 = some (.inr (.inr (9, (((((((kfk 9).map kdef0).set 4 (kr 12)).set 5 (kr 13)).set 6 (kr 14)).set 7 (kr 15)).set 8 (kr 16))))) ∧ f' 12 = some (.inl (0, 22, fun _ => 0)) ∧ f' 13 = some (.inl (0, 11, fun _ => 0)) ∧ f' 14 = some (.inl (0, 22, fun _ => 0)) ∧ f' 15 = some (.inl (0, 22, fun _ => 0)) ∧ f' 16 = some (.inl (0, 22, (kfill (-1) 22 (fun _ => 0)))) := by
  refine ⟨(kput (kput (kadd (kput (kadd (kput (kadd (kput (kadd (kput (kadd (12, z, f) 22 (.inl (0, 22, fun _ => 0))) 11 (.inr (.inr (9, (((kfk 9).map kdef0).set 4 (kr 12)))))) 11 (.inl (0, 11, fun _ => 0))) 11 (.inr (.inr (9, ((((kfk 9).map kdef0).set 4 (kr 12)).set 5 (kr 13)))))) 22 (.inl (0, 22, fun _ => 0))) 11 (.inr (.inr (9, (((((kfk 9).map kdef0).set 4 (kr 12)).set 5 (kr 13)).set 6 (kr 14)))))) 22 (.inl (0, 22, fun _ => 0))) 11 (.inr (.inr (9, ((((((kfk 9).map kdef0).set 4 (kr 12)).set 5 (kr 13)).set 6 (kr 14)).set 7 (kr 15)))))) 22 (.inl (0, 22, fun _ => 0))) 11 (.inr (.inr (9, (((((((kfk 9).map kdef0).set 4 (kr 12)).set 5 (kr 13)).set 6 (kr 14)).set 7 (kr 15)).set 8 (kr 16)))))) 16 (.inl (0, 22, (kfill (-1) 22 (fun _ => 0))))).2.1, (kput (kput (kadd (kput (kadd (kput (kadd (kput (kadd (kput (kadd (12, z, f) 22 (.inl (0, 22, fun _ => 0))) 11 (.inr (.inr (9, (((kfk 9).map kdef0).set 4 (kr 12)))))) 11 (.inl (0, 11, fun _ => 0))) 11 (.inr (.inr (9, ((((kfk 9).map kdef0).set 4 (kr 12)).set 5 (kr 13)))))) 22 (.inl (0, 22, fun _ => 0))) 11 (.inr (.inr (9, (((((kfk 9).map kdef0).set 4 (kr 12)).set 5 (kr 13)).set 6 (kr 14)))))) 22 (.inl (0, 22, fun _ => 0))) 11 (.inr (.inr (9, ((((((kfk 9).map kdef0).set 4 (kr 12)).set 5 (kr 13)).set 6 (kr 14)).set 7 (kr 15)))))) 22 (.inl (0, 22, fun _ => 0))) 11 (.inr (.inr (9, (((((((kfk 9).map kdef0).set 4 (kr 12)).set 5 (kr 13)).set 6 (kr 14)).set 7 (kr 15)).set 8 (kr 16)))))) 16 (.inl (0, 22, (kfill (-1) 22 (fun _ => 0))))).2.2, ?_, fun j hj => ?_, ?_, rfl, rfl, rfl, rfl, rfl, rfl⟩
  · refine kR.start rfl ?_
    show kW sc 1 kc_Town_init 0 0 [some (kr 11)] [] (12, z, f) _
    refine kw_step rfl rfl rfl rfl ?_
    refine kw_step rfl rfl rfl rfl ?_
    refine kw_step rfl rfl rfl rfl ?_
    refine kw_step rfl rfl rfl rfl ?_
    refine kw_step rfl rfl rfl rfl ?_
    refine kw_put (fs := ((kfk 9).map kdef0)) rfl hf (Nat.le_of_ble_eq_true rfl) rfl ?_
    refine kw_step rfl rfl rfl rfl ?_
    refine kw_step rfl rfl rfl rfl ?_
    refine kw_step rfl rfl rfl rfl ?_
    refine kw_put (fs := (((kfk 9).map kdef0).set 4 (kr 12))) rfl rfl (Nat.le_of_ble_eq_true rfl) rfl ?_
    refine kw_step rfl rfl rfl rfl ?_
    refine kw_step rfl rfl rfl rfl ?_
    refine kw_step rfl rfl rfl rfl ?_
    refine kw_put (fs := ((((kfk 9).map kdef0).set 4 (kr 12)).set 5 (kr 13))) rfl rfl (Nat.le_of_ble_eq_true rfl) rfl ?_
    refine kw_step rfl rfl rfl rfl ?_
    refine kw_step rfl rfl rfl rfl ?_
    refine kw_step rfl rfl rfl rfl ?_
    refine kw_put (fs := (((((kfk 9).map kdef0).set 4 (kr 12)).set 5 (kr 13)).set 6 (kr 14))) rfl rfl (Nat.le_of_ble_eq_true rfl) rfl ?_
    refine kw_step rfl rfl rfl rfl ?_
    refine kw_step rfl rfl rfl rfl ?_
    refine kw_step rfl rfl rfl rfl ?_
    refine kw_put (fs := ((((((kfk 9).map kdef0).set 4 (kr 12)).set 5 (kr 13)).set 6 (kr 14)).set 7 (kr 15))) rfl rfl (Nat.le_of_ble_eq_true rfl) rfl ?_
    refine kw_step rfl rfl rfl rfl ?_
    refine kw_get (fs := (((((((kfk 9).map kdef0).set 4 (kr 12)).set 5 (kr 13)).set 6 (kr 14)).set 7 (kr 15)).set 8 (kr 16))) rfl rfl rfl ?_
    refine kw_step rfl rfl rfl rfl ?_
    refine kw_callS (vs := [_, _]) rfl rfl rfl ⟨rfl, Nat.le_of_ble_eq_true rfl, Nat.le_of_ble_eq_true rfl, rfl⟩ (tArrays_fill (n := 22) (f := (fun _ => 0)) _ rfl (by decide)) (by decide) ?_
    exact kw_ret rfl rfl rfl ⟨rfl, rfl⟩
  · exact ((kput_n _ _ (by omega)).trans ((kput_n _ _ (by omega)).trans ((kadd_n (m := 16) rfl (by omega)).trans ((kput_n _ _ (by omega)).trans ((kadd_n (m := 15) rfl (by omega)).trans ((kput_n _ _ (by omega)).trans ((kadd_n (m := 14) rfl (by omega)).trans ((kput_n _ _ (by omega)).trans ((kadd_n (m := 13) rfl (by omega)).trans ((kput_n _ _ (by omega)).trans ((kadd_n (m := 12) rfl (by omega)).trans rfl)))))))))))
  · have l0 : (kfk 0).length ≤ 60 := by decide
    have l1 : (kfk 1).length ≤ 60 := by decide
    have l2 : (kfk 2).length ≤ 60 := by decide
    have l3 : (kfk 3).length ≤ 60 := by decide
    have l4 : (kfk 4).length ≤ 60 := by decide
    have l5 : (kfk 5).length ≤ 60 := by decide
    have l6 : (kfk 6).length ≤ 60 := by decide
    have l7 : (kfk 7).length ≤ 60 := by decide
    have l8 : (kfk 8).length ≤ 60 := by decide
    have l9 : (kfk 9).length ≤ 60 := by decide
    have l10 : (kfk 10).length ≤ 60 := by decide
    have l11 : (kfk 11).length ≤ 60 := by decide
    simp only [kput, kadd] at *
    omega
set_option maxRecDepth 8000 in
set_option maxHeartbeats 2000000 in
theorem ti_Land_init_17 {sc : List Int} (z : Nat) (f : Nat → Option kE) (hf : f 17 = some (.inr (.inr (3, (kfk 3).map kdef0)))) : ∃ (z' : Nat) (f' : Nat → Option kE), kR sc 0 km_Land_init [kr 17] (18, z, f) none (21, z', f') ∧ (∀ j, j < 17 → f' j = f j) ∧ z' ≤ z + 1000 ∧ f' 17 = some (.inr (.inr (3, (((((kfk 3).map kdef0).set 4 (kr 18)).set 5 (kr 19)).set 7 (kr 20))))) ∧ f' 18 = some (.inl (0, 48, fun _ => 0)) ∧ f' 19 = some (.inl (0, 48, fun _ => 0)) ∧ f' 20 = some (.inl (0, 44, fun _ => 0)) := by
  refine ⟨(kput (kadd (kput (kadd (kput (kadd (18, z, f) 48 (.inl (0, 48, fun _ => 0))) 17 (.inr (.inr (3, (((kfk 3).map kdef0).set 4 (kr 18)))))) 48 (.inl (0, 48, fun _ => 0))) 17 (.inr (.inr (3, ((((kfk 3).map kdef0).set 4 (kr 18)).set 5 (kr 19)))))) 44 (.inl (0, 44, fun _ => 0))) 17 (.inr (.inr (3, (((((kfk 3).map kdef0).set 4 (kr 18)).set 5 (kr 19)).set 7 (kr 20)))))).2.1, (kput (kadd (kput (kadd (kput (kadd (18, z, f) 48 (.inl (0, 48, fun _ => 0))) 17 (.inr (.inr (3, (((kfk 3).map kdef0).set 4 (kr 18)))))) 48 (.inl (0, 48, fun _ => 0))) 17 (.inr (.inr (3, ((((kfk 3).map kdef0).set 4 (kr 18)).set 5 (kr 19)))))) 44 (.inl (0, 44, fun _ => 0))) 17 (.inr (.inr (3, (((((kfk 3).map kdef0).set 4 (kr 18)).set 5 (kr 19)).set 7 (kr 20)))))).2.2, ?_, fun j hj => ?_, ?_, rfl, rfl, rfl, rfl⟩
  · refine kR.start rfl ?_
    show kW sc 0 kc_Land_init 0 0 [some (kr 17)] [] (18, z, f) _
    refine kw_step rfl rfl rfl rfl ?_
    refine kw_step rfl rfl rfl rfl ?_
    refine kw_step rfl rfl rfl rfl ?_
    refine kw_step rfl rfl rfl rfl ?_
    refine kw_step rfl rfl rfl rfl ?_
    refine kw_put (fs := ((kfk 3).map kdef0)) rfl hf (Nat.le_of_ble_eq_true rfl) rfl ?_
    refine kw_step rfl rfl rfl rfl ?_
    refine kw_step rfl rfl rfl rfl ?_
    refine kw_step rfl rfl rfl rfl ?_
    refine kw_put (fs := (((kfk 3).map kdef0).set 4 (kr 18))) rfl rfl (Nat.le_of_ble_eq_true rfl) rfl ?_
    refine kw_step rfl rfl rfl rfl ?_
    refine kw_step rfl rfl rfl rfl ?_
    refine kw_step rfl rfl rfl rfl ?_
    refine kw_put (fs := ((((kfk 3).map kdef0).set 4 (kr 18)).set 5 (kr 19))) rfl rfl (Nat.le_of_ble_eq_true rfl) rfl ?_
    exact kw_ret rfl rfl rfl ⟨rfl, rfl⟩
  · exact ((kput_n _ _ (by omega)).trans ((kadd_n (m := 20) rfl (by omega)).trans ((kput_n _ _ (by omega)).trans ((kadd_n (m := 19) rfl (by omega)).trans ((kput_n _ _ (by omega)).trans ((kadd_n (m := 18) rfl (by omega)).trans rfl))))))
  · have l0 : (kfk 0).length ≤ 60 := by decide
    have l1 : (kfk 1).length ≤ 60 := by decide
    have l2 : (kfk 2).length ≤ 60 := by decide
    have l3 : (kfk 3).length ≤ 60 := by decide
    have l4 : (kfk 4).length ≤ 60 := by decide
    have l5 : (kfk 5).length ≤ 60 := by decide
    have l6 : (kfk 6).length ≤ 60 := by decide
    have l7 : (kfk 7).length ≤ 60 := by decide
    have l8 : (kfk 8).length ≤ 60 := by decide
    have l9 : (kfk 9).length ≤ 60 := by decide
    have l10 : (kfk 10).length ≤ 60 := by decide
    have l11 : (kfk 11).length ≤ 60 := by decide
    simp only [kput, kadd] at *
    omega
set_option maxRecDepth 8000 in
set_option maxHeartbeats 2000000 in
theorem ti_Town_init_28 {sc : List Int} (z : Nat) (f : Nat → Option kE) (hf : f 28 = some (.inr (.inr (9, (kfk 9).map kdef0)))) : ∃ (z' : Nat) (f' : Nat → Option kE), kR sc 1 km_Town_init [kr 28] (29, z, f) none (34, z', f') ∧ (∀ j, j < 28 → f' j = f j) ∧ z' ≤ z + 200 ∧ f' 28 = some (.inr (.inr (9, (((((((kfk 9).map kdef0).set 4 (kr 29)).set 5 (kr 30)).set 6 (kr 31)).set 7 (kr 32)).set 8 (kr 33))))) ∧ f' 29 = some (.inl (0, 22, fun _ => 0)) ∧ f' 30 = some (.inl (0, 11, fun _ => 0)) ∧ f' 31 = some (.inl (0, 22, fun _ => 0)) ∧ f' 32 = some (.inl (0, 22, fun _ => 0)) ∧ f' 33 = some (.inl (0, 22, (kfill (-1) 22 (fun _ => 0)))) := by
  refine ⟨(kput (kput (kadd (kput (kadd (kput (kadd (kput (kadd (kput (kadd (29, z, f) 22 (.inl (0, 22, fun _ => 0))) 28 (.inr (.inr (9, (((kfk 9).map kdef0).set 4 (kr 29)))))) 11 (.inl (0, 11, fun _ => 0))) 28 (.inr (.inr (9, ((((kfk 9).map kdef0).set 4 (kr 29)).set 5 (kr 30)))))) 22 (.inl (0, 22, fun _ => 0))) 28 (.inr (.inr (9, (((((kfk 9).map kdef0).set 4 (kr 29)).set 5 (kr 30)).set 6 (kr 31)))))) 22 (.inl (0, 22, fun _ => 0))) 28 (.inr (.inr (9, ((((((kfk 9).map kdef0).set 4 (kr 29)).set 5 (kr 30)).set 6 (kr 31)).set 7 (kr 32)))))) 22 (.inl (0, 22, fun _ => 0))) 28 (.inr (.inr (9, (((((((kfk 9).map kdef0).set 4 (kr 29)).set 5 (kr 30)).set 6 (kr 31)).set 7 (kr 32)).set 8 (kr 33)))))) 33 (.inl (0, 22, (kfill (-1) 22 (fun _ => 0))))).2.1, (kput (kput (kadd (kput (kadd (kput (kadd (kput (kadd (kput (kadd (29, z, f) 22 (.inl (0, 22, fun _ => 0))) 28 (.inr (.inr (9, (((kfk 9).map kdef0).set 4 (kr 29)))))) 11 (.inl (0, 11, fun _ => 0))) 28 (.inr (.inr (9, ((((kfk 9).map kdef0).set 4 (kr 29)).set 5 (kr 30)))))) 22 (.inl (0, 22, fun _ => 0))) 28 (.inr (.inr (9, (((((kfk 9).map kdef0).set 4 (kr 29)).set 5 (kr 30)).set 6 (kr 31)))))) 22 (.inl (0, 22, fun _ => 0))) 28 (.inr (.inr (9, ((((((kfk 9).map kdef0).set 4 (kr 29)).set 5 (kr 30)).set 6 (kr 31)).set 7 (kr 32)))))) 22 (.inl (0, 22, fun _ => 0))) 28 (.inr (.inr (9, (((((((kfk 9).map kdef0).set 4 (kr 29)).set 5 (kr 30)).set 6 (kr 31)).set 7 (kr 32)).set 8 (kr 33)))))) 33 (.inl (0, 22, (kfill (-1) 22 (fun _ => 0))))).2.2, ?_, fun j hj => ?_, ?_, rfl, rfl, rfl, rfl, rfl, rfl⟩
  · refine kR.start rfl ?_
    show kW sc 1 kc_Town_init 0 0 [some (kr 28)] [] (29, z, f) _
    refine kw_step rfl rfl rfl rfl ?_
    refine kw_step rfl rfl rfl rfl ?_
    refine kw_step rfl rfl rfl rfl ?_
    refine kw_step rfl rfl rfl rfl ?_
    refine kw_step rfl rfl rfl rfl ?_
    refine kw_put (fs := ((kfk 9).map kdef0)) rfl hf (Nat.le_of_ble_eq_true rfl) rfl ?_
    refine kw_step rfl rfl rfl rfl ?_
    refine kw_step rfl rfl rfl rfl ?_
    refine kw_step rfl rfl rfl rfl ?_
    refine kw_put (fs := (((kfk 9).map kdef0).set 4 (kr 29))) rfl rfl (Nat.le_of_ble_eq_true rfl) rfl ?_
    refine kw_step rfl rfl rfl rfl ?_
    refine kw_step rfl rfl rfl rfl ?_
    refine kw_step rfl rfl rfl rfl ?_
    refine kw_put (fs := ((((kfk 9).map kdef0).set 4 (kr 29)).set 5 (kr 30))) rfl rfl (Nat.le_of_ble_eq_true rfl) rfl ?_
    refine kw_step rfl rfl rfl rfl ?_
    refine kw_step rfl rfl rfl rfl ?_
    refine kw_step rfl rfl rfl rfl ?_
    refine kw_put (fs := (((((kfk 9).map kdef0).set 4 (kr 29)).set 5 (kr 30)).set 6 (kr 31))) rfl rfl (Nat.le_of_ble_eq_true rfl) rfl ?_
    refine kw_step rfl rfl rfl rfl ?_
    refine kw_step rfl rfl rfl rfl ?_
    refine kw_step rfl rfl rfl rfl ?_
    refine kw_put (fs := ((((((kfk 9).map kdef0).set 4 (kr 29)).set 5 (kr 30)).set 6 (kr 31)).set 7 (kr 32))) rfl rfl (Nat.le_of_ble_eq_true rfl) rfl ?_
    refine kw_step rfl rfl rfl rfl ?_
    refine kw_get (fs := (((((((kfk 9).map kdef0).set 4 (kr 29)).set 5 (kr 30)).set 6 (kr 31)).set 7 (kr 32)).set 8 (kr 33))) rfl rfl rfl ?_
    refine kw_step rfl rfl rfl rfl ?_
    refine kw_callS (vs := [_, _]) rfl rfl rfl ⟨rfl, Nat.le_of_ble_eq_true rfl, Nat.le_of_ble_eq_true rfl, rfl⟩ (tArrays_fill (n := 22) (f := (fun _ => 0)) _ rfl (by decide)) (by decide) ?_
    exact kw_ret rfl rfl rfl ⟨rfl, rfl⟩
  · exact ((kput_n _ _ (by omega)).trans ((kput_n _ _ (by omega)).trans ((kadd_n (m := 33) rfl (by omega)).trans ((kput_n _ _ (by omega)).trans ((kadd_n (m := 32) rfl (by omega)).trans ((kput_n _ _ (by omega)).trans ((kadd_n (m := 31) rfl (by omega)).trans ((kput_n _ _ (by omega)).trans ((kadd_n (m := 30) rfl (by omega)).trans ((kput_n _ _ (by omega)).trans ((kadd_n (m := 29) rfl (by omega)).trans rfl)))))))))))
  · have l0 : (kfk 0).length ≤ 60 := by decide
    have l1 : (kfk 1).length ≤ 60 := by decide
    have l2 : (kfk 2).length ≤ 60 := by decide
    have l3 : (kfk 3).length ≤ 60 := by decide
    have l4 : (kfk 4).length ≤ 60 := by decide
    have l5 : (kfk 5).length ≤ 60 := by decide
    have l6 : (kfk 6).length ≤ 60 := by decide
    have l7 : (kfk 7).length ≤ 60 := by decide
    have l8 : (kfk 8).length ≤ 60 := by decide
    have l9 : (kfk 9).length ≤ 60 := by decide
    have l10 : (kfk 10).length ≤ 60 := by decide
    have l11 : (kfk 11).length ≤ 60 := by decide
    simp only [kput, kadd] at *
    omega
set_option maxRecDepth 8000 in
set_option maxHeartbeats 2000000 in
theorem ti_Town_init_34 {sc : List Int} (z : Nat) (f : Nat → Option kE) (hf : f 34 = some (.inr (.inr (9, (kfk 9).map kdef0)))) : ∃ (z' : Nat) (f' : Nat → Option kE), kR sc 1 km_Town_init [kr 34] (35, z, f) none (40, z', f') ∧ (∀ j, j < 34 → f' j = f j) ∧ z' ≤ z + 200 ∧ f' 34 = some (.inr (.inr (9, (((((((kfk 9).map kdef0).set 4 (kr 35)).set 5 (kr 36)).set 6 (kr 37)).set 7 (kr 38)).set 8 (kr 39))))) ∧ f' 35 = some (.inl (0, 22, fun _ => 0)) ∧ f' 36 = some (.inl (0, 11, fun _ => 0)) ∧ f' 37 = some (.inl (0, 22, fun _ => 0)) ∧ f' 38 = some (.inl (0, 22, fun _ => 0)) ∧ f' 39 = some (.inl (0, 22, (kfill (-1) 22 (fun _ => 0)))) := by
  refine ⟨(kput (kput (kadd (kput (kadd (kput (kadd (kput (kadd (kput (kadd (35, z, f) 22 (.inl (0, 22, fun _ => 0))) 34 (.inr (.inr (9, (((kfk 9).map kdef0).set 4 (kr 35)))))) 11 (.inl (0, 11, fun _ => 0))) 34 (.inr (.inr (9, ((((kfk 9).map kdef0).set 4 (kr 35)).set 5 (kr 36)))))) 22 (.inl (0, 22, fun _ => 0))) 34 (.inr (.inr (9, (((((kfk 9).map kdef0).set 4 (kr 35)).set 5 (kr 36)).set 6 (kr 37)))))) 22 (.inl (0, 22, fun _ => 0))) 34 (.inr (.inr (9, ((((((kfk 9).map kdef0).set 4 (kr 35)).set 5 (kr 36)).set 6 (kr 37)).set 7 (kr 38)))))) 22 (.inl (0, 22, fun _ => 0))) 34 (.inr (.inr (9, (((((((kfk 9).map kdef0).set 4 (kr 35)).set 5 (kr 36)).set 6 (kr 37)).set 7 (kr 38)).set 8 (kr 39)))))) 39 (.inl (0, 22, (kfill (-1) 22 (fun _ => 0))))).2.1, (kput (kput (kadd (kput (kadd (kput (kadd (kput (kadd (kput (kadd (35, z, f) 22 (.inl (0, 22, fun _ => 0))) 34 (.inr (.inr (9, (((kfk 9).map kdef0).set 4 (kr 35)))))) 11 (.inl (0, 11, fun _ => 0))) 34 (.inr (.inr (9, ((((kfk 9).map kdef0).set 4 (kr 35)).set 5 (kr 36)))))) 22 (.inl (0, 22, fun _ => 0))) 34 (.inr (.inr (9, (((((kfk 9).map kdef0).set 4 (kr 35)).set 5 (kr 36)).set 6 (kr 37)))))) 22 (.inl (0, 22, fun _ => 0))) 34 (.inr (.inr (9, ((((((kfk 9).map kdef0).set 4 (kr 35)).set 5 (kr 36)).set 6 (kr 37)).set 7 (kr 38)))))) 22 (.inl (0, 22, fun _ => 0))) 34 (.inr (.inr (9, (((((((kfk 9).map kdef0).set 4 (kr 35)).set 5 (kr 36)).set 6 (kr 37)).set 7 (kr 38)).set 8 (kr 39)))))) 39 (.inl (0, 22, (kfill (-1) 22 (fun _ => 0))))).2.2, ?_, fun j hj => ?_, ?_, rfl, rfl, rfl, rfl, rfl, rfl⟩
  · refine kR.start rfl ?_
    show kW sc 1 kc_Town_init 0 0 [some (kr 34)] [] (35, z, f) _
    refine kw_step rfl rfl rfl rfl ?_
    refine kw_step rfl rfl rfl rfl ?_
    refine kw_step rfl rfl rfl rfl ?_
    refine kw_step rfl rfl rfl rfl ?_
    refine kw_step rfl rfl rfl rfl ?_
    refine kw_put (fs := ((kfk 9).map kdef0)) rfl hf (Nat.le_of_ble_eq_true rfl) rfl ?_
    refine kw_step rfl rfl rfl rfl ?_
    refine kw_step rfl rfl rfl rfl ?_
    refine kw_step rfl rfl rfl rfl ?_
    refine kw_put (fs := (((kfk 9).map kdef0).set 4 (kr 35))) rfl rfl (Nat.le_of_ble_eq_true rfl) rfl ?_
    refine kw_step rfl rfl rfl rfl ?_
    refine kw_step rfl rfl rfl rfl ?_
    refine kw_step rfl rfl rfl rfl ?_
    refine kw_put (fs := ((((kfk 9).map kdef0).set 4 (kr 35)).set 5 (kr 36))) rfl rfl (Nat.le_of_ble_eq_true rfl) rfl ?_
    refine kw_step rfl rfl rfl rfl ?_
    refine kw_step rfl rfl rfl rfl ?_
    refine kw_step rfl rfl rfl rfl ?_
    refine kw_put (fs := (((((kfk 9).map kdef0).set 4 (kr 35)).set 5 (kr 36)).set 6 (kr 37))) rfl rfl (Nat.le_of_ble_eq_true rfl) rfl ?_
    refine kw_step rfl rfl rfl rfl ?_
    refine kw_step rfl rfl rfl rfl ?_
    refine kw_step rfl rfl rfl rfl ?_
    refine kw_put (fs := ((((((kfk 9).map kdef0).set 4 (kr 35)).set 5 (kr 36)).set 6 (kr 37)).set 7 (kr 38))) rfl rfl (Nat.le_of_ble_eq_true rfl) rfl ?_
    refine kw_step rfl rfl rfl rfl ?_
    refine kw_get (fs := (((((((kfk 9).map kdef0).set 4 (kr 35)).set 5 (kr 36)).set 6 (kr 37)).set 7 (kr 38)).set 8 (kr 39))) rfl rfl rfl ?_
    refine kw_step rfl rfl rfl rfl ?_
    refine kw_callS (vs := [_, _]) rfl rfl rfl ⟨rfl, Nat.le_of_ble_eq_true rfl, Nat.le_of_ble_eq_true rfl, rfl⟩ (tArrays_fill (n := 22) (f := (fun _ => 0)) _ rfl (by decide)) (by decide) ?_
    exact kw_ret rfl rfl rfl ⟨rfl, rfl⟩
  · exact ((kput_n _ _ (by omega)).trans ((kput_n _ _ (by omega)).trans ((kadd_n (m := 39) rfl (by omega)).trans ((kput_n _ _ (by omega)).trans ((kadd_n (m := 38) rfl (by omega)).trans ((kput_n _ _ (by omega)).trans ((kadd_n (m := 37) rfl (by omega)).trans ((kput_n _ _ (by omega)).trans ((kadd_n (m := 36) rfl (by omega)).trans ((kput_n _ _ (by omega)).trans ((kadd_n (m := 35) rfl (by omega)).trans rfl)))))))))))
  · have l0 : (kfk 0).length ≤ 60 := by decide
    have l1 : (kfk 1).length ≤ 60 := by decide
    have l2 : (kfk 2).length ≤ 60 := by decide
    have l3 : (kfk 3).length ≤ 60 := by decide
    have l4 : (kfk 4).length ≤ 60 := by decide
    have l5 : (kfk 5).length ≤ 60 := by decide
    have l6 : (kfk 6).length ≤ 60 := by decide
    have l7 : (kfk 7).length ≤ 60 := by decide
    have l8 : (kfk 8).length ≤ 60 := by decide
    have l9 : (kfk 9).length ≤ 60 := by decide
    have l10 : (kfk 10).length ≤ 60 := by decide
    have l11 : (kfk 11).length ≤ 60 := by decide
    simp only [kput, kadd] at *
    omega
set_option maxRecDepth 8000 in
set_option maxHeartbeats 2000000 in
theorem ti_Land_init_40 {sc : List Int} (z : Nat) (f : Nat → Option kE) (hf : f 40 = some (.inr (.inr (3, (kfk 3).map kdef0)))) : ∃ (z' : Nat) (f' : Nat → Option kE), kR sc 0 km_Land_init [kr 40] (41, z, f) none (44, z', f') ∧ (∀ j, j < 40 → f' j = f j) ∧ z' ≤ z + 1000 ∧ f' 40 = some (.inr (.inr (3, (((((kfk 3).map kdef0).set 4 (kr 41)).set 5 (kr 42)).set 7 (kr 43))))) ∧ f' 41 = some (.inl (0, 48, fun _ => 0)) ∧ f' 42 = some (.inl (0, 48, fun _ => 0)) ∧ f' 43 = some (.inl (0, 44, fun _ => 0)) := by
  refine ⟨(kput (kadd (kput (kadd (kput (kadd (41, z, f) 48 (.inl (0, 48, fun _ => 0))) 40 (.inr (.inr (3, (((kfk 3).map kdef0).set 4 (kr 41)))))) 48 (.inl (0, 48, fun _ => 0))) 40 (.inr (.inr (3, ((((kfk 3).map kdef0).set 4 (kr 41)).set 5 (kr 42)))))) 44 (.inl (0, 44, fun _ => 0))) 40 (.inr (.inr (3, (((((kfk 3).map kdef0).set 4 (kr 41)).set 5 (kr 42)).set 7 (kr 43)))))).2.1, (kput (kadd (kput (kadd (kput (kadd (41, z, f) 48 (.inl (0, 48, fun _ => 0))) 40 (.inr (.inr (3, (((kfk 3).map kdef0).set 4 (kr 41)))))) 48 (.inl (0, 48, fun _ => 0))) 40 (.inr (.inr (3, ((((kfk 3).map kdef0).set 4 (kr 41)).set 5 (kr 42)))))) 44 (.inl (0, 44, fun _ => 0))) 40 (.inr (.inr (3, (((((kfk 3).map kdef0).set 4 (kr 41)).set 5 (kr 42)).set 7 (kr 43)))))).2.2, ?_, fun j hj => ?_, ?_, rfl, rfl, rfl, rfl⟩
  · refine kR.start rfl ?_
    show kW sc 0 kc_Land_init 0 0 [some (kr 40)] [] (41, z, f) _
    refine kw_step rfl rfl rfl rfl ?_
    refine kw_step rfl rfl rfl rfl ?_
    refine kw_step rfl rfl rfl rfl ?_
    refine kw_step rfl rfl rfl rfl ?_
    refine kw_step rfl rfl rfl rfl ?_
    refine kw_put (fs := ((kfk 3).map kdef0)) rfl hf (Nat.le_of_ble_eq_true rfl) rfl ?_
    refine kw_step rfl rfl rfl rfl ?_
    refine kw_step rfl rfl rfl rfl ?_
    refine kw_step rfl rfl rfl rfl ?_
    refine kw_put (fs := (((kfk 3).map kdef0).set 4 (kr 41))) rfl rfl (Nat.le_of_ble_eq_true rfl) rfl ?_
    refine kw_step rfl rfl rfl rfl ?_
    refine kw_step rfl rfl rfl rfl ?_
    refine kw_step rfl rfl rfl rfl ?_
    refine kw_put (fs := ((((kfk 3).map kdef0).set 4 (kr 41)).set 5 (kr 42))) rfl rfl (Nat.le_of_ble_eq_true rfl) rfl ?_
    exact kw_ret rfl rfl rfl ⟨rfl, rfl⟩
  · exact ((kput_n _ _ (by omega)).trans ((kadd_n (m := 43) rfl (by omega)).trans ((kput_n _ _ (by omega)).trans ((kadd_n (m := 42) rfl (by omega)).trans ((kput_n _ _ (by omega)).trans ((kadd_n (m := 41) rfl (by omega)).trans rfl))))))
  · have l0 : (kfk 0).length ≤ 60 := by decide
    have l1 : (kfk 1).length ≤ 60 := by decide
    have l2 : (kfk 2).length ≤ 60 := by decide
    have l3 : (kfk 3).length ≤ 60 := by decide
    have l4 : (kfk 4).length ≤ 60 := by decide
    have l5 : (kfk 5).length ≤ 60 := by decide
    have l6 : (kfk 6).length ≤ 60 := by decide
    have l7 : (kfk 7).length ≤ 60 := by decide
    have l8 : (kfk 8).length ≤ 60 := by decide
    have l9 : (kfk 9).length ≤ 60 := by decide
    have l10 : (kfk 10).length ≤ 60 := by decide
    have l11 : (kfk 11).length ≤ 60 := by decide
    simp only [kput, kadd] at *
    omega
set_option maxRecDepth 8000 in
set_option maxHeartbeats 2000000 in
theorem ti_Search_init_21 {sc : List Int} (z : Nat) (f : Nat → Option kE) (hf : f 21 = some (.inr (.inr (6, (kfk 6).map kdef0)))) : ∃ (z' : Nat) (f' : Nat → Option kE), kR sc 2 km_Search_init [kr 21] (22, z, f) none (44, z', f') ∧ (∀ j, j < 21 → f' j = f j) ∧ z' ≤ z + 5000 ∧ f' 21 = some (.inr (.inr (6, (((((((((((kfk 6).map kdef0).set 0 (kr 22)).set 1 (kr 23)).set 2 (kr 24)).set 3 (kr 25)).set 4 (kr 26)).set 5 (kr 27)).set 6 (kr 28)).set 7 (kr 34)).set 8 (kr 40))))) ∧ f' 22 = some (.inl (3, 300, fun _ => 0)) ∧ f' 23 = some (.inl (3, 300, fun _ => 0)) ∧ f' 24 = some (.inl (2, 300, fun _ => 0)) ∧ f' 25 = some (.inl (2, 300, fun _ => 0)) ∧ f' 26 = some (.inl (2, 300, fun _ => 0)) ∧ f' 27 = some (.inl (2, 1024, fun _ => 0)) ∧ f' 28 = some (.inr (.inr (9, (((((((kfk 9).map kdef0).set 4 (kr 29)).set 5 (kr 30)).set 6 (kr 31)).set 7 (kr 32)).set 8 (kr 33))))) ∧ f' 29 = some (.inl (0, 22, fun _ => 0)) ∧ f' 30 = some (.inl (0, 11, fun _ => 0)) ∧ f' 31 = some (.inl (0, 22, fun _ => 0)) ∧ f' 32 = some (.inl (0, 22, fun _ => 0)) ∧ f' 33 = some (.inl (0, 22, (kfill (-1) 22 (fun _ => 0)))) ∧ f' 34 = some (.inr (.inr (9, (((((((kfk 9).map kdef0).set 4 (kr 35)).set 5 (kr 36)).set 6 (kr 37)).set 7 (kr 38)).set 8 (kr 39))))) ∧ f' 35 = some (.inl (0, 22, fun _ => 0)) ∧ f' 36 = some (.inl (0, 11, fun _ => 0)) ∧ f' 37 = some (.inl (0, 22, fun _ => 0)) ∧ f' 38 = some (.inl (0, 22, fun _ => 0)) ∧ f' 39 = some (.inl (0, 22, (kfill (-1) 22 (fun _ => 0)))) ∧ f' 40 = some (.inr (.inr (3, (((((kfk 3).map kdef0).set 4 (kr 41)).set 5 (kr 42)).set 7 (kr 43))))) ∧ f' 41 = some (.inl (0, 48, fun _ => 0)) ∧ f' 42 = some (.inl (0, 48, fun _ => 0)) ∧ f' 43 = some (.inl (0, 44, fun _ => 0)) := by
  obtain ⟨z1, f1, r1, fr1, zb1, c1_28, c1_29, c1_30, c1_31, c1_32, c1_33⟩ := ti_Town_init_28 (sc := sc) (kadd (kput (kadd (kput (kadd (kput (kadd (kput (kadd (kput (kadd (kput (kadd (22, z, f) 300 (.inl (3, 300, fun _ => 0))) 21 (.inr (.inr (6, (((kfk 6).map kdef0).set 0 (kr 22)))))) 300 (.inl (3, 300, fun _ => 0))) 21 (.inr (.inr (6, ((((kfk 6).map kdef0).set 0 (kr 22)).set 1 (kr 23)))))) 300 (.inl (2, 300, fun _ => 0))) 21 (.inr (.inr (6, (((((kfk 6).map kdef0).set 0 (kr 22)).set 1 (kr 23)).set 2 (kr 24)))))) 300 (.inl (2, 300, fun _ => 0))) 21 (.inr (.inr (6, ((((((kfk 6).map kdef0).set 0 (kr 22)).set 1 (kr 23)).set 2 (kr 24)).set 3 (kr 25)))))) 300 (.inl (2, 300, fun _ => 0))) 21 (.inr (.inr (6, (((((((kfk 6).map kdef0).set 0 (kr 22)).set 1 (kr 23)).set 2 (kr 24)).set 3 (kr 25)).set 4 (kr 26)))))) 1024 (.inl (2, 1024, fun _ => 0))) 21 (.inr (.inr (6, ((((((((kfk 6).map kdef0).set 0 (kr 22)).set 1 (kr 23)).set 2 (kr 24)).set 3 (kr 25)).set 4 (kr 26)).set 5 (kr 27)))))) (kfk 9).length (.inr (.inr (9, (kfk 9).map kdef0)))).2.1 (kadd (kput (kadd (kput (kadd (kput (kadd (kput (kadd (kput (kadd (kput (kadd (22, z, f) 300 (.inl (3, 300, fun _ => 0))) 21 (.inr (.inr (6, (((kfk 6).map kdef0).set 0 (kr 22)))))) 300 (.inl (3, 300, fun _ => 0))) 21 (.inr (.inr (6, ((((kfk 6).map kdef0).set 0 (kr 22)).set 1 (kr 23)))))) 300 (.inl (2, 300, fun _ => 0))) 21 (.inr (.inr (6, (((((kfk 6).map kdef0).set 0 (kr 22)).set 1 (kr 23)).set 2 (kr 24)))))) 300 (.inl (2, 300, fun _ => 0))) 21 (.inr (.inr (6, ((((((kfk 6).map kdef0).set 0 (kr 22)).set 1 (kr 23)).set 2 (kr 24)).set 3 (kr 25)))))) 300 (.inl (2, 300, fun _ => 0))) 21 (.inr (.inr (6, (((((((kfk 6).map kdef0).set 0 (kr 22)).set 1 (kr 23)).set 2 (kr 24)).set 3 (kr 25)).set 4 (kr 26)))))) 1024 (.inl (2, 1024, fun _ => 0))) 21 (.inr (.inr (6, ((((((((kfk 6).map kdef0).set 0 (kr 22)).set 1 (kr 23)).set 2 (kr 24)).set 3 (kr 25)).set 4 (kr 26)).set 5 (kr 27)))))) (kfk 9).length (.inr (.inr (9, (kfk 9).map kdef0)))).2.2 rfl
  obtain ⟨z2, f2, r2, fr2, zb2, c2_34, c2_35, c2_36, c2_37, c2_38, c2_39⟩ := ti_Town_init_34 (sc := sc) (kadd (kput (34, z1, f1) 21 (.inr (.inr (6, (((((((((kfk 6).map kdef0).set 0 (kr 22)).set 1 (kr 23)).set 2 (kr 24)).set 3 (kr 25)).set 4 (kr 26)).set 5 (kr 27)).set 6 (kr 28)))))) (kfk 9).length (.inr (.inr (9, (kfk 9).map kdef0)))).2.1 (kadd (kput (34, z1, f1) 21 (.inr (.inr (6, (((((((((kfk 6).map kdef0).set 0 (kr 22)).set 1 (kr 23)).set 2 (kr 24)).set 3 (kr 25)).set 4 (kr 26)).set 5 (kr 27)).set 6 (kr 28)))))) (kfk 9).length (.inr (.inr (9, (kfk 9).map kdef0)))).2.2 rfl
  obtain ⟨z3, f3, r3, fr3, zb3, c3_40, c3_41, c3_42, c3_43⟩ := ti_Land_init_40 (sc := sc) (kadd (kput (40, z2, f2) 21 (.inr (.inr (6, ((((((((((kfk 6).map kdef0).set 0 (kr 22)).set 1 (kr 23)).set 2 (kr 24)).set 3 (kr 25)).set 4 (kr 26)).set 5 (kr 27)).set 6 (kr 28)).set 7 (kr 34)))))) (kfk 3).length (.inr (.inr (3, (kfk 3).map kdef0)))).2.1 (kadd (kput (40, z2, f2) 21 (.inr (.inr (6, ((((((((((kfk 6).map kdef0).set 0 (kr 22)).set 1 (kr 23)).set 2 (kr 24)).set 3 (kr 25)).set 4 (kr 26)).set 5 (kr 27)).set 6 (kr 28)).set 7 (kr 34)))))) (kfk 3).length (.inr (.inr (3, (kfk 3).map kdef0)))).2.2 rfl
  refine ⟨(kput (44, z3, f3) 21 (.inr (.inr (6, (((((((((((kfk 6).map kdef0).set 0 (kr 22)).set 1 (kr 23)).set 2 (kr 24)).set 3 (kr 25)).set 4 (kr 26)).set 5 (kr 27)).set 6 (kr 28)).set 7 (kr 34)).set 8 (kr 40)))))).2.1, (kput (44, z3, f3) 21 (.inr (.inr (6, (((((((((((kfk 6).map kdef0).set 0 (kr 22)).set 1 (kr 23)).set 2 (kr 24)).set 3 (kr 25)).set 4 (kr 26)).set 5 (kr 27)).set 6 (kr 28)).set 7 (kr 34)).set 8 (kr 40)))))).2.2, ?_, fun j hj => ?_, ?_, rfl, ((fr3 22 (by decide)).trans ((fr2 22 (by decide)).trans ((fr1 22 (by decide)).trans rfl))), ((fr3 23 (by decide)).trans ((fr2 23 (by decide)).trans ((fr1 23 (by decide)).trans rfl))), ((fr3 24 (by decide)).trans ((fr2 24 (by decide)).trans ((fr1 24 (by decide)).trans rfl))), ((fr3 25 (by decide)).trans ((fr2 25 (by decide)).trans ((fr1 25 (by decide)).trans rfl))), ((fr3 26 (by decide)).trans ((fr2 26 (by decide)).trans ((fr1 26 (by decide)).trans rfl))), ((fr3 27 (by decide)).trans ((fr2 27 (by decide)).trans ((fr1 27 (by decide)).trans rfl))), ((fr3 28 (by decide)).trans ((fr2 28 (by decide)).trans c1_28)), ((fr3 29 (by decide)).trans ((fr2 29 (by decide)).trans c1_29)), ((fr3 30 (by decide)).trans ((fr2 30 (by decide)).trans c1_30)), ((fr3 31 (by decide)).trans ((fr2 31 (by decide)).trans c1_31)), ((fr3 32 (by decide)).trans ((fr2 32 (by decide)).trans c1_32)), ((fr3 33 (by decide)).trans ((fr2 33 (by decide)).trans c1_33)), ((fr3 34 (by decide)).trans c2_34), ((fr3 35 (by decide)).trans c2_35), ((fr3 36 (by decide)).trans c2_36), ((fr3 37 (by decide)).trans c2_37), ((fr3 38 (by decide)).trans c2_38), ((fr3 39 (by decide)).trans c2_39), c3_40, c3_41, c3_42, c3_43⟩
  · refine kR.start rfl ?_
    show kW sc 2 kc_Search_init 0 0 [some (kr 21)] [] (22, z, f) _
    refine kw_step rfl rfl rfl rfl ?_
    refine kw_step rfl rfl rfl rfl ?_
    refine kw_step rfl rfl rfl rfl ?_
    refine kw_step rfl rfl rfl rfl ?_
    refine kw_step rfl rfl rfl rfl ?_
    refine kw_put (fs := ((kfk 6).map kdef0)) rfl hf (Nat.le_of_ble_eq_true rfl) rfl ?_
    refine kw_step rfl rfl rfl rfl ?_
    refine kw_step rfl rfl rfl rfl ?_
    refine kw_step rfl rfl rfl rfl ?_
    refine kw_put (fs := (((kfk 6).map kdef0).set 0 (kr 22))) rfl rfl (Nat.le_of_ble_eq_true rfl) rfl ?_
    refine kw_step rfl rfl rfl rfl ?_
    refine kw_step rfl rfl rfl rfl ?_
    refine kw_step rfl rfl rfl rfl ?_
    refine kw_put (fs := ((((kfk 6).map kdef0).set 0 (kr 22)).set 1 (kr 23))) rfl rfl (Nat.le_of_ble_eq_true rfl) rfl ?_
    refine kw_step rfl rfl rfl rfl ?_
    refine kw_step rfl rfl rfl rfl ?_
    refine kw_step rfl rfl rfl rfl ?_
    refine kw_put (fs := (((((kfk 6).map kdef0).set 0 (kr 22)).set 1 (kr 23)).set 2 (kr 24))) rfl rfl (Nat.le_of_ble_eq_true rfl) rfl ?_
    refine kw_step rfl rfl rfl rfl ?_
    refine kw_step rfl rfl rfl rfl ?_
    refine kw_step rfl rfl rfl rfl ?_
    refine kw_put (fs := ((((((kfk 6).map kdef0).set 0 (kr 22)).set 1 (kr 23)).set 2 (kr 24)).set 3 (kr 25))) rfl rfl (Nat.le_of_ble_eq_true rfl) rfl ?_
    refine kw_step rfl rfl rfl rfl ?_
    refine kw_step rfl rfl rfl rfl ?_
    refine kw_step rfl rfl rfl rfl ?_
    refine kw_put (fs := (((((((kfk 6).map kdef0).set 0 (kr 22)).set 1 (kr 23)).set 2 (kr 24)).set 3 (kr 25)).set 4 (kr 26))) rfl rfl (Nat.le_of_ble_eq_true rfl) rfl ?_
    refine kw_step rfl rfl rfl rfl ?_
    refine kw_step rfl rfl rfl rfl ?_
    refine kw_step rfl rfl rfl rfl ?_
    refine kw_callI (vs := []) rfl rfl rfl ⟨rfl, Nat.le_of_ble_eq_true rfl, Nat.le_of_ble_eq_true rfl, by decide, rfl⟩ rfl r1 (by decide) ?_
    refine kw_put (fs := ((((((((kfk 6).map kdef0).set 0 (kr 22)).set 1 (kr 23)).set 2 (kr 24)).set 3 (kr 25)).set 4 (kr 26)).set 5 (kr 27))) rfl ((fr1 21 (by decide)).trans rfl) (Nat.le_of_ble_eq_true rfl) rfl ?_
    refine kw_step rfl rfl rfl rfl ?_
    refine kw_step rfl rfl rfl rfl ?_
    refine kw_step rfl rfl rfl rfl ?_
    refine kw_callI (vs := []) rfl rfl rfl ⟨rfl, Nat.le_of_ble_eq_true rfl, Nat.le_of_ble_eq_true rfl, by decide, rfl⟩ rfl r2 (by decide) ?_
    refine kw_put (fs := (((((((((kfk 6).map kdef0).set 0 (kr 22)).set 1 (kr 23)).set 2 (kr 24)).set 3 (kr 25)).set 4 (kr 26)).set 5 (kr 27)).set 6 (kr 28))) rfl ((fr2 21 (by decide)).trans rfl) (Nat.le_of_ble_eq_true rfl) rfl ?_
    refine kw_step rfl rfl rfl rfl ?_
    refine kw_step rfl rfl rfl rfl ?_
    refine kw_step rfl rfl rfl rfl ?_
    refine kw_callI (vs := []) rfl rfl rfl ⟨rfl, Nat.le_of_ble_eq_true rfl, Nat.le_of_ble_eq_true rfl, by decide, rfl⟩ rfl r3 (by decide) ?_
    refine kw_put (fs := ((((((((((kfk 6).map kdef0).set 0 (kr 22)).set 1 (kr 23)).set 2 (kr 24)).set 3 (kr 25)).set 4 (kr 26)).set 5 (kr 27)).set 6 (kr 28)).set 7 (kr 34))) rfl ((fr3 21 (by decide)).trans rfl) (Nat.le_of_ble_eq_true rfl) rfl ?_
    exact kw_ret rfl rfl rfl ⟨rfl, rfl⟩
  · exact ((kput_n _ _ (by omega)).trans ((fr3 j (by omega)).trans ((kadd_n (m := 40) rfl (by omega)).trans ((kput_n _ _ (by omega)).trans ((fr2 j (by omega)).trans ((kadd_n (m := 34) rfl (by omega)).trans ((kput_n _ _ (by omega)).trans ((fr1 j (by omega)).trans ((kadd_n (m := 28) rfl (by omega)).trans ((kput_n _ _ (by omega)).trans ((kadd_n (m := 27) rfl (by omega)).trans ((kput_n _ _ (by omega)).trans ((kadd_n (m := 26) rfl (by omega)).trans ((kput_n _ _ (by omega)).trans ((kadd_n (m := 25) rfl (by omega)).trans ((kput_n _ _ (by omega)).trans ((kadd_n (m := 24) rfl (by omega)).trans ((kput_n _ _ (by omega)).trans ((kadd_n (m := 23) rfl (by omega)).trans ((kput_n _ _ (by omega)).trans ((kadd_n (m := 22) rfl (by omega)).trans rfl)))))))))))))))))))))
  · have l0 : (kfk 0).length ≤ 60 := by decide
    have l1 : (kfk 1).length ≤ 60 := by decide
    have l2 : (kfk 2).length ≤ 60 := by decide
    have l3 : (kfk 3).length ≤ 60 := by decide
    have l4 : (kfk 4).length ≤ 60 := by decide
    have l5 : (kfk 5).length ≤ 60 := by decide
    have l6 : (kfk 6).length ≤ 60 := by decide
    have l7 : (kfk 7).length ≤ 60 := by decide
    have l8 : (kfk 8).length ≤ 60 := by decide
    have l9 : (kfk 9).length ≤ 60 := by decide
    have l10 : (kfk 10).length ≤ 60 := by decide
    have l11 : (kfk 11).length ≤ 60 := by decide
    simp only [kput, kadd] at *
    omega
set_option maxRecDepth 8000 in
set_option maxHeartbeats 2000000 in
theorem ti_Bracket_init_44 {sc : List Int} (z : Nat) (f : Nat → Option kE) (hf : f 44 = some (.inr (.inr (1, (kfk 1).map kdef0)))) : ∃ (z' : Nat) (f' : Nat → Option kE), kR sc 0 km_Bracket_init [kr 44] (45, z, f) none (48, z', f') ∧ (∀ j, j < 44 → f' j = f j) ∧ z' ≤ z + 1000 ∧ f' 44 = some (.inr (.inr (1, (((((kfk 1).map kdef0).set 1 (kr 45)).set 2 (kr 46)).set 3 (kr 47))))) ∧ f' 45 = some (.inl (0, 199, fun _ => 0)) ∧ f' 46 = some (.inl (0, 192, fun _ => 0)) ∧ f' 47 = some (.inl (0, 44, fun _ => 0)) := by
  refine ⟨(kput (kadd (kput (kadd (kput (kadd (45, z, f) 199 (.inl (0, 199, fun _ => 0))) 44 (.inr (.inr (1, (((kfk 1).map kdef0).set 1 (kr 45)))))) 192 (.inl (0, 192, fun _ => 0))) 44 (.inr (.inr (1, ((((kfk 1).map kdef0).set 1 (kr 45)).set 2 (kr 46)))))) 44 (.inl (0, 44, fun _ => 0))) 44 (.inr (.inr (1, (((((kfk 1).map kdef0).set 1 (kr 45)).set 2 (kr 46)).set 3 (kr 47)))))).2.1, (kput (kadd (kput (kadd (kput (kadd (45, z, f) 199 (.inl (0, 199, fun _ => 0))) 44 (.inr (.inr (1, (((kfk 1).map kdef0).set 1 (kr 45)))))) 192 (.inl (0, 192, fun _ => 0))) 44 (.inr (.inr (1, ((((kfk 1).map kdef0).set 1 (kr 45)).set 2 (kr 46)))))) 44 (.inl (0, 44, fun _ => 0))) 44 (.inr (.inr (1, (((((kfk 1).map kdef0).set 1 (kr 45)).set 2 (kr 46)).set 3 (kr 47)))))).2.2, ?_, fun j hj => ?_, ?_, rfl, rfl, rfl, rfl⟩
  · refine kR.start rfl ?_
    show kW sc 0 kc_Bracket_init 0 0 [some (kr 44)] [] (45, z, f) _
    refine kw_step rfl rfl rfl rfl ?_
    refine kw_step rfl rfl rfl rfl ?_
    refine kw_step rfl rfl rfl rfl ?_
    refine kw_step rfl rfl rfl rfl ?_
    refine kw_step rfl rfl rfl rfl ?_
    refine kw_put (fs := ((kfk 1).map kdef0)) rfl hf (Nat.le_of_ble_eq_true rfl) rfl ?_
    refine kw_step rfl rfl rfl rfl ?_
    refine kw_step rfl rfl rfl rfl ?_
    refine kw_step rfl rfl rfl rfl ?_
    refine kw_put (fs := (((kfk 1).map kdef0).set 1 (kr 45))) rfl rfl (Nat.le_of_ble_eq_true rfl) rfl ?_
    refine kw_step rfl rfl rfl rfl ?_
    refine kw_step rfl rfl rfl rfl ?_
    refine kw_step rfl rfl rfl rfl ?_
    refine kw_put (fs := ((((kfk 1).map kdef0).set 1 (kr 45)).set 2 (kr 46))) rfl rfl (Nat.le_of_ble_eq_true rfl) rfl ?_
    exact kw_ret rfl rfl rfl ⟨rfl, rfl⟩
  · exact ((kput_n _ _ (by omega)).trans ((kadd_n (m := 47) rfl (by omega)).trans ((kput_n _ _ (by omega)).trans ((kadd_n (m := 46) rfl (by omega)).trans ((kput_n _ _ (by omega)).trans ((kadd_n (m := 45) rfl (by omega)).trans rfl))))))
  · have l0 : (kfk 0).length ≤ 60 := by decide
    have l1 : (kfk 1).length ≤ 60 := by decide
    have l2 : (kfk 2).length ≤ 60 := by decide
    have l3 : (kfk 3).length ≤ 60 := by decide
    have l4 : (kfk 4).length ≤ 60 := by decide
    have l5 : (kfk 5).length ≤ 60 := by decide
    have l6 : (kfk 6).length ≤ 60 := by decide
    have l7 : (kfk 7).length ≤ 60 := by decide
    have l8 : (kfk 8).length ≤ 60 := by decide
    have l9 : (kfk 9).length ≤ 60 := by decide
    have l10 : (kfk 10).length ≤ 60 := by decide
    have l11 : (kfk 11).length ≤ 60 := by decide
    simp only [kput, kadd] at *
    omega
set_option maxRecDepth 8000 in
set_option maxHeartbeats 2000000 in
theorem ti_Bows_init_48 {sc : List Int} (z : Nat) (f : Nat → Option kE) (hf : f 48 = some (.inr (.inr (0, (kfk 0).map kdef0)))) : ∃ (z' : Nat) (f' : Nat → Option kE), kR sc 0 km_Bows_init [kr 48] (49, z, f) none (51, z', f') ∧ (∀ j, j < 48 → f' j = f j) ∧ z' ≤ z + 1000 ∧ f' 48 = some (.inr (.inr (0, ((((kfk 0).map kdef0).set 1 (kr 49)).set 2 (kr 50))))) ∧ f' 49 = some (.inl (0, 22, fun _ => 0)) ∧ f' 50 = some (.inl (3, 143, fun _ => 0)) := by
  refine ⟨(kput (kadd (kput (kadd (49, z, f) 22 (.inl (0, 22, fun _ => 0))) 48 (.inr (.inr (0, (((kfk 0).map kdef0).set 1 (kr 49)))))) 143 (.inl (3, 143, fun _ => 0))) 48 (.inr (.inr (0, ((((kfk 0).map kdef0).set 1 (kr 49)).set 2 (kr 50)))))).2.1, (kput (kadd (kput (kadd (49, z, f) 22 (.inl (0, 22, fun _ => 0))) 48 (.inr (.inr (0, (((kfk 0).map kdef0).set 1 (kr 49)))))) 143 (.inl (3, 143, fun _ => 0))) 48 (.inr (.inr (0, ((((kfk 0).map kdef0).set 1 (kr 49)).set 2 (kr 50)))))).2.2, ?_, fun j hj => ?_, ?_, rfl, rfl, rfl⟩
  · refine kR.start rfl ?_
    show kW sc 0 kc_Bows_init 0 0 [some (kr 48)] [] (49, z, f) _
    refine kw_step rfl rfl rfl rfl ?_
    refine kw_step rfl rfl rfl rfl ?_
    refine kw_step rfl rfl rfl rfl ?_
    refine kw_step rfl rfl rfl rfl ?_
    refine kw_step rfl rfl rfl rfl ?_
    refine kw_put (fs := ((kfk 0).map kdef0)) rfl hf (Nat.le_of_ble_eq_true rfl) rfl ?_
    refine kw_step rfl rfl rfl rfl ?_
    refine kw_step rfl rfl rfl rfl ?_
    refine kw_step rfl rfl rfl rfl ?_
    refine kw_put (fs := (((kfk 0).map kdef0).set 1 (kr 49))) rfl rfl (Nat.le_of_ble_eq_true rfl) rfl ?_
    exact kw_ret rfl rfl rfl ⟨rfl, rfl⟩
  · exact ((kput_n _ _ (by omega)).trans ((kadd_n (m := 50) rfl (by omega)).trans ((kput_n _ _ (by omega)).trans ((kadd_n (m := 49) rfl (by omega)).trans rfl))))
  · have l0 : (kfk 0).length ≤ 60 := by decide
    have l1 : (kfk 1).length ≤ 60 := by decide
    have l2 : (kfk 2).length ≤ 60 := by decide
    have l3 : (kfk 3).length ≤ 60 := by decide
    have l4 : (kfk 4).length ≤ 60 := by decide
    have l5 : (kfk 5).length ≤ 60 := by decide
    have l6 : (kfk 6).length ≤ 60 := by decide
    have l7 : (kfk 7).length ≤ 60 := by decide
    have l8 : (kfk 8).length ≤ 60 := by decide
    have l9 : (kfk 9).length ≤ 60 := by decide
    have l10 : (kfk 10).length ≤ 60 := by decide
    have l11 : (kfk 11).length ≤ 60 := by decide
    simp only [kput, kadd] at *
    omega
set_option maxRecDepth 8000 in
set_option maxHeartbeats 2000000 in
theorem ti_Gossip_init_51 {sc : List Int} (z : Nat) (f : Nat → Option kE) (hf : f 51 = some (.inr (.inr (2, (kfk 2).map kdef0)))) : ∃ (z' : Nat) (f' : Nat → Option kE), kR sc 0 km_Gossip_init [kr 51] (52, z, f) none (54, z', f') ∧ (∀ j, j < 51 → f' j = f j) ∧ z' ≤ z + 1000 ∧ f' 51 = some (.inr (.inr (2, ((((kfk 2).map kdef0).set 0 (kr 52)).set 1 (kr 53))))) ∧ f' 52 = some (.inl (3, 8, fun _ => 0)) ∧ f' 53 = some (.inl (3, 64, fun _ => 0)) := by
  refine ⟨(kput (kadd (kput (kadd (52, z, f) 8 (.inl (3, 8, fun _ => 0))) 51 (.inr (.inr (2, (((kfk 2).map kdef0).set 0 (kr 52)))))) 64 (.inl (3, 64, fun _ => 0))) 51 (.inr (.inr (2, ((((kfk 2).map kdef0).set 0 (kr 52)).set 1 (kr 53)))))).2.1, (kput (kadd (kput (kadd (52, z, f) 8 (.inl (3, 8, fun _ => 0))) 51 (.inr (.inr (2, (((kfk 2).map kdef0).set 0 (kr 52)))))) 64 (.inl (3, 64, fun _ => 0))) 51 (.inr (.inr (2, ((((kfk 2).map kdef0).set 0 (kr 52)).set 1 (kr 53)))))).2.2, ?_, fun j hj => ?_, ?_, rfl, rfl, rfl⟩
  · refine kR.start rfl ?_
    show kW sc 0 kc_Gossip_init 0 0 [some (kr 51)] [] (52, z, f) _
    refine kw_step rfl rfl rfl rfl ?_
    refine kw_step rfl rfl rfl rfl ?_
    refine kw_step rfl rfl rfl rfl ?_
    refine kw_step rfl rfl rfl rfl ?_
    refine kw_step rfl rfl rfl rfl ?_
    refine kw_put (fs := ((kfk 2).map kdef0)) rfl hf (Nat.le_of_ble_eq_true rfl) rfl ?_
    refine kw_step rfl rfl rfl rfl ?_
    refine kw_step rfl rfl rfl rfl ?_
    refine kw_step rfl rfl rfl rfl ?_
    refine kw_put (fs := (((kfk 2).map kdef0).set 0 (kr 52))) rfl rfl (Nat.le_of_ble_eq_true rfl) rfl ?_
    exact kw_ret rfl rfl rfl ⟨rfl, rfl⟩
  · exact ((kput_n _ _ (by omega)).trans ((kadd_n (m := 53) rfl (by omega)).trans ((kput_n _ _ (by omega)).trans ((kadd_n (m := 52) rfl (by omega)).trans rfl))))
  · have l0 : (kfk 0).length ≤ 60 := by decide
    have l1 : (kfk 1).length ≤ 60 := by decide
    have l2 : (kfk 2).length ≤ 60 := by decide
    have l3 : (kfk 3).length ≤ 60 := by decide
    have l4 : (kfk 4).length ≤ 60 := by decide
    have l5 : (kfk 5).length ≤ 60 := by decide
    have l6 : (kfk 6).length ≤ 60 := by decide
    have l7 : (kfk 7).length ≤ 60 := by decide
    have l8 : (kfk 8).length ≤ 60 := by decide
    have l9 : (kfk 9).length ≤ 60 := by decide
    have l10 : (kfk 10).length ≤ 60 := by decide
    have l11 : (kfk 11).length ≤ 60 := by decide
    simp only [kput, kadd] at *
    omega
set_option maxRecDepth 8000 in
set_option maxHeartbeats 2000000 in
theorem ti_RuleText_init_54 {sc : List Int} (z : Nat) (f : Nat → Option kE) (hf : f 54 = some (.inr (.inr (5, (kfk 5).map kdef0)))) : ∃ (z' : Nat) (f' : Nat → Option kE), kR sc 0 km_RuleText_init [kr 54] (55, z, f) none (56, z', f') ∧ (∀ j, j < 54 → f' j = f j) ∧ z' ≤ z + 1000 ∧ f' 54 = some (.inr (.inr (5, (((kfk 5).map kdef0).set 0 (kr 55))))) ∧ f' 55 = some (.inl (0, 400, fun _ => 0)) := by
  refine ⟨(kput (kadd (55, z, f) 400 (.inl (0, 400, fun _ => 0))) 54 (.inr (.inr (5, (((kfk 5).map kdef0).set 0 (kr 55)))))).2.1, (kput (kadd (55, z, f) 400 (.inl (0, 400, fun _ => 0))) 54 (.inr (.inr (5, (((kfk 5).map kdef0).set 0 (kr 55)))))).2.2, ?_, fun j hj => ?_, ?_, rfl, rfl⟩
  · refine kR.start rfl ?_
    show kW sc 0 kc_RuleText_init 0 0 [some (kr 54)] [] (55, z, f) _
    refine kw_step rfl rfl rfl rfl ?_
    refine kw_step rfl rfl rfl rfl ?_
    refine kw_step rfl rfl rfl rfl ?_
    refine kw_step rfl rfl rfl rfl ?_
    refine kw_step rfl rfl rfl rfl ?_
    refine kw_put (fs := ((kfk 5).map kdef0)) rfl hf (Nat.le_of_ble_eq_true rfl) rfl ?_
    exact kw_ret rfl rfl rfl ⟨rfl, rfl⟩
  · exact ((kput_n _ _ (by omega)).trans ((kadd_n (m := 55) rfl (by omega)).trans rfl))
  · have l0 : (kfk 0).length ≤ 60 := by decide
    have l1 : (kfk 1).length ≤ 60 := by decide
    have l2 : (kfk 2).length ≤ 60 := by decide
    have l3 : (kfk 3).length ≤ 60 := by decide
    have l4 : (kfk 4).length ≤ 60 := by decide
    have l5 : (kfk 5).length ≤ 60 := by decide
    have l6 : (kfk 6).length ≤ 60 := by decide
    have l7 : (kfk 7).length ≤ 60 := by decide
    have l8 : (kfk 8).length ≤ 60 := by decide
    have l9 : (kfk 9).length ≤ 60 := by decide
    have l10 : (kfk 10).length ≤ 60 := by decide
    have l11 : (kfk 11).length ≤ 60 := by decide
    simp only [kput, kadd] at *
    omega
set_option maxRecDepth 8000 in
set_option maxHeartbeats 2000000 in
theorem ti_Town_init_58 {sc : List Int} (z : Nat) (f : Nat → Option kE) (hf : f 58 = some (.inr (.inr (9, (kfk 9).map kdef0)))) : ∃ (z' : Nat) (f' : Nat → Option kE), kR sc 1 km_Town_init [kr 58] (59, z, f) none (64, z', f') ∧ (∀ j, j < 58 → f' j = f j) ∧ z' ≤ z + 200 ∧ f' 58 = some (.inr (.inr (9, (((((((kfk 9).map kdef0).set 4 (kr 59)).set 5 (kr 60)).set 6 (kr 61)).set 7 (kr 62)).set 8 (kr 63))))) ∧ f' 59 = some (.inl (0, 22, fun _ => 0)) ∧ f' 60 = some (.inl (0, 11, fun _ => 0)) ∧ f' 61 = some (.inl (0, 22, fun _ => 0)) ∧ f' 62 = some (.inl (0, 22, fun _ => 0)) ∧ f' 63 = some (.inl (0, 22, (kfill (-1) 22 (fun _ => 0)))) := by
  refine ⟨(kput (kput (kadd (kput (kadd (kput (kadd (kput (kadd (kput (kadd (59, z, f) 22 (.inl (0, 22, fun _ => 0))) 58 (.inr (.inr (9, (((kfk 9).map kdef0).set 4 (kr 59)))))) 11 (.inl (0, 11, fun _ => 0))) 58 (.inr (.inr (9, ((((kfk 9).map kdef0).set 4 (kr 59)).set 5 (kr 60)))))) 22 (.inl (0, 22, fun _ => 0))) 58 (.inr (.inr (9, (((((kfk 9).map kdef0).set 4 (kr 59)).set 5 (kr 60)).set 6 (kr 61)))))) 22 (.inl (0, 22, fun _ => 0))) 58 (.inr (.inr (9, ((((((kfk 9).map kdef0).set 4 (kr 59)).set 5 (kr 60)).set 6 (kr 61)).set 7 (kr 62)))))) 22 (.inl (0, 22, fun _ => 0))) 58 (.inr (.inr (9, (((((((kfk 9).map kdef0).set 4 (kr 59)).set 5 (kr 60)).set 6 (kr 61)).set 7 (kr 62)).set 8 (kr 63)))))) 63 (.inl (0, 22, (kfill (-1) 22 (fun _ => 0))))).2.1, (kput (kput (kadd (kput (kadd (kput (kadd (kput (kadd (kput (kadd (59, z, f) 22 (.inl (0, 22, fun _ => 0))) 58 (.inr (.inr (9, (((kfk 9).map kdef0).set 4 (kr 59)))))) 11 (.inl (0, 11, fun _ => 0))) 58 (.inr (.inr (9, ((((kfk 9).map kdef0).set 4 (kr 59)).set 5 (kr 60)))))) 22 (.inl (0, 22, fun _ => 0))) 58 (.inr (.inr (9, (((((kfk 9).map kdef0).set 4 (kr 59)).set 5 (kr 60)).set 6 (kr 61)))))) 22 (.inl (0, 22, fun _ => 0))) 58 (.inr (.inr (9, ((((((kfk 9).map kdef0).set 4 (kr 59)).set 5 (kr 60)).set 6 (kr 61)).set 7 (kr 62)))))) 22 (.inl (0, 22, fun _ => 0))) 58 (.inr (.inr (9, (((((((kfk 9).map kdef0).set 4 (kr 59)).set 5 (kr 60)).set 6 (kr 61)).set 7 (kr 62)).set 8 (kr 63)))))) 63 (.inl (0, 22, (kfill (-1) 22 (fun _ => 0))))).2.2, ?_, fun j hj => ?_, ?_, rfl, rfl, rfl, rfl, rfl, rfl⟩
  · refine kR.start rfl ?_
    show kW sc 1 kc_Town_init 0 0 [some (kr 58)] [] (59, z, f) _
    refine kw_step rfl rfl rfl rfl ?_
    refine kw_step rfl rfl rfl rfl ?_
    refine kw_step rfl rfl rfl rfl ?_
    refine kw_step rfl rfl rfl rfl ?_
    refine kw_step rfl rfl rfl rfl ?_
    refine kw_put (fs := ((kfk 9).map kdef0)) rfl hf (Nat.le_of_ble_eq_true rfl) rfl ?_
    refine kw_step rfl rfl rfl rfl ?_
    refine kw_step rfl rfl rfl rfl ?_
    refine kw_step rfl rfl rfl rfl ?_
    refine kw_put (fs := (((kfk 9).map kdef0).set 4 (kr 59))) rfl rfl (Nat.le_of_ble_eq_true rfl) rfl ?_
    refine kw_step rfl rfl rfl rfl ?_
    refine kw_step rfl rfl rfl rfl ?_
    refine kw_step rfl rfl rfl rfl ?_
    refine kw_put (fs := ((((kfk 9).map kdef0).set 4 (kr 59)).set 5 (kr 60))) rfl rfl (Nat.le_of_ble_eq_true rfl) rfl ?_
    refine kw_step rfl rfl rfl rfl ?_
    refine kw_step rfl rfl rfl rfl ?_
    refine kw_step rfl rfl rfl rfl ?_
    refine kw_put (fs := (((((kfk 9).map kdef0).set 4 (kr 59)).set 5 (kr 60)).set 6 (kr 61))) rfl rfl (Nat.le_of_ble_eq_true rfl) rfl ?_
    refine kw_step rfl rfl rfl rfl ?_
    refine kw_step rfl rfl rfl rfl ?_
    refine kw_step rfl rfl rfl rfl ?_
    refine kw_put (fs := ((((((kfk 9).map kdef0).set 4 (kr 59)).set 5 (kr 60)).set 6 (kr 61)).set 7 (kr 62))) rfl rfl (Nat.le_of_ble_eq_true rfl) rfl ?_
    refine kw_step rfl rfl rfl rfl ?_
    refine kw_get (fs := (((((((kfk 9).map kdef0).set 4 (kr 59)).set 5 (kr 60)).set 6 (kr 61)).set 7 (kr 62)).set 8 (kr 63))) rfl rfl rfl ?_
    refine kw_step rfl rfl rfl rfl ?_
    refine kw_callS (vs := [_, _]) rfl rfl rfl ⟨rfl, Nat.le_of_ble_eq_true rfl, Nat.le_of_ble_eq_true rfl, rfl⟩ (tArrays_fill (n := 22) (f := (fun _ => 0)) _ rfl (by decide)) (by decide) ?_
    exact kw_ret rfl rfl rfl ⟨rfl, rfl⟩
  · exact ((kput_n _ _ (by omega)).trans ((kput_n _ _ (by omega)).trans ((kadd_n (m := 63) rfl (by omega)).trans ((kput_n _ _ (by omega)).trans ((kadd_n (m := 62) rfl (by omega)).trans ((kput_n _ _ (by omega)).trans ((kadd_n (m := 61) rfl (by omega)).trans ((kput_n _ _ (by omega)).trans ((kadd_n (m := 60) rfl (by omega)).trans ((kput_n _ _ (by omega)).trans ((kadd_n (m := 59) rfl (by omega)).trans rfl)))))))))))
  · have l0 : (kfk 0).length ≤ 60 := by decide
    have l1 : (kfk 1).length ≤ 60 := by decide
    have l2 : (kfk 2).length ≤ 60 := by decide
    have l3 : (kfk 3).length ≤ 60 := by decide
    have l4 : (kfk 4).length ≤ 60 := by decide
    have l5 : (kfk 5).length ≤ 60 := by decide
    have l6 : (kfk 6).length ≤ 60 := by decide
    have l7 : (kfk 7).length ≤ 60 := by decide
    have l8 : (kfk 8).length ≤ 60 := by decide
    have l9 : (kfk 9).length ≤ 60 := by decide
    have l10 : (kfk 10).length ≤ 60 := by decide
    have l11 : (kfk 11).length ≤ 60 := by decide
    simp only [kput, kadd] at *
    omega
set_option maxRecDepth 8000 in
set_option maxHeartbeats 2000000 in
theorem ti_Stand_init_57 {sc : List Int} (z : Nat) (f : Nat → Option kE) (hf : f 57 = some (.inr (.inr (7, (kfk 7).map kdef0)))) : ∃ (z' : Nat) (f' : Nat → Option kE), kR sc 2 km_Stand_init [kr 57] (58, z, f) none (64, z', f') ∧ (∀ j, j < 57 → f' j = f j) ∧ z' ≤ z + 300 ∧ f' 57 = some (.inr (.inr (7, ((((kfk 7).map kdef0).set 0 (kr 58)).set 2 (kI (-1)))))) ∧ f' 58 = some (.inr (.inr (9, (((((((kfk 9).map kdef0).set 4 (kr 59)).set 5 (kr 60)).set 6 (kr 61)).set 7 (kr 62)).set 8 (kr 63))))) ∧ f' 59 = some (.inl (0, 22, fun _ => 0)) ∧ f' 60 = some (.inl (0, 11, fun _ => 0)) ∧ f' 61 = some (.inl (0, 22, fun _ => 0)) ∧ f' 62 = some (.inl (0, 22, fun _ => 0)) ∧ f' 63 = some (.inl (0, 22, (kfill (-1) 22 (fun _ => 0)))) := by
  obtain ⟨z1, f1, r1, fr1, zb1, c1_58, c1_59, c1_60, c1_61, c1_62, c1_63⟩ := ti_Town_init_58 (sc := sc) (kadd (58, z, f) (kfk 9).length (.inr (.inr (9, (kfk 9).map kdef0)))).2.1 (kadd (58, z, f) (kfk 9).length (.inr (.inr (9, (kfk 9).map kdef0)))).2.2 rfl
  refine ⟨(kput (kput (64, z1, f1) 57 (.inr (.inr (7, (((kfk 7).map kdef0).set 0 (kr 58)))))) 57 (.inr (.inr (7, ((((kfk 7).map kdef0).set 0 (kr 58)).set 2 (kI (-1))))))).2.1, (kput (kput (64, z1, f1) 57 (.inr (.inr (7, (((kfk 7).map kdef0).set 0 (kr 58)))))) 57 (.inr (.inr (7, ((((kfk 7).map kdef0).set 0 (kr 58)).set 2 (kI (-1))))))).2.2, ?_, fun j hj => ?_, ?_, rfl, c1_58, c1_59, c1_60, c1_61, c1_62, c1_63⟩
  · refine kR.start rfl ?_
    show kW sc 2 kc_Stand_init 0 0 [some (kr 57)] [] (58, z, f) _
    refine kw_step rfl rfl rfl rfl ?_
    refine kw_step rfl rfl rfl rfl ?_
    refine kw_step rfl rfl rfl rfl ?_
    refine kw_step rfl rfl rfl rfl ?_
    refine kw_step rfl rfl rfl rfl ?_
    refine kw_callI (vs := []) rfl rfl rfl ⟨rfl, Nat.le_of_ble_eq_true rfl, Nat.le_of_ble_eq_true rfl, by decide, rfl⟩ rfl r1 (by decide) ?_
    refine kw_put (fs := ((kfk 7).map kdef0)) rfl ((fr1 57 (by decide)).trans hf) (Nat.le_of_ble_eq_true rfl) rfl ?_
    refine kw_step rfl rfl rfl rfl ?_
    refine kw_step rfl rfl rfl rfl ?_
    refine kw_put (fs := (((kfk 7).map kdef0).set 0 (kr 58))) rfl rfl (Nat.le_of_ble_eq_true rfl) rfl ?_
    exact kw_ret rfl rfl rfl ⟨rfl, rfl⟩
  · exact ((kput_n _ _ (by omega)).trans ((kput_n _ _ (by omega)).trans ((fr1 j (by omega)).trans ((kadd_n (m := 58) rfl (by omega)).trans rfl))))
  · have l0 : (kfk 0).length ≤ 60 := by decide
    have l1 : (kfk 1).length ≤ 60 := by decide
    have l2 : (kfk 2).length ≤ 60 := by decide
    have l3 : (kfk 3).length ≤ 60 := by decide
    have l4 : (kfk 4).length ≤ 60 := by decide
    have l5 : (kfk 5).length ≤ 60 := by decide
    have l6 : (kfk 6).length ≤ 60 := by decide
    have l7 : (kfk 7).length ≤ 60 := by decide
    have l8 : (kfk 8).length ≤ 60 := by decide
    have l9 : (kfk 9).length ≤ 60 := by decide
    have l10 : (kfk 10).length ≤ 60 := by decide
    have l11 : (kfk 11).length ≤ 60 := by decide
    simp only [kput, kadd] at *
    omega
set_option maxRecDepth 8000 in
set_option maxHeartbeats 2000000 in
theorem ti_Town_init_65 {sc : List Int} (z : Nat) (f : Nat → Option kE) (hf : f 65 = some (.inr (.inr (9, (kfk 9).map kdef0)))) : ∃ (z' : Nat) (f' : Nat → Option kE), kR sc 1 km_Town_init [kr 65] (66, z, f) none (71, z', f') ∧ (∀ j, j < 65 → f' j = f j) ∧ z' ≤ z + 200 ∧ f' 65 = some (.inr (.inr (9, (((((((kfk 9).map kdef0).set 4 (kr 66)).set 5 (kr 67)).set 6 (kr 68)).set 7 (kr 69)).set 8 (kr 70))))) ∧ f' 66 = some (.inl (0, 22, fun _ => 0)) ∧ f' 67 = some (.inl (0, 11, fun _ => 0)) ∧ f' 68 = some (.inl (0, 22, fun _ => 0)) ∧ f' 69 = some (.inl (0, 22, fun _ => 0)) ∧ f' 70 = some (.inl (0, 22, (kfill (-1) 22 (fun _ => 0)))) := by
  refine ⟨(kput (kput (kadd (kput (kadd (kput (kadd (kput (kadd (kput (kadd (66, z, f) 22 (.inl (0, 22, fun _ => 0))) 65 (.inr (.inr (9, (((kfk 9).map kdef0).set 4 (kr 66)))))) 11 (.inl (0, 11, fun _ => 0))) 65 (.inr (.inr (9, ((((kfk 9).map kdef0).set 4 (kr 66)).set 5 (kr 67)))))) 22 (.inl (0, 22, fun _ => 0))) 65 (.inr (.inr (9, (((((kfk 9).map kdef0).set 4 (kr 66)).set 5 (kr 67)).set 6 (kr 68)))))) 22 (.inl (0, 22, fun _ => 0))) 65 (.inr (.inr (9, ((((((kfk 9).map kdef0).set 4 (kr 66)).set 5 (kr 67)).set 6 (kr 68)).set 7 (kr 69)))))) 22 (.inl (0, 22, fun _ => 0))) 65 (.inr (.inr (9, (((((((kfk 9).map kdef0).set 4 (kr 66)).set 5 (kr 67)).set 6 (kr 68)).set 7 (kr 69)).set 8 (kr 70)))))) 70 (.inl (0, 22, (kfill (-1) 22 (fun _ => 0))))).2.1, (kput (kput (kadd (kput (kadd (kput (kadd (kput (kadd (kput (kadd (66, z, f) 22 (.inl (0, 22, fun _ => 0))) 65 (.inr (.inr (9, (((kfk 9).map kdef0).set 4 (kr 66)))))) 11 (.inl (0, 11, fun _ => 0))) 65 (.inr (.inr (9, ((((kfk 9).map kdef0).set 4 (kr 66)).set 5 (kr 67)))))) 22 (.inl (0, 22, fun _ => 0))) 65 (.inr (.inr (9, (((((kfk 9).map kdef0).set 4 (kr 66)).set 5 (kr 67)).set 6 (kr 68)))))) 22 (.inl (0, 22, fun _ => 0))) 65 (.inr (.inr (9, ((((((kfk 9).map kdef0).set 4 (kr 66)).set 5 (kr 67)).set 6 (kr 68)).set 7 (kr 69)))))) 22 (.inl (0, 22, fun _ => 0))) 65 (.inr (.inr (9, (((((((kfk 9).map kdef0).set 4 (kr 66)).set 5 (kr 67)).set 6 (kr 68)).set 7 (kr 69)).set 8 (kr 70)))))) 70 (.inl (0, 22, (kfill (-1) 22 (fun _ => 0))))).2.2, ?_, fun j hj => ?_, ?_, rfl, rfl, rfl, rfl, rfl, rfl⟩
  · refine kR.start rfl ?_
    show kW sc 1 kc_Town_init 0 0 [some (kr 65)] [] (66, z, f) _
    refine kw_step rfl rfl rfl rfl ?_
    refine kw_step rfl rfl rfl rfl ?_
    refine kw_step rfl rfl rfl rfl ?_
    refine kw_step rfl rfl rfl rfl ?_
    refine kw_step rfl rfl rfl rfl ?_
    refine kw_put (fs := ((kfk 9).map kdef0)) rfl hf (Nat.le_of_ble_eq_true rfl) rfl ?_
    refine kw_step rfl rfl rfl rfl ?_
    refine kw_step rfl rfl rfl rfl ?_
    refine kw_step rfl rfl rfl rfl ?_
    refine kw_put (fs := (((kfk 9).map kdef0).set 4 (kr 66))) rfl rfl (Nat.le_of_ble_eq_true rfl) rfl ?_
    refine kw_step rfl rfl rfl rfl ?_
    refine kw_step rfl rfl rfl rfl ?_
    refine kw_step rfl rfl rfl rfl ?_
    refine kw_put (fs := ((((kfk 9).map kdef0).set 4 (kr 66)).set 5 (kr 67))) rfl rfl (Nat.le_of_ble_eq_true rfl) rfl ?_
    refine kw_step rfl rfl rfl rfl ?_
    refine kw_step rfl rfl rfl rfl ?_
    refine kw_step rfl rfl rfl rfl ?_
    refine kw_put (fs := (((((kfk 9).map kdef0).set 4 (kr 66)).set 5 (kr 67)).set 6 (kr 68))) rfl rfl (Nat.le_of_ble_eq_true rfl) rfl ?_
    refine kw_step rfl rfl rfl rfl ?_
    refine kw_step rfl rfl rfl rfl ?_
    refine kw_step rfl rfl rfl rfl ?_
    refine kw_put (fs := ((((((kfk 9).map kdef0).set 4 (kr 66)).set 5 (kr 67)).set 6 (kr 68)).set 7 (kr 69))) rfl rfl (Nat.le_of_ble_eq_true rfl) rfl ?_
    refine kw_step rfl rfl rfl rfl ?_
    refine kw_get (fs := (((((((kfk 9).map kdef0).set 4 (kr 66)).set 5 (kr 67)).set 6 (kr 68)).set 7 (kr 69)).set 8 (kr 70))) rfl rfl rfl ?_
    refine kw_step rfl rfl rfl rfl ?_
    refine kw_callS (vs := [_, _]) rfl rfl rfl ⟨rfl, Nat.le_of_ble_eq_true rfl, Nat.le_of_ble_eq_true rfl, rfl⟩ (tArrays_fill (n := 22) (f := (fun _ => 0)) _ rfl (by decide)) (by decide) ?_
    exact kw_ret rfl rfl rfl ⟨rfl, rfl⟩
  · exact ((kput_n _ _ (by omega)).trans ((kput_n _ _ (by omega)).trans ((kadd_n (m := 70) rfl (by omega)).trans ((kput_n _ _ (by omega)).trans ((kadd_n (m := 69) rfl (by omega)).trans ((kput_n _ _ (by omega)).trans ((kadd_n (m := 68) rfl (by omega)).trans ((kput_n _ _ (by omega)).trans ((kadd_n (m := 67) rfl (by omega)).trans ((kput_n _ _ (by omega)).trans ((kadd_n (m := 66) rfl (by omega)).trans rfl)))))))))))
  · have l0 : (kfk 0).length ≤ 60 := by decide
    have l1 : (kfk 1).length ≤ 60 := by decide
    have l2 : (kfk 2).length ≤ 60 := by decide
    have l3 : (kfk 3).length ≤ 60 := by decide
    have l4 : (kfk 4).length ≤ 60 := by decide
    have l5 : (kfk 5).length ≤ 60 := by decide
    have l6 : (kfk 6).length ≤ 60 := by decide
    have l7 : (kfk 7).length ≤ 60 := by decide
    have l8 : (kfk 8).length ≤ 60 := by decide
    have l9 : (kfk 9).length ≤ 60 := by decide
    have l10 : (kfk 10).length ≤ 60 := by decide
    have l11 : (kfk 11).length ≤ 60 := by decide
    simp only [kput, kadd] at *
    omega
set_option maxRecDepth 8000 in
set_option maxHeartbeats 2000000 in
theorem ti_Stand_init_64 {sc : List Int} (z : Nat) (f : Nat → Option kE) (hf : f 64 = some (.inr (.inr (7, (kfk 7).map kdef0)))) : ∃ (z' : Nat) (f' : Nat → Option kE), kR sc 2 km_Stand_init [kr 64] (65, z, f) none (71, z', f') ∧ (∀ j, j < 64 → f' j = f j) ∧ z' ≤ z + 300 ∧ f' 64 = some (.inr (.inr (7, ((((kfk 7).map kdef0).set 0 (kr 65)).set 2 (kI (-1)))))) ∧ f' 65 = some (.inr (.inr (9, (((((((kfk 9).map kdef0).set 4 (kr 66)).set 5 (kr 67)).set 6 (kr 68)).set 7 (kr 69)).set 8 (kr 70))))) ∧ f' 66 = some (.inl (0, 22, fun _ => 0)) ∧ f' 67 = some (.inl (0, 11, fun _ => 0)) ∧ f' 68 = some (.inl (0, 22, fun _ => 0)) ∧ f' 69 = some (.inl (0, 22, fun _ => 0)) ∧ f' 70 = some (.inl (0, 22, (kfill (-1) 22 (fun _ => 0)))) := by
  obtain ⟨z1, f1, r1, fr1, zb1, c1_65, c1_66, c1_67, c1_68, c1_69, c1_70⟩ := ti_Town_init_65 (sc := sc) (kadd (65, z, f) (kfk 9).length (.inr (.inr (9, (kfk 9).map kdef0)))).2.1 (kadd (65, z, f) (kfk 9).length (.inr (.inr (9, (kfk 9).map kdef0)))).2.2 rfl
  refine ⟨(kput (kput (71, z1, f1) 64 (.inr (.inr (7, (((kfk 7).map kdef0).set 0 (kr 65)))))) 64 (.inr (.inr (7, ((((kfk 7).map kdef0).set 0 (kr 65)).set 2 (kI (-1))))))).2.1, (kput (kput (71, z1, f1) 64 (.inr (.inr (7, (((kfk 7).map kdef0).set 0 (kr 65)))))) 64 (.inr (.inr (7, ((((kfk 7).map kdef0).set 0 (kr 65)).set 2 (kI (-1))))))).2.2, ?_, fun j hj => ?_, ?_, rfl, c1_65, c1_66, c1_67, c1_68, c1_69, c1_70⟩
  · refine kR.start rfl ?_
    show kW sc 2 kc_Stand_init 0 0 [some (kr 64)] [] (65, z, f) _
    refine kw_step rfl rfl rfl rfl ?_
    refine kw_step rfl rfl rfl rfl ?_
    refine kw_step rfl rfl rfl rfl ?_
    refine kw_step rfl rfl rfl rfl ?_
    refine kw_step rfl rfl rfl rfl ?_
    refine kw_callI (vs := []) rfl rfl rfl ⟨rfl, Nat.le_of_ble_eq_true rfl, Nat.le_of_ble_eq_true rfl, by decide, rfl⟩ rfl r1 (by decide) ?_
    refine kw_put (fs := ((kfk 7).map kdef0)) rfl ((fr1 64 (by decide)).trans hf) (Nat.le_of_ble_eq_true rfl) rfl ?_
    refine kw_step rfl rfl rfl rfl ?_
    refine kw_step rfl rfl rfl rfl ?_
    refine kw_put (fs := (((kfk 7).map kdef0).set 0 (kr 65))) rfl rfl (Nat.le_of_ble_eq_true rfl) rfl ?_
    exact kw_ret rfl rfl rfl ⟨rfl, rfl⟩
  · exact ((kput_n _ _ (by omega)).trans ((kput_n _ _ (by omega)).trans ((fr1 j (by omega)).trans ((kadd_n (m := 65) rfl (by omega)).trans rfl))))
  · have l0 : (kfk 0).length ≤ 60 := by decide
    have l1 : (kfk 1).length ≤ 60 := by decide
    have l2 : (kfk 2).length ≤ 60 := by decide
    have l3 : (kfk 3).length ≤ 60 := by decide
    have l4 : (kfk 4).length ≤ 60 := by decide
    have l5 : (kfk 5).length ≤ 60 := by decide
    have l6 : (kfk 6).length ≤ 60 := by decide
    have l7 : (kfk 7).length ≤ 60 := by decide
    have l8 : (kfk 8).length ≤ 60 := by decide
    have l9 : (kfk 9).length ≤ 60 := by decide
    have l10 : (kfk 10).length ≤ 60 := by decide
    have l11 : (kfk 11).length ≤ 60 := by decide
    simp only [kput, kadd] at *
    omega
set_option maxRecDepth 8000 in
set_option maxHeartbeats 2000000 in
theorem ti_Town_init_72 {sc : List Int} (z : Nat) (f : Nat → Option kE) (hf : f 72 = some (.inr (.inr (9, (kfk 9).map kdef0)))) : ∃ (z' : Nat) (f' : Nat → Option kE), kR sc 1 km_Town_init [kr 72] (73, z, f) none (78, z', f') ∧ (∀ j, j < 72 → f' j = f j) ∧ z' ≤ z + 200 ∧ f' 72 = some (.inr (.inr (9, (((((((kfk 9).map kdef0).set 4 (kr 73)).set 5 (kr 74)).set 6 (kr 75)).set 7 (kr 76)).set 8 (kr 77))))) ∧ f' 73 = some (.inl (0, 22, fun _ => 0)) ∧ f' 74 = some (.inl (0, 11, fun _ => 0)) ∧ f' 75 = some (.inl (0, 22, fun _ => 0)) ∧ f' 76 = some (.inl (0, 22, fun _ => 0)) ∧ f' 77 = some (.inl (0, 22, (kfill (-1) 22 (fun _ => 0)))) := by
  refine ⟨(kput (kput (kadd (kput (kadd (kput (kadd (kput (kadd (kput (kadd (73, z, f) 22 (.inl (0, 22, fun _ => 0))) 72 (.inr (.inr (9, (((kfk 9).map kdef0).set 4 (kr 73)))))) 11 (.inl (0, 11, fun _ => 0))) 72 (.inr (.inr (9, ((((kfk 9).map kdef0).set 4 (kr 73)).set 5 (kr 74)))))) 22 (.inl (0, 22, fun _ => 0))) 72 (.inr (.inr (9, (((((kfk 9).map kdef0).set 4 (kr 73)).set 5 (kr 74)).set 6 (kr 75)))))) 22 (.inl (0, 22, fun _ => 0))) 72 (.inr (.inr (9, ((((((kfk 9).map kdef0).set 4 (kr 73)).set 5 (kr 74)).set 6 (kr 75)).set 7 (kr 76)))))) 22 (.inl (0, 22, fun _ => 0))) 72 (.inr (.inr (9, (((((((kfk 9).map kdef0).set 4 (kr 73)).set 5 (kr 74)).set 6 (kr 75)).set 7 (kr 76)).set 8 (kr 77)))))) 77 (.inl (0, 22, (kfill (-1) 22 (fun _ => 0))))).2.1, (kput (kput (kadd (kput (kadd (kput (kadd (kput (kadd (kput (kadd (73, z, f) 22 (.inl (0, 22, fun _ => 0))) 72 (.inr (.inr (9, (((kfk 9).map kdef0).set 4 (kr 73)))))) 11 (.inl (0, 11, fun _ => 0))) 72 (.inr (.inr (9, ((((kfk 9).map kdef0).set 4 (kr 73)).set 5 (kr 74)))))) 22 (.inl (0, 22, fun _ => 0))) 72 (.inr (.inr (9, (((((kfk 9).map kdef0).set 4 (kr 73)).set 5 (kr 74)).set 6 (kr 75)))))) 22 (.inl (0, 22, fun _ => 0))) 72 (.inr (.inr (9, ((((((kfk 9).map kdef0).set 4 (kr 73)).set 5 (kr 74)).set 6 (kr 75)).set 7 (kr 76)))))) 22 (.inl (0, 22, fun _ => 0))) 72 (.inr (.inr (9, (((((((kfk 9).map kdef0).set 4 (kr 73)).set 5 (kr 74)).set 6 (kr 75)).set 7 (kr 76)).set 8 (kr 77)))))) 77 (.inl (0, 22, (kfill (-1) 22 (fun _ => 0))))).2.2, ?_, fun j hj => ?_, ?_, rfl, rfl, rfl, rfl, rfl, rfl⟩
  · refine kR.start rfl ?_
    show kW sc 1 kc_Town_init 0 0 [some (kr 72)] [] (73, z, f) _
    refine kw_step rfl rfl rfl rfl ?_
    refine kw_step rfl rfl rfl rfl ?_
    refine kw_step rfl rfl rfl rfl ?_
    refine kw_step rfl rfl rfl rfl ?_
    refine kw_step rfl rfl rfl rfl ?_
    refine kw_put (fs := ((kfk 9).map kdef0)) rfl hf (Nat.le_of_ble_eq_true rfl) rfl ?_
    refine kw_step rfl rfl rfl rfl ?_
    refine kw_step rfl rfl rfl rfl ?_
    refine kw_step rfl rfl rfl rfl ?_
    refine kw_put (fs := (((kfk 9).map kdef0).set 4 (kr 73))) rfl rfl (Nat.le_of_ble_eq_true rfl) rfl ?_
    refine kw_step rfl rfl rfl rfl ?_
    refine kw_step rfl rfl rfl rfl ?_
    refine kw_step rfl rfl rfl rfl ?_
    refine kw_put (fs := ((((kfk 9).map kdef0).set 4 (kr 73)).set 5 (kr 74))) rfl rfl (Nat.le_of_ble_eq_true rfl) rfl ?_
    refine kw_step rfl rfl rfl rfl ?_
    refine kw_step rfl rfl rfl rfl ?_
    refine kw_step rfl rfl rfl rfl ?_
    refine kw_put (fs := (((((kfk 9).map kdef0).set 4 (kr 73)).set 5 (kr 74)).set 6 (kr 75))) rfl rfl (Nat.le_of_ble_eq_true rfl) rfl ?_
    refine kw_step rfl rfl rfl rfl ?_
    refine kw_step rfl rfl rfl rfl ?_
    refine kw_step rfl rfl rfl rfl ?_
    refine kw_put (fs := ((((((kfk 9).map kdef0).set 4 (kr 73)).set 5 (kr 74)).set 6 (kr 75)).set 7 (kr 76))) rfl rfl (Nat.le_of_ble_eq_true rfl) rfl ?_
    refine kw_step rfl rfl rfl rfl ?_
    refine kw_get (fs := (((((((kfk 9).map kdef0).set 4 (kr 73)).set 5 (kr 74)).set 6 (kr 75)).set 7 (kr 76)).set 8 (kr 77))) rfl rfl rfl ?_
    refine kw_step rfl rfl rfl rfl ?_
    refine kw_callS (vs := [_, _]) rfl rfl rfl ⟨rfl, Nat.le_of_ble_eq_true rfl, Nat.le_of_ble_eq_true rfl, rfl⟩ (tArrays_fill (n := 22) (f := (fun _ => 0)) _ rfl (by decide)) (by decide) ?_
    exact kw_ret rfl rfl rfl ⟨rfl, rfl⟩
  · exact ((kput_n _ _ (by omega)).trans ((kput_n _ _ (by omega)).trans ((kadd_n (m := 77) rfl (by omega)).trans ((kput_n _ _ (by omega)).trans ((kadd_n (m := 76) rfl (by omega)).trans ((kput_n _ _ (by omega)).trans ((kadd_n (m := 75) rfl (by omega)).trans ((kput_n _ _ (by omega)).trans ((kadd_n (m := 74) rfl (by omega)).trans ((kput_n _ _ (by omega)).trans ((kadd_n (m := 73) rfl (by omega)).trans rfl)))))))))))
  · have l0 : (kfk 0).length ≤ 60 := by decide
    have l1 : (kfk 1).length ≤ 60 := by decide
    have l2 : (kfk 2).length ≤ 60 := by decide
    have l3 : (kfk 3).length ≤ 60 := by decide
    have l4 : (kfk 4).length ≤ 60 := by decide
    have l5 : (kfk 5).length ≤ 60 := by decide
    have l6 : (kfk 6).length ≤ 60 := by decide
    have l7 : (kfk 7).length ≤ 60 := by decide
    have l8 : (kfk 8).length ≤ 60 := by decide
    have l9 : (kfk 9).length ≤ 60 := by decide
    have l10 : (kfk 10).length ≤ 60 := by decide
    have l11 : (kfk 11).length ≤ 60 := by decide
    simp only [kput, kadd] at *
    omega
set_option maxRecDepth 8000 in
set_option maxHeartbeats 2000000 in
theorem ti_Stand_init_71 {sc : List Int} (z : Nat) (f : Nat → Option kE) (hf : f 71 = some (.inr (.inr (7, (kfk 7).map kdef0)))) : ∃ (z' : Nat) (f' : Nat → Option kE), kR sc 2 km_Stand_init [kr 71] (72, z, f) none (78, z', f') ∧ (∀ j, j < 71 → f' j = f j) ∧ z' ≤ z + 300 ∧ f' 71 = some (.inr (.inr (7, ((((kfk 7).map kdef0).set 0 (kr 72)).set 2 (kI (-1)))))) ∧ f' 72 = some (.inr (.inr (9, (((((((kfk 9).map kdef0).set 4 (kr 73)).set 5 (kr 74)).set 6 (kr 75)).set 7 (kr 76)).set 8 (kr 77))))) ∧ f' 73 = some (.inl (0, 22, fun _ => 0)) ∧ f' 74 = some (.inl (0, 11, fun _ => 0)) ∧ f' 75 = some (.inl (0, 22, fun _ => 0)) ∧ f' 76 = some (.inl (0, 22, fun _ => 0)) ∧ f' 77 = some (.inl (0, 22, (kfill (-1) 22 (fun _ => 0)))) := by
  obtain ⟨z1, f1, r1, fr1, zb1, c1_72, c1_73, c1_74, c1_75, c1_76, c1_77⟩ := ti_Town_init_72 (sc := sc) (kadd (72, z, f) (kfk 9).length (.inr (.inr (9, (kfk 9).map kdef0)))).2.1 (kadd (72, z, f) (kfk 9).length (.inr (.inr (9, (kfk 9).map kdef0)))).2.2 rfl
  refine ⟨(kput (kput (78, z1, f1) 71 (.inr (.inr (7, (((kfk 7).map kdef0).set 0 (kr 72)))))) 71 (.inr (.inr (7, ((((kfk 7).map kdef0).set 0 (kr 72)).set 2 (kI (-1))))))).2.1, (kput (kput (78, z1, f1) 71 (.inr (.inr (7, (((kfk 7).map kdef0).set 0 (kr 72)))))) 71 (.inr (.inr (7, ((((kfk 7).map kdef0).set 0 (kr 72)).set 2 (kI (-1))))))).2.2, ?_, fun j hj => ?_, ?_, rfl, c1_72, c1_73, c1_74, c1_75, c1_76, c1_77⟩
  · refine kR.start rfl ?_
    show kW sc 2 kc_Stand_init 0 0 [some (kr 71)] [] (72, z, f) _
    refine kw_step rfl rfl rfl rfl ?_
    refine kw_step rfl rfl rfl rfl ?_
    refine kw_step rfl rfl rfl rfl ?_
    refine kw_step rfl rfl rfl rfl ?_
    refine kw_step rfl rfl rfl rfl ?_
    refine kw_callI (vs := []) rfl rfl rfl ⟨rfl, Nat.le_of_ble_eq_true rfl, Nat.le_of_ble_eq_true rfl, by decide, rfl⟩ rfl r1 (by decide) ?_
    refine kw_put (fs := ((kfk 7).map kdef0)) rfl ((fr1 71 (by decide)).trans hf) (Nat.le_of_ble_eq_true rfl) rfl ?_
    refine kw_step rfl rfl rfl rfl ?_
    refine kw_step rfl rfl rfl rfl ?_
    refine kw_put (fs := (((kfk 7).map kdef0).set 0 (kr 72))) rfl rfl (Nat.le_of_ble_eq_true rfl) rfl ?_
    exact kw_ret rfl rfl rfl ⟨rfl, rfl⟩
  · exact ((kput_n _ _ (by omega)).trans ((kput_n _ _ (by omega)).trans ((fr1 j (by omega)).trans ((kadd_n (m := 72) rfl (by omega)).trans rfl))))
  · have l0 : (kfk 0).length ≤ 60 := by decide
    have l1 : (kfk 1).length ≤ 60 := by decide
    have l2 : (kfk 2).length ≤ 60 := by decide
    have l3 : (kfk 3).length ≤ 60 := by decide
    have l4 : (kfk 4).length ≤ 60 := by decide
    have l5 : (kfk 5).length ≤ 60 := by decide
    have l6 : (kfk 6).length ≤ 60 := by decide
    have l7 : (kfk 7).length ≤ 60 := by decide
    have l8 : (kfk 8).length ≤ 60 := by decide
    have l9 : (kfk 9).length ≤ 60 := by decide
    have l10 : (kfk 10).length ≤ 60 := by decide
    have l11 : (kfk 11).length ≤ 60 := by decide
    simp only [kput, kadd] at *
    omega
set_option maxRecDepth 8000 in
set_option maxHeartbeats 2000000 in
theorem ti_Town_init_79 {sc : List Int} (z : Nat) (f : Nat → Option kE) (hf : f 79 = some (.inr (.inr (9, (kfk 9).map kdef0)))) : ∃ (z' : Nat) (f' : Nat → Option kE), kR sc 1 km_Town_init [kr 79] (80, z, f) none (85, z', f') ∧ (∀ j, j < 79 → f' j = f j) ∧ z' ≤ z + 200 ∧ f' 79 = some (.inr (.inr (9, (((((((kfk 9).map kdef0).set 4 (kr 80)).set 5 (kr 81)).set 6 (kr 82)).set 7 (kr 83)).set 8 (kr 84))))) ∧ f' 80 = some (.inl (0, 22, fun _ => 0)) ∧ f' 81 = some (.inl (0, 11, fun _ => 0)) ∧ f' 82 = some (.inl (0, 22, fun _ => 0)) ∧ f' 83 = some (.inl (0, 22, fun _ => 0)) ∧ f' 84 = some (.inl (0, 22, (kfill (-1) 22 (fun _ => 0)))) := by
  refine ⟨(kput (kput (kadd (kput (kadd (kput (kadd (kput (kadd (kput (kadd (80, z, f) 22 (.inl (0, 22, fun _ => 0))) 79 (.inr (.inr (9, (((kfk 9).map kdef0).set 4 (kr 80)))))) 11 (.inl (0, 11, fun _ => 0))) 79 (.inr (.inr (9, ((((kfk 9).map kdef0).set 4 (kr 80)).set 5 (kr 81)))))) 22 (.inl (0, 22, fun _ => 0))) 79 (.inr (.inr (9, (((((kfk 9).map kdef0).set 4 (kr 80)).set 5 (kr 81)).set 6 (kr 82)))))) 22 (.inl (0, 22, fun _ => 0))) 79 (.inr (.inr (9, ((((((kfk 9).map kdef0).set 4 (kr 80)).set 5 (kr 81)).set 6 (kr 82)).set 7 (kr 83)))))) 22 (.inl (0, 22, fun _ => 0))) 79 (.inr (.inr (9, (((((((kfk 9).map kdef0).set 4 (kr 80)).set 5 (kr 81)).set 6 (kr 82)).set 7 (kr 83)).set 8 (kr 84)))))) 84 (.inl (0, 22, (kfill (-1) 22 (fun _ => 0))))).2.1, (kput (kput (kadd (kput (kadd (kput (kadd (kput (kadd (kput (kadd (80, z, f) 22 (.inl (0, 22, fun _ => 0))) 79 (.inr (.inr (9, (((kfk 9).map kdef0).set 4 (kr 80)))))) 11 (.inl (0, 11, fun _ => 0))) 79 (.inr (.inr (9, ((((kfk 9).map kdef0).set 4 (kr 80)).set 5 (kr 81)))))) 22 (.inl (0, 22, fun _ => 0))) 79 (.inr (.inr (9, (((((kfk 9).map kdef0).set 4 (kr 80)).set 5 (kr 81)).set 6 (kr 82)))))) 22 (.inl (0, 22, fun _ => 0))) 79 (.inr (.inr (9, ((((((kfk 9).map kdef0).set 4 (kr 80)).set 5 (kr 81)).set 6 (kr 82)).set 7 (kr 83)))))) 22 (.inl (0, 22, fun _ => 0))) 79 (.inr (.inr (9, (((((((kfk 9).map kdef0).set 4 (kr 80)).set 5 (kr 81)).set 6 (kr 82)).set 7 (kr 83)).set 8 (kr 84)))))) 84 (.inl (0, 22, (kfill (-1) 22 (fun _ => 0))))).2.2, ?_, fun j hj => ?_, ?_, rfl, rfl, rfl, rfl, rfl, rfl⟩
  · refine kR.start rfl ?_
    show kW sc 1 kc_Town_init 0 0 [some (kr 79)] [] (80, z, f) _
    refine kw_step rfl rfl rfl rfl ?_
    refine kw_step rfl rfl rfl rfl ?_
    refine kw_step rfl rfl rfl rfl ?_
    refine kw_step rfl rfl rfl rfl ?_
    refine kw_step rfl rfl rfl rfl ?_
    refine kw_put (fs := ((kfk 9).map kdef0)) rfl hf (Nat.le_of_ble_eq_true rfl) rfl ?_
    refine kw_step rfl rfl rfl rfl ?_
    refine kw_step rfl rfl rfl rfl ?_
    refine kw_step rfl rfl rfl rfl ?_
    refine kw_put (fs := (((kfk 9).map kdef0).set 4 (kr 80))) rfl rfl (Nat.le_of_ble_eq_true rfl) rfl ?_
    refine kw_step rfl rfl rfl rfl ?_
    refine kw_step rfl rfl rfl rfl ?_
    refine kw_step rfl rfl rfl rfl ?_
    refine kw_put (fs := ((((kfk 9).map kdef0).set 4 (kr 80)).set 5 (kr 81))) rfl rfl (Nat.le_of_ble_eq_true rfl) rfl ?_
    refine kw_step rfl rfl rfl rfl ?_
    refine kw_step rfl rfl rfl rfl ?_
    refine kw_step rfl rfl rfl rfl ?_
    refine kw_put (fs := (((((kfk 9).map kdef0).set 4 (kr 80)).set 5 (kr 81)).set 6 (kr 82))) rfl rfl (Nat.le_of_ble_eq_true rfl) rfl ?_
    refine kw_step rfl rfl rfl rfl ?_
    refine kw_step rfl rfl rfl rfl ?_
    refine kw_step rfl rfl rfl rfl ?_
    refine kw_put (fs := ((((((kfk 9).map kdef0).set 4 (kr 80)).set 5 (kr 81)).set 6 (kr 82)).set 7 (kr 83))) rfl rfl (Nat.le_of_ble_eq_true rfl) rfl ?_
    refine kw_step rfl rfl rfl rfl ?_
    refine kw_get (fs := (((((((kfk 9).map kdef0).set 4 (kr 80)).set 5 (kr 81)).set 6 (kr 82)).set 7 (kr 83)).set 8 (kr 84))) rfl rfl rfl ?_
    refine kw_step rfl rfl rfl rfl ?_
    refine kw_callS (vs := [_, _]) rfl rfl rfl ⟨rfl, Nat.le_of_ble_eq_true rfl, Nat.le_of_ble_eq_true rfl, rfl⟩ (tArrays_fill (n := 22) (f := (fun _ => 0)) _ rfl (by decide)) (by decide) ?_
    exact kw_ret rfl rfl rfl ⟨rfl, rfl⟩
  · exact ((kput_n _ _ (by omega)).trans ((kput_n _ _ (by omega)).trans ((kadd_n (m := 84) rfl (by omega)).trans ((kput_n _ _ (by omega)).trans ((kadd_n (m := 83) rfl (by omega)).trans ((kput_n _ _ (by omega)).trans ((kadd_n (m := 82) rfl (by omega)).trans ((kput_n _ _ (by omega)).trans ((kadd_n (m := 81) rfl (by omega)).trans ((kput_n _ _ (by omega)).trans ((kadd_n (m := 80) rfl (by omega)).trans rfl)))))))))))
  · have l0 : (kfk 0).length ≤ 60 := by decide
    have l1 : (kfk 1).length ≤ 60 := by decide
    have l2 : (kfk 2).length ≤ 60 := by decide
    have l3 : (kfk 3).length ≤ 60 := by decide
    have l4 : (kfk 4).length ≤ 60 := by decide
    have l5 : (kfk 5).length ≤ 60 := by decide
    have l6 : (kfk 6).length ≤ 60 := by decide
    have l7 : (kfk 7).length ≤ 60 := by decide
    have l8 : (kfk 8).length ≤ 60 := by decide
    have l9 : (kfk 9).length ≤ 60 := by decide
    have l10 : (kfk 10).length ≤ 60 := by decide
    have l11 : (kfk 11).length ≤ 60 := by decide
    simp only [kput, kadd] at *
    omega
set_option maxRecDepth 8000 in
set_option maxHeartbeats 2000000 in
theorem ti_Stand_init_78 {sc : List Int} (z : Nat) (f : Nat → Option kE) (hf : f 78 = some (.inr (.inr (7, (kfk 7).map kdef0)))) : ∃ (z' : Nat) (f' : Nat → Option kE), kR sc 2 km_Stand_init [kr 78] (79, z, f) none (85, z', f') ∧ (∀ j, j < 78 → f' j = f j) ∧ z' ≤ z + 300 ∧ f' 78 = some (.inr (.inr (7, ((((kfk 7).map kdef0).set 0 (kr 79)).set 2 (kI (-1)))))) ∧ f' 79 = some (.inr (.inr (9, (((((((kfk 9).map kdef0).set 4 (kr 80)).set 5 (kr 81)).set 6 (kr 82)).set 7 (kr 83)).set 8 (kr 84))))) ∧ f' 80 = some (.inl (0, 22, fun _ => 0)) ∧ f' 81 = some (.inl (0, 11, fun _ => 0)) ∧ f' 82 = some (.inl (0, 22, fun _ => 0)) ∧ f' 83 = some (.inl (0, 22, fun _ => 0)) ∧ f' 84 = some (.inl (0, 22, (kfill (-1) 22 (fun _ => 0)))) := by
  obtain ⟨z1, f1, r1, fr1, zb1, c1_79, c1_80, c1_81, c1_82, c1_83, c1_84⟩ := ti_Town_init_79 (sc := sc) (kadd (79, z, f) (kfk 9).length (.inr (.inr (9, (kfk 9).map kdef0)))).2.1 (kadd (79, z, f) (kfk 9).length (.inr (.inr (9, (kfk 9).map kdef0)))).2.2 rfl
  refine ⟨(kput (kput (85, z1, f1) 78 (.inr (.inr (7, (((kfk 7).map kdef0).set 0 (kr 79)))))) 78 (.inr (.inr (7, ((((kfk 7).map kdef0).set 0 (kr 79)).set 2 (kI (-1))))))).2.1, (kput (kput (85, z1, f1) 78 (.inr (.inr (7, (((kfk 7).map kdef0).set 0 (kr 79)))))) 78 (.inr (.inr (7, ((((kfk 7).map kdef0).set 0 (kr 79)).set 2 (kI (-1))))))).2.2, ?_, fun j hj => ?_, ?_, rfl, c1_79, c1_80, c1_81, c1_82, c1_83, c1_84⟩
  · refine kR.start rfl ?_
    show kW sc 2 kc_Stand_init 0 0 [some (kr 78)] [] (79, z, f) _
    refine kw_step rfl rfl rfl rfl ?_
    refine kw_step rfl rfl rfl rfl ?_
    refine kw_step rfl rfl rfl rfl ?_
    refine kw_step rfl rfl rfl rfl ?_
    refine kw_step rfl rfl rfl rfl ?_
    refine kw_callI (vs := []) rfl rfl rfl ⟨rfl, Nat.le_of_ble_eq_true rfl, Nat.le_of_ble_eq_true rfl, by decide, rfl⟩ rfl r1 (by decide) ?_
    refine kw_put (fs := ((kfk 7).map kdef0)) rfl ((fr1 78 (by decide)).trans hf) (Nat.le_of_ble_eq_true rfl) rfl ?_
    refine kw_step rfl rfl rfl rfl ?_
    refine kw_step rfl rfl rfl rfl ?_
    refine kw_put (fs := (((kfk 7).map kdef0).set 0 (kr 79))) rfl rfl (Nat.le_of_ble_eq_true rfl) rfl ?_
    exact kw_ret rfl rfl rfl ⟨rfl, rfl⟩
  · exact ((kput_n _ _ (by omega)).trans ((kput_n _ _ (by omega)).trans ((fr1 j (by omega)).trans ((kadd_n (m := 79) rfl (by omega)).trans rfl))))
  · have l0 : (kfk 0).length ≤ 60 := by decide
    have l1 : (kfk 1).length ≤ 60 := by decide
    have l2 : (kfk 2).length ≤ 60 := by decide
    have l3 : (kfk 3).length ≤ 60 := by decide
    have l4 : (kfk 4).length ≤ 60 := by decide
    have l5 : (kfk 5).length ≤ 60 := by decide
    have l6 : (kfk 6).length ≤ 60 := by decide
    have l7 : (kfk 7).length ≤ 60 := by decide
    have l8 : (kfk 8).length ≤ 60 := by decide
    have l9 : (kfk 9).length ≤ 60 := by decide
    have l10 : (kfk 10).length ≤ 60 := by decide
    have l11 : (kfk 11).length ≤ 60 := by decide
    simp only [kput, kadd] at *
    omega
set_option maxRecDepth 8000 in
set_option maxHeartbeats 2000000 in
theorem ti_KT_init_0 {sc : List Int} (z : Nat) (f : Nat → Option kE) (hf : f 0 = some (.inr (.inr (10, (kfk 10).map kdef0)))) : ∃ (z' : Nat) (f' : Nat → Option kE), kR sc 3 km_KT_init [kr 0] (1, z, f) none (85, z', f') ∧ (∀ j, j < 0 → f' j = f j) ∧ z' ≤ z + 20000 ∧ f' 0 = some (.inr (.inr (10, (((((((((((((kfk 10).map kdef0).set 0 (kr 1)).set 1 (kr 3)).set 2 (kr 10)).set 3 (kr 11)).set 4 (kr 17)).set 5 (kr 21)).set 6 (kr 44)).set 7 (kr 48)).set 8 (kr 51)).set 9 (kr 54)).set 10 (kr 56))))) ∧ f' 1 = some (.inr (.inr (8, (((kfk 8).map kdef0).set 0 (kr 2))))) ∧ f' 2 = some (.inl (1, 400, fun _ => 0)) ∧ f' 3 = some (.inr (.inr (7, ((((kfk 7).map kdef0).set 0 (kr 4)).set 2 (kI (-1)))))) ∧ f' 4 = some (.inr (.inr (9, (((((((kfk 9).map kdef0).set 4 (kr 5)).set 5 (kr 6)).set 6 (kr 7)).set 7 (kr 8)).set 8 (kr 9))))) ∧ f' 5 = some (.inl (0, 22, fun _ => 0)) ∧ f' 6 = some (.inl (0, 11, fun _ => 0)) ∧ f' 7 = some (.inl (0, 22, fun _ => 0)) ∧ f' 8 = some (.inl (0, 22, fun _ => 0)) ∧ f' 9 = some (.inl (0, 22, (kfill (-1) 22 (fun _ => 0)))) ∧ f' 10 = some (.inr (.inl (7, 4, (kup (kup (kup (kup (fun _ => none) 0 (some 57)) 1 (some 64)) 2 (some 71)) 3 (some 78))))) ∧ f' 11 = some (.inr (.inr (9, (((((((kfk 9).map kdef0).set 4 (kr 12)).set 5 (kr 13)).set 6 (kr 14)).set 7 (kr 15)).set 8 (kr 16))))) ∧ f' 12 = some (.inl (0, 22, fun _ => 0)) ∧ f' 13 = some (.inl (0, 11, fun _ => 0)) ∧ f' 14 = some (.inl (0, 22, fun _ => 0)) ∧ f' 15 = some (.inl (0, 22, fun _ => 0)) ∧ f' 16 = some (.inl (0, 22, (kfill (-1) 22 (fun _ => 0)))) ∧ f' 17 = some (.inr (.inr (3, (((((kfk 3).map kdef0).set 4 (kr 18)).set 5 (kr 19)).set 7 (kr 20))))) ∧ f' 18 = some (.inl (0, 48, fun _ => 0)) ∧ f' 19 = some (.inl (0, 48, fun _ => 0)) ∧ f' 20 = some (.inl (0, 44, fun _ => 0)) ∧ f' 21 = some (.inr (.inr (6, (((((((((((kfk 6).map kdef0).set 0 (kr 22)).set 1 (kr 23)).set 2 (kr 24)).set 3 (kr 25)).set 4 (kr 26)).set 5 (kr 27)).set 6 (kr 28)).set 7 (kr 34)).set 8 (kr 40))))) ∧ f' 22 = some (.inl (3, 300, fun _ => 0)) ∧ f' 23 = some (.inl (3, 300, fun _ => 0)) ∧ f' 24 = some (.inl (2, 300, fun _ => 0)) ∧ f' 25 = some (.inl (2, 300, fun _ => 0)) ∧ f' 26 = some (.inl (2, 300, fun _ => 0)) ∧ f' 27 = some (.inl (2, 1024, fun _ => 0)) ∧ f' 28 = some (.inr (.inr (9, (((((((kfk 9).map kdef0).set 4 (kr 29)).set 5 (kr 30)).set 6 (kr 31)).set 7 (kr 32)).set 8 (kr 33))))) ∧ f' 29 = some (.inl (0, 22, fun _ => 0)) ∧ f' 30 = some (.inl (0, 11, fun _ => 0)) ∧ f' 31 = some (.inl (0, 22, fun _ => 0)) ∧ f' 32 = some (.inl (0, 22, fun _ => 0)) ∧ f' 33 = some (.inl (0, 22, (kfill (-1) 22 (fun _ => 0)))) ∧ f' 34 = some (.inr (.inr (9, (((((((kfk 9).map kdef0).set 4 (kr 35)).set 5 (kr 36)).set 6 (kr 37)).set 7 (kr 38)).set 8 (kr 39))))) ∧ f' 35 = some (.inl (0, 22, fun _ => 0)) ∧ f' 36 = some (.inl (0, 11, fun _ => 0)) ∧ f' 37 = some (.inl (0, 22, fun _ => 0)) ∧ f' 38 = some (.inl (0, 22, fun _ => 0)) ∧ f' 39 = some (.inl (0, 22, (kfill (-1) 22 (fun _ => 0)))) ∧ f' 40 = some (.inr (.inr (3, (((((kfk 3).map kdef0).set 4 (kr 41)).set 5 (kr 42)).set 7 (kr 43))))) ∧ f' 41 = some (.inl (0, 48, fun _ => 0)) ∧ f' 42 = some (.inl (0, 48, fun _ => 0)) ∧ f' 43 = some (.inl (0, 44, fun _ => 0)) ∧ f' 44 = some (.inr (.inr (1, (((((kfk 1).map kdef0).set 1 (kr 45)).set 2 (kr 46)).set 3 (kr 47))))) ∧ f' 45 = some (.inl (0, 199, fun _ => 0)) ∧ f' 46 = some (.inl (0, 192, fun _ => 0)) ∧ f' 47 = some (.inl (0, 44, fun _ => 0)) ∧ f' 48 = some (.inr (.inr (0, ((((kfk 0).map kdef0).set 1 (kr 49)).set 2 (kr 50))))) ∧ f' 49 = some (.inl (0, 22, fun _ => 0)) ∧ f' 50 = some (.inl (3, 143, fun _ => 0)) ∧ f' 51 = some (.inr (.inr (2, ((((kfk 2).map kdef0).set 0 (kr 52)).set 1 (kr 53))))) ∧ f' 52 = some (.inl (3, 8, fun _ => 0)) ∧ f' 53 = some (.inl (3, 64, fun _ => 0)) ∧ f' 54 = some (.inr (.inr (5, (((kfk 5).map kdef0).set 0 (kr 55))))) ∧ f' 55 = some (.inl (0, 400, fun _ => 0)) ∧ f' 56 = some (.inr (.inl (4, 6, fun _ => none))) ∧ f' 57 = some (.inr (.inr (7, ((((kfk 7).map kdef0).set 0 (kr 58)).set 2 (kI (-1)))))) ∧ f' 58 = some (.inr (.inr (9, (((((((kfk 9).map kdef0).set 4 (kr 59)).set 5 (kr 60)).set 6 (kr 61)).set 7 (kr 62)).set 8 (kr 63))))) ∧ f' 59 = some (.inl (0, 22, fun _ => 0)) ∧ f' 60 = some (.inl (0, 11, fun _ => 0)) ∧ f' 61 = some (.inl (0, 22, fun _ => 0)) ∧ f' 62 = some (.inl (0, 22, fun _ => 0)) ∧ f' 63 = some (.inl (0, 22, (kfill (-1) 22 (fun _ => 0)))) ∧ f' 64 = some (.inr (.inr (7, ((((kfk 7).map kdef0).set 0 (kr 65)).set 2 (kI (-1)))))) ∧ f' 65 = some (.inr (.inr (9, (((((((kfk 9).map kdef0).set 4 (kr 66)).set 5 (kr 67)).set 6 (kr 68)).set 7 (kr 69)).set 8 (kr 70))))) ∧ f' 66 = some (.inl (0, 22, fun _ => 0)) ∧ f' 67 = some (.inl (0, 11, fun _ => 0)) ∧ f' 68 = some (.inl (0, 22, fun _ => 0)) ∧ f' 69 = some (.inl (0, 22, fun _ => 0)) ∧ f' 70 = some (.inl (0, 22, (kfill (-1) 22 (fun _ => 0)))) ∧ f' 71 = some (.inr (.inr (7, ((((kfk 7).map kdef0).set 0 (kr 72)).set 2 (kI (-1)))))) ∧ f' 72 = some (.inr (.inr (9, (((((((kfk 9).map kdef0).set 4 (kr 73)).set 5 (kr 74)).set 6 (kr 75)).set 7 (kr 76)).set 8 (kr 77))))) ∧ f' 73 = some (.inl (0, 22, fun _ => 0)) ∧ f' 74 = some (.inl (0, 11, fun _ => 0)) ∧ f' 75 = some (.inl (0, 22, fun _ => 0)) ∧ f' 76 = some (.inl (0, 22, fun _ => 0)) ∧ f' 77 = some (.inl (0, 22, (kfill (-1) 22 (fun _ => 0)))) ∧ f' 78 = some (.inr (.inr (7, ((((kfk 7).map kdef0).set 0 (kr 79)).set 2 (kI (-1)))))) ∧ f' 79 = some (.inr (.inr (9, (((((((kfk 9).map kdef0).set 4 (kr 80)).set 5 (kr 81)).set 6 (kr 82)).set 7 (kr 83)).set 8 (kr 84))))) ∧ f' 80 = some (.inl (0, 22, fun _ => 0)) ∧ f' 81 = some (.inl (0, 11, fun _ => 0)) ∧ f' 82 = some (.inl (0, 22, fun _ => 0)) ∧ f' 83 = some (.inl (0, 22, fun _ => 0)) ∧ f' 84 = some (.inl (0, 22, (kfill (-1) 22 (fun _ => 0)))) := by
  obtain ⟨z1, f1, r1, fr1, zb1, c1_1, c1_2⟩ := ti_Tape_init_1 (sc := sc) (kadd (1, z, f) (kfk 8).length (.inr (.inr (8, (kfk 8).map kdef0)))).2.1 (kadd (1, z, f) (kfk 8).length (.inr (.inr (8, (kfk 8).map kdef0)))).2.2 rfl
  obtain ⟨z2, f2, r2, fr2, zb2, c2_3, c2_4, c2_5, c2_6, c2_7, c2_8, c2_9⟩ := ti_Stand_init_3 (sc := sc) (kadd (kput (3, z1, f1) 0 (.inr (.inr (10, (((kfk 10).map kdef0).set 0 (kr 1)))))) (kfk 7).length (.inr (.inr (7, (kfk 7).map kdef0)))).2.1 (kadd (kput (3, z1, f1) 0 (.inr (.inr (10, (((kfk 10).map kdef0).set 0 (kr 1)))))) (kfk 7).length (.inr (.inr (7, (kfk 7).map kdef0)))).2.2 rfl
  obtain ⟨z3, f3, r3, fr3, zb3, c3_11, c3_12, c3_13, c3_14, c3_15, c3_16⟩ := ti_Town_init_11 (sc := sc) (kadd (kput (kadd (kput (10, z2, f2) 0 (.inr (.inr (10, ((((kfk 10).map kdef0).set 0 (kr 1)).set 1 (kr 3)))))) 4 (.inr (.inl (7, 4, fun _ => none)))) 0 (.inr (.inr (10, (((((kfk 10).map kdef0).set 0 (kr 1)).set 1 (kr 3)).set 2 (kr 10)))))) (kfk 9).length (.inr (.inr (9, (kfk 9).map kdef0)))).2.1 (kadd (kput (kadd (kput (10, z2, f2) 0 (.inr (.inr (10, ((((kfk 10).map kdef0).set 0 (kr 1)).set 1 (kr 3)))))) 4 (.inr (.inl (7, 4, fun _ => none)))) 0 (.inr (.inr (10, (((((kfk 10).map kdef0).set 0 (kr 1)).set 1 (kr 3)).set 2 (kr 10)))))) (kfk 9).length (.inr (.inr (9, (kfk 9).map kdef0)))).2.2 rfl
  obtain ⟨z4, f4, r4, fr4, zb4, c4_17, c4_18, c4_19, c4_20⟩ := ti_Land_init_17 (sc := sc) (kadd (kput (17, z3, f3) 0 (.inr (.inr (10, ((((((kfk 10).map kdef0).set 0 (kr 1)).set 1 (kr 3)).set 2 (kr 10)).set 3 (kr 11)))))) (kfk 3).length (.inr (.inr (3, (kfk 3).map kdef0)))).2.1 (kadd (kput (17, z3, f3) 0 (.inr (.inr (10, ((((((kfk 10).map kdef0).set 0 (kr 1)).set 1 (kr 3)).set 2 (kr 10)).set 3 (kr 11)))))) (kfk 3).length (.inr (.inr (3, (kfk 3).map kdef0)))).2.2 rfl
  obtain ⟨z5, f5, r5, fr5, zb5, c5_21, c5_22, c5_23, c5_24, c5_25, c5_26, c5_27, c5_28, c5_29, c5_30, c5_31, c5_32, c5_33, c5_34, c5_35, c5_36, c5_37, c5_38, c5_39, c5_40, c5_41, c5_42, c5_43⟩ := ti_Search_init_21 (sc := sc) (kadd (kput (21, z4, f4) 0 (.inr (.inr (10, (((((((kfk 10).map kdef0).set 0 (kr 1)).set 1 (kr 3)).set 2 (kr 10)).set 3 (kr 11)).set 4 (kr 17)))))) (kfk 6).length (.inr (.inr (6, (kfk 6).map kdef0)))).2.1 (kadd (kput (21, z4, f4) 0 (.inr (.inr (10, (((((((kfk 10).map kdef0).set 0 (kr 1)).set 1 (kr 3)).set 2 (kr 10)).set 3 (kr 11)).set 4 (kr 17)))))) (kfk 6).length (.inr (.inr (6, (kfk 6).map kdef0)))).2.2 rfl
  obtain ⟨z6, f6, r6, fr6, zb6, c6_44, c6_45, c6_46, c6_47⟩ := ti_Bracket_init_44 (sc := sc) (kadd (kput (44, z5, f5) 0 (.inr (.inr (10, ((((((((kfk 10).map kdef0).set 0 (kr 1)).set 1 (kr 3)).set 2 (kr 10)).set 3 (kr 11)).set 4 (kr 17)).set 5 (kr 21)))))) (kfk 1).length (.inr (.inr (1, (kfk 1).map kdef0)))).2.1 (kadd (kput (44, z5, f5) 0 (.inr (.inr (10, ((((((((kfk 10).map kdef0).set 0 (kr 1)).set 1 (kr 3)).set 2 (kr 10)).set 3 (kr 11)).set 4 (kr 17)).set 5 (kr 21)))))) (kfk 1).length (.inr (.inr (1, (kfk 1).map kdef0)))).2.2 rfl
  obtain ⟨z7, f7, r7, fr7, zb7, c7_48, c7_49, c7_50⟩ := ti_Bows_init_48 (sc := sc) (kadd (kput (48, z6, f6) 0 (.inr (.inr (10, (((((((((kfk 10).map kdef0).set 0 (kr 1)).set 1 (kr 3)).set 2 (kr 10)).set 3 (kr 11)).set 4 (kr 17)).set 5 (kr 21)).set 6 (kr 44)))))) (kfk 0).length (.inr (.inr (0, (kfk 0).map kdef0)))).2.1 (kadd (kput (48, z6, f6) 0 (.inr (.inr (10, (((((((((kfk 10).map kdef0).set 0 (kr 1)).set 1 (kr 3)).set 2 (kr 10)).set 3 (kr 11)).set 4 (kr 17)).set 5 (kr 21)).set 6 (kr 44)))))) (kfk 0).length (.inr (.inr (0, (kfk 0).map kdef0)))).2.2 rfl
  obtain ⟨z8, f8, r8, fr8, zb8, c8_51, c8_52, c8_53⟩ := ti_Gossip_init_51 (sc := sc) (kadd (kput (51, z7, f7) 0 (.inr (.inr (10, ((((((((((kfk 10).map kdef0).set 0 (kr 1)).set 1 (kr 3)).set 2 (kr 10)).set 3 (kr 11)).set 4 (kr 17)).set 5 (kr 21)).set 6 (kr 44)).set 7 (kr 48)))))) (kfk 2).length (.inr (.inr (2, (kfk 2).map kdef0)))).2.1 (kadd (kput (51, z7, f7) 0 (.inr (.inr (10, ((((((((((kfk 10).map kdef0).set 0 (kr 1)).set 1 (kr 3)).set 2 (kr 10)).set 3 (kr 11)).set 4 (kr 17)).set 5 (kr 21)).set 6 (kr 44)).set 7 (kr 48)))))) (kfk 2).length (.inr (.inr (2, (kfk 2).map kdef0)))).2.2 rfl
  obtain ⟨z9, f9, r9, fr9, zb9, c9_54, c9_55⟩ := ti_RuleText_init_54 (sc := sc) (kadd (kput (54, z8, f8) 0 (.inr (.inr (10, (((((((((((kfk 10).map kdef0).set 0 (kr 1)).set 1 (kr 3)).set 2 (kr 10)).set 3 (kr 11)).set 4 (kr 17)).set 5 (kr 21)).set 6 (kr 44)).set 7 (kr 48)).set 8 (kr 51)))))) (kfk 5).length (.inr (.inr (5, (kfk 5).map kdef0)))).2.1 (kadd (kput (54, z8, f8) 0 (.inr (.inr (10, (((((((((((kfk 10).map kdef0).set 0 (kr 1)).set 1 (kr 3)).set 2 (kr 10)).set 3 (kr 11)).set 4 (kr 17)).set 5 (kr 21)).set 6 (kr 44)).set 7 (kr 48)).set 8 (kr 51)))))) (kfk 5).length (.inr (.inr (5, (kfk 5).map kdef0)))).2.2 rfl
  obtain ⟨z10, f10, r10, fr10, zb10, c10_57, c10_58, c10_59, c10_60, c10_61, c10_62, c10_63⟩ := ti_Stand_init_57 (sc := sc) (kadd (kput (kadd (kput (56, z9, f9) 0 (.inr (.inr (10, ((((((((((((kfk 10).map kdef0).set 0 (kr 1)).set 1 (kr 3)).set 2 (kr 10)).set 3 (kr 11)).set 4 (kr 17)).set 5 (kr 21)).set 6 (kr 44)).set 7 (kr 48)).set 8 (kr 51)).set 9 (kr 54)))))) 6 (.inr (.inl (4, 6, fun _ => none)))) 0 (.inr (.inr (10, (((((((((((((kfk 10).map kdef0).set 0 (kr 1)).set 1 (kr 3)).set 2 (kr 10)).set 3 (kr 11)).set 4 (kr 17)).set 5 (kr 21)).set 6 (kr 44)).set 7 (kr 48)).set 8 (kr 51)).set 9 (kr 54)).set 10 (kr 56)))))) (kfk 7).length (.inr (.inr (7, (kfk 7).map kdef0)))).2.1 (kadd (kput (kadd (kput (56, z9, f9) 0 (.inr (.inr (10, ((((((((((((kfk 10).map kdef0).set 0 (kr 1)).set 1 (kr 3)).set 2 (kr 10)).set 3 (kr 11)).set 4 (kr 17)).set 5 (kr 21)).set 6 (kr 44)).set 7 (kr 48)).set 8 (kr 51)).set 9 (kr 54)))))) 6 (.inr (.inl (4, 6, fun _ => none)))) 0 (.inr (.inr (10, (((((((((((((kfk 10).map kdef0).set 0 (kr 1)).set 1 (kr 3)).set 2 (kr 10)).set 3 (kr 11)).set 4 (kr 17)).set 5 (kr 21)).set 6 (kr 44)).set 7 (kr 48)).set 8 (kr 51)).set 9 (kr 54)).set 10 (kr 56)))))) (kfk 7).length (.inr (.inr (7, (kfk 7).map kdef0)))).2.2 rfl
  obtain ⟨z11, f11, r11, fr11, zb11, c11_64, c11_65, c11_66, c11_67, c11_68, c11_69, c11_70⟩ := ti_Stand_init_64 (sc := sc) (kadd (kput (64, z10, f10) 10 (.inr (.inl (7, 4, (kup (fun _ => none) 0 (some 57)))))) (kfk 7).length (.inr (.inr (7, (kfk 7).map kdef0)))).2.1 (kadd (kput (64, z10, f10) 10 (.inr (.inl (7, 4, (kup (fun _ => none) 0 (some 57)))))) (kfk 7).length (.inr (.inr (7, (kfk 7).map kdef0)))).2.2 rfl
  obtain ⟨z12, f12, r12, fr12, zb12, c12_71, c12_72, c12_73, c12_74, c12_75, c12_76, c12_77⟩ := ti_Stand_init_71 (sc := sc) (kadd (kput (71, z11, f11) 10 (.inr (.inl (7, 4, (kup (kup (fun _ => none) 0 (some 57)) 1 (some 64)))))) (kfk 7).length (.inr (.inr (7, (kfk 7).map kdef0)))).2.1 (kadd (kput (71, z11, f11) 10 (.inr (.inl (7, 4, (kup (kup (fun _ => none) 0 (some 57)) 1 (some 64)))))) (kfk 7).length (.inr (.inr (7, (kfk 7).map kdef0)))).2.2 rfl
  obtain ⟨z13, f13, r13, fr13, zb13, c13_78, c13_79, c13_80, c13_81, c13_82, c13_83, c13_84⟩ := ti_Stand_init_78 (sc := sc) (kadd (kput (78, z12, f12) 10 (.inr (.inl (7, 4, (kup (kup (kup (fun _ => none) 0 (some 57)) 1 (some 64)) 2 (some 71)))))) (kfk 7).length (.inr (.inr (7, (kfk 7).map kdef0)))).2.1 (kadd (kput (78, z12, f12) 10 (.inr (.inl (7, 4, (kup (kup (kup (fun _ => none) 0 (some 57)) 1 (some 64)) 2 (some 71)))))) (kfk 7).length (.inr (.inr (7, (kfk 7).map kdef0)))).2.2 rfl
  refine ⟨(kput (85, z13, f13) 10 (.inr (.inl (7, 4, (kup (kup (kup (kup (fun _ => none) 0 (some 57)) 1 (some 64)) 2 (some 71)) 3 (some 78)))))).2.1, (kput (85, z13, f13) 10 (.inr (.inl (7, 4, (kup (kup (kup (kup (fun _ => none) 0 (some 57)) 1 (some 64)) 2 (some 71)) 3 (some 78)))))).2.2, ?_, fun j hj => ?_, ?_, ((fr13 0 (by decide)).trans ((fr12 0 (by decide)).trans ((fr11 0 (by decide)).trans ((fr10 0 (by decide)).trans rfl)))), ((fr13 1 (by decide)).trans ((fr12 1 (by decide)).trans ((fr11 1 (by decide)).trans ((fr10 1 (by decide)).trans ((fr9 1 (by decide)).trans ((fr8 1 (by decide)).trans ((fr7 1 (by decide)).trans ((fr6 1 (by decide)).trans ((fr5 1 (by decide)).trans ((fr4 1 (by decide)).trans ((fr3 1 (by decide)).trans ((fr2 1 (by decide)).trans c1_1)))))))))))), ((fr13 2 (by decide)).trans ((fr12 2 (by decide)).trans ((fr11 2 (by decide)).trans ((fr10 2 (by decide)).trans ((fr9 2 (by decide)).trans ((fr8 2 (by decide)).trans ((fr7 2 (by decide)).trans ((fr6 2 (by decide)).trans ((fr5 2 (by decide)).trans ((fr4 2 (by decide)).trans ((fr3 2 (by decide)).trans ((fr2 2 (by decide)).trans c1_2)))))))))))), ((fr13 3 (by decide)).trans ((fr12 3 (by decide)).trans ((fr11 3 (by decide)).trans ((fr10 3 (by decide)).trans ((fr9 3 (by decide)).trans ((fr8 3 (by decide)).trans ((fr7 3 (by decide)).trans ((fr6 3 (by decide)).trans ((fr5 3 (by decide)).trans ((fr4 3 (by decide)).trans ((fr3 3 (by decide)).trans c2_3))))))))))), ((fr13 4 (by decide)).trans ((fr12 4 (by decide)).trans ((fr11 4 (by decide)).trans ((fr10 4 (by decide)).trans ((fr9 4 (by decide)).trans ((fr8 4 (by decide)).trans ((fr7 4 (by decide)).trans ((fr6 4 (by decide)).trans ((fr5 4 (by decide)).trans ((fr4 4 (by decide)).trans ((fr3 4 (by decide)).trans c2_4))))))))))), ((fr13 5 (by decide)).trans ((fr12 5 (by decide)).trans ((fr11 5 (by decide)).trans ((fr10 5 (by decide)).trans ((fr9 5 (by decide)).trans ((fr8 5 (by decide)).trans ((fr7 5 (by decide)).trans ((fr6 5 (by decide)).trans ((fr5 5 (by decide)).trans ((fr4 5 (by decide)).trans ((fr3 5 (by decide)).trans c2_5))))))))))), ((fr13 6 (by decide)).trans ((fr12 6 (by decide)).trans ((fr11 6 (by decide)).trans ((fr10 6 (by decide)).trans ((fr9 6 (by decide)).trans ((fr8 6 (by decide)).trans ((fr7 6 (by decide)).trans ((fr6 6 (by decide)).trans ((fr5 6 (by decide)).trans ((fr4 6 (by decide)).trans ((fr3 6 (by decide)).trans c2_6))))))))))), ((fr13 7 (by decide)).trans ((fr12 7 (by decide)).trans ((fr11 7 (by decide)).trans ((fr10 7 (by decide)).trans ((fr9 7 (by decide)).trans ((fr8 7 (by decide)).trans ((fr7 7 (by decide)).trans ((fr6 7 (by decide)).trans ((fr5 7 (by decide)).trans ((fr4 7 (by decide)).trans ((fr3 7 (by decide)).trans c2_7))))))))))), ((fr13 8 (by decide)).trans ((fr12 8 (by decide)).trans ((fr11 8 (by decide)).trans ((fr10 8 (by decide)).trans ((fr9 8 (by decide)).trans ((fr8 8 (by decide)).trans ((fr7 8 (by decide)).trans ((fr6 8 (by decide)).trans ((fr5 8 (by decide)).trans ((fr4 8 (by decide)).trans ((fr3 8 (by decide)).trans c2_8))))))))))), ((fr13 9 (by decide)).trans ((fr12 9 (by decide)).trans ((fr11 9 (by decide)).trans ((fr10 9 (by decide)).trans ((fr9 9 (by decide)).trans ((fr8 9 (by decide)).trans ((fr7 9 (by decide)).trans ((fr6 9 (by decide)).trans ((fr5 9 (by decide)).trans ((fr4 9 (by decide)).trans ((fr3 9 (by decide)).trans c2_9))))))))))), rfl, ((fr13 11 (by decide)).trans ((fr12 11 (by decide)).trans ((fr11 11 (by decide)).trans ((fr10 11 (by decide)).trans ((fr9 11 (by decide)).trans ((fr8 11 (by decide)).trans ((fr7 11 (by decide)).trans ((fr6 11 (by decide)).trans ((fr5 11 (by decide)).trans ((fr4 11 (by decide)).trans c3_11)))))))))), ((fr13 12 (by decide)).trans ((fr12 12 (by decide)).trans ((fr11 12 (by decide)).trans ((fr10 12 (by decide)).trans ((fr9 12 (by decide)).trans ((fr8 12 (by decide)).trans ((fr7 12 (by decide)).trans ((fr6 12 (by decide)).trans ((fr5 12 (by decide)).trans ((fr4 12 (by decide)).trans c3_12)))))))))), ((fr13 13 (by decide)).trans ((fr12 13 (by decide)).trans ((fr11 13 (by decide)).trans ((fr10 13 (by decide)).trans ((fr9 13 (by decide)).trans ((fr8 13 (by decide)).trans ((fr7 13 (by decide)).trans ((fr6 13 (by decide)).trans ((fr5 13 (by decide)).trans ((fr4 13 (by decide)).trans c3_13)))))))))), ((fr13 14 (by decide)).trans ((fr12 14 (by decide)).trans ((fr11 14 (by decide)).trans ((fr10 14 (by decide)).trans ((fr9 14 (by decide)).trans ((fr8 14 (by decide)).trans ((fr7 14 (by decide)).trans ((fr6 14 (by decide)).trans ((fr5 14 (by decide)).trans ((fr4 14 (by decide)).trans c3_14)))))))))), ((fr13 15 (by decide)).trans ((fr12 15 (by decide)).trans ((fr11 15 (by decide)).trans ((fr10 15 (by decide)).trans ((fr9 15 (by decide)).trans ((fr8 15 (by decide)).trans ((fr7 15 (by decide)).trans ((fr6 15 (by decide)).trans ((fr5 15 (by decide)).trans ((fr4 15 (by decide)).trans c3_15)))))))))), ((fr13 16 (by decide)).trans ((fr12 16 (by decide)).trans ((fr11 16 (by decide)).trans ((fr10 16 (by decide)).trans ((fr9 16 (by decide)).trans ((fr8 16 (by decide)).trans ((fr7 16 (by decide)).trans ((fr6 16 (by decide)).trans ((fr5 16 (by decide)).trans ((fr4 16 (by decide)).trans c3_16)))))))))), ((fr13 17 (by decide)).trans ((fr12 17 (by decide)).trans ((fr11 17 (by decide)).trans ((fr10 17 (by decide)).trans ((fr9 17 (by decide)).trans ((fr8 17 (by decide)).trans ((fr7 17 (by decide)).trans ((fr6 17 (by decide)).trans ((fr5 17 (by decide)).trans c4_17))))))))), ((fr13 18 (by decide)).trans ((fr12 18 (by decide)).trans ((fr11 18 (by decide)).trans ((fr10 18 (by decide)).trans ((fr9 18 (by decide)).trans ((fr8 18 (by decide)).trans ((fr7 18 (by decide)).trans ((fr6 18 (by decide)).trans ((fr5 18 (by decide)).trans c4_18))))))))), ((fr13 19 (by decide)).trans ((fr12 19 (by decide)).trans ((fr11 19 (by decide)).trans ((fr10 19 (by decide)).trans ((fr9 19 (by decide)).trans ((fr8 19 (by decide)).trans ((fr7 19 (by decide)).trans ((fr6 19 (by decide)).trans ((fr5 19 (by decide)).trans c4_19))))))))), ((fr13 20 (by decide)).trans ((fr12 20 (by decide)).trans ((fr11 20 (by decide)).trans ((fr10 20 (by decide)).trans ((fr9 20 (by decide)).trans ((fr8 20 (by decide)).trans ((fr7 20 (by decide)).trans ((fr6 20 (by decide)).trans ((fr5 20 (by decide)).trans c4_20))))))))), ((fr13 21 (by decide)).trans ((fr12 21 (by decide)).trans ((fr11 21 (by decide)).trans ((fr10 21 (by decide)).trans ((fr9 21 (by decide)).trans ((fr8 21 (by decide)).trans ((fr7 21 (by decide)).trans ((fr6 21 (by decide)).trans c5_21)))))))), ((fr13 22 (by decide)).trans ((fr12 22 (by decide)).trans ((fr11 22 (by decide)).trans ((fr10 22 (by decide)).trans ((fr9 22 (by decide)).trans ((fr8 22 (by decide)).trans ((fr7 22 (by decide)).trans ((fr6 22 (by decide)).trans c5_22)))))))), ((fr13 23 (by decide)).trans ((fr12 23 (by decide)).trans ((fr11 23 (by decide)).trans ((fr10 23 (by decide)).trans ((fr9 23 (by decide)).trans ((fr8 23 (by decide)).trans ((fr7 23 (by decide)).trans ((fr6 23 (by decide)).trans c5_23)))))))), ((fr13 24 (by decide)).trans ((fr12 24 (by decide)).trans ((fr11 24 (by decide)).trans ((fr10 24 (by decide)).trans ((fr9 24 (by decide)).trans ((fr8 24 (by decide)).trans ((fr7 24 (by decide)).trans ((fr6 24 (by decide)).trans c5_24)))))))), ((fr13 25 (by decide)).trans ((fr12 25 (by decide)).trans ((fr11 25 (by decide)).trans ((fr10 25 (by decide)).trans ((fr9 25 (by decide)).trans ((fr8 25 (by decide)).trans ((fr7 25 (by decide)).trans ((fr6 25 (by decide)).trans c5_25)))))))), ((fr13 26 (by decide)).trans ((fr12 26 (by decide)).trans ((fr11 26 (by decide)).trans ((fr10 26 (by decide)).trans ((fr9 26 (by decide)).trans ((fr8 26 (by decide)).trans ((fr7 26 (by decide)).trans ((fr6 26 (by decide)).trans c5_26)))))))), ((fr13 27 (by decide)).trans ((fr12 27 (by decide)).trans ((fr11 27 (by decide)).trans ((fr10 27 (by decide)).trans ((fr9 27 (by decide)).trans ((fr8 27 (by decide)).trans ((fr7 27 (by decide)).trans ((fr6 27 (by decide)).trans c5_27)))))))), ((fr13 28 (by decide)).trans ((fr12 28 (by decide)).trans ((fr11 28 (by decide)).trans ((fr10 28 (by decide)).trans ((fr9 28 (by decide)).trans ((fr8 28 (by decide)).trans ((fr7 28 (by decide)).trans ((fr6 28 (by decide)).trans c5_28)))))))), ((fr13 29 (by decide)).trans ((fr12 29 (by decide)).trans ((fr11 29 (by decide)).trans ((fr10 29 (by decide)).trans ((fr9 29 (by decide)).trans ((fr8 29 (by decide)).trans ((fr7 29 (by decide)).trans ((fr6 29 (by decide)).trans c5_29)))))))), ((fr13 30 (by decide)).trans ((fr12 30 (by decide)).trans ((fr11 30 (by decide)).trans ((fr10 30 (by decide)).trans ((fr9 30 (by decide)).trans ((fr8 30 (by decide)).trans ((fr7 30 (by decide)).trans ((fr6 30 (by decide)).trans c5_30)))))))), ((fr13 31 (by decide)).trans ((fr12 31 (by decide)).trans ((fr11 31 (by decide)).trans ((fr10 31 (by decide)).trans ((fr9 31 (by decide)).trans ((fr8 31 (by decide)).trans ((fr7 31 (by decide)).trans ((fr6 31 (by decide)).trans c5_31)))))))), ((fr13 32 (by decide)).trans ((fr12 32 (by decide)).trans ((fr11 32 (by decide)).trans ((fr10 32 (by decide)).trans ((fr9 32 (by decide)).trans ((fr8 32 (by decide)).trans ((fr7 32 (by decide)).trans ((fr6 32 (by decide)).trans c5_32)))))))), ((fr13 33 (by decide)).trans ((fr12 33 (by decide)).trans ((fr11 33 (by decide)).trans ((fr10 33 (by decide)).trans ((fr9 33 (by decide)).trans ((fr8 33 (by decide)).trans ((fr7 33 (by decide)).trans ((fr6 33 (by decide)).trans c5_33)))))))), ((fr13 34 (by decide)).trans ((fr12 34 (by decide)).trans ((fr11 34 (by decide)).trans ((fr10 34 (by decide)).trans ((fr9 34 (by decide)).trans ((fr8 34 (by decide)).trans ((fr7 34 (by decide)).trans ((fr6 34 (by decide)).trans c5_34)))))))), ((fr13 35 (by decide)).trans ((fr12 35 (by decide)).trans ((fr11 35 (by decide)).trans ((fr10 35 (by decide)).trans ((fr9 35 (by decide)).trans ((fr8 35 (by decide)).trans ((fr7 35 (by decide)).trans ((fr6 35 (by decide)).trans c5_35)))))))), ((fr13 36 (by decide)).trans ((fr12 36 (by decide)).trans ((fr11 36 (by decide)).trans ((fr10 36 (by decide)).trans ((fr9 36 (by decide)).trans ((fr8 36 (by decide)).trans ((fr7 36 (by decide)).trans ((fr6 36 (by decide)).trans c5_36)))))))), ((fr13 37 (by decide)).trans ((fr12 37 (by decide)).trans ((fr11 37 (by decide)).trans ((fr10 37 (by decide)).trans ((fr9 37 (by decide)).trans ((fr8 37 (by decide)).trans ((fr7 37 (by decide)).trans ((fr6 37 (by decide)).trans c5_37)))))))), ((fr13 38 (by decide)).trans ((fr12 38 (by decide)).trans ((fr11 38 (by decide)).trans ((fr10 38 (by decide)).trans ((fr9 38 (by decide)).trans ((fr8 38 (by decide)).trans ((fr7 38 (by decide)).trans ((fr6 38 (by decide)).trans c5_38)))))))), ((fr13 39 (by decide)).trans ((fr12 39 (by decide)).trans ((fr11 39 (by decide)).trans ((fr10 39 (by decide)).trans ((fr9 39 (by decide)).trans ((fr8 39 (by decide)).trans ((fr7 39 (by decide)).trans ((fr6 39 (by decide)).trans c5_39)))))))), ((fr13 40 (by decide)).trans ((fr12 40 (by decide)).trans ((fr11 40 (by decide)).trans ((fr10 40 (by decide)).trans ((fr9 40 (by decide)).trans ((fr8 40 (by decide)).trans ((fr7 40 (by decide)).trans ((fr6 40 (by decide)).trans c5_40)))))))), ((fr13 41 (by decide)).trans ((fr12 41 (by decide)).trans ((fr11 41 (by decide)).trans ((fr10 41 (by decide)).trans ((fr9 41 (by decide)).trans ((fr8 41 (by decide)).trans ((fr7 41 (by decide)).trans ((fr6 41 (by decide)).trans c5_41)))))))), ((fr13 42 (by decide)).trans ((fr12 42 (by decide)).trans ((fr11 42 (by decide)).trans ((fr10 42 (by decide)).trans ((fr9 42 (by decide)).trans ((fr8 42 (by decide)).trans ((fr7 42 (by decide)).trans ((fr6 42 (by decide)).trans c5_42)))))))), ((fr13 43 (by decide)).trans ((fr12 43 (by decide)).trans ((fr11 43 (by decide)).trans ((fr10 43 (by decide)).trans ((fr9 43 (by decide)).trans ((fr8 43 (by decide)).trans ((fr7 43 (by decide)).trans ((fr6 43 (by decide)).trans c5_43)))))))), ((fr13 44 (by decide)).trans ((fr12 44 (by decide)).trans ((fr11 44 (by decide)).trans ((fr10 44 (by decide)).trans ((fr9 44 (by decide)).trans ((fr8 44 (by decide)).trans ((fr7 44 (by decide)).trans c6_44))))))), ((fr13 45 (by decide)).trans ((fr12 45 (by decide)).trans ((fr11 45 (by decide)).trans ((fr10 45 (by decide)).trans ((fr9 45 (by decide)).trans ((fr8 45 (by decide)).trans ((fr7 45 (by decide)).trans c6_45))))))), ((fr13 46 (by decide)).trans ((fr12 46 (by decide)).trans ((fr11 46 (by decide)).trans ((fr10 46 (by decide)).trans ((fr9 46 (by decide)).trans ((fr8 46 (by decide)).trans ((fr7 46 (by decide)).trans c6_46))))))), ((fr13 47 (by decide)).trans ((fr12 47 (by decide)).trans ((fr11 47 (by decide)).trans ((fr10 47 (by decide)).trans ((fr9 47 (by decide)).trans ((fr8 47 (by decide)).trans ((fr7 47 (by decide)).trans c6_47))))))), ((fr13 48 (by decide)).trans ((fr12 48 (by decide)).trans ((fr11 48 (by decide)).trans ((fr10 48 (by decide)).trans ((fr9 48 (by decide)).trans ((fr8 48 (by decide)).trans c7_48)))))), ((fr13 49 (by decide)).trans ((fr12 49 (by decide)).trans ((fr11 49 (by decide)).trans ((fr10 49 (by decide)).trans ((fr9 49 (by decide)).trans ((fr8 49 (by decide)).trans c7_49)))))), ((fr13 50 (by decide)).trans ((fr12 50 (by decide)).trans ((fr11 50 (by decide)).trans ((fr10 50 (by decide)).trans ((fr9 50 (by decide)).trans ((fr8 50 (by decide)).trans c7_50)))))), ((fr13 51 (by decide)).trans ((fr12 51 (by decide)).trans ((fr11 51 (by decide)).trans ((fr10 51 (by decide)).trans ((fr9 51 (by decide)).trans c8_51))))), ((fr13 52 (by decide)).trans ((fr12 52 (by decide)).trans ((fr11 52 (by decide)).trans ((fr10 52 (by decide)).trans ((fr9 52 (by decide)).trans c8_52))))), ((fr13 53 (by decide)).trans ((fr12 53 (by decide)).trans ((fr11 53 (by decide)).trans ((fr10 53 (by decide)).trans ((fr9 53 (by decide)).trans c8_53))))), ((fr13 54 (by decide)).trans ((fr12 54 (by decide)).trans ((fr11 54 (by decide)).trans ((fr10 54 (by decide)).trans c9_54)))), ((fr13 55 (by decide)).trans ((fr12 55 (by decide)).trans ((fr11 55 (by decide)).trans ((fr10 55 (by decide)).trans c9_55)))), ((fr13 56 (by decide)).trans ((fr12 56 (by decide)).trans ((fr11 56 (by decide)).trans ((fr10 56 (by decide)).trans rfl)))), ((fr13 57 (by decide)).trans ((fr12 57 (by decide)).trans ((fr11 57 (by decide)).trans c10_57))), ((fr13 58 (by decide)).trans ((fr12 58 (by decide)).trans ((fr11 58 (by decide)).trans c10_58))), ((fr13 59 (by decide)).trans ((fr12 59 (by decide)).trans ((fr11 59 (by decide)).trans c10_59))), ((fr13 60 (by decide)).trans ((fr12 60 (by decide)).trans ((fr11 60 (by decide)).trans c10_60))), ((fr13 61 (by decide)).trans ((fr12 61 (by decide)).trans ((fr11 61 (by decide)).trans c10_61))), ((fr13 62 (by decide)).trans ((fr12 62 (by decide)).trans ((fr11 62 (by decide)).trans c10_62))), ((fr13 63 (by decide)).trans ((fr12 63 (by decide)).trans ((fr11 63 (by decide)).trans c10_63))), ((fr13 64 (by decide)).trans ((fr12 64 (by decide)).trans c11_64)), ((fr13 65 (by decide)).trans ((fr12 65 (by decide)).trans c11_65)), ((fr13 66 (by decide)).trans ((fr12 66 (by decide)).trans c11_66)), ((fr13 67 (by decide)).trans ((fr12 67 (by decide)).trans c11_67)), ((fr13 68 (by decide)).trans ((fr12 68 (by decide)).trans c11_68)), ((fr13 69 (by decide)).trans ((fr12 69 (by decide)).trans c11_69)), ((fr13 70 (by decide)).trans ((fr12 70 (by decide)).trans c11_70)), ((fr13 71 (by decide)).trans c12_71), ((fr13 72 (by decide)).trans c12_72), ((fr13 73 (by decide)).trans c12_73), ((fr13 74 (by decide)).trans c12_74), ((fr13 75 (by decide)).trans c12_75), ((fr13 76 (by decide)).trans c12_76), ((fr13 77 (by decide)).trans c12_77), c13_78, c13_79, c13_80, c13_81, c13_82, c13_83, c13_84⟩
  · refine kR.start rfl ?_
    show kW sc 3 kc_KT_init 0 0 [some (kr 0), none] [] (1, z, f) _
    refine kw_step rfl rfl rfl rfl ?_
    refine kw_step rfl rfl rfl rfl ?_
    refine kw_step rfl rfl rfl rfl ?_
    refine kw_step rfl rfl rfl rfl ?_
    refine kw_step rfl rfl rfl rfl ?_
    refine kw_callI (vs := []) rfl rfl rfl ⟨rfl, Nat.le_of_ble_eq_true rfl, Nat.le_of_ble_eq_true rfl, by decide, rfl⟩ rfl r1 (by decide) ?_
    refine kw_put (fs := ((kfk 10).map kdef0)) rfl ((fr1 0 (by decide)).trans hf) (Nat.le_of_ble_eq_true rfl) rfl ?_
    refine kw_step rfl rfl rfl rfl ?_
    refine kw_step rfl rfl rfl rfl ?_
    refine kw_step rfl rfl rfl rfl ?_
    refine kw_callI (vs := []) rfl rfl rfl ⟨rfl, Nat.le_of_ble_eq_true rfl, Nat.le_of_ble_eq_true rfl, by decide, rfl⟩ rfl r2 (by decide) ?_
    refine kw_put (fs := (((kfk 10).map kdef0).set 0 (kr 1))) rfl ((fr2 0 (by decide)).trans rfl) (Nat.le_of_ble_eq_true rfl) rfl ?_
    refine kw_step rfl rfl rfl rfl ?_
    refine kw_step rfl rfl rfl rfl ?_
    refine kw_step rfl rfl rfl rfl ?_
    refine kw_put (fs := ((((kfk 10).map kdef0).set 0 (kr 1)).set 1 (kr 3))) rfl rfl (Nat.le_of_ble_eq_true rfl) rfl ?_
    refine kw_step rfl rfl rfl rfl ?_
    refine kw_step rfl rfl rfl rfl ?_
    refine kw_step rfl rfl rfl rfl ?_
    refine kw_callI (vs := []) rfl rfl rfl ⟨rfl, Nat.le_of_ble_eq_true rfl, Nat.le_of_ble_eq_true rfl, by decide, rfl⟩ rfl r3 (by decide) ?_
    refine kw_put (fs := (((((kfk 10).map kdef0).set 0 (kr 1)).set 1 (kr 3)).set 2 (kr 10))) rfl ((fr3 0 (by decide)).trans rfl) (Nat.le_of_ble_eq_true rfl) rfl ?_
    refine kw_step rfl rfl rfl rfl ?_
    refine kw_step rfl rfl rfl rfl ?_
    refine kw_step rfl rfl rfl rfl ?_
    refine kw_callI (vs := []) rfl rfl rfl ⟨rfl, Nat.le_of_ble_eq_true rfl, Nat.le_of_ble_eq_true rfl, by decide, rfl⟩ rfl r4 (by decide) ?_
    refine kw_put (fs := ((((((kfk 10).map kdef0).set 0 (kr 1)).set 1 (kr 3)).set 2 (kr 10)).set 3 (kr 11))) rfl ((fr4 0 (by decide)).trans rfl) (Nat.le_of_ble_eq_true rfl) rfl ?_
    refine kw_step rfl rfl rfl rfl ?_
    refine kw_step rfl rfl rfl rfl ?_
    refine kw_step rfl rfl rfl rfl ?_
    refine kw_callI (vs := []) rfl rfl rfl ⟨rfl, Nat.le_of_ble_eq_true rfl, Nat.le_of_ble_eq_true rfl, by decide, rfl⟩ rfl r5 (by decide) ?_
    refine kw_put (fs := (((((((kfk 10).map kdef0).set 0 (kr 1)).set 1 (kr 3)).set 2 (kr 10)).set 3 (kr 11)).set 4 (kr 17))) rfl ((fr5 0 (by decide)).trans rfl) (Nat.le_of_ble_eq_true rfl) rfl ?_
    refine kw_step rfl rfl rfl rfl ?_
    refine kw_step rfl rfl rfl rfl ?_
    refine kw_step rfl rfl rfl rfl ?_
    refine kw_callI (vs := []) rfl rfl rfl ⟨rfl, Nat.le_of_ble_eq_true rfl, Nat.le_of_ble_eq_true rfl, by decide, rfl⟩ rfl r6 (by decide) ?_
    refine kw_put (fs := ((((((((kfk 10).map kdef0).set 0 (kr 1)).set 1 (kr 3)).set 2 (kr 10)).set 3 (kr 11)).set 4 (kr 17)).set 5 (kr 21))) rfl ((fr6 0 (by decide)).trans rfl) (Nat.le_of_ble_eq_true rfl) rfl ?_
    refine kw_step rfl rfl rfl rfl ?_
    refine kw_step rfl rfl rfl rfl ?_
    refine kw_step rfl rfl rfl rfl ?_
    refine kw_callI (vs := []) rfl rfl rfl ⟨rfl, Nat.le_of_ble_eq_true rfl, Nat.le_of_ble_eq_true rfl, by decide, rfl⟩ rfl r7 (by decide) ?_
    refine kw_put (fs := (((((((((kfk 10).map kdef0).set 0 (kr 1)).set 1 (kr 3)).set 2 (kr 10)).set 3 (kr 11)).set 4 (kr 17)).set 5 (kr 21)).set 6 (kr 44))) rfl ((fr7 0 (by decide)).trans rfl) (Nat.le_of_ble_eq_true rfl) rfl ?_
    refine kw_step rfl rfl rfl rfl ?_
    refine kw_step rfl rfl rfl rfl ?_
    refine kw_step rfl rfl rfl rfl ?_
    refine kw_callI (vs := []) rfl rfl rfl ⟨rfl, Nat.le_of_ble_eq_true rfl, Nat.le_of_ble_eq_true rfl, by decide, rfl⟩ rfl r8 (by decide) ?_
    refine kw_put (fs := ((((((((((kfk 10).map kdef0).set 0 (kr 1)).set 1 (kr 3)).set 2 (kr 10)).set 3 (kr 11)).set 4 (kr 17)).set 5 (kr 21)).set 6 (kr 44)).set 7 (kr 48))) rfl ((fr8 0 (by decide)).trans rfl) (Nat.le_of_ble_eq_true rfl) rfl ?_
    refine kw_step rfl rfl rfl rfl ?_
    refine kw_step rfl rfl rfl rfl ?_
    refine kw_step rfl rfl rfl rfl ?_
    refine kw_callI (vs := []) rfl rfl rfl ⟨rfl, Nat.le_of_ble_eq_true rfl, Nat.le_of_ble_eq_true rfl, by decide, rfl⟩ rfl r9 (by decide) ?_
    refine kw_put (fs := (((((((((((kfk 10).map kdef0).set 0 (kr 1)).set 1 (kr 3)).set 2 (kr 10)).set 3 (kr 11)).set 4 (kr 17)).set 5 (kr 21)).set 6 (kr 44)).set 7 (kr 48)).set 8 (kr 51))) rfl ((fr9 0 (by decide)).trans rfl) (Nat.le_of_ble_eq_true rfl) rfl ?_
    refine kw_step rfl rfl rfl rfl ?_
    refine kw_step rfl rfl rfl rfl ?_
    refine kw_step rfl rfl rfl rfl ?_
    refine kw_put (fs := ((((((((((((kfk 10).map kdef0).set 0 (kr 1)).set 1 (kr 3)).set 2 (kr 10)).set 3 (kr 11)).set 4 (kr 17)).set 5 (kr 21)).set 6 (kr 44)).set 7 (kr 48)).set 8 (kr 51)).set 9 (kr 54))) rfl rfl (Nat.le_of_ble_eq_true rfl) rfl ?_
    refine kw_step rfl rfl rfl rfl ?_
    refine kw_step rfl rfl rfl rfl ?_
    refine kw_step rfl rfl rfl rfl ?_
    refine kw_step rfl rfl rfl rfl ?_
    refine kw_icmp_ge rfl rfl (fun q => absurd q (by decide)) (fun _ => ?_)
    refine kw_step rfl rfl rfl rfl ?_
    refine kw_get (fs := (((((((((((((kfk 10).map kdef0).set 0 (kr 1)).set 1 (kr 3)).set 2 (kr 10)).set 3 (kr 11)).set 4 (kr 17)).set 5 (kr 21)).set 6 (kr 44)).set 7 (kr 48)).set 8 (kr 51)).set 9 (kr 54)).set 10 (kr 56))) rfl rfl rfl ?_
    refine kw_step rfl rfl rfl rfl ?_
    refine kw_step rfl rfl rfl rfl ?_
    refine kw_step rfl rfl rfl rfl ?_
    refine kw_callI (vs := []) rfl rfl rfl ⟨rfl, Nat.le_of_ble_eq_true rfl, Nat.le_of_ble_eq_true rfl, by decide, rfl⟩ rfl r10 (by decide) ?_
    refine kw_aast (ci := 7) (f := (fun _ => none)) rfl ((fr10 10 (by decide)).trans ((fr9 10 (by decide)).trans ((fr8 10 (by decide)).trans ((fr7 10 (by decide)).trans ((fr6 10 (by decide)).trans ((fr5 10 (by decide)).trans ((fr4 10 (by decide)).trans ((fr3 10 (by decide)).trans rfl)))))))) c10_57 (by decide) (by decide) (j := 0) rfl (by decide) ?_
    refine kw_step rfl rfl rfl rfl ?_
    rw [wI_id (by decide) (by decide)]
    refine kw_goto rfl rfl ?_
    refine kw_step rfl rfl rfl rfl ?_
    refine kw_step rfl rfl rfl rfl ?_
    refine kw_icmp_ge rfl rfl (fun q => absurd q (by decide)) (fun _ => ?_)
    refine kw_step rfl rfl rfl rfl ?_
    refine kw_get (fs := (((((((((((((kfk 10).map kdef0).set 0 (kr 1)).set 1 (kr 3)).set 2 (kr 10)).set 3 (kr 11)).set 4 (kr 17)).set 5 (kr 21)).set 6 (kr 44)).set 7 (kr 48)).set 8 (kr 51)).set 9 (kr 54)).set 10 (kr 56))) rfl ((fr10 0 (by decide)).trans rfl) rfl ?_
    refine kw_step rfl rfl rfl rfl ?_
    refine kw_step rfl rfl rfl rfl ?_
    refine kw_step rfl rfl rfl rfl ?_
    refine kw_callI (vs := []) rfl rfl rfl ⟨rfl, Nat.le_of_ble_eq_true rfl, Nat.le_of_ble_eq_true rfl, by decide, rfl⟩ rfl r11 (by decide) ?_
    refine kw_aast (ci := 7) (f := (kup (fun _ => none) 0 (some 57))) rfl ((fr11 10 (by decide)).trans rfl) c11_64 (by decide) (by decide) (j := 1) rfl (by decide) ?_
    refine kw_step rfl rfl rfl rfl ?_
    rw [wI_id (by decide) (by decide)]
    refine kw_goto rfl rfl ?_
    refine kw_step rfl rfl rfl rfl ?_
    refine kw_step rfl rfl rfl rfl ?_
    refine kw_icmp_ge rfl rfl (fun q => absurd q (by decide)) (fun _ => ?_)
    refine kw_step rfl rfl rfl rfl ?_
    refine kw_get (fs := (((((((((((((kfk 10).map kdef0).set 0 (kr 1)).set 1 (kr 3)).set 2 (kr 10)).set 3 (kr 11)).set 4 (kr 17)).set 5 (kr 21)).set 6 (kr 44)).set 7 (kr 48)).set 8 (kr 51)).set 9 (kr 54)).set 10 (kr 56))) rfl ((fr11 0 (by decide)).trans ((fr10 0 (by decide)).trans rfl)) rfl ?_
    refine kw_step rfl rfl rfl rfl ?_
    refine kw_step rfl rfl rfl rfl ?_
    refine kw_step rfl rfl rfl rfl ?_
    refine kw_callI (vs := []) rfl rfl rfl ⟨rfl, Nat.le_of_ble_eq_true rfl, Nat.le_of_ble_eq_true rfl, by decide, rfl⟩ rfl r12 (by decide) ?_
    refine kw_aast (ci := 7) (f := (kup (kup (fun _ => none) 0 (some 57)) 1 (some 64))) rfl ((fr12 10 (by decide)).trans rfl) c12_71 (by decide) (by decide) (j := 2) rfl (by decide) ?_
    refine kw_step rfl rfl rfl rfl ?_
    rw [wI_id (by decide) (by decide)]
    refine kw_goto rfl rfl ?_
    refine kw_step rfl rfl rfl rfl ?_
    refine kw_step rfl rfl rfl rfl ?_
    refine kw_icmp_ge rfl rfl (fun q => absurd q (by decide)) (fun _ => ?_)
    refine kw_step rfl rfl rfl rfl ?_
    refine kw_get (fs := (((((((((((((kfk 10).map kdef0).set 0 (kr 1)).set 1 (kr 3)).set 2 (kr 10)).set 3 (kr 11)).set 4 (kr 17)).set 5 (kr 21)).set 6 (kr 44)).set 7 (kr 48)).set 8 (kr 51)).set 9 (kr 54)).set 10 (kr 56))) rfl ((fr12 0 (by decide)).trans ((fr11 0 (by decide)).trans ((fr10 0 (by decide)).trans rfl))) rfl ?_
    refine kw_step rfl rfl rfl rfl ?_
    refine kw_step rfl rfl rfl rfl ?_
    refine kw_step rfl rfl rfl rfl ?_
    refine kw_callI (vs := []) rfl rfl rfl ⟨rfl, Nat.le_of_ble_eq_true rfl, Nat.le_of_ble_eq_true rfl, by decide, rfl⟩ rfl r13 (by decide) ?_
    refine kw_aast (ci := 7) (f := (kup (kup (kup (fun _ => none) 0 (some 57)) 1 (some 64)) 2 (some 71))) rfl ((fr13 10 (by decide)).trans rfl) c13_78 (by decide) (by decide) (j := 3) rfl (by decide) ?_
    refine kw_step rfl rfl rfl rfl ?_
    rw [wI_id (by decide) (by decide)]
    refine kw_goto rfl rfl ?_
    refine kw_step rfl rfl rfl rfl ?_
    refine kw_step rfl rfl rfl rfl ?_
    refine kw_icmp_ge rfl rfl (fun _ => ?_) (fun q => absurd (by decide) q)
    exact kw_ret rfl rfl rfl ⟨rfl, rfl⟩
  · exact ((kput_n _ _ (by omega)).trans ((fr13 j (by omega)).trans ((kadd_n (m := 78) rfl (by omega)).trans ((kput_n _ _ (by omega)).trans ((fr12 j (by omega)).trans ((kadd_n (m := 71) rfl (by omega)).trans ((kput_n _ _ (by omega)).trans ((fr11 j (by omega)).trans ((kadd_n (m := 64) rfl (by omega)).trans ((kput_n _ _ (by omega)).trans ((fr10 j (by omega)).trans ((kadd_n (m := 57) rfl (by omega)).trans ((kput_n _ _ (by omega)).trans ((kadd_n (m := 56) rfl (by omega)).trans ((kput_n _ _ (by omega)).trans ((fr9 j (by omega)).trans ((kadd_n (m := 54) rfl (by omega)).trans ((kput_n _ _ (by omega)).trans ((fr8 j (by omega)).trans ((kadd_n (m := 51) rfl (by omega)).trans ((kput_n _ _ (by omega)).trans ((fr7 j (by omega)).trans ((kadd_n (m := 48) rfl (by omega)).trans ((kput_n _ _ (by omega)).trans ((fr6 j (by omega)).trans ((kadd_n (m := 44) rfl (by omega)).trans ((kput_n _ _ (by omega)).trans ((fr5 j (by omega)).trans ((kadd_n (m := 21) rfl (by omega)).trans ((kput_n _ _ (by omega)).trans ((fr4 j (by omega)).trans ((kadd_n (m := 17) rfl (by omega)).trans ((kput_n _ _ (by omega)).trans ((fr3 j (by omega)).trans ((kadd_n (m := 11) rfl (by omega)).trans ((kput_n _ _ (by omega)).trans ((kadd_n (m := 10) rfl (by omega)).trans ((kput_n _ _ (by omega)).trans ((fr2 j (by omega)).trans ((kadd_n (m := 3) rfl (by omega)).trans ((kput_n _ _ (by omega)).trans ((fr1 j (by omega)).trans ((kadd_n (m := 1) rfl (by omega)).trans rfl)))))))))))))))))))))))))))))))))))))))))))
  · have l0 : (kfk 0).length ≤ 60 := by decide
    have l1 : (kfk 1).length ≤ 60 := by decide
    have l2 : (kfk 2).length ≤ 60 := by decide
    have l3 : (kfk 3).length ≤ 60 := by decide
    have l4 : (kfk 4).length ≤ 60 := by decide
    have l5 : (kfk 5).length ≤ 60 := by decide
    have l6 : (kfk 6).length ≤ 60 := by decide
    have l7 : (kfk 7).length ≤ 60 := by decide
    have l8 : (kfk 8).length ≤ 60 := by decide
    have l9 : (kfk 9).length ≤ 60 := by decide
    have l10 : (kfk 10).length ≤ 60 := by decide
    have l11 : (kfk 11).length ≤ 60 := by decide
    simp only [kput, kadd] at *
    omega
theorem kimg : (kup (kup (kup (kup (fun _ => none) 0 (some 57)) 1 (some 64)) 2 (some 71)) 3 (some 78) : Nat → Option Nat) = fun j => if j = 0 then some 57 else if j = 1 then some 64 else if j = 2 then some 71 else if j = 3 then some 78 else none := by
  funext j
  simp only [kup]
  (repeat' split) <;> first | rfl | omega
theorem kmB_init {g : kH} {F : Nat → Int} (c : g.2.2 86 = some (.inl (0, 6, F))) (h1 : F 1 = 0) (h2 : F 2 = 0) : mB g := by
  have e : ar g 86 = F := by unfold ar; rw [c]
  unfold mB mP mN
  rw [e, h1, h2]
  refine ⟨⟨⟨by decide, by decide⟩, ⟨by decide, by decide⟩, by decide⟩, fun j hj => ?_⟩
  omega
set_option maxRecDepth 8000 in
set_option maxHeartbeats 4000000 in
theorem ti_M_init_85 {sc : List Int} (z : Nat) (f : Nat → Option kE) (hf : f 85 = some (.inr (.inr (11, (kfk 11).map kdef0)))) (hW : ∀ g : kH, (∀ j, j < 85 → g.2.2 j = f j) → g.2.2 85 = some (.inr (.inr (11, ((((((((((((((((((((((((((((((((((((((((((kfk 11).map kdef0).set 1 (kr 86)).set 2 (kr 87)).set 3 (kr 88)).set 4 (kr 89)).set 5 (kr 90)).set 6 (kr 91)).set 7 (kr 92)).set 8 (kr 93)).set 9 (kr 94)).set 10 (kr 95)).set 11 (kr 96)).set 12 (kr 97)).set 13 (kr 98)).set 14 (kr 99)).set 15 (kr 100)).set 16 (kr 101)).set 17 (kr 102)).set 18 (kr 103)).set 19 (kr 104)).set 30 (kI (8))).set 33 (kr 105)).set 34 (kr 106)).set 35 (kr 107)).set 36 (kr 108)).set 37 (kr 109)).set 38 (kr 110)).set 39 (kr 111)).set 40 (kr 112)).set 41 (kr 113)).set 42 (kr 114)).set 43 (kr 115)).set 45 (kr 116)).set 46 (kr 117)).set 47 (kr 118)).set 48 (kr 119)).set 49 (kr 120)).set 50 (kr 121)).set 51 (kr 122)).set 55 (kr 123)).set 56 (kr 124))))) → g.2.2 86 = some (.inl (0, 6, (kup (kup (kup (kup (kup (kup (fun _ => 0) 0 (0)) 1 (0)) 2 (0)) 3 (0)) 4 (0)) 5 (-1)))) → g.2.2 87 = some (.inl (0, 22, fun _ => 0)) → g.2.2 88 = some (.inl (0, 22, fun _ => 0)) → g.2.2 89 = some (.inl (0, 11, fun _ => 0)) → g.2.2 90 = some (.inl (0, 3, fun _ => 0)) → g.2.2 91 = some (.inl (0, 22, fun _ => 0)) → g.2.2 92 = some (.inl (0, 22, fun _ => 0)) → g.2.2 93 = some (.inl (0, 11, fun _ => 0)) → g.2.2 94 = some (.inl (0, 6, fun _ => 0)) → g.2.2 95 = some (.inl (0, 22, fun _ => 0)) → g.2.2 96 = some (.inl (0, 22, fun _ => 0)) → g.2.2 97 = some (.inl (0, 11, fun _ => 0)) → g.2.2 98 = some (.inl (0, 11, fun _ => 0)) → g.2.2 99 = some (.inl (0, 11, fun _ => 0)) → g.2.2 100 = some (.inl (0, 44, fun _ => 0)) → g.2.2 101 = some (.inl (0, 44, fun _ => 0)) → g.2.2 102 = some (.inl (0, 44, fun _ => 0)) → g.2.2 103 = some (.inl (0, 44, fun _ => 0)) → g.2.2 104 = some (.inl (0, 11, fun _ => 0)) → g.2.2 105 = some (.inl (1, 400, fun _ => 0)) → g.2.2 106 = some (.inl (0, 1800, fun _ => 0)) → g.2.2 107 = some (.inl (0, 1800, fun _ => 0)) → g.2.2 108 = some (.inl (0, 6, fun _ => 0)) → g.2.2 109 = some (.inl (0, 72, fun _ => 0)) → g.2.2 110 = some (.inl (0, 72, fun _ => 0)) → g.2.2 111 = some (.inl (0, 402, fun _ => 0)) → g.2.2 112 = some (.inl (3, 8, fun _ => 0)) → g.2.2 113 = some (.inl (3, 300, fun _ => 0)) → g.2.2 114 = some (.inl (0, 22, fun _ => 0)) → g.2.2 115 = some (.inl (0, 23, fun _ => 0)) → g.2.2 116 = some (.inl (0, 3, fun _ => 0)) → g.2.2 117 = some (.inl (3, 143, fun _ => 0)) → g.2.2 118 = some (.inl (0, 199, fun _ => 0)) → g.2.2 119 = some (.inl (0, 22, fun _ => 0)) → g.2.2 120 = some (.inl (0, 7224, fun _ => 0)) → g.2.2 121 = some (.inl (0, 301, fun _ => 0)) → g.2.2 122 = some (.inl (0, 301, fun _ => 0)) → g.2.2 123 = some (.inl (0, 280, fun _ => 0)) → g.2.2 124 = some (.inl (4, 4, fun _ => 0)) → kWF g) : ∃ g : kH, g.1 = 125 ∧ kR sc 2 km_M_init [kr 85] (86, z, f) none (mRefresh g) ∧ (∀ j, j < 85 → g.2.2 j = f j) ∧ g.2.1 ≤ z + 200000 ∧ kWF g ∧ mB g ∧ g.2.2 85 = some (.inr (.inr (11, ((((((((((((((((((((((((((((((((((((((((((kfk 11).map kdef0).set 1 (kr 86)).set 2 (kr 87)).set 3 (kr 88)).set 4 (kr 89)).set 5 (kr 90)).set 6 (kr 91)).set 7 (kr 92)).set 8 (kr 93)).set 9 (kr 94)).set 10 (kr 95)).set 11 (kr 96)).set 12 (kr 97)).set 13 (kr 98)).set 14 (kr 99)).set 15 (kr 100)).set 16 (kr 101)).set 17 (kr 102)).set 18 (kr 103)).set 19 (kr 104)).set 30 (kI (8))).set 33 (kr 105)).set 34 (kr 106)).set 35 (kr 107)).set 36 (kr 108)).set 37 (kr 109)).set 38 (kr 110)).set 39 (kr 111)).set 40 (kr 112)).set 41 (kr 113)).set 42 (kr 114)).set 43 (kr 115)).set 45 (kr 116)).set 46 (kr 117)).set 47 (kr 118)).set 48 (kr 119)).set 49 (kr 120)).set 50 (kr 121)).set 51 (kr 122)).set 55 (kr 123)).set 56 (kr 124))))) ∧ g.2.2 86 = some (.inl (0, 6, (kup (kup (kup (kup (kup (kup (fun _ => 0) 0 (0)) 1 (0)) 2 (0)) 3 (0)) 4 (0)) 5 (-1)))) ∧ g.2.2 87 = some (.inl (0, 22, fun _ => 0)) ∧ g.2.2 88 = some (.inl (0, 22, fun _ => 0)) ∧ g.2.2 89 = some (.inl (0, 11, fun _ => 0)) ∧ g.2.2 90 = some (.inl (0, 3, fun _ => 0)) ∧ g.2.2 91 = some (.inl (0, 22, fun _ => 0)) ∧ g.2.2 92 = some (.inl (0, 22, fun _ => 0)) ∧ g.2.2 93 = some (.inl (0, 11, fun _ => 0)) ∧ g.2.2 94 = some (.inl (0, 6, fun _ => 0)) ∧ g.2.2 95 = some (.inl (0, 22, fun _ => 0)) ∧ g.2.2 96 = some (.inl (0, 22, fun _ => 0)) ∧ g.2.2 97 = some (.inl (0, 11, fun _ => 0)) ∧ g.2.2 98 = some (.inl (0, 11, fun _ => 0)) ∧ g.2.2 99 = some (.inl (0, 11, fun _ => 0)) ∧ g.2.2 100 = some (.inl (0, 44, fun _ => 0)) ∧ g.2.2 101 = some (.inl (0, 44, fun _ => 0)) ∧ g.2.2 102 = some (.inl (0, 44, fun _ => 0)) ∧ g.2.2 103 = some (.inl (0, 44, fun _ => 0)) ∧ g.2.2 104 = some (.inl (0, 11, fun _ => 0)) ∧ g.2.2 105 = some (.inl (1, 400, fun _ => 0)) ∧ g.2.2 106 = some (.inl (0, 1800, fun _ => 0)) ∧ g.2.2 107 = some (.inl (0, 1800, fun _ => 0)) ∧ g.2.2 108 = some (.inl (0, 6, fun _ => 0)) ∧ g.2.2 109 = some (.inl (0, 72, fun _ => 0)) ∧ g.2.2 110 = some (.inl (0, 72, fun _ => 0)) ∧ g.2.2 111 = some (.inl (0, 402, fun _ => 0)) ∧ g.2.2 112 = some (.inl (3, 8, fun _ => 0)) ∧ g.2.2 113 = some (.inl (3, 300, fun _ => 0)) ∧ g.2.2 114 = some (.inl (0, 22, fun _ => 0)) ∧ g.2.2 115 = some (.inl (0, 23, fun _ => 0)) ∧ g.2.2 116 = some (.inl (0, 3, fun _ => 0)) ∧ g.2.2 117 = some (.inl (3, 143, fun _ => 0)) ∧ g.2.2 118 = some (.inl (0, 199, fun _ => 0)) ∧ g.2.2 119 = some (.inl (0, 22, fun _ => 0)) ∧ g.2.2 120 = some (.inl (0, 7224, fun _ => 0)) ∧ g.2.2 121 = some (.inl (0, 301, fun _ => 0)) ∧ g.2.2 122 = some (.inl (0, 301, fun _ => 0)) ∧ g.2.2 123 = some (.inl (0, 280, fun _ => 0)) ∧ g.2.2 124 = some (.inl (4, 4, fun _ => 0)) := by
  have hfr : ∀ j, j < 85 → (kput (kadd (kput (kadd (kput (kadd (kput (kadd (kput (kadd (kput (kadd (kput (kadd (kput (kadd (kput (kadd (kput (kadd (kput (kadd (kput (kadd (kput (kadd (kput (kadd (kput (kadd (kput (kadd (kput (kadd (kput (kadd (kput (kadd (kput (kadd (kput (kput (kadd (kput (kadd (kput (kadd (kput (kadd (kput (kadd (kput (kadd (kput (kadd (kput (kadd (kput (kadd (kput (kadd (kput (kadd (kput (kadd (kput (kadd (kput (kadd (kput (kadd (kput (kadd (kput (kadd (kput (kadd (kput (kput (kput (kput (kput (kput (kput (kadd (86, z, f) 6 (.inl (0, 6, fun _ => 0))) 86 (.inl (0, 6, (kup (fun _ => 0) 0 (0))))) 86 (.inl (0, 6, (kup (kup (fun _ => 0) 0 (0)) 1 (0))))) 86 (.inl (0, 6, (kup (kup (kup (fun _ => 0) 0 (0)) 1 (0)) 2 (0))))) 86 (.inl (0, 6, (kup (kup (kup (kup (fun _ => 0) 0 (0)) 1 (0)) 2 (0)) 3 (0))))) 86 (.inl (0, 6, (kup (kup (kup (kup (kup (fun _ => 0) 0 (0)) 1 (0)) 2 (0)) 3 (0)) 4 (0))))) 86 (.inl (0, 6, (kup (kup (kup (kup (kup (kup (fun _ => 0) 0 (0)) 1 (0)) 2 (0)) 3 (0)) 4 (0)) 5 (-1))))) 85 (.inr (.inr (11, (((kfk 11).map kdef0).set 1 (kr 86)))))) 22 (.inl (0, 22, fun _ => 0))) 85 (.inr (.inr (11, ((((kfk 11).map kdef0).set 1 (kr 86)).set 2 (kr 87)))))) 22 (.inl (0, 22, fun _ => 0))) 85 (.inr (.inr (11, (((((kfk 11).map kdef0).set 1 (kr 86)).set 2 (kr 87)).set 3 (kr 88)))))) 11 (.inl (0, 11, fun _ => 0))) 85 (.inr (.inr (11, ((((((kfk 11).map kdef0).set 1 (kr 86)).set 2 (kr 87)).set 3 (kr 88)).set 4 (kr 89)))))) 3 (.inl (0, 3, fun _ => 0))) 85 (.inr (.inr (11, (((((((kfk 11).map kdef0).set 1 (kr 86)).set 2 (kr 87)).set 3 (kr 88)).set 4 (kr 89)).set 5 (kr 90)))))) 22 (.inl (0, 22, fun _ => 0))) 85 (.inr (.inr (11, ((((((((kfk 11).map kdef0).set 1 (kr 86)).set 2 (kr 87)).set 3 (kr 88)).set 4 (kr 89)).set 5 (kr 90)).set 6 (kr 91)))))) 22 (.inl (0, 22, fun _ => 0))) 85 (.inr (.inr (11, (((((((((kfk 11).map kdef0).set 1 (kr 86)).set 2 (kr 87)).set 3 (kr 88)).set 4 (kr 89)).set 5 (kr 90)).set 6 (kr 91)).set 7 (kr 92)))))) 11 (.inl (0, 11, fun _ => 0))) 85 (.inr (.inr (11, ((((((((((kfk 11).map kdef0).set 1 (kr 86)).set 2 (kr 87)).set 3 (kr 88)).set 4 (kr 89)).set 5 (kr 90)).set 6 (kr 91)).set 7 (kr 92)).set 8 (kr 93)))))) 6 (.inl (0, 6, fun _ => 0))) 85 (.inr (.inr (11, (((((((((((kfk 11).map kdef0).set 1 (kr 86)).set 2 (kr 87)).set 3 (kr 88)).set 4 (kr 89)).set 5 (kr 90)).set 6 (kr 91)).set 7 (kr 92)).set 8 (kr 93)).set 9 (kr 94)))))) 22 (.inl (0, 22, fun _ => 0))) 85 (.inr (.inr (11, ((((((((((((kfk 11).map kdef0).set 1 (kr 86)).set 2 (kr 87)).set 3 (kr 88)).set 4 (kr 89)).set 5 (kr 90)).set 6 (kr 91)).set 7 (kr 92)).set 8 (kr 93)).set 9 (kr 94)).set 10 (kr 95)))))) 22 (.inl (0, 22, fun _ => 0))) 85 (.inr (.inr (11, (((((((((((((kfk 11).map kdef0).set 1 (kr 86)).set 2 (kr 87)).set 3 (kr 88)).set 4 (kr 89)).set 5 (kr 90)).set 6 (kr 91)).set 7 (kr 92)).set 8 (kr 93)).set 9 (kr 94)).set 10 (kr 95)).set 11 (kr 96)))))) 11 (.inl (0, 11, fun _ => 0))) 85 (.inr (.inr (11, ((((((((((((((kfk 11).map kdef0).set 1 (kr 86)).set 2 (kr 87)).set 3 (kr 88)).set 4 (kr 89)).set 5 (kr 90)).set 6 (kr 91)).set 7 (kr 92)).set 8 (kr 93)).set 9 (kr 94)).set 10 (kr 95)).set 11 (kr 96)).set 12 (kr 97)))))) 11 (.inl (0, 11, fun _ => 0))) 85 (.inr (.inr (11, (((((((((((((((kfk 11).map kdef0).set 1 (kr 86)).set 2 (kr 87)).set 3 (kr 88)).set 4 (kr 89)).set 5 (kr 90)).set 6 (kr 91)).set 7 (kr 92)).set 8 (kr 93)).set 9 (kr 94)).set 10 (kr 95)).set 11 (kr 96)).set 12 (kr 97)).set 13 (kr 98)))))) 11 (.inl (0, 11, fun _ => 0))) 85 (.inr (.inr (11, ((((((((((((((((kfk 11).map kdef0).set 1 (kr 86)).set 2 (kr 87)).set 3 (kr 88)).set 4 (kr 89)).set 5 (kr 90)).set 6 (kr 91)).set 7 (kr 92)).set 8 (kr 93)).set 9 (kr 94)).set 10 (kr 95)).set 11 (kr 96)).set 12 (kr 97)).set 13 (kr 98)).set 14 (kr 99)))))) 44 (.inl (0, 44, fun _ => 0))) 85 (.inr (.inr (11, (((((((((((((((((kfk 11).map kdef0).set 1 (kr 86)).set 2 (kr 87)).set 3 (kr 88)).set 4 (kr 89)).set 5 (kr 90)).set 6 (kr 91)).set 7 (kr 92)).set 8 (kr 93)).set 9 (kr 94)).set 10 (kr 95)).set 11 (kr 96)).set 12 (kr 97)).set 13 (kr 98)).set 14 (kr 99)).set 15 (kr 100)))))) 44 (.inl (0, 44, fun _ => 0))) 85 (.inr (.inr (11, ((((((((((((((((((kfk 11).map kdef0).set 1 (kr 86)).set 2 (kr 87)).set 3 (kr 88)).set 4 (kr 89)).set 5 (kr 90)).set 6 (kr 91)).set 7 (kr 92)).set 8 (kr 93)).set 9 (kr 94)).set 10 (kr 95)).set 11 (kr 96)).set 12 (kr 97)).set 13 (kr 98)).set 14 (kr 99)).set 15 (kr 100)).set 16 (kr 101)))))) 44 (.inl (0, 44, fun _ => 0))) 85 (.inr (.inr (11, (((((((((((((((((((kfk 11).map kdef0).set 1 (kr 86)).set 2 (kr 87)).set 3 (kr 88)).set 4 (kr 89)).set 5 (kr 90)).set 6 (kr 91)).set 7 (kr 92)).set 8 (kr 93)).set 9 (kr 94)).set 10 (kr 95)).set 11 (kr 96)).set 12 (kr 97)).set 13 (kr 98)).set 14 (kr 99)).set 15 (kr 100)).set 16 (kr 101)).set 17 (kr 102)))))) 44 (.inl (0, 44, fun _ => 0))) 85 (.inr (.inr (11, ((((((((((((((((((((kfk 11).map kdef0).set 1 (kr 86)).set 2 (kr 87)).set 3 (kr 88)).set 4 (kr 89)).set 5 (kr 90)).set 6 (kr 91)).set 7 (kr 92)).set 8 (kr 93)).set 9 (kr 94)).set 10 (kr 95)).set 11 (kr 96)).set 12 (kr 97)).set 13 (kr 98)).set 14 (kr 99)).set 15 (kr 100)).set 16 (kr 101)).set 17 (kr 102)).set 18 (kr 103)))))) 11 (.inl (0, 11, fun _ => 0))) 85 (.inr (.inr (11, (((((((((((((((((((((kfk 11).map kdef0).set 1 (kr 86)).set 2 (kr 87)).set 3 (kr 88)).set 4 (kr 89)).set 5 (kr 90)).set 6 (kr 91)).set 7 (kr 92)).set 8 (kr 93)).set 9 (kr 94)).set 10 (kr 95)).set 11 (kr 96)).set 12 (kr 97)).set 13 (kr 98)).set 14 (kr 99)).set 15 (kr 100)).set 16 (kr 101)).set 17 (kr 102)).set 18 (kr 103)).set 19 (kr 104)))))) 85 (.inr (.inr (11, ((((((((((((((((((((((kfk 11).map kdef0).set 1 (kr 86)).set 2 (kr 87)).set 3 (kr 88)).set 4 (kr 89)).set 5 (kr 90)).set 6 (kr 91)).set 7 (kr 92)).set 8 (kr 93)).set 9 (kr 94)).set 10 (kr 95)).set 11 (kr 96)).set 12 (kr 97)).set 13 (kr 98)).set 14 (kr 99)).set 15 (kr 100)).set 16 (kr 101)).set 17 (kr 102)).set 18 (kr 103)).set 19 (kr 104)).set 30 (kI (8))))))) 400 (.inl (1, 400, fun _ => 0))) 85 (.inr (.inr (11, (((((((((((((((((((((((kfk 11).map kdef0).set 1 (kr 86)).set 2 (kr 87)).set 3 (kr 88)).set 4 (kr 89)).set 5 (kr 90)).set 6 (kr 91)).set 7 (kr 92)).set 8 (kr 93)).set 9 (kr 94)).set 10 (kr 95)).set 11 (kr 96)).set 12 (kr 97)).set 13 (kr 98)).set 14 (kr 99)).set 15 (kr 100)).set 16 (kr 101)).set 17 (kr 102)).set 18 (kr 103)).set 19 (kr 104)).set 30 (kI (8))).set 33 (kr 105)))))) 1800 (.inl (0, 1800, fun _ => 0))) 85 (.inr (.inr (11, ((((((((((((((((((((((((kfk 11).map kdef0).set 1 (kr 86)).set 2 (kr 87)).set 3 (kr 88)).set 4 (kr 89)).set 5 (kr 90)).set 6 (kr 91)).set 7 (kr 92)).set 8 (kr 93)).set 9 (kr 94)).set 10 (kr 95)).set 11 (kr 96)).set 12 (kr 97)).set 13 (kr 98)).set 14 (kr 99)).set 15 (kr 100)).set 16 (kr 101)).set 17 (kr 102)).set 18 (kr 103)).set 19 (kr 104)).set 30 (kI (8))).set 33 (kr 105)).set 34 (kr 106)))))) 1800 (.inl (0, 1800, fun _ => 0))) 85 (.inr (.inr (11, (((((((((((((((((((((((((kfk 11).map kdef0).set 1 (kr 86)).set 2 (kr 87)).set 3 (kr 88)).set 4 (kr 89)).set 5 (kr 90)).set 6 (kr 91)).set 7 (kr 92)).set 8 (kr 93)).set 9 (kr 94)).set 10 (kr 95)).set 11 (kr 96)).set 12 (kr 97)).set 13 (kr 98)).set 14 (kr 99)).set 15 (kr 100)).set 16 (kr 101)).set 17 (kr 102)).set 18 (kr 103)).set 19 (kr 104)).set 30 (kI (8))).set 33 (kr 105)).set 34 (kr 106)).set 35 (kr 107)))))) 6 (.inl (0, 6, fun _ => 0))) 85 (.inr (.inr (11, ((((((((((((((((((((((((((kfk 11).map kdef0).set 1 (kr 86)).set 2 (kr 87)).set 3 (kr 88)).set 4 (kr 89)).set 5 (kr 90)).set 6 (kr 91)).set 7 (kr 92)).set 8 (kr 93)).set 9 (kr 94)).set 10 (kr 95)).set 11 (kr 96)).set 12 (kr 97)).set 13 (kr 98)).set 14 (kr 99)).set 15 (kr 100)).set 16 (kr 101)).set 17 (kr 102)).set 18 (kr 103)).set 19 (kr 104)).set 30 (kI (8))).set 33 (kr 105)).set 34 (kr 106)).set 35 (kr 107)).set 36 (kr 108)))))) 72 (.inl (0, 72, fun _ => 0))) 85 (.inr (.inr (11, (((((((((((((((((((((((((((kfk 11).map kdef0).set 1 (kr 86)).set 2 (kr 87)).set 3 (kr 88)).set 4 (kr 89)).set 5 (kr 90)).set 6 (kr 91)).set 7 (kr 92)).set 8 (kr 93)).set 9 (kr 94)).set 10 (kr 95)).set 11 (kr 96)).set 12 (kr 97)).set 13 (kr 98)).set 14 (kr 99)).set 15 (kr 100)).set 16 (kr 101)).set 17 (kr 102)).set 18 (kr 103)).set 19 (kr 104)).set 30 (kI (8))).set 33 (kr 105)).set 34 (kr 106)).set 35 (kr 107)).set 36 (kr 108)).set 37 (kr 109)))))) 72 (.inl (0, 72, fun _ => 0))) 85 (.inr (.inr (11, ((((((((((((((((((((((((((((kfk 11).map kdef0).set 1 (kr 86)).set 2 (kr 87)).set 3 (kr 88)).set 4 (kr 89)).set 5 (kr 90)).set 6 (kr 91)).set 7 (kr 92)).set 8 (kr 93)).set 9 (kr 94)).set 10 (kr 95)).set 11 (kr 96)).set 12 (kr 97)).set 13 (kr 98)).set 14 (kr 99)).set 15 (kr 100)).set 16 (kr 101)).set 17 (kr 102)).set 18 (kr 103)).set 19 (kr 104)).set 30 (kI (8))).set 33 (kr 105)).set 34 (kr 106)).set 35 (kr 107)).set 36 (kr 108)).set 37 (kr 109)).set 38 (kr 110)))))) 402 (.inl (0, 402, fun _ => 0))) 85 (.inr (.inr (11, (((((((((((((((((((((((((((((kfk 11).map kdef0).set 1 (kr 86)).set 2 (kr 87)).set 3 (kr 88)).set 4 (kr 89)).set 5 (kr 90)).set 6 (kr 91)).set 7 (kr 92)).set 8 (kr 93)).set 9 (kr 94)).set 10 (kr 95)).set 11 (kr 96)).set 12 (kr 97)).set 13 (kr 98)).set 14 (kr 99)).set 15 (kr 100)).set 16 (kr 101)).set 17 (kr 102)).set 18 (kr 103)).set 19 (kr 104)).set 30 (kI (8))).set 33 (kr 105)).set 34 (kr 106)).set 35 (kr 107)).set 36 (kr 108)).set 37 (kr 109)).set 38 (kr 110)).set 39 (kr 111)))))) 8 (.inl (3, 8, fun _ => 0))) 85 (.inr (.inr (11, ((((((((((((((((((((((((((((((kfk 11).map kdef0).set 1 (kr 86)).set 2 (kr 87)).set 3 (kr 88)).set 4 (kr 89)).set 5 (kr 90)).set 6 (kr 91)).set 7 (kr 92)).set 8 (kr 93)).set 9 (kr 94)).set 10 (kr 95)).set 11 (kr 96)).set 12 (kr 97)).set 13 (kr 98)).set 14 (kr 99)).set 15 (kr 100)).set 16 (kr 101)).set 17 (kr 102)).set 18 (kr 103)).set 19 (kr 104)).set 30 (kI (8))).set 33 (kr 105)).set 34 (kr 106)).set 35 (kr 107)).set 36 (kr 108)).set 37 (kr 109)).set 38 (kr 110)).set 39 (kr 111)).set 40 (kr 112)))))) 300 (.inl (3, 300, fun _ => 0))) 85 (.inr (.inr (11, (((((((((((((((((((((((((((((((kfk 11).map kdef0).set 1 (kr 86)).set 2 (kr 87)).set 3 (kr 88)).set 4 (kr 89)).set 5 (kr 90)).set 6 (kr 91)).set 7 (kr 92)).set 8 (kr 93)).set 9 (kr 94)).set 10 (kr 95)).set 11 (kr 96)).set 12 (kr 97)).set 13 (kr 98)).set 14 (kr 99)).set 15 (kr 100)).set 16 (kr 101)).set 17 (kr 102)).set 18 (kr 103)).set 19 (kr 104)).set 30 (kI (8))).set 33 (kr 105)).set 34 (kr 106)).set 35 (kr 107)).set 36 (kr 108)).set 37 (kr 109)).set 38 (kr 110)).set 39 (kr 111)).set 40 (kr 112)).set 41 (kr 113)))))) 22 (.inl (0, 22, fun _ => 0))) 85 (.inr (.inr (11, ((((((((((((((((((((((((((((((((kfk 11).map kdef0).set 1 (kr 86)).set 2 (kr 87)).set 3 (kr 88)).set 4 (kr 89)).set 5 (kr 90)).set 6 (kr 91)).set 7 (kr 92)).set 8 (kr 93)).set 9 (kr 94)).set 10 (kr 95)).set 11 (kr 96)).set 12 (kr 97)).set 13 (kr 98)).set 14 (kr 99)).set 15 (kr 100)).set 16 (kr 101)).set 17 (kr 102)).set 18 (kr 103)).set 19 (kr 104)).set 30 (kI (8))).set 33 (kr 105)).set 34 (kr 106)).set 35 (kr 107)).set 36 (kr 108)).set 37 (kr 109)).set 38 (kr 110)).set 39 (kr 111)).set 40 (kr 112)).set 41 (kr 113)).set 42 (kr 114)))))) 23 (.inl (0, 23, fun _ => 0))) 85 (.inr (.inr (11, (((((((((((((((((((((((((((((((((kfk 11).map kdef0).set 1 (kr 86)).set 2 (kr 87)).set 3 (kr 88)).set 4 (kr 89)).set 5 (kr 90)).set 6 (kr 91)).set 7 (kr 92)).set 8 (kr 93)).set 9 (kr 94)).set 10 (kr 95)).set 11 (kr 96)).set 12 (kr 97)).set 13 (kr 98)).set 14 (kr 99)).set 15 (kr 100)).set 16 (kr 101)).set 17 (kr 102)).set 18 (kr 103)).set 19 (kr 104)).set 30 (kI (8))).set 33 (kr 105)).set 34 (kr 106)).set 35 (kr 107)).set 36 (kr 108)).set 37 (kr 109)).set 38 (kr 110)).set 39 (kr 111)).set 40 (kr 112)).set 41 (kr 113)).set 42 (kr 114)).set 43 (kr 115)))))) 3 (.inl (0, 3, fun _ => 0))) 85 (.inr (.inr (11, ((((((((((((((((((((((((((((((((((kfk 11).map kdef0).set 1 (kr 86)).set 2 (kr 87)).set 3 (kr 88)).set 4 (kr 89)).set 5 (kr 90)).set 6 (kr 91)).set 7 (kr 92)).set 8 (kr 93)).set 9 (kr 94)).set 10 (kr 95)).set 11 (kr 96)).set 12 (kr 97)).set 13 (kr 98)).set 14 (kr 99)).set 15 (kr 100)).set 16 (kr 101)).set 17 (kr 102)).set 18 (kr 103)).set 19 (kr 104)).set 30 (kI (8))).set 33 (kr 105)).set 34 (kr 106)).set 35 (kr 107)).set 36 (kr 108)).set 37 (kr 109)).set 38 (kr 110)).set 39 (kr 111)).set 40 (kr 112)).set 41 (kr 113)).set 42 (kr 114)).set 43 (kr 115)).set 45 (kr 116)))))) 143 (.inl (3, 143, fun _ => 0))) 85 (.inr (.inr (11, (((((((((((((((((((((((((((((((((((kfk 11).map kdef0).set 1 (kr 86)).set 2 (kr 87)).set 3 (kr 88)).set 4 (kr 89)).set 5 (kr 90)).set 6 (kr 91)).set 7 (kr 92)).set 8 (kr 93)).set 9 (kr 94)).set 10 (kr 95)).set 11 (kr 96)).set 12 (kr 97)).set 13 (kr 98)).set 14 (kr 99)).set 15 (kr 100)).set 16 (kr 101)).set 17 (kr 102)).set 18 (kr 103)).set 19 (kr 104)).set 30 (kI (8))).set 33 (kr 105)).set 34 (kr 106)).set 35 (kr 107)).set 36 (kr 108)).set 37 (kr 109)).set 38 (kr 110)).set 39 (kr 111)).set 40 (kr 112)).set 41 (kr 113)).set 42 (kr 114)).set 43 (kr 115)).set 45 (kr 116)).set 46 (kr 117)))))) 199 (.inl (0, 199, fun _ => 0))) 85 (.inr (.inr (11, ((((((((((((((((((((((((((((((((((((kfk 11).map kdef0).set 1 (kr 86)).set 2 (kr 87)).set 3 (kr 88)).set 4 (kr 89)).set 5 (kr 90)).set 6 (kr 91)).set 7 (kr 92)).set 8 (kr 93)).set 9 (kr 94)).set 10 (kr 95)).set 11 (kr 96)).set 12 (kr 97)).set 13 (kr 98)).set 14 (kr 99)).set 15 (kr 100)).set 16 (kr 101)).set 17 (kr 102)).set 18 (kr 103)).set 19 (kr 104)).set 30 (kI (8))).set 33 (kr 105)).set 34 (kr 106)).set 35 (kr 107)).set 36 (kr 108)).set 37 (kr 109)).set 38 (kr 110)).set 39 (kr 111)).set 40 (kr 112)).set 41 (kr 113)).set 42 (kr 114)).set 43 (kr 115)).set 45 (kr 116)).set 46 (kr 117)).set 47 (kr 118)))))) 22 (.inl (0, 22, fun _ => 0))) 85 (.inr (.inr (11, (((((((((((((((((((((((((((((((((((((kfk 11).map kdef0).set 1 (kr 86)).set 2 (kr 87)).set 3 (kr 88)).set 4 (kr 89)).set 5 (kr 90)).set 6 (kr 91)).set 7 (kr 92)).set 8 (kr 93)).set 9 (kr 94)).set 10 (kr 95)).set 11 (kr 96)).set 12 (kr 97)).set 13 (kr 98)).set 14 (kr 99)).set 15 (kr 100)).set 16 (kr 101)).set 17 (kr 102)).set 18 (kr 103)).set 19 (kr 104)).set 30 (kI (8))).set 33 (kr 105)).set 34 (kr 106)).set 35 (kr 107)).set 36 (kr 108)).set 37 (kr 109)).set 38 (kr 110)).set 39 (kr 111)).set 40 (kr 112)).set 41 (kr 113)).set 42 (kr 114)).set 43 (kr 115)).set 45 (kr 116)).set 46 (kr 117)).set 47 (kr 118)).set 48 (kr 119)))))) 7224 (.inl (0, 7224, fun _ => 0))) 85 (.inr (.inr (11, ((((((((((((((((((((((((((((((((((((((kfk 11).map kdef0).set 1 (kr 86)).set 2 (kr 87)).set 3 (kr 88)).set 4 (kr 89)).set 5 (kr 90)).set 6 (kr 91)).set 7 (kr 92)).set 8 (kr 93)).set 9 (kr 94)).set 10 (kr 95)).set 11 (kr 96)).set 12 (kr 97)).set 13 (kr 98)).set 14 (kr 99)).set 15 (kr 100)).set 16 (kr 101)).set 17 (kr 102)).set 18 (kr 103)).set 19 (kr 104)).set 30 (kI (8))).set 33 (kr 105)).set 34 (kr 106)).set 35 (kr 107)).set 36 (kr 108)).set 37 (kr 109)).set 38 (kr 110)).set 39 (kr 111)).set 40 (kr 112)).set 41 (kr 113)).set 42 (kr 114)).set 43 (kr 115)).set 45 (kr 116)).set 46 (kr 117)).set 47 (kr 118)).set 48 (kr 119)).set 49 (kr 120)))))) 301 (.inl (0, 301, fun _ => 0))) 85 (.inr (.inr (11, (((((((((((((((((((((((((((((((((((((((kfk 11).map kdef0).set 1 (kr 86)).set 2 (kr 87)).set 3 (kr 88)).set 4 (kr 89)).set 5 (kr 90)).set 6 (kr 91)).set 7 (kr 92)).set 8 (kr 93)).set 9 (kr 94)).set 10 (kr 95)).set 11 (kr 96)).set 12 (kr 97)).set 13 (kr 98)).set 14 (kr 99)).set 15 (kr 100)).set 16 (kr 101)).set 17 (kr 102)).set 18 (kr 103)).set 19 (kr 104)).set 30 (kI (8))).set 33 (kr 105)).set 34 (kr 106)).set 35 (kr 107)).set 36 (kr 108)).set 37 (kr 109)).set 38 (kr 110)).set 39 (kr 111)).set 40 (kr 112)).set 41 (kr 113)).set 42 (kr 114)).set 43 (kr 115)).set 45 (kr 116)).set 46 (kr 117)).set 47 (kr 118)).set 48 (kr 119)).set 49 (kr 120)).set 50 (kr 121)))))) 301 (.inl (0, 301, fun _ => 0))) 85 (.inr (.inr (11, ((((((((((((((((((((((((((((((((((((((((kfk 11).map kdef0).set 1 (kr 86)).set 2 (kr 87)).set 3 (kr 88)).set 4 (kr 89)).set 5 (kr 90)).set 6 (kr 91)).set 7 (kr 92)).set 8 (kr 93)).set 9 (kr 94)).set 10 (kr 95)).set 11 (kr 96)).set 12 (kr 97)).set 13 (kr 98)).set 14 (kr 99)).set 15 (kr 100)).set 16 (kr 101)).set 17 (kr 102)).set 18 (kr 103)).set 19 (kr 104)).set 30 (kI (8))).set 33 (kr 105)).set 34 (kr 106)).set 35 (kr 107)).set 36 (kr 108)).set 37 (kr 109)).set 38 (kr 110)).set 39 (kr 111)).set 40 (kr 112)).set 41 (kr 113)).set 42 (kr 114)).set 43 (kr 115)).set 45 (kr 116)).set 46 (kr 117)).set 47 (kr 118)).set 48 (kr 119)).set 49 (kr 120)).set 50 (kr 121)).set 51 (kr 122)))))) 280 (.inl (0, 280, fun _ => 0))) 85 (.inr (.inr (11, (((((((((((((((((((((((((((((((((((((((((kfk 11).map kdef0).set 1 (kr 86)).set 2 (kr 87)).set 3 (kr 88)).set 4 (kr 89)).set 5 (kr 90)).set 6 (kr 91)).set 7 (kr 92)).set 8 (kr 93)).set 9 (kr 94)).set 10 (kr 95)).set 11 (kr 96)).set 12 (kr 97)).set 13 (kr 98)).set 14 (kr 99)).set 15 (kr 100)).set 16 (kr 101)).set 17 (kr 102)).set 18 (kr 103)).set 19 (kr 104)).set 30 (kI (8))).set 33 (kr 105)).set 34 (kr 106)).set 35 (kr 107)).set 36 (kr 108)).set 37 (kr 109)).set 38 (kr 110)).set 39 (kr 111)).set 40 (kr 112)).set 41 (kr 113)).set 42 (kr 114)).set 43 (kr 115)).set 45 (kr 116)).set 46 (kr 117)).set 47 (kr 118)).set 48 (kr 119)).set 49 (kr 120)).set 50 (kr 121)).set 51 (kr 122)).set 55 (kr 123)))))) 4 (.inl (4, 4, fun _ => 0))) 85 (.inr (.inr (11, ((((((((((((((((((((((((((((((((((((((((((kfk 11).map kdef0).set 1 (kr 86)).set 2 (kr 87)).set 3 (kr 88)).set 4 (kr 89)).set 5 (kr 90)).set 6 (kr 91)).set 7 (kr 92)).set 8 (kr 93)).set 9 (kr 94)).set 10 (kr 95)).set 11 (kr 96)).set 12 (kr 97)).set 13 (kr 98)).set 14 (kr 99)).set 15 (kr 100)).set 16 (kr 101)).set 17 (kr 102)).set 18 (kr 103)).set 19 (kr 104)).set 30 (kI (8))).set 33 (kr 105)).set 34 (kr 106)).set 35 (kr 107)).set 36 (kr 108)).set 37 (kr 109)).set 38 (kr 110)).set 39 (kr 111)).set 40 (kr 112)).set 41 (kr 113)).set 42 (kr 114)).set 43 (kr 115)).set 45 (kr 116)).set 46 (kr 117)).set 47 (kr 118)).set 48 (kr 119)).set 49 (kr 120)).set 50 (kr 121)).set 51 (kr 122)).set 55 (kr 123)).set 56 (kr 124)))))).2.2 j = f j := fun j hj => by
    exact ((kput_n _ _ (by omega)).trans ((kadd_n (m := 124) rfl (by omega)).trans ((kput_n _ _ (by omega)).trans ((kadd_n (m := 123) rfl (by omega)).trans ((kput_n _ _ (by omega)).trans ((kadd_n (m := 122) rfl (by omega)).trans ((kput_n _ _ (by omega)).trans ((kadd_n (m := 121) rfl (by omega)).trans ((kput_n _ _ (by omega)).trans ((kadd_n (m := 120) rfl (by omega)).trans ((kput_n _ _ (by omega)).trans ((kadd_n (m := 119) rfl (by omega)).trans ((kput_n _ _ (by omega)).trans ((kadd_n (m := 118) rfl (by omega)).trans ((kput_n _ _ (by omega)).trans ((kadd_n (m := 117) rfl (by omega)).trans ((kput_n _ _ (by omega)).trans ((kadd_n (m := 116) rfl (by omega)).trans ((kput_n _ _ (by omega)).trans ((kadd_n (m := 115) rfl (by omega)).trans ((kput_n _ _ (by omega)).trans ((kadd_n (m := 114) rfl (by omega)).trans ((kput_n _ _ (by omega)).trans ((kadd_n (m := 113) rfl (by omega)).trans ((kput_n _ _ (by omega)).trans ((kadd_n (m := 112) rfl (by omega)).trans ((kput_n _ _ (by omega)).trans ((kadd_n (m := 111) rfl (by omega)).trans ((kput_n _ _ (by omega)).trans ((kadd_n (m := 110) rfl (by omega)).trans ((kput_n _ _ (by omega)).trans ((kadd_n (m := 109) rfl (by omega)).trans ((kput_n _ _ (by omega)).trans ((kadd_n (m := 108) rfl (by omega)).trans ((kput_n _ _ (by omega)).trans ((kadd_n (m := 107) rfl (by omega)).trans ((kput_n _ _ (by omega)).trans ((kadd_n (m := 106) rfl (by omega)).trans ((kput_n _ _ (by omega)).trans ((kadd_n (m := 105) rfl (by omega)).trans ((kput_n _ _ (by omega)).trans ((kput_n _ _ (by omega)).trans ((kadd_n (m := 104) rfl (by omega)).trans ((kput_n _ _ (by omega)).trans ((kadd_n (m := 103) rfl (by omega)).trans ((kput_n _ _ (by omega)).trans ((kadd_n (m := 102) rfl (by omega)).trans ((kput_n _ _ (by omega)).trans ((kadd_n (m := 101) rfl (by omega)).trans ((kput_n _ _ (by omega)).trans ((kadd_n (m := 100) rfl (by omega)).trans ((kput_n _ _ (by omega)).trans ((kadd_n (m := 99) rfl (by omega)).trans ((kput_n _ _ (by omega)).trans ((kadd_n (m := 98) rfl (by omega)).trans ((kput_n _ _ (by omega)).trans ((kadd_n (m := 97) rfl (by omega)).trans ((kput_n _ _ (by omega)).trans ((kadd_n (m := 96) rfl (by omega)).trans ((kput_n _ _ (by omega)).trans ((kadd_n (m := 95) rfl (by omega)).trans ((kput_n _ _ (by omega)).trans ((kadd_n (m := 94) rfl (by omega)).trans ((kput_n _ _ (by omega)).trans ((kadd_n (m := 93) rfl (by omega)).trans ((kput_n _ _ (by omega)).trans ((kadd_n (m := 92) rfl (by omega)).trans ((kput_n _ _ (by omega)).trans ((kadd_n (m := 91) rfl (by omega)).trans ((kput_n _ _ (by omega)).trans ((kadd_n (m := 90) rfl (by omega)).trans ((kput_n _ _ (by omega)).trans ((kadd_n (m := 89) rfl (by omega)).trans ((kput_n _ _ (by omega)).trans ((kadd_n (m := 88) rfl (by omega)).trans ((kput_n _ _ (by omega)).trans ((kadd_n (m := 87) rfl (by omega)).trans ((kput_n _ _ (by omega)).trans ((kput_n _ _ (by omega)).trans ((kput_n _ _ (by omega)).trans ((kput_n _ _ (by omega)).trans ((kput_n _ _ (by omega)).trans ((kput_n _ _ (by omega)).trans ((kput_n _ _ (by omega)).trans ((kadd_n (m := 86) rfl (by omega)).trans rfl)))))))))))))))))))))))))))))))))))))))))))))))))))))))))))))))))))))))))))))))))))))
  have hw : kWF (kput (kadd (kput (kadd (kput (kadd (kput (kadd (kput (kadd (kput (kadd (kput (kadd (kput (kadd (kput (kadd (kput (kadd (kput (kadd (kput (kadd (kput (kadd (kput (kadd (kput (kadd (kput (kadd (kput (kadd (kput (kadd (kput (kadd (kput (kadd (kput (kput (kadd (kput (kadd (kput (kadd (kput (kadd (kput (kadd (kput (kadd (kput (kadd (kput (kadd (kput (kadd (kput (kadd (kput (kadd (kput (kadd (kput (kadd (kput (kadd (kput (kadd (kput (kadd (kput (kadd (kput (kadd (kput (kput (kput (kput (kput (kput (kput (kadd (86, z, f) 6 (.inl (0, 6, fun _ => 0))) 86 (.inl (0, 6, (kup (fun _ => 0) 0 (0))))) 86 (.inl (0, 6, (kup (kup (fun _ => 0) 0 (0)) 1 (0))))) 86 (.inl (0, 6, (kup (kup (kup (fun _ => 0) 0 (0)) 1 (0)) 2 (0))))) 86 (.inl (0, 6, (kup (kup (kup (kup (fun _ => 0) 0 (0)) 1 (0)) 2 (0)) 3 (0))))) 86 (.inl (0, 6, (kup (kup (kup (kup (kup (fun _ => 0) 0 (0)) 1 (0)) 2 (0)) 3 (0)) 4 (0))))) 86 (.inl (0, 6, (kup (kup (kup (kup (kup (kup (fun _ => 0) 0 (0)) 1 (0)) 2 (0)) 3 (0)) 4 (0)) 5 (-1))))) 85 (.inr (.inr (11, (((kfk 11).map kdef0).set 1 (kr 86)))))) 22 (.inl (0, 22, fun _ => 0))) 85 (.inr (.inr (11, ((((kfk 11).map kdef0).set 1 (kr 86)).set 2 (kr 87)))))) 22 (.inl (0, 22, fun _ => 0))) 85 (.inr (.inr (11, (((((kfk 11).map kdef0).set 1 (kr 86)).set 2 (kr 87)).set 3 (kr 88)))))) 11 (.inl (0, 11, fun _ => 0))) 85 (.inr (.inr (11, ((((((kfk 11).map kdef0).set 1 (kr 86)).set 2 (kr 87)).set 3 (kr 88)).set 4 (kr 89)))))) 3 (.inl (0, 3, fun _ => 0))) 85 (.inr (.inr (11, (((((((kfk 11).map kdef0).set 1 (kr 86)).set 2 (kr 87)).set 3 (kr 88)).set 4 (kr 89)).set 5 (kr 90)))))) 22 (.inl (0, 22, fun _ => 0))) 85 (.inr (.inr (11, ((((((((kfk 11).map kdef0).set 1 (kr 86)).set 2 (kr 87)).set 3 (kr 88)).set 4 (kr 89)).set 5 (kr 90)).set 6 (kr 91)))))) 22 (.inl (0, 22, fun _ => 0))) 85 (.inr (.inr (11, (((((((((kfk 11).map kdef0).set 1 (kr 86)).set 2 (kr 87)).set 3 (kr 88)).set 4 (kr 89)).set 5 (kr 90)).set 6 (kr 91)).set 7 (kr 92)))))) 11 (.inl (0, 11, fun _ => 0))) 85 (.inr (.inr (11, ((((((((((kfk 11).map kdef0).set 1 (kr 86)).set 2 (kr 87)).set 3 (kr 88)).set 4 (kr 89)).set 5 (kr 90)).set 6 (kr 91)).set 7 (kr 92)).set 8 (kr 93)))))) 6 (.inl (0, 6, fun _ => 0))) 85 (.inr (.inr (11, (((((((((((kfk 11).map kdef0).set 1 (kr 86)).set 2 (kr 87)).set 3 (kr 88)).set 4 (kr 89)).set 5 (kr 90)).set 6 (kr 91)).set 7 (kr 92)).set 8 (kr 93)).set 9 (kr 94)))))) 22 (.inl (0, 22, fun _ => 0))) 85 (.inr (.inr (11, ((((((((((((kfk 11).map kdef0).set 1 (kr 86)).set 2 (kr 87)).set 3 (kr 88)).set 4 (kr 89)).set 5 (kr 90)).set 6 (kr 91)).set 7 (kr 92)).set 8 (kr 93)).set 9 (kr 94)).set 10 (kr 95)))))) 22 (.inl (0, 22, fun _ => 0))) 85 (.inr (.inr (11, (((((((((((((kfk 11).map kdef0).set 1 (kr 86)).set 2 (kr 87)).set 3 (kr 88)).set 4 (kr 89)).set 5 (kr 90)).set 6 (kr 91)).set 7 (kr 92)).set 8 (kr 93)).set 9 (kr 94)).set 10 (kr 95)).set 11 (kr 96)))))) 11 (.inl (0, 11, fun _ => 0))) 85 (.inr (.inr (11, ((((((((((((((kfk 11).map kdef0).set 1 (kr 86)).set 2 (kr 87)).set 3 (kr 88)).set 4 (kr 89)).set 5 (kr 90)).set 6 (kr 91)).set 7 (kr 92)).set 8 (kr 93)).set 9 (kr 94)).set 10 (kr 95)).set 11 (kr 96)).set 12 (kr 97)))))) 11 (.inl (0, 11, fun _ => 0))) 85 (.inr (.inr (11, (((((((((((((((kfk 11).map kdef0).set 1 (kr 86)).set 2 (kr 87)).set 3 (kr 88)).set 4 (kr 89)).set 5 (kr 90)).set 6 (kr 91)).set 7 (kr 92)).set 8 (kr 93)).set 9 (kr 94)).set 10 (kr 95)).set 11 (kr 96)).set 12 (kr 97)).set 13 (kr 98)))))) 11 (.inl (0, 11, fun _ => 0))) 85 (.inr (.inr (11, ((((((((((((((((kfk 11).map kdef0).set 1 (kr 86)).set 2 (kr 87)).set 3 (kr 88)).set 4 (kr 89)).set 5 (kr 90)).set 6 (kr 91)).set 7 (kr 92)).set 8 (kr 93)).set 9 (kr 94)).set 10 (kr 95)).set 11 (kr 96)).set 12 (kr 97)).set 13 (kr 98)).set 14 (kr 99)))))) 44 (.inl (0, 44, fun _ => 0))) 85 (.inr (.inr (11, (((((((((((((((((kfk 11).map kdef0).set 1 (kr 86)).set 2 (kr 87)).set 3 (kr 88)).set 4 (kr 89)).set 5 (kr 90)).set 6 (kr 91)).set 7 (kr 92)).set 8 (kr 93)).set 9 (kr 94)).set 10 (kr 95)).set 11 (kr 96)).set 12 (kr 97)).set 13 (kr 98)).set 14 (kr 99)).set 15 (kr 100)))))) 44 (.inl (0, 44, fun _ => 0))) 85 (.inr (.inr (11, ((((((((((((((((((kfk 11).map kdef0).set 1 (kr 86)).set 2 (kr 87)).set 3 (kr 88)).set 4 (kr 89)).set 5 (kr 90)).set 6 (kr 91)).set 7 (kr 92)).set 8 (kr 93)).set 9 (kr 94)).set 10 (kr 95)).set 11 (kr 96)).set 12 (kr 97)).set 13 (kr 98)).set 14 (kr 99)).set 15 (kr 100)).set 16 (kr 101)))))) 44 (.inl (0, 44, fun _ => 0))) 85 (.inr (.inr (11, (((((((((((((((((((kfk 11).map kdef0).set 1 (kr 86)).set 2 (kr 87)).set 3 (kr 88)).set 4 (kr 89)).set 5 (kr 90)).set 6 (kr 91)).set 7 (kr 92)).set 8 (kr 93)).set 9 (kr 94)).set 10 (kr 95)).set 11 (kr 96)).set 12 (kr 97)).set 13 (kr 98)).set 14 (kr 99)).set 15 (kr 100)).set 16 (kr 101)).set 17 (kr 102)))))) 44 (.inl (0, 44, fun _ => 0))) 85 (.inr (.inr (11, ((((((((((((((((((((kfk 11).map kdef0).set 1 (kr 86)).set 2 (kr 87)).set 3 (kr 88)).set 4 (kr 89)).set 5 (kr 90)).set 6 (kr 91)).set 7 (kr 92)).set 8 (kr 93)).set 9 (kr 94)).set 10 (kr 95)).set 11 (kr 96)).set 12 (kr 97)).set 13 (kr 98)).set 14 (kr 99)).set 15 (kr 100)).set 16 (kr 101)).set 17 (kr 102)).set 18 (kr 103)))))) 11 (.inl (0, 11, fun _ => 0))) 85 (.inr (.inr (11, (((((((((((((((((((((kfk 11).map kdef0).set 1 (kr 86)).set 2 (kr 87)).set 3 (kr 88)).set 4 (kr 89)).set 5 (kr 90)).set 6 (kr 91)).set 7 (kr 92)).set 8 (kr 93)).set 9 (kr 94)).set 10 (kr 95)).set 11 (kr 96)).set 12 (kr 97)).set 13 (kr 98)).set 14 (kr 99)).set 15 (kr 100)).set 16 (kr 101)).set 17 (kr 102)).set 18 (kr 103)).set 19 (kr 104)))))) 85 (.inr (.inr (11, ((((((((((((((((((((((kfk 11).map kdef0).set 1 (kr 86)).set 2 (kr 87)).set 3 (kr 88)).set 4 (kr 89)).set 5 (kr 90)).set 6 (kr 91)).set 7 (kr 92)).set 8 (kr 93)).set 9 (kr 94)).set 10 (kr 95)).set 11 (kr 96)).set 12 (kr 97)).set 13 (kr 98)).set 14 (kr 99)).set 15 (kr 100)).set 16 (kr 101)).set 17 (kr 102)).set 18 (kr 103)).set 19 (kr 104)).set 30 (kI (8))))))) 400 (.inl (1, 400, fun _ => 0))) 85 (.inr (.inr (11, (((((((((((((((((((((((kfk 11).map kdef0).set 1 (kr 86)).set 2 (kr 87)).set 3 (kr 88)).set 4 (kr 89)).set 5 (kr 90)).set 6 (kr 91)).set 7 (kr 92)).set 8 (kr 93)).set 9 (kr 94)).set 10 (kr 95)).set 11 (kr 96)).set 12 (kr 97)).set 13 (kr 98)).set 14 (kr 99)).set 15 (kr 100)).set 16 (kr 101)).set 17 (kr 102)).set 18 (kr 103)).set 19 (kr 104)).set 30 (kI (8))).set 33 (kr 105)))))) 1800 (.inl (0, 1800, fun _ => 0))) 85 (.inr (.inr (11, ((((((((((((((((((((((((kfk 11).map kdef0).set 1 (kr 86)).set 2 (kr 87)).set 3 (kr 88)).set 4 (kr 89)).set 5 (kr 90)).set 6 (kr 91)).set 7 (kr 92)).set 8 (kr 93)).set 9 (kr 94)).set 10 (kr 95)).set 11 (kr 96)).set 12 (kr 97)).set 13 (kr 98)).set 14 (kr 99)).set 15 (kr 100)).set 16 (kr 101)).set 17 (kr 102)).set 18 (kr 103)).set 19 (kr 104)).set 30 (kI (8))).set 33 (kr 105)).set 34 (kr 106)))))) 1800 (.inl (0, 1800, fun _ => 0))) 85 (.inr (.inr (11, (((((((((((((((((((((((((kfk 11).map kdef0).set 1 (kr 86)).set 2 (kr 87)).set 3 (kr 88)).set 4 (kr 89)).set 5 (kr 90)).set 6 (kr 91)).set 7 (kr 92)).set 8 (kr 93)).set 9 (kr 94)).set 10 (kr 95)).set 11 (kr 96)).set 12 (kr 97)).set 13 (kr 98)).set 14 (kr 99)).set 15 (kr 100)).set 16 (kr 101)).set 17 (kr 102)).set 18 (kr 103)).set 19 (kr 104)).set 30 (kI (8))).set 33 (kr 105)).set 34 (kr 106)).set 35 (kr 107)))))) 6 (.inl (0, 6, fun _ => 0))) 85 (.inr (.inr (11, ((((((((((((((((((((((((((kfk 11).map kdef0).set 1 (kr 86)).set 2 (kr 87)).set 3 (kr 88)).set 4 (kr 89)).set 5 (kr 90)).set 6 (kr 91)).set 7 (kr 92)).set 8 (kr 93)).set 9 (kr 94)).set 10 (kr 95)).set 11 (kr 96)).set 12 (kr 97)).set 13 (kr 98)).set 14 (kr 99)).set 15 (kr 100)).set 16 (kr 101)).set 17 (kr 102)).set 18 (kr 103)).set 19 (kr 104)).set 30 (kI (8))).set 33 (kr 105)).set 34 (kr 106)).set 35 (kr 107)).set 36 (kr 108)))))) 72 (.inl (0, 72, fun _ => 0))) 85 (.inr (.inr (11, (((((((((((((((((((((((((((kfk 11).map kdef0).set 1 (kr 86)).set 2 (kr 87)).set 3 (kr 88)).set 4 (kr 89)).set 5 (kr 90)).set 6 (kr 91)).set 7 (kr 92)).set 8 (kr 93)).set 9 (kr 94)).set 10 (kr 95)).set 11 (kr 96)).set 12 (kr 97)).set 13 (kr 98)).set 14 (kr 99)).set 15 (kr 100)).set 16 (kr 101)).set 17 (kr 102)).set 18 (kr 103)).set 19 (kr 104)).set 30 (kI (8))).set 33 (kr 105)).set 34 (kr 106)).set 35 (kr 107)).set 36 (kr 108)).set 37 (kr 109)))))) 72 (.inl (0, 72, fun _ => 0))) 85 (.inr (.inr (11, ((((((((((((((((((((((((((((kfk 11).map kdef0).set 1 (kr 86)).set 2 (kr 87)).set 3 (kr 88)).set 4 (kr 89)).set 5 (kr 90)).set 6 (kr 91)).set 7 (kr 92)).set 8 (kr 93)).set 9 (kr 94)).set 10 (kr 95)).set 11 (kr 96)).set 12 (kr 97)).set 13 (kr 98)).set 14 (kr 99)).set 15 (kr 100)).set 16 (kr 101)).set 17 (kr 102)).set 18 (kr 103)).set 19 (kr 104)).set 30 (kI (8))).set 33 (kr 105)).set 34 (kr 106)).set 35 (kr 107)).set 36 (kr 108)).set 37 (kr 109)).set 38 (kr 110)))))) 402 (.inl (0, 402, fun _ => 0))) 85 (.inr (.inr (11, (((((((((((((((((((((((((((((kfk 11).map kdef0).set 1 (kr 86)).set 2 (kr 87)).set 3 (kr 88)).set 4 (kr 89)).set 5 (kr 90)).set 6 (kr 91)).set 7 (kr 92)).set 8 (kr 93)).set 9 (kr 94)).set 10 (kr 95)).set 11 (kr 96)).set 12 (kr 97)).set 13 (kr 98)).set 14 (kr 99)).set 15 (kr 100)).set 16 (kr 101)).set 17 (kr 102)).set 18 (kr 103)).set 19 (kr 104)).set 30 (kI (8))).set 33 (kr 105)).set 34 (kr 106)).set 35 (kr 107)).set 36 (kr 108)).set 37 (kr 109)).set 38 (kr 110)).set 39 (kr 111)))))) 8 (.inl (3, 8, fun _ => 0))) 85 (.inr (.inr (11, ((((((((((((((((((((((((((((((kfk 11).map kdef0).set 1 (kr 86)).set 2 (kr 87)).set 3 (kr 88)).set 4 (kr 89)).set 5 (kr 90)).set 6 (kr 91)).set 7 (kr 92)).set 8 (kr 93)).set 9 (kr 94)).set 10 (kr 95)).set 11 (kr 96)).set 12 (kr 97)).set 13 (kr 98)).set 14 (kr 99)).set 15 (kr 100)).set 16 (kr 101)).set 17 (kr 102)).set 18 (kr 103)).set 19 (kr 104)).set 30 (kI (8))).set 33 (kr 105)).set 34 (kr 106)).set 35 (kr 107)).set 36 (kr 108)).set 37 (kr 109)).set 38 (kr 110)).set 39 (kr 111)).set 40 (kr 112)))))) 300 (.inl (3, 300, fun _ => 0))) 85 (.inr (.inr (11, (((((((((((((((((((((((((((((((kfk 11).map kdef0).set 1 (kr 86)).set 2 (kr 87)).set 3 (kr 88)).set 4 (kr 89)).set 5 (kr 90)).set 6 (kr 91)).set 7 (kr 92)).set 8 (kr 93)).set 9 (kr 94)).set 10 (kr 95)).set 11 (kr 96)).set 12 (kr 97)).set 13 (kr 98)).set 14 (kr 99)).set 15 (kr 100)).set 16 (kr 101)).set 17 (kr 102)).set 18 (kr 103)).set 19 (kr 104)).set 30 (kI (8))).set 33 (kr 105)).set 34 (kr 106)).set 35 (kr 107)).set 36 (kr 108)).set 37 (kr 109)).set 38 (kr 110)).set 39 (kr 111)).set 40 (kr 112)).set 41 (kr 113)))))) 22 (.inl (0, 22, fun _ => 0))) 85 (.inr (.inr (11, ((((((((((((((((((((((((((((((((kfk 11).map kdef0).set 1 (kr 86)).set 2 (kr 87)).set 3 (kr 88)).set 4 (kr 89)).set 5 (kr 90)).set 6 (kr 91)).set 7 (kr 92)).set 8 (kr 93)).set 9 (kr 94)).set 10 (kr 95)).set 11 (kr 96)).set 12 (kr 97)).set 13 (kr 98)).set 14 (kr 99)).set 15 (kr 100)).set 16 (kr 101)).set 17 (kr 102)).set 18 (kr 103)).set 19 (kr 104)).set 30 (kI (8))).set 33 (kr 105)).set 34 (kr 106)).set 35 (kr 107)).set 36 (kr 108)).set 37 (kr 109)).set 38 (kr 110)).set 39 (kr 111)).set 40 (kr 112)).set 41 (kr 113)).set 42 (kr 114)))))) 23 (.inl (0, 23, fun _ => 0))) 85 (.inr (.inr (11, (((((((((((((((((((((((((((((((((kfk 11).map kdef0).set 1 (kr 86)).set 2 (kr 87)).set 3 (kr 88)).set 4 (kr 89)).set 5 (kr 90)).set 6 (kr 91)).set 7 (kr 92)).set 8 (kr 93)).set 9 (kr 94)).set 10 (kr 95)).set 11 (kr 96)).set 12 (kr 97)).set 13 (kr 98)).set 14 (kr 99)).set 15 (kr 100)).set 16 (kr 101)).set 17 (kr 102)).set 18 (kr 103)).set 19 (kr 104)).set 30 (kI (8))).set 33 (kr 105)).set 34 (kr 106)).set 35 (kr 107)).set 36 (kr 108)).set 37 (kr 109)).set 38 (kr 110)).set 39 (kr 111)).set 40 (kr 112)).set 41 (kr 113)).set 42 (kr 114)).set 43 (kr 115)))))) 3 (.inl (0, 3, fun _ => 0))) 85 (.inr (.inr (11, ((((((((((((((((((((((((((((((((((kfk 11).map kdef0).set 1 (kr 86)).set 2 (kr 87)).set 3 (kr 88)).set 4 (kr 89)).set 5 (kr 90)).set 6 (kr 91)).set 7 (kr 92)).set 8 (kr 93)).set 9 (kr 94)).set 10 (kr 95)).set 11 (kr 96)).set 12 (kr 97)).set 13 (kr 98)).set 14 (kr 99)).set 15 (kr 100)).set 16 (kr 101)).set 17 (kr 102)).set 18 (kr 103)).set 19 (kr 104)).set 30 (kI (8))).set 33 (kr 105)).set 34 (kr 106)).set 35 (kr 107)).set 36 (kr 108)).set 37 (kr 109)).set 38 (kr 110)).set 39 (kr 111)).set 40 (kr 112)).set 41 (kr 113)).set 42 (kr 114)).set 43 (kr 115)).set 45 (kr 116)))))) 143 (.inl (3, 143, fun _ => 0))) 85 (.inr (.inr (11, (((((((((((((((((((((((((((((((((((kfk 11).map kdef0).set 1 (kr 86)).set 2 (kr 87)).set 3 (kr 88)).set 4 (kr 89)).set 5 (kr 90)).set 6 (kr 91)).set 7 (kr 92)).set 8 (kr 93)).set 9 (kr 94)).set 10 (kr 95)).set 11 (kr 96)).set 12 (kr 97)).set 13 (kr 98)).set 14 (kr 99)).set 15 (kr 100)).set 16 (kr 101)).set 17 (kr 102)).set 18 (kr 103)).set 19 (kr 104)).set 30 (kI (8))).set 33 (kr 105)).set 34 (kr 106)).set 35 (kr 107)).set 36 (kr 108)).set 37 (kr 109)).set 38 (kr 110)).set 39 (kr 111)).set 40 (kr 112)).set 41 (kr 113)).set 42 (kr 114)).set 43 (kr 115)).set 45 (kr 116)).set 46 (kr 117)))))) 199 (.inl (0, 199, fun _ => 0))) 85 (.inr (.inr (11, ((((((((((((((((((((((((((((((((((((kfk 11).map kdef0).set 1 (kr 86)).set 2 (kr 87)).set 3 (kr 88)).set 4 (kr 89)).set 5 (kr 90)).set 6 (kr 91)).set 7 (kr 92)).set 8 (kr 93)).set 9 (kr 94)).set 10 (kr 95)).set 11 (kr 96)).set 12 (kr 97)).set 13 (kr 98)).set 14 (kr 99)).set 15 (kr 100)).set 16 (kr 101)).set 17 (kr 102)).set 18 (kr 103)).set 19 (kr 104)).set 30 (kI (8))).set 33 (kr 105)).set 34 (kr 106)).set 35 (kr 107)).set 36 (kr 108)).set 37 (kr 109)).set 38 (kr 110)).set 39 (kr 111)).set 40 (kr 112)).set 41 (kr 113)).set 42 (kr 114)).set 43 (kr 115)).set 45 (kr 116)).set 46 (kr 117)).set 47 (kr 118)))))) 22 (.inl (0, 22, fun _ => 0))) 85 (.inr (.inr (11, (((((((((((((((((((((((((((((((((((((kfk 11).map kdef0).set 1 (kr 86)).set 2 (kr 87)).set 3 (kr 88)).set 4 (kr 89)).set 5 (kr 90)).set 6 (kr 91)).set 7 (kr 92)).set 8 (kr 93)).set 9 (kr 94)).set 10 (kr 95)).set 11 (kr 96)).set 12 (kr 97)).set 13 (kr 98)).set 14 (kr 99)).set 15 (kr 100)).set 16 (kr 101)).set 17 (kr 102)).set 18 (kr 103)).set 19 (kr 104)).set 30 (kI (8))).set 33 (kr 105)).set 34 (kr 106)).set 35 (kr 107)).set 36 (kr 108)).set 37 (kr 109)).set 38 (kr 110)).set 39 (kr 111)).set 40 (kr 112)).set 41 (kr 113)).set 42 (kr 114)).set 43 (kr 115)).set 45 (kr 116)).set 46 (kr 117)).set 47 (kr 118)).set 48 (kr 119)))))) 7224 (.inl (0, 7224, fun _ => 0))) 85 (.inr (.inr (11, ((((((((((((((((((((((((((((((((((((((kfk 11).map kdef0).set 1 (kr 86)).set 2 (kr 87)).set 3 (kr 88)).set 4 (kr 89)).set 5 (kr 90)).set 6 (kr 91)).set 7 (kr 92)).set 8 (kr 93)).set 9 (kr 94)).set 10 (kr 95)).set 11 (kr 96)).set 12 (kr 97)).set 13 (kr 98)).set 14 (kr 99)).set 15 (kr 100)).set 16 (kr 101)).set 17 (kr 102)).set 18 (kr 103)).set 19 (kr 104)).set 30 (kI (8))).set 33 (kr 105)).set 34 (kr 106)).set 35 (kr 107)).set 36 (kr 108)).set 37 (kr 109)).set 38 (kr 110)).set 39 (kr 111)).set 40 (kr 112)).set 41 (kr 113)).set 42 (kr 114)).set 43 (kr 115)).set 45 (kr 116)).set 46 (kr 117)).set 47 (kr 118)).set 48 (kr 119)).set 49 (kr 120)))))) 301 (.inl (0, 301, fun _ => 0))) 85 (.inr (.inr (11, (((((((((((((((((((((((((((((((((((((((kfk 11).map kdef0).set 1 (kr 86)).set 2 (kr 87)).set 3 (kr 88)).set 4 (kr 89)).set 5 (kr 90)).set 6 (kr 91)).set 7 (kr 92)).set 8 (kr 93)).set 9 (kr 94)).set 10 (kr 95)).set 11 (kr 96)).set 12 (kr 97)).set 13 (kr 98)).set 14 (kr 99)).set 15 (kr 100)).set 16 (kr 101)).set 17 (kr 102)).set 18 (kr 103)).set 19 (kr 104)).set 30 (kI (8))).set 33 (kr 105)).set 34 (kr 106)).set 35 (kr 107)).set 36 (kr 108)).set 37 (kr 109)).set 38 (kr 110)).set 39 (kr 111)).set 40 (kr 112)).set 41 (kr 113)).set 42 (kr 114)).set 43 (kr 115)).set 45 (kr 116)).set 46 (kr 117)).set 47 (kr 118)).set 48 (kr 119)).set 49 (kr 120)).set 50 (kr 121)))))) 301 (.inl (0, 301, fun _ => 0))) 85 (.inr (.inr (11, ((((((((((((((((((((((((((((((((((((((((kfk 11).map kdef0).set 1 (kr 86)).set 2 (kr 87)).set 3 (kr 88)).set 4 (kr 89)).set 5 (kr 90)).set 6 (kr 91)).set 7 (kr 92)).set 8 (kr 93)).set 9 (kr 94)).set 10 (kr 95)).set 11 (kr 96)).set 12 (kr 97)).set 13 (kr 98)).set 14 (kr 99)).set 15 (kr 100)).set 16 (kr 101)).set 17 (kr 102)).set 18 (kr 103)).set 19 (kr 104)).set 30 (kI (8))).set 33 (kr 105)).set 34 (kr 106)).set 35 (kr 107)).set 36 (kr 108)).set 37 (kr 109)).set 38 (kr 110)).set 39 (kr 111)).set 40 (kr 112)).set 41 (kr 113)).set 42 (kr 114)).set 43 (kr 115)).set 45 (kr 116)).set 46 (kr 117)).set 47 (kr 118)).set 48 (kr 119)).set 49 (kr 120)).set 50 (kr 121)).set 51 (kr 122)))))) 280 (.inl (0, 280, fun _ => 0))) 85 (.inr (.inr (11, (((((((((((((((((((((((((((((((((((((((((kfk 11).map kdef0).set 1 (kr 86)).set 2 (kr 87)).set 3 (kr 88)).set 4 (kr 89)).set 5 (kr 90)).set 6 (kr 91)).set 7 (kr 92)).set 8 (kr 93)).set 9 (kr 94)).set 10 (kr 95)).set 11 (kr 96)).set 12 (kr 97)).set 13 (kr 98)).set 14 (kr 99)).set 15 (kr 100)).set 16 (kr 101)).set 17 (kr 102)).set 18 (kr 103)).set 19 (kr 104)).set 30 (kI (8))).set 33 (kr 105)).set 34 (kr 106)).set 35 (kr 107)).set 36 (kr 108)).set 37 (kr 109)).set 38 (kr 110)).set 39 (kr 111)).set 40 (kr 112)).set 41 (kr 113)).set 42 (kr 114)).set 43 (kr 115)).set 45 (kr 116)).set 46 (kr 117)).set 47 (kr 118)).set 48 (kr 119)).set 49 (kr 120)).set 50 (kr 121)).set 51 (kr 122)).set 55 (kr 123)))))) 4 (.inl (4, 4, fun _ => 0))) 85 (.inr (.inr (11, ((((((((((((((((((((((((((((((((((((((((((kfk 11).map kdef0).set 1 (kr 86)).set 2 (kr 87)).set 3 (kr 88)).set 4 (kr 89)).set 5 (kr 90)).set 6 (kr 91)).set 7 (kr 92)).set 8 (kr 93)).set 9 (kr 94)).set 10 (kr 95)).set 11 (kr 96)).set 12 (kr 97)).set 13 (kr 98)).set 14 (kr 99)).set 15 (kr 100)).set 16 (kr 101)).set 17 (kr 102)).set 18 (kr 103)).set 19 (kr 104)).set 30 (kI (8))).set 33 (kr 105)).set 34 (kr 106)).set 35 (kr 107)).set 36 (kr 108)).set 37 (kr 109)).set 38 (kr 110)).set 39 (kr 111)).set 40 (kr 112)).set 41 (kr 113)).set 42 (kr 114)).set 43 (kr 115)).set 45 (kr 116)).set 46 (kr 117)).set 47 (kr 118)).set 48 (kr 119)).set 49 (kr 120)).set 50 (kr 121)).set 51 (kr 122)).set 55 (kr 123)).set 56 (kr 124)))))) := hW _ hfr rfl rfl rfl rfl rfl rfl rfl rfl rfl rfl rfl rfl rfl rfl rfl rfl rfl rfl rfl rfl rfl rfl rfl rfl rfl rfl rfl rfl rfl rfl rfl rfl rfl rfl rfl rfl rfl rfl rfl rfl
  have hb : mB (kput (kadd (kput (kadd (kput (kadd (kput (kadd (kput (kadd (kput (kadd (kput (kadd (kput (kadd (kput (kadd (kput (kadd (kput (kadd (kput (kadd (kput (kadd (kput (kadd (kput (kadd (kput (kadd (kput (kadd (kput (kadd (kput (kadd (kput (kadd (kput (kput (kadd (kput (kadd (kput (kadd (kput (kadd (kput (kadd (kput (kadd (kput (kadd (kput (kadd (kput (kadd (kput (kadd (kput (kadd (kput (kadd (kput (kadd (kput (kadd (kput (kadd (kput (kadd (kput (kadd (kput (kadd (kput (kput (kput (kput (kput (kput (kput (kadd (86, z, f) 6 (.inl (0, 6, fun _ => 0))) 86 (.inl (0, 6, (kup (fun _ => 0) 0 (0))))) 86 (.inl (0, 6, (kup (kup (fun _ => 0) 0 (0)) 1 (0))))) 86 (.inl (0, 6, (kup (kup (kup (fun _ => 0) 0 (0)) 1 (0)) 2 (0))))) 86 (.inl (0, 6, (kup (kup (kup (kup (fun _ => 0) 0 (0)) 1 (0)) 2 (0)) 3 (0))))) 86 (.inl (0, 6, (kup (kup (kup (kup (kup (fun _ => 0) 0 (0)) 1 (0)) 2 (0)) 3 (0)) 4 (0))))) 86 (.inl (0, 6, (kup (kup (kup (kup (kup (kup (fun _ => 0) 0 (0)) 1 (0)) 2 (0)) 3 (0)) 4 (0)) 5 (-1))))) 85 (.inr (.inr (11, (((kfk 11).map kdef0).set 1 (kr 86)))))) 22 (.inl (0, 22, fun _ => 0))) 85 (.inr (.inr (11, ((((kfk 11).map kdef0).set 1 (kr 86)).set 2 (kr 87)))))) 22 (.inl (0, 22, fun _ => 0))) 85 (.inr (.inr (11, (((((kfk 11).map kdef0).set 1 (kr 86)).set 2 (kr 87)).set 3 (kr 88)))))) 11 (.inl (0, 11, fun _ => 0))) 85 (.inr (.inr (11, ((((((kfk 11).map kdef0).set 1 (kr 86)).set 2 (kr 87)).set 3 (kr 88)).set 4 (kr 89)))))) 3 (.inl (0, 3, fun _ => 0))) 85 (.inr (.inr (11, (((((((kfk 11).map kdef0).set 1 (kr 86)).set 2 (kr 87)).set 3 (kr 88)).set 4 (kr 89)).set 5 (kr 90)))))) 22 (.inl (0, 22, fun _ => 0))) 85 (.inr (.inr (11, ((((((((kfk 11).map kdef0).set 1 (kr 86)).set 2 (kr 87)).set 3 (kr 88)).set 4 (kr 89)).set 5 (kr 90)).set 6 (kr 91)))))) 22 (.inl (0, 22, fun _ => 0))) 85 (.inr (.inr (11, (((((((((kfk 11).map kdef0).set 1 (kr 86)).set 2 (kr 87)).set 3 (kr 88)).set 4 (kr 89)).set 5 (kr 90)).set 6 (kr 91)).set 7 (kr 92)))))) 11 (.inl (0, 11, fun _ => 0))) 85 (.inr (.inr (11, ((((((((((kfk 11).map kdef0).set 1 (kr 86)).set 2 (kr 87)).set 3 (kr 88)).set 4 (kr 89)).set 5 (kr 90)).set 6 (kr 91)).set 7 (kr 92)).set 8 (kr 93)))))) 6 (.inl (0, 6, fun _ => 0))) 85 (.inr (.inr (11, (((((((((((kfk 11).map kdef0).set 1 (kr 86)).set 2 (kr 87)).set 3 (kr 88)).set 4 (kr 89)).set 5 (kr 90)).set 6 (kr 91)).set 7 (kr 92)).set 8 (kr 93)).set 9 (kr 94)))))) 22 (.inl (0, 22, fun _ => 0))) 85 (.inr (.inr (11, ((((((((((((kfk 11).map kdef0).set 1 (kr 86)).set 2 (kr 87)).set 3 (kr 88)).set 4 (kr 89)).set 5 (kr 90)).set 6 (kr 91)).set 7 (kr 92)).set 8 (kr 93)).set 9 (kr 94)).set 10 (kr 95)))))) 22 (.inl (0, 22, fun _ => 0))) 85 (.inr (.inr (11, (((((((((((((kfk 11).map kdef0).set 1 (kr 86)).set 2 (kr 87)).set 3 (kr 88)).set 4 (kr 89)).set 5 (kr 90)).set 6 (kr 91)).set 7 (kr 92)).set 8 (kr 93)).set 9 (kr 94)).set 10 (kr 95)).set 11 (kr 96)))))) 11 (.inl (0, 11, fun _ => 0))) 85 (.inr (.inr (11, ((((((((((((((kfk 11).map kdef0).set 1 (kr 86)).set 2 (kr 87)).set 3 (kr 88)).set 4 (kr 89)).set 5 (kr 90)).set 6 (kr 91)).set 7 (kr 92)).set 8 (kr 93)).set 9 (kr 94)).set 10 (kr 95)).set 11 (kr 96)).set 12 (kr 97)))))) 11 (.inl (0, 11, fun _ => 0))) 85 (.inr (.inr (11, (((((((((((((((kfk 11).map kdef0).set 1 (kr 86)).set 2 (kr 87)).set 3 (kr 88)).set 4 (kr 89)).set 5 (kr 90)).set 6 (kr 91)).set 7 (kr 92)).set 8 (kr 93)).set 9 (kr 94)).set 10 (kr 95)).set 11 (kr 96)).set 12 (kr 97)).set 13 (kr 98)))))) 11 (.inl (0, 11, fun _ => 0))) 85 (.inr (.inr (11, ((((((((((((((((kfk 11).map kdef0).set 1 (kr 86)).set 2 (kr 87)).set 3 (kr 88)).set 4 (kr 89)).set 5 (kr 90)).set 6 (kr 91)).set 7 (kr 92)).set 8 (kr 93)).set 9 (kr 94)).set 10 (kr 95)).set 11 (kr 96)).set 12 (kr 97)).set 13 (kr 98)).set 14 (kr 99)))))) 44 (.inl (0, 44, fun _ => 0))) 85 (.inr (.inr (11, (((((((((((((((((kfk 11).map kdef0).set 1 (kr 86)).set 2 (kr 87)).set 3 (kr 88)).set 4 (kr 89)).set 5 (kr 90)).set 6 (kr 91)).set 7 (kr 92)).set 8 (kr 93)).set 9 (kr 94)).set 10 (kr 95)).set 11 (kr 96)).set 12 (kr 97)).set 13 (kr 98)).set 14 (kr 99)).set 15 (kr 100)))))) 44 (.inl (0, 44, fun _ => 0))) 85 (.inr (.inr (11, ((((((((((((((((((kfk 11).map kdef0).set 1 (kr 86)).set 2 (kr 87)).set 3 (kr 88)).set 4 (kr 89)).set 5 (kr 90)).set 6 (kr 91)).set 7 (kr 92)).set 8 (kr 93)).set 9 (kr 94)).set 10 (kr 95)).set 11 (kr 96)).set 12 (kr 97)).set 13 (kr 98)).set 14 (kr 99)).set 15 (kr 100)).set 16 (kr 101)))))) 44 (.inl (0, 44, fun _ => 0))) 85 (.inr (.inr (11, (((((((((((((((((((kfk 11).map kdef0).set 1 (kr 86)).set 2 (kr 87)).set 3 (kr 88)).set 4 (kr 89)).set 5 (kr 90)).set 6 (kr 91)).set 7 (kr 92)).set 8 (kr 93)).set 9 (kr 94)).set 10 (kr 95)).set 11 (kr 96)).set 12 (kr 97)).set 13 (kr 98)).set 14 (kr 99)).set 15 (kr 100)).set 16 (kr 101)).set 17 (kr 102)))))) 44 (.inl (0, 44, fun _ => 0))) 85 (.inr (.inr (11, ((((((((((((((((((((kfk 11).map kdef0).set 1 (kr 86)).set 2 (kr 87)).set 3 (kr 88)).set 4 (kr 89)).set 5 (kr 90)).set 6 (kr 91)).set 7 (kr 92)).set 8 (kr 93)).set 9 (kr 94)).set 10 (kr 95)).set 11 (kr 96)).set 12 (kr 97)).set 13 (kr 98)).set 14 (kr 99)).set 15 (kr 100)).set 16 (kr 101)).set 17 (kr 102)).set 18 (kr 103)))))) 11 (.inl (0, 11, fun _ => 0))) 85 (.inr (.inr (11, (((((((((((((((((((((kfk 11).map kdef0).set 1 (kr 86)).set 2 (kr 87)).set 3 (kr 88)).set 4 (kr 89)).set 5 (kr 90)).set 6 (kr 91)).set 7 (kr 92)).set 8 (kr 93)).set 9 (kr 94)).set 10 (kr 95)).set 11 (kr 96)).set 12 (kr 97)).set 13 (kr 98)).set 14 (kr 99)).set 15 (kr 100)).set 16 (kr 101)).set 17 (kr 102)).set 18 (kr 103)).set 19 (kr 104)))))) 85 (.inr (.inr (11, ((((((((((((((((((((((kfk 11).map kdef0).set 1 (kr 86)).set 2 (kr 87)).set 3 (kr 88)).set 4 (kr 89)).set 5 (kr 90)).set 6 (kr 91)).set 7 (kr 92)).set 8 (kr 93)).set 9 (kr 94)).set 10 (kr 95)).set 11 (kr 96)).set 12 (kr 97)).set 13 (kr 98)).set 14 (kr 99)).set 15 (kr 100)).set 16 (kr 101)).set 17 (kr 102)).set 18 (kr 103)).set 19 (kr 104)).set 30 (kI (8))))))) 400 (.inl (1, 400, fun _ => 0))) 85 (.inr (.inr (11, (((((((((((((((((((((((kfk 11).map kdef0).set 1 (kr 86)).set 2 (kr 87)).set 3 (kr 88)).set 4 (kr 89)).set 5 (kr 90)).set 6 (kr 91)).set 7 (kr 92)).set 8 (kr 93)).set 9 (kr 94)).set 10 (kr 95)).set 11 (kr 96)).set 12 (kr 97)).set 13 (kr 98)).set 14 (kr 99)).set 15 (kr 100)).set 16 (kr 101)).set 17 (kr 102)).set 18 (kr 103)).set 19 (kr 104)).set 30 (kI (8))).set 33 (kr 105)))))) 1800 (.inl (0, 1800, fun _ => 0))) 85 (.inr (.inr (11, ((((((((((((((((((((((((kfk 11).map kdef0).set 1 (kr 86)).set 2 (kr 87)).set 3 (kr 88)).set 4 (kr 89)).set 5 (kr 90)).set 6 (kr 91)).set 7 (kr 92)).set 8 (kr 93)).set 9 (kr 94)).set 10 (kr 95)).set 11 (kr 96)).set 12 (kr 97)).set 13 (kr 98)).set 14 (kr 99)).set 15 (kr 100)).set 16 (kr 101)).set 17 (kr 102)).set 18 (kr 103)).set 19 (kr 104)).set 30 (kI (8))).set 33 (kr 105)).set 34 (kr 106)))))) 1800 (.inl (0, 1800, fun _ => 0))) 85 (.inr (.inr (11, (((((((((((((((((((((((((kfk 11).map kdef0).set 1 (kr 86)).set 2 (kr 87)).set 3 (kr 88)).set 4 (kr 89)).set 5 (kr 90)).set 6 (kr 91)).set 7 (kr 92)).set 8 (kr 93)).set 9 (kr 94)).set 10 (kr 95)).set 11 (kr 96)).set 12 (kr 97)).set 13 (kr 98)).set 14 (kr 99)).set 15 (kr 100)).set 16 (kr 101)).set 17 (kr 102)).set 18 (kr 103)).set 19 (kr 104)).set 30 (kI (8))).set 33 (kr 105)).set 34 (kr 106)).set 35 (kr 107)))))) 6 (.inl (0, 6, fun _ => 0))) 85 (.inr (.inr (11, ((((((((((((((((((((((((((kfk 11).map kdef0).set 1 (kr 86)).set 2 (kr 87)).set 3 (kr 88)).set 4 (kr 89)).set 5 (kr 90)).set 6 (kr 91)).set 7 (kr 92)).set 8 (kr 93)).set 9 (kr 94)).set 10 (kr 95)).set 11 (kr 96)).set 12 (kr 97)).set 13 (kr 98)).set 14 (kr 99)).set 15 (kr 100)).set 16 (kr 101)).set 17 (kr 102)).set 18 (kr 103)).set 19 (kr 104)).set 30 (kI (8))).set 33 (kr 105)).set 34 (kr 106)).set 35 (kr 107)).set 36 (kr 108)))))) 72 (.inl (0, 72, fun _ => 0))) 85 (.inr (.inr (11, (((((((((((((((((((((((((((kfk 11).map kdef0).set 1 (kr 86)).set 2 (kr 87)).set 3 (kr 88)).set 4 (kr 89)).set 5 (kr 90)).set 6 (kr 91)).set 7 (kr 92)).set 8 (kr 93)).set 9 (kr 94)).set 10 (kr 95)).set 11 (kr 96)).set 12 (kr 97)).set 13 (kr 98)).set 14 (kr 99)).set 15 (kr 100)).set 16 (kr 101)).set 17 (kr 102)).set 18 (kr 103)).set 19 (kr 104)).set 30 (kI (8))).set 33 (kr 105)).set 34 (kr 106)).set 35 (kr 107)).set 36 (kr 108)).set 37 (kr 109)))))) 72 (.inl (0, 72, fun _ => 0))) 85 (.inr (.inr (11, ((((((((((((((((((((((((((((kfk 11).map kdef0).set 1 (kr 86)).set 2 (kr 87)).set 3 (kr 88)).set 4 (kr 89)).set 5 (kr 90)).set 6 (kr 91)).set 7 (kr 92)).set 8 (kr 93)).set 9 (kr 94)).set 10 (kr 95)).set 11 (kr 96)).set 12 (kr 97)).set 13 (kr 98)).set 14 (kr 99)).set 15 (kr 100)).set 16 (kr 101)).set 17 (kr 102)).set 18 (kr 103)).set 19 (kr 104)).set 30 (kI (8))).set 33 (kr 105)).set 34 (kr 106)).set 35 (kr 107)).set 36 (kr 108)).set 37 (kr 109)).set 38 (kr 110)))))) 402 (.inl (0, 402, fun _ => 0))) 85 (.inr (.inr (11, (((((((((((((((((((((((((((((kfk 11).map kdef0).set 1 (kr 86)).set 2 (kr 87)).set 3 (kr 88)).set 4 (kr 89)).set 5 (kr 90)).set 6 (kr 91)).set 7 (kr 92)).set 8 (kr 93)).set 9 (kr 94)).set 10 (kr 95)).set 11 (kr 96)).set 12 (kr 97)).set 13 (kr 98)).set 14 (kr 99)).set 15 (kr 100)).set 16 (kr 101)).set 17 (kr 102)).set 18 (kr 103)).set 19 (kr 104)).set 30 (kI (8))).set 33 (kr 105)).set 34 (kr 106)).set 35 (kr 107)).set 36 (kr 108)).set 37 (kr 109)).set 38 (kr 110)).set 39 (kr 111)))))) 8 (.inl (3, 8, fun _ => 0))) 85 (.inr (.inr (11, ((((((((((((((((((((((((((((((kfk 11).map kdef0).set 1 (kr 86)).set 2 (kr 87)).set 3 (kr 88)).set 4 (kr 89)).set 5 (kr 90)).set 6 (kr 91)).set 7 (kr 92)).set 8 (kr 93)).set 9 (kr 94)).set 10 (kr 95)).set 11 (kr 96)).set 12 (kr 97)).set 13 (kr 98)).set 14 (kr 99)).set 15 (kr 100)).set 16 (kr 101)).set 17 (kr 102)).set 18 (kr 103)).set 19 (kr 104)).set 30 (kI (8))).set 33 (kr 105)).set 34 (kr 106)).set 35 (kr 107)).set 36 (kr 108)).set 37 (kr 109)).set 38 (kr 110)).set 39 (kr 111)).set 40 (kr 112)))))) 300 (.inl (3, 300, fun _ => 0))) 85 (.inr (.inr (11, (((((((((((((((((((((((((((((((kfk 11).map kdef0).set 1 (kr 86)).set 2 (kr 87)).set 3 (kr 88)).set 4 (kr 89)).set 5 (kr 90)).set 6 (kr 91)).set 7 (kr 92)).set 8 (kr 93)).set 9 (kr 94)).set 10 (kr 95)).set 11 (kr 96)).set 12 (kr 97)).set 13 (kr 98)).set 14 (kr 99)).set 15 (kr 100)).set 16 (kr 101)).set 17 (kr 102)).set 18 (kr 103)).set 19 (kr 104)).set 30 (kI (8))).set 33 (kr 105)).set 34 (kr 106)).set 35 (kr 107)).set 36 (kr 108)).set 37 (kr 109)).set 38 (kr 110)).set 39 (kr 111)).set 40 (kr 112)).set 41 (kr 113)))))) 22 (.inl (0, 22, fun _ => 0))) 85 (.inr (.inr (11, ((((((((((((((((((((((((((((((((kfk 11).map kdef0).set 1 (kr 86)).set 2 (kr 87)).set 3 (kr 88)).set 4 (kr 89)).set 5 (kr 90)).set 6 (kr 91)).set 7 (kr 92)).set 8 (kr 93)).set 9 (kr 94)).set 10 (kr 95)).set 11 (kr 96)).set 12 (kr 97)).set 13 (kr 98)).set 14 (kr 99)).set 15 (kr 100)).set 16 (kr 101)).set 17 (kr 102)).set 18 (kr 103)).set 19 (kr 104)).set 30 (kI (8))).set 33 (kr 105)).set 34 (kr 106)).set 35 (kr 107)).set 36 (kr 108)).set 37 (kr 109)).set 38 (kr 110)).set 39 (kr 111)).set 40 (kr 112)).set 41 (kr 113)).set 42 (kr 114)))))) 23 (.inl (0, 23, fun _ => 0))) 85 (.inr (.inr (11, (((((((((((((((((((((((((((((((((kfk 11).map kdef0).set 1 (kr 86)).set 2 (kr 87)).set 3 (kr 88)).set 4 (kr 89)).set 5 (kr 90)).set 6 (kr 91)).set 7 (kr 92)).set 8 (kr 93)).set 9 (kr 94)).set 10 (kr 95)).set 11 (kr 96)).set 12 (kr 97)).set 13 (kr 98)).set 14 (kr 99)).set 15 (kr 100)).set 16 (kr 101)).set 17 (kr 102)).set 18 (kr 103)).set 19 (kr 104)).set 30 (kI (8))).set 33 (kr 105)).set 34 (kr 106)).set 35 (kr 107)).set 36 (kr 108)).set 37 (kr 109)).set 38 (kr 110)).set 39 (kr 111)).set 40 (kr 112)).set 41 (kr 113)).set 42 (kr 114)).set 43 (kr 115)))))) 3 (.inl (0, 3, fun _ => 0))) 85 (.inr (.inr (11, ((((((((((((((((((((((((((((((((((kfk 11).map kdef0).set 1 (kr 86)).set 2 (kr 87)).set 3 (kr 88)).set 4 (kr 89)).set 5 (kr 90)).set 6 (kr 91)).set 7 (kr 92)).set 8 (kr 93)).set 9 (kr 94)).set 10 (kr 95)).set 11 (kr 96)).set 12 (kr 97)).set 13 (kr 98)).set 14 (kr 99)).set 15 (kr 100)).set 16 (kr 101)).set 17 (kr 102)).set 18 (kr 103)).set 19 (kr 104)).set 30 (kI (8))).set 33 (kr 105)).set 34 (kr 106)).set 35 (kr 107)).set 36 (kr 108)).set 37 (kr 109)).set 38 (kr 110)).set 39 (kr 111)).set 40 (kr 112)).set 41 (kr 113)).set 42 (kr 114)).set 43 (kr 115)).set 45 (kr 116)))))) 143 (.inl (3, 143, fun _ => 0))) 85 (.inr (.inr (11, (((((((((((((((((((((((((((((((((((kfk 11).map kdef0).set 1 (kr 86)).set 2 (kr 87)).set 3 (kr 88)).set 4 (kr 89)).set 5 (kr 90)).set 6 (kr 91)).set 7 (kr 92)).set 8 (kr 93)).set 9 (kr 94)).set 10 (kr 95)).set 11 (kr 96)).set 12 (kr 97)).set 13 (kr 98)).set 14 (kr 99)).set 15 (kr 100)).set 16 (kr 101)).set 17 (kr 102)).set 18 (kr 103)).set 19 (kr 104)).set 30 (kI (8))).set 33 (kr 105)).set 34 (kr 106)).set 35 (kr 107)).set 36 (kr 108)).set 37 (kr 109)).set 38 (kr 110)).set 39 (kr 111)).set 40 (kr 112)).set 41 (kr 113)).set 42 (kr 114)).set 43 (kr 115)).set 45 (kr 116)).set 46 (kr 117)))))) 199 (.inl (0, 199, fun _ => 0))) 85 (.inr (.inr (11, ((((((((((((((((((((((((((((((((((((kfk 11).map kdef0).set 1 (kr 86)).set 2 (kr 87)).set 3 (kr 88)).set 4 (kr 89)).set 5 (kr 90)).set 6 (kr 91)).set 7 (kr 92)).set 8 (kr 93)).set 9 (kr 94)).set 10 (kr 95)).set 11 (kr 96)).set 12 (kr 97)).set 13 (kr 98)).set 14 (kr 99)).set 15 (kr 100)).set 16 (kr 101)).set 17 (kr 102)).set 18 (kr 103)).set 19 (kr 104)).set 30 (kI (8))).set 33 (kr 105)).set 34 (kr 106)).set 35 (kr 107)).set 36 (kr 108)).set 37 (kr 109)).set 38 (kr 110)).set 39 (kr 111)).set 40 (kr 112)).set 41 (kr 113)).set 42 (kr 114)).set 43 (kr 115)).set 45 (kr 116)).set 46 (kr 117)).set 47 (kr 118)))))) 22 (.inl (0, 22, fun _ => 0))) 85 (.inr (.inr (11, (((((((((((((((((((((((((((((((((((((kfk 11).map kdef0).set 1 (kr 86)).set 2 (kr 87)).set 3 (kr 88)).set 4 (kr 89)).set 5 (kr 90)).set 6 (kr 91)).set 7 (kr 92)).set 8 (kr 93)).set 9 (kr 94)).set 10 (kr 95)).set 11 (kr 96)).set 12 (kr 97)).set 13 (kr 98)).set 14 (kr 99)).set 15 (kr 100)).set 16 (kr 101)).set 17 (kr 102)).set 18 (kr 103)).set 19 (kr 104)).set 30 (kI (8))).set 33 (kr 105)).set 34 (kr 106)).set 35 (kr 107)).set 36 (kr 108)).set 37 (kr 109)).set 38 (kr 110)).set 39 (kr 111)).set 40 (kr 112)).set 41 (kr 113)).set 42 (kr 114)).set 43 (kr 115)).set 45 (kr 116)).set 46 (kr 117)).set 47 (kr 118)).set 48 (kr 119)))))) 7224 (.inl (0, 7224, fun _ => 0))) 85 (.inr (.inr (11, ((((((((((((((((((((((((((((((((((((((kfk 11).map kdef0).set 1 (kr 86)).set 2 (kr 87)).set 3 (kr 88)).set 4 (kr 89)).set 5 (kr 90)).set 6 (kr 91)).set 7 (kr 92)).set 8 (kr 93)).set 9 (kr 94)).set 10 (kr 95)).set 11 (kr 96)).set 12 (kr 97)).set 13 (kr 98)).set 14 (kr 99)).set 15 (kr 100)).set 16 (kr 101)).set 17 (kr 102)).set 18 (kr 103)).set 19 (kr 104)).set 30 (kI (8))).set 33 (kr 105)).set 34 (kr 106)).set 35 (kr 107)).set 36 (kr 108)).set 37 (kr 109)).set 38 (kr 110)).set 39 (kr 111)).set 40 (kr 112)).set 41 (kr 113)).set 42 (kr 114)).set 43 (kr 115)).set 45 (kr 116)).set 46 (kr 117)).set 47 (kr 118)).set 48 (kr 119)).set 49 (kr 120)))))) 301 (.inl (0, 301, fun _ => 0))) 85 (.inr (.inr (11, (((((((((((((((((((((((((((((((((((((((kfk 11).map kdef0).set 1 (kr 86)).set 2 (kr 87)).set 3 (kr 88)).set 4 (kr 89)).set 5 (kr 90)).set 6 (kr 91)).set 7 (kr 92)).set 8 (kr 93)).set 9 (kr 94)).set 10 (kr 95)).set 11 (kr 96)).set 12 (kr 97)).set 13 (kr 98)).set 14 (kr 99)).set 15 (kr 100)).set 16 (kr 101)).set 17 (kr 102)).set 18 (kr 103)).set 19 (kr 104)).set 30 (kI (8))).set 33 (kr 105)).set 34 (kr 106)).set 35 (kr 107)).set 36 (kr 108)).set 37 (kr 109)).set 38 (kr 110)).set 39 (kr 111)).set 40 (kr 112)).set 41 (kr 113)).set 42 (kr 114)).set 43 (kr 115)).set 45 (kr 116)).set 46 (kr 117)).set 47 (kr 118)).set 48 (kr 119)).set 49 (kr 120)).set 50 (kr 121)))))) 301 (.inl (0, 301, fun _ => 0))) 85 (.inr (.inr (11, ((((((((((((((((((((((((((((((((((((((((kfk 11).map kdef0).set 1 (kr 86)).set 2 (kr 87)).set 3 (kr 88)).set 4 (kr 89)).set 5 (kr 90)).set 6 (kr 91)).set 7 (kr 92)).set 8 (kr 93)).set 9 (kr 94)).set 10 (kr 95)).set 11 (kr 96)).set 12 (kr 97)).set 13 (kr 98)).set 14 (kr 99)).set 15 (kr 100)).set 16 (kr 101)).set 17 (kr 102)).set 18 (kr 103)).set 19 (kr 104)).set 30 (kI (8))).set 33 (kr 105)).set 34 (kr 106)).set 35 (kr 107)).set 36 (kr 108)).set 37 (kr 109)).set 38 (kr 110)).set 39 (kr 111)).set 40 (kr 112)).set 41 (kr 113)).set 42 (kr 114)).set 43 (kr 115)).set 45 (kr 116)).set 46 (kr 117)).set 47 (kr 118)).set 48 (kr 119)).set 49 (kr 120)).set 50 (kr 121)).set 51 (kr 122)))))) 280 (.inl (0, 280, fun _ => 0))) 85 (.inr (.inr (11, (((((((((((((((((((((((((((((((((((((((((kfk 11).map kdef0).set 1 (kr 86)).set 2 (kr 87)).set 3 (kr 88)).set 4 (kr 89)).set 5 (kr 90)).set 6 (kr 91)).set 7 (kr 92)).set 8 (kr 93)).set 9 (kr 94)).set 10 (kr 95)).set 11 (kr 96)).set 12 (kr 97)).set 13 (kr 98)).set 14 (kr 99)).set 15 (kr 100)).set 16 (kr 101)).set 17 (kr 102)).set 18 (kr 103)).set 19 (kr 104)).set 30 (kI (8))).set 33 (kr 105)).set 34 (kr 106)).set 35 (kr 107)).set 36 (kr 108)).set 37 (kr 109)).set 38 (kr 110)).set 39 (kr 111)).set 40 (kr 112)).set 41 (kr 113)).set 42 (kr 114)).set 43 (kr 115)).set 45 (kr 116)).set 46 (kr 117)).set 47 (kr 118)).set 48 (kr 119)).set 49 (kr 120)).set 50 (kr 121)).set 51 (kr 122)).set 55 (kr 123)))))) 4 (.inl (4, 4, fun _ => 0))) 85 (.inr (.inr (11, ((((((((((((((((((((((((((((((((((((((((((kfk 11).map kdef0).set 1 (kr 86)).set 2 (kr 87)).set 3 (kr 88)).set 4 (kr 89)).set 5 (kr 90)).set 6 (kr 91)).set 7 (kr 92)).set 8 (kr 93)).set 9 (kr 94)).set 10 (kr 95)).set 11 (kr 96)).set 12 (kr 97)).set 13 (kr 98)).set 14 (kr 99)).set 15 (kr 100)).set 16 (kr 101)).set 17 (kr 102)).set 18 (kr 103)).set 19 (kr 104)).set 30 (kI (8))).set 33 (kr 105)).set 34 (kr 106)).set 35 (kr 107)).set 36 (kr 108)).set 37 (kr 109)).set 38 (kr 110)).set 39 (kr 111)).set 40 (kr 112)).set 41 (kr 113)).set 42 (kr 114)).set 43 (kr 115)).set 45 (kr 116)).set 46 (kr 117)).set 47 (kr 118)).set 48 (kr 119)).set 49 (kr 120)).set 50 (kr 121)).set 51 (kr 122)).set 55 (kr 123)).set 56 (kr 124)))))) := kmB_init rfl rfl rfl
  refine ⟨(kput (kadd (kput (kadd (kput (kadd (kput (kadd (kput (kadd (kput (kadd (kput (kadd (kput (kadd (kput (kadd (kput (kadd (kput (kadd (kput (kadd (kput (kadd (kput (kadd (kput (kadd (kput (kadd (kput (kadd (kput (kadd (kput (kadd (kput (kadd (kput (kput (kadd (kput (kadd (kput (kadd (kput (kadd (kput (kadd (kput (kadd (kput (kadd (kput (kadd (kput (kadd (kput (kadd (kput (kadd (kput (kadd (kput (kadd (kput (kadd (kput (kadd (kput (kadd (kput (kadd (kput (kadd (kput (kput (kput (kput (kput (kput (kput (kadd (86, z, f) 6 (.inl (0, 6, fun _ => 0))) 86 (.inl (0, 6, (kup (fun _ => 0) 0 (0))))) 86 (.inl (0, 6, (kup (kup (fun _ => 0) 0 (0)) 1 (0))))) 86 (.inl (0, 6, (kup (kup (kup (fun _ => 0) 0 (0)) 1 (0)) 2 (0))))) 86 (.inl (0, 6, (kup (kup (kup (kup (fun _ => 0) 0 (0)) 1 (0)) 2 (0)) 3 (0))))) 86 (.inl (0, 6, (kup (kup (kup (kup (kup (fun _ => 0) 0 (0)) 1 (0)) 2 (0)) 3 (0)) 4 (0))))) 86 (.inl (0, 6, (kup (kup (kup (kup (kup (kup (fun _ => 0) 0 (0)) 1 (0)) 2 (0)) 3 (0)) 4 (0)) 5 (-1))))) 85 (.inr (.inr (11, (((kfk 11).map kdef0).set 1 (kr 86)))))) 22 (.inl (0, 22, fun _ => 0))) 85 (.inr (.inr (11, ((((kfk 11).map kdef0).set 1 (kr 86)).set 2 (kr 87)))))) 22 (.inl (0, 22, fun _ => 0))) 85 (.inr (.inr (11, (((((kfk 11).map kdef0).set 1 (kr 86)).set 2 (kr 87)).set 3 (kr 88)))))) 11 (.inl (0, 11, fun _ => 0))) 85 (.inr (.inr (11, ((((((kfk 11).map kdef0).set 1 (kr 86)).set 2 (kr 87)).set 3 (kr 88)).set 4 (kr 89)))))) 3 (.inl (0, 3, fun _ => 0))) 85 (.inr (.inr (11, (((((((kfk 11).map kdef0).set 1 (kr 86)).set 2 (kr 87)).set 3 (kr 88)).set 4 (kr 89)).set 5 (kr 90)))))) 22 (.inl (0, 22, fun _ => 0))) 85 (.inr (.inr (11, ((((((((kfk 11).map kdef0).set 1 (kr 86)).set 2 (kr 87)).set 3 (kr 88)).set 4 (kr 89)).set 5 (kr 90)).set 6 (kr 91)))))) 22 (.inl (0, 22, fun _ => 0))) 85 (.inr (.inr (11, (((((((((kfk 11).map kdef0).set 1 (kr 86)).set 2 (kr 87)).set 3 (kr 88)).set 4 (kr 89)).set 5 (kr 90)).set 6 (kr 91)).set 7 (kr 92)))))) 11 (.inl (0, 11, fun _ => 0))) 85 (.inr (.inr (11, ((((((((((kfk 11).map kdef0).set 1 (kr 86)).set 2 (kr 87)).set 3 (kr 88)).set 4 (kr 89)).set 5 (kr 90)).set 6 (kr 91)).set 7 (kr 92)).set 8 (kr 93)))))) 6 (.inl (0, 6, fun _ => 0))) 85 (.inr (.inr (11, (((((((((((kfk 11).map kdef0).set 1 (kr 86)).set 2 (kr 87)).set 3 (kr 88)).set 4 (kr 89)).set 5 (kr 90)).set 6 (kr 91)).set 7 (kr 92)).set 8 (kr 93)).set 9 (kr 94)))))) 22 (.inl (0, 22, fun _ => 0))) 85 (.inr (.inr (11, ((((((((((((kfk 11).map kdef0).set 1 (kr 86)).set 2 (kr 87)).set 3 (kr 88)).set 4 (kr 89)).set 5 (kr 90)).set 6 (kr 91)).set 7 (kr 92)).set 8 (kr 93)).set 9 (kr 94)).set 10 (kr 95)))))) 22 (.inl (0, 22, fun _ => 0))) 85 (.inr (.inr (11, (((((((((((((kfk 11).map kdef0).set 1 (kr 86)).set 2 (kr 87)).set 3 (kr 88)).set 4 (kr 89)).set 5 (kr 90)).set 6 (kr 91)).set 7 (kr 92)).set 8 (kr 93)).set 9 (kr 94)).set 10 (kr 95)).set 11 (kr 96)))))) 11 (.inl (0, 11, fun _ => 0))) 85 (.inr (.inr (11, ((((((((((((((kfk 11).map kdef0).set 1 (kr 86)).set 2 (kr 87)).set 3 (kr 88)).set 4 (kr 89)).set 5 (kr 90)).set 6 (kr 91)).set 7 (kr 92)).set 8 (kr 93)).set 9 (kr 94)).set 10 (kr 95)).set 11 (kr 96)).set 12 (kr 97)))))) 11 (.inl (0, 11, fun _ => 0))) 85 (.inr (.inr (11, (((((((((((((((kfk 11).map kdef0).set 1 (kr 86)).set 2 (kr 87)).set 3 (kr 88)).set 4 (kr 89)).set 5 (kr 90)).set 6 (kr 91)).set 7 (kr 92)).set 8 (kr 93)).set 9 (kr 94)).set 10 (kr 95)).set 11 (kr 96)).set 12 (kr 97)).set 13 (kr 98)))))) 11 (.inl (0, 11, fun _ => 0))) 85 (.inr (.inr (11, ((((((((((((((((kfk 11).map kdef0).set 1 (kr 86)).set 2 (kr 87)).set 3 (kr 88)).set 4 (kr 89)).set 5 (kr 90)).set 6 (kr 91)).set 7 (kr 92)).set 8 (kr 93)).set 9 (kr 94)).set 10 (kr 95)).set 11 (kr 96)).set 12 (kr 97)).set 13 (kr 98)).set 14 (kr 99)))))) 44 (.inl (0, 44, fun _ => 0))) 85 (.inr (.inr (11, (((((((((((((((((kfk 11).map kdef0).set 1 (kr 86)).set 2 (kr 87)).set 3 (kr 88)).set 4 (kr 89)).set 5 (kr 90)).set 6 (kr 91)).set 7 (kr 92)).set 8 (kr 93)).set 9 (kr 94)).set 10 (kr 95)).set 11 (kr 96)).set 12 (kr 97)).set 13 (kr 98)).set 14 (kr 99)).set 15 (kr 100)))))) 44 (.inl (0, 44, fun _ => 0))) 85 (.inr (.inr (11, ((((((((((((((((((kfk 11).map kdef0).set 1 (kr 86)).set 2 (kr 87)).set 3 (kr 88)).set 4 (kr 89)).set 5 (kr 90)).set 6 (kr 91)).set 7 (kr 92)).set 8 (kr 93)).set 9 (kr 94)).set 10 (kr 95)).set 11 (kr 96)).set 12 (kr 97)).set 13 (kr 98)).set 14 (kr 99)).set 15 (kr 100)).set 16 (kr 101)))))) 44 (.inl (0, 44, fun _ => 0))) 85 (.inr (.inr (11, (((((((((((((((((((kfk 11).map kdef0).set 1 (kr 86)).set 2 (kr 87)).set 3 (kr 88)).set 4 (kr 89)).set 5 (kr 90)).set 6 (kr 91)).set 7 (kr 92)).set 8 (kr 93)).set 9 (kr 94)).set 10 (kr 95)).set 11 (kr 96)).set 12 (kr 97)).set 13 (kr 98)).set 14 (kr 99)).set 15 (kr 100)).set 16 (kr 101)).set 17 (kr 102)))))) 44 (.inl (0, 44, fun _ => 0))) 85 (.inr (.inr (11, ((((((((((((((((((((kfk 11).map kdef0).set 1 (kr 86)).set 2 (kr 87)).set 3 (kr 88)).set 4 (kr 89)).set 5 (kr 90)).set 6 (kr 91)).set 7 (kr 92)).set 8 (kr 93)).set 9 (kr 94)).set 10 (kr 95)).set 11 (kr 96)).set 12 (kr 97)).set 13 (kr 98)).set 14 (kr 99)).set 15 (kr 100)).set 16 (kr 101)).set 17 (kr 102)).set 18 (kr 103)))))) 11 (.inl (0, 11, fun _ => 0))) 85 (.inr (.inr (11, (((((((((((((((((((((kfk 11).map kdef0).set 1 (kr 86)).set 2 (kr 87)).set 3 (kr 88)).set 4 (kr 89)).set 5 (kr 90)).set 6 (kr 91)).set 7 (kr 92)).set 8 (kr 93)).set 9 (kr 94)).set 10 (kr 95)).set 11 (kr 96)).set 12 (kr 97)).set 13 (kr 98)).set 14 (kr 99)).set 15 (kr 100)).set 16 (kr 101)).set 17 (kr 102)).set 18 (kr 103)).set 19 (kr 104)))))) 85 (.inr (.inr (11, ((((((((((((((((((((((kfk 11).map kdef0).set 1 (kr 86)).set 2 (kr 87)).set 3 (kr 88)).set 4 (kr 89)).set 5 (kr 90)).set 6 (kr 91)).set 7 (kr 92)).set 8 (kr 93)).set 9 (kr 94)).set 10 (kr 95)).set 11 (kr 96)).set 12 (kr 97)).set 13 (kr 98)).set 14 (kr 99)).set 15 (kr 100)).set 16 (kr 101)).set 17 (kr 102)).set 18 (kr 103)).set 19 (kr 104)).set 30 (kI (8))))))) 400 (.inl (1, 400, fun _ => 0))) 85 (.inr (.inr (11, (((((((((((((((((((((((kfk 11).map kdef0).set 1 (kr 86)).set 2 (kr 87)).set 3 (kr 88)).set 4 (kr 89)).set 5 (kr 90)).set 6 (kr 91)).set 7 (kr 92)).set 8 (kr 93)).set 9 (kr 94)).set 10 (kr 95)).set 11 (kr 96)).set 12 (kr 97)).set 13 (kr 98)).set 14 (kr 99)).set 15 (kr 100)).set 16 (kr 101)).set 17 (kr 102)).set 18 (kr 103)).set 19 (kr 104)).set 30 (kI (8))).set 33 (kr 105)))))) 1800 (.inl (0, 1800, fun _ => 0))) 85 (.inr (.inr (11, ((((((((((((((((((((((((kfk 11).map kdef0).set 1 (kr 86)).set 2 (kr 87)).set 3 (kr 88)).set 4 (kr 89)).set 5 (kr 90)).set 6 (kr 91)).set 7 (kr 92)).set 8 (kr 93)).set 9 (kr 94)).set 10 (kr 95)).set 11 (kr 96)).set 12 (kr 97)).set 13 (kr 98)).set 14 (kr 99)).set 15 (kr 100)).set 16 (kr 101)).set 17 (kr 102)).set 18 (kr 103)).set 19 (kr 104)).set 30 (kI (8))).set 33 (kr 105)).set 34 (kr 106)))))) 1800 (.inl (0, 1800, fun _ => 0))) 85 (.inr (.inr (11, (((((((((((((((((((((((((kfk 11).map kdef0).set 1 (kr 86)).set 2 (kr 87)).set 3 (kr 88)).set 4 (kr 89)).set 5 (kr 90)).set 6 (kr 91)).set 7 (kr 92)).set 8 (kr 93)).set 9 (kr 94)).set 10 (kr 95)).set 11 (kr 96)).set 12 (kr 97)).set 13 (kr 98)).set 14 (kr 99)).set 15 (kr 100)).set 16 (kr 101)).set 17 (kr 102)).set 18 (kr 103)).set 19 (kr 104)).set 30 (kI (8))).set 33 (kr 105)).set 34 (kr 106)).set 35 (kr 107)))))) 6 (.inl (0, 6, fun _ => 0))) 85 (.inr (.inr (11, ((((((((((((((((((((((((((kfk 11).map kdef0).set 1 (kr 86)).set 2 (kr 87)).set 3 (kr 88)).set 4 (kr 89)).set 5 (kr 90)).set 6 (kr 91)).set 7 (kr 92)).set 8 (kr 93)).set 9 (kr 94)).set 10 (kr 95)).set 11 (kr 96)).set 12 (kr 97)).set 13 (kr 98)).set 14 (kr 99)).set 15 (kr 100)).set 16 (kr 101)).set 17 (kr 102)).set 18 (kr 103)).set 19 (kr 104)).set 30 (kI (8))).set 33 (kr 105)).set 34 (kr 106)).set 35 (kr 107)).set 36 (kr 108)))))) 72 (.inl (0, 72, fun _ => 0))) 85 (.inr (.inr (11, (((((((((((((((((((((((((((kfk 11).map kdef0).set 1 (kr 86)).set 2 (kr 87)).set 3 (kr 88)).set 4 (kr 89)).set 5 (kr 90)).set 6 (kr 91)).set 7 (kr 92)).set 8 (kr 93)).set 9 (kr 94)).set 10 (kr 95)).set 11 (kr 96)).set 12 (kr 97)).set 13 (kr 98)).set 14 (kr 99)).set 15 (kr 100)).set 16 (kr 101)).set 17 (kr 102)).set 18 (kr 103)).set 19 (kr 104)).set 30 (kI (8))).set 33 (kr 105)).set 34 (kr 106)).set 35 (kr 107)).set 36 (kr 108)).set 37 (kr 109)))))) 72 (.inl (0, 72, fun _ => 0))) 85 (.inr (.inr (11, ((((((((((((((((((((((((((((kfk 11).map kdef0).set 1 (kr 86)).set 2 (kr 87)).set 3 (kr 88)).set 4 (kr 89)).set 5 (kr 90)).set 6 (kr 91)).set 7 (kr 92)).set 8 (kr 93)).set 9 (kr 94)).set 10 (kr 95)).set 11 (kr 96)).set 12 (kr 97)).set 13 (kr 98)).set 14 (kr 99)).set 15 (kr 100)).set 16 (kr 101)).set 17 (kr 102)).set 18 (kr 103)).set 19 (kr 104)).set 30 (kI (8))).set 33 (kr 105)).set 34 (kr 106)).set 35 (kr 107)).set 36 (kr 108)).set 37 (kr 109)).set 38 (kr 110)))))) 402 (.inl (0, 402, fun _ => 0))) 85 (.inr (.inr (11, (((((((((((((((((((((((((((((kfk 11).map kdef0).set 1 (kr 86)).set 2 (kr 87)).set 3 (kr 88)).set 4 (kr 89)).set 5 (kr 90)).set 6 (kr 91)).set 7 (kr 92)).set 8 (kr 93)).set 9 (kr 94)).set 10 (kr 95)).set 11 (kr 96)).set 12 (kr 97)).set 13 (kr 98)).set 14 (kr 99)).set 15 (kr 100)).set 16 (kr 101)).set 17 (kr 102)).set 18 (kr 103)).set 19 (kr 104)).set 30 (kI (8))).set 33 (kr 105)).set 34 (kr 106)).set 35 (kr 107)).set 36 (kr 108)).set 37 (kr 109)).set 38 (kr 110)).set 39 (kr 111)))))) 8 (.inl (3, 8, fun _ => 0))) 85 (.inr (.inr (11, ((((((((((((((((((((((((((((((kfk 11).map kdef0).set 1 (kr 86)).set 2 (kr 87)).set 3 (kr 88)).set 4 (kr 89)).set 5 (kr 90)).set 6 (kr 91)).set 7 (kr 92)).set 8 (kr 93)).set 9 (kr 94)).set 10 (kr 95)).set 11 (kr 96)).set 12 (kr 97)).set 13 (kr 98)).set 14 (kr 99)).set 15 (kr 100)).set 16 (kr 101)).set 17 (kr 102)).set 18 (kr 103)).set 19 (kr 104)).set 30 (kI (8))).set 33 (kr 105)).set 34 (kr 106)).set 35 (kr 107)).set 36 (kr 108)).set 37 (kr 109)).set 38 (kr 110)).set 39 (kr 111)).set 40 (kr 112)))))) 300 (.inl (3, 300, fun _ => 0))) 85 (.inr (.inr (11, (((((((((((((((((((((((((((((((kfk 11).map kdef0).set 1 (kr 86)).set 2 (kr 87)).set 3 (kr 88)).set 4 (kr 89)).set 5 (kr 90)).set 6 (kr 91)).set 7 (kr 92)).set 8 (kr 93)).set 9 (kr 94)).set 10 (kr 95)).set 11 (kr 96)).set 12 (kr 97)).set 13 (kr 98)).set 14 (kr 99)).set 15 (kr 100)).set 16 (kr 101)).set 17 (kr 102)).set 18 (kr 103)).set 19 (kr 104)).set 30 (kI (8))).set 33 (kr 105)).set 34 (kr 106)).set 35 (kr 107)).set 36 (kr 108)).set 37 (kr 109)).set 38 (kr 110)).set 39 (kr 111)).set 40 (kr 112)).set 41 (kr 113)))))) 22 (.inl (0, 22, fun _ => 0))) 85 (.inr (.inr (11, ((((((((((((((((((((((((((((((((kfk 11).map kdef0).set 1 (kr 86)).set 2 (kr 87)).set 3 (kr 88)).set 4 (kr 89)).set 5 (kr 90)).set 6 (kr 91)).set 7 (kr 92)).set 8 (kr 93)).set 9 (kr 94)).set 10 (kr 95)).set 11 (kr 96)).set 12 (kr 97)).set 13 (kr 98)).set 14 (kr 99)).set 15 (kr 100)).set 16 (kr 101)).set 17 (kr 102)).set 18 (kr 103)).set 19 (kr 104)).set 30 (kI (8))).set 33 (kr 105)).set 34 (kr 106)).set 35 (kr 107)).set 36 (kr 108)).set 37 (kr 109)).set 38 (kr 110)).set 39 (kr 111)).set 40 (kr 112)).set 41 (kr 113)).set 42 (kr 114)))))) 23 (.inl (0, 23, fun _ => 0))) 85 (.inr (.inr (11, (((((((((((((((((((((((((((((((((kfk 11).map kdef0).set 1 (kr 86)).set 2 (kr 87)).set 3 (kr 88)).set 4 (kr 89)).set 5 (kr 90)).set 6 (kr 91)).set 7 (kr 92)).set 8 (kr 93)).set 9 (kr 94)).set 10 (kr 95)).set 11 (kr 96)).set 12 (kr 97)).set 13 (kr 98)).set 14 (kr 99)).set 15 (kr 100)).set 16 (kr 101)).set 17 (kr 102)).set 18 (kr 103)).set 19 (kr 104)).set 30 (kI (8))).set 33 (kr 105)).set 34 (kr 106)).set 35 (kr 107)).set 36 (kr 108)).set 37 (kr 109)).set 38 (kr 110)).set 39 (kr 111)).set 40 (kr 112)).set 41 (kr 113)).set 42 (kr 114)).set 43 (kr 115)))))) 3 (.inl (0, 3, fun _ => 0))) 85 (.inr (.inr (11, ((((((((((((((((((((((((((((((((((kfk 11).map kdef0).set 1 (kr 86)).set 2 (kr 87)).set 3 (kr 88)).set 4 (kr 89)).set 5 (kr 90)).set 6 (kr 91)).set 7 (kr 92)).set 8 (kr 93)).set 9 (kr 94)).set 10 (kr 95)).set 11 (kr 96)).set 12 (kr 97)).set 13 (kr 98)).set 14 (kr 99)).set 15 (kr 100)).set 16 (kr 101)).set 17 (kr 102)).set 18 (kr 103)).set 19 (kr 104)).set 30 (kI (8))).set 33 (kr 105)).set 34 (kr 106)).set 35 (kr 107)).set 36 (kr 108)).set 37 (kr 109)).set 38 (kr 110)).set 39 (kr 111)).set 40 (kr 112)).set 41 (kr 113)).set 42 (kr 114)).set 43 (kr 115)).set 45 (kr 116)))))) 143 (.inl (3, 143, fun _ => 0))) 85 (.inr (.inr (11, (((((((((((((((((((((((((((((((((((kfk 11).map kdef0).set 1 (kr 86)).set 2 (kr 87)).set 3 (kr 88)).set 4 (kr 89)).set 5 (kr 90)).set 6 (kr 91)).set 7 (kr 92)).set 8 (kr 93)).set 9 (kr 94)).set 10 (kr 95)).set 11 (kr 96)).set 12 (kr 97)).set 13 (kr 98)).set 14 (kr 99)).set 15 (kr 100)).set 16 (kr 101)).set 17 (kr 102)).set 18 (kr 103)).set 19 (kr 104)).set 30 (kI (8))).set 33 (kr 105)).set 34 (kr 106)).set 35 (kr 107)).set 36 (kr 108)).set 37 (kr 109)).set 38 (kr 110)).set 39 (kr 111)).set 40 (kr 112)).set 41 (kr 113)).set 42 (kr 114)).set 43 (kr 115)).set 45 (kr 116)).set 46 (kr 117)))))) 199 (.inl (0, 199, fun _ => 0))) 85 (.inr (.inr (11, ((((((((((((((((((((((((((((((((((((kfk 11).map kdef0).set 1 (kr 86)).set 2 (kr 87)).set 3 (kr 88)).set 4 (kr 89)).set 5 (kr 90)).set 6 (kr 91)).set 7 (kr 92)).set 8 (kr 93)).set 9 (kr 94)).set 10 (kr 95)).set 11 (kr 96)).set 12 (kr 97)).set 13 (kr 98)).set 14 (kr 99)).set 15 (kr 100)).set 16 (kr 101)).set 17 (kr 102)).set 18 (kr 103)).set 19 (kr 104)).set 30 (kI (8))).set 33 (kr 105)).set 34 (kr 106)).set 35 (kr 107)).set 36 (kr 108)).set 37 (kr 109)).set 38 (kr 110)).set 39 (kr 111)).set 40 (kr 112)).set 41 (kr 113)).set 42 (kr 114)).set 43 (kr 115)).set 45 (kr 116)).set 46 (kr 117)).set 47 (kr 118)))))) 22 (.inl (0, 22, fun _ => 0))) 85 (.inr (.inr (11, (((((((((((((((((((((((((((((((((((((kfk 11).map kdef0).set 1 (kr 86)).set 2 (kr 87)).set 3 (kr 88)).set 4 (kr 89)).set 5 (kr 90)).set 6 (kr 91)).set 7 (kr 92)).set 8 (kr 93)).set 9 (kr 94)).set 10 (kr 95)).set 11 (kr 96)).set 12 (kr 97)).set 13 (kr 98)).set 14 (kr 99)).set 15 (kr 100)).set 16 (kr 101)).set 17 (kr 102)).set 18 (kr 103)).set 19 (kr 104)).set 30 (kI (8))).set 33 (kr 105)).set 34 (kr 106)).set 35 (kr 107)).set 36 (kr 108)).set 37 (kr 109)).set 38 (kr 110)).set 39 (kr 111)).set 40 (kr 112)).set 41 (kr 113)).set 42 (kr 114)).set 43 (kr 115)).set 45 (kr 116)).set 46 (kr 117)).set 47 (kr 118)).set 48 (kr 119)))))) 7224 (.inl (0, 7224, fun _ => 0))) 85 (.inr (.inr (11, ((((((((((((((((((((((((((((((((((((((kfk 11).map kdef0).set 1 (kr 86)).set 2 (kr 87)).set 3 (kr 88)).set 4 (kr 89)).set 5 (kr 90)).set 6 (kr 91)).set 7 (kr 92)).set 8 (kr 93)).set 9 (kr 94)).set 10 (kr 95)).set 11 (kr 96)).set 12 (kr 97)).set 13 (kr 98)).set 14 (kr 99)).set 15 (kr 100)).set 16 (kr 101)).set 17 (kr 102)).set 18 (kr 103)).set 19 (kr 104)).set 30 (kI (8))).set 33 (kr 105)).set 34 (kr 106)).set 35 (kr 107)).set 36 (kr 108)).set 37 (kr 109)).set 38 (kr 110)).set 39 (kr 111)).set 40 (kr 112)).set 41 (kr 113)).set 42 (kr 114)).set 43 (kr 115)).set 45 (kr 116)).set 46 (kr 117)).set 47 (kr 118)).set 48 (kr 119)).set 49 (kr 120)))))) 301 (.inl (0, 301, fun _ => 0))) 85 (.inr (.inr (11, (((((((((((((((((((((((((((((((((((((((kfk 11).map kdef0).set 1 (kr 86)).set 2 (kr 87)).set 3 (kr 88)).set 4 (kr 89)).set 5 (kr 90)).set 6 (kr 91)).set 7 (kr 92)).set 8 (kr 93)).set 9 (kr 94)).set 10 (kr 95)).set 11 (kr 96)).set 12 (kr 97)).set 13 (kr 98)).set 14 (kr 99)).set 15 (kr 100)).set 16 (kr 101)).set 17 (kr 102)).set 18 (kr 103)).set 19 (kr 104)).set 30 (kI (8))).set 33 (kr 105)).set 34 (kr 106)).set 35 (kr 107)).set 36 (kr 108)).set 37 (kr 109)).set 38 (kr 110)).set 39 (kr 111)).set 40 (kr 112)).set 41 (kr 113)).set 42 (kr 114)).set 43 (kr 115)).set 45 (kr 116)).set 46 (kr 117)).set 47 (kr 118)).set 48 (kr 119)).set 49 (kr 120)).set 50 (kr 121)))))) 301 (.inl (0, 301, fun _ => 0))) 85 (.inr (.inr (11, ((((((((((((((((((((((((((((((((((((((((kfk 11).map kdef0).set 1 (kr 86)).set 2 (kr 87)).set 3 (kr 88)).set 4 (kr 89)).set 5 (kr 90)).set 6 (kr 91)).set 7 (kr 92)).set 8 (kr 93)).set 9 (kr 94)).set 10 (kr 95)).set 11 (kr 96)).set 12 (kr 97)).set 13 (kr 98)).set 14 (kr 99)).set 15 (kr 100)).set 16 (kr 101)).set 17 (kr 102)).set 18 (kr 103)).set 19 (kr 104)).set 30 (kI (8))).set 33 (kr 105)).set 34 (kr 106)).set 35 (kr 107)).set 36 (kr 108)).set 37 (kr 109)).set 38 (kr 110)).set 39 (kr 111)).set 40 (kr 112)).set 41 (kr 113)).set 42 (kr 114)).set 43 (kr 115)).set 45 (kr 116)).set 46 (kr 117)).set 47 (kr 118)).set 48 (kr 119)).set 49 (kr 120)).set 50 (kr 121)).set 51 (kr 122)))))) 280 (.inl (0, 280, fun _ => 0))) 85 (.inr (.inr (11, (((((((((((((((((((((((((((((((((((((((((kfk 11).map kdef0).set 1 (kr 86)).set 2 (kr 87)).set 3 (kr 88)).set 4 (kr 89)).set 5 (kr 90)).set 6 (kr 91)).set 7 (kr 92)).set 8 (kr 93)).set 9 (kr 94)).set 10 (kr 95)).set 11 (kr 96)).set 12 (kr 97)).set 13 (kr 98)).set 14 (kr 99)).set 15 (kr 100)).set 16 (kr 101)).set 17 (kr 102)).set 18 (kr 103)).set 19 (kr 104)).set 30 (kI (8))).set 33 (kr 105)).set 34 (kr 106)).set 35 (kr 107)).set 36 (kr 108)).set 37 (kr 109)).set 38 (kr 110)).set 39 (kr 111)).set 40 (kr 112)).set 41 (kr 113)).set 42 (kr 114)).set 43 (kr 115)).set 45 (kr 116)).set 46 (kr 117)).set 47 (kr 118)).set 48 (kr 119)).set 49 (kr 120)).set 50 (kr 121)).set 51 (kr 122)).set 55 (kr 123)))))) 4 (.inl (4, 4, fun _ => 0))) 85 (.inr (.inr (11, ((((((((((((((((((((((((((((((((((((((((((kfk 11).map kdef0).set 1 (kr 86)).set 2 (kr 87)).set 3 (kr 88)).set 4 (kr 89)).set 5 (kr 90)).set 6 (kr 91)).set 7 (kr 92)).set 8 (kr 93)).set 9 (kr 94)).set 10 (kr 95)).set 11 (kr 96)).set 12 (kr 97)).set 13 (kr 98)).set 14 (kr 99)).set 15 (kr 100)).set 16 (kr 101)).set 17 (kr 102)).set 18 (kr 103)).set 19 (kr 104)).set 30 (kI (8))).set 33 (kr 105)).set 34 (kr 106)).set 35 (kr 107)).set 36 (kr 108)).set 37 (kr 109)).set 38 (kr 110)).set 39 (kr 111)).set 40 (kr 112)).set 41 (kr 113)).set 42 (kr 114)).set 43 (kr 115)).set 45 (kr 116)).set 46 (kr 117)).set 47 (kr 118)).set 48 (kr 119)).set 49 (kr 120)).set 50 (kr 121)).set 51 (kr 122)).set 55 (kr 123)).set 56 (kr 124)))))), rfl, ?_, hfr, ?_, hw, hb, rfl, rfl, rfl, rfl, rfl, rfl, rfl, rfl, rfl, rfl, rfl, rfl, rfl, rfl, rfl, rfl, rfl, rfl, rfl, rfl, rfl, rfl, rfl, rfl, rfl, rfl, rfl, rfl, rfl, rfl, rfl, rfl, rfl, rfl, rfl, rfl, rfl, rfl, rfl, rfl⟩
  · refine kR.start rfl ?_
    show kW sc 2 kc_M_init 0 0 [some (kr 85)] [] (86, z, f) _
    refine kw_step rfl rfl rfl rfl ?_
    refine kw_step rfl rfl rfl rfl ?_
    refine kw_step rfl rfl rfl rfl ?_
    refine kw_step rfl rfl rfl rfl ?_
    refine kw_step rfl rfl rfl rfl ?_
    refine kw_step rfl rfl rfl rfl ?_
    refine kw_step rfl rfl rfl rfl ?_
    refine kw_step rfl rfl rfl rfl ?_
    refine kw_iast (n := 6) (f := (fun _ => 0)) rfl rfl (by decide) (by decide) (j := 0) rfl ?_
    refine kw_step rfl rfl rfl rfl ?_
    refine kw_step rfl rfl rfl rfl ?_
    refine kw_step rfl rfl rfl rfl ?_
    refine kw_iast (n := 6) (f := (kup (fun _ => 0) 0 (0))) rfl rfl (by decide) (by decide) (j := 1) rfl ?_
    refine kw_step rfl rfl rfl rfl ?_
    refine kw_step rfl rfl rfl rfl ?_
    refine kw_step rfl rfl rfl rfl ?_
    refine kw_iast (n := 6) (f := (kup (kup (fun _ => 0) 0 (0)) 1 (0))) rfl rfl (by decide) (by decide) (j := 2) rfl ?_
    refine kw_step rfl rfl rfl rfl ?_
    refine kw_step rfl rfl rfl rfl ?_
    refine kw_step rfl rfl rfl rfl ?_
    refine kw_iast (n := 6) (f := (kup (kup (kup (fun _ => 0) 0 (0)) 1 (0)) 2 (0))) rfl rfl (by decide) (by decide) (j := 3) rfl ?_
    refine kw_step rfl rfl rfl rfl ?_
    refine kw_step rfl rfl rfl rfl ?_
    refine kw_step rfl rfl rfl rfl ?_
    refine kw_iast (n := 6) (f := (kup (kup (kup (kup (fun _ => 0) 0 (0)) 1 (0)) 2 (0)) 3 (0))) rfl rfl (by decide) (by decide) (j := 4) rfl ?_
    refine kw_step rfl rfl rfl rfl ?_
    refine kw_step rfl rfl rfl rfl ?_
    refine kw_step rfl rfl rfl rfl ?_
    refine kw_iast (n := 6) (f := (kup (kup (kup (kup (kup (fun _ => 0) 0 (0)) 1 (0)) 2 (0)) 3 (0)) 4 (0))) rfl rfl (by decide) (by decide) (j := 5) rfl ?_
    refine kw_put (fs := ((kfk 11).map kdef0)) rfl hf (Nat.le_of_ble_eq_true rfl) rfl ?_
    refine kw_step rfl rfl rfl rfl ?_
    refine kw_step rfl rfl rfl rfl ?_
    refine kw_step rfl rfl rfl rfl ?_
    refine kw_put (fs := (((kfk 11).map kdef0).set 1 (kr 86))) rfl rfl (Nat.le_of_ble_eq_true rfl) rfl ?_
    refine kw_step rfl rfl rfl rfl ?_
    refine kw_step rfl rfl rfl rfl ?_
    refine kw_step rfl rfl rfl rfl ?_
    refine kw_put (fs := ((((kfk 11).map kdef0).set 1 (kr 86)).set 2 (kr 87))) rfl rfl (Nat.le_of_ble_eq_true rfl) rfl ?_
    refine kw_step rfl rfl rfl rfl ?_
    refine kw_step rfl rfl rfl rfl ?_
    refine kw_step rfl rfl rfl rfl ?_
    refine kw_put (fs := (((((kfk 11).map kdef0).set 1 (kr 86)).set 2 (kr 87)).set 3 (kr 88))) rfl rfl (Nat.le_of_ble_eq_true rfl) rfl ?_
    refine kw_step rfl rfl rfl rfl ?_
    refine kw_step rfl rfl rfl rfl ?_
    refine kw_step rfl rfl rfl rfl ?_
    refine kw_put (fs := ((((((kfk 11).map kdef0).set 1 (kr 86)).set 2 (kr 87)).set 3 (kr 88)).set 4 (kr 89))) rfl rfl (Nat.le_of_ble_eq_true rfl) rfl ?_
    refine kw_step rfl rfl rfl rfl ?_
    refine kw_step rfl rfl rfl rfl ?_
    refine kw_step rfl rfl rfl rfl ?_
    refine kw_put (fs := (((((((kfk 11).map kdef0).set 1 (kr 86)).set 2 (kr 87)).set 3 (kr 88)).set 4 (kr 89)).set 5 (kr 90))) rfl rfl (Nat.le_of_ble_eq_true rfl) rfl ?_
    refine kw_step rfl rfl rfl rfl ?_
    refine kw_step rfl rfl rfl rfl ?_
    refine kw_step rfl rfl rfl rfl ?_
    refine kw_put (fs := ((((((((kfk 11).map kdef0).set 1 (kr 86)).set 2 (kr 87)).set 3 (kr 88)).set 4 (kr 89)).set 5 (kr 90)).set 6 (kr 91))) rfl rfl (Nat.le_of_ble_eq_true rfl) rfl ?_
    refine kw_step rfl rfl rfl rfl ?_
    refine kw_step rfl rfl rfl rfl ?_
    refine kw_step rfl rfl rfl rfl ?_
    refine kw_put (fs := (((((((((kfk 11).map kdef0).set 1 (kr 86)).set 2 (kr 87)).set 3 (kr 88)).set 4 (kr 89)).set 5 (kr 90)).set 6 (kr 91)).set 7 (kr 92))) rfl rfl (Nat.le_of_ble_eq_true rfl) rfl ?_
    refine kw_step rfl rfl rfl rfl ?_
    refine kw_step rfl rfl rfl rfl ?_
    refine kw_step rfl rfl rfl rfl ?_
    refine kw_put (fs := ((((((((((kfk 11).map kdef0).set 1 (kr 86)).set 2 (kr 87)).set 3 (kr 88)).set 4 (kr 89)).set 5 (kr 90)).set 6 (kr 91)).set 7 (kr 92)).set 8 (kr 93))) rfl rfl (Nat.le_of_ble_eq_true rfl) rfl ?_
    refine kw_step rfl rfl rfl rfl ?_
    refine kw_step rfl rfl rfl rfl ?_
    refine kw_step rfl rfl rfl rfl ?_
    refine kw_put (fs := (((((((((((kfk 11).map kdef0).set 1 (kr 86)).set 2 (kr 87)).set 3 (kr 88)).set 4 (kr 89)).set 5 (kr 90)).set 6 (kr 91)).set 7 (kr 92)).set 8 (kr 93)).set 9 (kr 94))) rfl rfl (Nat.le_of_ble_eq_true rfl) rfl ?_
    refine kw_step rfl rfl rfl rfl ?_
    refine kw_step rfl rfl rfl rfl ?_
    refine kw_step rfl rfl rfl rfl ?_
    refine kw_put (fs := ((((((((((((kfk 11).map kdef0).set 1 (kr 86)).set 2 (kr 87)).set 3 (kr 88)).set 4 (kr 89)).set 5 (kr 90)).set 6 (kr 91)).set 7 (kr 92)).set 8 (kr 93)).set 9 (kr 94)).set 10 (kr 95))) rfl rfl (Nat.le_of_ble_eq_true rfl) rfl ?_
    refine kw_step rfl rfl rfl rfl ?_
    refine kw_step rfl rfl rfl rfl ?_
    refine kw_step rfl rfl rfl rfl ?_
    refine kw_put (fs := (((((((((((((kfk 11).map kdef0).set 1 (kr 86)).set 2 (kr 87)).set 3 (kr 88)).set 4 (kr 89)).set 5 (kr 90)).set 6 (kr 91)).set 7 (kr 92)).set 8 (kr 93)).set 9 (kr 94)).set 10 (kr 95)).set 11 (kr 96))) rfl rfl (Nat.le_of_ble_eq_true rfl) rfl ?_
    refine kw_step rfl rfl rfl rfl ?_
    refine kw_step rfl rfl rfl rfl ?_
    refine kw_step rfl rfl rfl rfl ?_
    refine kw_put (fs := ((((((((((((((kfk 11).map kdef0).set 1 (kr 86)).set 2 (kr 87)).set 3 (kr 88)).set 4 (kr 89)).set 5 (kr 90)).set 6 (kr 91)).set 7 (kr 92)).set 8 (kr 93)).set 9 (kr 94)).set 10 (kr 95)).set 11 (kr 96)).set 12 (kr 97))) rfl rfl (Nat.le_of_ble_eq_true rfl) rfl ?_
    refine kw_step rfl rfl rfl rfl ?_
    refine kw_step rfl rfl rfl rfl ?_
    refine kw_step rfl rfl rfl rfl ?_
    refine kw_put (fs := (((((((((((((((kfk 11).map kdef0).set 1 (kr 86)).set 2 (kr 87)).set 3 (kr 88)).set 4 (kr 89)).set 5 (kr 90)).set 6 (kr 91)).set 7 (kr 92)).set 8 (kr 93)).set 9 (kr 94)).set 10 (kr 95)).set 11 (kr 96)).set 12 (kr 97)).set 13 (kr 98))) rfl rfl (Nat.le_of_ble_eq_true rfl) rfl ?_
    refine kw_step rfl rfl rfl rfl ?_
    refine kw_step rfl rfl rfl rfl ?_
    refine kw_step rfl rfl rfl rfl ?_
    refine kw_put (fs := ((((((((((((((((kfk 11).map kdef0).set 1 (kr 86)).set 2 (kr 87)).set 3 (kr 88)).set 4 (kr 89)).set 5 (kr 90)).set 6 (kr 91)).set 7 (kr 92)).set 8 (kr 93)).set 9 (kr 94)).set 10 (kr 95)).set 11 (kr 96)).set 12 (kr 97)).set 13 (kr 98)).set 14 (kr 99))) rfl rfl (Nat.le_of_ble_eq_true rfl) rfl ?_
    refine kw_step rfl rfl rfl rfl ?_
    refine kw_step rfl rfl rfl rfl ?_
    refine kw_step rfl rfl rfl rfl ?_
    refine kw_put (fs := (((((((((((((((((kfk 11).map kdef0).set 1 (kr 86)).set 2 (kr 87)).set 3 (kr 88)).set 4 (kr 89)).set 5 (kr 90)).set 6 (kr 91)).set 7 (kr 92)).set 8 (kr 93)).set 9 (kr 94)).set 10 (kr 95)).set 11 (kr 96)).set 12 (kr 97)).set 13 (kr 98)).set 14 (kr 99)).set 15 (kr 100))) rfl rfl (Nat.le_of_ble_eq_true rfl) rfl ?_
    refine kw_step rfl rfl rfl rfl ?_
    refine kw_step rfl rfl rfl rfl ?_
    refine kw_step rfl rfl rfl rfl ?_
    refine kw_put (fs := ((((((((((((((((((kfk 11).map kdef0).set 1 (kr 86)).set 2 (kr 87)).set 3 (kr 88)).set 4 (kr 89)).set 5 (kr 90)).set 6 (kr 91)).set 7 (kr 92)).set 8 (kr 93)).set 9 (kr 94)).set 10 (kr 95)).set 11 (kr 96)).set 12 (kr 97)).set 13 (kr 98)).set 14 (kr 99)).set 15 (kr 100)).set 16 (kr 101))) rfl rfl (Nat.le_of_ble_eq_true rfl) rfl ?_
    refine kw_step rfl rfl rfl rfl ?_
    refine kw_step rfl rfl rfl rfl ?_
    refine kw_step rfl rfl rfl rfl ?_
    refine kw_put (fs := (((((((((((((((((((kfk 11).map kdef0).set 1 (kr 86)).set 2 (kr 87)).set 3 (kr 88)).set 4 (kr 89)).set 5 (kr 90)).set 6 (kr 91)).set 7 (kr 92)).set 8 (kr 93)).set 9 (kr 94)).set 10 (kr 95)).set 11 (kr 96)).set 12 (kr 97)).set 13 (kr 98)).set 14 (kr 99)).set 15 (kr 100)).set 16 (kr 101)).set 17 (kr 102))) rfl rfl (Nat.le_of_ble_eq_true rfl) rfl ?_
    refine kw_step rfl rfl rfl rfl ?_
    refine kw_step rfl rfl rfl rfl ?_
    refine kw_step rfl rfl rfl rfl ?_
    refine kw_put (fs := ((((((((((((((((((((kfk 11).map kdef0).set 1 (kr 86)).set 2 (kr 87)).set 3 (kr 88)).set 4 (kr 89)).set 5 (kr 90)).set 6 (kr 91)).set 7 (kr 92)).set 8 (kr 93)).set 9 (kr 94)).set 10 (kr 95)).set 11 (kr 96)).set 12 (kr 97)).set 13 (kr 98)).set 14 (kr 99)).set 15 (kr 100)).set 16 (kr 101)).set 17 (kr 102)).set 18 (kr 103))) rfl rfl (Nat.le_of_ble_eq_true rfl) rfl ?_
    refine kw_step rfl rfl rfl rfl ?_
    refine kw_step rfl rfl rfl rfl ?_
    refine kw_put (fs := (((((((((((((((((((((kfk 11).map kdef0).set 1 (kr 86)).set 2 (kr 87)).set 3 (kr 88)).set 4 (kr 89)).set 5 (kr 90)).set 6 (kr 91)).set 7 (kr 92)).set 8 (kr 93)).set 9 (kr 94)).set 10 (kr 95)).set 11 (kr 96)).set 12 (kr 97)).set 13 (kr 98)).set 14 (kr 99)).set 15 (kr 100)).set 16 (kr 101)).set 17 (kr 102)).set 18 (kr 103)).set 19 (kr 104))) rfl rfl (Nat.le_of_ble_eq_true rfl) rfl ?_
    refine kw_step rfl rfl rfl rfl ?_
    refine kw_step rfl rfl rfl rfl ?_
    refine kw_step rfl rfl rfl rfl ?_
    refine kw_put (fs := ((((((((((((((((((((((kfk 11).map kdef0).set 1 (kr 86)).set 2 (kr 87)).set 3 (kr 88)).set 4 (kr 89)).set 5 (kr 90)).set 6 (kr 91)).set 7 (kr 92)).set 8 (kr 93)).set 9 (kr 94)).set 10 (kr 95)).set 11 (kr 96)).set 12 (kr 97)).set 13 (kr 98)).set 14 (kr 99)).set 15 (kr 100)).set 16 (kr 101)).set 17 (kr 102)).set 18 (kr 103)).set 19 (kr 104)).set 30 (kI (8)))) rfl rfl (Nat.le_of_ble_eq_true rfl) rfl ?_
    refine kw_step rfl rfl rfl rfl ?_
    refine kw_step rfl rfl rfl rfl ?_
    refine kw_step rfl rfl rfl rfl ?_
    refine kw_put (fs := (((((((((((((((((((((((kfk 11).map kdef0).set 1 (kr 86)).set 2 (kr 87)).set 3 (kr 88)).set 4 (kr 89)).set 5 (kr 90)).set 6 (kr 91)).set 7 (kr 92)).set 8 (kr 93)).set 9 (kr 94)).set 10 (kr 95)).set 11 (kr 96)).set 12 (kr 97)).set 13 (kr 98)).set 14 (kr 99)).set 15 (kr 100)).set 16 (kr 101)).set 17 (kr 102)).set 18 (kr 103)).set 19 (kr 104)).set 30 (kI (8))).set 33 (kr 105))) rfl rfl (Nat.le_of_ble_eq_true rfl) rfl ?_
    refine kw_step rfl rfl rfl rfl ?_
    refine kw_step rfl rfl rfl rfl ?_
    refine kw_step rfl rfl rfl rfl ?_
    refine kw_put (fs := ((((((((((((((((((((((((kfk 11).map kdef0).set 1 (kr 86)).set 2 (kr 87)).set 3 (kr 88)).set 4 (kr 89)).set 5 (kr 90)).set 6 (kr 91)).set 7 (kr 92)).set 8 (kr 93)).set 9 (kr 94)).set 10 (kr 95)).set 11 (kr 96)).set 12 (kr 97)).set 13 (kr 98)).set 14 (kr 99)).set 15 (kr 100)).set 16 (kr 101)).set 17 (kr 102)).set 18 (kr 103)).set 19 (kr 104)).set 30 (kI (8))).set 33 (kr 105)).set 34 (kr 106))) rfl rfl (Nat.le_of_ble_eq_true rfl) rfl ?_
    refine kw_step rfl rfl rfl rfl ?_
    refine kw_step rfl rfl rfl rfl ?_
    refine kw_step rfl rfl rfl rfl ?_
    refine kw_put (fs := (((((((((((((((((((((((((kfk 11).map kdef0).set 1 (kr 86)).set 2 (kr 87)).set 3 (kr 88)).set 4 (kr 89)).set 5 (kr 90)).set 6 (kr 91)).set 7 (kr 92)).set 8 (kr 93)).set 9 (kr 94)).set 10 (kr 95)).set 11 (kr 96)).set 12 (kr 97)).set 13 (kr 98)).set 14 (kr 99)).set 15 (kr 100)).set 16 (kr 101)).set 17 (kr 102)).set 18 (kr 103)).set 19 (kr 104)).set 30 (kI (8))).set 33 (kr 105)).set 34 (kr 106)).set 35 (kr 107))) rfl rfl (Nat.le_of_ble_eq_true rfl) rfl ?_
    refine kw_step rfl rfl rfl rfl ?_
    refine kw_step rfl rfl rfl rfl ?_
    refine kw_step rfl rfl rfl rfl ?_
    refine kw_put (fs := ((((((((((((((((((((((((((kfk 11).map kdef0).set 1 (kr 86)).set 2 (kr 87)).set 3 (kr 88)).set 4 (kr 89)).set 5 (kr 90)).set 6 (kr 91)).set 7 (kr 92)).set 8 (kr 93)).set 9 (kr 94)).set 10 (kr 95)).set 11 (kr 96)).set 12 (kr 97)).set 13 (kr 98)).set 14 (kr 99)).set 15 (kr 100)).set 16 (kr 101)).set 17 (kr 102)).set 18 (kr 103)).set 19 (kr 104)).set 30 (kI (8))).set 33 (kr 105)).set 34 (kr 106)).set 35 (kr 107)).set 36 (kr 108))) rfl rfl (Nat.le_of_ble_eq_true rfl) rfl ?_
    refine kw_step rfl rfl rfl rfl ?_
    refine kw_step rfl rfl rfl rfl ?_
    refine kw_step rfl rfl rfl rfl ?_
    refine kw_put (fs := (((((((((((((((((((((((((((kfk 11).map kdef0).set 1 (kr 86)).set 2 (kr 87)).set 3 (kr 88)).set 4 (kr 89)).set 5 (kr 90)).set 6 (kr 91)).set 7 (kr 92)).set 8 (kr 93)).set 9 (kr 94)).set 10 (kr 95)).set 11 (kr 96)).set 12 (kr 97)).set 13 (kr 98)).set 14 (kr 99)).set 15 (kr 100)).set 16 (kr 101)).set 17 (kr 102)).set 18 (kr 103)).set 19 (kr 104)).set 30 (kI (8))).set 33 (kr 105)).set 34 (kr 106)).set 35 (kr 107)).set 36 (kr 108)).set 37 (kr 109))) rfl rfl (Nat.le_of_ble_eq_true rfl) rfl ?_
    refine kw_step rfl rfl rfl rfl ?_
    refine kw_step rfl rfl rfl rfl ?_
    refine kw_step rfl rfl rfl rfl ?_
    refine kw_put (fs := ((((((((((((((((((((((((((((kfk 11).map kdef0).set 1 (kr 86)).set 2 (kr 87)).set 3 (kr 88)).set 4 (kr 89)).set 5 (kr 90)).set 6 (kr 91)).set 7 (kr 92)).set 8 (kr 93)).set 9 (kr 94)).set 10 (kr 95)).set 11 (kr 96)).set 12 (kr 97)).set 13 (kr 98)).set 14 (kr 99)).set 15 (kr 100)).set 16 (kr 101)).set 17 (kr 102)).set 18 (kr 103)).set 19 (kr 104)).set 30 (kI (8))).set 33 (kr 105)).set 34 (kr 106)).set 35 (kr 107)).set 36 (kr 108)).set 37 (kr 109)).set 38 (kr 110))) rfl rfl (Nat.le_of_ble_eq_true rfl) rfl ?_
    refine kw_step rfl rfl rfl rfl ?_
    refine kw_step rfl rfl rfl rfl ?_
    refine kw_step rfl rfl rfl rfl ?_
    refine kw_put (fs := (((((((((((((((((((((((((((((kfk 11).map kdef0).set 1 (kr 86)).set 2 (kr 87)).set 3 (kr 88)).set 4 (kr 89)).set 5 (kr 90)).set 6 (kr 91)).set 7 (kr 92)).set 8 (kr 93)).set 9 (kr 94)).set 10 (kr 95)).set 11 (kr 96)).set 12 (kr 97)).set 13 (kr 98)).set 14 (kr 99)).set 15 (kr 100)).set 16 (kr 101)).set 17 (kr 102)).set 18 (kr 103)).set 19 (kr 104)).set 30 (kI (8))).set 33 (kr 105)).set 34 (kr 106)).set 35 (kr 107)).set 36 (kr 108)).set 37 (kr 109)).set 38 (kr 110)).set 39 (kr 111))) rfl rfl (Nat.le_of_ble_eq_true rfl) rfl ?_
    refine kw_step rfl rfl rfl rfl ?_
    refine kw_step rfl rfl rfl rfl ?_
    refine kw_step rfl rfl rfl rfl ?_
    refine kw_put (fs := ((((((((((((((((((((((((((((((kfk 11).map kdef0).set 1 (kr 86)).set 2 (kr 87)).set 3 (kr 88)).set 4 (kr 89)).set 5 (kr 90)).set 6 (kr 91)).set 7 (kr 92)).set 8 (kr 93)).set 9 (kr 94)).set 10 (kr 95)).set 11 (kr 96)).set 12 (kr 97)).set 13 (kr 98)).set 14 (kr 99)).set 15 (kr 100)).set 16 (kr 101)).set 17 (kr 102)).set 18 (kr 103)).set 19 (kr 104)).set 30 (kI (8))).set 33 (kr 105)).set 34 (kr 106)).set 35 (kr 107)).set 36 (kr 108)).set 37 (kr 109)).set 38 (kr 110)).set 39 (kr 111)).set 40 (kr 112))) rfl rfl (Nat.le_of_ble_eq_true rfl) rfl ?_
    refine kw_step rfl rfl rfl rfl ?_
    refine kw_step rfl rfl rfl rfl ?_
    refine kw_step rfl rfl rfl rfl ?_
    refine kw_put (fs := (((((((((((((((((((((((((((((((kfk 11).map kdef0).set 1 (kr 86)).set 2 (kr 87)).set 3 (kr 88)).set 4 (kr 89)).set 5 (kr 90)).set 6 (kr 91)).set 7 (kr 92)).set 8 (kr 93)).set 9 (kr 94)).set 10 (kr 95)).set 11 (kr 96)).set 12 (kr 97)).set 13 (kr 98)).set 14 (kr 99)).set 15 (kr 100)).set 16 (kr 101)).set 17 (kr 102)).set 18 (kr 103)).set 19 (kr 104)).set 30 (kI (8))).set 33 (kr 105)).set 34 (kr 106)).set 35 (kr 107)).set 36 (kr 108)).set 37 (kr 109)).set 38 (kr 110)).set 39 (kr 111)).set 40 (kr 112)).set 41 (kr 113))) rfl rfl (Nat.le_of_ble_eq_true rfl) rfl ?_
    refine kw_step rfl rfl rfl rfl ?_
    refine kw_step rfl rfl rfl rfl ?_
    refine kw_step rfl rfl rfl rfl ?_
    refine kw_put (fs := ((((((((((((((((((((((((((((((((kfk 11).map kdef0).set 1 (kr 86)).set 2 (kr 87)).set 3 (kr 88)).set 4 (kr 89)).set 5 (kr 90)).set 6 (kr 91)).set 7 (kr 92)).set 8 (kr 93)).set 9 (kr 94)).set 10 (kr 95)).set 11 (kr 96)).set 12 (kr 97)).set 13 (kr 98)).set 14 (kr 99)).set 15 (kr 100)).set 16 (kr 101)).set 17 (kr 102)).set 18 (kr 103)).set 19 (kr 104)).set 30 (kI (8))).set 33 (kr 105)).set 34 (kr 106)).set 35 (kr 107)).set 36 (kr 108)).set 37 (kr 109)).set 38 (kr 110)).set 39 (kr 111)).set 40 (kr 112)).set 41 (kr 113)).set 42 (kr 114))) rfl rfl (Nat.le_of_ble_eq_true rfl) rfl ?_
    refine kw_step rfl rfl rfl rfl ?_
    refine kw_step rfl rfl rfl rfl ?_
    refine kw_step rfl rfl rfl rfl ?_
    refine kw_put (fs := (((((((((((((((((((((((((((((((((kfk 11).map kdef0).set 1 (kr 86)).set 2 (kr 87)).set 3 (kr 88)).set 4 (kr 89)).set 5 (kr 90)).set 6 (kr 91)).set 7 (kr 92)).set 8 (kr 93)).set 9 (kr 94)).set 10 (kr 95)).set 11 (kr 96)).set 12 (kr 97)).set 13 (kr 98)).set 14 (kr 99)).set 15 (kr 100)).set 16 (kr 101)).set 17 (kr 102)).set 18 (kr 103)).set 19 (kr 104)).set 30 (kI (8))).set 33 (kr 105)).set 34 (kr 106)).set 35 (kr 107)).set 36 (kr 108)).set 37 (kr 109)).set 38 (kr 110)).set 39 (kr 111)).set 40 (kr 112)).set 41 (kr 113)).set 42 (kr 114)).set 43 (kr 115))) rfl rfl (Nat.le_of_ble_eq_true rfl) rfl ?_
    refine kw_step rfl rfl rfl rfl ?_
    refine kw_step rfl rfl rfl rfl ?_
    refine kw_step rfl rfl rfl rfl ?_
    refine kw_put (fs := ((((((((((((((((((((((((((((((((((kfk 11).map kdef0).set 1 (kr 86)).set 2 (kr 87)).set 3 (kr 88)).set 4 (kr 89)).set 5 (kr 90)).set 6 (kr 91)).set 7 (kr 92)).set 8 (kr 93)).set 9 (kr 94)).set 10 (kr 95)).set 11 (kr 96)).set 12 (kr 97)).set 13 (kr 98)).set 14 (kr 99)).set 15 (kr 100)).set 16 (kr 101)).set 17 (kr 102)).set 18 (kr 103)).set 19 (kr 104)).set 30 (kI (8))).set 33 (kr 105)).set 34 (kr 106)).set 35 (kr 107)).set 36 (kr 108)).set 37 (kr 109)).set 38 (kr 110)).set 39 (kr 111)).set 40 (kr 112)).set 41 (kr 113)).set 42 (kr 114)).set 43 (kr 115)).set 45 (kr 116))) rfl rfl (Nat.le_of_ble_eq_true rfl) rfl ?_
    refine kw_step rfl rfl rfl rfl ?_
    refine kw_step rfl rfl rfl rfl ?_
    refine kw_step rfl rfl rfl rfl ?_
    refine kw_put (fs := (((((((((((((((((((((((((((((((((((kfk 11).map kdef0).set 1 (kr 86)).set 2 (kr 87)).set 3 (kr 88)).set 4 (kr 89)).set 5 (kr 90)).set 6 (kr 91)).set 7 (kr 92)).set 8 (kr 93)).set 9 (kr 94)).set 10 (kr 95)).set 11 (kr 96)).set 12 (kr 97)).set 13 (kr 98)).set 14 (kr 99)).set 15 (kr 100)).set 16 (kr 101)).set 17 (kr 102)).set 18 (kr 103)).set 19 (kr 104)).set 30 (kI (8))).set 33 (kr 105)).set 34 (kr 106)).set 35 (kr 107)).set 36 (kr 108)).set 37 (kr 109)).set 38 (kr 110)).set 39 (kr 111)).set 40 (kr 112)).set 41 (kr 113)).set 42 (kr 114)).set 43 (kr 115)).set 45 (kr 116)).set 46 (kr 117))) rfl rfl (Nat.le_of_ble_eq_true rfl) rfl ?_
    refine kw_step rfl rfl rfl rfl ?_
    refine kw_step rfl rfl rfl rfl ?_
    refine kw_step rfl rfl rfl rfl ?_
    refine kw_put (fs := ((((((((((((((((((((((((((((((((((((kfk 11).map kdef0).set 1 (kr 86)).set 2 (kr 87)).set 3 (kr 88)).set 4 (kr 89)).set 5 (kr 90)).set 6 (kr 91)).set 7 (kr 92)).set 8 (kr 93)).set 9 (kr 94)).set 10 (kr 95)).set 11 (kr 96)).set 12 (kr 97)).set 13 (kr 98)).set 14 (kr 99)).set 15 (kr 100)).set 16 (kr 101)).set 17 (kr 102)).set 18 (kr 103)).set 19 (kr 104)).set 30 (kI (8))).set 33 (kr 105)).set 34 (kr 106)).set 35 (kr 107)).set 36 (kr 108)).set 37 (kr 109)).set 38 (kr 110)).set 39 (kr 111)).set 40 (kr 112)).set 41 (kr 113)).set 42 (kr 114)).set 43 (kr 115)).set 45 (kr 116)).set 46 (kr 117)).set 47 (kr 118))) rfl rfl (Nat.le_of_ble_eq_true rfl) rfl ?_
    refine kw_step rfl rfl rfl rfl ?_
    refine kw_step rfl rfl rfl rfl ?_
    refine kw_step rfl rfl rfl rfl ?_
    refine kw_put (fs := (((((((((((((((((((((((((((((((((((((kfk 11).map kdef0).set 1 (kr 86)).set 2 (kr 87)).set 3 (kr 88)).set 4 (kr 89)).set 5 (kr 90)).set 6 (kr 91)).set 7 (kr 92)).set 8 (kr 93)).set 9 (kr 94)).set 10 (kr 95)).set 11 (kr 96)).set 12 (kr 97)).set 13 (kr 98)).set 14 (kr 99)).set 15 (kr 100)).set 16 (kr 101)).set 17 (kr 102)).set 18 (kr 103)).set 19 (kr 104)).set 30 (kI (8))).set 33 (kr 105)).set 34 (kr 106)).set 35 (kr 107)).set 36 (kr 108)).set 37 (kr 109)).set 38 (kr 110)).set 39 (kr 111)).set 40 (kr 112)).set 41 (kr 113)).set 42 (kr 114)).set 43 (kr 115)).set 45 (kr 116)).set 46 (kr 117)).set 47 (kr 118)).set 48 (kr 119))) rfl rfl (Nat.le_of_ble_eq_true rfl) rfl ?_
    refine kw_step rfl rfl rfl rfl ?_
    refine kw_step rfl rfl rfl rfl ?_
    refine kw_step rfl rfl rfl rfl ?_
    refine kw_put (fs := ((((((((((((((((((((((((((((((((((((((kfk 11).map kdef0).set 1 (kr 86)).set 2 (kr 87)).set 3 (kr 88)).set 4 (kr 89)).set 5 (kr 90)).set 6 (kr 91)).set 7 (kr 92)).set 8 (kr 93)).set 9 (kr 94)).set 10 (kr 95)).set 11 (kr 96)).set 12 (kr 97)).set 13 (kr 98)).set 14 (kr 99)).set 15 (kr 100)).set 16 (kr 101)).set 17 (kr 102)).set 18 (kr 103)).set 19 (kr 104)).set 30 (kI (8))).set 33 (kr 105)).set 34 (kr 106)).set 35 (kr 107)).set 36 (kr 108)).set 37 (kr 109)).set 38 (kr 110)).set 39 (kr 111)).set 40 (kr 112)).set 41 (kr 113)).set 42 (kr 114)).set 43 (kr 115)).set 45 (kr 116)).set 46 (kr 117)).set 47 (kr 118)).set 48 (kr 119)).set 49 (kr 120))) rfl rfl (Nat.le_of_ble_eq_true rfl) rfl ?_
    refine kw_step rfl rfl rfl rfl ?_
    refine kw_step rfl rfl rfl rfl ?_
    refine kw_step rfl rfl rfl rfl ?_
    refine kw_put (fs := (((((((((((((((((((((((((((((((((((((((kfk 11).map kdef0).set 1 (kr 86)).set 2 (kr 87)).set 3 (kr 88)).set 4 (kr 89)).set 5 (kr 90)).set 6 (kr 91)).set 7 (kr 92)).set 8 (kr 93)).set 9 (kr 94)).set 10 (kr 95)).set 11 (kr 96)).set 12 (kr 97)).set 13 (kr 98)).set 14 (kr 99)).set 15 (kr 100)).set 16 (kr 101)).set 17 (kr 102)).set 18 (kr 103)).set 19 (kr 104)).set 30 (kI (8))).set 33 (kr 105)).set 34 (kr 106)).set 35 (kr 107)).set 36 (kr 108)).set 37 (kr 109)).set 38 (kr 110)).set 39 (kr 111)).set 40 (kr 112)).set 41 (kr 113)).set 42 (kr 114)).set 43 (kr 115)).set 45 (kr 116)).set 46 (kr 117)).set 47 (kr 118)).set 48 (kr 119)).set 49 (kr 120)).set 50 (kr 121))) rfl rfl (Nat.le_of_ble_eq_true rfl) rfl ?_
    refine kw_step rfl rfl rfl rfl ?_
    refine kw_step rfl rfl rfl rfl ?_
    refine kw_step rfl rfl rfl rfl ?_
    refine kw_put (fs := ((((((((((((((((((((((((((((((((((((((((kfk 11).map kdef0).set 1 (kr 86)).set 2 (kr 87)).set 3 (kr 88)).set 4 (kr 89)).set 5 (kr 90)).set 6 (kr 91)).set 7 (kr 92)).set 8 (kr 93)).set 9 (kr 94)).set 10 (kr 95)).set 11 (kr 96)).set 12 (kr 97)).set 13 (kr 98)).set 14 (kr 99)).set 15 (kr 100)).set 16 (kr 101)).set 17 (kr 102)).set 18 (kr 103)).set 19 (kr 104)).set 30 (kI (8))).set 33 (kr 105)).set 34 (kr 106)).set 35 (kr 107)).set 36 (kr 108)).set 37 (kr 109)).set 38 (kr 110)).set 39 (kr 111)).set 40 (kr 112)).set 41 (kr 113)).set 42 (kr 114)).set 43 (kr 115)).set 45 (kr 116)).set 46 (kr 117)).set 47 (kr 118)).set 48 (kr 119)).set 49 (kr 120)).set 50 (kr 121)).set 51 (kr 122))) rfl rfl (Nat.le_of_ble_eq_true rfl) rfl ?_
    refine kw_step rfl rfl rfl rfl ?_
    refine kw_step rfl rfl rfl rfl ?_
    refine kw_step rfl rfl rfl rfl ?_
    refine kw_put (fs := (((((((((((((((((((((((((((((((((((((((((kfk 11).map kdef0).set 1 (kr 86)).set 2 (kr 87)).set 3 (kr 88)).set 4 (kr 89)).set 5 (kr 90)).set 6 (kr 91)).set 7 (kr 92)).set 8 (kr 93)).set 9 (kr 94)).set 10 (kr 95)).set 11 (kr 96)).set 12 (kr 97)).set 13 (kr 98)).set 14 (kr 99)).set 15 (kr 100)).set 16 (kr 101)).set 17 (kr 102)).set 18 (kr 103)).set 19 (kr 104)).set 30 (kI (8))).set 33 (kr 105)).set 34 (kr 106)).set 35 (kr 107)).set 36 (kr 108)).set 37 (kr 109)).set 38 (kr 110)).set 39 (kr 111)).set 40 (kr 112)).set 41 (kr 113)).set 42 (kr 114)).set 43 (kr 115)).set 45 (kr 116)).set 46 (kr 117)).set 47 (kr 118)).set 48 (kr 119)).set 49 (kr 120)).set 50 (kr 121)).set 51 (kr 122)).set 55 (kr 123))) rfl rfl (Nat.le_of_ble_eq_true rfl) rfl ?_
    refine kw_step rfl rfl rfl rfl ?_
    refine kw_callV (fs := ((((((((((((((((((((((((((((((((((((((((((kfk 11).map kdef0).set 1 (kr 86)).set 2 (kr 87)).set 3 (kr 88)).set 4 (kr 89)).set 5 (kr 90)).set 6 (kr 91)).set 7 (kr 92)).set 8 (kr 93)).set 9 (kr 94)).set 10 (kr 95)).set 11 (kr 96)).set 12 (kr 97)).set 13 (kr 98)).set 14 (kr 99)).set 15 (kr 100)).set 16 (kr 101)).set 17 (kr 102)).set 18 (kr 103)).set 19 (kr 104)).set 30 (kI (8))).set 33 (kr 105)).set 34 (kr 106)).set 35 (kr 107)).set 36 (kr 108)).set 37 (kr 109)).set 38 (kr 110)).set 39 (kr 111)).set 40 (kr 112)).set 41 (kr 113)).set 42 (kr 114)).set 43 (kr 115)).set 45 (kr 116)).set 46 (kr 117)).set 47 (kr 118)).set 48 (kr 119)).set 49 (kr 120)).set 50 (kr 121)).set 51 (kr 122)).set 55 (kr 123)).set 56 (kr 124))) (vs := []) rfl rfl rfl ⟨rfl, Nat.le_of_ble_eq_true rfl, Nat.le_of_ble_eq_true rfl, by decide⟩ rfl (tM_refresh hw hb) (by decide) ?_
    exact kw_ret rfl rfl rfl ⟨rfl, rfl⟩
  · simp only [kput, kadd]
    omega
def kobOf (c : kE) (k : Nat) : Int := match c with
  | .inr (.inr (_, fs)) => match fs.getD k (kI 0) with
    | .inl x => x
    | .inr (.inl x) => x
    | _ => 0
  | _ => 0
theorem kwf_a {h : kH} {a k n : Nat} {F : Nat → Int} (e : h.2.2 a = some (.inl (k, n, F))) : h.2.2 a = some (.inl (k, n, ar h a)) := by
  have : ar h a = F := by unfold ar; rw [e]
  rw [this]
  exact e
theorem kwf_o {h : kH} {a : Nat} {c : kE} (g : (Nat → Int) → kE) (e : h.2.2 a = some c) (hg : c = g (kobOf c)) : h.2.2 a = some (g (ob h a)) := by
  have : ob h a = kobOf c := by
    funext k
    unfold ob kobOf
    rw [e]
    cases c with
    | inl _ => rfl
    | inr c => cases c <;> rfl
  rw [this, ← hg]
  exact e
set_option maxRecDepth 8000 in
set_option maxHeartbeats 4000000 in
theorem kWF_init {g : kH} (c0 : g.2.2 0 = some (.inr (.inr (10, (((((((((((((kfk 10).map kdef0).set 0 (kr 1)).set 1 (kr 3)).set 2 (kr 10)).set 3 (kr 11)).set 4 (kr 17)).set 5 (kr 21)).set 6 (kr 44)).set 7 (kr 48)).set 8 (kr 51)).set 9 (kr 54)).set 10 (kr 56)))))) (c1 : g.2.2 1 = some (.inr (.inr (8, (((kfk 8).map kdef0).set 0 (kr 2)))))) (c2 : g.2.2 2 = some (.inl (1, 400, fun _ => 0))) (c3 : g.2.2 3 = some (.inr (.inr (7, ((((kfk 7).map kdef0).set 0 (kr 4)).set 2 (kI (-1))))))) (c4 : g.2.2 4 = some (.inr (.inr (9, (((((((kfk 9).map kdef0).set 4 (kr 5)).set 5 (kr 6)).set 6 (kr 7)).set 7 (kr 8)).set 8 (kr 9)))))) (c5 : g.2.2 5 = some (.inl (0, 22, fun _ => 0))) (c6 : g.2.2 6 = some (.inl (0, 11, fun _ => 0))) (c7 : g.2.2 7 = some (.inl (0, 22, fun _ => 0))) (c8 : g.2.2 8 = some (.inl (0, 22, fun _ => 0))) (c9 : g.2.2 9 = some (.inl (0, 22, (kfill (-1) 22 (fun _ => 0))))) (c10 : g.2.2 10 = some (.inr (.inl (7, 4, (kup (kup (kup (kup (fun _ => none) 0 (some 57)) 1 (some 64)) 2 (some 71)) 3 (some 78)))))) (c11 : g.2.2 11 = some (.inr (.inr (9, (((((((kfk 9).map kdef0).set 4 (kr 12)).set 5 (kr 13)).set 6 (kr 14)).set 7 (kr 15)).set 8 (kr 16)))))) (c12 : g.2.2 12 = some (.inl (0, 22, fun _ => 0))) (c13 : g.2.2 13 = some (.inl (0, 11, fun _ => 0))) (c14 : g.2.2 14 = some (.inl (0, 22, fun _ => 0))) (c15 : g.2.2 15 = some (.inl (0, 22, fun _ => 0))) (c16 : g.2.2 16 = some (.inl (0, 22, (kfill (-1) 22 (fun _ => 0))))) (c17 : g.2.2 17 = some (.inr (.inr (3, (((((kfk 3).map kdef0).set 4 (kr 18)).set 5 (kr 19)).set 7 (kr 20)))))) (c18 : g.2.2 18 = some (.inl (0, 48, fun _ => 0))) (c19 : g.2.2 19 = some (.inl (0, 48, fun _ => 0))) (c20 : g.2.2 20 = some (.inl (0, 44, fun _ => 0))) (c21 : g.2.2 21 = some (.inr (.inr (6, (((((((((((kfk 6).map kdef0).set 0 (kr 22)).set 1 (kr 23)).set 2 (kr 24)).set 3 (kr 25)).set 4 (kr 26)).set 5 (kr 27)).set 6 (kr 28)).set 7 (kr 34)).set 8 (kr 40)))))) (c22 : g.2.2 22 = some (.inl (3, 300, fun _ => 0))) (c23 : g.2.2 23 = some (.inl (3, 300, fun _ => 0))) (c24 : g.2.2 24 = some (.inl (2, 300, fun _ => 0))) (c25 : g.2.2 25 = some (.inl (2, 300, fun _ => 0))) (c26 : g.2.2 26 = some (.inl (2, 300, fun _ => 0))) (c27 : g.2.2 27 = some (.inl (2, 1024, fun _ => 0))) (c28 : g.2.2 28 = some (.inr (.inr (9, (((((((kfk 9).map kdef0).set 4 (kr 29)).set 5 (kr 30)).set 6 (kr 31)).set 7 (kr 32)).set 8 (kr 33)))))) (c29 : g.2.2 29 = some (.inl (0, 22, fun _ => 0))) (c30 : g.2.2 30 = some (.inl (0, 11, fun _ => 0))) (c31 : g.2.2 31 = some (.inl (0, 22, fun _ => 0))) (c32 : g.2.2 32 = some (.inl (0, 22, fun _ => 0))) (c33 : g.2.2 33 = some (.inl (0, 22, (kfill (-1) 22 (fun _ => 0))))) (c34 : g.2.2 34 = some (.inr (.inr (9, (((((((kfk 9).map kdef0).set 4 (kr 35)).set 5 (kr 36)).set 6 (kr 37)).set 7 (kr 38)).set 8 (kr 39)))))) (c35 : g.2.2 35 = some (.inl (0, 22, fun _ => 0))) (c36 : g.2.2 36 = some (.inl (0, 11, fun _ => 0))) (c37 : g.2.2 37 = some (.inl (0, 22, fun _ => 0))) (c38 : g.2.2 38 = some (.inl (0, 22, fun _ => 0))) (c39 : g.2.2 39 = some (.inl (0, 22, (kfill (-1) 22 (fun _ => 0))))) (c40 : g.2.2 40 = some (.inr (.inr (3, (((((kfk 3).map kdef0).set 4 (kr 41)).set 5 (kr 42)).set 7 (kr 43)))))) (c41 : g.2.2 41 = some (.inl (0, 48, fun _ => 0))) (c42 : g.2.2 42 = some (.inl (0, 48, fun _ => 0))) (c43 : g.2.2 43 = some (.inl (0, 44, fun _ => 0))) (c44 : g.2.2 44 = some (.inr (.inr (1, (((((kfk 1).map kdef0).set 1 (kr 45)).set 2 (kr 46)).set 3 (kr 47)))))) (c45 : g.2.2 45 = some (.inl (0, 199, fun _ => 0))) (c46 : g.2.2 46 = some (.inl (0, 192, fun _ => 0))) (c47 : g.2.2 47 = some (.inl (0, 44, fun _ => 0))) (c48 : g.2.2 48 = some (.inr (.inr (0, ((((kfk 0).map kdef0).set 1 (kr 49)).set 2 (kr 50)))))) (c49 : g.2.2 49 = some (.inl (0, 22, fun _ => 0))) (c50 : g.2.2 50 = some (.inl (3, 143, fun _ => 0))) (c51 : g.2.2 51 = some (.inr (.inr (2, ((((kfk 2).map kdef0).set 0 (kr 52)).set 1 (kr 53)))))) (c52 : g.2.2 52 = some (.inl (3, 8, fun _ => 0))) (c53 : g.2.2 53 = some (.inl (3, 64, fun _ => 0))) (c54 : g.2.2 54 = some (.inr (.inr (5, (((kfk 5).map kdef0).set 0 (kr 55)))))) (c55 : g.2.2 55 = some (.inl (0, 400, fun _ => 0))) (c56 : g.2.2 56 = some (.inr (.inl (4, 6, fun _ => none)))) (c57 : g.2.2 57 = some (.inr (.inr (7, ((((kfk 7).map kdef0).set 0 (kr 58)).set 2 (kI (-1))))))) (c58 : g.2.2 58 = some (.inr (.inr (9, (((((((kfk 9).map kdef0).set 4 (kr 59)).set 5 (kr 60)).set 6 (kr 61)).set 7 (kr 62)).set 8 (kr 63)))))) (c59 : g.2.2 59 = some (.inl (0, 22, fun _ => 0))) (c60 : g.2.2 60 = some (.inl (0, 11, fun _ => 0))) (c61 : g.2.2 61 = some (.inl (0, 22, fun _ => 0))) (c62 : g.2.2 62 = some (.inl (0, 22, fun _ => 0))) (c63 : g.2.2 63 = some (.inl (0, 22, (kfill (-1) 22 (fun _ => 0))))) (c64 : g.2.2 64 = some (.inr (.inr (7, ((((kfk 7).map kdef0).set 0 (kr 65)).set 2 (kI (-1))))))) (c65 : g.2.2 65 = some (.inr (.inr (9, (((((((kfk 9).map kdef0).set 4 (kr 66)).set 5 (kr 67)).set 6 (kr 68)).set 7 (kr 69)).set 8 (kr 70)))))) (c66 : g.2.2 66 = some (.inl (0, 22, fun _ => 0))) (c67 : g.2.2 67 = some (.inl (0, 11, fun _ => 0))) (c68 : g.2.2 68 = some (.inl (0, 22, fun _ => 0))) (c69 : g.2.2 69 = some (.inl (0, 22, fun _ => 0))) (c70 : g.2.2 70 = some (.inl (0, 22, (kfill (-1) 22 (fun _ => 0))))) (c71 : g.2.2 71 = some (.inr (.inr (7, ((((kfk 7).map kdef0).set 0 (kr 72)).set 2 (kI (-1))))))) (c72 : g.2.2 72 = some (.inr (.inr (9, (((((((kfk 9).map kdef0).set 4 (kr 73)).set 5 (kr 74)).set 6 (kr 75)).set 7 (kr 76)).set 8 (kr 77)))))) (c73 : g.2.2 73 = some (.inl (0, 22, fun _ => 0))) (c74 : g.2.2 74 = some (.inl (0, 11, fun _ => 0))) (c75 : g.2.2 75 = some (.inl (0, 22, fun _ => 0))) (c76 : g.2.2 76 = some (.inl (0, 22, fun _ => 0))) (c77 : g.2.2 77 = some (.inl (0, 22, (kfill (-1) 22 (fun _ => 0))))) (c78 : g.2.2 78 = some (.inr (.inr (7, ((((kfk 7).map kdef0).set 0 (kr 79)).set 2 (kI (-1))))))) (c79 : g.2.2 79 = some (.inr (.inr (9, (((((((kfk 9).map kdef0).set 4 (kr 80)).set 5 (kr 81)).set 6 (kr 82)).set 7 (kr 83)).set 8 (kr 84)))))) (c80 : g.2.2 80 = some (.inl (0, 22, fun _ => 0))) (c81 : g.2.2 81 = some (.inl (0, 11, fun _ => 0))) (c82 : g.2.2 82 = some (.inl (0, 22, fun _ => 0))) (c83 : g.2.2 83 = some (.inl (0, 22, fun _ => 0))) (c84 : g.2.2 84 = some (.inl (0, 22, (kfill (-1) 22 (fun _ => 0))))) (c85 : g.2.2 85 = some (.inr (.inr (11, ((((((((((((((((((((((((((((((((((((((((((kfk 11).map kdef0).set 1 (kr 86)).set 2 (kr 87)).set 3 (kr 88)).set 4 (kr 89)).set 5 (kr 90)).set 6 (kr 91)).set 7 (kr 92)).set 8 (kr 93)).set 9 (kr 94)).set 10 (kr 95)).set 11 (kr 96)).set 12 (kr 97)).set 13 (kr 98)).set 14 (kr 99)).set 15 (kr 100)).set 16 (kr 101)).set 17 (kr 102)).set 18 (kr 103)).set 19 (kr 104)).set 30 (kI (8))).set 33 (kr 105)).set 34 (kr 106)).set 35 (kr 107)).set 36 (kr 108)).set 37 (kr 109)).set 38 (kr 110)).set 39 (kr 111)).set 40 (kr 112)).set 41 (kr 113)).set 42 (kr 114)).set 43 (kr 115)).set 45 (kr 116)).set 46 (kr 117)).set 47 (kr 118)).set 48 (kr 119)).set 49 (kr 120)).set 50 (kr 121)).set 51 (kr 122)).set 55 (kr 123)).set 56 (kr 124)))))) (c86 : g.2.2 86 = some (.inl (0, 6, (kup (kup (kup (kup (kup (kup (fun _ => 0) 0 (0)) 1 (0)) 2 (0)) 3 (0)) 4 (0)) 5 (-1))))) (c87 : g.2.2 87 = some (.inl (0, 22, fun _ => 0))) (c88 : g.2.2 88 = some (.inl (0, 22, fun _ => 0))) (c89 : g.2.2 89 = some (.inl (0, 11, fun _ => 0))) (c90 : g.2.2 90 = some (.inl (0, 3, fun _ => 0))) (c91 : g.2.2 91 = some (.inl (0, 22, fun _ => 0))) (c92 : g.2.2 92 = some (.inl (0, 22, fun _ => 0))) (c93 : g.2.2 93 = some (.inl (0, 11, fun _ => 0))) (c94 : g.2.2 94 = some (.inl (0, 6, fun _ => 0))) (c95 : g.2.2 95 = some (.inl (0, 22, fun _ => 0))) (c96 : g.2.2 96 = some (.inl (0, 22, fun _ => 0))) (c97 : g.2.2 97 = some (.inl (0, 11, fun _ => 0))) (c98 : g.2.2 98 = some (.inl (0, 11, fun _ => 0))) (c99 : g.2.2 99 = some (.inl (0, 11, fun _ => 0))) (c100 : g.2.2 100 = some (.inl (0, 44, fun _ => 0))) (c101 : g.2.2 101 = some (.inl (0, 44, fun _ => 0))) (c102 : g.2.2 102 = some (.inl (0, 44, fun _ => 0))) (c103 : g.2.2 103 = some (.inl (0, 44, fun _ => 0))) (c104 : g.2.2 104 = some (.inl (0, 11, fun _ => 0))) (c105 : g.2.2 105 = some (.inl (1, 400, fun _ => 0))) (c106 : g.2.2 106 = some (.inl (0, 1800, fun _ => 0))) (c107 : g.2.2 107 = some (.inl (0, 1800, fun _ => 0))) (c108 : g.2.2 108 = some (.inl (0, 6, fun _ => 0))) (c109 : g.2.2 109 = some (.inl (0, 72, fun _ => 0))) (c110 : g.2.2 110 = some (.inl (0, 72, fun _ => 0))) (c111 : g.2.2 111 = some (.inl (0, 402, fun _ => 0))) (c112 : g.2.2 112 = some (.inl (3, 8, fun _ => 0))) (c113 : g.2.2 113 = some (.inl (3, 300, fun _ => 0))) (c114 : g.2.2 114 = some (.inl (0, 22, fun _ => 0))) (c115 : g.2.2 115 = some (.inl (0, 23, fun _ => 0))) (c116 : g.2.2 116 = some (.inl (0, 3, fun _ => 0))) (c117 : g.2.2 117 = some (.inl (3, 143, fun _ => 0))) (c118 : g.2.2 118 = some (.inl (0, 199, fun _ => 0))) (c119 : g.2.2 119 = some (.inl (0, 22, fun _ => 0))) (c120 : g.2.2 120 = some (.inl (0, 7224, fun _ => 0))) (c121 : g.2.2 121 = some (.inl (0, 301, fun _ => 0))) (c122 : g.2.2 122 = some (.inl (0, 301, fun _ => 0))) (c123 : g.2.2 123 = some (.inl (0, 280, fun _ => 0))) (c124 : g.2.2 124 = some (.inl (4, 4, fun _ => 0))) : kWF g := by
  refine ⟨fun a k n h => ?_, fun a q h => ?_, ?_⟩
  · unfold ktab at h
    split at h
    · cases h; exact kwf_a c2
    · cases h; exact kwf_a c5
    · cases h; exact kwf_a c6
    · cases h; exact kwf_a c7
    · cases h; exact kwf_a c8
    · cases h; exact kwf_a c9
    · cases h; exact kwf_a c12
    · cases h; exact kwf_a c13
    · cases h; exact kwf_a c14
    · cases h; exact kwf_a c15
    · cases h; exact kwf_a c16
    · cases h; exact kwf_a c18
    · cases h; exact kwf_a c19
    · cases h; exact kwf_a c20
    · cases h; exact kwf_a c22
    · cases h; exact kwf_a c23
    · cases h; exact kwf_a c24
    · cases h; exact kwf_a c25
    · cases h; exact kwf_a c26
    · cases h; exact kwf_a c27
    · cases h; exact kwf_a c29
    · cases h; exact kwf_a c30
    · cases h; exact kwf_a c31
    · cases h; exact kwf_a c32
    · cases h; exact kwf_a c33
    · cases h; exact kwf_a c35
    · cases h; exact kwf_a c36
    · cases h; exact kwf_a c37
    · cases h; exact kwf_a c38
    · cases h; exact kwf_a c39
    · cases h; exact kwf_a c41
    · cases h; exact kwf_a c42
    · cases h; exact kwf_a c43
    · cases h; exact kwf_a c45
    · cases h; exact kwf_a c46
    · cases h; exact kwf_a c47
    · cases h; exact kwf_a c49
    · cases h; exact kwf_a c50
    · cases h; exact kwf_a c52
    · cases h; exact kwf_a c53
    · cases h; exact kwf_a c55
    · cases h; exact kwf_a c59
    · cases h; exact kwf_a c60
    · cases h; exact kwf_a c61
    · cases h; exact kwf_a c62
    · cases h; exact kwf_a c63
    · cases h; exact kwf_a c66
    · cases h; exact kwf_a c67
    · cases h; exact kwf_a c68
    · cases h; exact kwf_a c69
    · cases h; exact kwf_a c70
    · cases h; exact kwf_a c73
    · cases h; exact kwf_a c74
    · cases h; exact kwf_a c75
    · cases h; exact kwf_a c76
    · cases h; exact kwf_a c77
    · cases h; exact kwf_a c80
    · cases h; exact kwf_a c81
    · cases h; exact kwf_a c82
    · cases h; exact kwf_a c83
    · cases h; exact kwf_a c84
    · cases h; exact kwf_a c86
    · cases h; exact kwf_a c87
    · cases h; exact kwf_a c88
    · cases h; exact kwf_a c89
    · cases h; exact kwf_a c90
    · cases h; exact kwf_a c91
    · cases h; exact kwf_a c92
    · cases h; exact kwf_a c93
    · cases h; exact kwf_a c94
    · cases h; exact kwf_a c95
    · cases h; exact kwf_a c96
    · cases h; exact kwf_a c97
    · cases h; exact kwf_a c98
    · cases h; exact kwf_a c99
    · cases h; exact kwf_a c100
    · cases h; exact kwf_a c101
    · cases h; exact kwf_a c102
    · cases h; exact kwf_a c103
    · cases h; exact kwf_a c104
    · cases h; exact kwf_a c105
    · cases h; exact kwf_a c106
    · cases h; exact kwf_a c107
    · cases h; exact kwf_a c108
    · cases h; exact kwf_a c109
    · cases h; exact kwf_a c110
    · cases h; exact kwf_a c111
    · cases h; exact kwf_a c112
    · cases h; exact kwf_a c113
    · cases h; exact kwf_a c114
    · cases h; exact kwf_a c115
    · cases h; exact kwf_a c116
    · cases h; exact kwf_a c117
    · cases h; exact kwf_a c118
    · cases h; exact kwf_a c119
    · cases h; exact kwf_a c120
    · cases h; exact kwf_a c121
    · cases h; exact kwf_a c122
    · cases h; exact kwf_a c123
    · cases h; exact kwf_a c124
    · cases h
  · unfold kotab at h
    split at h
    · cases h; exact kwf_o _ c0 rfl
    · cases h; exact kwf_o _ c1 rfl
    · cases h; exact kwf_o _ c3 rfl
    · cases h; exact kwf_o _ c4 rfl
    · cases h; exact kwf_o _ c11 rfl
    · cases h; exact kwf_o _ c17 rfl
    · cases h; exact kwf_o _ c21 rfl
    · cases h; exact kwf_o _ c28 rfl
    · cases h; exact kwf_o _ c34 rfl
    · cases h; exact kwf_o _ c40 rfl
    · cases h; exact kwf_o _ c44 rfl
    · cases h; exact kwf_o _ c48 rfl
    · cases h; exact kwf_o _ c51 rfl
    · cases h; exact kwf_o _ c54 rfl
    · cases h; exact kwf_o _ c57 rfl
    · cases h; exact kwf_o _ c58 rfl
    · cases h; exact kwf_o _ c64 rfl
    · cases h; exact kwf_o _ c65 rfl
    · cases h; exact kwf_o _ c71 rfl
    · cases h; exact kwf_o _ c72 rfl
    · cases h; exact kwf_o _ c78 rfl
    · cases h; exact kwf_o _ c79 rfl
    · cases h; exact kwf_o _ c85 rfl
    · cases h
  · rw [c10, kimg]
set_option maxRecDepth 8000 in
set_option maxHeartbeats 4000000 in
/-- both constructors: the heap behind them -/
theorem kInit_of {sc : List Int} {Inv : kH → Prop} (hI : ∀ g : kH, g.1 = 125 → kWF g → mB g → g.2.2 0 = some (.inr (.inr (10, (((((((((((((kfk 10).map kdef0).set 0 (kr 1)).set 1 (kr 3)).set 2 (kr 10)).set 3 (kr 11)).set 4 (kr 17)).set 5 (kr 21)).set 6 (kr 44)).set 7 (kr 48)).set 8 (kr 51)).set 9 (kr 54)).set 10 (kr 56))))) → g.2.2 1 = some (.inr (.inr (8, (((kfk 8).map kdef0).set 0 (kr 2))))) → g.2.2 2 = some (.inl (1, 400, fun _ => 0)) → g.2.2 3 = some (.inr (.inr (7, ((((kfk 7).map kdef0).set 0 (kr 4)).set 2 (kI (-1)))))) → g.2.2 4 = some (.inr (.inr (9, (((((((kfk 9).map kdef0).set 4 (kr 5)).set 5 (kr 6)).set 6 (kr 7)).set 7 (kr 8)).set 8 (kr 9))))) → g.2.2 5 = some (.inl (0, 22, fun _ => 0)) → g.2.2 6 = some (.inl (0, 11, fun _ => 0)) → g.2.2 7 = some (.inl (0, 22, fun _ => 0)) → g.2.2 8 = some (.inl (0, 22, fun _ => 0)) → g.2.2 9 = some (.inl (0, 22, (kfill (-1) 22 (fun _ => 0)))) → g.2.2 10 = some (.inr (.inl (7, 4, (kup (kup (kup (kup (fun _ => none) 0 (some 57)) 1 (some 64)) 2 (some 71)) 3 (some 78))))) → g.2.2 11 = some (.inr (.inr (9, (((((((kfk 9).map kdef0).set 4 (kr 12)).set 5 (kr 13)).set 6 (kr 14)).set 7 (kr 15)).set 8 (kr 16))))) → g.2.2 12 = some (.inl (0, 22, fun _ => 0)) → g.2.2 13 = some (.inl (0, 11, fun _ => 0)) → g.2.2 14 = some (.inl (0, 22, fun _ => 0)) → g.2.2 15 = some (.inl (0, 22, fun _ => 0)) → g.2.2 16 = some (.inl (0, 22, (kfill (-1) 22 (fun _ => 0)))) → g.2.2 17 = some (.inr (.inr (3, (((((kfk 3).map kdef0).set 4 (kr 18)).set 5 (kr 19)).set 7 (kr 20))))) → g.2.2 18 = some (.inl (0, 48, fun _ => 0)) → g.2.2 19 = some (.inl (0, 48, fun _ => 0)) → g.2.2 20 = some (.inl (0, 44, fun _ => 0)) → g.2.2 21 = some (.inr (.inr (6, (((((((((((kfk 6).map kdef0).set 0 (kr 22)).set 1 (kr 23)).set 2 (kr 24)).set 3 (kr 25)).set 4 (kr 26)).set 5 (kr 27)).set 6 (kr 28)).set 7 (kr 34)).set 8 (kr 40))))) → g.2.2 22 = some (.inl (3, 300, fun _ => 0)) → g.2.2 23 = some (.inl (3, 300, fun _ => 0)) → g.2.2 24 = some (.inl (2, 300, fun _ => 0)) → g.2.2 25 = some (.inl (2, 300, fun _ => 0)) → g.2.2 26 = some (.inl (2, 300, fun _ => 0)) → g.2.2 27 = some (.inl (2, 1024, fun _ => 0)) → g.2.2 28 = some (.inr (.inr (9, (((((((kfk 9).map kdef0).set 4 (kr 29)).set 5 (kr 30)).set 6 (kr 31)).set 7 (kr 32)).set 8 (kr 33))))) → g.2.2 29 = some (.inl (0, 22, fun _ => 0)) → g.2.2 30 = some (.inl (0, 11, fun _ => 0)) → g.2.2 31 = some (.inl (0, 22, fun _ => 0)) → g.2.2 32 = some (.inl (0, 22, fun _ => 0)) → g.2.2 33 = some (.inl (0, 22, (kfill (-1) 22 (fun _ => 0)))) → g.2.2 34 = some (.inr (.inr (9, (((((((kfk 9).map kdef0).set 4 (kr 35)).set 5 (kr 36)).set 6 (kr 37)).set 7 (kr 38)).set 8 (kr 39))))) → g.2.2 35 = some (.inl (0, 22, fun _ => 0)) → g.2.2 36 = some (.inl (0, 11, fun _ => 0)) → g.2.2 37 = some (.inl (0, 22, fun _ => 0)) → g.2.2 38 = some (.inl (0, 22, fun _ => 0)) → g.2.2 39 = some (.inl (0, 22, (kfill (-1) 22 (fun _ => 0)))) → g.2.2 40 = some (.inr (.inr (3, (((((kfk 3).map kdef0).set 4 (kr 41)).set 5 (kr 42)).set 7 (kr 43))))) → g.2.2 41 = some (.inl (0, 48, fun _ => 0)) → g.2.2 42 = some (.inl (0, 48, fun _ => 0)) → g.2.2 43 = some (.inl (0, 44, fun _ => 0)) → g.2.2 44 = some (.inr (.inr (1, (((((kfk 1).map kdef0).set 1 (kr 45)).set 2 (kr 46)).set 3 (kr 47))))) → g.2.2 45 = some (.inl (0, 199, fun _ => 0)) → g.2.2 46 = some (.inl (0, 192, fun _ => 0)) → g.2.2 47 = some (.inl (0, 44, fun _ => 0)) → g.2.2 48 = some (.inr (.inr (0, ((((kfk 0).map kdef0).set 1 (kr 49)).set 2 (kr 50))))) → g.2.2 49 = some (.inl (0, 22, fun _ => 0)) → g.2.2 50 = some (.inl (3, 143, fun _ => 0)) → g.2.2 51 = some (.inr (.inr (2, ((((kfk 2).map kdef0).set 0 (kr 52)).set 1 (kr 53))))) → g.2.2 52 = some (.inl (3, 8, fun _ => 0)) → g.2.2 53 = some (.inl (3, 64, fun _ => 0)) → g.2.2 54 = some (.inr (.inr (5, (((kfk 5).map kdef0).set 0 (kr 55))))) → g.2.2 55 = some (.inl (0, 400, fun _ => 0)) → g.2.2 56 = some (.inr (.inl (4, 6, fun _ => none))) → g.2.2 57 = some (.inr (.inr (7, ((((kfk 7).map kdef0).set 0 (kr 58)).set 2 (kI (-1)))))) → g.2.2 58 = some (.inr (.inr (9, (((((((kfk 9).map kdef0).set 4 (kr 59)).set 5 (kr 60)).set 6 (kr 61)).set 7 (kr 62)).set 8 (kr 63))))) → g.2.2 59 = some (.inl (0, 22, fun _ => 0)) → g.2.2 60 = some (.inl (0, 11, fun _ => 0)) → g.2.2 61 = some (.inl (0, 22, fun _ => 0)) → g.2.2 62 = some (.inl (0, 22, fun _ => 0)) → g.2.2 63 = some (.inl (0, 22, (kfill (-1) 22 (fun _ => 0)))) → g.2.2 64 = some (.inr (.inr (7, ((((kfk 7).map kdef0).set 0 (kr 65)).set 2 (kI (-1)))))) → g.2.2 65 = some (.inr (.inr (9, (((((((kfk 9).map kdef0).set 4 (kr 66)).set 5 (kr 67)).set 6 (kr 68)).set 7 (kr 69)).set 8 (kr 70))))) → g.2.2 66 = some (.inl (0, 22, fun _ => 0)) → g.2.2 67 = some (.inl (0, 11, fun _ => 0)) → g.2.2 68 = some (.inl (0, 22, fun _ => 0)) → g.2.2 69 = some (.inl (0, 22, fun _ => 0)) → g.2.2 70 = some (.inl (0, 22, (kfill (-1) 22 (fun _ => 0)))) → g.2.2 71 = some (.inr (.inr (7, ((((kfk 7).map kdef0).set 0 (kr 72)).set 2 (kI (-1)))))) → g.2.2 72 = some (.inr (.inr (9, (((((((kfk 9).map kdef0).set 4 (kr 73)).set 5 (kr 74)).set 6 (kr 75)).set 7 (kr 76)).set 8 (kr 77))))) → g.2.2 73 = some (.inl (0, 22, fun _ => 0)) → g.2.2 74 = some (.inl (0, 11, fun _ => 0)) → g.2.2 75 = some (.inl (0, 22, fun _ => 0)) → g.2.2 76 = some (.inl (0, 22, fun _ => 0)) → g.2.2 77 = some (.inl (0, 22, (kfill (-1) 22 (fun _ => 0)))) → g.2.2 78 = some (.inr (.inr (7, ((((kfk 7).map kdef0).set 0 (kr 79)).set 2 (kI (-1)))))) → g.2.2 79 = some (.inr (.inr (9, (((((((kfk 9).map kdef0).set 4 (kr 80)).set 5 (kr 81)).set 6 (kr 82)).set 7 (kr 83)).set 8 (kr 84))))) → g.2.2 80 = some (.inl (0, 22, fun _ => 0)) → g.2.2 81 = some (.inl (0, 11, fun _ => 0)) → g.2.2 82 = some (.inl (0, 22, fun _ => 0)) → g.2.2 83 = some (.inl (0, 22, fun _ => 0)) → g.2.2 84 = some (.inl (0, 22, (kfill (-1) 22 (fun _ => 0)))) → g.2.2 85 = some (.inr (.inr (11, ((((((((((((((((((((((((((((((((((((((((((kfk 11).map kdef0).set 1 (kr 86)).set 2 (kr 87)).set 3 (kr 88)).set 4 (kr 89)).set 5 (kr 90)).set 6 (kr 91)).set 7 (kr 92)).set 8 (kr 93)).set 9 (kr 94)).set 10 (kr 95)).set 11 (kr 96)).set 12 (kr 97)).set 13 (kr 98)).set 14 (kr 99)).set 15 (kr 100)).set 16 (kr 101)).set 17 (kr 102)).set 18 (kr 103)).set 19 (kr 104)).set 30 (kI (8))).set 33 (kr 105)).set 34 (kr 106)).set 35 (kr 107)).set 36 (kr 108)).set 37 (kr 109)).set 38 (kr 110)).set 39 (kr 111)).set 40 (kr 112)).set 41 (kr 113)).set 42 (kr 114)).set 43 (kr 115)).set 45 (kr 116)).set 46 (kr 117)).set 47 (kr 118)).set 48 (kr 119)).set 49 (kr 120)).set 50 (kr 121)).set 51 (kr 122)).set 55 (kr 123)).set 56 (kr 124))))) → g.2.2 86 = some (.inl (0, 6, (kup (kup (kup (kup (kup (kup (fun _ => 0) 0 (0)) 1 (0)) 2 (0)) 3 (0)) 4 (0)) 5 (-1)))) → g.2.2 87 = some (.inl (0, 22, fun _ => 0)) → g.2.2 88 = some (.inl (0, 22, fun _ => 0)) → g.2.2 89 = some (.inl (0, 11, fun _ => 0)) → g.2.2 90 = some (.inl (0, 3, fun _ => 0)) → g.2.2 91 = some (.inl (0, 22, fun _ => 0)) → g.2.2 92 = some (.inl (0, 22, fun _ => 0)) → g.2.2 93 = some (.inl (0, 11, fun _ => 0)) → g.2.2 94 = some (.inl (0, 6, fun _ => 0)) → g.2.2 95 = some (.inl (0, 22, fun _ => 0)) → g.2.2 96 = some (.inl (0, 22, fun _ => 0)) → g.2.2 97 = some (.inl (0, 11, fun _ => 0)) → g.2.2 98 = some (.inl (0, 11, fun _ => 0)) → g.2.2 99 = some (.inl (0, 11, fun _ => 0)) → g.2.2 100 = some (.inl (0, 44, fun _ => 0)) → g.2.2 101 = some (.inl (0, 44, fun _ => 0)) → g.2.2 102 = some (.inl (0, 44, fun _ => 0)) → g.2.2 103 = some (.inl (0, 44, fun _ => 0)) → g.2.2 104 = some (.inl (0, 11, fun _ => 0)) → g.2.2 105 = some (.inl (1, 400, fun _ => 0)) → g.2.2 106 = some (.inl (0, 1800, fun _ => 0)) → g.2.2 107 = some (.inl (0, 1800, fun _ => 0)) → g.2.2 108 = some (.inl (0, 6, fun _ => 0)) → g.2.2 109 = some (.inl (0, 72, fun _ => 0)) → g.2.2 110 = some (.inl (0, 72, fun _ => 0)) → g.2.2 111 = some (.inl (0, 402, fun _ => 0)) → g.2.2 112 = some (.inl (3, 8, fun _ => 0)) → g.2.2 113 = some (.inl (3, 300, fun _ => 0)) → g.2.2 114 = some (.inl (0, 22, fun _ => 0)) → g.2.2 115 = some (.inl (0, 23, fun _ => 0)) → g.2.2 116 = some (.inl (0, 3, fun _ => 0)) → g.2.2 117 = some (.inl (3, 143, fun _ => 0)) → g.2.2 118 = some (.inl (0, 199, fun _ => 0)) → g.2.2 119 = some (.inl (0, 22, fun _ => 0)) → g.2.2 120 = some (.inl (0, 7224, fun _ => 0)) → g.2.2 121 = some (.inl (0, 301, fun _ => 0)) → g.2.2 122 = some (.inl (0, 301, fun _ => 0)) → g.2.2 123 = some (.inl (0, 280, fun _ => 0)) → g.2.2 124 = some (.inl (4, 4, fun _ => 0)) → Inv (mRefresh g)) : kInit sc Inv := by
  obtain ⟨z1, f1, r1, -, zb1, c0, c1, c2, c3, c4, c5, c6, c7, c8, c9, c10, c11, c12, c13, c14, c15, c16, c17, c18, c19, c20, c21, c22, c23, c24, c25, c26, c27, c28, c29, c30, c31, c32, c33, c34, c35, c36, c37, c38, c39, c40, c41, c42, c43, c44, c45, c46, c47, c48, c49, c50, c51, c52, c53, c54, c55, c56, c57, c58, c59, c60, c61, c62, c63, c64, c65, c66, c67, c68, c69, c70, c71, c72, c73, c74, c75, c76, c77, c78, c79, c80, c81, c82, c83, c84⟩ := ti_KT_init_0 (sc := sc) kNewK.2.1 kNewK.2.2 rfl
  obtain ⟨g, e1, r2, fr, zb2, hw, hb, c85, c86, c87, c88, c89, c90, c91, c92, c93, c94, c95, c96, c97, c98, c99, c100, c101, c102, c103, c104, c105, c106, c107, c108, c109, c110, c111, c112, c113, c114, c115, c116, c117, c118, c119, c120, c121, c122, c123, c124⟩ := ti_M_init_85 (sc := sc) (kNewM (85, z1, f1)).2.1 (kNewM (85, z1, f1)).2.2 rfl (fun g fr d85 d86 d87 d88 d89 d90 d91 d92 d93 d94 d95 d96 d97 d98 d99 d100 d101 d102 d103 d104 d105 d106 d107 d108 d109 d110 d111 d112 d113 d114 d115 d116 d117 d118 d119 d120 d121 d122 d123 d124 => kWF_init ((fr 0 (by decide)).trans ((kadd_n (m := 85) rfl (by decide)).trans c0)) ((fr 1 (by decide)).trans ((kadd_n (m := 85) rfl (by decide)).trans c1)) ((fr 2 (by decide)).trans ((kadd_n (m := 85) rfl (by decide)).trans c2)) ((fr 3 (by decide)).trans ((kadd_n (m := 85) rfl (by decide)).trans c3)) ((fr 4 (by decide)).trans ((kadd_n (m := 85) rfl (by decide)).trans c4)) ((fr 5 (by decide)).trans ((kadd_n (m := 85) rfl (by decide)).trans c5)) ((fr 6 (by decide)).trans ((kadd_n (m := 85) rfl (by decide)).trans c6)) ((fr 7 (by decide)).trans ((kadd_n (m := 85) rfl (by decide)).trans c7)) ((fr 8 (by decide)).trans ((kadd_n (m := 85) rfl (by decide)).trans c8)) ((fr 9 (by decide)).trans ((kadd_n (m := 85) rfl (by decide)).trans c9)) ((fr 10 (by decide)).trans ((kadd_n (m := 85) rfl (by decide)).trans c10)) ((fr 11 (by decide)).trans ((kadd_n (m := 85) rfl (by decide)).trans c11)) ((fr 12 (by decide)).trans ((kadd_n (m := 85) rfl (by decide)).trans c12)) ((fr 13 (by decide)).trans ((kadd_n (m := 85) rfl (by decide)).trans c13)) ((fr 14 (by decide)).trans ((kadd_n (m := 85) rfl (by decide)).trans c14)) ((fr 15 (by decide)).trans ((kadd_n (m := 85) rfl (by decide)).trans c15)) ((fr 16 (by decide)).trans ((kadd_n (m := 85) rfl (by decide)).trans c16)) ((fr 17 (by decide)).trans ((kadd_n (m := 85) rfl (by decide)).trans c17)) ((fr 18 (by decide)).trans ((kadd_n (m := 85) rfl (by decide)).trans c18)) ((fr 19 (by decide)).trans ((kadd_n (m := 85) rfl (by decide)).trans c19)) ((fr 20 (by decide)).trans ((kadd_n (m := 85) rfl (by decide)).trans c20)) ((fr 21 (by decide)).trans ((kadd_n (m := 85) rfl (by decide)).trans c21)) ((fr 22 (by decide)).trans ((kadd_n (m := 85) rfl (by decide)).trans c22)) ((fr 23 (by decide)).trans ((kadd_n (m := 85) rfl (by decide)).trans c23)) ((fr 24 (by decide)).trans ((kadd_n (m := 85) rfl (by decide)).trans c24)) ((fr 25 (by decide)).trans ((kadd_n (m := 85) rfl (by decide)).trans c25)) ((fr 26 (by decide)).trans ((kadd_n (m := 85) rfl (by decide)).trans c26)) ((fr 27 (by decide)).trans ((kadd_n (m := 85) rfl (by decide)).trans c27)) ((fr 28 (by decide)).trans ((kadd_n (m := 85) rfl (by decide)).trans c28)) ((fr 29 (by decide)).trans ((kadd_n (m := 85) rfl (by decide)).trans c29)) ((fr 30 (by decide)).trans ((kadd_n (m := 85) rfl (by decide)).trans c30)) ((fr 31 (by decide)).trans ((kadd_n (m := 85) rfl (by decide)).trans c31)) ((fr 32 (by decide)).trans ((kadd_n (m := 85) rfl (by decide)).trans c32)) ((fr 33 (by decide)).trans ((kadd_n (m := 85) rfl (by decide)).trans c33)) ((fr 34 (by decide)).trans ((kadd_n (m := 85) rfl (by decide)).trans c34)) ((fr 35 (by decide)).trans ((kadd_n (m := 85) rfl (by decide)).trans c35)) ((fr 36 (by decide)).trans ((kadd_n (m := 85) rfl (by decide)).trans c36)) ((fr 37 (by decide)).trans ((kadd_n (m := 85) rfl (by decide)).trans c37)) ((fr 38 (by decide)).trans ((kadd_n (m := 85) rfl (by decide)).trans c38)) ((fr 39 (by decide)).trans ((kadd_n (m := 85) rfl (by decide)).trans c39)) ((fr 40 (by decide)).trans ((kadd_n (m := 85) rfl (by decide)).trans c40)) ((fr 41 (by decide)).trans ((kadd_n (m := 85) rfl (by decide)).trans c41)) ((fr 42 (by decide)).trans ((kadd_n (m := 85) rfl (by decide)).trans c42)) ((fr 43 (by decide)).trans ((kadd_n (m := 85) rfl (by decide)).trans c43)) ((fr 44 (by decide)).trans ((kadd_n (m := 85) rfl (by decide)).trans c44)) ((fr 45 (by decide)).trans ((kadd_n (m := 85) rfl (by decide)).trans c45)) ((fr 46 (by decide)).trans ((kadd_n (m := 85) rfl (by decide)).trans c46)) ((fr 47 (by decide)).trans ((kadd_n (m := 85) rfl (by decide)).trans c47)) ((fr 48 (by decide)).trans ((kadd_n (m := 85) rfl (by decide)).trans c48)) ((fr 49 (by decide)).trans ((kadd_n (m := 85) rfl (by decide)).trans c49)) ((fr 50 (by decide)).trans ((kadd_n (m := 85) rfl (by decide)).trans c50)) ((fr 51 (by decide)).trans ((kadd_n (m := 85) rfl (by decide)).trans c51)) ((fr 52 (by decide)).trans ((kadd_n (m := 85) rfl (by decide)).trans c52)) ((fr 53 (by decide)).trans ((kadd_n (m := 85) rfl (by decide)).trans c53)) ((fr 54 (by decide)).trans ((kadd_n (m := 85) rfl (by decide)).trans c54)) ((fr 55 (by decide)).trans ((kadd_n (m := 85) rfl (by decide)).trans c55)) ((fr 56 (by decide)).trans ((kadd_n (m := 85) rfl (by decide)).trans c56)) ((fr 57 (by decide)).trans ((kadd_n (m := 85) rfl (by decide)).trans c57)) ((fr 58 (by decide)).trans ((kadd_n (m := 85) rfl (by decide)).trans c58)) ((fr 59 (by decide)).trans ((kadd_n (m := 85) rfl (by decide)).trans c59)) ((fr 60 (by decide)).trans ((kadd_n (m := 85) rfl (by decide)).trans c60)) ((fr 61 (by decide)).trans ((kadd_n (m := 85) rfl (by decide)).trans c61)) ((fr 62 (by decide)).trans ((kadd_n (m := 85) rfl (by decide)).trans c62)) ((fr 63 (by decide)).trans ((kadd_n (m := 85) rfl (by decide)).trans c63)) ((fr 64 (by decide)).trans ((kadd_n (m := 85) rfl (by decide)).trans c64)) ((fr 65 (by decide)).trans ((kadd_n (m := 85) rfl (by decide)).trans c65)) ((fr 66 (by decide)).trans ((kadd_n (m := 85) rfl (by decide)).trans c66)) ((fr 67 (by decide)).trans ((kadd_n (m := 85) rfl (by decide)).trans c67)) ((fr 68 (by decide)).trans ((kadd_n (m := 85) rfl (by decide)).trans c68)) ((fr 69 (by decide)).trans ((kadd_n (m := 85) rfl (by decide)).trans c69)) ((fr 70 (by decide)).trans ((kadd_n (m := 85) rfl (by decide)).trans c70)) ((fr 71 (by decide)).trans ((kadd_n (m := 85) rfl (by decide)).trans c71)) ((fr 72 (by decide)).trans ((kadd_n (m := 85) rfl (by decide)).trans c72)) ((fr 73 (by decide)).trans ((kadd_n (m := 85) rfl (by decide)).trans c73)) ((fr 74 (by decide)).trans ((kadd_n (m := 85) rfl (by decide)).trans c74)) ((fr 75 (by decide)).trans ((kadd_n (m := 85) rfl (by decide)).trans c75)) ((fr 76 (by decide)).trans ((kadd_n (m := 85) rfl (by decide)).trans c76)) ((fr 77 (by decide)).trans ((kadd_n (m := 85) rfl (by decide)).trans c77)) ((fr 78 (by decide)).trans ((kadd_n (m := 85) rfl (by decide)).trans c78)) ((fr 79 (by decide)).trans ((kadd_n (m := 85) rfl (by decide)).trans c79)) ((fr 80 (by decide)).trans ((kadd_n (m := 85) rfl (by decide)).trans c80)) ((fr 81 (by decide)).trans ((kadd_n (m := 85) rfl (by decide)).trans c81)) ((fr 82 (by decide)).trans ((kadd_n (m := 85) rfl (by decide)).trans c82)) ((fr 83 (by decide)).trans ((kadd_n (m := 85) rfl (by decide)).trans c83)) ((fr 84 (by decide)).trans ((kadd_n (m := 85) rfl (by decide)).trans c84)) d85 d86 d87 d88 d89 d90 d91 d92 d93 d94 d95 d96 d97 d98 d99 d100 d101 d102 d103 d104 d105 d106 d107 d108 d109 d110 d111 d112 d113 d114 d115 d116 d117 d118 d119 d120 d121 d122 d123 d124)
  refine ⟨(85, z1, f1), mRefresh g, r1.mono (by decide), rfl, r2.mono (by decide), hI g e1 hw hb ((fr 0 (by decide)).trans ((kadd_n (m := 85) rfl (by decide)).trans c0)) ((fr 1 (by decide)).trans ((kadd_n (m := 85) rfl (by decide)).trans c1)) ((fr 2 (by decide)).trans ((kadd_n (m := 85) rfl (by decide)).trans c2)) ((fr 3 (by decide)).trans ((kadd_n (m := 85) rfl (by decide)).trans c3)) ((fr 4 (by decide)).trans ((kadd_n (m := 85) rfl (by decide)).trans c4)) ((fr 5 (by decide)).trans ((kadd_n (m := 85) rfl (by decide)).trans c5)) ((fr 6 (by decide)).trans ((kadd_n (m := 85) rfl (by decide)).trans c6)) ((fr 7 (by decide)).trans ((kadd_n (m := 85) rfl (by decide)).trans c7)) ((fr 8 (by decide)).trans ((kadd_n (m := 85) rfl (by decide)).trans c8)) ((fr 9 (by decide)).trans ((kadd_n (m := 85) rfl (by decide)).trans c9)) ((fr 10 (by decide)).trans ((kadd_n (m := 85) rfl (by decide)).trans c10)) ((fr 11 (by decide)).trans ((kadd_n (m := 85) rfl (by decide)).trans c11)) ((fr 12 (by decide)).trans ((kadd_n (m := 85) rfl (by decide)).trans c12)) ((fr 13 (by decide)).trans ((kadd_n (m := 85) rfl (by decide)).trans c13)) ((fr 14 (by decide)).trans ((kadd_n (m := 85) rfl (by decide)).trans c14)) ((fr 15 (by decide)).trans ((kadd_n (m := 85) rfl (by decide)).trans c15)) ((fr 16 (by decide)).trans ((kadd_n (m := 85) rfl (by decide)).trans c16)) ((fr 17 (by decide)).trans ((kadd_n (m := 85) rfl (by decide)).trans c17)) ((fr 18 (by decide)).trans ((kadd_n (m := 85) rfl (by decide)).trans c18)) ((fr 19 (by decide)).trans ((kadd_n (m := 85) rfl (by decide)).trans c19)) ((fr 20 (by decide)).trans ((kadd_n (m := 85) rfl (by decide)).trans c20)) ((fr 21 (by decide)).trans ((kadd_n (m := 85) rfl (by decide)).trans c21)) ((fr 22 (by decide)).trans ((kadd_n (m := 85) rfl (by decide)).trans c22)) ((fr 23 (by decide)).trans ((kadd_n (m := 85) rfl (by decide)).trans c23)) ((fr 24 (by decide)).trans ((kadd_n (m := 85) rfl (by decide)).trans c24)) ((fr 25 (by decide)).trans ((kadd_n (m := 85) rfl (by decide)).trans c25)) ((fr 26 (by decide)).trans ((kadd_n (m := 85) rfl (by decide)).trans c26)) ((fr 27 (by decide)).trans ((kadd_n (m := 85) rfl (by decide)).trans c27)) ((fr 28 (by decide)).trans ((kadd_n (m := 85) rfl (by decide)).trans c28)) ((fr 29 (by decide)).trans ((kadd_n (m := 85) rfl (by decide)).trans c29)) ((fr 30 (by decide)).trans ((kadd_n (m := 85) rfl (by decide)).trans c30)) ((fr 31 (by decide)).trans ((kadd_n (m := 85) rfl (by decide)).trans c31)) ((fr 32 (by decide)).trans ((kadd_n (m := 85) rfl (by decide)).trans c32)) ((fr 33 (by decide)).trans ((kadd_n (m := 85) rfl (by decide)).trans c33)) ((fr 34 (by decide)).trans ((kadd_n (m := 85) rfl (by decide)).trans c34)) ((fr 35 (by decide)).trans ((kadd_n (m := 85) rfl (by decide)).trans c35)) ((fr 36 (by decide)).trans ((kadd_n (m := 85) rfl (by decide)).trans c36)) ((fr 37 (by decide)).trans ((kadd_n (m := 85) rfl (by decide)).trans c37)) ((fr 38 (by decide)).trans ((kadd_n (m := 85) rfl (by decide)).trans c38)) ((fr 39 (by decide)).trans ((kadd_n (m := 85) rfl (by decide)).trans c39)) ((fr 40 (by decide)).trans ((kadd_n (m := 85) rfl (by decide)).trans c40)) ((fr 41 (by decide)).trans ((kadd_n (m := 85) rfl (by decide)).trans c41)) ((fr 42 (by decide)).trans ((kadd_n (m := 85) rfl (by decide)).trans c42)) ((fr 43 (by decide)).trans ((kadd_n (m := 85) rfl (by decide)).trans c43)) ((fr 44 (by decide)).trans ((kadd_n (m := 85) rfl (by decide)).trans c44)) ((fr 45 (by decide)).trans ((kadd_n (m := 85) rfl (by decide)).trans c45)) ((fr 46 (by decide)).trans ((kadd_n (m := 85) rfl (by decide)).trans c46)) ((fr 47 (by decide)).trans ((kadd_n (m := 85) rfl (by decide)).trans c47)) ((fr 48 (by decide)).trans ((kadd_n (m := 85) rfl (by decide)).trans c48)) ((fr 49 (by decide)).trans ((kadd_n (m := 85) rfl (by decide)).trans c49)) ((fr 50 (by decide)).trans ((kadd_n (m := 85) rfl (by decide)).trans c50)) ((fr 51 (by decide)).trans ((kadd_n (m := 85) rfl (by decide)).trans c51)) ((fr 52 (by decide)).trans ((kadd_n (m := 85) rfl (by decide)).trans c52)) ((fr 53 (by decide)).trans ((kadd_n (m := 85) rfl (by decide)).trans c53)) ((fr 54 (by decide)).trans ((kadd_n (m := 85) rfl (by decide)).trans c54)) ((fr 55 (by decide)).trans ((kadd_n (m := 85) rfl (by decide)).trans c55)) ((fr 56 (by decide)).trans ((kadd_n (m := 85) rfl (by decide)).trans c56)) ((fr 57 (by decide)).trans ((kadd_n (m := 85) rfl (by decide)).trans c57)) ((fr 58 (by decide)).trans ((kadd_n (m := 85) rfl (by decide)).trans c58)) ((fr 59 (by decide)).trans ((kadd_n (m := 85) rfl (by decide)).trans c59)) ((fr 60 (by decide)).trans ((kadd_n (m := 85) rfl (by decide)).trans c60)) ((fr 61 (by decide)).trans ((kadd_n (m := 85) rfl (by decide)).trans c61)) ((fr 62 (by decide)).trans ((kadd_n (m := 85) rfl (by decide)).trans c62)) ((fr 63 (by decide)).trans ((kadd_n (m := 85) rfl (by decide)).trans c63)) ((fr 64 (by decide)).trans ((kadd_n (m := 85) rfl (by decide)).trans c64)) ((fr 65 (by decide)).trans ((kadd_n (m := 85) rfl (by decide)).trans c65)) ((fr 66 (by decide)).trans ((kadd_n (m := 85) rfl (by decide)).trans c66)) ((fr 67 (by decide)).trans ((kadd_n (m := 85) rfl (by decide)).trans c67)) ((fr 68 (by decide)).trans ((kadd_n (m := 85) rfl (by decide)).trans c68)) ((fr 69 (by decide)).trans ((kadd_n (m := 85) rfl (by decide)).trans c69)) ((fr 70 (by decide)).trans ((kadd_n (m := 85) rfl (by decide)).trans c70)) ((fr 71 (by decide)).trans ((kadd_n (m := 85) rfl (by decide)).trans c71)) ((fr 72 (by decide)).trans ((kadd_n (m := 85) rfl (by decide)).trans c72)) ((fr 73 (by decide)).trans ((kadd_n (m := 85) rfl (by decide)).trans c73)) ((fr 74 (by decide)).trans ((kadd_n (m := 85) rfl (by decide)).trans c74)) ((fr 75 (by decide)).trans ((kadd_n (m := 85) rfl (by decide)).trans c75)) ((fr 76 (by decide)).trans ((kadd_n (m := 85) rfl (by decide)).trans c76)) ((fr 77 (by decide)).trans ((kadd_n (m := 85) rfl (by decide)).trans c77)) ((fr 78 (by decide)).trans ((kadd_n (m := 85) rfl (by decide)).trans c78)) ((fr 79 (by decide)).trans ((kadd_n (m := 85) rfl (by decide)).trans c79)) ((fr 80 (by decide)).trans ((kadd_n (m := 85) rfl (by decide)).trans c80)) ((fr 81 (by decide)).trans ((kadd_n (m := 85) rfl (by decide)).trans c81)) ((fr 82 (by decide)).trans ((kadd_n (m := 85) rfl (by decide)).trans c82)) ((fr 83 (by decide)).trans ((kadd_n (m := 85) rfl (by decide)).trans c83)) ((fr 84 (by decide)).trans ((kadd_n (m := 85) rfl (by decide)).trans c84)) c85 c86 c87 c88 c89 c90 c91 c92 c93 c94 c95 c96 c97 c98 c99 c100 c101 c102 c103 c104 c105 c106 c107 c108 c109 c110 c111 c112 c113 c114 c115 c116 c117 c118 c119 c120 c121 c122 c123 c124, ?_, ?_⟩
  · show g.1 ≤ 1000
    omega
  · show g.2.1 ≤ 1000000
    have l1 : (kfk 10).length ≤ 60 := by decide
    have l2 : (kfk 11).length ≤ 60 := by decide
    simp only [kadd] at zb1 zb2
    omega
