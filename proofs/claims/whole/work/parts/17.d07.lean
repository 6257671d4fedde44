/-! PRINTED by wip/whole/decall.py: methods as functions over the flat world, with their contracts -/
def f_KT_backToFront (x1 : Int) (s : kM) : Option (Int × kM) :=
  if x1 < 0 then (some ((-1), s)) else (if x1 < (s 4 0) then ((f_Town_reverse 4 x1 s).bind fun q3 => (f_Town_settle 4 q3).bind fun q5 => (f_KT_forget q5).bind fun q7 => (f_Town_roadEnd 4 x1 q7).bind fun q9 => (f_Town_roadStart 4 x1 q7).bind fun q10 => some ((wI (q9 - q10)), q7)) else (some ((-1), s)))
set_option maxRecDepth 8000 in
theorem c_KT_backToFront {sc : List Int} (x1 : Int) (s : kM) (t : Int × kM) (hf : f_KT_backToFront x1 s = some t) : kR sc 3 km_KT_backToFront [kr 0, kI x1] (hH s) (some (kI t.1)) (hH t.2) := by
  unfold f_KT_backToFront at hf
  refine kR.start rfl ?_
  show kW sc 3 kc_KT_backToFront 1 0 [some (kr 0), some (kI x1), none] [] (hH s) _
  have hq : (fun (r : Option kV) (g : kH) => r = some (kI t.1) ∧ g = hH t.2) (some (kI t.1)) (hH t.2) := ⟨rfl, rfl⟩
  refine kw_step rfl rfl rfl rfl ?_
  refine kw_get rfl (hH_O (rfl : kotab 0 = some kKo)) rfl ?_
  refine kw_get rfl (hH_O (tS_0 (b := 3) rfl)) rfl ?_
  refine kw_step (L' := [some (kr 0), some (kI x1), some (kr 4)]) rfl rfl rfl rfl ?_
  refine kw_step rfl rfl rfl rfl ?_
  refine kw_if_lt rfl rfl (fun c1 => ?_) (fun c1 => ?_)
  · have hf := gift c1 hf
    refine kw_step rfl rfl rfl rfl ?_
    cases hf
    exact kw_ret rfl rfl rfl hq
  · have hf := giff c1 hf
    refine kw_step rfl rfl rfl rfl ?_
    refine kw_step rfl rfl rfl rfl ?_
    refine kw_get rfl (hH_O (tT_0 (b := 4) rfl)) rfl ?_
    refine kw_icmp_lt rfl rfl (fun c2 => ?_) (fun c2 => ?_)
    · have hf := gift c2 hf
      refine kw_step rfl rfl rfl rfl ?_
      refine kw_step rfl rfl rfl rfl ?_
      obtain ⟨q3, hq3, hf⟩ := gbind hf
      refine kw_callV (vs := [kI x1]) rfl rfl rfl ⟨rfl, Nat.le_of_ble_eq_true rfl, Nat.le_of_ble_eq_true rfl, by decide⟩ (hH_O (tT_0 (b := 4) rfl)) (c_Town_reverse 4 (rfl : tT 4 = true) x1 s _ hq3) (Nat.le_of_ble_eq_true rfl) ?_
      refine kw_step rfl rfl rfl rfl ?_
      obtain ⟨q5, hq5, hf⟩ := gbind hf
      refine kw_callV (vs := []) rfl rfl rfl ⟨rfl, Nat.le_of_ble_eq_true rfl, Nat.le_of_ble_eq_true rfl, by decide⟩ (hH_O (tT_0 (b := 4) rfl)) (c_Town_settle 4 (rfl : tT 4 = true) q3 _ hq5) (Nat.le_of_ble_eq_true rfl) ?_
      refine kw_step rfl rfl rfl rfl ?_
      obtain ⟨q7, hq7, hf⟩ := gbind hf
      refine kw_callV (vs := []) rfl rfl rfl ⟨rfl, Nat.le_of_ble_eq_true rfl, Nat.le_of_ble_eq_true rfl, by decide⟩ (hH_O (rfl : kotab 0 = some kKo)) (c_KT_forget q5 _ hq7) (Nat.le_of_ble_eq_true rfl) ?_
      refine kw_step rfl rfl rfl rfl ?_
      refine kw_step rfl rfl rfl rfl ?_
      obtain ⟨q9, hq9, hf⟩ := gbind hf
      refine kw_callV (vs := [kI x1]) rfl rfl rfl ⟨rfl, Nat.le_of_ble_eq_true rfl, Nat.le_of_ble_eq_true rfl, by decide⟩ (hH_O (tT_0 (b := 4) rfl)) (c_Town_roadEnd 4 (rfl : tT 4 = true) x1 q7 _ hq9) (Nat.le_of_ble_eq_true rfl) ?_
      refine kw_step rfl rfl rfl rfl ?_
      refine kw_step rfl rfl rfl rfl ?_
      obtain ⟨q10, hq10, hf⟩ := gbind hf
      refine kw_callV (vs := [kI x1]) rfl rfl rfl ⟨rfl, Nat.le_of_ble_eq_true rfl, Nat.le_of_ble_eq_true rfl, by decide⟩ (hH_O (tT_0 (b := 4) rfl)) (c_Town_roadStart 4 (rfl : tT 4 = true) x1 q7 _ hq10) (Nat.le_of_ble_eq_true rfl) ?_
      refine kw_step rfl rfl rfl rfl ?_
      cases hf
      exact kw_ret rfl rfl rfl hq
    · have hf := giff c2 hf
      refine kw_step rfl rfl rfl rfl ?_
      cases hf
      exact kw_ret rfl rfl rfl hq
def f_Land_movesOfKind_20 (b0 : Nat) (x1 : Int) (x3 : Int) (y0 : Int) (y1 : Int) (s : kM) : Option ((Int × Int) ⊕ (Int)) :=
  some (.inl ((wI (y0 + y1)), (wI (x3 + 1))))
set_option maxRecDepth 8000 in
theorem b_Land_movesOfKind_20 {sc : List Int} {Q : Option kV → kH → Prop} (b0 : Nat) (hb0 : tL b0 = true) (x1 : Int) (x3 : Int) (y0 : Int) (y1 : Int) (s : kM) (t : (Int × Int) ⊕ (Int)) (hf : f_Land_movesOfKind_20 b0 x1 x3 y0 y1 s = some t) (hq : (gE (fun x => kW sc 1 kc_Land_movesOfKind 1 4 [some (kr b0), some (kI x1), some (kI x.1), some (kI x.2)] [] (hH s) Q) (fun r => Q (some (kI r)) (hH s))) t) : kW sc 1 kc_Land_movesOfKind 1 20 [some (kr b0), some (kI x1), none, some (kI x3)] [kI y1, kI y0] (hH s) Q := by
  unfold f_Land_movesOfKind_20 at hf
  refine kw_step rfl rfl rfl rfl ?_
  refine kw_step (L' := [some (kr b0), some (kI x1), some (kI (wI (y0 + y1))), some (kI x3)]) rfl rfl rfl rfl ?_
  refine kw_step (L' := [some (kr b0), some (kI x1), some (kI (wI (y0 + y1))), some (kI (wI (x3 + 1)))]) rfl rfl rfl rfl ?_
  refine kw_goto rfl rfl ?_
  cases hf
  exact kW_le (L' := [some (kr b0), some (kI x1), some (kI (wI (y0 + y1))), some (kI (wI (x3 + 1)))]) ⟨Or.inr rfl, Or.inr rfl, Or.inr rfl, Or.inr rfl, trivial⟩ hq
def f_Land_movesOfKind_4b (b0 : Nat) (x1 : Int) (x2 : Int) (x3 : Int) (s : kM) : Option ((Int × Int) ⊕ (Int)) :=
  if (s b0 6) ≤ x3 then (some (.inr x2)) else ((gI 48 x3).bind fun j2 => (f_Land_partOfMove (s (b0 + 1) j2) 0 s).bind fun q4 => if q4 = x1 then (f_Land_movesOfKind_20 b0 x1 x3 x2 1 s) else (f_Land_movesOfKind_20 b0 x1 x3 x2 0 s))
set_option maxRecDepth 8000 in
theorem b_Land_movesOfKind_4b {sc : List Int} {Q : Option kV → kH → Prop} (b0 : Nat) (hb0 : tL b0 = true) (x1 : Int) (x2 : Int) (x3 : Int) (s : kM) (t : (Int × Int) ⊕ (Int)) (hf : f_Land_movesOfKind_4b b0 x1 x2 x3 s = some t) (hq : (gE (fun x => kW sc 1 kc_Land_movesOfKind 1 4 [some (kr b0), some (kI x1), some (kI x.1), some (kI x.2)] [] (hH s) Q) (fun r => Q (some (kI r)) (hH s))) t) : kW sc 1 kc_Land_movesOfKind 1 4 [some (kr b0), some (kI x1), some (kI x2), some (kI x3)] [] (hH s) Q := by
  unfold f_Land_movesOfKind_4b at hf
  refine kw_step rfl rfl rfl rfl ?_
  refine kw_step rfl rfl rfl rfl ?_
  refine kw_get rfl (hH_O (tL_0 hb0)) rfl ?_
  refine kw_icmp_ge rfl rfl (fun c1 => ?_) (fun c1 => ?_)
  · have hf := gift c1 hf
    refine kw_step rfl rfl rfl rfl ?_
    cases hf
    exact kw_ret rfl rfl rfl hq
  · have hf := giff c1 hf
    refine kw_step rfl rfl rfl rfl ?_
    refine kw_step rfl rfl rfl rfl ?_
    refine kw_get rfl (hH_O (tL_0 hb0)) rfl ?_
    refine kw_step rfl rfl rfl rfl ?_
    obtain ⟨j2, i3, hf⟩ := gbI hf
    refine kw_iald rfl (hH_A (tL_1 hb0)) i3.1 i3.2.1 i3.2.2 ?_
    refine kw_step rfl rfl rfl rfl ?_
    obtain ⟨q4, hq4, hf⟩ := gbind hf
    refine kw_callS (vs := [kI (s (b0 + 1) j2), kI 0]) rfl rfl rfl ⟨rfl, Nat.le_of_ble_eq_true rfl, Nat.le_of_ble_eq_true rfl, rfl⟩ (c_Land_partOfMove (s (b0 + 1) j2) 0 s _ hq4) (Nat.le_of_ble_eq_true rfl) ?_
    refine kw_step rfl rfl rfl rfl ?_
    refine kw_icmp_ne rfl rfl (fun c5 => ?_) (fun c5 => ?_)
    · have hf := giff c5 hf
      refine kw_step rfl rfl rfl rfl ?_
      exact kW_le (L' := [some (kr b0), some (kI x1), none, some (kI x3)]) ⟨Or.inr rfl, Or.inr rfl, Or.inl rfl, Or.inr rfl, trivial⟩ (b_Land_movesOfKind_20 b0 hb0 x1 x3 x2 0 s _ hf hq)
    · have hf := gift c5 hf
      refine kw_step rfl rfl rfl rfl ?_
      refine kw_goto rfl rfl ?_
      exact kW_le (L' := [some (kr b0), some (kI x1), none, some (kI x3)]) ⟨Or.inr rfl, Or.inr rfl, Or.inl rfl, Or.inr rfl, trivial⟩ (b_Land_movesOfKind_20 b0 hb0 x1 x3 x2 1 s _ hf hq)
def f_Land_movesOfKind_4 (b0 : Nat) (x1 : Int) (x2 : Int) (x3 : Int) (s : kM) : Option (Int) :=
  gL (fun (x : Int × Int) => f_Land_movesOfKind_4b b0 x1 x.1 x.2 s) gF (x2, x3)
theorem b_Land_movesOfKind_4 {sc : List Int} {Q : Option kV → kH → Prop} (b0 : Nat) (hb0 : tL b0 = true) (x1 : Int) (x2 : Int) (x3 : Int) (s : kM) (t : Int) (hf : f_Land_movesOfKind_4 b0 x1 x2 x3 s = some t) (hq : (fun r => Q (some (kI r)) (hH s)) t) : kW sc 1 kc_Land_movesOfKind 1 4 [some (kr b0), some (kI x1), some (kI x2), some (kI x3)] [] (hH s) Q :=
  gL_ind (P := fun (x : Int × Int) => kW sc 1 kc_Land_movesOfKind 1 4 [some (kr b0), some (kI x1), some (kI x.1), some (kI x.2)] [] (hH s) Q) (q := (fun r => Q (some (kI r)) (hH s))) (fun x t hf hq => b_Land_movesOfKind_4b b0 hb0 x1 x.1 x.2 s t hf hq) gF (x2, x3) t hf hq
def f_Land_movesOfKind (b0 : Nat) (x1 : Int) (s : kM) : Option (Int) :=
  f_Land_movesOfKind_4 b0 x1 0 0 s
set_option maxRecDepth 8000 in
theorem c_Land_movesOfKind {sc : List Int} (b0 : Nat) (hb0 : tL b0 = true) (x1 : Int) (s : kM) (t : Int) (hf : f_Land_movesOfKind b0 x1 s = some t) : kR sc 1 km_Land_movesOfKind [kr b0, kI x1] (hH s) (some (kI t)) (hH s) := by
  unfold f_Land_movesOfKind at hf
  refine kR.start rfl ?_
  show kW sc 1 kc_Land_movesOfKind 1 0 [some (kr b0), some (kI x1), none, none] [] (hH s) _
  have hq : (fun (r : Option kV) (g : kH) => r = some (kI t) ∧ g = hH s) (some (kI t)) (hH s) := ⟨rfl, rfl⟩
  refine kw_step rfl rfl rfl rfl ?_
  refine kw_step (L' := [some (kr b0), some (kI x1), some (kI 0), none]) rfl rfl rfl rfl ?_
  refine kw_step rfl rfl rfl rfl ?_
  refine kw_step (L' := [some (kr b0), some (kI x1), some (kI 0), some (kI 0)]) rfl rfl rfl rfl ?_
  exact kW_le (L' := [some (kr b0), some (kI x1), some (kI 0), some (kI 0)]) ⟨Or.inr rfl, Or.inr rfl, Or.inr rfl, Or.inr rfl, trivial⟩ (b_Land_movesOfKind_4 b0 hb0 x1 0 0 s _ hf hq)
def f_KT_can (x1 : Int) (s : kM) : Option (Int × kM) :=
  if (s 4 0) = 0 then (some ((-1), s)) else (if x1 < 1 then (some ((-1), s)) else (if x1 ≤ 3 then ((f_Land_survey 17 4 s).bind fun q4 => (f_Land_movesOfKind 17 x1 q4).bind fun q6 => some (q6, q4)) else (some ((-1), s))))
set_option maxRecDepth 8000 in
theorem c_KT_can {sc : List Int} (x1 : Int) (s : kM) (t : Int × kM) (hf : f_KT_can x1 s = some t) : kR sc 4 km_KT_can [kr 0, kI x1] (hH s) (some (kI t.1)) (hH t.2) := by
  unfold f_KT_can at hf
  refine kR.start rfl ?_
  show kW sc 4 kc_KT_can 1 0 [some (kr 0), some (kI x1)] [] (hH s) _
  have hq : (fun (r : Option kV) (g : kH) => r = some (kI t.1) ∧ g = hH t.2) (some (kI t.1)) (hH t.2) := ⟨rfl, rfl⟩
  refine kw_step rfl rfl rfl rfl ?_
  refine kw_get rfl (hH_O (rfl : kotab 0 = some kKo)) rfl ?_
  refine kw_get rfl (hH_O (tS_0 (b := 3) rfl)) rfl ?_
  refine kw_get rfl (hH_O (tT_0 (b := 4) rfl)) rfl ?_
  refine kw_if_eq rfl rfl (fun c1 => ?_) (fun c1 => ?_)
  · have hf := gift c1 hf
    refine kw_step rfl rfl rfl rfl ?_
    cases hf
    exact kw_ret rfl rfl rfl hq
  · have hf := giff c1 hf
    refine kw_step rfl rfl rfl rfl ?_
    refine kw_step rfl rfl rfl rfl ?_
    refine kw_icmp_lt rfl rfl (fun c2 => ?_) (fun c2 => ?_)
    · have hf := gift c2 hf
      refine kw_step rfl rfl rfl rfl ?_
      cases hf
      exact kw_ret rfl rfl rfl hq
    · have hf := giff c2 hf
      refine kw_step rfl rfl rfl rfl ?_
      refine kw_step rfl rfl rfl rfl ?_
      refine kw_icmp_le rfl rfl (fun c3 => ?_) (fun c3 => ?_)
      · have hf := gift c3 hf
        refine kw_step rfl rfl rfl rfl ?_
        refine kw_get rfl (hH_O (rfl : kotab 0 = some kKo)) rfl ?_
        refine kw_step rfl rfl rfl rfl ?_
        refine kw_get rfl (hH_O (rfl : kotab 0 = some kKo)) rfl ?_
        refine kw_get rfl (hH_O (tS_0 (b := 3) rfl)) rfl ?_
        obtain ⟨q4, hq4, hf⟩ := gbind hf
        refine kw_callV (vs := [kr 4]) rfl rfl rfl ⟨rfl, Nat.le_of_ble_eq_true rfl, Nat.le_of_ble_eq_true rfl, by decide⟩ (hH_O (tL_0 (b := 17) rfl)) (c_Land_survey 17 4 (rfl : tL 17 = true) (rfl : tT 4 = true) s _ hq4) (Nat.le_of_ble_eq_true rfl) ?_
        refine kw_step rfl rfl rfl rfl ?_
        refine kw_get rfl (hH_O (rfl : kotab 0 = some kKo)) rfl ?_
        refine kw_step rfl rfl rfl rfl ?_
        obtain ⟨q6, hq6, hf⟩ := gbind hf
        refine kw_callV (vs := [kI x1]) rfl rfl rfl ⟨rfl, Nat.le_of_ble_eq_true rfl, Nat.le_of_ble_eq_true rfl, by decide⟩ (hH_O (tL_0 (b := 17) rfl)) (c_Land_movesOfKind 17 (rfl : tL 17 = true) x1 q4 _ hq6) (Nat.le_of_ble_eq_true rfl) ?_
        cases hf
        exact kw_ret rfl rfl rfl hq
      · have hf := giff c3 hf
        refine kw_step rfl rfl rfl rfl ?_
        cases hf
        exact kw_ret rfl rfl rfl hq
def f_Town_handsOf_21 (b0 : Nat) (x1 : Int) (x3 : Int) (y0 : Int) (y1 : Int) (s : kM) : Option ((Int × Int) ⊕ (Int)) :=
  some (.inl ((wI (y0 + y1)), (wI (x3 + 1))))
set_option maxRecDepth 8000 in
theorem b_Town_handsOf_21 {sc : List Int} {Q : Option kV → kH → Prop} (b0 : Nat) (hb0 : tT b0 = true) (x1 : Int) (x3 : Int) (y0 : Int) (y1 : Int) (s : kM) (t : (Int × Int) ⊕ (Int)) (hf : f_Town_handsOf_21 b0 x1 x3 y0 y1 s = some t) (hq : (gE (fun x => kW sc 0 kc_Town_handsOf 1 4 [some (kr b0), some (kI x1), some (kI x.1), some (kI x.2)] [] (hH s) Q) (fun r => Q (some (kI r)) (hH s))) t) : kW sc 0 kc_Town_handsOf 1 21 [some (kr b0), some (kI x1), none, some (kI x3)] [kI y1, kI y0] (hH s) Q := by
  unfold f_Town_handsOf_21 at hf
  refine kw_step rfl rfl rfl rfl ?_
  refine kw_step (L' := [some (kr b0), some (kI x1), some (kI (wI (y0 + y1))), some (kI x3)]) rfl rfl rfl rfl ?_
  refine kw_step (L' := [some (kr b0), some (kI x1), some (kI (wI (y0 + y1))), some (kI (wI (x3 + 1)))]) rfl rfl rfl rfl ?_
  refine kw_goto rfl rfl ?_
  cases hf
  exact kW_le (L' := [some (kr b0), some (kI x1), some (kI (wI (y0 + y1))), some (kI (wI (x3 + 1)))]) ⟨Or.inr rfl, Or.inr rfl, Or.inr rfl, Or.inr rfl, trivial⟩ hq
def f_Town_handsOf_4b (b0 : Nat) (x1 : Int) (x2 : Int) (x3 : Int) (s : kM) : Option ((Int × Int) ⊕ (Int)) :=
  if 11 ≤ x3 then (some (.inr x2)) else (if (kand (kshr x1 x3) 1) = 1 then ((gI 11 x3).bind fun j3 => f_Town_handsOf_21 b0 x1 x3 x2 (s (b0 + 2) j3) s) else (f_Town_handsOf_21 b0 x1 x3 x2 0 s))
set_option maxRecDepth 8000 in
theorem b_Town_handsOf_4b {sc : List Int} {Q : Option kV → kH → Prop} (b0 : Nat) (hb0 : tT b0 = true) (x1 : Int) (x2 : Int) (x3 : Int) (s : kM) (t : (Int × Int) ⊕ (Int)) (hf : f_Town_handsOf_4b b0 x1 x2 x3 s = some t) (hq : (gE (fun x => kW sc 0 kc_Town_handsOf 1 4 [some (kr b0), some (kI x1), some (kI x.1), some (kI x.2)] [] (hH s) Q) (fun r => Q (some (kI r)) (hH s))) t) : kW sc 0 kc_Town_handsOf 1 4 [some (kr b0), some (kI x1), some (kI x2), some (kI x3)] [] (hH s) Q := by
  unfold f_Town_handsOf_4b at hf
  refine kw_step rfl rfl rfl rfl ?_
  refine kw_step rfl rfl rfl rfl ?_
  refine kw_icmp_ge rfl rfl (fun c1 => ?_) (fun c1 => ?_)
  · have hf := gift c1 hf
    refine kw_step rfl rfl rfl rfl ?_
    cases hf
    exact kw_ret rfl rfl rfl hq
  · have hf := giff c1 hf
    refine kw_step rfl rfl rfl rfl ?_
    refine kw_step rfl rfl rfl rfl ?_
    refine kw_step rfl rfl rfl rfl ?_
    refine kw_step rfl rfl rfl rfl ?_
    refine kw_step rfl rfl rfl rfl ?_
    refine kw_step rfl rfl rfl rfl ?_
    refine kw_step rfl rfl rfl rfl ?_
    refine kw_icmp_ne rfl rfl (fun c2 => ?_) (fun c2 => ?_)
    · have hf := giff c2 hf
      refine kw_step rfl rfl rfl rfl ?_
      exact kW_le (L' := [some (kr b0), some (kI x1), none, some (kI x3)]) ⟨Or.inr rfl, Or.inr rfl, Or.inl rfl, Or.inr rfl, trivial⟩ (b_Town_handsOf_21 b0 hb0 x1 x3 x2 0 s _ hf hq)
    · have hf := gift c2 hf
      refine kw_step rfl rfl rfl rfl ?_
      refine kw_get rfl (hH_O (tT_0 hb0)) rfl ?_
      refine kw_step rfl rfl rfl rfl ?_
      obtain ⟨j3, i4, hf⟩ := gbI hf
      refine kw_iald rfl (hH_A (tT_2 hb0)) i4.1 i4.2.1 i4.2.2 ?_
      refine kw_goto rfl rfl ?_
      exact kW_le (L' := [some (kr b0), some (kI x1), none, some (kI x3)]) ⟨Or.inr rfl, Or.inr rfl, Or.inl rfl, Or.inr rfl, trivial⟩ (b_Town_handsOf_21 b0 hb0 x1 x3 x2 (s (b0 + 2) j3) s _ hf hq)
def f_Town_handsOf_4 (b0 : Nat) (x1 : Int) (x2 : Int) (x3 : Int) (s : kM) : Option (Int) :=
  gL (fun (x : Int × Int) => f_Town_handsOf_4b b0 x1 x.1 x.2 s) gF (x2, x3)
theorem b_Town_handsOf_4 {sc : List Int} {Q : Option kV → kH → Prop} (b0 : Nat) (hb0 : tT b0 = true) (x1 : Int) (x2 : Int) (x3 : Int) (s : kM) (t : Int) (hf : f_Town_handsOf_4 b0 x1 x2 x3 s = some t) (hq : (fun r => Q (some (kI r)) (hH s)) t) : kW sc 0 kc_Town_handsOf 1 4 [some (kr b0), some (kI x1), some (kI x2), some (kI x3)] [] (hH s) Q :=
  gL_ind (P := fun (x : Int × Int) => kW sc 0 kc_Town_handsOf 1 4 [some (kr b0), some (kI x1), some (kI x.1), some (kI x.2)] [] (hH s) Q) (q := (fun r => Q (some (kI r)) (hH s))) (fun x t hf hq => b_Town_handsOf_4b b0 hb0 x1 x.1 x.2 s t hf hq) gF (x2, x3) t hf hq
def f_Town_handsOf (b0 : Nat) (x1 : Int) (s : kM) : Option (Int) :=
  f_Town_handsOf_4 b0 x1 0 0 s
set_option maxRecDepth 8000 in
theorem c_Town_handsOf {sc : List Int} (b0 : Nat) (hb0 : tT b0 = true) (x1 : Int) (s : kM) (t : Int) (hf : f_Town_handsOf b0 x1 s = some t) : kR sc 0 km_Town_handsOf [kr b0, kI x1] (hH s) (some (kI t)) (hH s) := by
  unfold f_Town_handsOf at hf
  refine kR.start rfl ?_
  show kW sc 0 kc_Town_handsOf 1 0 [some (kr b0), some (kI x1), none, none] [] (hH s) _
  have hq : (fun (r : Option kV) (g : kH) => r = some (kI t) ∧ g = hH s) (some (kI t)) (hH s) := ⟨rfl, rfl⟩
  refine kw_step rfl rfl rfl rfl ?_
  refine kw_step (L' := [some (kr b0), some (kI x1), some (kI 0), none]) rfl rfl rfl rfl ?_
  refine kw_step rfl rfl rfl rfl ?_
  refine kw_step (L' := [some (kr b0), some (kI x1), some (kI 0), some (kI 0)]) rfl rfl rfl rfl ?_
  exact kW_le (L' := [some (kr b0), some (kI x1), some (kI 0), some (kI 0)]) ⟨Or.inr rfl, Or.inr rfl, Or.inr rfl, Or.inr rfl, trivial⟩ (b_Town_handsOf_4 b0 hb0 x1 0 0 s _ hf hq)
def f_Town_plusHands (b0 : Nat) (s : kM) : Option (Int) :=
  (f_Town_handsOf b0 (s b0 3) s).bind fun q1 => some q1
set_option maxRecDepth 8000 in
theorem c_Town_plusHands {sc : List Int} (b0 : Nat) (hb0 : tT b0 = true) (s : kM) (t : Int) (hf : f_Town_plusHands b0 s = some t) : kR sc 1 km_Town_plusHands [kr b0] (hH s) (some (kI t)) (hH s) := by
  unfold f_Town_plusHands at hf
  refine kR.start rfl ?_
  show kW sc 1 kc_Town_plusHands 1 0 [some (kr b0)] [] (hH s) _
  have hq : (fun (r : Option kV) (g : kH) => r = some (kI t) ∧ g = hH s) (some (kI t)) (hH s) := ⟨rfl, rfl⟩
  refine kw_step rfl rfl rfl rfl ?_
  refine kw_step rfl rfl rfl rfl ?_
  refine kw_get rfl (hH_O (tT_0 hb0)) rfl ?_
  obtain ⟨q1, hq1, hf⟩ := gbind hf
  refine kw_callV (vs := [kI (s b0 3)]) rfl rfl rfl ⟨rfl, Nat.le_of_ble_eq_true rfl, Nat.le_of_ble_eq_true rfl, by decide⟩ (hH_O (tT_0 hb0)) (c_Town_handsOf b0 hb0 (s b0 3) s _ hq1) (Nat.le_of_ble_eq_true rfl) ?_
  cases hf
  exact kw_ret rfl rfl rfl hq
def f_Town_handsTogether (b0 : Nat) (s : kM) : Option (Int) :=
  (f_Town_plusHands b0 s).bind fun q1 => (f_Town_bridges b0 s).bind fun q2 => some (wI ((wI (2 * q1)) - q2))
set_option maxRecDepth 8000 in
theorem c_Town_handsTogether {sc : List Int} (b0 : Nat) (hb0 : tT b0 = true) (s : kM) (t : Int) (hf : f_Town_handsTogether b0 s = some t) : kR sc 2 km_Town_handsTogether [kr b0] (hH s) (some (kI t)) (hH s) := by
  unfold f_Town_handsTogether at hf
  refine kR.start rfl ?_
  show kW sc 2 kc_Town_handsTogether 1 0 [some (kr b0)] [] (hH s) _
  have hq : (fun (r : Option kV) (g : kH) => r = some (kI t) ∧ g = hH s) (some (kI t)) (hH s) := ⟨rfl, rfl⟩
  refine kw_step rfl rfl rfl rfl ?_
  refine kw_step rfl rfl rfl rfl ?_
  obtain ⟨q1, hq1, hf⟩ := gbind hf
  refine kw_callV (vs := []) rfl rfl rfl ⟨rfl, Nat.le_of_ble_eq_true rfl, Nat.le_of_ble_eq_true rfl, by decide⟩ (hH_O (tT_0 hb0)) (c_Town_plusHands b0 hb0 s _ hq1) (Nat.le_of_ble_eq_true rfl) ?_
  refine kw_step rfl rfl rfl rfl ?_
  refine kw_step rfl rfl rfl rfl ?_
  obtain ⟨q2, hq2, hf⟩ := gbind hf
  refine kw_callV (vs := []) rfl rfl rfl ⟨rfl, Nat.le_of_ble_eq_true rfl, Nat.le_of_ble_eq_true rfl, by decide⟩ (hH_O (tT_0 hb0)) (c_Town_bridges b0 hb0 s _ hq2) (Nat.le_of_ble_eq_true rfl) ?_
  refine kw_step rfl rfl rfl rfl ?_
  cases hf
  exact kw_ret rfl rfl rfl hq
def f_KT_writhe (s : kM) : Option (Int) :=
  if (s 4 0) = 0 then (some (-1000)) else ((f_Town_handsTogether 4 s).bind fun q2 => some q2)
set_option maxRecDepth 8000 in
theorem c_KT_writhe {sc : List Int} (s : kM) (t : Int) (hf : f_KT_writhe s = some t) : kR sc 3 km_KT_writhe [kr 0] (hH s) (some (kI t)) (hH s) := by
  unfold f_KT_writhe at hf
  refine kR.start rfl ?_
  show kW sc 3 kc_KT_writhe 1 0 [some (kr 0)] [] (hH s) _
  have hq : (fun (r : Option kV) (g : kH) => r = some (kI t) ∧ g = hH s) (some (kI t)) (hH s) := ⟨rfl, rfl⟩
  refine kw_step rfl rfl rfl rfl ?_
  refine kw_get rfl (hH_O (rfl : kotab 0 = some kKo)) rfl ?_
  refine kw_get rfl (hH_O (tS_0 (b := 3) rfl)) rfl ?_
  refine kw_get rfl (hH_O (tT_0 (b := 4) rfl)) rfl ?_
  refine kw_if_ne rfl rfl (fun c1 => ?_) (fun c1 => ?_)
  · have hf := giff c1 hf
    refine kw_step rfl rfl rfl rfl ?_
    refine kw_get rfl (hH_O (rfl : kotab 0 = some kKo)) rfl ?_
    refine kw_get rfl (hH_O (tS_0 (b := 3) rfl)) rfl ?_
    obtain ⟨q2, hq2, hf⟩ := gbind hf
    refine kw_callV (vs := []) rfl rfl rfl ⟨rfl, Nat.le_of_ble_eq_true rfl, Nat.le_of_ble_eq_true rfl, by decide⟩ (hH_O (tT_0 (b := 4) rfl)) (c_Town_handsTogether 4 (rfl : tT 4 = true) s _ hq2) (Nat.le_of_ble_eq_true rfl) ?_
    cases hf
    exact kw_ret rfl rfl rfl hq
  · have hf := gift c1 hf
    refine kw_step rfl rfl rfl rfl ?_
    refine kw_goto rfl rfl ?_
    cases hf
    exact kw_ret rfl rfl rfl hq
def f_Town_sharedHands (b0 : Nat) (s : kM) : Option (Int) :=
  (f_Town_met b0 0 s).bind fun q1 => (f_Town_met b0 1 s).bind fun q2 => (f_Town_handsOf b0 (kand q1 q2) s).bind fun q3 => (f_Integer_bitCount (kand q1 q2) s).bind fun q4 => some (wI ((wI (2 * q3)) - q4))
set_option maxRecDepth 8000 in
theorem c_Town_sharedHands {sc : List Int} (b0 : Nat) (hb0 : tT b0 = true) (s : kM) (t : Int) (hf : f_Town_sharedHands b0 s = some t) : kR sc 2 km_Town_sharedHands [kr b0] (hH s) (some (kI t)) (hH s) := by
  unfold f_Town_sharedHands at hf
  refine kR.start rfl ?_
  show kW sc 2 kc_Town_sharedHands 1 0 [some (kr b0), none] [] (hH s) _
  have hq : (fun (r : Option kV) (g : kH) => r = some (kI t) ∧ g = hH s) (some (kI t)) (hH s) := ⟨rfl, rfl⟩
  refine kw_step rfl rfl rfl rfl ?_
  refine kw_step rfl rfl rfl rfl ?_
  obtain ⟨q1, hq1, hf⟩ := gbind hf
  refine kw_callV (vs := [kI 0]) rfl rfl rfl ⟨rfl, Nat.le_of_ble_eq_true rfl, Nat.le_of_ble_eq_true rfl, by decide⟩ (hH_O (tT_0 hb0)) (c_Town_met b0 hb0 0 s _ hq1) (Nat.le_of_ble_eq_true rfl) ?_
  refine kw_step rfl rfl rfl rfl ?_
  refine kw_step rfl rfl rfl rfl ?_
  obtain ⟨q2, hq2, hf⟩ := gbind hf
  refine kw_callV (vs := [kI 1]) rfl rfl rfl ⟨rfl, Nat.le_of_ble_eq_true rfl, Nat.le_of_ble_eq_true rfl, by decide⟩ (hH_O (tT_0 hb0)) (c_Town_met b0 hb0 1 s _ hq2) (Nat.le_of_ble_eq_true rfl) ?_
  refine kw_step rfl rfl rfl rfl ?_
  refine kw_step (L' := [some (kr b0), some (kI (kand q1 q2))]) rfl rfl rfl rfl ?_
  refine kw_step rfl rfl rfl rfl ?_
  refine kw_step rfl rfl rfl rfl ?_
  refine kw_step rfl rfl rfl rfl ?_
  obtain ⟨q3, hq3, hf⟩ := gbind hf
  refine kw_callV (vs := [kI (kand q1 q2)]) rfl rfl rfl ⟨rfl, Nat.le_of_ble_eq_true rfl, Nat.le_of_ble_eq_true rfl, by decide⟩ (hH_O (tT_0 hb0)) (c_Town_handsOf b0 hb0 (kand q1 q2) s _ hq3) (Nat.le_of_ble_eq_true rfl) ?_
  refine kw_step rfl rfl rfl rfl ?_
  refine kw_step rfl rfl rfl rfl ?_
  obtain ⟨q4, hq4, hf⟩ := gbind hf
  refine kw_callS (vs := [kI (kand q1 q2)]) rfl rfl rfl ⟨rfl, Nat.le_of_ble_eq_true rfl, Nat.le_of_ble_eq_true rfl, rfl⟩ (c_Integer_bitCount (kand q1 q2) s _ hq4) (Nat.le_of_ble_eq_true rfl) ?_
  refine kw_step rfl rfl rfl rfl ?_
  cases hf
  exact kw_ret rfl rfl rfl hq
def f_KT_linked (s : kM) : Option (Int) :=
  if 2 ≤ (s 4 0) then ((f_Town_sharedHands 4 s).bind fun q2 => some (kdiv q2 2)) else (some (-1000))
set_option maxRecDepth 8000 in
theorem c_KT_linked {sc : List Int} (s : kM) (t : Int) (hf : f_KT_linked s = some t) : kR sc 3 km_KT_linked [kr 0] (hH s) (some (kI t)) (hH s) := by
  unfold f_KT_linked at hf
  refine kR.start rfl ?_
  show kW sc 3 kc_KT_linked 1 0 [some (kr 0)] [] (hH s) _
  have hq : (fun (r : Option kV) (g : kH) => r = some (kI t) ∧ g = hH s) (some (kI t)) (hH s) := ⟨rfl, rfl⟩
  refine kw_step rfl rfl rfl rfl ?_
  refine kw_get rfl (hH_O (rfl : kotab 0 = some kKo)) rfl ?_
  refine kw_get rfl (hH_O (tS_0 (b := 3) rfl)) rfl ?_
  refine kw_get rfl (hH_O (tT_0 (b := 4) rfl)) rfl ?_
  refine kw_step rfl rfl rfl rfl ?_
  refine kw_icmp_ge rfl rfl (fun c1 => ?_) (fun c1 => ?_)
  · have hf := gift c1 hf
    refine kw_step rfl rfl rfl rfl ?_
    refine kw_get rfl (hH_O (rfl : kotab 0 = some kKo)) rfl ?_
    refine kw_get rfl (hH_O (tS_0 (b := 3) rfl)) rfl ?_
    obtain ⟨q2, hq2, hf⟩ := gbind hf
    refine kw_callV (vs := []) rfl rfl rfl ⟨rfl, Nat.le_of_ble_eq_true rfl, Nat.le_of_ble_eq_true rfl, by decide⟩ (hH_O (tT_0 (b := 4) rfl)) (c_Town_sharedHands 4 (rfl : tT 4 = true) s _ hq2) (Nat.le_of_ble_eq_true rfl) ?_
    refine kw_step rfl rfl rfl rfl ?_
    refine kw_idiv rfl (by decide) ?_
    cases hf
    exact kw_ret rfl rfl rfl hq
  · have hf := giff c1 hf
    refine kw_step rfl rfl rfl rfl ?_
    refine kw_goto rfl rfl ?_
    cases hf
    exact kw_ret rfl rfl rfl hq
def f_Arrays_fill_JJ_5b (a0 : Nat) (n0 : Nat) (x1 : Int) (x3 : Int) (x4 : Int) (s : kM) : Option ((Int × kM) ⊕ (kM)) :=
  if x4 ≤ x3 then (some (.inr s)) else ((gI n0 x3).bind fun j2 => gLet (gU s a0 j2 x1) fun s4 => some (.inl ((wI (x3 + 1)), s4)))
set_option maxRecDepth 8000 in
theorem b_Arrays_fill_JJ_5b {sc : List Int} {Q : Option kV → kH → Prop} (a0 : Nat) (n0 : Nat) (ha0 : ktab a0 = some (3, n0)) (x1 : Int) (x3 : Int) (x4 : Int) (s : kM) (t : (Int × kM) ⊕ (kM)) (hf : f_Arrays_fill_JJ_5b a0 n0 x1 x3 x4 s = some t) (hq : (gE (fun x => kW sc 0 kc_Arrays_fill_JJ 0 5 [some (kr a0), some (kJ x1), none, some (kI x.1), some (kI x4)] [] (hH x.2) Q) (fun r => Q none (hH r))) t) : kW sc 0 kc_Arrays_fill_JJ 0 5 [some (kr a0), some (kJ x1), none, some (kI x3), some (kI x4)] [] (hH s) Q := by
  unfold f_Arrays_fill_JJ_5b at hf
  refine kw_step rfl rfl rfl rfl ?_
  refine kw_step rfl rfl rfl rfl ?_
  refine kw_icmp_ge rfl rfl (fun c1 => ?_) (fun c1 => ?_)
  · have hf := gift c1 hf
    cases hf
    exact kw_ret rfl rfl rfl hq
  · have hf := giff c1 hf
    refine kw_step rfl rfl rfl rfl ?_
    refine kw_step rfl rfl rfl rfl ?_
    refine kw_step rfl rfl rfl rfl ?_
    obtain ⟨j2, i3, hf⟩ := gbI hf
    obtain ⟨s4, ee5, hf⟩ := gbL hf
    refine kw_lastH rfl ha0 i3.1 i3.2.1 i3.2.2 ee5 ?_
    refine kw_step (L' := [some (kr a0), some (kJ x1), none, some (kI (wI (x3 + 1))), some (kI x4)]) rfl rfl rfl rfl ?_
    refine kw_goto rfl rfl ?_
    cases hf
    exact kW_le (L' := [some (kr a0), some (kJ x1), none, some (kI (wI (x3 + 1))), some (kI x4)]) ⟨Or.inr rfl, Or.inr rfl, Or.inl rfl, Or.inr rfl, Or.inr rfl, trivial⟩ hq
def f_Arrays_fill_JJ_5 (a0 : Nat) (n0 : Nat) (x1 : Int) (x3 : Int) (x4 : Int) (s : kM) : Option (kM) :=
  gL (fun (x : Int × kM) => f_Arrays_fill_JJ_5b a0 n0 x1 x.1 x4 x.2) gF (x3, s)
theorem b_Arrays_fill_JJ_5 {sc : List Int} {Q : Option kV → kH → Prop} (a0 : Nat) (n0 : Nat) (ha0 : ktab a0 = some (3, n0)) (x1 : Int) (x3 : Int) (x4 : Int) (s : kM) (t : kM) (hf : f_Arrays_fill_JJ_5 a0 n0 x1 x3 x4 s = some t) (hq : (fun r => Q none (hH r)) t) : kW sc 0 kc_Arrays_fill_JJ 0 5 [some (kr a0), some (kJ x1), none, some (kI x3), some (kI x4)] [] (hH s) Q :=
  gL_ind (P := fun (x : Int × kM) => kW sc 0 kc_Arrays_fill_JJ 0 5 [some (kr a0), some (kJ x1), none, some (kI x.1), some (kI x4)] [] (hH x.2) Q) (q := (fun r => Q none (hH r))) (fun x t hf hq => b_Arrays_fill_JJ_5b a0 n0 ha0 x1 x.1 x4 x.2 t hf hq) gF (x3, s) t hf hq
def f_Arrays_fill_JJ (a0 : Nat) (n0 : Nat) (x1 : Int) (s : kM) : Option (kM) :=
  f_Arrays_fill_JJ_5 a0 n0 x1 0 ((n0 : Nat) : Int) s
set_option maxRecDepth 8000 in
theorem c_Arrays_fill_JJ {sc : List Int} (a0 : Nat) (n0 : Nat) (ha0 : ktab a0 = some (3, n0)) (x1 : Int) (s : kM) (t : kM) (hf : f_Arrays_fill_JJ a0 n0 x1 s = some t) : kR sc 0 km_Arrays_fill_JJ [kr a0, kJ x1] (hH s) none (hH t) := by
  unfold f_Arrays_fill_JJ at hf
  refine kR.start rfl ?_
  show kW sc 0 kc_Arrays_fill_JJ 0 0 [some (kr a0), some (kJ x1), none, none, none] [] (hH s) _
  have hq : (fun (r : Option kV) (g : kH) => r = none ∧ g = hH t) none (hH t) := ⟨rfl, rfl⟩
  refine kw_step rfl rfl rfl rfl ?_
  refine kw_step (L' := [some (kr a0), some (kJ x1), none, some (kI 0), none]) rfl rfl rfl rfl ?_
  refine kw_step rfl rfl rfl rfl ?_
  refine kw_alen rfl (hH_A ha0) (by decide) ?_
  refine kw_step (L' := [some (kr a0), some (kJ x1), none, some (kI 0), some (kI ((n0 : Nat) : Int))]) rfl rfl rfl rfl ?_
  exact kW_le (L' := [some (kr a0), some (kJ x1), none, some (kI 0), some (kI ((n0 : Nat) : Int))]) ⟨Or.inr rfl, Or.inr rfl, Or.inl rfl, Or.inr rfl, Or.inr rfl, trivial⟩ (b_Arrays_fill_JJ_5 a0 n0 ha0 x1 0 ((n0 : Nat) : Int) s _ hf hq)
def f_Bows_addTo (x1 : Int) (x2 : Int) (s : kM) : Option (kM) :=
  if x1 < 0 then (some s) else (if 13 ≤ x1 then (some s) else ((gI 143 (wI ((wI ((s 48 3) * 13)) + x1))).bind fun j3 => (gI 143 (wI ((wI ((s 48 3) * 13)) + x1))).bind fun j5 => gLet (gU s 50 j5 (wL ((s 50 j3) + x2))) fun s7 => some s7))
set_option maxRecDepth 8000 in
theorem c_Bows_addTo {sc : List Int} (x1 : Int) (x2 : Int) (s : kM) (t : kM) (hf : f_Bows_addTo x1 x2 s = some t) : kR sc 0 km_Bows_addTo [kr 48, kI x1, kJ x2] (hH s) none (hH t) := by
  unfold f_Bows_addTo at hf
  refine kR.start rfl ?_
  show kW sc 0 kc_Bows_addTo 0 0 [some (kr 48), some (kI x1), some (kJ x2), none] [] (hH s) _
  have hq : (fun (r : Option kV) (g : kH) => r = none ∧ g = hH t) none (hH t) := ⟨rfl, rfl⟩
  refine kw_step rfl rfl rfl rfl ?_
  refine kw_if_lt rfl rfl (fun c1 => ?_) (fun c1 => ?_)
  · have hf := gift c1 hf
    cases hf
    exact kw_ret rfl rfl rfl hq
  · have hf := giff c1 hf
    refine kw_step rfl rfl rfl rfl ?_
    refine kw_step rfl rfl rfl rfl ?_
    refine kw_icmp_ge rfl rfl (fun c2 => ?_) (fun c2 => ?_)
    · have hf := gift c2 hf
      cases hf
      exact kw_ret rfl rfl rfl hq
    · have hf := giff c2 hf
      refine kw_step rfl rfl rfl rfl ?_
      refine kw_get rfl (hH_O (rfl : kotab 48 = some kWo)) rfl ?_
      refine kw_step rfl rfl rfl rfl ?_
      refine kw_get rfl (hH_O (rfl : kotab 48 = some kWo)) rfl ?_
      refine kw_step rfl rfl rfl rfl ?_
      refine kw_step rfl rfl rfl rfl ?_
      refine kw_step rfl rfl rfl rfl ?_
      refine kw_step rfl rfl rfl rfl ?_
      refine kw_step rfl rfl rfl rfl ?_
      obtain ⟨j3, i4, hf⟩ := gbI hf
      refine kw_lald rfl (hH_A (rfl : ktab 50 = some (3, 143))) i4.1 i4.2.1 i4.2.2 ?_
      refine kw_step rfl rfl rfl rfl ?_
      refine kw_step rfl rfl rfl rfl ?_
      obtain ⟨j5, i6, hf⟩ := gbI hf
      obtain ⟨s7, ee8, hf⟩ := gbL hf
      refine kw_lastH rfl (rfl : ktab 50 = some (3, 143)) i6.1 i6.2.1 i6.2.2 ee8 ?_
      cases hf
      exact kw_ret rfl rfl rfl hq
def f_Bows_fill_55 (b1 : Nat) (x2 : Int) (s : kM) : Option ((Int × kM) ⊕ (kM)) :=
  some (.inl ((wI (x2 + 1)), s))
set_option maxRecDepth 8000 in
theorem b_Bows_fill_55 {sc : List Int} {Q : Option kV → kH → Prop} (b1 : Nat) (hb1 : tT b1 = true) (x2 : Int) (s : kM) (t : (Int × kM) ⊕ (kM)) (hf : f_Bows_fill_55 b1 x2 s = some t) (hq : (gE (fun x => kW sc 2 kc_Bows_fill 0 12 [some (kr 48), some (kr b1), some (kI x.1), none] [] (hH x.2) Q) (fun r => Q none (hH r))) t) : kW sc 2 kc_Bows_fill 0 55 [some (kr 48), some (kr b1), some (kI x2), none] [] (hH s) Q := by
  unfold f_Bows_fill_55 at hf
  refine kw_step (L' := [some (kr 48), some (kr b1), some (kI (wI (x2 + 1))), none]) rfl rfl rfl rfl ?_
  refine kw_goto rfl rfl ?_
  cases hf
  exact kW_le (L' := [some (kr 48), some (kr b1), some (kI (wI (x2 + 1))), none]) ⟨Or.inr rfl, Or.inr rfl, Or.inr rfl, Or.inl rfl, trivial⟩ hq
def f_Bows_fill_12b (b1 : Nat) (x2 : Int) (s : kM) : Option ((Int × kM) ⊕ (kM)) :=
  if 11 ≤ x2 then (some (.inr s)) else ((f_Town_has b1 x2 s).bind fun q2 => if q2 = 0 then (f_Bows_fill_55 b1 x2 s) else ((f_Town_underAt b1 x2 s).bind fun q4 => (f_Town_overAt b1 x2 s).bind fun q5 => (gI 22 q5).bind fun j6 => (f_Bows_addTo (s 49 j6) 2 s).bind fun q8 => (gI 22 q4).bind fun j10 => (f_Bows_addTo (q8 49 j10) (-1) q8).bind fun q12 => (gI 22 q4).bind fun j14 => (gI 22 (q12 (b1 + 4) j14)).bind fun j16 => (f_Bows_addTo (q12 49 j16) (-1) q12).bind fun q18 => gLet (gU q18 48 3 (wI ((q18 48 3) + 1))) fun s20 => f_Bows_fill_55 b1 x2 s20))
set_option maxRecDepth 8000 in
theorem b_Bows_fill_12b {sc : List Int} {Q : Option kV → kH → Prop} (b1 : Nat) (hb1 : tT b1 = true) (x2 : Int) (s : kM) (t : (Int × kM) ⊕ (kM)) (hf : f_Bows_fill_12b b1 x2 s = some t) (hq : (gE (fun x => kW sc 2 kc_Bows_fill 0 12 [some (kr 48), some (kr b1), some (kI x.1), none] [] (hH x.2) Q) (fun r => Q none (hH r))) t) : kW sc 2 kc_Bows_fill 0 12 [some (kr 48), some (kr b1), some (kI x2), none] [] (hH s) Q := by
  unfold f_Bows_fill_12b at hf
  refine kw_step rfl rfl rfl rfl ?_
  refine kw_step rfl rfl rfl rfl ?_
  refine kw_icmp_ge rfl rfl (fun c1 => ?_) (fun c1 => ?_)
  · have hf := gift c1 hf
    cases hf
    exact kw_ret rfl rfl rfl hq
  · have hf := giff c1 hf
    refine kw_step rfl rfl rfl rfl ?_
    refine kw_step rfl rfl rfl rfl ?_
    obtain ⟨q2, hq2, hf⟩ := gbind hf
    refine kw_callV (vs := [kI x2]) rfl rfl rfl ⟨rfl, Nat.le_of_ble_eq_true rfl, Nat.le_of_ble_eq_true rfl, by decide⟩ (hH_O (tT_0 hb1)) (c_Town_has b1 hb1 x2 s _ hq2) (Nat.le_of_ble_eq_true rfl) ?_
    refine kw_if_eq rfl rfl (fun c3 => ?_) (fun c3 => ?_)
    · have hf := gift c3 hf
      exact kW_le (L' := [some (kr 48), some (kr b1), some (kI x2), none]) ⟨Or.inr rfl, Or.inr rfl, Or.inr rfl, Or.inl rfl, trivial⟩ (b_Bows_fill_55 b1 hb1 x2 s _ hf hq)
    · have hf := giff c3 hf
      refine kw_step rfl rfl rfl rfl ?_
      refine kw_step rfl rfl rfl rfl ?_
      obtain ⟨q4, hq4, hf⟩ := gbind hf
      refine kw_callV (vs := [kI x2]) rfl rfl rfl ⟨rfl, Nat.le_of_ble_eq_true rfl, Nat.le_of_ble_eq_true rfl, by decide⟩ (hH_O (tT_0 hb1)) (c_Town_underAt b1 hb1 x2 s _ hq4) (Nat.le_of_ble_eq_true rfl) ?_
      refine kw_step (L' := [some (kr 48), some (kr b1), some (kI x2), some (kI q4)]) rfl rfl rfl rfl ?_
      refine kw_step rfl rfl rfl rfl ?_
      refine kw_step rfl rfl rfl rfl ?_
      refine kw_get rfl (hH_O (rfl : kotab 48 = some kWo)) rfl ?_
      refine kw_step rfl rfl rfl rfl ?_
      refine kw_step rfl rfl rfl rfl ?_
      obtain ⟨q5, hq5, hf⟩ := gbind hf
      refine kw_callV (vs := [kI x2]) rfl rfl rfl ⟨rfl, Nat.le_of_ble_eq_true rfl, Nat.le_of_ble_eq_true rfl, by decide⟩ (hH_O (tT_0 hb1)) (c_Town_overAt b1 hb1 x2 s _ hq5) (Nat.le_of_ble_eq_true rfl) ?_
      obtain ⟨j6, i7, hf⟩ := gbI hf
      refine kw_iald rfl (hH_A (rfl : ktab 49 = some (0, 22))) i7.1 i7.2.1 i7.2.2 ?_
      refine kw_step rfl rfl rfl rfl ?_
      obtain ⟨q8, hq8, hf⟩ := gbind hf
      refine kw_callV (vs := [kI (s 49 j6), kJ 2]) rfl rfl rfl ⟨rfl, Nat.le_of_ble_eq_true rfl, Nat.le_of_ble_eq_true rfl, by decide⟩ (hH_O (rfl : kotab 48 = some kWo)) (c_Bows_addTo (s 49 j6) 2 s _ hq8) (Nat.le_of_ble_eq_true rfl) ?_
      refine kw_step rfl rfl rfl rfl ?_
      refine kw_step rfl rfl rfl rfl ?_
      refine kw_get rfl (hH_O (rfl : kotab 48 = some kWo)) rfl ?_
      refine kw_step rfl rfl rfl rfl ?_
      obtain ⟨j10, i11, hf⟩ := gbI hf
      refine kw_iald rfl (hH_A (rfl : ktab 49 = some (0, 22))) i11.1 i11.2.1 i11.2.2 ?_
      refine kw_step rfl rfl rfl rfl ?_
      obtain ⟨q12, hq12, hf⟩ := gbind hf
      refine kw_callV (vs := [kI (q8 49 j10), kJ (-1)]) rfl rfl rfl ⟨rfl, Nat.le_of_ble_eq_true rfl, Nat.le_of_ble_eq_true rfl, by decide⟩ (hH_O (rfl : kotab 48 = some kWo)) (c_Bows_addTo (q8 49 j10) (-1) q8 _ hq12) (Nat.le_of_ble_eq_true rfl) ?_
      refine kw_step rfl rfl rfl rfl ?_
      refine kw_step rfl rfl rfl rfl ?_
      refine kw_get rfl (hH_O (rfl : kotab 48 = some kWo)) rfl ?_
      refine kw_step rfl rfl rfl rfl ?_
      refine kw_get rfl (hH_O (tT_0 hb1)) rfl ?_
      refine kw_step rfl rfl rfl rfl ?_
      obtain ⟨j14, i15, hf⟩ := gbI hf
      refine kw_iald rfl (hH_A (tT_4 hb1)) i15.1 i15.2.1 i15.2.2 ?_
      obtain ⟨j16, i17, hf⟩ := gbI hf
      refine kw_iald rfl (hH_A (rfl : ktab 49 = some (0, 22))) i17.1 i17.2.1 i17.2.2 ?_
      refine kw_step rfl rfl rfl rfl ?_
      obtain ⟨q18, hq18, hf⟩ := gbind hf
      refine kw_callV (vs := [kI (q12 49 j16), kJ (-1)]) rfl rfl rfl ⟨rfl, Nat.le_of_ble_eq_true rfl, Nat.le_of_ble_eq_true rfl, by decide⟩ (hH_O (rfl : kotab 48 = some kWo)) (c_Bows_addTo (q12 49 j16) (-1) q12 _ hq18) (Nat.le_of_ble_eq_true rfl) ?_
      refine kw_step rfl rfl rfl rfl ?_
      refine kw_step rfl rfl rfl rfl ?_
      refine kw_get rfl (hH_O (rfl : kotab 48 = some kWo)) rfl ?_
      refine kw_step rfl rfl rfl rfl ?_
      refine kw_step rfl rfl rfl rfl ?_
      obtain ⟨s20, ee21, hf⟩ := gbL hf
      refine kw_putH rfl (rfl : kotab 48 = some kWo) rfl rfl rfl (Nat.le_of_ble_eq_true rfl) rfl ee21 ?_
      exact kW_le (L' := [some (kr 48), some (kr b1), some (kI x2), none]) ⟨Or.inr rfl, Or.inr rfl, Or.inr rfl, Or.inl rfl, trivial⟩ (b_Bows_fill_55 b1 hb1 x2 s20 _ hf hq)
def f_Bows_fill_12 (b1 : Nat) (x2 : Int) (s : kM) : Option (kM) :=
  gL (fun (x : Int × kM) => f_Bows_fill_12b b1 x.1 x.2) gF (x2, s)
theorem b_Bows_fill_12 {sc : List Int} {Q : Option kV → kH → Prop} (b1 : Nat) (hb1 : tT b1 = true) (x2 : Int) (s : kM) (t : kM) (hf : f_Bows_fill_12 b1 x2 s = some t) (hq : (fun r => Q none (hH r)) t) : kW sc 2 kc_Bows_fill 0 12 [some (kr 48), some (kr b1), some (kI x2), none] [] (hH s) Q :=
  gL_ind (P := fun (x : Int × kM) => kW sc 2 kc_Bows_fill 0 12 [some (kr 48), some (kr b1), some (kI x.1), none] [] (hH x.2) Q) (q := (fun r => Q none (hH r))) (fun x t hf hq => b_Bows_fill_12b b1 hb1 x.1 x.2 t hf hq) gF (x2, s) t hf hq
def f_Bows_fill (b1 : Nat) (s : kM) : Option (kM) :=
  (f_Bows_find b1 s).bind fun q1 => (f_Arrays_fill_JJ 50 143 0 q1).bind fun q3 => gLet (gU q3 48 3 0) fun s5 => f_Bows_fill_12 b1 0 s5
set_option maxRecDepth 8000 in
theorem c_Bows_fill {sc : List Int} (b1 : Nat) (hb1 : tT b1 = true) (s : kM) (t : kM) (hf : f_Bows_fill b1 s = some t) : kR sc 2 km_Bows_fill [kr 48, kr b1] (hH s) none (hH t) := by
  unfold f_Bows_fill at hf
  refine kR.start rfl ?_
  show kW sc 2 kc_Bows_fill 0 0 [some (kr 48), some (kr b1), none, none] [] (hH s) _
  have hq : (fun (r : Option kV) (g : kH) => r = none ∧ g = hH t) none (hH t) := ⟨rfl, rfl⟩
  refine kw_step rfl rfl rfl rfl ?_
  refine kw_step rfl rfl rfl rfl ?_
  obtain ⟨q1, hq1, hf⟩ := gbind hf
  refine kw_callV (vs := [kr b1]) rfl rfl rfl ⟨rfl, Nat.le_of_ble_eq_true rfl, Nat.le_of_ble_eq_true rfl, by decide⟩ (hH_O (rfl : kotab 48 = some kWo)) (c_Bows_find b1 hb1 s _ hq1) (Nat.le_of_ble_eq_true rfl) ?_
  refine kw_step rfl rfl rfl rfl ?_
  refine kw_get rfl (hH_O (rfl : kotab 48 = some kWo)) rfl ?_
  refine kw_step rfl rfl rfl rfl ?_
  obtain ⟨q3, hq3, hf⟩ := gbind hf
  refine kw_callS (vs := [kr 50, kJ 0]) rfl rfl rfl ⟨rfl, Nat.le_of_ble_eq_true rfl, Nat.le_of_ble_eq_true rfl, rfl⟩ (c_Arrays_fill_JJ 50 143 (rfl : ktab 50 = some (3, 143)) 0 q1 _ hq3) (Nat.le_of_ble_eq_true rfl) ?_
  refine kw_step rfl rfl rfl rfl ?_
  refine kw_step rfl rfl rfl rfl ?_
  obtain ⟨s5, ee6, hf⟩ := gbL hf
  refine kw_putH rfl (rfl : kotab 48 = some kWo) rfl rfl rfl (Nat.le_of_ble_eq_true rfl) rfl ee6 ?_
  refine kw_step rfl rfl rfl rfl ?_
  refine kw_step (L' := [some (kr 48), some (kr b1), some (kI 0), none]) rfl rfl rfl rfl ?_
  exact kW_le (L' := [some (kr 48), some (kr b1), some (kI 0), none]) ⟨Or.inr rfl, Or.inr rfl, Or.inr rfl, Or.inl rfl, trivial⟩ (b_Bows_fill_12 b1 hb1 0 s5 _ hf hq)
def f_Math_floorMod (x0 : Int) (x2 : Int) (s : kM) : Option (Int) :=
  (gD x2).bind fun _ => if 0 ≤ (klxor x0 x2) then (some (klrem x0 x2)) else (if (klrem x0 x2) = 0 then (some (klrem x0 x2)) else (some (wL ((klrem x0 x2) + x2))))
set_option maxRecDepth 8000 in
theorem c_Math_floorMod {sc : List Int} (x0 : Int) (x2 : Int) (s : kM) (t : Int) (hf : f_Math_floorMod x0 x2 s = some t) : kR sc 0 km_Math_floorMod [kJ x0, kJ x2] (hH s) (some (kJ t)) (hH s) := by
  unfold f_Math_floorMod at hf
  refine kR.start rfl ?_
  show kW sc 0 kc_Math_floorMod 3 0 [some (kJ x0), none, some (kJ x2), none, none, none] [] (hH s) _
  have hq : (fun (r : Option kV) (g : kH) => r = some (kJ t) ∧ g = hH s) (some (kJ t)) (hH s) := ⟨rfl, rfl⟩
  refine kw_step rfl rfl rfl rfl ?_
  refine kw_step rfl rfl rfl rfl ?_
  obtain ⟨z1, hf⟩ := gbD hf
  refine kw_lrem rfl z1 ?_
  refine kw_step (L' := [some (kJ x0), none, some (kJ x2), none, some (kJ (klrem x0 x2)), none]) rfl rfl rfl rfl ?_
  refine kw_step rfl rfl rfl rfl ?_
  refine kw_step rfl rfl rfl rfl ?_
  refine kw_step rfl rfl rfl rfl ?_
  refine kw_step rfl rfl rfl rfl ?_
  refine kw_lc_ge rfl rfl rfl (fun c2 => ?_) (fun c2 => ?_)
  · have hf := gift c2 hf
    refine kw_step rfl rfl rfl rfl ?_
    cases hf
    exact kw_ret rfl rfl rfl hq
  · have hf := giff c2 hf
    refine kw_step rfl rfl rfl rfl ?_
    refine kw_step rfl rfl rfl rfl ?_
    refine kw_lc_eq rfl rfl rfl (fun c3 => ?_) (fun c3 => ?_)
    · have hf := gift c3 hf
      refine kw_step rfl rfl rfl rfl ?_
      cases hf
      exact kw_ret rfl rfl rfl hq
    · have hf := giff c3 hf
      refine kw_step rfl rfl rfl rfl ?_
      refine kw_step rfl rfl rfl rfl ?_
      refine kw_step rfl rfl rfl rfl ?_
      cases hf
      exact kw_ret rfl rfl rfl hq
def f_Bows_pivot_2b (x2 : Int) (x3 : Int) (x4 : Int) (s : kM) : Option ((Int) ⊕ (Int)) :=
  if x2 ≤ x4 then (some (.inr (-1))) else ((gI 143 (wI ((wI (x4 * 13)) + x3))).bind fun j2 => if (s 50 j2) = 0 then (some (.inl ((wI (x4 + 1))))) else (some (.inr x4)))
set_option maxRecDepth 8000 in
theorem b_Bows_pivot_2b {sc : List Int} {Q : Option kV → kH → Prop} (x2 : Int) (x3 : Int) (x4 : Int) (s : kM) (t : (Int) ⊕ (Int)) (hf : f_Bows_pivot_2b x2 x3 x4 s = some t) (hq : (gE (fun x => kW sc 0 kc_Bows_pivot 1 2 [some (kr 48), none, some (kI x2), some (kI x3), some (kI x)] [] (hH s) Q) (fun r => Q (some (kI r)) (hH s))) t) : kW sc 0 kc_Bows_pivot 1 2 [some (kr 48), none, some (kI x2), some (kI x3), some (kI x4)] [] (hH s) Q := by
  unfold f_Bows_pivot_2b at hf
  refine kw_step rfl rfl rfl rfl ?_
  refine kw_step rfl rfl rfl rfl ?_
  refine kw_icmp_ge rfl rfl (fun c1 => ?_) (fun c1 => ?_)
  · have hf := gift c1 hf
    refine kw_step rfl rfl rfl rfl ?_
    cases hf
    exact kw_ret rfl rfl rfl hq
  · have hf := giff c1 hf
    refine kw_step rfl rfl rfl rfl ?_
    refine kw_get rfl (hH_O (rfl : kotab 48 = some kWo)) rfl ?_
    refine kw_step rfl rfl rfl rfl ?_
    refine kw_step rfl rfl rfl rfl ?_
    refine kw_step rfl rfl rfl rfl ?_
    refine kw_step rfl rfl rfl rfl ?_
    refine kw_step rfl rfl rfl rfl ?_
    obtain ⟨j2, i3, hf⟩ := gbI hf
    refine kw_lald rfl (hH_A (rfl : ktab 50 = some (3, 143))) i3.1 i3.2.1 i3.2.2 ?_
    refine kw_step rfl rfl rfl rfl ?_
    refine kw_lc_eq rfl rfl rfl (fun c4 => ?_) (fun c4 => ?_)
    · have hf := gift c4 hf
      refine kw_step (L' := [some (kr 48), none, some (kI x2), some (kI x3), some (kI (wI (x4 + 1)))]) rfl rfl rfl rfl ?_
      refine kw_goto rfl rfl ?_
      cases hf
      exact kW_le (L' := [some (kr 48), none, some (kI x2), some (kI x3), some (kI (wI (x4 + 1)))]) ⟨Or.inr rfl, Or.inl rfl, Or.inr rfl, Or.inr rfl, Or.inr rfl, trivial⟩ hq
    · have hf := giff c4 hf
      refine kw_step rfl rfl rfl rfl ?_
      cases hf
      exact kw_ret rfl rfl rfl hq
def f_Bows_pivot_2 (x2 : Int) (x3 : Int) (x4 : Int) (s : kM) : Option (Int) :=
  gL (fun (x : Int) => f_Bows_pivot_2b x2 x3 x s) gF (x4)
theorem b_Bows_pivot_2 {sc : List Int} {Q : Option kV → kH → Prop} (x2 : Int) (x3 : Int) (x4 : Int) (s : kM) (t : Int) (hf : f_Bows_pivot_2 x2 x3 x4 s = some t) (hq : (fun r => Q (some (kI r)) (hH s)) t) : kW sc 0 kc_Bows_pivot 1 2 [some (kr 48), none, some (kI x2), some (kI x3), some (kI x4)] [] (hH s) Q :=
  gL_ind (P := fun (x : Int) => kW sc 0 kc_Bows_pivot 1 2 [some (kr 48), none, some (kI x2), some (kI x3), some (kI x)] [] (hH s) Q) (q := (fun r => Q (some (kI r)) (hH s))) (fun x t hf hq => b_Bows_pivot_2b x2 x3 x s t hf hq) gF (x4) t hf hq
def f_Bows_pivot (x1 : Int) (x2 : Int) (x3 : Int) (s : kM) : Option (Int) :=
  f_Bows_pivot_2 x2 x3 x1 s
set_option maxRecDepth 8000 in
theorem c_Bows_pivot {sc : List Int} (x1 : Int) (x2 : Int) (x3 : Int) (s : kM) (t : Int) (hf : f_Bows_pivot x1 x2 x3 s = some t) : kR sc 0 km_Bows_pivot [kr 48, kI x1, kI x2, kI x3] (hH s) (some (kI t)) (hH s) := by
  unfold f_Bows_pivot at hf
  refine kR.start rfl ?_
  show kW sc 0 kc_Bows_pivot 1 0 [some (kr 48), some (kI x1), some (kI x2), some (kI x3), none] [] (hH s) _
  have hq : (fun (r : Option kV) (g : kH) => r = some (kI t) ∧ g = hH s) (some (kI t)) (hH s) := ⟨rfl, rfl⟩
  refine kw_step rfl rfl rfl rfl ?_
  refine kw_step (L' := [some (kr 48), some (kI x1), some (kI x2), some (kI x3), some (kI x1)]) rfl rfl rfl rfl ?_
  exact kW_le (L' := [some (kr 48), none, some (kI x2), some (kI x3), some (kI x1)]) ⟨Or.inr rfl, Or.inl rfl, Or.inr rfl, Or.inr rfl, Or.inr rfl, trivial⟩ (b_Bows_pivot_2 x2 x3 x1 s _ hf hq)
def f_Bows_swapRows_2b (x1 : Int) (x2 : Int) (x3 : Int) (s : kM) : Option ((Int × kM) ⊕ (kM)) :=
  if 13 ≤ x3 then (some (.inr s)) else ((gI 143 (wI ((wI (x1 * 13)) + x3))).bind fun j2 => (gI 143 (wI ((wI (x2 * 13)) + x3))).bind fun j4 => (gI 143 (wI ((wI (x1 * 13)) + x3))).bind fun j6 => gLet (gU s 50 j6 (s 50 j4)) fun s8 => (gI 143 (wI ((wI (x2 * 13)) + x3))).bind fun j11 => gLet (gU s8 50 j11 (s 50 j2)) fun s13 => some (.inl ((wI (x3 + 1)), s13)))
set_option maxRecDepth 8000 in
theorem b_Bows_swapRows_2b {sc : List Int} {Q : Option kV → kH → Prop} (x1 : Int) (x2 : Int) (x3 : Int) (s : kM) (t : (Int × kM) ⊕ (kM)) (hf : f_Bows_swapRows_2b x1 x2 x3 s = some t) (hq : (gE (fun x => kW sc 0 kc_Bows_swapRows 0 2 [some (kr 48), some (kI x1), some (kI x2), some (kI x.1), none, none] [] (hH x.2) Q) (fun r => Q none (hH r))) t) : kW sc 0 kc_Bows_swapRows 0 2 [some (kr 48), some (kI x1), some (kI x2), some (kI x3), none, none] [] (hH s) Q := by
  unfold f_Bows_swapRows_2b at hf
  refine kw_step rfl rfl rfl rfl ?_
  refine kw_step rfl rfl rfl rfl ?_
  refine kw_icmp_ge rfl rfl (fun c1 => ?_) (fun c1 => ?_)
  · have hf := gift c1 hf
    cases hf
    exact kw_ret rfl rfl rfl hq
  · have hf := giff c1 hf
    refine kw_step rfl rfl rfl rfl ?_
    refine kw_get rfl (hH_O (rfl : kotab 48 = some kWo)) rfl ?_
    refine kw_step rfl rfl rfl rfl ?_
    refine kw_step rfl rfl rfl rfl ?_
    refine kw_step rfl rfl rfl rfl ?_
    refine kw_step rfl rfl rfl rfl ?_
    refine kw_step rfl rfl rfl rfl ?_
    obtain ⟨j2, i3, hf⟩ := gbI hf
    refine kw_lald rfl (hH_A (rfl : ktab 50 = some (3, 143))) i3.1 i3.2.1 i3.2.2 ?_
    refine kw_step (L' := [some (kr 48), some (kI x1), some (kI x2), some (kI x3), some (kJ (s 50 j2)), none]) rfl rfl rfl rfl ?_
    refine kw_step rfl rfl rfl rfl ?_
    refine kw_get rfl (hH_O (rfl : kotab 48 = some kWo)) rfl ?_
    refine kw_step rfl rfl rfl rfl ?_
    refine kw_step rfl rfl rfl rfl ?_
    refine kw_step rfl rfl rfl rfl ?_
    refine kw_step rfl rfl rfl rfl ?_
    refine kw_step rfl rfl rfl rfl ?_
    refine kw_step rfl rfl rfl rfl ?_
    refine kw_get rfl (hH_O (rfl : kotab 48 = some kWo)) rfl ?_
    refine kw_step rfl rfl rfl rfl ?_
    refine kw_step rfl rfl rfl rfl ?_
    refine kw_step rfl rfl rfl rfl ?_
    refine kw_step rfl rfl rfl rfl ?_
    refine kw_step rfl rfl rfl rfl ?_
    obtain ⟨j4, i5, hf⟩ := gbI hf
    refine kw_lald rfl (hH_A (rfl : ktab 50 = some (3, 143))) i5.1 i5.2.1 i5.2.2 ?_
    obtain ⟨j6, i7, hf⟩ := gbI hf
    obtain ⟨s8, ee9, hf⟩ := gbL hf
    refine kw_lastH rfl (rfl : ktab 50 = some (3, 143)) i7.1 i7.2.1 i7.2.2 ee9 ?_
    refine kw_step rfl rfl rfl rfl ?_
    refine kw_get rfl (hH_O (rfl : kotab 48 = some kWo)) rfl ?_
    refine kw_step rfl rfl rfl rfl ?_
    refine kw_step rfl rfl rfl rfl ?_
    refine kw_step rfl rfl rfl rfl ?_
    refine kw_step rfl rfl rfl rfl ?_
    refine kw_step rfl rfl rfl rfl ?_
    refine kw_step rfl rfl rfl rfl ?_
    obtain ⟨j11, i12, hf⟩ := gbI hf
    obtain ⟨s13, ee14, hf⟩ := gbL hf
    refine kw_lastH rfl (rfl : ktab 50 = some (3, 143)) i12.1 i12.2.1 i12.2.2 ee14 ?_
    refine kw_step (L' := [some (kr 48), some (kI x1), some (kI x2), some (kI (wI (x3 + 1))), some (kJ (s 50 j2)), none]) rfl rfl rfl rfl ?_
    refine kw_goto rfl rfl ?_
    cases hf
    exact kW_le (L' := [some (kr 48), some (kI x1), some (kI x2), some (kI (wI (x3 + 1))), none, none]) ⟨Or.inr rfl, Or.inr rfl, Or.inr rfl, Or.inr rfl, Or.inl rfl, Or.inl rfl, trivial⟩ hq
def f_Bows_swapRows_2 (x1 : Int) (x2 : Int) (x3 : Int) (s : kM) : Option (kM) :=
  gL (fun (x : Int × kM) => f_Bows_swapRows_2b x1 x2 x.1 x.2) gF (x3, s)
theorem b_Bows_swapRows_2 {sc : List Int} {Q : Option kV → kH → Prop} (x1 : Int) (x2 : Int) (x3 : Int) (s : kM) (t : kM) (hf : f_Bows_swapRows_2 x1 x2 x3 s = some t) (hq : (fun r => Q none (hH r)) t) : kW sc 0 kc_Bows_swapRows 0 2 [some (kr 48), some (kI x1), some (kI x2), some (kI x3), none, none] [] (hH s) Q :=
  gL_ind (P := fun (x : Int × kM) => kW sc 0 kc_Bows_swapRows 0 2 [some (kr 48), some (kI x1), some (kI x2), some (kI x.1), none, none] [] (hH x.2) Q) (q := (fun r => Q none (hH r))) (fun x t hf hq => b_Bows_swapRows_2b x1 x2 x.1 x.2 t hf hq) gF (x3, s) t hf hq
def f_Bows_swapRows (x1 : Int) (x2 : Int) (s : kM) : Option (kM) :=
  f_Bows_swapRows_2 x1 x2 0 s
set_option maxRecDepth 8000 in
theorem c_Bows_swapRows {sc : List Int} (x1 : Int) (x2 : Int) (s : kM) (t : kM) (hf : f_Bows_swapRows x1 x2 s = some t) : kR sc 0 km_Bows_swapRows [kr 48, kI x1, kI x2] (hH s) none (hH t) := by
  unfold f_Bows_swapRows at hf
  refine kR.start rfl ?_
  show kW sc 0 kc_Bows_swapRows 0 0 [some (kr 48), some (kI x1), some (kI x2), none, none, none] [] (hH s) _
  have hq : (fun (r : Option kV) (g : kH) => r = none ∧ g = hH t) none (hH t) := ⟨rfl, rfl⟩
  refine kw_step rfl rfl rfl rfl ?_
  refine kw_step (L' := [some (kr 48), some (kI x1), some (kI x2), some (kI 0), none, none]) rfl rfl rfl rfl ?_
  exact kW_le (L' := [some (kr 48), some (kI x1), some (kI x2), some (kI 0), none, none]) ⟨Or.inr rfl, Or.inr rfl, Or.inr rfl, Or.inr rfl, Or.inl rfl, Or.inl rfl, trivial⟩ (b_Bows_swapRows_2 x1 x2 0 s _ hf hq)
