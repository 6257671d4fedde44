/-! PRINTED by wip/whole/decall.py: methods as functions over the flat world, with their contracts -/
def f_KT_moveBy (x1 : Int) (s : kM) : Option (Int × kM) :=
  (f_Land_survey 17 4 s).bind fun q1 => (f_Land_indexOfMove 17 x1 q1).bind fun q3 => if 0 ≤ q3 then ((f_Land_perform 17 4 q3 q1).bind fun q5 => (f_Town_settle 4 q5).bind fun q7 => gLet (gU q7 3 1 (wI ((q7 3 1) + 1))) fun s9 => (f_KT_forget s9).bind fun q12 => some (1, q12)) else (some (0, q1))
set_option maxRecDepth 8000 in
theorem c_KT_moveBy {sc : List Int} (x1 : Int) (s : kM) (t : Int × kM) (hf : f_KT_moveBy x1 s = some t) : kR sc 4 km_KT_moveBy [kr 0, kI x1] (hH s) (some (kI t.1)) (hH t.2) := by
  unfold f_KT_moveBy at hf
  refine kR.start rfl ?_
  show kW sc 4 kc_KT_moveBy 2 0 [some (kr 0), some (kI x1), none] [] (hH s) _
  have hq : (fun (r : Option kV) (g : kH) => r = some (kI t.1) ∧ g = hH t.2) (some (kI t.1)) (hH t.2) := ⟨rfl, rfl⟩
  refine kw_step rfl rfl rfl rfl ?_
  refine kw_get rfl (hH_O (rfl : kotab 0 = some kKo)) rfl ?_
  refine kw_step rfl rfl rfl rfl ?_
  refine kw_get rfl (hH_O (rfl : kotab 0 = some kKo)) rfl ?_
  refine kw_get rfl (hH_O (tS_0 (b := 3) rfl)) rfl ?_
  obtain ⟨q1, hq1, hf⟩ := gbind hf
  refine kw_callV (vs := [kr 4]) rfl rfl rfl ⟨rfl, Nat.le_of_ble_eq_true rfl, Nat.le_of_ble_eq_true rfl, by decide⟩ (hH_O (tL_0 (b := 17) rfl)) (c_Land_survey 17 4 (rfl : tL 17 = true) (rfl : tT 4 = true) s _ hq1) (Nat.le_of_ble_eq_true rfl) ?_
  refine kw_step rfl rfl rfl rfl ?_
  refine kw_get rfl (hH_O (rfl : kotab 0 = some kKo)) rfl ?_
  refine kw_step rfl rfl rfl rfl ?_
  obtain ⟨q3, hq3, hf⟩ := gbind hf
  refine kw_callV (vs := [kI x1]) rfl rfl rfl ⟨rfl, Nat.le_of_ble_eq_true rfl, Nat.le_of_ble_eq_true rfl, by decide⟩ (hH_O (tL_0 (b := 17) rfl)) (c_Land_indexOfMove 17 (rfl : tL 17 = true) x1 q1 _ hq3) (Nat.le_of_ble_eq_true rfl) ?_
  refine kw_step (L' := [some (kr 0), some (kI x1), some (kI q3)]) rfl rfl rfl rfl ?_
  refine kw_step rfl rfl rfl rfl ?_
  refine kw_if_ge rfl rfl (fun c4 => ?_) (fun c4 => ?_)
  · have hf := gift c4 hf
    refine kw_step rfl rfl rfl rfl ?_
    refine kw_get rfl (hH_O (rfl : kotab 0 = some kKo)) rfl ?_
    refine kw_step rfl rfl rfl rfl ?_
    refine kw_get rfl (hH_O (rfl : kotab 0 = some kKo)) rfl ?_
    refine kw_get rfl (hH_O (tS_0 (b := 3) rfl)) rfl ?_
    refine kw_step rfl rfl rfl rfl ?_
    obtain ⟨q5, hq5, hf⟩ := gbind hf
    refine kw_callV (vs := [kr 4, kI q3]) rfl rfl rfl ⟨rfl, Nat.le_of_ble_eq_true rfl, Nat.le_of_ble_eq_true rfl, by decide⟩ (hH_O (tL_0 (b := 17) rfl)) (c_Land_perform 17 4 (rfl : tL 17 = true) (rfl : tT 4 = true) q3 q1 _ hq5) (Nat.le_of_ble_eq_true rfl) ?_
    refine kw_step rfl rfl rfl rfl ?_
    refine kw_get rfl (hH_O (rfl : kotab 0 = some kKo)) rfl ?_
    refine kw_get rfl (hH_O (tS_0 (b := 3) rfl)) rfl ?_
    obtain ⟨q7, hq7, hf⟩ := gbind hf
    refine kw_callV (vs := []) rfl rfl rfl ⟨rfl, Nat.le_of_ble_eq_true rfl, Nat.le_of_ble_eq_true rfl, by decide⟩ (hH_O (tT_0 (b := 4) rfl)) (c_Town_settle 4 (rfl : tT 4 = true) q5 _ hq7) (Nat.le_of_ble_eq_true rfl) ?_
    refine kw_step rfl rfl rfl rfl ?_
    refine kw_get rfl (hH_O (rfl : kotab 0 = some kKo)) rfl ?_
    refine kw_step rfl rfl rfl rfl ?_
    refine kw_get rfl (hH_O (tS_0 (b := 3) rfl)) rfl ?_
    refine kw_step rfl rfl rfl rfl ?_
    refine kw_step rfl rfl rfl rfl ?_
    obtain ⟨s9, ee10, hf⟩ := gbL hf
    refine kw_putH rfl (tS_0 (b := 3) rfl) rfl rfl rfl (Nat.le_of_ble_eq_true rfl) rfl ee10 ?_
    refine kw_step rfl rfl rfl rfl ?_
    obtain ⟨q12, hq12, hf⟩ := gbind hf
    refine kw_callV (vs := []) rfl rfl rfl ⟨rfl, Nat.le_of_ble_eq_true rfl, Nat.le_of_ble_eq_true rfl, by decide⟩ (hH_O (rfl : kotab 0 = some kKo)) (c_KT_forget s9 _ hq12) (Nat.le_of_ble_eq_true rfl) ?_
    refine kw_step rfl rfl rfl rfl ?_
    cases hf
    exact kw_ret rfl rfl rfl hq
  · have hf := giff c4 hf
    refine kw_step rfl rfl rfl rfl ?_
    cases hf
    exact kw_ret rfl rfl rfl hq
def f_KT_off (x1 : Int) (s : kM) : Option (Int × kM) :=
  (f_Town_has 4 x1 s).bind fun q1 => if q1 = 0 then (some (0, s)) else ((f_Land_offKey x1 s).bind fun q3 => (f_KT_moveBy q3 s).bind fun q4 => if q4.1 = 0 then (some (0, q4.2)) else (some (1, q4.2)))
set_option maxRecDepth 8000 in
theorem c_KT_off {sc : List Int} (x1 : Int) (s : kM) (t : Int × kM) (hf : f_KT_off x1 s = some t) : kR sc 5 km_KT_off [kr 0, kI x1] (hH s) (some (kI t.1)) (hH t.2) := by
  unfold f_KT_off at hf
  refine kR.start rfl ?_
  show kW sc 5 kc_KT_off 2 0 [some (kr 0), some (kI x1)] [] (hH s) _
  have hq : (fun (r : Option kV) (g : kH) => r = some (kI t.1) ∧ g = hH t.2) (some (kI t.1)) (hH t.2) := ⟨rfl, rfl⟩
  refine kw_step rfl rfl rfl rfl ?_
  refine kw_get rfl (hH_O (rfl : kotab 0 = some kKo)) rfl ?_
  refine kw_get rfl (hH_O (tS_0 (b := 3) rfl)) rfl ?_
  refine kw_step rfl rfl rfl rfl ?_
  obtain ⟨q1, hq1, hf⟩ := gbind hf
  refine kw_callV (vs := [kI x1]) rfl rfl rfl ⟨rfl, Nat.le_of_ble_eq_true rfl, Nat.le_of_ble_eq_true rfl, by decide⟩ (hH_O (tT_0 (b := 4) rfl)) (c_Town_has 4 (rfl : tT 4 = true) x1 s _ hq1) (Nat.le_of_ble_eq_true rfl) ?_
  refine kw_if_eq rfl rfl (fun c2 => ?_) (fun c2 => ?_)
  · have hf := gift c2 hf
    refine kw_step rfl rfl rfl rfl ?_
    cases hf
    exact kw_ret rfl rfl rfl hq
  · have hf := giff c2 hf
    refine kw_step rfl rfl rfl rfl ?_
    refine kw_step rfl rfl rfl rfl ?_
    obtain ⟨q3, hq3, hf⟩ := gbind hf
    refine kw_callS (vs := [kI x1]) rfl rfl rfl ⟨rfl, Nat.le_of_ble_eq_true rfl, Nat.le_of_ble_eq_true rfl, rfl⟩ (c_Land_offKey x1 s _ hq3) (Nat.le_of_ble_eq_true rfl) ?_
    obtain ⟨q4, hq4, hf⟩ := gbind hf
    refine kw_callV (vs := [kI q3]) rfl rfl rfl ⟨rfl, Nat.le_of_ble_eq_true rfl, Nat.le_of_ble_eq_true rfl, by decide⟩ (hH_O (rfl : kotab 0 = some kKo)) (c_KT_moveBy q3 s _ hq4) (Nat.le_of_ble_eq_true rfl) ?_
    refine kw_if_eq rfl rfl (fun c6 => ?_) (fun c6 => ?_)
    · have hf := gift c6 hf
      refine kw_step rfl rfl rfl rfl ?_
      cases hf
      exact kw_ret rfl rfl rfl hq
    · have hf := giff c6 hf
      refine kw_step rfl rfl rfl rfl ?_
      refine kw_goto rfl rfl ?_
      cases hf
      exact kw_ret rfl rfl rfl hq
def f_KT_apart (x1 : Int) (x2 : Int) (s : kM) : Option (Int × kM) :=
  (f_Town_has 4 x1 s).bind fun q1 => if q1 = 0 then (some (0, s)) else ((f_Town_has 4 x2 s).bind fun q3 => if q3 = 0 then (some (0, s)) else ((f_Land_apartKey x1 x2 s).bind fun q5 => (f_KT_moveBy q5 s).bind fun q6 => if q6.1 = 0 then (some (0, q6.2)) else (some (1, q6.2))))
set_option maxRecDepth 8000 in
theorem c_KT_apart {sc : List Int} (x1 : Int) (x2 : Int) (s : kM) (t : Int × kM) (hf : f_KT_apart x1 x2 s = some t) : kR sc 5 km_KT_apart [kr 0, kI x1, kI x2] (hH s) (some (kI t.1)) (hH t.2) := by
  unfold f_KT_apart at hf
  refine kR.start rfl ?_
  show kW sc 5 kc_KT_apart 2 0 [some (kr 0), some (kI x1), some (kI x2)] [] (hH s) _
  have hq : (fun (r : Option kV) (g : kH) => r = some (kI t.1) ∧ g = hH t.2) (some (kI t.1)) (hH t.2) := ⟨rfl, rfl⟩
  refine kw_step rfl rfl rfl rfl ?_
  refine kw_get rfl (hH_O (rfl : kotab 0 = some kKo)) rfl ?_
  refine kw_get rfl (hH_O (tS_0 (b := 3) rfl)) rfl ?_
  refine kw_step rfl rfl rfl rfl ?_
  obtain ⟨q1, hq1, hf⟩ := gbind hf
  refine kw_callV (vs := [kI x1]) rfl rfl rfl ⟨rfl, Nat.le_of_ble_eq_true rfl, Nat.le_of_ble_eq_true rfl, by decide⟩ (hH_O (tT_0 (b := 4) rfl)) (c_Town_has 4 (rfl : tT 4 = true) x1 s _ hq1) (Nat.le_of_ble_eq_true rfl) ?_
  refine kw_if_eq rfl rfl (fun c2 => ?_) (fun c2 => ?_)
  · have hf := gift c2 hf
    refine kw_step rfl rfl rfl rfl ?_
    cases hf
    exact kw_ret rfl rfl rfl hq
  · have hf := giff c2 hf
    refine kw_step rfl rfl rfl rfl ?_
    refine kw_get rfl (hH_O (rfl : kotab 0 = some kKo)) rfl ?_
    refine kw_get rfl (hH_O (tS_0 (b := 3) rfl)) rfl ?_
    refine kw_step rfl rfl rfl rfl ?_
    obtain ⟨q3, hq3, hf⟩ := gbind hf
    refine kw_callV (vs := [kI x2]) rfl rfl rfl ⟨rfl, Nat.le_of_ble_eq_true rfl, Nat.le_of_ble_eq_true rfl, by decide⟩ (hH_O (tT_0 (b := 4) rfl)) (c_Town_has 4 (rfl : tT 4 = true) x2 s _ hq3) (Nat.le_of_ble_eq_true rfl) ?_
    refine kw_if_eq rfl rfl (fun c4 => ?_) (fun c4 => ?_)
    · have hf := gift c4 hf
      refine kw_step rfl rfl rfl rfl ?_
      cases hf
      exact kw_ret rfl rfl rfl hq
    · have hf := giff c4 hf
      refine kw_step rfl rfl rfl rfl ?_
      refine kw_step rfl rfl rfl rfl ?_
      refine kw_step rfl rfl rfl rfl ?_
      obtain ⟨q5, hq5, hf⟩ := gbind hf
      refine kw_callS (vs := [kI x1, kI x2]) rfl rfl rfl ⟨rfl, Nat.le_of_ble_eq_true rfl, Nat.le_of_ble_eq_true rfl, rfl⟩ (c_Land_apartKey x1 x2 s _ hq5) (Nat.le_of_ble_eq_true rfl) ?_
      obtain ⟨q6, hq6, hf⟩ := gbind hf
      refine kw_callV (vs := [kI q5]) rfl rfl rfl ⟨rfl, Nat.le_of_ble_eq_true rfl, Nat.le_of_ble_eq_true rfl, by decide⟩ (hH_O (rfl : kotab 0 = some kKo)) (c_KT_moveBy q5 s _ hq6) (Nat.le_of_ble_eq_true rfl) ?_
      refine kw_if_eq rfl rfl (fun c8 => ?_) (fun c8 => ?_)
      · have hf := gift c8 hf
        refine kw_step rfl rfl rfl rfl ?_
        cases hf
        exact kw_ret rfl rfl rfl hq
      · have hf := giff c8 hf
        refine kw_step rfl rfl rfl rfl ?_
        refine kw_goto rfl rfl ?_
        cases hf
        exact kw_ret rfl rfl rfl hq
def f_KT_slide (x1 : Int) (x2 : Int) (x3 : Int) (s : kM) : Option (Int × kM) :=
  (f_Town_has 4 x1 s).bind fun q1 => if q1 = 0 then (some (0, s)) else ((f_Town_has 4 x2 s).bind fun q3 => if q3 = 0 then (some (0, s)) else ((f_Town_has 4 x3 s).bind fun q5 => if q5 = 0 then (some (0, s)) else ((f_Land_slideKey x1 x2 x3 s).bind fun q7 => (f_KT_moveBy q7 s).bind fun q8 => if q8.1 = 0 then (some (0, q8.2)) else (some (1, q8.2)))))
set_option maxRecDepth 8000 in
theorem c_KT_slide {sc : List Int} (x1 : Int) (x2 : Int) (x3 : Int) (s : kM) (t : Int × kM) (hf : f_KT_slide x1 x2 x3 s = some t) : kR sc 5 km_KT_slide [kr 0, kI x1, kI x2, kI x3] (hH s) (some (kI t.1)) (hH t.2) := by
  unfold f_KT_slide at hf
  refine kR.start rfl ?_
  show kW sc 5 kc_KT_slide 2 0 [some (kr 0), some (kI x1), some (kI x2), some (kI x3)] [] (hH s) _
  have hq : (fun (r : Option kV) (g : kH) => r = some (kI t.1) ∧ g = hH t.2) (some (kI t.1)) (hH t.2) := ⟨rfl, rfl⟩
  refine kw_step rfl rfl rfl rfl ?_
  refine kw_get rfl (hH_O (rfl : kotab 0 = some kKo)) rfl ?_
  refine kw_get rfl (hH_O (tS_0 (b := 3) rfl)) rfl ?_
  refine kw_step rfl rfl rfl rfl ?_
  obtain ⟨q1, hq1, hf⟩ := gbind hf
  refine kw_callV (vs := [kI x1]) rfl rfl rfl ⟨rfl, Nat.le_of_ble_eq_true rfl, Nat.le_of_ble_eq_true rfl, by decide⟩ (hH_O (tT_0 (b := 4) rfl)) (c_Town_has 4 (rfl : tT 4 = true) x1 s _ hq1) (Nat.le_of_ble_eq_true rfl) ?_
  refine kw_if_eq rfl rfl (fun c2 => ?_) (fun c2 => ?_)
  · have hf := gift c2 hf
    refine kw_step rfl rfl rfl rfl ?_
    cases hf
    exact kw_ret rfl rfl rfl hq
  · have hf := giff c2 hf
    refine kw_step rfl rfl rfl rfl ?_
    refine kw_get rfl (hH_O (rfl : kotab 0 = some kKo)) rfl ?_
    refine kw_get rfl (hH_O (tS_0 (b := 3) rfl)) rfl ?_
    refine kw_step rfl rfl rfl rfl ?_
    obtain ⟨q3, hq3, hf⟩ := gbind hf
    refine kw_callV (vs := [kI x2]) rfl rfl rfl ⟨rfl, Nat.le_of_ble_eq_true rfl, Nat.le_of_ble_eq_true rfl, by decide⟩ (hH_O (tT_0 (b := 4) rfl)) (c_Town_has 4 (rfl : tT 4 = true) x2 s _ hq3) (Nat.le_of_ble_eq_true rfl) ?_
    refine kw_if_eq rfl rfl (fun c4 => ?_) (fun c4 => ?_)
    · have hf := gift c4 hf
      refine kw_step rfl rfl rfl rfl ?_
      cases hf
      exact kw_ret rfl rfl rfl hq
    · have hf := giff c4 hf
      refine kw_step rfl rfl rfl rfl ?_
      refine kw_get rfl (hH_O (rfl : kotab 0 = some kKo)) rfl ?_
      refine kw_get rfl (hH_O (tS_0 (b := 3) rfl)) rfl ?_
      refine kw_step rfl rfl rfl rfl ?_
      obtain ⟨q5, hq5, hf⟩ := gbind hf
      refine kw_callV (vs := [kI x3]) rfl rfl rfl ⟨rfl, Nat.le_of_ble_eq_true rfl, Nat.le_of_ble_eq_true rfl, by decide⟩ (hH_O (tT_0 (b := 4) rfl)) (c_Town_has 4 (rfl : tT 4 = true) x3 s _ hq5) (Nat.le_of_ble_eq_true rfl) ?_
      refine kw_if_eq rfl rfl (fun c6 => ?_) (fun c6 => ?_)
      · have hf := gift c6 hf
        refine kw_step rfl rfl rfl rfl ?_
        cases hf
        exact kw_ret rfl rfl rfl hq
      · have hf := giff c6 hf
        refine kw_step rfl rfl rfl rfl ?_
        refine kw_step rfl rfl rfl rfl ?_
        refine kw_step rfl rfl rfl rfl ?_
        refine kw_step rfl rfl rfl rfl ?_
        obtain ⟨q7, hq7, hf⟩ := gbind hf
        refine kw_callS (vs := [kI x1, kI x2, kI x3]) rfl rfl rfl ⟨rfl, Nat.le_of_ble_eq_true rfl, Nat.le_of_ble_eq_true rfl, rfl⟩ (c_Land_slideKey x1 x2 x3 s _ hq7) (Nat.le_of_ble_eq_true rfl) ?_
        obtain ⟨q8, hq8, hf⟩ := gbind hf
        refine kw_callV (vs := [kI q7]) rfl rfl rfl ⟨rfl, Nat.le_of_ble_eq_true rfl, Nat.le_of_ble_eq_true rfl, by decide⟩ (hH_O (rfl : kotab 0 = some kKo)) (c_KT_moveBy q7 s _ hq8) (Nat.le_of_ble_eq_true rfl) ?_
        refine kw_if_eq rfl rfl (fun c10 => ?_) (fun c10 => ?_)
        · have hf := gift c10 hf
          refine kw_step rfl rfl rfl rfl ?_
          cases hf
          exact kw_ret rfl rfl rfl hq
        · have hf := giff c10 hf
          refine kw_step rfl rfl rfl rfl ?_
          refine kw_goto rfl rfl ?_
          cases hf
          exact kw_ret rfl rfl rfl hq
def f_Town_flip (b0 : Nat) (x1 : Int) (s : kM) : Option (kM) :=
  (f_Town_has b0 x1 s).bind fun q1 => if q1 = 0 then (some s) else ((f_Town_overAt b0 x1 s).bind fun q3 => (f_Town_underAt b0 x1 s).bind fun q4 => (gI 22 q3).bind fun j5 => gLet (gU s (b0 + 1) j5 (wI (2 * x1))) fun s7 => (gI 22 q4).bind fun j10 => gLet (gU s7 (b0 + 1) j10 (wI ((wI (2 * x1)) + 1))) fun s12 => (gI 22 (wI (2 * x1))).bind fun j15 => gLet (gU s12 (b0 + 5) j15 q3) fun s17 => (gI 22 (wI ((wI (2 * x1)) + 1))).bind fun j20 => gLet (gU s17 (b0 + 5) j20 q4) fun s22 => (gI 11 x1).bind fun j25 => (gI 11 x1).bind fun j27 => gLet (gU s22 (b0 + 2) j27 (wI (1 - (s22 (b0 + 2) j25)))) fun s29 => some s29)
set_option maxRecDepth 8000 in
theorem c_Town_flip {sc : List Int} (b0 : Nat) (hb0 : tT b0 = true) (x1 : Int) (s : kM) (t : kM) (hf : f_Town_flip b0 x1 s = some t) : kR sc 1 km_Town_flip [kr b0, kI x1] (hH s) none (hH t) := by
  unfold f_Town_flip at hf
  refine kR.start rfl ?_
  show kW sc 1 kc_Town_flip 0 0 [some (kr b0), some (kI x1), none, none] [] (hH s) _
  have hq : (fun (r : Option kV) (g : kH) => r = none ∧ g = hH t) none (hH t) := ⟨rfl, rfl⟩
  refine kw_step rfl rfl rfl rfl ?_
  refine kw_step rfl rfl rfl rfl ?_
  obtain ⟨q1, hq1, hf⟩ := gbind hf
  refine kw_callV (vs := [kI x1]) rfl rfl rfl ⟨rfl, Nat.le_of_ble_eq_true rfl, Nat.le_of_ble_eq_true rfl, by decide⟩ (hH_O (tT_0 hb0)) (c_Town_has b0 hb0 x1 s _ hq1) (Nat.le_of_ble_eq_true rfl) ?_
  refine kw_if_eq rfl rfl (fun c2 => ?_) (fun c2 => ?_)
  · have hf := gift c2 hf
    cases hf
    exact kw_ret rfl rfl rfl hq
  · have hf := giff c2 hf
    refine kw_step rfl rfl rfl rfl ?_
    refine kw_step rfl rfl rfl rfl ?_
    obtain ⟨q3, hq3, hf⟩ := gbind hf
    refine kw_callV (vs := [kI x1]) rfl rfl rfl ⟨rfl, Nat.le_of_ble_eq_true rfl, Nat.le_of_ble_eq_true rfl, by decide⟩ (hH_O (tT_0 hb0)) (c_Town_overAt b0 hb0 x1 s _ hq3) (Nat.le_of_ble_eq_true rfl) ?_
    refine kw_step (L' := [some (kr b0), some (kI x1), some (kI q3), none]) rfl rfl rfl rfl ?_
    refine kw_step rfl rfl rfl rfl ?_
    refine kw_step rfl rfl rfl rfl ?_
    obtain ⟨q4, hq4, hf⟩ := gbind hf
    refine kw_callV (vs := [kI x1]) rfl rfl rfl ⟨rfl, Nat.le_of_ble_eq_true rfl, Nat.le_of_ble_eq_true rfl, by decide⟩ (hH_O (tT_0 hb0)) (c_Town_underAt b0 hb0 x1 s _ hq4) (Nat.le_of_ble_eq_true rfl) ?_
    refine kw_step (L' := [some (kr b0), some (kI x1), some (kI q3), some (kI q4)]) rfl rfl rfl rfl ?_
    refine kw_step rfl rfl rfl rfl ?_
    refine kw_get rfl (hH_O (tT_0 hb0)) rfl ?_
    refine kw_step rfl rfl rfl rfl ?_
    refine kw_step rfl rfl rfl rfl ?_
    refine kw_step rfl rfl rfl rfl ?_
    refine kw_step rfl rfl rfl rfl ?_
    obtain ⟨j5, i6, hf⟩ := gbI hf
    obtain ⟨s7, ee8, hf⟩ := gbL hf
    refine kw_iastH rfl (tT_1 hb0) i6.1 i6.2.1 i6.2.2 ee8 ?_
    refine kw_step rfl rfl rfl rfl ?_
    refine kw_get rfl (hH_O (tT_0 hb0)) rfl ?_
    refine kw_step rfl rfl rfl rfl ?_
    refine kw_step rfl rfl rfl rfl ?_
    refine kw_step rfl rfl rfl rfl ?_
    refine kw_step rfl rfl rfl rfl ?_
    refine kw_step rfl rfl rfl rfl ?_
    refine kw_step rfl rfl rfl rfl ?_
    obtain ⟨j10, i11, hf⟩ := gbI hf
    obtain ⟨s12, ee13, hf⟩ := gbL hf
    refine kw_iastH rfl (tT_1 hb0) i11.1 i11.2.1 i11.2.2 ee13 ?_
    refine kw_step rfl rfl rfl rfl ?_
    refine kw_get rfl (hH_O (tT_0 hb0)) rfl ?_
    refine kw_step rfl rfl rfl rfl ?_
    refine kw_step rfl rfl rfl rfl ?_
    refine kw_step rfl rfl rfl rfl ?_
    refine kw_step rfl rfl rfl rfl ?_
    obtain ⟨j15, i16, hf⟩ := gbI hf
    obtain ⟨s17, ee18, hf⟩ := gbL hf
    refine kw_iastH rfl (tT_5 hb0) i16.1 i16.2.1 i16.2.2 ee18 ?_
    refine kw_step rfl rfl rfl rfl ?_
    refine kw_get rfl (hH_O (tT_0 hb0)) rfl ?_
    refine kw_step rfl rfl rfl rfl ?_
    refine kw_step rfl rfl rfl rfl ?_
    refine kw_step rfl rfl rfl rfl ?_
    refine kw_step rfl rfl rfl rfl ?_
    refine kw_step rfl rfl rfl rfl ?_
    refine kw_step rfl rfl rfl rfl ?_
    obtain ⟨j20, i21, hf⟩ := gbI hf
    obtain ⟨s22, ee23, hf⟩ := gbL hf
    refine kw_iastH rfl (tT_5 hb0) i21.1 i21.2.1 i21.2.2 ee23 ?_
    refine kw_step rfl rfl rfl rfl ?_
    refine kw_get rfl (hH_O (tT_0 hb0)) rfl ?_
    refine kw_step rfl rfl rfl rfl ?_
    refine kw_step rfl rfl rfl rfl ?_
    refine kw_step rfl rfl rfl rfl ?_
    refine kw_get rfl (hH_O (tT_0 hb0)) rfl ?_
    refine kw_step rfl rfl rfl rfl ?_
    obtain ⟨j25, i26, hf⟩ := gbI hf
    refine kw_iald rfl (hH_A (tT_2 hb0)) i26.1 i26.2.1 i26.2.2 ?_
    refine kw_step rfl rfl rfl rfl ?_
    obtain ⟨j27, i28, hf⟩ := gbI hf
    obtain ⟨s29, ee30, hf⟩ := gbL hf
    refine kw_iastH rfl (tT_2 hb0) i28.1 i28.2.1 i28.2.2 ee30 ?_
    cases hf
    exact kw_ret rfl rfl rfl hq
def f_KT_change (x1 : Int) (s : kM) : Option (Int × kM) :=
  (f_Town_has 4 x1 s).bind fun q1 => if q1 = 0 then (some ((-1), s)) else ((f_Town_flip 4 x1 s).bind fun q3 => (f_Town_settle 4 q3).bind fun q5 => (f_KT_forget q5).bind fun q7 => (gI 11 x1).bind fun j9 => some ((q7 6 j9), q7))
set_option maxRecDepth 8000 in
theorem c_KT_change {sc : List Int} (x1 : Int) (s : kM) (t : Int × kM) (hf : f_KT_change x1 s = some t) : kR sc 2 km_KT_change [kr 0, kI x1] (hH s) (some (kI t.1)) (hH t.2) := by
  unfold f_KT_change at hf
  refine kR.start rfl ?_
  show kW sc 2 kc_KT_change 1 0 [some (kr 0), some (kI x1), none] [] (hH s) _
  have hq : (fun (r : Option kV) (g : kH) => r = some (kI t.1) ∧ g = hH t.2) (some (kI t.1)) (hH t.2) := ⟨rfl, rfl⟩
  refine kw_step rfl rfl rfl rfl ?_
  refine kw_get rfl (hH_O (rfl : kotab 0 = some kKo)) rfl ?_
  refine kw_get rfl (hH_O (tS_0 (b := 3) rfl)) rfl ?_
  refine kw_step (L' := [some (kr 0), some (kI x1), some (kr 4)]) rfl rfl rfl rfl ?_
  refine kw_step rfl rfl rfl rfl ?_
  refine kw_step rfl rfl rfl rfl ?_
  obtain ⟨q1, hq1, hf⟩ := gbind hf
  refine kw_callV (vs := [kI x1]) rfl rfl rfl ⟨rfl, Nat.le_of_ble_eq_true rfl, Nat.le_of_ble_eq_true rfl, by decide⟩ (hH_O (tT_0 (b := 4) rfl)) (c_Town_has 4 (rfl : tT 4 = true) x1 s _ hq1) (Nat.le_of_ble_eq_true rfl) ?_
  refine kw_if_ne rfl rfl (fun c2 => ?_) (fun c2 => ?_)
  · have hf := giff c2 hf
    refine kw_step rfl rfl rfl rfl ?_
    refine kw_step rfl rfl rfl rfl ?_
    obtain ⟨q3, hq3, hf⟩ := gbind hf
    refine kw_callV (vs := [kI x1]) rfl rfl rfl ⟨rfl, Nat.le_of_ble_eq_true rfl, Nat.le_of_ble_eq_true rfl, by decide⟩ (hH_O (tT_0 (b := 4) rfl)) (c_Town_flip 4 (rfl : tT 4 = true) x1 s _ hq3) (Nat.le_of_ble_eq_true rfl) ?_
    refine kw_step rfl rfl rfl rfl ?_
    obtain ⟨q5, hq5, hf⟩ := gbind hf
    refine kw_callV (vs := []) rfl rfl rfl ⟨rfl, Nat.le_of_ble_eq_true rfl, Nat.le_of_ble_eq_true rfl, by decide⟩ (hH_O (tT_0 (b := 4) rfl)) (c_Town_settle 4 (rfl : tT 4 = true) q3 _ hq5) (Nat.le_of_ble_eq_true rfl) ?_
    refine kw_step rfl rfl rfl rfl ?_
    obtain ⟨q7, hq7, hf⟩ := gbind hf
    refine kw_callV (vs := []) rfl rfl rfl ⟨rfl, Nat.le_of_ble_eq_true rfl, Nat.le_of_ble_eq_true rfl, by decide⟩ (hH_O (rfl : kotab 0 = some kKo)) (c_KT_forget q5 _ hq7) (Nat.le_of_ble_eq_true rfl) ?_
    refine kw_step rfl rfl rfl rfl ?_
    refine kw_get rfl (hH_O (tT_0 (b := 4) rfl)) rfl ?_
    refine kw_step rfl rfl rfl rfl ?_
    obtain ⟨j9, i10, hf⟩ := gbI hf
    refine kw_iald rfl (hH_A (rfl : ktab 6 = some (0, 11))) i10.1 i10.2.1 i10.2.2 ?_
    cases hf
    exact kw_ret rfl rfl rfl hq
  · have hf := gift c2 hf
    refine kw_step rfl rfl rfl rfl ?_
    cases hf
    exact kw_ret rfl rfl rfl hq
def f_Integer_numberOfTrailingZeros_48 (x0 : Int) (x1 : Int) (s : kM) : Option (Int) :=
  some (wI (x1 + (kushr x0 1)))
set_option maxRecDepth 8000 in
theorem b_Integer_numberOfTrailingZeros_48 {sc : List Int} {Q : Option kV → kH → Prop} (x0 : Int) (x1 : Int) (s : kM) (t : Int) (hf : f_Integer_numberOfTrailingZeros_48 x0 x1 s = some t) (hq : (fun r => Q (some (kI r)) (hH s)) t) : kW sc 0 kc_Integer_numberOfTrailingZeros 1 48 [some (kI x0), some (kI x1)] [] (hH s) Q := by
  unfold f_Integer_numberOfTrailingZeros_48 at hf
  refine kw_step rfl rfl rfl rfl ?_
  refine kw_step rfl rfl rfl rfl ?_
  refine kw_step rfl rfl rfl rfl ?_
  refine kw_step rfl rfl rfl rfl ?_
  refine kw_step rfl rfl rfl rfl ?_
  cases hf
  exact kw_ret rfl rfl rfl hq
def f_Integer_numberOfTrailingZeros_40 (x0 : Int) (x1 : Int) (s : kM) : Option (Int) :=
  if x0 ≤ 4 then (f_Integer_numberOfTrailingZeros_48 x0 x1 s) else (f_Integer_numberOfTrailingZeros_48 (kushr x0 2) (wI (x1 + 2)) s)
set_option maxRecDepth 8000 in
theorem b_Integer_numberOfTrailingZeros_40 {sc : List Int} {Q : Option kV → kH → Prop} (x0 : Int) (x1 : Int) (s : kM) (t : Int) (hf : f_Integer_numberOfTrailingZeros_40 x0 x1 s = some t) (hq : (fun r => Q (some (kI r)) (hH s)) t) : kW sc 0 kc_Integer_numberOfTrailingZeros 1 40 [some (kI x0), some (kI x1)] [] (hH s) Q := by
  unfold f_Integer_numberOfTrailingZeros_40 at hf
  refine kw_step rfl rfl rfl rfl ?_
  refine kw_step rfl rfl rfl rfl ?_
  refine kw_icmp_le rfl rfl (fun c1 => ?_) (fun c1 => ?_)
  · have hf := gift c1 hf
    exact kW_le (L' := [some (kI x0), some (kI x1)]) ⟨Or.inr rfl, Or.inr rfl, trivial⟩ (b_Integer_numberOfTrailingZeros_48 x0 x1 s _ hf hq)
  · have hf := giff c1 hf
    refine kw_step (L' := [some (kI x0), some (kI (wI (x1 + 2)))]) rfl rfl rfl rfl ?_
    refine kw_step rfl rfl rfl rfl ?_
    refine kw_step rfl rfl rfl rfl ?_
    refine kw_step rfl rfl rfl rfl ?_
    refine kw_step (L' := [some (kI (kushr x0 2)), some (kI (wI (x1 + 2)))]) rfl rfl rfl rfl ?_
    exact kW_le (L' := [some (kI (kushr x0 2)), some (kI (wI (x1 + 2)))]) ⟨Or.inr rfl, Or.inr rfl, trivial⟩ (b_Integer_numberOfTrailingZeros_48 (kushr x0 2) (wI (x1 + 2)) s _ hf hq)
def f_Integer_numberOfTrailingZeros_32 (x0 : Int) (x1 : Int) (s : kM) : Option (Int) :=
  if x0 ≤ 16 then (f_Integer_numberOfTrailingZeros_40 x0 x1 s) else (f_Integer_numberOfTrailingZeros_40 (kushr x0 4) (wI (x1 + 4)) s)
set_option maxRecDepth 8000 in
theorem b_Integer_numberOfTrailingZeros_32 {sc : List Int} {Q : Option kV → kH → Prop} (x0 : Int) (x1 : Int) (s : kM) (t : Int) (hf : f_Integer_numberOfTrailingZeros_32 x0 x1 s = some t) (hq : (fun r => Q (some (kI r)) (hH s)) t) : kW sc 0 kc_Integer_numberOfTrailingZeros 1 32 [some (kI x0), some (kI x1)] [] (hH s) Q := by
  unfold f_Integer_numberOfTrailingZeros_32 at hf
  refine kw_step rfl rfl rfl rfl ?_
  refine kw_step rfl rfl rfl rfl ?_
  refine kw_icmp_le rfl rfl (fun c1 => ?_) (fun c1 => ?_)
  · have hf := gift c1 hf
    exact kW_le (L' := [some (kI x0), some (kI x1)]) ⟨Or.inr rfl, Or.inr rfl, trivial⟩ (b_Integer_numberOfTrailingZeros_40 x0 x1 s _ hf hq)
  · have hf := giff c1 hf
    refine kw_step (L' := [some (kI x0), some (kI (wI (x1 + 4)))]) rfl rfl rfl rfl ?_
    refine kw_step rfl rfl rfl rfl ?_
    refine kw_step rfl rfl rfl rfl ?_
    refine kw_step rfl rfl rfl rfl ?_
    refine kw_step (L' := [some (kI (kushr x0 4)), some (kI (wI (x1 + 4)))]) rfl rfl rfl rfl ?_
    exact kW_le (L' := [some (kI (kushr x0 4)), some (kI (wI (x1 + 4)))]) ⟨Or.inr rfl, Or.inr rfl, trivial⟩ (b_Integer_numberOfTrailingZeros_40 (kushr x0 4) (wI (x1 + 4)) s _ hf hq)
def f_Integer_numberOfTrailingZeros_24 (x0 : Int) (x1 : Int) (s : kM) : Option (Int) :=
  if x0 ≤ 256 then (f_Integer_numberOfTrailingZeros_32 x0 x1 s) else (f_Integer_numberOfTrailingZeros_32 (kushr x0 8) (wI (x1 + 8)) s)
set_option maxRecDepth 8000 in
theorem b_Integer_numberOfTrailingZeros_24 {sc : List Int} {Q : Option kV → kH → Prop} (x0 : Int) (x1 : Int) (s : kM) (t : Int) (hf : f_Integer_numberOfTrailingZeros_24 x0 x1 s = some t) (hq : (fun r => Q (some (kI r)) (hH s)) t) : kW sc 0 kc_Integer_numberOfTrailingZeros 1 24 [some (kI x0), some (kI x1)] [] (hH s) Q := by
  unfold f_Integer_numberOfTrailingZeros_24 at hf
  refine kw_step rfl rfl rfl rfl ?_
  refine kw_step rfl rfl rfl rfl ?_
  refine kw_icmp_le rfl rfl (fun c1 => ?_) (fun c1 => ?_)
  · have hf := gift c1 hf
    exact kW_le (L' := [some (kI x0), some (kI x1)]) ⟨Or.inr rfl, Or.inr rfl, trivial⟩ (b_Integer_numberOfTrailingZeros_32 x0 x1 s _ hf hq)
  · have hf := giff c1 hf
    refine kw_step (L' := [some (kI x0), some (kI (wI (x1 + 8)))]) rfl rfl rfl rfl ?_
    refine kw_step rfl rfl rfl rfl ?_
    refine kw_step rfl rfl rfl rfl ?_
    refine kw_step rfl rfl rfl rfl ?_
    refine kw_step (L' := [some (kI (kushr x0 8)), some (kI (wI (x1 + 8)))]) rfl rfl rfl rfl ?_
    exact kW_le (L' := [some (kI (kushr x0 8)), some (kI (wI (x1 + 8)))]) ⟨Or.inr rfl, Or.inr rfl, trivial⟩ (b_Integer_numberOfTrailingZeros_32 (kushr x0 8) (wI (x1 + 8)) s _ hf hq)
def f_Integer_numberOfTrailingZeros (x0 : Int) (s : kM) : Option (Int) :=
  if 0 < (kand (kxor x0 (-1)) (wI (x0 - 1))) then (if (kand (kxor x0 (-1)) (wI (x0 - 1))) ≤ 65536 then (f_Integer_numberOfTrailingZeros_24 (kand (kxor x0 (-1)) (wI (x0 - 1))) 1 s) else (f_Integer_numberOfTrailingZeros_24 (kushr (kand (kxor x0 (-1)) (wI (x0 - 1))) 16) (wI (1 + 16)) s)) else (some (kand (kand (kxor x0 (-1)) (wI (x0 - 1))) 32))
set_option maxRecDepth 8000 in
theorem c_Integer_numberOfTrailingZeros {sc : List Int} (x0 : Int) (s : kM) (t : Int) (hf : f_Integer_numberOfTrailingZeros x0 s = some t) : kR sc 0 km_Integer_numberOfTrailingZeros [kI x0] (hH s) (some (kI t)) (hH s) := by
  unfold f_Integer_numberOfTrailingZeros at hf
  refine kR.start rfl ?_
  show kW sc 0 kc_Integer_numberOfTrailingZeros 1 0 [some (kI x0), none] [] (hH s) _
  have hq : (fun (r : Option kV) (g : kH) => r = some (kI t) ∧ g = hH s) (some (kI t)) (hH s) := ⟨rfl, rfl⟩
  refine kw_step rfl rfl rfl rfl ?_
  refine kw_step rfl rfl rfl rfl ?_
  refine kw_step rfl rfl rfl rfl ?_
  refine kw_step rfl rfl rfl rfl ?_
  refine kw_step rfl rfl rfl rfl ?_
  refine kw_step rfl rfl rfl rfl ?_
  refine kw_step rfl rfl rfl rfl ?_
  refine kw_step (L' := [some (kI (kand (kxor x0 (-1)) (wI (x0 - 1)))), none]) rfl rfl rfl rfl ?_
  refine kw_step rfl rfl rfl rfl ?_
  refine kw_if_gt rfl rfl (fun c1 => ?_) (fun c1 => ?_)
  · have hf := gift c1 hf
    refine kw_step rfl rfl rfl rfl ?_
    refine kw_step (L' := [some (kI (kand (kxor x0 (-1)) (wI (x0 - 1)))), some (kI 1)]) rfl rfl rfl rfl ?_
    refine kw_step rfl rfl rfl rfl ?_
    refine kw_step rfl rfl rfl rfl ?_
    refine kw_icmp_le rfl rfl (fun c2 => ?_) (fun c2 => ?_)
    · have hf := gift c2 hf
      exact kW_le (L' := [some (kI (kand (kxor x0 (-1)) (wI (x0 - 1)))), some (kI 1)]) ⟨Or.inr rfl, Or.inr rfl, trivial⟩ (b_Integer_numberOfTrailingZeros_24 (kand (kxor x0 (-1)) (wI (x0 - 1))) 1 s _ hf hq)
    · have hf := giff c2 hf
      refine kw_step (L' := [some (kI (kand (kxor x0 (-1)) (wI (x0 - 1)))), some (kI (wI (1 + 16)))]) rfl rfl rfl rfl ?_
      refine kw_step rfl rfl rfl rfl ?_
      refine kw_step rfl rfl rfl rfl ?_
      refine kw_step rfl rfl rfl rfl ?_
      refine kw_step (L' := [some (kI (kushr (kand (kxor x0 (-1)) (wI (x0 - 1))) 16)), some (kI (wI (1 + 16)))]) rfl rfl rfl rfl ?_
      exact kW_le (L' := [some (kI (kushr (kand (kxor x0 (-1)) (wI (x0 - 1))) 16)), some (kI (wI (1 + 16)))]) ⟨Or.inr rfl, Or.inr rfl, trivial⟩ (b_Integer_numberOfTrailingZeros_24 (kushr (kand (kxor x0 (-1)) (wI (x0 - 1))) 16) (wI (1 + 16)) s _ hf hq)
  · have hf := giff c1 hf
    refine kw_step rfl rfl rfl rfl ?_
    refine kw_step rfl rfl rfl rfl ?_
    refine kw_step rfl rfl rfl rfl ?_
    cases hf
    exact kw_ret rfl rfl rfl hq
def f_Town_leastFree (b0 : Nat) (s : kM) : Option (Int) :=
  (f_Integer_numberOfTrailingZeros (kxor (s b0 3) (-1)) s).bind fun q1 => some q1
set_option maxRecDepth 8000 in
theorem c_Town_leastFree {sc : List Int} (b0 : Nat) (hb0 : tT b0 = true) (s : kM) (t : Int) (hf : f_Town_leastFree b0 s = some t) : kR sc 1 km_Town_leastFree [kr b0] (hH s) (some (kI t)) (hH s) := by
  unfold f_Town_leastFree at hf
  refine kR.start rfl ?_
  show kW sc 1 kc_Town_leastFree 1 0 [some (kr b0)] [] (hH s) _
  have hq : (fun (r : Option kV) (g : kH) => r = some (kI t) ∧ g = hH s) (some (kI t)) (hH s) := ⟨rfl, rfl⟩
  refine kw_step rfl rfl rfl rfl ?_
  refine kw_get rfl (hH_O (tT_0 hb0)) rfl ?_
  refine kw_step rfl rfl rfl rfl ?_
  refine kw_step rfl rfl rfl rfl ?_
  obtain ⟨q1, hq1, hf⟩ := gbind hf
  refine kw_callS (vs := [kI (kxor (s b0 3) (-1))]) rfl rfl rfl ⟨rfl, Nat.le_of_ble_eq_true rfl, Nat.le_of_ble_eq_true rfl, rfl⟩ (c_Integer_numberOfTrailingZeros (kxor (s b0 3) (-1)) s _ hq1) (Nat.le_of_ble_eq_true rfl) ?_
  cases hf
  exact kw_ret rfl rfl rfl hq
def f_Town_insert_53 (b0 : Nat) (y1 : Int) (y2 : Int) (s : kM) : Option (kM) :=
  gLet (gU s b0 1 (wI (y1 + y2))) fun s1 => gLet (gU s1 b0 2 (wI ((s1 b0 2) + 2))) fun s4 => some s4
set_option maxRecDepth 8000 in
theorem b_Town_insert_53 {sc : List Int} {Q : Option kV → kH → Prop} (b0 : Nat) (hb0 : tT b0 = true) (y1 : Int) (y2 : Int) (s : kM) (t : kM) (hf : f_Town_insert_53 b0 y1 y2 s = some t) (hq : (fun r => Q none (hH r)) t) : kW sc 1 kc_Town_insert 0 53 [some (kr b0), none, none, none] [kI y2, kI y1, kr b0] (hH s) Q := by
  unfold f_Town_insert_53 at hf
  refine kw_step rfl rfl rfl rfl ?_
  obtain ⟨s1, ee2, hf⟩ := gbL hf
  refine kw_putH rfl (tT_0 hb0) rfl rfl rfl (Nat.le_of_ble_eq_true rfl) rfl ee2 ?_
  refine kw_step rfl rfl rfl rfl ?_
  refine kw_step rfl rfl rfl rfl ?_
  refine kw_get rfl (hH_O (tT_0 hb0)) rfl ?_
  refine kw_step rfl rfl rfl rfl ?_
  refine kw_step rfl rfl rfl rfl ?_
  obtain ⟨s4, ee5, hf⟩ := gbL hf
  refine kw_putH rfl (tT_0 hb0) rfl rfl rfl (Nat.le_of_ble_eq_true rfl) rfl ee5 ?_
  cases hf
  exact kw_ret rfl rfl rfl hq
def f_Town_insert_12b (b0 : Nat) (x1 : Int) (x2 : Int) (x3 : Int) (s : kM) : Option ((Int × kM) ⊕ (kM)) :=
  if x3 ≤ x1 then ((gI 22 (wI (x1 + 1))).bind fun j2 => gLet (gU s (b0 + 1) j2 x2) fun s4 => (gI 22 (wI (x1 + 2))).bind fun j7 => gLet (gU s4 (b0 + 1) j7 (kxor x2 1)) fun s9 => (f_Town_roadOf b0 x1 s9).bind fun q12 => if q12 = 0 then ((f_Town_insert_53 b0 (s9 b0 1) 2 s9).map Sum.inr) else ((f_Town_insert_53 b0 (s9 b0 1) 0 s9).map Sum.inr)) else ((gI 22 x3).bind fun j18 => (gI 22 (wI (x3 + 2))).bind fun j20 => gLet (gU s (b0 + 1) j20 (s (b0 + 1) j18)) fun s22 => some (.inl ((wI (x3 + (-1))), s22)))
set_option maxRecDepth 8000 in
theorem b_Town_insert_12b {sc : List Int} {Q : Option kV → kH → Prop} (b0 : Nat) (hb0 : tT b0 = true) (x1 : Int) (x2 : Int) (x3 : Int) (s : kM) (t : (Int × kM) ⊕ (kM)) (hf : f_Town_insert_12b b0 x1 x2 x3 s = some t) (hq : (gE (fun x => kW sc 1 kc_Town_insert 0 12 [some (kr b0), some (kI x1), some (kI x2), some (kI x.1)] [] (hH x.2) Q) (fun r => Q none (hH r))) t) : kW sc 1 kc_Town_insert 0 12 [some (kr b0), some (kI x1), some (kI x2), some (kI x3)] [] (hH s) Q := by
  unfold f_Town_insert_12b at hf
  refine kw_step rfl rfl rfl rfl ?_
  refine kw_step rfl rfl rfl rfl ?_
  refine kw_icmp_le rfl rfl (fun c1 => ?_) (fun c1 => ?_)
  · have hf := gift c1 hf
    refine kw_step rfl rfl rfl rfl ?_
    refine kw_get rfl (hH_O (tT_0 hb0)) rfl ?_
    refine kw_step rfl rfl rfl rfl ?_
    refine kw_step rfl rfl rfl rfl ?_
    refine kw_step rfl rfl rfl rfl ?_
    refine kw_step rfl rfl rfl rfl ?_
    obtain ⟨j2, i3, hf⟩ := gbI hf
    obtain ⟨s4, ee5, hf⟩ := gbL hf
    refine kw_iastH rfl (tT_1 hb0) i3.1 i3.2.1 i3.2.2 ee5 ?_
    refine kw_step rfl rfl rfl rfl ?_
    refine kw_get rfl (hH_O (tT_0 hb0)) rfl ?_
    refine kw_step rfl rfl rfl rfl ?_
    refine kw_step rfl rfl rfl rfl ?_
    refine kw_step rfl rfl rfl rfl ?_
    refine kw_step rfl rfl rfl rfl ?_
    refine kw_step rfl rfl rfl rfl ?_
    refine kw_step rfl rfl rfl rfl ?_
    obtain ⟨j7, i8, hf⟩ := gbI hf
    obtain ⟨s9, ee10, hf⟩ := gbL hf
    refine kw_iastH rfl (tT_1 hb0) i8.1 i8.2.1 i8.2.2 ee10 ?_
    refine kw_step rfl rfl rfl rfl ?_
    refine kw_step rfl rfl rfl rfl ?_
    refine kw_get rfl (hH_O (tT_0 hb0)) rfl ?_
    refine kw_step rfl rfl rfl rfl ?_
    refine kw_step rfl rfl rfl rfl ?_
    obtain ⟨q12, hq12, hf⟩ := gbind hf
    refine kw_callV (vs := [kI x1]) rfl rfl rfl ⟨rfl, Nat.le_of_ble_eq_true rfl, Nat.le_of_ble_eq_true rfl, by decide⟩ (hH_O (tT_0 hb0)) (c_Town_roadOf b0 hb0 x1 s9 _ hq12) (Nat.le_of_ble_eq_true rfl) ?_
    refine kw_if_ne rfl rfl (fun c13 => ?_) (fun c13 => ?_)
    · have hf := giff c13 hf
      refine kw_step rfl rfl rfl rfl ?_
      obtain ⟨t14, hg15, rfl⟩ := gmap hf
      exact kW_le (L' := [some (kr b0), none, none, none]) ⟨Or.inr rfl, Or.inl rfl, Or.inl rfl, Or.inl rfl, trivial⟩ (b_Town_insert_53 b0 hb0 (s9 b0 1) 0 s9 _ hg15 hq)
    · have hf := gift c13 hf
      refine kw_step rfl rfl rfl rfl ?_
      refine kw_goto rfl rfl ?_
      obtain ⟨t16, hg17, rfl⟩ := gmap hf
      exact kW_le (L' := [some (kr b0), none, none, none]) ⟨Or.inr rfl, Or.inl rfl, Or.inl rfl, Or.inl rfl, trivial⟩ (b_Town_insert_53 b0 hb0 (s9 b0 1) 2 s9 _ hg17 hq)
  · have hf := giff c1 hf
    refine kw_step rfl rfl rfl rfl ?_
    refine kw_get rfl (hH_O (tT_0 hb0)) rfl ?_
    refine kw_step rfl rfl rfl rfl ?_
    refine kw_step rfl rfl rfl rfl ?_
    refine kw_step rfl rfl rfl rfl ?_
    refine kw_step rfl rfl rfl rfl ?_
    refine kw_get rfl (hH_O (tT_0 hb0)) rfl ?_
    refine kw_step rfl rfl rfl rfl ?_
    obtain ⟨j18, i19, hf⟩ := gbI hf
    refine kw_iald rfl (hH_A (tT_1 hb0)) i19.1 i19.2.1 i19.2.2 ?_
    obtain ⟨j20, i21, hf⟩ := gbI hf
    obtain ⟨s22, ee23, hf⟩ := gbL hf
    refine kw_iastH rfl (tT_1 hb0) i21.1 i21.2.1 i21.2.2 ee23 ?_
    refine kw_step (L' := [some (kr b0), some (kI x1), some (kI x2), some (kI (wI (x3 + (-1))))]) rfl rfl rfl rfl ?_
    refine kw_goto rfl rfl ?_
    cases hf
    exact kW_le (L' := [some (kr b0), some (kI x1), some (kI x2), some (kI (wI (x3 + (-1))))]) ⟨Or.inr rfl, Or.inr rfl, Or.inr rfl, Or.inr rfl, trivial⟩ hq
def f_Town_insert_12 (b0 : Nat) (x1 : Int) (x2 : Int) (x3 : Int) (s : kM) : Option (kM) :=
  gL (fun (x : Int × kM) => f_Town_insert_12b b0 x1 x2 x.1 x.2) gF (x3, s)
theorem b_Town_insert_12 {sc : List Int} {Q : Option kV → kH → Prop} (b0 : Nat) (hb0 : tT b0 = true) (x1 : Int) (x2 : Int) (x3 : Int) (s : kM) (t : kM) (hf : f_Town_insert_12 b0 x1 x2 x3 s = some t) (hq : (fun r => Q none (hH r)) t) : kW sc 1 kc_Town_insert 0 12 [some (kr b0), some (kI x1), some (kI x2), some (kI x3)] [] (hH s) Q :=
  gL_ind (P := fun (x : Int × kM) => kW sc 1 kc_Town_insert 0 12 [some (kr b0), some (kI x1), some (kI x2), some (kI x.1)] [] (hH x.2) Q) (q := (fun r => Q none (hH r))) (fun x t hf hq => b_Town_insert_12b b0 hb0 x1 x2 x.1 x.2 t hf hq) gF (x3, s) t hf hq
def f_Town_insert (b0 : Nat) (x1 : Int) (x2 : Int) (s : kM) : Option (kM) :=
  if (wI ((s b0 2) + 2)) ≤ 22 then (f_Town_insert_12 b0 x1 x2 (wI ((s b0 2) - 1)) s) else (some s)
set_option maxRecDepth 8000 in
theorem c_Town_insert {sc : List Int} (b0 : Nat) (hb0 : tT b0 = true) (x1 : Int) (x2 : Int) (s : kM) (t : kM) (hf : f_Town_insert b0 x1 x2 s = some t) : kR sc 1 km_Town_insert [kr b0, kI x1, kI x2] (hH s) none (hH t) := by
  unfold f_Town_insert at hf
  refine kR.start rfl ?_
  show kW sc 1 kc_Town_insert 0 0 [some (kr b0), some (kI x1), some (kI x2), none] [] (hH s) _
  have hq : (fun (r : Option kV) (g : kH) => r = none ∧ g = hH t) none (hH t) := ⟨rfl, rfl⟩
  refine kw_step rfl rfl rfl rfl ?_
  refine kw_get rfl (hH_O (tT_0 hb0)) rfl ?_
  refine kw_step rfl rfl rfl rfl ?_
  refine kw_step rfl rfl rfl rfl ?_
  refine kw_step rfl rfl rfl rfl ?_
  refine kw_icmp_le rfl rfl (fun c1 => ?_) (fun c1 => ?_)
  · have hf := gift c1 hf
    refine kw_step rfl rfl rfl rfl ?_
    refine kw_get rfl (hH_O (tT_0 hb0)) rfl ?_
    refine kw_step rfl rfl rfl rfl ?_
    refine kw_step rfl rfl rfl rfl ?_
    refine kw_step (L' := [some (kr b0), some (kI x1), some (kI x2), some (kI (wI ((s b0 2) - 1)))]) rfl rfl rfl rfl ?_
    exact kW_le (L' := [some (kr b0), some (kI x1), some (kI x2), some (kI (wI ((s b0 2) - 1)))]) ⟨Or.inr rfl, Or.inr rfl, Or.inr rfl, Or.inr rfl, trivial⟩ (b_Town_insert_12 b0 hb0 x1 x2 (wI ((s b0 2) - 1)) s _ hf hq)
  · have hf := giff c1 hf
    cases hf
    exact kw_ret rfl rfl rfl hq
def f_KT_twist_35 (x5 : Int) (y1 : Int) (y2 : Int) (y3 : Int) (s : kM) : Option (Int × kM) :=
  (f_Town_insert 4 y1 (wI (y2 + y3)) s).bind fun q1 => (f_Town_settle 4 q1).bind fun q3 => (f_KT_forget q3).bind fun q5 => some (x5, q5)
set_option maxRecDepth 8000 in
theorem b_KT_twist_35 {sc : List Int} {Q : Option kV → kH → Prop} (x5 : Int) (y1 : Int) (y2 : Int) (y3 : Int) (s : kM) (t : Int × kM) (hf : f_KT_twist_35 x5 y1 y2 y3 s = some t) (hq : (fun r => Q (some (kI r.1)) (hH r.2)) t) : kW sc 2 kc_KT_twist 1 35 [some (kr 0), none, none, none, some (kr 4), some (kI x5)] [kI y3, kI y2, kI y1, kr 4] (hH s) Q := by
  unfold f_KT_twist_35 at hf
  refine kw_step rfl rfl rfl rfl ?_
  obtain ⟨q1, hq1, hf⟩ := gbind hf
  refine kw_callV (vs := [kI y1, kI (wI (y2 + y3))]) rfl rfl rfl ⟨rfl, Nat.le_of_ble_eq_true rfl, Nat.le_of_ble_eq_true rfl, by decide⟩ (hH_O (tT_0 (b := 4) rfl)) (c_Town_insert 4 (rfl : tT 4 = true) y1 (wI (y2 + y3)) s _ hq1) (Nat.le_of_ble_eq_true rfl) ?_
  refine kw_step rfl rfl rfl rfl ?_
  obtain ⟨q3, hq3, hf⟩ := gbind hf
  refine kw_callV (vs := []) rfl rfl rfl ⟨rfl, Nat.le_of_ble_eq_true rfl, Nat.le_of_ble_eq_true rfl, by decide⟩ (hH_O (tT_0 (b := 4) rfl)) (c_Town_settle 4 (rfl : tT 4 = true) q1 _ hq3) (Nat.le_of_ble_eq_true rfl) ?_
  refine kw_step rfl rfl rfl rfl ?_
  obtain ⟨q5, hq5, hf⟩ := gbind hf
  refine kw_callV (vs := []) rfl rfl rfl ⟨rfl, Nat.le_of_ble_eq_true rfl, Nat.le_of_ble_eq_true rfl, by decide⟩ (hH_O (rfl : kotab 0 = some kKo)) (c_KT_forget q3 _ hq5) (Nat.le_of_ble_eq_true rfl) ?_
  refine kw_step rfl rfl rfl rfl ?_
  cases hf
  exact kw_ret rfl rfl rfl hq
def f_KT_twist_24 (x1 : Int) (x2 : Int) (x5 : Int) (y1 : Int) (y2 : Int) (s : kM) : Option (Int × kM) :=
  (gI 11 y1).bind fun j1 => gLet (gU s 6 j1 y2) fun s3 => if x2 = 0 then (f_KT_twist_35 x5 x1 (wI (2 * x5)) 0 s3) else (f_KT_twist_35 x5 x1 (wI (2 * x5)) 1 s3)
set_option maxRecDepth 8000 in
theorem b_KT_twist_24 {sc : List Int} {Q : Option kV → kH → Prop} (x1 : Int) (x2 : Int) (x5 : Int) (y1 : Int) (y2 : Int) (s : kM) (t : Int × kM) (hf : f_KT_twist_24 x1 x2 x5 y1 y2 s = some t) (hq : (fun r => Q (some (kI r.1)) (hH r.2)) t) : kW sc 2 kc_KT_twist 1 24 [some (kr 0), some (kI x1), some (kI x2), none, some (kr 4), some (kI x5)] [kI y2, kI y1, kr 6] (hH s) Q := by
  unfold f_KT_twist_24 at hf
  obtain ⟨j1, i2, hf⟩ := gbI hf
  obtain ⟨s3, ee4, hf⟩ := gbL hf
  refine kw_iastH rfl (rfl : ktab 6 = some (0, 11)) i2.1 i2.2.1 i2.2.2 ee4 ?_
  refine kw_step rfl rfl rfl rfl ?_
  refine kw_step rfl rfl rfl rfl ?_
  refine kw_step rfl rfl rfl rfl ?_
  refine kw_step rfl rfl rfl rfl ?_
  refine kw_step rfl rfl rfl rfl ?_
  refine kw_step rfl rfl rfl rfl ?_
  refine kw_if_eq rfl rfl (fun c6 => ?_) (fun c6 => ?_)
  · have hf := gift c6 hf
    refine kw_step rfl rfl rfl rfl ?_
    exact kW_le (L' := [some (kr 0), none, none, none, some (kr 4), some (kI x5)]) ⟨Or.inr rfl, Or.inl rfl, Or.inl rfl, Or.inl rfl, Or.inr rfl, Or.inr rfl, trivial⟩ (b_KT_twist_35 x5 x1 (wI (2 * x5)) 0 s3 _ hf hq)
  · have hf := giff c6 hf
    refine kw_step rfl rfl rfl rfl ?_
    refine kw_goto rfl rfl ?_
    exact kW_le (L' := [some (kr 0), none, none, none, some (kr 4), some (kI x5)]) ⟨Or.inr rfl, Or.inl rfl, Or.inl rfl, Or.inl rfl, Or.inr rfl, Or.inr rfl, trivial⟩ (b_KT_twist_35 x5 x1 (wI (2 * x5)) 1 s3 _ hf hq)
def f_KT_twist (x1 : Int) (x2 : Int) (x3 : Int) (s : kM) : Option (Int × kM) :=
  (f_Town_leastFree 4 s).bind fun q1 => (f_Town_hasPlace 4 x1 s).bind fun q2 => if q2 = 0 then (some ((-1), s)) else (if q1 < 11 then (if x3 = 0 then (f_KT_twist_24 x1 x2 q1 q1 0 s) else (f_KT_twist_24 x1 x2 q1 q1 1 s)) else (some ((-1), s)))
set_option maxRecDepth 8000 in
theorem c_KT_twist {sc : List Int} (x1 : Int) (x2 : Int) (x3 : Int) (s : kM) (t : Int × kM) (hf : f_KT_twist x1 x2 x3 s = some t) : kR sc 2 km_KT_twist [kr 0, kI x1, kI x2, kI x3] (hH s) (some (kI t.1)) (hH t.2) := by
  unfold f_KT_twist at hf
  refine kR.start rfl ?_
  show kW sc 2 kc_KT_twist 1 0 [some (kr 0), some (kI x1), some (kI x2), some (kI x3), none, none] [] (hH s) _
  have hq : (fun (r : Option kV) (g : kH) => r = some (kI t.1) ∧ g = hH t.2) (some (kI t.1)) (hH t.2) := ⟨rfl, rfl⟩
  refine kw_step rfl rfl rfl rfl ?_
  refine kw_get rfl (hH_O (rfl : kotab 0 = some kKo)) rfl ?_
  refine kw_get rfl (hH_O (tS_0 (b := 3) rfl)) rfl ?_
  refine kw_step (L' := [some (kr 0), some (kI x1), some (kI x2), some (kI x3), some (kr 4), none]) rfl rfl rfl rfl ?_
  refine kw_step rfl rfl rfl rfl ?_
  obtain ⟨q1, hq1, hf⟩ := gbind hf
  refine kw_callV (vs := []) rfl rfl rfl ⟨rfl, Nat.le_of_ble_eq_true rfl, Nat.le_of_ble_eq_true rfl, by decide⟩ (hH_O (tT_0 (b := 4) rfl)) (c_Town_leastFree 4 (rfl : tT 4 = true) s _ hq1) (Nat.le_of_ble_eq_true rfl) ?_
  refine kw_step (L' := [some (kr 0), some (kI x1), some (kI x2), some (kI x3), some (kr 4), some (kI q1)]) rfl rfl rfl rfl ?_
  refine kw_step rfl rfl rfl rfl ?_
  refine kw_step rfl rfl rfl rfl ?_
  obtain ⟨q2, hq2, hf⟩ := gbind hf
  refine kw_callV (vs := [kI x1]) rfl rfl rfl ⟨rfl, Nat.le_of_ble_eq_true rfl, Nat.le_of_ble_eq_true rfl, by decide⟩ (hH_O (tT_0 (b := 4) rfl)) (c_Town_hasPlace 4 (rfl : tT 4 = true) x1 s _ hq2) (Nat.le_of_ble_eq_true rfl) ?_
  refine kw_if_eq rfl rfl (fun c3 => ?_) (fun c3 => ?_)
  · have hf := gift c3 hf
    refine kw_step rfl rfl rfl rfl ?_
    cases hf
    exact kw_ret rfl rfl rfl hq
  · have hf := giff c3 hf
    refine kw_step rfl rfl rfl rfl ?_
    refine kw_step rfl rfl rfl rfl ?_
    refine kw_icmp_lt rfl rfl (fun c4 => ?_) (fun c4 => ?_)
    · have hf := gift c4 hf
      refine kw_step rfl rfl rfl rfl ?_
      refine kw_get rfl (hH_O (tT_0 (b := 4) rfl)) rfl ?_
      refine kw_step rfl rfl rfl rfl ?_
      refine kw_step rfl rfl rfl rfl ?_
      refine kw_if_eq rfl rfl (fun c5 => ?_) (fun c5 => ?_)
      · have hf := gift c5 hf
        refine kw_step rfl rfl rfl rfl ?_
        exact kW_le (L' := [some (kr 0), some (kI x1), some (kI x2), none, some (kr 4), some (kI q1)]) ⟨Or.inr rfl, Or.inr rfl, Or.inr rfl, Or.inl rfl, Or.inr rfl, Or.inr rfl, trivial⟩ (b_KT_twist_24 x1 x2 q1 q1 0 s _ hf hq)
      · have hf := giff c5 hf
        refine kw_step rfl rfl rfl rfl ?_
        refine kw_goto rfl rfl ?_
        exact kW_le (L' := [some (kr 0), some (kI x1), some (kI x2), none, some (kr 4), some (kI q1)]) ⟨Or.inr rfl, Or.inr rfl, Or.inr rfl, Or.inl rfl, Or.inr rfl, Or.inr rfl, trivial⟩ (b_KT_twist_24 x1 x2 q1 q1 1 s _ hf hq)
    · have hf := giff c4 hf
      refine kw_step rfl rfl rfl rfl ?_
      cases hf
      exact kw_ret rfl rfl rfl hq
def f_KT_mirror_21 (x2 : Int) (s : kM) : Option ((Int × kM) ⊕ (Int × kM)) :=
  some (.inl ((wI (x2 + 1)), s))
set_option maxRecDepth 8000 in
theorem b_KT_mirror_21 {sc : List Int} {Q : Option kV → kH → Prop} (x2 : Int) (s : kM) (t : (Int × kM) ⊕ (Int × kM)) (hf : f_KT_mirror_21 x2 s = some t) (hq : (gE (fun x => kW sc 2 kc_KT_mirror 1 11 [some (kr 0), some (kr 4), some (kI x.1)] [] (hH x.2) Q) (fun r => Q (some (kI r.1)) (hH r.2))) t) : kW sc 2 kc_KT_mirror 1 21 [some (kr 0), some (kr 4), some (kI x2)] [] (hH s) Q := by
  unfold f_KT_mirror_21 at hf
  refine kw_step (L' := [some (kr 0), some (kr 4), some (kI (wI (x2 + 1)))]) rfl rfl rfl rfl ?_
  refine kw_goto rfl rfl ?_
  cases hf
  exact kW_le (L' := [some (kr 0), some (kr 4), some (kI (wI (x2 + 1)))]) ⟨Or.inr rfl, Or.inr rfl, Or.inr rfl, trivial⟩ hq
def f_KT_mirror_11b (x2 : Int) (s : kM) : Option ((Int × kM) ⊕ (Int × kM)) :=
  if 11 ≤ x2 then ((f_Town_settle 4 s).bind fun q2 => (f_KT_forget q2).bind fun q4 => (f_Town_bridges 4 q4).bind fun q6 => some (.inr (q6, q4))) else ((f_Town_has 4 x2 s).bind fun q7 => if q7 = 0 then (f_KT_mirror_21 x2 s) else ((f_Town_flip 4 x2 s).bind fun q9 => f_KT_mirror_21 x2 q9))
set_option maxRecDepth 8000 in
theorem b_KT_mirror_11b {sc : List Int} {Q : Option kV → kH → Prop} (x2 : Int) (s : kM) (t : (Int × kM) ⊕ (Int × kM)) (hf : f_KT_mirror_11b x2 s = some t) (hq : (gE (fun x => kW sc 2 kc_KT_mirror 1 11 [some (kr 0), some (kr 4), some (kI x.1)] [] (hH x.2) Q) (fun r => Q (some (kI r.1)) (hH r.2))) t) : kW sc 2 kc_KT_mirror 1 11 [some (kr 0), some (kr 4), some (kI x2)] [] (hH s) Q := by
  unfold f_KT_mirror_11b at hf
  refine kw_step rfl rfl rfl rfl ?_
  refine kw_step rfl rfl rfl rfl ?_
  refine kw_icmp_ge rfl rfl (fun c1 => ?_) (fun c1 => ?_)
  · have hf := gift c1 hf
    refine kw_step rfl rfl rfl rfl ?_
    obtain ⟨q2, hq2, hf⟩ := gbind hf
    refine kw_callV (vs := []) rfl rfl rfl ⟨rfl, Nat.le_of_ble_eq_true rfl, Nat.le_of_ble_eq_true rfl, by decide⟩ (hH_O (tT_0 (b := 4) rfl)) (c_Town_settle 4 (rfl : tT 4 = true) s _ hq2) (Nat.le_of_ble_eq_true rfl) ?_
    refine kw_step rfl rfl rfl rfl ?_
    obtain ⟨q4, hq4, hf⟩ := gbind hf
    refine kw_callV (vs := []) rfl rfl rfl ⟨rfl, Nat.le_of_ble_eq_true rfl, Nat.le_of_ble_eq_true rfl, by decide⟩ (hH_O (rfl : kotab 0 = some kKo)) (c_KT_forget q2 _ hq4) (Nat.le_of_ble_eq_true rfl) ?_
    refine kw_step rfl rfl rfl rfl ?_
    obtain ⟨q6, hq6, hf⟩ := gbind hf
    refine kw_callV (vs := []) rfl rfl rfl ⟨rfl, Nat.le_of_ble_eq_true rfl, Nat.le_of_ble_eq_true rfl, by decide⟩ (hH_O (tT_0 (b := 4) rfl)) (c_Town_bridges 4 (rfl : tT 4 = true) q4 _ hq6) (Nat.le_of_ble_eq_true rfl) ?_
    cases hf
    exact kw_ret rfl rfl rfl hq
  · have hf := giff c1 hf
    refine kw_step rfl rfl rfl rfl ?_
    refine kw_step rfl rfl rfl rfl ?_
    obtain ⟨q7, hq7, hf⟩ := gbind hf
    refine kw_callV (vs := [kI x2]) rfl rfl rfl ⟨rfl, Nat.le_of_ble_eq_true rfl, Nat.le_of_ble_eq_true rfl, by decide⟩ (hH_O (tT_0 (b := 4) rfl)) (c_Town_has 4 (rfl : tT 4 = true) x2 s _ hq7) (Nat.le_of_ble_eq_true rfl) ?_
    refine kw_if_eq rfl rfl (fun c8 => ?_) (fun c8 => ?_)
    · have hf := gift c8 hf
      exact kW_le (L' := [some (kr 0), some (kr 4), some (kI x2)]) ⟨Or.inr rfl, Or.inr rfl, Or.inr rfl, trivial⟩ (b_KT_mirror_21 x2 s _ hf hq)
    · have hf := giff c8 hf
      refine kw_step rfl rfl rfl rfl ?_
      refine kw_step rfl rfl rfl rfl ?_
      obtain ⟨q9, hq9, hf⟩ := gbind hf
      refine kw_callV (vs := [kI x2]) rfl rfl rfl ⟨rfl, Nat.le_of_ble_eq_true rfl, Nat.le_of_ble_eq_true rfl, by decide⟩ (hH_O (tT_0 (b := 4) rfl)) (c_Town_flip 4 (rfl : tT 4 = true) x2 s _ hq9) (Nat.le_of_ble_eq_true rfl) ?_
      exact kW_le (L' := [some (kr 0), some (kr 4), some (kI x2)]) ⟨Or.inr rfl, Or.inr rfl, Or.inr rfl, trivial⟩ (b_KT_mirror_21 x2 q9 _ hf hq)
def f_KT_mirror_11 (x2 : Int) (s : kM) : Option (Int × kM) :=
  gL (fun (x : Int × kM) => f_KT_mirror_11b x.1 x.2) gF (x2, s)
theorem b_KT_mirror_11 {sc : List Int} {Q : Option kV → kH → Prop} (x2 : Int) (s : kM) (t : Int × kM) (hf : f_KT_mirror_11 x2 s = some t) (hq : (fun r => Q (some (kI r.1)) (hH r.2)) t) : kW sc 2 kc_KT_mirror 1 11 [some (kr 0), some (kr 4), some (kI x2)] [] (hH s) Q :=
  gL_ind (P := fun (x : Int × kM) => kW sc 2 kc_KT_mirror 1 11 [some (kr 0), some (kr 4), some (kI x.1)] [] (hH x.2) Q) (q := (fun r => Q (some (kI r.1)) (hH r.2))) (fun x t hf hq => b_KT_mirror_11b x.1 x.2 t hf hq) gF (x2, s) t hf hq
def f_KT_mirror (s : kM) : Option (Int × kM) :=
  if (s 4 0) = 0 then (some ((-1), s)) else (f_KT_mirror_11 0 s)
set_option maxRecDepth 8000 in
theorem c_KT_mirror {sc : List Int} (s : kM) (t : Int × kM) (hf : f_KT_mirror s = some t) : kR sc 2 km_KT_mirror [kr 0] (hH s) (some (kI t.1)) (hH t.2) := by
  unfold f_KT_mirror at hf
  refine kR.start rfl ?_
  show kW sc 2 kc_KT_mirror 1 0 [some (kr 0), none, none] [] (hH s) _
  have hq : (fun (r : Option kV) (g : kH) => r = some (kI t.1) ∧ g = hH t.2) (some (kI t.1)) (hH t.2) := ⟨rfl, rfl⟩
  refine kw_step rfl rfl rfl rfl ?_
  refine kw_get rfl (hH_O (rfl : kotab 0 = some kKo)) rfl ?_
  refine kw_get rfl (hH_O (tS_0 (b := 3) rfl)) rfl ?_
  refine kw_step (L' := [some (kr 0), some (kr 4), none]) rfl rfl rfl rfl ?_
  refine kw_step rfl rfl rfl rfl ?_
  refine kw_get rfl (hH_O (tT_0 (b := 4) rfl)) rfl ?_
  refine kw_if_ne rfl rfl (fun c1 => ?_) (fun c1 => ?_)
  · have hf := giff c1 hf
    refine kw_step rfl rfl rfl rfl ?_
    refine kw_step (L' := [some (kr 0), some (kr 4), some (kI 0)]) rfl rfl rfl rfl ?_
    exact kW_le (L' := [some (kr 0), some (kr 4), some (kI 0)]) ⟨Or.inr rfl, Or.inr rfl, Or.inr rfl, trivial⟩ (b_KT_mirror_11 0 s _ hf hq)
  · have hf := gift c1 hf
    refine kw_step rfl rfl rfl rfl ?_
    cases hf
    exact kw_ret rfl rfl rfl hq
def f_Town_reverse_64 (b0 : Nat) (x2 : Int) (x3 : Int) (s : kM) : Option ((Int × kM) ⊕ (kM)) :=
  some (.inl ((wI (x3 + 1)), s))
set_option maxRecDepth 8000 in
theorem b_Town_reverse_64 {sc : List Int} {Q : Option kV → kH → Prop} (b0 : Nat) (hb0 : tT b0 = true) (x2 : Int) (x3 : Int) (s : kM) (t : (Int × kM) ⊕ (kM)) (hf : f_Town_reverse_64 b0 x2 x3 s = some t) (hq : (gE (fun x => kW sc 2 kc_Town_reverse 0 44 [some (kr b0), none, some (kI x2), some (kI x.1), none, none] [] (hH x.2) Q) (fun r => Q none (hH r))) t) : kW sc 2 kc_Town_reverse 0 64 [some (kr b0), none, some (kI x2), some (kI x3), none, none] [] (hH s) Q := by
  unfold f_Town_reverse_64 at hf
  refine kw_step (L' := [some (kr b0), none, some (kI x2), some (kI (wI (x3 + 1))), none, none]) rfl rfl rfl rfl ?_
  refine kw_goto rfl rfl ?_
  cases hf
  exact kW_le (L' := [some (kr b0), none, some (kI x2), some (kI (wI (x3 + 1))), none, none]) ⟨Or.inr rfl, Or.inl rfl, Or.inr rfl, Or.inr rfl, Or.inl rfl, Or.inl rfl, trivial⟩ hq
def f_Town_reverse_44b (b0 : Nat) (x2 : Int) (x3 : Int) (s : kM) : Option ((Int × kM) ⊕ (kM)) :=
  if 11 ≤ x3 then (some (.inr s)) else (if (kand (kshr x2 x3) 1) = 1 then ((gI 11 x3).bind fun j3 => (gI 11 x3).bind fun j5 => gLet (gU s (b0 + 2) j5 (wI (1 - (s (b0 + 2) j3)))) fun s7 => f_Town_reverse_64 b0 x2 x3 s7) else (f_Town_reverse_64 b0 x2 x3 s))
set_option maxRecDepth 8000 in
theorem b_Town_reverse_44b {sc : List Int} {Q : Option kV → kH → Prop} (b0 : Nat) (hb0 : tT b0 = true) (x2 : Int) (x3 : Int) (s : kM) (t : (Int × kM) ⊕ (kM)) (hf : f_Town_reverse_44b b0 x2 x3 s = some t) (hq : (gE (fun x => kW sc 2 kc_Town_reverse 0 44 [some (kr b0), none, some (kI x2), some (kI x.1), none, none] [] (hH x.2) Q) (fun r => Q none (hH r))) t) : kW sc 2 kc_Town_reverse 0 44 [some (kr b0), none, some (kI x2), some (kI x3), none, none] [] (hH s) Q := by
  unfold f_Town_reverse_44b at hf
  refine kw_step rfl rfl rfl rfl ?_
  refine kw_step rfl rfl rfl rfl ?_
  refine kw_icmp_ge rfl rfl (fun c1 => ?_) (fun c1 => ?_)
  · have hf := gift c1 hf
    cases hf
    exact kw_ret rfl rfl rfl hq
  · have hf := giff c1 hf
    refine kw_step rfl rfl rfl rfl ?_
    refine kw_step rfl rfl rfl rfl ?_
    refine kw_step rfl rfl rfl rfl ?_
    refine kw_step rfl rfl rfl rfl ?_
    refine kw_step rfl rfl rfl rfl ?_
    refine kw_step rfl rfl rfl rfl ?_
    refine kw_icmp_ne rfl rfl (fun c2 => ?_) (fun c2 => ?_)
    · have hf := giff c2 hf
      exact kW_le (L' := [some (kr b0), none, some (kI x2), some (kI x3), none, none]) ⟨Or.inr rfl, Or.inl rfl, Or.inr rfl, Or.inr rfl, Or.inl rfl, Or.inl rfl, trivial⟩ (b_Town_reverse_64 b0 hb0 x2 x3 s _ hf hq)
    · have hf := gift c2 hf
      refine kw_step rfl rfl rfl rfl ?_
      refine kw_get rfl (hH_O (tT_0 hb0)) rfl ?_
      refine kw_step rfl rfl rfl rfl ?_
      refine kw_step rfl rfl rfl rfl ?_
      refine kw_step rfl rfl rfl rfl ?_
      refine kw_get rfl (hH_O (tT_0 hb0)) rfl ?_
      refine kw_step rfl rfl rfl rfl ?_
      obtain ⟨j3, i4, hf⟩ := gbI hf
      refine kw_iald rfl (hH_A (tT_2 hb0)) i4.1 i4.2.1 i4.2.2 ?_
      refine kw_step rfl rfl rfl rfl ?_
      obtain ⟨j5, i6, hf⟩ := gbI hf
      obtain ⟨s7, ee8, hf⟩ := gbL hf
      refine kw_iastH rfl (tT_2 hb0) i6.1 i6.2.1 i6.2.2 ee8 ?_
      exact kW_le (L' := [some (kr b0), none, some (kI x2), some (kI x3), none, none]) ⟨Or.inr rfl, Or.inl rfl, Or.inr rfl, Or.inr rfl, Or.inl rfl, Or.inl rfl, trivial⟩ (b_Town_reverse_64 b0 hb0 x2 x3 s7 _ hf hq)
def f_Town_reverse_44 (b0 : Nat) (x2 : Int) (x3 : Int) (s : kM) : Option (kM) :=
  gL (fun (x : Int × kM) => f_Town_reverse_44b b0 x2 x.1 x.2) gF (x3, s)
theorem b_Town_reverse_44 {sc : List Int} {Q : Option kV → kH → Prop} (b0 : Nat) (hb0 : tT b0 = true) (x2 : Int) (x3 : Int) (s : kM) (t : kM) (hf : f_Town_reverse_44 b0 x2 x3 s = some t) (hq : (fun r => Q none (hH r)) t) : kW sc 2 kc_Town_reverse 0 44 [some (kr b0), none, some (kI x2), some (kI x3), none, none] [] (hH s) Q :=
  gL_ind (P := fun (x : Int × kM) => kW sc 2 kc_Town_reverse 0 44 [some (kr b0), none, some (kI x2), some (kI x.1), none, none] [] (hH x.2) Q) (q := (fun r => Q none (hH r))) (fun x t hf hq => b_Town_reverse_44b b0 hb0 x2 x.1 x.2 t hf hq) gF (x3, s) t hf hq
def f_Town_reverse_18b (b0 : Nat) (x2 : Int) (x3 : Int) (x4 : Int) (s : kM) : Option ((Int × Int × kM) ⊕ (kM)) :=
  if x4 ≤ x3 then ((f_Town_reverse_44 b0 x2 0 s).map Sum.inr) else ((gI 22 x3).bind fun j4 => (gI 22 x4).bind fun j6 => (gI 22 x3).bind fun j8 => gLet (gU s (b0 + 1) j8 (s (b0 + 1) j6)) fun s10 => (gI 22 x4).bind fun j13 => gLet (gU s10 (b0 + 1) j13 (s (b0 + 1) j4)) fun s15 => some (.inl ((wI (x3 + 1)), (wI (x4 + (-1))), s15)))
set_option maxRecDepth 8000 in
theorem b_Town_reverse_18b {sc : List Int} {Q : Option kV → kH → Prop} (b0 : Nat) (hb0 : tT b0 = true) (x2 : Int) (x3 : Int) (x4 : Int) (s : kM) (t : (Int × Int × kM) ⊕ (kM)) (hf : f_Town_reverse_18b b0 x2 x3 x4 s = some t) (hq : (gE (fun x => kW sc 2 kc_Town_reverse 0 18 [some (kr b0), none, some (kI x2), some (kI x.1), some (kI x.2.1), none] [] (hH x.2.2) Q) (fun r => Q none (hH r))) t) : kW sc 2 kc_Town_reverse 0 18 [some (kr b0), none, some (kI x2), some (kI x3), some (kI x4), none] [] (hH s) Q := by
  unfold f_Town_reverse_18b at hf
  refine kw_step rfl rfl rfl rfl ?_
  refine kw_step rfl rfl rfl rfl ?_
  refine kw_icmp_ge rfl rfl (fun c1 => ?_) (fun c1 => ?_)
  · have hf := gift c1 hf
    refine kw_step rfl rfl rfl rfl ?_
    refine kw_step (L' := [some (kr b0), none, some (kI x2), some (kI 0), some (kI x4), none]) rfl rfl rfl rfl ?_
    obtain ⟨t2, hg3, rfl⟩ := gmap hf
    exact kW_le (L' := [some (kr b0), none, some (kI x2), some (kI 0), none, none]) ⟨Or.inr rfl, Or.inl rfl, Or.inr rfl, Or.inr rfl, Or.inl rfl, Or.inl rfl, trivial⟩ (b_Town_reverse_44 b0 hb0 x2 0 s _ hg3 hq)
  · have hf := giff c1 hf
    refine kw_step rfl rfl rfl rfl ?_
    refine kw_get rfl (hH_O (tT_0 hb0)) rfl ?_
    refine kw_step rfl rfl rfl rfl ?_
    obtain ⟨j4, i5, hf⟩ := gbI hf
    refine kw_iald rfl (hH_A (tT_1 hb0)) i5.1 i5.2.1 i5.2.2 ?_
    refine kw_step (L' := [some (kr b0), none, some (kI x2), some (kI x3), some (kI x4), some (kI (s (b0 + 1) j4))]) rfl rfl rfl rfl ?_
    refine kw_step rfl rfl rfl rfl ?_
    refine kw_get rfl (hH_O (tT_0 hb0)) rfl ?_
    refine kw_step rfl rfl rfl rfl ?_
    refine kw_step rfl rfl rfl rfl ?_
    refine kw_get rfl (hH_O (tT_0 hb0)) rfl ?_
    refine kw_step rfl rfl rfl rfl ?_
    obtain ⟨j6, i7, hf⟩ := gbI hf
    refine kw_iald rfl (hH_A (tT_1 hb0)) i7.1 i7.2.1 i7.2.2 ?_
    obtain ⟨j8, i9, hf⟩ := gbI hf
    obtain ⟨s10, ee11, hf⟩ := gbL hf
    refine kw_iastH rfl (tT_1 hb0) i9.1 i9.2.1 i9.2.2 ee11 ?_
    refine kw_step rfl rfl rfl rfl ?_
    refine kw_get rfl (hH_O (tT_0 hb0)) rfl ?_
    refine kw_step rfl rfl rfl rfl ?_
    refine kw_step rfl rfl rfl rfl ?_
    obtain ⟨j13, i14, hf⟩ := gbI hf
    obtain ⟨s15, ee16, hf⟩ := gbL hf
    refine kw_iastH rfl (tT_1 hb0) i14.1 i14.2.1 i14.2.2 ee16 ?_
    refine kw_step (L' := [some (kr b0), none, some (kI x2), some (kI (wI (x3 + 1))), some (kI x4), some (kI (s (b0 + 1) j4))]) rfl rfl rfl rfl ?_
    refine kw_step (L' := [some (kr b0), none, some (kI x2), some (kI (wI (x3 + 1))), some (kI (wI (x4 + (-1)))), some (kI (s (b0 + 1) j4))]) rfl rfl rfl rfl ?_
    refine kw_goto rfl rfl ?_
    cases hf
    exact kW_le (L' := [some (kr b0), none, some (kI x2), some (kI (wI (x3 + 1))), some (kI (wI (x4 + (-1)))), none]) ⟨Or.inr rfl, Or.inl rfl, Or.inr rfl, Or.inr rfl, Or.inr rfl, Or.inl rfl, trivial⟩ hq
def f_Town_reverse_18 (b0 : Nat) (x2 : Int) (x3 : Int) (x4 : Int) (s : kM) : Option (kM) :=
  gL (fun (x : Int × Int × kM) => f_Town_reverse_18b b0 x2 x.1 x.2.1 x.2.2) gF (x3, x4, s)
theorem b_Town_reverse_18 {sc : List Int} {Q : Option kV → kH → Prop} (b0 : Nat) (hb0 : tT b0 = true) (x2 : Int) (x3 : Int) (x4 : Int) (s : kM) (t : kM) (hf : f_Town_reverse_18 b0 x2 x3 x4 s = some t) (hq : (fun r => Q none (hH r)) t) : kW sc 2 kc_Town_reverse 0 18 [some (kr b0), none, some (kI x2), some (kI x3), some (kI x4), none] [] (hH s) Q :=
  gL_ind (P := fun (x : Int × Int × kM) => kW sc 2 kc_Town_reverse 0 18 [some (kr b0), none, some (kI x2), some (kI x.1), some (kI x.2.1), none] [] (hH x.2.2) Q) (q := (fun r => Q none (hH r))) (fun x t hf hq => b_Town_reverse_18b b0 hb0 x2 x.1 x.2.1 x.2.2 t hf hq) gF (x3, x4, s) t hf hq
def f_Town_reverse (b0 : Nat) (x1 : Int) (s : kM) : Option (kM) :=
  (f_Town_met b0 0 s).bind fun q1 => (f_Town_met b0 1 s).bind fun q2 => (f_Town_roadStart b0 x1 s).bind fun q3 => (f_Town_roadEnd b0 x1 s).bind fun q4 => f_Town_reverse_18 b0 (kand q1 q2) q3 (wI (q4 - 1)) s
set_option maxRecDepth 8000 in
theorem c_Town_reverse {sc : List Int} (b0 : Nat) (hb0 : tT b0 = true) (x1 : Int) (s : kM) (t : kM) (hf : f_Town_reverse b0 x1 s = some t) : kR sc 2 km_Town_reverse [kr b0, kI x1] (hH s) none (hH t) := by
  unfold f_Town_reverse at hf
  refine kR.start rfl ?_
  show kW sc 2 kc_Town_reverse 0 0 [some (kr b0), some (kI x1), none, none, none, none] [] (hH s) _
  have hq : (fun (r : Option kV) (g : kH) => r = none ∧ g = hH t) none (hH t) := ⟨rfl, rfl⟩
  refine kw_step rfl rfl rfl rfl ?_
  refine kw_step rfl rfl rfl rfl ?_
  obtain ⟨q1, hq1, hf⟩ := gbind hf
  refine kw_callV (vs := [kI 0]) rfl rfl rfl ⟨rfl, Nat.le_of_ble_eq_true rfl, Nat.le_of_ble_eq_true rfl, by decide⟩ (hH_O (tT_0 hb0)) (c_Town_met b0 hb0 0 s _ hq1) (Nat.le_of_ble_eq_true rfl) ?_
  refine kw_step rfl rfl rfl rfl ?_
  refine kw_step rfl rfl rfl rfl ?_
  obtain ⟨q2, hq2, hf⟩ := gbind hf
  refine kw_callV (vs := [kI 1]) rfl rfl rfl ⟨rfl, Nat.le_of_ble_eq_true rfl, Nat.le_of_ble_eq_true rfl, by decide⟩ (hH_O (tT_0 hb0)) (c_Town_met b0 hb0 1 s _ hq2) (Nat.le_of_ble_eq_true rfl) ?_
  refine kw_step rfl rfl rfl rfl ?_
  refine kw_step (L' := [some (kr b0), some (kI x1), some (kI (kand q1 q2)), none, none, none]) rfl rfl rfl rfl ?_
  refine kw_step rfl rfl rfl rfl ?_
  refine kw_step rfl rfl rfl rfl ?_
  obtain ⟨q3, hq3, hf⟩ := gbind hf
  refine kw_callV (vs := [kI x1]) rfl rfl rfl ⟨rfl, Nat.le_of_ble_eq_true rfl, Nat.le_of_ble_eq_true rfl, by decide⟩ (hH_O (tT_0 hb0)) (c_Town_roadStart b0 hb0 x1 s _ hq3) (Nat.le_of_ble_eq_true rfl) ?_
  refine kw_step (L' := [some (kr b0), some (kI x1), some (kI (kand q1 q2)), some (kI q3), none, none]) rfl rfl rfl rfl ?_
  refine kw_step rfl rfl rfl rfl ?_
  refine kw_step rfl rfl rfl rfl ?_
  obtain ⟨q4, hq4, hf⟩ := gbind hf
  refine kw_callV (vs := [kI x1]) rfl rfl rfl ⟨rfl, Nat.le_of_ble_eq_true rfl, Nat.le_of_ble_eq_true rfl, by decide⟩ (hH_O (tT_0 hb0)) (c_Town_roadEnd b0 hb0 x1 s _ hq4) (Nat.le_of_ble_eq_true rfl) ?_
  refine kw_step rfl rfl rfl rfl ?_
  refine kw_step rfl rfl rfl rfl ?_
  refine kw_step (L' := [some (kr b0), some (kI x1), some (kI (kand q1 q2)), some (kI q3), some (kI (wI (q4 - 1))), none]) rfl rfl rfl rfl ?_
  exact kW_le (L' := [some (kr b0), none, some (kI (kand q1 q2)), some (kI q3), some (kI (wI (q4 - 1))), none]) ⟨Or.inr rfl, Or.inl rfl, Or.inr rfl, Or.inr rfl, Or.inr rfl, Or.inl rfl, trivial⟩ (b_Town_reverse_18 b0 hb0 (kand q1 q2) q3 (wI (q4 - 1)) s _ hf hq)
