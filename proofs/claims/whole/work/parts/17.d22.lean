/-! PRINTED by wip/whole/decall.py: methods as functions over the flat world, with their contracts -/
def f_M_can_32 (x1 : Int) (x3 : Int) (y0 : Int) (y1 : Int) (s : kM) : Option ((Int × Int × kM) ⊕ (Int × kM)) :=
  some (.inl ((wI (y0 + y1)), (wI (x3 + 1)), s))
set_option maxRecDepth 8000 in
theorem b_M_can_32 {sc : List Int} {Q : Option kV → kH → Prop} (x1 : Int) (x3 : Int) (y0 : Int) (y1 : Int) (s : kM) (t : (Int × Int × kM) ⊕ (Int × kM)) (hf : f_M_can_32 x1 x3 y0 y1 s = some t) (hq : (gE (fun x => kW sc 6 kc_M_can 1 17 [some (kr 85), some (kI x1), some (kI x.1), some (kI x.2.1)] [] (hH x.2.2) Q) (fun r => Q (some (kI r.1)) (hH r.2))) t) : kW sc 6 kc_M_can 1 32 [some (kr 85), some (kI x1), none, some (kI x3)] [kI y1, kI y0] (hH s) Q := by
  unfold f_M_can_32 at hf
  refine kw_step rfl rfl rfl rfl ?_
  refine kw_step (L' := [some (kr 85), some (kI x1), some (kI (wI (y0 + y1))), some (kI x3)]) rfl rfl rfl rfl ?_
  refine kw_step (L' := [some (kr 85), some (kI x1), some (kI (wI (y0 + y1))), some (kI (wI (x3 + 1)))]) rfl rfl rfl rfl ?_
  refine kw_goto rfl rfl ?_
  cases hf
  exact kW_le (L' := [some (kr 85), some (kI x1), some (kI (wI (y0 + y1))), some (kI (wI (x3 + 1)))]) ⟨Or.inr rfl, Or.inr rfl, Or.inr rfl, Or.inr rfl, trivial⟩ hq
def f_M_can_31 (x1 : Int) (x3 : Int) (y0 : Int) (s : kM) : Option ((Int × Int × kM) ⊕ (Int × kM)) :=
  f_M_can_32 x1 x3 y0 0 s
set_option maxRecDepth 8000 in
theorem b_M_can_31 {sc : List Int} {Q : Option kV → kH → Prop} (x1 : Int) (x3 : Int) (y0 : Int) (s : kM) (t : (Int × Int × kM) ⊕ (Int × kM)) (hf : f_M_can_31 x1 x3 y0 s = some t) (hq : (gE (fun x => kW sc 6 kc_M_can 1 17 [some (kr 85), some (kI x1), some (kI x.1), some (kI x.2.1)] [] (hH x.2.2) Q) (fun r => Q (some (kI r.1)) (hH r.2))) t) : kW sc 6 kc_M_can 1 31 [some (kr 85), some (kI x1), none, some (kI x3)] [kI y0] (hH s) Q := by
  unfold f_M_can_31 at hf
  refine kw_step rfl rfl rfl rfl ?_
  exact kW_le (L' := [some (kr 85), some (kI x1), none, some (kI x3)]) ⟨Or.inr rfl, Or.inr rfl, Or.inl rfl, Or.inr rfl, trivial⟩ (b_M_can_32 x1 x3 y0 0 s _ hf hq)
def f_M_can_17b (x1 : Int) (x2 : Int) (x3 : Int) (s : kM) : Option ((Int × Int × kM) ⊕ (Int × kM)) :=
  if 1463 ≤ x3 then (some (.inr (x2, s))) else ((f_M_kindOf x3 s).bind fun q2 => if q2 = x1 then ((f_M_canMove x3 s).bind fun q4 => if q4.1 = 0 then (f_M_can_31 x1 x3 x2 q4.2) else (f_M_can_32 x1 x3 x2 1 q4.2)) else (f_M_can_31 x1 x3 x2 s))
set_option maxRecDepth 8000 in
theorem b_M_can_17b {sc : List Int} {Q : Option kV → kH → Prop} (x1 : Int) (x2 : Int) (x3 : Int) (s : kM) (t : (Int × Int × kM) ⊕ (Int × kM)) (hf : f_M_can_17b x1 x2 x3 s = some t) (hq : (gE (fun x => kW sc 6 kc_M_can 1 17 [some (kr 85), some (kI x1), some (kI x.1), some (kI x.2.1)] [] (hH x.2.2) Q) (fun r => Q (some (kI r.1)) (hH r.2))) t) : kW sc 6 kc_M_can 1 17 [some (kr 85), some (kI x1), some (kI x2), some (kI x3)] [] (hH s) Q := by
  unfold f_M_can_17b at hf
  refine kw_step rfl rfl rfl rfl ?_
  refine kw_step rfl rfl rfl rfl ?_
  refine kw_icmp_ge rfl rfl (fun c1 => ?_) (fun c1 => ?_)
  · have hf := gift c1 hf
    refine kw_step rfl rfl rfl rfl ?_
    cases hf
    exact kw_ret rfl rfl rfl hq
  · have hf := giff c1 hf
    refine kw_step rfl rfl rfl rfl ?_
    refine kw_step rfl rfl rfl rfl ?_
    obtain ⟨q2, hq2, hf⟩ := gbind hf
    refine kw_callS (vs := [kI x3]) rfl rfl rfl ⟨rfl, Nat.le_of_ble_eq_true rfl, Nat.le_of_ble_eq_true rfl, rfl⟩ (c_M_kindOf x3 s _ hq2) (Nat.le_of_ble_eq_true rfl) ?_
    refine kw_step rfl rfl rfl rfl ?_
    refine kw_icmp_ne rfl rfl (fun c3 => ?_) (fun c3 => ?_)
    · have hf := giff c3 hf
      exact kW_le (L' := [some (kr 85), some (kI x1), none, some (kI x3)]) ⟨Or.inr rfl, Or.inr rfl, Or.inl rfl, Or.inr rfl, trivial⟩ (b_M_can_31 x1 x3 x2 s _ hf hq)
    · have hf := gift c3 hf
      refine kw_step rfl rfl rfl rfl ?_
      refine kw_step rfl rfl rfl rfl ?_
      obtain ⟨q4, hq4, hf⟩ := gbind hf
      refine kw_callV (vs := [kI x3]) rfl rfl rfl ⟨rfl, Nat.le_of_ble_eq_true rfl, Nat.le_of_ble_eq_true rfl, by decide⟩ (hH_O (rfl : kotab 85 = some kMo)) (c_M_canMove x3 s _ hq4) (Nat.le_of_ble_eq_true rfl) ?_
      refine kw_if_eq rfl rfl (fun c6 => ?_) (fun c6 => ?_)
      · have hf := gift c6 hf
        exact kW_le (L' := [some (kr 85), some (kI x1), none, some (kI x3)]) ⟨Or.inr rfl, Or.inr rfl, Or.inl rfl, Or.inr rfl, trivial⟩ (b_M_can_31 x1 x3 x2 q4.2 _ hf hq)
      · have hf := giff c6 hf
        refine kw_step rfl rfl rfl rfl ?_
        refine kw_goto rfl rfl ?_
        exact kW_le (L' := [some (kr 85), some (kI x1), none, some (kI x3)]) ⟨Or.inr rfl, Or.inr rfl, Or.inl rfl, Or.inr rfl, trivial⟩ (b_M_can_32 x1 x3 x2 1 q4.2 _ hf hq)
def f_M_can_17 (x1 : Int) (x2 : Int) (x3 : Int) (s : kM) : Option (Int × kM) :=
  gL (fun (x : Int × Int × kM) => f_M_can_17b x1 x.1 x.2.1 x.2.2) gF (x2, x3, s)
theorem b_M_can_17 {sc : List Int} {Q : Option kV → kH → Prop} (x1 : Int) (x2 : Int) (x3 : Int) (s : kM) (t : Int × kM) (hf : f_M_can_17 x1 x2 x3 s = some t) (hq : (fun r => Q (some (kI r.1)) (hH r.2)) t) : kW sc 6 kc_M_can 1 17 [some (kr 85), some (kI x1), some (kI x2), some (kI x3)] [] (hH s) Q :=
  gL_ind (P := fun (x : Int × Int × kM) => kW sc 6 kc_M_can 1 17 [some (kr 85), some (kI x1), some (kI x.1), some (kI x.2.1)] [] (hH x.2.2) Q) (q := (fun r => Q (some (kI r.1)) (hH r.2))) (fun x t hf hq => b_M_can_17b x1 x.1 x.2.1 x.2.2 t hf hq) gF (x2, x3, s) t hf hq
def f_M_can (x1 : Int) (s : kM) : Option (Int × kM) :=
  (f_M_isTown s).bind fun q1 => if q1 = 0 then (some ((-1), s)) else ((f_M_in x1 1 3 s).bind fun q3 => if q3 = 0 then (some ((-1), s)) else ((f_M_fillsLand s).bind fun q5 => f_M_can_17 x1 0 0 q5))
set_option maxRecDepth 8000 in
theorem c_M_can {sc : List Int} (x1 : Int) (s : kM) (t : Int × kM) (hf : f_M_can x1 s = some t) : kR sc 6 km_M_can [kr 85, kI x1] (hH s) (some (kI t.1)) (hH t.2) := by
  unfold f_M_can at hf
  refine kR.start rfl ?_
  show kW sc 6 kc_M_can 1 0 [some (kr 85), some (kI x1), none, none] [] (hH s) _
  have hq : (fun (r : Option kV) (g : kH) => r = some (kI t.1) ∧ g = hH t.2) (some (kI t.1)) (hH t.2) := ⟨rfl, rfl⟩
  refine kw_step rfl rfl rfl rfl ?_
  obtain ⟨q1, hq1, hf⟩ := gbind hf
  refine kw_callV (vs := []) rfl rfl rfl ⟨rfl, Nat.le_of_ble_eq_true rfl, Nat.le_of_ble_eq_true rfl, by decide⟩ (hH_O (rfl : kotab 85 = some kMo)) (c_M_isTown s _ hq1) (Nat.le_of_ble_eq_true rfl) ?_
  refine kw_if_eq rfl rfl (fun c2 => ?_) (fun c2 => ?_)
  · have hf := gift c2 hf
    refine kw_step rfl rfl rfl rfl ?_
    cases hf
    exact kw_ret rfl rfl rfl hq
  · have hf := giff c2 hf
    refine kw_step rfl rfl rfl rfl ?_
    refine kw_step rfl rfl rfl rfl ?_
    refine kw_step rfl rfl rfl rfl ?_
    refine kw_step rfl rfl rfl rfl ?_
    obtain ⟨q3, hq3, hf⟩ := gbind hf
    refine kw_callS (vs := [kJ x1, kJ 1, kJ 3]) rfl rfl rfl ⟨rfl, Nat.le_of_ble_eq_true rfl, Nat.le_of_ble_eq_true rfl, rfl⟩ (c_M_in x1 1 3 s _ hq3) (Nat.le_of_ble_eq_true rfl) ?_
    refine kw_if_ne rfl rfl (fun c4 => ?_) (fun c4 => ?_)
    · have hf := giff c4 hf
      refine kw_step rfl rfl rfl rfl ?_
      obtain ⟨q5, hq5, hf⟩ := gbind hf
      refine kw_callV (vs := []) rfl rfl rfl ⟨rfl, Nat.le_of_ble_eq_true rfl, Nat.le_of_ble_eq_true rfl, by decide⟩ (hH_O (rfl : kotab 85 = some kMo)) (c_M_fillsLand s _ hq5) (Nat.le_of_ble_eq_true rfl) ?_
      refine kw_step rfl rfl rfl rfl ?_
      refine kw_step (L' := [some (kr 85), some (kI x1), some (kI 0), none]) rfl rfl rfl rfl ?_
      refine kw_step rfl rfl rfl rfl ?_
      refine kw_step (L' := [some (kr 85), some (kI x1), some (kI 0), some (kI 0)]) rfl rfl rfl rfl ?_
      exact kW_le (L' := [some (kr 85), some (kI x1), some (kI 0), some (kI 0)]) ⟨Or.inr rfl, Or.inr rfl, Or.inr rfl, Or.inr rfl, trivial⟩ (b_M_can_17 x1 0 0 q5 _ hf hq)
    · have hf := gift c4 hf
      refine kw_step rfl rfl rfl rfl ?_
      cases hf
      exact kw_ret rfl rfl rfl hq
def f_M_sumOfHands_29 (x1 : Int) (x2 : Int) (x3 : Int) (s : kM) : Option ((Int × Int) ⊕ (Int)) :=
  some (.inl (x2, (wI (x3 + 1))))
set_option maxRecDepth 8000 in
theorem b_M_sumOfHands_29 {sc : List Int} {Q : Option kV → kH → Prop} (x1 : Int) (x2 : Int) (x3 : Int) (s : kM) (t : (Int × Int) ⊕ (Int)) (hf : f_M_sumOfHands_29 x1 x2 x3 s = some t) (hq : (gE (fun x => kW sc 2 kc_M_sumOfHands 1 4 [some (kr 85), some (kI x1), some (kI x.1), some (kI x.2)] [] (hH s) Q) (fun r => Q (some (kI r)) (hH s))) t) : kW sc 2 kc_M_sumOfHands 1 29 [some (kr 85), some (kI x1), some (kI x2), some (kI x3)] [] (hH s) Q := by
  unfold f_M_sumOfHands_29 at hf
  refine kw_step (L' := [some (kr 85), some (kI x1), some (kI x2), some (kI (wI (x3 + 1)))]) rfl rfl rfl rfl ?_
  refine kw_goto rfl rfl ?_
  cases hf
  exact kW_le (L' := [some (kr 85), some (kI x1), some (kI x2), some (kI (wI (x3 + 1)))]) ⟨Or.inr rfl, Or.inr rfl, Or.inr rfl, Or.inr rfl, trivial⟩ hq
def f_M_sumOfHands_27 (x1 : Int) (x3 : Int) (y0 : Int) (y1 : Int) (s : kM) : Option ((Int × Int) ⊕ (Int)) :=
  f_M_sumOfHands_29 x1 (wI (y0 + y1)) x3 s
set_option maxRecDepth 8000 in
theorem b_M_sumOfHands_27 {sc : List Int} {Q : Option kV → kH → Prop} (x1 : Int) (x3 : Int) (y0 : Int) (y1 : Int) (s : kM) (t : (Int × Int) ⊕ (Int)) (hf : f_M_sumOfHands_27 x1 x3 y0 y1 s = some t) (hq : (gE (fun x => kW sc 2 kc_M_sumOfHands 1 4 [some (kr 85), some (kI x1), some (kI x.1), some (kI x.2)] [] (hH s) Q) (fun r => Q (some (kI r)) (hH s))) t) : kW sc 2 kc_M_sumOfHands 1 27 [some (kr 85), some (kI x1), none, some (kI x3)] [kI y1, kI y0] (hH s) Q := by
  unfold f_M_sumOfHands_27 at hf
  refine kw_step rfl rfl rfl rfl ?_
  refine kw_step (L' := [some (kr 85), some (kI x1), some (kI (wI (y0 + y1))), some (kI x3)]) rfl rfl rfl rfl ?_
  exact kW_le (L' := [some (kr 85), some (kI x1), some (kI (wI (y0 + y1))), some (kI x3)]) ⟨Or.inr rfl, Or.inr rfl, Or.inr rfl, Or.inr rfl, trivial⟩ (b_M_sumOfHands_29 x1 (wI (y0 + y1)) x3 s _ hf hq)
def f_M_sumOfHands_17 (x1 : Int) (x2 : Int) (x3 : Int) (s : kM) : Option ((Int × Int) ⊕ (Int)) :=
  (gI 11 x3).bind fun j1 => if (s 89 j1) = 1 then (f_M_sumOfHands_27 x1 x3 x2 1 s) else (f_M_sumOfHands_27 x1 x3 x2 (-1) s)
set_option maxRecDepth 8000 in
theorem b_M_sumOfHands_17 {sc : List Int} {Q : Option kV → kH → Prop} (x1 : Int) (x2 : Int) (x3 : Int) (s : kM) (t : (Int × Int) ⊕ (Int)) (hf : f_M_sumOfHands_17 x1 x2 x3 s = some t) (hq : (gE (fun x => kW sc 2 kc_M_sumOfHands 1 4 [some (kr 85), some (kI x1), some (kI x.1), some (kI x.2)] [] (hH s) Q) (fun r => Q (some (kI r)) (hH s))) t) : kW sc 2 kc_M_sumOfHands 1 17 [some (kr 85), some (kI x1), some (kI x2), some (kI x3)] [] (hH s) Q := by
  unfold f_M_sumOfHands_17 at hf
  refine kw_step rfl rfl rfl rfl ?_
  refine kw_step rfl rfl rfl rfl ?_
  refine kw_get rfl (hH_O (rfl : kotab 85 = some kMo)) rfl ?_
  refine kw_step rfl rfl rfl rfl ?_
  obtain ⟨j1, i2, hf⟩ := gbI hf
  refine kw_iald rfl (hH_A (rfl : ktab 89 = some (0, 11))) i2.1 i2.2.1 i2.2.2 ?_
  refine kw_step rfl rfl rfl rfl ?_
  refine kw_icmp_ne rfl rfl (fun c3 => ?_) (fun c3 => ?_)
  · have hf := giff c3 hf
    refine kw_step rfl rfl rfl rfl ?_
    exact kW_le (L' := [some (kr 85), some (kI x1), none, some (kI x3)]) ⟨Or.inr rfl, Or.inr rfl, Or.inl rfl, Or.inr rfl, trivial⟩ (b_M_sumOfHands_27 x1 x3 x2 (-1) s _ hf hq)
  · have hf := gift c3 hf
    refine kw_step rfl rfl rfl rfl ?_
    refine kw_goto rfl rfl ?_
    exact kW_le (L' := [some (kr 85), some (kI x1), none, some (kI x3)]) ⟨Or.inr rfl, Or.inr rfl, Or.inl rfl, Or.inr rfl, trivial⟩ (b_M_sumOfHands_27 x1 x3 x2 1 s _ hf hq)
def f_M_sumOfHands_4b (x1 : Int) (x2 : Int) (x3 : Int) (s : kM) : Option ((Int × Int) ⊕ (Int)) :=
  if 11 ≤ x3 then (some (.inr x2)) else ((f_M_isBridge x3 s).bind fun q2 => if q2 = 0 then (f_M_sumOfHands_29 x1 x2 x3 s) else (if x1 = 0 then (f_M_sumOfHands_17 x1 x2 x3 s) else ((f_M_isOfBoth x3 s).bind fun q5 => if q5 = 0 then (f_M_sumOfHands_29 x1 x2 x3 s) else (f_M_sumOfHands_17 x1 x2 x3 s))))
set_option maxRecDepth 8000 in
theorem b_M_sumOfHands_4b {sc : List Int} {Q : Option kV → kH → Prop} (x1 : Int) (x2 : Int) (x3 : Int) (s : kM) (t : (Int × Int) ⊕ (Int)) (hf : f_M_sumOfHands_4b x1 x2 x3 s = some t) (hq : (gE (fun x => kW sc 2 kc_M_sumOfHands 1 4 [some (kr 85), some (kI x1), some (kI x.1), some (kI x.2)] [] (hH s) Q) (fun r => Q (some (kI r)) (hH s))) t) : kW sc 2 kc_M_sumOfHands 1 4 [some (kr 85), some (kI x1), some (kI x2), some (kI x3)] [] (hH s) Q := by
  unfold f_M_sumOfHands_4b at hf
  refine kw_step rfl rfl rfl rfl ?_
  refine kw_step rfl rfl rfl rfl ?_
  refine kw_icmp_ge rfl rfl (fun c1 => ?_) (fun c1 => ?_)
  · have hf := gift c1 hf
    refine kw_step rfl rfl rfl rfl ?_
    cases hf
    exact kw_ret rfl rfl rfl hq
  · have hf := giff c1 hf
    refine kw_step rfl rfl rfl rfl ?_
    refine kw_step rfl rfl rfl rfl ?_
    obtain ⟨q2, hq2, hf⟩ := gbind hf
    refine kw_callV (vs := [kI x3]) rfl rfl rfl ⟨rfl, Nat.le_of_ble_eq_true rfl, Nat.le_of_ble_eq_true rfl, by decide⟩ (hH_O (rfl : kotab 85 = some kMo)) (c_M_isBridge x3 s _ hq2) (Nat.le_of_ble_eq_true rfl) ?_
    refine kw_if_eq rfl rfl (fun c3 => ?_) (fun c3 => ?_)
    · have hf := gift c3 hf
      exact kW_le (L' := [some (kr 85), some (kI x1), some (kI x2), some (kI x3)]) ⟨Or.inr rfl, Or.inr rfl, Or.inr rfl, Or.inr rfl, trivial⟩ (b_M_sumOfHands_29 x1 x2 x3 s _ hf hq)
    · have hf := giff c3 hf
      refine kw_step rfl rfl rfl rfl ?_
      refine kw_if_eq rfl rfl (fun c4 => ?_) (fun c4 => ?_)
      · have hf := gift c4 hf
        exact kW_le (L' := [some (kr 85), some (kI x1), some (kI x2), some (kI x3)]) ⟨Or.inr rfl, Or.inr rfl, Or.inr rfl, Or.inr rfl, trivial⟩ (b_M_sumOfHands_17 x1 x2 x3 s _ hf hq)
      · have hf := giff c4 hf
        refine kw_step rfl rfl rfl rfl ?_
        refine kw_step rfl rfl rfl rfl ?_
        obtain ⟨q5, hq5, hf⟩ := gbind hf
        refine kw_callV (vs := [kI x3]) rfl rfl rfl ⟨rfl, Nat.le_of_ble_eq_true rfl, Nat.le_of_ble_eq_true rfl, by decide⟩ (hH_O (rfl : kotab 85 = some kMo)) (c_M_isOfBoth x3 s _ hq5) (Nat.le_of_ble_eq_true rfl) ?_
        refine kw_if_eq rfl rfl (fun c6 => ?_) (fun c6 => ?_)
        · have hf := gift c6 hf
          exact kW_le (L' := [some (kr 85), some (kI x1), some (kI x2), some (kI x3)]) ⟨Or.inr rfl, Or.inr rfl, Or.inr rfl, Or.inr rfl, trivial⟩ (b_M_sumOfHands_29 x1 x2 x3 s _ hf hq)
        · have hf := giff c6 hf
          exact kW_le (L' := [some (kr 85), some (kI x1), some (kI x2), some (kI x3)]) ⟨Or.inr rfl, Or.inr rfl, Or.inr rfl, Or.inr rfl, trivial⟩ (b_M_sumOfHands_17 x1 x2 x3 s _ hf hq)
def f_M_sumOfHands_4 (x1 : Int) (x2 : Int) (x3 : Int) (s : kM) : Option (Int) :=
  gL (fun (x : Int × Int) => f_M_sumOfHands_4b x1 x.1 x.2 s) gF (x2, x3)
theorem b_M_sumOfHands_4 {sc : List Int} {Q : Option kV → kH → Prop} (x1 : Int) (x2 : Int) (x3 : Int) (s : kM) (t : Int) (hf : f_M_sumOfHands_4 x1 x2 x3 s = some t) (hq : (fun r => Q (some (kI r)) (hH s)) t) : kW sc 2 kc_M_sumOfHands 1 4 [some (kr 85), some (kI x1), some (kI x2), some (kI x3)] [] (hH s) Q :=
  gL_ind (P := fun (x : Int × Int) => kW sc 2 kc_M_sumOfHands 1 4 [some (kr 85), some (kI x1), some (kI x.1), some (kI x.2)] [] (hH s) Q) (q := (fun r => Q (some (kI r)) (hH s))) (fun x t hf hq => b_M_sumOfHands_4b x1 x.1 x.2 s t hf hq) gF (x2, x3) t hf hq
def f_M_sumOfHands (x1 : Int) (s : kM) : Option (Int) :=
  f_M_sumOfHands_4 x1 0 0 s
set_option maxRecDepth 8000 in
theorem c_M_sumOfHands {sc : List Int} (x1 : Int) (s : kM) (t : Int) (hf : f_M_sumOfHands x1 s = some t) : kR sc 2 km_M_sumOfHands [kr 85, kI x1] (hH s) (some (kI t)) (hH s) := by
  unfold f_M_sumOfHands at hf
  refine kR.start rfl ?_
  show kW sc 2 kc_M_sumOfHands 1 0 [some (kr 85), some (kI x1), none, none] [] (hH s) _
  have hq : (fun (r : Option kV) (g : kH) => r = some (kI t) ∧ g = hH s) (some (kI t)) (hH s) := ⟨rfl, rfl⟩
  refine kw_step rfl rfl rfl rfl ?_
  refine kw_step (L' := [some (kr 85), some (kI x1), some (kI 0), none]) rfl rfl rfl rfl ?_
  refine kw_step rfl rfl rfl rfl ?_
  refine kw_step (L' := [some (kr 85), some (kI x1), some (kI 0), some (kI 0)]) rfl rfl rfl rfl ?_
  exact kW_le (L' := [some (kr 85), some (kI x1), some (kI 0), some (kI 0)]) ⟨Or.inr rfl, Or.inr rfl, Or.inr rfl, Or.inr rfl, trivial⟩ (b_M_sumOfHands_4 x1 0 0 s _ hf hq)
def f_M_writhe (s : kM) : Option (Int) :=
  (f_M_isTown s).bind fun q1 => if q1 = 0 then (some (-1000)) else ((f_M_sumOfHands 0 s).bind fun q3 => some q3)
set_option maxRecDepth 8000 in
theorem c_M_writhe {sc : List Int} (s : kM) (t : Int) (hf : f_M_writhe s = some t) : kR sc 3 km_M_writhe [kr 85] (hH s) (some (kI t)) (hH s) := by
  unfold f_M_writhe at hf
  refine kR.start rfl ?_
  show kW sc 3 kc_M_writhe 1 0 [some (kr 85)] [] (hH s) _
  have hq : (fun (r : Option kV) (g : kH) => r = some (kI t) ∧ g = hH s) (some (kI t)) (hH s) := ⟨rfl, rfl⟩
  refine kw_step rfl rfl rfl rfl ?_
  obtain ⟨q1, hq1, hf⟩ := gbind hf
  refine kw_callV (vs := []) rfl rfl rfl ⟨rfl, Nat.le_of_ble_eq_true rfl, Nat.le_of_ble_eq_true rfl, by decide⟩ (hH_O (rfl : kotab 85 = some kMo)) (c_M_isTown s _ hq1) (Nat.le_of_ble_eq_true rfl) ?_
  refine kw_if_eq rfl rfl (fun c2 => ?_) (fun c2 => ?_)
  · have hf := gift c2 hf
    refine kw_step rfl rfl rfl rfl ?_
    cases hf
    exact kw_ret rfl rfl rfl hq
  · have hf := giff c2 hf
    refine kw_step rfl rfl rfl rfl ?_
    refine kw_step rfl rfl rfl rfl ?_
    obtain ⟨q3, hq3, hf⟩ := gbind hf
    refine kw_callV (vs := [kI 0]) rfl rfl rfl ⟨rfl, Nat.le_of_ble_eq_true rfl, Nat.le_of_ble_eq_true rfl, by decide⟩ (hH_O (rfl : kotab 85 = some kMo)) (c_M_sumOfHands 0 s _ hq3) (Nat.le_of_ble_eq_true rfl) ?_
    refine kw_goto rfl rfl ?_
    cases hf
    exact kw_ret rfl rfl rfl hq
def f_M_linked (s : kM) : Option (Int) :=
  if (s 86 0) = 2 then ((f_M_sumOfHands 1 s).bind fun q2 => some (kdiv q2 2)) else (some (-1000))
set_option maxRecDepth 8000 in
theorem c_M_linked {sc : List Int} (s : kM) (t : Int) (hf : f_M_linked s = some t) : kR sc 3 km_M_linked [kr 85] (hH s) (some (kI t)) (hH s) := by
  unfold f_M_linked at hf
  refine kR.start rfl ?_
  show kW sc 3 kc_M_linked 1 0 [some (kr 85)] [] (hH s) _
  have hq : (fun (r : Option kV) (g : kH) => r = some (kI t) ∧ g = hH s) (some (kI t)) (hH s) := ⟨rfl, rfl⟩
  refine kw_step rfl rfl rfl rfl ?_
  refine kw_get rfl (hH_O (rfl : kotab 85 = some kMo)) rfl ?_
  refine kw_step rfl rfl rfl rfl ?_
  refine kw_iald rfl (hH_A (rfl : ktab 86 = some (0, 6))) (by decide) (by decide) (j := 0) rfl ?_
  refine kw_step rfl rfl rfl rfl ?_
  refine kw_icmp_ne rfl rfl (fun c1 => ?_) (fun c1 => ?_)
  · have hf := giff c1 hf
    refine kw_step rfl rfl rfl rfl ?_
    cases hf
    exact kw_ret rfl rfl rfl hq
  · have hf := gift c1 hf
    refine kw_step rfl rfl rfl rfl ?_
    refine kw_step rfl rfl rfl rfl ?_
    obtain ⟨q2, hq2, hf⟩ := gbind hf
    refine kw_callV (vs := [kI 1]) rfl rfl rfl ⟨rfl, Nat.le_of_ble_eq_true rfl, Nat.le_of_ble_eq_true rfl, by decide⟩ (hH_O (rfl : kotab 85 = some kMo)) (c_M_sumOfHands 1 s _ hq2) (Nat.le_of_ble_eq_true rfl) ?_
    refine kw_step rfl rfl rfl rfl ?_
    refine kw_idiv rfl (by decide) ?_
    refine kw_goto rfl rfl ?_
    cases hf
    exact kw_ret rfl rfl rfl hq
def f_M_fillsMatrix_86 (x1 : Int) (x2 : Int) (s : kM) : Option ((Int × Int × kM) ⊕ (Int × kM)) :=
  some (.inl (x1, (wI (x2 + 1)), s))
set_option maxRecDepth 8000 in
theorem b_M_fillsMatrix_86 {sc : List Int} {Q : Option kV → kH → Prop} (x1 : Int) (x2 : Int) (s : kM) (t : (Int × Int × kM) ⊕ (Int × kM)) (hf : f_M_fillsMatrix_86 x1 x2 s = some t) (hq : (gE (fun x => kW sc 3 kc_M_fillsMatrix 1 6 [some (kr 85), some (kI x.1), some (kI x.2.1), none] [] (hH x.2.2) Q) (fun r => Q (some (kI r.1)) (hH r.2))) t) : kW sc 3 kc_M_fillsMatrix 1 86 [some (kr 85), some (kI x1), some (kI x2), none] [] (hH s) Q := by
  unfold f_M_fillsMatrix_86 at hf
  refine kw_step (L' := [some (kr 85), some (kI x1), some (kI (wI (x2 + 1))), none]) rfl rfl rfl rfl ?_
  refine kw_goto rfl rfl ?_
  cases hf
  exact kW_le (L' := [some (kr 85), some (kI x1), some (kI (wI (x2 + 1))), none]) ⟨Or.inr rfl, Or.inr rfl, Or.inr rfl, Or.inl rfl, trivial⟩ hq
def f_M_fillsMatrix_15b (x1 : Int) (x2 : Int) (x3 : Int) (s : kM) : Option ((Int × kM) ⊕ ((Int × Int × kM) ⊕ (Int × kM))) :=
  if 13 ≤ x3 then ((gI 11 x2).bind fun j2 => (gI 22 (s 98 j2)).bind fun j4 => (gI 143 (wI ((wI (13 * x1)) + (s 114 j4)))).bind fun j6 => (gI 143 (wI ((wI (13 * x1)) + (s 114 j4)))).bind fun j8 => gLet (gU s 117 j8 (wL ((s 117 j6) + 2))) fun s10 => (gI 11 x2).bind fun j13 => (gI 22 (s10 99 j13)).bind fun j15 => (gI 143 (wI ((wI (13 * x1)) + (s10 114 j15)))).bind fun j17 => (gI 143 (wI ((wI (13 * x1)) + (s10 114 j15)))).bind fun j19 => gLet (gU s10 117 j19 (wL ((s10 117 j17) - 1))) fun s21 => (gI 11 x2).bind fun j24 => (f_M_ahead (s21 99 j24) s21).bind fun q26 => (gI 22 q26).bind fun j27 => (gI 143 (wI ((wI (13 * x1)) + (s21 114 j27)))).bind fun j29 => (gI 143 (wI ((wI (13 * x1)) + (s21 114 j27)))).bind fun j31 => gLet (gU s21 117 j31 (wL ((s21 117 j29) - 1))) fun s33 => (f_M_fillsMatrix_86 (wI (x1 + 1)) x2 s33).map Sum.inr) else ((gI 143 (wI ((wI (13 * x1)) + x3))).bind fun j38 => gLet (gU s 117 j38 0) fun s40 => some (.inl ((wI (x3 + 1)), s40)))
set_option maxRecDepth 8000 in
theorem b_M_fillsMatrix_15b {sc : List Int} {Q : Option kV → kH → Prop} (x1 : Int) (x2 : Int) (x3 : Int) (s : kM) (t : (Int × kM) ⊕ ((Int × Int × kM) ⊕ (Int × kM))) (hf : f_M_fillsMatrix_15b x1 x2 x3 s = some t) (hq : (gE (fun x => kW sc 3 kc_M_fillsMatrix 1 15 [some (kr 85), some (kI x1), some (kI x2), some (kI x.1)] [] (hH x.2) Q) (gE (fun x => kW sc 3 kc_M_fillsMatrix 1 6 [some (kr 85), some (kI x.1), some (kI x.2.1), none] [] (hH x.2.2) Q) (fun r => Q (some (kI r.1)) (hH r.2)))) t) : kW sc 3 kc_M_fillsMatrix 1 15 [some (kr 85), some (kI x1), some (kI x2), some (kI x3)] [] (hH s) Q := by
  unfold f_M_fillsMatrix_15b at hf
  refine kw_step rfl rfl rfl rfl ?_
  refine kw_step rfl rfl rfl rfl ?_
  refine kw_icmp_ge rfl rfl (fun c1 => ?_) (fun c1 => ?_)
  · have hf := gift c1 hf
    refine kw_step rfl rfl rfl rfl ?_
    refine kw_get rfl (hH_O (rfl : kotab 85 = some kMo)) rfl ?_
    refine kw_step rfl rfl rfl rfl ?_
    refine kw_step rfl rfl rfl rfl ?_
    refine kw_step rfl rfl rfl rfl ?_
    refine kw_step rfl rfl rfl rfl ?_
    refine kw_get rfl (hH_O (rfl : kotab 85 = some kMo)) rfl ?_
    refine kw_step rfl rfl rfl rfl ?_
    refine kw_get rfl (hH_O (rfl : kotab 85 = some kMo)) rfl ?_
    refine kw_step rfl rfl rfl rfl ?_
    obtain ⟨j2, i3, hf⟩ := gbI hf
    refine kw_iald rfl (hH_A (rfl : ktab 98 = some (0, 11))) i3.1 i3.2.1 i3.2.2 ?_
    obtain ⟨j4, i5, hf⟩ := gbI hf
    refine kw_iald rfl (hH_A (rfl : ktab 114 = some (0, 22))) i5.1 i5.2.1 i5.2.2 ?_
    refine kw_step rfl rfl rfl rfl ?_
    refine kw_step rfl rfl rfl rfl ?_
    obtain ⟨j6, i7, hf⟩ := gbI hf
    refine kw_lald rfl (hH_A (rfl : ktab 117 = some (3, 143))) i7.1 i7.2.1 i7.2.2 ?_
    refine kw_step rfl rfl rfl rfl ?_
    refine kw_step rfl rfl rfl rfl ?_
    obtain ⟨j8, i9, hf⟩ := gbI hf
    obtain ⟨s10, ee11, hf⟩ := gbL hf
    refine kw_lastH rfl (rfl : ktab 117 = some (3, 143)) i9.1 i9.2.1 i9.2.2 ee11 ?_
    refine kw_step rfl rfl rfl rfl ?_
    refine kw_get rfl (hH_O (rfl : kotab 85 = some kMo)) rfl ?_
    refine kw_step rfl rfl rfl rfl ?_
    refine kw_step rfl rfl rfl rfl ?_
    refine kw_step rfl rfl rfl rfl ?_
    refine kw_step rfl rfl rfl rfl ?_
    refine kw_get rfl (hH_O (rfl : kotab 85 = some kMo)) rfl ?_
    refine kw_step rfl rfl rfl rfl ?_
    refine kw_get rfl (hH_O (rfl : kotab 85 = some kMo)) rfl ?_
    refine kw_step rfl rfl rfl rfl ?_
    obtain ⟨j13, i14, hf⟩ := gbI hf
    refine kw_iald rfl (hH_A (rfl : ktab 99 = some (0, 11))) i14.1 i14.2.1 i14.2.2 ?_
    obtain ⟨j15, i16, hf⟩ := gbI hf
    refine kw_iald rfl (hH_A (rfl : ktab 114 = some (0, 22))) i16.1 i16.2.1 i16.2.2 ?_
    refine kw_step rfl rfl rfl rfl ?_
    refine kw_step rfl rfl rfl rfl ?_
    obtain ⟨j17, i18, hf⟩ := gbI hf
    refine kw_lald rfl (hH_A (rfl : ktab 117 = some (3, 143))) i18.1 i18.2.1 i18.2.2 ?_
    refine kw_step rfl rfl rfl rfl ?_
    refine kw_step rfl rfl rfl rfl ?_
    obtain ⟨j19, i20, hf⟩ := gbI hf
    obtain ⟨s21, ee22, hf⟩ := gbL hf
    refine kw_lastH rfl (rfl : ktab 117 = some (3, 143)) i20.1 i20.2.1 i20.2.2 ee22 ?_
    refine kw_step rfl rfl rfl rfl ?_
    refine kw_get rfl (hH_O (rfl : kotab 85 = some kMo)) rfl ?_
    refine kw_step rfl rfl rfl rfl ?_
    refine kw_step rfl rfl rfl rfl ?_
    refine kw_step rfl rfl rfl rfl ?_
    refine kw_step rfl rfl rfl rfl ?_
    refine kw_get rfl (hH_O (rfl : kotab 85 = some kMo)) rfl ?_
    refine kw_step rfl rfl rfl rfl ?_
    refine kw_step rfl rfl rfl rfl ?_
    refine kw_get rfl (hH_O (rfl : kotab 85 = some kMo)) rfl ?_
    refine kw_step rfl rfl rfl rfl ?_
    obtain ⟨j24, i25, hf⟩ := gbI hf
    refine kw_iald rfl (hH_A (rfl : ktab 99 = some (0, 11))) i25.1 i25.2.1 i25.2.2 ?_
    obtain ⟨q26, hq26, hf⟩ := gbind hf
    refine kw_callV (vs := [kI (s21 99 j24)]) rfl rfl rfl ⟨rfl, Nat.le_of_ble_eq_true rfl, Nat.le_of_ble_eq_true rfl, by decide⟩ (hH_O (rfl : kotab 85 = some kMo)) (c_M_ahead (s21 99 j24) s21 _ hq26) (Nat.le_of_ble_eq_true rfl) ?_
    obtain ⟨j27, i28, hf⟩ := gbI hf
    refine kw_iald rfl (hH_A (rfl : ktab 114 = some (0, 22))) i28.1 i28.2.1 i28.2.2 ?_
    refine kw_step rfl rfl rfl rfl ?_
    refine kw_step rfl rfl rfl rfl ?_
    obtain ⟨j29, i30, hf⟩ := gbI hf
    refine kw_lald rfl (hH_A (rfl : ktab 117 = some (3, 143))) i30.1 i30.2.1 i30.2.2 ?_
    refine kw_step rfl rfl rfl rfl ?_
    refine kw_step rfl rfl rfl rfl ?_
    obtain ⟨j31, i32, hf⟩ := gbI hf
    obtain ⟨s33, ee34, hf⟩ := gbL hf
    refine kw_lastH rfl (rfl : ktab 117 = some (3, 143)) i32.1 i32.2.1 i32.2.2 ee34 ?_
    refine kw_step (L' := [some (kr 85), some (kI (wI (x1 + 1))), some (kI x2), some (kI x3)]) rfl rfl rfl rfl ?_
    obtain ⟨t36, hg37, rfl⟩ := gmap hf
    exact kW_le (L' := [some (kr 85), some (kI (wI (x1 + 1))), some (kI x2), none]) ⟨Or.inr rfl, Or.inr rfl, Or.inr rfl, Or.inl rfl, trivial⟩ (b_M_fillsMatrix_86 (wI (x1 + 1)) x2 s33 _ hg37 hq)
  · have hf := giff c1 hf
    refine kw_step rfl rfl rfl rfl ?_
    refine kw_get rfl (hH_O (rfl : kotab 85 = some kMo)) rfl ?_
    refine kw_step rfl rfl rfl rfl ?_
    refine kw_step rfl rfl rfl rfl ?_
    refine kw_step rfl rfl rfl rfl ?_
    refine kw_step rfl rfl rfl rfl ?_
    refine kw_step rfl rfl rfl rfl ?_
    refine kw_step rfl rfl rfl rfl ?_
    obtain ⟨j38, i39, hf⟩ := gbI hf
    obtain ⟨s40, ee41, hf⟩ := gbL hf
    refine kw_lastH rfl (rfl : ktab 117 = some (3, 143)) i39.1 i39.2.1 i39.2.2 ee41 ?_
    refine kw_step (L' := [some (kr 85), some (kI x1), some (kI x2), some (kI (wI (x3 + 1)))]) rfl rfl rfl rfl ?_
    refine kw_goto rfl rfl ?_
    cases hf
    exact kW_le (L' := [some (kr 85), some (kI x1), some (kI x2), some (kI (wI (x3 + 1)))]) ⟨Or.inr rfl, Or.inr rfl, Or.inr rfl, Or.inr rfl, trivial⟩ hq
def f_M_fillsMatrix_15 (x1 : Int) (x2 : Int) (x3 : Int) (s : kM) : Option ((Int × Int × kM) ⊕ (Int × kM)) :=
  gL (fun (x : Int × kM) => f_M_fillsMatrix_15b x1 x2 x.1 x.2) gF (x3, s)
theorem b_M_fillsMatrix_15 {sc : List Int} {Q : Option kV → kH → Prop} (x1 : Int) (x2 : Int) (x3 : Int) (s : kM) (t : (Int × Int × kM) ⊕ (Int × kM)) (hf : f_M_fillsMatrix_15 x1 x2 x3 s = some t) (hq : (gE (fun x => kW sc 3 kc_M_fillsMatrix 1 6 [some (kr 85), some (kI x.1), some (kI x.2.1), none] [] (hH x.2.2) Q) (fun r => Q (some (kI r.1)) (hH r.2))) t) : kW sc 3 kc_M_fillsMatrix 1 15 [some (kr 85), some (kI x1), some (kI x2), some (kI x3)] [] (hH s) Q :=
  gL_ind (P := fun (x : Int × kM) => kW sc 3 kc_M_fillsMatrix 1 15 [some (kr 85), some (kI x1), some (kI x2), some (kI x.1)] [] (hH x.2) Q) (q := (gE (fun x => kW sc 3 kc_M_fillsMatrix 1 6 [some (kr 85), some (kI x.1), some (kI x.2.1), none] [] (hH x.2.2) Q) (fun r => Q (some (kI r.1)) (hH r.2)))) (fun x t hf hq => b_M_fillsMatrix_15b x1 x2 x.1 x.2 t hf hq) gF (x3, s) t hf hq
def f_M_fillsMatrix_6b (x1 : Int) (x2 : Int) (s : kM) : Option ((Int × Int × kM) ⊕ (Int × kM)) :=
  if 11 ≤ x2 then (some (.inr (x1, s))) else ((f_M_isBridge x2 s).bind fun q2 => if q2 = 0 then (f_M_fillsMatrix_86 x1 x2 s) else (f_M_fillsMatrix_15 x1 x2 0 s))
set_option maxRecDepth 8000 in
theorem b_M_fillsMatrix_6b {sc : List Int} {Q : Option kV → kH → Prop} (x1 : Int) (x2 : Int) (s : kM) (t : (Int × Int × kM) ⊕ (Int × kM)) (hf : f_M_fillsMatrix_6b x1 x2 s = some t) (hq : (gE (fun x => kW sc 3 kc_M_fillsMatrix 1 6 [some (kr 85), some (kI x.1), some (kI x.2.1), none] [] (hH x.2.2) Q) (fun r => Q (some (kI r.1)) (hH r.2))) t) : kW sc 3 kc_M_fillsMatrix 1 6 [some (kr 85), some (kI x1), some (kI x2), none] [] (hH s) Q := by
  unfold f_M_fillsMatrix_6b at hf
  refine kw_step rfl rfl rfl rfl ?_
  refine kw_step rfl rfl rfl rfl ?_
  refine kw_icmp_ge rfl rfl (fun c1 => ?_) (fun c1 => ?_)
  · have hf := gift c1 hf
    refine kw_step rfl rfl rfl rfl ?_
    cases hf
    exact kw_ret rfl rfl rfl hq
  · have hf := giff c1 hf
    refine kw_step rfl rfl rfl rfl ?_
    refine kw_step rfl rfl rfl rfl ?_
    obtain ⟨q2, hq2, hf⟩ := gbind hf
    refine kw_callV (vs := [kI x2]) rfl rfl rfl ⟨rfl, Nat.le_of_ble_eq_true rfl, Nat.le_of_ble_eq_true rfl, by decide⟩ (hH_O (rfl : kotab 85 = some kMo)) (c_M_isBridge x2 s _ hq2) (Nat.le_of_ble_eq_true rfl) ?_
    refine kw_if_eq rfl rfl (fun c3 => ?_) (fun c3 => ?_)
    · have hf := gift c3 hf
      exact kW_le (L' := [some (kr 85), some (kI x1), some (kI x2), none]) ⟨Or.inr rfl, Or.inr rfl, Or.inr rfl, Or.inl rfl, trivial⟩ (b_M_fillsMatrix_86 x1 x2 s _ hf hq)
    · have hf := giff c3 hf
      refine kw_step rfl rfl rfl rfl ?_
      refine kw_step (L' := [some (kr 85), some (kI x1), some (kI x2), some (kI 0)]) rfl rfl rfl rfl ?_
      exact kW_le (L' := [some (kr 85), some (kI x1), some (kI x2), some (kI 0)]) ⟨Or.inr rfl, Or.inr rfl, Or.inr rfl, Or.inr rfl, trivial⟩ (b_M_fillsMatrix_15 x1 x2 0 s _ hf hq)
def f_M_fillsMatrix_6 (x1 : Int) (x2 : Int) (s : kM) : Option (Int × kM) :=
  gL (fun (x : Int × Int × kM) => f_M_fillsMatrix_6b x.1 x.2.1 x.2.2) gF (x1, x2, s)
theorem b_M_fillsMatrix_6 {sc : List Int} {Q : Option kV → kH → Prop} (x1 : Int) (x2 : Int) (s : kM) (t : Int × kM) (hf : f_M_fillsMatrix_6 x1 x2 s = some t) (hq : (fun r => Q (some (kI r.1)) (hH r.2)) t) : kW sc 3 kc_M_fillsMatrix 1 6 [some (kr 85), some (kI x1), some (kI x2), none] [] (hH s) Q :=
  gL_ind (P := fun (x : Int × Int × kM) => kW sc 3 kc_M_fillsMatrix 1 6 [some (kr 85), some (kI x.1), some (kI x.2.1), none] [] (hH x.2.2) Q) (q := (fun r => Q (some (kI r.1)) (hH r.2))) (fun x t hf hq => b_M_fillsMatrix_6b x.1 x.2.1 x.2.2 t hf hq) gF (x1, x2, s) t hf hq
def f_M_fillsMatrix (s : kM) : Option (Int × kM) :=
  (f_M_fillsBows s).bind fun q1 => f_M_fillsMatrix_6 0 0 q1
set_option maxRecDepth 8000 in
theorem c_M_fillsMatrix {sc : List Int} (s : kM) (t : Int × kM) (hf : f_M_fillsMatrix s = some t) : kR sc 3 km_M_fillsMatrix [kr 85] (hH s) (some (kI t.1)) (hH t.2) := by
  unfold f_M_fillsMatrix at hf
  refine kR.start rfl ?_
  show kW sc 3 kc_M_fillsMatrix 1 0 [some (kr 85), none, none, none] [] (hH s) _
  have hq : (fun (r : Option kV) (g : kH) => r = some (kI t.1) ∧ g = hH t.2) (some (kI t.1)) (hH t.2) := ⟨rfl, rfl⟩
  refine kw_step rfl rfl rfl rfl ?_
  obtain ⟨q1, hq1, hf⟩ := gbind hf
  refine kw_callV (vs := []) rfl rfl rfl ⟨rfl, Nat.le_of_ble_eq_true rfl, Nat.le_of_ble_eq_true rfl, by decide⟩ (hH_O (rfl : kotab 85 = some kMo)) (c_M_fillsBows s _ hq1) (Nat.le_of_ble_eq_true rfl) ?_
  refine kw_step rfl rfl rfl rfl ?_
  refine kw_step (L' := [some (kr 85), some (kI 0), none, none]) rfl rfl rfl rfl ?_
  refine kw_step rfl rfl rfl rfl ?_
  refine kw_step (L' := [some (kr 85), some (kI 0), some (kI 0), none]) rfl rfl rfl rfl ?_
  exact kW_le (L' := [some (kr 85), some (kI 0), some (kI 0), none]) ⟨Or.inr rfl, Or.inr rfl, Or.inr rfl, Or.inl rfl, trivial⟩ (b_M_fillsMatrix_6 0 0 q1 _ hf hq)
def f_M_modulo (x0 : Int) (x2 : Int) (s : kM) : Option (Int) :=
  (gD x2).bind fun _ => (gD x2).bind fun _ => some (klrem (wL ((klrem x0 x2) + x2)) x2)
set_option maxRecDepth 8000 in
theorem c_M_modulo {sc : List Int} (x0 : Int) (x2 : Int) (s : kM) (t : Int) (hf : f_M_modulo x0 x2 s = some t) : kR sc 0 km_M_modulo [kJ x0, kI x2] (hH s) (some (kJ t)) (hH s) := by
  unfold f_M_modulo at hf
  refine kR.start rfl ?_
  show kW sc 0 kc_M_modulo 3 0 [some (kJ x0), none, some (kI x2)] [] (hH s) _
  have hq : (fun (r : Option kV) (g : kH) => r = some (kJ t) ∧ g = hH s) (some (kJ t)) (hH s) := ⟨rfl, rfl⟩
  refine kw_step rfl rfl rfl rfl ?_
  refine kw_step rfl rfl rfl rfl ?_
  refine kw_step rfl rfl rfl rfl ?_
  obtain ⟨z1, hf⟩ := gbD hf
  refine kw_lrem rfl z1 ?_
  refine kw_step rfl rfl rfl rfl ?_
  refine kw_step rfl rfl rfl rfl ?_
  refine kw_step rfl rfl rfl rfl ?_
  refine kw_step rfl rfl rfl rfl ?_
  refine kw_step rfl rfl rfl rfl ?_
  obtain ⟨z2, hf⟩ := gbD hf
  refine kw_lrem rfl z2 ?_
  cases hf
  exact kw_ret rfl rfl rfl hq
def f_M_swapsRows_2b (x1 : Int) (x2 : Int) (x3 : Int) (s : kM) : Option ((Int × kM) ⊕ (kM)) :=
  if 13 ≤ x3 then (some (.inr s)) else ((gI 143 (wI ((wI (13 * x1)) + x3))).bind fun j2 => (gI 143 (wI ((wI (13 * x2)) + x3))).bind fun j4 => (gI 143 (wI ((wI (13 * x1)) + x3))).bind fun j6 => gLet (gU s 117 j6 (s 117 j4)) fun s8 => (gI 143 (wI ((wI (13 * x2)) + x3))).bind fun j11 => gLet (gU s8 117 j11 (s 117 j2)) fun s13 => some (.inl ((wI (x3 + 1)), s13)))
set_option maxRecDepth 8000 in
theorem b_M_swapsRows_2b {sc : List Int} {Q : Option kV → kH → Prop} (x1 : Int) (x2 : Int) (x3 : Int) (s : kM) (t : (Int × kM) ⊕ (kM)) (hf : f_M_swapsRows_2b x1 x2 x3 s = some t) (hq : (gE (fun x => kW sc 0 kc_M_swapsRows 0 2 [some (kr 85), some (kI x1), some (kI x2), some (kI x.1), none, none] [] (hH x.2) Q) (fun r => Q none (hH r))) t) : kW sc 0 kc_M_swapsRows 0 2 [some (kr 85), some (kI x1), some (kI x2), some (kI x3), none, none] [] (hH s) Q := by
  unfold f_M_swapsRows_2b at hf
  refine kw_step rfl rfl rfl rfl ?_
  refine kw_step rfl rfl rfl rfl ?_
  refine kw_icmp_ge rfl rfl (fun c1 => ?_) (fun c1 => ?_)
  · have hf := gift c1 hf
    cases hf
    exact kw_ret rfl rfl rfl hq
  · have hf := giff c1 hf
    refine kw_step rfl rfl rfl rfl ?_
    refine kw_get rfl (hH_O (rfl : kotab 85 = some kMo)) rfl ?_
    refine kw_step rfl rfl rfl rfl ?_
    refine kw_step rfl rfl rfl rfl ?_
    refine kw_step rfl rfl rfl rfl ?_
    refine kw_step rfl rfl rfl rfl ?_
    refine kw_step rfl rfl rfl rfl ?_
    obtain ⟨j2, i3, hf⟩ := gbI hf
    refine kw_lald rfl (hH_A (rfl : ktab 117 = some (3, 143))) i3.1 i3.2.1 i3.2.2 ?_
    refine kw_step (L' := [some (kr 85), some (kI x1), some (kI x2), some (kI x3), some (kJ (s 117 j2)), none]) rfl rfl rfl rfl ?_
    refine kw_step rfl rfl rfl rfl ?_
    refine kw_get rfl (hH_O (rfl : kotab 85 = some kMo)) rfl ?_
    refine kw_step rfl rfl rfl rfl ?_
    refine kw_step rfl rfl rfl rfl ?_
    refine kw_step rfl rfl rfl rfl ?_
    refine kw_step rfl rfl rfl rfl ?_
    refine kw_step rfl rfl rfl rfl ?_
    refine kw_step rfl rfl rfl rfl ?_
    refine kw_get rfl (hH_O (rfl : kotab 85 = some kMo)) rfl ?_
    refine kw_step rfl rfl rfl rfl ?_
    refine kw_step rfl rfl rfl rfl ?_
    refine kw_step rfl rfl rfl rfl ?_
    refine kw_step rfl rfl rfl rfl ?_
    refine kw_step rfl rfl rfl rfl ?_
    obtain ⟨j4, i5, hf⟩ := gbI hf
    refine kw_lald rfl (hH_A (rfl : ktab 117 = some (3, 143))) i5.1 i5.2.1 i5.2.2 ?_
    obtain ⟨j6, i7, hf⟩ := gbI hf
    obtain ⟨s8, ee9, hf⟩ := gbL hf
    refine kw_lastH rfl (rfl : ktab 117 = some (3, 143)) i7.1 i7.2.1 i7.2.2 ee9 ?_
    refine kw_step rfl rfl rfl rfl ?_
    refine kw_get rfl (hH_O (rfl : kotab 85 = some kMo)) rfl ?_
    refine kw_step rfl rfl rfl rfl ?_
    refine kw_step rfl rfl rfl rfl ?_
    refine kw_step rfl rfl rfl rfl ?_
    refine kw_step rfl rfl rfl rfl ?_
    refine kw_step rfl rfl rfl rfl ?_
    refine kw_step rfl rfl rfl rfl ?_
    obtain ⟨j11, i12, hf⟩ := gbI hf
    obtain ⟨s13, ee14, hf⟩ := gbL hf
    refine kw_lastH rfl (rfl : ktab 117 = some (3, 143)) i12.1 i12.2.1 i12.2.2 ee14 ?_
    refine kw_step (L' := [some (kr 85), some (kI x1), some (kI x2), some (kI (wI (x3 + 1))), some (kJ (s 117 j2)), none]) rfl rfl rfl rfl ?_
    refine kw_goto rfl rfl ?_
    cases hf
    exact kW_le (L' := [some (kr 85), some (kI x1), some (kI x2), some (kI (wI (x3 + 1))), none, none]) ⟨Or.inr rfl, Or.inr rfl, Or.inr rfl, Or.inr rfl, Or.inl rfl, Or.inl rfl, trivial⟩ hq
def f_M_swapsRows_2 (x1 : Int) (x2 : Int) (x3 : Int) (s : kM) : Option (kM) :=
  gL (fun (x : Int × kM) => f_M_swapsRows_2b x1 x2 x.1 x.2) gF (x3, s)
theorem b_M_swapsRows_2 {sc : List Int} {Q : Option kV → kH → Prop} (x1 : Int) (x2 : Int) (x3 : Int) (s : kM) (t : kM) (hf : f_M_swapsRows_2 x1 x2 x3 s = some t) (hq : (fun r => Q none (hH r)) t) : kW sc 0 kc_M_swapsRows 0 2 [some (kr 85), some (kI x1), some (kI x2), some (kI x3), none, none] [] (hH s) Q :=
  gL_ind (P := fun (x : Int × kM) => kW sc 0 kc_M_swapsRows 0 2 [some (kr 85), some (kI x1), some (kI x2), some (kI x.1), none, none] [] (hH x.2) Q) (q := (fun r => Q none (hH r))) (fun x t hf hq => b_M_swapsRows_2b x1 x2 x.1 x.2 t hf hq) gF (x3, s) t hf hq
def f_M_swapsRows (x1 : Int) (x2 : Int) (s : kM) : Option (kM) :=
  f_M_swapsRows_2 x1 x2 0 s
set_option maxRecDepth 8000 in
theorem c_M_swapsRows {sc : List Int} (x1 : Int) (x2 : Int) (s : kM) (t : kM) (hf : f_M_swapsRows x1 x2 s = some t) : kR sc 0 km_M_swapsRows [kr 85, kI x1, kI x2] (hH s) none (hH t) := by
  unfold f_M_swapsRows at hf
  refine kR.start rfl ?_
  show kW sc 0 kc_M_swapsRows 0 0 [some (kr 85), some (kI x1), some (kI x2), none, none, none] [] (hH s) _
  have hq : (fun (r : Option kV) (g : kH) => r = none ∧ g = hH t) none (hH t) := ⟨rfl, rfl⟩
  refine kw_step rfl rfl rfl rfl ?_
  refine kw_step (L' := [some (kr 85), some (kI x1), some (kI x2), some (kI 0), none, none]) rfl rfl rfl rfl ?_
  exact kW_le (L' := [some (kr 85), some (kI x1), some (kI x2), some (kI 0), none, none]) ⟨Or.inr rfl, Or.inr rfl, Or.inr rfl, Or.inr rfl, Or.inl rfl, Or.inl rfl, trivial⟩ (b_M_swapsRows_2 x1 x2 0 s _ hf hq)
def f_M_inverse_2b (x0 : Int) (x2 : Int) (x3 : Int) (s : kM) : Option ((Int) ⊕ (Int)) :=
  (gD x2).bind fun _ => if (klrem (wL (x0 * x3)) x2) = 1 then (some (.inr x3)) else (some (.inl ((wL (x3 + 1)))))
set_option maxRecDepth 8000 in
theorem b_M_inverse_2b {sc : List Int} {Q : Option kV → kH → Prop} (x0 : Int) (x2 : Int) (x3 : Int) (s : kM) (t : (Int) ⊕ (Int)) (hf : f_M_inverse_2b x0 x2 x3 s = some t) (hq : (gE (fun x => kW sc 0 kc_M_inverse 3 2 [some (kJ x0), none, some (kI x2), some (kJ x), none] [] (hH s) Q) (fun r => Q (some (kJ r)) (hH s))) t) : kW sc 0 kc_M_inverse 3 2 [some (kJ x0), none, some (kI x2), some (kJ x3), none] [] (hH s) Q := by
  unfold f_M_inverse_2b at hf
  refine kw_step rfl rfl rfl rfl ?_
  refine kw_step rfl rfl rfl rfl ?_
  refine kw_step rfl rfl rfl rfl ?_
  refine kw_step rfl rfl rfl rfl ?_
  refine kw_step rfl rfl rfl rfl ?_
  obtain ⟨z1, hf⟩ := gbD hf
  refine kw_lrem rfl z1 ?_
  refine kw_step rfl rfl rfl rfl ?_
  refine kw_lc_eq rfl rfl rfl (fun c2 => ?_) (fun c2 => ?_)
  · have hf := gift c2 hf
    refine kw_step rfl rfl rfl rfl ?_
    cases hf
    exact kw_ret rfl rfl rfl hq
  · have hf := giff c2 hf
    refine kw_step rfl rfl rfl rfl ?_
    refine kw_step rfl rfl rfl rfl ?_
    refine kw_step rfl rfl rfl rfl ?_
    refine kw_step (L' := [some (kJ x0), none, some (kI x2), some (kJ (wL (x3 + 1))), none]) rfl rfl rfl rfl ?_
    refine kw_goto rfl rfl ?_
    cases hf
    exact kW_le (L' := [some (kJ x0), none, some (kI x2), some (kJ (wL (x3 + 1))), none]) ⟨Or.inr rfl, Or.inl rfl, Or.inr rfl, Or.inr rfl, Or.inl rfl, trivial⟩ hq
def f_M_inverse_2 (x0 : Int) (x2 : Int) (x3 : Int) (s : kM) : Option (Int) :=
  gL (fun (x : Int) => f_M_inverse_2b x0 x2 x s) gF (x3)
theorem b_M_inverse_2 {sc : List Int} {Q : Option kV → kH → Prop} (x0 : Int) (x2 : Int) (x3 : Int) (s : kM) (t : Int) (hf : f_M_inverse_2 x0 x2 x3 s = some t) (hq : (fun r => Q (some (kJ r)) (hH s)) t) : kW sc 0 kc_M_inverse 3 2 [some (kJ x0), none, some (kI x2), some (kJ x3), none] [] (hH s) Q :=
  gL_ind (P := fun (x : Int) => kW sc 0 kc_M_inverse 3 2 [some (kJ x0), none, some (kI x2), some (kJ x), none] [] (hH s) Q) (q := (fun r => Q (some (kJ r)) (hH s))) (fun x t hf hq => b_M_inverse_2b x0 x2 x s t hf hq) gF (x3) t hf hq
def f_M_inverse (x0 : Int) (x2 : Int) (s : kM) : Option (Int) :=
  f_M_inverse_2 x0 x2 1 s
set_option maxRecDepth 8000 in
theorem c_M_inverse {sc : List Int} (x0 : Int) (x2 : Int) (s : kM) (t : Int) (hf : f_M_inverse x0 x2 s = some t) : kR sc 0 km_M_inverse [kJ x0, kI x2] (hH s) (some (kJ t)) (hH s) := by
  unfold f_M_inverse at hf
  refine kR.start rfl ?_
  show kW sc 0 kc_M_inverse 3 0 [some (kJ x0), none, some (kI x2), none, none] [] (hH s) _
  have hq : (fun (r : Option kV) (g : kH) => r = some (kJ t) ∧ g = hH s) (some (kJ t)) (hH s) := ⟨rfl, rfl⟩
  refine kw_step rfl rfl rfl rfl ?_
  refine kw_step (L' := [some (kJ x0), none, some (kI x2), some (kJ 1), none]) rfl rfl rfl rfl ?_
  exact kW_le (L' := [some (kJ x0), none, some (kI x2), some (kJ 1), none]) ⟨Or.inr rfl, Or.inl rfl, Or.inr rfl, Or.inr rfl, Or.inl rfl, trivial⟩ (b_M_inverse_2 x0 x2 1 s _ hf hq)
