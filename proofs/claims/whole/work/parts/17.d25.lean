/-! PRINTED by wip/whole/decall.py: methods as functions over the flat world, with their contracts -/
def f_M_adds_10b (x1 : Int) (x2 : Int) (x3 : Int) (x4 : Int) (s : kM) : Option ((Int × Int × kM) ⊕ (kM)) :=
  if x2 < x4 then (some (.inr s)) else ((gI 199 (wI ((wI ((wI (99 + x1)) + (wI (2 * x2)))) - (wI (4 * x4))))).bind fun j2 => (gI 199 (wI ((wI ((wI (99 + x1)) + (wI (2 * x2)))) - (wI (4 * x4))))).bind fun j4 => gLet (gU s 118 j4 (wI ((s 118 j2) + x3))) fun s6 => (gD (wI (x4 + 1))).bind fun _ => some (.inl ((kdiv (wI (x3 * (wI (x2 - x4)))) (wI (x4 + 1))), (wI (x4 + 1)), s6)))
set_option maxRecDepth 8000 in
theorem b_M_adds_10b {sc : List Int} {Q : Option kV → kH → Prop} (x1 : Int) (x2 : Int) (x3 : Int) (x4 : Int) (s : kM) (t : (Int × Int × kM) ⊕ (kM)) (hf : f_M_adds_10b x1 x2 x3 x4 s = some t) (hq : (gE (fun x => kW sc 0 kc_M_adds 0 10 [some (kr 85), some (kI x1), some (kI x2), some (kI x.1), some (kI x.2.1)] [] (hH x.2.2) Q) (fun r => Q none (hH r))) t) : kW sc 0 kc_M_adds 0 10 [some (kr 85), some (kI x1), some (kI x2), some (kI x3), some (kI x4)] [] (hH s) Q := by
  unfold f_M_adds_10b at hf
  refine kw_step rfl rfl rfl rfl ?_
  refine kw_step rfl rfl rfl rfl ?_
  refine kw_icmp_gt rfl rfl (fun c1 => ?_) (fun c1 => ?_)
  · have hf := gift c1 hf
    cases hf
    exact kw_ret rfl rfl rfl hq
  · have hf := giff c1 hf
    refine kw_step rfl rfl rfl rfl ?_
    refine kw_get rfl (hH_O (rfl : kotab 85 = some kMo)) rfl ?_
    refine kw_step rfl rfl rfl rfl ?_
    refine kw_step rfl rfl rfl rfl ?_
    refine kw_step rfl rfl rfl rfl ?_
    refine kw_step rfl rfl rfl rfl ?_
    refine kw_step rfl rfl rfl rfl ?_
    refine kw_step rfl rfl rfl rfl ?_
    refine kw_step rfl rfl rfl rfl ?_
    refine kw_step rfl rfl rfl rfl ?_
    refine kw_step rfl rfl rfl rfl ?_
    refine kw_step rfl rfl rfl rfl ?_
    refine kw_step rfl rfl rfl rfl ?_
    refine kw_step rfl rfl rfl rfl ?_
    obtain ⟨j2, i3, hf⟩ := gbI hf
    refine kw_iald rfl (hH_A (rfl : ktab 118 = some (0, 199))) i3.1 i3.2.1 i3.2.2 ?_
    refine kw_step rfl rfl rfl rfl ?_
    refine kw_step rfl rfl rfl rfl ?_
    obtain ⟨j4, i5, hf⟩ := gbI hf
    obtain ⟨s6, ee7, hf⟩ := gbL hf
    refine kw_iastH rfl (rfl : ktab 118 = some (0, 199)) i5.1 i5.2.1 i5.2.2 ee7 ?_
    refine kw_step rfl rfl rfl rfl ?_
    refine kw_step rfl rfl rfl rfl ?_
    refine kw_step rfl rfl rfl rfl ?_
    refine kw_step rfl rfl rfl rfl ?_
    refine kw_step rfl rfl rfl rfl ?_
    refine kw_step rfl rfl rfl rfl ?_
    refine kw_step rfl rfl rfl rfl ?_
    refine kw_step rfl rfl rfl rfl ?_
    obtain ⟨z9, hf⟩ := gbD hf
    refine kw_idiv rfl z9 ?_
    refine kw_step (L' := [some (kr 85), some (kI x1), some (kI x2), some (kI (kdiv (wI (x3 * (wI (x2 - x4)))) (wI (x4 + 1)))), some (kI x4)]) rfl rfl rfl rfl ?_
    refine kw_step (L' := [some (kr 85), some (kI x1), some (kI x2), some (kI (kdiv (wI (x3 * (wI (x2 - x4)))) (wI (x4 + 1)))), some (kI (wI (x4 + 1)))]) rfl rfl rfl rfl ?_
    refine kw_goto rfl rfl ?_
    cases hf
    exact kW_le (L' := [some (kr 85), some (kI x1), some (kI x2), some (kI (kdiv (wI (x3 * (wI (x2 - x4)))) (wI (x4 + 1)))), some (kI (wI (x4 + 1)))]) ⟨Or.inr rfl, Or.inr rfl, Or.inr rfl, Or.inr rfl, Or.inr rfl, trivial⟩ hq
def f_M_adds_10 (x1 : Int) (x2 : Int) (x3 : Int) (x4 : Int) (s : kM) : Option (kM) :=
  gL (fun (x : Int × Int × kM) => f_M_adds_10b x1 x2 x.1 x.2.1 x.2.2) gF (x3, x4, s)
theorem b_M_adds_10 {sc : List Int} {Q : Option kV → kH → Prop} (x1 : Int) (x2 : Int) (x3 : Int) (x4 : Int) (s : kM) (t : kM) (hf : f_M_adds_10 x1 x2 x3 x4 s = some t) (hq : (fun r => Q none (hH r)) t) : kW sc 0 kc_M_adds 0 10 [some (kr 85), some (kI x1), some (kI x2), some (kI x3), some (kI x4)] [] (hH s) Q :=
  gL_ind (P := fun (x : Int × Int × kM) => kW sc 0 kc_M_adds 0 10 [some (kr 85), some (kI x1), some (kI x2), some (kI x.1), some (kI x.2.1)] [] (hH x.2.2) Q) (q := (fun r => Q none (hH r))) (fun x t hf hq => b_M_adds_10b x1 x2 x.1 x.2.1 x.2.2 t hf hq) gF (x3, x4, s) t hf hq
def f_M_adds_7 (x1 : Int) (x2 : Int) (y0 : Int) (s : kM) : Option (kM) :=
  f_M_adds_10 x1 x2 y0 0 s
set_option maxRecDepth 8000 in
theorem b_M_adds_7 {sc : List Int} {Q : Option kV → kH → Prop} (x1 : Int) (x2 : Int) (y0 : Int) (s : kM) (t : kM) (hf : f_M_adds_7 x1 x2 y0 s = some t) (hq : (fun r => Q none (hH r)) t) : kW sc 0 kc_M_adds 0 7 [some (kr 85), some (kI x1), some (kI x2), none, none] [kI y0] (hH s) Q := by
  unfold f_M_adds_7 at hf
  refine kw_step (L' := [some (kr 85), some (kI x1), some (kI x2), some (kI y0), none]) rfl rfl rfl rfl ?_
  refine kw_step rfl rfl rfl rfl ?_
  refine kw_step (L' := [some (kr 85), some (kI x1), some (kI x2), some (kI y0), some (kI 0)]) rfl rfl rfl rfl ?_
  exact kW_le (L' := [some (kr 85), some (kI x1), some (kI x2), some (kI y0), some (kI 0)]) ⟨Or.inr rfl, Or.inr rfl, Or.inr rfl, Or.inr rfl, Or.inr rfl, trivial⟩ (b_M_adds_10 x1 x2 y0 0 s _ hf hq)
def f_M_adds (x1 : Int) (x2 : Int) (s : kM) : Option (kM) :=
  if (krem x2 2) = 0 then (f_M_adds_7 x1 x2 1 s) else (f_M_adds_7 x1 x2 (-1) s)
set_option maxRecDepth 8000 in
theorem c_M_adds {sc : List Int} (x1 : Int) (x2 : Int) (s : kM) (t : kM) (hf : f_M_adds x1 x2 s = some t) : kR sc 0 km_M_adds [kr 85, kI x1, kI x2] (hH s) none (hH t) := by
  unfold f_M_adds at hf
  refine kR.start rfl ?_
  show kW sc 0 kc_M_adds 0 0 [some (kr 85), some (kI x1), some (kI x2), none, none] [] (hH s) _
  have hq : (fun (r : Option kV) (g : kH) => r = none ∧ g = hH t) none (hH t) := ⟨rfl, rfl⟩
  refine kw_step rfl rfl rfl rfl ?_
  refine kw_step rfl rfl rfl rfl ?_
  refine kw_irem rfl (by decide) ?_
  refine kw_if_ne rfl rfl (fun c1 => ?_) (fun c1 => ?_)
  · have hf := giff c1 hf
    refine kw_step rfl rfl rfl rfl ?_
    exact kW_le (L' := [some (kr 85), some (kI x1), some (kI x2), none, none]) ⟨Or.inr rfl, Or.inr rfl, Or.inr rfl, Or.inl rfl, Or.inl rfl, trivial⟩ (b_M_adds_7 x1 x2 (-1) s _ hf hq)
  · have hf := gift c1 hf
    refine kw_step rfl rfl rfl rfl ?_
    refine kw_goto rfl rfl ?_
    exact kW_le (L' := [some (kr 85), some (kI x1), some (kI x2), none, none]) ⟨Or.inr rfl, Or.inr rfl, Or.inr rfl, Or.inl rfl, Or.inl rfl, trivial⟩ (b_M_adds_7 x1 x2 1 s _ hf hq)
def f_M_fillsBracket_39 (x1 : Int) (x2 : Int) (s : kM) : Option ((Int × kM) ⊕ (kM)) :=
  some (.inl ((wI (x2 + 1)), s))
set_option maxRecDepth 8000 in
theorem b_M_fillsBracket_39 {sc : List Int} {Q : Option kV → kH → Prop} (x1 : Int) (x2 : Int) (s : kM) (t : (Int × kM) ⊕ (kM)) (hf : f_M_fillsBracket_39 x1 x2 s = some t) (hq : (gE (fun x => kW sc 3 kc_M_fillsBracket 0 17 [some (kr 85), some (kI x1), some (kI x.1)] [] (hH x.2) Q) (fun r => Q none (hH r))) t) : kW sc 3 kc_M_fillsBracket 0 39 [some (kr 85), some (kI x1), some (kI x2)] [] (hH s) Q := by
  unfold f_M_fillsBracket_39 at hf
  refine kw_step (L' := [some (kr 85), some (kI x1), some (kI (wI (x2 + 1)))]) rfl rfl rfl rfl ?_
  refine kw_goto rfl rfl ?_
  cases hf
  exact kW_le (L' := [some (kr 85), some (kI x1), some (kI (wI (x2 + 1)))]) ⟨Or.inr rfl, Or.inr rfl, Or.inr rfl, trivial⟩ hq
def f_M_fillsBracket_17b (x1 : Int) (x2 : Int) (s : kM) : Option ((Int × kM) ⊕ (kM)) :=
  if 2048 ≤ x2 then (some (.inr s)) else (if (kand x2 x1) = x2 then ((f_M_ones x2 s).bind fun q3 => (f_M_many s).bind fun q4 => (f_M_rings x2 s).bind fun q5 => (f_M_adds (wI ((wI (2 * q3)) - q4)) (wI (q5.1 - 1)) q5.2).bind fun q7 => f_M_fillsBracket_39 x1 x2 q7) else (f_M_fillsBracket_39 x1 x2 s))
set_option maxRecDepth 8000 in
theorem b_M_fillsBracket_17b {sc : List Int} {Q : Option kV → kH → Prop} (x1 : Int) (x2 : Int) (s : kM) (t : (Int × kM) ⊕ (kM)) (hf : f_M_fillsBracket_17b x1 x2 s = some t) (hq : (gE (fun x => kW sc 3 kc_M_fillsBracket 0 17 [some (kr 85), some (kI x1), some (kI x.1)] [] (hH x.2) Q) (fun r => Q none (hH r))) t) : kW sc 3 kc_M_fillsBracket 0 17 [some (kr 85), some (kI x1), some (kI x2)] [] (hH s) Q := by
  unfold f_M_fillsBracket_17b at hf
  refine kw_step rfl rfl rfl rfl ?_
  refine kw_step rfl rfl rfl rfl ?_
  refine kw_icmp_ge rfl rfl (fun c1 => ?_) (fun c1 => ?_)
  · have hf := gift c1 hf
    cases hf
    exact kw_ret rfl rfl rfl hq
  · have hf := giff c1 hf
    refine kw_step rfl rfl rfl rfl ?_
    refine kw_step rfl rfl rfl rfl ?_
    refine kw_step rfl rfl rfl rfl ?_
    refine kw_step rfl rfl rfl rfl ?_
    refine kw_icmp_ne rfl rfl (fun c2 => ?_) (fun c2 => ?_)
    · have hf := giff c2 hf
      exact kW_le (L' := [some (kr 85), some (kI x1), some (kI x2)]) ⟨Or.inr rfl, Or.inr rfl, Or.inr rfl, trivial⟩ (b_M_fillsBracket_39 x1 x2 s _ hf hq)
    · have hf := gift c2 hf
      refine kw_step rfl rfl rfl rfl ?_
      refine kw_step rfl rfl rfl rfl ?_
      refine kw_step rfl rfl rfl rfl ?_
      obtain ⟨q3, hq3, hf⟩ := gbind hf
      refine kw_callS (vs := [kI x2]) rfl rfl rfl ⟨rfl, Nat.le_of_ble_eq_true rfl, Nat.le_of_ble_eq_true rfl, rfl⟩ (c_M_ones x2 s _ hq3) (Nat.le_of_ble_eq_true rfl) ?_
      refine kw_step rfl rfl rfl rfl ?_
      refine kw_step rfl rfl rfl rfl ?_
      obtain ⟨q4, hq4, hf⟩ := gbind hf
      refine kw_callV (vs := []) rfl rfl rfl ⟨rfl, Nat.le_of_ble_eq_true rfl, Nat.le_of_ble_eq_true rfl, by decide⟩ (hH_O (rfl : kotab 85 = some kMo)) (c_M_many s _ hq4) (Nat.le_of_ble_eq_true rfl) ?_
      refine kw_step rfl rfl rfl rfl ?_
      refine kw_step rfl rfl rfl rfl ?_
      refine kw_step rfl rfl rfl rfl ?_
      obtain ⟨q5, hq5, hf⟩ := gbind hf
      refine kw_callV (vs := [kI x2]) rfl rfl rfl ⟨rfl, Nat.le_of_ble_eq_true rfl, Nat.le_of_ble_eq_true rfl, by decide⟩ (hH_O (rfl : kotab 85 = some kMo)) (c_M_rings x2 s _ hq5) (Nat.le_of_ble_eq_true rfl) ?_
      refine kw_step rfl rfl rfl rfl ?_
      refine kw_step rfl rfl rfl rfl ?_
      obtain ⟨q7, hq7, hf⟩ := gbind hf
      refine kw_callV (vs := [kI (wI ((wI (2 * q3)) - q4)), kI (wI (q5.1 - 1))]) rfl rfl rfl ⟨rfl, Nat.le_of_ble_eq_true rfl, Nat.le_of_ble_eq_true rfl, by decide⟩ (hH_O (rfl : kotab 85 = some kMo)) (c_M_adds (wI ((wI (2 * q3)) - q4)) (wI (q5.1 - 1)) q5.2 _ hq7) (Nat.le_of_ble_eq_true rfl) ?_
      exact kW_le (L' := [some (kr 85), some (kI x1), some (kI x2)]) ⟨Or.inr rfl, Or.inr rfl, Or.inr rfl, trivial⟩ (b_M_fillsBracket_39 x1 x2 q7 _ hf hq)
def f_M_fillsBracket_17 (x1 : Int) (x2 : Int) (s : kM) : Option (kM) :=
  gL (fun (x : Int × kM) => f_M_fillsBracket_17b x1 x.1 x.2) gF (x2, s)
theorem b_M_fillsBracket_17 {sc : List Int} {Q : Option kV → kH → Prop} (x1 : Int) (x2 : Int) (s : kM) (t : kM) (hf : f_M_fillsBracket_17 x1 x2 s = some t) (hq : (fun r => Q none (hH r)) t) : kW sc 3 kc_M_fillsBracket 0 17 [some (kr 85), some (kI x1), some (kI x2)] [] (hH s) Q :=
  gL_ind (P := fun (x : Int × kM) => kW sc 3 kc_M_fillsBracket 0 17 [some (kr 85), some (kI x1), some (kI x.1)] [] (hH x.2) Q) (q := (fun r => Q none (hH r))) (fun x t hf hq => b_M_fillsBracket_17b x1 x.1 x.2 t hf hq) gF (x2, s) t hf hq
def f_M_fillsBracket_2b (x1 : Int) (s : kM) : Option ((Int × kM) ⊕ (kM)) :=
  if 199 ≤ x1 then ((f_M_presentSet s).bind fun q2 => (f_M_fillsBracket_17 q2 0 s).map Sum.inr) else ((gI 199 x1).bind fun j5 => gLet (gU s 118 j5 0) fun s7 => some (.inl ((wI (x1 + 1)), s7)))
set_option maxRecDepth 8000 in
theorem b_M_fillsBracket_2b {sc : List Int} {Q : Option kV → kH → Prop} (x1 : Int) (s : kM) (t : (Int × kM) ⊕ (kM)) (hf : f_M_fillsBracket_2b x1 s = some t) (hq : (gE (fun x => kW sc 3 kc_M_fillsBracket 0 2 [some (kr 85), some (kI x.1), none] [] (hH x.2) Q) (fun r => Q none (hH r))) t) : kW sc 3 kc_M_fillsBracket 0 2 [some (kr 85), some (kI x1), none] [] (hH s) Q := by
  unfold f_M_fillsBracket_2b at hf
  refine kw_step rfl rfl rfl rfl ?_
  refine kw_step rfl rfl rfl rfl ?_
  refine kw_icmp_ge rfl rfl (fun c1 => ?_) (fun c1 => ?_)
  · have hf := gift c1 hf
    refine kw_step rfl rfl rfl rfl ?_
    obtain ⟨q2, hq2, hf⟩ := gbind hf
    refine kw_callV (vs := []) rfl rfl rfl ⟨rfl, Nat.le_of_ble_eq_true rfl, Nat.le_of_ble_eq_true rfl, by decide⟩ (hH_O (rfl : kotab 85 = some kMo)) (c_M_presentSet s _ hq2) (Nat.le_of_ble_eq_true rfl) ?_
    refine kw_step (L' := [some (kr 85), some (kI q2), none]) rfl rfl rfl rfl ?_
    refine kw_step rfl rfl rfl rfl ?_
    refine kw_step (L' := [some (kr 85), some (kI q2), some (kI 0)]) rfl rfl rfl rfl ?_
    obtain ⟨t3, hg4, rfl⟩ := gmap hf
    exact kW_le (L' := [some (kr 85), some (kI q2), some (kI 0)]) ⟨Or.inr rfl, Or.inr rfl, Or.inr rfl, trivial⟩ (b_M_fillsBracket_17 q2 0 s _ hg4 hq)
  · have hf := giff c1 hf
    refine kw_step rfl rfl rfl rfl ?_
    refine kw_get rfl (hH_O (rfl : kotab 85 = some kMo)) rfl ?_
    refine kw_step rfl rfl rfl rfl ?_
    refine kw_step rfl rfl rfl rfl ?_
    obtain ⟨j5, i6, hf⟩ := gbI hf
    obtain ⟨s7, ee8, hf⟩ := gbL hf
    refine kw_iastH rfl (rfl : ktab 118 = some (0, 199)) i6.1 i6.2.1 i6.2.2 ee8 ?_
    refine kw_step (L' := [some (kr 85), some (kI (wI (x1 + 1))), none]) rfl rfl rfl rfl ?_
    refine kw_goto rfl rfl ?_
    cases hf
    exact kW_le (L' := [some (kr 85), some (kI (wI (x1 + 1))), none]) ⟨Or.inr rfl, Or.inr rfl, Or.inl rfl, trivial⟩ hq
def f_M_fillsBracket_2 (x1 : Int) (s : kM) : Option (kM) :=
  gL (fun (x : Int × kM) => f_M_fillsBracket_2b x.1 x.2) gF (x1, s)
theorem b_M_fillsBracket_2 {sc : List Int} {Q : Option kV → kH → Prop} (x1 : Int) (s : kM) (t : kM) (hf : f_M_fillsBracket_2 x1 s = some t) (hq : (fun r => Q none (hH r)) t) : kW sc 3 kc_M_fillsBracket 0 2 [some (kr 85), some (kI x1), none] [] (hH s) Q :=
  gL_ind (P := fun (x : Int × kM) => kW sc 3 kc_M_fillsBracket 0 2 [some (kr 85), some (kI x.1), none] [] (hH x.2) Q) (q := (fun r => Q none (hH r))) (fun x t hf hq => b_M_fillsBracket_2b x.1 x.2 t hf hq) gF (x1, s) t hf hq
def f_M_fillsBracket (s : kM) : Option (kM) :=
  f_M_fillsBracket_2 0 s
set_option maxRecDepth 8000 in
theorem c_M_fillsBracket {sc : List Int} (s : kM) (t : kM) (hf : f_M_fillsBracket s = some t) : kR sc 3 km_M_fillsBracket [kr 85] (hH s) none (hH t) := by
  unfold f_M_fillsBracket at hf
  refine kR.start rfl ?_
  show kW sc 3 kc_M_fillsBracket 0 0 [some (kr 85), none, none] [] (hH s) _
  have hq : (fun (r : Option kV) (g : kH) => r = none ∧ g = hH t) none (hH t) := ⟨rfl, rfl⟩
  refine kw_step rfl rfl rfl rfl ?_
  refine kw_step (L' := [some (kr 85), some (kI 0), none]) rfl rfl rfl rfl ?_
  exact kW_le (L' := [some (kr 85), some (kI 0), none]) ⟨Or.inr rfl, Or.inr rfl, Or.inl rfl, trivial⟩ (b_M_fillsBracket_2 0 s _ hf hq)
def f_M_polynomial_47 (x1 : Int) (x3 : Int) (y0 : Int) (s : kM) : Option (Int × kM) :=
  if x1 = 1 then (if (krem x3 2) = 0 then (some (y0, s)) else (some ((wI (-y0)), s))) else (some (y0, s))
set_option maxRecDepth 8000 in
theorem b_M_polynomial_47 {sc : List Int} {Q : Option kV → kH → Prop} (x1 : Int) (x3 : Int) (y0 : Int) (s : kM) (t : Int × kM) (hf : f_M_polynomial_47 x1 x3 y0 s = some t) (hq : (fun r => Q (some (kI r.1)) (hH r.2)) t) : kW sc 4 kc_M_polynomial 1 47 [none, some (kI x1), none, some (kI x3), none, none] [kI y0] (hH s) Q := by
  unfold f_M_polynomial_47 at hf
  refine kw_step (L' := [none, some (kI x1), none, some (kI x3), none, some (kI y0)]) rfl rfl rfl rfl ?_
  refine kw_step rfl rfl rfl rfl ?_
  refine kw_step rfl rfl rfl rfl ?_
  refine kw_icmp_ne rfl rfl (fun c1 => ?_) (fun c1 => ?_)
  · have hf := giff c1 hf
    refine kw_step rfl rfl rfl rfl ?_
    cases hf
    exact kw_ret rfl rfl rfl hq
  · have hf := gift c1 hf
    refine kw_step rfl rfl rfl rfl ?_
    refine kw_step rfl rfl rfl rfl ?_
    refine kw_irem rfl (by decide) ?_
    refine kw_if_eq rfl rfl (fun c2 => ?_) (fun c2 => ?_)
    · have hf := gift c2 hf
      refine kw_step rfl rfl rfl rfl ?_
      cases hf
      exact kw_ret rfl rfl rfl hq
    · have hf := giff c2 hf
      refine kw_step rfl rfl rfl rfl ?_
      refine kw_step rfl rfl rfl rfl ?_
      refine kw_goto rfl rfl ?_
      cases hf
      exact kw_ret rfl rfl rfl hq
def f_M_polynomial_32 (x1 : Int) (x3 : Int) (y0 : Int) (s : kM) : Option (Int × kM) :=
  (f_M_in y0 (-99) 99 s).bind fun q1 => if q1 = 0 then (f_M_polynomial_47 x1 x3 0 s) else ((gI 199 (wI (99 + y0))).bind fun j3 => f_M_polynomial_47 x1 x3 (s 118 j3) s)
set_option maxRecDepth 8000 in
theorem b_M_polynomial_32 {sc : List Int} {Q : Option kV → kH → Prop} (x1 : Int) (x3 : Int) (y0 : Int) (s : kM) (t : Int × kM) (hf : f_M_polynomial_32 x1 x3 y0 s = some t) (hq : (fun r => Q (some (kI r.1)) (hH r.2)) t) : kW sc 4 kc_M_polynomial 1 32 [some (kr 85), some (kI x1), none, some (kI x3), none, none] [kI y0] (hH s) Q := by
  unfold f_M_polynomial_32 at hf
  refine kw_step (L' := [some (kr 85), some (kI x1), none, some (kI x3), some (kI y0), none]) rfl rfl rfl rfl ?_
  refine kw_step rfl rfl rfl rfl ?_
  refine kw_step rfl rfl rfl rfl ?_
  refine kw_step rfl rfl rfl rfl ?_
  refine kw_step rfl rfl rfl rfl ?_
  obtain ⟨q1, hq1, hf⟩ := gbind hf
  refine kw_callS (vs := [kJ y0, kJ (-99), kJ 99]) rfl rfl rfl ⟨rfl, Nat.le_of_ble_eq_true rfl, Nat.le_of_ble_eq_true rfl, rfl⟩ (c_M_in y0 (-99) 99 s _ hq1) (Nat.le_of_ble_eq_true rfl) ?_
  refine kw_if_eq rfl rfl (fun c2 => ?_) (fun c2 => ?_)
  · have hf := gift c2 hf
    refine kw_step rfl rfl rfl rfl ?_
    exact kW_le (L' := [none, some (kI x1), none, some (kI x3), none, none]) ⟨Or.inl rfl, Or.inr rfl, Or.inl rfl, Or.inr rfl, Or.inl rfl, Or.inl rfl, trivial⟩ (b_M_polynomial_47 x1 x3 0 s _ hf hq)
  · have hf := giff c2 hf
    refine kw_step rfl rfl rfl rfl ?_
    refine kw_get rfl (hH_O (rfl : kotab 85 = some kMo)) rfl ?_
    refine kw_step rfl rfl rfl rfl ?_
    refine kw_step rfl rfl rfl rfl ?_
    refine kw_step rfl rfl rfl rfl ?_
    obtain ⟨j3, i4, hf⟩ := gbI hf
    refine kw_iald rfl (hH_A (rfl : ktab 118 = some (0, 199))) i4.1 i4.2.1 i4.2.2 ?_
    refine kw_goto rfl rfl ?_
    exact kW_le (L' := [none, some (kI x1), none, some (kI x3), none, none]) ⟨Or.inl rfl, Or.inr rfl, Or.inl rfl, Or.inr rfl, Or.inl rfl, Or.inl rfl, trivial⟩ (b_M_polynomial_47 x1 x3 (s 118 j3) s _ hf hq)
def f_M_polynomial (x1 : Int) (x2 : Int) (s : kM) : Option (Int × kM) :=
  (f_M_isTown s).bind fun q1 => if q1 = 0 then (some (0, s)) else ((f_M_in x1 0 1 s).bind fun q3 => if q3 = 0 then (some (0, s)) else ((f_M_in x2 (-99) 99 s).bind fun q5 => if q5 = 0 then (some (0, s)) else ((f_M_fillsBracket s).bind fun q7 => (f_M_sumOfHands 0 q7).bind fun q9 => if x1 = 0 then (f_M_polynomial_32 x1 q9 x2 q7) else (f_M_polynomial_32 x1 q9 (wI (x2 + (wI (3 * q9)))) q7))))
set_option maxRecDepth 8000 in
theorem c_M_polynomial {sc : List Int} (x1 : Int) (x2 : Int) (s : kM) (t : Int × kM) (hf : f_M_polynomial x1 x2 s = some t) : kR sc 4 km_M_polynomial [kr 85, kI x1, kI x2] (hH s) (some (kI t.1)) (hH t.2) := by
  unfold f_M_polynomial at hf
  refine kR.start rfl ?_
  show kW sc 4 kc_M_polynomial 1 0 [some (kr 85), some (kI x1), some (kI x2), none, none, none] [] (hH s) _
  have hq : (fun (r : Option kV) (g : kH) => r = some (kI t.1) ∧ g = hH t.2) (some (kI t.1)) (hH t.2) := ⟨rfl, rfl⟩
  refine kw_step rfl rfl rfl rfl ?_
  obtain ⟨q1, hq1, hf⟩ := gbind hf
  refine kw_callV (vs := []) rfl rfl rfl ⟨rfl, Nat.le_of_ble_eq_true rfl, Nat.le_of_ble_eq_true rfl, by decide⟩ (hH_O (rfl : kotab 85 = some kMo)) (c_M_isTown s _ hq1) (Nat.le_of_ble_eq_true rfl) ?_
  refine kw_if_eq rfl rfl (fun c2 => ?_) (fun c2 => ?_)
  · have hf := gift c2 hf
    refine kw_step rfl rfl rfl rfl ?_
    cases hf
    exact kw_ret rfl rfl rfl hq
  · have hf := giff c2 hf
    refine kw_step rfl rfl rfl rfl ?_
    refine kw_step rfl rfl rfl rfl ?_
    refine kw_step rfl rfl rfl rfl ?_
    refine kw_step rfl rfl rfl rfl ?_
    obtain ⟨q3, hq3, hf⟩ := gbind hf
    refine kw_callS (vs := [kJ x1, kJ 0, kJ 1]) rfl rfl rfl ⟨rfl, Nat.le_of_ble_eq_true rfl, Nat.le_of_ble_eq_true rfl, rfl⟩ (c_M_in x1 0 1 s _ hq3) (Nat.le_of_ble_eq_true rfl) ?_
    refine kw_if_eq rfl rfl (fun c4 => ?_) (fun c4 => ?_)
    · have hf := gift c4 hf
      refine kw_step rfl rfl rfl rfl ?_
      cases hf
      exact kw_ret rfl rfl rfl hq
    · have hf := giff c4 hf
      refine kw_step rfl rfl rfl rfl ?_
      refine kw_step rfl rfl rfl rfl ?_
      refine kw_step rfl rfl rfl rfl ?_
      refine kw_step rfl rfl rfl rfl ?_
      obtain ⟨q5, hq5, hf⟩ := gbind hf
      refine kw_callS (vs := [kJ x2, kJ (-99), kJ 99]) rfl rfl rfl ⟨rfl, Nat.le_of_ble_eq_true rfl, Nat.le_of_ble_eq_true rfl, rfl⟩ (c_M_in x2 (-99) 99 s _ hq5) (Nat.le_of_ble_eq_true rfl) ?_
      refine kw_if_ne rfl rfl (fun c6 => ?_) (fun c6 => ?_)
      · have hf := giff c6 hf
        refine kw_step rfl rfl rfl rfl ?_
        obtain ⟨q7, hq7, hf⟩ := gbind hf
        refine kw_callV (vs := []) rfl rfl rfl ⟨rfl, Nat.le_of_ble_eq_true rfl, Nat.le_of_ble_eq_true rfl, by decide⟩ (hH_O (rfl : kotab 85 = some kMo)) (c_M_fillsBracket s _ hq7) (Nat.le_of_ble_eq_true rfl) ?_
        refine kw_step rfl rfl rfl rfl ?_
        refine kw_step rfl rfl rfl rfl ?_
        obtain ⟨q9, hq9, hf⟩ := gbind hf
        refine kw_callV (vs := [kI 0]) rfl rfl rfl ⟨rfl, Nat.le_of_ble_eq_true rfl, Nat.le_of_ble_eq_true rfl, by decide⟩ (hH_O (rfl : kotab 85 = some kMo)) (c_M_sumOfHands 0 q7 _ hq9) (Nat.le_of_ble_eq_true rfl) ?_
        refine kw_step (L' := [some (kr 85), some (kI x1), some (kI x2), some (kI q9), none, none]) rfl rfl rfl rfl ?_
        refine kw_step rfl rfl rfl rfl ?_
        refine kw_if_ne rfl rfl (fun c10 => ?_) (fun c10 => ?_)
        · have hf := giff c10 hf
          refine kw_step rfl rfl rfl rfl ?_
          refine kw_step rfl rfl rfl rfl ?_
          refine kw_step rfl rfl rfl rfl ?_
          refine kw_step rfl rfl rfl rfl ?_
          refine kw_step rfl rfl rfl rfl ?_
          exact kW_le (L' := [some (kr 85), some (kI x1), none, some (kI q9), none, none]) ⟨Or.inr rfl, Or.inr rfl, Or.inl rfl, Or.inr rfl, Or.inl rfl, Or.inl rfl, trivial⟩ (b_M_polynomial_32 x1 q9 (wI (x2 + (wI (3 * q9)))) q7 _ hf hq)
        · have hf := gift c10 hf
          refine kw_step rfl rfl rfl rfl ?_
          refine kw_goto rfl rfl ?_
          exact kW_le (L' := [some (kr 85), some (kI x1), none, some (kI q9), none, none]) ⟨Or.inr rfl, Or.inr rfl, Or.inl rfl, Or.inr rfl, Or.inl rfl, Or.inl rfl, trivial⟩ (b_M_polynomial_32 x1 q9 x2 q7 _ hf hq)
      · have hf := gift c6 hf
        refine kw_step rfl rfl rfl rfl ?_
        cases hf
        exact kw_ret rfl rfl rfl hq
def f_M_fillsRow_53 (x1 : Int) (x2 : Int) (y1 : Int) (y2 : Int) (s : kM) : Option ((Int × kM) ⊕ (kM)) :=
  (gI 7224 y1).bind fun j1 => gLet (gU s 120 j1 y2) fun s3 => some (.inl ((wI (x2 + 1)), s3))
set_option maxRecDepth 8000 in
theorem b_M_fillsRow_53 {sc : List Int} {Q : Option kV → kH → Prop} (x1 : Int) (x2 : Int) (y1 : Int) (y2 : Int) (s : kM) (t : (Int × kM) ⊕ (kM)) (hf : f_M_fillsRow_53 x1 x2 y1 y2 s = some t) (hq : (gE (fun x => kW sc 1 kc_M_fillsRow 0 24 [some (kr 85), some (kI x1), some (kI x.1)] [] (hH x.2) Q) (fun r => Q none (hH r))) t) : kW sc 1 kc_M_fillsRow 0 53 [some (kr 85), some (kI x1), some (kI x2)] [kI y2, kI y1, kr 120] (hH s) Q := by
  unfold f_M_fillsRow_53 at hf
  obtain ⟨j1, i2, hf⟩ := gbI hf
  obtain ⟨s3, ee4, hf⟩ := gbL hf
  refine kw_iastH rfl (rfl : ktab 120 = some (0, 7224)) i2.1 i2.2.1 i2.2.2 ee4 ?_
  refine kw_step (L' := [some (kr 85), some (kI x1), some (kI (wI (x2 + 1)))]) rfl rfl rfl rfl ?_
  refine kw_goto rfl rfl ?_
  cases hf
  exact kW_le (L' := [some (kr 85), some (kI x1), some (kI (wI (x2 + 1)))]) ⟨Or.inr rfl, Or.inr rfl, Or.inr rfl, trivial⟩ hq
def f_M_fillsRow_24b (x1 : Int) (x2 : Int) (s : kM) : Option ((Int × kM) ⊕ (kM)) :=
  if 22 ≤ x2 then (some (.inr s)) else ((f_M_places s).bind fun q2 => if q2 ≤ x2 then (f_M_fillsRow_53 x1 x2 (wI ((wI ((wI (24 * x1)) + 2)) + x2)) (-1) s) else ((gI 22 x2).bind fun j4 => (gI 22 x2).bind fun j6 => f_M_fillsRow_53 x1 x2 (wI ((wI ((wI (24 * x1)) + 2)) + x2)) (wI ((wI (2 * (s 87 j4))) + (s 88 j6))) s))
set_option maxRecDepth 8000 in
theorem b_M_fillsRow_24b {sc : List Int} {Q : Option kV → kH → Prop} (x1 : Int) (x2 : Int) (s : kM) (t : (Int × kM) ⊕ (kM)) (hf : f_M_fillsRow_24b x1 x2 s = some t) (hq : (gE (fun x => kW sc 1 kc_M_fillsRow 0 24 [some (kr 85), some (kI x1), some (kI x.1)] [] (hH x.2) Q) (fun r => Q none (hH r))) t) : kW sc 1 kc_M_fillsRow 0 24 [some (kr 85), some (kI x1), some (kI x2)] [] (hH s) Q := by
  unfold f_M_fillsRow_24b at hf
  refine kw_step rfl rfl rfl rfl ?_
  refine kw_step rfl rfl rfl rfl ?_
  refine kw_icmp_ge rfl rfl (fun c1 => ?_) (fun c1 => ?_)
  · have hf := gift c1 hf
    cases hf
    exact kw_ret rfl rfl rfl hq
  · have hf := giff c1 hf
    refine kw_step rfl rfl rfl rfl ?_
    refine kw_get rfl (hH_O (rfl : kotab 85 = some kMo)) rfl ?_
    refine kw_step rfl rfl rfl rfl ?_
    refine kw_step rfl rfl rfl rfl ?_
    refine kw_step rfl rfl rfl rfl ?_
    refine kw_step rfl rfl rfl rfl ?_
    refine kw_step rfl rfl rfl rfl ?_
    refine kw_step rfl rfl rfl rfl ?_
    refine kw_step rfl rfl rfl rfl ?_
    refine kw_step rfl rfl rfl rfl ?_
    refine kw_step rfl rfl rfl rfl ?_
    obtain ⟨q2, hq2, hf⟩ := gbind hf
    refine kw_callV (vs := []) rfl rfl rfl ⟨rfl, Nat.le_of_ble_eq_true rfl, Nat.le_of_ble_eq_true rfl, by decide⟩ (hH_O (rfl : kotab 85 = some kMo)) (c_M_places s _ hq2) (Nat.le_of_ble_eq_true rfl) ?_
    refine kw_icmp_ge rfl rfl (fun c3 => ?_) (fun c3 => ?_)
    · have hf := gift c3 hf
      refine kw_step rfl rfl rfl rfl ?_
      exact kW_le (L' := [some (kr 85), some (kI x1), some (kI x2)]) ⟨Or.inr rfl, Or.inr rfl, Or.inr rfl, trivial⟩ (b_M_fillsRow_53 x1 x2 (wI ((wI ((wI (24 * x1)) + 2)) + x2)) (-1) s _ hf hq)
    · have hf := giff c3 hf
      refine kw_step rfl rfl rfl rfl ?_
      refine kw_step rfl rfl rfl rfl ?_
      refine kw_get rfl (hH_O (rfl : kotab 85 = some kMo)) rfl ?_
      refine kw_step rfl rfl rfl rfl ?_
      obtain ⟨j4, i5, hf⟩ := gbI hf
      refine kw_iald rfl (hH_A (rfl : ktab 87 = some (0, 22))) i5.1 i5.2.1 i5.2.2 ?_
      refine kw_step rfl rfl rfl rfl ?_
      refine kw_step rfl rfl rfl rfl ?_
      refine kw_get rfl (hH_O (rfl : kotab 85 = some kMo)) rfl ?_
      refine kw_step rfl rfl rfl rfl ?_
      obtain ⟨j6, i7, hf⟩ := gbI hf
      refine kw_iald rfl (hH_A (rfl : ktab 88 = some (0, 22))) i7.1 i7.2.1 i7.2.2 ?_
      refine kw_step rfl rfl rfl rfl ?_
      refine kw_goto rfl rfl ?_
      exact kW_le (L' := [some (kr 85), some (kI x1), some (kI x2)]) ⟨Or.inr rfl, Or.inr rfl, Or.inr rfl, trivial⟩ (b_M_fillsRow_53 x1 x2 (wI ((wI ((wI (24 * x1)) + 2)) + x2)) (wI ((wI (2 * (s 87 j4))) + (s 88 j6))) s _ hf hq)
def f_M_fillsRow_24 (x1 : Int) (x2 : Int) (s : kM) : Option (kM) :=
  gL (fun (x : Int × kM) => f_M_fillsRow_24b x1 x.1 x.2) gF (x2, s)
theorem b_M_fillsRow_24 {sc : List Int} {Q : Option kV → kH → Prop} (x1 : Int) (x2 : Int) (s : kM) (t : kM) (hf : f_M_fillsRow_24 x1 x2 s = some t) (hq : (fun r => Q none (hH r)) t) : kW sc 1 kc_M_fillsRow 0 24 [some (kr 85), some (kI x1), some (kI x2)] [] (hH s) Q :=
  gL_ind (P := fun (x : Int × kM) => kW sc 1 kc_M_fillsRow 0 24 [some (kr 85), some (kI x1), some (kI x.1)] [] (hH x.2) Q) (q := (fun r => Q none (hH r))) (fun x t hf hq => b_M_fillsRow_24b x1 x.1 x.2 t hf hq) gF (x2, s) t hf hq
def f_M_fillsRow (x1 : Int) (s : kM) : Option (kM) :=
  (gI 7224 (wI (24 * x1))).bind fun j1 => gLet (gU s 120 j1 (s 86 1)) fun s3 => (gI 7224 (wI ((wI (24 * x1)) + 1))).bind fun j6 => gLet (gU s3 120 j6 (s3 86 2)) fun s8 => f_M_fillsRow_24 x1 0 s8
set_option maxRecDepth 8000 in
theorem c_M_fillsRow {sc : List Int} (x1 : Int) (s : kM) (t : kM) (hf : f_M_fillsRow x1 s = some t) : kR sc 1 km_M_fillsRow [kr 85, kI x1] (hH s) none (hH t) := by
  unfold f_M_fillsRow at hf
  refine kR.start rfl ?_
  show kW sc 1 kc_M_fillsRow 0 0 [some (kr 85), some (kI x1), none] [] (hH s) _
  have hq : (fun (r : Option kV) (g : kH) => r = none ∧ g = hH t) none (hH t) := ⟨rfl, rfl⟩
  refine kw_step rfl rfl rfl rfl ?_
  refine kw_get rfl (hH_O (rfl : kotab 85 = some kMo)) rfl ?_
  refine kw_step rfl rfl rfl rfl ?_
  refine kw_step rfl rfl rfl rfl ?_
  refine kw_step rfl rfl rfl rfl ?_
  refine kw_step rfl rfl rfl rfl ?_
  refine kw_get rfl (hH_O (rfl : kotab 85 = some kMo)) rfl ?_
  refine kw_step rfl rfl rfl rfl ?_
  refine kw_iald rfl (hH_A (rfl : ktab 86 = some (0, 6))) (by decide) (by decide) (j := 1) rfl ?_
  obtain ⟨j1, i2, hf⟩ := gbI hf
  obtain ⟨s3, ee4, hf⟩ := gbL hf
  refine kw_iastH rfl (rfl : ktab 120 = some (0, 7224)) i2.1 i2.2.1 i2.2.2 ee4 ?_
  refine kw_step rfl rfl rfl rfl ?_
  refine kw_get rfl (hH_O (rfl : kotab 85 = some kMo)) rfl ?_
  refine kw_step rfl rfl rfl rfl ?_
  refine kw_step rfl rfl rfl rfl ?_
  refine kw_step rfl rfl rfl rfl ?_
  refine kw_step rfl rfl rfl rfl ?_
  refine kw_step rfl rfl rfl rfl ?_
  refine kw_step rfl rfl rfl rfl ?_
  refine kw_get rfl (hH_O (rfl : kotab 85 = some kMo)) rfl ?_
  refine kw_step rfl rfl rfl rfl ?_
  refine kw_iald rfl (hH_A (rfl : ktab 86 = some (0, 6))) (by decide) (by decide) (j := 2) rfl ?_
  obtain ⟨j6, i7, hf⟩ := gbI hf
  obtain ⟨s8, ee9, hf⟩ := gbL hf
  refine kw_iastH rfl (rfl : ktab 120 = some (0, 7224)) i7.1 i7.2.1 i7.2.2 ee9 ?_
  refine kw_step rfl rfl rfl rfl ?_
  refine kw_step (L' := [some (kr 85), some (kI x1), some (kI 0)]) rfl rfl rfl rfl ?_
  exact kW_le (L' := [some (kr 85), some (kI x1), some (kI 0)]) ⟨Or.inr rfl, Or.inr rfl, Or.inr rfl, trivial⟩ (b_M_fillsRow_24 x1 0 s8 _ hf hq)
def f_M_isOld_43 (x1 : Int) (x2 : Int) (s : kM) : Option ((Int) ⊕ (Int × kM)) :=
  if x2 = 0 then (some (.inl ((wI (x1 + 1))))) else (some (.inr (1, s)))
set_option maxRecDepth 8000 in
theorem b_M_isOld_43 {sc : List Int} {Q : Option kV → kH → Prop} (x1 : Int) (x2 : Int) (s : kM) (t : (Int) ⊕ (Int × kM)) (hf : f_M_isOld_43 x1 x2 s = some t) (hq : (gE (fun x => kW sc 2 kc_M_isOld 2 6 [some (kr 85), some (kI x), none, none] [] (hH s) Q) (fun r => Q (some (kI r.1)) (hH r.2))) t) : kW sc 2 kc_M_isOld 2 43 [some (kr 85), some (kI x1), some (kI x2), none] [] (hH s) Q := by
  unfold f_M_isOld_43 at hf
  refine kw_step rfl rfl rfl rfl ?_
  refine kw_if_eq rfl rfl (fun c1 => ?_) (fun c1 => ?_)
  · have hf := gift c1 hf
    refine kw_step (L' := [some (kr 85), some (kI (wI (x1 + 1))), some (kI x2), none]) rfl rfl rfl rfl ?_
    refine kw_goto rfl rfl ?_
    cases hf
    exact kW_le (L' := [some (kr 85), some (kI (wI (x1 + 1))), none, none]) ⟨Or.inr rfl, Or.inr rfl, Or.inl rfl, Or.inl rfl, trivial⟩ hq
  · have hf := giff c1 hf
    refine kw_step rfl rfl rfl rfl ?_
    cases hf
    exact kw_ret rfl rfl rfl hq
def f_M_isOld_40 (x1 : Int) (x3 : Int) (y0 : Int) (s : kM) : Option ((Int × Int) ⊕ ((Int) ⊕ (Int × kM))) :=
  some (.inl (y0, (wI (x3 + 1))))
set_option maxRecDepth 8000 in
theorem b_M_isOld_40 {sc : List Int} {Q : Option kV → kH → Prop} (x1 : Int) (x3 : Int) (y0 : Int) (s : kM) (t : (Int × Int) ⊕ ((Int) ⊕ (Int × kM))) (hf : f_M_isOld_40 x1 x3 y0 s = some t) (hq : (gE (fun x => kW sc 2 kc_M_isOld 2 14 [some (kr 85), some (kI x1), some (kI x.1), some (kI x.2)] [] (hH s) Q) (gE (fun x => kW sc 2 kc_M_isOld 2 6 [some (kr 85), some (kI x), none, none] [] (hH s) Q) (fun r => Q (some (kI r.1)) (hH r.2)))) t) : kW sc 2 kc_M_isOld 2 40 [some (kr 85), some (kI x1), none, some (kI x3)] [kI y0] (hH s) Q := by
  unfold f_M_isOld_40 at hf
  refine kw_step (L' := [some (kr 85), some (kI x1), some (kI y0), some (kI x3)]) rfl rfl rfl rfl ?_
  refine kw_step (L' := [some (kr 85), some (kI x1), some (kI y0), some (kI (wI (x3 + 1)))]) rfl rfl rfl rfl ?_
  refine kw_goto rfl rfl ?_
  cases hf
  exact kW_le (L' := [some (kr 85), some (kI x1), some (kI y0), some (kI (wI (x3 + 1)))]) ⟨Or.inr rfl, Or.inr rfl, Or.inr rfl, Or.inr rfl, trivial⟩ hq
def f_M_isOld_14b (x1 : Int) (x2 : Int) (x3 : Int) (s : kM) : Option ((Int × Int) ⊕ ((Int) ⊕ (Int × kM))) :=
  if 24 ≤ x3 then ((f_M_isOld_43 x1 x2 s).map Sum.inr) else (if x2 = 0 then ((f_M_isOld_43 x1 x2 s).map Sum.inr) else ((gI 7224 (wI ((wI (24 * x1)) + x3))).bind fun j7 => (gI 7224 (wI ((wI (24 * (s 85 52))) + x3))).bind fun j9 => if (s 120 j7) = (s 120 j9) then (f_M_isOld_40 x1 x3 1 s) else (f_M_isOld_40 x1 x3 0 s)))
set_option maxRecDepth 8000 in
theorem b_M_isOld_14b {sc : List Int} {Q : Option kV → kH → Prop} (x1 : Int) (x2 : Int) (x3 : Int) (s : kM) (t : (Int × Int) ⊕ ((Int) ⊕ (Int × kM))) (hf : f_M_isOld_14b x1 x2 x3 s = some t) (hq : (gE (fun x => kW sc 2 kc_M_isOld 2 14 [some (kr 85), some (kI x1), some (kI x.1), some (kI x.2)] [] (hH s) Q) (gE (fun x => kW sc 2 kc_M_isOld 2 6 [some (kr 85), some (kI x), none, none] [] (hH s) Q) (fun r => Q (some (kI r.1)) (hH r.2)))) t) : kW sc 2 kc_M_isOld 2 14 [some (kr 85), some (kI x1), some (kI x2), some (kI x3)] [] (hH s) Q := by
  unfold f_M_isOld_14b at hf
  refine kw_step rfl rfl rfl rfl ?_
  refine kw_step rfl rfl rfl rfl ?_
  refine kw_icmp_ge rfl rfl (fun c1 => ?_) (fun c1 => ?_)
  · have hf := gift c1 hf
    obtain ⟨t2, hg3, rfl⟩ := gmap hf
    exact kW_le (L' := [some (kr 85), some (kI x1), some (kI x2), none]) ⟨Or.inr rfl, Or.inr rfl, Or.inr rfl, Or.inl rfl, trivial⟩ (b_M_isOld_43 x1 x2 s _ hg3 hq)
  · have hf := giff c1 hf
    refine kw_step rfl rfl rfl rfl ?_
    refine kw_if_eq rfl rfl (fun c4 => ?_) (fun c4 => ?_)
    · have hf := gift c4 hf
      obtain ⟨t5, hg6, rfl⟩ := gmap hf
      exact kW_le (L' := [some (kr 85), some (kI x1), some (kI x2), none]) ⟨Or.inr rfl, Or.inr rfl, Or.inr rfl, Or.inl rfl, trivial⟩ (b_M_isOld_43 x1 x2 s _ hg6 hq)
    · have hf := giff c4 hf
      refine kw_step rfl rfl rfl rfl ?_
      refine kw_get rfl (hH_O (rfl : kotab 85 = some kMo)) rfl ?_
      refine kw_step rfl rfl rfl rfl ?_
      refine kw_step rfl rfl rfl rfl ?_
      refine kw_step rfl rfl rfl rfl ?_
      refine kw_step rfl rfl rfl rfl ?_
      refine kw_step rfl rfl rfl rfl ?_
      obtain ⟨j7, i8, hf⟩ := gbI hf
      refine kw_iald rfl (hH_A (rfl : ktab 120 = some (0, 7224))) i8.1 i8.2.1 i8.2.2 ?_
      refine kw_step rfl rfl rfl rfl ?_
      refine kw_get rfl (hH_O (rfl : kotab 85 = some kMo)) rfl ?_
      refine kw_step rfl rfl rfl rfl ?_
      refine kw_step rfl rfl rfl rfl ?_
      refine kw_get rfl (hH_O (rfl : kotab 85 = some kMo)) rfl ?_
      refine kw_step rfl rfl rfl rfl ?_
      refine kw_step rfl rfl rfl rfl ?_
      refine kw_step rfl rfl rfl rfl ?_
      obtain ⟨j9, i10, hf⟩ := gbI hf
      refine kw_iald rfl (hH_A (rfl : ktab 120 = some (0, 7224))) i10.1 i10.2.1 i10.2.2 ?_
      refine kw_icmp_ne rfl rfl (fun c11 => ?_) (fun c11 => ?_)
      · have hf := giff c11 hf
        refine kw_step rfl rfl rfl rfl ?_
        exact kW_le (L' := [some (kr 85), some (kI x1), none, some (kI x3)]) ⟨Or.inr rfl, Or.inr rfl, Or.inl rfl, Or.inr rfl, trivial⟩ (b_M_isOld_40 x1 x3 0 s _ hf hq)
      · have hf := gift c11 hf
        refine kw_step rfl rfl rfl rfl ?_
        refine kw_goto rfl rfl ?_
        exact kW_le (L' := [some (kr 85), some (kI x1), none, some (kI x3)]) ⟨Or.inr rfl, Or.inr rfl, Or.inl rfl, Or.inr rfl, trivial⟩ (b_M_isOld_40 x1 x3 1 s _ hf hq)
def f_M_isOld_14 (x1 : Int) (x2 : Int) (x3 : Int) (s : kM) : Option ((Int) ⊕ (Int × kM)) :=
  gL (fun (x : Int × Int) => f_M_isOld_14b x1 x.1 x.2 s) gF (x2, x3)
theorem b_M_isOld_14 {sc : List Int} {Q : Option kV → kH → Prop} (x1 : Int) (x2 : Int) (x3 : Int) (s : kM) (t : (Int) ⊕ (Int × kM)) (hf : f_M_isOld_14 x1 x2 x3 s = some t) (hq : (gE (fun x => kW sc 2 kc_M_isOld 2 6 [some (kr 85), some (kI x), none, none] [] (hH s) Q) (fun r => Q (some (kI r.1)) (hH r.2))) t) : kW sc 2 kc_M_isOld 2 14 [some (kr 85), some (kI x1), some (kI x2), some (kI x3)] [] (hH s) Q :=
  gL_ind (P := fun (x : Int × Int) => kW sc 2 kc_M_isOld 2 14 [some (kr 85), some (kI x1), some (kI x.1), some (kI x.2)] [] (hH s) Q) (q := (gE (fun x => kW sc 2 kc_M_isOld 2 6 [some (kr 85), some (kI x), none, none] [] (hH s) Q) (fun r => Q (some (kI r.1)) (hH r.2)))) (fun x t hf hq => b_M_isOld_14b x1 x.1 x.2 s t hf hq) gF (x2, x3) t hf hq
def f_M_isOld_6b (x1 : Int) (s : kM) : Option ((Int) ⊕ (Int × kM)) :=
  if (s 85 52) ≤ x1 then (some (.inr (0, s))) else (f_M_isOld_14 x1 1 0 s)
set_option maxRecDepth 8000 in
theorem b_M_isOld_6b {sc : List Int} {Q : Option kV → kH → Prop} (x1 : Int) (s : kM) (t : (Int) ⊕ (Int × kM)) (hf : f_M_isOld_6b x1 s = some t) (hq : (gE (fun x => kW sc 2 kc_M_isOld 2 6 [some (kr 85), some (kI x), none, none] [] (hH s) Q) (fun r => Q (some (kI r.1)) (hH r.2))) t) : kW sc 2 kc_M_isOld 2 6 [some (kr 85), some (kI x1), none, none] [] (hH s) Q := by
  unfold f_M_isOld_6b at hf
  refine kw_step rfl rfl rfl rfl ?_
  refine kw_step rfl rfl rfl rfl ?_
  refine kw_get rfl (hH_O (rfl : kotab 85 = some kMo)) rfl ?_
  refine kw_icmp_ge rfl rfl (fun c1 => ?_) (fun c1 => ?_)
  · have hf := gift c1 hf
    refine kw_step rfl rfl rfl rfl ?_
    cases hf
    exact kw_ret rfl rfl rfl hq
  · have hf := giff c1 hf
    refine kw_step rfl rfl rfl rfl ?_
    refine kw_step (L' := [some (kr 85), some (kI x1), some (kI 1), none]) rfl rfl rfl rfl ?_
    refine kw_step rfl rfl rfl rfl ?_
    refine kw_step (L' := [some (kr 85), some (kI x1), some (kI 1), some (kI 0)]) rfl rfl rfl rfl ?_
    exact kW_le (L' := [some (kr 85), some (kI x1), some (kI 1), some (kI 0)]) ⟨Or.inr rfl, Or.inr rfl, Or.inr rfl, Or.inr rfl, trivial⟩ (b_M_isOld_14 x1 1 0 s _ hf hq)
def f_M_isOld_6 (x1 : Int) (s : kM) : Option (Int × kM) :=
  gL (fun (x : Int) => f_M_isOld_6b x s) gF (x1)
theorem b_M_isOld_6 {sc : List Int} {Q : Option kV → kH → Prop} (x1 : Int) (s : kM) (t : Int × kM) (hf : f_M_isOld_6 x1 s = some t) (hq : (fun r => Q (some (kI r.1)) (hH r.2)) t) : kW sc 2 kc_M_isOld 2 6 [some (kr 85), some (kI x1), none, none] [] (hH s) Q :=
  gL_ind (P := fun (x : Int) => kW sc 2 kc_M_isOld 2 6 [some (kr 85), some (kI x), none, none] [] (hH s) Q) (q := (fun r => Q (some (kI r.1)) (hH r.2))) (fun x t hf hq => b_M_isOld_6b x s t hf hq) gF (x1) t hf hq
def f_M_isOld (s : kM) : Option (Int × kM) :=
  (f_M_fillsRow (s 85 52) s).bind fun q1 => f_M_isOld_6 0 q1
set_option maxRecDepth 8000 in
theorem c_M_isOld {sc : List Int} (s : kM) (t : Int × kM) (hf : f_M_isOld s = some t) : kR sc 2 km_M_isOld [kr 85] (hH s) (some (kI t.1)) (hH t.2) := by
  unfold f_M_isOld at hf
  refine kR.start rfl ?_
  show kW sc 2 kc_M_isOld 2 0 [some (kr 85), none, none, none] [] (hH s) _
  have hq : (fun (r : Option kV) (g : kH) => r = some (kI t.1) ∧ g = hH t.2) (some (kI t.1)) (hH t.2) := ⟨rfl, rfl⟩
  refine kw_step rfl rfl rfl rfl ?_
  refine kw_step rfl rfl rfl rfl ?_
  refine kw_get rfl (hH_O (rfl : kotab 85 = some kMo)) rfl ?_
  obtain ⟨q1, hq1, hf⟩ := gbind hf
  refine kw_callV (vs := [kI (s 85 52)]) rfl rfl rfl ⟨rfl, Nat.le_of_ble_eq_true rfl, Nat.le_of_ble_eq_true rfl, by decide⟩ (hH_O (rfl : kotab 85 = some kMo)) (c_M_fillsRow (s 85 52) s _ hq1) (Nat.le_of_ble_eq_true rfl) ?_
  refine kw_step rfl rfl rfl rfl ?_
  refine kw_step (L' := [some (kr 85), some (kI 0), none, none]) rfl rfl rfl rfl ?_
  exact kW_le (L' := [some (kr 85), some (kI 0), none, none]) ⟨Or.inr rfl, Or.inr rfl, Or.inl rfl, Or.inl rfl, trivial⟩ (b_M_isOld_6 0 q1 _ hf hq)
def f_M_comes_40 (y1 : Int) (s : kM) : Option (Int × kM) :=
  gLet (gU s 85 53 y1) fun s1 => gLet (gU s1 85 52 (wI ((s1 85 52) + 1))) fun s4 => some (0, s4)
set_option maxRecDepth 8000 in
theorem b_M_comes_40 {sc : List Int} {Q : Option kV → kH → Prop} (y1 : Int) (s : kM) (t : Int × kM) (hf : f_M_comes_40 y1 s = some t) (hq : (fun r => Q (some (kI r.1)) (hH r.2)) t) : kW sc 3 kc_M_comes 2 40 [some (kr 85), none, none, none] [kI y1, kr 85] (hH s) Q := by
  unfold f_M_comes_40 at hf
  obtain ⟨s1, ee2, hf⟩ := gbL hf
  refine kw_putH rfl (rfl : kotab 85 = some kMo) rfl rfl rfl (Nat.le_of_ble_eq_true rfl) rfl ee2 ?_
  refine kw_step rfl rfl rfl rfl ?_
  refine kw_step rfl rfl rfl rfl ?_
  refine kw_get rfl (hH_O (rfl : kotab 85 = some kMo)) rfl ?_
  refine kw_step rfl rfl rfl rfl ?_
  refine kw_step rfl rfl rfl rfl ?_
  obtain ⟨s4, ee5, hf⟩ := gbL hf
  refine kw_putH rfl (rfl : kotab 85 = some kMo) rfl rfl rfl (Nat.le_of_ble_eq_true rfl) rfl ee5 ?_
  refine kw_step rfl rfl rfl rfl ?_
  cases hf
  exact kw_ret rfl rfl rfl hq
def f_M_comes_20 (x1 : Int) (x2 : Int) (x3 : Int) (s : kM) : Option (Int × kM) :=
  (gI 301 (s 85 52)).bind fun j1 => gLet (gU s 121 j1 x1) fun s3 => (gI 301 (s3 85 52)).bind fun j6 => gLet (gU s3 122 j6 x2) fun s8 => if x3 = 0 then (f_M_comes_40 (s8 85 53) s8) else (f_M_comes_40 (s8 85 52) s8)
set_option maxRecDepth 8000 in
theorem b_M_comes_20 {sc : List Int} {Q : Option kV → kH → Prop} (x1 : Int) (x2 : Int) (x3 : Int) (s : kM) (t : Int × kM) (hf : f_M_comes_20 x1 x2 x3 s = some t) (hq : (fun r => Q (some (kI r.1)) (hH r.2)) t) : kW sc 3 kc_M_comes 2 20 [some (kr 85), some (kI x1), some (kI x2), some (kI x3)] [] (hH s) Q := by
  unfold f_M_comes_20 at hf
  refine kw_step rfl rfl rfl rfl ?_
  refine kw_get rfl (hH_O (rfl : kotab 85 = some kMo)) rfl ?_
  refine kw_step rfl rfl rfl rfl ?_
  refine kw_get rfl (hH_O (rfl : kotab 85 = some kMo)) rfl ?_
  refine kw_step rfl rfl rfl rfl ?_
  obtain ⟨j1, i2, hf⟩ := gbI hf
  obtain ⟨s3, ee4, hf⟩ := gbL hf
  refine kw_iastH rfl (rfl : ktab 121 = some (0, 301)) i2.1 i2.2.1 i2.2.2 ee4 ?_
  refine kw_step rfl rfl rfl rfl ?_
  refine kw_get rfl (hH_O (rfl : kotab 85 = some kMo)) rfl ?_
  refine kw_step rfl rfl rfl rfl ?_
  refine kw_get rfl (hH_O (rfl : kotab 85 = some kMo)) rfl ?_
  refine kw_step rfl rfl rfl rfl ?_
  obtain ⟨j6, i7, hf⟩ := gbI hf
  obtain ⟨s8, ee9, hf⟩ := gbL hf
  refine kw_iastH rfl (rfl : ktab 122 = some (0, 301)) i7.1 i7.2.1 i7.2.2 ee9 ?_
  refine kw_step rfl rfl rfl rfl ?_
  refine kw_step rfl rfl rfl rfl ?_
  refine kw_if_eq rfl rfl (fun c11 => ?_) (fun c11 => ?_)
  · have hf := gift c11 hf
    refine kw_step rfl rfl rfl rfl ?_
    refine kw_get rfl (hH_O (rfl : kotab 85 = some kMo)) rfl ?_
    exact kW_le (L' := [some (kr 85), none, none, none]) ⟨Or.inr rfl, Or.inl rfl, Or.inl rfl, Or.inl rfl, trivial⟩ (b_M_comes_40 (s8 85 53) s8 _ hf hq)
  · have hf := giff c11 hf
    refine kw_step rfl rfl rfl rfl ?_
    refine kw_get rfl (hH_O (rfl : kotab 85 = some kMo)) rfl ?_
    refine kw_goto rfl rfl ?_
    exact kW_le (L' := [some (kr 85), none, none, none]) ⟨Or.inr rfl, Or.inl rfl, Or.inl rfl, Or.inl rfl, trivial⟩ (b_M_comes_40 (s8 85 52) s8 _ hf hq)
def f_M_comes_11 (x1 : Int) (x2 : Int) (y0 : Int) (s : kM) : Option (Int × kM) :=
  if (s 85 52) = 300 then (if y0 = 0 then (some (1, s)) else (f_M_comes_20 x1 x2 y0 s)) else (f_M_comes_20 x1 x2 y0 s)
set_option maxRecDepth 8000 in
theorem b_M_comes_11 {sc : List Int} {Q : Option kV → kH → Prop} (x1 : Int) (x2 : Int) (y0 : Int) (s : kM) (t : Int × kM) (hf : f_M_comes_11 x1 x2 y0 s = some t) (hq : (fun r => Q (some (kI r.1)) (hH r.2)) t) : kW sc 3 kc_M_comes 2 11 [some (kr 85), some (kI x1), some (kI x2), none] [kI y0] (hH s) Q := by
  unfold f_M_comes_11 at hf
  refine kw_step (L' := [some (kr 85), some (kI x1), some (kI x2), some (kI y0)]) rfl rfl rfl rfl ?_
  refine kw_step rfl rfl rfl rfl ?_
  refine kw_get rfl (hH_O (rfl : kotab 85 = some kMo)) rfl ?_
  refine kw_step rfl rfl rfl rfl ?_
  refine kw_icmp_ne rfl rfl (fun c1 => ?_) (fun c1 => ?_)
  · have hf := giff c1 hf
    exact kW_le (L' := [some (kr 85), some (kI x1), some (kI x2), some (kI y0)]) ⟨Or.inr rfl, Or.inr rfl, Or.inr rfl, Or.inr rfl, trivial⟩ (b_M_comes_20 x1 x2 y0 s _ hf hq)
  · have hf := gift c1 hf
    refine kw_step rfl rfl rfl rfl ?_
    refine kw_if_ne rfl rfl (fun c2 => ?_) (fun c2 => ?_)
    · have hf := giff c2 hf
      exact kW_le (L' := [some (kr 85), some (kI x1), some (kI x2), some (kI y0)]) ⟨Or.inr rfl, Or.inr rfl, Or.inr rfl, Or.inr rfl, trivial⟩ (b_M_comes_20 x1 x2 y0 s _ hf hq)
    · have hf := gift c2 hf
      refine kw_step rfl rfl rfl rfl ?_
      cases hf
      exact kw_ret rfl rfl rfl hq
def f_M_comes (x1 : Int) (x2 : Int) (s : kM) : Option (Int × kM) :=
  (f_M_isOld s).bind fun q1 => if q1.1 = 0 then ((f_M_places q1.2).bind fun q4 => if q4 = 0 then (f_M_comes_11 x1 x2 1 q1.2) else (f_M_comes_11 x1 x2 0 q1.2)) else (some (0, q1.2))
set_option maxRecDepth 8000 in
theorem c_M_comes {sc : List Int} (x1 : Int) (x2 : Int) (s : kM) (t : Int × kM) (hf : f_M_comes x1 x2 s = some t) : kR sc 3 km_M_comes [kr 85, kI x1, kI x2] (hH s) (some (kI t.1)) (hH t.2) := by
  unfold f_M_comes at hf
  refine kR.start rfl ?_
  show kW sc 3 kc_M_comes 2 0 [some (kr 85), some (kI x1), some (kI x2), none] [] (hH s) _
  have hq : (fun (r : Option kV) (g : kH) => r = some (kI t.1) ∧ g = hH t.2) (some (kI t.1)) (hH t.2) := ⟨rfl, rfl⟩
  refine kw_step rfl rfl rfl rfl ?_
  obtain ⟨q1, hq1, hf⟩ := gbind hf
  refine kw_callV (vs := []) rfl rfl rfl ⟨rfl, Nat.le_of_ble_eq_true rfl, Nat.le_of_ble_eq_true rfl, by decide⟩ (hH_O (rfl : kotab 85 = some kMo)) (c_M_isOld s _ hq1) (Nat.le_of_ble_eq_true rfl) ?_
  refine kw_if_eq rfl rfl (fun c3 => ?_) (fun c3 => ?_)
  · have hf := gift c3 hf
    refine kw_step rfl rfl rfl rfl ?_
    obtain ⟨q4, hq4, hf⟩ := gbind hf
    refine kw_callV (vs := []) rfl rfl rfl ⟨rfl, Nat.le_of_ble_eq_true rfl, Nat.le_of_ble_eq_true rfl, by decide⟩ (hH_O (rfl : kotab 85 = some kMo)) (c_M_places q1.2 _ hq4) (Nat.le_of_ble_eq_true rfl) ?_
    refine kw_if_ne rfl rfl (fun c5 => ?_) (fun c5 => ?_)
    · have hf := giff c5 hf
      refine kw_step rfl rfl rfl rfl ?_
      exact kW_le (L' := [some (kr 85), some (kI x1), some (kI x2), none]) ⟨Or.inr rfl, Or.inr rfl, Or.inr rfl, Or.inl rfl, trivial⟩ (b_M_comes_11 x1 x2 0 q1.2 _ hf hq)
    · have hf := gift c5 hf
      refine kw_step rfl rfl rfl rfl ?_
      refine kw_goto rfl rfl ?_
      exact kW_le (L' := [some (kr 85), some (kI x1), some (kI x2), none]) ⟨Or.inr rfl, Or.inr rfl, Or.inr rfl, Or.inl rfl, trivial⟩ (b_M_comes_11 x1 x2 1 q1.2 _ hf hq)
  · have hf := giff c3 hf
    refine kw_step rfl rfl rfl rfl ?_
    cases hf
    exact kw_ret rfl rfl rfl hq
def f_M_laysRow_24b (x1 : Int) (x2 : Int) (s : kM) : Option ((Int × kM) ⊕ (kM)) :=
  (f_M_places s).bind fun q1 => if q1 ≤ x2 then ((f_M_refresh s).bind fun q3 => some (.inr q3)) else ((gI 7224 (wI ((wI ((wI (24 * x1)) + 2)) + x2))).bind fun j5 => (gI 22 x2).bind fun j7 => gLet (gU s 87 j7 (kdiv (s 120 j5) 2)) fun s9 => (gI 7224 (wI ((wI ((wI (24 * x1)) + 2)) + x2))).bind fun j12 => (gI 22 x2).bind fun j14 => gLet (gU s9 88 j14 (krem (s9 120 j12) 2)) fun s16 => some (.inl ((wI (x2 + 1)), s16)))
set_option maxRecDepth 8000 in
theorem b_M_laysRow_24b {sc : List Int} {Q : Option kV → kH → Prop} (x1 : Int) (x2 : Int) (s : kM) (t : (Int × kM) ⊕ (kM)) (hf : f_M_laysRow_24b x1 x2 s = some t) (hq : (gE (fun x => kW sc 2 kc_M_laysRow 0 24 [some (kr 85), some (kI x1), some (kI x.1)] [] (hH x.2) Q) (fun r => Q none (hH r))) t) : kW sc 2 kc_M_laysRow 0 24 [some (kr 85), some (kI x1), some (kI x2)] [] (hH s) Q := by
  unfold f_M_laysRow_24b at hf
  refine kw_step rfl rfl rfl rfl ?_
  refine kw_step rfl rfl rfl rfl ?_
  obtain ⟨q1, hq1, hf⟩ := gbind hf
  refine kw_callV (vs := []) rfl rfl rfl ⟨rfl, Nat.le_of_ble_eq_true rfl, Nat.le_of_ble_eq_true rfl, by decide⟩ (hH_O (rfl : kotab 85 = some kMo)) (c_M_places s _ hq1) (Nat.le_of_ble_eq_true rfl) ?_
  refine kw_icmp_ge rfl rfl (fun c2 => ?_) (fun c2 => ?_)
  · have hf := gift c2 hf
    refine kw_step rfl rfl rfl rfl ?_
    obtain ⟨q3, hq3, hf⟩ := gbind hf
    refine kw_callV (vs := []) rfl rfl rfl ⟨rfl, Nat.le_of_ble_eq_true rfl, Nat.le_of_ble_eq_true rfl, by decide⟩ (hH_O (rfl : kotab 85 = some kMo)) (c_M_refresh s _ hq3) (Nat.le_of_ble_eq_true rfl) ?_
    cases hf
    exact kw_ret rfl rfl rfl hq
  · have hf := giff c2 hf
    refine kw_step rfl rfl rfl rfl ?_
    refine kw_get rfl (hH_O (rfl : kotab 85 = some kMo)) rfl ?_
    refine kw_step rfl rfl rfl rfl ?_
    refine kw_step rfl rfl rfl rfl ?_
    refine kw_get rfl (hH_O (rfl : kotab 85 = some kMo)) rfl ?_
    refine kw_step rfl rfl rfl rfl ?_
    refine kw_step rfl rfl rfl rfl ?_
    refine kw_step rfl rfl rfl rfl ?_
    refine kw_step rfl rfl rfl rfl ?_
    refine kw_step rfl rfl rfl rfl ?_
    refine kw_step rfl rfl rfl rfl ?_
    refine kw_step rfl rfl rfl rfl ?_
    obtain ⟨j5, i6, hf⟩ := gbI hf
    refine kw_iald rfl (hH_A (rfl : ktab 120 = some (0, 7224))) i6.1 i6.2.1 i6.2.2 ?_
    refine kw_step rfl rfl rfl rfl ?_
    refine kw_idiv rfl (by decide) ?_
    obtain ⟨j7, i8, hf⟩ := gbI hf
    obtain ⟨s9, ee10, hf⟩ := gbL hf
    refine kw_iastH rfl (rfl : ktab 87 = some (0, 22)) i8.1 i8.2.1 i8.2.2 ee10 ?_
    refine kw_step rfl rfl rfl rfl ?_
    refine kw_get rfl (hH_O (rfl : kotab 85 = some kMo)) rfl ?_
    refine kw_step rfl rfl rfl rfl ?_
    refine kw_step rfl rfl rfl rfl ?_
    refine kw_get rfl (hH_O (rfl : kotab 85 = some kMo)) rfl ?_
    refine kw_step rfl rfl rfl rfl ?_
    refine kw_step rfl rfl rfl rfl ?_
    refine kw_step rfl rfl rfl rfl ?_
    refine kw_step rfl rfl rfl rfl ?_
    refine kw_step rfl rfl rfl rfl ?_
    refine kw_step rfl rfl rfl rfl ?_
    refine kw_step rfl rfl rfl rfl ?_
    obtain ⟨j12, i13, hf⟩ := gbI hf
    refine kw_iald rfl (hH_A (rfl : ktab 120 = some (0, 7224))) i13.1 i13.2.1 i13.2.2 ?_
    refine kw_step rfl rfl rfl rfl ?_
    refine kw_irem rfl (by decide) ?_
    obtain ⟨j14, i15, hf⟩ := gbI hf
    obtain ⟨s16, ee17, hf⟩ := gbL hf
    refine kw_iastH rfl (rfl : ktab 88 = some (0, 22)) i15.1 i15.2.1 i15.2.2 ee17 ?_
    refine kw_step (L' := [some (kr 85), some (kI x1), some (kI (wI (x2 + 1)))]) rfl rfl rfl rfl ?_
    refine kw_goto rfl rfl ?_
    cases hf
    exact kW_le (L' := [some (kr 85), some (kI x1), some (kI (wI (x2 + 1)))]) ⟨Or.inr rfl, Or.inr rfl, Or.inr rfl, trivial⟩ hq
def f_M_laysRow_24 (x1 : Int) (x2 : Int) (s : kM) : Option (kM) :=
  gL (fun (x : Int × kM) => f_M_laysRow_24b x1 x.1 x.2) gF (x2, s)
theorem b_M_laysRow_24 {sc : List Int} {Q : Option kV → kH → Prop} (x1 : Int) (x2 : Int) (s : kM) (t : kM) (hf : f_M_laysRow_24 x1 x2 s = some t) (hq : (fun r => Q none (hH r)) t) : kW sc 2 kc_M_laysRow 0 24 [some (kr 85), some (kI x1), some (kI x2)] [] (hH s) Q :=
  gL_ind (P := fun (x : Int × kM) => kW sc 2 kc_M_laysRow 0 24 [some (kr 85), some (kI x1), some (kI x.1)] [] (hH x.2) Q) (q := (fun r => Q none (hH r))) (fun x t hf hq => b_M_laysRow_24b x1 x.1 x.2 t hf hq) gF (x2, s) t hf hq
def f_M_laysRow (x1 : Int) (s : kM) : Option (kM) :=
  (gI 7224 (wI (24 * x1))).bind fun j1 => gLet (gU s 86 1 (s 120 j1)) fun s3 => (gI 7224 (wI ((wI (24 * x1)) + 1))).bind fun j6 => gLet (gU s3 86 2 (s3 120 j6)) fun s8 => f_M_laysRow_24 x1 0 s8
set_option maxRecDepth 8000 in
theorem c_M_laysRow {sc : List Int} (x1 : Int) (s : kM) (t : kM) (hf : f_M_laysRow x1 s = some t) : kR sc 2 km_M_laysRow [kr 85, kI x1] (hH s) none (hH t) := by
  unfold f_M_laysRow at hf
  refine kR.start rfl ?_
  show kW sc 2 kc_M_laysRow 0 0 [some (kr 85), some (kI x1), none] [] (hH s) _
  have hq : (fun (r : Option kV) (g : kH) => r = none ∧ g = hH t) none (hH t) := ⟨rfl, rfl⟩
  refine kw_step rfl rfl rfl rfl ?_
  refine kw_get rfl (hH_O (rfl : kotab 85 = some kMo)) rfl ?_
  refine kw_step rfl rfl rfl rfl ?_
  refine kw_step rfl rfl rfl rfl ?_
  refine kw_get rfl (hH_O (rfl : kotab 85 = some kMo)) rfl ?_
  refine kw_step rfl rfl rfl rfl ?_
  refine kw_step rfl rfl rfl rfl ?_
  refine kw_step rfl rfl rfl rfl ?_
  obtain ⟨j1, i2, hf⟩ := gbI hf
  refine kw_iald rfl (hH_A (rfl : ktab 120 = some (0, 7224))) i2.1 i2.2.1 i2.2.2 ?_
  obtain ⟨s3, ee4, hf⟩ := gbL hf
  refine kw_iastH rfl (rfl : ktab 86 = some (0, 6)) (by decide) (by decide) (j := 1) rfl ee4 ?_
  refine kw_step rfl rfl rfl rfl ?_
  refine kw_get rfl (hH_O (rfl : kotab 85 = some kMo)) rfl ?_
  refine kw_step rfl rfl rfl rfl ?_
  refine kw_step rfl rfl rfl rfl ?_
  refine kw_get rfl (hH_O (rfl : kotab 85 = some kMo)) rfl ?_
  refine kw_step rfl rfl rfl rfl ?_
  refine kw_step rfl rfl rfl rfl ?_
  refine kw_step rfl rfl rfl rfl ?_
  refine kw_step rfl rfl rfl rfl ?_
  refine kw_step rfl rfl rfl rfl ?_
  obtain ⟨j6, i7, hf⟩ := gbI hf
  refine kw_iald rfl (hH_A (rfl : ktab 120 = some (0, 7224))) i7.1 i7.2.1 i7.2.2 ?_
  obtain ⟨s8, ee9, hf⟩ := gbL hf
  refine kw_iastH rfl (rfl : ktab 86 = some (0, 6)) (by decide) (by decide) (j := 2) rfl ee9 ?_
  refine kw_step rfl rfl rfl rfl ?_
  refine kw_step (L' := [some (kr 85), some (kI x1), some (kI 0)]) rfl rfl rfl rfl ?_
  exact kW_le (L' := [some (kr 85), some (kI x1), some (kI 0)]) ⟨Or.inr rfl, Or.inr rfl, Or.inr rfl, trivial⟩ (b_M_laysRow_24 x1 0 s8 _ hf hq)
def f_M_does (x1 : Int) (s : kM) : Option (kM) :=
  (f_M_bridgeOf x1 0 s).bind fun q1 => (f_M_kindOf x1 s).bind fun q2 => if q2 = 1 then ((f_M_removes (kshl 1 q1) s).bind fun q4 => some q4) else if q2 = 2 then ((f_M_bridgeOf x1 1 s).bind fun q7 => (f_M_removes (kor (kshl 1 q1) (kshl 1 q7)) s).bind fun q8 => some q8) else ((f_M_slides s).bind fun q10 => some q10)
set_option maxRecDepth 8000 in
theorem c_M_does {sc : List Int} (x1 : Int) (s : kM) (t : kM) (hf : f_M_does x1 s = some t) : kR sc 4 km_M_does [kr 85, kI x1] (hH s) none (hH t) := by
  unfold f_M_does at hf
  refine kR.start rfl ?_
  show kW sc 4 kc_M_does 0 0 [some (kr 85), some (kI x1), none] [] (hH s) _
  have hq : (fun (r : Option kV) (g : kH) => r = none ∧ g = hH t) none (hH t) := ⟨rfl, rfl⟩
  refine kw_step rfl rfl rfl rfl ?_
  refine kw_step rfl rfl rfl rfl ?_
  obtain ⟨q1, hq1, hf⟩ := gbind hf
  refine kw_callS (vs := [kI x1, kI 0]) rfl rfl rfl ⟨rfl, Nat.le_of_ble_eq_true rfl, Nat.le_of_ble_eq_true rfl, rfl⟩ (c_M_bridgeOf x1 0 s _ hq1) (Nat.le_of_ble_eq_true rfl) ?_
  refine kw_step (L' := [some (kr 85), some (kI x1), some (kI q1)]) rfl rfl rfl rfl ?_
  refine kw_step rfl rfl rfl rfl ?_
  obtain ⟨q2, hq2, hf⟩ := gbind hf
  refine kw_callS (vs := [kI x1]) rfl rfl rfl ⟨rfl, Nat.le_of_ble_eq_true rfl, Nat.le_of_ble_eq_true rfl, rfl⟩ (c_M_kindOf x1 s _ hq2) (Nat.le_of_ble_eq_true rfl) ?_
  by_cases c3 : q2 = 1
  · have hf := gift c3 hf
    refine kw_lsw rfl (by rw [c3] <;> rfl) ?_
    refine kw_step rfl rfl rfl rfl ?_
    refine kw_step rfl rfl rfl rfl ?_
    refine kw_step rfl rfl rfl rfl ?_
    refine kw_step rfl rfl rfl rfl ?_
    obtain ⟨q4, hq4, hf⟩ := gbind hf
    refine kw_callV (vs := [kI (kshl 1 q1)]) rfl rfl rfl ⟨rfl, Nat.le_of_ble_eq_true rfl, Nat.le_of_ble_eq_true rfl, by decide⟩ (hH_O (rfl : kotab 85 = some kMo)) (c_M_removes (kshl 1 q1) s _ hq4) (Nat.le_of_ble_eq_true rfl) ?_
    refine kw_goto rfl rfl ?_
    cases hf
    exact kw_ret rfl rfl rfl hq
  have hf := giff c3 hf
  by_cases c6 : q2 = 2
  · have hf := gift c6 hf
    refine kw_lsw rfl (by rw [c6] <;> rfl) ?_
    refine kw_step rfl rfl rfl rfl ?_
    refine kw_step rfl rfl rfl rfl ?_
    refine kw_step rfl rfl rfl rfl ?_
    refine kw_step rfl rfl rfl rfl ?_
    refine kw_step rfl rfl rfl rfl ?_
    refine kw_step rfl rfl rfl rfl ?_
    refine kw_step rfl rfl rfl rfl ?_
    obtain ⟨q7, hq7, hf⟩ := gbind hf
    refine kw_callS (vs := [kI x1, kI 1]) rfl rfl rfl ⟨rfl, Nat.le_of_ble_eq_true rfl, Nat.le_of_ble_eq_true rfl, rfl⟩ (c_M_bridgeOf x1 1 s _ hq7) (Nat.le_of_ble_eq_true rfl) ?_
    refine kw_step rfl rfl rfl rfl ?_
    refine kw_step rfl rfl rfl rfl ?_
    obtain ⟨q8, hq8, hf⟩ := gbind hf
    refine kw_callV (vs := [kI (kor (kshl 1 q1) (kshl 1 q7))]) rfl rfl rfl ⟨rfl, Nat.le_of_ble_eq_true rfl, Nat.le_of_ble_eq_true rfl, by decide⟩ (hH_O (rfl : kotab 85 = some kMo)) (c_M_removes (kor (kshl 1 q1) (kshl 1 q7)) s _ hq8) (Nat.le_of_ble_eq_true rfl) ?_
    refine kw_goto rfl rfl ?_
    cases hf
    exact kw_ret rfl rfl rfl hq
  have hf := giff c6 hf
  refine kw_lsw (t' := 25) rfl (by show (Op.lookupswitch.offset [(1, 7), (2, 13)] _ _).toNat = _; simp only [Op.lookupswitch.offset_cons, Op.lookupswitch.offset_nil, if_neg (Ne.symm c3), if_neg (Ne.symm c6)]; rfl) ?_
  refine kw_step rfl rfl rfl rfl ?_
  obtain ⟨q10, hq10, hf⟩ := gbind hf
  refine kw_callV (vs := []) rfl rfl rfl ⟨rfl, Nat.le_of_ble_eq_true rfl, Nat.le_of_ble_eq_true rfl, by decide⟩ (hH_O (rfl : kotab 85 = some kMo)) (c_M_slides s _ hq10) (Nat.le_of_ble_eq_true rfl) ?_
  cases hf
  exact kw_ret rfl rfl rfl hq
