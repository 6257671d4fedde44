/-! PRINTED by wip/whole/decall.py: methods as functions over the flat world, with their contracts -/
def f_M_drawnFlood_24 (x1 : Int) (x2 : Int) (x3 : Int) (s : kM) : Option ((Int × Int × kM) ⊕ (Int × kM)) :=
  some (.inl (x2, (wI (x3 + 1)), s))
set_option maxRecDepth 8000 in
theorem b_M_drawnFlood_24 {sc : List Int} {Q : Option kV → kH → Prop} (x1 : Int) (x2 : Int) (x3 : Int) (s : kM) (t : (Int × Int × kM) ⊕ (Int × kM)) (hf : f_M_drawnFlood_24 x1 x2 x3 s = some t) (hq : (gE (fun x => kW sc 2 kc_M_drawnFlood 1 4 [some (kr 85), some (kI x1), some (kI x.1), some (kI x.2.1)] [] (hH x.2.2) Q) (fun r => Q (some (kI r.1)) (hH r.2))) t) : kW sc 2 kc_M_drawnFlood 1 24 [some (kr 85), some (kI x1), some (kI x2), some (kI x3)] [] (hH s) Q := by
  unfold f_M_drawnFlood_24 at hf
  refine kw_step (L' := [some (kr 85), some (kI x1), some (kI x2), some (kI (wI (x3 + 1)))]) rfl rfl rfl rfl ?_
  refine kw_goto rfl rfl ?_
  cases hf
  exact kW_le (L' := [some (kr 85), some (kI x1), some (kI x2), some (kI (wI (x3 + 1)))]) ⟨Or.inr rfl, Or.inr rfl, Or.inr rfl, Or.inr rfl, trivial⟩ hq
def f_M_drawnFlood_22 (x1 : Int) (x3 : Int) (y0 : Int) (y1 : Int) (s : kM) : Option ((Int × Int × kM) ⊕ (Int × kM)) :=
  f_M_drawnFlood_24 x1 (kor y0 y1) x3 s
set_option maxRecDepth 8000 in
theorem b_M_drawnFlood_22 {sc : List Int} {Q : Option kV → kH → Prop} (x1 : Int) (x3 : Int) (y0 : Int) (y1 : Int) (s : kM) (t : (Int × Int × kM) ⊕ (Int × kM)) (hf : f_M_drawnFlood_22 x1 x3 y0 y1 s = some t) (hq : (gE (fun x => kW sc 2 kc_M_drawnFlood 1 4 [some (kr 85), some (kI x1), some (kI x.1), some (kI x.2.1)] [] (hH x.2.2) Q) (fun r => Q (some (kI r.1)) (hH r.2))) t) : kW sc 2 kc_M_drawnFlood 1 22 [some (kr 85), some (kI x1), none, some (kI x3)] [kI y1, kI y0] (hH s) Q := by
  unfold f_M_drawnFlood_22 at hf
  refine kw_step rfl rfl rfl rfl ?_
  refine kw_step (L' := [some (kr 85), some (kI x1), some (kI (kor y0 y1)), some (kI x3)]) rfl rfl rfl rfl ?_
  exact kW_le (L' := [some (kr 85), some (kI x1), some (kI (kor y0 y1)), some (kI x3)]) ⟨Or.inr rfl, Or.inr rfl, Or.inr rfl, Or.inr rfl, trivial⟩ (b_M_drawnFlood_24 x1 (kor y0 y1) x3 s _ hf hq)
def f_M_drawnFlood_4b (x1 : Int) (x2 : Int) (x3 : Int) (s : kM) : Option ((Int × Int × kM) ⊕ (Int × kM)) :=
  if 11 ≤ x3 then (some (.inr (x2, s))) else ((f_M_isBridge x3 s).bind fun q2 => if q2 = 0 then (f_M_drawnFlood_24 x1 x2 x3 s) else ((f_M_draws 100 s).bind fun q4 => if x1 ≤ q4.1 then (f_M_drawnFlood_22 x1 x3 x2 0 q4.2) else (f_M_drawnFlood_22 x1 x3 x2 (kshl 1 x3) q4.2)))
set_option maxRecDepth 8000 in
theorem b_M_drawnFlood_4b {sc : List Int} {Q : Option kV → kH → Prop} (x1 : Int) (x2 : Int) (x3 : Int) (s : kM) (t : (Int × Int × kM) ⊕ (Int × kM)) (hf : f_M_drawnFlood_4b x1 x2 x3 s = some t) (hq : (gE (fun x => kW sc 2 kc_M_drawnFlood 1 4 [some (kr 85), some (kI x1), some (kI x.1), some (kI x.2.1)] [] (hH x.2.2) Q) (fun r => Q (some (kI r.1)) (hH r.2))) t) : kW sc 2 kc_M_drawnFlood 1 4 [some (kr 85), some (kI x1), some (kI x2), some (kI x3)] [] (hH s) Q := by
  unfold f_M_drawnFlood_4b at hf
  refine kw_step rfl rfl rfl rfl ?_
  refine kw_step rfl rfl rfl rfl ?_
  refine kw_icmp_ge rfl rfl (fun c1 => ?_) (fun c1 => ?_)
  · have hf := gift c1 hf
    refine kw_step rfl rfl rfl rfl ?_
    cases hf
    exact kw_ret rfl rfl rfl hq
  · have hf := giff c1 hf
    refine kw_step rfl rfl rfl rfl ?_
    refine kw_step rfl rfl rfl rfl ?_
    obtain ⟨q2, hq2, hf⟩ := gbind hf
    refine kw_callV (vs := [kI x3]) rfl rfl rfl ⟨rfl, Nat.le_of_ble_eq_true rfl, Nat.le_of_ble_eq_true rfl, by decide⟩ (hH_O (rfl : kotab 85 = some kMo)) (c_M_isBridge x3 s _ hq2) (Nat.le_of_ble_eq_true rfl) ?_
    refine kw_if_eq rfl rfl (fun c3 => ?_) (fun c3 => ?_)
    · have hf := gift c3 hf
      exact kW_le (L' := [some (kr 85), some (kI x1), some (kI x2), some (kI x3)]) ⟨Or.inr rfl, Or.inr rfl, Or.inr rfl, Or.inr rfl, trivial⟩ (b_M_drawnFlood_24 x1 x2 x3 s _ hf hq)
    · have hf := giff c3 hf
      refine kw_step rfl rfl rfl rfl ?_
      refine kw_step rfl rfl rfl rfl ?_
      refine kw_step rfl rfl rfl rfl ?_
      obtain ⟨q4, hq4, hf⟩ := gbind hf
      refine kw_callV (vs := [kI 100]) rfl rfl rfl ⟨rfl, Nat.le_of_ble_eq_true rfl, Nat.le_of_ble_eq_true rfl, by decide⟩ (hH_O (rfl : kotab 85 = some kMo)) (c_M_draws 100 s _ hq4) (Nat.le_of_ble_eq_true rfl) ?_
      refine kw_step rfl rfl rfl rfl ?_
      refine kw_icmp_ge rfl rfl (fun c6 => ?_) (fun c6 => ?_)
      · have hf := gift c6 hf
        refine kw_step rfl rfl rfl rfl ?_
        exact kW_le (L' := [some (kr 85), some (kI x1), none, some (kI x3)]) ⟨Or.inr rfl, Or.inr rfl, Or.inl rfl, Or.inr rfl, trivial⟩ (b_M_drawnFlood_22 x1 x3 x2 0 q4.2 _ hf hq)
      · have hf := giff c6 hf
        refine kw_step rfl rfl rfl rfl ?_
        refine kw_step rfl rfl rfl rfl ?_
        refine kw_step rfl rfl rfl rfl ?_
        refine kw_goto rfl rfl ?_
        exact kW_le (L' := [some (kr 85), some (kI x1), none, some (kI x3)]) ⟨Or.inr rfl, Or.inr rfl, Or.inl rfl, Or.inr rfl, trivial⟩ (b_M_drawnFlood_22 x1 x3 x2 (kshl 1 x3) q4.2 _ hf hq)
def f_M_drawnFlood_4 (x1 : Int) (x2 : Int) (x3 : Int) (s : kM) : Option (Int × kM) :=
  gL (fun (x : Int × Int × kM) => f_M_drawnFlood_4b x1 x.1 x.2.1 x.2.2) gF (x2, x3, s)
theorem b_M_drawnFlood_4 {sc : List Int} {Q : Option kV → kH → Prop} (x1 : Int) (x2 : Int) (x3 : Int) (s : kM) (t : Int × kM) (hf : f_M_drawnFlood_4 x1 x2 x3 s = some t) (hq : (fun r => Q (some (kI r.1)) (hH r.2)) t) : kW sc 2 kc_M_drawnFlood 1 4 [some (kr 85), some (kI x1), some (kI x2), some (kI x3)] [] (hH s) Q :=
  gL_ind (P := fun (x : Int × Int × kM) => kW sc 2 kc_M_drawnFlood 1 4 [some (kr 85), some (kI x1), some (kI x.1), some (kI x.2.1)] [] (hH x.2.2) Q) (q := (fun r => Q (some (kI r.1)) (hH r.2))) (fun x t hf hq => b_M_drawnFlood_4b x1 x.1 x.2.1 x.2.2 t hf hq) gF (x2, x3, s) t hf hq
def f_M_drawnFlood (x1 : Int) (s : kM) : Option (Int × kM) :=
  f_M_drawnFlood_4 x1 0 0 s
set_option maxRecDepth 8000 in
theorem c_M_drawnFlood {sc : List Int} (x1 : Int) (s : kM) (t : Int × kM) (hf : f_M_drawnFlood x1 s = some t) : kR sc 2 km_M_drawnFlood [kr 85, kI x1] (hH s) (some (kI t.1)) (hH t.2) := by
  unfold f_M_drawnFlood at hf
  refine kR.start rfl ?_
  show kW sc 2 kc_M_drawnFlood 1 0 [some (kr 85), some (kI x1), none, none] [] (hH s) _
  have hq : (fun (r : Option kV) (g : kH) => r = some (kI t.1) ∧ g = hH t.2) (some (kI t.1)) (hH t.2) := ⟨rfl, rfl⟩
  refine kw_step rfl rfl rfl rfl ?_
  refine kw_step (L' := [some (kr 85), some (kI x1), some (kI 0), none]) rfl rfl rfl rfl ?_
  refine kw_step rfl rfl rfl rfl ?_
  refine kw_step (L' := [some (kr 85), some (kI x1), some (kI 0), some (kI 0)]) rfl rfl rfl rfl ?_
  exact kW_le (L' := [some (kr 85), some (kI x1), some (kI 0), some (kI 0)]) ⟨Or.inr rfl, Or.inr rfl, Or.inr rfl, Or.inr rfl, trivial⟩ (b_M_drawnFlood_4 x1 0 0 s _ hf hq)
def f_M_gets_2b (x2 : Int) (x3 : Int) (x4 : Int) (s : kM) : Option ((Int) ⊕ (Int)) :=
  if x4 = x2 then (some (.inr 1)) else ((f_M_next x4 s).bind fun q2 => (gI 22 q2).bind fun j3 => if (s 88 j3) = 0 then ((gI 22 q2).bind fun j6 => if (kand (kshr x3 (s 87 j6)) 1) = 1 then (some (.inr 0)) else (some (.inl (q2)))) else (some (.inl (q2))))
set_option maxRecDepth 8000 in
theorem b_M_gets_2b {sc : List Int} {Q : Option kV → kH → Prop} (x2 : Int) (x3 : Int) (x4 : Int) (s : kM) (t : (Int) ⊕ (Int)) (hf : f_M_gets_2b x2 x3 x4 s = some t) (hq : (gE (fun x => kW sc 2 kc_M_gets 2 2 [some (kr 85), none, some (kI x2), some (kI x3), some (kI x)] [] (hH s) Q) (fun r => Q (some (kI r)) (hH s))) t) : kW sc 2 kc_M_gets 2 2 [some (kr 85), none, some (kI x2), some (kI x3), some (kI x4)] [] (hH s) Q := by
  unfold f_M_gets_2b at hf
  refine kw_step rfl rfl rfl rfl ?_
  refine kw_step rfl rfl rfl rfl ?_
  refine kw_icmp_eq rfl rfl (fun c1 => ?_) (fun c1 => ?_)
  · have hf := gift c1 hf
    refine kw_step rfl rfl rfl rfl ?_
    cases hf
    exact kw_ret rfl rfl rfl hq
  · have hf := giff c1 hf
    refine kw_step rfl rfl rfl rfl ?_
    refine kw_step rfl rfl rfl rfl ?_
    obtain ⟨q2, hq2, hf⟩ := gbind hf
    refine kw_callV (vs := [kI x4]) rfl rfl rfl ⟨rfl, Nat.le_of_ble_eq_true rfl, Nat.le_of_ble_eq_true rfl, by decide⟩ (hH_O (rfl : kotab 85 = some kMo)) (c_M_next x4 s _ hq2) (Nat.le_of_ble_eq_true rfl) ?_
    refine kw_step (L' := [some (kr 85), none, some (kI x2), some (kI x3), some (kI q2)]) rfl rfl rfl rfl ?_
    refine kw_step rfl rfl rfl rfl ?_
    refine kw_get rfl (hH_O (rfl : kotab 85 = some kMo)) rfl ?_
    refine kw_step rfl rfl rfl rfl ?_
    obtain ⟨j3, i4, hf⟩ := gbI hf
    refine kw_iald rfl (hH_A (rfl : ktab 88 = some (0, 22))) i4.1 i4.2.1 i4.2.2 ?_
    refine kw_if_ne rfl rfl (fun c5 => ?_) (fun c5 => ?_)
    · have hf := giff c5 hf
      cases hf
      exact kW_le (L' := [some (kr 85), none, some (kI x2), some (kI x3), some (kI q2)]) ⟨Or.inr rfl, Or.inl rfl, Or.inr rfl, Or.inr rfl, Or.inr rfl, trivial⟩ hq
    · have hf := gift c5 hf
      refine kw_step rfl rfl rfl rfl ?_
      refine kw_step rfl rfl rfl rfl ?_
      refine kw_get rfl (hH_O (rfl : kotab 85 = some kMo)) rfl ?_
      refine kw_step rfl rfl rfl rfl ?_
      obtain ⟨j6, i7, hf⟩ := gbI hf
      refine kw_iald rfl (hH_A (rfl : ktab 87 = some (0, 22))) i7.1 i7.2.1 i7.2.2 ?_
      refine kw_step rfl rfl rfl rfl ?_
      refine kw_step rfl rfl rfl rfl ?_
      refine kw_step rfl rfl rfl rfl ?_
      refine kw_step rfl rfl rfl rfl ?_
      refine kw_icmp_ne rfl rfl (fun c8 => ?_) (fun c8 => ?_)
      · have hf := giff c8 hf
        cases hf
        exact kW_le (L' := [some (kr 85), none, some (kI x2), some (kI x3), some (kI q2)]) ⟨Or.inr rfl, Or.inl rfl, Or.inr rfl, Or.inr rfl, Or.inr rfl, trivial⟩ hq
      · have hf := gift c8 hf
        refine kw_step rfl rfl rfl rfl ?_
        cases hf
        exact kw_ret rfl rfl rfl hq
def f_M_gets_2 (x2 : Int) (x3 : Int) (x4 : Int) (s : kM) : Option (Int) :=
  gL (fun (x : Int) => f_M_gets_2b x2 x3 x s) gF (x4)
theorem b_M_gets_2 {sc : List Int} {Q : Option kV → kH → Prop} (x2 : Int) (x3 : Int) (x4 : Int) (s : kM) (t : Int) (hf : f_M_gets_2 x2 x3 x4 s = some t) (hq : (fun r => Q (some (kI r)) (hH s)) t) : kW sc 2 kc_M_gets 2 2 [some (kr 85), none, some (kI x2), some (kI x3), some (kI x4)] [] (hH s) Q :=
  gL_ind (P := fun (x : Int) => kW sc 2 kc_M_gets 2 2 [some (kr 85), none, some (kI x2), some (kI x3), some (kI x)] [] (hH s) Q) (q := (fun r => Q (some (kI r)) (hH s))) (fun x t hf hq => b_M_gets_2b x2 x3 x s t hf hq) gF (x4) t hf hq
def f_M_gets (x1 : Int) (x2 : Int) (x3 : Int) (s : kM) : Option (Int) :=
  f_M_gets_2 x2 x3 x1 s
set_option maxRecDepth 8000 in
theorem c_M_gets {sc : List Int} (x1 : Int) (x2 : Int) (x3 : Int) (s : kM) (t : Int) (hf : f_M_gets x1 x2 x3 s = some t) : kR sc 2 km_M_gets [kr 85, kI x1, kI x2, kI x3] (hH s) (some (kI t)) (hH s) := by
  unfold f_M_gets at hf
  refine kR.start rfl ?_
  show kW sc 2 kc_M_gets 2 0 [some (kr 85), some (kI x1), some (kI x2), some (kI x3), none] [] (hH s) _
  have hq : (fun (r : Option kV) (g : kH) => r = some (kI t) ∧ g = hH s) (some (kI t)) (hH s) := ⟨rfl, rfl⟩
  refine kw_step rfl rfl rfl rfl ?_
  refine kw_step (L' := [some (kr 85), some (kI x1), some (kI x2), some (kI x3), some (kI x1)]) rfl rfl rfl rfl ?_
  exact kW_le (L' := [some (kr 85), none, some (kI x2), some (kI x3), some (kI x1)]) ⟨Or.inr rfl, Or.inl rfl, Or.inr rfl, Or.inr rfl, Or.inr rfl, trivial⟩ (b_M_gets_2 x2 x3 x1 s _ hf hq)
def f_M_floods_61 (x1 : Int) (x2 : Int) (x3 : Int) (x4 : Int) (x5 : Int) (x7 : Int) (y0 : Int) (y1 : Int) (s : kM) : Option ((Int × Int × kM) ⊕ (Int × kM)) :=
  some (.inl ((wI (y0 + y1)), (wI (x7 + 1)), s))
set_option maxRecDepth 8000 in
theorem b_M_floods_61 {sc : List Int} {Q : Option kV → kH → Prop} (x1 : Int) (x2 : Int) (x3 : Int) (x4 : Int) (x5 : Int) (x7 : Int) (y0 : Int) (y1 : Int) (s : kM) (t : (Int × Int × kM) ⊕ (Int × kM)) (hf : f_M_floods_61 x1 x2 x3 x4 x5 x7 y0 y1 s = some t) (hq : (gE (fun x => kW sc 3 kc_M_floods 1 38 [some (kr 85), some (kI x1), some (kI x2), some (kI x3), some (kI x4), some (kI x5), some (kI x.1), some (kI x.2.1), none] [] (hH x.2.2) Q) (fun r => Q (some (kI r.1)) (hH r.2))) t) : kW sc 3 kc_M_floods 1 61 [some (kr 85), some (kI x1), some (kI x2), some (kI x3), some (kI x4), some (kI x5), none, some (kI x7), none] [kI y1, kI y0] (hH s) Q := by
  unfold f_M_floods_61 at hf
  refine kw_step rfl rfl rfl rfl ?_
  refine kw_step (L' := [some (kr 85), some (kI x1), some (kI x2), some (kI x3), some (kI x4), some (kI x5), some (kI (wI (y0 + y1))), some (kI x7), none]) rfl rfl rfl rfl ?_
  refine kw_step (L' := [some (kr 85), some (kI x1), some (kI x2), some (kI x3), some (kI x4), some (kI x5), some (kI (wI (y0 + y1))), some (kI (wI (x7 + 1))), none]) rfl rfl rfl rfl ?_
  refine kw_goto rfl rfl ?_
  cases hf
  exact kW_le (L' := [some (kr 85), some (kI x1), some (kI x2), some (kI x3), some (kI x4), some (kI x5), some (kI (wI (y0 + y1))), some (kI (wI (x7 + 1))), none]) ⟨Or.inr rfl, Or.inr rfl, Or.inr rfl, Or.inr rfl, Or.inr rfl, Or.inr rfl, Or.inr rfl, Or.inr rfl, Or.inl rfl, trivial⟩ hq
def f_M_floods_58 (x1 : Int) (x2 : Int) (x3 : Int) (x4 : Int) (x5 : Int) (x7 : Int) (y0 : Int) (s : kM) : Option ((Int × Int × kM) ⊕ (Int × kM)) :=
  f_M_floods_61 x1 x2 x3 x4 x5 x7 y0 1 s
set_option maxRecDepth 8000 in
theorem b_M_floods_58 {sc : List Int} {Q : Option kV → kH → Prop} (x1 : Int) (x2 : Int) (x3 : Int) (x4 : Int) (x5 : Int) (x7 : Int) (y0 : Int) (s : kM) (t : (Int × Int × kM) ⊕ (Int × kM)) (hf : f_M_floods_58 x1 x2 x3 x4 x5 x7 y0 s = some t) (hq : (gE (fun x => kW sc 3 kc_M_floods 1 38 [some (kr 85), some (kI x1), some (kI x2), some (kI x3), some (kI x4), some (kI x5), some (kI x.1), some (kI x.2.1), none] [] (hH x.2.2) Q) (fun r => Q (some (kI r.1)) (hH r.2))) t) : kW sc 3 kc_M_floods 1 58 [some (kr 85), some (kI x1), some (kI x2), some (kI x3), some (kI x4), some (kI x5), none, some (kI x7), none] [kI y0] (hH s) Q := by
  unfold f_M_floods_58 at hf
  refine kw_step rfl rfl rfl rfl ?_
  refine kw_goto rfl rfl ?_
  exact kW_le (L' := [some (kr 85), some (kI x1), some (kI x2), some (kI x3), some (kI x4), some (kI x5), none, some (kI x7), none]) ⟨Or.inr rfl, Or.inr rfl, Or.inr rfl, Or.inr rfl, Or.inr rfl, Or.inr rfl, Or.inl rfl, Or.inr rfl, Or.inl rfl, trivial⟩ (b_M_floods_61 x1 x2 x3 x4 x5 x7 y0 1 s _ hf hq)
def f_M_floods_38b (x1 : Int) (x2 : Int) (x3 : Int) (x4 : Int) (x5 : Int) (x6 : Int) (x7 : Int) (s : kM) : Option ((Int × Int × kM) ⊕ (Int × kM)) :=
  if x1 ≤ x7 then (gLet (gU s 86 4 x5) fun s2 => some (.inr (x6, s2))) else ((f_M_drawnFlood x2 s).bind fun q5 => (f_M_gets x3 x4 q5.1 q5.2).bind fun q7 => if q7 = 0 then ((f_M_gets x4 x3 q5.1 q5.2).bind fun q9 => if q9 = 0 then (f_M_floods_61 x1 x2 x3 x4 x5 x7 x6 0 q5.2) else (f_M_floods_58 x1 x2 x3 x4 x5 x7 x6 q5.2)) else (f_M_floods_58 x1 x2 x3 x4 x5 x7 x6 q5.2))
set_option maxRecDepth 8000 in
theorem b_M_floods_38b {sc : List Int} {Q : Option kV → kH → Prop} (x1 : Int) (x2 : Int) (x3 : Int) (x4 : Int) (x5 : Int) (x6 : Int) (x7 : Int) (s : kM) (t : (Int × Int × kM) ⊕ (Int × kM)) (hf : f_M_floods_38b x1 x2 x3 x4 x5 x6 x7 s = some t) (hq : (gE (fun x => kW sc 3 kc_M_floods 1 38 [some (kr 85), some (kI x1), some (kI x2), some (kI x3), some (kI x4), some (kI x5), some (kI x.1), some (kI x.2.1), none] [] (hH x.2.2) Q) (fun r => Q (some (kI r.1)) (hH r.2))) t) : kW sc 3 kc_M_floods 1 38 [some (kr 85), some (kI x1), some (kI x2), some (kI x3), some (kI x4), some (kI x5), some (kI x6), some (kI x7), none] [] (hH s) Q := by
  unfold f_M_floods_38b at hf
  refine kw_step rfl rfl rfl rfl ?_
  refine kw_step rfl rfl rfl rfl ?_
  refine kw_icmp_ge rfl rfl (fun c1 => ?_) (fun c1 => ?_)
  · have hf := gift c1 hf
    refine kw_step rfl rfl rfl rfl ?_
    refine kw_get rfl (hH_O (rfl : kotab 85 = some kMo)) rfl ?_
    refine kw_step rfl rfl rfl rfl ?_
    refine kw_step rfl rfl rfl rfl ?_
    obtain ⟨s2, ee3, hf⟩ := gbL hf
    refine kw_iastH rfl (rfl : ktab 86 = some (0, 6)) (by decide) (by decide) (j := 4) rfl ee3 ?_
    refine kw_step rfl rfl rfl rfl ?_
    cases hf
    exact kw_ret rfl rfl rfl hq
  · have hf := giff c1 hf
    refine kw_step rfl rfl rfl rfl ?_
    refine kw_step rfl rfl rfl rfl ?_
    obtain ⟨q5, hq5, hf⟩ := gbind hf
    refine kw_callV (vs := [kI x2]) rfl rfl rfl ⟨rfl, Nat.le_of_ble_eq_true rfl, Nat.le_of_ble_eq_true rfl, by decide⟩ (hH_O (rfl : kotab 85 = some kMo)) (c_M_drawnFlood x2 s _ hq5) (Nat.le_of_ble_eq_true rfl) ?_
    refine kw_step (L' := [some (kr 85), some (kI x1), some (kI x2), some (kI x3), some (kI x4), some (kI x5), some (kI x6), some (kI x7), some (kI q5.1)]) rfl rfl rfl rfl ?_
    refine kw_step rfl rfl rfl rfl ?_
    refine kw_step rfl rfl rfl rfl ?_
    refine kw_step rfl rfl rfl rfl ?_
    refine kw_step rfl rfl rfl rfl ?_
    refine kw_step rfl rfl rfl rfl ?_
    obtain ⟨q7, hq7, hf⟩ := gbind hf
    refine kw_callV (vs := [kI x3, kI x4, kI q5.1]) rfl rfl rfl ⟨rfl, Nat.le_of_ble_eq_true rfl, Nat.le_of_ble_eq_true rfl, by decide⟩ (hH_O (rfl : kotab 85 = some kMo)) (c_M_gets x3 x4 q5.1 q5.2 _ hq7) (Nat.le_of_ble_eq_true rfl) ?_
    refine kw_if_ne rfl rfl (fun c8 => ?_) (fun c8 => ?_)
    · have hf := giff c8 hf
      exact kW_le (L' := [some (kr 85), some (kI x1), some (kI x2), some (kI x3), some (kI x4), some (kI x5), none, some (kI x7), none]) ⟨Or.inr rfl, Or.inr rfl, Or.inr rfl, Or.inr rfl, Or.inr rfl, Or.inr rfl, Or.inl rfl, Or.inr rfl, Or.inl rfl, trivial⟩ (b_M_floods_58 x1 x2 x3 x4 x5 x7 x6 q5.2 _ hf hq)
    · have hf := gift c8 hf
      refine kw_step rfl rfl rfl rfl ?_
      refine kw_step rfl rfl rfl rfl ?_
      refine kw_step rfl rfl rfl rfl ?_
      refine kw_step rfl rfl rfl rfl ?_
      obtain ⟨q9, hq9, hf⟩ := gbind hf
      refine kw_callV (vs := [kI x4, kI x3, kI q5.1]) rfl rfl rfl ⟨rfl, Nat.le_of_ble_eq_true rfl, Nat.le_of_ble_eq_true rfl, by decide⟩ (hH_O (rfl : kotab 85 = some kMo)) (c_M_gets x4 x3 q5.1 q5.2 _ hq9) (Nat.le_of_ble_eq_true rfl) ?_
      refine kw_if_eq rfl rfl (fun c10 => ?_) (fun c10 => ?_)
      · have hf := gift c10 hf
        refine kw_step rfl rfl rfl rfl ?_
        exact kW_le (L' := [some (kr 85), some (kI x1), some (kI x2), some (kI x3), some (kI x4), some (kI x5), none, some (kI x7), none]) ⟨Or.inr rfl, Or.inr rfl, Or.inr rfl, Or.inr rfl, Or.inr rfl, Or.inr rfl, Or.inl rfl, Or.inr rfl, Or.inl rfl, trivial⟩ (b_M_floods_61 x1 x2 x3 x4 x5 x7 x6 0 q5.2 _ hf hq)
      · have hf := giff c10 hf
        exact kW_le (L' := [some (kr 85), some (kI x1), some (kI x2), some (kI x3), some (kI x4), some (kI x5), none, some (kI x7), none]) ⟨Or.inr rfl, Or.inr rfl, Or.inr rfl, Or.inr rfl, Or.inr rfl, Or.inr rfl, Or.inl rfl, Or.inr rfl, Or.inl rfl, trivial⟩ (b_M_floods_58 x1 x2 x3 x4 x5 x7 x6 q5.2 _ hf hq)
def f_M_floods_38 (x1 : Int) (x2 : Int) (x3 : Int) (x4 : Int) (x5 : Int) (x6 : Int) (x7 : Int) (s : kM) : Option (Int × kM) :=
  gL (fun (x : Int × Int × kM) => f_M_floods_38b x1 x2 x3 x4 x5 x.1 x.2.1 x.2.2) gF (x6, x7, s)
theorem b_M_floods_38 {sc : List Int} {Q : Option kV → kH → Prop} (x1 : Int) (x2 : Int) (x3 : Int) (x4 : Int) (x5 : Int) (x6 : Int) (x7 : Int) (s : kM) (t : Int × kM) (hf : f_M_floods_38 x1 x2 x3 x4 x5 x6 x7 s = some t) (hq : (fun r => Q (some (kI r.1)) (hH r.2)) t) : kW sc 3 kc_M_floods 1 38 [some (kr 85), some (kI x1), some (kI x2), some (kI x3), some (kI x4), some (kI x5), some (kI x6), some (kI x7), none] [] (hH s) Q :=
  gL_ind (P := fun (x : Int × Int × kM) => kW sc 3 kc_M_floods 1 38 [some (kr 85), some (kI x1), some (kI x2), some (kI x3), some (kI x4), some (kI x5), some (kI x.1), some (kI x.2.1), none] [] (hH x.2.2) Q) (q := (fun r => Q (some (kI r.1)) (hH r.2))) (fun x t hf hq => b_M_floods_38b x1 x2 x3 x4 x5 x.1 x.2.1 x.2.2 t hf hq) gF (x6, x7, s) t hf hq
def f_M_floods (x1 : Int) (x2 : Int) (x3 : Int) (x4 : Int) (s : kM) : Option (Int × kM) :=
  (f_M_in x1 1 20 s).bind fun q1 => if q1 = 0 then (some ((-1), s)) else ((f_M_in x2 0 100 s).bind fun q3 => if q3 = 0 then (some ((-1), s)) else ((f_M_isPlace x3 s).bind fun q5 => if q5 = 0 then (some ((-1), s)) else ((f_M_isPlace x4 s).bind fun q7 => if q7 = 0 then (some ((-1), s)) else ((f_M_roadOf x3 s).bind fun q9 => (f_M_roadOf x4 s).bind fun q10 => if q9 = q10 then (f_M_floods_38 x1 x2 x3 x4 (s 86 4) 0 0 s) else (some ((-1), s))))))
set_option maxRecDepth 8000 in
theorem c_M_floods {sc : List Int} (x1 : Int) (x2 : Int) (x3 : Int) (x4 : Int) (s : kM) (t : Int × kM) (hf : f_M_floods x1 x2 x3 x4 s = some t) : kR sc 3 km_M_floods [kr 85, kI x1, kI x2, kI x3, kI x4] (hH s) (some (kI t.1)) (hH t.2) := by
  unfold f_M_floods at hf
  refine kR.start rfl ?_
  show kW sc 3 kc_M_floods 1 0 [some (kr 85), some (kI x1), some (kI x2), some (kI x3), some (kI x4), none, none, none, none] [] (hH s) _
  have hq : (fun (r : Option kV) (g : kH) => r = some (kI t.1) ∧ g = hH t.2) (some (kI t.1)) (hH t.2) := ⟨rfl, rfl⟩
  refine kw_step rfl rfl rfl rfl ?_
  refine kw_step rfl rfl rfl rfl ?_
  refine kw_step rfl rfl rfl rfl ?_
  refine kw_step rfl rfl rfl rfl ?_
  obtain ⟨q1, hq1, hf⟩ := gbind hf
  refine kw_callS (vs := [kJ x1, kJ 1, kJ 20]) rfl rfl rfl ⟨rfl, Nat.le_of_ble_eq_true rfl, Nat.le_of_ble_eq_true rfl, rfl⟩ (c_M_in x1 1 20 s _ hq1) (Nat.le_of_ble_eq_true rfl) ?_
  refine kw_if_eq rfl rfl (fun c2 => ?_) (fun c2 => ?_)
  · have hf := gift c2 hf
    refine kw_step rfl rfl rfl rfl ?_
    cases hf
    exact kw_ret rfl rfl rfl hq
  · have hf := giff c2 hf
    refine kw_step rfl rfl rfl rfl ?_
    refine kw_step rfl rfl rfl rfl ?_
    refine kw_step rfl rfl rfl rfl ?_
    refine kw_step rfl rfl rfl rfl ?_
    obtain ⟨q3, hq3, hf⟩ := gbind hf
    refine kw_callS (vs := [kJ x2, kJ 0, kJ 100]) rfl rfl rfl ⟨rfl, Nat.le_of_ble_eq_true rfl, Nat.le_of_ble_eq_true rfl, rfl⟩ (c_M_in x2 0 100 s _ hq3) (Nat.le_of_ble_eq_true rfl) ?_
    refine kw_if_eq rfl rfl (fun c4 => ?_) (fun c4 => ?_)
    · have hf := gift c4 hf
      refine kw_step rfl rfl rfl rfl ?_
      cases hf
      exact kw_ret rfl rfl rfl hq
    · have hf := giff c4 hf
      refine kw_step rfl rfl rfl rfl ?_
      refine kw_step rfl rfl rfl rfl ?_
      obtain ⟨q5, hq5, hf⟩ := gbind hf
      refine kw_callV (vs := [kI x3]) rfl rfl rfl ⟨rfl, Nat.le_of_ble_eq_true rfl, Nat.le_of_ble_eq_true rfl, by decide⟩ (hH_O (rfl : kotab 85 = some kMo)) (c_M_isPlace x3 s _ hq5) (Nat.le_of_ble_eq_true rfl) ?_
      refine kw_if_eq rfl rfl (fun c6 => ?_) (fun c6 => ?_)
      · have hf := gift c6 hf
        refine kw_step rfl rfl rfl rfl ?_
        cases hf
        exact kw_ret rfl rfl rfl hq
      · have hf := giff c6 hf
        refine kw_step rfl rfl rfl rfl ?_
        refine kw_step rfl rfl rfl rfl ?_
        obtain ⟨q7, hq7, hf⟩ := gbind hf
        refine kw_callV (vs := [kI x4]) rfl rfl rfl ⟨rfl, Nat.le_of_ble_eq_true rfl, Nat.le_of_ble_eq_true rfl, by decide⟩ (hH_O (rfl : kotab 85 = some kMo)) (c_M_isPlace x4 s _ hq7) (Nat.le_of_ble_eq_true rfl) ?_
        refine kw_if_eq rfl rfl (fun c8 => ?_) (fun c8 => ?_)
        · have hf := gift c8 hf
          refine kw_step rfl rfl rfl rfl ?_
          cases hf
          exact kw_ret rfl rfl rfl hq
        · have hf := giff c8 hf
          refine kw_step rfl rfl rfl rfl ?_
          refine kw_step rfl rfl rfl rfl ?_
          obtain ⟨q9, hq9, hf⟩ := gbind hf
          refine kw_callV (vs := [kI x3]) rfl rfl rfl ⟨rfl, Nat.le_of_ble_eq_true rfl, Nat.le_of_ble_eq_true rfl, by decide⟩ (hH_O (rfl : kotab 85 = some kMo)) (c_M_roadOf x3 s _ hq9) (Nat.le_of_ble_eq_true rfl) ?_
          refine kw_step rfl rfl rfl rfl ?_
          refine kw_step rfl rfl rfl rfl ?_
          obtain ⟨q10, hq10, hf⟩ := gbind hf
          refine kw_callV (vs := [kI x4]) rfl rfl rfl ⟨rfl, Nat.le_of_ble_eq_true rfl, Nat.le_of_ble_eq_true rfl, by decide⟩ (hH_O (rfl : kotab 85 = some kMo)) (c_M_roadOf x4 s _ hq10) (Nat.le_of_ble_eq_true rfl) ?_
          refine kw_icmp_eq rfl rfl (fun c11 => ?_) (fun c11 => ?_)
          · have hf := gift c11 hf
            refine kw_step rfl rfl rfl rfl ?_
            refine kw_get rfl (hH_O (rfl : kotab 85 = some kMo)) rfl ?_
            refine kw_step rfl rfl rfl rfl ?_
            refine kw_iald rfl (hH_A (rfl : ktab 86 = some (0, 6))) (by decide) (by decide) (j := 4) rfl ?_
            refine kw_step (L' := [some (kr 85), some (kI x1), some (kI x2), some (kI x3), some (kI x4), some (kI (s 86 4)), none, none, none]) rfl rfl rfl rfl ?_
            refine kw_step rfl rfl rfl rfl ?_
            refine kw_step (L' := [some (kr 85), some (kI x1), some (kI x2), some (kI x3), some (kI x4), some (kI (s 86 4)), some (kI 0), none, none]) rfl rfl rfl rfl ?_
            refine kw_step rfl rfl rfl rfl ?_
            refine kw_step (L' := [some (kr 85), some (kI x1), some (kI x2), some (kI x3), some (kI x4), some (kI (s 86 4)), some (kI 0), some (kI 0), none]) rfl rfl rfl rfl ?_
            exact kW_le (L' := [some (kr 85), some (kI x1), some (kI x2), some (kI x3), some (kI x4), some (kI (s 86 4)), some (kI 0), some (kI 0), none]) ⟨Or.inr rfl, Or.inr rfl, Or.inr rfl, Or.inr rfl, Or.inr rfl, Or.inr rfl, Or.inr rfl, Or.inr rfl, Or.inl rfl, trivial⟩ (b_M_floods_38 x1 x2 x3 x4 (s 86 4) 0 0 s _ hf hq)
          · have hf := giff c11 hf
            refine kw_step rfl rfl rfl rfl ?_
            cases hf
            exact kw_ret rfl rfl rfl hq
def f_M_count_18 (x1 : Int) (x3 : Int) (y0 : Int) (y1 : Int) (s : kM) : Option ((Int × Int) ⊕ (Int × kM)) :=
  some (.inl ((wI (y0 + y1)), (wI (x3 + 1))))
set_option maxRecDepth 8000 in
theorem b_M_count_18 {sc : List Int} {Q : Option kV → kH → Prop} (x1 : Int) (x3 : Int) (y0 : Int) (y1 : Int) (s : kM) (t : (Int × Int) ⊕ (Int × kM)) (hf : f_M_count_18 x1 x3 y0 y1 s = some t) (hq : (gE (fun x => kW sc 3 kc_M_count 1 4 [some (kr 85), some (kI x1), some (kI x.1), some (kI x.2)] [] (hH s) Q) (fun r => Q (some (kI r.1)) (hH r.2))) t) : kW sc 3 kc_M_count 1 18 [some (kr 85), some (kI x1), none, some (kI x3)] [kI y1, kI y0] (hH s) Q := by
  unfold f_M_count_18 at hf
  refine kw_step rfl rfl rfl rfl ?_
  refine kw_step (L' := [some (kr 85), some (kI x1), some (kI (wI (y0 + y1))), some (kI x3)]) rfl rfl rfl rfl ?_
  refine kw_step (L' := [some (kr 85), some (kI x1), some (kI (wI (y0 + y1))), some (kI (wI (x3 + 1)))]) rfl rfl rfl rfl ?_
  refine kw_goto rfl rfl ?_
  cases hf
  exact kW_le (L' := [some (kr 85), some (kI x1), some (kI (wI (y0 + y1))), some (kI (wI (x3 + 1)))]) ⟨Or.inr rfl, Or.inr rfl, Or.inr rfl, Or.inr rfl, trivial⟩ hq
def f_M_count_4b (x1 : Int) (x2 : Int) (x3 : Int) (s : kM) : Option ((Int × Int) ⊕ (Int × kM)) :=
  if 11 ≤ x3 then ((f_M_fillsBows s).bind fun q2 => if x1 = 0 then (some (.inr ((q2 86 0), q2))) else if x1 = 1 then ((f_M_many q2).bind fun q6 => some (.inr (q6, q2))) else if x1 = 2 then ((f_M_places q2).bind fun q8 => some (.inr (q8, q2))) else if x1 = 3 then (some (.inr (x2, q2))) else if x1 = 4 then (some (.inr ((q2 86 3), q2))) else if x1 = 5 then (some (.inr ((q2 85 44), q2))) else if x1 = 6 then (some (.inr ((q2 85 25), q2))) else if x1 = 7 then (some (.inr ((q2 86 5), q2))) else if x1 = 8 then (some (.inr ((q2 86 4), q2))) else if x1 = 9 then (some (.inr ((q2 85 21), q2))) else if x1 = 10 then ((f_M_groups q2).bind fun q17 => some (.inr (q17.1, q17.2))) else (some (.inr ((-1), q2)))) else ((f_M_isBridge x3 s).bind fun q19 => if q19 = 0 then (f_M_count_18 x1 x3 x2 0 s) else ((gI 11 x3).bind fun j21 => f_M_count_18 x1 x3 x2 (s 89 j21) s))
set_option maxRecDepth 8000 in
theorem b_M_count_4b {sc : List Int} {Q : Option kV → kH → Prop} (x1 : Int) (x2 : Int) (x3 : Int) (s : kM) (t : (Int × Int) ⊕ (Int × kM)) (hf : f_M_count_4b x1 x2 x3 s = some t) (hq : (gE (fun x => kW sc 3 kc_M_count 1 4 [some (kr 85), some (kI x1), some (kI x.1), some (kI x.2)] [] (hH s) Q) (fun r => Q (some (kI r.1)) (hH r.2))) t) : kW sc 3 kc_M_count 1 4 [some (kr 85), some (kI x1), some (kI x2), some (kI x3)] [] (hH s) Q := by
  unfold f_M_count_4b at hf
  refine kw_step rfl rfl rfl rfl ?_
  refine kw_step rfl rfl rfl rfl ?_
  refine kw_icmp_ge rfl rfl (fun c1 => ?_) (fun c1 => ?_)
  · have hf := gift c1 hf
    refine kw_step rfl rfl rfl rfl ?_
    obtain ⟨q2, hq2, hf⟩ := gbind hf
    refine kw_callV (vs := []) rfl rfl rfl ⟨rfl, Nat.le_of_ble_eq_true rfl, Nat.le_of_ble_eq_true rfl, by decide⟩ (hH_O (rfl : kotab 85 = some kMo)) (c_M_fillsBows s _ hq2) (Nat.le_of_ble_eq_true rfl) ?_
    refine kw_step rfl rfl rfl rfl ?_
    by_cases c4 : x1 = 0
    · have hf := gift c4 hf
      refine kw_tsw_at rfl c4 rfl rfl rfl ?_
      refine kw_step rfl rfl rfl rfl ?_
      refine kw_get rfl (hH_O (rfl : kotab 85 = some kMo)) rfl ?_
      refine kw_step rfl rfl rfl rfl ?_
      refine kw_iald rfl (hH_A (rfl : ktab 86 = some (0, 6))) (by decide) (by decide) (j := 0) rfl ?_
      cases hf
      exact kw_ret rfl rfl rfl hq
    have hf := giff c4 hf
    by_cases c5 : x1 = 1
    · have hf := gift c5 hf
      refine kw_tsw_at rfl c5 rfl rfl rfl ?_
      refine kw_step rfl rfl rfl rfl ?_
      obtain ⟨q6, hq6, hf⟩ := gbind hf
      refine kw_callV (vs := []) rfl rfl rfl ⟨rfl, Nat.le_of_ble_eq_true rfl, Nat.le_of_ble_eq_true rfl, by decide⟩ (hH_O (rfl : kotab 85 = some kMo)) (c_M_many q2 _ hq6) (Nat.le_of_ble_eq_true rfl) ?_
      cases hf
      exact kw_ret rfl rfl rfl hq
    have hf := giff c5 hf
    by_cases c7 : x1 = 2
    · have hf := gift c7 hf
      refine kw_tsw_at rfl c7 rfl rfl rfl ?_
      refine kw_step rfl rfl rfl rfl ?_
      obtain ⟨q8, hq8, hf⟩ := gbind hf
      refine kw_callV (vs := []) rfl rfl rfl ⟨rfl, Nat.le_of_ble_eq_true rfl, Nat.le_of_ble_eq_true rfl, by decide⟩ (hH_O (rfl : kotab 85 = some kMo)) (c_M_places q2 _ hq8) (Nat.le_of_ble_eq_true rfl) ?_
      cases hf
      exact kw_ret rfl rfl rfl hq
    have hf := giff c7 hf
    by_cases c9 : x1 = 3
    · have hf := gift c9 hf
      refine kw_tsw_at rfl c9 rfl rfl rfl ?_
      refine kw_step rfl rfl rfl rfl ?_
      cases hf
      exact kw_ret rfl rfl rfl hq
    have hf := giff c9 hf
    by_cases c10 : x1 = 4
    · have hf := gift c10 hf
      refine kw_tsw_at rfl c10 rfl rfl rfl ?_
      refine kw_step rfl rfl rfl rfl ?_
      refine kw_get rfl (hH_O (rfl : kotab 85 = some kMo)) rfl ?_
      refine kw_step rfl rfl rfl rfl ?_
      refine kw_iald rfl (hH_A (rfl : ktab 86 = some (0, 6))) (by decide) (by decide) (j := 3) rfl ?_
      cases hf
      exact kw_ret rfl rfl rfl hq
    have hf := giff c10 hf
    by_cases c11 : x1 = 5
    · have hf := gift c11 hf
      refine kw_tsw_at rfl c11 rfl rfl rfl ?_
      refine kw_step rfl rfl rfl rfl ?_
      refine kw_get rfl (hH_O (rfl : kotab 85 = some kMo)) rfl ?_
      cases hf
      exact kw_ret rfl rfl rfl hq
    have hf := giff c11 hf
    by_cases c12 : x1 = 6
    · have hf := gift c12 hf
      refine kw_tsw_at rfl c12 rfl rfl rfl ?_
      refine kw_step rfl rfl rfl rfl ?_
      refine kw_get rfl (hH_O (rfl : kotab 85 = some kMo)) rfl ?_
      cases hf
      exact kw_ret rfl rfl rfl hq
    have hf := giff c12 hf
    by_cases c13 : x1 = 7
    · have hf := gift c13 hf
      refine kw_tsw_at rfl c13 rfl rfl rfl ?_
      refine kw_step rfl rfl rfl rfl ?_
      refine kw_get rfl (hH_O (rfl : kotab 85 = some kMo)) rfl ?_
      refine kw_step rfl rfl rfl rfl ?_
      refine kw_iald rfl (hH_A (rfl : ktab 86 = some (0, 6))) (by decide) (by decide) (j := 5) rfl ?_
      cases hf
      exact kw_ret rfl rfl rfl hq
    have hf := giff c13 hf
    by_cases c14 : x1 = 8
    · have hf := gift c14 hf
      refine kw_tsw_at rfl c14 rfl rfl rfl ?_
      refine kw_step rfl rfl rfl rfl ?_
      refine kw_get rfl (hH_O (rfl : kotab 85 = some kMo)) rfl ?_
      refine kw_step rfl rfl rfl rfl ?_
      refine kw_iald rfl (hH_A (rfl : ktab 86 = some (0, 6))) (by decide) (by decide) (j := 4) rfl ?_
      cases hf
      exact kw_ret rfl rfl rfl hq
    have hf := giff c14 hf
    by_cases c15 : x1 = 9
    · have hf := gift c15 hf
      refine kw_tsw_at rfl c15 rfl rfl rfl ?_
      refine kw_step rfl rfl rfl rfl ?_
      refine kw_get rfl (hH_O (rfl : kotab 85 = some kMo)) rfl ?_
      cases hf
      exact kw_ret rfl rfl rfl hq
    have hf := giff c15 hf
    by_cases c16 : x1 = 10
    · have hf := gift c16 hf
      refine kw_tsw_at rfl c16 rfl rfl rfl ?_
      refine kw_step rfl rfl rfl rfl ?_
      obtain ⟨q17, hq17, hf⟩ := gbind hf
      refine kw_callV (vs := []) rfl rfl rfl ⟨rfl, Nat.le_of_ble_eq_true rfl, Nat.le_of_ble_eq_true rfl, by decide⟩ (hH_O (rfl : kotab 85 = some kMo)) (c_M_groups q2 _ hq17) (Nat.le_of_ble_eq_true rfl) ?_
      cases hf
      exact kw_ret rfl rfl rfl hq
    have hf := giff c16 hf
    refine kw_tsw_out rfl (by omega) rfl ?_
    refine kw_step rfl rfl rfl rfl ?_
    cases hf
    exact kw_ret rfl rfl rfl hq
  · have hf := giff c1 hf
    refine kw_step rfl rfl rfl rfl ?_
    refine kw_step rfl rfl rfl rfl ?_
    refine kw_step rfl rfl rfl rfl ?_
    obtain ⟨q19, hq19, hf⟩ := gbind hf
    refine kw_callV (vs := [kI x3]) rfl rfl rfl ⟨rfl, Nat.le_of_ble_eq_true rfl, Nat.le_of_ble_eq_true rfl, by decide⟩ (hH_O (rfl : kotab 85 = some kMo)) (c_M_isBridge x3 s _ hq19) (Nat.le_of_ble_eq_true rfl) ?_
    refine kw_if_eq rfl rfl (fun c20 => ?_) (fun c20 => ?_)
    · have hf := gift c20 hf
      refine kw_step rfl rfl rfl rfl ?_
      exact kW_le (L' := [some (kr 85), some (kI x1), none, some (kI x3)]) ⟨Or.inr rfl, Or.inr rfl, Or.inl rfl, Or.inr rfl, trivial⟩ (b_M_count_18 x1 x3 x2 0 s _ hf hq)
    · have hf := giff c20 hf
      refine kw_step rfl rfl rfl rfl ?_
      refine kw_get rfl (hH_O (rfl : kotab 85 = some kMo)) rfl ?_
      refine kw_step rfl rfl rfl rfl ?_
      obtain ⟨j21, i22, hf⟩ := gbI hf
      refine kw_iald rfl (hH_A (rfl : ktab 89 = some (0, 11))) i22.1 i22.2.1 i22.2.2 ?_
      refine kw_goto rfl rfl ?_
      exact kW_le (L' := [some (kr 85), some (kI x1), none, some (kI x3)]) ⟨Or.inr rfl, Or.inr rfl, Or.inl rfl, Or.inr rfl, trivial⟩ (b_M_count_18 x1 x3 x2 (s 89 j21) s _ hf hq)
def f_M_count_4 (x1 : Int) (x2 : Int) (x3 : Int) (s : kM) : Option (Int × kM) :=
  gL (fun (x : Int × Int) => f_M_count_4b x1 x.1 x.2 s) gF (x2, x3)
theorem b_M_count_4 {sc : List Int} {Q : Option kV → kH → Prop} (x1 : Int) (x2 : Int) (x3 : Int) (s : kM) (t : Int × kM) (hf : f_M_count_4 x1 x2 x3 s = some t) (hq : (fun r => Q (some (kI r.1)) (hH r.2)) t) : kW sc 3 kc_M_count 1 4 [some (kr 85), some (kI x1), some (kI x2), some (kI x3)] [] (hH s) Q :=
  gL_ind (P := fun (x : Int × Int) => kW sc 3 kc_M_count 1 4 [some (kr 85), some (kI x1), some (kI x.1), some (kI x.2)] [] (hH s) Q) (q := (fun r => Q (some (kI r.1)) (hH r.2))) (fun x t hf hq => b_M_count_4b x1 x.1 x.2 s t hf hq) gF (x2, x3) t hf hq
def f_M_count (x1 : Int) (s : kM) : Option (Int × kM) :=
  f_M_count_4 x1 0 0 s
set_option maxRecDepth 8000 in
theorem c_M_count {sc : List Int} (x1 : Int) (s : kM) (t : Int × kM) (hf : f_M_count x1 s = some t) : kR sc 3 km_M_count [kr 85, kI x1] (hH s) (some (kI t.1)) (hH t.2) := by
  unfold f_M_count at hf
  refine kR.start rfl ?_
  show kW sc 3 kc_M_count 1 0 [some (kr 85), some (kI x1), none, none] [] (hH s) _
  have hq : (fun (r : Option kV) (g : kH) => r = some (kI t.1) ∧ g = hH t.2) (some (kI t.1)) (hH t.2) := ⟨rfl, rfl⟩
  refine kw_step rfl rfl rfl rfl ?_
  refine kw_step (L' := [some (kr 85), some (kI x1), some (kI 0), none]) rfl rfl rfl rfl ?_
  refine kw_step rfl rfl rfl rfl ?_
  refine kw_step (L' := [some (kr 85), some (kI x1), some (kI 0), some (kI 0)]) rfl rfl rfl rfl ?_
  exact kW_le (L' := [some (kr 85), some (kI x1), some (kI 0), some (kI 0)]) ⟨Or.inr rfl, Or.inr rfl, Or.inr rfl, Or.inr rfl, trivial⟩ (b_M_count_4 x1 0 0 s _ hf hq)
def f_M_carry_26 (a1 : Nat) (n1 : Nat) (x2 : Int) (s : kM) : Option ((Int × kM) ⊕ (kM)) :=
  gLet (gU s 85 57 (wI ((s 85 57) + 1))) fun s1 => some (.inl ((wI (x2 + 1)), s1))
set_option maxRecDepth 8000 in
theorem b_M_carry_26 {sc : List Int} {Q : Option kV → kH → Prop} (a1 : Nat) (n1 : Nat) (ha1 : ktab a1 = some (0, n1)) (x2 : Int) (s : kM) (t : (Int × kM) ⊕ (kM)) (hf : f_M_carry_26 a1 n1 x2 s = some t) (hq : (gE (fun x => kW sc 0 kc_M_carry 0 2 [some (kr 85), some (kr a1), some (kI x.1)] [] (hH x.2) Q) (fun r => Q none (hH r))) t) : kW sc 0 kc_M_carry 0 26 [some (kr 85), some (kr a1), some (kI x2)] [] (hH s) Q := by
  unfold f_M_carry_26 at hf
  refine kw_step rfl rfl rfl rfl ?_
  refine kw_step rfl rfl rfl rfl ?_
  refine kw_get rfl (hH_O (rfl : kotab 85 = some kMo)) rfl ?_
  refine kw_step rfl rfl rfl rfl ?_
  refine kw_step rfl rfl rfl rfl ?_
  obtain ⟨s1, ee2, hf⟩ := gbL hf
  refine kw_putH rfl (rfl : kotab 85 = some kMo) rfl rfl rfl (Nat.le_of_ble_eq_true rfl) rfl ee2 ?_
  refine kw_step (L' := [some (kr 85), some (kr a1), some (kI (wI (x2 + 1)))]) rfl rfl rfl rfl ?_
  refine kw_goto rfl rfl ?_
  cases hf
  exact kW_le (L' := [some (kr 85), some (kr a1), some (kI (wI (x2 + 1)))]) ⟨Or.inr rfl, Or.inr rfl, Or.inr rfl, trivial⟩ hq
def f_M_carry_2b (a1 : Nat) (n1 : Nat) (x2 : Int) (s : kM) : Option ((Int × kM) ⊕ (kM)) :=
  if ((n1 : Nat) : Int) ≤ x2 then (some (.inr s)) else (if (s 85 58) = 0 then ((gI n1 x2).bind fun j3 => (gI 280 (s 85 57)).bind fun j5 => gLet (gU s 123 j5 (s a1 j3)) fun s7 => f_M_carry_26 a1 n1 x2 s7) else ((gI 280 (s 85 57)).bind fun j10 => (gI n1 x2).bind fun j12 => gLet (gU s a1 j12 (s 123 j10)) fun s14 => f_M_carry_26 a1 n1 x2 s14))
set_option maxRecDepth 8000 in
theorem b_M_carry_2b {sc : List Int} {Q : Option kV → kH → Prop} (a1 : Nat) (n1 : Nat) (ha1 : ktab a1 = some (0, n1)) (x2 : Int) (s : kM) (t : (Int × kM) ⊕ (kM)) (hf : f_M_carry_2b a1 n1 x2 s = some t) (hq : (gE (fun x => kW sc 0 kc_M_carry 0 2 [some (kr 85), some (kr a1), some (kI x.1)] [] (hH x.2) Q) (fun r => Q none (hH r))) t) : kW sc 0 kc_M_carry 0 2 [some (kr 85), some (kr a1), some (kI x2)] [] (hH s) Q := by
  unfold f_M_carry_2b at hf
  refine kw_step rfl rfl rfl rfl ?_
  refine kw_step rfl rfl rfl rfl ?_
  refine kw_alen rfl (hH_A ha1) (by decide) ?_
  refine kw_icmp_ge rfl rfl (fun c1 => ?_) (fun c1 => ?_)
  · have hf := gift c1 hf
    cases hf
    exact kw_ret rfl rfl rfl hq
  · have hf := giff c1 hf
    refine kw_step rfl rfl rfl rfl ?_
    refine kw_get rfl (hH_O (rfl : kotab 85 = some kMo)) rfl ?_
    refine kw_if_eq rfl rfl (fun c2 => ?_) (fun c2 => ?_)
    · have hf := gift c2 hf
      refine kw_step rfl rfl rfl rfl ?_
      refine kw_get rfl (hH_O (rfl : kotab 85 = some kMo)) rfl ?_
      refine kw_step rfl rfl rfl rfl ?_
      refine kw_get rfl (hH_O (rfl : kotab 85 = some kMo)) rfl ?_
      refine kw_step rfl rfl rfl rfl ?_
      refine kw_step rfl rfl rfl rfl ?_
      obtain ⟨j3, i4, hf⟩ := gbI hf
      refine kw_iald rfl (hH_A ha1) i4.1 i4.2.1 i4.2.2 ?_
      obtain ⟨j5, i6, hf⟩ := gbI hf
      obtain ⟨s7, ee8, hf⟩ := gbL hf
      refine kw_iastH rfl (rfl : ktab 123 = some (0, 280)) i6.1 i6.2.1 i6.2.2 ee8 ?_
      exact kW_le (L' := [some (kr 85), some (kr a1), some (kI x2)]) ⟨Or.inr rfl, Or.inr rfl, Or.inr rfl, trivial⟩ (b_M_carry_26 a1 n1 ha1 x2 s7 _ hf hq)
    · have hf := giff c2 hf
      refine kw_step rfl rfl rfl rfl ?_
      refine kw_step rfl rfl rfl rfl ?_
      refine kw_step rfl rfl rfl rfl ?_
      refine kw_get rfl (hH_O (rfl : kotab 85 = some kMo)) rfl ?_
      refine kw_step rfl rfl rfl rfl ?_
      refine kw_get rfl (hH_O (rfl : kotab 85 = some kMo)) rfl ?_
      obtain ⟨j10, i11, hf⟩ := gbI hf
      refine kw_iald rfl (hH_A (rfl : ktab 123 = some (0, 280))) i11.1 i11.2.1 i11.2.2 ?_
      obtain ⟨j12, i13, hf⟩ := gbI hf
      obtain ⟨s14, ee15, hf⟩ := gbL hf
      refine kw_iastH rfl ha1 i13.1 i13.2.1 i13.2.2 ee15 ?_
      refine kw_goto rfl rfl ?_
      exact kW_le (L' := [some (kr 85), some (kr a1), some (kI x2)]) ⟨Or.inr rfl, Or.inr rfl, Or.inr rfl, trivial⟩ (b_M_carry_26 a1 n1 ha1 x2 s14 _ hf hq)
def f_M_carry_2 (a1 : Nat) (n1 : Nat) (x2 : Int) (s : kM) : Option (kM) :=
  gL (fun (x : Int × kM) => f_M_carry_2b a1 n1 x.1 x.2) gF (x2, s)
theorem b_M_carry_2 {sc : List Int} {Q : Option kV → kH → Prop} (a1 : Nat) (n1 : Nat) (ha1 : ktab a1 = some (0, n1)) (x2 : Int) (s : kM) (t : kM) (hf : f_M_carry_2 a1 n1 x2 s = some t) (hq : (fun r => Q none (hH r)) t) : kW sc 0 kc_M_carry 0 2 [some (kr 85), some (kr a1), some (kI x2)] [] (hH s) Q :=
  gL_ind (P := fun (x : Int × kM) => kW sc 0 kc_M_carry 0 2 [some (kr 85), some (kr a1), some (kI x.1)] [] (hH x.2) Q) (q := (fun r => Q none (hH r))) (fun x t hf hq => b_M_carry_2b a1 n1 ha1 x.1 x.2 t hf hq) gF (x2, s) t hf hq
def f_M_carry (a1 : Nat) (n1 : Nat) (s : kM) : Option (kM) :=
  f_M_carry_2 a1 n1 0 s
set_option maxRecDepth 8000 in
theorem c_M_carry {sc : List Int} (a1 : Nat) (n1 : Nat) (ha1 : ktab a1 = some (0, n1)) (s : kM) (t : kM) (hf : f_M_carry a1 n1 s = some t) : kR sc 0 km_M_carry [kr 85, kr a1] (hH s) none (hH t) := by
  unfold f_M_carry at hf
  refine kR.start rfl ?_
  show kW sc 0 kc_M_carry 0 0 [some (kr 85), some (kr a1), none] [] (hH s) _
  have hq : (fun (r : Option kV) (g : kH) => r = none ∧ g = hH t) none (hH t) := ⟨rfl, rfl⟩
  refine kw_step rfl rfl rfl rfl ?_
  refine kw_step (L' := [some (kr 85), some (kr a1), some (kI 0)]) rfl rfl rfl rfl ?_
  exact kW_le (L' := [some (kr 85), some (kr a1), some (kI 0)]) ⟨Or.inr rfl, Or.inr rfl, Or.inr rfl, trivial⟩ (b_M_carry_2 a1 n1 ha1 0 s _ hf hq)
def f_M_carriesAll (x1 : Int) (x2 : Int) (s : kM) : Option (kM) :=
  gLet (gU s 85 57 (wI (70 * x1))) fun s1 => (gB x2).bind fun _ => gLet (gU s1 85 58 x2) fun s5 => (f_M_carry 86 6 s5).bind fun q8 => (f_M_carry 87 22 q8).bind fun q10 => (f_M_carry 88 22 q10).bind fun q12 => (f_M_carry 89 11 q12).bind fun q14 => (f_M_refresh q14).bind fun q16 => some q16
set_option maxRecDepth 8000 in
theorem c_M_carriesAll {sc : List Int} (x1 : Int) (x2 : Int) (s : kM) (t : kM) (hf : f_M_carriesAll x1 x2 s = some t) : kR sc 2 km_M_carriesAll [kr 85, kI x1, kI x2] (hH s) none (hH t) := by
  unfold f_M_carriesAll at hf
  refine kR.start rfl ?_
  show kW sc 2 kc_M_carriesAll 0 0 [some (kr 85), some (kI x1), some (kI x2)] [] (hH s) _
  have hq : (fun (r : Option kV) (g : kH) => r = none ∧ g = hH t) none (hH t) := ⟨rfl, rfl⟩
  refine kw_step rfl rfl rfl rfl ?_
  refine kw_step rfl rfl rfl rfl ?_
  refine kw_step rfl rfl rfl rfl ?_
  refine kw_step rfl rfl rfl rfl ?_
  obtain ⟨s1, ee2, hf⟩ := gbL hf
  refine kw_putH rfl (rfl : kotab 85 = some kMo) rfl rfl rfl (Nat.le_of_ble_eq_true rfl) rfl ee2 ?_
  refine kw_step rfl rfl rfl rfl ?_
  refine kw_step rfl rfl rfl rfl ?_
  obtain ⟨w4, hf⟩ := gbB hf
  obtain ⟨s5, ee6, hf⟩ := gbL hf
  refine kw_putH rfl (rfl : kotab 85 = some kMo) rfl rfl rfl (Nat.le_of_ble_eq_true rfl) (decide_eq_true w4) ee6 ?_
  refine kw_step rfl rfl rfl rfl ?_
  refine kw_step rfl rfl rfl rfl ?_
  refine kw_get rfl (hH_O (rfl : kotab 85 = some kMo)) rfl ?_
  obtain ⟨q8, hq8, hf⟩ := gbind hf
  refine kw_callV (vs := [kr 86]) rfl rfl rfl ⟨rfl, Nat.le_of_ble_eq_true rfl, Nat.le_of_ble_eq_true rfl, by decide⟩ (hH_O (rfl : kotab 85 = some kMo)) (c_M_carry 86 6 (rfl : ktab 86 = some (0, 6)) s5 _ hq8) (Nat.le_of_ble_eq_true rfl) ?_
  refine kw_step rfl rfl rfl rfl ?_
  refine kw_step rfl rfl rfl rfl ?_
  refine kw_get rfl (hH_O (rfl : kotab 85 = some kMo)) rfl ?_
  obtain ⟨q10, hq10, hf⟩ := gbind hf
  refine kw_callV (vs := [kr 87]) rfl rfl rfl ⟨rfl, Nat.le_of_ble_eq_true rfl, Nat.le_of_ble_eq_true rfl, by decide⟩ (hH_O (rfl : kotab 85 = some kMo)) (c_M_carry 87 22 (rfl : ktab 87 = some (0, 22)) q8 _ hq10) (Nat.le_of_ble_eq_true rfl) ?_
  refine kw_step rfl rfl rfl rfl ?_
  refine kw_step rfl rfl rfl rfl ?_
  refine kw_get rfl (hH_O (rfl : kotab 85 = some kMo)) rfl ?_
  obtain ⟨q12, hq12, hf⟩ := gbind hf
  refine kw_callV (vs := [kr 88]) rfl rfl rfl ⟨rfl, Nat.le_of_ble_eq_true rfl, Nat.le_of_ble_eq_true rfl, by decide⟩ (hH_O (rfl : kotab 85 = some kMo)) (c_M_carry 88 22 (rfl : ktab 88 = some (0, 22)) q10 _ hq12) (Nat.le_of_ble_eq_true rfl) ?_
  refine kw_step rfl rfl rfl rfl ?_
  refine kw_step rfl rfl rfl rfl ?_
  refine kw_get rfl (hH_O (rfl : kotab 85 = some kMo)) rfl ?_
  obtain ⟨q14, hq14, hf⟩ := gbind hf
  refine kw_callV (vs := [kr 89]) rfl rfl rfl ⟨rfl, Nat.le_of_ble_eq_true rfl, Nat.le_of_ble_eq_true rfl, by decide⟩ (hH_O (rfl : kotab 85 = some kMo)) (c_M_carry 89 11 (rfl : ktab 89 = some (0, 11)) q12 _ hq14) (Nat.le_of_ble_eq_true rfl) ?_
  refine kw_step rfl rfl rfl rfl ?_
  obtain ⟨q16, hq16, hf⟩ := gbind hf
  refine kw_callV (vs := []) rfl rfl rfl ⟨rfl, Nat.le_of_ble_eq_true rfl, Nat.le_of_ble_eq_true rfl, by decide⟩ (hH_O (rfl : kotab 85 = some kMo)) (c_M_refresh q14 _ hq16) (Nat.le_of_ble_eq_true rfl) ?_
  cases hf
  exact kw_ret rfl rfl rfl hq
def f_M_image (x1 : Int) (s : kM) : Option (Int × kM) :=
  (f_M_in x1 0 3 s).bind fun q1 => if q1 = 0 then (some ((-1), s)) else ((gI 4 x1).bind fun j3 => gLet (gU s 124 j3 1) fun s5 => (f_M_carriesAll x1 0 s5).bind fun q8 => some ((q8 86 3), q8))
set_option maxRecDepth 8000 in
theorem c_M_image {sc : List Int} (x1 : Int) (s : kM) (t : Int × kM) (hf : f_M_image x1 s = some t) : kR sc 3 km_M_image [kr 85, kI x1] (hH s) (some (kI t.1)) (hH t.2) := by
  unfold f_M_image at hf
  refine kR.start rfl ?_
  show kW sc 3 kc_M_image 1 0 [some (kr 85), some (kI x1)] [] (hH s) _
  have hq : (fun (r : Option kV) (g : kH) => r = some (kI t.1) ∧ g = hH t.2) (some (kI t.1)) (hH t.2) := ⟨rfl, rfl⟩
  refine kw_step rfl rfl rfl rfl ?_
  refine kw_step rfl rfl rfl rfl ?_
  refine kw_step rfl rfl rfl rfl ?_
  refine kw_step rfl rfl rfl rfl ?_
  obtain ⟨q1, hq1, hf⟩ := gbind hf
  refine kw_callS (vs := [kJ x1, kJ 0, kJ 3]) rfl rfl rfl ⟨rfl, Nat.le_of_ble_eq_true rfl, Nat.le_of_ble_eq_true rfl, rfl⟩ (c_M_in x1 0 3 s _ hq1) (Nat.le_of_ble_eq_true rfl) ?_
  refine kw_if_ne rfl rfl (fun c2 => ?_) (fun c2 => ?_)
  · have hf := giff c2 hf
    refine kw_step rfl rfl rfl rfl ?_
    refine kw_get rfl (hH_O (rfl : kotab 85 = some kMo)) rfl ?_
    refine kw_step rfl rfl rfl rfl ?_
    refine kw_step rfl rfl rfl rfl ?_
    obtain ⟨j3, i4, hf⟩ := gbI hf
    obtain ⟨s5, ee6, hf⟩ := gbL hf
    refine kw_zastH rfl (rfl : ktab 124 = some (4, 4)) i4.1 i4.2.1 i4.2.2 (by decide) ee6 ?_
    refine kw_step rfl rfl rfl rfl ?_
    refine kw_step rfl rfl rfl rfl ?_
    refine kw_step rfl rfl rfl rfl ?_
    obtain ⟨q8, hq8, hf⟩ := gbind hf
    refine kw_callV (vs := [kI x1, kI 0]) rfl rfl rfl ⟨rfl, Nat.le_of_ble_eq_true rfl, Nat.le_of_ble_eq_true rfl, by decide⟩ (hH_O (rfl : kotab 85 = some kMo)) (c_M_carriesAll x1 0 s5 _ hq8) (Nat.le_of_ble_eq_true rfl) ?_
    refine kw_step rfl rfl rfl rfl ?_
    refine kw_get rfl (hH_O (rfl : kotab 85 = some kMo)) rfl ?_
    refine kw_step rfl rfl rfl rfl ?_
    refine kw_iald rfl (hH_A (rfl : ktab 86 = some (0, 6))) (by decide) (by decide) (j := 3) rfl ?_
    cases hf
    exact kw_ret rfl rfl rfl hq
  · have hf := gift c2 hf
    refine kw_step rfl rfl rfl rfl ?_
    cases hf
    exact kw_ret rfl rfl rfl hq
def f_M_back (x1 : Int) (s : kM) : Option (Int × kM) :=
  (f_M_in x1 0 3 s).bind fun q1 => if q1 = 0 then (some ((-1), s)) else ((gI 4 x1).bind fun j3 => if (s 124 j3) = 0 then (some ((-1), s)) else ((f_M_carriesAll x1 1 s).bind fun q6 => some ((q6 86 3), q6)))
set_option maxRecDepth 8000 in
theorem c_M_back {sc : List Int} (x1 : Int) (s : kM) (t : Int × kM) (hf : f_M_back x1 s = some t) : kR sc 3 km_M_back [kr 85, kI x1] (hH s) (some (kI t.1)) (hH t.2) := by
  unfold f_M_back at hf
  refine kR.start rfl ?_
  show kW sc 3 kc_M_back 1 0 [some (kr 85), some (kI x1)] [] (hH s) _
  have hq : (fun (r : Option kV) (g : kH) => r = some (kI t.1) ∧ g = hH t.2) (some (kI t.1)) (hH t.2) := ⟨rfl, rfl⟩
  refine kw_step rfl rfl rfl rfl ?_
  refine kw_step rfl rfl rfl rfl ?_
  refine kw_step rfl rfl rfl rfl ?_
  refine kw_step rfl rfl rfl rfl ?_
  obtain ⟨q1, hq1, hf⟩ := gbind hf
  refine kw_callS (vs := [kJ x1, kJ 0, kJ 3]) rfl rfl rfl ⟨rfl, Nat.le_of_ble_eq_true rfl, Nat.le_of_ble_eq_true rfl, rfl⟩ (c_M_in x1 0 3 s _ hq1) (Nat.le_of_ble_eq_true rfl) ?_
  refine kw_if_eq rfl rfl (fun c2 => ?_) (fun c2 => ?_)
  · have hf := gift c2 hf
    refine kw_step rfl rfl rfl rfl ?_
    cases hf
    exact kw_ret rfl rfl rfl hq
  · have hf := giff c2 hf
    refine kw_step rfl rfl rfl rfl ?_
    refine kw_get rfl (hH_O (rfl : kotab 85 = some kMo)) rfl ?_
    refine kw_step rfl rfl rfl rfl ?_
    obtain ⟨j3, i4, hf⟩ := gbI hf
    refine kw_zald rfl (hH_A (rfl : ktab 124 = some (4, 4))) i4.1 i4.2.1 i4.2.2 ?_
    refine kw_if_ne rfl rfl (fun c5 => ?_) (fun c5 => ?_)
    · have hf := giff c5 hf
      refine kw_step rfl rfl rfl rfl ?_
      refine kw_step rfl rfl rfl rfl ?_
      refine kw_step rfl rfl rfl rfl ?_
      obtain ⟨q6, hq6, hf⟩ := gbind hf
      refine kw_callV (vs := [kI x1, kI 1]) rfl rfl rfl ⟨rfl, Nat.le_of_ble_eq_true rfl, Nat.le_of_ble_eq_true rfl, by decide⟩ (hH_O (rfl : kotab 85 = some kMo)) (c_M_carriesAll x1 1 s _ hq6) (Nat.le_of_ble_eq_true rfl) ?_
      refine kw_step rfl rfl rfl rfl ?_
      refine kw_get rfl (hH_O (rfl : kotab 85 = some kMo)) rfl ?_
      refine kw_step rfl rfl rfl rfl ?_
      refine kw_iald rfl (hH_A (rfl : ktab 86 = some (0, 6))) (by decide) (by decide) (j := 3) rfl ?_
      cases hf
      exact kw_ret rfl rfl rfl hq
    · have hf := gift c5 hf
      refine kw_step rfl rfl rfl rfl ?_
      cases hf
      exact kw_ret rfl rfl rfl hq
def f_KT_gossip (x1 : Int) (x2 : Int) (s : kM) : Option (Int × kM) :=
  (f_Town_hasPlace 4 x1 s).bind fun q1 => if q1 = 0 then (some ((-1), s)) else (if x2 < 0 then (some ((-1), s)) else (if x2 ≤ 60 then ((f_KT_ruleInForce s).bind fun q5 => (f_Gossip_spread 4 q5 x1 x2 s).bind fun q6 => some (q6.1, q6.2)) else (some ((-1), s))))
set_option maxRecDepth 8000 in
theorem c_KT_gossip {sc : List Int} (x1 : Int) (x2 : Int) (s : kM) (t : Int × kM) (hf : f_KT_gossip x1 x2 s = some t) : kR sc 7 km_KT_gossip [kr 0, kI x1, kI x2] (hH s) (some (kI t.1)) (hH t.2) := by
  unfold f_KT_gossip at hf
  refine kR.start rfl ?_
  show kW sc 7 kc_KT_gossip 1 0 [some (kr 0), some (kI x1), some (kI x2)] [] (hH s) _
  have hq : (fun (r : Option kV) (g : kH) => r = some (kI t.1) ∧ g = hH t.2) (some (kI t.1)) (hH t.2) := ⟨rfl, rfl⟩
  refine kw_step rfl rfl rfl rfl ?_
  refine kw_get rfl (hH_O (rfl : kotab 0 = some kKo)) rfl ?_
  refine kw_get rfl (hH_O (tS_0 (b := 3) rfl)) rfl ?_
  refine kw_step rfl rfl rfl rfl ?_
  obtain ⟨q1, hq1, hf⟩ := gbind hf
  refine kw_callV (vs := [kI x1]) rfl rfl rfl ⟨rfl, Nat.le_of_ble_eq_true rfl, Nat.le_of_ble_eq_true rfl, by decide⟩ (hH_O (tT_0 (b := 4) rfl)) (c_Town_hasPlace 4 (rfl : tT 4 = true) x1 s _ hq1) (Nat.le_of_ble_eq_true rfl) ?_
  refine kw_if_eq rfl rfl (fun c2 => ?_) (fun c2 => ?_)
  · have hf := gift c2 hf
    refine kw_step rfl rfl rfl rfl ?_
    cases hf
    exact kw_ret rfl rfl rfl hq
  · have hf := giff c2 hf
    refine kw_step rfl rfl rfl rfl ?_
    refine kw_if_lt rfl rfl (fun c3 => ?_) (fun c3 => ?_)
    · have hf := gift c3 hf
      refine kw_step rfl rfl rfl rfl ?_
      cases hf
      exact kw_ret rfl rfl rfl hq
    · have hf := giff c3 hf
      refine kw_step rfl rfl rfl rfl ?_
      refine kw_step rfl rfl rfl rfl ?_
      refine kw_icmp_le rfl rfl (fun c4 => ?_) (fun c4 => ?_)
      · have hf := gift c4 hf
        refine kw_step rfl rfl rfl rfl ?_
        refine kw_get rfl (hH_O (rfl : kotab 0 = some kKo)) rfl ?_
        refine kw_step rfl rfl rfl rfl ?_
        refine kw_get rfl (hH_O (rfl : kotab 0 = some kKo)) rfl ?_
        refine kw_get rfl (hH_O (tS_0 (b := 3) rfl)) rfl ?_
        refine kw_step rfl rfl rfl rfl ?_
        obtain ⟨q5, hq5, hf⟩ := gbind hf
        refine kw_callV (vs := []) rfl rfl rfl ⟨rfl, Nat.le_of_ble_eq_true rfl, Nat.le_of_ble_eq_true rfl, by decide⟩ (hH_O (rfl : kotab 0 = some kKo)) (c_KT_ruleInForce s _ hq5) (Nat.le_of_ble_eq_true rfl) ?_
        refine kw_step rfl rfl rfl rfl ?_
        refine kw_step rfl rfl rfl rfl ?_
        obtain ⟨q6, hq6, hf⟩ := gbind hf
        refine kw_callV (vs := [kr 4, kq q5, kI x1, kI x2]) rfl rfl rfl ⟨rfl, Nat.le_of_ble_eq_true rfl, Nat.le_of_ble_eq_true rfl, by decide⟩ (hH_O (rfl : kotab 51 = some kGo)) (c_Gossip_spread 4 q5 (rfl : tT 4 = true) x1 x2 s _ hq6) (Nat.le_of_ble_eq_true rfl) ?_
        cases hf
        exact kw_ret rfl rfl rfl hq
      · have hf := giff c4 hf
        refine kw_step rfl rfl rfl rfl ?_
        cases hf
        exact kw_ret rfl rfl rfl hq
