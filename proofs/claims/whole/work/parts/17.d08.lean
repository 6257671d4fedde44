/-! PRINTED by wip/whole/decall.py: methods as functions over the flat world, with their contracts -/
def f_Bows_clearBelow_71 (x1 : Int) (x2 : Int) (x3 : Int) (x4 : Int) (x6 : Int) (s : kM) : Option ((Int × kM) ⊕ (kM)) :=
  some (.inl ((wI (x6 + 1)), s))
set_option maxRecDepth 8000 in
theorem b_Bows_clearBelow_71 {sc : List Int} {Q : Option kV → kH → Prop} (x1 : Int) (x2 : Int) (x3 : Int) (x4 : Int) (x6 : Int) (s : kM) (t : (Int × kM) ⊕ (kM)) (hf : f_Bows_clearBelow_71 x1 x2 x3 x4 x6 s = some t) (hq : (gE (fun x => kW sc 1 kc_Bows_clearBelow 0 13 [some (kr 48), some (kI x1), some (kI x2), some (kI x3), some (kJ x4), none, some (kI x.1), none, none, none, none, none] [] (hH x.2) Q) (fun r => Q none (hH r))) t) : kW sc 1 kc_Bows_clearBelow 0 71 [some (kr 48), some (kI x1), some (kI x2), some (kI x3), some (kJ x4), none, some (kI x6), none, none, none, none, none] [] (hH s) Q := by
  unfold f_Bows_clearBelow_71 at hf
  refine kw_step (L' := [some (kr 48), some (kI x1), some (kI x2), some (kI x3), some (kJ x4), none, some (kI (wI (x6 + 1))), none, none, none, none, none]) rfl rfl rfl rfl ?_
  refine kw_goto rfl rfl ?_
  cases hf
  exact kW_le (L' := [some (kr 48), some (kI x1), some (kI x2), some (kI x3), some (kJ x4), none, some (kI (wI (x6 + 1))), none, none, none, none, none]) ⟨Or.inr rfl, Or.inr rfl, Or.inr rfl, Or.inr rfl, Or.inr rfl, Or.inl rfl, Or.inr rfl, Or.inl rfl, Or.inl rfl, Or.inl rfl, Or.inl rfl, Or.inl rfl, trivial⟩ hq
def f_Bows_clearBelow_28b (x1 : Int) (x2 : Int) (x3 : Int) (x4 : Int) (x6 : Int) (x7 : Int) (x9 : Int) (s : kM) : Option ((Int × kM) ⊕ ((Int × kM) ⊕ (kM))) :=
  if 13 ≤ x9 then ((f_Bows_clearBelow_71 x1 x2 x3 x4 x6 s).map Sum.inr) else (if x7 = 0 then ((f_Bows_clearBelow_71 x1 x2 x3 x4 x6 s).map Sum.inr) else ((gI 143 (wI ((wI (x6 * 13)) + x9))).bind fun j7 => (gI 143 (wI ((wI (x1 * 13)) + x9))).bind fun j9 => (f_Math_floorMod (wL ((wL (x4 * (s 50 j7))) - (wL (x7 * (s 50 j9))))) x3 s).bind fun q11 => (gI 143 (wI ((wI (x6 * 13)) + x9))).bind fun j12 => gLet (gU s 50 j12 q11) fun s14 => some (.inl ((wI (x9 + 1)), s14))))
set_option maxRecDepth 8000 in
theorem b_Bows_clearBelow_28b {sc : List Int} {Q : Option kV → kH → Prop} (x1 : Int) (x2 : Int) (x3 : Int) (x4 : Int) (x6 : Int) (x7 : Int) (x9 : Int) (s : kM) (t : (Int × kM) ⊕ ((Int × kM) ⊕ (kM))) (hf : f_Bows_clearBelow_28b x1 x2 x3 x4 x6 x7 x9 s = some t) (hq : (gE (fun x => kW sc 1 kc_Bows_clearBelow 0 28 [some (kr 48), some (kI x1), some (kI x2), some (kI x3), some (kJ x4), none, some (kI x6), some (kJ x7), none, some (kI x.1), none, none] [] (hH x.2) Q) (gE (fun x => kW sc 1 kc_Bows_clearBelow 0 13 [some (kr 48), some (kI x1), some (kI x2), some (kI x3), some (kJ x4), none, some (kI x.1), none, none, none, none, none] [] (hH x.2) Q) (fun r => Q none (hH r)))) t) : kW sc 1 kc_Bows_clearBelow 0 28 [some (kr 48), some (kI x1), some (kI x2), some (kI x3), some (kJ x4), none, some (kI x6), some (kJ x7), none, some (kI x9), none, none] [] (hH s) Q := by
  unfold f_Bows_clearBelow_28b at hf
  refine kw_step rfl rfl rfl rfl ?_
  refine kw_step rfl rfl rfl rfl ?_
  refine kw_icmp_ge rfl rfl (fun c1 => ?_) (fun c1 => ?_)
  · have hf := gift c1 hf
    obtain ⟨t2, hg3, rfl⟩ := gmap hf
    exact kW_le (L' := [some (kr 48), some (kI x1), some (kI x2), some (kI x3), some (kJ x4), none, some (kI x6), none, none, none, none, none]) ⟨Or.inr rfl, Or.inr rfl, Or.inr rfl, Or.inr rfl, Or.inr rfl, Or.inl rfl, Or.inr rfl, Or.inl rfl, Or.inl rfl, Or.inl rfl, Or.inl rfl, Or.inl rfl, trivial⟩ (b_Bows_clearBelow_71 x1 x2 x3 x4 x6 s _ hg3 hq)
  · have hf := giff c1 hf
    refine kw_step rfl rfl rfl rfl ?_
    refine kw_step rfl rfl rfl rfl ?_
    refine kw_lc_eq rfl rfl rfl (fun c4 => ?_) (fun c4 => ?_)
    · have hf := gift c4 hf
      obtain ⟨t5, hg6, rfl⟩ := gmap hf
      exact kW_le (L' := [some (kr 48), some (kI x1), some (kI x2), some (kI x3), some (kJ x4), none, some (kI x6), none, none, none, none, none]) ⟨Or.inr rfl, Or.inr rfl, Or.inr rfl, Or.inr rfl, Or.inr rfl, Or.inl rfl, Or.inr rfl, Or.inl rfl, Or.inl rfl, Or.inl rfl, Or.inl rfl, Or.inl rfl, trivial⟩ (b_Bows_clearBelow_71 x1 x2 x3 x4 x6 s _ hg6 hq)
    · have hf := giff c4 hf
      refine kw_step rfl rfl rfl rfl ?_
      refine kw_step rfl rfl rfl rfl ?_
      refine kw_get rfl (hH_O (rfl : kotab 48 = some kWo)) rfl ?_
      refine kw_step rfl rfl rfl rfl ?_
      refine kw_step rfl rfl rfl rfl ?_
      refine kw_step rfl rfl rfl rfl ?_
      refine kw_step rfl rfl rfl rfl ?_
      refine kw_step rfl rfl rfl rfl ?_
      obtain ⟨j7, i8, hf⟩ := gbI hf
      refine kw_lald rfl (hH_A (rfl : ktab 50 = some (3, 143))) i8.1 i8.2.1 i8.2.2 ?_
      refine kw_step rfl rfl rfl rfl ?_
      refine kw_step rfl rfl rfl rfl ?_
      refine kw_step rfl rfl rfl rfl ?_
      refine kw_get rfl (hH_O (rfl : kotab 48 = some kWo)) rfl ?_
      refine kw_step rfl rfl rfl rfl ?_
      refine kw_step rfl rfl rfl rfl ?_
      refine kw_step rfl rfl rfl rfl ?_
      refine kw_step rfl rfl rfl rfl ?_
      refine kw_step rfl rfl rfl rfl ?_
      obtain ⟨j9, i10, hf⟩ := gbI hf
      refine kw_lald rfl (hH_A (rfl : ktab 50 = some (3, 143))) i10.1 i10.2.1 i10.2.2 ?_
      refine kw_step rfl rfl rfl rfl ?_
      refine kw_step rfl rfl rfl rfl ?_
      refine kw_step (L' := [some (kr 48), some (kI x1), some (kI x2), some (kI x3), some (kJ x4), none, some (kI x6), some (kJ x7), none, some (kI x9), some (kJ (wL ((wL (x4 * (s 50 j7))) - (wL (x7 * (s 50 j9)))))), none]) rfl rfl rfl rfl ?_
      refine kw_step rfl rfl rfl rfl ?_
      refine kw_get rfl (hH_O (rfl : kotab 48 = some kWo)) rfl ?_
      refine kw_step rfl rfl rfl rfl ?_
      refine kw_step rfl rfl rfl rfl ?_
      refine kw_step rfl rfl rfl rfl ?_
      refine kw_step rfl rfl rfl rfl ?_
      refine kw_step rfl rfl rfl rfl ?_
      refine kw_step rfl rfl rfl rfl ?_
      refine kw_step rfl rfl rfl rfl ?_
      refine kw_step rfl rfl rfl rfl ?_
      obtain ⟨q11, hq11, hf⟩ := gbind hf
      refine kw_callS (vs := [kJ (wL ((wL (x4 * (s 50 j7))) - (wL (x7 * (s 50 j9))))), kJ x3]) rfl rfl rfl ⟨rfl, Nat.le_of_ble_eq_true rfl, Nat.le_of_ble_eq_true rfl, rfl⟩ (c_Math_floorMod (wL ((wL (x4 * (s 50 j7))) - (wL (x7 * (s 50 j9))))) x3 s _ hq11) (Nat.le_of_ble_eq_true rfl) ?_
      obtain ⟨j12, i13, hf⟩ := gbI hf
      obtain ⟨s14, ee15, hf⟩ := gbL hf
      refine kw_lastH rfl (rfl : ktab 50 = some (3, 143)) i13.1 i13.2.1 i13.2.2 ee15 ?_
      refine kw_step (L' := [some (kr 48), some (kI x1), some (kI x2), some (kI x3), some (kJ x4), none, some (kI x6), some (kJ x7), none, some (kI (wI (x9 + 1))), some (kJ (wL ((wL (x4 * (s 50 j7))) - (wL (x7 * (s 50 j9)))))), none]) rfl rfl rfl rfl ?_
      refine kw_goto rfl rfl ?_
      cases hf
      exact kW_le (L' := [some (kr 48), some (kI x1), some (kI x2), some (kI x3), some (kJ x4), none, some (kI x6), some (kJ x7), none, some (kI (wI (x9 + 1))), none, none]) ⟨Or.inr rfl, Or.inr rfl, Or.inr rfl, Or.inr rfl, Or.inr rfl, Or.inl rfl, Or.inr rfl, Or.inr rfl, Or.inl rfl, Or.inr rfl, Or.inl rfl, Or.inl rfl, trivial⟩ hq
def f_Bows_clearBelow_28 (x1 : Int) (x2 : Int) (x3 : Int) (x4 : Int) (x6 : Int) (x7 : Int) (x9 : Int) (s : kM) : Option ((Int × kM) ⊕ (kM)) :=
  gL (fun (x : Int × kM) => f_Bows_clearBelow_28b x1 x2 x3 x4 x6 x7 x.1 x.2) gF (x9, s)
theorem b_Bows_clearBelow_28 {sc : List Int} {Q : Option kV → kH → Prop} (x1 : Int) (x2 : Int) (x3 : Int) (x4 : Int) (x6 : Int) (x7 : Int) (x9 : Int) (s : kM) (t : (Int × kM) ⊕ (kM)) (hf : f_Bows_clearBelow_28 x1 x2 x3 x4 x6 x7 x9 s = some t) (hq : (gE (fun x => kW sc 1 kc_Bows_clearBelow 0 13 [some (kr 48), some (kI x1), some (kI x2), some (kI x3), some (kJ x4), none, some (kI x.1), none, none, none, none, none] [] (hH x.2) Q) (fun r => Q none (hH r))) t) : kW sc 1 kc_Bows_clearBelow 0 28 [some (kr 48), some (kI x1), some (kI x2), some (kI x3), some (kJ x4), none, some (kI x6), some (kJ x7), none, some (kI x9), none, none] [] (hH s) Q :=
  gL_ind (P := fun (x : Int × kM) => kW sc 1 kc_Bows_clearBelow 0 28 [some (kr 48), some (kI x1), some (kI x2), some (kI x3), some (kJ x4), none, some (kI x6), some (kJ x7), none, some (kI x.1), none, none] [] (hH x.2) Q) (q := (gE (fun x => kW sc 1 kc_Bows_clearBelow 0 13 [some (kr 48), some (kI x1), some (kI x2), some (kI x3), some (kJ x4), none, some (kI x.1), none, none, none, none, none] [] (hH x.2) Q) (fun r => Q none (hH r)))) (fun x t hf hq => b_Bows_clearBelow_28b x1 x2 x3 x4 x6 x7 x.1 x.2 t hf hq) gF (x9, s) t hf hq
def f_Bows_clearBelow_13b (x1 : Int) (x2 : Int) (x3 : Int) (x4 : Int) (x6 : Int) (s : kM) : Option ((Int × kM) ⊕ (kM)) :=
  if (s 48 3) ≤ x6 then (some (.inr s)) else ((gI 143 (wI ((wI (x6 * 13)) + x2))).bind fun j2 => f_Bows_clearBelow_28 x1 x2 x3 x4 x6 (s 50 j2) 0 s)
set_option maxRecDepth 8000 in
theorem b_Bows_clearBelow_13b {sc : List Int} {Q : Option kV → kH → Prop} (x1 : Int) (x2 : Int) (x3 : Int) (x4 : Int) (x6 : Int) (s : kM) (t : (Int × kM) ⊕ (kM)) (hf : f_Bows_clearBelow_13b x1 x2 x3 x4 x6 s = some t) (hq : (gE (fun x => kW sc 1 kc_Bows_clearBelow 0 13 [some (kr 48), some (kI x1), some (kI x2), some (kI x3), some (kJ x4), none, some (kI x.1), none, none, none, none, none] [] (hH x.2) Q) (fun r => Q none (hH r))) t) : kW sc 1 kc_Bows_clearBelow 0 13 [some (kr 48), some (kI x1), some (kI x2), some (kI x3), some (kJ x4), none, some (kI x6), none, none, none, none, none] [] (hH s) Q := by
  unfold f_Bows_clearBelow_13b at hf
  refine kw_step rfl rfl rfl rfl ?_
  refine kw_step rfl rfl rfl rfl ?_
  refine kw_get rfl (hH_O (rfl : kotab 48 = some kWo)) rfl ?_
  refine kw_icmp_ge rfl rfl (fun c1 => ?_) (fun c1 => ?_)
  · have hf := gift c1 hf
    cases hf
    exact kw_ret rfl rfl rfl hq
  · have hf := giff c1 hf
    refine kw_step rfl rfl rfl rfl ?_
    refine kw_get rfl (hH_O (rfl : kotab 48 = some kWo)) rfl ?_
    refine kw_step rfl rfl rfl rfl ?_
    refine kw_step rfl rfl rfl rfl ?_
    refine kw_step rfl rfl rfl rfl ?_
    refine kw_step rfl rfl rfl rfl ?_
    refine kw_step rfl rfl rfl rfl ?_
    obtain ⟨j2, i3, hf⟩ := gbI hf
    refine kw_lald rfl (hH_A (rfl : ktab 50 = some (3, 143))) i3.1 i3.2.1 i3.2.2 ?_
    refine kw_step (L' := [some (kr 48), some (kI x1), some (kI x2), some (kI x3), some (kJ x4), none, some (kI x6), some (kJ (s 50 j2)), none, none, none, none]) rfl rfl rfl rfl ?_
    refine kw_step rfl rfl rfl rfl ?_
    refine kw_step (L' := [some (kr 48), some (kI x1), some (kI x2), some (kI x3), some (kJ x4), none, some (kI x6), some (kJ (s 50 j2)), none, some (kI 0), none, none]) rfl rfl rfl rfl ?_
    exact kW_le (L' := [some (kr 48), some (kI x1), some (kI x2), some (kI x3), some (kJ x4), none, some (kI x6), some (kJ (s 50 j2)), none, some (kI 0), none, none]) ⟨Or.inr rfl, Or.inr rfl, Or.inr rfl, Or.inr rfl, Or.inr rfl, Or.inl rfl, Or.inr rfl, Or.inr rfl, Or.inl rfl, Or.inr rfl, Or.inl rfl, Or.inl rfl, trivial⟩ (b_Bows_clearBelow_28 x1 x2 x3 x4 x6 (s 50 j2) 0 s _ hf hq)
def f_Bows_clearBelow_13 (x1 : Int) (x2 : Int) (x3 : Int) (x4 : Int) (x6 : Int) (s : kM) : Option (kM) :=
  gL (fun (x : Int × kM) => f_Bows_clearBelow_13b x1 x2 x3 x4 x.1 x.2) gF (x6, s)
theorem b_Bows_clearBelow_13 {sc : List Int} {Q : Option kV → kH → Prop} (x1 : Int) (x2 : Int) (x3 : Int) (x4 : Int) (x6 : Int) (s : kM) (t : kM) (hf : f_Bows_clearBelow_13 x1 x2 x3 x4 x6 s = some t) (hq : (fun r => Q none (hH r)) t) : kW sc 1 kc_Bows_clearBelow 0 13 [some (kr 48), some (kI x1), some (kI x2), some (kI x3), some (kJ x4), none, some (kI x6), none, none, none, none, none] [] (hH s) Q :=
  gL_ind (P := fun (x : Int × kM) => kW sc 1 kc_Bows_clearBelow 0 13 [some (kr 48), some (kI x1), some (kI x2), some (kI x3), some (kJ x4), none, some (kI x.1), none, none, none, none, none] [] (hH x.2) Q) (q := (fun r => Q none (hH r))) (fun x t hf hq => b_Bows_clearBelow_13b x1 x2 x3 x4 x.1 x.2 t hf hq) gF (x6, s) t hf hq
def f_Bows_clearBelow (x1 : Int) (x2 : Int) (x3 : Int) (s : kM) : Option (kM) :=
  (gI 143 (wI ((wI (x1 * 13)) + x2))).bind fun j1 => f_Bows_clearBelow_13 x1 x2 x3 (s 50 j1) (wI (x1 + 1)) s
set_option maxRecDepth 8000 in
theorem c_Bows_clearBelow {sc : List Int} (x1 : Int) (x2 : Int) (x3 : Int) (s : kM) (t : kM) (hf : f_Bows_clearBelow x1 x2 x3 s = some t) : kR sc 1 km_Bows_clearBelow [kr 48, kI x1, kI x2, kI x3] (hH s) none (hH t) := by
  unfold f_Bows_clearBelow at hf
  refine kR.start rfl ?_
  show kW sc 1 kc_Bows_clearBelow 0 0 [some (kr 48), some (kI x1), some (kI x2), some (kI x3), none, none, none, none, none, none, none, none] [] (hH s) _
  have hq : (fun (r : Option kV) (g : kH) => r = none ∧ g = hH t) none (hH t) := ⟨rfl, rfl⟩
  refine kw_step rfl rfl rfl rfl ?_
  refine kw_get rfl (hH_O (rfl : kotab 48 = some kWo)) rfl ?_
  refine kw_step rfl rfl rfl rfl ?_
  refine kw_step rfl rfl rfl rfl ?_
  refine kw_step rfl rfl rfl rfl ?_
  refine kw_step rfl rfl rfl rfl ?_
  refine kw_step rfl rfl rfl rfl ?_
  obtain ⟨j1, i2, hf⟩ := gbI hf
  refine kw_lald rfl (hH_A (rfl : ktab 50 = some (3, 143))) i2.1 i2.2.1 i2.2.2 ?_
  refine kw_step (L' := [some (kr 48), some (kI x1), some (kI x2), some (kI x3), some (kJ (s 50 j1)), none, none, none, none, none, none, none]) rfl rfl rfl rfl ?_
  refine kw_step rfl rfl rfl rfl ?_
  refine kw_step rfl rfl rfl rfl ?_
  refine kw_step rfl rfl rfl rfl ?_
  refine kw_step (L' := [some (kr 48), some (kI x1), some (kI x2), some (kI x3), some (kJ (s 50 j1)), none, some (kI (wI (x1 + 1))), none, none, none, none, none]) rfl rfl rfl rfl ?_
  exact kW_le (L' := [some (kr 48), some (kI x1), some (kI x2), some (kI x3), some (kJ (s 50 j1)), none, some (kI (wI (x1 + 1))), none, none, none, none, none]) ⟨Or.inr rfl, Or.inr rfl, Or.inr rfl, Or.inr rfl, Or.inr rfl, Or.inl rfl, Or.inr rfl, Or.inl rfl, Or.inl rfl, Or.inl rfl, Or.inl rfl, Or.inl rfl, trivial⟩ (b_Bows_clearBelow_13 x1 x2 x3 (s 50 j1) (wI (x1 + 1)) s _ hf hq)
def f_Bows_ways_64b (b1 : Nat) (x2 : Int) (x3 : Int) (x5 : Int) (x7 : Int) (s : kM) : Option ((Int × Int) ⊕ (Int × kM)) :=
  if x3 ≤ x7 then (some (.inr (x5, s))) else (some (.inl ((wL (x5 * x2)), (wI (x7 + 1)))))
set_option maxRecDepth 8000 in
theorem b_Bows_ways_64b {sc : List Int} {Q : Option kV → kH → Prop} (b1 : Nat) (hb1 : tT b1 = true) (x2 : Int) (x3 : Int) (x5 : Int) (x7 : Int) (s : kM) (t : (Int × Int) ⊕ (Int × kM)) (hf : f_Bows_ways_64b b1 x2 x3 x5 x7 s = some t) (hq : (gE (fun x => kW sc 3 kc_Bows_ways 3 64 [none, none, some (kI x2), some (kI x3), none, some (kJ x.1), none, some (kI x.2)] [] (hH s) Q) (fun r => Q (some (kJ r.1)) (hH r.2))) t) : kW sc 3 kc_Bows_ways 3 64 [none, none, some (kI x2), some (kI x3), none, some (kJ x5), none, some (kI x7)] [] (hH s) Q := by
  unfold f_Bows_ways_64b at hf
  refine kw_step rfl rfl rfl rfl ?_
  refine kw_step rfl rfl rfl rfl ?_
  refine kw_icmp_ge rfl rfl (fun c1 => ?_) (fun c1 => ?_)
  · have hf := gift c1 hf
    refine kw_step rfl rfl rfl rfl ?_
    cases hf
    exact kw_ret rfl rfl rfl hq
  · have hf := giff c1 hf
    refine kw_step rfl rfl rfl rfl ?_
    refine kw_step rfl rfl rfl rfl ?_
    refine kw_step rfl rfl rfl rfl ?_
    refine kw_step rfl rfl rfl rfl ?_
    refine kw_step (L' := [none, none, some (kI x2), some (kI x3), none, some (kJ (wL (x5 * x2))), none, some (kI x7)]) rfl rfl rfl rfl ?_
    refine kw_step (L' := [none, none, some (kI x2), some (kI x3), none, some (kJ (wL (x5 * x2))), none, some (kI (wI (x7 + 1)))]) rfl rfl rfl rfl ?_
    refine kw_goto rfl rfl ?_
    cases hf
    exact kW_le (L' := [none, none, some (kI x2), some (kI x3), none, some (kJ (wL (x5 * x2))), none, some (kI (wI (x7 + 1)))]) ⟨Or.inl rfl, Or.inl rfl, Or.inr rfl, Or.inr rfl, Or.inl rfl, Or.inr rfl, Or.inl rfl, Or.inr rfl, trivial⟩ hq
def f_Bows_ways_64 (b1 : Nat) (x2 : Int) (x3 : Int) (x5 : Int) (x7 : Int) (s : kM) : Option (Int × kM) :=
  gL (fun (x : Int × Int) => f_Bows_ways_64b b1 x2 x3 x.1 x.2 s) gF (x5, x7)
theorem b_Bows_ways_64 {sc : List Int} {Q : Option kV → kH → Prop} (b1 : Nat) (hb1 : tT b1 = true) (x2 : Int) (x3 : Int) (x5 : Int) (x7 : Int) (s : kM) (t : Int × kM) (hf : f_Bows_ways_64 b1 x2 x3 x5 x7 s = some t) (hq : (fun r => Q (some (kJ r.1)) (hH r.2)) t) : kW sc 3 kc_Bows_ways 3 64 [none, none, some (kI x2), some (kI x3), none, some (kJ x5), none, some (kI x7)] [] (hH s) Q :=
  gL_ind (P := fun (x : Int × Int) => kW sc 3 kc_Bows_ways 3 64 [none, none, some (kI x2), some (kI x3), none, some (kJ x.1), none, some (kI x.2)] [] (hH s) Q) (q := (fun r => Q (some (kJ r.1)) (hH r.2))) (fun x t hf hq => b_Bows_ways_64b b1 hb1 x2 x3 x.1 x.2 s t hf hq) gF (x5, x7) t hf hq
def f_Bows_ways_60 (b1 : Nat) (x2 : Int) (x3 : Int) (s : kM) : Option (Int × kM) :=
  f_Bows_ways_64 b1 x2 x3 1 0 s
set_option maxRecDepth 8000 in
theorem b_Bows_ways_60 {sc : List Int} {Q : Option kV → kH → Prop} (b1 : Nat) (hb1 : tT b1 = true) (x2 : Int) (x3 : Int) (s : kM) (t : Int × kM) (hf : f_Bows_ways_60 b1 x2 x3 s = some t) (hq : (fun r => Q (some (kJ r.1)) (hH r.2)) t) : kW sc 3 kc_Bows_ways 3 60 [none, none, some (kI x2), some (kI x3), none, none, none, none] [] (hH s) Q := by
  unfold f_Bows_ways_60 at hf
  refine kw_step rfl rfl rfl rfl ?_
  refine kw_step (L' := [none, none, some (kI x2), some (kI x3), none, some (kJ 1), none, none]) rfl rfl rfl rfl ?_
  refine kw_step rfl rfl rfl rfl ?_
  refine kw_step (L' := [none, none, some (kI x2), some (kI x3), none, some (kJ 1), none, some (kI 0)]) rfl rfl rfl rfl ?_
  exact kW_le (L' := [none, none, some (kI x2), some (kI x3), none, some (kJ 1), none, some (kI 0)]) ⟨Or.inl rfl, Or.inl rfl, Or.inr rfl, Or.inr rfl, Or.inl rfl, Or.inr rfl, Or.inl rfl, Or.inr rfl, trivial⟩ (b_Bows_ways_64 b1 hb1 x2 x3 1 0 s _ hf hq)
def f_Bows_ways_58 (b1 : Nat) (x2 : Int) (x3 : Int) (x4 : Int) (x5 : Int) (s : kM) : Option ((Int × Int × Int × kM) ⊕ (Int × kM)) :=
  some (.inl (x3, x4, (wI (x5 + 1)), s))
set_option maxRecDepth 8000 in
theorem b_Bows_ways_58 {sc : List Int} {Q : Option kV → kH → Prop} (b1 : Nat) (hb1 : tT b1 = true) (x2 : Int) (x3 : Int) (x4 : Int) (x5 : Int) (s : kM) (t : (Int × Int × Int × kM) ⊕ (Int × kM)) (hf : f_Bows_ways_58 b1 x2 x3 x4 x5 s = some t) (hq : (gE (fun x => kW sc 3 kc_Bows_ways 3 30 [some (kr 48), none, some (kI x2), some (kI x.1), some (kI x.2.1), some (kI x.2.2.1), none, none] [] (hH x.2.2.2) Q) (fun r => Q (some (kJ r.1)) (hH r.2))) t) : kW sc 3 kc_Bows_ways 3 58 [some (kr 48), none, some (kI x2), some (kI x3), some (kI x4), some (kI x5), none, none] [] (hH s) Q := by
  unfold f_Bows_ways_58 at hf
  refine kw_step (L' := [some (kr 48), none, some (kI x2), some (kI x3), some (kI x4), some (kI (wI (x5 + 1))), none, none]) rfl rfl rfl rfl ?_
  refine kw_goto rfl rfl ?_
  cases hf
  exact kW_le (L' := [some (kr 48), none, some (kI x2), some (kI x3), some (kI x4), some (kI (wI (x5 + 1))), none, none]) ⟨Or.inr rfl, Or.inl rfl, Or.inr rfl, Or.inr rfl, Or.inr rfl, Or.inr rfl, Or.inl rfl, Or.inl rfl, trivial⟩ hq
def f_Bows_ways_30b (b1 : Nat) (x2 : Int) (x3 : Int) (x4 : Int) (x5 : Int) (s : kM) : Option ((Int × Int × Int × kM) ⊕ (Int × kM)) :=
  if (s 48 0) ≤ x5 then ((f_Bows_ways_60 b1 x2 x3 s).map Sum.inr) else (if 13 ≤ x5 then ((f_Bows_ways_60 b1 x2 x3 s).map Sum.inr) else ((f_Bows_pivot x4 (s 48 3) x5 s).bind fun q7 => if 0 ≤ q7 then ((f_Bows_swapRows q7 x4 s).bind fun q9 => (f_Bows_clearBelow x4 x5 x2 q9).bind fun q11 => f_Bows_ways_58 b1 x2 x3 (wI (x4 + 1)) x5 q11) else (f_Bows_ways_58 b1 x2 (wI (x3 + 1)) x4 x5 s)))
set_option maxRecDepth 8000 in
theorem b_Bows_ways_30b {sc : List Int} {Q : Option kV → kH → Prop} (b1 : Nat) (hb1 : tT b1 = true) (x2 : Int) (x3 : Int) (x4 : Int) (x5 : Int) (s : kM) (t : (Int × Int × Int × kM) ⊕ (Int × kM)) (hf : f_Bows_ways_30b b1 x2 x3 x4 x5 s = some t) (hq : (gE (fun x => kW sc 3 kc_Bows_ways 3 30 [some (kr 48), none, some (kI x2), some (kI x.1), some (kI x.2.1), some (kI x.2.2.1), none, none] [] (hH x.2.2.2) Q) (fun r => Q (some (kJ r.1)) (hH r.2))) t) : kW sc 3 kc_Bows_ways 3 30 [some (kr 48), none, some (kI x2), some (kI x3), some (kI x4), some (kI x5), none, none] [] (hH s) Q := by
  unfold f_Bows_ways_30b at hf
  refine kw_step rfl rfl rfl rfl ?_
  refine kw_step rfl rfl rfl rfl ?_
  refine kw_get rfl (hH_O (rfl : kotab 48 = some kWo)) rfl ?_
  refine kw_icmp_ge rfl rfl (fun c1 => ?_) (fun c1 => ?_)
  · have hf := gift c1 hf
    obtain ⟨t2, hg3, rfl⟩ := gmap hf
    exact kW_le (L' := [none, none, some (kI x2), some (kI x3), none, none, none, none]) ⟨Or.inl rfl, Or.inl rfl, Or.inr rfl, Or.inr rfl, Or.inl rfl, Or.inl rfl, Or.inl rfl, Or.inl rfl, trivial⟩ (b_Bows_ways_60 b1 hb1 x2 x3 s _ hg3 hq)
  · have hf := giff c1 hf
    refine kw_step rfl rfl rfl rfl ?_
    refine kw_step rfl rfl rfl rfl ?_
    refine kw_icmp_ge rfl rfl (fun c4 => ?_) (fun c4 => ?_)
    · have hf := gift c4 hf
      obtain ⟨t5, hg6, rfl⟩ := gmap hf
      exact kW_le (L' := [none, none, some (kI x2), some (kI x3), none, none, none, none]) ⟨Or.inl rfl, Or.inl rfl, Or.inr rfl, Or.inr rfl, Or.inl rfl, Or.inl rfl, Or.inl rfl, Or.inl rfl, trivial⟩ (b_Bows_ways_60 b1 hb1 x2 x3 s _ hg6 hq)
    · have hf := giff c4 hf
      refine kw_step rfl rfl rfl rfl ?_
      refine kw_step rfl rfl rfl rfl ?_
      refine kw_step rfl rfl rfl rfl ?_
      refine kw_get rfl (hH_O (rfl : kotab 48 = some kWo)) rfl ?_
      refine kw_step rfl rfl rfl rfl ?_
      obtain ⟨q7, hq7, hf⟩ := gbind hf
      refine kw_callV (vs := [kI x4, kI (s 48 3), kI x5]) rfl rfl rfl ⟨rfl, Nat.le_of_ble_eq_true rfl, Nat.le_of_ble_eq_true rfl, by decide⟩ (hH_O (rfl : kotab 48 = some kWo)) (c_Bows_pivot x4 (s 48 3) x5 s _ hq7) (Nat.le_of_ble_eq_true rfl) ?_
      refine kw_step (L' := [some (kr 48), none, some (kI x2), some (kI x3), some (kI x4), some (kI x5), some (kI q7), none]) rfl rfl rfl rfl ?_
      refine kw_step rfl rfl rfl rfl ?_
      refine kw_if_ge rfl rfl (fun c8 => ?_) (fun c8 => ?_)
      · have hf := gift c8 hf
        refine kw_step rfl rfl rfl rfl ?_
        refine kw_step rfl rfl rfl rfl ?_
        refine kw_step rfl rfl rfl rfl ?_
        obtain ⟨q9, hq9, hf⟩ := gbind hf
        refine kw_callV (vs := [kI q7, kI x4]) rfl rfl rfl ⟨rfl, Nat.le_of_ble_eq_true rfl, Nat.le_of_ble_eq_true rfl, by decide⟩ (hH_O (rfl : kotab 48 = some kWo)) (c_Bows_swapRows q7 x4 s _ hq9) (Nat.le_of_ble_eq_true rfl) ?_
        refine kw_step rfl rfl rfl rfl ?_
        refine kw_step rfl rfl rfl rfl ?_
        refine kw_step rfl rfl rfl rfl ?_
        refine kw_step rfl rfl rfl rfl ?_
        obtain ⟨q11, hq11, hf⟩ := gbind hf
        refine kw_callV (vs := [kI x4, kI x5, kI x2]) rfl rfl rfl ⟨rfl, Nat.le_of_ble_eq_true rfl, Nat.le_of_ble_eq_true rfl, by decide⟩ (hH_O (rfl : kotab 48 = some kWo)) (c_Bows_clearBelow x4 x5 x2 q9 _ hq11) (Nat.le_of_ble_eq_true rfl) ?_
        refine kw_step (L' := [some (kr 48), none, some (kI x2), some (kI x3), some (kI (wI (x4 + 1))), some (kI x5), some (kI q7), none]) rfl rfl rfl rfl ?_
        exact kW_le (L' := [some (kr 48), none, some (kI x2), some (kI x3), some (kI (wI (x4 + 1))), some (kI x5), none, none]) ⟨Or.inr rfl, Or.inl rfl, Or.inr rfl, Or.inr rfl, Or.inr rfl, Or.inr rfl, Or.inl rfl, Or.inl rfl, trivial⟩ (b_Bows_ways_58 b1 hb1 x2 x3 (wI (x4 + 1)) x5 q11 _ hf hq)
      · have hf := giff c8 hf
        refine kw_step (L' := [some (kr 48), none, some (kI x2), some (kI (wI (x3 + 1))), some (kI x4), some (kI x5), some (kI q7), none]) rfl rfl rfl rfl ?_
        refine kw_goto rfl rfl ?_
        exact kW_le (L' := [some (kr 48), none, some (kI x2), some (kI (wI (x3 + 1))), some (kI x4), some (kI x5), none, none]) ⟨Or.inr rfl, Or.inl rfl, Or.inr rfl, Or.inr rfl, Or.inr rfl, Or.inr rfl, Or.inl rfl, Or.inl rfl, trivial⟩ (b_Bows_ways_58 b1 hb1 x2 (wI (x3 + 1)) x4 x5 s _ hf hq)
def f_Bows_ways_30 (b1 : Nat) (x2 : Int) (x3 : Int) (x4 : Int) (x5 : Int) (s : kM) : Option (Int × kM) :=
  gL (fun (x : Int × Int × Int × kM) => f_Bows_ways_30b b1 x2 x.1 x.2.1 x.2.2.1 x.2.2.2) gF (x3, x4, x5, s)
theorem b_Bows_ways_30 {sc : List Int} {Q : Option kV → kH → Prop} (b1 : Nat) (hb1 : tT b1 = true) (x2 : Int) (x3 : Int) (x4 : Int) (x5 : Int) (s : kM) (t : Int × kM) (hf : f_Bows_ways_30 b1 x2 x3 x4 x5 s = some t) (hq : (fun r => Q (some (kJ r.1)) (hH r.2)) t) : kW sc 3 kc_Bows_ways 3 30 [some (kr 48), none, some (kI x2), some (kI x3), some (kI x4), some (kI x5), none, none] [] (hH s) Q :=
  gL_ind (P := fun (x : Int × Int × Int × kM) => kW sc 3 kc_Bows_ways 3 30 [some (kr 48), none, some (kI x2), some (kI x.1), some (kI x.2.1), some (kI x.2.2.1), none, none] [] (hH x.2.2.2) Q) (q := (fun r => Q (some (kJ r.1)) (hH r.2))) (fun x t hf hq => b_Bows_ways_30b b1 hb1 x2 x.1 x.2.1 x.2.2.1 x.2.2.2 t hf hq) gF (x3, x4, x5, s) t hf hq
def f_Bows_ways_5b (b1 : Nat) (x2 : Int) (x3 : Int) (s : kM) : Option ((Int × kM) ⊕ (Int × kM)) :=
  if (wI ((s 48 3) * 13)) ≤ x3 then ((f_Bows_ways_30 b1 x2 0 0 0 s).map Sum.inr) else ((gI 143 x3).bind fun j4 => (f_Math_floorMod (s 50 j4) x2 s).bind fun q6 => (gI 143 x3).bind fun j7 => gLet (gU s 50 j7 q6) fun s9 => some (.inl ((wI (x3 + 1)), s9)))
set_option maxRecDepth 8000 in
theorem b_Bows_ways_5b {sc : List Int} {Q : Option kV → kH → Prop} (b1 : Nat) (hb1 : tT b1 = true) (x2 : Int) (x3 : Int) (s : kM) (t : (Int × kM) ⊕ (Int × kM)) (hf : f_Bows_ways_5b b1 x2 x3 s = some t) (hq : (gE (fun x => kW sc 3 kc_Bows_ways 3 5 [some (kr 48), none, some (kI x2), some (kI x.1), none, none, none, none] [] (hH x.2) Q) (fun r => Q (some (kJ r.1)) (hH r.2))) t) : kW sc 3 kc_Bows_ways 3 5 [some (kr 48), none, some (kI x2), some (kI x3), none, none, none, none] [] (hH s) Q := by
  unfold f_Bows_ways_5b at hf
  refine kw_step rfl rfl rfl rfl ?_
  refine kw_step rfl rfl rfl rfl ?_
  refine kw_get rfl (hH_O (rfl : kotab 48 = some kWo)) rfl ?_
  refine kw_step rfl rfl rfl rfl ?_
  refine kw_step rfl rfl rfl rfl ?_
  refine kw_icmp_ge rfl rfl (fun c1 => ?_) (fun c1 => ?_)
  · have hf := gift c1 hf
    refine kw_step rfl rfl rfl rfl ?_
    refine kw_step (L' := [some (kr 48), none, some (kI x2), some (kI 0), none, none, none, none]) rfl rfl rfl rfl ?_
    refine kw_step rfl rfl rfl rfl ?_
    refine kw_step (L' := [some (kr 48), none, some (kI x2), some (kI 0), some (kI 0), none, none, none]) rfl rfl rfl rfl ?_
    refine kw_step rfl rfl rfl rfl ?_
    refine kw_step (L' := [some (kr 48), none, some (kI x2), some (kI 0), some (kI 0), some (kI 0), none, none]) rfl rfl rfl rfl ?_
    obtain ⟨t2, hg3, rfl⟩ := gmap hf
    exact kW_le (L' := [some (kr 48), none, some (kI x2), some (kI 0), some (kI 0), some (kI 0), none, none]) ⟨Or.inr rfl, Or.inl rfl, Or.inr rfl, Or.inr rfl, Or.inr rfl, Or.inr rfl, Or.inl rfl, Or.inl rfl, trivial⟩ (b_Bows_ways_30 b1 hb1 x2 0 0 0 s _ hg3 hq)
  · have hf := giff c1 hf
    refine kw_step rfl rfl rfl rfl ?_
    refine kw_get rfl (hH_O (rfl : kotab 48 = some kWo)) rfl ?_
    refine kw_step rfl rfl rfl rfl ?_
    refine kw_step rfl rfl rfl rfl ?_
    refine kw_get rfl (hH_O (rfl : kotab 48 = some kWo)) rfl ?_
    refine kw_step rfl rfl rfl rfl ?_
    obtain ⟨j4, i5, hf⟩ := gbI hf
    refine kw_lald rfl (hH_A (rfl : ktab 50 = some (3, 143))) i5.1 i5.2.1 i5.2.2 ?_
    refine kw_step rfl rfl rfl rfl ?_
    refine kw_step rfl rfl rfl rfl ?_
    obtain ⟨q6, hq6, hf⟩ := gbind hf
    refine kw_callS (vs := [kJ (s 50 j4), kJ x2]) rfl rfl rfl ⟨rfl, Nat.le_of_ble_eq_true rfl, Nat.le_of_ble_eq_true rfl, rfl⟩ (c_Math_floorMod (s 50 j4) x2 s _ hq6) (Nat.le_of_ble_eq_true rfl) ?_
    obtain ⟨j7, i8, hf⟩ := gbI hf
    obtain ⟨s9, ee10, hf⟩ := gbL hf
    refine kw_lastH rfl (rfl : ktab 50 = some (3, 143)) i8.1 i8.2.1 i8.2.2 ee10 ?_
    refine kw_step (L' := [some (kr 48), none, some (kI x2), some (kI (wI (x3 + 1))), none, none, none, none]) rfl rfl rfl rfl ?_
    refine kw_goto rfl rfl ?_
    cases hf
    exact kW_le (L' := [some (kr 48), none, some (kI x2), some (kI (wI (x3 + 1))), none, none, none, none]) ⟨Or.inr rfl, Or.inl rfl, Or.inr rfl, Or.inr rfl, Or.inl rfl, Or.inl rfl, Or.inl rfl, Or.inl rfl, trivial⟩ hq
def f_Bows_ways_5 (b1 : Nat) (x2 : Int) (x3 : Int) (s : kM) : Option (Int × kM) :=
  gL (fun (x : Int × kM) => f_Bows_ways_5b b1 x2 x.1 x.2) gF (x3, s)
theorem b_Bows_ways_5 {sc : List Int} {Q : Option kV → kH → Prop} (b1 : Nat) (hb1 : tT b1 = true) (x2 : Int) (x3 : Int) (s : kM) (t : Int × kM) (hf : f_Bows_ways_5 b1 x2 x3 s = some t) (hq : (fun r => Q (some (kJ r.1)) (hH r.2)) t) : kW sc 3 kc_Bows_ways 3 5 [some (kr 48), none, some (kI x2), some (kI x3), none, none, none, none] [] (hH s) Q :=
  gL_ind (P := fun (x : Int × kM) => kW sc 3 kc_Bows_ways 3 5 [some (kr 48), none, some (kI x2), some (kI x.1), none, none, none, none] [] (hH x.2) Q) (q := (fun r => Q (some (kJ r.1)) (hH r.2))) (fun x t hf hq => b_Bows_ways_5b b1 hb1 x2 x.1 x.2 t hf hq) gF (x3, s) t hf hq
def f_Bows_ways (b1 : Nat) (x2 : Int) (s : kM) : Option (Int × kM) :=
  (f_Bows_fill b1 s).bind fun q1 => f_Bows_ways_5 b1 x2 0 q1
set_option maxRecDepth 8000 in
theorem c_Bows_ways {sc : List Int} (b1 : Nat) (hb1 : tT b1 = true) (x2 : Int) (s : kM) (t : Int × kM) (hf : f_Bows_ways b1 x2 s = some t) : kR sc 3 km_Bows_ways [kr 48, kr b1, kI x2] (hH s) (some (kJ t.1)) (hH t.2) := by
  unfold f_Bows_ways at hf
  refine kR.start rfl ?_
  show kW sc 3 kc_Bows_ways 3 0 [some (kr 48), some (kr b1), some (kI x2), none, none, none, none, none] [] (hH s) _
  have hq : (fun (r : Option kV) (g : kH) => r = some (kJ t.1) ∧ g = hH t.2) (some (kJ t.1)) (hH t.2) := ⟨rfl, rfl⟩
  refine kw_step rfl rfl rfl rfl ?_
  refine kw_step rfl rfl rfl rfl ?_
  obtain ⟨q1, hq1, hf⟩ := gbind hf
  refine kw_callV (vs := [kr b1]) rfl rfl rfl ⟨rfl, Nat.le_of_ble_eq_true rfl, Nat.le_of_ble_eq_true rfl, by decide⟩ (hH_O (rfl : kotab 48 = some kWo)) (c_Bows_fill b1 hb1 s _ hq1) (Nat.le_of_ble_eq_true rfl) ?_
  refine kw_step rfl rfl rfl rfl ?_
  refine kw_step (L' := [some (kr 48), some (kr b1), some (kI x2), some (kI 0), none, none, none, none]) rfl rfl rfl rfl ?_
  exact kW_le (L' := [some (kr 48), none, some (kI x2), some (kI 0), none, none, none, none]) ⟨Or.inr rfl, Or.inl rfl, Or.inr rfl, Or.inr rfl, Or.inl rfl, Or.inl rfl, Or.inl rfl, Or.inl rfl, trivial⟩ (b_Bows_ways_5 b1 hb1 x2 0 q1 _ hf hq)
def f_KT_colours_18 (x1 : Int) (y0 : Int) (s : kM) : Option (Int × kM) :=
  if y0 = 0 then (some ((-1), s)) else (if (s 4 0) = 0 then (some ((-1), s)) else ((f_Bows_ways 4 x1 s).bind fun q3 => some (q3.1, q3.2)))
set_option maxRecDepth 8000 in
theorem b_KT_colours_18 {sc : List Int} {Q : Option kV → kH → Prop} (x1 : Int) (y0 : Int) (s : kM) (t : Int × kM) (hf : f_KT_colours_18 x1 y0 s = some t) (hq : (fun r => Q (some (kJ r.1)) (hH r.2)) t) : kW sc 4 kc_KT_colours 3 18 [some (kr 0), some (kI x1), none] [kI y0] (hH s) Q := by
  unfold f_KT_colours_18 at hf
  refine kw_step (L' := [some (kr 0), some (kI x1), some (kI y0)]) rfl rfl rfl rfl ?_
  refine kw_step rfl rfl rfl rfl ?_
  refine kw_if_eq rfl rfl (fun c1 => ?_) (fun c1 => ?_)
  · have hf := gift c1 hf
    refine kw_step rfl rfl rfl rfl ?_
    cases hf
    exact kw_ret rfl rfl rfl hq
  · have hf := giff c1 hf
    refine kw_step rfl rfl rfl rfl ?_
    refine kw_get rfl (hH_O (rfl : kotab 0 = some kKo)) rfl ?_
    refine kw_get rfl (hH_O (tS_0 (b := 3) rfl)) rfl ?_
    refine kw_get rfl (hH_O (tT_0 (b := 4) rfl)) rfl ?_
    refine kw_if_ne rfl rfl (fun c2 => ?_) (fun c2 => ?_)
    · have hf := giff c2 hf
      refine kw_step rfl rfl rfl rfl ?_
      refine kw_get rfl (hH_O (rfl : kotab 0 = some kKo)) rfl ?_
      refine kw_step rfl rfl rfl rfl ?_
      refine kw_get rfl (hH_O (rfl : kotab 0 = some kKo)) rfl ?_
      refine kw_get rfl (hH_O (tS_0 (b := 3) rfl)) rfl ?_
      refine kw_step rfl rfl rfl rfl ?_
      obtain ⟨q3, hq3, hf⟩ := gbind hf
      refine kw_callV (vs := [kr 4, kI x1]) rfl rfl rfl ⟨rfl, Nat.le_of_ble_eq_true rfl, Nat.le_of_ble_eq_true rfl, by decide⟩ (hH_O (rfl : kotab 48 = some kWo)) (c_Bows_ways 4 (rfl : tT 4 = true) x1 s _ hq3) (Nat.le_of_ble_eq_true rfl) ?_
      cases hf
      exact kw_ret rfl rfl rfl hq
    · have hf := gift c2 hf
      refine kw_step rfl rfl rfl rfl ?_
      cases hf
      exact kw_ret rfl rfl rfl hq
def f_KT_colours_15 (x1 : Int) (s : kM) : Option (Int × kM) :=
  f_KT_colours_18 x1 1 s
set_option maxRecDepth 8000 in
theorem b_KT_colours_15 {sc : List Int} {Q : Option kV → kH → Prop} (x1 : Int) (s : kM) (t : Int × kM) (hf : f_KT_colours_15 x1 s = some t) (hq : (fun r => Q (some (kJ r.1)) (hH r.2)) t) : kW sc 4 kc_KT_colours 3 15 [some (kr 0), some (kI x1), none] [] (hH s) Q := by
  unfold f_KT_colours_15 at hf
  refine kw_step rfl rfl rfl rfl ?_
  refine kw_goto rfl rfl ?_
  exact kW_le (L' := [some (kr 0), some (kI x1), none]) ⟨Or.inr rfl, Or.inr rfl, Or.inl rfl, trivial⟩ (b_KT_colours_18 x1 1 s _ hf hq)
def f_KT_colours (x1 : Int) (s : kM) : Option (Int × kM) :=
  if x1 = 3 then (f_KT_colours_15 x1 s) else (if x1 = 5 then (f_KT_colours_15 x1 s) else (if x1 = 7 then (f_KT_colours_15 x1 s) else (if x1 = 11 then (f_KT_colours_15 x1 s) else (if x1 = 13 then (f_KT_colours_15 x1 s) else (f_KT_colours_18 x1 0 s)))))
set_option maxRecDepth 8000 in
theorem c_KT_colours {sc : List Int} (x1 : Int) (s : kM) (t : Int × kM) (hf : f_KT_colours x1 s = some t) : kR sc 4 km_KT_colours [kr 0, kI x1] (hH s) (some (kJ t.1)) (hH t.2) := by
  unfold f_KT_colours at hf
  refine kR.start rfl ?_
  show kW sc 4 kc_KT_colours 3 0 [some (kr 0), some (kI x1), none] [] (hH s) _
  have hq : (fun (r : Option kV) (g : kH) => r = some (kJ t.1) ∧ g = hH t.2) (some (kJ t.1)) (hH t.2) := ⟨rfl, rfl⟩
  refine kw_step rfl rfl rfl rfl ?_
  refine kw_step rfl rfl rfl rfl ?_
  refine kw_icmp_eq rfl rfl (fun c1 => ?_) (fun c1 => ?_)
  · have hf := gift c1 hf
    exact kW_le (L' := [some (kr 0), some (kI x1), none]) ⟨Or.inr rfl, Or.inr rfl, Or.inl rfl, trivial⟩ (b_KT_colours_15 x1 s _ hf hq)
  · have hf := giff c1 hf
    refine kw_step rfl rfl rfl rfl ?_
    refine kw_step rfl rfl rfl rfl ?_
    refine kw_icmp_eq rfl rfl (fun c2 => ?_) (fun c2 => ?_)
    · have hf := gift c2 hf
      exact kW_le (L' := [some (kr 0), some (kI x1), none]) ⟨Or.inr rfl, Or.inr rfl, Or.inl rfl, trivial⟩ (b_KT_colours_15 x1 s _ hf hq)
    · have hf := giff c2 hf
      refine kw_step rfl rfl rfl rfl ?_
      refine kw_step rfl rfl rfl rfl ?_
      refine kw_icmp_eq rfl rfl (fun c3 => ?_) (fun c3 => ?_)
      · have hf := gift c3 hf
        exact kW_le (L' := [some (kr 0), some (kI x1), none]) ⟨Or.inr rfl, Or.inr rfl, Or.inl rfl, trivial⟩ (b_KT_colours_15 x1 s _ hf hq)
      · have hf := giff c3 hf
        refine kw_step rfl rfl rfl rfl ?_
        refine kw_step rfl rfl rfl rfl ?_
        refine kw_icmp_eq rfl rfl (fun c4 => ?_) (fun c4 => ?_)
        · have hf := gift c4 hf
          exact kW_le (L' := [some (kr 0), some (kI x1), none]) ⟨Or.inr rfl, Or.inr rfl, Or.inl rfl, trivial⟩ (b_KT_colours_15 x1 s _ hf hq)
        · have hf := giff c4 hf
          refine kw_step rfl rfl rfl rfl ?_
          refine kw_step rfl rfl rfl rfl ?_
          refine kw_icmp_ne rfl rfl (fun c5 => ?_) (fun c5 => ?_)
          · have hf := giff c5 hf
            refine kw_step rfl rfl rfl rfl ?_
            exact kW_le (L' := [some (kr 0), some (kI x1), none]) ⟨Or.inr rfl, Or.inr rfl, Or.inl rfl, trivial⟩ (b_KT_colours_18 x1 0 s _ hf hq)
          · have hf := gift c5 hf
            exact kW_le (L' := [some (kr 0), some (kI x1), none]) ⟨Or.inr rfl, Or.inr rfl, Or.inl rfl, trivial⟩ (b_KT_colours_15 x1 s _ hf hq)
def f_Bows_reduceBelow_15b (x1 : Int) (x2 : Int) (x3 : Int) (x5 : Int) (x6 : Int) (s : kM) : Option ((Int × kM) ⊕ ((Int × kM) ⊕ (kM))) :=
  if x2 ≤ x6 then (some (.inr (.inl ((wI (x5 + 1)), s)))) else ((gI 143 (wI ((wI (x5 * 13)) + x6))).bind fun j2 => (gI 143 (wI ((wI (x1 * 13)) + x1))).bind fun j4 => (gI 143 (wI ((wI (x5 * 13)) + x1))).bind fun j6 => (gI 143 (wI ((wI (x1 * 13)) + x6))).bind fun j8 => (gD x3).bind fun _ => (gI 143 (wI ((wI (x5 * 13)) + x6))).bind fun j11 => gLet (gU s 50 j11 (kldiv (wL ((wL ((s 50 j2) * (s 50 j4))) - (wL ((s 50 j6) * (s 50 j8))))) x3)) fun s13 => some (.inl ((wI (x6 + 1)), s13)))
set_option maxRecDepth 8000 in
theorem b_Bows_reduceBelow_15b {sc : List Int} {Q : Option kV → kH → Prop} (x1 : Int) (x2 : Int) (x3 : Int) (x5 : Int) (x6 : Int) (s : kM) (t : (Int × kM) ⊕ ((Int × kM) ⊕ (kM))) (hf : f_Bows_reduceBelow_15b x1 x2 x3 x5 x6 s = some t) (hq : (gE (fun x => kW sc 0 kc_Bows_reduceBelow 0 15 [some (kr 48), some (kI x1), some (kI x2), some (kJ x3), none, some (kI x5), some (kI x.1), none, none] [] (hH x.2) Q) (gE (fun x => kW sc 0 kc_Bows_reduceBelow 0 4 [some (kr 48), some (kI x1), some (kI x2), some (kJ x3), none, some (kI x.1), none, none, none] [] (hH x.2) Q) (fun r => Q none (hH r)))) t) : kW sc 0 kc_Bows_reduceBelow 0 15 [some (kr 48), some (kI x1), some (kI x2), some (kJ x3), none, some (kI x5), some (kI x6), none, none] [] (hH s) Q := by
  unfold f_Bows_reduceBelow_15b at hf
  refine kw_step rfl rfl rfl rfl ?_
  refine kw_step rfl rfl rfl rfl ?_
  refine kw_icmp_ge rfl rfl (fun c1 => ?_) (fun c1 => ?_)
  · have hf := gift c1 hf
    refine kw_step (L' := [some (kr 48), some (kI x1), some (kI x2), some (kJ x3), none, some (kI (wI (x5 + 1))), some (kI x6), none, none]) rfl rfl rfl rfl ?_
    refine kw_goto rfl rfl ?_
    cases hf
    exact kW_le (L' := [some (kr 48), some (kI x1), some (kI x2), some (kJ x3), none, some (kI (wI (x5 + 1))), none, none, none]) ⟨Or.inr rfl, Or.inr rfl, Or.inr rfl, Or.inr rfl, Or.inl rfl, Or.inr rfl, Or.inl rfl, Or.inl rfl, Or.inl rfl, trivial⟩ hq
  · have hf := giff c1 hf
    refine kw_step rfl rfl rfl rfl ?_
    refine kw_get rfl (hH_O (rfl : kotab 48 = some kWo)) rfl ?_
    refine kw_step rfl rfl rfl rfl ?_
    refine kw_step rfl rfl rfl rfl ?_
    refine kw_step rfl rfl rfl rfl ?_
    refine kw_step rfl rfl rfl rfl ?_
    refine kw_step rfl rfl rfl rfl ?_
    obtain ⟨j2, i3, hf⟩ := gbI hf
    refine kw_lald rfl (hH_A (rfl : ktab 50 = some (3, 143))) i3.1 i3.2.1 i3.2.2 ?_
    refine kw_step rfl rfl rfl rfl ?_
    refine kw_get rfl (hH_O (rfl : kotab 48 = some kWo)) rfl ?_
    refine kw_step rfl rfl rfl rfl ?_
    refine kw_step rfl rfl rfl rfl ?_
    refine kw_step rfl rfl rfl rfl ?_
    refine kw_step rfl rfl rfl rfl ?_
    refine kw_step rfl rfl rfl rfl ?_
    obtain ⟨j4, i5, hf⟩ := gbI hf
    refine kw_lald rfl (hH_A (rfl : ktab 50 = some (3, 143))) i5.1 i5.2.1 i5.2.2 ?_
    refine kw_step rfl rfl rfl rfl ?_
    refine kw_step rfl rfl rfl rfl ?_
    refine kw_get rfl (hH_O (rfl : kotab 48 = some kWo)) rfl ?_
    refine kw_step rfl rfl rfl rfl ?_
    refine kw_step rfl rfl rfl rfl ?_
    refine kw_step rfl rfl rfl rfl ?_
    refine kw_step rfl rfl rfl rfl ?_
    refine kw_step rfl rfl rfl rfl ?_
    obtain ⟨j6, i7, hf⟩ := gbI hf
    refine kw_lald rfl (hH_A (rfl : ktab 50 = some (3, 143))) i7.1 i7.2.1 i7.2.2 ?_
    refine kw_step rfl rfl rfl rfl ?_
    refine kw_get rfl (hH_O (rfl : kotab 48 = some kWo)) rfl ?_
    refine kw_step rfl rfl rfl rfl ?_
    refine kw_step rfl rfl rfl rfl ?_
    refine kw_step rfl rfl rfl rfl ?_
    refine kw_step rfl rfl rfl rfl ?_
    refine kw_step rfl rfl rfl rfl ?_
    obtain ⟨j8, i9, hf⟩ := gbI hf
    refine kw_lald rfl (hH_A (rfl : ktab 50 = some (3, 143))) i9.1 i9.2.1 i9.2.2 ?_
    refine kw_step rfl rfl rfl rfl ?_
    refine kw_step rfl rfl rfl rfl ?_
    refine kw_step (L' := [some (kr 48), some (kI x1), some (kI x2), some (kJ x3), none, some (kI x5), some (kI x6), some (kJ (wL ((wL ((s 50 j2) * (s 50 j4))) - (wL ((s 50 j6) * (s 50 j8)))))), none]) rfl rfl rfl rfl ?_
    refine kw_step rfl rfl rfl rfl ?_
    refine kw_get rfl (hH_O (rfl : kotab 48 = some kWo)) rfl ?_
    refine kw_step rfl rfl rfl rfl ?_
    refine kw_step rfl rfl rfl rfl ?_
    refine kw_step rfl rfl rfl rfl ?_
    refine kw_step rfl rfl rfl rfl ?_
    refine kw_step rfl rfl rfl rfl ?_
    refine kw_step rfl rfl rfl rfl ?_
    refine kw_step rfl rfl rfl rfl ?_
    obtain ⟨z10, hf⟩ := gbD hf
    refine kw_ldiv rfl z10 ?_
    obtain ⟨j11, i12, hf⟩ := gbI hf
    obtain ⟨s13, ee14, hf⟩ := gbL hf
    refine kw_lastH rfl (rfl : ktab 50 = some (3, 143)) i12.1 i12.2.1 i12.2.2 ee14 ?_
    refine kw_step (L' := [some (kr 48), some (kI x1), some (kI x2), some (kJ x3), none, some (kI x5), some (kI (wI (x6 + 1))), some (kJ (wL ((wL ((s 50 j2) * (s 50 j4))) - (wL ((s 50 j6) * (s 50 j8)))))), none]) rfl rfl rfl rfl ?_
    refine kw_goto rfl rfl ?_
    cases hf
    exact kW_le (L' := [some (kr 48), some (kI x1), some (kI x2), some (kJ x3), none, some (kI x5), some (kI (wI (x6 + 1))), none, none]) ⟨Or.inr rfl, Or.inr rfl, Or.inr rfl, Or.inr rfl, Or.inl rfl, Or.inr rfl, Or.inr rfl, Or.inl rfl, Or.inl rfl, trivial⟩ hq
def f_Bows_reduceBelow_15 (x1 : Int) (x2 : Int) (x3 : Int) (x5 : Int) (x6 : Int) (s : kM) : Option ((Int × kM) ⊕ (kM)) :=
  gL (fun (x : Int × kM) => f_Bows_reduceBelow_15b x1 x2 x3 x5 x.1 x.2) gF (x6, s)
theorem b_Bows_reduceBelow_15 {sc : List Int} {Q : Option kV → kH → Prop} (x1 : Int) (x2 : Int) (x3 : Int) (x5 : Int) (x6 : Int) (s : kM) (t : (Int × kM) ⊕ (kM)) (hf : f_Bows_reduceBelow_15 x1 x2 x3 x5 x6 s = some t) (hq : (gE (fun x => kW sc 0 kc_Bows_reduceBelow 0 4 [some (kr 48), some (kI x1), some (kI x2), some (kJ x3), none, some (kI x.1), none, none, none] [] (hH x.2) Q) (fun r => Q none (hH r))) t) : kW sc 0 kc_Bows_reduceBelow 0 15 [some (kr 48), some (kI x1), some (kI x2), some (kJ x3), none, some (kI x5), some (kI x6), none, none] [] (hH s) Q :=
  gL_ind (P := fun (x : Int × kM) => kW sc 0 kc_Bows_reduceBelow 0 15 [some (kr 48), some (kI x1), some (kI x2), some (kJ x3), none, some (kI x5), some (kI x.1), none, none] [] (hH x.2) Q) (q := (gE (fun x => kW sc 0 kc_Bows_reduceBelow 0 4 [some (kr 48), some (kI x1), some (kI x2), some (kJ x3), none, some (kI x.1), none, none, none] [] (hH x.2) Q) (fun r => Q none (hH r)))) (fun x t hf hq => b_Bows_reduceBelow_15b x1 x2 x3 x5 x.1 x.2 t hf hq) gF (x6, s) t hf hq
def f_Bows_reduceBelow_4b (x1 : Int) (x2 : Int) (x3 : Int) (x5 : Int) (s : kM) : Option ((Int × kM) ⊕ (kM)) :=
  if x2 ≤ x5 then (some (.inr s)) else (if x3 = 0 then (some (.inr s)) else (f_Bows_reduceBelow_15 x1 x2 x3 x5 (wI (x1 + 1)) s))
set_option maxRecDepth 8000 in
theorem b_Bows_reduceBelow_4b {sc : List Int} {Q : Option kV → kH → Prop} (x1 : Int) (x2 : Int) (x3 : Int) (x5 : Int) (s : kM) (t : (Int × kM) ⊕ (kM)) (hf : f_Bows_reduceBelow_4b x1 x2 x3 x5 s = some t) (hq : (gE (fun x => kW sc 0 kc_Bows_reduceBelow 0 4 [some (kr 48), some (kI x1), some (kI x2), some (kJ x3), none, some (kI x.1), none, none, none] [] (hH x.2) Q) (fun r => Q none (hH r))) t) : kW sc 0 kc_Bows_reduceBelow 0 4 [some (kr 48), some (kI x1), some (kI x2), some (kJ x3), none, some (kI x5), none, none, none] [] (hH s) Q := by
  unfold f_Bows_reduceBelow_4b at hf
  refine kw_step rfl rfl rfl rfl ?_
  refine kw_step rfl rfl rfl rfl ?_
  refine kw_icmp_ge rfl rfl (fun c1 => ?_) (fun c1 => ?_)
  · have hf := gift c1 hf
    cases hf
    exact kw_ret rfl rfl rfl hq
  · have hf := giff c1 hf
    refine kw_step rfl rfl rfl rfl ?_
    refine kw_step rfl rfl rfl rfl ?_
    refine kw_lc_eq rfl rfl rfl (fun c2 => ?_) (fun c2 => ?_)
    · have hf := gift c2 hf
      cases hf
      exact kw_ret rfl rfl rfl hq
    · have hf := giff c2 hf
      refine kw_step rfl rfl rfl rfl ?_
      refine kw_step rfl rfl rfl rfl ?_
      refine kw_step rfl rfl rfl rfl ?_
      refine kw_step (L' := [some (kr 48), some (kI x1), some (kI x2), some (kJ x3), none, some (kI x5), some (kI (wI (x1 + 1))), none, none]) rfl rfl rfl rfl ?_
      exact kW_le (L' := [some (kr 48), some (kI x1), some (kI x2), some (kJ x3), none, some (kI x5), some (kI (wI (x1 + 1))), none, none]) ⟨Or.inr rfl, Or.inr rfl, Or.inr rfl, Or.inr rfl, Or.inl rfl, Or.inr rfl, Or.inr rfl, Or.inl rfl, Or.inl rfl, trivial⟩ (b_Bows_reduceBelow_15 x1 x2 x3 x5 (wI (x1 + 1)) s _ hf hq)
def f_Bows_reduceBelow_4 (x1 : Int) (x2 : Int) (x3 : Int) (x5 : Int) (s : kM) : Option (kM) :=
  gL (fun (x : Int × kM) => f_Bows_reduceBelow_4b x1 x2 x3 x.1 x.2) gF (x5, s)
theorem b_Bows_reduceBelow_4 {sc : List Int} {Q : Option kV → kH → Prop} (x1 : Int) (x2 : Int) (x3 : Int) (x5 : Int) (s : kM) (t : kM) (hf : f_Bows_reduceBelow_4 x1 x2 x3 x5 s = some t) (hq : (fun r => Q none (hH r)) t) : kW sc 0 kc_Bows_reduceBelow 0 4 [some (kr 48), some (kI x1), some (kI x2), some (kJ x3), none, some (kI x5), none, none, none] [] (hH s) Q :=
  gL_ind (P := fun (x : Int × kM) => kW sc 0 kc_Bows_reduceBelow 0 4 [some (kr 48), some (kI x1), some (kI x2), some (kJ x3), none, some (kI x.1), none, none, none] [] (hH x.2) Q) (q := (fun r => Q none (hH r))) (fun x t hf hq => b_Bows_reduceBelow_4b x1 x2 x3 x.1 x.2 t hf hq) gF (x5, s) t hf hq
def f_Bows_reduceBelow (x1 : Int) (x2 : Int) (x3 : Int) (s : kM) : Option (kM) :=
  f_Bows_reduceBelow_4 x1 x2 x3 (wI (x1 + 1)) s
set_option maxRecDepth 8000 in
theorem c_Bows_reduceBelow {sc : List Int} (x1 : Int) (x2 : Int) (x3 : Int) (s : kM) (t : kM) (hf : f_Bows_reduceBelow x1 x2 x3 s = some t) : kR sc 0 km_Bows_reduceBelow [kr 48, kI x1, kI x2, kJ x3] (hH s) none (hH t) := by
  unfold f_Bows_reduceBelow at hf
  refine kR.start rfl ?_
  show kW sc 0 kc_Bows_reduceBelow 0 0 [some (kr 48), some (kI x1), some (kI x2), some (kJ x3), none, none, none, none, none] [] (hH s) _
  have hq : (fun (r : Option kV) (g : kH) => r = none ∧ g = hH t) none (hH t) := ⟨rfl, rfl⟩
  refine kw_step rfl rfl rfl rfl ?_
  refine kw_step rfl rfl rfl rfl ?_
  refine kw_step rfl rfl rfl rfl ?_
  refine kw_step (L' := [some (kr 48), some (kI x1), some (kI x2), some (kJ x3), none, some (kI (wI (x1 + 1))), none, none, none]) rfl rfl rfl rfl ?_
  exact kW_le (L' := [some (kr 48), some (kI x1), some (kI x2), some (kJ x3), none, some (kI (wI (x1 + 1))), none, none, none]) ⟨Or.inr rfl, Or.inr rfl, Or.inr rfl, Or.inr rfl, Or.inl rfl, Or.inr rfl, Or.inl rfl, Or.inl rfl, Or.inl rfl, trivial⟩ (b_Bows_reduceBelow_4 x1 x2 x3 (wI (x1 + 1)) s _ hf hq)
def f_Math_abs (x0 : Int) (s : kM) : Option (Int) :=
  if 0 ≤ x0 then (some x0) else (some (wL (-x0)))
set_option maxRecDepth 8000 in
theorem c_Math_abs {sc : List Int} (x0 : Int) (s : kM) (t : Int) (hf : f_Math_abs x0 s = some t) : kR sc 0 km_Math_abs [kJ x0] (hH s) (some (kJ t)) (hH s) := by
  unfold f_Math_abs at hf
  refine kR.start rfl ?_
  show kW sc 0 kc_Math_abs 3 0 [some (kJ x0), none] [] (hH s) _
  have hq : (fun (r : Option kV) (g : kH) => r = some (kJ t) ∧ g = hH s) (some (kJ t)) (hH s) := ⟨rfl, rfl⟩
  refine kw_step rfl rfl rfl rfl ?_
  refine kw_step rfl rfl rfl rfl ?_
  refine kw_lc_ge rfl rfl rfl (fun c1 => ?_) (fun c1 => ?_)
  · have hf := gift c1 hf
    refine kw_step rfl rfl rfl rfl ?_
    cases hf
    exact kw_ret rfl rfl rfl hq
  · have hf := giff c1 hf
    refine kw_step rfl rfl rfl rfl ?_
    refine kw_step rfl rfl rfl rfl ?_
    refine kw_goto rfl rfl ?_
    cases hf
    exact kw_ret rfl rfl rfl hq
def f_Bows_minor_25b (b1 : Nat) (x2 : Int) (x3 : Int) (x5 : Int) (s : kM) : Option ((Int × Int × kM) ⊕ (Int × kM)) :=
  if (wI (x2 - 1)) ≤ x5 then ((gI 143 (wI ((wI ((wI ((wI (x2 - 1)) * 13)) + x2)) - 1))).bind fun j2 => (f_Math_abs (s 50 j2) s).bind fun q4 => some (.inr (q4, s))) else ((f_Bows_pivot x5 x2 x5 s).bind fun q5 => if q5 < 0 then (some (.inr (0, s))) else (if x3 = 0 then (some (.inr (0, s))) else ((f_Bows_swapRows q5 x5 s).bind fun q8 => (f_Bows_reduceBelow x5 x2 x3 q8).bind fun q10 => (gI 143 (wI ((wI (x5 * 13)) + x5))).bind fun j12 => some (.inl ((q10 50 j12), (wI (x5 + 1)), q10)))))
set_option maxRecDepth 8000 in
theorem b_Bows_minor_25b {sc : List Int} {Q : Option kV → kH → Prop} (b1 : Nat) (hb1 : tT b1 = true) (x2 : Int) (x3 : Int) (x5 : Int) (s : kM) (t : (Int × Int × kM) ⊕ (Int × kM)) (hf : f_Bows_minor_25b b1 x2 x3 x5 s = some t) (hq : (gE (fun x => kW sc 3 kc_Bows_minor 3 25 [some (kr 48), none, some (kI x2), some (kJ x.1), none, some (kI x.2.1), none] [] (hH x.2.2) Q) (fun r => Q (some (kJ r.1)) (hH r.2))) t) : kW sc 3 kc_Bows_minor 3 25 [some (kr 48), none, some (kI x2), some (kJ x3), none, some (kI x5), none] [] (hH s) Q := by
  unfold f_Bows_minor_25b at hf
  refine kw_step rfl rfl rfl rfl ?_
  refine kw_step rfl rfl rfl rfl ?_
  refine kw_step rfl rfl rfl rfl ?_
  refine kw_step rfl rfl rfl rfl ?_
  refine kw_icmp_ge rfl rfl (fun c1 => ?_) (fun c1 => ?_)
  · have hf := gift c1 hf
    refine kw_step rfl rfl rfl rfl ?_
    refine kw_get rfl (hH_O (rfl : kotab 48 = some kWo)) rfl ?_
    refine kw_step rfl rfl rfl rfl ?_
    refine kw_step rfl rfl rfl rfl ?_
    refine kw_step rfl rfl rfl rfl ?_
    refine kw_step rfl rfl rfl rfl ?_
    refine kw_step rfl rfl rfl rfl ?_
    refine kw_step rfl rfl rfl rfl ?_
    refine kw_step rfl rfl rfl rfl ?_
    refine kw_step rfl rfl rfl rfl ?_
    refine kw_step rfl rfl rfl rfl ?_
    obtain ⟨j2, i3, hf⟩ := gbI hf
    refine kw_lald rfl (hH_A (rfl : ktab 50 = some (3, 143))) i3.1 i3.2.1 i3.2.2 ?_
    obtain ⟨q4, hq4, hf⟩ := gbind hf
    refine kw_callS (vs := [kJ (s 50 j2)]) rfl rfl rfl ⟨rfl, Nat.le_of_ble_eq_true rfl, Nat.le_of_ble_eq_true rfl, rfl⟩ (c_Math_abs (s 50 j2) s _ hq4) (Nat.le_of_ble_eq_true rfl) ?_
    cases hf
    exact kw_ret rfl rfl rfl hq
  · have hf := giff c1 hf
    refine kw_step rfl rfl rfl rfl ?_
    refine kw_step rfl rfl rfl rfl ?_
    refine kw_step rfl rfl rfl rfl ?_
    refine kw_step rfl rfl rfl rfl ?_
    obtain ⟨q5, hq5, hf⟩ := gbind hf
    refine kw_callV (vs := [kI x5, kI x2, kI x5]) rfl rfl rfl ⟨rfl, Nat.le_of_ble_eq_true rfl, Nat.le_of_ble_eq_true rfl, by decide⟩ (hH_O (rfl : kotab 48 = some kWo)) (c_Bows_pivot x5 x2 x5 s _ hq5) (Nat.le_of_ble_eq_true rfl) ?_
    refine kw_step (L' := [some (kr 48), none, some (kI x2), some (kJ x3), none, some (kI x5), some (kI q5)]) rfl rfl rfl rfl ?_
    refine kw_step rfl rfl rfl rfl ?_
    refine kw_if_lt rfl rfl (fun c6 => ?_) (fun c6 => ?_)
    · have hf := gift c6 hf
      refine kw_step rfl rfl rfl rfl ?_
      cases hf
      exact kw_ret rfl rfl rfl hq
    · have hf := giff c6 hf
      refine kw_step rfl rfl rfl rfl ?_
      refine kw_step rfl rfl rfl rfl ?_
      refine kw_lc_ne rfl rfl rfl (fun c7 => ?_) (fun c7 => ?_)
      · have hf := giff c7 hf
        refine kw_step rfl rfl rfl rfl ?_
        refine kw_step rfl rfl rfl rfl ?_
        refine kw_step rfl rfl rfl rfl ?_
        obtain ⟨q8, hq8, hf⟩ := gbind hf
        refine kw_callV (vs := [kI q5, kI x5]) rfl rfl rfl ⟨rfl, Nat.le_of_ble_eq_true rfl, Nat.le_of_ble_eq_true rfl, by decide⟩ (hH_O (rfl : kotab 48 = some kWo)) (c_Bows_swapRows q5 x5 s _ hq8) (Nat.le_of_ble_eq_true rfl) ?_
        refine kw_step rfl rfl rfl rfl ?_
        refine kw_step rfl rfl rfl rfl ?_
        refine kw_step rfl rfl rfl rfl ?_
        refine kw_step rfl rfl rfl rfl ?_
        obtain ⟨q10, hq10, hf⟩ := gbind hf
        refine kw_callV (vs := [kI x5, kI x2, kJ x3]) rfl rfl rfl ⟨rfl, Nat.le_of_ble_eq_true rfl, Nat.le_of_ble_eq_true rfl, by decide⟩ (hH_O (rfl : kotab 48 = some kWo)) (c_Bows_reduceBelow x5 x2 x3 q8 _ hq10) (Nat.le_of_ble_eq_true rfl) ?_
        refine kw_step rfl rfl rfl rfl ?_
        refine kw_get rfl (hH_O (rfl : kotab 48 = some kWo)) rfl ?_
        refine kw_step rfl rfl rfl rfl ?_
        refine kw_step rfl rfl rfl rfl ?_
        refine kw_step rfl rfl rfl rfl ?_
        refine kw_step rfl rfl rfl rfl ?_
        refine kw_step rfl rfl rfl rfl ?_
        obtain ⟨j12, i13, hf⟩ := gbI hf
        refine kw_lald rfl (hH_A (rfl : ktab 50 = some (3, 143))) i13.1 i13.2.1 i13.2.2 ?_
        refine kw_step (L' := [some (kr 48), none, some (kI x2), some (kJ (q10 50 j12)), none, some (kI x5), some (kI q5)]) rfl rfl rfl rfl ?_
        refine kw_step (L' := [some (kr 48), none, some (kI x2), some (kJ (q10 50 j12)), none, some (kI (wI (x5 + 1))), some (kI q5)]) rfl rfl rfl rfl ?_
        refine kw_goto rfl rfl ?_
        cases hf
        exact kW_le (L' := [some (kr 48), none, some (kI x2), some (kJ (q10 50 j12)), none, some (kI (wI (x5 + 1))), none]) ⟨Or.inr rfl, Or.inl rfl, Or.inr rfl, Or.inr rfl, Or.inl rfl, Or.inr rfl, Or.inl rfl, trivial⟩ hq
      · have hf := gift c7 hf
        refine kw_step rfl rfl rfl rfl ?_
        cases hf
        exact kw_ret rfl rfl rfl hq
def f_Bows_minor_25 (b1 : Nat) (x2 : Int) (x3 : Int) (x5 : Int) (s : kM) : Option (Int × kM) :=
  gL (fun (x : Int × Int × kM) => f_Bows_minor_25b b1 x2 x.1 x.2.1 x.2.2) gF (x3, x5, s)
theorem b_Bows_minor_25 {sc : List Int} {Q : Option kV → kH → Prop} (b1 : Nat) (hb1 : tT b1 = true) (x2 : Int) (x3 : Int) (x5 : Int) (s : kM) (t : Int × kM) (hf : f_Bows_minor_25 b1 x2 x3 x5 s = some t) (hq : (fun r => Q (some (kJ r.1)) (hH r.2)) t) : kW sc 3 kc_Bows_minor 3 25 [some (kr 48), none, some (kI x2), some (kJ x3), none, some (kI x5), none] [] (hH s) Q :=
  gL_ind (P := fun (x : Int × Int × kM) => kW sc 3 kc_Bows_minor 3 25 [some (kr 48), none, some (kI x2), some (kJ x.1), none, some (kI x.2.1), none] [] (hH x.2.2) Q) (q := (fun r => Q (some (kJ r.1)) (hH r.2))) (fun x t hf hq => b_Bows_minor_25b b1 hb1 x2 x.1 x.2.1 x.2.2 t hf hq) gF (x3, x5, s) t hf hq
def f_Bows_minor (b1 : Nat) (s : kM) : Option (Int × kM) :=
  (f_Bows_fill b1 s).bind fun q1 => if (q1 48 0) < (wI ((q1 48 3) + 2)) then (if 0 < (wI ((q1 48 0) - 1)) then (f_Bows_minor_25 b1 (wI ((q1 48 0) - 1)) 1 0 q1) else (some (1, q1))) else (some (0, q1))
set_option maxRecDepth 8000 in
theorem c_Bows_minor {sc : List Int} (b1 : Nat) (hb1 : tT b1 = true) (s : kM) (t : Int × kM) (hf : f_Bows_minor b1 s = some t) : kR sc 3 km_Bows_minor [kr 48, kr b1] (hH s) (some (kJ t.1)) (hH t.2) := by
  unfold f_Bows_minor at hf
  refine kR.start rfl ?_
  show kW sc 3 kc_Bows_minor 3 0 [some (kr 48), some (kr b1), none, none, none, none, none] [] (hH s) _
  have hq : (fun (r : Option kV) (g : kH) => r = some (kJ t.1) ∧ g = hH t.2) (some (kJ t.1)) (hH t.2) := ⟨rfl, rfl⟩
  refine kw_step rfl rfl rfl rfl ?_
  refine kw_step rfl rfl rfl rfl ?_
  obtain ⟨q1, hq1, hf⟩ := gbind hf
  refine kw_callV (vs := [kr b1]) rfl rfl rfl ⟨rfl, Nat.le_of_ble_eq_true rfl, Nat.le_of_ble_eq_true rfl, by decide⟩ (hH_O (rfl : kotab 48 = some kWo)) (c_Bows_fill b1 hb1 s _ hq1) (Nat.le_of_ble_eq_true rfl) ?_
  refine kw_step rfl rfl rfl rfl ?_
  refine kw_get rfl (hH_O (rfl : kotab 48 = some kWo)) rfl ?_
  refine kw_step rfl rfl rfl rfl ?_
  refine kw_get rfl (hH_O (rfl : kotab 48 = some kWo)) rfl ?_
  refine kw_step rfl rfl rfl rfl ?_
  refine kw_step rfl rfl rfl rfl ?_
  refine kw_icmp_lt rfl rfl (fun c3 => ?_) (fun c3 => ?_)
  · have hf := gift c3 hf
    refine kw_step rfl rfl rfl rfl ?_
    refine kw_get rfl (hH_O (rfl : kotab 48 = some kWo)) rfl ?_
    refine kw_step rfl rfl rfl rfl ?_
    refine kw_step rfl rfl rfl rfl ?_
    refine kw_step (L' := [some (kr 48), some (kr b1), some (kI (wI ((q1 48 0) - 1))), none, none, none, none]) rfl rfl rfl rfl ?_
    refine kw_step rfl rfl rfl rfl ?_
    refine kw_if_gt rfl rfl (fun c4 => ?_) (fun c4 => ?_)
    · have hf := gift c4 hf
      refine kw_step rfl rfl rfl rfl ?_
      refine kw_step (L' := [some (kr 48), some (kr b1), some (kI (wI ((q1 48 0) - 1))), some (kJ 1), none, none, none]) rfl rfl rfl rfl ?_
      refine kw_step rfl rfl rfl rfl ?_
      refine kw_step (L' := [some (kr 48), some (kr b1), some (kI (wI ((q1 48 0) - 1))), some (kJ 1), none, some (kI 0), none]) rfl rfl rfl rfl ?_
      exact kW_le (L' := [some (kr 48), none, some (kI (wI ((q1 48 0) - 1))), some (kJ 1), none, some (kI 0), none]) ⟨Or.inr rfl, Or.inl rfl, Or.inr rfl, Or.inr rfl, Or.inl rfl, Or.inr rfl, Or.inl rfl, trivial⟩ (b_Bows_minor_25 b1 hb1 (wI ((q1 48 0) - 1)) 1 0 q1 _ hf hq)
    · have hf := giff c4 hf
      refine kw_step rfl rfl rfl rfl ?_
      cases hf
      exact kw_ret rfl rfl rfl hq
  · have hf := giff c3 hf
    refine kw_step rfl rfl rfl rfl ?_
    cases hf
    exact kw_ret rfl rfl rfl hq
def f_KT_determinant (s : kM) : Option (Int × kM) :=
  if (s 4 0) = 0 then (some ((-1), s)) else ((f_Bows_minor 4 s).bind fun q2 => some (q2.1, q2.2))
set_option maxRecDepth 8000 in
theorem c_KT_determinant {sc : List Int} (s : kM) (t : Int × kM) (hf : f_KT_determinant s = some t) : kR sc 4 km_KT_determinant [kr 0] (hH s) (some (kJ t.1)) (hH t.2) := by
  unfold f_KT_determinant at hf
  refine kR.start rfl ?_
  show kW sc 4 kc_KT_determinant 3 0 [some (kr 0)] [] (hH s) _
  have hq : (fun (r : Option kV) (g : kH) => r = some (kJ t.1) ∧ g = hH t.2) (some (kJ t.1)) (hH t.2) := ⟨rfl, rfl⟩
  refine kw_step rfl rfl rfl rfl ?_
  refine kw_get rfl (hH_O (rfl : kotab 0 = some kKo)) rfl ?_
  refine kw_get rfl (hH_O (tS_0 (b := 3) rfl)) rfl ?_
  refine kw_get rfl (hH_O (tT_0 (b := 4) rfl)) rfl ?_
  refine kw_if_ne rfl rfl (fun c1 => ?_) (fun c1 => ?_)
  · have hf := giff c1 hf
    refine kw_step rfl rfl rfl rfl ?_
    refine kw_get rfl (hH_O (rfl : kotab 0 = some kKo)) rfl ?_
    refine kw_step rfl rfl rfl rfl ?_
    refine kw_get rfl (hH_O (rfl : kotab 0 = some kKo)) rfl ?_
    refine kw_get rfl (hH_O (tS_0 (b := 3) rfl)) rfl ?_
    obtain ⟨q2, hq2, hf⟩ := gbind hf
    refine kw_callV (vs := [kr 4]) rfl rfl rfl ⟨rfl, Nat.le_of_ble_eq_true rfl, Nat.le_of_ble_eq_true rfl, by decide⟩ (hH_O (rfl : kotab 48 = some kWo)) (c_Bows_minor 4 (rfl : tT 4 = true) s _ hq2) (Nat.le_of_ble_eq_true rfl) ?_
    cases hf
    exact kw_ret rfl rfl rfl hq
  · have hf := gift c1 hf
    refine kw_step rfl rfl rfl rfl ?_
    refine kw_goto rfl rfl ?_
    cases hf
    exact kw_ret rfl rfl rfl hq
def f_Bracket_alone (b0 : Nat) (x1 : Int) (s : kM) : Option (Int) :=
  if (s b0 0) ≤ x1 then (some 0) else ((f_Town_roadStart b0 x1 s).bind fun q2 => (f_Town_roadEnd b0 x1 s).bind fun q3 => if q2 = q3 then (some 1) else (some 0))
set_option maxRecDepth 8000 in
theorem c_Bracket_alone {sc : List Int} (b0 : Nat) (hb0 : tT b0 = true) (x1 : Int) (s : kM) (t : Int) (hf : f_Bracket_alone b0 x1 s = some t) : kR sc 1 km_Bracket_alone [kr b0, kI x1] (hH s) (some (kI t)) (hH s) := by
  unfold f_Bracket_alone at hf
  refine kR.start rfl ?_
  show kW sc 1 kc_Bracket_alone 1 0 [some (kr b0), some (kI x1)] [] (hH s) _
  have hq : (fun (r : Option kV) (g : kH) => r = some (kI t) ∧ g = hH s) (some (kI t)) (hH s) := ⟨rfl, rfl⟩
  refine kw_step rfl rfl rfl rfl ?_
  refine kw_step rfl rfl rfl rfl ?_
  refine kw_get rfl (hH_O (tT_0 hb0)) rfl ?_
  refine kw_icmp_ge rfl rfl (fun c1 => ?_) (fun c1 => ?_)
  · have hf := gift c1 hf
    refine kw_step rfl rfl rfl rfl ?_
    cases hf
    exact kw_ret rfl rfl rfl hq
  · have hf := giff c1 hf
    refine kw_step rfl rfl rfl rfl ?_
    refine kw_step rfl rfl rfl rfl ?_
    obtain ⟨q2, hq2, hf⟩ := gbind hf
    refine kw_callV (vs := [kI x1]) rfl rfl rfl ⟨rfl, Nat.le_of_ble_eq_true rfl, Nat.le_of_ble_eq_true rfl, by decide⟩ (hH_O (tT_0 hb0)) (c_Town_roadStart b0 hb0 x1 s _ hq2) (Nat.le_of_ble_eq_true rfl) ?_
    refine kw_step rfl rfl rfl rfl ?_
    refine kw_step rfl rfl rfl rfl ?_
    obtain ⟨q3, hq3, hf⟩ := gbind hf
    refine kw_callV (vs := [kI x1]) rfl rfl rfl ⟨rfl, Nat.le_of_ble_eq_true rfl, Nat.le_of_ble_eq_true rfl, by decide⟩ (hH_O (tT_0 hb0)) (c_Town_roadEnd b0 hb0 x1 s _ hq3) (Nat.le_of_ble_eq_true rfl) ?_
    refine kw_icmp_ne rfl rfl (fun c4 => ?_) (fun c4 => ?_)
    · have hf := giff c4 hf
      refine kw_step rfl rfl rfl rfl ?_
      cases hf
      exact kw_ret rfl rfl rfl hq
    · have hf := gift c4 hf
      refine kw_step rfl rfl rfl rfl ?_
      refine kw_goto rfl rfl ?_
      cases hf
      exact kw_ret rfl rfl rfl hq
