/-! PRINTED by wip/whole/decall.py: methods as functions over the flat world, with their contracts -/
def f_M_determinant_66b (x2 : Int) (x3 : Int) (x5 : Int) (x7 : Int) (x8 : Int) (s : kM) : Option ((Int × kM) ⊕ ((Int × kM) ⊕ ((Int × Int × kM) ⊕ (Int × kM)))) :=
  if x2 ≤ x8 then (some (.inr (.inl ((wI (x7 + 1)), s)))) else ((gI 143 (wI ((wI (13 * x7)) + x8))).bind fun j2 => (gI 143 (wI ((wI (13 * x5)) + x5))).bind fun j4 => (gI 143 (wI ((wI (13 * x7)) + x5))).bind fun j6 => (gI 143 (wI ((wI (13 * x5)) + x8))).bind fun j8 => (gD x3).bind fun _ => (gI 143 (wI ((wI (13 * x7)) + x8))).bind fun j11 => gLet (gU s 117 j11 (kldiv (wL ((wL ((s 117 j2) * (s 117 j4))) - (wL ((s 117 j6) * (s 117 j8))))) x3)) fun s13 => some (.inl ((wI (x8 + 1)), s13)))
set_option maxRecDepth 8000 in
theorem b_M_determinant_66b {sc : List Int} {Q : Option kV → kH → Prop} (x2 : Int) (x3 : Int) (x5 : Int) (x7 : Int) (x8 : Int) (s : kM) (t : (Int × kM) ⊕ ((Int × kM) ⊕ ((Int × Int × kM) ⊕ (Int × kM)))) (hf : f_M_determinant_66b x2 x3 x5 x7 x8 s = some t) (hq : (gE (fun x => kW sc 4 kc_M_determinant 3 66 [some (kr 85), none, some (kI x2), some (kJ x3), none, some (kI x5), none, some (kI x7), some (kI x.1)] [] (hH x.2) Q) (gE (fun x => kW sc 4 kc_M_determinant 3 59 [some (kr 85), none, some (kI x2), some (kJ x3), none, some (kI x5), none, some (kI x.1), none] [] (hH x.2) Q) (gE (fun x => kW sc 4 kc_M_determinant 3 25 [some (kr 85), none, some (kI x2), some (kJ x.1), none, some (kI x.2.1), none, none, none] [] (hH x.2.2) Q) (fun r => Q (some (kJ r.1)) (hH r.2))))) t) : kW sc 4 kc_M_determinant 3 66 [some (kr 85), none, some (kI x2), some (kJ x3), none, some (kI x5), none, some (kI x7), some (kI x8)] [] (hH s) Q := by
  unfold f_M_determinant_66b at hf
  refine kw_step rfl rfl rfl rfl ?_
  refine kw_step rfl rfl rfl rfl ?_
  refine kw_icmp_ge rfl rfl (fun c1 => ?_) (fun c1 => ?_)
  · have hf := gift c1 hf
    refine kw_step (L' := [some (kr 85), none, some (kI x2), some (kJ x3), none, some (kI x5), none, some (kI (wI (x7 + 1))), some (kI x8)]) rfl rfl rfl rfl ?_
    refine kw_goto rfl rfl ?_
    cases hf
    exact kW_le (L' := [some (kr 85), none, some (kI x2), some (kJ x3), none, some (kI x5), none, some (kI (wI (x7 + 1))), none]) ⟨Or.inr rfl, Or.inl rfl, Or.inr rfl, Or.inr rfl, Or.inl rfl, Or.inr rfl, Or.inl rfl, Or.inr rfl, Or.inl rfl, trivial⟩ hq
  · have hf := giff c1 hf
    refine kw_step rfl rfl rfl rfl ?_
    refine kw_get rfl (hH_O (rfl : kotab 85 = some kMo)) rfl ?_
    refine kw_step rfl rfl rfl rfl ?_
    refine kw_step rfl rfl rfl rfl ?_
    refine kw_step rfl rfl rfl rfl ?_
    refine kw_step rfl rfl rfl rfl ?_
    refine kw_step rfl rfl rfl rfl ?_
    refine kw_step rfl rfl rfl rfl ?_
    refine kw_get rfl (hH_O (rfl : kotab 85 = some kMo)) rfl ?_
    refine kw_step rfl rfl rfl rfl ?_
    refine kw_step rfl rfl rfl rfl ?_
    refine kw_step rfl rfl rfl rfl ?_
    refine kw_step rfl rfl rfl rfl ?_
    refine kw_step rfl rfl rfl rfl ?_
    obtain ⟨j2, i3, hf⟩ := gbI hf
    refine kw_lald rfl (hH_A (rfl : ktab 117 = some (3, 143))) i3.1 i3.2.1 i3.2.2 ?_
    refine kw_step rfl rfl rfl rfl ?_
    refine kw_get rfl (hH_O (rfl : kotab 85 = some kMo)) rfl ?_
    refine kw_step rfl rfl rfl rfl ?_
    refine kw_step rfl rfl rfl rfl ?_
    refine kw_step rfl rfl rfl rfl ?_
    refine kw_step rfl rfl rfl rfl ?_
    refine kw_step rfl rfl rfl rfl ?_
    obtain ⟨j4, i5, hf⟩ := gbI hf
    refine kw_lald rfl (hH_A (rfl : ktab 117 = some (3, 143))) i5.1 i5.2.1 i5.2.2 ?_
    refine kw_step rfl rfl rfl rfl ?_
    refine kw_step rfl rfl rfl rfl ?_
    refine kw_get rfl (hH_O (rfl : kotab 85 = some kMo)) rfl ?_
    refine kw_step rfl rfl rfl rfl ?_
    refine kw_step rfl rfl rfl rfl ?_
    refine kw_step rfl rfl rfl rfl ?_
    refine kw_step rfl rfl rfl rfl ?_
    refine kw_step rfl rfl rfl rfl ?_
    obtain ⟨j6, i7, hf⟩ := gbI hf
    refine kw_lald rfl (hH_A (rfl : ktab 117 = some (3, 143))) i7.1 i7.2.1 i7.2.2 ?_
    refine kw_step rfl rfl rfl rfl ?_
    refine kw_get rfl (hH_O (rfl : kotab 85 = some kMo)) rfl ?_
    refine kw_step rfl rfl rfl rfl ?_
    refine kw_step rfl rfl rfl rfl ?_
    refine kw_step rfl rfl rfl rfl ?_
    refine kw_step rfl rfl rfl rfl ?_
    refine kw_step rfl rfl rfl rfl ?_
    obtain ⟨j8, i9, hf⟩ := gbI hf
    refine kw_lald rfl (hH_A (rfl : ktab 117 = some (3, 143))) i9.1 i9.2.1 i9.2.2 ?_
    refine kw_step rfl rfl rfl rfl ?_
    refine kw_step rfl rfl rfl rfl ?_
    refine kw_step rfl rfl rfl rfl ?_
    obtain ⟨z10, hf⟩ := gbD hf
    refine kw_ldiv rfl z10 ?_
    obtain ⟨j11, i12, hf⟩ := gbI hf
    obtain ⟨s13, ee14, hf⟩ := gbL hf
    refine kw_lastH rfl (rfl : ktab 117 = some (3, 143)) i12.1 i12.2.1 i12.2.2 ee14 ?_
    refine kw_step (L' := [some (kr 85), none, some (kI x2), some (kJ x3), none, some (kI x5), none, some (kI x7), some (kI (wI (x8 + 1)))]) rfl rfl rfl rfl ?_
    refine kw_goto rfl rfl ?_
    cases hf
    exact kW_le (L' := [some (kr 85), none, some (kI x2), some (kJ x3), none, some (kI x5), none, some (kI x7), some (kI (wI (x8 + 1)))]) ⟨Or.inr rfl, Or.inl rfl, Or.inr rfl, Or.inr rfl, Or.inl rfl, Or.inr rfl, Or.inl rfl, Or.inr rfl, Or.inr rfl, trivial⟩ hq
def f_M_determinant_66 (x2 : Int) (x3 : Int) (x5 : Int) (x7 : Int) (x8 : Int) (s : kM) : Option ((Int × kM) ⊕ ((Int × Int × kM) ⊕ (Int × kM))) :=
  gL (fun (x : Int × kM) => f_M_determinant_66b x2 x3 x5 x7 x.1 x.2) gF (x8, s)
theorem b_M_determinant_66 {sc : List Int} {Q : Option kV → kH → Prop} (x2 : Int) (x3 : Int) (x5 : Int) (x7 : Int) (x8 : Int) (s : kM) (t : (Int × kM) ⊕ ((Int × Int × kM) ⊕ (Int × kM))) (hf : f_M_determinant_66 x2 x3 x5 x7 x8 s = some t) (hq : (gE (fun x => kW sc 4 kc_M_determinant 3 59 [some (kr 85), none, some (kI x2), some (kJ x3), none, some (kI x5), none, some (kI x.1), none] [] (hH x.2) Q) (gE (fun x => kW sc 4 kc_M_determinant 3 25 [some (kr 85), none, some (kI x2), some (kJ x.1), none, some (kI x.2.1), none, none, none] [] (hH x.2.2) Q) (fun r => Q (some (kJ r.1)) (hH r.2)))) t) : kW sc 4 kc_M_determinant 3 66 [some (kr 85), none, some (kI x2), some (kJ x3), none, some (kI x5), none, some (kI x7), some (kI x8)] [] (hH s) Q :=
  gL_ind (P := fun (x : Int × kM) => kW sc 4 kc_M_determinant 3 66 [some (kr 85), none, some (kI x2), some (kJ x3), none, some (kI x5), none, some (kI x7), some (kI x.1)] [] (hH x.2) Q) (q := (gE (fun x => kW sc 4 kc_M_determinant 3 59 [some (kr 85), none, some (kI x2), some (kJ x3), none, some (kI x5), none, some (kI x.1), none] [] (hH x.2) Q) (gE (fun x => kW sc 4 kc_M_determinant 3 25 [some (kr 85), none, some (kI x2), some (kJ x.1), none, some (kI x.2.1), none, none, none] [] (hH x.2.2) Q) (fun r => Q (some (kJ r.1)) (hH r.2))))) (fun x t hf hq => b_M_determinant_66b x2 x3 x5 x7 x.1 x.2 t hf hq) gF (x8, s) t hf hq
def f_M_determinant_59b (x2 : Int) (x3 : Int) (x5 : Int) (x7 : Int) (s : kM) : Option ((Int × kM) ⊕ ((Int × Int × kM) ⊕ (Int × kM))) :=
  if x2 ≤ x7 then ((gI 143 (wI ((wI (13 * x5)) + x5))).bind fun j2 => some (.inr (.inl ((s 117 j2), (wI (x5 + 1)), s)))) else (f_M_determinant_66 x2 x3 x5 x7 (wI (x5 + 1)) s)
set_option maxRecDepth 8000 in
theorem b_M_determinant_59b {sc : List Int} {Q : Option kV → kH → Prop} (x2 : Int) (x3 : Int) (x5 : Int) (x7 : Int) (s : kM) (t : (Int × kM) ⊕ ((Int × Int × kM) ⊕ (Int × kM))) (hf : f_M_determinant_59b x2 x3 x5 x7 s = some t) (hq : (gE (fun x => kW sc 4 kc_M_determinant 3 59 [some (kr 85), none, some (kI x2), some (kJ x3), none, some (kI x5), none, some (kI x.1), none] [] (hH x.2) Q) (gE (fun x => kW sc 4 kc_M_determinant 3 25 [some (kr 85), none, some (kI x2), some (kJ x.1), none, some (kI x.2.1), none, none, none] [] (hH x.2.2) Q) (fun r => Q (some (kJ r.1)) (hH r.2)))) t) : kW sc 4 kc_M_determinant 3 59 [some (kr 85), none, some (kI x2), some (kJ x3), none, some (kI x5), none, some (kI x7), none] [] (hH s) Q := by
  unfold f_M_determinant_59b at hf
  refine kw_step rfl rfl rfl rfl ?_
  refine kw_step rfl rfl rfl rfl ?_
  refine kw_icmp_ge rfl rfl (fun c1 => ?_) (fun c1 => ?_)
  · have hf := gift c1 hf
    refine kw_step rfl rfl rfl rfl ?_
    refine kw_get rfl (hH_O (rfl : kotab 85 = some kMo)) rfl ?_
    refine kw_step rfl rfl rfl rfl ?_
    refine kw_step rfl rfl rfl rfl ?_
    refine kw_step rfl rfl rfl rfl ?_
    refine kw_step rfl rfl rfl rfl ?_
    refine kw_step rfl rfl rfl rfl ?_
    obtain ⟨j2, i3, hf⟩ := gbI hf
    refine kw_lald rfl (hH_A (rfl : ktab 117 = some (3, 143))) i3.1 i3.2.1 i3.2.2 ?_
    refine kw_step (L' := [some (kr 85), none, some (kI x2), some (kJ (s 117 j2)), none, some (kI x5), none, some (kI x7), none]) rfl rfl rfl rfl ?_
    refine kw_step (L' := [some (kr 85), none, some (kI x2), some (kJ (s 117 j2)), none, some (kI (wI (x5 + 1))), none, some (kI x7), none]) rfl rfl rfl rfl ?_
    refine kw_goto rfl rfl ?_
    cases hf
    exact kW_le (L' := [some (kr 85), none, some (kI x2), some (kJ (s 117 j2)), none, some (kI (wI (x5 + 1))), none, none, none]) ⟨Or.inr rfl, Or.inl rfl, Or.inr rfl, Or.inr rfl, Or.inl rfl, Or.inr rfl, Or.inl rfl, Or.inl rfl, Or.inl rfl, trivial⟩ hq
  · have hf := giff c1 hf
    refine kw_step rfl rfl rfl rfl ?_
    refine kw_step rfl rfl rfl rfl ?_
    refine kw_step rfl rfl rfl rfl ?_
    refine kw_step (L' := [some (kr 85), none, some (kI x2), some (kJ x3), none, some (kI x5), none, some (kI x7), some (kI (wI (x5 + 1)))]) rfl rfl rfl rfl ?_
    exact kW_le (L' := [some (kr 85), none, some (kI x2), some (kJ x3), none, some (kI x5), none, some (kI x7), some (kI (wI (x5 + 1)))]) ⟨Or.inr rfl, Or.inl rfl, Or.inr rfl, Or.inr rfl, Or.inl rfl, Or.inr rfl, Or.inl rfl, Or.inr rfl, Or.inr rfl, trivial⟩ (b_M_determinant_66 x2 x3 x5 x7 (wI (x5 + 1)) s _ hf hq)
def f_M_determinant_59 (x2 : Int) (x3 : Int) (x5 : Int) (x7 : Int) (s : kM) : Option ((Int × Int × kM) ⊕ (Int × kM)) :=
  gL (fun (x : Int × kM) => f_M_determinant_59b x2 x3 x5 x.1 x.2) gF (x7, s)
theorem b_M_determinant_59 {sc : List Int} {Q : Option kV → kH → Prop} (x2 : Int) (x3 : Int) (x5 : Int) (x7 : Int) (s : kM) (t : (Int × Int × kM) ⊕ (Int × kM)) (hf : f_M_determinant_59 x2 x3 x5 x7 s = some t) (hq : (gE (fun x => kW sc 4 kc_M_determinant 3 25 [some (kr 85), none, some (kI x2), some (kJ x.1), none, some (kI x.2.1), none, none, none] [] (hH x.2.2) Q) (fun r => Q (some (kJ r.1)) (hH r.2))) t) : kW sc 4 kc_M_determinant 3 59 [some (kr 85), none, some (kI x2), some (kJ x3), none, some (kI x5), none, some (kI x7), none] [] (hH s) Q :=
  gL_ind (P := fun (x : Int × kM) => kW sc 4 kc_M_determinant 3 59 [some (kr 85), none, some (kI x2), some (kJ x3), none, some (kI x5), none, some (kI x.1), none] [] (hH x.2) Q) (q := (gE (fun x => kW sc 4 kc_M_determinant 3 25 [some (kr 85), none, some (kI x2), some (kJ x.1), none, some (kI x.2.1), none, none, none] [] (hH x.2.2) Q) (fun r => Q (some (kJ r.1)) (hH r.2)))) (fun x t hf hq => b_M_determinant_59b x2 x3 x5 x.1 x.2 t hf hq) gF (x7, s) t hf hq
def f_M_determinant_46 (x2 : Int) (x3 : Int) (x5 : Int) (x6 : Int) (s : kM) : Option ((Int × Int × kM) ⊕ (Int × kM)) :=
  if x6 = x2 then (some (.inr (0, s))) else ((f_M_swapsRows x6 x5 s).bind fun q2 => f_M_determinant_59 x2 x3 x5 (wI (x5 + 1)) q2)
set_option maxRecDepth 8000 in
theorem b_M_determinant_46 {sc : List Int} {Q : Option kV → kH → Prop} (x2 : Int) (x3 : Int) (x5 : Int) (x6 : Int) (s : kM) (t : (Int × Int × kM) ⊕ (Int × kM)) (hf : f_M_determinant_46 x2 x3 x5 x6 s = some t) (hq : (gE (fun x => kW sc 4 kc_M_determinant 3 25 [some (kr 85), none, some (kI x2), some (kJ x.1), none, some (kI x.2.1), none, none, none] [] (hH x.2.2) Q) (fun r => Q (some (kJ r.1)) (hH r.2))) t) : kW sc 4 kc_M_determinant 3 46 [some (kr 85), none, some (kI x2), some (kJ x3), none, some (kI x5), some (kI x6), none, none] [] (hH s) Q := by
  unfold f_M_determinant_46 at hf
  refine kw_step rfl rfl rfl rfl ?_
  refine kw_step rfl rfl rfl rfl ?_
  refine kw_icmp_ne rfl rfl (fun c1 => ?_) (fun c1 => ?_)
  · have hf := giff c1 hf
    refine kw_step rfl rfl rfl rfl ?_
    refine kw_step rfl rfl rfl rfl ?_
    refine kw_step rfl rfl rfl rfl ?_
    obtain ⟨q2, hq2, hf⟩ := gbind hf
    refine kw_callV (vs := [kI x6, kI x5]) rfl rfl rfl ⟨rfl, Nat.le_of_ble_eq_true rfl, Nat.le_of_ble_eq_true rfl, by decide⟩ (hH_O (rfl : kotab 85 = some kMo)) (c_M_swapsRows x6 x5 s _ hq2) (Nat.le_of_ble_eq_true rfl) ?_
    refine kw_step rfl rfl rfl rfl ?_
    refine kw_step rfl rfl rfl rfl ?_
    refine kw_step rfl rfl rfl rfl ?_
    refine kw_step (L' := [some (kr 85), none, some (kI x2), some (kJ x3), none, some (kI x5), some (kI x6), some (kI (wI (x5 + 1))), none]) rfl rfl rfl rfl ?_
    exact kW_le (L' := [some (kr 85), none, some (kI x2), some (kJ x3), none, some (kI x5), none, some (kI (wI (x5 + 1))), none]) ⟨Or.inr rfl, Or.inl rfl, Or.inr rfl, Or.inr rfl, Or.inl rfl, Or.inr rfl, Or.inl rfl, Or.inr rfl, Or.inl rfl, trivial⟩ (b_M_determinant_59 x2 x3 x5 (wI (x5 + 1)) q2 _ hf hq)
  · have hf := gift c1 hf
    refine kw_step rfl rfl rfl rfl ?_
    cases hf
    exact kw_ret rfl rfl rfl hq
def f_M_determinant_30b (x2 : Int) (x3 : Int) (x5 : Int) (x6 : Int) (s : kM) : Option ((Int) ⊕ ((Int × Int × kM) ⊕ (Int × kM))) :=
  if x2 ≤ x6 then ((f_M_determinant_46 x2 x3 x5 x6 s).map Sum.inr) else ((gI 143 (wI ((wI (13 * x6)) + x5))).bind fun j4 => if (s 117 j4) = 0 then (some (.inl ((wI (x6 + 1))))) else ((f_M_determinant_46 x2 x3 x5 x6 s).map Sum.inr))
set_option maxRecDepth 8000 in
theorem b_M_determinant_30b {sc : List Int} {Q : Option kV → kH → Prop} (x2 : Int) (x3 : Int) (x5 : Int) (x6 : Int) (s : kM) (t : (Int) ⊕ ((Int × Int × kM) ⊕ (Int × kM))) (hf : f_M_determinant_30b x2 x3 x5 x6 s = some t) (hq : (gE (fun x => kW sc 4 kc_M_determinant 3 30 [some (kr 85), none, some (kI x2), some (kJ x3), none, some (kI x5), some (kI x), none, none] [] (hH s) Q) (gE (fun x => kW sc 4 kc_M_determinant 3 25 [some (kr 85), none, some (kI x2), some (kJ x.1), none, some (kI x.2.1), none, none, none] [] (hH x.2.2) Q) (fun r => Q (some (kJ r.1)) (hH r.2)))) t) : kW sc 4 kc_M_determinant 3 30 [some (kr 85), none, some (kI x2), some (kJ x3), none, some (kI x5), some (kI x6), none, none] [] (hH s) Q := by
  unfold f_M_determinant_30b at hf
  refine kw_step rfl rfl rfl rfl ?_
  refine kw_step rfl rfl rfl rfl ?_
  refine kw_icmp_ge rfl rfl (fun c1 => ?_) (fun c1 => ?_)
  · have hf := gift c1 hf
    obtain ⟨t2, hg3, rfl⟩ := gmap hf
    exact kW_le (L' := [some (kr 85), none, some (kI x2), some (kJ x3), none, some (kI x5), some (kI x6), none, none]) ⟨Or.inr rfl, Or.inl rfl, Or.inr rfl, Or.inr rfl, Or.inl rfl, Or.inr rfl, Or.inr rfl, Or.inl rfl, Or.inl rfl, trivial⟩ (b_M_determinant_46 x2 x3 x5 x6 s _ hg3 hq)
  · have hf := giff c1 hf
    refine kw_step rfl rfl rfl rfl ?_
    refine kw_get rfl (hH_O (rfl : kotab 85 = some kMo)) rfl ?_
    refine kw_step rfl rfl rfl rfl ?_
    refine kw_step rfl rfl rfl rfl ?_
    refine kw_step rfl rfl rfl rfl ?_
    refine kw_step rfl rfl rfl rfl ?_
    refine kw_step rfl rfl rfl rfl ?_
    obtain ⟨j4, i5, hf⟩ := gbI hf
    refine kw_lald rfl (hH_A (rfl : ktab 117 = some (3, 143))) i5.1 i5.2.1 i5.2.2 ?_
    refine kw_step rfl rfl rfl rfl ?_
    refine kw_lc_ne rfl rfl rfl (fun c6 => ?_) (fun c6 => ?_)
    · have hf := giff c6 hf
      obtain ⟨t7, hg8, rfl⟩ := gmap hf
      exact kW_le (L' := [some (kr 85), none, some (kI x2), some (kJ x3), none, some (kI x5), some (kI x6), none, none]) ⟨Or.inr rfl, Or.inl rfl, Or.inr rfl, Or.inr rfl, Or.inl rfl, Or.inr rfl, Or.inr rfl, Or.inl rfl, Or.inl rfl, trivial⟩ (b_M_determinant_46 x2 x3 x5 x6 s _ hg8 hq)
    · have hf := gift c6 hf
      refine kw_step (L' := [some (kr 85), none, some (kI x2), some (kJ x3), none, some (kI x5), some (kI (wI (x6 + 1))), none, none]) rfl rfl rfl rfl ?_
      refine kw_goto rfl rfl ?_
      cases hf
      exact kW_le (L' := [some (kr 85), none, some (kI x2), some (kJ x3), none, some (kI x5), some (kI (wI (x6 + 1))), none, none]) ⟨Or.inr rfl, Or.inl rfl, Or.inr rfl, Or.inr rfl, Or.inl rfl, Or.inr rfl, Or.inr rfl, Or.inl rfl, Or.inl rfl, trivial⟩ hq
def f_M_determinant_30 (x2 : Int) (x3 : Int) (x5 : Int) (x6 : Int) (s : kM) : Option ((Int × Int × kM) ⊕ (Int × kM)) :=
  gL (fun (x : Int) => f_M_determinant_30b x2 x3 x5 x s) gF (x6)
theorem b_M_determinant_30 {sc : List Int} {Q : Option kV → kH → Prop} (x2 : Int) (x3 : Int) (x5 : Int) (x6 : Int) (s : kM) (t : (Int × Int × kM) ⊕ (Int × kM)) (hf : f_M_determinant_30 x2 x3 x5 x6 s = some t) (hq : (gE (fun x => kW sc 4 kc_M_determinant 3 25 [some (kr 85), none, some (kI x2), some (kJ x.1), none, some (kI x.2.1), none, none, none] [] (hH x.2.2) Q) (fun r => Q (some (kJ r.1)) (hH r.2))) t) : kW sc 4 kc_M_determinant 3 30 [some (kr 85), none, some (kI x2), some (kJ x3), none, some (kI x5), some (kI x6), none, none] [] (hH s) Q :=
  gL_ind (P := fun (x : Int) => kW sc 4 kc_M_determinant 3 30 [some (kr 85), none, some (kI x2), some (kJ x3), none, some (kI x5), some (kI x), none, none] [] (hH s) Q) (q := (gE (fun x => kW sc 4 kc_M_determinant 3 25 [some (kr 85), none, some (kI x2), some (kJ x.1), none, some (kI x.2.1), none, none, none] [] (hH x.2.2) Q) (fun r => Q (some (kJ r.1)) (hH r.2)))) (fun x t hf hq => b_M_determinant_30b x2 x3 x5 x s t hf hq) gF (x6) t hf hq
def f_M_determinant_25b (x2 : Int) (x3 : Int) (x5 : Int) (s : kM) : Option ((Int × Int × kM) ⊕ (Int × kM)) :=
  if x2 ≤ x5 then (if 0 ≤ x3 then (some (.inr (x3, s))) else (some (.inr ((wL (-x3)), s)))) else (f_M_determinant_30 x2 x3 x5 x5 s)
set_option maxRecDepth 8000 in
theorem b_M_determinant_25b {sc : List Int} {Q : Option kV → kH → Prop} (x2 : Int) (x3 : Int) (x5 : Int) (s : kM) (t : (Int × Int × kM) ⊕ (Int × kM)) (hf : f_M_determinant_25b x2 x3 x5 s = some t) (hq : (gE (fun x => kW sc 4 kc_M_determinant 3 25 [some (kr 85), none, some (kI x2), some (kJ x.1), none, some (kI x.2.1), none, none, none] [] (hH x.2.2) Q) (fun r => Q (some (kJ r.1)) (hH r.2))) t) : kW sc 4 kc_M_determinant 3 25 [some (kr 85), none, some (kI x2), some (kJ x3), none, some (kI x5), none, none, none] [] (hH s) Q := by
  unfold f_M_determinant_25b at hf
  refine kw_step rfl rfl rfl rfl ?_
  refine kw_step rfl rfl rfl rfl ?_
  refine kw_icmp_ge rfl rfl (fun c1 => ?_) (fun c1 => ?_)
  · have hf := gift c1 hf
    refine kw_step rfl rfl rfl rfl ?_
    refine kw_step rfl rfl rfl rfl ?_
    refine kw_lc_ge rfl rfl rfl (fun c2 => ?_) (fun c2 => ?_)
    · have hf := gift c2 hf
      refine kw_step rfl rfl rfl rfl ?_
      cases hf
      exact kw_ret rfl rfl rfl hq
    · have hf := giff c2 hf
      refine kw_step rfl rfl rfl rfl ?_
      refine kw_step rfl rfl rfl rfl ?_
      refine kw_goto rfl rfl ?_
      cases hf
      exact kw_ret rfl rfl rfl hq
  · have hf := giff c1 hf
    refine kw_step rfl rfl rfl rfl ?_
    refine kw_step (L' := [some (kr 85), none, some (kI x2), some (kJ x3), none, some (kI x5), some (kI x5), none, none]) rfl rfl rfl rfl ?_
    exact kW_le (L' := [some (kr 85), none, some (kI x2), some (kJ x3), none, some (kI x5), some (kI x5), none, none]) ⟨Or.inr rfl, Or.inl rfl, Or.inr rfl, Or.inr rfl, Or.inl rfl, Or.inr rfl, Or.inr rfl, Or.inl rfl, Or.inl rfl, trivial⟩ (b_M_determinant_30 x2 x3 x5 x5 s _ hf hq)
def f_M_determinant_25 (x2 : Int) (x3 : Int) (x5 : Int) (s : kM) : Option (Int × kM) :=
  gL (fun (x : Int × Int × kM) => f_M_determinant_25b x2 x.1 x.2.1 x.2.2) gF (x3, x5, s)
theorem b_M_determinant_25 {sc : List Int} {Q : Option kV → kH → Prop} (x2 : Int) (x3 : Int) (x5 : Int) (s : kM) (t : Int × kM) (hf : f_M_determinant_25 x2 x3 x5 s = some t) (hq : (fun r => Q (some (kJ r.1)) (hH r.2)) t) : kW sc 4 kc_M_determinant 3 25 [some (kr 85), none, some (kI x2), some (kJ x3), none, some (kI x5), none, none, none] [] (hH s) Q :=
  gL_ind (P := fun (x : Int × Int × kM) => kW sc 4 kc_M_determinant 3 25 [some (kr 85), none, some (kI x2), some (kJ x.1), none, some (kI x.2.1), none, none, none] [] (hH x.2.2) Q) (q := (fun r => Q (some (kJ r.1)) (hH r.2))) (fun x t hf hq => b_M_determinant_25b x2 x.1 x.2.1 x.2.2 t hf hq) gF (x3, x5, s) t hf hq
def f_M_determinant (s : kM) : Option (Int × kM) :=
  (f_M_isTown s).bind fun q1 => if q1 = 0 then (some ((-1), s)) else ((f_M_fillsMatrix s).bind fun q3 => if (q3.2 85 44) ≤ (wI (q3.1 + 1)) then (f_M_determinant_25 (wI ((q3.2 85 44) - 1)) 1 0 q3.2) else (some (0, q3.2)))
set_option maxRecDepth 8000 in
theorem c_M_determinant {sc : List Int} (s : kM) (t : Int × kM) (hf : f_M_determinant s = some t) : kR sc 4 km_M_determinant [kr 85] (hH s) (some (kJ t.1)) (hH t.2) := by
  unfold f_M_determinant at hf
  refine kR.start rfl ?_
  show kW sc 4 kc_M_determinant 3 0 [some (kr 85), none, none, none, none, none, none, none, none] [] (hH s) _
  have hq : (fun (r : Option kV) (g : kH) => r = some (kJ t.1) ∧ g = hH t.2) (some (kJ t.1)) (hH t.2) := ⟨rfl, rfl⟩
  refine kw_step rfl rfl rfl rfl ?_
  obtain ⟨q1, hq1, hf⟩ := gbind hf
  refine kw_callV (vs := []) rfl rfl rfl ⟨rfl, Nat.le_of_ble_eq_true rfl, Nat.le_of_ble_eq_true rfl, by decide⟩ (hH_O (rfl : kotab 85 = some kMo)) (c_M_isTown s _ hq1) (Nat.le_of_ble_eq_true rfl) ?_
  refine kw_if_ne rfl rfl (fun c2 => ?_) (fun c2 => ?_)
  · have hf := giff c2 hf
    refine kw_step rfl rfl rfl rfl ?_
    obtain ⟨q3, hq3, hf⟩ := gbind hf
    refine kw_callV (vs := []) rfl rfl rfl ⟨rfl, Nat.le_of_ble_eq_true rfl, Nat.le_of_ble_eq_true rfl, by decide⟩ (hH_O (rfl : kotab 85 = some kMo)) (c_M_fillsMatrix s _ hq3) (Nat.le_of_ble_eq_true rfl) ?_
    refine kw_step (L' := [some (kr 85), some (kI q3.1), none, none, none, none, none, none, none]) rfl rfl rfl rfl ?_
    refine kw_step rfl rfl rfl rfl ?_
    refine kw_get rfl (hH_O (rfl : kotab 85 = some kMo)) rfl ?_
    refine kw_step rfl rfl rfl rfl ?_
    refine kw_step rfl rfl rfl rfl ?_
    refine kw_step rfl rfl rfl rfl ?_
    refine kw_icmp_le rfl rfl (fun c5 => ?_) (fun c5 => ?_)
    · have hf := gift c5 hf
      refine kw_step rfl rfl rfl rfl ?_
      refine kw_get rfl (hH_O (rfl : kotab 85 = some kMo)) rfl ?_
      refine kw_step rfl rfl rfl rfl ?_
      refine kw_step rfl rfl rfl rfl ?_
      refine kw_step (L' := [some (kr 85), some (kI q3.1), some (kI (wI ((q3.2 85 44) - 1))), none, none, none, none, none, none]) rfl rfl rfl rfl ?_
      refine kw_step rfl rfl rfl rfl ?_
      refine kw_step (L' := [some (kr 85), some (kI q3.1), some (kI (wI ((q3.2 85 44) - 1))), some (kJ 1), none, none, none, none, none]) rfl rfl rfl rfl ?_
      refine kw_step rfl rfl rfl rfl ?_
      refine kw_step (L' := [some (kr 85), some (kI q3.1), some (kI (wI ((q3.2 85 44) - 1))), some (kJ 1), none, some (kI 0), none, none, none]) rfl rfl rfl rfl ?_
      exact kW_le (L' := [some (kr 85), none, some (kI (wI ((q3.2 85 44) - 1))), some (kJ 1), none, some (kI 0), none, none, none]) ⟨Or.inr rfl, Or.inl rfl, Or.inr rfl, Or.inr rfl, Or.inl rfl, Or.inr rfl, Or.inl rfl, Or.inl rfl, Or.inl rfl, trivial⟩ (b_M_determinant_25 (wI ((q3.2 85 44) - 1)) 1 0 q3.2 _ hf hq)
    · have hf := giff c5 hf
      refine kw_step rfl rfl rfl rfl ?_
      cases hf
      exact kw_ret rfl rfl rfl hq
  · have hf := gift c2 hf
    refine kw_step rfl rfl rfl rfl ?_
    cases hf
    exact kw_ret rfl rfl rfl hq
def f_M_presentSet_17 (x2 : Int) (y0 : Int) (y1 : Int) (s : kM) : Option ((Int × Int) ⊕ (Int)) :=
  some (.inl ((kor y0 y1), (wI (x2 + 1))))
set_option maxRecDepth 8000 in
theorem b_M_presentSet_17 {sc : List Int} {Q : Option kV → kH → Prop} (x2 : Int) (y0 : Int) (y1 : Int) (s : kM) (t : (Int × Int) ⊕ (Int)) (hf : f_M_presentSet_17 x2 y0 y1 s = some t) (hq : (gE (fun x => kW sc 2 kc_M_presentSet 1 4 [some (kr 85), some (kI x.1), some (kI x.2)] [] (hH s) Q) (fun r => Q (some (kI r)) (hH s))) t) : kW sc 2 kc_M_presentSet 1 17 [some (kr 85), none, some (kI x2)] [kI y1, kI y0] (hH s) Q := by
  unfold f_M_presentSet_17 at hf
  refine kw_step rfl rfl rfl rfl ?_
  refine kw_step (L' := [some (kr 85), some (kI (kor y0 y1)), some (kI x2)]) rfl rfl rfl rfl ?_
  refine kw_step (L' := [some (kr 85), some (kI (kor y0 y1)), some (kI (wI (x2 + 1)))]) rfl rfl rfl rfl ?_
  refine kw_goto rfl rfl ?_
  cases hf
  exact kW_le (L' := [some (kr 85), some (kI (kor y0 y1)), some (kI (wI (x2 + 1)))]) ⟨Or.inr rfl, Or.inr rfl, Or.inr rfl, trivial⟩ hq
def f_M_presentSet_4b (x1 : Int) (x2 : Int) (s : kM) : Option ((Int × Int) ⊕ (Int)) :=
  if 11 ≤ x2 then (some (.inr x1)) else ((f_M_isBridge x2 s).bind fun q2 => if q2 = 0 then (f_M_presentSet_17 x2 x1 0 s) else (f_M_presentSet_17 x2 x1 (kshl 1 x2) s))
set_option maxRecDepth 8000 in
theorem b_M_presentSet_4b {sc : List Int} {Q : Option kV → kH → Prop} (x1 : Int) (x2 : Int) (s : kM) (t : (Int × Int) ⊕ (Int)) (hf : f_M_presentSet_4b x1 x2 s = some t) (hq : (gE (fun x => kW sc 2 kc_M_presentSet 1 4 [some (kr 85), some (kI x.1), some (kI x.2)] [] (hH s) Q) (fun r => Q (some (kI r)) (hH s))) t) : kW sc 2 kc_M_presentSet 1 4 [some (kr 85), some (kI x1), some (kI x2)] [] (hH s) Q := by
  unfold f_M_presentSet_4b at hf
  refine kw_step rfl rfl rfl rfl ?_
  refine kw_step rfl rfl rfl rfl ?_
  refine kw_icmp_ge rfl rfl (fun c1 => ?_) (fun c1 => ?_)
  · have hf := gift c1 hf
    refine kw_step rfl rfl rfl rfl ?_
    cases hf
    exact kw_ret rfl rfl rfl hq
  · have hf := giff c1 hf
    refine kw_step rfl rfl rfl rfl ?_
    refine kw_step rfl rfl rfl rfl ?_
    refine kw_step rfl rfl rfl rfl ?_
    obtain ⟨q2, hq2, hf⟩ := gbind hf
    refine kw_callV (vs := [kI x2]) rfl rfl rfl ⟨rfl, Nat.le_of_ble_eq_true rfl, Nat.le_of_ble_eq_true rfl, by decide⟩ (hH_O (rfl : kotab 85 = some kMo)) (c_M_isBridge x2 s _ hq2) (Nat.le_of_ble_eq_true rfl) ?_
    refine kw_if_eq rfl rfl (fun c3 => ?_) (fun c3 => ?_)
    · have hf := gift c3 hf
      refine kw_step rfl rfl rfl rfl ?_
      exact kW_le (L' := [some (kr 85), none, some (kI x2)]) ⟨Or.inr rfl, Or.inl rfl, Or.inr rfl, trivial⟩ (b_M_presentSet_17 x2 x1 0 s _ hf hq)
    · have hf := giff c3 hf
      refine kw_step rfl rfl rfl rfl ?_
      refine kw_step rfl rfl rfl rfl ?_
      refine kw_step rfl rfl rfl rfl ?_
      refine kw_goto rfl rfl ?_
      exact kW_le (L' := [some (kr 85), none, some (kI x2)]) ⟨Or.inr rfl, Or.inl rfl, Or.inr rfl, trivial⟩ (b_M_presentSet_17 x2 x1 (kshl 1 x2) s _ hf hq)
def f_M_presentSet_4 (x1 : Int) (x2 : Int) (s : kM) : Option (Int) :=
  gL (fun (x : Int × Int) => f_M_presentSet_4b x.1 x.2 s) gF (x1, x2)
theorem b_M_presentSet_4 {sc : List Int} {Q : Option kV → kH → Prop} (x1 : Int) (x2 : Int) (s : kM) (t : Int) (hf : f_M_presentSet_4 x1 x2 s = some t) (hq : (fun r => Q (some (kI r)) (hH s)) t) : kW sc 2 kc_M_presentSet 1 4 [some (kr 85), some (kI x1), some (kI x2)] [] (hH s) Q :=
  gL_ind (P := fun (x : Int × Int) => kW sc 2 kc_M_presentSet 1 4 [some (kr 85), some (kI x.1), some (kI x.2)] [] (hH s) Q) (q := (fun r => Q (some (kI r)) (hH s))) (fun x t hf hq => b_M_presentSet_4b x.1 x.2 s t hf hq) gF (x1, x2) t hf hq
def f_M_presentSet (s : kM) : Option (Int) :=
  f_M_presentSet_4 0 0 s
set_option maxRecDepth 8000 in
theorem c_M_presentSet {sc : List Int} (s : kM) (t : Int) (hf : f_M_presentSet s = some t) : kR sc 2 km_M_presentSet [kr 85] (hH s) (some (kI t)) (hH s) := by
  unfold f_M_presentSet at hf
  refine kR.start rfl ?_
  show kW sc 2 kc_M_presentSet 1 0 [some (kr 85), none, none] [] (hH s) _
  have hq : (fun (r : Option kV) (g : kH) => r = some (kI t) ∧ g = hH s) (some (kI t)) (hH s) := ⟨rfl, rfl⟩
  refine kw_step rfl rfl rfl rfl ?_
  refine kw_step (L' := [some (kr 85), some (kI 0), none]) rfl rfl rfl rfl ?_
  refine kw_step rfl rfl rfl rfl ?_
  refine kw_step (L' := [some (kr 85), some (kI 0), some (kI 0)]) rfl rfl rfl rfl ?_
  exact kW_le (L' := [some (kr 85), some (kI 0), some (kI 0)]) ⟨Or.inr rfl, Or.inr rfl, Or.inr rfl, trivial⟩ (b_M_presentSet_4 0 0 s _ hf hq)
def f_M_ones_4b (x0 : Int) (x1 : Int) (x2 : Int) (s : kM) : Option ((Int × Int) ⊕ (Int)) :=
  if 11 ≤ x2 then (some (.inr x1)) else (some (.inl ((wI (x1 + (kand (kshr x0 x2) 1))), (wI (x2 + 1)))))
set_option maxRecDepth 8000 in
theorem b_M_ones_4b {sc : List Int} {Q : Option kV → kH → Prop} (x0 : Int) (x1 : Int) (x2 : Int) (s : kM) (t : (Int × Int) ⊕ (Int)) (hf : f_M_ones_4b x0 x1 x2 s = some t) (hq : (gE (fun x => kW sc 0 kc_M_ones 1 4 [some (kI x0), some (kI x.1), some (kI x.2)] [] (hH s) Q) (fun r => Q (some (kI r)) (hH s))) t) : kW sc 0 kc_M_ones 1 4 [some (kI x0), some (kI x1), some (kI x2)] [] (hH s) Q := by
  unfold f_M_ones_4b at hf
  refine kw_step rfl rfl rfl rfl ?_
  refine kw_step rfl rfl rfl rfl ?_
  refine kw_icmp_ge rfl rfl (fun c1 => ?_) (fun c1 => ?_)
  · have hf := gift c1 hf
    refine kw_step rfl rfl rfl rfl ?_
    cases hf
    exact kw_ret rfl rfl rfl hq
  · have hf := giff c1 hf
    refine kw_step rfl rfl rfl rfl ?_
    refine kw_step rfl rfl rfl rfl ?_
    refine kw_step rfl rfl rfl rfl ?_
    refine kw_step rfl rfl rfl rfl ?_
    refine kw_step rfl rfl rfl rfl ?_
    refine kw_step rfl rfl rfl rfl ?_
    refine kw_step rfl rfl rfl rfl ?_
    refine kw_step (L' := [some (kI x0), some (kI (wI (x1 + (kand (kshr x0 x2) 1)))), some (kI x2)]) rfl rfl rfl rfl ?_
    refine kw_step (L' := [some (kI x0), some (kI (wI (x1 + (kand (kshr x0 x2) 1)))), some (kI (wI (x2 + 1)))]) rfl rfl rfl rfl ?_
    refine kw_goto rfl rfl ?_
    cases hf
    exact kW_le (L' := [some (kI x0), some (kI (wI (x1 + (kand (kshr x0 x2) 1)))), some (kI (wI (x2 + 1)))]) ⟨Or.inr rfl, Or.inr rfl, Or.inr rfl, trivial⟩ hq
def f_M_ones_4 (x0 : Int) (x1 : Int) (x2 : Int) (s : kM) : Option (Int) :=
  gL (fun (x : Int × Int) => f_M_ones_4b x0 x.1 x.2 s) gF (x1, x2)
theorem b_M_ones_4 {sc : List Int} {Q : Option kV → kH → Prop} (x0 : Int) (x1 : Int) (x2 : Int) (s : kM) (t : Int) (hf : f_M_ones_4 x0 x1 x2 s = some t) (hq : (fun r => Q (some (kI r)) (hH s)) t) : kW sc 0 kc_M_ones 1 4 [some (kI x0), some (kI x1), some (kI x2)] [] (hH s) Q :=
  gL_ind (P := fun (x : Int × Int) => kW sc 0 kc_M_ones 1 4 [some (kI x0), some (kI x.1), some (kI x.2)] [] (hH s) Q) (q := (fun r => Q (some (kI r)) (hH s))) (fun x t hf hq => b_M_ones_4b x0 x.1 x.2 s t hf hq) gF (x1, x2) t hf hq
def f_M_ones (x0 : Int) (s : kM) : Option (Int) :=
  f_M_ones_4 x0 0 0 s
set_option maxRecDepth 8000 in
theorem c_M_ones {sc : List Int} (x0 : Int) (s : kM) (t : Int) (hf : f_M_ones x0 s = some t) : kR sc 0 km_M_ones [kI x0] (hH s) (some (kI t)) (hH s) := by
  unfold f_M_ones at hf
  refine kR.start rfl ?_
  show kW sc 0 kc_M_ones 1 0 [some (kI x0), none, none] [] (hH s) _
  have hq : (fun (r : Option kV) (g : kH) => r = some (kI t) ∧ g = hH s) (some (kI t)) (hH s) := ⟨rfl, rfl⟩
  refine kw_step rfl rfl rfl rfl ?_
  refine kw_step (L' := [some (kI x0), some (kI 0), none]) rfl rfl rfl rfl ?_
  refine kw_step rfl rfl rfl rfl ?_
  refine kw_step (L' := [some (kI x0), some (kI 0), some (kI 0)]) rfl rfl rfl rfl ?_
  exact kW_le (L' := [some (kI x0), some (kI 0), some (kI 0)]) ⟨Or.inr rfl, Or.inr rfl, Or.inr rfl, trivial⟩ (b_M_ones_4 x0 0 0 s _ hf hq)
def f_M_joins_31 (x3 : Int) (x4 : Int) (x5 : Int) (y1 : Int) (y2 : Int) (s : kM) : Option ((Int × kM) ⊕ (kM)) :=
  (gI 22 y1).bind fun j1 => gLet (gU s 119 j1 y2) fun s3 => some (.inl ((wI (x5 + 1)), s3))
set_option maxRecDepth 8000 in
theorem b_M_joins_31 {sc : List Int} {Q : Option kV → kH → Prop} (x3 : Int) (x4 : Int) (x5 : Int) (y1 : Int) (y2 : Int) (s : kM) (t : (Int × kM) ⊕ (kM)) (hf : f_M_joins_31 x3 x4 x5 y1 y2 s = some t) (hq : (gE (fun x => kW sc 1 kc_M_joins 0 12 [some (kr 85), none, none, some (kI x3), some (kI x4), some (kI x.1)] [] (hH x.2) Q) (fun r => Q none (hH r))) t) : kW sc 1 kc_M_joins 0 31 [some (kr 85), none, none, some (kI x3), some (kI x4), some (kI x5)] [kI y2, kI y1, kr 119] (hH s) Q := by
  unfold f_M_joins_31 at hf
  obtain ⟨j1, i2, hf⟩ := gbI hf
  obtain ⟨s3, ee4, hf⟩ := gbL hf
  refine kw_iastH rfl (rfl : ktab 119 = some (0, 22)) i2.1 i2.2.1 i2.2.2 ee4 ?_
  refine kw_step (L' := [some (kr 85), none, none, some (kI x3), some (kI x4), some (kI (wI (x5 + 1)))]) rfl rfl rfl rfl ?_
  refine kw_goto rfl rfl ?_
  cases hf
  exact kW_le (L' := [some (kr 85), none, none, some (kI x3), some (kI x4), some (kI (wI (x5 + 1)))]) ⟨Or.inr rfl, Or.inl rfl, Or.inl rfl, Or.inr rfl, Or.inr rfl, Or.inr rfl, trivial⟩ hq
def f_M_joins_12b (x3 : Int) (x4 : Int) (x5 : Int) (s : kM) : Option ((Int × kM) ⊕ (kM)) :=
  (f_M_places s).bind fun q1 => if q1 ≤ x5 then (some (.inr s)) else ((gI 22 x5).bind fun j3 => if (s 119 j3) = x4 then (f_M_joins_31 x3 x4 x5 x5 x3 s) else ((gI 22 x5).bind fun j6 => f_M_joins_31 x3 x4 x5 x5 (s 119 j6) s))
set_option maxRecDepth 8000 in
theorem b_M_joins_12b {sc : List Int} {Q : Option kV → kH → Prop} (x3 : Int) (x4 : Int) (x5 : Int) (s : kM) (t : (Int × kM) ⊕ (kM)) (hf : f_M_joins_12b x3 x4 x5 s = some t) (hq : (gE (fun x => kW sc 1 kc_M_joins 0 12 [some (kr 85), none, none, some (kI x3), some (kI x4), some (kI x.1)] [] (hH x.2) Q) (fun r => Q none (hH r))) t) : kW sc 1 kc_M_joins 0 12 [some (kr 85), none, none, some (kI x3), some (kI x4), some (kI x5)] [] (hH s) Q := by
  unfold f_M_joins_12b at hf
  refine kw_step rfl rfl rfl rfl ?_
  refine kw_step rfl rfl rfl rfl ?_
  obtain ⟨q1, hq1, hf⟩ := gbind hf
  refine kw_callV (vs := []) rfl rfl rfl ⟨rfl, Nat.le_of_ble_eq_true rfl, Nat.le_of_ble_eq_true rfl, by decide⟩ (hH_O (rfl : kotab 85 = some kMo)) (c_M_places s _ hq1) (Nat.le_of_ble_eq_true rfl) ?_
  refine kw_icmp_ge rfl rfl (fun c2 => ?_) (fun c2 => ?_)
  · have hf := gift c2 hf
    cases hf
    exact kw_ret rfl rfl rfl hq
  · have hf := giff c2 hf
    refine kw_step rfl rfl rfl rfl ?_
    refine kw_get rfl (hH_O (rfl : kotab 85 = some kMo)) rfl ?_
    refine kw_step rfl rfl rfl rfl ?_
    refine kw_step rfl rfl rfl rfl ?_
    refine kw_get rfl (hH_O (rfl : kotab 85 = some kMo)) rfl ?_
    refine kw_step rfl rfl rfl rfl ?_
    obtain ⟨j3, i4, hf⟩ := gbI hf
    refine kw_iald rfl (hH_A (rfl : ktab 119 = some (0, 22))) i4.1 i4.2.1 i4.2.2 ?_
    refine kw_step rfl rfl rfl rfl ?_
    refine kw_icmp_ne rfl rfl (fun c5 => ?_) (fun c5 => ?_)
    · have hf := giff c5 hf
      refine kw_step rfl rfl rfl rfl ?_
      refine kw_get rfl (hH_O (rfl : kotab 85 = some kMo)) rfl ?_
      refine kw_step rfl rfl rfl rfl ?_
      obtain ⟨j6, i7, hf⟩ := gbI hf
      refine kw_iald rfl (hH_A (rfl : ktab 119 = some (0, 22))) i7.1 i7.2.1 i7.2.2 ?_
      exact kW_le (L' := [some (kr 85), none, none, some (kI x3), some (kI x4), some (kI x5)]) ⟨Or.inr rfl, Or.inl rfl, Or.inl rfl, Or.inr rfl, Or.inr rfl, Or.inr rfl, trivial⟩ (b_M_joins_31 x3 x4 x5 x5 (s 119 j6) s _ hf hq)
    · have hf := gift c5 hf
      refine kw_step rfl rfl rfl rfl ?_
      refine kw_goto rfl rfl ?_
      exact kW_le (L' := [some (kr 85), none, none, some (kI x3), some (kI x4), some (kI x5)]) ⟨Or.inr rfl, Or.inl rfl, Or.inl rfl, Or.inr rfl, Or.inr rfl, Or.inr rfl, trivial⟩ (b_M_joins_31 x3 x4 x5 x5 x3 s _ hf hq)
def f_M_joins_12 (x3 : Int) (x4 : Int) (x5 : Int) (s : kM) : Option (kM) :=
  gL (fun (x : Int × kM) => f_M_joins_12b x3 x4 x.1 x.2) gF (x5, s)
theorem b_M_joins_12 {sc : List Int} {Q : Option kV → kH → Prop} (x3 : Int) (x4 : Int) (x5 : Int) (s : kM) (t : kM) (hf : f_M_joins_12 x3 x4 x5 s = some t) (hq : (fun r => Q none (hH r)) t) : kW sc 1 kc_M_joins 0 12 [some (kr 85), none, none, some (kI x3), some (kI x4), some (kI x5)] [] (hH s) Q :=
  gL_ind (P := fun (x : Int × kM) => kW sc 1 kc_M_joins 0 12 [some (kr 85), none, none, some (kI x3), some (kI x4), some (kI x.1)] [] (hH x.2) Q) (q := (fun r => Q none (hH r))) (fun x t hf hq => b_M_joins_12b x3 x4 x.1 x.2 t hf hq) gF (x5, s) t hf hq
def f_M_joins (x1 : Int) (x2 : Int) (s : kM) : Option (kM) :=
  (gI 22 x1).bind fun j1 => (gI 22 x2).bind fun j3 => f_M_joins_12 (s 119 j1) (s 119 j3) 0 s
set_option maxRecDepth 8000 in
theorem c_M_joins {sc : List Int} (x1 : Int) (x2 : Int) (s : kM) (t : kM) (hf : f_M_joins x1 x2 s = some t) : kR sc 1 km_M_joins [kr 85, kI x1, kI x2] (hH s) none (hH t) := by
  unfold f_M_joins at hf
  refine kR.start rfl ?_
  show kW sc 1 kc_M_joins 0 0 [some (kr 85), some (kI x1), some (kI x2), none, none, none] [] (hH s) _
  have hq : (fun (r : Option kV) (g : kH) => r = none ∧ g = hH t) none (hH t) := ⟨rfl, rfl⟩
  refine kw_step rfl rfl rfl rfl ?_
  refine kw_get rfl (hH_O (rfl : kotab 85 = some kMo)) rfl ?_
  refine kw_step rfl rfl rfl rfl ?_
  obtain ⟨j1, i2, hf⟩ := gbI hf
  refine kw_iald rfl (hH_A (rfl : ktab 119 = some (0, 22))) i2.1 i2.2.1 i2.2.2 ?_
  refine kw_step (L' := [some (kr 85), some (kI x1), some (kI x2), some (kI (s 119 j1)), none, none]) rfl rfl rfl rfl ?_
  refine kw_step rfl rfl rfl rfl ?_
  refine kw_get rfl (hH_O (rfl : kotab 85 = some kMo)) rfl ?_
  refine kw_step rfl rfl rfl rfl ?_
  obtain ⟨j3, i4, hf⟩ := gbI hf
  refine kw_iald rfl (hH_A (rfl : ktab 119 = some (0, 22))) i4.1 i4.2.1 i4.2.2 ?_
  refine kw_step (L' := [some (kr 85), some (kI x1), some (kI x2), some (kI (s 119 j1)), some (kI (s 119 j3)), none]) rfl rfl rfl rfl ?_
  refine kw_step rfl rfl rfl rfl ?_
  refine kw_step (L' := [some (kr 85), some (kI x1), some (kI x2), some (kI (s 119 j1)), some (kI (s 119 j3)), some (kI 0)]) rfl rfl rfl rfl ?_
  exact kW_le (L' := [some (kr 85), none, none, some (kI (s 119 j1)), some (kI (s 119 j3)), some (kI 0)]) ⟨Or.inr rfl, Or.inl rfl, Or.inl rfl, Or.inr rfl, Or.inr rfl, Or.inr rfl, trivial⟩ (b_M_joins_12 (s 119 j1) (s 119 j3) 0 s _ hf hq)
def f_M_rings_126 (y0 : Int) (y1 : Int) (s : kM) : Option (Int × kM) :=
  if (s 86 0) = 2 then (if (s 86 2) = 0 then (some ((wI ((wI (y0 + y1)) + 1)), s)) else (some ((wI ((wI (y0 + y1)) + 0)), s))) else (some ((wI ((wI (y0 + y1)) + 0)), s))
set_option maxRecDepth 8000 in
theorem b_M_rings_126 {sc : List Int} {Q : Option kV → kH → Prop} (y0 : Int) (y1 : Int) (s : kM) (t : Int × kM) (hf : f_M_rings_126 y0 y1 s = some t) (hq : (fun r => Q (some (kI r.1)) (hH r.2)) t) : kW sc 2 kc_M_rings 1 126 [some (kr 85), none, none, none] [kI y1, kI y0] (hH s) Q := by
  unfold f_M_rings_126 at hf
  refine kw_step rfl rfl rfl rfl ?_
  refine kw_step (L' := [some (kr 85), none, some (kI (wI (y0 + y1))), none]) rfl rfl rfl rfl ?_
  refine kw_step rfl rfl rfl rfl ?_
  refine kw_step rfl rfl rfl rfl ?_
  refine kw_get rfl (hH_O (rfl : kotab 85 = some kMo)) rfl ?_
  refine kw_step rfl rfl rfl rfl ?_
  refine kw_iald rfl (hH_A (rfl : ktab 86 = some (0, 6))) (by decide) (by decide) (j := 0) rfl ?_
  refine kw_step rfl rfl rfl rfl ?_
  refine kw_icmp_ne rfl rfl (fun c1 => ?_) (fun c1 => ?_)
  · have hf := giff c1 hf
    refine kw_step rfl rfl rfl rfl ?_
    refine kw_step rfl rfl rfl rfl ?_
    cases hf
    exact kw_ret rfl rfl rfl hq
  · have hf := gift c1 hf
    refine kw_step rfl rfl rfl rfl ?_
    refine kw_get rfl (hH_O (rfl : kotab 85 = some kMo)) rfl ?_
    refine kw_step rfl rfl rfl rfl ?_
    refine kw_iald rfl (hH_A (rfl : ktab 86 = some (0, 6))) (by decide) (by decide) (j := 2) rfl ?_
    refine kw_if_ne rfl rfl (fun c2 => ?_) (fun c2 => ?_)
    · have hf := giff c2 hf
      refine kw_step rfl rfl rfl rfl ?_
      refine kw_step rfl rfl rfl rfl ?_
      cases hf
      exact kw_ret rfl rfl rfl hq
    · have hf := gift c2 hf
      refine kw_step rfl rfl rfl rfl ?_
      refine kw_goto rfl rfl ?_
      refine kw_step rfl rfl rfl rfl ?_
      cases hf
      exact kw_ret rfl rfl rfl hq
def f_M_rings_113 (x3 : Int) (y0 : Int) (y1 : Int) (s : kM) : Option ((Int × Int) ⊕ (Int × kM)) :=
  some (.inl ((wI (y0 + y1)), (wI (x3 + 1))))
set_option maxRecDepth 8000 in
theorem b_M_rings_113 {sc : List Int} {Q : Option kV → kH → Prop} (x3 : Int) (y0 : Int) (y1 : Int) (s : kM) (t : (Int × Int) ⊕ (Int × kM)) (hf : f_M_rings_113 x3 y0 y1 s = some t) (hq : (gE (fun x => kW sc 2 kc_M_rings 1 99 [some (kr 85), none, some (kI x.1), some (kI x.2)] [] (hH s) Q) (fun r => Q (some (kI r.1)) (hH r.2))) t) : kW sc 2 kc_M_rings 1 113 [some (kr 85), none, none, some (kI x3)] [kI y1, kI y0] (hH s) Q := by
  unfold f_M_rings_113 at hf
  refine kw_step rfl rfl rfl rfl ?_
  refine kw_step (L' := [some (kr 85), none, some (kI (wI (y0 + y1))), some (kI x3)]) rfl rfl rfl rfl ?_
  refine kw_step (L' := [some (kr 85), none, some (kI (wI (y0 + y1))), some (kI (wI (x3 + 1)))]) rfl rfl rfl rfl ?_
  refine kw_goto rfl rfl ?_
  cases hf
  exact kW_le (L' := [some (kr 85), none, some (kI (wI (y0 + y1))), some (kI (wI (x3 + 1)))]) ⟨Or.inr rfl, Or.inl rfl, Or.inr rfl, Or.inr rfl, trivial⟩ hq
def f_M_rings_99b (x2 : Int) (x3 : Int) (s : kM) : Option ((Int × Int) ⊕ (Int × kM)) :=
  (f_M_places s).bind fun q1 => if q1 ≤ x3 then (if (s 86 1) = 0 then ((f_M_rings_126 x2 1 s).map Sum.inr) else ((f_M_rings_126 x2 0 s).map Sum.inr)) else ((gI 22 x3).bind fun j8 => if (s 119 j8) = x3 then (f_M_rings_113 x3 x2 1 s) else (f_M_rings_113 x3 x2 0 s))
set_option maxRecDepth 8000 in
theorem b_M_rings_99b {sc : List Int} {Q : Option kV → kH → Prop} (x2 : Int) (x3 : Int) (s : kM) (t : (Int × Int) ⊕ (Int × kM)) (hf : f_M_rings_99b x2 x3 s = some t) (hq : (gE (fun x => kW sc 2 kc_M_rings 1 99 [some (kr 85), none, some (kI x.1), some (kI x.2)] [] (hH s) Q) (fun r => Q (some (kI r.1)) (hH r.2))) t) : kW sc 2 kc_M_rings 1 99 [some (kr 85), none, some (kI x2), some (kI x3)] [] (hH s) Q := by
  unfold f_M_rings_99b at hf
  refine kw_step rfl rfl rfl rfl ?_
  refine kw_step rfl rfl rfl rfl ?_
  obtain ⟨q1, hq1, hf⟩ := gbind hf
  refine kw_callV (vs := []) rfl rfl rfl ⟨rfl, Nat.le_of_ble_eq_true rfl, Nat.le_of_ble_eq_true rfl, by decide⟩ (hH_O (rfl : kotab 85 = some kMo)) (c_M_places s _ hq1) (Nat.le_of_ble_eq_true rfl) ?_
  refine kw_icmp_ge rfl rfl (fun c2 => ?_) (fun c2 => ?_)
  · have hf := gift c2 hf
    refine kw_step rfl rfl rfl rfl ?_
    refine kw_step rfl rfl rfl rfl ?_
    refine kw_get rfl (hH_O (rfl : kotab 85 = some kMo)) rfl ?_
    refine kw_step rfl rfl rfl rfl ?_
    refine kw_iald rfl (hH_A (rfl : ktab 86 = some (0, 6))) (by decide) (by decide) (j := 1) rfl ?_
    refine kw_if_ne rfl rfl (fun c3 => ?_) (fun c3 => ?_)
    · have hf := giff c3 hf
      refine kw_step rfl rfl rfl rfl ?_
      obtain ⟨t4, hg5, rfl⟩ := gmap hf
      exact kW_le (L' := [some (kr 85), none, none, none]) ⟨Or.inr rfl, Or.inl rfl, Or.inl rfl, Or.inl rfl, trivial⟩ (b_M_rings_126 x2 0 s _ hg5 hq)
    · have hf := gift c3 hf
      refine kw_step rfl rfl rfl rfl ?_
      refine kw_goto rfl rfl ?_
      obtain ⟨t6, hg7, rfl⟩ := gmap hf
      exact kW_le (L' := [some (kr 85), none, none, none]) ⟨Or.inr rfl, Or.inl rfl, Or.inl rfl, Or.inl rfl, trivial⟩ (b_M_rings_126 x2 1 s _ hg7 hq)
  · have hf := giff c2 hf
    refine kw_step rfl rfl rfl rfl ?_
    refine kw_step rfl rfl rfl rfl ?_
    refine kw_get rfl (hH_O (rfl : kotab 85 = some kMo)) rfl ?_
    refine kw_step rfl rfl rfl rfl ?_
    obtain ⟨j8, i9, hf⟩ := gbI hf
    refine kw_iald rfl (hH_A (rfl : ktab 119 = some (0, 22))) i9.1 i9.2.1 i9.2.2 ?_
    refine kw_step rfl rfl rfl rfl ?_
    refine kw_icmp_ne rfl rfl (fun c10 => ?_) (fun c10 => ?_)
    · have hf := giff c10 hf
      refine kw_step rfl rfl rfl rfl ?_
      exact kW_le (L' := [some (kr 85), none, none, some (kI x3)]) ⟨Or.inr rfl, Or.inl rfl, Or.inl rfl, Or.inr rfl, trivial⟩ (b_M_rings_113 x3 x2 0 s _ hf hq)
    · have hf := gift c10 hf
      refine kw_step rfl rfl rfl rfl ?_
      refine kw_goto rfl rfl ?_
      exact kW_le (L' := [some (kr 85), none, none, some (kI x3)]) ⟨Or.inr rfl, Or.inl rfl, Or.inl rfl, Or.inr rfl, trivial⟩ (b_M_rings_113 x3 x2 1 s _ hf hq)
def f_M_rings_99 (x2 : Int) (x3 : Int) (s : kM) : Option (Int × kM) :=
  gL (fun (x : Int × Int) => f_M_rings_99b x.1 x.2 s) gF (x2, x3)
theorem b_M_rings_99 {sc : List Int} {Q : Option kV → kH → Prop} (x2 : Int) (x3 : Int) (s : kM) (t : Int × kM) (hf : f_M_rings_99 x2 x3 s = some t) (hq : (fun r => Q (some (kI r.1)) (hH r.2)) t) : kW sc 2 kc_M_rings 1 99 [some (kr 85), none, some (kI x2), some (kI x3)] [] (hH s) Q :=
  gL_ind (P := fun (x : Int × Int) => kW sc 2 kc_M_rings 1 99 [some (kr 85), none, some (kI x.1), some (kI x.2)] [] (hH s) Q) (q := (fun r => Q (some (kI r.1)) (hH r.2))) (fun x t hf hq => b_M_rings_99b x.1 x.2 s t hf hq) gF (x2, x3) t hf hq
def f_M_rings_93 (x1 : Int) (x2 : Int) (s : kM) : Option ((Int × kM) ⊕ (Int × kM)) :=
  some (.inl ((wI (x2 + 1)), s))
set_option maxRecDepth 8000 in
theorem b_M_rings_93 {sc : List Int} {Q : Option kV → kH → Prop} (x1 : Int) (x2 : Int) (s : kM) (t : (Int × kM) ⊕ (Int × kM)) (hf : f_M_rings_93 x1 x2 s = some t) (hq : (gE (fun x => kW sc 2 kc_M_rings 1 15 [some (kr 85), some (kI x1), some (kI x.1), none] [] (hH x.2) Q) (fun r => Q (some (kI r.1)) (hH r.2))) t) : kW sc 2 kc_M_rings 1 93 [some (kr 85), some (kI x1), some (kI x2), none] [] (hH s) Q := by
  unfold f_M_rings_93 at hf
  refine kw_step (L' := [some (kr 85), some (kI x1), some (kI (wI (x2 + 1))), none]) rfl rfl rfl rfl ?_
  refine kw_goto rfl rfl ?_
  cases hf
  exact kW_le (L' := [some (kr 85), some (kI x1), some (kI (wI (x2 + 1))), none]) ⟨Or.inr rfl, Or.inr rfl, Or.inr rfl, Or.inl rfl, trivial⟩ hq
def f_M_rings_43 (x1 : Int) (x2 : Int) (y0 : Int) (y1 : Int) (s : kM) : Option ((Int × kM) ⊕ (Int × kM)) :=
  if y0 = y1 then ((gI 11 x2).bind fun j16 => (f_M_ahead (s 98 j16) s).bind fun q18 => (gI 11 x2).bind fun j19 => (f_M_joins q18 (s 99 j19) s).bind fun q21 => (gI 11 x2).bind fun j23 => (f_M_ahead (q21 99 j23) q21).bind fun q25 => (gI 11 x2).bind fun j26 => (f_M_joins q25 (q21 98 j26) q21).bind fun q28 => f_M_rings_93 x1 x2 q28) else ((gI 11 x2).bind fun j2 => (f_M_ahead (s 98 j2) s).bind fun q4 => (gI 11 x2).bind fun j5 => (f_M_ahead (s 99 j5) s).bind fun q7 => (f_M_joins q4 q7 s).bind fun q8 => (gI 11 x2).bind fun j10 => (gI 11 x2).bind fun j12 => (f_M_joins (q8 98 j10) (q8 99 j12) q8).bind fun q14 => f_M_rings_93 x1 x2 q14)
set_option maxRecDepth 8000 in
theorem b_M_rings_43 {sc : List Int} {Q : Option kV → kH → Prop} (x1 : Int) (x2 : Int) (y0 : Int) (y1 : Int) (s : kM) (t : (Int × kM) ⊕ (Int × kM)) (hf : f_M_rings_43 x1 x2 y0 y1 s = some t) (hq : (gE (fun x => kW sc 2 kc_M_rings 1 15 [some (kr 85), some (kI x1), some (kI x.1), none] [] (hH x.2) Q) (fun r => Q (some (kI r.1)) (hH r.2))) t) : kW sc 2 kc_M_rings 1 43 [some (kr 85), some (kI x1), some (kI x2), none] [kI y1, kI y0] (hH s) Q := by
  unfold f_M_rings_43 at hf
  refine kw_icmp_ne rfl rfl (fun c1 => ?_) (fun c1 => ?_)
  · have hf := giff c1 hf
    refine kw_step rfl rfl rfl rfl ?_
    refine kw_step rfl rfl rfl rfl ?_
    refine kw_step rfl rfl rfl rfl ?_
    refine kw_get rfl (hH_O (rfl : kotab 85 = some kMo)) rfl ?_
    refine kw_step rfl rfl rfl rfl ?_
    obtain ⟨j2, i3, hf⟩ := gbI hf
    refine kw_iald rfl (hH_A (rfl : ktab 98 = some (0, 11))) i3.1 i3.2.1 i3.2.2 ?_
    obtain ⟨q4, hq4, hf⟩ := gbind hf
    refine kw_callV (vs := [kI (s 98 j2)]) rfl rfl rfl ⟨rfl, Nat.le_of_ble_eq_true rfl, Nat.le_of_ble_eq_true rfl, by decide⟩ (hH_O (rfl : kotab 85 = some kMo)) (c_M_ahead (s 98 j2) s _ hq4) (Nat.le_of_ble_eq_true rfl) ?_
    refine kw_step rfl rfl rfl rfl ?_
    refine kw_step rfl rfl rfl rfl ?_
    refine kw_get rfl (hH_O (rfl : kotab 85 = some kMo)) rfl ?_
    refine kw_step rfl rfl rfl rfl ?_
    obtain ⟨j5, i6, hf⟩ := gbI hf
    refine kw_iald rfl (hH_A (rfl : ktab 99 = some (0, 11))) i6.1 i6.2.1 i6.2.2 ?_
    obtain ⟨q7, hq7, hf⟩ := gbind hf
    refine kw_callV (vs := [kI (s 99 j5)]) rfl rfl rfl ⟨rfl, Nat.le_of_ble_eq_true rfl, Nat.le_of_ble_eq_true rfl, by decide⟩ (hH_O (rfl : kotab 85 = some kMo)) (c_M_ahead (s 99 j5) s _ hq7) (Nat.le_of_ble_eq_true rfl) ?_
    obtain ⟨q8, hq8, hf⟩ := gbind hf
    refine kw_callV (vs := [kI q4, kI q7]) rfl rfl rfl ⟨rfl, Nat.le_of_ble_eq_true rfl, Nat.le_of_ble_eq_true rfl, by decide⟩ (hH_O (rfl : kotab 85 = some kMo)) (c_M_joins q4 q7 s _ hq8) (Nat.le_of_ble_eq_true rfl) ?_
    refine kw_step rfl rfl rfl rfl ?_
    refine kw_step rfl rfl rfl rfl ?_
    refine kw_get rfl (hH_O (rfl : kotab 85 = some kMo)) rfl ?_
    refine kw_step rfl rfl rfl rfl ?_
    obtain ⟨j10, i11, hf⟩ := gbI hf
    refine kw_iald rfl (hH_A (rfl : ktab 98 = some (0, 11))) i11.1 i11.2.1 i11.2.2 ?_
    refine kw_step rfl rfl rfl rfl ?_
    refine kw_get rfl (hH_O (rfl : kotab 85 = some kMo)) rfl ?_
    refine kw_step rfl rfl rfl rfl ?_
    obtain ⟨j12, i13, hf⟩ := gbI hf
    refine kw_iald rfl (hH_A (rfl : ktab 99 = some (0, 11))) i13.1 i13.2.1 i13.2.2 ?_
    obtain ⟨q14, hq14, hf⟩ := gbind hf
    refine kw_callV (vs := [kI (q8 98 j10), kI (q8 99 j12)]) rfl rfl rfl ⟨rfl, Nat.le_of_ble_eq_true rfl, Nat.le_of_ble_eq_true rfl, by decide⟩ (hH_O (rfl : kotab 85 = some kMo)) (c_M_joins (q8 98 j10) (q8 99 j12) q8 _ hq14) (Nat.le_of_ble_eq_true rfl) ?_
    exact kW_le (L' := [some (kr 85), some (kI x1), some (kI x2), none]) ⟨Or.inr rfl, Or.inr rfl, Or.inr rfl, Or.inl rfl, trivial⟩ (b_M_rings_93 x1 x2 q14 _ hf hq)
  · have hf := gift c1 hf
    refine kw_step rfl rfl rfl rfl ?_
    refine kw_step rfl rfl rfl rfl ?_
    refine kw_step rfl rfl rfl rfl ?_
    refine kw_get rfl (hH_O (rfl : kotab 85 = some kMo)) rfl ?_
    refine kw_step rfl rfl rfl rfl ?_
    obtain ⟨j16, i17, hf⟩ := gbI hf
    refine kw_iald rfl (hH_A (rfl : ktab 98 = some (0, 11))) i17.1 i17.2.1 i17.2.2 ?_
    obtain ⟨q18, hq18, hf⟩ := gbind hf
    refine kw_callV (vs := [kI (s 98 j16)]) rfl rfl rfl ⟨rfl, Nat.le_of_ble_eq_true rfl, Nat.le_of_ble_eq_true rfl, by decide⟩ (hH_O (rfl : kotab 85 = some kMo)) (c_M_ahead (s 98 j16) s _ hq18) (Nat.le_of_ble_eq_true rfl) ?_
    refine kw_step rfl rfl rfl rfl ?_
    refine kw_get rfl (hH_O (rfl : kotab 85 = some kMo)) rfl ?_
    refine kw_step rfl rfl rfl rfl ?_
    obtain ⟨j19, i20, hf⟩ := gbI hf
    refine kw_iald rfl (hH_A (rfl : ktab 99 = some (0, 11))) i20.1 i20.2.1 i20.2.2 ?_
    obtain ⟨q21, hq21, hf⟩ := gbind hf
    refine kw_callV (vs := [kI q18, kI (s 99 j19)]) rfl rfl rfl ⟨rfl, Nat.le_of_ble_eq_true rfl, Nat.le_of_ble_eq_true rfl, by decide⟩ (hH_O (rfl : kotab 85 = some kMo)) (c_M_joins q18 (s 99 j19) s _ hq21) (Nat.le_of_ble_eq_true rfl) ?_
    refine kw_step rfl rfl rfl rfl ?_
    refine kw_step rfl rfl rfl rfl ?_
    refine kw_step rfl rfl rfl rfl ?_
    refine kw_get rfl (hH_O (rfl : kotab 85 = some kMo)) rfl ?_
    refine kw_step rfl rfl rfl rfl ?_
    obtain ⟨j23, i24, hf⟩ := gbI hf
    refine kw_iald rfl (hH_A (rfl : ktab 99 = some (0, 11))) i24.1 i24.2.1 i24.2.2 ?_
    obtain ⟨q25, hq25, hf⟩ := gbind hf
    refine kw_callV (vs := [kI (q21 99 j23)]) rfl rfl rfl ⟨rfl, Nat.le_of_ble_eq_true rfl, Nat.le_of_ble_eq_true rfl, by decide⟩ (hH_O (rfl : kotab 85 = some kMo)) (c_M_ahead (q21 99 j23) q21 _ hq25) (Nat.le_of_ble_eq_true rfl) ?_
    refine kw_step rfl rfl rfl rfl ?_
    refine kw_get rfl (hH_O (rfl : kotab 85 = some kMo)) rfl ?_
    refine kw_step rfl rfl rfl rfl ?_
    obtain ⟨j26, i27, hf⟩ := gbI hf
    refine kw_iald rfl (hH_A (rfl : ktab 98 = some (0, 11))) i27.1 i27.2.1 i27.2.2 ?_
    obtain ⟨q28, hq28, hf⟩ := gbind hf
    refine kw_callV (vs := [kI q25, kI (q21 98 j26)]) rfl rfl rfl ⟨rfl, Nat.le_of_ble_eq_true rfl, Nat.le_of_ble_eq_true rfl, by decide⟩ (hH_O (rfl : kotab 85 = some kMo)) (c_M_joins q25 (q21 98 j26) q21 _ hq28) (Nat.le_of_ble_eq_true rfl) ?_
    refine kw_goto rfl rfl ?_
    exact kW_le (L' := [some (kr 85), some (kI x1), some (kI x2), none]) ⟨Or.inr rfl, Or.inr rfl, Or.inr rfl, Or.inl rfl, trivial⟩ (b_M_rings_93 x1 x2 q28 _ hf hq)
def f_M_rings_32 (x1 : Int) (x2 : Int) (y0 : Int) (s : kM) : Option ((Int × kM) ⊕ (Int × kM)) :=
  (gI 11 x2).bind fun j1 => if (s 89 j1) = 1 then (f_M_rings_43 x1 x2 y0 1 s) else (f_M_rings_43 x1 x2 y0 0 s)
set_option maxRecDepth 8000 in
theorem b_M_rings_32 {sc : List Int} {Q : Option kV → kH → Prop} (x1 : Int) (x2 : Int) (y0 : Int) (s : kM) (t : (Int × kM) ⊕ (Int × kM)) (hf : f_M_rings_32 x1 x2 y0 s = some t) (hq : (gE (fun x => kW sc 2 kc_M_rings 1 15 [some (kr 85), some (kI x1), some (kI x.1), none] [] (hH x.2) Q) (fun r => Q (some (kI r.1)) (hH r.2))) t) : kW sc 2 kc_M_rings 1 32 [some (kr 85), some (kI x1), some (kI x2), none] [kI y0] (hH s) Q := by
  unfold f_M_rings_32 at hf
  refine kw_step (L' := [some (kr 85), some (kI x1), some (kI x2), some (kI y0)]) rfl rfl rfl rfl ?_
  refine kw_step rfl rfl rfl rfl ?_
  refine kw_step rfl rfl rfl rfl ?_
  refine kw_get rfl (hH_O (rfl : kotab 85 = some kMo)) rfl ?_
  refine kw_step rfl rfl rfl rfl ?_
  obtain ⟨j1, i2, hf⟩ := gbI hf
  refine kw_iald rfl (hH_A (rfl : ktab 89 = some (0, 11))) i2.1 i2.2.1 i2.2.2 ?_
  refine kw_step rfl rfl rfl rfl ?_
  refine kw_icmp_ne rfl rfl (fun c3 => ?_) (fun c3 => ?_)
  · have hf := giff c3 hf
    refine kw_step rfl rfl rfl rfl ?_
    exact kW_le (L' := [some (kr 85), some (kI x1), some (kI x2), none]) ⟨Or.inr rfl, Or.inr rfl, Or.inr rfl, Or.inl rfl, trivial⟩ (b_M_rings_43 x1 x2 y0 0 s _ hf hq)
  · have hf := gift c3 hf
    refine kw_step rfl rfl rfl rfl ?_
    refine kw_goto rfl rfl ?_
    exact kW_le (L' := [some (kr 85), some (kI x1), some (kI x2), none]) ⟨Or.inr rfl, Or.inr rfl, Or.inr rfl, Or.inl rfl, trivial⟩ (b_M_rings_43 x1 x2 y0 1 s _ hf hq)
def f_M_rings_15b (x1 : Int) (x2 : Int) (s : kM) : Option ((Int × kM) ⊕ (Int × kM)) :=
  if 11 ≤ x2 then ((f_M_rings_99 0 0 s).map Sum.inr) else ((f_M_isBridge x2 s).bind fun q4 => if q4 = 0 then (f_M_rings_93 x1 x2 s) else (if (kand (kshr x1 x2) 1) = 1 then (f_M_rings_32 x1 x2 1 s) else (f_M_rings_32 x1 x2 0 s)))
set_option maxRecDepth 8000 in
theorem b_M_rings_15b {sc : List Int} {Q : Option kV → kH → Prop} (x1 : Int) (x2 : Int) (s : kM) (t : (Int × kM) ⊕ (Int × kM)) (hf : f_M_rings_15b x1 x2 s = some t) (hq : (gE (fun x => kW sc 2 kc_M_rings 1 15 [some (kr 85), some (kI x1), some (kI x.1), none] [] (hH x.2) Q) (fun r => Q (some (kI r.1)) (hH r.2))) t) : kW sc 2 kc_M_rings 1 15 [some (kr 85), some (kI x1), some (kI x2), none] [] (hH s) Q := by
  unfold f_M_rings_15b at hf
  refine kw_step rfl rfl rfl rfl ?_
  refine kw_step rfl rfl rfl rfl ?_
  refine kw_icmp_ge rfl rfl (fun c1 => ?_) (fun c1 => ?_)
  · have hf := gift c1 hf
    refine kw_step rfl rfl rfl rfl ?_
    refine kw_step (L' := [some (kr 85), some (kI x1), some (kI 0), none]) rfl rfl rfl rfl ?_
    refine kw_step rfl rfl rfl rfl ?_
    refine kw_step (L' := [some (kr 85), some (kI x1), some (kI 0), some (kI 0)]) rfl rfl rfl rfl ?_
    obtain ⟨t2, hg3, rfl⟩ := gmap hf
    exact kW_le (L' := [some (kr 85), none, some (kI 0), some (kI 0)]) ⟨Or.inr rfl, Or.inl rfl, Or.inr rfl, Or.inr rfl, trivial⟩ (b_M_rings_99 0 0 s _ hg3 hq)
  · have hf := giff c1 hf
    refine kw_step rfl rfl rfl rfl ?_
    refine kw_step rfl rfl rfl rfl ?_
    obtain ⟨q4, hq4, hf⟩ := gbind hf
    refine kw_callV (vs := [kI x2]) rfl rfl rfl ⟨rfl, Nat.le_of_ble_eq_true rfl, Nat.le_of_ble_eq_true rfl, by decide⟩ (hH_O (rfl : kotab 85 = some kMo)) (c_M_isBridge x2 s _ hq4) (Nat.le_of_ble_eq_true rfl) ?_
    refine kw_if_eq rfl rfl (fun c5 => ?_) (fun c5 => ?_)
    · have hf := gift c5 hf
      exact kW_le (L' := [some (kr 85), some (kI x1), some (kI x2), none]) ⟨Or.inr rfl, Or.inr rfl, Or.inr rfl, Or.inl rfl, trivial⟩ (b_M_rings_93 x1 x2 s _ hf hq)
    · have hf := giff c5 hf
      refine kw_step rfl rfl rfl rfl ?_
      refine kw_step rfl rfl rfl rfl ?_
      refine kw_step rfl rfl rfl rfl ?_
      refine kw_step rfl rfl rfl rfl ?_
      refine kw_step rfl rfl rfl rfl ?_
      refine kw_step rfl rfl rfl rfl ?_
      refine kw_icmp_ne rfl rfl (fun c6 => ?_) (fun c6 => ?_)
      · have hf := giff c6 hf
        refine kw_step rfl rfl rfl rfl ?_
        exact kW_le (L' := [some (kr 85), some (kI x1), some (kI x2), none]) ⟨Or.inr rfl, Or.inr rfl, Or.inr rfl, Or.inl rfl, trivial⟩ (b_M_rings_32 x1 x2 0 s _ hf hq)
      · have hf := gift c6 hf
        refine kw_step rfl rfl rfl rfl ?_
        refine kw_goto rfl rfl ?_
        exact kW_le (L' := [some (kr 85), some (kI x1), some (kI x2), none]) ⟨Or.inr rfl, Or.inr rfl, Or.inr rfl, Or.inl rfl, trivial⟩ (b_M_rings_32 x1 x2 1 s _ hf hq)
def f_M_rings_15 (x1 : Int) (x2 : Int) (s : kM) : Option (Int × kM) :=
  gL (fun (x : Int × kM) => f_M_rings_15b x1 x.1 x.2) gF (x2, s)
theorem b_M_rings_15 {sc : List Int} {Q : Option kV → kH → Prop} (x1 : Int) (x2 : Int) (s : kM) (t : Int × kM) (hf : f_M_rings_15 x1 x2 s = some t) (hq : (fun r => Q (some (kI r.1)) (hH r.2)) t) : kW sc 2 kc_M_rings 1 15 [some (kr 85), some (kI x1), some (kI x2), none] [] (hH s) Q :=
  gL_ind (P := fun (x : Int × kM) => kW sc 2 kc_M_rings 1 15 [some (kr 85), some (kI x1), some (kI x.1), none] [] (hH x.2) Q) (q := (fun r => Q (some (kI r.1)) (hH r.2))) (fun x t hf hq => b_M_rings_15b x1 x.1 x.2 t hf hq) gF (x2, s) t hf hq
def f_M_rings_2b (x1 : Int) (x2 : Int) (s : kM) : Option ((Int × kM) ⊕ (Int × kM)) :=
  (f_M_places s).bind fun q1 => if q1 ≤ x2 then ((f_M_rings_15 x1 0 s).map Sum.inr) else ((gI 22 x2).bind fun j5 => gLet (gU s 119 j5 x2) fun s7 => some (.inl ((wI (x2 + 1)), s7)))
set_option maxRecDepth 8000 in
theorem b_M_rings_2b {sc : List Int} {Q : Option kV → kH → Prop} (x1 : Int) (x2 : Int) (s : kM) (t : (Int × kM) ⊕ (Int × kM)) (hf : f_M_rings_2b x1 x2 s = some t) (hq : (gE (fun x => kW sc 2 kc_M_rings 1 2 [some (kr 85), some (kI x1), some (kI x.1), none] [] (hH x.2) Q) (fun r => Q (some (kI r.1)) (hH r.2))) t) : kW sc 2 kc_M_rings 1 2 [some (kr 85), some (kI x1), some (kI x2), none] [] (hH s) Q := by
  unfold f_M_rings_2b at hf
  refine kw_step rfl rfl rfl rfl ?_
  refine kw_step rfl rfl rfl rfl ?_
  obtain ⟨q1, hq1, hf⟩ := gbind hf
  refine kw_callV (vs := []) rfl rfl rfl ⟨rfl, Nat.le_of_ble_eq_true rfl, Nat.le_of_ble_eq_true rfl, by decide⟩ (hH_O (rfl : kotab 85 = some kMo)) (c_M_places s _ hq1) (Nat.le_of_ble_eq_true rfl) ?_
  refine kw_icmp_ge rfl rfl (fun c2 => ?_) (fun c2 => ?_)
  · have hf := gift c2 hf
    refine kw_step rfl rfl rfl rfl ?_
    refine kw_step (L' := [some (kr 85), some (kI x1), some (kI 0), none]) rfl rfl rfl rfl ?_
    obtain ⟨t3, hg4, rfl⟩ := gmap hf
    exact kW_le (L' := [some (kr 85), some (kI x1), some (kI 0), none]) ⟨Or.inr rfl, Or.inr rfl, Or.inr rfl, Or.inl rfl, trivial⟩ (b_M_rings_15 x1 0 s _ hg4 hq)
  · have hf := giff c2 hf
    refine kw_step rfl rfl rfl rfl ?_
    refine kw_get rfl (hH_O (rfl : kotab 85 = some kMo)) rfl ?_
    refine kw_step rfl rfl rfl rfl ?_
    refine kw_step rfl rfl rfl rfl ?_
    obtain ⟨j5, i6, hf⟩ := gbI hf
    obtain ⟨s7, ee8, hf⟩ := gbL hf
    refine kw_iastH rfl (rfl : ktab 119 = some (0, 22)) i6.1 i6.2.1 i6.2.2 ee8 ?_
    refine kw_step (L' := [some (kr 85), some (kI x1), some (kI (wI (x2 + 1))), none]) rfl rfl rfl rfl ?_
    refine kw_goto rfl rfl ?_
    cases hf
    exact kW_le (L' := [some (kr 85), some (kI x1), some (kI (wI (x2 + 1))), none]) ⟨Or.inr rfl, Or.inr rfl, Or.inr rfl, Or.inl rfl, trivial⟩ hq
def f_M_rings_2 (x1 : Int) (x2 : Int) (s : kM) : Option (Int × kM) :=
  gL (fun (x : Int × kM) => f_M_rings_2b x1 x.1 x.2) gF (x2, s)
theorem b_M_rings_2 {sc : List Int} {Q : Option kV → kH → Prop} (x1 : Int) (x2 : Int) (s : kM) (t : Int × kM) (hf : f_M_rings_2 x1 x2 s = some t) (hq : (fun r => Q (some (kI r.1)) (hH r.2)) t) : kW sc 2 kc_M_rings 1 2 [some (kr 85), some (kI x1), some (kI x2), none] [] (hH s) Q :=
  gL_ind (P := fun (x : Int × kM) => kW sc 2 kc_M_rings 1 2 [some (kr 85), some (kI x1), some (kI x.1), none] [] (hH x.2) Q) (q := (fun r => Q (some (kI r.1)) (hH r.2))) (fun x t hf hq => b_M_rings_2b x1 x.1 x.2 t hf hq) gF (x2, s) t hf hq
def f_M_rings (x1 : Int) (s : kM) : Option (Int × kM) :=
  f_M_rings_2 x1 0 s
set_option maxRecDepth 8000 in
theorem c_M_rings {sc : List Int} (x1 : Int) (s : kM) (t : Int × kM) (hf : f_M_rings x1 s = some t) : kR sc 2 km_M_rings [kr 85, kI x1] (hH s) (some (kI t.1)) (hH t.2) := by
  unfold f_M_rings at hf
  refine kR.start rfl ?_
  show kW sc 2 kc_M_rings 1 0 [some (kr 85), some (kI x1), none, none] [] (hH s) _
  have hq : (fun (r : Option kV) (g : kH) => r = some (kI t.1) ∧ g = hH t.2) (some (kI t.1)) (hH t.2) := ⟨rfl, rfl⟩
  refine kw_step rfl rfl rfl rfl ?_
  refine kw_step (L' := [some (kr 85), some (kI x1), some (kI 0), none]) rfl rfl rfl rfl ?_
  exact kW_le (L' := [some (kr 85), some (kI x1), some (kI 0), none]) ⟨Or.inr rfl, Or.inr rfl, Or.inr rfl, Or.inl rfl, trivial⟩ (b_M_rings_2 x1 0 s _ hf hq)
