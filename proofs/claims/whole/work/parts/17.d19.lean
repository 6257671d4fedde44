/-! PRINTED by wip/whole/decall.py: methods as functions over the flat world, with their contracts -/
def f_M_goesUnder_28 (x1 : Int) (x3 : Int) (y0 : Int) (s : kM) : Option ((Int × Int) ⊕ (Int)) :=
  some (.inl (y0, (wI (x3 + 1))))
set_option maxRecDepth 8000 in
theorem b_M_goesUnder_28 {sc : List Int} {Q : Option kV → kH → Prop} (x1 : Int) (x3 : Int) (y0 : Int) (s : kM) (t : (Int × Int) ⊕ (Int)) (hf : f_M_goesUnder_28 x1 x3 y0 s = some t) (hq : (gE (fun x => kW sc 1 kc_M_goesUnder 2 6 [some (kr 85), some (kI x1), some (kI x.1), some (kI x.2)] [] (hH s) Q) (fun r => Q (some (kI r)) (hH s))) t) : kW sc 1 kc_M_goesUnder 2 28 [some (kr 85), some (kI x1), none, some (kI x3)] [kI y0] (hH s) Q := by
  unfold f_M_goesUnder_28 at hf
  refine kw_step (L' := [some (kr 85), some (kI x1), some (kI y0), some (kI x3)]) rfl rfl rfl rfl ?_
  refine kw_step (L' := [some (kr 85), some (kI x1), some (kI y0), some (kI (wI (x3 + 1)))]) rfl rfl rfl rfl ?_
  refine kw_goto rfl rfl ?_
  cases hf
  exact kW_le (L' := [some (kr 85), some (kI x1), some (kI y0), some (kI (wI (x3 + 1)))]) ⟨Or.inr rfl, Or.inr rfl, Or.inr rfl, Or.inr rfl, trivial⟩ hq
def f_M_goesUnder_25 (x1 : Int) (x3 : Int) (s : kM) : Option ((Int × Int) ⊕ (Int)) :=
  f_M_goesUnder_28 x1 x3 1 s
set_option maxRecDepth 8000 in
theorem b_M_goesUnder_25 {sc : List Int} {Q : Option kV → kH → Prop} (x1 : Int) (x3 : Int) (s : kM) (t : (Int × Int) ⊕ (Int)) (hf : f_M_goesUnder_25 x1 x3 s = some t) (hq : (gE (fun x => kW sc 1 kc_M_goesUnder 2 6 [some (kr 85), some (kI x1), some (kI x.1), some (kI x.2)] [] (hH s) Q) (fun r => Q (some (kI r)) (hH s))) t) : kW sc 1 kc_M_goesUnder 2 25 [some (kr 85), some (kI x1), none, some (kI x3)] [] (hH s) Q := by
  unfold f_M_goesUnder_25 at hf
  refine kw_step rfl rfl rfl rfl ?_
  refine kw_goto rfl rfl ?_
  exact kW_le (L' := [some (kr 85), some (kI x1), none, some (kI x3)]) ⟨Or.inr rfl, Or.inr rfl, Or.inl rfl, Or.inr rfl, trivial⟩ (b_M_goesUnder_28 x1 x3 1 s _ hf hq)
def f_M_goesUnder_6b (x1 : Int) (x2 : Int) (x3 : Int) (s : kM) : Option ((Int × Int) ⊕ (Int)) :=
  (f_M_beginOf x1 s).bind fun q1 => (gI 6 (wI (1 + x1))).bind fun j2 => if (wI (q1 + (s 86 j2))) ≤ x3 then ((gB x2).bind fun _ => some (.inr x2)) else (if x2 = 0 then ((gI 22 x3).bind fun j7 => if (s 88 j7) = 0 then (f_M_goesUnder_25 x1 x3 s) else (f_M_goesUnder_28 x1 x3 0 s)) else (f_M_goesUnder_25 x1 x3 s))
set_option maxRecDepth 8000 in
theorem b_M_goesUnder_6b {sc : List Int} {Q : Option kV → kH → Prop} (x1 : Int) (x2 : Int) (x3 : Int) (s : kM) (t : (Int × Int) ⊕ (Int)) (hf : f_M_goesUnder_6b x1 x2 x3 s = some t) (hq : (gE (fun x => kW sc 1 kc_M_goesUnder 2 6 [some (kr 85), some (kI x1), some (kI x.1), some (kI x.2)] [] (hH s) Q) (fun r => Q (some (kI r)) (hH s))) t) : kW sc 1 kc_M_goesUnder 2 6 [some (kr 85), some (kI x1), some (kI x2), some (kI x3)] [] (hH s) Q := by
  unfold f_M_goesUnder_6b at hf
  refine kw_step rfl rfl rfl rfl ?_
  refine kw_step rfl rfl rfl rfl ?_
  refine kw_step rfl rfl rfl rfl ?_
  obtain ⟨q1, hq1, hf⟩ := gbind hf
  refine kw_callV (vs := [kI x1]) rfl rfl rfl ⟨rfl, Nat.le_of_ble_eq_true rfl, Nat.le_of_ble_eq_true rfl, by decide⟩ (hH_O (rfl : kotab 85 = some kMo)) (c_M_beginOf x1 s _ hq1) (Nat.le_of_ble_eq_true rfl) ?_
  refine kw_step rfl rfl rfl rfl ?_
  refine kw_get rfl (hH_O (rfl : kotab 85 = some kMo)) rfl ?_
  refine kw_step rfl rfl rfl rfl ?_
  refine kw_step rfl rfl rfl rfl ?_
  refine kw_step rfl rfl rfl rfl ?_
  obtain ⟨j2, i3, hf⟩ := gbI hf
  refine kw_iald rfl (hH_A (rfl : ktab 86 = some (0, 6))) i3.1 i3.2.1 i3.2.2 ?_
  refine kw_step rfl rfl rfl rfl ?_
  refine kw_icmp_ge rfl rfl (fun c4 => ?_) (fun c4 => ?_)
  · have hf := gift c4 hf
    refine kw_step rfl rfl rfl rfl ?_
    obtain ⟨w5, hf⟩ := gbB hf
    cases hf
    exact kw_ret rfl rfl (if_pos w5) hq
  · have hf := giff c4 hf
    refine kw_step rfl rfl rfl rfl ?_
    refine kw_if_ne rfl rfl (fun c6 => ?_) (fun c6 => ?_)
    · have hf := giff c6 hf
      exact kW_le (L' := [some (kr 85), some (kI x1), none, some (kI x3)]) ⟨Or.inr rfl, Or.inr rfl, Or.inl rfl, Or.inr rfl, trivial⟩ (b_M_goesUnder_25 x1 x3 s _ hf hq)
    · have hf := gift c6 hf
      refine kw_step rfl rfl rfl rfl ?_
      refine kw_get rfl (hH_O (rfl : kotab 85 = some kMo)) rfl ?_
      refine kw_step rfl rfl rfl rfl ?_
      obtain ⟨j7, i8, hf⟩ := gbI hf
      refine kw_iald rfl (hH_A (rfl : ktab 88 = some (0, 22))) i8.1 i8.2.1 i8.2.2 ?_
      refine kw_if_ne rfl rfl (fun c9 => ?_) (fun c9 => ?_)
      · have hf := giff c9 hf
        refine kw_step rfl rfl rfl rfl ?_
        exact kW_le (L' := [some (kr 85), some (kI x1), none, some (kI x3)]) ⟨Or.inr rfl, Or.inr rfl, Or.inl rfl, Or.inr rfl, trivial⟩ (b_M_goesUnder_28 x1 x3 0 s _ hf hq)
      · have hf := gift c9 hf
        exact kW_le (L' := [some (kr 85), some (kI x1), none, some (kI x3)]) ⟨Or.inr rfl, Or.inr rfl, Or.inl rfl, Or.inr rfl, trivial⟩ (b_M_goesUnder_25 x1 x3 s _ hf hq)
def f_M_goesUnder_6 (x1 : Int) (x2 : Int) (x3 : Int) (s : kM) : Option (Int) :=
  gL (fun (x : Int × Int) => f_M_goesUnder_6b x1 x.1 x.2 s) gF (x2, x3)
theorem b_M_goesUnder_6 {sc : List Int} {Q : Option kV → kH → Prop} (x1 : Int) (x2 : Int) (x3 : Int) (s : kM) (t : Int) (hf : f_M_goesUnder_6 x1 x2 x3 s = some t) (hq : (fun r => Q (some (kI r)) (hH s)) t) : kW sc 1 kc_M_goesUnder 2 6 [some (kr 85), some (kI x1), some (kI x2), some (kI x3)] [] (hH s) Q :=
  gL_ind (P := fun (x : Int × Int) => kW sc 1 kc_M_goesUnder 2 6 [some (kr 85), some (kI x1), some (kI x.1), some (kI x.2)] [] (hH s) Q) (q := (fun r => Q (some (kI r)) (hH s))) (fun x t hf hq => b_M_goesUnder_6b x1 x.1 x.2 s t hf hq) gF (x2, x3) t hf hq
def f_M_goesUnder (x1 : Int) (s : kM) : Option (Int) :=
  (f_M_beginOf x1 s).bind fun q1 => f_M_goesUnder_6 x1 0 q1 s
set_option maxRecDepth 8000 in
theorem c_M_goesUnder {sc : List Int} (x1 : Int) (s : kM) (t : Int) (hf : f_M_goesUnder x1 s = some t) : kR sc 1 km_M_goesUnder [kr 85, kI x1] (hH s) (some (kI t)) (hH s) := by
  unfold f_M_goesUnder at hf
  refine kR.start rfl ?_
  show kW sc 1 kc_M_goesUnder 2 0 [some (kr 85), some (kI x1), none, none] [] (hH s) _
  have hq : (fun (r : Option kV) (g : kH) => r = some (kI t) ∧ g = hH s) (some (kI t)) (hH s) := ⟨rfl, rfl⟩
  refine kw_step rfl rfl rfl rfl ?_
  refine kw_step (L' := [some (kr 85), some (kI x1), some (kI 0), none]) rfl rfl rfl rfl ?_
  refine kw_step rfl rfl rfl rfl ?_
  refine kw_step rfl rfl rfl rfl ?_
  obtain ⟨q1, hq1, hf⟩ := gbind hf
  refine kw_callV (vs := [kI x1]) rfl rfl rfl ⟨rfl, Nat.le_of_ble_eq_true rfl, Nat.le_of_ble_eq_true rfl, by decide⟩ (hH_O (rfl : kotab 85 = some kMo)) (c_M_beginOf x1 s _ hq1) (Nat.le_of_ble_eq_true rfl) ?_
  refine kw_step (L' := [some (kr 85), some (kI x1), some (kI 0), some (kI q1)]) rfl rfl rfl rfl ?_
  exact kW_le (L' := [some (kr 85), some (kI x1), some (kI 0), some (kI q1)]) ⟨Or.inr rfl, Or.inr rfl, Or.inr rfl, Or.inr rfl, trivial⟩ (b_M_goesUnder_6 x1 0 q1 s _ hf hq)
def f_M_fillsBows_116 (y1 : Int) (y2 : Int) (s : kM) : Option (kM) :=
  gLet (gU s 85 44 (wI (y1 + y2))) fun s1 => some s1
set_option maxRecDepth 8000 in
theorem b_M_fillsBows_116 {sc : List Int} {Q : Option kV → kH → Prop} (y1 : Int) (y2 : Int) (s : kM) (t : kM) (hf : f_M_fillsBows_116 y1 y2 s = some t) (hq : (fun r => Q none (hH r)) t) : kW sc 2 kc_M_fillsBows 0 116 [none, none, none] [kI y2, kI y1, kr 85] (hH s) Q := by
  unfold f_M_fillsBows_116 at hf
  refine kw_step rfl rfl rfl rfl ?_
  obtain ⟨s1, ee2, hf⟩ := gbL hf
  refine kw_putH rfl (rfl : kotab 85 = some kMo) rfl rfl rfl (Nat.le_of_ble_eq_true rfl) rfl ee2 ?_
  cases hf
  exact kw_ret rfl rfl rfl hq
def f_M_fillsBows_115 (y1 : Int) (s : kM) : Option (kM) :=
  f_M_fillsBows_116 y1 0 s
set_option maxRecDepth 8000 in
theorem b_M_fillsBows_115 {sc : List Int} {Q : Option kV → kH → Prop} (y1 : Int) (s : kM) (t : kM) (hf : f_M_fillsBows_115 y1 s = some t) (hq : (fun r => Q none (hH r)) t) : kW sc 2 kc_M_fillsBows 0 115 [none, none, none] [kI y1, kr 85] (hH s) Q := by
  unfold f_M_fillsBows_115 at hf
  refine kw_step rfl rfl rfl rfl ?_
  exact kW_le (L' := [none, none, none]) ⟨Or.inl rfl, Or.inl rfl, Or.inl rfl, trivial⟩ (b_M_fillsBows_116 y1 0 s _ hf hq)
def f_M_fillsBows_97 (y1 : Int) (y2 : Int) (s : kM) : Option (kM) :=
  gLet (gU s 85 44 (wI (y1 + y2))) fun s1 => if (s1 86 0) ≤ 1 then (f_M_fillsBows_115 (s1 85 44) s1) else (if (s1 86 2) = 0 then (f_M_fillsBows_116 (s1 85 44) 1 s1) else (f_M_fillsBows_115 (s1 85 44) s1))
set_option maxRecDepth 8000 in
theorem b_M_fillsBows_97 {sc : List Int} {Q : Option kV → kH → Prop} (y1 : Int) (y2 : Int) (s : kM) (t : kM) (hf : f_M_fillsBows_97 y1 y2 s = some t) (hq : (fun r => Q none (hH r)) t) : kW sc 2 kc_M_fillsBows 0 97 [some (kr 85), none, none] [kI y2, kI y1, kr 85] (hH s) Q := by
  unfold f_M_fillsBows_97 at hf
  refine kw_step rfl rfl rfl rfl ?_
  obtain ⟨s1, ee2, hf⟩ := gbL hf
  refine kw_putH rfl (rfl : kotab 85 = some kMo) rfl rfl rfl (Nat.le_of_ble_eq_true rfl) rfl ee2 ?_
  refine kw_step rfl rfl rfl rfl ?_
  refine kw_step rfl rfl rfl rfl ?_
  refine kw_get rfl (hH_O (rfl : kotab 85 = some kMo)) rfl ?_
  refine kw_step rfl rfl rfl rfl ?_
  refine kw_get rfl (hH_O (rfl : kotab 85 = some kMo)) rfl ?_
  refine kw_step rfl rfl rfl rfl ?_
  refine kw_iald rfl (hH_A (rfl : ktab 86 = some (0, 6))) (by decide) (by decide) (j := 0) rfl ?_
  refine kw_step rfl rfl rfl rfl ?_
  refine kw_icmp_le rfl rfl (fun c4 => ?_) (fun c4 => ?_)
  · have hf := gift c4 hf
    exact kW_le (L' := [none, none, none]) ⟨Or.inl rfl, Or.inl rfl, Or.inl rfl, trivial⟩ (b_M_fillsBows_115 (s1 85 44) s1 _ hf hq)
  · have hf := giff c4 hf
    refine kw_step rfl rfl rfl rfl ?_
    refine kw_get rfl (hH_O (rfl : kotab 85 = some kMo)) rfl ?_
    refine kw_step rfl rfl rfl rfl ?_
    refine kw_iald rfl (hH_A (rfl : ktab 86 = some (0, 6))) (by decide) (by decide) (j := 2) rfl ?_
    refine kw_if_ne rfl rfl (fun c5 => ?_) (fun c5 => ?_)
    · have hf := giff c5 hf
      exact kW_le (L' := [none, none, none]) ⟨Or.inl rfl, Or.inl rfl, Or.inl rfl, trivial⟩ (b_M_fillsBows_115 (s1 85 44) s1 _ hf hq)
    · have hf := gift c5 hf
      refine kw_step rfl rfl rfl rfl ?_
      refine kw_goto rfl rfl ?_
      exact kW_le (L' := [none, none, none]) ⟨Or.inl rfl, Or.inl rfl, Or.inl rfl, trivial⟩ (b_M_fillsBows_116 (s1 85 44) 1 s1 _ hf hq)
def f_M_fillsBows_96 (y1 : Int) (s : kM) : Option (kM) :=
  f_M_fillsBows_97 y1 0 s
set_option maxRecDepth 8000 in
theorem b_M_fillsBows_96 {sc : List Int} {Q : Option kV → kH → Prop} (y1 : Int) (s : kM) (t : kM) (hf : f_M_fillsBows_96 y1 s = some t) (hq : (fun r => Q none (hH r)) t) : kW sc 2 kc_M_fillsBows 0 96 [some (kr 85), none, none] [kI y1, kr 85] (hH s) Q := by
  unfold f_M_fillsBows_96 at hf
  refine kw_step rfl rfl rfl rfl ?_
  exact kW_le (L' := [some (kr 85), none, none]) ⟨Or.inr rfl, Or.inl rfl, Or.inl rfl, trivial⟩ (b_M_fillsBows_97 y1 0 s _ hf hq)
def f_M_fillsBows_60b (x1 : Int) (x2 : Int) (s : kM) : Option ((Int) ⊕ ((Int × kM) ⊕ (kM))) :=
  (gI 23 x2).bind fun j1 => if (s 115 j1) = (-1) then ((f_M_ahead x2 s).bind fun q11 => some (.inl (q11))) else ((gI 23 x2).bind fun j4 => (gI 22 x1).bind fun j6 => gLet (gU s 114 j6 (s 115 j4)) fun s8 => some (.inr (.inl ((wI (x1 + 1)), s8))))
set_option maxRecDepth 8000 in
theorem b_M_fillsBows_60b {sc : List Int} {Q : Option kV → kH → Prop} (x1 : Int) (x2 : Int) (s : kM) (t : (Int) ⊕ ((Int × kM) ⊕ (kM))) (hf : f_M_fillsBows_60b x1 x2 s = some t) (hq : (gE (fun x => kW sc 2 kc_M_fillsBows 0 60 [some (kr 85), some (kI x1), some (kI x)] [] (hH s) Q) (gE (fun x => kW sc 2 kc_M_fillsBows 0 54 [some (kr 85), some (kI x.1), none] [] (hH x.2) Q) (fun r => Q none (hH r)))) t) : kW sc 2 kc_M_fillsBows 0 60 [some (kr 85), some (kI x1), some (kI x2)] [] (hH s) Q := by
  unfold f_M_fillsBows_60b at hf
  refine kw_step rfl rfl rfl rfl ?_
  refine kw_get rfl (hH_O (rfl : kotab 85 = some kMo)) rfl ?_
  refine kw_step rfl rfl rfl rfl ?_
  obtain ⟨j1, i2, hf⟩ := gbI hf
  refine kw_iald rfl (hH_A (rfl : ktab 115 = some (0, 23))) i2.1 i2.2.1 i2.2.2 ?_
  refine kw_step rfl rfl rfl rfl ?_
  refine kw_icmp_ne rfl rfl (fun c3 => ?_) (fun c3 => ?_)
  · have hf := giff c3 hf
    refine kw_step rfl rfl rfl rfl ?_
    refine kw_get rfl (hH_O (rfl : kotab 85 = some kMo)) rfl ?_
    refine kw_step rfl rfl rfl rfl ?_
    refine kw_step rfl rfl rfl rfl ?_
    refine kw_get rfl (hH_O (rfl : kotab 85 = some kMo)) rfl ?_
    refine kw_step rfl rfl rfl rfl ?_
    obtain ⟨j4, i5, hf⟩ := gbI hf
    refine kw_iald rfl (hH_A (rfl : ktab 115 = some (0, 23))) i5.1 i5.2.1 i5.2.2 ?_
    obtain ⟨j6, i7, hf⟩ := gbI hf
    obtain ⟨s8, ee9, hf⟩ := gbL hf
    refine kw_iastH rfl (rfl : ktab 114 = some (0, 22)) i7.1 i7.2.1 i7.2.2 ee9 ?_
    refine kw_step (L' := [some (kr 85), some (kI (wI (x1 + 1))), some (kI x2)]) rfl rfl rfl rfl ?_
    refine kw_goto rfl rfl ?_
    cases hf
    exact kW_le (L' := [some (kr 85), some (kI (wI (x1 + 1))), none]) ⟨Or.inr rfl, Or.inr rfl, Or.inl rfl, trivial⟩ hq
  · have hf := gift c3 hf
    refine kw_step rfl rfl rfl rfl ?_
    refine kw_step rfl rfl rfl rfl ?_
    obtain ⟨q11, hq11, hf⟩ := gbind hf
    refine kw_callV (vs := [kI x2]) rfl rfl rfl ⟨rfl, Nat.le_of_ble_eq_true rfl, Nat.le_of_ble_eq_true rfl, by decide⟩ (hH_O (rfl : kotab 85 = some kMo)) (c_M_ahead x2 s _ hq11) (Nat.le_of_ble_eq_true rfl) ?_
    refine kw_step (L' := [some (kr 85), some (kI x1), some (kI q11)]) rfl rfl rfl rfl ?_
    refine kw_goto rfl rfl ?_
    cases hf
    exact kW_le (L' := [some (kr 85), some (kI x1), some (kI q11)]) ⟨Or.inr rfl, Or.inr rfl, Or.inr rfl, trivial⟩ hq
def f_M_fillsBows_60 (x1 : Int) (x2 : Int) (s : kM) : Option ((Int × kM) ⊕ (kM)) :=
  gL (fun (x : Int) => f_M_fillsBows_60b x1 x s) gF (x2)
theorem b_M_fillsBows_60 {sc : List Int} {Q : Option kV → kH → Prop} (x1 : Int) (x2 : Int) (s : kM) (t : (Int × kM) ⊕ (kM)) (hf : f_M_fillsBows_60 x1 x2 s = some t) (hq : (gE (fun x => kW sc 2 kc_M_fillsBows 0 54 [some (kr 85), some (kI x.1), none] [] (hH x.2) Q) (fun r => Q none (hH r))) t) : kW sc 2 kc_M_fillsBows 0 60 [some (kr 85), some (kI x1), some (kI x2)] [] (hH s) Q :=
  gL_ind (P := fun (x : Int) => kW sc 2 kc_M_fillsBows 0 60 [some (kr 85), some (kI x1), some (kI x)] [] (hH s) Q) (q := (gE (fun x => kW sc 2 kc_M_fillsBows 0 54 [some (kr 85), some (kI x.1), none] [] (hH x.2) Q) (fun r => Q none (hH r)))) (fun x t hf hq => b_M_fillsBows_60b x1 x s t hf hq) gF (x2) t hf hq
def f_M_fillsBows_54b (x1 : Int) (s : kM) : Option ((Int × kM) ⊕ (kM)) :=
  (f_M_places s).bind fun q1 => if q1 ≤ x1 then (if (s 86 0) ≤ 0 then ((f_M_fillsBows_96 (s 85 44) s).map Sum.inr) else (if (s 86 1) = 0 then ((f_M_fillsBows_97 (s 85 44) 1 s).map Sum.inr) else ((f_M_fillsBows_96 (s 85 44) s).map Sum.inr))) else (f_M_fillsBows_60 x1 x1 s)
set_option maxRecDepth 8000 in
theorem b_M_fillsBows_54b {sc : List Int} {Q : Option kV → kH → Prop} (x1 : Int) (s : kM) (t : (Int × kM) ⊕ (kM)) (hf : f_M_fillsBows_54b x1 s = some t) (hq : (gE (fun x => kW sc 2 kc_M_fillsBows 0 54 [some (kr 85), some (kI x.1), none] [] (hH x.2) Q) (fun r => Q none (hH r))) t) : kW sc 2 kc_M_fillsBows 0 54 [some (kr 85), some (kI x1), none] [] (hH s) Q := by
  unfold f_M_fillsBows_54b at hf
  refine kw_step rfl rfl rfl rfl ?_
  refine kw_step rfl rfl rfl rfl ?_
  obtain ⟨q1, hq1, hf⟩ := gbind hf
  refine kw_callV (vs := []) rfl rfl rfl ⟨rfl, Nat.le_of_ble_eq_true rfl, Nat.le_of_ble_eq_true rfl, by decide⟩ (hH_O (rfl : kotab 85 = some kMo)) (c_M_places s _ hq1) (Nat.le_of_ble_eq_true rfl) ?_
  refine kw_icmp_ge rfl rfl (fun c2 => ?_) (fun c2 => ?_)
  · have hf := gift c2 hf
    refine kw_step rfl rfl rfl rfl ?_
    refine kw_step rfl rfl rfl rfl ?_
    refine kw_get rfl (hH_O (rfl : kotab 85 = some kMo)) rfl ?_
    refine kw_step rfl rfl rfl rfl ?_
    refine kw_get rfl (hH_O (rfl : kotab 85 = some kMo)) rfl ?_
    refine kw_step rfl rfl rfl rfl ?_
    refine kw_iald rfl (hH_A (rfl : ktab 86 = some (0, 6))) (by decide) (by decide) (j := 0) rfl ?_
    refine kw_if_le rfl rfl (fun c3 => ?_) (fun c3 => ?_)
    · have hf := gift c3 hf
      obtain ⟨t4, hg5, rfl⟩ := gmap hf
      exact kW_le (L' := [some (kr 85), none, none]) ⟨Or.inr rfl, Or.inl rfl, Or.inl rfl, trivial⟩ (b_M_fillsBows_96 (s 85 44) s _ hg5 hq)
    · have hf := giff c3 hf
      refine kw_step rfl rfl rfl rfl ?_
      refine kw_get rfl (hH_O (rfl : kotab 85 = some kMo)) rfl ?_
      refine kw_step rfl rfl rfl rfl ?_
      refine kw_iald rfl (hH_A (rfl : ktab 86 = some (0, 6))) (by decide) (by decide) (j := 1) rfl ?_
      refine kw_if_ne rfl rfl (fun c6 => ?_) (fun c6 => ?_)
      · have hf := giff c6 hf
        obtain ⟨t7, hg8, rfl⟩ := gmap hf
        exact kW_le (L' := [some (kr 85), none, none]) ⟨Or.inr rfl, Or.inl rfl, Or.inl rfl, trivial⟩ (b_M_fillsBows_96 (s 85 44) s _ hg8 hq)
      · have hf := gift c6 hf
        refine kw_step rfl rfl rfl rfl ?_
        refine kw_goto rfl rfl ?_
        obtain ⟨t9, hg10, rfl⟩ := gmap hf
        exact kW_le (L' := [some (kr 85), none, none]) ⟨Or.inr rfl, Or.inl rfl, Or.inl rfl, trivial⟩ (b_M_fillsBows_97 (s 85 44) 1 s _ hg10 hq)
  · have hf := giff c2 hf
    refine kw_step rfl rfl rfl rfl ?_
    refine kw_step (L' := [some (kr 85), some (kI x1), some (kI x1)]) rfl rfl rfl rfl ?_
    exact kW_le (L' := [some (kr 85), some (kI x1), some (kI x1)]) ⟨Or.inr rfl, Or.inr rfl, Or.inr rfl, trivial⟩ (b_M_fillsBows_60 x1 x1 s _ hf hq)
def f_M_fillsBows_54 (x1 : Int) (s : kM) : Option (kM) :=
  gL (fun (x : Int × kM) => f_M_fillsBows_54b x.1 x.2) gF (x1, s)
theorem b_M_fillsBows_54 {sc : List Int} {Q : Option kV → kH → Prop} (x1 : Int) (s : kM) (t : kM) (hf : f_M_fillsBows_54 x1 s = some t) (hq : (fun r => Q none (hH r)) t) : kW sc 2 kc_M_fillsBows 0 54 [some (kr 85), some (kI x1), none] [] (hH s) Q :=
  gL_ind (P := fun (x : Int × kM) => kW sc 2 kc_M_fillsBows 0 54 [some (kr 85), some (kI x.1), none] [] (hH x.2) Q) (q := (fun r => Q none (hH r))) (fun x t hf hq => b_M_fillsBows_54b x.1 x.2 t hf hq) gF (x1, s) t hf hq
def f_M_fillsBows_50 (x1 : Int) (s : kM) : Option ((Int × kM) ⊕ (kM)) :=
  some (.inl ((wI (x1 + 1)), s))
set_option maxRecDepth 8000 in
theorem b_M_fillsBows_50 {sc : List Int} {Q : Option kV → kH → Prop} (x1 : Int) (s : kM) (t : (Int × kM) ⊕ (kM)) (hf : f_M_fillsBows_50 x1 s = some t) (hq : (gE (fun x => kW sc 2 kc_M_fillsBows 0 5 [some (kr 85), some (kI x.1), none] [] (hH x.2) Q) (fun r => Q none (hH r))) t) : kW sc 2 kc_M_fillsBows 0 50 [some (kr 85), some (kI x1), none] [] (hH s) Q := by
  unfold f_M_fillsBows_50 at hf
  refine kw_step (L' := [some (kr 85), some (kI (wI (x1 + 1))), none]) rfl rfl rfl rfl ?_
  refine kw_goto rfl rfl ?_
  cases hf
  exact kW_le (L' := [some (kr 85), some (kI (wI (x1 + 1))), none]) ⟨Or.inr rfl, Or.inr rfl, Or.inl rfl, trivial⟩ hq
def f_M_fillsBows_38 (x1 : Int) (s : kM) : Option ((Int × kM) ⊕ (kM)) :=
  (gI 23 x1).bind fun j1 => gLet (gU s 115 j1 (s 85 44)) fun s3 => gLet (gU s3 85 44 (wI ((s3 85 44) + 1))) fun s6 => f_M_fillsBows_50 x1 s6
set_option maxRecDepth 8000 in
theorem b_M_fillsBows_38 {sc : List Int} {Q : Option kV → kH → Prop} (x1 : Int) (s : kM) (t : (Int × kM) ⊕ (kM)) (hf : f_M_fillsBows_38 x1 s = some t) (hq : (gE (fun x => kW sc 2 kc_M_fillsBows 0 5 [some (kr 85), some (kI x.1), none] [] (hH x.2) Q) (fun r => Q none (hH r))) t) : kW sc 2 kc_M_fillsBows 0 38 [some (kr 85), some (kI x1), none] [] (hH s) Q := by
  unfold f_M_fillsBows_38 at hf
  refine kw_step rfl rfl rfl rfl ?_
  refine kw_get rfl (hH_O (rfl : kotab 85 = some kMo)) rfl ?_
  refine kw_step rfl rfl rfl rfl ?_
  refine kw_step rfl rfl rfl rfl ?_
  refine kw_get rfl (hH_O (rfl : kotab 85 = some kMo)) rfl ?_
  obtain ⟨j1, i2, hf⟩ := gbI hf
  obtain ⟨s3, ee4, hf⟩ := gbL hf
  refine kw_iastH rfl (rfl : ktab 115 = some (0, 23)) i2.1 i2.2.1 i2.2.2 ee4 ?_
  refine kw_step rfl rfl rfl rfl ?_
  refine kw_step rfl rfl rfl rfl ?_
  refine kw_get rfl (hH_O (rfl : kotab 85 = some kMo)) rfl ?_
  refine kw_step rfl rfl rfl rfl ?_
  refine kw_step rfl rfl rfl rfl ?_
  obtain ⟨s6, ee7, hf⟩ := gbL hf
  refine kw_putH rfl (rfl : kotab 85 = some kMo) rfl rfl rfl (Nat.le_of_ble_eq_true rfl) rfl ee7 ?_
  exact kW_le (L' := [some (kr 85), some (kI x1), none]) ⟨Or.inr rfl, Or.inr rfl, Or.inl rfl, trivial⟩ (b_M_fillsBows_50 x1 s6 _ hf hq)
def f_M_fillsBows_19 (x1 : Int) (y0 : Int) (s : kM) : Option ((Int × kM) ⊕ (kM)) :=
  (gI 23 x1).bind fun j1 => gLet (gU s 115 j1 (-1)) fun s3 => (gI 22 x1).bind fun j6 => if (s3 88 j6) = 0 then (f_M_fillsBows_38 x1 s3) else (if y0 = 0 then (f_M_fillsBows_50 x1 s3) else ((f_M_roadOf x1 s3).bind fun q10 => (f_M_goesUnder q10 s3).bind fun q11 => if q11 = 0 then (f_M_fillsBows_38 x1 s3) else (f_M_fillsBows_50 x1 s3)))
set_option maxRecDepth 8000 in
theorem b_M_fillsBows_19 {sc : List Int} {Q : Option kV → kH → Prop} (x1 : Int) (y0 : Int) (s : kM) (t : (Int × kM) ⊕ (kM)) (hf : f_M_fillsBows_19 x1 y0 s = some t) (hq : (gE (fun x => kW sc 2 kc_M_fillsBows 0 5 [some (kr 85), some (kI x.1), none] [] (hH x.2) Q) (fun r => Q none (hH r))) t) : kW sc 2 kc_M_fillsBows 0 19 [some (kr 85), some (kI x1), none] [kI y0] (hH s) Q := by
  unfold f_M_fillsBows_19 at hf
  refine kw_step (L' := [some (kr 85), some (kI x1), some (kI y0)]) rfl rfl rfl rfl ?_
  refine kw_step rfl rfl rfl rfl ?_
  refine kw_get rfl (hH_O (rfl : kotab 85 = some kMo)) rfl ?_
  refine kw_step rfl rfl rfl rfl ?_
  refine kw_step rfl rfl rfl rfl ?_
  obtain ⟨j1, i2, hf⟩ := gbI hf
  obtain ⟨s3, ee4, hf⟩ := gbL hf
  refine kw_iastH rfl (rfl : ktab 115 = some (0, 23)) i2.1 i2.2.1 i2.2.2 ee4 ?_
  refine kw_step rfl rfl rfl rfl ?_
  refine kw_get rfl (hH_O (rfl : kotab 85 = some kMo)) rfl ?_
  refine kw_step rfl rfl rfl rfl ?_
  obtain ⟨j6, i7, hf⟩ := gbI hf
  refine kw_iald rfl (hH_A (rfl : ktab 88 = some (0, 22))) i7.1 i7.2.1 i7.2.2 ?_
  refine kw_if_eq rfl rfl (fun c8 => ?_) (fun c8 => ?_)
  · have hf := gift c8 hf
    exact kW_le (L' := [some (kr 85), some (kI x1), none]) ⟨Or.inr rfl, Or.inr rfl, Or.inl rfl, trivial⟩ (b_M_fillsBows_38 x1 s3 _ hf hq)
  · have hf := giff c8 hf
    refine kw_step rfl rfl rfl rfl ?_
    refine kw_if_eq rfl rfl (fun c9 => ?_) (fun c9 => ?_)
    · have hf := gift c9 hf
      exact kW_le (L' := [some (kr 85), some (kI x1), none]) ⟨Or.inr rfl, Or.inr rfl, Or.inl rfl, trivial⟩ (b_M_fillsBows_50 x1 s3 _ hf hq)
    · have hf := giff c9 hf
      refine kw_step rfl rfl rfl rfl ?_
      refine kw_step rfl rfl rfl rfl ?_
      refine kw_step rfl rfl rfl rfl ?_
      obtain ⟨q10, hq10, hf⟩ := gbind hf
      refine kw_callV (vs := [kI x1]) rfl rfl rfl ⟨rfl, Nat.le_of_ble_eq_true rfl, Nat.le_of_ble_eq_true rfl, by decide⟩ (hH_O (rfl : kotab 85 = some kMo)) (c_M_roadOf x1 s3 _ hq10) (Nat.le_of_ble_eq_true rfl) ?_
      obtain ⟨q11, hq11, hf⟩ := gbind hf
      refine kw_callV (vs := [kI q10]) rfl rfl rfl ⟨rfl, Nat.le_of_ble_eq_true rfl, Nat.le_of_ble_eq_true rfl, by decide⟩ (hH_O (rfl : kotab 85 = some kMo)) (c_M_goesUnder q10 s3 _ hq11) (Nat.le_of_ble_eq_true rfl) ?_
      refine kw_if_ne rfl rfl (fun c12 => ?_) (fun c12 => ?_)
      · have hf := giff c12 hf
        exact kW_le (L' := [some (kr 85), some (kI x1), none]) ⟨Or.inr rfl, Or.inr rfl, Or.inl rfl, trivial⟩ (b_M_fillsBows_50 x1 s3 _ hf hq)
      · have hf := gift c12 hf
        exact kW_le (L' := [some (kr 85), some (kI x1), none]) ⟨Or.inr rfl, Or.inr rfl, Or.inl rfl, trivial⟩ (b_M_fillsBows_38 x1 s3 _ hf hq)
def f_M_fillsBows_5b (x1 : Int) (s : kM) : Option ((Int × kM) ⊕ (kM)) :=
  (f_M_places s).bind fun q1 => if q1 ≤ x1 then ((f_M_fillsBows_54 0 s).map Sum.inr) else ((f_M_roadOf x1 s).bind fun q5 => (f_M_beginOf q5 s).bind fun q6 => if x1 = q6 then (f_M_fillsBows_19 x1 1 s) else (f_M_fillsBows_19 x1 0 s))
set_option maxRecDepth 8000 in
theorem b_M_fillsBows_5b {sc : List Int} {Q : Option kV → kH → Prop} (x1 : Int) (s : kM) (t : (Int × kM) ⊕ (kM)) (hf : f_M_fillsBows_5b x1 s = some t) (hq : (gE (fun x => kW sc 2 kc_M_fillsBows 0 5 [some (kr 85), some (kI x.1), none] [] (hH x.2) Q) (fun r => Q none (hH r))) t) : kW sc 2 kc_M_fillsBows 0 5 [some (kr 85), some (kI x1), none] [] (hH s) Q := by
  unfold f_M_fillsBows_5b at hf
  refine kw_step rfl rfl rfl rfl ?_
  refine kw_step rfl rfl rfl rfl ?_
  obtain ⟨q1, hq1, hf⟩ := gbind hf
  refine kw_callV (vs := []) rfl rfl rfl ⟨rfl, Nat.le_of_ble_eq_true rfl, Nat.le_of_ble_eq_true rfl, by decide⟩ (hH_O (rfl : kotab 85 = some kMo)) (c_M_places s _ hq1) (Nat.le_of_ble_eq_true rfl) ?_
  refine kw_icmp_ge rfl rfl (fun c2 => ?_) (fun c2 => ?_)
  · have hf := gift c2 hf
    refine kw_step rfl rfl rfl rfl ?_
    refine kw_step (L' := [some (kr 85), some (kI 0), none]) rfl rfl rfl rfl ?_
    obtain ⟨t3, hg4, rfl⟩ := gmap hf
    exact kW_le (L' := [some (kr 85), some (kI 0), none]) ⟨Or.inr rfl, Or.inr rfl, Or.inl rfl, trivial⟩ (b_M_fillsBows_54 0 s _ hg4 hq)
  · have hf := giff c2 hf
    refine kw_step rfl rfl rfl rfl ?_
    refine kw_step rfl rfl rfl rfl ?_
    refine kw_step rfl rfl rfl rfl ?_
    refine kw_step rfl rfl rfl rfl ?_
    obtain ⟨q5, hq5, hf⟩ := gbind hf
    refine kw_callV (vs := [kI x1]) rfl rfl rfl ⟨rfl, Nat.le_of_ble_eq_true rfl, Nat.le_of_ble_eq_true rfl, by decide⟩ (hH_O (rfl : kotab 85 = some kMo)) (c_M_roadOf x1 s _ hq5) (Nat.le_of_ble_eq_true rfl) ?_
    obtain ⟨q6, hq6, hf⟩ := gbind hf
    refine kw_callV (vs := [kI q5]) rfl rfl rfl ⟨rfl, Nat.le_of_ble_eq_true rfl, Nat.le_of_ble_eq_true rfl, by decide⟩ (hH_O (rfl : kotab 85 = some kMo)) (c_M_beginOf q5 s _ hq6) (Nat.le_of_ble_eq_true rfl) ?_
    refine kw_icmp_ne rfl rfl (fun c7 => ?_) (fun c7 => ?_)
    · have hf := giff c7 hf
      refine kw_step rfl rfl rfl rfl ?_
      exact kW_le (L' := [some (kr 85), some (kI x1), none]) ⟨Or.inr rfl, Or.inr rfl, Or.inl rfl, trivial⟩ (b_M_fillsBows_19 x1 0 s _ hf hq)
    · have hf := gift c7 hf
      refine kw_step rfl rfl rfl rfl ?_
      refine kw_goto rfl rfl ?_
      exact kW_le (L' := [some (kr 85), some (kI x1), none]) ⟨Or.inr rfl, Or.inr rfl, Or.inl rfl, trivial⟩ (b_M_fillsBows_19 x1 1 s _ hf hq)
def f_M_fillsBows_5 (x1 : Int) (s : kM) : Option (kM) :=
  gL (fun (x : Int × kM) => f_M_fillsBows_5b x.1 x.2) gF (x1, s)
theorem b_M_fillsBows_5 {sc : List Int} {Q : Option kV → kH → Prop} (x1 : Int) (s : kM) (t : kM) (hf : f_M_fillsBows_5 x1 s = some t) (hq : (fun r => Q none (hH r)) t) : kW sc 2 kc_M_fillsBows 0 5 [some (kr 85), some (kI x1), none] [] (hH s) Q :=
  gL_ind (P := fun (x : Int × kM) => kW sc 2 kc_M_fillsBows 0 5 [some (kr 85), some (kI x.1), none] [] (hH x.2) Q) (q := (fun r => Q none (hH r))) (fun x t hf hq => b_M_fillsBows_5b x.1 x.2 t hf hq) gF (x1, s) t hf hq
def f_M_fillsBows (s : kM) : Option (kM) :=
  gLet (gU s 85 44 0) fun s1 => f_M_fillsBows_5 0 s1
set_option maxRecDepth 8000 in
theorem c_M_fillsBows {sc : List Int} (s : kM) (t : kM) (hf : f_M_fillsBows s = some t) : kR sc 2 km_M_fillsBows [kr 85] (hH s) none (hH t) := by
  unfold f_M_fillsBows at hf
  refine kR.start rfl ?_
  show kW sc 2 kc_M_fillsBows 0 0 [some (kr 85), none, none] [] (hH s) _
  have hq : (fun (r : Option kV) (g : kH) => r = none ∧ g = hH t) none (hH t) := ⟨rfl, rfl⟩
  refine kw_step rfl rfl rfl rfl ?_
  refine kw_step rfl rfl rfl rfl ?_
  obtain ⟨s1, ee2, hf⟩ := gbL hf
  refine kw_putH rfl (rfl : kotab 85 = some kMo) rfl rfl rfl (Nat.le_of_ble_eq_true rfl) rfl ee2 ?_
  refine kw_step rfl rfl rfl rfl ?_
  refine kw_step (L' := [some (kr 85), some (kI 0), none]) rfl rfl rfl rfl ?_
  exact kW_le (L' := [some (kr 85), some (kI 0), none]) ⟨Or.inr rfl, Or.inr rfl, Or.inl rfl, trivial⟩ (b_M_fillsBows_5 0 s1 _ hf hq)
def f_M_place (x1 : Int) (x2 : Int) (s : kM) : Option (Int × kM) :=
  (f_M_isPlace x1 s).bind fun q1 => if q1 = 0 then (some ((-1), s)) else (if x2 = 0 then ((gI 22 x1).bind fun j4 => some ((s 87 j4), s)) else if x2 = 1 then ((gI 22 x1).bind fun j7 => some ((s 88 j7), s)) else if x2 = 2 then ((f_M_roadOf x1 s).bind fun q10 => some (q10, s)) else if x2 = 3 then ((f_M_next x1 s).bind fun q12 => some (q12, s)) else if x2 = 4 then ((f_M_fillsBows s).bind fun q14 => (gI 22 x1).bind fun j16 => some ((q14 114 j16), q14)) else (some ((-1), s)))
set_option maxRecDepth 8000 in
theorem c_M_place {sc : List Int} (x1 : Int) (x2 : Int) (s : kM) (t : Int × kM) (hf : f_M_place x1 x2 s = some t) : kR sc 3 km_M_place [kr 85, kI x1, kI x2] (hH s) (some (kI t.1)) (hH t.2) := by
  unfold f_M_place at hf
  refine kR.start rfl ?_
  show kW sc 3 kc_M_place 1 0 [some (kr 85), some (kI x1), some (kI x2)] [] (hH s) _
  have hq : (fun (r : Option kV) (g : kH) => r = some (kI t.1) ∧ g = hH t.2) (some (kI t.1)) (hH t.2) := ⟨rfl, rfl⟩
  refine kw_step rfl rfl rfl rfl ?_
  refine kw_step rfl rfl rfl rfl ?_
  obtain ⟨q1, hq1, hf⟩ := gbind hf
  refine kw_callV (vs := [kI x1]) rfl rfl rfl ⟨rfl, Nat.le_of_ble_eq_true rfl, Nat.le_of_ble_eq_true rfl, by decide⟩ (hH_O (rfl : kotab 85 = some kMo)) (c_M_isPlace x1 s _ hq1) (Nat.le_of_ble_eq_true rfl) ?_
  refine kw_if_ne rfl rfl (fun c2 => ?_) (fun c2 => ?_)
  · have hf := giff c2 hf
    refine kw_step rfl rfl rfl rfl ?_
    by_cases c3 : x2 = 0
    · have hf := gift c3 hf
      refine kw_tsw_at rfl c3 rfl rfl rfl ?_
      refine kw_step rfl rfl rfl rfl ?_
      refine kw_get rfl (hH_O (rfl : kotab 85 = some kMo)) rfl ?_
      refine kw_step rfl rfl rfl rfl ?_
      obtain ⟨j4, i5, hf⟩ := gbI hf
      refine kw_iald rfl (hH_A (rfl : ktab 87 = some (0, 22))) i5.1 i5.2.1 i5.2.2 ?_
      cases hf
      exact kw_ret rfl rfl rfl hq
    have hf := giff c3 hf
    by_cases c6 : x2 = 1
    · have hf := gift c6 hf
      refine kw_tsw_at rfl c6 rfl rfl rfl ?_
      refine kw_step rfl rfl rfl rfl ?_
      refine kw_get rfl (hH_O (rfl : kotab 85 = some kMo)) rfl ?_
      refine kw_step rfl rfl rfl rfl ?_
      obtain ⟨j7, i8, hf⟩ := gbI hf
      refine kw_iald rfl (hH_A (rfl : ktab 88 = some (0, 22))) i8.1 i8.2.1 i8.2.2 ?_
      cases hf
      exact kw_ret rfl rfl rfl hq
    have hf := giff c6 hf
    by_cases c9 : x2 = 2
    · have hf := gift c9 hf
      refine kw_tsw_at rfl c9 rfl rfl rfl ?_
      refine kw_step rfl rfl rfl rfl ?_
      refine kw_step rfl rfl rfl rfl ?_
      obtain ⟨q10, hq10, hf⟩ := gbind hf
      refine kw_callV (vs := [kI x1]) rfl rfl rfl ⟨rfl, Nat.le_of_ble_eq_true rfl, Nat.le_of_ble_eq_true rfl, by decide⟩ (hH_O (rfl : kotab 85 = some kMo)) (c_M_roadOf x1 s _ hq10) (Nat.le_of_ble_eq_true rfl) ?_
      cases hf
      exact kw_ret rfl rfl rfl hq
    have hf := giff c9 hf
    by_cases c11 : x2 = 3
    · have hf := gift c11 hf
      refine kw_tsw_at rfl c11 rfl rfl rfl ?_
      refine kw_step rfl rfl rfl rfl ?_
      refine kw_step rfl rfl rfl rfl ?_
      obtain ⟨q12, hq12, hf⟩ := gbind hf
      refine kw_callV (vs := [kI x1]) rfl rfl rfl ⟨rfl, Nat.le_of_ble_eq_true rfl, Nat.le_of_ble_eq_true rfl, by decide⟩ (hH_O (rfl : kotab 85 = some kMo)) (c_M_next x1 s _ hq12) (Nat.le_of_ble_eq_true rfl) ?_
      cases hf
      exact kw_ret rfl rfl rfl hq
    have hf := giff c11 hf
    by_cases c13 : x2 = 4
    · have hf := gift c13 hf
      refine kw_tsw_at rfl c13 rfl rfl rfl ?_
      refine kw_step rfl rfl rfl rfl ?_
      obtain ⟨q14, hq14, hf⟩ := gbind hf
      refine kw_callV (vs := []) rfl rfl rfl ⟨rfl, Nat.le_of_ble_eq_true rfl, Nat.le_of_ble_eq_true rfl, by decide⟩ (hH_O (rfl : kotab 85 = some kMo)) (c_M_fillsBows s _ hq14) (Nat.le_of_ble_eq_true rfl) ?_
      refine kw_step rfl rfl rfl rfl ?_
      refine kw_get rfl (hH_O (rfl : kotab 85 = some kMo)) rfl ?_
      refine kw_step rfl rfl rfl rfl ?_
      obtain ⟨j16, i17, hf⟩ := gbI hf
      refine kw_iald rfl (hH_A (rfl : ktab 114 = some (0, 22))) i17.1 i17.2.1 i17.2.2 ?_
      cases hf
      exact kw_ret rfl rfl rfl hq
    have hf := giff c13 hf
    refine kw_tsw_out rfl (by omega) rfl ?_
    refine kw_step rfl rfl rfl rfl ?_
    cases hf
    exact kw_ret rfl rfl rfl hq
  · have hf := gift c2 hf
    refine kw_step rfl rfl rfl rfl ?_
    cases hf
    exact kw_ret rfl rfl rfl hq
def f_M_bridge (x1 : Int) (x2 : Int) (s : kM) : Option (Int) :=
  (f_M_isBridge x1 s).bind fun q1 => if q1 = 0 then (some (-1)) else (if x2 = 0 then ((gI 11 x1).bind fun j4 => some (s 89 j4)) else if x2 = 1 then ((gI 11 x1).bind fun j7 => some (s 98 j7)) else if x2 = 2 then ((gI 11 x1).bind fun j10 => some (s 99 j10)) else (some (-1)))
set_option maxRecDepth 8000 in
theorem c_M_bridge {sc : List Int} (x1 : Int) (x2 : Int) (s : kM) (t : Int) (hf : f_M_bridge x1 x2 s = some t) : kR sc 2 km_M_bridge [kr 85, kI x1, kI x2] (hH s) (some (kI t)) (hH s) := by
  unfold f_M_bridge at hf
  refine kR.start rfl ?_
  show kW sc 2 kc_M_bridge 1 0 [some (kr 85), some (kI x1), some (kI x2)] [] (hH s) _
  have hq : (fun (r : Option kV) (g : kH) => r = some (kI t) ∧ g = hH s) (some (kI t)) (hH s) := ⟨rfl, rfl⟩
  refine kw_step rfl rfl rfl rfl ?_
  refine kw_step rfl rfl rfl rfl ?_
  obtain ⟨q1, hq1, hf⟩ := gbind hf
  refine kw_callV (vs := [kI x1]) rfl rfl rfl ⟨rfl, Nat.le_of_ble_eq_true rfl, Nat.le_of_ble_eq_true rfl, by decide⟩ (hH_O (rfl : kotab 85 = some kMo)) (c_M_isBridge x1 s _ hq1) (Nat.le_of_ble_eq_true rfl) ?_
  refine kw_if_ne rfl rfl (fun c2 => ?_) (fun c2 => ?_)
  · have hf := giff c2 hf
    refine kw_step rfl rfl rfl rfl ?_
    by_cases c3 : x2 = 0
    · have hf := gift c3 hf
      refine kw_tsw_at rfl c3 rfl rfl rfl ?_
      refine kw_step rfl rfl rfl rfl ?_
      refine kw_get rfl (hH_O (rfl : kotab 85 = some kMo)) rfl ?_
      refine kw_step rfl rfl rfl rfl ?_
      obtain ⟨j4, i5, hf⟩ := gbI hf
      refine kw_iald rfl (hH_A (rfl : ktab 89 = some (0, 11))) i5.1 i5.2.1 i5.2.2 ?_
      cases hf
      exact kw_ret rfl rfl rfl hq
    have hf := giff c3 hf
    by_cases c6 : x2 = 1
    · have hf := gift c6 hf
      refine kw_tsw_at rfl c6 rfl rfl rfl ?_
      refine kw_step rfl rfl rfl rfl ?_
      refine kw_get rfl (hH_O (rfl : kotab 85 = some kMo)) rfl ?_
      refine kw_step rfl rfl rfl rfl ?_
      obtain ⟨j7, i8, hf⟩ := gbI hf
      refine kw_iald rfl (hH_A (rfl : ktab 98 = some (0, 11))) i8.1 i8.2.1 i8.2.2 ?_
      cases hf
      exact kw_ret rfl rfl rfl hq
    have hf := giff c6 hf
    by_cases c9 : x2 = 2
    · have hf := gift c9 hf
      refine kw_tsw_at rfl c9 rfl rfl rfl ?_
      refine kw_step rfl rfl rfl rfl ?_
      refine kw_get rfl (hH_O (rfl : kotab 85 = some kMo)) rfl ?_
      refine kw_step rfl rfl rfl rfl ?_
      obtain ⟨j10, i11, hf⟩ := gbI hf
      refine kw_iald rfl (hH_A (rfl : ktab 99 = some (0, 11))) i11.1 i11.2.1 i11.2.2 ?_
      cases hf
      exact kw_ret rfl rfl rfl hq
    have hf := giff c9 hf
    refine kw_tsw_out rfl (by omega) rfl ?_
    refine kw_step rfl rfl rfl rfl ?_
    cases hf
    exact kw_ret rfl rfl rfl hq
  · have hf := gift c2 hf
    refine kw_step rfl rfl rfl rfl ?_
    cases hf
    exact kw_ret rfl rfl rfl hq
def f_M_isTown (s : kM) : Option (Int) :=
  if (s 86 0) ≤ 0 then (some 0) else (some 1)
set_option maxRecDepth 8000 in
theorem c_M_isTown {sc : List Int} (s : kM) (t : Int) (hf : f_M_isTown s = some t) : kR sc 0 km_M_isTown [kr 85] (hH s) (some (kI t)) (hH s) := by
  unfold f_M_isTown at hf
  refine kR.start rfl ?_
  show kW sc 0 kc_M_isTown 2 0 [some (kr 85)] [] (hH s) _
  have hq : (fun (r : Option kV) (g : kH) => r = some (kI t) ∧ g = hH s) (some (kI t)) (hH s) := ⟨rfl, rfl⟩
  refine kw_step rfl rfl rfl rfl ?_
  refine kw_get rfl (hH_O (rfl : kotab 85 = some kMo)) rfl ?_
  refine kw_step rfl rfl rfl rfl ?_
  refine kw_iald rfl (hH_A (rfl : ktab 86 = some (0, 6))) (by decide) (by decide) (j := 0) rfl ?_
  refine kw_if_le rfl rfl (fun c1 => ?_) (fun c1 => ?_)
  · have hf := gift c1 hf
    refine kw_step rfl rfl rfl rfl ?_
    cases hf
    exact kw_ret rfl rfl rfl hq
  · have hf := giff c1 hf
    refine kw_step rfl rfl rfl rfl ?_
    refine kw_goto rfl rfl ?_
    cases hf
    exact kw_ret rfl rfl rfl hq
def f_M_land_46 (x1 : Int) (x2 : Int) (x4 : Int) (y0 : Int) (y1 : Int) (s : kM) : Option ((Int × Int × Int) ⊕ (Int × kM)) :=
  some (.inl (x2, (wI (y0 + y1)), (wI (x4 + 1))))
set_option maxRecDepth 8000 in
theorem b_M_land_46 {sc : List Int} {Q : Option kV → kH → Prop} (x1 : Int) (x2 : Int) (x4 : Int) (y0 : Int) (y1 : Int) (s : kM) (t : (Int × Int × Int) ⊕ (Int × kM)) (hf : f_M_land_46 x1 x2 x4 y0 y1 s = some t) (hq : (gE (fun x => kW sc 3 kc_M_land 1 19 [some (kr 85), some (kI x1), some (kI x.1), some (kI x.2.1), some (kI x.2.2)] [] (hH s) Q) (fun r => Q (some (kI r.1)) (hH r.2))) t) : kW sc 3 kc_M_land 1 46 [some (kr 85), some (kI x1), some (kI x2), none, some (kI x4)] [kI y1, kI y0] (hH s) Q := by
  unfold f_M_land_46 at hf
  refine kw_step rfl rfl rfl rfl ?_
  refine kw_step (L' := [some (kr 85), some (kI x1), some (kI x2), some (kI (wI (y0 + y1))), some (kI x4)]) rfl rfl rfl rfl ?_
  refine kw_step (L' := [some (kr 85), some (kI x1), some (kI x2), some (kI (wI (y0 + y1))), some (kI (wI (x4 + 1)))]) rfl rfl rfl rfl ?_
  refine kw_goto rfl rfl ?_
  cases hf
  exact kW_le (L' := [some (kr 85), some (kI x1), some (kI x2), some (kI (wI (y0 + y1))), some (kI (wI (x4 + 1)))]) ⟨Or.inr rfl, Or.inr rfl, Or.inr rfl, Or.inr rfl, Or.inr rfl, trivial⟩ hq
def f_M_land_35 (x1 : Int) (x3 : Int) (x4 : Int) (y0 : Int) (s : kM) : Option ((Int × Int × Int) ⊕ (Int × kM)) :=
  (gI 44 x4).bind fun j1 => if (s 102 j1) = x1 then (f_M_land_46 x1 y0 x4 x3 1 s) else (f_M_land_46 x1 y0 x4 x3 0 s)
set_option maxRecDepth 8000 in
theorem b_M_land_35 {sc : List Int} {Q : Option kV → kH → Prop} (x1 : Int) (x3 : Int) (x4 : Int) (y0 : Int) (s : kM) (t : (Int × Int × Int) ⊕ (Int × kM)) (hf : f_M_land_35 x1 x3 x4 y0 s = some t) (hq : (gE (fun x => kW sc 3 kc_M_land 1 19 [some (kr 85), some (kI x1), some (kI x.1), some (kI x.2.1), some (kI x.2.2)] [] (hH s) Q) (fun r => Q (some (kI r.1)) (hH r.2))) t) : kW sc 3 kc_M_land 1 35 [some (kr 85), some (kI x1), none, some (kI x3), some (kI x4)] [kI y0] (hH s) Q := by
  unfold f_M_land_35 at hf
  refine kw_step (L' := [some (kr 85), some (kI x1), some (kI y0), some (kI x3), some (kI x4)]) rfl rfl rfl rfl ?_
  refine kw_step rfl rfl rfl rfl ?_
  refine kw_step rfl rfl rfl rfl ?_
  refine kw_get rfl (hH_O (rfl : kotab 85 = some kMo)) rfl ?_
  refine kw_step rfl rfl rfl rfl ?_
  obtain ⟨j1, i2, hf⟩ := gbI hf
  refine kw_iald rfl (hH_A (rfl : ktab 102 = some (0, 44))) i2.1 i2.2.1 i2.2.2 ?_
  refine kw_step rfl rfl rfl rfl ?_
  refine kw_icmp_ne rfl rfl (fun c3 => ?_) (fun c3 => ?_)
  · have hf := giff c3 hf
    refine kw_step rfl rfl rfl rfl ?_
    exact kW_le (L' := [some (kr 85), some (kI x1), some (kI y0), none, some (kI x4)]) ⟨Or.inr rfl, Or.inr rfl, Or.inr rfl, Or.inl rfl, Or.inr rfl, trivial⟩ (b_M_land_46 x1 y0 x4 x3 0 s _ hf hq)
  · have hf := gift c3 hf
    refine kw_step rfl rfl rfl rfl ?_
    refine kw_goto rfl rfl ?_
    exact kW_le (L' := [some (kr 85), some (kI x1), some (kI y0), none, some (kI x4)]) ⟨Or.inr rfl, Or.inr rfl, Or.inr rfl, Or.inl rfl, Or.inr rfl, trivial⟩ (b_M_land_46 x1 y0 x4 x3 1 s _ hf hq)
def f_M_land_19b (x1 : Int) (x2 : Int) (x3 : Int) (x4 : Int) (s : kM) : Option ((Int × Int × Int) ⊕ (Int × kM)) :=
  if (s 85 20) ≤ x4 then (if x1 = 0 then (some (.inr ((s 85 20), s))) else (if x1 = 1 then (some (.inr (x2, s))) else (some (.inr (x3, s))))) else ((gI 44 x4).bind fun j4 => if (s 102 j4) ≤ x2 then (f_M_land_35 x1 x3 x4 x2 s) else ((gI 44 x4).bind fun j7 => f_M_land_35 x1 x3 x4 (s 102 j7) s))
set_option maxRecDepth 8000 in
theorem b_M_land_19b {sc : List Int} {Q : Option kV → kH → Prop} (x1 : Int) (x2 : Int) (x3 : Int) (x4 : Int) (s : kM) (t : (Int × Int × Int) ⊕ (Int × kM)) (hf : f_M_land_19b x1 x2 x3 x4 s = some t) (hq : (gE (fun x => kW sc 3 kc_M_land 1 19 [some (kr 85), some (kI x1), some (kI x.1), some (kI x.2.1), some (kI x.2.2)] [] (hH s) Q) (fun r => Q (some (kI r.1)) (hH r.2))) t) : kW sc 3 kc_M_land 1 19 [some (kr 85), some (kI x1), some (kI x2), some (kI x3), some (kI x4)] [] (hH s) Q := by
  unfold f_M_land_19b at hf
  refine kw_step rfl rfl rfl rfl ?_
  refine kw_step rfl rfl rfl rfl ?_
  refine kw_get rfl (hH_O (rfl : kotab 85 = some kMo)) rfl ?_
  refine kw_icmp_ge rfl rfl (fun c1 => ?_) (fun c1 => ?_)
  · have hf := gift c1 hf
    refine kw_step rfl rfl rfl rfl ?_
    refine kw_if_ne rfl rfl (fun c2 => ?_) (fun c2 => ?_)
    · have hf := giff c2 hf
      refine kw_step rfl rfl rfl rfl ?_
      refine kw_step rfl rfl rfl rfl ?_
      refine kw_icmp_ne rfl rfl (fun c3 => ?_) (fun c3 => ?_)
      · have hf := giff c3 hf
        refine kw_step rfl rfl rfl rfl ?_
        cases hf
        exact kw_ret rfl rfl rfl hq
      · have hf := gift c3 hf
        refine kw_step rfl rfl rfl rfl ?_
        refine kw_goto rfl rfl ?_
        cases hf
        exact kw_ret rfl rfl rfl hq
    · have hf := gift c2 hf
      refine kw_step rfl rfl rfl rfl ?_
      refine kw_get rfl (hH_O (rfl : kotab 85 = some kMo)) rfl ?_
      refine kw_goto rfl rfl ?_
      cases hf
      exact kw_ret rfl rfl rfl hq
  · have hf := giff c1 hf
    refine kw_step rfl rfl rfl rfl ?_
    refine kw_get rfl (hH_O (rfl : kotab 85 = some kMo)) rfl ?_
    refine kw_step rfl rfl rfl rfl ?_
    obtain ⟨j4, i5, hf⟩ := gbI hf
    refine kw_iald rfl (hH_A (rfl : ktab 102 = some (0, 44))) i5.1 i5.2.1 i5.2.2 ?_
    refine kw_step rfl rfl rfl rfl ?_
    refine kw_icmp_le rfl rfl (fun c6 => ?_) (fun c6 => ?_)
    · have hf := gift c6 hf
      refine kw_step rfl rfl rfl rfl ?_
      exact kW_le (L' := [some (kr 85), some (kI x1), none, some (kI x3), some (kI x4)]) ⟨Or.inr rfl, Or.inr rfl, Or.inl rfl, Or.inr rfl, Or.inr rfl, trivial⟩ (b_M_land_35 x1 x3 x4 x2 s _ hf hq)
    · have hf := giff c6 hf
      refine kw_step rfl rfl rfl rfl ?_
      refine kw_get rfl (hH_O (rfl : kotab 85 = some kMo)) rfl ?_
      refine kw_step rfl rfl rfl rfl ?_
      obtain ⟨j7, i8, hf⟩ := gbI hf
      refine kw_iald rfl (hH_A (rfl : ktab 102 = some (0, 44))) i8.1 i8.2.1 i8.2.2 ?_
      refine kw_goto rfl rfl ?_
      exact kW_le (L' := [some (kr 85), some (kI x1), none, some (kI x3), some (kI x4)]) ⟨Or.inr rfl, Or.inr rfl, Or.inl rfl, Or.inr rfl, Or.inr rfl, trivial⟩ (b_M_land_35 x1 x3 x4 (s 102 j7) s _ hf hq)
def f_M_land_19 (x1 : Int) (x2 : Int) (x3 : Int) (x4 : Int) (s : kM) : Option (Int × kM) :=
  gL (fun (x : Int × Int × Int) => f_M_land_19b x1 x.1 x.2.1 x.2.2 s) gF (x2, x3, x4)
theorem b_M_land_19 {sc : List Int} {Q : Option kV → kH → Prop} (x1 : Int) (x2 : Int) (x3 : Int) (x4 : Int) (s : kM) (t : Int × kM) (hf : f_M_land_19 x1 x2 x3 x4 s = some t) (hq : (fun r => Q (some (kI r.1)) (hH r.2)) t) : kW sc 3 kc_M_land 1 19 [some (kr 85), some (kI x1), some (kI x2), some (kI x3), some (kI x4)] [] (hH s) Q :=
  gL_ind (P := fun (x : Int × Int × Int) => kW sc 3 kc_M_land 1 19 [some (kr 85), some (kI x1), some (kI x.1), some (kI x.2.1), some (kI x.2.2)] [] (hH s) Q) (q := (fun r => Q (some (kI r.1)) (hH r.2))) (fun x t hf hq => b_M_land_19b x1 x.1 x.2.1 x.2.2 s t hf hq) gF (x2, x3, x4) t hf hq
def f_M_land (x1 : Int) (s : kM) : Option (Int × kM) :=
  (f_M_isTown s).bind fun q1 => if q1 = 0 then (some ((-1), s)) else ((f_M_in x1 0 3 s).bind fun q3 => if q3 = 0 then (some ((-1), s)) else ((f_M_fillsLand s).bind fun q5 => f_M_land_19 x1 0 0 0 q5))
set_option maxRecDepth 8000 in
theorem c_M_land {sc : List Int} (x1 : Int) (s : kM) (t : Int × kM) (hf : f_M_land x1 s = some t) : kR sc 3 km_M_land [kr 85, kI x1] (hH s) (some (kI t.1)) (hH t.2) := by
  unfold f_M_land at hf
  refine kR.start rfl ?_
  show kW sc 3 kc_M_land 1 0 [some (kr 85), some (kI x1), none, none, none] [] (hH s) _
  have hq : (fun (r : Option kV) (g : kH) => r = some (kI t.1) ∧ g = hH t.2) (some (kI t.1)) (hH t.2) := ⟨rfl, rfl⟩
  refine kw_step rfl rfl rfl rfl ?_
  obtain ⟨q1, hq1, hf⟩ := gbind hf
  refine kw_callV (vs := []) rfl rfl rfl ⟨rfl, Nat.le_of_ble_eq_true rfl, Nat.le_of_ble_eq_true rfl, by decide⟩ (hH_O (rfl : kotab 85 = some kMo)) (c_M_isTown s _ hq1) (Nat.le_of_ble_eq_true rfl) ?_
  refine kw_if_eq rfl rfl (fun c2 => ?_) (fun c2 => ?_)
  · have hf := gift c2 hf
    refine kw_step rfl rfl rfl rfl ?_
    cases hf
    exact kw_ret rfl rfl rfl hq
  · have hf := giff c2 hf
    refine kw_step rfl rfl rfl rfl ?_
    refine kw_step rfl rfl rfl rfl ?_
    refine kw_step rfl rfl rfl rfl ?_
    refine kw_step rfl rfl rfl rfl ?_
    obtain ⟨q3, hq3, hf⟩ := gbind hf
    refine kw_callS (vs := [kJ x1, kJ 0, kJ 3]) rfl rfl rfl ⟨rfl, Nat.le_of_ble_eq_true rfl, Nat.le_of_ble_eq_true rfl, rfl⟩ (c_M_in x1 0 3 s _ hq3) (Nat.le_of_ble_eq_true rfl) ?_
    refine kw_if_ne rfl rfl (fun c4 => ?_) (fun c4 => ?_)
    · have hf := giff c4 hf
      refine kw_step rfl rfl rfl rfl ?_
      obtain ⟨q5, hq5, hf⟩ := gbind hf
      refine kw_callV (vs := []) rfl rfl rfl ⟨rfl, Nat.le_of_ble_eq_true rfl, Nat.le_of_ble_eq_true rfl, by decide⟩ (hH_O (rfl : kotab 85 = some kMo)) (c_M_fillsLand s _ hq5) (Nat.le_of_ble_eq_true rfl) ?_
      refine kw_step rfl rfl rfl rfl ?_
      refine kw_step (L' := [some (kr 85), some (kI x1), some (kI 0), none, none]) rfl rfl rfl rfl ?_
      refine kw_step rfl rfl rfl rfl ?_
      refine kw_step (L' := [some (kr 85), some (kI x1), some (kI 0), some (kI 0), none]) rfl rfl rfl rfl ?_
      refine kw_step rfl rfl rfl rfl ?_
      refine kw_step (L' := [some (kr 85), some (kI x1), some (kI 0), some (kI 0), some (kI 0)]) rfl rfl rfl rfl ?_
      exact kW_le (L' := [some (kr 85), some (kI x1), some (kI 0), some (kI 0), some (kI 0)]) ⟨Or.inr rfl, Or.inr rfl, Or.inr rfl, Or.inr rfl, Or.inr rfl, trivial⟩ (b_M_land_19 x1 0 0 0 q5 _ hf hq)
    · have hf := gift c4 hf
      refine kw_step rfl rfl rfl rfl ?_
      cases hf
      exact kw_ret rfl rfl rfl hq
def f_M_isOff (x1 : Int) (s : kM) : Option (Int) :=
  (f_M_isBridge x1 s).bind fun q1 => if q1 = 0 then (some 0) else ((gI 11 x1).bind fun j3 => (f_M_next (s 98 j3) s).bind fun q5 => (gI 11 x1).bind fun j6 => if q5 = (s 99 j6) then (some 1) else ((gI 11 x1).bind fun j9 => (f_M_next (s 99 j9) s).bind fun q11 => (gI 11 x1).bind fun j12 => if q11 = (s 98 j12) then (some 1) else (some 0)))
set_option maxRecDepth 8000 in
theorem c_M_isOff {sc : List Int} (x1 : Int) (s : kM) (t : Int) (hf : f_M_isOff x1 s = some t) : kR sc 2 km_M_isOff [kr 85, kI x1] (hH s) (some (kI t)) (hH s) := by
  unfold f_M_isOff at hf
  refine kR.start rfl ?_
  show kW sc 2 kc_M_isOff 2 0 [some (kr 85), some (kI x1)] [] (hH s) _
  have hq : (fun (r : Option kV) (g : kH) => r = some (kI t) ∧ g = hH s) (some (kI t)) (hH s) := ⟨rfl, rfl⟩
  refine kw_step rfl rfl rfl rfl ?_
  refine kw_step rfl rfl rfl rfl ?_
  obtain ⟨q1, hq1, hf⟩ := gbind hf
  refine kw_callV (vs := [kI x1]) rfl rfl rfl ⟨rfl, Nat.le_of_ble_eq_true rfl, Nat.le_of_ble_eq_true rfl, by decide⟩ (hH_O (rfl : kotab 85 = some kMo)) (c_M_isBridge x1 s _ hq1) (Nat.le_of_ble_eq_true rfl) ?_
  refine kw_if_eq rfl rfl (fun c2 => ?_) (fun c2 => ?_)
  · have hf := gift c2 hf
    refine kw_step rfl rfl rfl rfl ?_
    cases hf
    exact kw_ret rfl rfl rfl hq
  · have hf := giff c2 hf
    refine kw_step rfl rfl rfl rfl ?_
    refine kw_step rfl rfl rfl rfl ?_
    refine kw_get rfl (hH_O (rfl : kotab 85 = some kMo)) rfl ?_
    refine kw_step rfl rfl rfl rfl ?_
    obtain ⟨j3, i4, hf⟩ := gbI hf
    refine kw_iald rfl (hH_A (rfl : ktab 98 = some (0, 11))) i4.1 i4.2.1 i4.2.2 ?_
    obtain ⟨q5, hq5, hf⟩ := gbind hf
    refine kw_callV (vs := [kI (s 98 j3)]) rfl rfl rfl ⟨rfl, Nat.le_of_ble_eq_true rfl, Nat.le_of_ble_eq_true rfl, by decide⟩ (hH_O (rfl : kotab 85 = some kMo)) (c_M_next (s 98 j3) s _ hq5) (Nat.le_of_ble_eq_true rfl) ?_
    refine kw_step rfl rfl rfl rfl ?_
    refine kw_get rfl (hH_O (rfl : kotab 85 = some kMo)) rfl ?_
    refine kw_step rfl rfl rfl rfl ?_
    obtain ⟨j6, i7, hf⟩ := gbI hf
    refine kw_iald rfl (hH_A (rfl : ktab 99 = some (0, 11))) i7.1 i7.2.1 i7.2.2 ?_
    refine kw_icmp_eq rfl rfl (fun c8 => ?_) (fun c8 => ?_)
    · have hf := gift c8 hf
      refine kw_step rfl rfl rfl rfl ?_
      refine kw_goto rfl rfl ?_
      cases hf
      exact kw_ret rfl rfl rfl hq
    · have hf := giff c8 hf
      refine kw_step rfl rfl rfl rfl ?_
      refine kw_step rfl rfl rfl rfl ?_
      refine kw_get rfl (hH_O (rfl : kotab 85 = some kMo)) rfl ?_
      refine kw_step rfl rfl rfl rfl ?_
      obtain ⟨j9, i10, hf⟩ := gbI hf
      refine kw_iald rfl (hH_A (rfl : ktab 99 = some (0, 11))) i10.1 i10.2.1 i10.2.2 ?_
      obtain ⟨q11, hq11, hf⟩ := gbind hf
      refine kw_callV (vs := [kI (s 99 j9)]) rfl rfl rfl ⟨rfl, Nat.le_of_ble_eq_true rfl, Nat.le_of_ble_eq_true rfl, by decide⟩ (hH_O (rfl : kotab 85 = some kMo)) (c_M_next (s 99 j9) s _ hq11) (Nat.le_of_ble_eq_true rfl) ?_
      refine kw_step rfl rfl rfl rfl ?_
      refine kw_get rfl (hH_O (rfl : kotab 85 = some kMo)) rfl ?_
      refine kw_step rfl rfl rfl rfl ?_
      obtain ⟨j12, i13, hf⟩ := gbI hf
      refine kw_iald rfl (hH_A (rfl : ktab 98 = some (0, 11))) i13.1 i13.2.1 i13.2.2 ?_
      refine kw_icmp_ne rfl rfl (fun c14 => ?_) (fun c14 => ?_)
      · have hf := giff c14 hf
        refine kw_step rfl rfl rfl rfl ?_
        cases hf
        exact kw_ret rfl rfl rfl hq
      · have hf := gift c14 hf
        refine kw_step rfl rfl rfl rfl ?_
        refine kw_goto rfl rfl ?_
        cases hf
        exact kw_ret rfl rfl rfl hq
def f_M_removes_50 (x1 : Int) (x2 : Int) (x3 : Int) (x4 : Int) (x5 : Int) (s : kM) : Option ((Int × Int × Int × kM) ⊕ (kM)) :=
  some (.inl (x2, x3, (wI (x5 + 1)), s))
set_option maxRecDepth 8000 in
theorem b_M_removes_50 {sc : List Int} {Q : Option kV → kH → Prop} (x1 : Int) (x2 : Int) (x3 : Int) (x4 : Int) (x5 : Int) (s : kM) (t : (Int × Int × Int × kM) ⊕ (kM)) (hf : f_M_removes_50 x1 x2 x3 x4 x5 s = some t) (hq : (gE (fun x => kW sc 2 kc_M_removes 0 9 [some (kr 85), some (kI x1), some (kI x.1), some (kI x.2.1), some (kI x4), some (kI x.2.2.1)] [] (hH x.2.2.2) Q) (fun r => Q none (hH r))) t) : kW sc 2 kc_M_removes 0 50 [some (kr 85), some (kI x1), some (kI x2), some (kI x3), some (kI x4), some (kI x5)] [] (hH s) Q := by
  unfold f_M_removes_50 at hf
  refine kw_step (L' := [some (kr 85), some (kI x1), some (kI x2), some (kI x3), some (kI x4), some (kI (wI (x5 + 1)))]) rfl rfl rfl rfl ?_
  refine kw_goto rfl rfl ?_
  cases hf
  exact kW_le (L' := [some (kr 85), some (kI x1), some (kI x2), some (kI x3), some (kI x4), some (kI (wI (x5 + 1)))]) ⟨Or.inr rfl, Or.inr rfl, Or.inr rfl, Or.inr rfl, Or.inr rfl, Or.inr rfl, trivial⟩ hq
def f_M_removes_31 (x1 : Int) (x2 : Int) (x4 : Int) (x5 : Int) (y0 : Int) (y1 : Int) (s : kM) : Option ((Int × Int × Int × kM) ⊕ (kM)) :=
  (gI 22 x5).bind fun j1 => (gI 22 x2).bind fun j3 => gLet (gU s 87 j3 (s 87 j1)) fun s5 => (gI 22 x5).bind fun j8 => (gI 22 x2).bind fun j10 => gLet (gU s5 88 j10 (s5 88 j8)) fun s12 => f_M_removes_50 x1 (wI (x2 + 1)) (wI (y0 + y1)) x4 x5 s12
set_option maxRecDepth 8000 in
theorem b_M_removes_31 {sc : List Int} {Q : Option kV → kH → Prop} (x1 : Int) (x2 : Int) (x4 : Int) (x5 : Int) (y0 : Int) (y1 : Int) (s : kM) (t : (Int × Int × Int × kM) ⊕ (kM)) (hf : f_M_removes_31 x1 x2 x4 x5 y0 y1 s = some t) (hq : (gE (fun x => kW sc 2 kc_M_removes 0 9 [some (kr 85), some (kI x1), some (kI x.1), some (kI x.2.1), some (kI x4), some (kI x.2.2.1)] [] (hH x.2.2.2) Q) (fun r => Q none (hH r))) t) : kW sc 2 kc_M_removes 0 31 [some (kr 85), some (kI x1), some (kI x2), none, some (kI x4), some (kI x5)] [kI y1, kI y0] (hH s) Q := by
  unfold f_M_removes_31 at hf
  refine kw_step rfl rfl rfl rfl ?_
  refine kw_step (L' := [some (kr 85), some (kI x1), some (kI x2), some (kI (wI (y0 + y1))), some (kI x4), some (kI x5)]) rfl rfl rfl rfl ?_
  refine kw_step rfl rfl rfl rfl ?_
  refine kw_get rfl (hH_O (rfl : kotab 85 = some kMo)) rfl ?_
  refine kw_step rfl rfl rfl rfl ?_
  refine kw_step rfl rfl rfl rfl ?_
  refine kw_get rfl (hH_O (rfl : kotab 85 = some kMo)) rfl ?_
  refine kw_step rfl rfl rfl rfl ?_
  obtain ⟨j1, i2, hf⟩ := gbI hf
  refine kw_iald rfl (hH_A (rfl : ktab 87 = some (0, 22))) i2.1 i2.2.1 i2.2.2 ?_
  obtain ⟨j3, i4, hf⟩ := gbI hf
  obtain ⟨s5, ee6, hf⟩ := gbL hf
  refine kw_iastH rfl (rfl : ktab 87 = some (0, 22)) i4.1 i4.2.1 i4.2.2 ee6 ?_
  refine kw_step rfl rfl rfl rfl ?_
  refine kw_get rfl (hH_O (rfl : kotab 85 = some kMo)) rfl ?_
  refine kw_step rfl rfl rfl rfl ?_
  refine kw_step rfl rfl rfl rfl ?_
  refine kw_get rfl (hH_O (rfl : kotab 85 = some kMo)) rfl ?_
  refine kw_step rfl rfl rfl rfl ?_
  obtain ⟨j8, i9, hf⟩ := gbI hf
  refine kw_iald rfl (hH_A (rfl : ktab 88 = some (0, 22))) i9.1 i9.2.1 i9.2.2 ?_
  obtain ⟨j10, i11, hf⟩ := gbI hf
  obtain ⟨s12, ee13, hf⟩ := gbL hf
  refine kw_iastH rfl (rfl : ktab 88 = some (0, 22)) i11.1 i11.2.1 i11.2.2 ee13 ?_
  refine kw_step (L' := [some (kr 85), some (kI x1), some (kI (wI (x2 + 1))), some (kI (wI (y0 + y1))), some (kI x4), some (kI x5)]) rfl rfl rfl rfl ?_
  exact kW_le (L' := [some (kr 85), some (kI x1), some (kI (wI (x2 + 1))), some (kI (wI (y0 + y1))), some (kI x4), some (kI x5)]) ⟨Or.inr rfl, Or.inr rfl, Or.inr rfl, Or.inr rfl, Or.inr rfl, Or.inr rfl, trivial⟩ (b_M_removes_50 x1 (wI (x2 + 1)) (wI (y0 + y1)) x4 x5 s12 _ hf hq)
def f_M_removes_9b (x1 : Int) (x2 : Int) (x3 : Int) (x4 : Int) (x5 : Int) (s : kM) : Option ((Int × Int × Int × kM) ⊕ (kM)) :=
  if x4 ≤ x5 then (gLet (gU s 86 1 x3) fun s2 => gLet (gU s2 86 2 (wI (x2 - x3))) fun s5 => (f_M_refresh s5).bind fun q8 => some (.inr q8)) else ((gI 22 x5).bind fun j10 => if (kand (kshr x1 (s 87 j10)) 1) = 0 then (if (s 86 1) ≤ x5 then (f_M_removes_31 x1 x2 x4 x5 x3 0 s) else (f_M_removes_31 x1 x2 x4 x5 x3 1 s)) else (f_M_removes_50 x1 x2 x3 x4 x5 s))
set_option maxRecDepth 8000 in
theorem b_M_removes_9b {sc : List Int} {Q : Option kV → kH → Prop} (x1 : Int) (x2 : Int) (x3 : Int) (x4 : Int) (x5 : Int) (s : kM) (t : (Int × Int × Int × kM) ⊕ (kM)) (hf : f_M_removes_9b x1 x2 x3 x4 x5 s = some t) (hq : (gE (fun x => kW sc 2 kc_M_removes 0 9 [some (kr 85), some (kI x1), some (kI x.1), some (kI x.2.1), some (kI x4), some (kI x.2.2.1)] [] (hH x.2.2.2) Q) (fun r => Q none (hH r))) t) : kW sc 2 kc_M_removes 0 9 [some (kr 85), some (kI x1), some (kI x2), some (kI x3), some (kI x4), some (kI x5)] [] (hH s) Q := by
  unfold f_M_removes_9b at hf
  refine kw_step rfl rfl rfl rfl ?_
  refine kw_step rfl rfl rfl rfl ?_
  refine kw_icmp_ge rfl rfl (fun c1 => ?_) (fun c1 => ?_)
  · have hf := gift c1 hf
    refine kw_step rfl rfl rfl rfl ?_
    refine kw_get rfl (hH_O (rfl : kotab 85 = some kMo)) rfl ?_
    refine kw_step rfl rfl rfl rfl ?_
    refine kw_step rfl rfl rfl rfl ?_
    obtain ⟨s2, ee3, hf⟩ := gbL hf
    refine kw_iastH rfl (rfl : ktab 86 = some (0, 6)) (by decide) (by decide) (j := 1) rfl ee3 ?_
    refine kw_step rfl rfl rfl rfl ?_
    refine kw_get rfl (hH_O (rfl : kotab 85 = some kMo)) rfl ?_
    refine kw_step rfl rfl rfl rfl ?_
    refine kw_step rfl rfl rfl rfl ?_
    refine kw_step rfl rfl rfl rfl ?_
    refine kw_step rfl rfl rfl rfl ?_
    obtain ⟨s5, ee6, hf⟩ := gbL hf
    refine kw_iastH rfl (rfl : ktab 86 = some (0, 6)) (by decide) (by decide) (j := 2) rfl ee6 ?_
    refine kw_step rfl rfl rfl rfl ?_
    obtain ⟨q8, hq8, hf⟩ := gbind hf
    refine kw_callV (vs := []) rfl rfl rfl ⟨rfl, Nat.le_of_ble_eq_true rfl, Nat.le_of_ble_eq_true rfl, by decide⟩ (hH_O (rfl : kotab 85 = some kMo)) (c_M_refresh s5 _ hq8) (Nat.le_of_ble_eq_true rfl) ?_
    cases hf
    exact kw_ret rfl rfl rfl hq
  · have hf := giff c1 hf
    refine kw_step rfl rfl rfl rfl ?_
    refine kw_step rfl rfl rfl rfl ?_
    refine kw_get rfl (hH_O (rfl : kotab 85 = some kMo)) rfl ?_
    refine kw_step rfl rfl rfl rfl ?_
    obtain ⟨j10, i11, hf⟩ := gbI hf
    refine kw_iald rfl (hH_A (rfl : ktab 87 = some (0, 22))) i11.1 i11.2.1 i11.2.2 ?_
    refine kw_step rfl rfl rfl rfl ?_
    refine kw_step rfl rfl rfl rfl ?_
    refine kw_step rfl rfl rfl rfl ?_
    refine kw_if_ne rfl rfl (fun c12 => ?_) (fun c12 => ?_)
    · have hf := giff c12 hf
      exact kW_le (L' := [some (kr 85), some (kI x1), some (kI x2), some (kI x3), some (kI x4), some (kI x5)]) ⟨Or.inr rfl, Or.inr rfl, Or.inr rfl, Or.inr rfl, Or.inr rfl, Or.inr rfl, trivial⟩ (b_M_removes_50 x1 x2 x3 x4 x5 s _ hf hq)
    · have hf := gift c12 hf
      refine kw_step rfl rfl rfl rfl ?_
      refine kw_step rfl rfl rfl rfl ?_
      refine kw_step rfl rfl rfl rfl ?_
      refine kw_get rfl (hH_O (rfl : kotab 85 = some kMo)) rfl ?_
      refine kw_step rfl rfl rfl rfl ?_
      refine kw_iald rfl (hH_A (rfl : ktab 86 = some (0, 6))) (by decide) (by decide) (j := 1) rfl ?_
      refine kw_icmp_ge rfl rfl (fun c13 => ?_) (fun c13 => ?_)
      · have hf := gift c13 hf
        refine kw_step rfl rfl rfl rfl ?_
        exact kW_le (L' := [some (kr 85), some (kI x1), some (kI x2), none, some (kI x4), some (kI x5)]) ⟨Or.inr rfl, Or.inr rfl, Or.inr rfl, Or.inl rfl, Or.inr rfl, Or.inr rfl, trivial⟩ (b_M_removes_31 x1 x2 x4 x5 x3 0 s _ hf hq)
      · have hf := giff c13 hf
        refine kw_step rfl rfl rfl rfl ?_
        refine kw_goto rfl rfl ?_
        exact kW_le (L' := [some (kr 85), some (kI x1), some (kI x2), none, some (kI x4), some (kI x5)]) ⟨Or.inr rfl, Or.inr rfl, Or.inr rfl, Or.inl rfl, Or.inr rfl, Or.inr rfl, trivial⟩ (b_M_removes_31 x1 x2 x4 x5 x3 1 s _ hf hq)
def f_M_removes_9 (x1 : Int) (x2 : Int) (x3 : Int) (x4 : Int) (x5 : Int) (s : kM) : Option (kM) :=
  gL (fun (x : Int × Int × Int × kM) => f_M_removes_9b x1 x.1 x.2.1 x4 x.2.2.1 x.2.2.2) gF (x2, x3, x5, s)
theorem b_M_removes_9 {sc : List Int} {Q : Option kV → kH → Prop} (x1 : Int) (x2 : Int) (x3 : Int) (x4 : Int) (x5 : Int) (s : kM) (t : kM) (hf : f_M_removes_9 x1 x2 x3 x4 x5 s = some t) (hq : (fun r => Q none (hH r)) t) : kW sc 2 kc_M_removes 0 9 [some (kr 85), some (kI x1), some (kI x2), some (kI x3), some (kI x4), some (kI x5)] [] (hH s) Q :=
  gL_ind (P := fun (x : Int × Int × Int × kM) => kW sc 2 kc_M_removes 0 9 [some (kr 85), some (kI x1), some (kI x.1), some (kI x.2.1), some (kI x4), some (kI x.2.2.1)] [] (hH x.2.2.2) Q) (q := (fun r => Q none (hH r))) (fun x t hf hq => b_M_removes_9b x1 x.1 x.2.1 x4 x.2.2.1 x.2.2.2 t hf hq) gF (x2, x3, x5, s) t hf hq
def f_M_removes (x1 : Int) (s : kM) : Option (kM) :=
  (f_M_places s).bind fun q1 => f_M_removes_9 x1 0 0 q1 0 s
set_option maxRecDepth 8000 in
theorem c_M_removes {sc : List Int} (x1 : Int) (s : kM) (t : kM) (hf : f_M_removes x1 s = some t) : kR sc 2 km_M_removes [kr 85, kI x1] (hH s) none (hH t) := by
  unfold f_M_removes at hf
  refine kR.start rfl ?_
  show kW sc 2 kc_M_removes 0 0 [some (kr 85), some (kI x1), none, none, none, none] [] (hH s) _
  have hq : (fun (r : Option kV) (g : kH) => r = none ∧ g = hH t) none (hH t) := ⟨rfl, rfl⟩
  refine kw_step rfl rfl rfl rfl ?_
  refine kw_step (L' := [some (kr 85), some (kI x1), some (kI 0), none, none, none]) rfl rfl rfl rfl ?_
  refine kw_step rfl rfl rfl rfl ?_
  refine kw_step (L' := [some (kr 85), some (kI x1), some (kI 0), some (kI 0), none, none]) rfl rfl rfl rfl ?_
  refine kw_step rfl rfl rfl rfl ?_
  obtain ⟨q1, hq1, hf⟩ := gbind hf
  refine kw_callV (vs := []) rfl rfl rfl ⟨rfl, Nat.le_of_ble_eq_true rfl, Nat.le_of_ble_eq_true rfl, by decide⟩ (hH_O (rfl : kotab 85 = some kMo)) (c_M_places s _ hq1) (Nat.le_of_ble_eq_true rfl) ?_
  refine kw_step (L' := [some (kr 85), some (kI x1), some (kI 0), some (kI 0), some (kI q1), none]) rfl rfl rfl rfl ?_
  refine kw_step rfl rfl rfl rfl ?_
  refine kw_step (L' := [some (kr 85), some (kI x1), some (kI 0), some (kI 0), some (kI q1), some (kI 0)]) rfl rfl rfl rfl ?_
  exact kW_le (L' := [some (kr 85), some (kI x1), some (kI 0), some (kI 0), some (kI q1), some (kI 0)]) ⟨Or.inr rfl, Or.inr rfl, Or.inr rfl, Or.inr rfl, Or.inr rfl, Or.inr rfl, trivial⟩ (b_M_removes_9 x1 0 0 q1 0 s _ hf hq)
