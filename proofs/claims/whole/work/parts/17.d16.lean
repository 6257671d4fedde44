/-! PRINTED by wip/whole/decall.py: methods as functions over the flat world, with their contracts -/
def f_M_fillsLand_138 (x1 : Int) (s : kM) : Option ((Int × kM) ⊕ (kM)) :=
  some (.inl ((wI (x1 + 1)), s))
set_option maxRecDepth 8000 in
theorem b_M_fillsLand_138 {sc : List Int} {Q : Option kV → kH → Prop} (x1 : Int) (s : kM) (t : (Int × kM) ⊕ (kM)) (hf : f_M_fillsLand_138 x1 s = some t) (hq : (gE (fun x => kW sc 2 kc_M_fillsLand 0 83 [some (kr 85), some (kI x.1), none, none, none, none] [] (hH x.2) Q) (fun r => Q none (hH r))) t) : kW sc 2 kc_M_fillsLand 0 138 [some (kr 85), some (kI x1), none, none, none, none] [] (hH s) Q := by
  unfold f_M_fillsLand_138 at hf
  refine kw_step (L' := [some (kr 85), some (kI (wI (x1 + 1))), none, none, none, none]) rfl rfl rfl rfl ?_
  refine kw_goto rfl rfl ?_
  cases hf
  exact kW_le (L' := [some (kr 85), some (kI (wI (x1 + 1))), none, none, none, none]) ⟨Or.inr rfl, Or.inr rfl, Or.inl rfl, Or.inl rfl, Or.inl rfl, Or.inl rfl, trivial⟩ hq
def f_M_fillsLand_99b (x1 : Int) (x2 : Int) (x3 : Int) (s : kM) : Option ((Int × Int × kM) ⊕ ((Int × kM) ⊕ (kM))) :=
  (gI 44 x3).bind fun j1 => if (s 101 j1) = (-1) then ((gI 44 x3).bind fun j19 => gLet (gU s 101 j19 (s 85 20)) fun s21 => (gI 44 (kxor x3 1)).bind fun j24 => some (.inl ((wI (x2 + 1)), (s21 100 j24), s21))) else ((gI 44 (s 85 20)).bind fun j4 => gLet (gU s 102 j4 x2) fun s6 => (gI 44 (s6 85 20)).bind fun j9 => gLet (gU s6 103 j9 x1) fun s11 => gLet (gU s11 85 20 (wI ((s11 85 20) + 1))) fun s14 => (f_M_fillsLand_138 x1 s14).map Sum.inr)
set_option maxRecDepth 8000 in
theorem b_M_fillsLand_99b {sc : List Int} {Q : Option kV → kH → Prop} (x1 : Int) (x2 : Int) (x3 : Int) (s : kM) (t : (Int × Int × kM) ⊕ ((Int × kM) ⊕ (kM))) (hf : f_M_fillsLand_99b x1 x2 x3 s = some t) (hq : (gE (fun x => kW sc 2 kc_M_fillsLand 0 99 [some (kr 85), some (kI x1), some (kI x.1), some (kI x.2.1), none, none] [] (hH x.2.2) Q) (gE (fun x => kW sc 2 kc_M_fillsLand 0 83 [some (kr 85), some (kI x.1), none, none, none, none] [] (hH x.2) Q) (fun r => Q none (hH r)))) t) : kW sc 2 kc_M_fillsLand 0 99 [some (kr 85), some (kI x1), some (kI x2), some (kI x3), none, none] [] (hH s) Q := by
  unfold f_M_fillsLand_99b at hf
  refine kw_step rfl rfl rfl rfl ?_
  refine kw_get rfl (hH_O (rfl : kotab 85 = some kMo)) rfl ?_
  refine kw_step rfl rfl rfl rfl ?_
  obtain ⟨j1, i2, hf⟩ := gbI hf
  refine kw_iald rfl (hH_A (rfl : ktab 101 = some (0, 44))) i2.1 i2.2.1 i2.2.2 ?_
  refine kw_step rfl rfl rfl rfl ?_
  refine kw_icmp_ne rfl rfl (fun c3 => ?_) (fun c3 => ?_)
  · have hf := giff c3 hf
    refine kw_step rfl rfl rfl rfl ?_
    refine kw_get rfl (hH_O (rfl : kotab 85 = some kMo)) rfl ?_
    refine kw_step rfl rfl rfl rfl ?_
    refine kw_get rfl (hH_O (rfl : kotab 85 = some kMo)) rfl ?_
    refine kw_step rfl rfl rfl rfl ?_
    obtain ⟨j4, i5, hf⟩ := gbI hf
    obtain ⟨s6, ee7, hf⟩ := gbL hf
    refine kw_iastH rfl (rfl : ktab 102 = some (0, 44)) i5.1 i5.2.1 i5.2.2 ee7 ?_
    refine kw_step rfl rfl rfl rfl ?_
    refine kw_get rfl (hH_O (rfl : kotab 85 = some kMo)) rfl ?_
    refine kw_step rfl rfl rfl rfl ?_
    refine kw_get rfl (hH_O (rfl : kotab 85 = some kMo)) rfl ?_
    refine kw_step rfl rfl rfl rfl ?_
    obtain ⟨j9, i10, hf⟩ := gbI hf
    obtain ⟨s11, ee12, hf⟩ := gbL hf
    refine kw_iastH rfl (rfl : ktab 103 = some (0, 44)) i10.1 i10.2.1 i10.2.2 ee12 ?_
    refine kw_step rfl rfl rfl rfl ?_
    refine kw_step rfl rfl rfl rfl ?_
    refine kw_get rfl (hH_O (rfl : kotab 85 = some kMo)) rfl ?_
    refine kw_step rfl rfl rfl rfl ?_
    refine kw_step rfl rfl rfl rfl ?_
    obtain ⟨s14, ee15, hf⟩ := gbL hf
    refine kw_putH rfl (rfl : kotab 85 = some kMo) rfl rfl rfl (Nat.le_of_ble_eq_true rfl) rfl ee15 ?_
    obtain ⟨t17, hg18, rfl⟩ := gmap hf
    exact kW_le (L' := [some (kr 85), some (kI x1), none, none, none, none]) ⟨Or.inr rfl, Or.inr rfl, Or.inl rfl, Or.inl rfl, Or.inl rfl, Or.inl rfl, trivial⟩ (b_M_fillsLand_138 x1 s14 _ hg18 hq)
  · have hf := gift c3 hf
    refine kw_step rfl rfl rfl rfl ?_
    refine kw_get rfl (hH_O (rfl : kotab 85 = some kMo)) rfl ?_
    refine kw_step rfl rfl rfl rfl ?_
    refine kw_step rfl rfl rfl rfl ?_
    refine kw_get rfl (hH_O (rfl : kotab 85 = some kMo)) rfl ?_
    obtain ⟨j19, i20, hf⟩ := gbI hf
    obtain ⟨s21, ee22, hf⟩ := gbL hf
    refine kw_iastH rfl (rfl : ktab 101 = some (0, 44)) i20.1 i20.2.1 i20.2.2 ee22 ?_
    refine kw_step (L' := [some (kr 85), some (kI x1), some (kI (wI (x2 + 1))), some (kI x3), none, none]) rfl rfl rfl rfl ?_
    refine kw_step rfl rfl rfl rfl ?_
    refine kw_get rfl (hH_O (rfl : kotab 85 = some kMo)) rfl ?_
    refine kw_step rfl rfl rfl rfl ?_
    refine kw_step rfl rfl rfl rfl ?_
    refine kw_step rfl rfl rfl rfl ?_
    obtain ⟨j24, i25, hf⟩ := gbI hf
    refine kw_iald rfl (hH_A (rfl : ktab 100 = some (0, 44))) i25.1 i25.2.1 i25.2.2 ?_
    refine kw_step (L' := [some (kr 85), some (kI x1), some (kI (wI (x2 + 1))), some (kI (s21 100 j24)), none, none]) rfl rfl rfl rfl ?_
    refine kw_goto rfl rfl ?_
    cases hf
    exact kW_le (L' := [some (kr 85), some (kI x1), some (kI (wI (x2 + 1))), some (kI (s21 100 j24)), none, none]) ⟨Or.inr rfl, Or.inr rfl, Or.inr rfl, Or.inr rfl, Or.inl rfl, Or.inl rfl, trivial⟩ hq
def f_M_fillsLand_99 (x1 : Int) (x2 : Int) (x3 : Int) (s : kM) : Option ((Int × kM) ⊕ (kM)) :=
  gL (fun (x : Int × Int × kM) => f_M_fillsLand_99b x1 x.1 x.2.1 x.2.2) gF (x2, x3, s)
theorem b_M_fillsLand_99 {sc : List Int} {Q : Option kV → kH → Prop} (x1 : Int) (x2 : Int) (x3 : Int) (s : kM) (t : (Int × kM) ⊕ (kM)) (hf : f_M_fillsLand_99 x1 x2 x3 s = some t) (hq : (gE (fun x => kW sc 2 kc_M_fillsLand 0 83 [some (kr 85), some (kI x.1), none, none, none, none] [] (hH x.2) Q) (fun r => Q none (hH r))) t) : kW sc 2 kc_M_fillsLand 0 99 [some (kr 85), some (kI x1), some (kI x2), some (kI x3), none, none] [] (hH s) Q :=
  gL_ind (P := fun (x : Int × Int × kM) => kW sc 2 kc_M_fillsLand 0 99 [some (kr 85), some (kI x1), some (kI x.1), some (kI x.2.1), none, none] [] (hH x.2.2) Q) (q := (gE (fun x => kW sc 2 kc_M_fillsLand 0 83 [some (kr 85), some (kI x.1), none, none, none, none] [] (hH x.2) Q) (fun r => Q none (hH r)))) (fun x t hf hq => b_M_fillsLand_99b x1 x.1 x.2.1 x.2.2 t hf hq) gF (x2, x3, s) t hf hq
def f_M_fillsLand_83b (x1 : Int) (s : kM) : Option ((Int × kM) ⊕ (kM)) :=
  (f_M_places s).bind fun q1 => if (wI (2 * q1)) ≤ x1 then (some (.inr s)) else ((gI 44 x1).bind fun j3 => if (s 101 j3) = (-1) then (f_M_fillsLand_99 x1 0 x1 s) else (f_M_fillsLand_138 x1 s))
set_option maxRecDepth 8000 in
theorem b_M_fillsLand_83b {sc : List Int} {Q : Option kV → kH → Prop} (x1 : Int) (s : kM) (t : (Int × kM) ⊕ (kM)) (hf : f_M_fillsLand_83b x1 s = some t) (hq : (gE (fun x => kW sc 2 kc_M_fillsLand 0 83 [some (kr 85), some (kI x.1), none, none, none, none] [] (hH x.2) Q) (fun r => Q none (hH r))) t) : kW sc 2 kc_M_fillsLand 0 83 [some (kr 85), some (kI x1), none, none, none, none] [] (hH s) Q := by
  unfold f_M_fillsLand_83b at hf
  refine kw_step rfl rfl rfl rfl ?_
  refine kw_step rfl rfl rfl rfl ?_
  refine kw_step rfl rfl rfl rfl ?_
  obtain ⟨q1, hq1, hf⟩ := gbind hf
  refine kw_callV (vs := []) rfl rfl rfl ⟨rfl, Nat.le_of_ble_eq_true rfl, Nat.le_of_ble_eq_true rfl, by decide⟩ (hH_O (rfl : kotab 85 = some kMo)) (c_M_places s _ hq1) (Nat.le_of_ble_eq_true rfl) ?_
  refine kw_step rfl rfl rfl rfl ?_
  refine kw_icmp_ge rfl rfl (fun c2 => ?_) (fun c2 => ?_)
  · have hf := gift c2 hf
    cases hf
    exact kw_ret rfl rfl rfl hq
  · have hf := giff c2 hf
    refine kw_step rfl rfl rfl rfl ?_
    refine kw_get rfl (hH_O (rfl : kotab 85 = some kMo)) rfl ?_
    refine kw_step rfl rfl rfl rfl ?_
    obtain ⟨j3, i4, hf⟩ := gbI hf
    refine kw_iald rfl (hH_A (rfl : ktab 101 = some (0, 44))) i4.1 i4.2.1 i4.2.2 ?_
    refine kw_step rfl rfl rfl rfl ?_
    refine kw_icmp_ne rfl rfl (fun c5 => ?_) (fun c5 => ?_)
    · have hf := giff c5 hf
      exact kW_le (L' := [some (kr 85), some (kI x1), none, none, none, none]) ⟨Or.inr rfl, Or.inr rfl, Or.inl rfl, Or.inl rfl, Or.inl rfl, Or.inl rfl, trivial⟩ (b_M_fillsLand_138 x1 s _ hf hq)
    · have hf := gift c5 hf
      refine kw_step rfl rfl rfl rfl ?_
      refine kw_step (L' := [some (kr 85), some (kI x1), some (kI 0), none, none, none]) rfl rfl rfl rfl ?_
      refine kw_step rfl rfl rfl rfl ?_
      refine kw_step (L' := [some (kr 85), some (kI x1), some (kI 0), some (kI x1), none, none]) rfl rfl rfl rfl ?_
      exact kW_le (L' := [some (kr 85), some (kI x1), some (kI 0), some (kI x1), none, none]) ⟨Or.inr rfl, Or.inr rfl, Or.inr rfl, Or.inr rfl, Or.inl rfl, Or.inl rfl, trivial⟩ (b_M_fillsLand_99 x1 0 x1 s _ hf hq)
def f_M_fillsLand_83 (x1 : Int) (s : kM) : Option (kM) :=
  gL (fun (x : Int × kM) => f_M_fillsLand_83b x.1 x.2) gF (x1, s)
theorem b_M_fillsLand_83 {sc : List Int} {Q : Option kV → kH → Prop} (x1 : Int) (s : kM) (t : kM) (hf : f_M_fillsLand_83 x1 s = some t) (hq : (fun r => Q none (hH r)) t) : kW sc 2 kc_M_fillsLand 0 83 [some (kr 85), some (kI x1), none, none, none, none] [] (hH s) Q :=
  gL_ind (P := fun (x : Int × kM) => kW sc 2 kc_M_fillsLand 0 83 [some (kr 85), some (kI x.1), none, none, none, none] [] (hH x.2) Q) (q := (fun r => Q none (hH r))) (fun x t hf hq => b_M_fillsLand_83b x.1 x.2 t hf hq) gF (x1, s) t hf hq
def f_M_fillsLand_68b (x1 : Int) (s : kM) : Option ((Int × kM) ⊕ (kM)) :=
  if 44 ≤ x1 then (gLet (gU s 85 20 0) fun s2 => (f_M_fillsLand_83 0 s2).map Sum.inr) else ((gI 44 x1).bind fun j7 => gLet (gU s 101 j7 (-1)) fun s9 => some (.inl ((wI (x1 + 1)), s9)))
set_option maxRecDepth 8000 in
theorem b_M_fillsLand_68b {sc : List Int} {Q : Option kV → kH → Prop} (x1 : Int) (s : kM) (t : (Int × kM) ⊕ (kM)) (hf : f_M_fillsLand_68b x1 s = some t) (hq : (gE (fun x => kW sc 2 kc_M_fillsLand 0 68 [some (kr 85), some (kI x.1), none, none, none, none] [] (hH x.2) Q) (fun r => Q none (hH r))) t) : kW sc 2 kc_M_fillsLand 0 68 [some (kr 85), some (kI x1), none, none, none, none] [] (hH s) Q := by
  unfold f_M_fillsLand_68b at hf
  refine kw_step rfl rfl rfl rfl ?_
  refine kw_step rfl rfl rfl rfl ?_
  refine kw_icmp_ge rfl rfl (fun c1 => ?_) (fun c1 => ?_)
  · have hf := gift c1 hf
    refine kw_step rfl rfl rfl rfl ?_
    refine kw_step rfl rfl rfl rfl ?_
    obtain ⟨s2, ee3, hf⟩ := gbL hf
    refine kw_putH rfl (rfl : kotab 85 = some kMo) rfl rfl rfl (Nat.le_of_ble_eq_true rfl) rfl ee3 ?_
    refine kw_step rfl rfl rfl rfl ?_
    refine kw_step (L' := [some (kr 85), some (kI 0), none, none, none, none]) rfl rfl rfl rfl ?_
    obtain ⟨t5, hg6, rfl⟩ := gmap hf
    exact kW_le (L' := [some (kr 85), some (kI 0), none, none, none, none]) ⟨Or.inr rfl, Or.inr rfl, Or.inl rfl, Or.inl rfl, Or.inl rfl, Or.inl rfl, trivial⟩ (b_M_fillsLand_83 0 s2 _ hg6 hq)
  · have hf := giff c1 hf
    refine kw_step rfl rfl rfl rfl ?_
    refine kw_get rfl (hH_O (rfl : kotab 85 = some kMo)) rfl ?_
    refine kw_step rfl rfl rfl rfl ?_
    refine kw_step rfl rfl rfl rfl ?_
    obtain ⟨j7, i8, hf⟩ := gbI hf
    obtain ⟨s9, ee10, hf⟩ := gbL hf
    refine kw_iastH rfl (rfl : ktab 101 = some (0, 44)) i8.1 i8.2.1 i8.2.2 ee10 ?_
    refine kw_step (L' := [some (kr 85), some (kI (wI (x1 + 1))), none, none, none, none]) rfl rfl rfl rfl ?_
    refine kw_goto rfl rfl ?_
    cases hf
    exact kW_le (L' := [some (kr 85), some (kI (wI (x1 + 1))), none, none, none, none]) ⟨Or.inr rfl, Or.inr rfl, Or.inl rfl, Or.inl rfl, Or.inl rfl, Or.inl rfl, trivial⟩ hq
def f_M_fillsLand_68 (x1 : Int) (s : kM) : Option (kM) :=
  gL (fun (x : Int × kM) => f_M_fillsLand_68b x.1 x.2) gF (x1, s)
theorem b_M_fillsLand_68 {sc : List Int} {Q : Option kV → kH → Prop} (x1 : Int) (s : kM) (t : kM) (hf : f_M_fillsLand_68 x1 s = some t) (hq : (fun r => Q none (hH r)) t) : kW sc 2 kc_M_fillsLand 0 68 [some (kr 85), some (kI x1), none, none, none, none] [] (hH s) Q :=
  gL_ind (P := fun (x : Int × kM) => kW sc 2 kc_M_fillsLand 0 68 [some (kr 85), some (kI x.1), none, none, none, none] [] (hH x.2) Q) (q := (fun r => Q none (hH r))) (fun x t hf hq => b_M_fillsLand_68b x.1 x.2 t hf hq) gF (x1, s) t hf hq
def f_M_fillsLand_64 (x1 : Int) (s : kM) : Option ((Int × kM) ⊕ (kM)) :=
  some (.inl ((wI (x1 + 1)), s))
set_option maxRecDepth 8000 in
theorem b_M_fillsLand_64 {sc : List Int} {Q : Option kV → kH → Prop} (x1 : Int) (s : kM) (t : (Int × kM) ⊕ (kM)) (hf : f_M_fillsLand_64 x1 s = some t) (hq : (gE (fun x => kW sc 2 kc_M_fillsLand 0 2 [some (kr 85), some (kI x.1), none, none, none, none] [] (hH x.2) Q) (fun r => Q none (hH r))) t) : kW sc 2 kc_M_fillsLand 0 64 [some (kr 85), some (kI x1), none, none, none, none] [] (hH s) Q := by
  unfold f_M_fillsLand_64 at hf
  refine kw_step (L' := [some (kr 85), some (kI (wI (x1 + 1))), none, none, none, none]) rfl rfl rfl rfl ?_
  refine kw_goto rfl rfl ?_
  cases hf
  exact kW_le (L' := [some (kr 85), some (kI (wI (x1 + 1))), none, none, none, none]) ⟨Or.inr rfl, Or.inr rfl, Or.inl rfl, Or.inl rfl, Or.inl rfl, Or.inl rfl, trivial⟩ hq
def f_M_fillsLand_2b (x1 : Int) (s : kM) : Option ((Int × kM) ⊕ (kM)) :=
  if 11 ≤ x1 then ((f_M_fillsLand_68 0 s).map Sum.inr) else ((f_M_isBridge x1 s).bind fun q4 => if q4 = 0 then (f_M_fillsLand_64 x1 s) else ((gI 11 x1).bind fun j6 => (gI 11 x1).bind fun j8 => (gI 11 x1).bind fun j10 => (f_M_ahead (s 98 j10) s).bind fun q12 => (gI 11 x1).bind fun j13 => (f_M_ahead (s 99 j13) s).bind fun q15 => (gI 11 x1).bind fun j16 => if (s 89 j16) = 1 then ((f_M_turns (wI (2 * (s 98 j6))) (wI (2 * (s 99 j8))) (wI ((wI (2 * q12)) + 1)) (wI ((wI (2 * q15)) + 1)) s).bind fun q21 => f_M_fillsLand_64 x1 q21) else ((f_M_turns (wI (2 * (s 98 j6))) (wI ((wI (2 * q15)) + 1)) (wI ((wI (2 * q12)) + 1)) (wI (2 * (s 99 j8))) s).bind fun q19 => f_M_fillsLand_64 x1 q19)))
set_option maxRecDepth 8000 in
theorem b_M_fillsLand_2b {sc : List Int} {Q : Option kV → kH → Prop} (x1 : Int) (s : kM) (t : (Int × kM) ⊕ (kM)) (hf : f_M_fillsLand_2b x1 s = some t) (hq : (gE (fun x => kW sc 2 kc_M_fillsLand 0 2 [some (kr 85), some (kI x.1), none, none, none, none] [] (hH x.2) Q) (fun r => Q none (hH r))) t) : kW sc 2 kc_M_fillsLand 0 2 [some (kr 85), some (kI x1), none, none, none, none] [] (hH s) Q := by
  unfold f_M_fillsLand_2b at hf
  refine kw_step rfl rfl rfl rfl ?_
  refine kw_step rfl rfl rfl rfl ?_
  refine kw_icmp_ge rfl rfl (fun c1 => ?_) (fun c1 => ?_)
  · have hf := gift c1 hf
    refine kw_step rfl rfl rfl rfl ?_
    refine kw_step (L' := [some (kr 85), some (kI 0), none, none, none, none]) rfl rfl rfl rfl ?_
    obtain ⟨t2, hg3, rfl⟩ := gmap hf
    exact kW_le (L' := [some (kr 85), some (kI 0), none, none, none, none]) ⟨Or.inr rfl, Or.inr rfl, Or.inl rfl, Or.inl rfl, Or.inl rfl, Or.inl rfl, trivial⟩ (b_M_fillsLand_68 0 s _ hg3 hq)
  · have hf := giff c1 hf
    refine kw_step rfl rfl rfl rfl ?_
    refine kw_step rfl rfl rfl rfl ?_
    obtain ⟨q4, hq4, hf⟩ := gbind hf
    refine kw_callV (vs := [kI x1]) rfl rfl rfl ⟨rfl, Nat.le_of_ble_eq_true rfl, Nat.le_of_ble_eq_true rfl, by decide⟩ (hH_O (rfl : kotab 85 = some kMo)) (c_M_isBridge x1 s _ hq4) (Nat.le_of_ble_eq_true rfl) ?_
    refine kw_if_eq rfl rfl (fun c5 => ?_) (fun c5 => ?_)
    · have hf := gift c5 hf
      exact kW_le (L' := [some (kr 85), some (kI x1), none, none, none, none]) ⟨Or.inr rfl, Or.inr rfl, Or.inl rfl, Or.inl rfl, Or.inl rfl, Or.inl rfl, trivial⟩ (b_M_fillsLand_64 x1 s _ hf hq)
    · have hf := giff c5 hf
      refine kw_step rfl rfl rfl rfl ?_
      refine kw_step rfl rfl rfl rfl ?_
      refine kw_get rfl (hH_O (rfl : kotab 85 = some kMo)) rfl ?_
      refine kw_step rfl rfl rfl rfl ?_
      obtain ⟨j6, i7, hf⟩ := gbI hf
      refine kw_iald rfl (hH_A (rfl : ktab 98 = some (0, 11))) i7.1 i7.2.1 i7.2.2 ?_
      refine kw_step rfl rfl rfl rfl ?_
      refine kw_step (L' := [some (kr 85), some (kI x1), some (kI (wI (2 * (s 98 j6)))), none, none, none]) rfl rfl rfl rfl ?_
      refine kw_step rfl rfl rfl rfl ?_
      refine kw_step rfl rfl rfl rfl ?_
      refine kw_get rfl (hH_O (rfl : kotab 85 = some kMo)) rfl ?_
      refine kw_step rfl rfl rfl rfl ?_
      obtain ⟨j8, i9, hf⟩ := gbI hf
      refine kw_iald rfl (hH_A (rfl : ktab 99 = some (0, 11))) i9.1 i9.2.1 i9.2.2 ?_
      refine kw_step rfl rfl rfl rfl ?_
      refine kw_step (L' := [some (kr 85), some (kI x1), some (kI (wI (2 * (s 98 j6)))), some (kI (wI (2 * (s 99 j8)))), none, none]) rfl rfl rfl rfl ?_
      refine kw_step rfl rfl rfl rfl ?_
      refine kw_step rfl rfl rfl rfl ?_
      refine kw_step rfl rfl rfl rfl ?_
      refine kw_get rfl (hH_O (rfl : kotab 85 = some kMo)) rfl ?_
      refine kw_step rfl rfl rfl rfl ?_
      obtain ⟨j10, i11, hf⟩ := gbI hf
      refine kw_iald rfl (hH_A (rfl : ktab 98 = some (0, 11))) i11.1 i11.2.1 i11.2.2 ?_
      obtain ⟨q12, hq12, hf⟩ := gbind hf
      refine kw_callV (vs := [kI (s 98 j10)]) rfl rfl rfl ⟨rfl, Nat.le_of_ble_eq_true rfl, Nat.le_of_ble_eq_true rfl, by decide⟩ (hH_O (rfl : kotab 85 = some kMo)) (c_M_ahead (s 98 j10) s _ hq12) (Nat.le_of_ble_eq_true rfl) ?_
      refine kw_step rfl rfl rfl rfl ?_
      refine kw_step rfl rfl rfl rfl ?_
      refine kw_step rfl rfl rfl rfl ?_
      refine kw_step (L' := [some (kr 85), some (kI x1), some (kI (wI (2 * (s 98 j6)))), some (kI (wI (2 * (s 99 j8)))), some (kI (wI ((wI (2 * q12)) + 1))), none]) rfl rfl rfl rfl ?_
      refine kw_step rfl rfl rfl rfl ?_
      refine kw_step rfl rfl rfl rfl ?_
      refine kw_step rfl rfl rfl rfl ?_
      refine kw_get rfl (hH_O (rfl : kotab 85 = some kMo)) rfl ?_
      refine kw_step rfl rfl rfl rfl ?_
      obtain ⟨j13, i14, hf⟩ := gbI hf
      refine kw_iald rfl (hH_A (rfl : ktab 99 = some (0, 11))) i14.1 i14.2.1 i14.2.2 ?_
      obtain ⟨q15, hq15, hf⟩ := gbind hf
      refine kw_callV (vs := [kI (s 99 j13)]) rfl rfl rfl ⟨rfl, Nat.le_of_ble_eq_true rfl, Nat.le_of_ble_eq_true rfl, by decide⟩ (hH_O (rfl : kotab 85 = some kMo)) (c_M_ahead (s 99 j13) s _ hq15) (Nat.le_of_ble_eq_true rfl) ?_
      refine kw_step rfl rfl rfl rfl ?_
      refine kw_step rfl rfl rfl rfl ?_
      refine kw_step rfl rfl rfl rfl ?_
      refine kw_step (L' := [some (kr 85), some (kI x1), some (kI (wI (2 * (s 98 j6)))), some (kI (wI (2 * (s 99 j8)))), some (kI (wI ((wI (2 * q12)) + 1))), some (kI (wI ((wI (2 * q15)) + 1)))]) rfl rfl rfl rfl ?_
      refine kw_step rfl rfl rfl rfl ?_
      refine kw_get rfl (hH_O (rfl : kotab 85 = some kMo)) rfl ?_
      refine kw_step rfl rfl rfl rfl ?_
      obtain ⟨j16, i17, hf⟩ := gbI hf
      refine kw_iald rfl (hH_A (rfl : ktab 89 = some (0, 11))) i17.1 i17.2.1 i17.2.2 ?_
      refine kw_step rfl rfl rfl rfl ?_
      refine kw_icmp_ne rfl rfl (fun c18 => ?_) (fun c18 => ?_)
      · have hf := giff c18 hf
        refine kw_step rfl rfl rfl rfl ?_
        refine kw_step rfl rfl rfl rfl ?_
        refine kw_step rfl rfl rfl rfl ?_
        refine kw_step rfl rfl rfl rfl ?_
        refine kw_step rfl rfl rfl rfl ?_
        obtain ⟨q19, hq19, hf⟩ := gbind hf
        refine kw_callV (vs := [kI (wI (2 * (s 98 j6))), kI (wI ((wI (2 * q15)) + 1)), kI (wI ((wI (2 * q12)) + 1)), kI (wI (2 * (s 99 j8)))]) rfl rfl rfl ⟨rfl, Nat.le_of_ble_eq_true rfl, Nat.le_of_ble_eq_true rfl, by decide⟩ (hH_O (rfl : kotab 85 = some kMo)) (c_M_turns (wI (2 * (s 98 j6))) (wI ((wI (2 * q15)) + 1)) (wI ((wI (2 * q12)) + 1)) (wI (2 * (s 99 j8))) s _ hq19) (Nat.le_of_ble_eq_true rfl) ?_
        exact kW_le (L' := [some (kr 85), some (kI x1), none, none, none, none]) ⟨Or.inr rfl, Or.inr rfl, Or.inl rfl, Or.inl rfl, Or.inl rfl, Or.inl rfl, trivial⟩ (b_M_fillsLand_64 x1 q19 _ hf hq)
      · have hf := gift c18 hf
        refine kw_step rfl rfl rfl rfl ?_
        refine kw_step rfl rfl rfl rfl ?_
        refine kw_step rfl rfl rfl rfl ?_
        refine kw_step rfl rfl rfl rfl ?_
        refine kw_step rfl rfl rfl rfl ?_
        obtain ⟨q21, hq21, hf⟩ := gbind hf
        refine kw_callV (vs := [kI (wI (2 * (s 98 j6))), kI (wI (2 * (s 99 j8))), kI (wI ((wI (2 * q12)) + 1)), kI (wI ((wI (2 * q15)) + 1))]) rfl rfl rfl ⟨rfl, Nat.le_of_ble_eq_true rfl, Nat.le_of_ble_eq_true rfl, by decide⟩ (hH_O (rfl : kotab 85 = some kMo)) (c_M_turns (wI (2 * (s 98 j6))) (wI (2 * (s 99 j8))) (wI ((wI (2 * q12)) + 1)) (wI ((wI (2 * q15)) + 1)) s _ hq21) (Nat.le_of_ble_eq_true rfl) ?_
        refine kw_goto rfl rfl ?_
        exact kW_le (L' := [some (kr 85), some (kI x1), none, none, none, none]) ⟨Or.inr rfl, Or.inr rfl, Or.inl rfl, Or.inl rfl, Or.inl rfl, Or.inl rfl, trivial⟩ (b_M_fillsLand_64 x1 q21 _ hf hq)
def f_M_fillsLand_2 (x1 : Int) (s : kM) : Option (kM) :=
  gL (fun (x : Int × kM) => f_M_fillsLand_2b x.1 x.2) gF (x1, s)
theorem b_M_fillsLand_2 {sc : List Int} {Q : Option kV → kH → Prop} (x1 : Int) (s : kM) (t : kM) (hf : f_M_fillsLand_2 x1 s = some t) (hq : (fun r => Q none (hH r)) t) : kW sc 2 kc_M_fillsLand 0 2 [some (kr 85), some (kI x1), none, none, none, none] [] (hH s) Q :=
  gL_ind (P := fun (x : Int × kM) => kW sc 2 kc_M_fillsLand 0 2 [some (kr 85), some (kI x.1), none, none, none, none] [] (hH x.2) Q) (q := (fun r => Q none (hH r))) (fun x t hf hq => b_M_fillsLand_2b x.1 x.2 t hf hq) gF (x1, s) t hf hq
def f_M_fillsLand (s : kM) : Option (kM) :=
  f_M_fillsLand_2 0 s
set_option maxRecDepth 8000 in
theorem c_M_fillsLand {sc : List Int} (s : kM) (t : kM) (hf : f_M_fillsLand s = some t) : kR sc 2 km_M_fillsLand [kr 85] (hH s) none (hH t) := by
  unfold f_M_fillsLand at hf
  refine kR.start rfl ?_
  show kW sc 2 kc_M_fillsLand 0 0 [some (kr 85), none, none, none, none, none] [] (hH s) _
  have hq : (fun (r : Option kV) (g : kH) => r = none ∧ g = hH t) none (hH t) := ⟨rfl, rfl⟩
  refine kw_step rfl rfl rfl rfl ?_
  refine kw_step (L' := [some (kr 85), some (kI 0), none, none, none, none]) rfl rfl rfl rfl ?_
  exact kW_le (L' := [some (kr 85), some (kI 0), none, none, none, none]) ⟨Or.inr rfl, Or.inr rfl, Or.inl rfl, Or.inl rfl, Or.inl rfl, Or.inl rfl, trivial⟩ (b_M_fillsLand_2 0 s _ hf hq)
def f_M_many (s : kM) : Option (Int) :=
  (f_M_places s).bind fun q1 => some (kdiv q1 2)
set_option maxRecDepth 8000 in
theorem c_M_many {sc : List Int} (s : kM) (t : Int) (hf : f_M_many s = some t) : kR sc 1 km_M_many [kr 85] (hH s) (some (kI t)) (hH s) := by
  unfold f_M_many at hf
  refine kR.start rfl ?_
  show kW sc 1 kc_M_many 1 0 [some (kr 85)] [] (hH s) _
  have hq : (fun (r : Option kV) (g : kH) => r = some (kI t) ∧ g = hH s) (some (kI t)) (hH s) := ⟨rfl, rfl⟩
  refine kw_step rfl rfl rfl rfl ?_
  obtain ⟨q1, hq1, hf⟩ := gbind hf
  refine kw_callV (vs := []) rfl rfl rfl ⟨rfl, Nat.le_of_ble_eq_true rfl, Nat.le_of_ble_eq_true rfl, by decide⟩ (hH_O (rfl : kotab 85 = some kMo)) (c_M_places s _ hq1) (Nat.le_of_ble_eq_true rfl) ?_
  refine kw_step rfl rfl rfl rfl ?_
  refine kw_idiv rfl (by decide) ?_
  cases hf
  exact kw_ret rfl rfl rfl hq
def f_M_next (x1 : Int) (s : kM) : Option (Int) :=
  (f_M_roadOf x1 s).bind fun q1 => (f_M_beginOf q1 s).bind fun q2 => (gI 6 (wI (1 + q1))).bind fun j3 => if (wI (x1 + 1)) = (wI (q2 + (s 86 j3))) then ((f_M_beginOf q1 s).bind fun q6 => some q6) else (some (wI (x1 + 1)))
set_option maxRecDepth 8000 in
theorem c_M_next {sc : List Int} (x1 : Int) (s : kM) (t : Int) (hf : f_M_next x1 s = some t) : kR sc 1 km_M_next [kr 85, kI x1] (hH s) (some (kI t)) (hH s) := by
  unfold f_M_next at hf
  refine kR.start rfl ?_
  show kW sc 1 kc_M_next 1 0 [some (kr 85), some (kI x1), none] [] (hH s) _
  have hq : (fun (r : Option kV) (g : kH) => r = some (kI t) ∧ g = hH s) (some (kI t)) (hH s) := ⟨rfl, rfl⟩
  refine kw_step rfl rfl rfl rfl ?_
  refine kw_step rfl rfl rfl rfl ?_
  obtain ⟨q1, hq1, hf⟩ := gbind hf
  refine kw_callV (vs := [kI x1]) rfl rfl rfl ⟨rfl, Nat.le_of_ble_eq_true rfl, Nat.le_of_ble_eq_true rfl, by decide⟩ (hH_O (rfl : kotab 85 = some kMo)) (c_M_roadOf x1 s _ hq1) (Nat.le_of_ble_eq_true rfl) ?_
  refine kw_step (L' := [some (kr 85), some (kI x1), some (kI q1)]) rfl rfl rfl rfl ?_
  refine kw_step rfl rfl rfl rfl ?_
  refine kw_step rfl rfl rfl rfl ?_
  refine kw_step rfl rfl rfl rfl ?_
  refine kw_step rfl rfl rfl rfl ?_
  refine kw_step rfl rfl rfl rfl ?_
  obtain ⟨q2, hq2, hf⟩ := gbind hf
  refine kw_callV (vs := [kI q1]) rfl rfl rfl ⟨rfl, Nat.le_of_ble_eq_true rfl, Nat.le_of_ble_eq_true rfl, by decide⟩ (hH_O (rfl : kotab 85 = some kMo)) (c_M_beginOf q1 s _ hq2) (Nat.le_of_ble_eq_true rfl) ?_
  refine kw_step rfl rfl rfl rfl ?_
  refine kw_get rfl (hH_O (rfl : kotab 85 = some kMo)) rfl ?_
  refine kw_step rfl rfl rfl rfl ?_
  refine kw_step rfl rfl rfl rfl ?_
  refine kw_step rfl rfl rfl rfl ?_
  obtain ⟨j3, i4, hf⟩ := gbI hf
  refine kw_iald rfl (hH_A (rfl : ktab 86 = some (0, 6))) i4.1 i4.2.1 i4.2.2 ?_
  refine kw_step rfl rfl rfl rfl ?_
  refine kw_icmp_ne rfl rfl (fun c5 => ?_) (fun c5 => ?_)
  · have hf := giff c5 hf
    refine kw_step rfl rfl rfl rfl ?_
    refine kw_step rfl rfl rfl rfl ?_
    refine kw_step rfl rfl rfl rfl ?_
    cases hf
    exact kw_ret rfl rfl rfl hq
  · have hf := gift c5 hf
    refine kw_step rfl rfl rfl rfl ?_
    refine kw_step rfl rfl rfl rfl ?_
    obtain ⟨q6, hq6, hf⟩ := gbind hf
    refine kw_callV (vs := [kI q1]) rfl rfl rfl ⟨rfl, Nat.le_of_ble_eq_true rfl, Nat.le_of_ble_eq_true rfl, by decide⟩ (hH_O (rfl : kotab 85 = some kMo)) (c_M_beginOf q1 s _ hq6) (Nat.le_of_ble_eq_true rfl) ?_
    refine kw_goto rfl rfl ?_
    cases hf
    exact kw_ret rfl rfl rfl hq
def f_M_groups_104 (x3 : Int) (y0 : Int) (y1 : Int) (s : kM) : Option ((Int × Int) ⊕ (Int × kM)) :=
  some (.inl ((wI (y0 + y1)), (wI (x3 + 1))))
set_option maxRecDepth 8000 in
theorem b_M_groups_104 {sc : List Int} {Q : Option kV → kH → Prop} (x3 : Int) (y0 : Int) (y1 : Int) (s : kM) (t : (Int × Int) ⊕ (Int × kM)) (hf : f_M_groups_104 x3 y0 y1 s = some t) (hq : (gE (fun x => kW sc 2 kc_M_groups 1 87 [some (kr 85), none, some (kI x.1), some (kI x.2), none, none] [] (hH s) Q) (fun r => Q (some (kI r.1)) (hH r.2))) t) : kW sc 2 kc_M_groups 1 104 [some (kr 85), none, none, some (kI x3), none, none] [kI y1, kI y0] (hH s) Q := by
  unfold f_M_groups_104 at hf
  refine kw_step rfl rfl rfl rfl ?_
  refine kw_step (L' := [some (kr 85), none, some (kI (wI (y0 + y1))), some (kI x3), none, none]) rfl rfl rfl rfl ?_
  refine kw_step (L' := [some (kr 85), none, some (kI (wI (y0 + y1))), some (kI (wI (x3 + 1))), none, none]) rfl rfl rfl rfl ?_
  refine kw_goto rfl rfl ?_
  cases hf
  exact kW_le (L' := [some (kr 85), none, some (kI (wI (y0 + y1))), some (kI (wI (x3 + 1))), none, none]) ⟨Or.inr rfl, Or.inl rfl, Or.inr rfl, Or.inr rfl, Or.inl rfl, Or.inl rfl, trivial⟩ hq
def f_M_groups_103 (x3 : Int) (y0 : Int) (s : kM) : Option ((Int × Int) ⊕ (Int × kM)) :=
  f_M_groups_104 x3 y0 0 s
set_option maxRecDepth 8000 in
theorem b_M_groups_103 {sc : List Int} {Q : Option kV → kH → Prop} (x3 : Int) (y0 : Int) (s : kM) (t : (Int × Int) ⊕ (Int × kM)) (hf : f_M_groups_103 x3 y0 s = some t) (hq : (gE (fun x => kW sc 2 kc_M_groups 1 87 [some (kr 85), none, some (kI x.1), some (kI x.2), none, none] [] (hH s) Q) (fun r => Q (some (kI r.1)) (hH r.2))) t) : kW sc 2 kc_M_groups 1 103 [some (kr 85), none, none, some (kI x3), none, none] [kI y0] (hH s) Q := by
  unfold f_M_groups_103 at hf
  refine kw_step rfl rfl rfl rfl ?_
  exact kW_le (L' := [some (kr 85), none, none, some (kI x3), none, none]) ⟨Or.inr rfl, Or.inl rfl, Or.inl rfl, Or.inr rfl, Or.inl rfl, Or.inl rfl, trivial⟩ (b_M_groups_104 x3 y0 0 s _ hf hq)
def f_M_groups_87b (x2 : Int) (x3 : Int) (s : kM) : Option ((Int × Int) ⊕ (Int × kM)) :=
  if 11 ≤ x3 then (some (.inr (x2, s))) else ((f_M_isBridge x3 s).bind fun q2 => if q2 = 0 then (f_M_groups_103 x3 x2 s) else ((gI 11 x3).bind fun j4 => if (s 104 j4) = x3 then (f_M_groups_104 x3 x2 1 s) else (f_M_groups_103 x3 x2 s)))
set_option maxRecDepth 8000 in
theorem b_M_groups_87b {sc : List Int} {Q : Option kV → kH → Prop} (x2 : Int) (x3 : Int) (s : kM) (t : (Int × Int) ⊕ (Int × kM)) (hf : f_M_groups_87b x2 x3 s = some t) (hq : (gE (fun x => kW sc 2 kc_M_groups 1 87 [some (kr 85), none, some (kI x.1), some (kI x.2), none, none] [] (hH s) Q) (fun r => Q (some (kI r.1)) (hH r.2))) t) : kW sc 2 kc_M_groups 1 87 [some (kr 85), none, some (kI x2), some (kI x3), none, none] [] (hH s) Q := by
  unfold f_M_groups_87b at hf
  refine kw_step rfl rfl rfl rfl ?_
  refine kw_step rfl rfl rfl rfl ?_
  refine kw_icmp_ge rfl rfl (fun c1 => ?_) (fun c1 => ?_)
  · have hf := gift c1 hf
    refine kw_step rfl rfl rfl rfl ?_
    cases hf
    exact kw_ret rfl rfl rfl hq
  · have hf := giff c1 hf
    refine kw_step rfl rfl rfl rfl ?_
    refine kw_step rfl rfl rfl rfl ?_
    refine kw_step rfl rfl rfl rfl ?_
    obtain ⟨q2, hq2, hf⟩ := gbind hf
    refine kw_callV (vs := [kI x3]) rfl rfl rfl ⟨rfl, Nat.le_of_ble_eq_true rfl, Nat.le_of_ble_eq_true rfl, by decide⟩ (hH_O (rfl : kotab 85 = some kMo)) (c_M_isBridge x3 s _ hq2) (Nat.le_of_ble_eq_true rfl) ?_
    refine kw_if_eq rfl rfl (fun c3 => ?_) (fun c3 => ?_)
    · have hf := gift c3 hf
      exact kW_le (L' := [some (kr 85), none, none, some (kI x3), none, none]) ⟨Or.inr rfl, Or.inl rfl, Or.inl rfl, Or.inr rfl, Or.inl rfl, Or.inl rfl, trivial⟩ (b_M_groups_103 x3 x2 s _ hf hq)
    · have hf := giff c3 hf
      refine kw_step rfl rfl rfl rfl ?_
      refine kw_get rfl (hH_O (rfl : kotab 85 = some kMo)) rfl ?_
      refine kw_step rfl rfl rfl rfl ?_
      obtain ⟨j4, i5, hf⟩ := gbI hf
      refine kw_iald rfl (hH_A (rfl : ktab 104 = some (0, 11))) i5.1 i5.2.1 i5.2.2 ?_
      refine kw_step rfl rfl rfl rfl ?_
      refine kw_icmp_ne rfl rfl (fun c6 => ?_) (fun c6 => ?_)
      · have hf := giff c6 hf
        exact kW_le (L' := [some (kr 85), none, none, some (kI x3), none, none]) ⟨Or.inr rfl, Or.inl rfl, Or.inl rfl, Or.inr rfl, Or.inl rfl, Or.inl rfl, trivial⟩ (b_M_groups_103 x3 x2 s _ hf hq)
      · have hf := gift c6 hf
        refine kw_step rfl rfl rfl rfl ?_
        refine kw_goto rfl rfl ?_
        exact kW_le (L' := [some (kr 85), none, none, some (kI x3), none, none]) ⟨Or.inr rfl, Or.inl rfl, Or.inl rfl, Or.inr rfl, Or.inl rfl, Or.inl rfl, trivial⟩ (b_M_groups_104 x3 x2 1 s _ hf hq)
def f_M_groups_87 (x2 : Int) (x3 : Int) (s : kM) : Option (Int × kM) :=
  gL (fun (x : Int × Int) => f_M_groups_87b x.1 x.2 s) gF (x2, x3)
theorem b_M_groups_87 {sc : List Int} {Q : Option kV → kH → Prop} (x2 : Int) (x3 : Int) (s : kM) (t : Int × kM) (hf : f_M_groups_87 x2 x3 s = some t) (hq : (fun r => Q (some (kI r.1)) (hH r.2)) t) : kW sc 2 kc_M_groups 1 87 [some (kr 85), none, some (kI x2), some (kI x3), none, none] [] (hH s) Q :=
  gL_ind (P := fun (x : Int × Int) => kW sc 2 kc_M_groups 1 87 [some (kr 85), none, some (kI x.1), some (kI x.2), none, none] [] (hH s) Q) (q := (fun r => Q (some (kI r.1)) (hH r.2))) (fun x t hf hq => b_M_groups_87b x.1 x.2 s t hf hq) gF (x2, x3) t hf hq
def f_M_groups_69 (x2 : Int) (x3 : Int) (x4 : Int) (x5 : Int) (y0 : Int) (s : kM) : Option ((Int × Int × kM) ⊕ ((Int × kM) ⊕ (Int × kM))) :=
  (gI 11 x3).bind fun j1 => gLet (gU s 104 j1 x5) fun s3 => (gI 11 x4).bind fun j6 => gLet (gU s3 104 j6 x5) fun s8 => some (.inl (y0, (wI (x2 + 1)), s8))
set_option maxRecDepth 8000 in
theorem b_M_groups_69 {sc : List Int} {Q : Option kV → kH → Prop} (x2 : Int) (x3 : Int) (x4 : Int) (x5 : Int) (y0 : Int) (s : kM) (t : (Int × Int × kM) ⊕ ((Int × kM) ⊕ (Int × kM))) (hf : f_M_groups_69 x2 x3 x4 x5 y0 s = some t) (hq : (gE (fun x => kW sc 2 kc_M_groups 1 20 [some (kr 85), some (kI x.1), some (kI x.2.1), none, none, none] [] (hH x.2.2) Q) (gE (fun x => kW sc 2 kc_M_groups 1 14 [some (kr 85), some (kI x.1), none, none, none, none] [] (hH x.2) Q) (fun r => Q (some (kI r.1)) (hH r.2)))) t) : kW sc 2 kc_M_groups 1 69 [some (kr 85), none, some (kI x2), some (kI x3), some (kI x4), some (kI x5)] [kI y0] (hH s) Q := by
  unfold f_M_groups_69 at hf
  refine kw_step (L' := [some (kr 85), some (kI y0), some (kI x2), some (kI x3), some (kI x4), some (kI x5)]) rfl rfl rfl rfl ?_
  refine kw_step rfl rfl rfl rfl ?_
  refine kw_get rfl (hH_O (rfl : kotab 85 = some kMo)) rfl ?_
  refine kw_step rfl rfl rfl rfl ?_
  refine kw_step rfl rfl rfl rfl ?_
  obtain ⟨j1, i2, hf⟩ := gbI hf
  obtain ⟨s3, ee4, hf⟩ := gbL hf
  refine kw_iastH rfl (rfl : ktab 104 = some (0, 11)) i2.1 i2.2.1 i2.2.2 ee4 ?_
  refine kw_step rfl rfl rfl rfl ?_
  refine kw_get rfl (hH_O (rfl : kotab 85 = some kMo)) rfl ?_
  refine kw_step rfl rfl rfl rfl ?_
  refine kw_step rfl rfl rfl rfl ?_
  obtain ⟨j6, i7, hf⟩ := gbI hf
  obtain ⟨s8, ee9, hf⟩ := gbL hf
  refine kw_iastH rfl (rfl : ktab 104 = some (0, 11)) i7.1 i7.2.1 i7.2.2 ee9 ?_
  refine kw_step (L' := [some (kr 85), some (kI y0), some (kI (wI (x2 + 1))), some (kI x3), some (kI x4), some (kI x5)]) rfl rfl rfl rfl ?_
  refine kw_goto rfl rfl ?_
  cases hf
  exact kW_le (L' := [some (kr 85), some (kI y0), some (kI (wI (x2 + 1))), none, none, none]) ⟨Or.inr rfl, Or.inr rfl, Or.inr rfl, Or.inl rfl, Or.inl rfl, Or.inl rfl, trivial⟩ hq
def f_M_groups_66 (x2 : Int) (x3 : Int) (x4 : Int) (x5 : Int) (s : kM) : Option ((Int × Int × kM) ⊕ ((Int × kM) ⊕ (Int × kM))) :=
  f_M_groups_69 x2 x3 x4 x5 1 s
set_option maxRecDepth 8000 in
theorem b_M_groups_66 {sc : List Int} {Q : Option kV → kH → Prop} (x2 : Int) (x3 : Int) (x4 : Int) (x5 : Int) (s : kM) (t : (Int × Int × kM) ⊕ ((Int × kM) ⊕ (Int × kM))) (hf : f_M_groups_66 x2 x3 x4 x5 s = some t) (hq : (gE (fun x => kW sc 2 kc_M_groups 1 20 [some (kr 85), some (kI x.1), some (kI x.2.1), none, none, none] [] (hH x.2.2) Q) (gE (fun x => kW sc 2 kc_M_groups 1 14 [some (kr 85), some (kI x.1), none, none, none, none] [] (hH x.2) Q) (fun r => Q (some (kI r.1)) (hH r.2)))) t) : kW sc 2 kc_M_groups 1 66 [some (kr 85), none, some (kI x2), some (kI x3), some (kI x4), some (kI x5)] [] (hH s) Q := by
  unfold f_M_groups_66 at hf
  refine kw_step rfl rfl rfl rfl ?_
  refine kw_goto rfl rfl ?_
  exact kW_le (L' := [some (kr 85), none, some (kI x2), some (kI x3), some (kI x4), some (kI x5)]) ⟨Or.inr rfl, Or.inl rfl, Or.inr rfl, Or.inr rfl, Or.inr rfl, Or.inr rfl, trivial⟩ (b_M_groups_69 x2 x3 x4 x5 1 s _ hf hq)
def f_M_groups_54 (x1 : Int) (x2 : Int) (x3 : Int) (x4 : Int) (y0 : Int) (s : kM) : Option ((Int × Int × kM) ⊕ ((Int × kM) ⊕ (Int × kM))) :=
  if x1 = 0 then ((gI 11 x3).bind fun j2 => (gI 11 x4).bind fun j4 => if (s 104 j2) = (s 104 j4) then (f_M_groups_69 x2 x3 x4 y0 0 s) else (f_M_groups_66 x2 x3 x4 y0 s)) else (f_M_groups_66 x2 x3 x4 y0 s)
set_option maxRecDepth 8000 in
theorem b_M_groups_54 {sc : List Int} {Q : Option kV → kH → Prop} (x1 : Int) (x2 : Int) (x3 : Int) (x4 : Int) (y0 : Int) (s : kM) (t : (Int × Int × kM) ⊕ ((Int × kM) ⊕ (Int × kM))) (hf : f_M_groups_54 x1 x2 x3 x4 y0 s = some t) (hq : (gE (fun x => kW sc 2 kc_M_groups 1 20 [some (kr 85), some (kI x.1), some (kI x.2.1), none, none, none] [] (hH x.2.2) Q) (gE (fun x => kW sc 2 kc_M_groups 1 14 [some (kr 85), some (kI x.1), none, none, none, none] [] (hH x.2) Q) (fun r => Q (some (kI r.1)) (hH r.2)))) t) : kW sc 2 kc_M_groups 1 54 [some (kr 85), some (kI x1), some (kI x2), some (kI x3), some (kI x4), none] [kI y0] (hH s) Q := by
  unfold f_M_groups_54 at hf
  refine kw_step (L' := [some (kr 85), some (kI x1), some (kI x2), some (kI x3), some (kI x4), some (kI y0)]) rfl rfl rfl rfl ?_
  refine kw_step rfl rfl rfl rfl ?_
  refine kw_if_ne rfl rfl (fun c1 => ?_) (fun c1 => ?_)
  · have hf := giff c1 hf
    exact kW_le (L' := [some (kr 85), none, some (kI x2), some (kI x3), some (kI x4), some (kI y0)]) ⟨Or.inr rfl, Or.inl rfl, Or.inr rfl, Or.inr rfl, Or.inr rfl, Or.inr rfl, trivial⟩ (b_M_groups_66 x2 x3 x4 y0 s _ hf hq)
  · have hf := gift c1 hf
    refine kw_step rfl rfl rfl rfl ?_
    refine kw_get rfl (hH_O (rfl : kotab 85 = some kMo)) rfl ?_
    refine kw_step rfl rfl rfl rfl ?_
    obtain ⟨j2, i3, hf⟩ := gbI hf
    refine kw_iald rfl (hH_A (rfl : ktab 104 = some (0, 11))) i3.1 i3.2.1 i3.2.2 ?_
    refine kw_step rfl rfl rfl rfl ?_
    refine kw_get rfl (hH_O (rfl : kotab 85 = some kMo)) rfl ?_
    refine kw_step rfl rfl rfl rfl ?_
    obtain ⟨j4, i5, hf⟩ := gbI hf
    refine kw_iald rfl (hH_A (rfl : ktab 104 = some (0, 11))) i5.1 i5.2.1 i5.2.2 ?_
    refine kw_icmp_eq rfl rfl (fun c6 => ?_) (fun c6 => ?_)
    · have hf := gift c6 hf
      refine kw_step rfl rfl rfl rfl ?_
      exact kW_le (L' := [some (kr 85), none, some (kI x2), some (kI x3), some (kI x4), some (kI y0)]) ⟨Or.inr rfl, Or.inl rfl, Or.inr rfl, Or.inr rfl, Or.inr rfl, Or.inr rfl, trivial⟩ (b_M_groups_69 x2 x3 x4 y0 0 s _ hf hq)
    · have hf := giff c6 hf
      exact kW_le (L' := [some (kr 85), none, some (kI x2), some (kI x3), some (kI x4), some (kI y0)]) ⟨Or.inr rfl, Or.inl rfl, Or.inr rfl, Or.inr rfl, Or.inr rfl, Or.inr rfl, trivial⟩ (b_M_groups_66 x2 x3 x4 y0 s _ hf hq)
def f_M_groups_20b (x1 : Int) (x2 : Int) (s : kM) : Option ((Int × Int × kM) ⊕ ((Int × kM) ⊕ (Int × kM))) :=
  (f_M_places s).bind fun q1 => if q1 ≤ x2 then (some (.inr (.inl (x1, s)))) else ((gI 22 x2).bind fun j3 => (f_M_next x2 s).bind fun q5 => (gI 22 q5).bind fun j6 => (gI 11 (s 87 j3)).bind fun j8 => (gI 11 (s 87 j6)).bind fun j10 => if (s 104 j10) ≤ (s 104 j8) then ((gI 11 (s 87 j6)).bind fun j13 => f_M_groups_54 x1 x2 (s 87 j3) (s 87 j6) (s 104 j13) s) else ((gI 11 (s 87 j3)).bind fun j15 => f_M_groups_54 x1 x2 (s 87 j3) (s 87 j6) (s 104 j15) s))
set_option maxRecDepth 8000 in
theorem b_M_groups_20b {sc : List Int} {Q : Option kV → kH → Prop} (x1 : Int) (x2 : Int) (s : kM) (t : (Int × Int × kM) ⊕ ((Int × kM) ⊕ (Int × kM))) (hf : f_M_groups_20b x1 x2 s = some t) (hq : (gE (fun x => kW sc 2 kc_M_groups 1 20 [some (kr 85), some (kI x.1), some (kI x.2.1), none, none, none] [] (hH x.2.2) Q) (gE (fun x => kW sc 2 kc_M_groups 1 14 [some (kr 85), some (kI x.1), none, none, none, none] [] (hH x.2) Q) (fun r => Q (some (kI r.1)) (hH r.2)))) t) : kW sc 2 kc_M_groups 1 20 [some (kr 85), some (kI x1), some (kI x2), none, none, none] [] (hH s) Q := by
  unfold f_M_groups_20b at hf
  refine kw_step rfl rfl rfl rfl ?_
  refine kw_step rfl rfl rfl rfl ?_
  obtain ⟨q1, hq1, hf⟩ := gbind hf
  refine kw_callV (vs := []) rfl rfl rfl ⟨rfl, Nat.le_of_ble_eq_true rfl, Nat.le_of_ble_eq_true rfl, by decide⟩ (hH_O (rfl : kotab 85 = some kMo)) (c_M_places s _ hq1) (Nat.le_of_ble_eq_true rfl) ?_
  refine kw_icmp_ge rfl rfl (fun c2 => ?_) (fun c2 => ?_)
  · have hf := gift c2 hf
    refine kw_goto rfl rfl ?_
    cases hf
    exact kW_le (L' := [some (kr 85), some (kI x1), none, none, none, none]) ⟨Or.inr rfl, Or.inr rfl, Or.inl rfl, Or.inl rfl, Or.inl rfl, Or.inl rfl, trivial⟩ hq
  · have hf := giff c2 hf
    refine kw_step rfl rfl rfl rfl ?_
    refine kw_get rfl (hH_O (rfl : kotab 85 = some kMo)) rfl ?_
    refine kw_step rfl rfl rfl rfl ?_
    obtain ⟨j3, i4, hf⟩ := gbI hf
    refine kw_iald rfl (hH_A (rfl : ktab 87 = some (0, 22))) i4.1 i4.2.1 i4.2.2 ?_
    refine kw_step (L' := [some (kr 85), some (kI x1), some (kI x2), some (kI (s 87 j3)), none, none]) rfl rfl rfl rfl ?_
    refine kw_step rfl rfl rfl rfl ?_
    refine kw_get rfl (hH_O (rfl : kotab 85 = some kMo)) rfl ?_
    refine kw_step rfl rfl rfl rfl ?_
    refine kw_step rfl rfl rfl rfl ?_
    obtain ⟨q5, hq5, hf⟩ := gbind hf
    refine kw_callV (vs := [kI x2]) rfl rfl rfl ⟨rfl, Nat.le_of_ble_eq_true rfl, Nat.le_of_ble_eq_true rfl, by decide⟩ (hH_O (rfl : kotab 85 = some kMo)) (c_M_next x2 s _ hq5) (Nat.le_of_ble_eq_true rfl) ?_
    obtain ⟨j6, i7, hf⟩ := gbI hf
    refine kw_iald rfl (hH_A (rfl : ktab 87 = some (0, 22))) i7.1 i7.2.1 i7.2.2 ?_
    refine kw_step (L' := [some (kr 85), some (kI x1), some (kI x2), some (kI (s 87 j3)), some (kI (s 87 j6)), none]) rfl rfl rfl rfl ?_
    refine kw_step rfl rfl rfl rfl ?_
    refine kw_get rfl (hH_O (rfl : kotab 85 = some kMo)) rfl ?_
    refine kw_step rfl rfl rfl rfl ?_
    obtain ⟨j8, i9, hf⟩ := gbI hf
    refine kw_iald rfl (hH_A (rfl : ktab 104 = some (0, 11))) i9.1 i9.2.1 i9.2.2 ?_
    refine kw_step rfl rfl rfl rfl ?_
    refine kw_get rfl (hH_O (rfl : kotab 85 = some kMo)) rfl ?_
    refine kw_step rfl rfl rfl rfl ?_
    obtain ⟨j10, i11, hf⟩ := gbI hf
    refine kw_iald rfl (hH_A (rfl : ktab 104 = some (0, 11))) i11.1 i11.2.1 i11.2.2 ?_
    refine kw_icmp_ge rfl rfl (fun c12 => ?_) (fun c12 => ?_)
    · have hf := gift c12 hf
      refine kw_step rfl rfl rfl rfl ?_
      refine kw_get rfl (hH_O (rfl : kotab 85 = some kMo)) rfl ?_
      refine kw_step rfl rfl rfl rfl ?_
      obtain ⟨j13, i14, hf⟩ := gbI hf
      refine kw_iald rfl (hH_A (rfl : ktab 104 = some (0, 11))) i14.1 i14.2.1 i14.2.2 ?_
      exact kW_le (L' := [some (kr 85), some (kI x1), some (kI x2), some (kI (s 87 j3)), some (kI (s 87 j6)), none]) ⟨Or.inr rfl, Or.inr rfl, Or.inr rfl, Or.inr rfl, Or.inr rfl, Or.inl rfl, trivial⟩ (b_M_groups_54 x1 x2 (s 87 j3) (s 87 j6) (s 104 j13) s _ hf hq)
    · have hf := giff c12 hf
      refine kw_step rfl rfl rfl rfl ?_
      refine kw_get rfl (hH_O (rfl : kotab 85 = some kMo)) rfl ?_
      refine kw_step rfl rfl rfl rfl ?_
      obtain ⟨j15, i16, hf⟩ := gbI hf
      refine kw_iald rfl (hH_A (rfl : ktab 104 = some (0, 11))) i16.1 i16.2.1 i16.2.2 ?_
      refine kw_goto rfl rfl ?_
      exact kW_le (L' := [some (kr 85), some (kI x1), some (kI x2), some (kI (s 87 j3)), some (kI (s 87 j6)), none]) ⟨Or.inr rfl, Or.inr rfl, Or.inr rfl, Or.inr rfl, Or.inr rfl, Or.inl rfl, trivial⟩ (b_M_groups_54 x1 x2 (s 87 j3) (s 87 j6) (s 104 j15) s _ hf hq)
def f_M_groups_20 (x1 : Int) (x2 : Int) (s : kM) : Option ((Int × kM) ⊕ (Int × kM)) :=
  gL (fun (x : Int × Int × kM) => f_M_groups_20b x.1 x.2.1 x.2.2) gF (x1, x2, s)
theorem b_M_groups_20 {sc : List Int} {Q : Option kV → kH → Prop} (x1 : Int) (x2 : Int) (s : kM) (t : (Int × kM) ⊕ (Int × kM)) (hf : f_M_groups_20 x1 x2 s = some t) (hq : (gE (fun x => kW sc 2 kc_M_groups 1 14 [some (kr 85), some (kI x.1), none, none, none, none] [] (hH x.2) Q) (fun r => Q (some (kI r.1)) (hH r.2))) t) : kW sc 2 kc_M_groups 1 20 [some (kr 85), some (kI x1), some (kI x2), none, none, none] [] (hH s) Q :=
  gL_ind (P := fun (x : Int × Int × kM) => kW sc 2 kc_M_groups 1 20 [some (kr 85), some (kI x.1), some (kI x.2.1), none, none, none] [] (hH x.2.2) Q) (q := (gE (fun x => kW sc 2 kc_M_groups 1 14 [some (kr 85), some (kI x.1), none, none, none, none] [] (hH x.2) Q) (fun r => Q (some (kI r.1)) (hH r.2)))) (fun x t hf hq => b_M_groups_20b x.1 x.2.1 x.2.2 t hf hq) gF (x1, x2, s) t hf hq
def f_M_groups_14b (x1 : Int) (s : kM) : Option ((Int × kM) ⊕ (Int × kM)) :=
  if x1 = 0 then ((f_M_groups_87 0 0 s).map Sum.inr) else (f_M_groups_20 0 0 s)
set_option maxRecDepth 8000 in
theorem b_M_groups_14b {sc : List Int} {Q : Option kV → kH → Prop} (x1 : Int) (s : kM) (t : (Int × kM) ⊕ (Int × kM)) (hf : f_M_groups_14b x1 s = some t) (hq : (gE (fun x => kW sc 2 kc_M_groups 1 14 [some (kr 85), some (kI x.1), none, none, none, none] [] (hH x.2) Q) (fun r => Q (some (kI r.1)) (hH r.2))) t) : kW sc 2 kc_M_groups 1 14 [some (kr 85), some (kI x1), none, none, none, none] [] (hH s) Q := by
  unfold f_M_groups_14b at hf
  refine kw_step rfl rfl rfl rfl ?_
  refine kw_if_eq rfl rfl (fun c1 => ?_) (fun c1 => ?_)
  · have hf := gift c1 hf
    refine kw_step rfl rfl rfl rfl ?_
    refine kw_step (L' := [some (kr 85), some (kI x1), some (kI 0), none, none, none]) rfl rfl rfl rfl ?_
    refine kw_step rfl rfl rfl rfl ?_
    refine kw_step (L' := [some (kr 85), some (kI x1), some (kI 0), some (kI 0), none, none]) rfl rfl rfl rfl ?_
    obtain ⟨t2, hg3, rfl⟩ := gmap hf
    exact kW_le (L' := [some (kr 85), none, some (kI 0), some (kI 0), none, none]) ⟨Or.inr rfl, Or.inl rfl, Or.inr rfl, Or.inr rfl, Or.inl rfl, Or.inl rfl, trivial⟩ (b_M_groups_87 0 0 s _ hg3 hq)
  · have hf := giff c1 hf
    refine kw_step rfl rfl rfl rfl ?_
    refine kw_step (L' := [some (kr 85), some (kI 0), none, none, none, none]) rfl rfl rfl rfl ?_
    refine kw_step rfl rfl rfl rfl ?_
    refine kw_step (L' := [some (kr 85), some (kI 0), some (kI 0), none, none, none]) rfl rfl rfl rfl ?_
    exact kW_le (L' := [some (kr 85), some (kI 0), some (kI 0), none, none, none]) ⟨Or.inr rfl, Or.inr rfl, Or.inr rfl, Or.inl rfl, Or.inl rfl, Or.inl rfl, trivial⟩ (b_M_groups_20 0 0 s _ hf hq)
def f_M_groups_14 (x1 : Int) (s : kM) : Option (Int × kM) :=
  gL (fun (x : Int × kM) => f_M_groups_14b x.1 x.2) gF (x1, s)
theorem b_M_groups_14 {sc : List Int} {Q : Option kV → kH → Prop} (x1 : Int) (s : kM) (t : Int × kM) (hf : f_M_groups_14 x1 s = some t) (hq : (fun r => Q (some (kI r.1)) (hH r.2)) t) : kW sc 2 kc_M_groups 1 14 [some (kr 85), some (kI x1), none, none, none, none] [] (hH s) Q :=
  gL_ind (P := fun (x : Int × kM) => kW sc 2 kc_M_groups 1 14 [some (kr 85), some (kI x.1), none, none, none, none] [] (hH x.2) Q) (q := (fun r => Q (some (kI r.1)) (hH r.2))) (fun x t hf hq => b_M_groups_14b x.1 x.2 t hf hq) gF (x1, s) t hf hq
def f_M_groups_2b (x1 : Int) (s : kM) : Option ((Int × kM) ⊕ (Int × kM)) :=
  if 11 ≤ x1 then ((f_M_groups_14 1 s).map Sum.inr) else ((gI 11 x1).bind fun j4 => gLet (gU s 104 j4 x1) fun s6 => some (.inl ((wI (x1 + 1)), s6)))
set_option maxRecDepth 8000 in
theorem b_M_groups_2b {sc : List Int} {Q : Option kV → kH → Prop} (x1 : Int) (s : kM) (t : (Int × kM) ⊕ (Int × kM)) (hf : f_M_groups_2b x1 s = some t) (hq : (gE (fun x => kW sc 2 kc_M_groups 1 2 [some (kr 85), some (kI x.1), none, none, none, none] [] (hH x.2) Q) (fun r => Q (some (kI r.1)) (hH r.2))) t) : kW sc 2 kc_M_groups 1 2 [some (kr 85), some (kI x1), none, none, none, none] [] (hH s) Q := by
  unfold f_M_groups_2b at hf
  refine kw_step rfl rfl rfl rfl ?_
  refine kw_step rfl rfl rfl rfl ?_
  refine kw_icmp_ge rfl rfl (fun c1 => ?_) (fun c1 => ?_)
  · have hf := gift c1 hf
    refine kw_step rfl rfl rfl rfl ?_
    refine kw_step (L' := [some (kr 85), some (kI 1), none, none, none, none]) rfl rfl rfl rfl ?_
    obtain ⟨t2, hg3, rfl⟩ := gmap hf
    exact kW_le (L' := [some (kr 85), some (kI 1), none, none, none, none]) ⟨Or.inr rfl, Or.inr rfl, Or.inl rfl, Or.inl rfl, Or.inl rfl, Or.inl rfl, trivial⟩ (b_M_groups_14 1 s _ hg3 hq)
  · have hf := giff c1 hf
    refine kw_step rfl rfl rfl rfl ?_
    refine kw_get rfl (hH_O (rfl : kotab 85 = some kMo)) rfl ?_
    refine kw_step rfl rfl rfl rfl ?_
    refine kw_step rfl rfl rfl rfl ?_
    obtain ⟨j4, i5, hf⟩ := gbI hf
    obtain ⟨s6, ee7, hf⟩ := gbL hf
    refine kw_iastH rfl (rfl : ktab 104 = some (0, 11)) i5.1 i5.2.1 i5.2.2 ee7 ?_
    refine kw_step (L' := [some (kr 85), some (kI (wI (x1 + 1))), none, none, none, none]) rfl rfl rfl rfl ?_
    refine kw_goto rfl rfl ?_
    cases hf
    exact kW_le (L' := [some (kr 85), some (kI (wI (x1 + 1))), none, none, none, none]) ⟨Or.inr rfl, Or.inr rfl, Or.inl rfl, Or.inl rfl, Or.inl rfl, Or.inl rfl, trivial⟩ hq
def f_M_groups_2 (x1 : Int) (s : kM) : Option (Int × kM) :=
  gL (fun (x : Int × kM) => f_M_groups_2b x.1 x.2) gF (x1, s)
theorem b_M_groups_2 {sc : List Int} {Q : Option kV → kH → Prop} (x1 : Int) (s : kM) (t : Int × kM) (hf : f_M_groups_2 x1 s = some t) (hq : (fun r => Q (some (kI r.1)) (hH r.2)) t) : kW sc 2 kc_M_groups 1 2 [some (kr 85), some (kI x1), none, none, none, none] [] (hH s) Q :=
  gL_ind (P := fun (x : Int × kM) => kW sc 2 kc_M_groups 1 2 [some (kr 85), some (kI x.1), none, none, none, none] [] (hH x.2) Q) (q := (fun r => Q (some (kI r.1)) (hH r.2))) (fun x t hf hq => b_M_groups_2b x.1 x.2 t hf hq) gF (x1, s) t hf hq
def f_M_groups (s : kM) : Option (Int × kM) :=
  f_M_groups_2 0 s
set_option maxRecDepth 8000 in
theorem c_M_groups {sc : List Int} (s : kM) (t : Int × kM) (hf : f_M_groups s = some t) : kR sc 2 km_M_groups [kr 85] (hH s) (some (kI t.1)) (hH t.2) := by
  unfold f_M_groups at hf
  refine kR.start rfl ?_
  show kW sc 2 kc_M_groups 1 0 [some (kr 85), none, none, none, none, none] [] (hH s) _
  have hq : (fun (r : Option kV) (g : kH) => r = some (kI t.1) ∧ g = hH t.2) (some (kI t.1)) (hH t.2) := ⟨rfl, rfl⟩
  refine kw_step rfl rfl rfl rfl ?_
  refine kw_step (L' := [some (kr 85), some (kI 0), none, none, none, none]) rfl rfl rfl rfl ?_
  exact kW_le (L' := [some (kr 85), some (kI 0), none, none, none, none]) ⟨Or.inr rfl, Or.inr rfl, Or.inl rfl, Or.inl rfl, Or.inl rfl, Or.inl rfl, trivial⟩ (b_M_groups_2 0 s _ hf hq)
def f_M_canBeDrawn (s : kM) : Option (Int × kM) :=
  (f_M_fillsLand s).bind fun q1 => (f_M_many q1).bind fun q3 => (f_M_groups q1).bind fun q4 => if (q1 85 20) = (wI (q3 + (wI (2 * q4.1)))) then (some (1, q4.2)) else (some (0, q4.2))
set_option maxRecDepth 8000 in
theorem c_M_canBeDrawn {sc : List Int} (s : kM) (t : Int × kM) (hf : f_M_canBeDrawn s = some t) : kR sc 3 km_M_canBeDrawn [kr 85] (hH s) (some (kI t.1)) (hH t.2) := by
  unfold f_M_canBeDrawn at hf
  refine kR.start rfl ?_
  show kW sc 3 kc_M_canBeDrawn 2 0 [some (kr 85)] [] (hH s) _
  have hq : (fun (r : Option kV) (g : kH) => r = some (kI t.1) ∧ g = hH t.2) (some (kI t.1)) (hH t.2) := ⟨rfl, rfl⟩
  refine kw_step rfl rfl rfl rfl ?_
  obtain ⟨q1, hq1, hf⟩ := gbind hf
  refine kw_callV (vs := []) rfl rfl rfl ⟨rfl, Nat.le_of_ble_eq_true rfl, Nat.le_of_ble_eq_true rfl, by decide⟩ (hH_O (rfl : kotab 85 = some kMo)) (c_M_fillsLand s _ hq1) (Nat.le_of_ble_eq_true rfl) ?_
  refine kw_step rfl rfl rfl rfl ?_
  refine kw_get rfl (hH_O (rfl : kotab 85 = some kMo)) rfl ?_
  refine kw_step rfl rfl rfl rfl ?_
  obtain ⟨q3, hq3, hf⟩ := gbind hf
  refine kw_callV (vs := []) rfl rfl rfl ⟨rfl, Nat.le_of_ble_eq_true rfl, Nat.le_of_ble_eq_true rfl, by decide⟩ (hH_O (rfl : kotab 85 = some kMo)) (c_M_many q1 _ hq3) (Nat.le_of_ble_eq_true rfl) ?_
  refine kw_step rfl rfl rfl rfl ?_
  refine kw_step rfl rfl rfl rfl ?_
  obtain ⟨q4, hq4, hf⟩ := gbind hf
  refine kw_callV (vs := []) rfl rfl rfl ⟨rfl, Nat.le_of_ble_eq_true rfl, Nat.le_of_ble_eq_true rfl, by decide⟩ (hH_O (rfl : kotab 85 = some kMo)) (c_M_groups q1 _ hq4) (Nat.le_of_ble_eq_true rfl) ?_
  refine kw_step rfl rfl rfl rfl ?_
  refine kw_step rfl rfl rfl rfl ?_
  refine kw_icmp_ne rfl rfl (fun c6 => ?_) (fun c6 => ?_)
  · have hf := giff c6 hf
    refine kw_step rfl rfl rfl rfl ?_
    cases hf
    exact kw_ret rfl rfl rfl hq
  · have hf := gift c6 hf
    refine kw_step rfl rfl rfl rfl ?_
    refine kw_goto rfl rfl ?_
    cases hf
    exact kw_ret rfl rfl rfl hq
def f_M_laysBack (s : kM) : Option (kM) :=
  (f_M_lay 94 6 86 6 s).bind fun q1 => (f_M_lay 95 22 87 22 q1).bind fun q3 => (f_M_lay 96 22 88 22 q3).bind fun q5 => (f_M_lay 97 11 89 11 q5).bind fun q7 => (f_M_refresh q7).bind fun q9 => some q9
set_option maxRecDepth 8000 in
theorem c_M_laysBack {sc : List Int} (s : kM) (t : kM) (hf : f_M_laysBack s = some t) : kR sc 2 km_M_laysBack [kr 85] (hH s) none (hH t) := by
  unfold f_M_laysBack at hf
  refine kR.start rfl ?_
  show kW sc 2 kc_M_laysBack 0 0 [some (kr 85)] [] (hH s) _
  have hq : (fun (r : Option kV) (g : kH) => r = none ∧ g = hH t) none (hH t) := ⟨rfl, rfl⟩
  refine kw_step rfl rfl rfl rfl ?_
  refine kw_get rfl (hH_O (rfl : kotab 85 = some kMo)) rfl ?_
  refine kw_step rfl rfl rfl rfl ?_
  refine kw_get rfl (hH_O (rfl : kotab 85 = some kMo)) rfl ?_
  obtain ⟨q1, hq1, hf⟩ := gbind hf
  refine kw_callS (vs := [kr 94, kr 86]) rfl rfl rfl ⟨rfl, Nat.le_of_ble_eq_true rfl, Nat.le_of_ble_eq_true rfl, rfl⟩ (c_M_lay 94 6 86 6 (rfl : ktab 94 = some (0, 6)) (rfl : ktab 86 = some (0, 6)) s _ hq1) (Nat.le_of_ble_eq_true rfl) ?_
  refine kw_step rfl rfl rfl rfl ?_
  refine kw_get rfl (hH_O (rfl : kotab 85 = some kMo)) rfl ?_
  refine kw_step rfl rfl rfl rfl ?_
  refine kw_get rfl (hH_O (rfl : kotab 85 = some kMo)) rfl ?_
  obtain ⟨q3, hq3, hf⟩ := gbind hf
  refine kw_callS (vs := [kr 95, kr 87]) rfl rfl rfl ⟨rfl, Nat.le_of_ble_eq_true rfl, Nat.le_of_ble_eq_true rfl, rfl⟩ (c_M_lay 95 22 87 22 (rfl : ktab 95 = some (0, 22)) (rfl : ktab 87 = some (0, 22)) q1 _ hq3) (Nat.le_of_ble_eq_true rfl) ?_
  refine kw_step rfl rfl rfl rfl ?_
  refine kw_get rfl (hH_O (rfl : kotab 85 = some kMo)) rfl ?_
  refine kw_step rfl rfl rfl rfl ?_
  refine kw_get rfl (hH_O (rfl : kotab 85 = some kMo)) rfl ?_
  obtain ⟨q5, hq5, hf⟩ := gbind hf
  refine kw_callS (vs := [kr 96, kr 88]) rfl rfl rfl ⟨rfl, Nat.le_of_ble_eq_true rfl, Nat.le_of_ble_eq_true rfl, rfl⟩ (c_M_lay 96 22 88 22 (rfl : ktab 96 = some (0, 22)) (rfl : ktab 88 = some (0, 22)) q3 _ hq5) (Nat.le_of_ble_eq_true rfl) ?_
  refine kw_step rfl rfl rfl rfl ?_
  refine kw_get rfl (hH_O (rfl : kotab 85 = some kMo)) rfl ?_
  refine kw_step rfl rfl rfl rfl ?_
  refine kw_get rfl (hH_O (rfl : kotab 85 = some kMo)) rfl ?_
  obtain ⟨q7, hq7, hf⟩ := gbind hf
  refine kw_callS (vs := [kr 97, kr 89]) rfl rfl rfl ⟨rfl, Nat.le_of_ble_eq_true rfl, Nat.le_of_ble_eq_true rfl, rfl⟩ (c_M_lay 97 11 89 11 (rfl : ktab 97 = some (0, 11)) (rfl : ktab 89 = some (0, 11)) q5 _ hq7) (Nat.le_of_ble_eq_true rfl) ?_
  refine kw_step rfl rfl rfl rfl ?_
  obtain ⟨q9, hq9, hf⟩ := gbind hf
  refine kw_callV (vs := []) rfl rfl rfl ⟨rfl, Nat.le_of_ble_eq_true rfl, Nat.le_of_ble_eq_true rfl, by decide⟩ (hH_O (rfl : kotab 85 = some kMo)) (c_M_refresh q7 _ hq9) (Nat.le_of_ble_eq_true rfl) ?_
  cases hf
  exact kw_ret rfl rfl rfl hq
