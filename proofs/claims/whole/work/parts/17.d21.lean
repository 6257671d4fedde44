/-! PRINTED by wip/whole/decall.py: methods as functions over the flat world, with their contracts -/
def f_M_changes1 (x1 : Int) (s : kM) : Option (kM) :=
  (gI 11 x1).bind fun j1 => (gI 22 (s 98 j1)).bind fun j3 => gLet (gU s 88 j3 0) fun s5 => (gI 11 x1).bind fun j8 => (gI 22 (s5 99 j8)).bind fun j10 => gLet (gU s5 88 j10 1) fun s12 => (gI 11 x1).bind fun j15 => (gI 11 x1).bind fun j17 => gLet (gU s12 89 j17 (wI (1 - (s12 89 j15)))) fun s19 => (f_M_refresh s19).bind fun q22 => some q22
set_option maxRecDepth 8000 in
theorem c_M_changes1 {sc : List Int} (x1 : Int) (s : kM) (t : kM) (hf : f_M_changes1 x1 s = some t) : kR sc 2 km_M_changes1 [kr 85, kI x1] (hH s) none (hH t) := by
  unfold f_M_changes1 at hf
  refine kR.start rfl ?_
  show kW sc 2 kc_M_changes1 0 0 [some (kr 85), some (kI x1)] [] (hH s) _
  have hq : (fun (r : Option kV) (g : kH) => r = none ∧ g = hH t) none (hH t) := ⟨rfl, rfl⟩
  refine kw_step rfl rfl rfl rfl ?_
  refine kw_get rfl (hH_O (rfl : kotab 85 = some kMo)) rfl ?_
  refine kw_step rfl rfl rfl rfl ?_
  refine kw_get rfl (hH_O (rfl : kotab 85 = some kMo)) rfl ?_
  refine kw_step rfl rfl rfl rfl ?_
  obtain ⟨j1, i2, hf⟩ := gbI hf
  refine kw_iald rfl (hH_A (rfl : ktab 98 = some (0, 11))) i2.1 i2.2.1 i2.2.2 ?_
  refine kw_step rfl rfl rfl rfl ?_
  obtain ⟨j3, i4, hf⟩ := gbI hf
  obtain ⟨s5, ee6, hf⟩ := gbL hf
  refine kw_iastH rfl (rfl : ktab 88 = some (0, 22)) i4.1 i4.2.1 i4.2.2 ee6 ?_
  refine kw_step rfl rfl rfl rfl ?_
  refine kw_get rfl (hH_O (rfl : kotab 85 = some kMo)) rfl ?_
  refine kw_step rfl rfl rfl rfl ?_
  refine kw_get rfl (hH_O (rfl : kotab 85 = some kMo)) rfl ?_
  refine kw_step rfl rfl rfl rfl ?_
  obtain ⟨j8, i9, hf⟩ := gbI hf
  refine kw_iald rfl (hH_A (rfl : ktab 99 = some (0, 11))) i9.1 i9.2.1 i9.2.2 ?_
  refine kw_step rfl rfl rfl rfl ?_
  obtain ⟨j10, i11, hf⟩ := gbI hf
  obtain ⟨s12, ee13, hf⟩ := gbL hf
  refine kw_iastH rfl (rfl : ktab 88 = some (0, 22)) i11.1 i11.2.1 i11.2.2 ee13 ?_
  refine kw_step rfl rfl rfl rfl ?_
  refine kw_get rfl (hH_O (rfl : kotab 85 = some kMo)) rfl ?_
  refine kw_step rfl rfl rfl rfl ?_
  refine kw_step rfl rfl rfl rfl ?_
  refine kw_step rfl rfl rfl rfl ?_
  refine kw_get rfl (hH_O (rfl : kotab 85 = some kMo)) rfl ?_
  refine kw_step rfl rfl rfl rfl ?_
  obtain ⟨j15, i16, hf⟩ := gbI hf
  refine kw_iald rfl (hH_A (rfl : ktab 89 = some (0, 11))) i16.1 i16.2.1 i16.2.2 ?_
  refine kw_step rfl rfl rfl rfl ?_
  obtain ⟨j17, i18, hf⟩ := gbI hf
  obtain ⟨s19, ee20, hf⟩ := gbL hf
  refine kw_iastH rfl (rfl : ktab 89 = some (0, 11)) i18.1 i18.2.1 i18.2.2 ee20 ?_
  refine kw_step rfl rfl rfl rfl ?_
  obtain ⟨q22, hq22, hf⟩ := gbind hf
  refine kw_callV (vs := []) rfl rfl rfl ⟨rfl, Nat.le_of_ble_eq_true rfl, Nat.le_of_ble_eq_true rfl, by decide⟩ (hH_O (rfl : kotab 85 = some kMo)) (c_M_refresh s19 _ hq22) (Nat.le_of_ble_eq_true rfl) ?_
  cases hf
  exact kw_ret rfl rfl rfl hq
def f_M_change (x1 : Int) (s : kM) : Option (Int × kM) :=
  (f_M_isBridge x1 s).bind fun q1 => if q1 = 0 then (some ((-1), s)) else ((f_M_changes1 x1 s).bind fun q3 => (gI 11 x1).bind fun j5 => some ((q3 89 j5), q3))
set_option maxRecDepth 8000 in
theorem c_M_change {sc : List Int} (x1 : Int) (s : kM) (t : Int × kM) (hf : f_M_change x1 s = some t) : kR sc 3 km_M_change [kr 85, kI x1] (hH s) (some (kI t.1)) (hH t.2) := by
  unfold f_M_change at hf
  refine kR.start rfl ?_
  show kW sc 3 kc_M_change 1 0 [some (kr 85), some (kI x1)] [] (hH s) _
  have hq : (fun (r : Option kV) (g : kH) => r = some (kI t.1) ∧ g = hH t.2) (some (kI t.1)) (hH t.2) := ⟨rfl, rfl⟩
  refine kw_step rfl rfl rfl rfl ?_
  refine kw_step rfl rfl rfl rfl ?_
  obtain ⟨q1, hq1, hf⟩ := gbind hf
  refine kw_callV (vs := [kI x1]) rfl rfl rfl ⟨rfl, Nat.le_of_ble_eq_true rfl, Nat.le_of_ble_eq_true rfl, by decide⟩ (hH_O (rfl : kotab 85 = some kMo)) (c_M_isBridge x1 s _ hq1) (Nat.le_of_ble_eq_true rfl) ?_
  refine kw_if_ne rfl rfl (fun c2 => ?_) (fun c2 => ?_)
  · have hf := giff c2 hf
    refine kw_step rfl rfl rfl rfl ?_
    refine kw_step rfl rfl rfl rfl ?_
    obtain ⟨q3, hq3, hf⟩ := gbind hf
    refine kw_callV (vs := [kI x1]) rfl rfl rfl ⟨rfl, Nat.le_of_ble_eq_true rfl, Nat.le_of_ble_eq_true rfl, by decide⟩ (hH_O (rfl : kotab 85 = some kMo)) (c_M_changes1 x1 s _ hq3) (Nat.le_of_ble_eq_true rfl) ?_
    refine kw_step rfl rfl rfl rfl ?_
    refine kw_get rfl (hH_O (rfl : kotab 85 = some kMo)) rfl ?_
    refine kw_step rfl rfl rfl rfl ?_
    obtain ⟨j5, i6, hf⟩ := gbI hf
    refine kw_iald rfl (hH_A (rfl : ktab 89 = some (0, 11))) i6.1 i6.2.1 i6.2.2 ?_
    cases hf
    exact kw_ret rfl rfl rfl hq
  · have hf := gift c2 hf
    refine kw_step rfl rfl rfl rfl ?_
    cases hf
    exact kw_ret rfl rfl rfl hq
def f_M_twist_96 (x4 : Int) (x5 : Int) (y1 : Int) (y2 : Int) (s : kM) : Option (Int × kM) :=
  (gI 11 y1).bind fun j1 => gLet (gU s 89 j1 y2) fun s3 => (gI 6 (wI (1 + x5))).bind fun j6 => (gI 6 (wI (1 + x5))).bind fun j8 => gLet (gU s3 86 j8 (wI ((s3 86 j6) + 2))) fun s10 => (f_M_refresh s10).bind fun q13 => some (x4, q13)
set_option maxRecDepth 8000 in
theorem b_M_twist_96 {sc : List Int} {Q : Option kV → kH → Prop} (x4 : Int) (x5 : Int) (y1 : Int) (y2 : Int) (s : kM) (t : Int × kM) (hf : f_M_twist_96 x4 x5 y1 y2 s = some t) (hq : (fun r => Q (some (kI r.1)) (hH r.2)) t) : kW sc 2 kc_M_twist 1 96 [some (kr 85), none, none, none, some (kI x4), some (kI x5), none] [kI y2, kI y1, kr 89] (hH s) Q := by
  unfold f_M_twist_96 at hf
  obtain ⟨j1, i2, hf⟩ := gbI hf
  obtain ⟨s3, ee4, hf⟩ := gbL hf
  refine kw_iastH rfl (rfl : ktab 89 = some (0, 11)) i2.1 i2.2.1 i2.2.2 ee4 ?_
  refine kw_step rfl rfl rfl rfl ?_
  refine kw_get rfl (hH_O (rfl : kotab 85 = some kMo)) rfl ?_
  refine kw_step rfl rfl rfl rfl ?_
  refine kw_step rfl rfl rfl rfl ?_
  refine kw_step rfl rfl rfl rfl ?_
  refine kw_step rfl rfl rfl rfl ?_
  obtain ⟨j6, i7, hf⟩ := gbI hf
  refine kw_iald rfl (hH_A (rfl : ktab 86 = some (0, 6))) i7.1 i7.2.1 i7.2.2 ?_
  refine kw_step rfl rfl rfl rfl ?_
  refine kw_step rfl rfl rfl rfl ?_
  obtain ⟨j8, i9, hf⟩ := gbI hf
  obtain ⟨s10, ee11, hf⟩ := gbL hf
  refine kw_iastH rfl (rfl : ktab 86 = some (0, 6)) i9.1 i9.2.1 i9.2.2 ee11 ?_
  refine kw_step rfl rfl rfl rfl ?_
  obtain ⟨q13, hq13, hf⟩ := gbind hf
  refine kw_callV (vs := []) rfl rfl rfl ⟨rfl, Nat.le_of_ble_eq_true rfl, Nat.le_of_ble_eq_true rfl, by decide⟩ (hH_O (rfl : kotab 85 = some kMo)) (c_M_refresh s10 _ hq13) (Nat.le_of_ble_eq_true rfl) ?_
  refine kw_step rfl rfl rfl rfl ?_
  cases hf
  exact kw_ret rfl rfl rfl hq
def f_M_twist_87 (x3 : Int) (x4 : Int) (x5 : Int) (y1 : Int) (y2 : Int) (s : kM) : Option (Int × kM) :=
  (gI 22 y1).bind fun j1 => gLet (gU s 88 j1 y2) fun s3 => if x3 = 0 then (f_M_twist_96 x4 x5 x4 0 s3) else (f_M_twist_96 x4 x5 x4 1 s3)
set_option maxRecDepth 8000 in
theorem b_M_twist_87 {sc : List Int} {Q : Option kV → kH → Prop} (x3 : Int) (x4 : Int) (x5 : Int) (y1 : Int) (y2 : Int) (s : kM) (t : Int × kM) (hf : f_M_twist_87 x3 x4 x5 y1 y2 s = some t) (hq : (fun r => Q (some (kI r.1)) (hH r.2)) t) : kW sc 2 kc_M_twist 1 87 [some (kr 85), none, none, some (kI x3), some (kI x4), some (kI x5), none] [kI y2, kI y1, kr 88] (hH s) Q := by
  unfold f_M_twist_87 at hf
  obtain ⟨j1, i2, hf⟩ := gbI hf
  obtain ⟨s3, ee4, hf⟩ := gbL hf
  refine kw_iastH rfl (rfl : ktab 88 = some (0, 22)) i2.1 i2.2.1 i2.2.2 ee4 ?_
  refine kw_step rfl rfl rfl rfl ?_
  refine kw_get rfl (hH_O (rfl : kotab 85 = some kMo)) rfl ?_
  refine kw_step rfl rfl rfl rfl ?_
  refine kw_step rfl rfl rfl rfl ?_
  refine kw_if_eq rfl rfl (fun c6 => ?_) (fun c6 => ?_)
  · have hf := gift c6 hf
    refine kw_step rfl rfl rfl rfl ?_
    exact kW_le (L' := [some (kr 85), none, none, none, some (kI x4), some (kI x5), none]) ⟨Or.inr rfl, Or.inl rfl, Or.inl rfl, Or.inl rfl, Or.inr rfl, Or.inr rfl, Or.inl rfl, trivial⟩ (b_M_twist_96 x4 x5 x4 0 s3 _ hf hq)
  · have hf := giff c6 hf
    refine kw_step rfl rfl rfl rfl ?_
    refine kw_goto rfl rfl ?_
    exact kW_le (L' := [some (kr 85), none, none, none, some (kI x4), some (kI x5), none]) ⟨Or.inr rfl, Or.inl rfl, Or.inl rfl, Or.inl rfl, Or.inr rfl, Or.inr rfl, Or.inl rfl, trivial⟩ (b_M_twist_96 x4 x5 x4 1 s3 _ hf hq)
def f_M_twist_69 (x1 : Int) (x2 : Int) (x3 : Int) (x4 : Int) (x5 : Int) (y1 : Int) (y2 : Int) (s : kM) : Option (Int × kM) :=
  (gI 22 y1).bind fun j1 => gLet (gU s 88 j1 y2) fun s3 => (gI 22 (wI (x1 + 2))).bind fun j6 => gLet (gU s3 87 j6 x4) fun s8 => if x2 = 0 then (f_M_twist_87 x3 x4 x5 (wI (x1 + 2)) 1 s8) else (f_M_twist_87 x3 x4 x5 (wI (x1 + 2)) 0 s8)
set_option maxRecDepth 8000 in
theorem b_M_twist_69 {sc : List Int} {Q : Option kV → kH → Prop} (x1 : Int) (x2 : Int) (x3 : Int) (x4 : Int) (x5 : Int) (y1 : Int) (y2 : Int) (s : kM) (t : Int × kM) (hf : f_M_twist_69 x1 x2 x3 x4 x5 y1 y2 s = some t) (hq : (fun r => Q (some (kI r.1)) (hH r.2)) t) : kW sc 2 kc_M_twist 1 69 [some (kr 85), some (kI x1), some (kI x2), some (kI x3), some (kI x4), some (kI x5), none] [kI y2, kI y1, kr 88] (hH s) Q := by
  unfold f_M_twist_69 at hf
  obtain ⟨j1, i2, hf⟩ := gbI hf
  obtain ⟨s3, ee4, hf⟩ := gbL hf
  refine kw_iastH rfl (rfl : ktab 88 = some (0, 22)) i2.1 i2.2.1 i2.2.2 ee4 ?_
  refine kw_step rfl rfl rfl rfl ?_
  refine kw_get rfl (hH_O (rfl : kotab 85 = some kMo)) rfl ?_
  refine kw_step rfl rfl rfl rfl ?_
  refine kw_step rfl rfl rfl rfl ?_
  refine kw_step rfl rfl rfl rfl ?_
  refine kw_step rfl rfl rfl rfl ?_
  obtain ⟨j6, i7, hf⟩ := gbI hf
  obtain ⟨s8, ee9, hf⟩ := gbL hf
  refine kw_iastH rfl (rfl : ktab 87 = some (0, 22)) i7.1 i7.2.1 i7.2.2 ee9 ?_
  refine kw_step rfl rfl rfl rfl ?_
  refine kw_get rfl (hH_O (rfl : kotab 85 = some kMo)) rfl ?_
  refine kw_step rfl rfl rfl rfl ?_
  refine kw_step rfl rfl rfl rfl ?_
  refine kw_step rfl rfl rfl rfl ?_
  refine kw_step rfl rfl rfl rfl ?_
  refine kw_if_eq rfl rfl (fun c11 => ?_) (fun c11 => ?_)
  · have hf := gift c11 hf
    refine kw_step rfl rfl rfl rfl ?_
    exact kW_le (L' := [some (kr 85), none, none, some (kI x3), some (kI x4), some (kI x5), none]) ⟨Or.inr rfl, Or.inl rfl, Or.inl rfl, Or.inr rfl, Or.inr rfl, Or.inr rfl, Or.inl rfl, trivial⟩ (b_M_twist_87 x3 x4 x5 (wI (x1 + 2)) 1 s8 _ hf hq)
  · have hf := giff c11 hf
    refine kw_step rfl rfl rfl rfl ?_
    refine kw_goto rfl rfl ?_
    exact kW_le (L' := [some (kr 85), none, none, some (kI x3), some (kI x4), some (kI x5), none]) ⟨Or.inr rfl, Or.inl rfl, Or.inl rfl, Or.inr rfl, Or.inr rfl, Or.inr rfl, Or.inl rfl, trivial⟩ (b_M_twist_87 x3 x4 x5 (wI (x1 + 2)) 0 s8 _ hf hq)
def f_M_twist_27b (x1 : Int) (x2 : Int) (x3 : Int) (x4 : Int) (x5 : Int) (x6 : Int) (s : kM) : Option ((Int × kM) ⊕ (Int × kM)) :=
  if x6 ≤ x1 then ((gI 22 (wI (x1 + 1))).bind fun j2 => gLet (gU s 87 j2 x4) fun s4 => if x2 = 0 then ((f_M_twist_69 x1 x2 x3 x4 x5 (wI (x1 + 1)) 0 s4).map Sum.inr) else ((f_M_twist_69 x1 x2 x3 x4 x5 (wI (x1 + 1)) 1 s4).map Sum.inr)) else ((gI 22 x6).bind fun j12 => (gI 22 (wI (x6 + 2))).bind fun j14 => gLet (gU s 87 j14 (s 87 j12)) fun s16 => (gI 22 x6).bind fun j19 => (gI 22 (wI (x6 + 2))).bind fun j21 => gLet (gU s16 88 j21 (s16 88 j19)) fun s23 => some (.inl ((wI (x6 + (-1))), s23)))
set_option maxRecDepth 8000 in
theorem b_M_twist_27b {sc : List Int} {Q : Option kV → kH → Prop} (x1 : Int) (x2 : Int) (x3 : Int) (x4 : Int) (x5 : Int) (x6 : Int) (s : kM) (t : (Int × kM) ⊕ (Int × kM)) (hf : f_M_twist_27b x1 x2 x3 x4 x5 x6 s = some t) (hq : (gE (fun x => kW sc 2 kc_M_twist 1 27 [some (kr 85), some (kI x1), some (kI x2), some (kI x3), some (kI x4), some (kI x5), some (kI x.1)] [] (hH x.2) Q) (fun r => Q (some (kI r.1)) (hH r.2))) t) : kW sc 2 kc_M_twist 1 27 [some (kr 85), some (kI x1), some (kI x2), some (kI x3), some (kI x4), some (kI x5), some (kI x6)] [] (hH s) Q := by
  unfold f_M_twist_27b at hf
  refine kw_step rfl rfl rfl rfl ?_
  refine kw_step rfl rfl rfl rfl ?_
  refine kw_icmp_le rfl rfl (fun c1 => ?_) (fun c1 => ?_)
  · have hf := gift c1 hf
    refine kw_step rfl rfl rfl rfl ?_
    refine kw_get rfl (hH_O (rfl : kotab 85 = some kMo)) rfl ?_
    refine kw_step rfl rfl rfl rfl ?_
    refine kw_step rfl rfl rfl rfl ?_
    refine kw_step rfl rfl rfl rfl ?_
    refine kw_step rfl rfl rfl rfl ?_
    obtain ⟨j2, i3, hf⟩ := gbI hf
    obtain ⟨s4, ee5, hf⟩ := gbL hf
    refine kw_iastH rfl (rfl : ktab 87 = some (0, 22)) i3.1 i3.2.1 i3.2.2 ee5 ?_
    refine kw_step rfl rfl rfl rfl ?_
    refine kw_get rfl (hH_O (rfl : kotab 85 = some kMo)) rfl ?_
    refine kw_step rfl rfl rfl rfl ?_
    refine kw_step rfl rfl rfl rfl ?_
    refine kw_step rfl rfl rfl rfl ?_
    refine kw_step rfl rfl rfl rfl ?_
    refine kw_if_eq rfl rfl (fun c7 => ?_) (fun c7 => ?_)
    · have hf := gift c7 hf
      refine kw_step rfl rfl rfl rfl ?_
      obtain ⟨t8, hg9, rfl⟩ := gmap hf
      exact kW_le (L' := [some (kr 85), some (kI x1), some (kI x2), some (kI x3), some (kI x4), some (kI x5), none]) ⟨Or.inr rfl, Or.inr rfl, Or.inr rfl, Or.inr rfl, Or.inr rfl, Or.inr rfl, Or.inl rfl, trivial⟩ (b_M_twist_69 x1 x2 x3 x4 x5 (wI (x1 + 1)) 0 s4 _ hg9 hq)
    · have hf := giff c7 hf
      refine kw_step rfl rfl rfl rfl ?_
      refine kw_goto rfl rfl ?_
      obtain ⟨t10, hg11, rfl⟩ := gmap hf
      exact kW_le (L' := [some (kr 85), some (kI x1), some (kI x2), some (kI x3), some (kI x4), some (kI x5), none]) ⟨Or.inr rfl, Or.inr rfl, Or.inr rfl, Or.inr rfl, Or.inr rfl, Or.inr rfl, Or.inl rfl, trivial⟩ (b_M_twist_69 x1 x2 x3 x4 x5 (wI (x1 + 1)) 1 s4 _ hg11 hq)
  · have hf := giff c1 hf
    refine kw_step rfl rfl rfl rfl ?_
    refine kw_get rfl (hH_O (rfl : kotab 85 = some kMo)) rfl ?_
    refine kw_step rfl rfl rfl rfl ?_
    refine kw_step rfl rfl rfl rfl ?_
    refine kw_step rfl rfl rfl rfl ?_
    refine kw_step rfl rfl rfl rfl ?_
    refine kw_get rfl (hH_O (rfl : kotab 85 = some kMo)) rfl ?_
    refine kw_step rfl rfl rfl rfl ?_
    obtain ⟨j12, i13, hf⟩ := gbI hf
    refine kw_iald rfl (hH_A (rfl : ktab 87 = some (0, 22))) i13.1 i13.2.1 i13.2.2 ?_
    obtain ⟨j14, i15, hf⟩ := gbI hf
    obtain ⟨s16, ee17, hf⟩ := gbL hf
    refine kw_iastH rfl (rfl : ktab 87 = some (0, 22)) i15.1 i15.2.1 i15.2.2 ee17 ?_
    refine kw_step rfl rfl rfl rfl ?_
    refine kw_get rfl (hH_O (rfl : kotab 85 = some kMo)) rfl ?_
    refine kw_step rfl rfl rfl rfl ?_
    refine kw_step rfl rfl rfl rfl ?_
    refine kw_step rfl rfl rfl rfl ?_
    refine kw_step rfl rfl rfl rfl ?_
    refine kw_get rfl (hH_O (rfl : kotab 85 = some kMo)) rfl ?_
    refine kw_step rfl rfl rfl rfl ?_
    obtain ⟨j19, i20, hf⟩ := gbI hf
    refine kw_iald rfl (hH_A (rfl : ktab 88 = some (0, 22))) i20.1 i20.2.1 i20.2.2 ?_
    obtain ⟨j21, i22, hf⟩ := gbI hf
    obtain ⟨s23, ee24, hf⟩ := gbL hf
    refine kw_iastH rfl (rfl : ktab 88 = some (0, 22)) i22.1 i22.2.1 i22.2.2 ee24 ?_
    refine kw_step (L' := [some (kr 85), some (kI x1), some (kI x2), some (kI x3), some (kI x4), some (kI x5), some (kI (wI (x6 + (-1))))]) rfl rfl rfl rfl ?_
    refine kw_goto rfl rfl ?_
    cases hf
    exact kW_le (L' := [some (kr 85), some (kI x1), some (kI x2), some (kI x3), some (kI x4), some (kI x5), some (kI (wI (x6 + (-1))))]) ⟨Or.inr rfl, Or.inr rfl, Or.inr rfl, Or.inr rfl, Or.inr rfl, Or.inr rfl, Or.inr rfl, trivial⟩ hq
def f_M_twist_27 (x1 : Int) (x2 : Int) (x3 : Int) (x4 : Int) (x5 : Int) (x6 : Int) (s : kM) : Option (Int × kM) :=
  gL (fun (x : Int × kM) => f_M_twist_27b x1 x2 x3 x4 x5 x.1 x.2) gF (x6, s)
theorem b_M_twist_27 {sc : List Int} {Q : Option kV → kH → Prop} (x1 : Int) (x2 : Int) (x3 : Int) (x4 : Int) (x5 : Int) (x6 : Int) (s : kM) (t : Int × kM) (hf : f_M_twist_27 x1 x2 x3 x4 x5 x6 s = some t) (hq : (fun r => Q (some (kI r.1)) (hH r.2)) t) : kW sc 2 kc_M_twist 1 27 [some (kr 85), some (kI x1), some (kI x2), some (kI x3), some (kI x4), some (kI x5), some (kI x6)] [] (hH s) Q :=
  gL_ind (P := fun (x : Int × kM) => kW sc 2 kc_M_twist 1 27 [some (kr 85), some (kI x1), some (kI x2), some (kI x3), some (kI x4), some (kI x5), some (kI x.1)] [] (hH x.2) Q) (q := (fun r => Q (some (kI r.1)) (hH r.2))) (fun x t hf hq => b_M_twist_27b x1 x2 x3 x4 x5 x.1 x.2 t hf hq) gF (x6, s) t hf hq
def f_M_twist_12b (x1 : Int) (x2 : Int) (x3 : Int) (x4 : Int) (s : kM) : Option ((Int) ⊕ (Int × kM)) :=
  (f_M_isBridge x4 s).bind fun q1 => if q1 = 0 then ((f_M_roadOf x1 s).bind fun q3 => (f_M_places s).bind fun q4 => (f_M_twist_27 x1 x2 x3 x4 q3 (wI (q4 - 1)) s).map Sum.inr) else (some (.inl ((wI (x4 + 1)))))
set_option maxRecDepth 8000 in
theorem b_M_twist_12b {sc : List Int} {Q : Option kV → kH → Prop} (x1 : Int) (x2 : Int) (x3 : Int) (x4 : Int) (s : kM) (t : (Int) ⊕ (Int × kM)) (hf : f_M_twist_12b x1 x2 x3 x4 s = some t) (hq : (gE (fun x => kW sc 2 kc_M_twist 1 12 [some (kr 85), some (kI x1), some (kI x2), some (kI x3), some (kI x), none, none] [] (hH s) Q) (fun r => Q (some (kI r.1)) (hH r.2))) t) : kW sc 2 kc_M_twist 1 12 [some (kr 85), some (kI x1), some (kI x2), some (kI x3), some (kI x4), none, none] [] (hH s) Q := by
  unfold f_M_twist_12b at hf
  refine kw_step rfl rfl rfl rfl ?_
  refine kw_step rfl rfl rfl rfl ?_
  obtain ⟨q1, hq1, hf⟩ := gbind hf
  refine kw_callV (vs := [kI x4]) rfl rfl rfl ⟨rfl, Nat.le_of_ble_eq_true rfl, Nat.le_of_ble_eq_true rfl, by decide⟩ (hH_O (rfl : kotab 85 = some kMo)) (c_M_isBridge x4 s _ hq1) (Nat.le_of_ble_eq_true rfl) ?_
  refine kw_if_eq rfl rfl (fun c2 => ?_) (fun c2 => ?_)
  · have hf := gift c2 hf
    refine kw_step rfl rfl rfl rfl ?_
    refine kw_step rfl rfl rfl rfl ?_
    obtain ⟨q3, hq3, hf⟩ := gbind hf
    refine kw_callV (vs := [kI x1]) rfl rfl rfl ⟨rfl, Nat.le_of_ble_eq_true rfl, Nat.le_of_ble_eq_true rfl, by decide⟩ (hH_O (rfl : kotab 85 = some kMo)) (c_M_roadOf x1 s _ hq3) (Nat.le_of_ble_eq_true rfl) ?_
    refine kw_step (L' := [some (kr 85), some (kI x1), some (kI x2), some (kI x3), some (kI x4), some (kI q3), none]) rfl rfl rfl rfl ?_
    refine kw_step rfl rfl rfl rfl ?_
    obtain ⟨q4, hq4, hf⟩ := gbind hf
    refine kw_callV (vs := []) rfl rfl rfl ⟨rfl, Nat.le_of_ble_eq_true rfl, Nat.le_of_ble_eq_true rfl, by decide⟩ (hH_O (rfl : kotab 85 = some kMo)) (c_M_places s _ hq4) (Nat.le_of_ble_eq_true rfl) ?_
    refine kw_step rfl rfl rfl rfl ?_
    refine kw_step rfl rfl rfl rfl ?_
    refine kw_step (L' := [some (kr 85), some (kI x1), some (kI x2), some (kI x3), some (kI x4), some (kI q3), some (kI (wI (q4 - 1)))]) rfl rfl rfl rfl ?_
    obtain ⟨t5, hg6, rfl⟩ := gmap hf
    exact kW_le (L' := [some (kr 85), some (kI x1), some (kI x2), some (kI x3), some (kI x4), some (kI q3), some (kI (wI (q4 - 1)))]) ⟨Or.inr rfl, Or.inr rfl, Or.inr rfl, Or.inr rfl, Or.inr rfl, Or.inr rfl, Or.inr rfl, trivial⟩ (b_M_twist_27 x1 x2 x3 x4 q3 (wI (q4 - 1)) s _ hg6 hq)
  · have hf := giff c2 hf
    refine kw_step (L' := [some (kr 85), some (kI x1), some (kI x2), some (kI x3), some (kI (wI (x4 + 1))), none, none]) rfl rfl rfl rfl ?_
    refine kw_goto rfl rfl ?_
    cases hf
    exact kW_le (L' := [some (kr 85), some (kI x1), some (kI x2), some (kI x3), some (kI (wI (x4 + 1))), none, none]) ⟨Or.inr rfl, Or.inr rfl, Or.inr rfl, Or.inr rfl, Or.inr rfl, Or.inl rfl, Or.inl rfl, trivial⟩ hq
def f_M_twist_12 (x1 : Int) (x2 : Int) (x3 : Int) (x4 : Int) (s : kM) : Option (Int × kM) :=
  gL (fun (x : Int) => f_M_twist_12b x1 x2 x3 x s) gF (x4)
theorem b_M_twist_12 {sc : List Int} {Q : Option kV → kH → Prop} (x1 : Int) (x2 : Int) (x3 : Int) (x4 : Int) (s : kM) (t : Int × kM) (hf : f_M_twist_12 x1 x2 x3 x4 s = some t) (hq : (fun r => Q (some (kI r.1)) (hH r.2)) t) : kW sc 2 kc_M_twist 1 12 [some (kr 85), some (kI x1), some (kI x2), some (kI x3), some (kI x4), none, none] [] (hH s) Q :=
  gL_ind (P := fun (x : Int) => kW sc 2 kc_M_twist 1 12 [some (kr 85), some (kI x1), some (kI x2), some (kI x3), some (kI x), none, none] [] (hH s) Q) (q := (fun r => Q (some (kI r.1)) (hH r.2))) (fun x t hf hq => b_M_twist_12b x1 x2 x3 x s t hf hq) gF (x4) t hf hq
def f_M_twist (x1 : Int) (x2 : Int) (x3 : Int) (s : kM) : Option (Int × kM) :=
  (f_M_isPlace x1 s).bind fun q1 => if q1 = 0 then (some ((-1), s)) else ((f_M_many s).bind fun q3 => if q3 = 11 then (some ((-1), s)) else (f_M_twist_12 x1 x2 x3 0 s))
set_option maxRecDepth 8000 in
theorem c_M_twist {sc : List Int} (x1 : Int) (x2 : Int) (x3 : Int) (s : kM) (t : Int × kM) (hf : f_M_twist x1 x2 x3 s = some t) : kR sc 2 km_M_twist [kr 85, kI x1, kI x2, kI x3] (hH s) (some (kI t.1)) (hH t.2) := by
  unfold f_M_twist at hf
  refine kR.start rfl ?_
  show kW sc 2 kc_M_twist 1 0 [some (kr 85), some (kI x1), some (kI x2), some (kI x3), none, none, none] [] (hH s) _
  have hq : (fun (r : Option kV) (g : kH) => r = some (kI t.1) ∧ g = hH t.2) (some (kI t.1)) (hH t.2) := ⟨rfl, rfl⟩
  refine kw_step rfl rfl rfl rfl ?_
  refine kw_step rfl rfl rfl rfl ?_
  obtain ⟨q1, hq1, hf⟩ := gbind hf
  refine kw_callV (vs := [kI x1]) rfl rfl rfl ⟨rfl, Nat.le_of_ble_eq_true rfl, Nat.le_of_ble_eq_true rfl, by decide⟩ (hH_O (rfl : kotab 85 = some kMo)) (c_M_isPlace x1 s _ hq1) (Nat.le_of_ble_eq_true rfl) ?_
  refine kw_if_eq rfl rfl (fun c2 => ?_) (fun c2 => ?_)
  · have hf := gift c2 hf
    refine kw_step rfl rfl rfl rfl ?_
    cases hf
    exact kw_ret rfl rfl rfl hq
  · have hf := giff c2 hf
    refine kw_step rfl rfl rfl rfl ?_
    obtain ⟨q3, hq3, hf⟩ := gbind hf
    refine kw_callV (vs := []) rfl rfl rfl ⟨rfl, Nat.le_of_ble_eq_true rfl, Nat.le_of_ble_eq_true rfl, by decide⟩ (hH_O (rfl : kotab 85 = some kMo)) (c_M_many s _ hq3) (Nat.le_of_ble_eq_true rfl) ?_
    refine kw_step rfl rfl rfl rfl ?_
    refine kw_icmp_ne rfl rfl (fun c4 => ?_) (fun c4 => ?_)
    · have hf := giff c4 hf
      refine kw_step rfl rfl rfl rfl ?_
      refine kw_step (L' := [some (kr 85), some (kI x1), some (kI x2), some (kI x3), some (kI 0), none, none]) rfl rfl rfl rfl ?_
      exact kW_le (L' := [some (kr 85), some (kI x1), some (kI x2), some (kI x3), some (kI 0), none, none]) ⟨Or.inr rfl, Or.inr rfl, Or.inr rfl, Or.inr rfl, Or.inr rfl, Or.inl rfl, Or.inl rfl, trivial⟩ (b_M_twist_12 x1 x2 x3 0 s _ hf hq)
    · have hf := gift c4 hf
      refine kw_step rfl rfl rfl rfl ?_
      cases hf
      exact kw_ret rfl rfl rfl hq
def f_M_mirror_17 (x1 : Int) (s : kM) : Option ((Int × kM) ⊕ (Int × kM)) :=
  some (.inl ((wI (x1 + 1)), s))
set_option maxRecDepth 8000 in
theorem b_M_mirror_17 {sc : List Int} {Q : Option kV → kH → Prop} (x1 : Int) (s : kM) (t : (Int × kM) ⊕ (Int × kM)) (hf : f_M_mirror_17 x1 s = some t) (hq : (gE (fun x => kW sc 3 kc_M_mirror 1 7 [some (kr 85), some (kI x.1)] [] (hH x.2) Q) (fun r => Q (some (kI r.1)) (hH r.2))) t) : kW sc 3 kc_M_mirror 1 17 [some (kr 85), some (kI x1)] [] (hH s) Q := by
  unfold f_M_mirror_17 at hf
  refine kw_step (L' := [some (kr 85), some (kI (wI (x1 + 1)))]) rfl rfl rfl rfl ?_
  refine kw_goto rfl rfl ?_
  cases hf
  exact kW_le (L' := [some (kr 85), some (kI (wI (x1 + 1)))]) ⟨Or.inr rfl, Or.inr rfl, trivial⟩ hq
def f_M_mirror_7b (x1 : Int) (s : kM) : Option ((Int × kM) ⊕ (Int × kM)) :=
  if 11 ≤ x1 then ((f_M_many s).bind fun q2 => some (.inr (q2, s))) else ((f_M_isBridge x1 s).bind fun q3 => if q3 = 0 then (f_M_mirror_17 x1 s) else ((f_M_changes1 x1 s).bind fun q5 => f_M_mirror_17 x1 q5))
set_option maxRecDepth 8000 in
theorem b_M_mirror_7b {sc : List Int} {Q : Option kV → kH → Prop} (x1 : Int) (s : kM) (t : (Int × kM) ⊕ (Int × kM)) (hf : f_M_mirror_7b x1 s = some t) (hq : (gE (fun x => kW sc 3 kc_M_mirror 1 7 [some (kr 85), some (kI x.1)] [] (hH x.2) Q) (fun r => Q (some (kI r.1)) (hH r.2))) t) : kW sc 3 kc_M_mirror 1 7 [some (kr 85), some (kI x1)] [] (hH s) Q := by
  unfold f_M_mirror_7b at hf
  refine kw_step rfl rfl rfl rfl ?_
  refine kw_step rfl rfl rfl rfl ?_
  refine kw_icmp_ge rfl rfl (fun c1 => ?_) (fun c1 => ?_)
  · have hf := gift c1 hf
    refine kw_step rfl rfl rfl rfl ?_
    obtain ⟨q2, hq2, hf⟩ := gbind hf
    refine kw_callV (vs := []) rfl rfl rfl ⟨rfl, Nat.le_of_ble_eq_true rfl, Nat.le_of_ble_eq_true rfl, by decide⟩ (hH_O (rfl : kotab 85 = some kMo)) (c_M_many s _ hq2) (Nat.le_of_ble_eq_true rfl) ?_
    cases hf
    exact kw_ret rfl rfl rfl hq
  · have hf := giff c1 hf
    refine kw_step rfl rfl rfl rfl ?_
    refine kw_step rfl rfl rfl rfl ?_
    obtain ⟨q3, hq3, hf⟩ := gbind hf
    refine kw_callV (vs := [kI x1]) rfl rfl rfl ⟨rfl, Nat.le_of_ble_eq_true rfl, Nat.le_of_ble_eq_true rfl, by decide⟩ (hH_O (rfl : kotab 85 = some kMo)) (c_M_isBridge x1 s _ hq3) (Nat.le_of_ble_eq_true rfl) ?_
    refine kw_if_eq rfl rfl (fun c4 => ?_) (fun c4 => ?_)
    · have hf := gift c4 hf
      exact kW_le (L' := [some (kr 85), some (kI x1)]) ⟨Or.inr rfl, Or.inr rfl, trivial⟩ (b_M_mirror_17 x1 s _ hf hq)
    · have hf := giff c4 hf
      refine kw_step rfl rfl rfl rfl ?_
      refine kw_step rfl rfl rfl rfl ?_
      obtain ⟨q5, hq5, hf⟩ := gbind hf
      refine kw_callV (vs := [kI x1]) rfl rfl rfl ⟨rfl, Nat.le_of_ble_eq_true rfl, Nat.le_of_ble_eq_true rfl, by decide⟩ (hH_O (rfl : kotab 85 = some kMo)) (c_M_changes1 x1 s _ hq5) (Nat.le_of_ble_eq_true rfl) ?_
      exact kW_le (L' := [some (kr 85), some (kI x1)]) ⟨Or.inr rfl, Or.inr rfl, trivial⟩ (b_M_mirror_17 x1 q5 _ hf hq)
def f_M_mirror_7 (x1 : Int) (s : kM) : Option (Int × kM) :=
  gL (fun (x : Int × kM) => f_M_mirror_7b x.1 x.2) gF (x1, s)
theorem b_M_mirror_7 {sc : List Int} {Q : Option kV → kH → Prop} (x1 : Int) (s : kM) (t : Int × kM) (hf : f_M_mirror_7 x1 s = some t) (hq : (fun r => Q (some (kI r.1)) (hH r.2)) t) : kW sc 3 kc_M_mirror 1 7 [some (kr 85), some (kI x1)] [] (hH s) Q :=
  gL_ind (P := fun (x : Int × kM) => kW sc 3 kc_M_mirror 1 7 [some (kr 85), some (kI x.1)] [] (hH x.2) Q) (q := (fun r => Q (some (kI r.1)) (hH r.2))) (fun x t hf hq => b_M_mirror_7b x.1 x.2 t hf hq) gF (x1, s) t hf hq
def f_M_mirror (s : kM) : Option (Int × kM) :=
  (f_M_isTown s).bind fun q1 => if q1 = 0 then (some ((-1), s)) else (f_M_mirror_7 0 s)
set_option maxRecDepth 8000 in
theorem c_M_mirror {sc : List Int} (s : kM) (t : Int × kM) (hf : f_M_mirror s = some t) : kR sc 3 km_M_mirror [kr 85] (hH s) (some (kI t.1)) (hH t.2) := by
  unfold f_M_mirror at hf
  refine kR.start rfl ?_
  show kW sc 3 kc_M_mirror 1 0 [some (kr 85), none] [] (hH s) _
  have hq : (fun (r : Option kV) (g : kH) => r = some (kI t.1) ∧ g = hH t.2) (some (kI t.1)) (hH t.2) := ⟨rfl, rfl⟩
  refine kw_step rfl rfl rfl rfl ?_
  obtain ⟨q1, hq1, hf⟩ := gbind hf
  refine kw_callV (vs := []) rfl rfl rfl ⟨rfl, Nat.le_of_ble_eq_true rfl, Nat.le_of_ble_eq_true rfl, by decide⟩ (hH_O (rfl : kotab 85 = some kMo)) (c_M_isTown s _ hq1) (Nat.le_of_ble_eq_true rfl) ?_
  refine kw_if_ne rfl rfl (fun c2 => ?_) (fun c2 => ?_)
  · have hf := giff c2 hf
    refine kw_step rfl rfl rfl rfl ?_
    refine kw_step (L' := [some (kr 85), some (kI 0)]) rfl rfl rfl rfl ?_
    exact kW_le (L' := [some (kr 85), some (kI 0)]) ⟨Or.inr rfl, Or.inr rfl, trivial⟩ (b_M_mirror_7 0 s _ hf hq)
  · have hf := gift c2 hf
    refine kw_step rfl rfl rfl rfl ?_
    cases hf
    exact kw_ret rfl rfl rfl hq
def f_M_isOfBoth (x1 : Int) (s : kM) : Option (Int) :=
  (gI 11 x1).bind fun j1 => (f_M_roadOf (s 98 j1) s).bind fun q3 => (gI 11 x1).bind fun j4 => (f_M_roadOf (s 99 j4) s).bind fun q6 => if q3 = q6 then (some 0) else (some 1)
set_option maxRecDepth 8000 in
theorem c_M_isOfBoth {sc : List Int} (x1 : Int) (s : kM) (t : Int) (hf : f_M_isOfBoth x1 s = some t) : kR sc 1 km_M_isOfBoth [kr 85, kI x1] (hH s) (some (kI t)) (hH s) := by
  unfold f_M_isOfBoth at hf
  refine kR.start rfl ?_
  show kW sc 1 kc_M_isOfBoth 2 0 [some (kr 85), some (kI x1)] [] (hH s) _
  have hq : (fun (r : Option kV) (g : kH) => r = some (kI t) ∧ g = hH s) (some (kI t)) (hH s) := ⟨rfl, rfl⟩
  refine kw_step rfl rfl rfl rfl ?_
  refine kw_step rfl rfl rfl rfl ?_
  refine kw_get rfl (hH_O (rfl : kotab 85 = some kMo)) rfl ?_
  refine kw_step rfl rfl rfl rfl ?_
  obtain ⟨j1, i2, hf⟩ := gbI hf
  refine kw_iald rfl (hH_A (rfl : ktab 98 = some (0, 11))) i2.1 i2.2.1 i2.2.2 ?_
  obtain ⟨q3, hq3, hf⟩ := gbind hf
  refine kw_callV (vs := [kI (s 98 j1)]) rfl rfl rfl ⟨rfl, Nat.le_of_ble_eq_true rfl, Nat.le_of_ble_eq_true rfl, by decide⟩ (hH_O (rfl : kotab 85 = some kMo)) (c_M_roadOf (s 98 j1) s _ hq3) (Nat.le_of_ble_eq_true rfl) ?_
  refine kw_step rfl rfl rfl rfl ?_
  refine kw_step rfl rfl rfl rfl ?_
  refine kw_get rfl (hH_O (rfl : kotab 85 = some kMo)) rfl ?_
  refine kw_step rfl rfl rfl rfl ?_
  obtain ⟨j4, i5, hf⟩ := gbI hf
  refine kw_iald rfl (hH_A (rfl : ktab 99 = some (0, 11))) i5.1 i5.2.1 i5.2.2 ?_
  obtain ⟨q6, hq6, hf⟩ := gbind hf
  refine kw_callV (vs := [kI (s 99 j4)]) rfl rfl rfl ⟨rfl, Nat.le_of_ble_eq_true rfl, Nat.le_of_ble_eq_true rfl, by decide⟩ (hH_O (rfl : kotab 85 = some kMo)) (c_M_roadOf (s 99 j4) s _ hq6) (Nat.le_of_ble_eq_true rfl) ?_
  refine kw_icmp_eq rfl rfl (fun c7 => ?_) (fun c7 => ?_)
  · have hf := gift c7 hf
    refine kw_step rfl rfl rfl rfl ?_
    cases hf
    exact kw_ret rfl rfl rfl hq
  · have hf := giff c7 hf
    refine kw_step rfl rfl rfl rfl ?_
    refine kw_goto rfl rfl ?_
    cases hf
    exact kw_ret rfl rfl rfl hq
def f_M_backToFront_52b (x2 : Int) (x3 : Int) (x4 : Int) (s : kM) : Option ((Int × kM) ⊕ (Int × kM)) :=
  if (kdiv x3 2) ≤ x4 then ((f_M_refresh s).bind fun q2 => some (.inr (x3, q2))) else ((gI 22 (wI (x2 + x4))).bind fun j4 => (gI 22 (wI (x2 + x4))).bind fun j6 => (gI 22 (wI ((wI ((wI (x2 + x3)) - 1)) - x4))).bind fun j8 => (gI 22 (wI (x2 + x4))).bind fun j10 => gLet (gU s 87 j10 (s 87 j8)) fun s12 => (gI 22 (wI ((wI ((wI (x2 + x3)) - 1)) - x4))).bind fun j15 => (gI 22 (wI (x2 + x4))).bind fun j17 => gLet (gU s12 88 j17 (s12 88 j15)) fun s19 => (gI 22 (wI ((wI ((wI (x2 + x3)) - 1)) - x4))).bind fun j22 => gLet (gU s19 87 j22 (s 87 j4)) fun s24 => (gI 22 (wI ((wI ((wI (x2 + x3)) - 1)) - x4))).bind fun j27 => gLet (gU s24 88 j27 (s 88 j6)) fun s29 => some (.inl ((wI (x4 + 1)), s29)))
set_option maxRecDepth 8000 in
theorem b_M_backToFront_52b {sc : List Int} {Q : Option kV → kH → Prop} (x2 : Int) (x3 : Int) (x4 : Int) (s : kM) (t : (Int × kM) ⊕ (Int × kM)) (hf : f_M_backToFront_52b x2 x3 x4 s = some t) (hq : (gE (fun x => kW sc 2 kc_M_backToFront 1 52 [some (kr 85), none, some (kI x2), some (kI x3), some (kI x.1), none, none, none, none] [] (hH x.2) Q) (fun r => Q (some (kI r.1)) (hH r.2))) t) : kW sc 2 kc_M_backToFront 1 52 [some (kr 85), none, some (kI x2), some (kI x3), some (kI x4), none, none, none, none] [] (hH s) Q := by
  unfold f_M_backToFront_52b at hf
  refine kw_step rfl rfl rfl rfl ?_
  refine kw_step rfl rfl rfl rfl ?_
  refine kw_step rfl rfl rfl rfl ?_
  refine kw_idiv rfl (by decide) ?_
  refine kw_icmp_ge rfl rfl (fun c1 => ?_) (fun c1 => ?_)
  · have hf := gift c1 hf
    refine kw_step rfl rfl rfl rfl ?_
    obtain ⟨q2, hq2, hf⟩ := gbind hf
    refine kw_callV (vs := []) rfl rfl rfl ⟨rfl, Nat.le_of_ble_eq_true rfl, Nat.le_of_ble_eq_true rfl, by decide⟩ (hH_O (rfl : kotab 85 = some kMo)) (c_M_refresh s _ hq2) (Nat.le_of_ble_eq_true rfl) ?_
    refine kw_step rfl rfl rfl rfl ?_
    cases hf
    exact kw_ret rfl rfl rfl hq
  · have hf := giff c1 hf
    refine kw_step rfl rfl rfl rfl ?_
    refine kw_step rfl rfl rfl rfl ?_
    refine kw_step rfl rfl rfl rfl ?_
    refine kw_step (L' := [some (kr 85), none, some (kI x2), some (kI x3), some (kI x4), some (kI (wI (x2 + x4))), none, none, none]) rfl rfl rfl rfl ?_
    refine kw_step rfl rfl rfl rfl ?_
    refine kw_step rfl rfl rfl rfl ?_
    refine kw_step rfl rfl rfl rfl ?_
    refine kw_step rfl rfl rfl rfl ?_
    refine kw_step rfl rfl rfl rfl ?_
    refine kw_step rfl rfl rfl rfl ?_
    refine kw_step rfl rfl rfl rfl ?_
    refine kw_step (L' := [some (kr 85), none, some (kI x2), some (kI x3), some (kI x4), some (kI (wI (x2 + x4))), some (kI (wI ((wI ((wI (x2 + x3)) - 1)) - x4))), none, none]) rfl rfl rfl rfl ?_
    refine kw_step rfl rfl rfl rfl ?_
    refine kw_get rfl (hH_O (rfl : kotab 85 = some kMo)) rfl ?_
    refine kw_step rfl rfl rfl rfl ?_
    obtain ⟨j4, i5, hf⟩ := gbI hf
    refine kw_iald rfl (hH_A (rfl : ktab 87 = some (0, 22))) i5.1 i5.2.1 i5.2.2 ?_
    refine kw_step (L' := [some (kr 85), none, some (kI x2), some (kI x3), some (kI x4), some (kI (wI (x2 + x4))), some (kI (wI ((wI ((wI (x2 + x3)) - 1)) - x4))), some (kI (s 87 j4)), none]) rfl rfl rfl rfl ?_
    refine kw_step rfl rfl rfl rfl ?_
    refine kw_get rfl (hH_O (rfl : kotab 85 = some kMo)) rfl ?_
    refine kw_step rfl rfl rfl rfl ?_
    obtain ⟨j6, i7, hf⟩ := gbI hf
    refine kw_iald rfl (hH_A (rfl : ktab 88 = some (0, 22))) i7.1 i7.2.1 i7.2.2 ?_
    refine kw_step (L' := [some (kr 85), none, some (kI x2), some (kI x3), some (kI x4), some (kI (wI (x2 + x4))), some (kI (wI ((wI ((wI (x2 + x3)) - 1)) - x4))), some (kI (s 87 j4)), some (kI (s 88 j6))]) rfl rfl rfl rfl ?_
    refine kw_step rfl rfl rfl rfl ?_
    refine kw_get rfl (hH_O (rfl : kotab 85 = some kMo)) rfl ?_
    refine kw_step rfl rfl rfl rfl ?_
    refine kw_step rfl rfl rfl rfl ?_
    refine kw_get rfl (hH_O (rfl : kotab 85 = some kMo)) rfl ?_
    refine kw_step rfl rfl rfl rfl ?_
    obtain ⟨j8, i9, hf⟩ := gbI hf
    refine kw_iald rfl (hH_A (rfl : ktab 87 = some (0, 22))) i9.1 i9.2.1 i9.2.2 ?_
    obtain ⟨j10, i11, hf⟩ := gbI hf
    obtain ⟨s12, ee13, hf⟩ := gbL hf
    refine kw_iastH rfl (rfl : ktab 87 = some (0, 22)) i11.1 i11.2.1 i11.2.2 ee13 ?_
    refine kw_step rfl rfl rfl rfl ?_
    refine kw_get rfl (hH_O (rfl : kotab 85 = some kMo)) rfl ?_
    refine kw_step rfl rfl rfl rfl ?_
    refine kw_step rfl rfl rfl rfl ?_
    refine kw_get rfl (hH_O (rfl : kotab 85 = some kMo)) rfl ?_
    refine kw_step rfl rfl rfl rfl ?_
    obtain ⟨j15, i16, hf⟩ := gbI hf
    refine kw_iald rfl (hH_A (rfl : ktab 88 = some (0, 22))) i16.1 i16.2.1 i16.2.2 ?_
    obtain ⟨j17, i18, hf⟩ := gbI hf
    obtain ⟨s19, ee20, hf⟩ := gbL hf
    refine kw_iastH rfl (rfl : ktab 88 = some (0, 22)) i18.1 i18.2.1 i18.2.2 ee20 ?_
    refine kw_step rfl rfl rfl rfl ?_
    refine kw_get rfl (hH_O (rfl : kotab 85 = some kMo)) rfl ?_
    refine kw_step rfl rfl rfl rfl ?_
    refine kw_step rfl rfl rfl rfl ?_
    obtain ⟨j22, i23, hf⟩ := gbI hf
    obtain ⟨s24, ee25, hf⟩ := gbL hf
    refine kw_iastH rfl (rfl : ktab 87 = some (0, 22)) i23.1 i23.2.1 i23.2.2 ee25 ?_
    refine kw_step rfl rfl rfl rfl ?_
    refine kw_get rfl (hH_O (rfl : kotab 85 = some kMo)) rfl ?_
    refine kw_step rfl rfl rfl rfl ?_
    refine kw_step rfl rfl rfl rfl ?_
    obtain ⟨j27, i28, hf⟩ := gbI hf
    obtain ⟨s29, ee30, hf⟩ := gbL hf
    refine kw_iastH rfl (rfl : ktab 88 = some (0, 22)) i28.1 i28.2.1 i28.2.2 ee30 ?_
    refine kw_step (L' := [some (kr 85), none, some (kI x2), some (kI x3), some (kI (wI (x4 + 1))), some (kI (wI (x2 + x4))), some (kI (wI ((wI ((wI (x2 + x3)) - 1)) - x4))), some (kI (s 87 j4)), some (kI (s 88 j6))]) rfl rfl rfl rfl ?_
    refine kw_goto rfl rfl ?_
    cases hf
    exact kW_le (L' := [some (kr 85), none, some (kI x2), some (kI x3), some (kI (wI (x4 + 1))), none, none, none, none]) ⟨Or.inr rfl, Or.inl rfl, Or.inr rfl, Or.inr rfl, Or.inr rfl, Or.inl rfl, Or.inl rfl, Or.inl rfl, Or.inl rfl, trivial⟩ hq
def f_M_backToFront_52 (x2 : Int) (x3 : Int) (x4 : Int) (s : kM) : Option (Int × kM) :=
  gL (fun (x : Int × kM) => f_M_backToFront_52b x2 x3 x.1 x.2) gF (x4, s)
theorem b_M_backToFront_52 {sc : List Int} {Q : Option kV → kH → Prop} (x2 : Int) (x3 : Int) (x4 : Int) (s : kM) (t : Int × kM) (hf : f_M_backToFront_52 x2 x3 x4 s = some t) (hq : (fun r => Q (some (kI r.1)) (hH r.2)) t) : kW sc 2 kc_M_backToFront 1 52 [some (kr 85), none, some (kI x2), some (kI x3), some (kI x4), none, none, none, none] [] (hH s) Q :=
  gL_ind (P := fun (x : Int × kM) => kW sc 2 kc_M_backToFront 1 52 [some (kr 85), none, some (kI x2), some (kI x3), some (kI x.1), none, none, none, none] [] (hH x.2) Q) (q := (fun r => Q (some (kI r.1)) (hH r.2))) (fun x t hf hq => b_M_backToFront_52b x2 x3 x.1 x.2 t hf hq) gF (x4, s) t hf hq
def f_M_backToFront_37 (x1 : Int) (x2 : Int) (s : kM) : Option ((Int × kM) ⊕ (Int × kM)) :=
  some (.inl ((wI (x2 + 1)), s))
set_option maxRecDepth 8000 in
theorem b_M_backToFront_37 {sc : List Int} {Q : Option kV → kH → Prop} (x1 : Int) (x2 : Int) (s : kM) (t : (Int × kM) ⊕ (Int × kM)) (hf : f_M_backToFront_37 x1 x2 s = some t) (hq : (gE (fun x => kW sc 2 kc_M_backToFront 1 16 [some (kr 85), some (kI x1), some (kI x.1), none, none, none, none, none, none] [] (hH x.2) Q) (fun r => Q (some (kI r.1)) (hH r.2))) t) : kW sc 2 kc_M_backToFront 1 37 [some (kr 85), some (kI x1), some (kI x2), none, none, none, none, none, none] [] (hH s) Q := by
  unfold f_M_backToFront_37 at hf
  refine kw_step (L' := [some (kr 85), some (kI x1), some (kI (wI (x2 + 1))), none, none, none, none, none, none]) rfl rfl rfl rfl ?_
  refine kw_goto rfl rfl ?_
  cases hf
  exact kW_le (L' := [some (kr 85), some (kI x1), some (kI (wI (x2 + 1))), none, none, none, none, none, none]) ⟨Or.inr rfl, Or.inr rfl, Or.inr rfl, Or.inl rfl, Or.inl rfl, Or.inl rfl, Or.inl rfl, Or.inl rfl, Or.inl rfl, trivial⟩ hq
def f_M_backToFront_16b (x1 : Int) (x2 : Int) (s : kM) : Option ((Int × kM) ⊕ (Int × kM)) :=
  if 11 ≤ x2 then ((f_M_beginOf x1 s).bind fun q2 => (gI 6 (wI (1 + x1))).bind fun j3 => (f_M_backToFront_52 q2 (s 86 j3) 0 s).map Sum.inr) else ((f_M_isBridge x2 s).bind fun q7 => if q7 = 0 then (f_M_backToFront_37 x1 x2 s) else ((f_M_isOfBoth x2 s).bind fun q9 => if q9 = 0 then (f_M_backToFront_37 x1 x2 s) else ((gI 11 x2).bind fun j11 => (gI 11 x2).bind fun j13 => gLet (gU s 89 j13 (wI (1 - (s 89 j11)))) fun s15 => f_M_backToFront_37 x1 x2 s15)))
set_option maxRecDepth 8000 in
theorem b_M_backToFront_16b {sc : List Int} {Q : Option kV → kH → Prop} (x1 : Int) (x2 : Int) (s : kM) (t : (Int × kM) ⊕ (Int × kM)) (hf : f_M_backToFront_16b x1 x2 s = some t) (hq : (gE (fun x => kW sc 2 kc_M_backToFront 1 16 [some (kr 85), some (kI x1), some (kI x.1), none, none, none, none, none, none] [] (hH x.2) Q) (fun r => Q (some (kI r.1)) (hH r.2))) t) : kW sc 2 kc_M_backToFront 1 16 [some (kr 85), some (kI x1), some (kI x2), none, none, none, none, none, none] [] (hH s) Q := by
  unfold f_M_backToFront_16b at hf
  refine kw_step rfl rfl rfl rfl ?_
  refine kw_step rfl rfl rfl rfl ?_
  refine kw_icmp_ge rfl rfl (fun c1 => ?_) (fun c1 => ?_)
  · have hf := gift c1 hf
    refine kw_step rfl rfl rfl rfl ?_
    refine kw_step rfl rfl rfl rfl ?_
    obtain ⟨q2, hq2, hf⟩ := gbind hf
    refine kw_callV (vs := [kI x1]) rfl rfl rfl ⟨rfl, Nat.le_of_ble_eq_true rfl, Nat.le_of_ble_eq_true rfl, by decide⟩ (hH_O (rfl : kotab 85 = some kMo)) (c_M_beginOf x1 s _ hq2) (Nat.le_of_ble_eq_true rfl) ?_
    refine kw_step (L' := [some (kr 85), some (kI x1), some (kI q2), none, none, none, none, none, none]) rfl rfl rfl rfl ?_
    refine kw_step rfl rfl rfl rfl ?_
    refine kw_get rfl (hH_O (rfl : kotab 85 = some kMo)) rfl ?_
    refine kw_step rfl rfl rfl rfl ?_
    refine kw_step rfl rfl rfl rfl ?_
    refine kw_step rfl rfl rfl rfl ?_
    obtain ⟨j3, i4, hf⟩ := gbI hf
    refine kw_iald rfl (hH_A (rfl : ktab 86 = some (0, 6))) i4.1 i4.2.1 i4.2.2 ?_
    refine kw_step (L' := [some (kr 85), some (kI x1), some (kI q2), some (kI (s 86 j3)), none, none, none, none, none]) rfl rfl rfl rfl ?_
    refine kw_step rfl rfl rfl rfl ?_
    refine kw_step (L' := [some (kr 85), some (kI x1), some (kI q2), some (kI (s 86 j3)), some (kI 0), none, none, none, none]) rfl rfl rfl rfl ?_
    obtain ⟨t5, hg6, rfl⟩ := gmap hf
    exact kW_le (L' := [some (kr 85), none, some (kI q2), some (kI (s 86 j3)), some (kI 0), none, none, none, none]) ⟨Or.inr rfl, Or.inl rfl, Or.inr rfl, Or.inr rfl, Or.inr rfl, Or.inl rfl, Or.inl rfl, Or.inl rfl, Or.inl rfl, trivial⟩ (b_M_backToFront_52 q2 (s 86 j3) 0 s _ hg6 hq)
  · have hf := giff c1 hf
    refine kw_step rfl rfl rfl rfl ?_
    refine kw_step rfl rfl rfl rfl ?_
    obtain ⟨q7, hq7, hf⟩ := gbind hf
    refine kw_callV (vs := [kI x2]) rfl rfl rfl ⟨rfl, Nat.le_of_ble_eq_true rfl, Nat.le_of_ble_eq_true rfl, by decide⟩ (hH_O (rfl : kotab 85 = some kMo)) (c_M_isBridge x2 s _ hq7) (Nat.le_of_ble_eq_true rfl) ?_
    refine kw_if_eq rfl rfl (fun c8 => ?_) (fun c8 => ?_)
    · have hf := gift c8 hf
      exact kW_le (L' := [some (kr 85), some (kI x1), some (kI x2), none, none, none, none, none, none]) ⟨Or.inr rfl, Or.inr rfl, Or.inr rfl, Or.inl rfl, Or.inl rfl, Or.inl rfl, Or.inl rfl, Or.inl rfl, Or.inl rfl, trivial⟩ (b_M_backToFront_37 x1 x2 s _ hf hq)
    · have hf := giff c8 hf
      refine kw_step rfl rfl rfl rfl ?_
      refine kw_step rfl rfl rfl rfl ?_
      obtain ⟨q9, hq9, hf⟩ := gbind hf
      refine kw_callV (vs := [kI x2]) rfl rfl rfl ⟨rfl, Nat.le_of_ble_eq_true rfl, Nat.le_of_ble_eq_true rfl, by decide⟩ (hH_O (rfl : kotab 85 = some kMo)) (c_M_isOfBoth x2 s _ hq9) (Nat.le_of_ble_eq_true rfl) ?_
      refine kw_if_eq rfl rfl (fun c10 => ?_) (fun c10 => ?_)
      · have hf := gift c10 hf
        exact kW_le (L' := [some (kr 85), some (kI x1), some (kI x2), none, none, none, none, none, none]) ⟨Or.inr rfl, Or.inr rfl, Or.inr rfl, Or.inl rfl, Or.inl rfl, Or.inl rfl, Or.inl rfl, Or.inl rfl, Or.inl rfl, trivial⟩ (b_M_backToFront_37 x1 x2 s _ hf hq)
      · have hf := giff c10 hf
        refine kw_step rfl rfl rfl rfl ?_
        refine kw_get rfl (hH_O (rfl : kotab 85 = some kMo)) rfl ?_
        refine kw_step rfl rfl rfl rfl ?_
        refine kw_step rfl rfl rfl rfl ?_
        refine kw_step rfl rfl rfl rfl ?_
        refine kw_get rfl (hH_O (rfl : kotab 85 = some kMo)) rfl ?_
        refine kw_step rfl rfl rfl rfl ?_
        obtain ⟨j11, i12, hf⟩ := gbI hf
        refine kw_iald rfl (hH_A (rfl : ktab 89 = some (0, 11))) i12.1 i12.2.1 i12.2.2 ?_
        refine kw_step rfl rfl rfl rfl ?_
        obtain ⟨j13, i14, hf⟩ := gbI hf
        obtain ⟨s15, ee16, hf⟩ := gbL hf
        refine kw_iastH rfl (rfl : ktab 89 = some (0, 11)) i14.1 i14.2.1 i14.2.2 ee16 ?_
        exact kW_le (L' := [some (kr 85), some (kI x1), some (kI x2), none, none, none, none, none, none]) ⟨Or.inr rfl, Or.inr rfl, Or.inr rfl, Or.inl rfl, Or.inl rfl, Or.inl rfl, Or.inl rfl, Or.inl rfl, Or.inl rfl, trivial⟩ (b_M_backToFront_37 x1 x2 s15 _ hf hq)
def f_M_backToFront_16 (x1 : Int) (x2 : Int) (s : kM) : Option (Int × kM) :=
  gL (fun (x : Int × kM) => f_M_backToFront_16b x1 x.1 x.2) gF (x2, s)
theorem b_M_backToFront_16 {sc : List Int} {Q : Option kV → kH → Prop} (x1 : Int) (x2 : Int) (s : kM) (t : Int × kM) (hf : f_M_backToFront_16 x1 x2 s = some t) (hq : (fun r => Q (some (kI r.1)) (hH r.2)) t) : kW sc 2 kc_M_backToFront 1 16 [some (kr 85), some (kI x1), some (kI x2), none, none, none, none, none, none] [] (hH s) Q :=
  gL_ind (P := fun (x : Int × kM) => kW sc 2 kc_M_backToFront 1 16 [some (kr 85), some (kI x1), some (kI x.1), none, none, none, none, none, none] [] (hH x.2) Q) (q := (fun r => Q (some (kI r.1)) (hH r.2))) (fun x t hf hq => b_M_backToFront_16b x1 x.1 x.2 t hf hq) gF (x2, s) t hf hq
def f_M_backToFront (x1 : Int) (s : kM) : Option (Int × kM) :=
  (f_M_in x1 0 (wI ((s 86 0) - 1)) s).bind fun q1 => if q1 = 0 then (some ((-1), s)) else (f_M_backToFront_16 x1 0 s)
set_option maxRecDepth 8000 in
theorem c_M_backToFront {sc : List Int} (x1 : Int) (s : kM) (t : Int × kM) (hf : f_M_backToFront x1 s = some t) : kR sc 2 km_M_backToFront [kr 85, kI x1] (hH s) (some (kI t.1)) (hH t.2) := by
  unfold f_M_backToFront at hf
  refine kR.start rfl ?_
  show kW sc 2 kc_M_backToFront 1 0 [some (kr 85), some (kI x1), none, none, none, none, none, none, none] [] (hH s) _
  have hq : (fun (r : Option kV) (g : kH) => r = some (kI t.1) ∧ g = hH t.2) (some (kI t.1)) (hH t.2) := ⟨rfl, rfl⟩
  refine kw_step rfl rfl rfl rfl ?_
  refine kw_step rfl rfl rfl rfl ?_
  refine kw_step rfl rfl rfl rfl ?_
  refine kw_step rfl rfl rfl rfl ?_
  refine kw_get rfl (hH_O (rfl : kotab 85 = some kMo)) rfl ?_
  refine kw_step rfl rfl rfl rfl ?_
  refine kw_iald rfl (hH_A (rfl : ktab 86 = some (0, 6))) (by decide) (by decide) (j := 0) rfl ?_
  refine kw_step rfl rfl rfl rfl ?_
  refine kw_step rfl rfl rfl rfl ?_
  refine kw_step rfl rfl rfl rfl ?_
  obtain ⟨q1, hq1, hf⟩ := gbind hf
  refine kw_callS (vs := [kJ x1, kJ 0, kJ (wI ((s 86 0) - 1))]) rfl rfl rfl ⟨rfl, Nat.le_of_ble_eq_true rfl, Nat.le_of_ble_eq_true rfl, rfl⟩ (c_M_in x1 0 (wI ((s 86 0) - 1)) s _ hq1) (Nat.le_of_ble_eq_true rfl) ?_
  refine kw_if_ne rfl rfl (fun c2 => ?_) (fun c2 => ?_)
  · have hf := giff c2 hf
    refine kw_step rfl rfl rfl rfl ?_
    refine kw_step (L' := [some (kr 85), some (kI x1), some (kI 0), none, none, none, none, none, none]) rfl rfl rfl rfl ?_
    exact kW_le (L' := [some (kr 85), some (kI x1), some (kI 0), none, none, none, none, none, none]) ⟨Or.inr rfl, Or.inr rfl, Or.inr rfl, Or.inl rfl, Or.inl rfl, Or.inl rfl, Or.inl rfl, Or.inl rfl, Or.inl rfl, trivial⟩ (b_M_backToFront_16 x1 0 s _ hf hq)
  · have hf := gift c2 hf
    refine kw_step rfl rfl rfl rfl ?_
    cases hf
    exact kw_ret rfl rfl rfl hq
def f_M_kindOf (x0 : Int) (s : kM) : Option (Int) :=
  if 11 ≤ x0 then (if 132 ≤ x0 then (some 3) else (some 2)) else (some 1)
set_option maxRecDepth 8000 in
theorem c_M_kindOf {sc : List Int} (x0 : Int) (s : kM) (t : Int) (hf : f_M_kindOf x0 s = some t) : kR sc 0 km_M_kindOf [kI x0] (hH s) (some (kI t)) (hH s) := by
  unfold f_M_kindOf at hf
  refine kR.start rfl ?_
  show kW sc 0 kc_M_kindOf 1 0 [some (kI x0)] [] (hH s) _
  have hq : (fun (r : Option kV) (g : kH) => r = some (kI t) ∧ g = hH s) (some (kI t)) (hH s) := ⟨rfl, rfl⟩
  refine kw_step rfl rfl rfl rfl ?_
  refine kw_step rfl rfl rfl rfl ?_
  refine kw_icmp_ge rfl rfl (fun c1 => ?_) (fun c1 => ?_)
  · have hf := gift c1 hf
    refine kw_step rfl rfl rfl rfl ?_
    refine kw_step rfl rfl rfl rfl ?_
    refine kw_icmp_ge rfl rfl (fun c2 => ?_) (fun c2 => ?_)
    · have hf := gift c2 hf
      refine kw_step rfl rfl rfl rfl ?_
      cases hf
      exact kw_ret rfl rfl rfl hq
    · have hf := giff c2 hf
      refine kw_step rfl rfl rfl rfl ?_
      refine kw_goto rfl rfl ?_
      cases hf
      exact kw_ret rfl rfl rfl hq
  · have hf := giff c1 hf
    refine kw_step rfl rfl rfl rfl ?_
    refine kw_goto rfl rfl ?_
    cases hf
    exact kw_ret rfl rfl rfl hq
def f_M_bridgeOf_30b (x1 : Int) (x3 : Int) (x4 : Int) (s : kM) : Option ((Int × Int) ⊕ (Int)) :=
  if x4 ≤ x1 then (some (.inr (krem x3 11))) else (some (.inl ((kdiv x3 11), (wI (x4 + (-1))))))
set_option maxRecDepth 8000 in
theorem b_M_bridgeOf_30b {sc : List Int} {Q : Option kV → kH → Prop} (x1 : Int) (x3 : Int) (x4 : Int) (s : kM) (t : (Int × Int) ⊕ (Int)) (hf : f_M_bridgeOf_30b x1 x3 x4 s = some t) (hq : (gE (fun x => kW sc 1 kc_M_bridgeOf 1 30 [none, some (kI x1), none, some (kI x.1), some (kI x.2)] [] (hH s) Q) (fun r => Q (some (kI r)) (hH s))) t) : kW sc 1 kc_M_bridgeOf 1 30 [none, some (kI x1), none, some (kI x3), some (kI x4)] [] (hH s) Q := by
  unfold f_M_bridgeOf_30b at hf
  refine kw_step rfl rfl rfl rfl ?_
  refine kw_step rfl rfl rfl rfl ?_
  refine kw_icmp_le rfl rfl (fun c1 => ?_) (fun c1 => ?_)
  · have hf := gift c1 hf
    refine kw_step rfl rfl rfl rfl ?_
    refine kw_step rfl rfl rfl rfl ?_
    refine kw_irem rfl (by decide) ?_
    cases hf
    exact kw_ret rfl rfl rfl hq
  · have hf := giff c1 hf
    refine kw_step rfl rfl rfl rfl ?_
    refine kw_step rfl rfl rfl rfl ?_
    refine kw_idiv rfl (by decide) ?_
    refine kw_step (L' := [none, some (kI x1), none, some (kI (kdiv x3 11)), some (kI x4)]) rfl rfl rfl rfl ?_
    refine kw_step (L' := [none, some (kI x1), none, some (kI (kdiv x3 11)), some (kI (wI (x4 + (-1))))]) rfl rfl rfl rfl ?_
    refine kw_goto rfl rfl ?_
    cases hf
    exact kW_le (L' := [none, some (kI x1), none, some (kI (kdiv x3 11)), some (kI (wI (x4 + (-1))))]) ⟨Or.inl rfl, Or.inr rfl, Or.inl rfl, Or.inr rfl, Or.inr rfl, trivial⟩ hq
def f_M_bridgeOf_30 (x1 : Int) (x3 : Int) (x4 : Int) (s : kM) : Option (Int) :=
  gL (fun (x : Int × Int) => f_M_bridgeOf_30b x1 x.1 x.2 s) gF (x3, x4)
theorem b_M_bridgeOf_30 {sc : List Int} {Q : Option kV → kH → Prop} (x1 : Int) (x3 : Int) (x4 : Int) (s : kM) (t : Int) (hf : f_M_bridgeOf_30 x1 x3 x4 s = some t) (hq : (fun r => Q (some (kI r)) (hH s)) t) : kW sc 1 kc_M_bridgeOf 1 30 [none, some (kI x1), none, some (kI x3), some (kI x4)] [] (hH s) Q :=
  gL_ind (P := fun (x : Int × Int) => kW sc 1 kc_M_bridgeOf 1 30 [none, some (kI x1), none, some (kI x.1), some (kI x.2)] [] (hH s) Q) (q := (fun r => Q (some (kI r)) (hH s))) (fun x t hf hq => b_M_bridgeOf_30b x1 x.1 x.2 s t hf hq) gF (x3, x4) t hf hq
def f_M_bridgeOf_25 (x1 : Int) (x2 : Int) (y0 : Int) (s : kM) : Option (Int) :=
  f_M_bridgeOf_30 x1 y0 (wI (x2 - 1)) s
set_option maxRecDepth 8000 in
theorem b_M_bridgeOf_25 {sc : List Int} {Q : Option kV → kH → Prop} (x1 : Int) (x2 : Int) (y0 : Int) (s : kM) (t : Int) (hf : f_M_bridgeOf_25 x1 x2 y0 s = some t) (hq : (fun r => Q (some (kI r)) (hH s)) t) : kW sc 1 kc_M_bridgeOf 1 25 [none, some (kI x1), some (kI x2), none, none] [kI y0] (hH s) Q := by
  unfold f_M_bridgeOf_25 at hf
  refine kw_step (L' := [none, some (kI x1), some (kI x2), some (kI y0), none]) rfl rfl rfl rfl ?_
  refine kw_step rfl rfl rfl rfl ?_
  refine kw_step rfl rfl rfl rfl ?_
  refine kw_step rfl rfl rfl rfl ?_
  refine kw_step (L' := [none, some (kI x1), some (kI x2), some (kI y0), some (kI (wI (x2 - 1)))]) rfl rfl rfl rfl ?_
  exact kW_le (L' := [none, some (kI x1), none, some (kI y0), some (kI (wI (x2 - 1)))]) ⟨Or.inl rfl, Or.inr rfl, Or.inl rfl, Or.inr rfl, Or.inr rfl, trivial⟩ (b_M_bridgeOf_30 x1 y0 (wI (x2 - 1)) s _ hf hq)
def f_M_bridgeOf (x0 : Int) (x1 : Int) (s : kM) : Option (Int) :=
  (f_M_kindOf x0 s).bind fun q1 => if x1 < q1 then (if q1 = 1 then (f_M_bridgeOf_25 x1 q1 x0 s) else (if q1 = 2 then (f_M_bridgeOf_25 x1 q1 (wI (x0 - 11)) s) else (f_M_bridgeOf_25 x1 q1 (wI ((wI (x0 - 11)) - 121)) s))) else (some (-1))
set_option maxRecDepth 8000 in
theorem c_M_bridgeOf {sc : List Int} (x0 : Int) (x1 : Int) (s : kM) (t : Int) (hf : f_M_bridgeOf x0 x1 s = some t) : kR sc 1 km_M_bridgeOf [kI x0, kI x1] (hH s) (some (kI t)) (hH s) := by
  unfold f_M_bridgeOf at hf
  refine kR.start rfl ?_
  show kW sc 1 kc_M_bridgeOf 1 0 [some (kI x0), some (kI x1), none, none, none] [] (hH s) _
  have hq : (fun (r : Option kV) (g : kH) => r = some (kI t) ∧ g = hH s) (some (kI t)) (hH s) := ⟨rfl, rfl⟩
  refine kw_step rfl rfl rfl rfl ?_
  obtain ⟨q1, hq1, hf⟩ := gbind hf
  refine kw_callS (vs := [kI x0]) rfl rfl rfl ⟨rfl, Nat.le_of_ble_eq_true rfl, Nat.le_of_ble_eq_true rfl, rfl⟩ (c_M_kindOf x0 s _ hq1) (Nat.le_of_ble_eq_true rfl) ?_
  refine kw_step (L' := [some (kI x0), some (kI x1), some (kI q1), none, none]) rfl rfl rfl rfl ?_
  refine kw_step rfl rfl rfl rfl ?_
  refine kw_step rfl rfl rfl rfl ?_
  refine kw_icmp_lt rfl rfl (fun c2 => ?_) (fun c2 => ?_)
  · have hf := gift c2 hf
    refine kw_step rfl rfl rfl rfl ?_
    refine kw_step rfl rfl rfl rfl ?_
    refine kw_icmp_ne rfl rfl (fun c3 => ?_) (fun c3 => ?_)
    · have hf := giff c3 hf
      refine kw_step rfl rfl rfl rfl ?_
      refine kw_step rfl rfl rfl rfl ?_
      refine kw_icmp_ne rfl rfl (fun c4 => ?_) (fun c4 => ?_)
      · have hf := giff c4 hf
        refine kw_step rfl rfl rfl rfl ?_
        refine kw_step rfl rfl rfl rfl ?_
        refine kw_step rfl rfl rfl rfl ?_
        refine kw_step rfl rfl rfl rfl ?_
        refine kw_step rfl rfl rfl rfl ?_
        exact kW_le (L' := [none, some (kI x1), some (kI q1), none, none]) ⟨Or.inl rfl, Or.inr rfl, Or.inr rfl, Or.inl rfl, Or.inl rfl, trivial⟩ (b_M_bridgeOf_25 x1 q1 (wI ((wI (x0 - 11)) - 121)) s _ hf hq)
      · have hf := gift c4 hf
        refine kw_step rfl rfl rfl rfl ?_
        refine kw_step rfl rfl rfl rfl ?_
        refine kw_step rfl rfl rfl rfl ?_
        refine kw_goto rfl rfl ?_
        exact kW_le (L' := [none, some (kI x1), some (kI q1), none, none]) ⟨Or.inl rfl, Or.inr rfl, Or.inr rfl, Or.inl rfl, Or.inl rfl, trivial⟩ (b_M_bridgeOf_25 x1 q1 (wI (x0 - 11)) s _ hf hq)
    · have hf := gift c3 hf
      refine kw_step rfl rfl rfl rfl ?_
      refine kw_goto rfl rfl ?_
      exact kW_le (L' := [none, some (kI x1), some (kI q1), none, none]) ⟨Or.inl rfl, Or.inr rfl, Or.inr rfl, Or.inl rfl, Or.inl rfl, trivial⟩ (b_M_bridgeOf_25 x1 q1 x0 s _ hf hq)
  · have hf := giff c2 hf
    refine kw_step rfl rfl rfl rfl ?_
    cases hf
    exact kw_ret rfl rfl rfl hq
def f_M_canMove (x1 : Int) (s : kM) : Option (Int × kM) :=
  (f_M_bridgeOf x1 0 s).bind fun q1 => (f_M_bridgeOf x1 1 s).bind fun q2 => (f_M_bridgeOf x1 2 s).bind fun q3 => (f_M_kindOf x1 s).bind fun q4 => if q4 = 1 then ((f_M_isOff q1 s).bind fun q6 => (gB q6).bind fun _ => some (q6, s)) else if q4 = 2 then (if q2 ≤ q1 then (some (0, s)) else ((f_M_isApart q1 q2 s).bind fun q10 => if q10 = 0 then (some (0, s)) else (some (1, s)))) else (if q2 ≤ q1 then (some (0, s)) else (if q3 ≤ q2 then (some (0, s)) else ((f_M_isSlide q1 q2 q3 s).bind fun q14 => if q14.1 = 0 then (some (0, q14.2)) else (some (1, q14.2)))))
set_option maxRecDepth 8000 in
theorem c_M_canMove {sc : List Int} (x1 : Int) (s : kM) (t : Int × kM) (hf : f_M_canMove x1 s = some t) : kR sc 5 km_M_canMove [kr 85, kI x1] (hH s) (some (kI t.1)) (hH t.2) := by
  unfold f_M_canMove at hf
  refine kR.start rfl ?_
  show kW sc 5 kc_M_canMove 2 0 [some (kr 85), some (kI x1), none, none, none] [] (hH s) _
  have hq : (fun (r : Option kV) (g : kH) => r = some (kI t.1) ∧ g = hH t.2) (some (kI t.1)) (hH t.2) := ⟨rfl, rfl⟩
  refine kw_step rfl rfl rfl rfl ?_
  refine kw_step rfl rfl rfl rfl ?_
  obtain ⟨q1, hq1, hf⟩ := gbind hf
  refine kw_callS (vs := [kI x1, kI 0]) rfl rfl rfl ⟨rfl, Nat.le_of_ble_eq_true rfl, Nat.le_of_ble_eq_true rfl, rfl⟩ (c_M_bridgeOf x1 0 s _ hq1) (Nat.le_of_ble_eq_true rfl) ?_
  refine kw_step (L' := [some (kr 85), some (kI x1), some (kI q1), none, none]) rfl rfl rfl rfl ?_
  refine kw_step rfl rfl rfl rfl ?_
  refine kw_step rfl rfl rfl rfl ?_
  obtain ⟨q2, hq2, hf⟩ := gbind hf
  refine kw_callS (vs := [kI x1, kI 1]) rfl rfl rfl ⟨rfl, Nat.le_of_ble_eq_true rfl, Nat.le_of_ble_eq_true rfl, rfl⟩ (c_M_bridgeOf x1 1 s _ hq2) (Nat.le_of_ble_eq_true rfl) ?_
  refine kw_step (L' := [some (kr 85), some (kI x1), some (kI q1), some (kI q2), none]) rfl rfl rfl rfl ?_
  refine kw_step rfl rfl rfl rfl ?_
  refine kw_step rfl rfl rfl rfl ?_
  obtain ⟨q3, hq3, hf⟩ := gbind hf
  refine kw_callS (vs := [kI x1, kI 2]) rfl rfl rfl ⟨rfl, Nat.le_of_ble_eq_true rfl, Nat.le_of_ble_eq_true rfl, rfl⟩ (c_M_bridgeOf x1 2 s _ hq3) (Nat.le_of_ble_eq_true rfl) ?_
  refine kw_step (L' := [some (kr 85), some (kI x1), some (kI q1), some (kI q2), some (kI q3)]) rfl rfl rfl rfl ?_
  refine kw_step rfl rfl rfl rfl ?_
  obtain ⟨q4, hq4, hf⟩ := gbind hf
  refine kw_callS (vs := [kI x1]) rfl rfl rfl ⟨rfl, Nat.le_of_ble_eq_true rfl, Nat.le_of_ble_eq_true rfl, rfl⟩ (c_M_kindOf x1 s _ hq4) (Nat.le_of_ble_eq_true rfl) ?_
  by_cases c5 : q4 = 1
  · have hf := gift c5 hf
    refine kw_lsw rfl (by rw [c5] <;> rfl) ?_
    refine kw_step rfl rfl rfl rfl ?_
    refine kw_step rfl rfl rfl rfl ?_
    obtain ⟨q6, hq6, hf⟩ := gbind hf
    refine kw_callV (vs := [kI q1]) rfl rfl rfl ⟨rfl, Nat.le_of_ble_eq_true rfl, Nat.le_of_ble_eq_true rfl, by decide⟩ (hH_O (rfl : kotab 85 = some kMo)) (c_M_isOff q1 s _ hq6) (Nat.le_of_ble_eq_true rfl) ?_
    obtain ⟨w7, hf⟩ := gbB hf
    cases hf
    exact kw_ret rfl rfl (if_pos w7) hq
  have hf := giff c5 hf
  by_cases c8 : q4 = 2
  · have hf := gift c8 hf
    refine kw_lsw rfl (by rw [c8] <;> rfl) ?_
    refine kw_step rfl rfl rfl rfl ?_
    refine kw_step rfl rfl rfl rfl ?_
    refine kw_icmp_ge rfl rfl (fun c9 => ?_) (fun c9 => ?_)
    · have hf := gift c9 hf
      refine kw_step rfl rfl rfl rfl ?_
      cases hf
      exact kw_ret rfl rfl rfl hq
    · have hf := giff c9 hf
      refine kw_step rfl rfl rfl rfl ?_
      refine kw_step rfl rfl rfl rfl ?_
      refine kw_step rfl rfl rfl rfl ?_
      obtain ⟨q10, hq10, hf⟩ := gbind hf
      refine kw_callV (vs := [kI q1, kI q2]) rfl rfl rfl ⟨rfl, Nat.le_of_ble_eq_true rfl, Nat.le_of_ble_eq_true rfl, by decide⟩ (hH_O (rfl : kotab 85 = some kMo)) (c_M_isApart q1 q2 s _ hq10) (Nat.le_of_ble_eq_true rfl) ?_
      refine kw_if_eq rfl rfl (fun c11 => ?_) (fun c11 => ?_)
      · have hf := gift c11 hf
        refine kw_step rfl rfl rfl rfl ?_
        cases hf
        exact kw_ret rfl rfl rfl hq
      · have hf := giff c11 hf
        refine kw_step rfl rfl rfl rfl ?_
        refine kw_goto rfl rfl ?_
        cases hf
        exact kw_ret rfl rfl rfl hq
  have hf := giff c8 hf
  refine kw_lsw (t' := 31) rfl (by show (Op.lookupswitch.offset [(1, 15), (2, 19)] _ _).toNat = _; simp only [Op.lookupswitch.offset_cons, Op.lookupswitch.offset_nil, if_neg (Ne.symm c5), if_neg (Ne.symm c8)]; rfl) ?_
  refine kw_step rfl rfl rfl rfl ?_
  refine kw_step rfl rfl rfl rfl ?_
  refine kw_icmp_ge rfl rfl (fun c12 => ?_) (fun c12 => ?_)
  · have hf := gift c12 hf
    refine kw_step rfl rfl rfl rfl ?_
    cases hf
    exact kw_ret rfl rfl rfl hq
  · have hf := giff c12 hf
    refine kw_step rfl rfl rfl rfl ?_
    refine kw_step rfl rfl rfl rfl ?_
    refine kw_icmp_ge rfl rfl (fun c13 => ?_) (fun c13 => ?_)
    · have hf := gift c13 hf
      refine kw_step rfl rfl rfl rfl ?_
      cases hf
      exact kw_ret rfl rfl rfl hq
    · have hf := giff c13 hf
      refine kw_step rfl rfl rfl rfl ?_
      refine kw_step rfl rfl rfl rfl ?_
      refine kw_step rfl rfl rfl rfl ?_
      refine kw_step rfl rfl rfl rfl ?_
      obtain ⟨q14, hq14, hf⟩ := gbind hf
      refine kw_callV (vs := [kI q1, kI q2, kI q3]) rfl rfl rfl ⟨rfl, Nat.le_of_ble_eq_true rfl, Nat.le_of_ble_eq_true rfl, by decide⟩ (hH_O (rfl : kotab 85 = some kMo)) (c_M_isSlide q1 q2 q3 s _ hq14) (Nat.le_of_ble_eq_true rfl) ?_
      refine kw_if_eq rfl rfl (fun c16 => ?_) (fun c16 => ?_)
      · have hf := gift c16 hf
        refine kw_step rfl rfl rfl rfl ?_
        cases hf
        exact kw_ret rfl rfl rfl hq
      · have hf := giff c16 hf
        refine kw_step rfl rfl rfl rfl ?_
        refine kw_goto rfl rfl ?_
        cases hf
        exact kw_ret rfl rfl rfl hq
