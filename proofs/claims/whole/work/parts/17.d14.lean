/-! PRINTED by wip/whole/decall.py: methods as functions over the flat world, with their contracts -/
def f_M_refresh_46 (x1 : Int) (s : kM) : Option ((Int × kM) ⊕ (kM)) :=
  some (.inl ((wI (x1 + 1)), s))
set_option maxRecDepth 8000 in
theorem b_M_refresh_46 {sc : List Int} {Q : Option kV → kH → Prop} (x1 : Int) (s : kM) (t : (Int × kM) ⊕ (kM)) (hf : f_M_refresh_46 x1 s = some t) (hq : (gE (fun x => kW sc 1 kc_M_refresh 0 19 [some (kr 85), some (kI x.1)] [] (hH x.2) Q) (fun r => Q none (hH r))) t) : kW sc 1 kc_M_refresh 0 46 [some (kr 85), some (kI x1)] [] (hH s) Q := by
  unfold f_M_refresh_46 at hf
  refine kw_step (L' := [some (kr 85), some (kI (wI (x1 + 1)))]) rfl rfl rfl rfl ?_
  refine kw_goto rfl rfl ?_
  cases hf
  exact kW_le (L' := [some (kr 85), some (kI (wI (x1 + 1)))]) ⟨Or.inr rfl, Or.inr rfl, trivial⟩ hq
def f_M_refresh_19b (x1 : Int) (s : kM) : Option ((Int × kM) ⊕ (kM)) :=
  (f_M_places s).bind fun q1 => if q1 ≤ x1 then (some (.inr s)) else ((gI 22 x1).bind fun j3 => if (s 88 j3) = 1 then ((gI 22 x1).bind fun j13 => (gI 11 (s 87 j13)).bind fun j15 => gLet (gU s 98 j15 x1) fun s17 => f_M_refresh_46 x1 s17) else ((gI 22 x1).bind fun j6 => (gI 11 (s 87 j6)).bind fun j8 => gLet (gU s 99 j8 x1) fun s10 => f_M_refresh_46 x1 s10))
set_option maxRecDepth 8000 in
theorem b_M_refresh_19b {sc : List Int} {Q : Option kV → kH → Prop} (x1 : Int) (s : kM) (t : (Int × kM) ⊕ (kM)) (hf : f_M_refresh_19b x1 s = some t) (hq : (gE (fun x => kW sc 1 kc_M_refresh 0 19 [some (kr 85), some (kI x.1)] [] (hH x.2) Q) (fun r => Q none (hH r))) t) : kW sc 1 kc_M_refresh 0 19 [some (kr 85), some (kI x1)] [] (hH s) Q := by
  unfold f_M_refresh_19b at hf
  refine kw_step rfl rfl rfl rfl ?_
  refine kw_step rfl rfl rfl rfl ?_
  obtain ⟨q1, hq1, hf⟩ := gbind hf
  refine kw_callV (vs := []) rfl rfl rfl ⟨rfl, Nat.le_of_ble_eq_true rfl, Nat.le_of_ble_eq_true rfl, by decide⟩ (hH_O (rfl : kotab 85 = some kMo)) (c_M_places s _ hq1) (Nat.le_of_ble_eq_true rfl) ?_
  refine kw_icmp_ge rfl rfl (fun c2 => ?_) (fun c2 => ?_)
  · have hf := gift c2 hf
    cases hf
    exact kw_ret rfl rfl rfl hq
  · have hf := giff c2 hf
    refine kw_step rfl rfl rfl rfl ?_
    refine kw_get rfl (hH_O (rfl : kotab 85 = some kMo)) rfl ?_
    refine kw_step rfl rfl rfl rfl ?_
    obtain ⟨j3, i4, hf⟩ := gbI hf
    refine kw_iald rfl (hH_A (rfl : ktab 88 = some (0, 22))) i4.1 i4.2.1 i4.2.2 ?_
    refine kw_step rfl rfl rfl rfl ?_
    refine kw_icmp_ne rfl rfl (fun c5 => ?_) (fun c5 => ?_)
    · have hf := giff c5 hf
      refine kw_step rfl rfl rfl rfl ?_
      refine kw_get rfl (hH_O (rfl : kotab 85 = some kMo)) rfl ?_
      refine kw_step rfl rfl rfl rfl ?_
      refine kw_get rfl (hH_O (rfl : kotab 85 = some kMo)) rfl ?_
      refine kw_step rfl rfl rfl rfl ?_
      obtain ⟨j6, i7, hf⟩ := gbI hf
      refine kw_iald rfl (hH_A (rfl : ktab 87 = some (0, 22))) i7.1 i7.2.1 i7.2.2 ?_
      refine kw_step rfl rfl rfl rfl ?_
      obtain ⟨j8, i9, hf⟩ := gbI hf
      obtain ⟨s10, ee11, hf⟩ := gbL hf
      refine kw_iastH rfl (rfl : ktab 99 = some (0, 11)) i9.1 i9.2.1 i9.2.2 ee11 ?_
      exact kW_le (L' := [some (kr 85), some (kI x1)]) ⟨Or.inr rfl, Or.inr rfl, trivial⟩ (b_M_refresh_46 x1 s10 _ hf hq)
    · have hf := gift c5 hf
      refine kw_step rfl rfl rfl rfl ?_
      refine kw_get rfl (hH_O (rfl : kotab 85 = some kMo)) rfl ?_
      refine kw_step rfl rfl rfl rfl ?_
      refine kw_get rfl (hH_O (rfl : kotab 85 = some kMo)) rfl ?_
      refine kw_step rfl rfl rfl rfl ?_
      obtain ⟨j13, i14, hf⟩ := gbI hf
      refine kw_iald rfl (hH_A (rfl : ktab 87 = some (0, 22))) i14.1 i14.2.1 i14.2.2 ?_
      refine kw_step rfl rfl rfl rfl ?_
      obtain ⟨j15, i16, hf⟩ := gbI hf
      obtain ⟨s17, ee18, hf⟩ := gbL hf
      refine kw_iastH rfl (rfl : ktab 98 = some (0, 11)) i16.1 i16.2.1 i16.2.2 ee18 ?_
      refine kw_goto rfl rfl ?_
      exact kW_le (L' := [some (kr 85), some (kI x1)]) ⟨Or.inr rfl, Or.inr rfl, trivial⟩ (b_M_refresh_46 x1 s17 _ hf hq)
def f_M_refresh_19 (x1 : Int) (s : kM) : Option (kM) :=
  gL (fun (x : Int × kM) => f_M_refresh_19b x.1 x.2) gF (x1, s)
theorem b_M_refresh_19 {sc : List Int} {Q : Option kV → kH → Prop} (x1 : Int) (s : kM) (t : kM) (hf : f_M_refresh_19 x1 s = some t) (hq : (fun r => Q none (hH r)) t) : kW sc 1 kc_M_refresh 0 19 [some (kr 85), some (kI x1)] [] (hH s) Q :=
  gL_ind (P := fun (x : Int × kM) => kW sc 1 kc_M_refresh 0 19 [some (kr 85), some (kI x.1)] [] (hH x.2) Q) (q := (fun r => Q none (hH r))) (fun x t hf hq => b_M_refresh_19b x.1 x.2 t hf hq) gF (x1, s) t hf hq
def f_M_refresh_2b (x1 : Int) (s : kM) : Option ((Int × kM) ⊕ (kM)) :=
  if 11 ≤ x1 then ((f_M_refresh_19 0 s).map Sum.inr) else ((gI 11 x1).bind fun j4 => gLet (gU s 98 j4 (-1)) fun s6 => (gI 11 x1).bind fun j9 => gLet (gU s6 99 j9 (-1)) fun s11 => some (.inl ((wI (x1 + 1)), s11)))
set_option maxRecDepth 8000 in
theorem b_M_refresh_2b {sc : List Int} {Q : Option kV → kH → Prop} (x1 : Int) (s : kM) (t : (Int × kM) ⊕ (kM)) (hf : f_M_refresh_2b x1 s = some t) (hq : (gE (fun x => kW sc 1 kc_M_refresh 0 2 [some (kr 85), some (kI x.1)] [] (hH x.2) Q) (fun r => Q none (hH r))) t) : kW sc 1 kc_M_refresh 0 2 [some (kr 85), some (kI x1)] [] (hH s) Q := by
  unfold f_M_refresh_2b at hf
  refine kw_step rfl rfl rfl rfl ?_
  refine kw_step rfl rfl rfl rfl ?_
  refine kw_icmp_ge rfl rfl (fun c1 => ?_) (fun c1 => ?_)
  · have hf := gift c1 hf
    refine kw_step rfl rfl rfl rfl ?_
    refine kw_step (L' := [some (kr 85), some (kI 0)]) rfl rfl rfl rfl ?_
    obtain ⟨t2, hg3, rfl⟩ := gmap hf
    exact kW_le (L' := [some (kr 85), some (kI 0)]) ⟨Or.inr rfl, Or.inr rfl, trivial⟩ (b_M_refresh_19 0 s _ hg3 hq)
  · have hf := giff c1 hf
    refine kw_step rfl rfl rfl rfl ?_
    refine kw_get rfl (hH_O (rfl : kotab 85 = some kMo)) rfl ?_
    refine kw_step rfl rfl rfl rfl ?_
    refine kw_step rfl rfl rfl rfl ?_
    obtain ⟨j4, i5, hf⟩ := gbI hf
    obtain ⟨s6, ee7, hf⟩ := gbL hf
    refine kw_iastH rfl (rfl : ktab 98 = some (0, 11)) i5.1 i5.2.1 i5.2.2 ee7 ?_
    refine kw_step rfl rfl rfl rfl ?_
    refine kw_get rfl (hH_O (rfl : kotab 85 = some kMo)) rfl ?_
    refine kw_step rfl rfl rfl rfl ?_
    refine kw_step rfl rfl rfl rfl ?_
    obtain ⟨j9, i10, hf⟩ := gbI hf
    obtain ⟨s11, ee12, hf⟩ := gbL hf
    refine kw_iastH rfl (rfl : ktab 99 = some (0, 11)) i10.1 i10.2.1 i10.2.2 ee12 ?_
    refine kw_step (L' := [some (kr 85), some (kI (wI (x1 + 1)))]) rfl rfl rfl rfl ?_
    refine kw_goto rfl rfl ?_
    cases hf
    exact kW_le (L' := [some (kr 85), some (kI (wI (x1 + 1)))]) ⟨Or.inr rfl, Or.inr rfl, trivial⟩ hq
def f_M_refresh_2 (x1 : Int) (s : kM) : Option (kM) :=
  gL (fun (x : Int × kM) => f_M_refresh_2b x.1 x.2) gF (x1, s)
theorem b_M_refresh_2 {sc : List Int} {Q : Option kV → kH → Prop} (x1 : Int) (s : kM) (t : kM) (hf : f_M_refresh_2 x1 s = some t) (hq : (fun r => Q none (hH r)) t) : kW sc 1 kc_M_refresh 0 2 [some (kr 85), some (kI x1)] [] (hH s) Q :=
  gL_ind (P := fun (x : Int × kM) => kW sc 1 kc_M_refresh 0 2 [some (kr 85), some (kI x.1)] [] (hH x.2) Q) (q := (fun r => Q none (hH r))) (fun x t hf hq => b_M_refresh_2b x.1 x.2 t hf hq) gF (x1, s) t hf hq
def f_M_refresh (s : kM) : Option (kM) :=
  f_M_refresh_2 0 s
set_option maxRecDepth 8000 in
theorem c_M_refresh {sc : List Int} (s : kM) (t : kM) (hf : f_M_refresh s = some t) : kR sc 1 km_M_refresh [kr 85] (hH s) none (hH t) := by
  unfold f_M_refresh at hf
  refine kR.start rfl ?_
  show kW sc 1 kc_M_refresh 0 0 [some (kr 85), none] [] (hH s) _
  have hq : (fun (r : Option kV) (g : kH) => r = none ∧ g = hH t) none (hH t) := ⟨rfl, rfl⟩
  refine kw_step rfl rfl rfl rfl ?_
  refine kw_step (L' := [some (kr 85), some (kI 0)]) rfl rfl rfl rfl ?_
  exact kW_le (L' := [some (kr 85), some (kI 0)]) ⟨Or.inr rfl, Or.inr rfl, trivial⟩ (b_M_refresh_2 0 s _ hf hq)
def f_M_put_2b (x1 : Int) (x2 : Int) (s : kM) : Option ((Int × kM) ⊕ (kM)) :=
  if x2 < 0 then (some (.inr s)) else ((gI 400 (s 85 21)).bind fun j2 => gLet (gU s 105 j2 (ki2b (ki2b (kshr x1 x2)))) fun s4 => gLet (gU s4 85 21 (wI ((s4 85 21) + 1))) fun s7 => some (.inl ((wI (x2 + (-8))), s7)))
set_option maxRecDepth 8000 in
theorem b_M_put_2b {sc : List Int} {Q : Option kV → kH → Prop} (x1 : Int) (x2 : Int) (s : kM) (t : (Int × kM) ⊕ (kM)) (hf : f_M_put_2b x1 x2 s = some t) (hq : (gE (fun x => kW sc 0 kc_M_put 0 2 [some (kr 85), some (kI x1), some (kI x.1)] [] (hH x.2) Q) (fun r => Q none (hH r))) t) : kW sc 0 kc_M_put 0 2 [some (kr 85), some (kI x1), some (kI x2)] [] (hH s) Q := by
  unfold f_M_put_2b at hf
  refine kw_step rfl rfl rfl rfl ?_
  refine kw_if_lt rfl rfl (fun c1 => ?_) (fun c1 => ?_)
  · have hf := gift c1 hf
    cases hf
    exact kw_ret rfl rfl rfl hq
  · have hf := giff c1 hf
    refine kw_step rfl rfl rfl rfl ?_
    refine kw_get rfl (hH_O (rfl : kotab 85 = some kMo)) rfl ?_
    refine kw_step rfl rfl rfl rfl ?_
    refine kw_get rfl (hH_O (rfl : kotab 85 = some kMo)) rfl ?_
    refine kw_step rfl rfl rfl rfl ?_
    refine kw_step rfl rfl rfl rfl ?_
    refine kw_step rfl rfl rfl rfl ?_
    refine kw_step rfl rfl rfl rfl ?_
    obtain ⟨j2, i3, hf⟩ := gbI hf
    obtain ⟨s4, ee5, hf⟩ := gbL hf
    refine kw_bastH rfl (rfl : ktab 105 = some (1, 400)) i3.1 i3.2.1 i3.2.2 ee5 ?_
    refine kw_step rfl rfl rfl rfl ?_
    refine kw_step rfl rfl rfl rfl ?_
    refine kw_get rfl (hH_O (rfl : kotab 85 = some kMo)) rfl ?_
    refine kw_step rfl rfl rfl rfl ?_
    refine kw_step rfl rfl rfl rfl ?_
    obtain ⟨s7, ee8, hf⟩ := gbL hf
    refine kw_putH rfl (rfl : kotab 85 = some kMo) rfl rfl rfl (Nat.le_of_ble_eq_true rfl) rfl ee8 ?_
    refine kw_step (L' := [some (kr 85), some (kI x1), some (kI (wI (x2 + (-8))))]) rfl rfl rfl rfl ?_
    refine kw_goto rfl rfl ?_
    cases hf
    exact kW_le (L' := [some (kr 85), some (kI x1), some (kI (wI (x2 + (-8))))]) ⟨Or.inr rfl, Or.inr rfl, Or.inr rfl, trivial⟩ hq
def f_M_put_2 (x1 : Int) (x2 : Int) (s : kM) : Option (kM) :=
  gL (fun (x : Int × kM) => f_M_put_2b x1 x.1 x.2) gF (x2, s)
theorem b_M_put_2 {sc : List Int} {Q : Option kV → kH → Prop} (x1 : Int) (x2 : Int) (s : kM) (t : kM) (hf : f_M_put_2 x1 x2 s = some t) (hq : (fun r => Q none (hH r)) t) : kW sc 0 kc_M_put 0 2 [some (kr 85), some (kI x1), some (kI x2)] [] (hH s) Q :=
  gL_ind (P := fun (x : Int × kM) => kW sc 0 kc_M_put 0 2 [some (kr 85), some (kI x1), some (kI x.1)] [] (hH x.2) Q) (q := (fun r => Q none (hH r))) (fun x t hf hq => b_M_put_2b x1 x.1 x.2 t hf hq) gF (x2, s) t hf hq
def f_M_put (x1 : Int) (s : kM) : Option (kM) :=
  f_M_put_2 x1 24 s
set_option maxRecDepth 8000 in
theorem c_M_put {sc : List Int} (x1 : Int) (s : kM) (t : kM) (hf : f_M_put x1 s = some t) : kR sc 0 km_M_put [kr 85, kI x1] (hH s) none (hH t) := by
  unfold f_M_put at hf
  refine kR.start rfl ?_
  show kW sc 0 kc_M_put 0 0 [some (kr 85), some (kI x1), none] [] (hH s) _
  have hq : (fun (r : Option kV) (g : kH) => r = none ∧ g = hH t) none (hH t) := ⟨rfl, rfl⟩
  refine kw_step rfl rfl rfl rfl ?_
  refine kw_step (L' := [some (kr 85), some (kI x1), some (kI 24)]) rfl rfl rfl rfl ?_
  exact kW_le (L' := [some (kr 85), some (kI x1), some (kI 24)]) ⟨Or.inr rfl, Or.inr rfl, Or.inr rfl, trivial⟩ (b_M_put_2 x1 24 s _ hf hq)
def f_M_feed (x1 : Int) (x2 : Int) (x3 : Int) (x4 : Int) (x5 : Int) (s : kM) : Option (Int × kM) :=
  if (wI ((s 85 21) + 20)) ≤ 400 then ((f_M_put x1 s).bind fun q2 => (f_M_put x2 q2).bind fun q4 => (f_M_put x3 q4).bind fun q6 => (f_M_put x4 q6).bind fun q8 => (f_M_put x5 q8).bind fun q10 => some ((q10 85 21), q10)) else (some ((-1), s))
set_option maxRecDepth 8000 in
theorem c_M_feed {sc : List Int} (x1 : Int) (x2 : Int) (x3 : Int) (x4 : Int) (x5 : Int) (s : kM) (t : Int × kM) (hf : f_M_feed x1 x2 x3 x4 x5 s = some t) : kR sc 1 km_M_feed [kr 85, kI x1, kI x2, kI x3, kI x4, kI x5] (hH s) (some (kI t.1)) (hH t.2) := by
  unfold f_M_feed at hf
  refine kR.start rfl ?_
  show kW sc 1 kc_M_feed 1 0 [some (kr 85), some (kI x1), some (kI x2), some (kI x3), some (kI x4), some (kI x5)] [] (hH s) _
  have hq : (fun (r : Option kV) (g : kH) => r = some (kI t.1) ∧ g = hH t.2) (some (kI t.1)) (hH t.2) := ⟨rfl, rfl⟩
  refine kw_step rfl rfl rfl rfl ?_
  refine kw_get rfl (hH_O (rfl : kotab 85 = some kMo)) rfl ?_
  refine kw_step rfl rfl rfl rfl ?_
  refine kw_step rfl rfl rfl rfl ?_
  refine kw_step rfl rfl rfl rfl ?_
  refine kw_icmp_le rfl rfl (fun c1 => ?_) (fun c1 => ?_)
  · have hf := gift c1 hf
    refine kw_step rfl rfl rfl rfl ?_
    refine kw_step rfl rfl rfl rfl ?_
    obtain ⟨q2, hq2, hf⟩ := gbind hf
    refine kw_callV (vs := [kI x1]) rfl rfl rfl ⟨rfl, Nat.le_of_ble_eq_true rfl, Nat.le_of_ble_eq_true rfl, by decide⟩ (hH_O (rfl : kotab 85 = some kMo)) (c_M_put x1 s _ hq2) (Nat.le_of_ble_eq_true rfl) ?_
    refine kw_step rfl rfl rfl rfl ?_
    refine kw_step rfl rfl rfl rfl ?_
    obtain ⟨q4, hq4, hf⟩ := gbind hf
    refine kw_callV (vs := [kI x2]) rfl rfl rfl ⟨rfl, Nat.le_of_ble_eq_true rfl, Nat.le_of_ble_eq_true rfl, by decide⟩ (hH_O (rfl : kotab 85 = some kMo)) (c_M_put x2 q2 _ hq4) (Nat.le_of_ble_eq_true rfl) ?_
    refine kw_step rfl rfl rfl rfl ?_
    refine kw_step rfl rfl rfl rfl ?_
    obtain ⟨q6, hq6, hf⟩ := gbind hf
    refine kw_callV (vs := [kI x3]) rfl rfl rfl ⟨rfl, Nat.le_of_ble_eq_true rfl, Nat.le_of_ble_eq_true rfl, by decide⟩ (hH_O (rfl : kotab 85 = some kMo)) (c_M_put x3 q4 _ hq6) (Nat.le_of_ble_eq_true rfl) ?_
    refine kw_step rfl rfl rfl rfl ?_
    refine kw_step rfl rfl rfl rfl ?_
    obtain ⟨q8, hq8, hf⟩ := gbind hf
    refine kw_callV (vs := [kI x4]) rfl rfl rfl ⟨rfl, Nat.le_of_ble_eq_true rfl, Nat.le_of_ble_eq_true rfl, by decide⟩ (hH_O (rfl : kotab 85 = some kMo)) (c_M_put x4 q6 _ hq8) (Nat.le_of_ble_eq_true rfl) ?_
    refine kw_step rfl rfl rfl rfl ?_
    refine kw_step rfl rfl rfl rfl ?_
    obtain ⟨q10, hq10, hf⟩ := gbind hf
    refine kw_callV (vs := [kI x5]) rfl rfl rfl ⟨rfl, Nat.le_of_ble_eq_true rfl, Nat.le_of_ble_eq_true rfl, by decide⟩ (hH_O (rfl : kotab 85 = some kMo)) (c_M_put x5 q8 _ hq10) (Nat.le_of_ble_eq_true rfl) ?_
    refine kw_step rfl rfl rfl rfl ?_
    refine kw_get rfl (hH_O (rfl : kotab 85 = some kMo)) rfl ?_
    cases hf
    exact kw_ret rfl rfl rfl hq
  · have hf := giff c1 hf
    refine kw_step rfl rfl rfl rfl ?_
    cases hf
    exact kw_ret rfl rfl rfl hq
def f_M_end (x1 : Int) (s : kM) : Option (Int × kM) :=
  if x1 < 0 then (some ((-1), s)) else (if x1 ≤ (s 85 21) then (gLet (gU s 85 21 x1) fun s3 => some (x1, s3)) else (some ((-1), s)))
set_option maxRecDepth 8000 in
theorem c_M_end {sc : List Int} (x1 : Int) (s : kM) (t : Int × kM) (hf : f_M_end x1 s = some t) : kR sc 0 km_M_end [kr 85, kI x1] (hH s) (some (kI t.1)) (hH t.2) := by
  unfold f_M_end at hf
  refine kR.start rfl ?_
  show kW sc 0 kc_M_end 1 0 [some (kr 85), some (kI x1)] [] (hH s) _
  have hq : (fun (r : Option kV) (g : kH) => r = some (kI t.1) ∧ g = hH t.2) (some (kI t.1)) (hH t.2) := ⟨rfl, rfl⟩
  refine kw_step rfl rfl rfl rfl ?_
  refine kw_if_lt rfl rfl (fun c1 => ?_) (fun c1 => ?_)
  · have hf := gift c1 hf
    refine kw_step rfl rfl rfl rfl ?_
    cases hf
    exact kw_ret rfl rfl rfl hq
  · have hf := giff c1 hf
    refine kw_step rfl rfl rfl rfl ?_
    refine kw_step rfl rfl rfl rfl ?_
    refine kw_get rfl (hH_O (rfl : kotab 85 = some kMo)) rfl ?_
    refine kw_icmp_le rfl rfl (fun c2 => ?_) (fun c2 => ?_)
    · have hf := gift c2 hf
      refine kw_step rfl rfl rfl rfl ?_
      refine kw_step rfl rfl rfl rfl ?_
      obtain ⟨s3, ee4, hf⟩ := gbL hf
      refine kw_putH rfl (rfl : kotab 85 = some kMo) rfl rfl rfl (Nat.le_of_ble_eq_true rfl) rfl ee4 ?_
      refine kw_step rfl rfl rfl rfl ?_
      cases hf
      exact kw_ret rfl rfl rfl hq
    · have hf := giff c2 hf
      refine kw_step rfl rfl rfl rfl ?_
      cases hf
      exact kw_ret rfl rfl rfl hq
def f_M_starts (s : kM) : Option (kM) :=
  gLet (gU s 85 22 0) fun s1 => gLet (gU s1 85 23 0) fun s4 => gLet (gU s4 85 26 0) fun s7 => gLet (gU s7 85 27 0) fun s10 => gLet (gU s10 85 28 0) fun s13 => some s13
set_option maxRecDepth 8000 in
theorem c_M_starts {sc : List Int} (s : kM) (t : kM) (hf : f_M_starts s = some t) : kR sc 0 km_M_starts [kr 85] (hH s) none (hH t) := by
  unfold f_M_starts at hf
  refine kR.start rfl ?_
  show kW sc 0 kc_M_starts 0 0 [some (kr 85)] [] (hH s) _
  have hq : (fun (r : Option kV) (g : kH) => r = none ∧ g = hH t) none (hH t) := ⟨rfl, rfl⟩
  refine kw_step rfl rfl rfl rfl ?_
  refine kw_step rfl rfl rfl rfl ?_
  obtain ⟨s1, ee2, hf⟩ := gbL hf
  refine kw_putH rfl (rfl : kotab 85 = some kMo) rfl rfl rfl (Nat.le_of_ble_eq_true rfl) rfl ee2 ?_
  refine kw_step rfl rfl rfl rfl ?_
  refine kw_step rfl rfl rfl rfl ?_
  obtain ⟨s4, ee5, hf⟩ := gbL hf
  refine kw_putH rfl (rfl : kotab 85 = some kMo) rfl rfl rfl (Nat.le_of_ble_eq_true rfl) rfl ee5 ?_
  refine kw_step rfl rfl rfl rfl ?_
  refine kw_step rfl rfl rfl rfl ?_
  obtain ⟨s7, ee8, hf⟩ := gbL hf
  refine kw_putH rfl (rfl : kotab 85 = some kMo) rfl rfl rfl (Nat.le_of_ble_eq_true rfl) rfl ee8 ?_
  refine kw_step rfl rfl rfl rfl ?_
  refine kw_step rfl rfl rfl rfl ?_
  obtain ⟨s10, ee11, hf⟩ := gbL hf
  refine kw_putH rfl (rfl : kotab 85 = some kMo) rfl rfl rfl (Nat.le_of_ble_eq_true rfl) rfl ee11 ?_
  refine kw_step rfl rfl rfl rfl ?_
  refine kw_step rfl rfl rfl rfl ?_
  obtain ⟨s13, ee14, hf⟩ := gbL hf
  refine kw_putH rfl (rfl : kotab 85 = some kMo) rfl rfl rfl (Nat.le_of_ble_eq_true rfl) rfl ee14 ?_
  cases hf
  exact kw_ret rfl rfl rfl hq
def f_M_sign (s : kM) : Option (Int) :=
  if (s 85 21) ≤ (s 85 22) then (some (-1)) else ((gI 400 (s 85 22)).bind fun j2 => some (kand (s 105 j2) 255))
set_option maxRecDepth 8000 in
theorem c_M_sign {sc : List Int} (s : kM) (t : Int) (hf : f_M_sign s = some t) : kR sc 0 km_M_sign [kr 85] (hH s) (some (kI t)) (hH s) := by
  unfold f_M_sign at hf
  refine kR.start rfl ?_
  show kW sc 0 kc_M_sign 1 0 [some (kr 85)] [] (hH s) _
  have hq : (fun (r : Option kV) (g : kH) => r = some (kI t) ∧ g = hH s) (some (kI t)) (hH s) := ⟨rfl, rfl⟩
  refine kw_step rfl rfl rfl rfl ?_
  refine kw_get rfl (hH_O (rfl : kotab 85 = some kMo)) rfl ?_
  refine kw_step rfl rfl rfl rfl ?_
  refine kw_get rfl (hH_O (rfl : kotab 85 = some kMo)) rfl ?_
  refine kw_icmp_ge rfl rfl (fun c1 => ?_) (fun c1 => ?_)
  · have hf := gift c1 hf
    refine kw_step rfl rfl rfl rfl ?_
    cases hf
    exact kw_ret rfl rfl rfl hq
  · have hf := giff c1 hf
    refine kw_step rfl rfl rfl rfl ?_
    refine kw_get rfl (hH_O (rfl : kotab 85 = some kMo)) rfl ?_
    refine kw_step rfl rfl rfl rfl ?_
    refine kw_get rfl (hH_O (rfl : kotab 85 = some kMo)) rfl ?_
    obtain ⟨j2, i3, hf⟩ := gbI hf
    refine kw_bald rfl (hH_A (rfl : ktab 105 = some (1, 400))) i3.1 i3.2.1 i3.2.2 ?_
    refine kw_step rfl rfl rfl rfl ?_
    refine kw_step rfl rfl rfl rfl ?_
    refine kw_goto rfl rfl ?_
    cases hf
    exact kw_ret rfl rfl rfl hq
def f_M_blanks_0b (s : kM) : Option ((kM) ⊕ (kM)) :=
  (f_M_sign s).bind fun q1 => if q1 = 32 then (gLet (gU s 85 22 (wI ((s 85 22) + 1))) fun s3 => some (.inl (s3))) else (some (.inr s))
set_option maxRecDepth 8000 in
theorem b_M_blanks_0b {sc : List Int} {Q : Option kV → kH → Prop} (s : kM) (t : (kM) ⊕ (kM)) (hf : f_M_blanks_0b s = some t) (hq : (gE (fun x => kW sc 1 kc_M_blanks 0 0 [some (kr 85)] [] (hH x) Q) (fun r => Q none (hH r))) t) : kW sc 1 kc_M_blanks 0 0 [some (kr 85)] [] (hH s) Q := by
  unfold f_M_blanks_0b at hf
  refine kw_step rfl rfl rfl rfl ?_
  obtain ⟨q1, hq1, hf⟩ := gbind hf
  refine kw_callV (vs := []) rfl rfl rfl ⟨rfl, Nat.le_of_ble_eq_true rfl, Nat.le_of_ble_eq_true rfl, by decide⟩ (hH_O (rfl : kotab 85 = some kMo)) (c_M_sign s _ hq1) (Nat.le_of_ble_eq_true rfl) ?_
  refine kw_step rfl rfl rfl rfl ?_
  refine kw_icmp_ne rfl rfl (fun c2 => ?_) (fun c2 => ?_)
  · have hf := giff c2 hf
    cases hf
    exact kw_ret rfl rfl rfl hq
  · have hf := gift c2 hf
    refine kw_step rfl rfl rfl rfl ?_
    refine kw_step rfl rfl rfl rfl ?_
    refine kw_get rfl (hH_O (rfl : kotab 85 = some kMo)) rfl ?_
    refine kw_step rfl rfl rfl rfl ?_
    refine kw_step rfl rfl rfl rfl ?_
    obtain ⟨s3, ee4, hf⟩ := gbL hf
    refine kw_putH rfl (rfl : kotab 85 = some kMo) rfl rfl rfl (Nat.le_of_ble_eq_true rfl) rfl ee4 ?_
    refine kw_goto rfl rfl ?_
    cases hf
    exact kW_le (L' := [some (kr 85)]) ⟨Or.inr rfl, trivial⟩ hq
def f_M_blanks_0 (s : kM) : Option (kM) :=
  gL (fun (x : kM) => f_M_blanks_0b x) gF (s)
theorem b_M_blanks_0 {sc : List Int} {Q : Option kV → kH → Prop} (s : kM) (t : kM) (hf : f_M_blanks_0 s = some t) (hq : (fun r => Q none (hH r)) t) : kW sc 1 kc_M_blanks 0 0 [some (kr 85)] [] (hH s) Q :=
  gL_ind (P := fun (x : kM) => kW sc 1 kc_M_blanks 0 0 [some (kr 85)] [] (hH x) Q) (q := (fun r => Q none (hH r))) (fun x t hf hq => b_M_blanks_0b x t hf hq) gF (s) t hf hq
def f_M_blanks (s : kM) : Option (kM) :=
  f_M_blanks_0 s
theorem c_M_blanks {sc : List Int} (s : kM) (t : kM) (hf : f_M_blanks s = some t) : kR sc 1 km_M_blanks [kr 85] (hH s) none (hH t) := by
  unfold f_M_blanks at hf
  refine kR.start rfl ?_
  show kW sc 1 kc_M_blanks 0 0 [some (kr 85)] [] (hH s) _
  have hq : (fun (r : Option kV) (g : kH) => r = none ∧ g = hH t) none (hH t) := ⟨rfl, rfl⟩
  exact kW_le (L' := [some (kr 85)]) ⟨Or.inr rfl, trivial⟩ (b_M_blanks_0 s t hf hq)
def f_M_stood_54 (t1 : Nat) (x4 : Int) (y0 : Int) (s : kM) : Option ((Int × Int) ⊕ (Int)) :=
  some (.inl (y0, (wI (x4 + 1))))
set_option maxRecDepth 8000 in
theorem b_M_stood_54 {sc : List Int} {Q : Option kV → kH → Prop} (t1 : Nat) (x4 : Int) (y0 : Int) (s : kM) (t : (Int × Int) ⊕ (Int)) (hf : f_M_stood_54 t1 x4 y0 s = some t) (hq : (gE (fun x => kW sc 0 kc_M_stood 2 34 [some (kr 85), some (kS t1), none, some (kI x.1), some (kI x.2)] [] (hH s) Q) (fun r => Q (some (kI r)) (hH s))) t) : kW sc 0 kc_M_stood 2 54 [some (kr 85), some (kS t1), none, none, some (kI x4)] [kI y0] (hH s) Q := by
  unfold f_M_stood_54 at hf
  refine kw_step (L' := [some (kr 85), some (kS t1), none, some (kI y0), some (kI x4)]) rfl rfl rfl rfl ?_
  refine kw_step (L' := [some (kr 85), some (kS t1), none, some (kI y0), some (kI (wI (x4 + 1)))]) rfl rfl rfl rfl ?_
  refine kw_goto rfl rfl ?_
  cases hf
  exact kW_le (L' := [some (kr 85), some (kS t1), none, some (kI y0), some (kI (wI (x4 + 1)))]) ⟨Or.inr rfl, Or.inr rfl, Or.inl rfl, Or.inr rfl, Or.inr rfl, trivial⟩ hq
def f_M_stood_34b (t1 : Nat) (x3 : Int) (x4 : Int) (s : kM) : Option ((Int × Int) ⊕ (Int)) :=
  (gJ t1).bind fun _ => if ((kstrs.getD t1 []).length : Int) ≤ x4 then ((gB x3).bind fun _ => some (.inr x3)) else (if x3 = 0 then ((gB x3).bind fun _ => some (.inr x3)) else ((gI 400 (wI ((s 85 22) + x4))).bind fun j6 => (gJ t1).bind fun _ => (gI (kstrs.getD t1 []).length x4).bind fun j9 => if (s 105 j6) = ((kstrs.getD t1 []).getD j9 0) then (f_M_stood_54 t1 x4 1 s) else (f_M_stood_54 t1 x4 0 s)))
set_option maxRecDepth 8000 in
theorem b_M_stood_34b {sc : List Int} {Q : Option kV → kH → Prop} (t1 : Nat) (x3 : Int) (x4 : Int) (s : kM) (t : (Int × Int) ⊕ (Int)) (hf : f_M_stood_34b t1 x3 x4 s = some t) (hq : (gE (fun x => kW sc 0 kc_M_stood 2 34 [some (kr 85), some (kS t1), none, some (kI x.1), some (kI x.2)] [] (hH s) Q) (fun r => Q (some (kI r)) (hH s))) t) : kW sc 0 kc_M_stood 2 34 [some (kr 85), some (kS t1), none, some (kI x3), some (kI x4)] [] (hH s) Q := by
  unfold f_M_stood_34b at hf
  refine kw_step rfl rfl rfl rfl ?_
  refine kw_step rfl rfl rfl rfl ?_
  obtain ⟨z1, hf⟩ := gbJ hf
  refine kw_slen rfl ⟨z1, Nat.le_of_ble_eq_true rfl⟩ ?_
  refine kw_icmp_ge rfl rfl (fun c2 => ?_) (fun c2 => ?_)
  · have hf := gift c2 hf
    refine kw_step rfl rfl rfl rfl ?_
    obtain ⟨w3, hf⟩ := gbB hf
    cases hf
    exact kw_ret rfl rfl (if_pos w3) hq
  · have hf := giff c2 hf
    refine kw_step rfl rfl rfl rfl ?_
    refine kw_if_eq rfl rfl (fun c4 => ?_) (fun c4 => ?_)
    · have hf := gift c4 hf
      refine kw_step rfl rfl rfl rfl ?_
      obtain ⟨w5, hf⟩ := gbB hf
      cases hf
      exact kw_ret rfl rfl (if_pos w5) hq
    · have hf := giff c4 hf
      refine kw_step rfl rfl rfl rfl ?_
      refine kw_get rfl (hH_O (rfl : kotab 85 = some kMo)) rfl ?_
      refine kw_step rfl rfl rfl rfl ?_
      refine kw_get rfl (hH_O (rfl : kotab 85 = some kMo)) rfl ?_
      refine kw_step rfl rfl rfl rfl ?_
      refine kw_step rfl rfl rfl rfl ?_
      obtain ⟨j6, i7, hf⟩ := gbI hf
      refine kw_bald rfl (hH_A (rfl : ktab 105 = some (1, 400))) i7.1 i7.2.1 i7.2.2 ?_
      refine kw_step rfl rfl rfl rfl ?_
      refine kw_step rfl rfl rfl rfl ?_
      obtain ⟨z8, hf⟩ := gbJ hf
      obtain ⟨j9, i10, hf⟩ := gbI hf
      refine kw_schr rfl z8 i10.1 i10.2.1 i10.2.2 (Nat.le_of_ble_eq_true rfl) ?_
      refine kw_icmp_ne rfl rfl (fun c11 => ?_) (fun c11 => ?_)
      · have hf := giff c11 hf
        refine kw_step rfl rfl rfl rfl ?_
        exact kW_le (L' := [some (kr 85), some (kS t1), none, none, some (kI x4)]) ⟨Or.inr rfl, Or.inr rfl, Or.inl rfl, Or.inl rfl, Or.inr rfl, trivial⟩ (b_M_stood_54 t1 x4 0 s _ hf hq)
      · have hf := gift c11 hf
        refine kw_step rfl rfl rfl rfl ?_
        refine kw_goto rfl rfl ?_
        exact kW_le (L' := [some (kr 85), some (kS t1), none, none, some (kI x4)]) ⟨Or.inr rfl, Or.inr rfl, Or.inl rfl, Or.inl rfl, Or.inr rfl, trivial⟩ (b_M_stood_54 t1 x4 1 s _ hf hq)
def f_M_stood_34 (t1 : Nat) (x3 : Int) (x4 : Int) (s : kM) : Option (Int) :=
  gL (fun (x : Int × Int) => f_M_stood_34b t1 x.1 x.2 s) gF (x3, x4)
theorem b_M_stood_34 {sc : List Int} {Q : Option kV → kH → Prop} (t1 : Nat) (x3 : Int) (x4 : Int) (s : kM) (t : Int) (hf : f_M_stood_34 t1 x3 x4 s = some t) (hq : (fun r => Q (some (kI r)) (hH s)) t) : kW sc 0 kc_M_stood 2 34 [some (kr 85), some (kS t1), none, some (kI x3), some (kI x4)] [] (hH s) Q :=
  gL_ind (P := fun (x : Int × Int) => kW sc 0 kc_M_stood 2 34 [some (kr 85), some (kS t1), none, some (kI x.1), some (kI x.2)] [] (hH s) Q) (q := (fun r => Q (some (kI r)) (hH s))) (fun x t hf hq => b_M_stood_34b t1 x.1 x.2 s t hf hq) gF (x3, x4) t hf hq
def f_M_stood_31 (t1 : Nat) (y0 : Int) (s : kM) : Option (Int) :=
  f_M_stood_34 t1 y0 0 s
set_option maxRecDepth 8000 in
theorem b_M_stood_31 {sc : List Int} {Q : Option kV → kH → Prop} (t1 : Nat) (y0 : Int) (s : kM) (t : Int) (hf : f_M_stood_31 t1 y0 s = some t) (hq : (fun r => Q (some (kI r)) (hH s)) t) : kW sc 0 kc_M_stood 2 31 [some (kr 85), some (kS t1), none, none, none] [kI y0] (hH s) Q := by
  unfold f_M_stood_31 at hf
  refine kw_step (L' := [some (kr 85), some (kS t1), none, some (kI y0), none]) rfl rfl rfl rfl ?_
  refine kw_step rfl rfl rfl rfl ?_
  refine kw_step (L' := [some (kr 85), some (kS t1), none, some (kI y0), some (kI 0)]) rfl rfl rfl rfl ?_
  exact kW_le (L' := [some (kr 85), some (kS t1), none, some (kI y0), some (kI 0)]) ⟨Or.inr rfl, Or.inr rfl, Or.inl rfl, Or.inr rfl, Or.inr rfl, trivial⟩ (b_M_stood_34 t1 y0 0 s _ hf hq)
def f_M_stood_21 (t1 : Nat) (x2 : Int) (s : kM) : Option (Int) :=
  (gJ t1).bind fun _ => if (wI (x2 - (s 85 22))) = ((kstrs.getD t1 []).length : Int) then (f_M_stood_31 t1 1 s) else (f_M_stood_31 t1 0 s)
set_option maxRecDepth 8000 in
theorem b_M_stood_21 {sc : List Int} {Q : Option kV → kH → Prop} (t1 : Nat) (x2 : Int) (s : kM) (t : Int) (hf : f_M_stood_21 t1 x2 s = some t) (hq : (fun r => Q (some (kI r)) (hH s)) t) : kW sc 0 kc_M_stood 2 21 [some (kr 85), some (kS t1), some (kI x2), none, none] [] (hH s) Q := by
  unfold f_M_stood_21 at hf
  refine kw_step rfl rfl rfl rfl ?_
  refine kw_step rfl rfl rfl rfl ?_
  refine kw_get rfl (hH_O (rfl : kotab 85 = some kMo)) rfl ?_
  refine kw_step rfl rfl rfl rfl ?_
  refine kw_step rfl rfl rfl rfl ?_
  obtain ⟨z1, hf⟩ := gbJ hf
  refine kw_slen rfl ⟨z1, Nat.le_of_ble_eq_true rfl⟩ ?_
  refine kw_icmp_ne rfl rfl (fun c2 => ?_) (fun c2 => ?_)
  · have hf := giff c2 hf
    refine kw_step rfl rfl rfl rfl ?_
    exact kW_le (L' := [some (kr 85), some (kS t1), none, none, none]) ⟨Or.inr rfl, Or.inr rfl, Or.inl rfl, Or.inl rfl, Or.inl rfl, trivial⟩ (b_M_stood_31 t1 0 s _ hf hq)
  · have hf := gift c2 hf
    refine kw_step rfl rfl rfl rfl ?_
    refine kw_goto rfl rfl ?_
    exact kW_le (L' := [some (kr 85), some (kS t1), none, none, none]) ⟨Or.inr rfl, Or.inr rfl, Or.inl rfl, Or.inl rfl, Or.inl rfl, trivial⟩ (b_M_stood_31 t1 1 s _ hf hq)
def f_M_stood_3b (t1 : Nat) (x2 : Int) (s : kM) : Option ((Int) ⊕ (Int)) :=
  if (s 85 21) ≤ x2 then ((f_M_stood_21 t1 x2 s).map Sum.inr) else ((gI 400 x2).bind fun j4 => if (s 105 j4) < 97 then ((f_M_stood_21 t1 x2 s).map Sum.inr) else ((gI 400 x2).bind fun j9 => if 122 < (s 105 j9) then ((f_M_stood_21 t1 x2 s).map Sum.inr) else (some (.inl ((wI (x2 + 1)))))))
set_option maxRecDepth 8000 in
theorem b_M_stood_3b {sc : List Int} {Q : Option kV → kH → Prop} (t1 : Nat) (x2 : Int) (s : kM) (t : (Int) ⊕ (Int)) (hf : f_M_stood_3b t1 x2 s = some t) (hq : (gE (fun x => kW sc 0 kc_M_stood 2 3 [some (kr 85), some (kS t1), some (kI x), none, none] [] (hH s) Q) (fun r => Q (some (kI r)) (hH s))) t) : kW sc 0 kc_M_stood 2 3 [some (kr 85), some (kS t1), some (kI x2), none, none] [] (hH s) Q := by
  unfold f_M_stood_3b at hf
  refine kw_step rfl rfl rfl rfl ?_
  refine kw_step rfl rfl rfl rfl ?_
  refine kw_get rfl (hH_O (rfl : kotab 85 = some kMo)) rfl ?_
  refine kw_icmp_ge rfl rfl (fun c1 => ?_) (fun c1 => ?_)
  · have hf := gift c1 hf
    obtain ⟨t2, hg3, rfl⟩ := gmap hf
    exact kW_le (L' := [some (kr 85), some (kS t1), some (kI x2), none, none]) ⟨Or.inr rfl, Or.inr rfl, Or.inr rfl, Or.inl rfl, Or.inl rfl, trivial⟩ (b_M_stood_21 t1 x2 s _ hg3 hq)
  · have hf := giff c1 hf
    refine kw_step rfl rfl rfl rfl ?_
    refine kw_get rfl (hH_O (rfl : kotab 85 = some kMo)) rfl ?_
    refine kw_step rfl rfl rfl rfl ?_
    obtain ⟨j4, i5, hf⟩ := gbI hf
    refine kw_bald rfl (hH_A (rfl : ktab 105 = some (1, 400))) i5.1 i5.2.1 i5.2.2 ?_
    refine kw_step rfl rfl rfl rfl ?_
    refine kw_icmp_lt rfl rfl (fun c6 => ?_) (fun c6 => ?_)
    · have hf := gift c6 hf
      obtain ⟨t7, hg8, rfl⟩ := gmap hf
      exact kW_le (L' := [some (kr 85), some (kS t1), some (kI x2), none, none]) ⟨Or.inr rfl, Or.inr rfl, Or.inr rfl, Or.inl rfl, Or.inl rfl, trivial⟩ (b_M_stood_21 t1 x2 s _ hg8 hq)
    · have hf := giff c6 hf
      refine kw_step rfl rfl rfl rfl ?_
      refine kw_get rfl (hH_O (rfl : kotab 85 = some kMo)) rfl ?_
      refine kw_step rfl rfl rfl rfl ?_
      obtain ⟨j9, i10, hf⟩ := gbI hf
      refine kw_bald rfl (hH_A (rfl : ktab 105 = some (1, 400))) i10.1 i10.2.1 i10.2.2 ?_
      refine kw_step rfl rfl rfl rfl ?_
      refine kw_icmp_gt rfl rfl (fun c11 => ?_) (fun c11 => ?_)
      · have hf := gift c11 hf
        obtain ⟨t12, hg13, rfl⟩ := gmap hf
        exact kW_le (L' := [some (kr 85), some (kS t1), some (kI x2), none, none]) ⟨Or.inr rfl, Or.inr rfl, Or.inr rfl, Or.inl rfl, Or.inl rfl, trivial⟩ (b_M_stood_21 t1 x2 s _ hg13 hq)
      · have hf := giff c11 hf
        refine kw_step (L' := [some (kr 85), some (kS t1), some (kI (wI (x2 + 1))), none, none]) rfl rfl rfl rfl ?_
        refine kw_goto rfl rfl ?_
        cases hf
        exact kW_le (L' := [some (kr 85), some (kS t1), some (kI (wI (x2 + 1))), none, none]) ⟨Or.inr rfl, Or.inr rfl, Or.inr rfl, Or.inl rfl, Or.inl rfl, trivial⟩ hq
def f_M_stood_3 (t1 : Nat) (x2 : Int) (s : kM) : Option (Int) :=
  gL (fun (x : Int) => f_M_stood_3b t1 x s) gF (x2)
theorem b_M_stood_3 {sc : List Int} {Q : Option kV → kH → Prop} (t1 : Nat) (x2 : Int) (s : kM) (t : Int) (hf : f_M_stood_3 t1 x2 s = some t) (hq : (fun r => Q (some (kI r)) (hH s)) t) : kW sc 0 kc_M_stood 2 3 [some (kr 85), some (kS t1), some (kI x2), none, none] [] (hH s) Q :=
  gL_ind (P := fun (x : Int) => kW sc 0 kc_M_stood 2 3 [some (kr 85), some (kS t1), some (kI x), none, none] [] (hH s) Q) (q := (fun r => Q (some (kI r)) (hH s))) (fun x t hf hq => b_M_stood_3b t1 x s t hf hq) gF (x2) t hf hq
def f_M_stood (t1 : Nat) (s : kM) : Option (Int) :=
  f_M_stood_3 t1 (s 85 22) s
set_option maxRecDepth 8000 in
theorem c_M_stood {sc : List Int} (t1 : Nat) (s : kM) (t : Int) (hf : f_M_stood t1 s = some t) : kR sc 0 km_M_stood [kr 85, kS t1] (hH s) (some (kI t)) (hH s) := by
  unfold f_M_stood at hf
  refine kR.start rfl ?_
  show kW sc 0 kc_M_stood 2 0 [some (kr 85), some (kS t1), none, none, none] [] (hH s) _
  have hq : (fun (r : Option kV) (g : kH) => r = some (kI t) ∧ g = hH s) (some (kI t)) (hH s) := ⟨rfl, rfl⟩
  refine kw_step rfl rfl rfl rfl ?_
  refine kw_get rfl (hH_O (rfl : kotab 85 = some kMo)) rfl ?_
  refine kw_step (L' := [some (kr 85), some (kS t1), some (kI (s 85 22)), none, none]) rfl rfl rfl rfl ?_
  exact kW_le (L' := [some (kr 85), some (kS t1), some (kI (s 85 22)), none, none]) ⟨Or.inr rfl, Or.inr rfl, Or.inr rfl, Or.inl rfl, Or.inl rfl, trivial⟩ (b_M_stood_3 t1 (s 85 22) s _ hf hq)
def f_M_fails_14 (y1 : Int) (s : kM) : Option (kM) :=
  gLet (gU s 85 23 y1) fun s1 => some s1
set_option maxRecDepth 8000 in
theorem b_M_fails_14 {sc : List Int} {Q : Option kV → kH → Prop} (y1 : Int) (s : kM) (t : kM) (hf : f_M_fails_14 y1 s = some t) (hq : (fun r => Q none (hH r)) t) : kW sc 0 kc_M_fails 0 14 [none, none, none] [kI y1, kr 85] (hH s) Q := by
  unfold f_M_fails_14 at hf
  obtain ⟨s1, ee2, hf⟩ := gbL hf
  refine kw_putH rfl (rfl : kotab 85 = some kMo) rfl rfl rfl (Nat.le_of_ble_eq_true rfl) rfl ee2 ?_
  cases hf
  exact kw_ret rfl rfl rfl hq
def f_M_fails (x1 : Int) (x2 : Int) (s : kM) : Option (kM) :=
  if (s 85 23) = 0 then (f_M_fails_14 (wI ((wI (1 + (wI (8 * x2)))) + x1)) s) else (f_M_fails_14 (s 85 23) s)
set_option maxRecDepth 8000 in
theorem c_M_fails {sc : List Int} (x1 : Int) (x2 : Int) (s : kM) (t : kM) (hf : f_M_fails x1 x2 s = some t) : kR sc 0 km_M_fails [kr 85, kI x1, kI x2] (hH s) none (hH t) := by
  unfold f_M_fails at hf
  refine kR.start rfl ?_
  show kW sc 0 kc_M_fails 0 0 [some (kr 85), some (kI x1), some (kI x2)] [] (hH s) _
  have hq : (fun (r : Option kV) (g : kH) => r = none ∧ g = hH t) none (hH t) := ⟨rfl, rfl⟩
  refine kw_step rfl rfl rfl rfl ?_
  refine kw_step rfl rfl rfl rfl ?_
  refine kw_get rfl (hH_O (rfl : kotab 85 = some kMo)) rfl ?_
  refine kw_if_ne rfl rfl (fun c1 => ?_) (fun c1 => ?_)
  · have hf := giff c1 hf
    refine kw_step rfl rfl rfl rfl ?_
    refine kw_get rfl (hH_O (rfl : kotab 85 = some kMo)) rfl ?_
    exact kW_le (L' := [none, none, none]) ⟨Or.inl rfl, Or.inl rfl, Or.inl rfl, trivial⟩ (b_M_fails_14 (s 85 23) s _ hf hq)
  · have hf := gift c1 hf
    refine kw_step rfl rfl rfl rfl ?_
    refine kw_step rfl rfl rfl rfl ?_
    refine kw_step rfl rfl rfl rfl ?_
    refine kw_step rfl rfl rfl rfl ?_
    refine kw_step rfl rfl rfl rfl ?_
    refine kw_step rfl rfl rfl rfl ?_
    refine kw_step rfl rfl rfl rfl ?_
    refine kw_goto rfl rfl ?_
    exact kW_le (L' := [none, none, none]) ⟨Or.inl rfl, Or.inl rfl, Or.inl rfl, trivial⟩ (b_M_fails_14 (wI ((wI (1 + (wI (8 * x2)))) + x1)) s _ hf hq)
def f_M_in (x0 : Int) (x2 : Int) (x4 : Int) (s : kM) : Option (Int) :=
  if x0 < x2 then (some 0) else (if x4 < x0 then (some 0) else (some 1))
set_option maxRecDepth 8000 in
theorem c_M_in {sc : List Int} (x0 : Int) (x2 : Int) (x4 : Int) (s : kM) (t : Int) (hf : f_M_in x0 x2 x4 s = some t) : kR sc 0 km_M_in [kJ x0, kJ x2, kJ x4] (hH s) (some (kI t)) (hH s) := by
  unfold f_M_in at hf
  refine kR.start rfl ?_
  show kW sc 0 kc_M_in 2 0 [some (kJ x0), none, some (kJ x2), none, some (kJ x4), none] [] (hH s) _
  have hq : (fun (r : Option kV) (g : kH) => r = some (kI t) ∧ g = hH s) (some (kI t)) (hH s) := ⟨rfl, rfl⟩
  refine kw_step rfl rfl rfl rfl ?_
  refine kw_step rfl rfl rfl rfl ?_
  refine kw_lc_lt rfl rfl rfl (fun c1 => ?_) (fun c1 => ?_)
  · have hf := gift c1 hf
    refine kw_step rfl rfl rfl rfl ?_
    cases hf
    exact kw_ret rfl rfl rfl hq
  · have hf := giff c1 hf
    refine kw_step rfl rfl rfl rfl ?_
    refine kw_step rfl rfl rfl rfl ?_
    refine kw_lc_gt rfl rfl rfl (fun c2 => ?_) (fun c2 => ?_)
    · have hf := gift c2 hf
      refine kw_step rfl rfl rfl rfl ?_
      cases hf
      exact kw_ret rfl rfl rfl hq
    · have hf := giff c2 hf
      refine kw_step rfl rfl rfl rfl ?_
      refine kw_goto rfl rfl ?_
      cases hf
      exact kw_ret rfl rfl rfl hq
def f_M_isDigit (s : kM) : Option (Int) :=
  (f_M_sign s).bind fun q1 => (f_M_in q1 48 57 s).bind fun q2 => (gB q2).bind fun _ => some q2
set_option maxRecDepth 8000 in
theorem c_M_isDigit {sc : List Int} (s : kM) (t : Int) (hf : f_M_isDigit s = some t) : kR sc 1 km_M_isDigit [kr 85] (hH s) (some (kI t)) (hH s) := by
  unfold f_M_isDigit at hf
  refine kR.start rfl ?_
  show kW sc 1 kc_M_isDigit 2 0 [some (kr 85)] [] (hH s) _
  have hq : (fun (r : Option kV) (g : kH) => r = some (kI t) ∧ g = hH s) (some (kI t)) (hH s) := ⟨rfl, rfl⟩
  refine kw_step rfl rfl rfl rfl ?_
  obtain ⟨q1, hq1, hf⟩ := gbind hf
  refine kw_callV (vs := []) rfl rfl rfl ⟨rfl, Nat.le_of_ble_eq_true rfl, Nat.le_of_ble_eq_true rfl, by decide⟩ (hH_O (rfl : kotab 85 = some kMo)) (c_M_sign s _ hq1) (Nat.le_of_ble_eq_true rfl) ?_
  refine kw_step rfl rfl rfl rfl ?_
  refine kw_step rfl rfl rfl rfl ?_
  refine kw_step rfl rfl rfl rfl ?_
  obtain ⟨q2, hq2, hf⟩ := gbind hf
  refine kw_callS (vs := [kJ q1, kJ 48, kJ 57]) rfl rfl rfl ⟨rfl, Nat.le_of_ble_eq_true rfl, Nat.le_of_ble_eq_true rfl, rfl⟩ (c_M_in q1 48 57 s _ hq2) (Nat.le_of_ble_eq_true rfl) ?_
  obtain ⟨w3, hf⟩ := gbB hf
  cases hf
  exact kw_ret rfl rfl (if_pos w3) hq
def f_M_digits_51 (x2 : Int) (x3 : Int) (s : kM) : Option (Int × kM) :=
  (f_M_fails 1 x2 s).bind fun q1 => some (x3, q1)
set_option maxRecDepth 8000 in
theorem b_M_digits_51 {sc : List Int} {Q : Option kV → kH → Prop} (x2 : Int) (x3 : Int) (s : kM) (t : Int × kM) (hf : f_M_digits_51 x2 x3 s = some t) (hq : (fun r => Q (some (kI r.1)) (hH r.2)) t) : kW sc 2 kc_M_digits 1 51 [some (kr 85), none, some (kI x2), some (kI x3)] [] (hH s) Q := by
  unfold f_M_digits_51 at hf
  refine kw_step rfl rfl rfl rfl ?_
  refine kw_step rfl rfl rfl rfl ?_
  refine kw_step rfl rfl rfl rfl ?_
  obtain ⟨q1, hq1, hf⟩ := gbind hf
  refine kw_callV (vs := [kI 1, kI x2]) rfl rfl rfl ⟨rfl, Nat.le_of_ble_eq_true rfl, Nat.le_of_ble_eq_true rfl, by decide⟩ (hH_O (rfl : kotab 85 = some kMo)) (c_M_fails 1 x2 s _ hq1) (Nat.le_of_ble_eq_true rfl) ?_
  refine kw_step rfl rfl rfl rfl ?_
  cases hf
  exact kw_ret rfl rfl rfl hq
def f_M_digits_34 (x1 : Int) (x2 : Int) (y0 : Int) (s : kM) : Option ((Int × kM) ⊕ (Int × kM)) :=
  gLet (gU s 85 22 (wI ((s 85 22) + 1))) fun s1 => some (.inl (y0, s1))
set_option maxRecDepth 8000 in
theorem b_M_digits_34 {sc : List Int} {Q : Option kV → kH → Prop} (x1 : Int) (x2 : Int) (y0 : Int) (s : kM) (t : (Int × kM) ⊕ (Int × kM)) (hf : f_M_digits_34 x1 x2 y0 s = some t) (hq : (gE (fun x => kW sc 2 kc_M_digits 1 15 [some (kr 85), some (kI x1), some (kI x2), some (kI x.1)] [] (hH x.2) Q) (fun r => Q (some (kI r.1)) (hH r.2))) t) : kW sc 2 kc_M_digits 1 34 [some (kr 85), some (kI x1), some (kI x2), none] [kI y0] (hH s) Q := by
  unfold f_M_digits_34 at hf
  refine kw_step (L' := [some (kr 85), some (kI x1), some (kI x2), some (kI y0)]) rfl rfl rfl rfl ?_
  refine kw_step rfl rfl rfl rfl ?_
  refine kw_step rfl rfl rfl rfl ?_
  refine kw_get rfl (hH_O (rfl : kotab 85 = some kMo)) rfl ?_
  refine kw_step rfl rfl rfl rfl ?_
  refine kw_step rfl rfl rfl rfl ?_
  obtain ⟨s1, ee2, hf⟩ := gbL hf
  refine kw_putH rfl (rfl : kotab 85 = some kMo) rfl rfl rfl (Nat.le_of_ble_eq_true rfl) rfl ee2 ?_
  refine kw_goto rfl rfl ?_
  cases hf
  exact kW_le (L' := [some (kr 85), some (kI x1), some (kI x2), some (kI y0)]) ⟨Or.inr rfl, Or.inr rfl, Or.inr rfl, Or.inr rfl, trivial⟩ hq
def f_M_digits_15b (x1 : Int) (x2 : Int) (x3 : Int) (s : kM) : Option ((Int × kM) ⊕ (Int × kM)) :=
  (f_M_isDigit s).bind fun q1 => if q1 = 0 then (if 5 < (wI ((s 85 22) - x2)) then ((f_M_digits_51 x2 x3 s).map Sum.inr) else (if x3 ≤ x1 then (some (.inr (x3, s))) else ((f_M_digits_51 x2 x3 s).map Sum.inr))) else (if 5 ≤ (wI ((s 85 22) - x2)) then (f_M_digits_34 x1 x2 x3 s) else ((f_M_sign s).bind fun q10 => f_M_digits_34 x1 x2 (wI ((wI ((wI (10 * x3)) + q10)) - 48)) s))
set_option maxRecDepth 8000 in
theorem b_M_digits_15b {sc : List Int} {Q : Option kV → kH → Prop} (x1 : Int) (x2 : Int) (x3 : Int) (s : kM) (t : (Int × kM) ⊕ (Int × kM)) (hf : f_M_digits_15b x1 x2 x3 s = some t) (hq : (gE (fun x => kW sc 2 kc_M_digits 1 15 [some (kr 85), some (kI x1), some (kI x2), some (kI x.1)] [] (hH x.2) Q) (fun r => Q (some (kI r.1)) (hH r.2))) t) : kW sc 2 kc_M_digits 1 15 [some (kr 85), some (kI x1), some (kI x2), some (kI x3)] [] (hH s) Q := by
  unfold f_M_digits_15b at hf
  refine kw_step rfl rfl rfl rfl ?_
  obtain ⟨q1, hq1, hf⟩ := gbind hf
  refine kw_callV (vs := []) rfl rfl rfl ⟨rfl, Nat.le_of_ble_eq_true rfl, Nat.le_of_ble_eq_true rfl, by decide⟩ (hH_O (rfl : kotab 85 = some kMo)) (c_M_isDigit s _ hq1) (Nat.le_of_ble_eq_true rfl) ?_
  refine kw_if_eq rfl rfl (fun c2 => ?_) (fun c2 => ?_)
  · have hf := gift c2 hf
    refine kw_step rfl rfl rfl rfl ?_
    refine kw_get rfl (hH_O (rfl : kotab 85 = some kMo)) rfl ?_
    refine kw_step rfl rfl rfl rfl ?_
    refine kw_step rfl rfl rfl rfl ?_
    refine kw_step rfl rfl rfl rfl ?_
    refine kw_icmp_gt rfl rfl (fun c3 => ?_) (fun c3 => ?_)
    · have hf := gift c3 hf
      obtain ⟨t4, hg5, rfl⟩ := gmap hf
      exact kW_le (L' := [some (kr 85), none, some (kI x2), some (kI x3)]) ⟨Or.inr rfl, Or.inl rfl, Or.inr rfl, Or.inr rfl, trivial⟩ (b_M_digits_51 x2 x3 s _ hg5 hq)
    · have hf := giff c3 hf
      refine kw_step rfl rfl rfl rfl ?_
      refine kw_step rfl rfl rfl rfl ?_
      refine kw_icmp_le rfl rfl (fun c6 => ?_) (fun c6 => ?_)
      · have hf := gift c6 hf
        refine kw_step rfl rfl rfl rfl ?_
        cases hf
        exact kw_ret rfl rfl rfl hq
      · have hf := giff c6 hf
        obtain ⟨t7, hg8, rfl⟩ := gmap hf
        exact kW_le (L' := [some (kr 85), none, some (kI x2), some (kI x3)]) ⟨Or.inr rfl, Or.inl rfl, Or.inr rfl, Or.inr rfl, trivial⟩ (b_M_digits_51 x2 x3 s _ hg8 hq)
  · have hf := giff c2 hf
    refine kw_step rfl rfl rfl rfl ?_
    refine kw_get rfl (hH_O (rfl : kotab 85 = some kMo)) rfl ?_
    refine kw_step rfl rfl rfl rfl ?_
    refine kw_step rfl rfl rfl rfl ?_
    refine kw_step rfl rfl rfl rfl ?_
    refine kw_icmp_ge rfl rfl (fun c9 => ?_) (fun c9 => ?_)
    · have hf := gift c9 hf
      refine kw_step rfl rfl rfl rfl ?_
      exact kW_le (L' := [some (kr 85), some (kI x1), some (kI x2), none]) ⟨Or.inr rfl, Or.inr rfl, Or.inr rfl, Or.inl rfl, trivial⟩ (b_M_digits_34 x1 x2 x3 s _ hf hq)
    · have hf := giff c9 hf
      refine kw_step rfl rfl rfl rfl ?_
      refine kw_step rfl rfl rfl rfl ?_
      refine kw_step rfl rfl rfl rfl ?_
      refine kw_step rfl rfl rfl rfl ?_
      obtain ⟨q10, hq10, hf⟩ := gbind hf
      refine kw_callV (vs := []) rfl rfl rfl ⟨rfl, Nat.le_of_ble_eq_true rfl, Nat.le_of_ble_eq_true rfl, by decide⟩ (hH_O (rfl : kotab 85 = some kMo)) (c_M_sign s _ hq10) (Nat.le_of_ble_eq_true rfl) ?_
      refine kw_step rfl rfl rfl rfl ?_
      refine kw_step rfl rfl rfl rfl ?_
      refine kw_step rfl rfl rfl rfl ?_
      refine kw_goto rfl rfl ?_
      exact kW_le (L' := [some (kr 85), some (kI x1), some (kI x2), none]) ⟨Or.inr rfl, Or.inr rfl, Or.inr rfl, Or.inl rfl, trivial⟩ (b_M_digits_34 x1 x2 (wI ((wI ((wI (10 * x3)) + q10)) - 48)) s _ hf hq)
def f_M_digits_15 (x1 : Int) (x2 : Int) (x3 : Int) (s : kM) : Option (Int × kM) :=
  gL (fun (x : Int × kM) => f_M_digits_15b x1 x2 x.1 x.2) gF (x3, s)
theorem b_M_digits_15 {sc : List Int} {Q : Option kV → kH → Prop} (x1 : Int) (x2 : Int) (x3 : Int) (s : kM) (t : Int × kM) (hf : f_M_digits_15 x1 x2 x3 s = some t) (hq : (fun r => Q (some (kI r.1)) (hH r.2)) t) : kW sc 2 kc_M_digits 1 15 [some (kr 85), some (kI x1), some (kI x2), some (kI x3)] [] (hH s) Q :=
  gL_ind (P := fun (x : Int × kM) => kW sc 2 kc_M_digits 1 15 [some (kr 85), some (kI x1), some (kI x2), some (kI x.1)] [] (hH x.2) Q) (q := (fun r => Q (some (kI r.1)) (hH r.2))) (fun x t hf hq => b_M_digits_15b x1 x2 x.1 x.2 t hf hq) gF (x3, s) t hf hq
def f_M_digits (x1 : Int) (s : kM) : Option (Int × kM) :=
  (f_M_isDigit s).bind fun q1 => if q1 = 0 then ((f_M_fails 0 (s 85 22) s).bind fun q3 => some (0, q3)) else (f_M_digits_15 x1 (s 85 22) 0 s)
set_option maxRecDepth 8000 in
theorem c_M_digits {sc : List Int} (x1 : Int) (s : kM) (t : Int × kM) (hf : f_M_digits x1 s = some t) : kR sc 2 km_M_digits [kr 85, kI x1] (hH s) (some (kI t.1)) (hH t.2) := by
  unfold f_M_digits at hf
  refine kR.start rfl ?_
  show kW sc 2 kc_M_digits 1 0 [some (kr 85), some (kI x1), none, none] [] (hH s) _
  have hq : (fun (r : Option kV) (g : kH) => r = some (kI t.1) ∧ g = hH t.2) (some (kI t.1)) (hH t.2) := ⟨rfl, rfl⟩
  refine kw_step rfl rfl rfl rfl ?_
  obtain ⟨q1, hq1, hf⟩ := gbind hf
  refine kw_callV (vs := []) rfl rfl rfl ⟨rfl, Nat.le_of_ble_eq_true rfl, Nat.le_of_ble_eq_true rfl, by decide⟩ (hH_O (rfl : kotab 85 = some kMo)) (c_M_isDigit s _ hq1) (Nat.le_of_ble_eq_true rfl) ?_
  refine kw_if_ne rfl rfl (fun c2 => ?_) (fun c2 => ?_)
  · have hf := giff c2 hf
    refine kw_step rfl rfl rfl rfl ?_
    refine kw_get rfl (hH_O (rfl : kotab 85 = some kMo)) rfl ?_
    refine kw_step (L' := [some (kr 85), some (kI x1), some (kI (s 85 22)), none]) rfl rfl rfl rfl ?_
    refine kw_step rfl rfl rfl rfl ?_
    refine kw_step (L' := [some (kr 85), some (kI x1), some (kI (s 85 22)), some (kI 0)]) rfl rfl rfl rfl ?_
    exact kW_le (L' := [some (kr 85), some (kI x1), some (kI (s 85 22)), some (kI 0)]) ⟨Or.inr rfl, Or.inr rfl, Or.inr rfl, Or.inr rfl, trivial⟩ (b_M_digits_15 x1 (s 85 22) 0 s _ hf hq)
  · have hf := gift c2 hf
    refine kw_step rfl rfl rfl rfl ?_
    refine kw_step rfl rfl rfl rfl ?_
    refine kw_step rfl rfl rfl rfl ?_
    refine kw_get rfl (hH_O (rfl : kotab 85 = some kMo)) rfl ?_
    obtain ⟨q3, hq3, hf⟩ := gbind hf
    refine kw_callV (vs := [kI 0, kI (s 85 22)]) rfl rfl rfl ⟨rfl, Nat.le_of_ble_eq_true rfl, Nat.le_of_ble_eq_true rfl, by decide⟩ (hH_O (rfl : kotab 85 = some kMo)) (c_M_fails 0 (s 85 22) s _ hq3) (Nat.le_of_ble_eq_true rfl) ?_
    refine kw_step rfl rfl rfl rfl ?_
    cases hf
    exact kw_ret rfl rfl rfl hq
def f_M_amount_13 (x1 : Int) (x2 : Int) (x3 : Int) (y0 : Int) (s : kM) : Option (Int × kM) :=
  if (s 85 23) = 0 then ((f_M_in y0 x1 x2 s).bind fun q2 => if q2 = 0 then ((f_M_fails 1 x3 s).bind fun q4 => some (y0, q4)) else (some (y0, s))) else (some (y0, s))
set_option maxRecDepth 8000 in
theorem b_M_amount_13 {sc : List Int} {Q : Option kV → kH → Prop} (x1 : Int) (x2 : Int) (x3 : Int) (y0 : Int) (s : kM) (t : Int × kM) (hf : f_M_amount_13 x1 x2 x3 y0 s = some t) (hq : (fun r => Q (some (kI r.1)) (hH r.2)) t) : kW sc 3 kc_M_amount 1 13 [some (kr 85), some (kI x1), some (kI x2), some (kI x3), none] [kI y0] (hH s) Q := by
  unfold f_M_amount_13 at hf
  refine kw_step (L' := [some (kr 85), some (kI x1), some (kI x2), some (kI x3), some (kI y0)]) rfl rfl rfl rfl ?_
  refine kw_step rfl rfl rfl rfl ?_
  refine kw_get rfl (hH_O (rfl : kotab 85 = some kMo)) rfl ?_
  refine kw_if_ne rfl rfl (fun c1 => ?_) (fun c1 => ?_)
  · have hf := giff c1 hf
    refine kw_step rfl rfl rfl rfl ?_
    cases hf
    exact kw_ret rfl rfl rfl hq
  · have hf := gift c1 hf
    refine kw_step rfl rfl rfl rfl ?_
    refine kw_step rfl rfl rfl rfl ?_
    refine kw_step rfl rfl rfl rfl ?_
    refine kw_step rfl rfl rfl rfl ?_
    refine kw_step rfl rfl rfl rfl ?_
    refine kw_step rfl rfl rfl rfl ?_
    obtain ⟨q2, hq2, hf⟩ := gbind hf
    refine kw_callS (vs := [kJ y0, kJ x1, kJ x2]) rfl rfl rfl ⟨rfl, Nat.le_of_ble_eq_true rfl, Nat.le_of_ble_eq_true rfl, rfl⟩ (c_M_in y0 x1 x2 s _ hq2) (Nat.le_of_ble_eq_true rfl) ?_
    refine kw_if_ne rfl rfl (fun c3 => ?_) (fun c3 => ?_)
    · have hf := giff c3 hf
      refine kw_step rfl rfl rfl rfl ?_
      cases hf
      exact kw_ret rfl rfl rfl hq
    · have hf := gift c3 hf
      refine kw_step rfl rfl rfl rfl ?_
      refine kw_step rfl rfl rfl rfl ?_
      refine kw_step rfl rfl rfl rfl ?_
      obtain ⟨q4, hq4, hf⟩ := gbind hf
      refine kw_callV (vs := [kI 1, kI x3]) rfl rfl rfl ⟨rfl, Nat.le_of_ble_eq_true rfl, Nat.le_of_ble_eq_true rfl, by decide⟩ (hH_O (rfl : kotab 85 = some kMo)) (c_M_fails 1 x3 s _ hq4) (Nat.le_of_ble_eq_true rfl) ?_
      refine kw_step rfl rfl rfl rfl ?_
      cases hf
      exact kw_ret rfl rfl rfl hq
def f_M_amount (x1 : Int) (x2 : Int) (s : kM) : Option (Int × kM) :=
  (f_M_blanks s).bind fun q1 => if (q1 85 23) = 0 then ((f_M_digits 99999 q1).bind fun q4 => f_M_amount_13 x1 x2 (q1 85 22) q4.1 q4.2) else (f_M_amount_13 x1 x2 (q1 85 22) 0 q1)
set_option maxRecDepth 8000 in
theorem c_M_amount {sc : List Int} (x1 : Int) (x2 : Int) (s : kM) (t : Int × kM) (hf : f_M_amount x1 x2 s = some t) : kR sc 3 km_M_amount [kr 85, kI x1, kI x2] (hH s) (some (kI t.1)) (hH t.2) := by
  unfold f_M_amount at hf
  refine kR.start rfl ?_
  show kW sc 3 kc_M_amount 1 0 [some (kr 85), some (kI x1), some (kI x2), none, none] [] (hH s) _
  have hq : (fun (r : Option kV) (g : kH) => r = some (kI t.1) ∧ g = hH t.2) (some (kI t.1)) (hH t.2) := ⟨rfl, rfl⟩
  refine kw_step rfl rfl rfl rfl ?_
  obtain ⟨q1, hq1, hf⟩ := gbind hf
  refine kw_callV (vs := []) rfl rfl rfl ⟨rfl, Nat.le_of_ble_eq_true rfl, Nat.le_of_ble_eq_true rfl, by decide⟩ (hH_O (rfl : kotab 85 = some kMo)) (c_M_blanks s _ hq1) (Nat.le_of_ble_eq_true rfl) ?_
  refine kw_step rfl rfl rfl rfl ?_
  refine kw_get rfl (hH_O (rfl : kotab 85 = some kMo)) rfl ?_
  refine kw_step (L' := [some (kr 85), some (kI x1), some (kI x2), some (kI (q1 85 22)), none]) rfl rfl rfl rfl ?_
  refine kw_step rfl rfl rfl rfl ?_
  refine kw_get rfl (hH_O (rfl : kotab 85 = some kMo)) rfl ?_
  refine kw_if_ne rfl rfl (fun c3 => ?_) (fun c3 => ?_)
  · have hf := giff c3 hf
    refine kw_step rfl rfl rfl rfl ?_
    exact kW_le (L' := [some (kr 85), some (kI x1), some (kI x2), some (kI (q1 85 22)), none]) ⟨Or.inr rfl, Or.inr rfl, Or.inr rfl, Or.inr rfl, Or.inl rfl, trivial⟩ (b_M_amount_13 x1 x2 (q1 85 22) 0 q1 _ hf hq)
  · have hf := gift c3 hf
    refine kw_step rfl rfl rfl rfl ?_
    refine kw_step rfl rfl rfl rfl ?_
    obtain ⟨q4, hq4, hf⟩ := gbind hf
    refine kw_callV (vs := [kI 99999]) rfl rfl rfl ⟨rfl, Nat.le_of_ble_eq_true rfl, Nat.le_of_ble_eq_true rfl, by decide⟩ (hH_O (rfl : kotab 85 = some kMo)) (c_M_digits 99999 q1 _ hq4) (Nat.le_of_ble_eq_true rfl) ?_
    refine kw_goto rfl rfl ?_
    exact kW_le (L' := [some (kr 85), some (kI x1), some (kI x2), some (kI (q1 85 22)), none]) ⟨Or.inr rfl, Or.inr rfl, Or.inr rfl, Or.inr rfl, Or.inl rfl, trivial⟩ (b_M_amount_13 x1 x2 (q1 85 22) q4.1 q4.2 _ hf hq)
def f_M_signOf_25 (s : kM) : Option (kM) :=
  (f_M_fails 0 (s 85 22) s).bind fun q1 => some q1
set_option maxRecDepth 8000 in
theorem b_M_signOf_25 {sc : List Int} {Q : Option kV → kH → Prop} (s : kM) (t : kM) (hf : f_M_signOf_25 s = some t) (hq : (fun r => Q none (hH r)) t) : kW sc 2 kc_M_signOf 0 25 [some (kr 85), none] [] (hH s) Q := by
  unfold f_M_signOf_25 at hf
  refine kw_step rfl rfl rfl rfl ?_
  refine kw_step rfl rfl rfl rfl ?_
  refine kw_step rfl rfl rfl rfl ?_
  refine kw_get rfl (hH_O (rfl : kotab 85 = some kMo)) rfl ?_
  obtain ⟨q1, hq1, hf⟩ := gbind hf
  refine kw_callV (vs := [kI 0, kI (s 85 22)]) rfl rfl rfl ⟨rfl, Nat.le_of_ble_eq_true rfl, Nat.le_of_ble_eq_true rfl, by decide⟩ (hH_O (rfl : kotab 85 = some kMo)) (c_M_fails 0 (s 85 22) s _ hq1) (Nat.le_of_ble_eq_true rfl) ?_
  cases hf
  exact kw_ret rfl rfl rfl hq
def f_M_signOf_44 (y1 : Int) (y2 : Int) (s : kM) : Option (kM) :=
  (gI 11 y1).bind fun j1 => gLet (gU s 93 j1 y2) fun s3 => gLet (gU s3 85 22 (wI ((s3 85 22) + 1))) fun s6 => some s6
set_option maxRecDepth 8000 in
theorem b_M_signOf_44 {sc : List Int} {Q : Option kV → kH → Prop} (y1 : Int) (y2 : Int) (s : kM) (t : kM) (hf : f_M_signOf_44 y1 y2 s = some t) (hq : (fun r => Q none (hH r)) t) : kW sc 2 kc_M_signOf 0 44 [some (kr 85), none] [kI y2, kI y1, kr 93] (hH s) Q := by
  unfold f_M_signOf_44 at hf
  obtain ⟨j1, i2, hf⟩ := gbI hf
  obtain ⟨s3, ee4, hf⟩ := gbL hf
  refine kw_iastH rfl (rfl : ktab 93 = some (0, 11)) i2.1 i2.2.1 i2.2.2 ee4 ?_
  refine kw_step rfl rfl rfl rfl ?_
  refine kw_step rfl rfl rfl rfl ?_
  refine kw_get rfl (hH_O (rfl : kotab 85 = some kMo)) rfl ?_
  refine kw_step rfl rfl rfl rfl ?_
  refine kw_step rfl rfl rfl rfl ?_
  obtain ⟨s6, ee7, hf⟩ := gbL hf
  refine kw_putH rfl (rfl : kotab 85 = some kMo) rfl rfl rfl (Nat.le_of_ble_eq_true rfl) rfl ee7 ?_
  cases hf
  exact kw_ret rfl rfl rfl hq
def f_M_signOf_31 (x1 : Int) (s : kM) : Option (kM) :=
  (gI 400 (s 85 22)).bind fun j1 => if (s 105 j1) = 43 then (f_M_signOf_44 x1 1 s) else (f_M_signOf_44 x1 0 s)
set_option maxRecDepth 8000 in
theorem b_M_signOf_31 {sc : List Int} {Q : Option kV → kH → Prop} (x1 : Int) (s : kM) (t : kM) (hf : f_M_signOf_31 x1 s = some t) (hq : (fun r => Q none (hH r)) t) : kW sc 2 kc_M_signOf 0 31 [some (kr 85), some (kI x1)] [] (hH s) Q := by
  unfold f_M_signOf_31 at hf
  refine kw_step rfl rfl rfl rfl ?_
  refine kw_get rfl (hH_O (rfl : kotab 85 = some kMo)) rfl ?_
  refine kw_step rfl rfl rfl rfl ?_
  refine kw_step rfl rfl rfl rfl ?_
  refine kw_get rfl (hH_O (rfl : kotab 85 = some kMo)) rfl ?_
  refine kw_step rfl rfl rfl rfl ?_
  refine kw_get rfl (hH_O (rfl : kotab 85 = some kMo)) rfl ?_
  obtain ⟨j1, i2, hf⟩ := gbI hf
  refine kw_bald rfl (hH_A (rfl : ktab 105 = some (1, 400))) i2.1 i2.2.1 i2.2.2 ?_
  refine kw_step rfl rfl rfl rfl ?_
  refine kw_icmp_ne rfl rfl (fun c3 => ?_) (fun c3 => ?_)
  · have hf := giff c3 hf
    refine kw_step rfl rfl rfl rfl ?_
    exact kW_le (L' := [some (kr 85), none]) ⟨Or.inr rfl, Or.inl rfl, trivial⟩ (b_M_signOf_44 x1 0 s _ hf hq)
  · have hf := gift c3 hf
    refine kw_step rfl rfl rfl rfl ?_
    refine kw_goto rfl rfl ?_
    exact kW_le (L' := [some (kr 85), none]) ⟨Or.inr rfl, Or.inl rfl, trivial⟩ (b_M_signOf_44 x1 1 s _ hf hq)
def f_M_signOf (x1 : Int) (s : kM) : Option (kM) :=
  (f_M_blanks s).bind fun q1 => if (q1 85 23) ≤ 0 then (if (q1 85 21) ≤ (q1 85 22) then (f_M_signOf_25 q1) else ((gI 400 (q1 85 22)).bind fun j5 => if (q1 105 j5) = 43 then (f_M_signOf_31 x1 q1) else ((gI 400 (q1 85 22)).bind fun j8 => if (q1 105 j8) = 45 then (f_M_signOf_31 x1 q1) else (f_M_signOf_25 q1)))) else (some q1)
set_option maxRecDepth 8000 in
theorem c_M_signOf {sc : List Int} (x1 : Int) (s : kM) (t : kM) (hf : f_M_signOf x1 s = some t) : kR sc 2 km_M_signOf [kr 85, kI x1] (hH s) none (hH t) := by
  unfold f_M_signOf at hf
  refine kR.start rfl ?_
  show kW sc 2 kc_M_signOf 0 0 [some (kr 85), some (kI x1)] [] (hH s) _
  have hq : (fun (r : Option kV) (g : kH) => r = none ∧ g = hH t) none (hH t) := ⟨rfl, rfl⟩
  refine kw_step rfl rfl rfl rfl ?_
  obtain ⟨q1, hq1, hf⟩ := gbind hf
  refine kw_callV (vs := []) rfl rfl rfl ⟨rfl, Nat.le_of_ble_eq_true rfl, Nat.le_of_ble_eq_true rfl, by decide⟩ (hH_O (rfl : kotab 85 = some kMo)) (c_M_blanks s _ hq1) (Nat.le_of_ble_eq_true rfl) ?_
  refine kw_step rfl rfl rfl rfl ?_
  refine kw_get rfl (hH_O (rfl : kotab 85 = some kMo)) rfl ?_
  refine kw_if_le rfl rfl (fun c3 => ?_) (fun c3 => ?_)
  · have hf := gift c3 hf
    refine kw_step rfl rfl rfl rfl ?_
    refine kw_get rfl (hH_O (rfl : kotab 85 = some kMo)) rfl ?_
    refine kw_step rfl rfl rfl rfl ?_
    refine kw_get rfl (hH_O (rfl : kotab 85 = some kMo)) rfl ?_
    refine kw_icmp_ge rfl rfl (fun c4 => ?_) (fun c4 => ?_)
    · have hf := gift c4 hf
      exact kW_le (L' := [some (kr 85), none]) ⟨Or.inr rfl, Or.inl rfl, trivial⟩ (b_M_signOf_25 q1 _ hf hq)
    · have hf := giff c4 hf
      refine kw_step rfl rfl rfl rfl ?_
      refine kw_get rfl (hH_O (rfl : kotab 85 = some kMo)) rfl ?_
      refine kw_step rfl rfl rfl rfl ?_
      refine kw_get rfl (hH_O (rfl : kotab 85 = some kMo)) rfl ?_
      obtain ⟨j5, i6, hf⟩ := gbI hf
      refine kw_bald rfl (hH_A (rfl : ktab 105 = some (1, 400))) i6.1 i6.2.1 i6.2.2 ?_
      refine kw_step rfl rfl rfl rfl ?_
      refine kw_icmp_eq rfl rfl (fun c7 => ?_) (fun c7 => ?_)
      · have hf := gift c7 hf
        exact kW_le (L' := [some (kr 85), some (kI x1)]) ⟨Or.inr rfl, Or.inr rfl, trivial⟩ (b_M_signOf_31 x1 q1 _ hf hq)
      · have hf := giff c7 hf
        refine kw_step rfl rfl rfl rfl ?_
        refine kw_get rfl (hH_O (rfl : kotab 85 = some kMo)) rfl ?_
        refine kw_step rfl rfl rfl rfl ?_
        refine kw_get rfl (hH_O (rfl : kotab 85 = some kMo)) rfl ?_
        obtain ⟨j8, i9, hf⟩ := gbI hf
        refine kw_bald rfl (hH_A (rfl : ktab 105 = some (1, 400))) i9.1 i9.2.1 i9.2.2 ?_
        refine kw_step rfl rfl rfl rfl ?_
        refine kw_icmp_eq rfl rfl (fun c10 => ?_) (fun c10 => ?_)
        · have hf := gift c10 hf
          exact kW_le (L' := [some (kr 85), some (kI x1)]) ⟨Or.inr rfl, Or.inr rfl, trivial⟩ (b_M_signOf_31 x1 q1 _ hf hq)
        · have hf := giff c10 hf
          exact kW_le (L' := [some (kr 85), none]) ⟨Or.inr rfl, Or.inl rfl, trivial⟩ (b_M_signOf_25 q1 _ hf hq)
  · have hf := giff c3 hf
    cases hf
    exact kw_ret rfl rfl rfl hq
