/-! PRINTED by wip/whole/decall.py: methods as functions over the flat world, with their contracts -/
def f_M_pass_61 (x1 : Int) (x3 : Int) (y1 : Int) (y2 : Int) (s : kM) : Option (kM) :=
  (gI 22 y1).bind fun j1 => gLet (gU s 92 j1 y2) fun s3 => (gI 3 (s3 90 0)).bind fun j6 => (gI 3 (s3 90 0)).bind fun j8 => gLet (gU s3 90 j8 (wI ((s3 90 j6) + 1))) fun s10 => if x1 = 0 then (gLet (gU s10 85 32 (kor (s10 85 32) (kshl 1 x3))) fun s14 => some s14) else (gLet (gU s10 85 31 (kor (s10 85 31) (kshl 1 x3))) fun s17 => (f_M_signOf x3 s17).bind fun q20 => some q20)
set_option maxRecDepth 8000 in
theorem b_M_pass_61 {sc : List Int} {Q : Option kV → kH → Prop} (x1 : Int) (x3 : Int) (y1 : Int) (y2 : Int) (s : kM) (t : kM) (hf : f_M_pass_61 x1 x3 y1 y2 s = some t) (hq : (fun r => Q none (hH r)) t) : kW sc 4 kc_M_pass 0 61 [some (kr 85), some (kI x1), none, some (kI x3), none] [kI y2, kI y1, kr 92] (hH s) Q := by
  unfold f_M_pass_61 at hf
  obtain ⟨j1, i2, hf⟩ := gbI hf
  obtain ⟨s3, ee4, hf⟩ := gbL hf
  refine kw_iastH rfl (rfl : ktab 92 = some (0, 22)) i2.1 i2.2.1 i2.2.2 ee4 ?_
  refine kw_step rfl rfl rfl rfl ?_
  refine kw_get rfl (hH_O (rfl : kotab 85 = some kMo)) rfl ?_
  refine kw_step rfl rfl rfl rfl ?_
  refine kw_get rfl (hH_O (rfl : kotab 85 = some kMo)) rfl ?_
  refine kw_step rfl rfl rfl rfl ?_
  refine kw_iald rfl (hH_A (rfl : ktab 90 = some (0, 3))) (by decide) (by decide) (j := 0) rfl ?_
  refine kw_step rfl rfl rfl rfl ?_
  obtain ⟨j6, i7, hf⟩ := gbI hf
  refine kw_iald rfl (hH_A (rfl : ktab 90 = some (0, 3))) i7.1 i7.2.1 i7.2.2 ?_
  refine kw_step rfl rfl rfl rfl ?_
  refine kw_step rfl rfl rfl rfl ?_
  obtain ⟨j8, i9, hf⟩ := gbI hf
  obtain ⟨s10, ee11, hf⟩ := gbL hf
  refine kw_iastH rfl (rfl : ktab 90 = some (0, 3)) i9.1 i9.2.1 i9.2.2 ee11 ?_
  refine kw_step rfl rfl rfl rfl ?_
  refine kw_if_eq rfl rfl (fun c13 => ?_) (fun c13 => ?_)
  · have hf := gift c13 hf
    refine kw_step rfl rfl rfl rfl ?_
    refine kw_step rfl rfl rfl rfl ?_
    refine kw_get rfl (hH_O (rfl : kotab 85 = some kMo)) rfl ?_
    refine kw_step rfl rfl rfl rfl ?_
    refine kw_step rfl rfl rfl rfl ?_
    refine kw_step rfl rfl rfl rfl ?_
    refine kw_step rfl rfl rfl rfl ?_
    obtain ⟨s14, ee15, hf⟩ := gbL hf
    refine kw_putH rfl (rfl : kotab 85 = some kMo) rfl rfl rfl (Nat.le_of_ble_eq_true rfl) rfl ee15 ?_
    cases hf
    exact kw_ret rfl rfl rfl hq
  · have hf := giff c13 hf
    refine kw_step rfl rfl rfl rfl ?_
    refine kw_step rfl rfl rfl rfl ?_
    refine kw_get rfl (hH_O (rfl : kotab 85 = some kMo)) rfl ?_
    refine kw_step rfl rfl rfl rfl ?_
    refine kw_step rfl rfl rfl rfl ?_
    refine kw_step rfl rfl rfl rfl ?_
    refine kw_step rfl rfl rfl rfl ?_
    obtain ⟨s17, ee18, hf⟩ := gbL hf
    refine kw_putH rfl (rfl : kotab 85 = some kMo) rfl rfl rfl (Nat.le_of_ble_eq_true rfl) rfl ee18 ?_
    refine kw_step rfl rfl rfl rfl ?_
    refine kw_step rfl rfl rfl rfl ?_
    obtain ⟨q20, hq20, hf⟩ := gbind hf
    refine kw_callV (vs := [kI x3]) rfl rfl rfl ⟨rfl, Nat.le_of_ble_eq_true rfl, Nat.le_of_ble_eq_true rfl, by decide⟩ (hH_O (rfl : kotab 85 = some kMo)) (c_M_signOf x3 s17 _ hq20) (Nat.le_of_ble_eq_true rfl) ?_
    refine kw_goto rfl rfl ?_
    cases hf
    exact kw_ret rfl rfl rfl hq
def f_M_pass_27 (x1 : Int) (x2 : Int) (x3 : Int) (y0 : Int) (s : kM) : Option (kM) :=
  if (kand (kshr y0 x3) 1) = 1 then ((f_M_fails 5 x2 s).bind fun q8 => some q8) else ((gI 22 (wI ((s 90 1) + (s 90 2)))).bind fun j2 => gLet (gU s 91 j2 x3) fun s4 => if x1 = 0 then (f_M_pass_61 x1 x3 (wI ((s 90 1) + (s 90 2))) 0 s4) else (f_M_pass_61 x1 x3 (wI ((s 90 1) + (s 90 2))) 1 s4))
set_option maxRecDepth 8000 in
theorem b_M_pass_27 {sc : List Int} {Q : Option kV → kH → Prop} (x1 : Int) (x2 : Int) (x3 : Int) (y0 : Int) (s : kM) (t : kM) (hf : f_M_pass_27 x1 x2 x3 y0 s = some t) (hq : (fun r => Q none (hH r)) t) : kW sc 4 kc_M_pass 0 27 [some (kr 85), some (kI x1), some (kI x2), some (kI x3), none] [kI y0] (hH s) Q := by
  unfold f_M_pass_27 at hf
  refine kw_step rfl rfl rfl rfl ?_
  refine kw_step rfl rfl rfl rfl ?_
  refine kw_step rfl rfl rfl rfl ?_
  refine kw_step rfl rfl rfl rfl ?_
  refine kw_step rfl rfl rfl rfl ?_
  refine kw_icmp_ne rfl rfl (fun c1 => ?_) (fun c1 => ?_)
  · have hf := giff c1 hf
    refine kw_step rfl rfl rfl rfl ?_
    refine kw_get rfl (hH_O (rfl : kotab 85 = some kMo)) rfl ?_
    refine kw_step rfl rfl rfl rfl ?_
    refine kw_iald rfl (hH_A (rfl : ktab 90 = some (0, 3))) (by decide) (by decide) (j := 1) rfl ?_
    refine kw_step rfl rfl rfl rfl ?_
    refine kw_get rfl (hH_O (rfl : kotab 85 = some kMo)) rfl ?_
    refine kw_step rfl rfl rfl rfl ?_
    refine kw_iald rfl (hH_A (rfl : ktab 90 = some (0, 3))) (by decide) (by decide) (j := 2) rfl ?_
    refine kw_step rfl rfl rfl rfl ?_
    refine kw_step (L' := [some (kr 85), some (kI x1), some (kI x2), some (kI x3), some (kI (wI ((s 90 1) + (s 90 2))))]) rfl rfl rfl rfl ?_
    refine kw_step rfl rfl rfl rfl ?_
    refine kw_get rfl (hH_O (rfl : kotab 85 = some kMo)) rfl ?_
    refine kw_step rfl rfl rfl rfl ?_
    refine kw_step rfl rfl rfl rfl ?_
    obtain ⟨j2, i3, hf⟩ := gbI hf
    obtain ⟨s4, ee5, hf⟩ := gbL hf
    refine kw_iastH rfl (rfl : ktab 91 = some (0, 22)) i3.1 i3.2.1 i3.2.2 ee5 ?_
    refine kw_step rfl rfl rfl rfl ?_
    refine kw_get rfl (hH_O (rfl : kotab 85 = some kMo)) rfl ?_
    refine kw_step rfl rfl rfl rfl ?_
    refine kw_step rfl rfl rfl rfl ?_
    refine kw_if_eq rfl rfl (fun c7 => ?_) (fun c7 => ?_)
    · have hf := gift c7 hf
      refine kw_step rfl rfl rfl rfl ?_
      exact kW_le (L' := [some (kr 85), some (kI x1), none, some (kI x3), none]) ⟨Or.inr rfl, Or.inr rfl, Or.inl rfl, Or.inr rfl, Or.inl rfl, trivial⟩ (b_M_pass_61 x1 x3 (wI ((s 90 1) + (s 90 2))) 0 s4 _ hf hq)
    · have hf := giff c7 hf
      refine kw_step rfl rfl rfl rfl ?_
      refine kw_goto rfl rfl ?_
      exact kW_le (L' := [some (kr 85), some (kI x1), none, some (kI x3), none]) ⟨Or.inr rfl, Or.inr rfl, Or.inl rfl, Or.inr rfl, Or.inl rfl, trivial⟩ (b_M_pass_61 x1 x3 (wI ((s 90 1) + (s 90 2))) 1 s4 _ hf hq)
  · have hf := gift c1 hf
    refine kw_step rfl rfl rfl rfl ?_
    refine kw_step rfl rfl rfl rfl ?_
    refine kw_step rfl rfl rfl rfl ?_
    obtain ⟨q8, hq8, hf⟩ := gbind hf
    refine kw_callV (vs := [kI 5, kI x2]) rfl rfl rfl ⟨rfl, Nat.le_of_ble_eq_true rfl, Nat.le_of_ble_eq_true rfl, by decide⟩ (hH_O (rfl : kotab 85 = some kMo)) (c_M_fails 5 x2 s _ hq8) (Nat.le_of_ble_eq_true rfl) ?_
    cases hf
    exact kw_ret rfl rfl rfl hq
def f_M_pass (x1 : Int) (s : kM) : Option (kM) :=
  gLet (gU s 85 22 (wI ((s 85 22) + 1))) fun s1 => (f_M_blanks s1).bind fun q4 => (f_M_amount 0 10 q4).bind fun q6 => if (q6.2 85 23) ≤ 0 then (if x1 = 0 then (f_M_pass_27 x1 (q4 85 22) q6.1 (q6.2 85 32) q6.2) else (f_M_pass_27 x1 (q4 85 22) q6.1 (q6.2 85 31) q6.2)) else (some q6.2)
set_option maxRecDepth 8000 in
theorem c_M_pass {sc : List Int} (x1 : Int) (s : kM) (t : kM) (hf : f_M_pass x1 s = some t) : kR sc 4 km_M_pass [kr 85, kI x1] (hH s) none (hH t) := by
  unfold f_M_pass at hf
  refine kR.start rfl ?_
  show kW sc 4 kc_M_pass 0 0 [some (kr 85), some (kI x1), none, none, none] [] (hH s) _
  have hq : (fun (r : Option kV) (g : kH) => r = none ∧ g = hH t) none (hH t) := ⟨rfl, rfl⟩
  refine kw_step rfl rfl rfl rfl ?_
  refine kw_step rfl rfl rfl rfl ?_
  refine kw_get rfl (hH_O (rfl : kotab 85 = some kMo)) rfl ?_
  refine kw_step rfl rfl rfl rfl ?_
  refine kw_step rfl rfl rfl rfl ?_
  obtain ⟨s1, ee2, hf⟩ := gbL hf
  refine kw_putH rfl (rfl : kotab 85 = some kMo) rfl rfl rfl (Nat.le_of_ble_eq_true rfl) rfl ee2 ?_
  refine kw_step rfl rfl rfl rfl ?_
  obtain ⟨q4, hq4, hf⟩ := gbind hf
  refine kw_callV (vs := []) rfl rfl rfl ⟨rfl, Nat.le_of_ble_eq_true rfl, Nat.le_of_ble_eq_true rfl, by decide⟩ (hH_O (rfl : kotab 85 = some kMo)) (c_M_blanks s1 _ hq4) (Nat.le_of_ble_eq_true rfl) ?_
  refine kw_step rfl rfl rfl rfl ?_
  refine kw_get rfl (hH_O (rfl : kotab 85 = some kMo)) rfl ?_
  refine kw_step (L' := [some (kr 85), some (kI x1), some (kI (q4 85 22)), none, none]) rfl rfl rfl rfl ?_
  refine kw_step rfl rfl rfl rfl ?_
  refine kw_step rfl rfl rfl rfl ?_
  refine kw_step rfl rfl rfl rfl ?_
  obtain ⟨q6, hq6, hf⟩ := gbind hf
  refine kw_callV (vs := [kI 0, kI 10]) rfl rfl rfl ⟨rfl, Nat.le_of_ble_eq_true rfl, Nat.le_of_ble_eq_true rfl, by decide⟩ (hH_O (rfl : kotab 85 = some kMo)) (c_M_amount 0 10 q4 _ hq6) (Nat.le_of_ble_eq_true rfl) ?_
  refine kw_step (L' := [some (kr 85), some (kI x1), some (kI (q4 85 22)), some (kI q6.1), none]) rfl rfl rfl rfl ?_
  refine kw_step rfl rfl rfl rfl ?_
  refine kw_get rfl (hH_O (rfl : kotab 85 = some kMo)) rfl ?_
  refine kw_if_le rfl rfl (fun c8 => ?_) (fun c8 => ?_)
  · have hf := gift c8 hf
    refine kw_step rfl rfl rfl rfl ?_
    refine kw_if_eq rfl rfl (fun c9 => ?_) (fun c9 => ?_)
    · have hf := gift c9 hf
      refine kw_step rfl rfl rfl rfl ?_
      refine kw_get rfl (hH_O (rfl : kotab 85 = some kMo)) rfl ?_
      exact kW_le (L' := [some (kr 85), some (kI x1), some (kI (q4 85 22)), some (kI q6.1), none]) ⟨Or.inr rfl, Or.inr rfl, Or.inr rfl, Or.inr rfl, Or.inl rfl, trivial⟩ (b_M_pass_27 x1 (q4 85 22) q6.1 (q6.2 85 32) q6.2 _ hf hq)
    · have hf := giff c9 hf
      refine kw_step rfl rfl rfl rfl ?_
      refine kw_get rfl (hH_O (rfl : kotab 85 = some kMo)) rfl ?_
      refine kw_goto rfl rfl ?_
      exact kW_le (L' := [some (kr 85), some (kI x1), some (kI (q4 85 22)), some (kI q6.1), none]) ⟨Or.inr rfl, Or.inr rfl, Or.inr rfl, Or.inr rfl, Or.inl rfl, trivial⟩ (b_M_pass_27 x1 (q4 85 22) q6.1 (q6.2 85 31) q6.2 _ hf hq)
  · have hf := giff c8 hf
    cases hf
    exact kw_ret rfl rfl rfl hq
def f_M_road_54 (x2 : Int) (s : kM) : Option ((Int × kM) ⊕ (kM)) :=
  (f_M_pass x2 s).bind fun q1 => (f_M_blanks q1).bind fun q3 => (f_M_stood 16 q3).bind fun q5 => some (.inl (q5, q3))
set_option maxRecDepth 8000 in
theorem b_M_road_54 {sc : List Int} {Q : Option kV → kH → Prop} (x2 : Int) (s : kM) (t : (Int × kM) ⊕ (kM)) (hf : f_M_road_54 x2 s = some t) (hq : (gE (fun x => kW sc 5 kc_M_road 0 45 [some (kr 85), none, some (kI x.1)] [] (hH x.2) Q) (fun r => Q none (hH r))) t) : kW sc 5 kc_M_road 0 54 [some (kr 85), none, some (kI x2)] [] (hH s) Q := by
  unfold f_M_road_54 at hf
  refine kw_step rfl rfl rfl rfl ?_
  refine kw_step rfl rfl rfl rfl ?_
  obtain ⟨q1, hq1, hf⟩ := gbind hf
  refine kw_callV (vs := [kI x2]) rfl rfl rfl ⟨rfl, Nat.le_of_ble_eq_true rfl, Nat.le_of_ble_eq_true rfl, by decide⟩ (hH_O (rfl : kotab 85 = some kMo)) (c_M_pass x2 s _ hq1) (Nat.le_of_ble_eq_true rfl) ?_
  refine kw_step rfl rfl rfl rfl ?_
  obtain ⟨q3, hq3, hf⟩ := gbind hf
  refine kw_callV (vs := []) rfl rfl rfl ⟨rfl, Nat.le_of_ble_eq_true rfl, Nat.le_of_ble_eq_true rfl, by decide⟩ (hH_O (rfl : kotab 85 = some kMo)) (c_M_blanks q1 _ hq3) (Nat.le_of_ble_eq_true rfl) ?_
  refine kw_step rfl rfl rfl rfl ?_
  refine kw_step rfl rfl rfl rfl ?_
  obtain ⟨q5, hq5, hf⟩ := gbind hf
  refine kw_callV (vs := [kS 16]) rfl rfl rfl ⟨rfl, Nat.le_of_ble_eq_true rfl, Nat.le_of_ble_eq_true rfl, by decide⟩ (hH_O (rfl : kotab 85 = some kMo)) (c_M_stood 16 q3 _ hq5) (Nat.le_of_ble_eq_true rfl) ?_
  refine kw_step (L' := [some (kr 85), none, some (kI q5)]) rfl rfl rfl rfl ?_
  refine kw_goto rfl rfl ?_
  cases hf
  exact kW_le (L' := [some (kr 85), none, some (kI q5)]) ⟨Or.inr rfl, Or.inl rfl, Or.inr rfl, trivial⟩ hq
def f_M_road_45b (x2 : Int) (s : kM) : Option ((Int × kM) ⊕ (kM)) :=
  if (s 85 23) = 0 then (if x2 = 0 then ((f_M_stood 17 s).bind fun q3 => if q3 = 0 then (some (.inr s)) else (f_M_road_54 x2 s)) else (f_M_road_54 x2 s)) else (some (.inr s))
set_option maxRecDepth 8000 in
theorem b_M_road_45b {sc : List Int} {Q : Option kV → kH → Prop} (x2 : Int) (s : kM) (t : (Int × kM) ⊕ (kM)) (hf : f_M_road_45b x2 s = some t) (hq : (gE (fun x => kW sc 5 kc_M_road 0 45 [some (kr 85), none, some (kI x.1)] [] (hH x.2) Q) (fun r => Q none (hH r))) t) : kW sc 5 kc_M_road 0 45 [some (kr 85), none, some (kI x2)] [] (hH s) Q := by
  unfold f_M_road_45b at hf
  refine kw_step rfl rfl rfl rfl ?_
  refine kw_get rfl (hH_O (rfl : kotab 85 = some kMo)) rfl ?_
  refine kw_if_ne rfl rfl (fun c1 => ?_) (fun c1 => ?_)
  · have hf := giff c1 hf
    cases hf
    exact kw_ret rfl rfl rfl hq
  · have hf := gift c1 hf
    refine kw_step rfl rfl rfl rfl ?_
    refine kw_if_ne rfl rfl (fun c2 => ?_) (fun c2 => ?_)
    · have hf := giff c2 hf
      exact kW_le (L' := [some (kr 85), none, some (kI x2)]) ⟨Or.inr rfl, Or.inl rfl, Or.inr rfl, trivial⟩ (b_M_road_54 x2 s _ hf hq)
    · have hf := gift c2 hf
      refine kw_step rfl rfl rfl rfl ?_
      refine kw_step rfl rfl rfl rfl ?_
      obtain ⟨q3, hq3, hf⟩ := gbind hf
      refine kw_callV (vs := [kS 17]) rfl rfl rfl ⟨rfl, Nat.le_of_ble_eq_true rfl, Nat.le_of_ble_eq_true rfl, by decide⟩ (hH_O (rfl : kotab 85 = some kMo)) (c_M_stood 17 s _ hq3) (Nat.le_of_ble_eq_true rfl) ?_
      refine kw_if_eq rfl rfl (fun c4 => ?_) (fun c4 => ?_)
      · have hf := gift c4 hf
        cases hf
        exact kw_ret rfl rfl rfl hq
      · have hf := giff c4 hf
        exact kW_le (L' := [some (kr 85), none, some (kI x2)]) ⟨Or.inr rfl, Or.inl rfl, Or.inr rfl, trivial⟩ (b_M_road_54 x2 s _ hf hq)
def f_M_road_45 (x2 : Int) (s : kM) : Option (kM) :=
  gL (fun (x : Int × kM) => f_M_road_45b x.1 x.2) gF (x2, s)
theorem b_M_road_45 {sc : List Int} {Q : Option kV → kH → Prop} (x2 : Int) (s : kM) (t : kM) (hf : f_M_road_45 x2 s = some t) (hq : (fun r => Q none (hH r)) t) : kW sc 5 kc_M_road 0 45 [some (kr 85), none, some (kI x2)] [] (hH s) Q :=
  gL_ind (P := fun (x : Int × kM) => kW sc 5 kc_M_road 0 45 [some (kr 85), none, some (kI x.1)] [] (hH x.2) Q) (q := (fun r => Q none (hH r))) (fun x t hf hq => b_M_road_45b x.1 x.2 t hf hq) gF (x2, s) t hf hq
def f_M_road (s : kM) : Option (kM) :=
  (f_M_blanks s).bind fun q1 => (f_M_stood 15 q1).bind fun q3 => if q3 = 0 then ((f_M_fails 0 (q1 85 22) q1).bind fun q17 => some q17) else (if (q1 90 0) = 2 then ((f_M_fails 4 (q1 85 22) q1).bind fun q15 => some q15) else (gLet (gU q1 85 22 (wI ((q1 85 22) + 4))) fun s6 => gLet (gU s6 90 0 (wI ((s6 90 0) + 1))) fun s9 => (f_M_blanks s9).bind fun q12 => (f_M_stood 16 q12).bind fun q14 => f_M_road_45 q14 q12))
set_option maxRecDepth 8000 in
theorem c_M_road {sc : List Int} (s : kM) (t : kM) (hf : f_M_road s = some t) : kR sc 5 km_M_road [kr 85] (hH s) none (hH t) := by
  unfold f_M_road at hf
  refine kR.start rfl ?_
  show kW sc 5 kc_M_road 0 0 [some (kr 85), none, none] [] (hH s) _
  have hq : (fun (r : Option kV) (g : kH) => r = none ∧ g = hH t) none (hH t) := ⟨rfl, rfl⟩
  refine kw_step rfl rfl rfl rfl ?_
  obtain ⟨q1, hq1, hf⟩ := gbind hf
  refine kw_callV (vs := []) rfl rfl rfl ⟨rfl, Nat.le_of_ble_eq_true rfl, Nat.le_of_ble_eq_true rfl, by decide⟩ (hH_O (rfl : kotab 85 = some kMo)) (c_M_blanks s _ hq1) (Nat.le_of_ble_eq_true rfl) ?_
  refine kw_step rfl rfl rfl rfl ?_
  refine kw_get rfl (hH_O (rfl : kotab 85 = some kMo)) rfl ?_
  refine kw_step (L' := [some (kr 85), some (kI (q1 85 22)), none]) rfl rfl rfl rfl ?_
  refine kw_step rfl rfl rfl rfl ?_
  refine kw_step rfl rfl rfl rfl ?_
  obtain ⟨q3, hq3, hf⟩ := gbind hf
  refine kw_callV (vs := [kS 15]) rfl rfl rfl ⟨rfl, Nat.le_of_ble_eq_true rfl, Nat.le_of_ble_eq_true rfl, by decide⟩ (hH_O (rfl : kotab 85 = some kMo)) (c_M_stood 15 q1 _ hq3) (Nat.le_of_ble_eq_true rfl) ?_
  refine kw_if_ne rfl rfl (fun c4 => ?_) (fun c4 => ?_)
  · have hf := giff c4 hf
    refine kw_step rfl rfl rfl rfl ?_
    refine kw_get rfl (hH_O (rfl : kotab 85 = some kMo)) rfl ?_
    refine kw_step rfl rfl rfl rfl ?_
    refine kw_iald rfl (hH_A (rfl : ktab 90 = some (0, 3))) (by decide) (by decide) (j := 0) rfl ?_
    refine kw_step rfl rfl rfl rfl ?_
    refine kw_icmp_ne rfl rfl (fun c5 => ?_) (fun c5 => ?_)
    · have hf := giff c5 hf
      refine kw_step rfl rfl rfl rfl ?_
      refine kw_step rfl rfl rfl rfl ?_
      refine kw_get rfl (hH_O (rfl : kotab 85 = some kMo)) rfl ?_
      refine kw_step rfl rfl rfl rfl ?_
      refine kw_step rfl rfl rfl rfl ?_
      obtain ⟨s6, ee7, hf⟩ := gbL hf
      refine kw_putH rfl (rfl : kotab 85 = some kMo) rfl rfl rfl (Nat.le_of_ble_eq_true rfl) rfl ee7 ?_
      refine kw_step rfl rfl rfl rfl ?_
      refine kw_get rfl (hH_O (rfl : kotab 85 = some kMo)) rfl ?_
      refine kw_step rfl rfl rfl rfl ?_
      refine kw_step rfl rfl rfl rfl ?_
      refine kw_iald rfl (hH_A (rfl : ktab 90 = some (0, 3))) (by decide) (by decide) (j := 0) rfl ?_
      refine kw_step rfl rfl rfl rfl ?_
      refine kw_step rfl rfl rfl rfl ?_
      obtain ⟨s9, ee10, hf⟩ := gbL hf
      refine kw_iastH rfl (rfl : ktab 90 = some (0, 3)) (by decide) (by decide) (j := 0) rfl ee10 ?_
      refine kw_step rfl rfl rfl rfl ?_
      obtain ⟨q12, hq12, hf⟩ := gbind hf
      refine kw_callV (vs := []) rfl rfl rfl ⟨rfl, Nat.le_of_ble_eq_true rfl, Nat.le_of_ble_eq_true rfl, by decide⟩ (hH_O (rfl : kotab 85 = some kMo)) (c_M_blanks s9 _ hq12) (Nat.le_of_ble_eq_true rfl) ?_
      refine kw_step rfl rfl rfl rfl ?_
      refine kw_step rfl rfl rfl rfl ?_
      obtain ⟨q14, hq14, hf⟩ := gbind hf
      refine kw_callV (vs := [kS 16]) rfl rfl rfl ⟨rfl, Nat.le_of_ble_eq_true rfl, Nat.le_of_ble_eq_true rfl, by decide⟩ (hH_O (rfl : kotab 85 = some kMo)) (c_M_stood 16 q12 _ hq14) (Nat.le_of_ble_eq_true rfl) ?_
      refine kw_step (L' := [some (kr 85), some (kI (q1 85 22)), some (kI q14)]) rfl rfl rfl rfl ?_
      exact kW_le (L' := [some (kr 85), none, some (kI q14)]) ⟨Or.inr rfl, Or.inl rfl, Or.inr rfl, trivial⟩ (b_M_road_45 q14 q12 _ hf hq)
    · have hf := gift c5 hf
      refine kw_step rfl rfl rfl rfl ?_
      refine kw_step rfl rfl rfl rfl ?_
      refine kw_step rfl rfl rfl rfl ?_
      obtain ⟨q15, hq15, hf⟩ := gbind hf
      refine kw_callV (vs := [kI 4, kI (q1 85 22)]) rfl rfl rfl ⟨rfl, Nat.le_of_ble_eq_true rfl, Nat.le_of_ble_eq_true rfl, by decide⟩ (hH_O (rfl : kotab 85 = some kMo)) (c_M_fails 4 (q1 85 22) q1 _ hq15) (Nat.le_of_ble_eq_true rfl) ?_
      cases hf
      exact kw_ret rfl rfl rfl hq
  · have hf := gift c4 hf
    refine kw_step rfl rfl rfl rfl ?_
    refine kw_step rfl rfl rfl rfl ?_
    refine kw_step rfl rfl rfl rfl ?_
    obtain ⟨q17, hq17, hf⟩ := gbind hf
    refine kw_callV (vs := [kI 0, kI (q1 85 22)]) rfl rfl rfl ⟨rfl, Nat.le_of_ble_eq_true rfl, Nat.le_of_ble_eq_true rfl, by decide⟩ (hH_O (rfl : kotab 85 = some kMo)) (c_M_fails 0 (q1 85 22) q1 _ hq17) (Nat.le_of_ble_eq_true rfl) ?_
    cases hf
    exact kw_ret rfl rfl rfl hq
def f_M_goesOn_30 (y0 : Int) (s : kM) : Option (Int × kM) :=
  gLet (gU s 85 22 (wI ((s 85 22) + 1))) fun s1 => (gB y0).bind fun _ => some (y0, s1)
set_option maxRecDepth 8000 in
theorem b_M_goesOn_30 {sc : List Int} {Q : Option kV → kH → Prop} (y0 : Int) (s : kM) (t : Int × kM) (hf : f_M_goesOn_30 y0 s = some t) (hq : (fun r => Q (some (kI r.1)) (hH r.2)) t) : kW sc 2 kc_M_goesOn 2 30 [some (kr 85), none] [kI y0] (hH s) Q := by
  unfold f_M_goesOn_30 at hf
  refine kw_step (L' := [some (kr 85), some (kI y0)]) rfl rfl rfl rfl ?_
  refine kw_step rfl rfl rfl rfl ?_
  refine kw_step rfl rfl rfl rfl ?_
  refine kw_get rfl (hH_O (rfl : kotab 85 = some kMo)) rfl ?_
  refine kw_step rfl rfl rfl rfl ?_
  refine kw_step rfl rfl rfl rfl ?_
  obtain ⟨s1, ee2, hf⟩ := gbL hf
  refine kw_putH rfl (rfl : kotab 85 = some kMo) rfl rfl rfl (Nat.le_of_ble_eq_true rfl) rfl ee2 ?_
  refine kw_step rfl rfl rfl rfl ?_
  obtain ⟨w4, hf⟩ := gbB hf
  cases hf
  exact kw_ret rfl rfl (if_pos w4) hq
def f_M_goesOn_29 (s : kM) : Option (Int × kM) :=
  f_M_goesOn_30 0 s
set_option maxRecDepth 8000 in
theorem b_M_goesOn_29 {sc : List Int} {Q : Option kV → kH → Prop} (s : kM) (t : Int × kM) (hf : f_M_goesOn_29 s = some t) (hq : (fun r => Q (some (kI r.1)) (hH r.2)) t) : kW sc 2 kc_M_goesOn 2 29 [some (kr 85), none] [] (hH s) Q := by
  unfold f_M_goesOn_29 at hf
  refine kw_step rfl rfl rfl rfl ?_
  exact kW_le (L' := [some (kr 85), none]) ⟨Or.inr rfl, Or.inl rfl, trivial⟩ (b_M_goesOn_30 0 s _ hf hq)
def f_M_goesOn_19 (s : kM) : Option (Int × kM) :=
  if (s 85 23) = 0 then (if (s 85 21) ≤ (s 85 22) then (f_M_goesOn_29 s) else (f_M_goesOn_30 1 s)) else (f_M_goesOn_29 s)
set_option maxRecDepth 8000 in
theorem b_M_goesOn_19 {sc : List Int} {Q : Option kV → kH → Prop} (s : kM) (t : Int × kM) (hf : f_M_goesOn_19 s = some t) (hq : (fun r => Q (some (kI r.1)) (hH r.2)) t) : kW sc 2 kc_M_goesOn 2 19 [some (kr 85), none] [] (hH s) Q := by
  unfold f_M_goesOn_19 at hf
  refine kw_step rfl rfl rfl rfl ?_
  refine kw_get rfl (hH_O (rfl : kotab 85 = some kMo)) rfl ?_
  refine kw_if_ne rfl rfl (fun c1 => ?_) (fun c1 => ?_)
  · have hf := giff c1 hf
    exact kW_le (L' := [some (kr 85), none]) ⟨Or.inr rfl, Or.inl rfl, trivial⟩ (b_M_goesOn_29 s _ hf hq)
  · have hf := gift c1 hf
    refine kw_step rfl rfl rfl rfl ?_
    refine kw_get rfl (hH_O (rfl : kotab 85 = some kMo)) rfl ?_
    refine kw_step rfl rfl rfl rfl ?_
    refine kw_get rfl (hH_O (rfl : kotab 85 = some kMo)) rfl ?_
    refine kw_icmp_ge rfl rfl (fun c2 => ?_) (fun c2 => ?_)
    · have hf := gift c2 hf
      exact kW_le (L' := [some (kr 85), none]) ⟨Or.inr rfl, Or.inl rfl, trivial⟩ (b_M_goesOn_29 s _ hf hq)
    · have hf := giff c2 hf
      refine kw_step rfl rfl rfl rfl ?_
      refine kw_goto rfl rfl ?_
      exact kW_le (L' := [some (kr 85), none]) ⟨Or.inr rfl, Or.inl rfl, trivial⟩ (b_M_goesOn_30 1 s _ hf hq)
def f_M_goesOn (s : kM) : Option (Int × kM) :=
  (f_M_blanks s).bind fun q1 => if (q1 85 23) = 0 then (if (q1 85 21) ≤ (q1 85 22) then (f_M_goesOn_19 q1) else ((f_M_sign q1).bind fun q5 => if q5 = 59 then (f_M_goesOn_19 q1) else ((f_M_fails 0 (q1 85 22) q1).bind fun q7 => f_M_goesOn_19 q7))) else (f_M_goesOn_19 q1)
set_option maxRecDepth 8000 in
theorem c_M_goesOn {sc : List Int} (s : kM) (t : Int × kM) (hf : f_M_goesOn s = some t) : kR sc 2 km_M_goesOn [kr 85] (hH s) (some (kI t.1)) (hH t.2) := by
  unfold f_M_goesOn at hf
  refine kR.start rfl ?_
  show kW sc 2 kc_M_goesOn 2 0 [some (kr 85), none] [] (hH s) _
  have hq : (fun (r : Option kV) (g : kH) => r = some (kI t.1) ∧ g = hH t.2) (some (kI t.1)) (hH t.2) := ⟨rfl, rfl⟩
  refine kw_step rfl rfl rfl rfl ?_
  obtain ⟨q1, hq1, hf⟩ := gbind hf
  refine kw_callV (vs := []) rfl rfl rfl ⟨rfl, Nat.le_of_ble_eq_true rfl, Nat.le_of_ble_eq_true rfl, by decide⟩ (hH_O (rfl : kotab 85 = some kMo)) (c_M_blanks s _ hq1) (Nat.le_of_ble_eq_true rfl) ?_
  refine kw_step rfl rfl rfl rfl ?_
  refine kw_get rfl (hH_O (rfl : kotab 85 = some kMo)) rfl ?_
  refine kw_if_ne rfl rfl (fun c3 => ?_) (fun c3 => ?_)
  · have hf := giff c3 hf
    exact kW_le (L' := [some (kr 85), none]) ⟨Or.inr rfl, Or.inl rfl, trivial⟩ (b_M_goesOn_19 q1 _ hf hq)
  · have hf := gift c3 hf
    refine kw_step rfl rfl rfl rfl ?_
    refine kw_get rfl (hH_O (rfl : kotab 85 = some kMo)) rfl ?_
    refine kw_step rfl rfl rfl rfl ?_
    refine kw_get rfl (hH_O (rfl : kotab 85 = some kMo)) rfl ?_
    refine kw_icmp_ge rfl rfl (fun c4 => ?_) (fun c4 => ?_)
    · have hf := gift c4 hf
      exact kW_le (L' := [some (kr 85), none]) ⟨Or.inr rfl, Or.inl rfl, trivial⟩ (b_M_goesOn_19 q1 _ hf hq)
    · have hf := giff c4 hf
      refine kw_step rfl rfl rfl rfl ?_
      obtain ⟨q5, hq5, hf⟩ := gbind hf
      refine kw_callV (vs := []) rfl rfl rfl ⟨rfl, Nat.le_of_ble_eq_true rfl, Nat.le_of_ble_eq_true rfl, by decide⟩ (hH_O (rfl : kotab 85 = some kMo)) (c_M_sign q1 _ hq5) (Nat.le_of_ble_eq_true rfl) ?_
      refine kw_step rfl rfl rfl rfl ?_
      refine kw_icmp_eq rfl rfl (fun c6 => ?_) (fun c6 => ?_)
      · have hf := gift c6 hf
        exact kW_le (L' := [some (kr 85), none]) ⟨Or.inr rfl, Or.inl rfl, trivial⟩ (b_M_goesOn_19 q1 _ hf hq)
      · have hf := giff c6 hf
        refine kw_step rfl rfl rfl rfl ?_
        refine kw_step rfl rfl rfl rfl ?_
        refine kw_step rfl rfl rfl rfl ?_
        refine kw_get rfl (hH_O (rfl : kotab 85 = some kMo)) rfl ?_
        obtain ⟨q7, hq7, hf⟩ := gbind hf
        refine kw_callV (vs := [kI 0, kI (q1 85 22)]) rfl rfl rfl ⟨rfl, Nat.le_of_ble_eq_true rfl, Nat.le_of_ble_eq_true rfl, by decide⟩ (hH_O (rfl : kotab 85 = some kMo)) (c_M_fails 0 (q1 85 22) q1 _ hq7) (Nat.le_of_ble_eq_true rfl) ?_
        exact kW_le (L' := [some (kr 85), none]) ⟨Or.inr rfl, Or.inl rfl, trivial⟩ (b_M_goesOn_19 q7 _ hf hq)
def f_M_lay_2b (a0 : Nat) (n0 : Nat) (a1 : Nat) (n1 : Nat) (x2 : Int) (s : kM) : Option ((Int × kM) ⊕ (kM)) :=
  if ((n0 : Nat) : Int) ≤ x2 then (some (.inr s)) else ((gI n0 x2).bind fun j2 => (gI n1 x2).bind fun j4 => gLet (gU s a1 j4 (s a0 j2)) fun s6 => some (.inl ((wI (x2 + 1)), s6)))
set_option maxRecDepth 8000 in
theorem b_M_lay_2b {sc : List Int} {Q : Option kV → kH → Prop} (a0 : Nat) (n0 : Nat) (a1 : Nat) (n1 : Nat) (ha0 : ktab a0 = some (0, n0)) (ha1 : ktab a1 = some (0, n1)) (x2 : Int) (s : kM) (t : (Int × kM) ⊕ (kM)) (hf : f_M_lay_2b a0 n0 a1 n1 x2 s = some t) (hq : (gE (fun x => kW sc 0 kc_M_lay 0 2 [some (kr a0), some (kr a1), some (kI x.1)] [] (hH x.2) Q) (fun r => Q none (hH r))) t) : kW sc 0 kc_M_lay 0 2 [some (kr a0), some (kr a1), some (kI x2)] [] (hH s) Q := by
  unfold f_M_lay_2b at hf
  refine kw_step rfl rfl rfl rfl ?_
  refine kw_step rfl rfl rfl rfl ?_
  refine kw_alen rfl (hH_A ha0) (by decide) ?_
  refine kw_icmp_ge rfl rfl (fun c1 => ?_) (fun c1 => ?_)
  · have hf := gift c1 hf
    cases hf
    exact kw_ret rfl rfl rfl hq
  · have hf := giff c1 hf
    refine kw_step rfl rfl rfl rfl ?_
    refine kw_step rfl rfl rfl rfl ?_
    refine kw_step rfl rfl rfl rfl ?_
    refine kw_step rfl rfl rfl rfl ?_
    obtain ⟨j2, i3, hf⟩ := gbI hf
    refine kw_iald rfl (hH_A ha0) i3.1 i3.2.1 i3.2.2 ?_
    obtain ⟨j4, i5, hf⟩ := gbI hf
    obtain ⟨s6, ee7, hf⟩ := gbL hf
    refine kw_iastH rfl ha1 i5.1 i5.2.1 i5.2.2 ee7 ?_
    refine kw_step (L' := [some (kr a0), some (kr a1), some (kI (wI (x2 + 1)))]) rfl rfl rfl rfl ?_
    refine kw_goto rfl rfl ?_
    cases hf
    exact kW_le (L' := [some (kr a0), some (kr a1), some (kI (wI (x2 + 1)))]) ⟨Or.inr rfl, Or.inr rfl, Or.inr rfl, trivial⟩ hq
def f_M_lay_2 (a0 : Nat) (n0 : Nat) (a1 : Nat) (n1 : Nat) (x2 : Int) (s : kM) : Option (kM) :=
  gL (fun (x : Int × kM) => f_M_lay_2b a0 n0 a1 n1 x.1 x.2) gF (x2, s)
theorem b_M_lay_2 {sc : List Int} {Q : Option kV → kH → Prop} (a0 : Nat) (n0 : Nat) (a1 : Nat) (n1 : Nat) (ha0 : ktab a0 = some (0, n0)) (ha1 : ktab a1 = some (0, n1)) (x2 : Int) (s : kM) (t : kM) (hf : f_M_lay_2 a0 n0 a1 n1 x2 s = some t) (hq : (fun r => Q none (hH r)) t) : kW sc 0 kc_M_lay 0 2 [some (kr a0), some (kr a1), some (kI x2)] [] (hH s) Q :=
  gL_ind (P := fun (x : Int × kM) => kW sc 0 kc_M_lay 0 2 [some (kr a0), some (kr a1), some (kI x.1)] [] (hH x.2) Q) (q := (fun r => Q none (hH r))) (fun x t hf hq => b_M_lay_2b a0 n0 a1 n1 ha0 ha1 x.1 x.2 t hf hq) gF (x2, s) t hf hq
def f_M_lay (a0 : Nat) (n0 : Nat) (a1 : Nat) (n1 : Nat) (s : kM) : Option (kM) :=
  f_M_lay_2 a0 n0 a1 n1 0 s
set_option maxRecDepth 8000 in
theorem c_M_lay {sc : List Int} (a0 : Nat) (n0 : Nat) (a1 : Nat) (n1 : Nat) (ha0 : ktab a0 = some (0, n0)) (ha1 : ktab a1 = some (0, n1)) (s : kM) (t : kM) (hf : f_M_lay a0 n0 a1 n1 s = some t) : kR sc 0 km_M_lay [kr a0, kr a1] (hH s) none (hH t) := by
  unfold f_M_lay at hf
  refine kR.start rfl ?_
  show kW sc 0 kc_M_lay 0 0 [some (kr a0), some (kr a1), none] [] (hH s) _
  have hq : (fun (r : Option kV) (g : kH) => r = none ∧ g = hH t) none (hH t) := ⟨rfl, rfl⟩
  refine kw_step rfl rfl rfl rfl ?_
  refine kw_step (L' := [some (kr a0), some (kr a1), some (kI 0)]) rfl rfl rfl rfl ?_
  exact kW_le (L' := [some (kr a0), some (kr a1), some (kI 0)]) ⟨Or.inr rfl, Or.inr rfl, Or.inr rfl, trivial⟩ (b_M_lay_2 a0 n0 a1 n1 ha0 ha1 0 s _ hf hq)
def f_M_keeps (s : kM) : Option (kM) :=
  (f_M_lay 86 6 94 6 s).bind fun q1 => (f_M_lay 87 22 95 22 q1).bind fun q3 => (f_M_lay 88 22 96 22 q3).bind fun q5 => (f_M_lay 89 11 97 11 q5).bind fun q7 => some q7
set_option maxRecDepth 8000 in
theorem c_M_keeps {sc : List Int} (s : kM) (t : kM) (hf : f_M_keeps s = some t) : kR sc 1 km_M_keeps [kr 85] (hH s) none (hH t) := by
  unfold f_M_keeps at hf
  refine kR.start rfl ?_
  show kW sc 1 kc_M_keeps 0 0 [some (kr 85)] [] (hH s) _
  have hq : (fun (r : Option kV) (g : kH) => r = none ∧ g = hH t) none (hH t) := ⟨rfl, rfl⟩
  refine kw_step rfl rfl rfl rfl ?_
  refine kw_get rfl (hH_O (rfl : kotab 85 = some kMo)) rfl ?_
  refine kw_step rfl rfl rfl rfl ?_
  refine kw_get rfl (hH_O (rfl : kotab 85 = some kMo)) rfl ?_
  obtain ⟨q1, hq1, hf⟩ := gbind hf
  refine kw_callS (vs := [kr 86, kr 94]) rfl rfl rfl ⟨rfl, Nat.le_of_ble_eq_true rfl, Nat.le_of_ble_eq_true rfl, rfl⟩ (c_M_lay 86 6 94 6 (rfl : ktab 86 = some (0, 6)) (rfl : ktab 94 = some (0, 6)) s _ hq1) (Nat.le_of_ble_eq_true rfl) ?_
  refine kw_step rfl rfl rfl rfl ?_
  refine kw_get rfl (hH_O (rfl : kotab 85 = some kMo)) rfl ?_
  refine kw_step rfl rfl rfl rfl ?_
  refine kw_get rfl (hH_O (rfl : kotab 85 = some kMo)) rfl ?_
  obtain ⟨q3, hq3, hf⟩ := gbind hf
  refine kw_callS (vs := [kr 87, kr 95]) rfl rfl rfl ⟨rfl, Nat.le_of_ble_eq_true rfl, Nat.le_of_ble_eq_true rfl, rfl⟩ (c_M_lay 87 22 95 22 (rfl : ktab 87 = some (0, 22)) (rfl : ktab 95 = some (0, 22)) q1 _ hq3) (Nat.le_of_ble_eq_true rfl) ?_
  refine kw_step rfl rfl rfl rfl ?_
  refine kw_get rfl (hH_O (rfl : kotab 85 = some kMo)) rfl ?_
  refine kw_step rfl rfl rfl rfl ?_
  refine kw_get rfl (hH_O (rfl : kotab 85 = some kMo)) rfl ?_
  obtain ⟨q5, hq5, hf⟩ := gbind hf
  refine kw_callS (vs := [kr 88, kr 96]) rfl rfl rfl ⟨rfl, Nat.le_of_ble_eq_true rfl, Nat.le_of_ble_eq_true rfl, rfl⟩ (c_M_lay 88 22 96 22 (rfl : ktab 88 = some (0, 22)) (rfl : ktab 96 = some (0, 22)) q3 _ hq5) (Nat.le_of_ble_eq_true rfl) ?_
  refine kw_step rfl rfl rfl rfl ?_
  refine kw_get rfl (hH_O (rfl : kotab 85 = some kMo)) rfl ?_
  refine kw_step rfl rfl rfl rfl ?_
  refine kw_get rfl (hH_O (rfl : kotab 85 = some kMo)) rfl ?_
  obtain ⟨q7, hq7, hf⟩ := gbind hf
  refine kw_callS (vs := [kr 89, kr 97]) rfl rfl rfl ⟨rfl, Nat.le_of_ble_eq_true rfl, Nat.le_of_ble_eq_true rfl, rfl⟩ (c_M_lay 89 11 97 11 (rfl : ktab 89 = some (0, 11)) (rfl : ktab 97 = some (0, 11)) q5 _ hq7) (Nat.le_of_ble_eq_true rfl) ?_
  cases hf
  exact kw_ret rfl rfl rfl hq
def f_M_areWhole_31 (x2 : Int) (y0 : Int) (s : kM) : Option ((Int × Int) ⊕ (Int)) :=
  some (.inl (y0, (wI (x2 + 1))))
set_option maxRecDepth 8000 in
theorem b_M_areWhole_31 {sc : List Int} {Q : Option kV → kH → Prop} (x2 : Int) (y0 : Int) (s : kM) (t : (Int × Int) ⊕ (Int)) (hf : f_M_areWhole_31 x2 y0 s = some t) (hq : (gE (fun x => kW sc 0 kc_M_areWhole 2 4 [some (kr 85), some (kI x.1), some (kI x.2)] [] (hH s) Q) (fun r => Q (some (kI r)) (hH s))) t) : kW sc 0 kc_M_areWhole 2 31 [some (kr 85), none, some (kI x2)] [kI y0] (hH s) Q := by
  unfold f_M_areWhole_31 at hf
  refine kw_step (L' := [some (kr 85), some (kI y0), some (kI x2)]) rfl rfl rfl rfl ?_
  refine kw_step (L' := [some (kr 85), some (kI y0), some (kI (wI (x2 + 1)))]) rfl rfl rfl rfl ?_
  refine kw_goto rfl rfl ?_
  cases hf
  exact kW_le (L' := [some (kr 85), some (kI y0), some (kI (wI (x2 + 1)))]) ⟨Or.inr rfl, Or.inr rfl, Or.inr rfl, trivial⟩ hq
def f_M_areWhole_30 (x2 : Int) (s : kM) : Option ((Int × Int) ⊕ (Int)) :=
  f_M_areWhole_31 x2 0 s
set_option maxRecDepth 8000 in
theorem b_M_areWhole_30 {sc : List Int} {Q : Option kV → kH → Prop} (x2 : Int) (s : kM) (t : (Int × Int) ⊕ (Int)) (hf : f_M_areWhole_30 x2 s = some t) (hq : (gE (fun x => kW sc 0 kc_M_areWhole 2 4 [some (kr 85), some (kI x.1), some (kI x.2)] [] (hH s) Q) (fun r => Q (some (kI r)) (hH s))) t) : kW sc 0 kc_M_areWhole 2 30 [some (kr 85), none, some (kI x2)] [] (hH s) Q := by
  unfold f_M_areWhole_30 at hf
  refine kw_step rfl rfl rfl rfl ?_
  exact kW_le (L' := [some (kr 85), none, some (kI x2)]) ⟨Or.inr rfl, Or.inl rfl, Or.inr rfl, trivial⟩ (b_M_areWhole_31 x2 0 s _ hf hq)
def f_M_areWhole_27 (x2 : Int) (y0 : Int) (y1 : Int) (s : kM) : Option ((Int × Int) ⊕ (Int)) :=
  if y0 = y1 then (f_M_areWhole_31 x2 1 s) else (f_M_areWhole_30 x2 s)
set_option maxRecDepth 8000 in
theorem b_M_areWhole_27 {sc : List Int} {Q : Option kV → kH → Prop} (x2 : Int) (y0 : Int) (y1 : Int) (s : kM) (t : (Int × Int) ⊕ (Int)) (hf : f_M_areWhole_27 x2 y0 y1 s = some t) (hq : (gE (fun x => kW sc 0 kc_M_areWhole 2 4 [some (kr 85), some (kI x.1), some (kI x.2)] [] (hH s) Q) (fun r => Q (some (kI r)) (hH s))) t) : kW sc 0 kc_M_areWhole 2 27 [some (kr 85), none, some (kI x2)] [kI y1, kI y0] (hH s) Q := by
  unfold f_M_areWhole_27 at hf
  refine kw_icmp_ne rfl rfl (fun c1 => ?_) (fun c1 => ?_)
  · have hf := giff c1 hf
    exact kW_le (L' := [some (kr 85), none, some (kI x2)]) ⟨Or.inr rfl, Or.inl rfl, Or.inr rfl, trivial⟩ (b_M_areWhole_30 x2 s _ hf hq)
  · have hf := gift c1 hf
    refine kw_step rfl rfl rfl rfl ?_
    refine kw_goto rfl rfl ?_
    exact kW_le (L' := [some (kr 85), none, some (kI x2)]) ⟨Or.inr rfl, Or.inl rfl, Or.inr rfl, trivial⟩ (b_M_areWhole_31 x2 1 s _ hf hq)
def f_M_areWhole_18 (x2 : Int) (y0 : Int) (s : kM) : Option ((Int × Int) ⊕ (Int)) :=
  (gI 11 x2).bind fun j1 => if (s 99 j1) = (-1) then (f_M_areWhole_27 x2 y0 1 s) else (f_M_areWhole_27 x2 y0 0 s)
set_option maxRecDepth 8000 in
theorem b_M_areWhole_18 {sc : List Int} {Q : Option kV → kH → Prop} (x2 : Int) (y0 : Int) (s : kM) (t : (Int × Int) ⊕ (Int)) (hf : f_M_areWhole_18 x2 y0 s = some t) (hq : (gE (fun x => kW sc 0 kc_M_areWhole 2 4 [some (kr 85), some (kI x.1), some (kI x.2)] [] (hH s) Q) (fun r => Q (some (kI r)) (hH s))) t) : kW sc 0 kc_M_areWhole 2 18 [some (kr 85), none, some (kI x2)] [kI y0] (hH s) Q := by
  unfold f_M_areWhole_18 at hf
  refine kw_step rfl rfl rfl rfl ?_
  refine kw_get rfl (hH_O (rfl : kotab 85 = some kMo)) rfl ?_
  refine kw_step rfl rfl rfl rfl ?_
  obtain ⟨j1, i2, hf⟩ := gbI hf
  refine kw_iald rfl (hH_A (rfl : ktab 99 = some (0, 11))) i2.1 i2.2.1 i2.2.2 ?_
  refine kw_step rfl rfl rfl rfl ?_
  refine kw_icmp_ne rfl rfl (fun c3 => ?_) (fun c3 => ?_)
  · have hf := giff c3 hf
    refine kw_step rfl rfl rfl rfl ?_
    exact kW_le (L' := [some (kr 85), none, some (kI x2)]) ⟨Or.inr rfl, Or.inl rfl, Or.inr rfl, trivial⟩ (b_M_areWhole_27 x2 y0 0 s _ hf hq)
  · have hf := gift c3 hf
    refine kw_step rfl rfl rfl rfl ?_
    refine kw_goto rfl rfl ?_
    exact kW_le (L' := [some (kr 85), none, some (kI x2)]) ⟨Or.inr rfl, Or.inl rfl, Or.inr rfl, trivial⟩ (b_M_areWhole_27 x2 y0 1 s _ hf hq)
def f_M_areWhole_4b (x1 : Int) (x2 : Int) (s : kM) : Option ((Int × Int) ⊕ (Int)) :=
  if 11 ≤ x2 then ((gB x1).bind fun _ => some (.inr x1)) else (if x1 = 0 then (f_M_areWhole_30 x2 s) else ((gI 11 x2).bind fun j4 => if (s 98 j4) = (-1) then (f_M_areWhole_18 x2 1 s) else (f_M_areWhole_18 x2 0 s)))
set_option maxRecDepth 8000 in
theorem b_M_areWhole_4b {sc : List Int} {Q : Option kV → kH → Prop} (x1 : Int) (x2 : Int) (s : kM) (t : (Int × Int) ⊕ (Int)) (hf : f_M_areWhole_4b x1 x2 s = some t) (hq : (gE (fun x => kW sc 0 kc_M_areWhole 2 4 [some (kr 85), some (kI x.1), some (kI x.2)] [] (hH s) Q) (fun r => Q (some (kI r)) (hH s))) t) : kW sc 0 kc_M_areWhole 2 4 [some (kr 85), some (kI x1), some (kI x2)] [] (hH s) Q := by
  unfold f_M_areWhole_4b at hf
  refine kw_step rfl rfl rfl rfl ?_
  refine kw_step rfl rfl rfl rfl ?_
  refine kw_icmp_ge rfl rfl (fun c1 => ?_) (fun c1 => ?_)
  · have hf := gift c1 hf
    refine kw_step rfl rfl rfl rfl ?_
    obtain ⟨w2, hf⟩ := gbB hf
    cases hf
    exact kw_ret rfl rfl (if_pos w2) hq
  · have hf := giff c1 hf
    refine kw_step rfl rfl rfl rfl ?_
    refine kw_if_eq rfl rfl (fun c3 => ?_) (fun c3 => ?_)
    · have hf := gift c3 hf
      exact kW_le (L' := [some (kr 85), none, some (kI x2)]) ⟨Or.inr rfl, Or.inl rfl, Or.inr rfl, trivial⟩ (b_M_areWhole_30 x2 s _ hf hq)
    · have hf := giff c3 hf
      refine kw_step rfl rfl rfl rfl ?_
      refine kw_get rfl (hH_O (rfl : kotab 85 = some kMo)) rfl ?_
      refine kw_step rfl rfl rfl rfl ?_
      obtain ⟨j4, i5, hf⟩ := gbI hf
      refine kw_iald rfl (hH_A (rfl : ktab 98 = some (0, 11))) i5.1 i5.2.1 i5.2.2 ?_
      refine kw_step rfl rfl rfl rfl ?_
      refine kw_icmp_ne rfl rfl (fun c6 => ?_) (fun c6 => ?_)
      · have hf := giff c6 hf
        refine kw_step rfl rfl rfl rfl ?_
        exact kW_le (L' := [some (kr 85), none, some (kI x2)]) ⟨Or.inr rfl, Or.inl rfl, Or.inr rfl, trivial⟩ (b_M_areWhole_18 x2 0 s _ hf hq)
      · have hf := gift c6 hf
        refine kw_step rfl rfl rfl rfl ?_
        refine kw_goto rfl rfl ?_
        exact kW_le (L' := [some (kr 85), none, some (kI x2)]) ⟨Or.inr rfl, Or.inl rfl, Or.inr rfl, trivial⟩ (b_M_areWhole_18 x2 1 s _ hf hq)
def f_M_areWhole_4 (x1 : Int) (x2 : Int) (s : kM) : Option (Int) :=
  gL (fun (x : Int × Int) => f_M_areWhole_4b x.1 x.2 s) gF (x1, x2)
theorem b_M_areWhole_4 {sc : List Int} {Q : Option kV → kH → Prop} (x1 : Int) (x2 : Int) (s : kM) (t : Int) (hf : f_M_areWhole_4 x1 x2 s = some t) (hq : (fun r => Q (some (kI r)) (hH s)) t) : kW sc 0 kc_M_areWhole 2 4 [some (kr 85), some (kI x1), some (kI x2)] [] (hH s) Q :=
  gL_ind (P := fun (x : Int × Int) => kW sc 0 kc_M_areWhole 2 4 [some (kr 85), some (kI x.1), some (kI x.2)] [] (hH s) Q) (q := (fun r => Q (some (kI r)) (hH s))) (fun x t hf hq => b_M_areWhole_4b x.1 x.2 s t hf hq) gF (x1, x2) t hf hq
def f_M_areWhole (s : kM) : Option (Int) :=
  f_M_areWhole_4 1 0 s
set_option maxRecDepth 8000 in
theorem c_M_areWhole {sc : List Int} (s : kM) (t : Int) (hf : f_M_areWhole s = some t) : kR sc 0 km_M_areWhole [kr 85] (hH s) (some (kI t)) (hH s) := by
  unfold f_M_areWhole at hf
  refine kR.start rfl ?_
  show kW sc 0 kc_M_areWhole 2 0 [some (kr 85), none, none] [] (hH s) _
  have hq : (fun (r : Option kV) (g : kH) => r = some (kI t) ∧ g = hH s) (some (kI t)) (hH s) := ⟨rfl, rfl⟩
  refine kw_step rfl rfl rfl rfl ?_
  refine kw_step (L' := [some (kr 85), some (kI 1), none]) rfl rfl rfl rfl ?_
  refine kw_step rfl rfl rfl rfl ?_
  refine kw_step (L' := [some (kr 85), some (kI 1), some (kI 0)]) rfl rfl rfl rfl ?_
  exact kW_le (L' := [some (kr 85), some (kI 1), some (kI 0)]) ⟨Or.inr rfl, Or.inr rfl, Or.inr rfl, trivial⟩ (b_M_areWhole_4 1 0 s _ hf hq)
def f_M_isBridge (x1 : Int) (s : kM) : Option (Int) :=
  (f_M_in x1 0 10 s).bind fun q1 => if q1 = 0 then (some 0) else ((gI 11 x1).bind fun j3 => if (s 98 j3) = (-1) then (some 0) else (some 1))
set_option maxRecDepth 8000 in
theorem c_M_isBridge {sc : List Int} (x1 : Int) (s : kM) (t : Int) (hf : f_M_isBridge x1 s = some t) : kR sc 1 km_M_isBridge [kr 85, kI x1] (hH s) (some (kI t)) (hH s) := by
  unfold f_M_isBridge at hf
  refine kR.start rfl ?_
  show kW sc 1 kc_M_isBridge 2 0 [some (kr 85), some (kI x1)] [] (hH s) _
  have hq : (fun (r : Option kV) (g : kH) => r = some (kI t) ∧ g = hH s) (some (kI t)) (hH s) := ⟨rfl, rfl⟩
  refine kw_step rfl rfl rfl rfl ?_
  refine kw_step rfl rfl rfl rfl ?_
  refine kw_step rfl rfl rfl rfl ?_
  refine kw_step rfl rfl rfl rfl ?_
  obtain ⟨q1, hq1, hf⟩ := gbind hf
  refine kw_callS (vs := [kJ x1, kJ 0, kJ 10]) rfl rfl rfl ⟨rfl, Nat.le_of_ble_eq_true rfl, Nat.le_of_ble_eq_true rfl, rfl⟩ (c_M_in x1 0 10 s _ hq1) (Nat.le_of_ble_eq_true rfl) ?_
  refine kw_if_eq rfl rfl (fun c2 => ?_) (fun c2 => ?_)
  · have hf := gift c2 hf
    refine kw_step rfl rfl rfl rfl ?_
    cases hf
    exact kw_ret rfl rfl rfl hq
  · have hf := giff c2 hf
    refine kw_step rfl rfl rfl rfl ?_
    refine kw_get rfl (hH_O (rfl : kotab 85 = some kMo)) rfl ?_
    refine kw_step rfl rfl rfl rfl ?_
    obtain ⟨j3, i4, hf⟩ := gbI hf
    refine kw_iald rfl (hH_A (rfl : ktab 98 = some (0, 11))) i4.1 i4.2.1 i4.2.2 ?_
    refine kw_step rfl rfl rfl rfl ?_
    refine kw_icmp_eq rfl rfl (fun c5 => ?_) (fun c5 => ?_)
    · have hf := gift c5 hf
      refine kw_step rfl rfl rfl rfl ?_
      cases hf
      exact kw_ret rfl rfl rfl hq
    · have hf := giff c5 hf
      refine kw_step rfl rfl rfl rfl ?_
      refine kw_goto rfl rfl ?_
      cases hf
      exact kw_ret rfl rfl rfl hq
def f_M_roadOf (x1 : Int) (s : kM) : Option (Int) :=
  if (s 86 1) ≤ x1 then (some 1) else (some 0)
set_option maxRecDepth 8000 in
theorem c_M_roadOf {sc : List Int} (x1 : Int) (s : kM) (t : Int) (hf : f_M_roadOf x1 s = some t) : kR sc 0 km_M_roadOf [kr 85, kI x1] (hH s) (some (kI t)) (hH s) := by
  unfold f_M_roadOf at hf
  refine kR.start rfl ?_
  show kW sc 0 kc_M_roadOf 1 0 [some (kr 85), some (kI x1)] [] (hH s) _
  have hq : (fun (r : Option kV) (g : kH) => r = some (kI t) ∧ g = hH s) (some (kI t)) (hH s) := ⟨rfl, rfl⟩
  refine kw_step rfl rfl rfl rfl ?_
  refine kw_step rfl rfl rfl rfl ?_
  refine kw_get rfl (hH_O (rfl : kotab 85 = some kMo)) rfl ?_
  refine kw_step rfl rfl rfl rfl ?_
  refine kw_iald rfl (hH_A (rfl : ktab 86 = some (0, 6))) (by decide) (by decide) (j := 1) rfl ?_
  refine kw_icmp_ge rfl rfl (fun c1 => ?_) (fun c1 => ?_)
  · have hf := gift c1 hf
    refine kw_step rfl rfl rfl rfl ?_
    cases hf
    exact kw_ret rfl rfl rfl hq
  · have hf := giff c1 hf
    refine kw_step rfl rfl rfl rfl ?_
    refine kw_goto rfl rfl ?_
    cases hf
    exact kw_ret rfl rfl rfl hq
def f_M_beginOf (x1 : Int) (s : kM) : Option (Int) :=
  if x1 = 0 then (some 0) else (some (s 86 1))
set_option maxRecDepth 8000 in
theorem c_M_beginOf {sc : List Int} (x1 : Int) (s : kM) (t : Int) (hf : f_M_beginOf x1 s = some t) : kR sc 0 km_M_beginOf [kr 85, kI x1] (hH s) (some (kI t)) (hH s) := by
  unfold f_M_beginOf at hf
  refine kR.start rfl ?_
  show kW sc 0 kc_M_beginOf 1 0 [some (kr 85), some (kI x1)] [] (hH s) _
  have hq : (fun (r : Option kV) (g : kH) => r = some (kI t) ∧ g = hH s) (some (kI t)) (hH s) := ⟨rfl, rfl⟩
  refine kw_step rfl rfl rfl rfl ?_
  refine kw_if_ne rfl rfl (fun c1 => ?_) (fun c1 => ?_)
  · have hf := giff c1 hf
    refine kw_step rfl rfl rfl rfl ?_
    refine kw_get rfl (hH_O (rfl : kotab 85 = some kMo)) rfl ?_
    refine kw_step rfl rfl rfl rfl ?_
    refine kw_iald rfl (hH_A (rfl : ktab 86 = some (0, 6))) (by decide) (by decide) (j := 1) rfl ?_
    cases hf
    exact kw_ret rfl rfl rfl hq
  · have hf := gift c1 hf
    refine kw_step rfl rfl rfl rfl ?_
    refine kw_goto rfl rfl ?_
    cases hf
    exact kw_ret rfl rfl rfl hq
def f_M_ahead (x1 : Int) (s : kM) : Option (Int) :=
  (f_M_roadOf x1 s).bind fun q1 => (f_M_beginOf q1 s).bind fun q2 => if x1 = q2 then ((gI 6 (wI (1 + q1))).bind fun j4 => some (wI ((wI (x1 + (s 86 j4))) - 1))) else (some (wI (x1 - 1)))
set_option maxRecDepth 8000 in
theorem c_M_ahead {sc : List Int} (x1 : Int) (s : kM) (t : Int) (hf : f_M_ahead x1 s = some t) : kR sc 1 km_M_ahead [kr 85, kI x1] (hH s) (some (kI t)) (hH s) := by
  unfold f_M_ahead at hf
  refine kR.start rfl ?_
  show kW sc 1 kc_M_ahead 1 0 [some (kr 85), some (kI x1), none] [] (hH s) _
  have hq : (fun (r : Option kV) (g : kH) => r = some (kI t) ∧ g = hH s) (some (kI t)) (hH s) := ⟨rfl, rfl⟩
  refine kw_step rfl rfl rfl rfl ?_
  refine kw_step rfl rfl rfl rfl ?_
  obtain ⟨q1, hq1, hf⟩ := gbind hf
  refine kw_callV (vs := [kI x1]) rfl rfl rfl ⟨rfl, Nat.le_of_ble_eq_true rfl, Nat.le_of_ble_eq_true rfl, by decide⟩ (hH_O (rfl : kotab 85 = some kMo)) (c_M_roadOf x1 s _ hq1) (Nat.le_of_ble_eq_true rfl) ?_
  refine kw_step (L' := [some (kr 85), some (kI x1), some (kI q1)]) rfl rfl rfl rfl ?_
  refine kw_step rfl rfl rfl rfl ?_
  refine kw_step rfl rfl rfl rfl ?_
  refine kw_step rfl rfl rfl rfl ?_
  obtain ⟨q2, hq2, hf⟩ := gbind hf
  refine kw_callV (vs := [kI q1]) rfl rfl rfl ⟨rfl, Nat.le_of_ble_eq_true rfl, Nat.le_of_ble_eq_true rfl, by decide⟩ (hH_O (rfl : kotab 85 = some kMo)) (c_M_beginOf q1 s _ hq2) (Nat.le_of_ble_eq_true rfl) ?_
  refine kw_icmp_ne rfl rfl (fun c3 => ?_) (fun c3 => ?_)
  · have hf := giff c3 hf
    refine kw_step rfl rfl rfl rfl ?_
    refine kw_step rfl rfl rfl rfl ?_
    refine kw_step rfl rfl rfl rfl ?_
    cases hf
    exact kw_ret rfl rfl rfl hq
  · have hf := gift c3 hf
    refine kw_step rfl rfl rfl rfl ?_
    refine kw_step rfl rfl rfl rfl ?_
    refine kw_get rfl (hH_O (rfl : kotab 85 = some kMo)) rfl ?_
    refine kw_step rfl rfl rfl rfl ?_
    refine kw_step rfl rfl rfl rfl ?_
    refine kw_step rfl rfl rfl rfl ?_
    obtain ⟨j4, i5, hf⟩ := gbI hf
    refine kw_iald rfl (hH_A (rfl : ktab 86 = some (0, 6))) i5.1 i5.2.1 i5.2.2 ?_
    refine kw_step rfl rfl rfl rfl ?_
    refine kw_step rfl rfl rfl rfl ?_
    refine kw_step rfl rfl rfl rfl ?_
    refine kw_goto rfl rfl ?_
    cases hf
    exact kw_ret rfl rfl rfl hq
def f_M_turns (x1 : Int) (x2 : Int) (x3 : Int) (x4 : Int) (s : kM) : Option (kM) :=
  (gI 44 x1).bind fun j1 => gLet (gU s 100 j1 x2) fun s3 => (gI 44 x2).bind fun j6 => gLet (gU s3 100 j6 x3) fun s8 => (gI 44 x3).bind fun j11 => gLet (gU s8 100 j11 x4) fun s13 => (gI 44 x4).bind fun j16 => gLet (gU s13 100 j16 x1) fun s18 => some s18
set_option maxRecDepth 8000 in
theorem c_M_turns {sc : List Int} (x1 : Int) (x2 : Int) (x3 : Int) (x4 : Int) (s : kM) (t : kM) (hf : f_M_turns x1 x2 x3 x4 s = some t) : kR sc 0 km_M_turns [kr 85, kI x1, kI x2, kI x3, kI x4] (hH s) none (hH t) := by
  unfold f_M_turns at hf
  refine kR.start rfl ?_
  show kW sc 0 kc_M_turns 0 0 [some (kr 85), some (kI x1), some (kI x2), some (kI x3), some (kI x4)] [] (hH s) _
  have hq : (fun (r : Option kV) (g : kH) => r = none ∧ g = hH t) none (hH t) := ⟨rfl, rfl⟩
  refine kw_step rfl rfl rfl rfl ?_
  refine kw_get rfl (hH_O (rfl : kotab 85 = some kMo)) rfl ?_
  refine kw_step rfl rfl rfl rfl ?_
  refine kw_step rfl rfl rfl rfl ?_
  obtain ⟨j1, i2, hf⟩ := gbI hf
  obtain ⟨s3, ee4, hf⟩ := gbL hf
  refine kw_iastH rfl (rfl : ktab 100 = some (0, 44)) i2.1 i2.2.1 i2.2.2 ee4 ?_
  refine kw_step rfl rfl rfl rfl ?_
  refine kw_get rfl (hH_O (rfl : kotab 85 = some kMo)) rfl ?_
  refine kw_step rfl rfl rfl rfl ?_
  refine kw_step rfl rfl rfl rfl ?_
  obtain ⟨j6, i7, hf⟩ := gbI hf
  obtain ⟨s8, ee9, hf⟩ := gbL hf
  refine kw_iastH rfl (rfl : ktab 100 = some (0, 44)) i7.1 i7.2.1 i7.2.2 ee9 ?_
  refine kw_step rfl rfl rfl rfl ?_
  refine kw_get rfl (hH_O (rfl : kotab 85 = some kMo)) rfl ?_
  refine kw_step rfl rfl rfl rfl ?_
  refine kw_step rfl rfl rfl rfl ?_
  obtain ⟨j11, i12, hf⟩ := gbI hf
  obtain ⟨s13, ee14, hf⟩ := gbL hf
  refine kw_iastH rfl (rfl : ktab 100 = some (0, 44)) i12.1 i12.2.1 i12.2.2 ee14 ?_
  refine kw_step rfl rfl rfl rfl ?_
  refine kw_get rfl (hH_O (rfl : kotab 85 = some kMo)) rfl ?_
  refine kw_step rfl rfl rfl rfl ?_
  refine kw_step rfl rfl rfl rfl ?_
  obtain ⟨j16, i17, hf⟩ := gbI hf
  obtain ⟨s18, ee19, hf⟩ := gbL hf
  refine kw_iastH rfl (rfl : ktab 100 = some (0, 44)) i17.1 i17.2.1 i17.2.2 ee19 ?_
  cases hf
  exact kw_ret rfl rfl rfl hq
