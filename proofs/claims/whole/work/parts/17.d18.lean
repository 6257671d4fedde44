/-! PRINTED by wip/whole/decall.py: methods as functions over the flat world, with their contracts -/
def f_M_compared_73 (y1 : Int) (s : kM) : Option (kM) :=
  (f_M_entry y1 0 s).bind fun q1 => some q1
set_option maxRecDepth 8000 in
theorem b_M_compared_73 {sc : List Int} {Q : Option kV → kH → Prop} (y1 : Int) (s : kM) (t : kM) (hf : f_M_compared_73 y1 s = some t) (hq : (fun r => Q none (hH r)) t) : kW sc 6 kc_M_compared 0 73 [none, none, none] [kI y1, kr 85] (hH s) Q := by
  unfold f_M_compared_73 at hf
  refine kw_step rfl rfl rfl rfl ?_
  obtain ⟨q1, hq1, hf⟩ := gbind hf
  refine kw_callV (vs := [kI y1, kI 0]) rfl rfl rfl ⟨rfl, Nat.le_of_ble_eq_true rfl, Nat.le_of_ble_eq_true rfl, by decide⟩ (hH_O (rfl : kotab 85 = some kMo)) (c_M_entry y1 0 s _ hq1) (Nat.le_of_ble_eq_true rfl) ?_
  cases hf
  exact kw_ret rfl rfl rfl hq
def f_M_compared_49 (x1 : Int) (x2 : Int) (y1 : Int) (y2 : Int) (s : kM) : Option (kM) :=
  gLet (gU s 85 22 (wI (y1 + y2))) fun s1 => (f_M_sum s1).bind fun q4 => if x1 = 61 then (f_M_compared_73 6 q4) else (if x1 = 60 then (if x2 = 0 then (f_M_compared_73 4 q4) else (f_M_compared_73 5 q4)) else (if x2 = 0 then (f_M_compared_73 8 q4) else (f_M_compared_73 7 q4)))
set_option maxRecDepth 8000 in
theorem b_M_compared_49 {sc : List Int} {Q : Option kV → kH → Prop} (x1 : Int) (x2 : Int) (y1 : Int) (y2 : Int) (s : kM) (t : kM) (hf : f_M_compared_49 x1 x2 y1 y2 s = some t) (hq : (fun r => Q none (hH r)) t) : kW sc 6 kc_M_compared 0 49 [some (kr 85), some (kI x1), some (kI x2)] [kI y2, kI y1, kr 85] (hH s) Q := by
  unfold f_M_compared_49 at hf
  refine kw_step rfl rfl rfl rfl ?_
  obtain ⟨s1, ee2, hf⟩ := gbL hf
  refine kw_putH rfl (rfl : kotab 85 = some kMo) rfl rfl rfl (Nat.le_of_ble_eq_true rfl) rfl ee2 ?_
  refine kw_step rfl rfl rfl rfl ?_
  obtain ⟨q4, hq4, hf⟩ := gbind hf
  refine kw_callV (vs := []) rfl rfl rfl ⟨rfl, Nat.le_of_ble_eq_true rfl, Nat.le_of_ble_eq_true rfl, by decide⟩ (hH_O (rfl : kotab 85 = some kMo)) (c_M_sum s1 _ hq4) (Nat.le_of_ble_eq_true rfl) ?_
  refine kw_step rfl rfl rfl rfl ?_
  refine kw_step rfl rfl rfl rfl ?_
  refine kw_step rfl rfl rfl rfl ?_
  refine kw_icmp_ne rfl rfl (fun c6 => ?_) (fun c6 => ?_)
  · have hf := giff c6 hf
    refine kw_step rfl rfl rfl rfl ?_
    refine kw_step rfl rfl rfl rfl ?_
    refine kw_icmp_ne rfl rfl (fun c7 => ?_) (fun c7 => ?_)
    · have hf := giff c7 hf
      refine kw_step rfl rfl rfl rfl ?_
      refine kw_if_eq rfl rfl (fun c8 => ?_) (fun c8 => ?_)
      · have hf := gift c8 hf
        refine kw_step rfl rfl rfl rfl ?_
        exact kW_le (L' := [none, none, none]) ⟨Or.inl rfl, Or.inl rfl, Or.inl rfl, trivial⟩ (b_M_compared_73 8 q4 _ hf hq)
      · have hf := giff c8 hf
        refine kw_step rfl rfl rfl rfl ?_
        refine kw_goto rfl rfl ?_
        exact kW_le (L' := [none, none, none]) ⟨Or.inl rfl, Or.inl rfl, Or.inl rfl, trivial⟩ (b_M_compared_73 7 q4 _ hf hq)
    · have hf := gift c7 hf
      refine kw_step rfl rfl rfl rfl ?_
      refine kw_if_eq rfl rfl (fun c9 => ?_) (fun c9 => ?_)
      · have hf := gift c9 hf
        refine kw_step rfl rfl rfl rfl ?_
        refine kw_goto rfl rfl ?_
        exact kW_le (L' := [none, none, none]) ⟨Or.inl rfl, Or.inl rfl, Or.inl rfl, trivial⟩ (b_M_compared_73 4 q4 _ hf hq)
      · have hf := giff c9 hf
        refine kw_step rfl rfl rfl rfl ?_
        refine kw_goto rfl rfl ?_
        exact kW_le (L' := [none, none, none]) ⟨Or.inl rfl, Or.inl rfl, Or.inl rfl, trivial⟩ (b_M_compared_73 5 q4 _ hf hq)
  · have hf := gift c6 hf
    refine kw_step rfl rfl rfl rfl ?_
    refine kw_goto rfl rfl ?_
    exact kW_le (L' := [none, none, none]) ⟨Or.inl rfl, Or.inl rfl, Or.inl rfl, trivial⟩ (b_M_compared_73 6 q4 _ hf hq)
def f_M_compared_40 (x1 : Int) (y0 : Int) (s : kM) : Option (kM) :=
  if y0 = 0 then (f_M_compared_49 x1 y0 (s 85 22) 0 s) else (f_M_compared_49 x1 y0 (s 85 22) 1 s)
set_option maxRecDepth 8000 in
theorem b_M_compared_40 {sc : List Int} {Q : Option kV → kH → Prop} (x1 : Int) (y0 : Int) (s : kM) (t : kM) (hf : f_M_compared_40 x1 y0 s = some t) (hq : (fun r => Q none (hH r)) t) : kW sc 6 kc_M_compared 0 40 [some (kr 85), some (kI x1), none] [kI y0] (hH s) Q := by
  unfold f_M_compared_40 at hf
  refine kw_step (L' := [some (kr 85), some (kI x1), some (kI y0)]) rfl rfl rfl rfl ?_
  refine kw_step rfl rfl rfl rfl ?_
  refine kw_step rfl rfl rfl rfl ?_
  refine kw_get rfl (hH_O (rfl : kotab 85 = some kMo)) rfl ?_
  refine kw_step rfl rfl rfl rfl ?_
  refine kw_if_eq rfl rfl (fun c1 => ?_) (fun c1 => ?_)
  · have hf := gift c1 hf
    refine kw_step rfl rfl rfl rfl ?_
    exact kW_le (L' := [some (kr 85), some (kI x1), some (kI y0)]) ⟨Or.inr rfl, Or.inr rfl, Or.inr rfl, trivial⟩ (b_M_compared_49 x1 y0 (s 85 22) 0 s _ hf hq)
  · have hf := giff c1 hf
    refine kw_step rfl rfl rfl rfl ?_
    refine kw_goto rfl rfl ?_
    exact kW_le (L' := [some (kr 85), some (kI x1), some (kI y0)]) ⟨Or.inr rfl, Or.inr rfl, Or.inr rfl, trivial⟩ (b_M_compared_49 x1 y0 (s 85 22) 1 s _ hf hq)
def f_M_compared_39 (x1 : Int) (s : kM) : Option (kM) :=
  f_M_compared_40 x1 0 s
set_option maxRecDepth 8000 in
theorem b_M_compared_39 {sc : List Int} {Q : Option kV → kH → Prop} (x1 : Int) (s : kM) (t : kM) (hf : f_M_compared_39 x1 s = some t) (hq : (fun r => Q none (hH r)) t) : kW sc 6 kc_M_compared 0 39 [some (kr 85), some (kI x1), none] [] (hH s) Q := by
  unfold f_M_compared_39 at hf
  refine kw_step rfl rfl rfl rfl ?_
  exact kW_le (L' := [some (kr 85), some (kI x1), none]) ⟨Or.inr rfl, Or.inr rfl, Or.inl rfl, trivial⟩ (b_M_compared_40 x1 0 s _ hf hq)
def f_M_compared_20 (x1 : Int) (s : kM) : Option (kM) :=
  (f_M_isCounted (s 85 22) s).bind fun q1 => gLet (gU q1 85 22 (wI ((q1 85 22) + 1))) fun s3 => if x1 = 61 then (f_M_compared_39 x1 s3) else ((f_M_sign s3).bind fun q7 => if q7 = 61 then (f_M_compared_40 x1 1 s3) else (f_M_compared_39 x1 s3))
set_option maxRecDepth 8000 in
theorem b_M_compared_20 {sc : List Int} {Q : Option kV → kH → Prop} (x1 : Int) (s : kM) (t : kM) (hf : f_M_compared_20 x1 s = some t) (hq : (fun r => Q none (hH r)) t) : kW sc 6 kc_M_compared 0 20 [some (kr 85), some (kI x1), none] [] (hH s) Q := by
  unfold f_M_compared_20 at hf
  refine kw_step rfl rfl rfl rfl ?_
  refine kw_step rfl rfl rfl rfl ?_
  refine kw_get rfl (hH_O (rfl : kotab 85 = some kMo)) rfl ?_
  obtain ⟨q1, hq1, hf⟩ := gbind hf
  refine kw_callV (vs := [kI (s 85 22)]) rfl rfl rfl ⟨rfl, Nat.le_of_ble_eq_true rfl, Nat.le_of_ble_eq_true rfl, by decide⟩ (hH_O (rfl : kotab 85 = some kMo)) (c_M_isCounted (s 85 22) s _ hq1) (Nat.le_of_ble_eq_true rfl) ?_
  refine kw_step rfl rfl rfl rfl ?_
  refine kw_step rfl rfl rfl rfl ?_
  refine kw_get rfl (hH_O (rfl : kotab 85 = some kMo)) rfl ?_
  refine kw_step rfl rfl rfl rfl ?_
  refine kw_step rfl rfl rfl rfl ?_
  obtain ⟨s3, ee4, hf⟩ := gbL hf
  refine kw_putH rfl (rfl : kotab 85 = some kMo) rfl rfl rfl (Nat.le_of_ble_eq_true rfl) rfl ee4 ?_
  refine kw_step rfl rfl rfl rfl ?_
  refine kw_step rfl rfl rfl rfl ?_
  refine kw_icmp_eq rfl rfl (fun c6 => ?_) (fun c6 => ?_)
  · have hf := gift c6 hf
    exact kW_le (L' := [some (kr 85), some (kI x1), none]) ⟨Or.inr rfl, Or.inr rfl, Or.inl rfl, trivial⟩ (b_M_compared_39 x1 s3 _ hf hq)
  · have hf := giff c6 hf
    refine kw_step rfl rfl rfl rfl ?_
    obtain ⟨q7, hq7, hf⟩ := gbind hf
    refine kw_callV (vs := []) rfl rfl rfl ⟨rfl, Nat.le_of_ble_eq_true rfl, Nat.le_of_ble_eq_true rfl, by decide⟩ (hH_O (rfl : kotab 85 = some kMo)) (c_M_sign s3 _ hq7) (Nat.le_of_ble_eq_true rfl) ?_
    refine kw_step rfl rfl rfl rfl ?_
    refine kw_icmp_ne rfl rfl (fun c8 => ?_) (fun c8 => ?_)
    · have hf := giff c8 hf
      exact kW_le (L' := [some (kr 85), some (kI x1), none]) ⟨Or.inr rfl, Or.inr rfl, Or.inl rfl, trivial⟩ (b_M_compared_39 x1 s3 _ hf hq)
    · have hf := gift c8 hf
      refine kw_step rfl rfl rfl rfl ?_
      refine kw_goto rfl rfl ?_
      exact kW_le (L' := [some (kr 85), some (kI x1), none]) ⟨Or.inr rfl, Or.inr rfl, Or.inl rfl, trivial⟩ (b_M_compared_40 x1 1 s3 _ hf hq)
def f_M_compared (s : kM) : Option (kM) :=
  (f_M_sum s).bind fun q1 => (f_M_sign q1).bind fun q3 => if q3 = 60 then (f_M_compared_20 q3 q1) else (if q3 = 61 then (f_M_compared_20 q3 q1) else (if q3 = 62 then (f_M_compared_20 q3 q1) else ((f_M_fails 0 (q1 85 22) q1).bind fun q7 => some q7)))
set_option maxRecDepth 8000 in
theorem c_M_compared {sc : List Int} (s : kM) (t : kM) (hf : f_M_compared s = some t) : kR sc 6 km_M_compared [kr 85] (hH s) none (hH t) := by
  unfold f_M_compared at hf
  refine kR.start rfl ?_
  show kW sc 6 kc_M_compared 0 0 [some (kr 85), none, none] [] (hH s) _
  have hq : (fun (r : Option kV) (g : kH) => r = none ∧ g = hH t) none (hH t) := ⟨rfl, rfl⟩
  refine kw_step rfl rfl rfl rfl ?_
  obtain ⟨q1, hq1, hf⟩ := gbind hf
  refine kw_callV (vs := []) rfl rfl rfl ⟨rfl, Nat.le_of_ble_eq_true rfl, Nat.le_of_ble_eq_true rfl, by decide⟩ (hH_O (rfl : kotab 85 = some kMo)) (c_M_sum s _ hq1) (Nat.le_of_ble_eq_true rfl) ?_
  refine kw_step rfl rfl rfl rfl ?_
  obtain ⟨q3, hq3, hf⟩ := gbind hf
  refine kw_callV (vs := []) rfl rfl rfl ⟨rfl, Nat.le_of_ble_eq_true rfl, Nat.le_of_ble_eq_true rfl, by decide⟩ (hH_O (rfl : kotab 85 = some kMo)) (c_M_sign q1 _ hq3) (Nat.le_of_ble_eq_true rfl) ?_
  refine kw_step (L' := [some (kr 85), some (kI q3), none]) rfl rfl rfl rfl ?_
  refine kw_step rfl rfl rfl rfl ?_
  refine kw_step rfl rfl rfl rfl ?_
  refine kw_icmp_eq rfl rfl (fun c4 => ?_) (fun c4 => ?_)
  · have hf := gift c4 hf
    exact kW_le (L' := [some (kr 85), some (kI q3), none]) ⟨Or.inr rfl, Or.inr rfl, Or.inl rfl, trivial⟩ (b_M_compared_20 q3 q1 _ hf hq)
  · have hf := giff c4 hf
    refine kw_step rfl rfl rfl rfl ?_
    refine kw_step rfl rfl rfl rfl ?_
    refine kw_icmp_eq rfl rfl (fun c5 => ?_) (fun c5 => ?_)
    · have hf := gift c5 hf
      exact kW_le (L' := [some (kr 85), some (kI q3), none]) ⟨Or.inr rfl, Or.inr rfl, Or.inl rfl, trivial⟩ (b_M_compared_20 q3 q1 _ hf hq)
    · have hf := giff c5 hf
      refine kw_step rfl rfl rfl rfl ?_
      refine kw_step rfl rfl rfl rfl ?_
      refine kw_icmp_eq rfl rfl (fun c6 => ?_) (fun c6 => ?_)
      · have hf := gift c6 hf
        exact kW_le (L' := [some (kr 85), some (kI q3), none]) ⟨Or.inr rfl, Or.inr rfl, Or.inl rfl, trivial⟩ (b_M_compared_20 q3 q1 _ hf hq)
      · have hf := giff c6 hf
        refine kw_step rfl rfl rfl rfl ?_
        refine kw_step rfl rfl rfl rfl ?_
        refine kw_step rfl rfl rfl rfl ?_
        refine kw_get rfl (hH_O (rfl : kotab 85 = some kMo)) rfl ?_
        obtain ⟨q7, hq7, hf⟩ := gbind hf
        refine kw_callV (vs := [kI 0, kI (q1 85 22)]) rfl rfl rfl ⟨rfl, Nat.le_of_ble_eq_true rfl, Nat.le_of_ble_eq_true rfl, by decide⟩ (hH_O (rfl : kotab 85 = some kMo)) (c_M_fails 0 (q1 85 22) q1 _ hq7) (Nat.le_of_ble_eq_true rfl) ?_
        cases hf
        exact kw_ret rfl rfl rfl hq
def f_M_fact (s : kM) : Option (Int × kM) :=
  (f_M_blanks s).bind fun q1 => (f_M_stood 19 q1).bind fun q3 => if q3 = 0 then ((f_M_sign q1).bind fun q5 => if q5 = 91 then ((f_M_opens 12 q1).bind fun q9 => gLet (gU q9 85 22 (wI ((q9 85 22) + 1))) fun s11 => some (0, s11)) else ((f_M_compared q1).bind fun q7 => some (1, q7))) else ((f_M_opens 9 q1).bind fun q14 => gLet (gU q14 85 22 (wI ((q14 85 22) + 3))) fun s16 => some (0, s16))
set_option maxRecDepth 8000 in
theorem c_M_fact {sc : List Int} (s : kM) (t : Int × kM) (hf : f_M_fact s = some t) : kR sc 7 km_M_fact [kr 85] (hH s) (some (kI t.1)) (hH t.2) := by
  unfold f_M_fact at hf
  refine kR.start rfl ?_
  show kW sc 7 kc_M_fact 2 0 [some (kr 85)] [] (hH s) _
  have hq : (fun (r : Option kV) (g : kH) => r = some (kI t.1) ∧ g = hH t.2) (some (kI t.1)) (hH t.2) := ⟨rfl, rfl⟩
  refine kw_step rfl rfl rfl rfl ?_
  obtain ⟨q1, hq1, hf⟩ := gbind hf
  refine kw_callV (vs := []) rfl rfl rfl ⟨rfl, Nat.le_of_ble_eq_true rfl, Nat.le_of_ble_eq_true rfl, by decide⟩ (hH_O (rfl : kotab 85 = some kMo)) (c_M_blanks s _ hq1) (Nat.le_of_ble_eq_true rfl) ?_
  refine kw_step rfl rfl rfl rfl ?_
  refine kw_step rfl rfl rfl rfl ?_
  obtain ⟨q3, hq3, hf⟩ := gbind hf
  refine kw_callV (vs := [kS 19]) rfl rfl rfl ⟨rfl, Nat.le_of_ble_eq_true rfl, Nat.le_of_ble_eq_true rfl, by decide⟩ (hH_O (rfl : kotab 85 = some kMo)) (c_M_stood 19 q1 _ hq3) (Nat.le_of_ble_eq_true rfl) ?_
  refine kw_if_eq rfl rfl (fun c4 => ?_) (fun c4 => ?_)
  · have hf := gift c4 hf
    refine kw_step rfl rfl rfl rfl ?_
    obtain ⟨q5, hq5, hf⟩ := gbind hf
    refine kw_callV (vs := []) rfl rfl rfl ⟨rfl, Nat.le_of_ble_eq_true rfl, Nat.le_of_ble_eq_true rfl, by decide⟩ (hH_O (rfl : kotab 85 = some kMo)) (c_M_sign q1 _ hq5) (Nat.le_of_ble_eq_true rfl) ?_
    refine kw_step rfl rfl rfl rfl ?_
    refine kw_icmp_ne rfl rfl (fun c6 => ?_) (fun c6 => ?_)
    · have hf := giff c6 hf
      refine kw_step rfl rfl rfl rfl ?_
      obtain ⟨q7, hq7, hf⟩ := gbind hf
      refine kw_callV (vs := []) rfl rfl rfl ⟨rfl, Nat.le_of_ble_eq_true rfl, Nat.le_of_ble_eq_true rfl, by decide⟩ (hH_O (rfl : kotab 85 = some kMo)) (c_M_compared q1 _ hq7) (Nat.le_of_ble_eq_true rfl) ?_
      refine kw_step rfl rfl rfl rfl ?_
      cases hf
      exact kw_ret rfl rfl rfl hq
    · have hf := gift c6 hf
      refine kw_step rfl rfl rfl rfl ?_
      refine kw_step rfl rfl rfl rfl ?_
      obtain ⟨q9, hq9, hf⟩ := gbind hf
      refine kw_callV (vs := [kI 12]) rfl rfl rfl ⟨rfl, Nat.le_of_ble_eq_true rfl, Nat.le_of_ble_eq_true rfl, by decide⟩ (hH_O (rfl : kotab 85 = some kMo)) (c_M_opens 12 q1 _ hq9) (Nat.le_of_ble_eq_true rfl) ?_
      refine kw_step rfl rfl rfl rfl ?_
      refine kw_step rfl rfl rfl rfl ?_
      refine kw_get rfl (hH_O (rfl : kotab 85 = some kMo)) rfl ?_
      refine kw_step rfl rfl rfl rfl ?_
      refine kw_step rfl rfl rfl rfl ?_
      obtain ⟨s11, ee12, hf⟩ := gbL hf
      refine kw_putH rfl (rfl : kotab 85 = some kMo) rfl rfl rfl (Nat.le_of_ble_eq_true rfl) rfl ee12 ?_
      refine kw_step rfl rfl rfl rfl ?_
      cases hf
      exact kw_ret rfl rfl rfl hq
  · have hf := giff c4 hf
    refine kw_step rfl rfl rfl rfl ?_
    refine kw_step rfl rfl rfl rfl ?_
    obtain ⟨q14, hq14, hf⟩ := gbind hf
    refine kw_callV (vs := [kI 9]) rfl rfl rfl ⟨rfl, Nat.le_of_ble_eq_true rfl, Nat.le_of_ble_eq_true rfl, by decide⟩ (hH_O (rfl : kotab 85 = some kMo)) (c_M_opens 9 q1 _ hq14) (Nat.le_of_ble_eq_true rfl) ?_
    refine kw_step rfl rfl rfl rfl ?_
    refine kw_step rfl rfl rfl rfl ?_
    refine kw_get rfl (hH_O (rfl : kotab 85 = some kMo)) rfl ?_
    refine kw_step rfl rfl rfl rfl ?_
    refine kw_step rfl rfl rfl rfl ?_
    obtain ⟨s16, ee17, hf⟩ := gbL hf
    refine kw_putH rfl (rfl : kotab 85 = some kMo) rfl rfl rfl (Nat.le_of_ble_eq_true rfl) rfl ee17 ?_
    refine kw_step rfl rfl rfl rfl ?_
    cases hf
    exact kw_ret rfl rfl rfl hq
def f_M_top (s : kM) : Option (Int) :=
  if (s 85 29) = 0 then (some (-1)) else ((gI 402 (wI ((s 85 29) - 1))).bind fun j2 => some (s 111 j2))
set_option maxRecDepth 8000 in
theorem c_M_top {sc : List Int} (s : kM) (t : Int) (hf : f_M_top s = some t) : kR sc 0 km_M_top [kr 85] (hH s) (some (kI t)) (hH s) := by
  unfold f_M_top at hf
  refine kR.start rfl ?_
  show kW sc 0 kc_M_top 1 0 [some (kr 85)] [] (hH s) _
  have hq : (fun (r : Option kV) (g : kH) => r = some (kI t) ∧ g = hH s) (some (kI t)) (hH s) := ⟨rfl, rfl⟩
  refine kw_step rfl rfl rfl rfl ?_
  refine kw_get rfl (hH_O (rfl : kotab 85 = some kMo)) rfl ?_
  refine kw_if_ne rfl rfl (fun c1 => ?_) (fun c1 => ?_)
  · have hf := giff c1 hf
    refine kw_step rfl rfl rfl rfl ?_
    refine kw_get rfl (hH_O (rfl : kotab 85 = some kMo)) rfl ?_
    refine kw_step rfl rfl rfl rfl ?_
    refine kw_get rfl (hH_O (rfl : kotab 85 = some kMo)) rfl ?_
    refine kw_step rfl rfl rfl rfl ?_
    refine kw_step rfl rfl rfl rfl ?_
    obtain ⟨j2, i3, hf⟩ := gbI hf
    refine kw_iald rfl (hH_A (rfl : ktab 111 = some (0, 402))) i3.1 i3.2.1 i3.2.2 ?_
    cases hf
    exact kw_ret rfl rfl rfl hq
  · have hf := gift c1 hf
    refine kw_step rfl rfl rfl rfl ?_
    refine kw_goto rfl rfl ?_
    cases hf
    exact kw_ret rfl rfl rfl hq
def f_M_answers_26 (x1 : Int) (y1 : Int) (y2 : Int) (s : kM) : Option ((kM) ⊕ (kM)) :=
  gLet (gU s 85 27 (wI (y1 - y2))) fun s1 => some (.inl (s1))
set_option maxRecDepth 8000 in
theorem b_M_answers_26 {sc : List Int} {Q : Option kV → kH → Prop} (x1 : Int) (y1 : Int) (y2 : Int) (s : kM) (t : (kM) ⊕ (kM)) (hf : f_M_answers_26 x1 y1 y2 s = some t) (hq : (gE (fun x => kW sc 1 kc_M_answers 0 0 [some (kr 85), some (kI x1)] [] (hH x) Q) (fun r => Q none (hH r))) t) : kW sc 1 kc_M_answers 0 26 [some (kr 85), some (kI x1)] [kI y2, kI y1, kr 85] (hH s) Q := by
  unfold f_M_answers_26 at hf
  refine kw_step rfl rfl rfl rfl ?_
  obtain ⟨s1, ee2, hf⟩ := gbL hf
  refine kw_putH rfl (rfl : kotab 85 = some kMo) rfl rfl rfl (Nat.le_of_ble_eq_true rfl) rfl ee2 ?_
  refine kw_goto rfl rfl ?_
  cases hf
  exact kW_le (L' := [some (kr 85), some (kI x1)]) ⟨Or.inr rfl, Or.inr rfl, trivial⟩ hq
def f_M_answers_0b (x1 : Int) (s : kM) : Option ((kM) ⊕ (kM)) :=
  (f_M_top s).bind fun q1 => if q1 = x1 then (if (s 85 23) = 0 then ((f_M_entry x1 0 s).bind fun q4 => gLet (gU q4 85 29 (wI ((q4 85 29) - 1))) fun s6 => if x1 = 9 then (f_M_answers_26 x1 (s6 85 27) 1 s6) else (f_M_answers_26 x1 (s6 85 27) 0 s6)) else (some (.inr s))) else (some (.inr s))
set_option maxRecDepth 8000 in
theorem b_M_answers_0b {sc : List Int} {Q : Option kV → kH → Prop} (x1 : Int) (s : kM) (t : (kM) ⊕ (kM)) (hf : f_M_answers_0b x1 s = some t) (hq : (gE (fun x => kW sc 1 kc_M_answers 0 0 [some (kr 85), some (kI x1)] [] (hH x) Q) (fun r => Q none (hH r))) t) : kW sc 1 kc_M_answers 0 0 [some (kr 85), some (kI x1)] [] (hH s) Q := by
  unfold f_M_answers_0b at hf
  refine kw_step rfl rfl rfl rfl ?_
  obtain ⟨q1, hq1, hf⟩ := gbind hf
  refine kw_callV (vs := []) rfl rfl rfl ⟨rfl, Nat.le_of_ble_eq_true rfl, Nat.le_of_ble_eq_true rfl, by decide⟩ (hH_O (rfl : kotab 85 = some kMo)) (c_M_top s _ hq1) (Nat.le_of_ble_eq_true rfl) ?_
  refine kw_step rfl rfl rfl rfl ?_
  refine kw_icmp_ne rfl rfl (fun c2 => ?_) (fun c2 => ?_)
  · have hf := giff c2 hf
    cases hf
    exact kw_ret rfl rfl rfl hq
  · have hf := gift c2 hf
    refine kw_step rfl rfl rfl rfl ?_
    refine kw_get rfl (hH_O (rfl : kotab 85 = some kMo)) rfl ?_
    refine kw_if_ne rfl rfl (fun c3 => ?_) (fun c3 => ?_)
    · have hf := giff c3 hf
      cases hf
      exact kw_ret rfl rfl rfl hq
    · have hf := gift c3 hf
      refine kw_step rfl rfl rfl rfl ?_
      refine kw_step rfl rfl rfl rfl ?_
      refine kw_step rfl rfl rfl rfl ?_
      obtain ⟨q4, hq4, hf⟩ := gbind hf
      refine kw_callV (vs := [kI x1, kI 0]) rfl rfl rfl ⟨rfl, Nat.le_of_ble_eq_true rfl, Nat.le_of_ble_eq_true rfl, by decide⟩ (hH_O (rfl : kotab 85 = some kMo)) (c_M_entry x1 0 s _ hq4) (Nat.le_of_ble_eq_true rfl) ?_
      refine kw_step rfl rfl rfl rfl ?_
      refine kw_step rfl rfl rfl rfl ?_
      refine kw_get rfl (hH_O (rfl : kotab 85 = some kMo)) rfl ?_
      refine kw_step rfl rfl rfl rfl ?_
      refine kw_step rfl rfl rfl rfl ?_
      obtain ⟨s6, ee7, hf⟩ := gbL hf
      refine kw_putH rfl (rfl : kotab 85 = some kMo) rfl rfl rfl (Nat.le_of_ble_eq_true rfl) rfl ee7 ?_
      refine kw_step rfl rfl rfl rfl ?_
      refine kw_step rfl rfl rfl rfl ?_
      refine kw_get rfl (hH_O (rfl : kotab 85 = some kMo)) rfl ?_
      refine kw_step rfl rfl rfl rfl ?_
      refine kw_step rfl rfl rfl rfl ?_
      refine kw_icmp_ne rfl rfl (fun c9 => ?_) (fun c9 => ?_)
      · have hf := giff c9 hf
        refine kw_step rfl rfl rfl rfl ?_
        exact kW_le (L' := [some (kr 85), some (kI x1)]) ⟨Or.inr rfl, Or.inr rfl, trivial⟩ (b_M_answers_26 x1 (s6 85 27) 0 s6 _ hf hq)
      · have hf := gift c9 hf
        refine kw_step rfl rfl rfl rfl ?_
        refine kw_goto rfl rfl ?_
        exact kW_le (L' := [some (kr 85), some (kI x1)]) ⟨Or.inr rfl, Or.inr rfl, trivial⟩ (b_M_answers_26 x1 (s6 85 27) 1 s6 _ hf hq)
def f_M_answers_0 (x1 : Int) (s : kM) : Option (kM) :=
  gL (fun (x : kM) => f_M_answers_0b x1 x) gF (s)
theorem b_M_answers_0 {sc : List Int} {Q : Option kV → kH → Prop} (x1 : Int) (s : kM) (t : kM) (hf : f_M_answers_0 x1 s = some t) (hq : (fun r => Q none (hH r)) t) : kW sc 1 kc_M_answers 0 0 [some (kr 85), some (kI x1)] [] (hH s) Q :=
  gL_ind (P := fun (x : kM) => kW sc 1 kc_M_answers 0 0 [some (kr 85), some (kI x1)] [] (hH x) Q) (q := (fun r => Q none (hH r))) (fun x t hf hq => b_M_answers_0b x1 x t hf hq) gF (s) t hf hq
def f_M_answers (x1 : Int) (s : kM) : Option (kM) :=
  f_M_answers_0 x1 s
theorem c_M_answers {sc : List Int} (x1 : Int) (s : kM) (t : kM) (hf : f_M_answers x1 s = some t) : kR sc 1 km_M_answers [kr 85, kI x1] (hH s) none (hH t) := by
  unfold f_M_answers at hf
  refine kR.start rfl ?_
  show kW sc 1 kc_M_answers 0 0 [some (kr 85), some (kI x1)] [] (hH s) _
  have hq : (fun (r : Option kV) (g : kH) => r = none ∧ g = hH t) none (hH t) := ⟨rfl, rfl⟩
  exact kW_le (L' := [some (kr 85), some (kI x1)]) ⟨Or.inr rfl, Or.inr rfl, trivial⟩ (b_M_answers_0 x1 s t hf hq)
def f_M_test_104 (x1 : Int) (x2 : Int) (s : kM) : Option ((Int × Int × kM) ⊕ (kM)) :=
  some (.inl (x1, x2, s))
set_option maxRecDepth 8000 in
theorem b_M_test_104 {sc : List Int} {Q : Option kV → kH → Prop} (x1 : Int) (x2 : Int) (s : kM) (t : (Int × Int × kM) ⊕ (kM)) (hf : f_M_test_104 x1 x2 s = some t) (hq : (gE (fun x => kW sc 8 kc_M_test 0 7 [some (kr 85), some (kI x.1), some (kI x.2.1), none, none] [] (hH x.2.2) Q) (fun r => Q none (hH r))) t) : kW sc 8 kc_M_test 0 104 [some (kr 85), some (kI x1), some (kI x2), none, none] [] (hH s) Q := by
  unfold f_M_test_104 at hf
  refine kw_goto rfl rfl ?_
  cases hf
  exact kW_le (L' := [some (kr 85), some (kI x1), some (kI x2), none, none]) ⟨Or.inr rfl, Or.inr rfl, Or.inr rfl, Or.inl rfl, Or.inl rfl, trivial⟩ hq
def f_M_test_62 (x2 : Int) (y1 : Int) (y2 : Int) (s : kM) : Option ((Int × Int × kM) ⊕ (kM)) :=
  gLet (gU s 85 22 (wI (y1 + y2))) fun s1 => f_M_test_104 1 x2 s1
set_option maxRecDepth 8000 in
theorem b_M_test_62 {sc : List Int} {Q : Option kV → kH → Prop} (x2 : Int) (y1 : Int) (y2 : Int) (s : kM) (t : (Int × Int × kM) ⊕ (kM)) (hf : f_M_test_62 x2 y1 y2 s = some t) (hq : (gE (fun x => kW sc 8 kc_M_test 0 7 [some (kr 85), some (kI x.1), some (kI x.2.1), none, none] [] (hH x.2.2) Q) (fun r => Q none (hH r))) t) : kW sc 8 kc_M_test 0 62 [some (kr 85), none, some (kI x2), none, none] [kI y2, kI y1, kr 85] (hH s) Q := by
  unfold f_M_test_62 at hf
  refine kw_step rfl rfl rfl rfl ?_
  obtain ⟨s1, ee2, hf⟩ := gbL hf
  refine kw_putH rfl (rfl : kotab 85 = some kMo) rfl rfl rfl (Nat.le_of_ble_eq_true rfl) rfl ee2 ?_
  refine kw_step rfl rfl rfl rfl ?_
  refine kw_step (L' := [some (kr 85), some (kI 1), some (kI x2), none, none]) rfl rfl rfl rfl ?_
  refine kw_goto rfl rfl ?_
  exact kW_le (L' := [some (kr 85), some (kI 1), some (kI x2), none, none]) ⟨Or.inr rfl, Or.inr rfl, Or.inr rfl, Or.inl rfl, Or.inl rfl, trivial⟩ (b_M_test_104 1 x2 s1 _ hf hq)
def f_M_test_53 (x2 : Int) (x3 : Int) (y1 : Int) (s : kM) : Option ((Int × Int × kM) ⊕ (kM)) :=
  (f_M_opens y1 s).bind fun q1 => if x3 = 0 then (f_M_test_62 x2 (q1 85 22) 2 q1) else (f_M_test_62 x2 (q1 85 22) 3 q1)
set_option maxRecDepth 8000 in
theorem b_M_test_53 {sc : List Int} {Q : Option kV → kH → Prop} (x2 : Int) (x3 : Int) (y1 : Int) (s : kM) (t : (Int × Int × kM) ⊕ (kM)) (hf : f_M_test_53 x2 x3 y1 s = some t) (hq : (gE (fun x => kW sc 8 kc_M_test 0 7 [some (kr 85), some (kI x.1), some (kI x.2.1), none, none] [] (hH x.2.2) Q) (fun r => Q none (hH r))) t) : kW sc 8 kc_M_test 0 53 [some (kr 85), none, some (kI x2), some (kI x3), none] [kI y1, kr 85] (hH s) Q := by
  unfold f_M_test_53 at hf
  obtain ⟨q1, hq1, hf⟩ := gbind hf
  refine kw_callV (vs := [kI y1]) rfl rfl rfl ⟨rfl, Nat.le_of_ble_eq_true rfl, Nat.le_of_ble_eq_true rfl, by decide⟩ (hH_O (rfl : kotab 85 = some kMo)) (c_M_opens y1 s _ hq1) (Nat.le_of_ble_eq_true rfl) ?_
  refine kw_step rfl rfl rfl rfl ?_
  refine kw_step rfl rfl rfl rfl ?_
  refine kw_get rfl (hH_O (rfl : kotab 85 = some kMo)) rfl ?_
  refine kw_step rfl rfl rfl rfl ?_
  refine kw_if_eq rfl rfl (fun c3 => ?_) (fun c3 => ?_)
  · have hf := gift c3 hf
    refine kw_step rfl rfl rfl rfl ?_
    exact kW_le (L' := [some (kr 85), none, some (kI x2), none, none]) ⟨Or.inr rfl, Or.inl rfl, Or.inr rfl, Or.inl rfl, Or.inl rfl, trivial⟩ (b_M_test_62 x2 (q1 85 22) 2 q1 _ hf hq)
  · have hf := giff c3 hf
    refine kw_step rfl rfl rfl rfl ?_
    refine kw_goto rfl rfl ?_
    exact kW_le (L' := [some (kr 85), none, some (kI x2), none, none]) ⟨Or.inr rfl, Or.inl rfl, Or.inr rfl, Or.inl rfl, Or.inl rfl, trivial⟩ (b_M_test_62 x2 (q1 85 22) 3 q1 _ hf hq)
def f_M_test_47 (x2 : Int) (x3 : Int) (s : kM) : Option ((Int × Int × kM) ⊕ (kM)) :=
  if x3 = 0 then (f_M_test_53 x2 x3 11 s) else (f_M_test_53 x2 x3 10 s)
set_option maxRecDepth 8000 in
theorem b_M_test_47 {sc : List Int} {Q : Option kV → kH → Prop} (x2 : Int) (x3 : Int) (s : kM) (t : (Int × Int × kM) ⊕ (kM)) (hf : f_M_test_47 x2 x3 s = some t) (hq : (gE (fun x => kW sc 8 kc_M_test 0 7 [some (kr 85), some (kI x.1), some (kI x.2.1), none, none] [] (hH x.2.2) Q) (fun r => Q none (hH r))) t) : kW sc 8 kc_M_test 0 47 [some (kr 85), none, some (kI x2), some (kI x3), none] [] (hH s) Q := by
  unfold f_M_test_47 at hf
  refine kw_step rfl rfl rfl rfl ?_
  refine kw_step rfl rfl rfl rfl ?_
  refine kw_if_eq rfl rfl (fun c1 => ?_) (fun c1 => ?_)
  · have hf := gift c1 hf
    refine kw_step rfl rfl rfl rfl ?_
    exact kW_le (L' := [some (kr 85), none, some (kI x2), some (kI x3), none]) ⟨Or.inr rfl, Or.inl rfl, Or.inr rfl, Or.inr rfl, Or.inl rfl, trivial⟩ (b_M_test_53 x2 x3 11 s _ hf hq)
  · have hf := giff c1 hf
    refine kw_step rfl rfl rfl rfl ?_
    refine kw_goto rfl rfl ?_
    exact kW_le (L' := [some (kr 85), none, some (kI x2), some (kI x3), none]) ⟨Or.inr rfl, Or.inl rfl, Or.inr rfl, Or.inr rfl, Or.inl rfl, trivial⟩ (b_M_test_53 x2 x3 10 s _ hf hq)
def f_M_test_42 (x2 : Int) (x3 : Int) (x4 : Int) (s : kM) : Option ((Int × Int × kM) ⊕ (kM)) :=
  if x4 = 0 then (f_M_test_47 x2 x3 s) else ((f_M_answers 11 s).bind fun q2 => f_M_test_47 x2 x3 q2)
set_option maxRecDepth 8000 in
theorem b_M_test_42 {sc : List Int} {Q : Option kV → kH → Prop} (x2 : Int) (x3 : Int) (x4 : Int) (s : kM) (t : (Int × Int × kM) ⊕ (kM)) (hf : f_M_test_42 x2 x3 x4 s = some t) (hq : (gE (fun x => kW sc 8 kc_M_test 0 7 [some (kr 85), some (kI x.1), some (kI x.2.1), none, none] [] (hH x.2.2) Q) (fun r => Q none (hH r))) t) : kW sc 8 kc_M_test 0 42 [some (kr 85), none, some (kI x2), some (kI x3), some (kI x4)] [] (hH s) Q := by
  unfold f_M_test_42 at hf
  refine kw_step rfl rfl rfl rfl ?_
  refine kw_if_eq rfl rfl (fun c1 => ?_) (fun c1 => ?_)
  · have hf := gift c1 hf
    exact kW_le (L' := [some (kr 85), none, some (kI x2), some (kI x3), none]) ⟨Or.inr rfl, Or.inl rfl, Or.inr rfl, Or.inr rfl, Or.inl rfl, trivial⟩ (b_M_test_47 x2 x3 s _ hf hq)
  · have hf := giff c1 hf
    refine kw_step rfl rfl rfl rfl ?_
    refine kw_step rfl rfl rfl rfl ?_
    obtain ⟨q2, hq2, hf⟩ := gbind hf
    refine kw_callV (vs := [kI 11]) rfl rfl rfl ⟨rfl, Nat.le_of_ble_eq_true rfl, Nat.le_of_ble_eq_true rfl, by decide⟩ (hH_O (rfl : kotab 85 = some kMo)) (c_M_answers 11 s _ hq2) (Nat.le_of_ble_eq_true rfl) ?_
    exact kW_le (L' := [some (kr 85), none, some (kI x2), some (kI x3), none]) ⟨Or.inr rfl, Or.inl rfl, Or.inr rfl, Or.inr rfl, Or.inl rfl, trivial⟩ (b_M_test_47 x2 x3 q2 _ hf hq)
def f_M_test_83 (x1 : Int) (x2 : Int) (s : kM) : Option ((Int × Int × kM) ⊕ (kM)) :=
  gLet (gU s 85 22 (wI ((s 85 22) + 1))) fun s1 => gLet (gU s1 85 29 (wI ((s1 85 29) - 1))) fun s4 => gLet (gU s4 85 27 (wI ((s4 85 27) - 1))) fun s7 => f_M_test_104 x1 x2 s7
set_option maxRecDepth 8000 in
theorem b_M_test_83 {sc : List Int} {Q : Option kV → kH → Prop} (x1 : Int) (x2 : Int) (s : kM) (t : (Int × Int × kM) ⊕ (kM)) (hf : f_M_test_83 x1 x2 s = some t) (hq : (gE (fun x => kW sc 8 kc_M_test 0 7 [some (kr 85), some (kI x.1), some (kI x.2.1), none, none] [] (hH x.2.2) Q) (fun r => Q none (hH r))) t) : kW sc 8 kc_M_test 0 83 [some (kr 85), some (kI x1), some (kI x2), none, none] [] (hH s) Q := by
  unfold f_M_test_83 at hf
  refine kw_step rfl rfl rfl rfl ?_
  refine kw_step rfl rfl rfl rfl ?_
  refine kw_get rfl (hH_O (rfl : kotab 85 = some kMo)) rfl ?_
  refine kw_step rfl rfl rfl rfl ?_
  refine kw_step rfl rfl rfl rfl ?_
  obtain ⟨s1, ee2, hf⟩ := gbL hf
  refine kw_putH rfl (rfl : kotab 85 = some kMo) rfl rfl rfl (Nat.le_of_ble_eq_true rfl) rfl ee2 ?_
  refine kw_step rfl rfl rfl rfl ?_
  refine kw_step rfl rfl rfl rfl ?_
  refine kw_get rfl (hH_O (rfl : kotab 85 = some kMo)) rfl ?_
  refine kw_step rfl rfl rfl rfl ?_
  refine kw_step rfl rfl rfl rfl ?_
  obtain ⟨s4, ee5, hf⟩ := gbL hf
  refine kw_putH rfl (rfl : kotab 85 = some kMo) rfl rfl rfl (Nat.le_of_ble_eq_true rfl) rfl ee5 ?_
  refine kw_step rfl rfl rfl rfl ?_
  refine kw_step rfl rfl rfl rfl ?_
  refine kw_get rfl (hH_O (rfl : kotab 85 = some kMo)) rfl ?_
  refine kw_step rfl rfl rfl rfl ?_
  refine kw_step rfl rfl rfl rfl ?_
  obtain ⟨s7, ee8, hf⟩ := gbL hf
  refine kw_putH rfl (rfl : kotab 85 = some kMo) rfl rfl rfl (Nat.le_of_ble_eq_true rfl) rfl ee8 ?_
  refine kw_goto rfl rfl ?_
  exact kW_le (L' := [some (kr 85), some (kI x1), some (kI x2), none, none]) ⟨Or.inr rfl, Or.inr rfl, Or.inr rfl, Or.inl rfl, Or.inl rfl, trivial⟩ (b_M_test_104 x1 x2 s7 _ hf hq)
def f_M_test_20 (x2 : Int) (y0 : Int) (s : kM) : Option ((Int × Int × kM) ⊕ (kM)) :=
  some (.inl (y0, x2, s))
set_option maxRecDepth 8000 in
theorem b_M_test_20 {sc : List Int} {Q : Option kV → kH → Prop} (x2 : Int) (y0 : Int) (s : kM) (t : (Int × Int × kM) ⊕ (kM)) (hf : f_M_test_20 x2 y0 s = some t) (hq : (gE (fun x => kW sc 8 kc_M_test 0 7 [some (kr 85), some (kI x.1), some (kI x.2.1), none, none] [] (hH x.2.2) Q) (fun r => Q none (hH r))) t) : kW sc 8 kc_M_test 0 20 [some (kr 85), none, some (kI x2), none, none] [kI y0] (hH s) Q := by
  unfold f_M_test_20 at hf
  refine kw_step (L' := [some (kr 85), some (kI y0), some (kI x2), none, none]) rfl rfl rfl rfl ?_
  refine kw_goto rfl rfl ?_
  cases hf
  exact kW_le (L' := [some (kr 85), some (kI y0), some (kI x2), none, none]) ⟨Or.inr rfl, Or.inr rfl, Or.inr rfl, Or.inl rfl, Or.inl rfl, trivial⟩ hq
def f_M_test_7b (x1 : Int) (x2 : Int) (s : kM) : Option ((Int × Int × kM) ⊕ (kM)) :=
  if x2 = 0 then (some (.inr s)) else (if (s 85 23) = 0 then (if x1 = 0 then ((f_M_answers 9 s).bind fun q4 => (f_M_blanks q4).bind fun q6 => (f_M_stood 28 q6).bind fun q8 => (f_M_stood 29 q6).bind fun q9 => (f_M_answers 10 q6).bind fun q10 => if q8 = 0 then (if q9 = 0 then ((f_M_answers 11 q10).bind fun q14 => (f_M_top q14).bind fun q16 => if q16 = 12 then ((f_M_sign q14).bind fun q18 => if q18 = 93 then (f_M_test_83 x1 x2 q14) else ((f_M_fails 0 (q14 85 22) q14).bind fun q20 => f_M_test_83 x1 x2 q20)) else (f_M_test_104 x1 0 q14)) else (f_M_test_42 x2 q8 q9 q10)) else (f_M_test_42 x2 q8 q9 q10)) else ((f_M_fact s).bind fun q22 => if q22.1 = 0 then (f_M_test_20 x2 1 q22.2) else (f_M_test_20 x2 0 q22.2))) else (some (.inr s)))
set_option maxRecDepth 8000 in
theorem b_M_test_7b {sc : List Int} {Q : Option kV → kH → Prop} (x1 : Int) (x2 : Int) (s : kM) (t : (Int × Int × kM) ⊕ (kM)) (hf : f_M_test_7b x1 x2 s = some t) (hq : (gE (fun x => kW sc 8 kc_M_test 0 7 [some (kr 85), some (kI x.1), some (kI x.2.1), none, none] [] (hH x.2.2) Q) (fun r => Q none (hH r))) t) : kW sc 8 kc_M_test 0 7 [some (kr 85), some (kI x1), some (kI x2), none, none] [] (hH s) Q := by
  unfold f_M_test_7b at hf
  refine kw_step rfl rfl rfl rfl ?_
  refine kw_if_eq rfl rfl (fun c1 => ?_) (fun c1 => ?_)
  · have hf := gift c1 hf
    cases hf
    exact kw_ret rfl rfl rfl hq
  · have hf := giff c1 hf
    refine kw_step rfl rfl rfl rfl ?_
    refine kw_get rfl (hH_O (rfl : kotab 85 = some kMo)) rfl ?_
    refine kw_if_ne rfl rfl (fun c2 => ?_) (fun c2 => ?_)
    · have hf := giff c2 hf
      cases hf
      exact kw_ret rfl rfl rfl hq
    · have hf := gift c2 hf
      refine kw_step rfl rfl rfl rfl ?_
      refine kw_if_eq rfl rfl (fun c3 => ?_) (fun c3 => ?_)
      · have hf := gift c3 hf
        refine kw_step rfl rfl rfl rfl ?_
        refine kw_step rfl rfl rfl rfl ?_
        obtain ⟨q4, hq4, hf⟩ := gbind hf
        refine kw_callV (vs := [kI 9]) rfl rfl rfl ⟨rfl, Nat.le_of_ble_eq_true rfl, Nat.le_of_ble_eq_true rfl, by decide⟩ (hH_O (rfl : kotab 85 = some kMo)) (c_M_answers 9 s _ hq4) (Nat.le_of_ble_eq_true rfl) ?_
        refine kw_step rfl rfl rfl rfl ?_
        obtain ⟨q6, hq6, hf⟩ := gbind hf
        refine kw_callV (vs := []) rfl rfl rfl ⟨rfl, Nat.le_of_ble_eq_true rfl, Nat.le_of_ble_eq_true rfl, by decide⟩ (hH_O (rfl : kotab 85 = some kMo)) (c_M_blanks q4 _ hq6) (Nat.le_of_ble_eq_true rfl) ?_
        refine kw_step rfl rfl rfl rfl ?_
        refine kw_step rfl rfl rfl rfl ?_
        obtain ⟨q8, hq8, hf⟩ := gbind hf
        refine kw_callV (vs := [kS 28]) rfl rfl rfl ⟨rfl, Nat.le_of_ble_eq_true rfl, Nat.le_of_ble_eq_true rfl, by decide⟩ (hH_O (rfl : kotab 85 = some kMo)) (c_M_stood 28 q6 _ hq8) (Nat.le_of_ble_eq_true rfl) ?_
        refine kw_step (L' := [some (kr 85), some (kI x1), some (kI x2), some (kI q8), none]) rfl rfl rfl rfl ?_
        refine kw_step rfl rfl rfl rfl ?_
        refine kw_step rfl rfl rfl rfl ?_
        obtain ⟨q9, hq9, hf⟩ := gbind hf
        refine kw_callV (vs := [kS 29]) rfl rfl rfl ⟨rfl, Nat.le_of_ble_eq_true rfl, Nat.le_of_ble_eq_true rfl, by decide⟩ (hH_O (rfl : kotab 85 = some kMo)) (c_M_stood 29 q6 _ hq9) (Nat.le_of_ble_eq_true rfl) ?_
        refine kw_step (L' := [some (kr 85), some (kI x1), some (kI x2), some (kI q8), some (kI q9)]) rfl rfl rfl rfl ?_
        refine kw_step rfl rfl rfl rfl ?_
        refine kw_step rfl rfl rfl rfl ?_
        obtain ⟨q10, hq10, hf⟩ := gbind hf
        refine kw_callV (vs := [kI 10]) rfl rfl rfl ⟨rfl, Nat.le_of_ble_eq_true rfl, Nat.le_of_ble_eq_true rfl, by decide⟩ (hH_O (rfl : kotab 85 = some kMo)) (c_M_answers 10 q6 _ hq10) (Nat.le_of_ble_eq_true rfl) ?_
        refine kw_step rfl rfl rfl rfl ?_
        refine kw_if_ne rfl rfl (fun c12 => ?_) (fun c12 => ?_)
        · have hf := giff c12 hf
          exact kW_le (L' := [some (kr 85), none, some (kI x2), some (kI q8), some (kI q9)]) ⟨Or.inr rfl, Or.inl rfl, Or.inr rfl, Or.inr rfl, Or.inr rfl, trivial⟩ (b_M_test_42 x2 q8 q9 q10 _ hf hq)
        · have hf := gift c12 hf
          refine kw_step rfl rfl rfl rfl ?_
          refine kw_if_eq rfl rfl (fun c13 => ?_) (fun c13 => ?_)
          · have hf := gift c13 hf
            refine kw_step rfl rfl rfl rfl ?_
            refine kw_step rfl rfl rfl rfl ?_
            obtain ⟨q14, hq14, hf⟩ := gbind hf
            refine kw_callV (vs := [kI 11]) rfl rfl rfl ⟨rfl, Nat.le_of_ble_eq_true rfl, Nat.le_of_ble_eq_true rfl, by decide⟩ (hH_O (rfl : kotab 85 = some kMo)) (c_M_answers 11 q10 _ hq14) (Nat.le_of_ble_eq_true rfl) ?_
            refine kw_step rfl rfl rfl rfl ?_
            obtain ⟨q16, hq16, hf⟩ := gbind hf
            refine kw_callV (vs := []) rfl rfl rfl ⟨rfl, Nat.le_of_ble_eq_true rfl, Nat.le_of_ble_eq_true rfl, by decide⟩ (hH_O (rfl : kotab 85 = some kMo)) (c_M_top q14 _ hq16) (Nat.le_of_ble_eq_true rfl) ?_
            refine kw_step rfl rfl rfl rfl ?_
            refine kw_icmp_ne rfl rfl (fun c17 => ?_) (fun c17 => ?_)
            · have hf := giff c17 hf
              refine kw_step rfl rfl rfl rfl ?_
              refine kw_step (L' := [some (kr 85), some (kI x1), some (kI 0), some (kI q8), some (kI q9)]) rfl rfl rfl rfl ?_
              exact kW_le (L' := [some (kr 85), some (kI x1), some (kI 0), none, none]) ⟨Or.inr rfl, Or.inr rfl, Or.inr rfl, Or.inl rfl, Or.inl rfl, trivial⟩ (b_M_test_104 x1 0 q14 _ hf hq)
            · have hf := gift c17 hf
              refine kw_step rfl rfl rfl rfl ?_
              obtain ⟨q18, hq18, hf⟩ := gbind hf
              refine kw_callV (vs := []) rfl rfl rfl ⟨rfl, Nat.le_of_ble_eq_true rfl, Nat.le_of_ble_eq_true rfl, by decide⟩ (hH_O (rfl : kotab 85 = some kMo)) (c_M_sign q14 _ hq18) (Nat.le_of_ble_eq_true rfl) ?_
              refine kw_step rfl rfl rfl rfl ?_
              refine kw_icmp_eq rfl rfl (fun c19 => ?_) (fun c19 => ?_)
              · have hf := gift c19 hf
                exact kW_le (L' := [some (kr 85), some (kI x1), some (kI x2), none, none]) ⟨Or.inr rfl, Or.inr rfl, Or.inr rfl, Or.inl rfl, Or.inl rfl, trivial⟩ (b_M_test_83 x1 x2 q14 _ hf hq)
              · have hf := giff c19 hf
                refine kw_step rfl rfl rfl rfl ?_
                refine kw_step rfl rfl rfl rfl ?_
                refine kw_step rfl rfl rfl rfl ?_
                refine kw_get rfl (hH_O (rfl : kotab 85 = some kMo)) rfl ?_
                obtain ⟨q20, hq20, hf⟩ := gbind hf
                refine kw_callV (vs := [kI 0, kI (q14 85 22)]) rfl rfl rfl ⟨rfl, Nat.le_of_ble_eq_true rfl, Nat.le_of_ble_eq_true rfl, by decide⟩ (hH_O (rfl : kotab 85 = some kMo)) (c_M_fails 0 (q14 85 22) q14 _ hq20) (Nat.le_of_ble_eq_true rfl) ?_
                exact kW_le (L' := [some (kr 85), some (kI x1), some (kI x2), none, none]) ⟨Or.inr rfl, Or.inr rfl, Or.inr rfl, Or.inl rfl, Or.inl rfl, trivial⟩ (b_M_test_83 x1 x2 q20 _ hf hq)
          · have hf := giff c13 hf
            exact kW_le (L' := [some (kr 85), none, some (kI x2), some (kI q8), some (kI q9)]) ⟨Or.inr rfl, Or.inl rfl, Or.inr rfl, Or.inr rfl, Or.inr rfl, trivial⟩ (b_M_test_42 x2 q8 q9 q10 _ hf hq)
      · have hf := giff c3 hf
        refine kw_step rfl rfl rfl rfl ?_
        obtain ⟨q22, hq22, hf⟩ := gbind hf
        refine kw_callV (vs := []) rfl rfl rfl ⟨rfl, Nat.le_of_ble_eq_true rfl, Nat.le_of_ble_eq_true rfl, by decide⟩ (hH_O (rfl : kotab 85 = some kMo)) (c_M_fact s _ hq22) (Nat.le_of_ble_eq_true rfl) ?_
        refine kw_if_ne rfl rfl (fun c24 => ?_) (fun c24 => ?_)
        · have hf := giff c24 hf
          refine kw_step rfl rfl rfl rfl ?_
          exact kW_le (L' := [some (kr 85), none, some (kI x2), none, none]) ⟨Or.inr rfl, Or.inl rfl, Or.inr rfl, Or.inl rfl, Or.inl rfl, trivial⟩ (b_M_test_20 x2 0 q22.2 _ hf hq)
        · have hf := gift c24 hf
          refine kw_step rfl rfl rfl rfl ?_
          refine kw_goto rfl rfl ?_
          exact kW_le (L' := [some (kr 85), none, some (kI x2), none, none]) ⟨Or.inr rfl, Or.inl rfl, Or.inr rfl, Or.inl rfl, Or.inl rfl, trivial⟩ (b_M_test_20 x2 1 q22.2 _ hf hq)
def f_M_test_7 (x1 : Int) (x2 : Int) (s : kM) : Option (kM) :=
  gL (fun (x : Int × Int × kM) => f_M_test_7b x.1 x.2.1 x.2.2) gF (x1, x2, s)
theorem b_M_test_7 {sc : List Int} {Q : Option kV → kH → Prop} (x1 : Int) (x2 : Int) (s : kM) (t : kM) (hf : f_M_test_7 x1 x2 s = some t) (hq : (fun r => Q none (hH r)) t) : kW sc 8 kc_M_test 0 7 [some (kr 85), some (kI x1), some (kI x2), none, none] [] (hH s) Q :=
  gL_ind (P := fun (x : Int × Int × kM) => kW sc 8 kc_M_test 0 7 [some (kr 85), some (kI x.1), some (kI x.2.1), none, none] [] (hH x.2.2) Q) (q := (fun r => Q none (hH r))) (fun x t hf hq => b_M_test_7b x.1 x.2.1 x.2.2 t hf hq) gF (x1, x2, s) t hf hq
def f_M_test (s : kM) : Option (kM) :=
  gLet (gU s 85 29 0) fun s1 => f_M_test_7 1 1 s1
set_option maxRecDepth 8000 in
theorem c_M_test {sc : List Int} (s : kM) (t : kM) (hf : f_M_test s = some t) : kR sc 8 km_M_test [kr 85] (hH s) none (hH t) := by
  unfold f_M_test at hf
  refine kR.start rfl ?_
  show kW sc 8 kc_M_test 0 0 [some (kr 85), none, none, none, none] [] (hH s) _
  have hq : (fun (r : Option kV) (g : kH) => r = none ∧ g = hH t) none (hH t) := ⟨rfl, rfl⟩
  refine kw_step rfl rfl rfl rfl ?_
  refine kw_step rfl rfl rfl rfl ?_
  obtain ⟨s1, ee2, hf⟩ := gbL hf
  refine kw_putH rfl (rfl : kotab 85 = some kMo) rfl rfl rfl (Nat.le_of_ble_eq_true rfl) rfl ee2 ?_
  refine kw_step rfl rfl rfl rfl ?_
  refine kw_step (L' := [some (kr 85), some (kI 1), none, none, none]) rfl rfl rfl rfl ?_
  refine kw_step rfl rfl rfl rfl ?_
  refine kw_step (L' := [some (kr 85), some (kI 1), some (kI 1), none, none]) rfl rfl rfl rfl ?_
  exact kW_le (L' := [some (kr 85), some (kI 1), some (kI 1), none, none]) ⟨Or.inr rfl, Or.inr rfl, Or.inr rfl, Or.inl rfl, Or.inl rfl, trivial⟩ (b_M_test_7 1 1 s1 _ hf hq)
def f_M_ruleClause (x1 : Int) (s : kM) : Option (kM) :=
  (f_M_blanks s).bind fun q1 => (f_M_stood 18 q1).bind fun q3 => if q3 = 0 then ((f_M_fails 0 (q1 85 22) q1).bind fun q23 => some q23) else (if x1 = 12 then ((f_M_fails 4 (q1 85 22) q1).bind fun q21 => some q21) else (gLet (gU q1 85 22 (wI ((q1 85 22) + 3))) fun s6 => (gI 72 (wI ((wI (12 * (s6 85 24))) + x1))).bind fun j9 => gLet (gU s6 109 j9 (s6 85 26)) fun s11 => (f_M_test s11).bind fun q14 => (gI 72 (wI ((wI (12 * (s6 85 24))) + x1))).bind fun j16 => gLet (gU q14 110 j16 (q14 85 26)) fun s18 => some s18))
set_option maxRecDepth 8000 in
theorem c_M_ruleClause {sc : List Int} (x1 : Int) (s : kM) (t : kM) (hf : f_M_ruleClause x1 s = some t) : kR sc 9 km_M_ruleClause [kr 85, kI x1] (hH s) none (hH t) := by
  unfold f_M_ruleClause at hf
  refine kR.start rfl ?_
  show kW sc 9 kc_M_ruleClause 0 0 [some (kr 85), some (kI x1), none, none] [] (hH s) _
  have hq : (fun (r : Option kV) (g : kH) => r = none ∧ g = hH t) none (hH t) := ⟨rfl, rfl⟩
  refine kw_step rfl rfl rfl rfl ?_
  obtain ⟨q1, hq1, hf⟩ := gbind hf
  refine kw_callV (vs := []) rfl rfl rfl ⟨rfl, Nat.le_of_ble_eq_true rfl, Nat.le_of_ble_eq_true rfl, by decide⟩ (hH_O (rfl : kotab 85 = some kMo)) (c_M_blanks s _ hq1) (Nat.le_of_ble_eq_true rfl) ?_
  refine kw_step rfl rfl rfl rfl ?_
  refine kw_get rfl (hH_O (rfl : kotab 85 = some kMo)) rfl ?_
  refine kw_step (L' := [some (kr 85), some (kI x1), some (kI (q1 85 22)), none]) rfl rfl rfl rfl ?_
  refine kw_step rfl rfl rfl rfl ?_
  refine kw_step rfl rfl rfl rfl ?_
  obtain ⟨q3, hq3, hf⟩ := gbind hf
  refine kw_callV (vs := [kS 18]) rfl rfl rfl ⟨rfl, Nat.le_of_ble_eq_true rfl, Nat.le_of_ble_eq_true rfl, by decide⟩ (hH_O (rfl : kotab 85 = some kMo)) (c_M_stood 18 q1 _ hq3) (Nat.le_of_ble_eq_true rfl) ?_
  refine kw_if_ne rfl rfl (fun c4 => ?_) (fun c4 => ?_)
  · have hf := giff c4 hf
    refine kw_step rfl rfl rfl rfl ?_
    refine kw_step rfl rfl rfl rfl ?_
    refine kw_icmp_ne rfl rfl (fun c5 => ?_) (fun c5 => ?_)
    · have hf := giff c5 hf
      refine kw_step rfl rfl rfl rfl ?_
      refine kw_step rfl rfl rfl rfl ?_
      refine kw_get rfl (hH_O (rfl : kotab 85 = some kMo)) rfl ?_
      refine kw_step rfl rfl rfl rfl ?_
      refine kw_step rfl rfl rfl rfl ?_
      obtain ⟨s6, ee7, hf⟩ := gbL hf
      refine kw_putH rfl (rfl : kotab 85 = some kMo) rfl rfl rfl (Nat.le_of_ble_eq_true rfl) rfl ee7 ?_
      refine kw_step rfl rfl rfl rfl ?_
      refine kw_step rfl rfl rfl rfl ?_
      refine kw_get rfl (hH_O (rfl : kotab 85 = some kMo)) rfl ?_
      refine kw_step rfl rfl rfl rfl ?_
      refine kw_step rfl rfl rfl rfl ?_
      refine kw_step rfl rfl rfl rfl ?_
      refine kw_step (L' := [some (kr 85), some (kI x1), some (kI (q1 85 22)), some (kI (wI ((wI (12 * (s6 85 24))) + x1)))]) rfl rfl rfl rfl ?_
      refine kw_step rfl rfl rfl rfl ?_
      refine kw_get rfl (hH_O (rfl : kotab 85 = some kMo)) rfl ?_
      refine kw_step rfl rfl rfl rfl ?_
      refine kw_step rfl rfl rfl rfl ?_
      refine kw_get rfl (hH_O (rfl : kotab 85 = some kMo)) rfl ?_
      obtain ⟨j9, i10, hf⟩ := gbI hf
      obtain ⟨s11, ee12, hf⟩ := gbL hf
      refine kw_iastH rfl (rfl : ktab 109 = some (0, 72)) i10.1 i10.2.1 i10.2.2 ee12 ?_
      refine kw_step rfl rfl rfl rfl ?_
      obtain ⟨q14, hq14, hf⟩ := gbind hf
      refine kw_callV (vs := []) rfl rfl rfl ⟨rfl, Nat.le_of_ble_eq_true rfl, Nat.le_of_ble_eq_true rfl, by decide⟩ (hH_O (rfl : kotab 85 = some kMo)) (c_M_test s11 _ hq14) (Nat.le_of_ble_eq_true rfl) ?_
      refine kw_step rfl rfl rfl rfl ?_
      refine kw_get rfl (hH_O (rfl : kotab 85 = some kMo)) rfl ?_
      refine kw_step rfl rfl rfl rfl ?_
      refine kw_step rfl rfl rfl rfl ?_
      refine kw_get rfl (hH_O (rfl : kotab 85 = some kMo)) rfl ?_
      obtain ⟨j16, i17, hf⟩ := gbI hf
      obtain ⟨s18, ee19, hf⟩ := gbL hf
      refine kw_iastH rfl (rfl : ktab 110 = some (0, 72)) i17.1 i17.2.1 i17.2.2 ee19 ?_
      cases hf
      exact kw_ret rfl rfl rfl hq
    · have hf := gift c5 hf
      refine kw_step rfl rfl rfl rfl ?_
      refine kw_step rfl rfl rfl rfl ?_
      refine kw_step rfl rfl rfl rfl ?_
      obtain ⟨q21, hq21, hf⟩ := gbind hf
      refine kw_callV (vs := [kI 4, kI (q1 85 22)]) rfl rfl rfl ⟨rfl, Nat.le_of_ble_eq_true rfl, Nat.le_of_ble_eq_true rfl, by decide⟩ (hH_O (rfl : kotab 85 = some kMo)) (c_M_fails 4 (q1 85 22) q1 _ hq21) (Nat.le_of_ble_eq_true rfl) ?_
      cases hf
      exact kw_ret rfl rfl rfl hq
  · have hf := gift c4 hf
    refine kw_step rfl rfl rfl rfl ?_
    refine kw_step rfl rfl rfl rfl ?_
    refine kw_step rfl rfl rfl rfl ?_
    obtain ⟨q23, hq23, hf⟩ := gbind hf
    refine kw_callV (vs := [kI 0, kI (q1 85 22)]) rfl rfl rfl ⟨rfl, Nat.le_of_ble_eq_true rfl, Nat.le_of_ble_eq_true rfl, by decide⟩ (hH_O (rfl : kotab 85 = some kMo)) (c_M_fails 0 (q1 85 22) q1 _ hq23) (Nat.le_of_ble_eq_true rfl) ?_
    cases hf
    exact kw_ret rfl rfl rfl hq
def f_M_rule_44 (y1 : Int) (y2 : Int) (s : kM) : Option (Int × kM) :=
  gLet (gU s 85 25 (wI (y1 + y2))) fun s1 => if (s1 85 23) ≤ 0 then (some ((wI ((s1 85 25) - 1)), s1)) else (some ((wI ((-2) - (s1 85 23))), s1))
set_option maxRecDepth 8000 in
theorem b_M_rule_44 {sc : List Int} {Q : Option kV → kH → Prop} (y1 : Int) (y2 : Int) (s : kM) (t : Int × kM) (hf : f_M_rule_44 y1 y2 s = some t) (hq : (fun r => Q (some (kI r.1)) (hH r.2)) t) : kW sc 10 kc_M_rule 1 44 [some (kr 85), none, none] [kI y2, kI y1, kr 85] (hH s) Q := by
  unfold f_M_rule_44 at hf
  refine kw_step rfl rfl rfl rfl ?_
  obtain ⟨s1, ee2, hf⟩ := gbL hf
  refine kw_putH rfl (rfl : kotab 85 = some kMo) rfl rfl rfl (Nat.le_of_ble_eq_true rfl) rfl ee2 ?_
  refine kw_step rfl rfl rfl rfl ?_
  refine kw_get rfl (hH_O (rfl : kotab 85 = some kMo)) rfl ?_
  refine kw_if_le rfl rfl (fun c4 => ?_) (fun c4 => ?_)
  · have hf := gift c4 hf
    refine kw_step rfl rfl rfl rfl ?_
    refine kw_get rfl (hH_O (rfl : kotab 85 = some kMo)) rfl ?_
    refine kw_step rfl rfl rfl rfl ?_
    refine kw_step rfl rfl rfl rfl ?_
    cases hf
    exact kw_ret rfl rfl rfl hq
  · have hf := giff c4 hf
    refine kw_step rfl rfl rfl rfl ?_
    refine kw_step rfl rfl rfl rfl ?_
    refine kw_get rfl (hH_O (rfl : kotab 85 = some kMo)) rfl ?_
    refine kw_step rfl rfl rfl rfl ?_
    refine kw_goto rfl rfl ?_
    cases hf
    exact kw_ret rfl rfl rfl hq
def f_M_rule_16b (x1 : Int) (x2 : Int) (s : kM) : Option ((Int × Int × kM) ⊕ (Int × kM)) :=
  if x2 = 0 then (gLet (gU s 85 21 0) fun s2 => (gI 6 (s2 85 24)).bind fun j5 => gLet (gU s2 108 j5 x1) fun s7 => if (s7 85 23) = 0 then ((f_M_rule_44 (s7 85 25) 1 s7).map Sum.inr) else ((f_M_rule_44 (s7 85 25) 0 s7).map Sum.inr)) else ((f_M_ruleClause x1 s).bind fun q15 => (f_M_goesOn q15).bind fun q17 => some (.inl ((wI (x1 + 1)), q17.1, q17.2)))
set_option maxRecDepth 8000 in
theorem b_M_rule_16b {sc : List Int} {Q : Option kV → kH → Prop} (x1 : Int) (x2 : Int) (s : kM) (t : (Int × Int × kM) ⊕ (Int × kM)) (hf : f_M_rule_16b x1 x2 s = some t) (hq : (gE (fun x => kW sc 10 kc_M_rule 1 16 [some (kr 85), some (kI x.1), some (kI x.2.1)] [] (hH x.2.2) Q) (fun r => Q (some (kI r.1)) (hH r.2))) t) : kW sc 10 kc_M_rule 1 16 [some (kr 85), some (kI x1), some (kI x2)] [] (hH s) Q := by
  unfold f_M_rule_16b at hf
  refine kw_step rfl rfl rfl rfl ?_
  refine kw_if_eq rfl rfl (fun c1 => ?_) (fun c1 => ?_)
  · have hf := gift c1 hf
    refine kw_step rfl rfl rfl rfl ?_
    refine kw_step rfl rfl rfl rfl ?_
    obtain ⟨s2, ee3, hf⟩ := gbL hf
    refine kw_putH rfl (rfl : kotab 85 = some kMo) rfl rfl rfl (Nat.le_of_ble_eq_true rfl) rfl ee3 ?_
    refine kw_step rfl rfl rfl rfl ?_
    refine kw_get rfl (hH_O (rfl : kotab 85 = some kMo)) rfl ?_
    refine kw_step rfl rfl rfl rfl ?_
    refine kw_get rfl (hH_O (rfl : kotab 85 = some kMo)) rfl ?_
    refine kw_step rfl rfl rfl rfl ?_
    obtain ⟨j5, i6, hf⟩ := gbI hf
    obtain ⟨s7, ee8, hf⟩ := gbL hf
    refine kw_iastH rfl (rfl : ktab 108 = some (0, 6)) i6.1 i6.2.1 i6.2.2 ee8 ?_
    refine kw_step rfl rfl rfl rfl ?_
    refine kw_step rfl rfl rfl rfl ?_
    refine kw_get rfl (hH_O (rfl : kotab 85 = some kMo)) rfl ?_
    refine kw_step rfl rfl rfl rfl ?_
    refine kw_get rfl (hH_O (rfl : kotab 85 = some kMo)) rfl ?_
    refine kw_if_ne rfl rfl (fun c10 => ?_) (fun c10 => ?_)
    · have hf := giff c10 hf
      refine kw_step rfl rfl rfl rfl ?_
      obtain ⟨t11, hg12, rfl⟩ := gmap hf
      exact kW_le (L' := [some (kr 85), none, none]) ⟨Or.inr rfl, Or.inl rfl, Or.inl rfl, trivial⟩ (b_M_rule_44 (s7 85 25) 0 s7 _ hg12 hq)
    · have hf := gift c10 hf
      refine kw_step rfl rfl rfl rfl ?_
      refine kw_goto rfl rfl ?_
      obtain ⟨t13, hg14, rfl⟩ := gmap hf
      exact kW_le (L' := [some (kr 85), none, none]) ⟨Or.inr rfl, Or.inl rfl, Or.inl rfl, trivial⟩ (b_M_rule_44 (s7 85 25) 1 s7 _ hg14 hq)
  · have hf := giff c1 hf
    refine kw_step rfl rfl rfl rfl ?_
    refine kw_step rfl rfl rfl rfl ?_
    obtain ⟨q15, hq15, hf⟩ := gbind hf
    refine kw_callV (vs := [kI x1]) rfl rfl rfl ⟨rfl, Nat.le_of_ble_eq_true rfl, Nat.le_of_ble_eq_true rfl, by decide⟩ (hH_O (rfl : kotab 85 = some kMo)) (c_M_ruleClause x1 s _ hq15) (Nat.le_of_ble_eq_true rfl) ?_
    refine kw_step (L' := [some (kr 85), some (kI (wI (x1 + 1))), some (kI x2)]) rfl rfl rfl rfl ?_
    refine kw_step rfl rfl rfl rfl ?_
    obtain ⟨q17, hq17, hf⟩ := gbind hf
    refine kw_callV (vs := []) rfl rfl rfl ⟨rfl, Nat.le_of_ble_eq_true rfl, Nat.le_of_ble_eq_true rfl, by decide⟩ (hH_O (rfl : kotab 85 = some kMo)) (c_M_goesOn q15 _ hq17) (Nat.le_of_ble_eq_true rfl) ?_
    refine kw_step (L' := [some (kr 85), some (kI (wI (x1 + 1))), some (kI q17.1)]) rfl rfl rfl rfl ?_
    refine kw_goto rfl rfl ?_
    cases hf
    exact kW_le (L' := [some (kr 85), some (kI (wI (x1 + 1))), some (kI q17.1)]) ⟨Or.inr rfl, Or.inr rfl, Or.inr rfl, trivial⟩ hq
def f_M_rule_16 (x1 : Int) (x2 : Int) (s : kM) : Option (Int × kM) :=
  gL (fun (x : Int × Int × kM) => f_M_rule_16b x.1 x.2.1 x.2.2) gF (x1, x2, s)
theorem b_M_rule_16 {sc : List Int} {Q : Option kV → kH → Prop} (x1 : Int) (x2 : Int) (s : kM) (t : Int × kM) (hf : f_M_rule_16 x1 x2 s = some t) (hq : (fun r => Q (some (kI r.1)) (hH r.2)) t) : kW sc 10 kc_M_rule 1 16 [some (kr 85), some (kI x1), some (kI x2)] [] (hH s) Q :=
  gL_ind (P := fun (x : Int × Int × kM) => kW sc 10 kc_M_rule 1 16 [some (kr 85), some (kI x.1), some (kI x.2.1)] [] (hH x.2.2) Q) (q := (fun r => Q (some (kI r.1)) (hH r.2))) (fun x t hf hq => b_M_rule_16b x.1 x.2.1 x.2.2 t hf hq) gF (x1, x2, s) t hf hq
def f_M_rule (s : kM) : Option (Int × kM) :=
  if (s 85 25) = 6 then (some ((-1), s)) else (gLet (gU s 85 24 (s 85 25)) fun s2 => (f_M_starts s2).bind fun q5 => f_M_rule_16 0 1 q5)
set_option maxRecDepth 8000 in
theorem c_M_rule {sc : List Int} (s : kM) (t : Int × kM) (hf : f_M_rule s = some t) : kR sc 10 km_M_rule [kr 85] (hH s) (some (kI t.1)) (hH t.2) := by
  unfold f_M_rule at hf
  refine kR.start rfl ?_
  show kW sc 10 kc_M_rule 1 0 [some (kr 85), none, none] [] (hH s) _
  have hq : (fun (r : Option kV) (g : kH) => r = some (kI t.1) ∧ g = hH t.2) (some (kI t.1)) (hH t.2) := ⟨rfl, rfl⟩
  refine kw_step rfl rfl rfl rfl ?_
  refine kw_get rfl (hH_O (rfl : kotab 85 = some kMo)) rfl ?_
  refine kw_step rfl rfl rfl rfl ?_
  refine kw_icmp_ne rfl rfl (fun c1 => ?_) (fun c1 => ?_)
  · have hf := giff c1 hf
    refine kw_step rfl rfl rfl rfl ?_
    refine kw_step rfl rfl rfl rfl ?_
    refine kw_get rfl (hH_O (rfl : kotab 85 = some kMo)) rfl ?_
    obtain ⟨s2, ee3, hf⟩ := gbL hf
    refine kw_putH rfl (rfl : kotab 85 = some kMo) rfl rfl rfl (Nat.le_of_ble_eq_true rfl) rfl ee3 ?_
    refine kw_step rfl rfl rfl rfl ?_
    obtain ⟨q5, hq5, hf⟩ := gbind hf
    refine kw_callV (vs := []) rfl rfl rfl ⟨rfl, Nat.le_of_ble_eq_true rfl, Nat.le_of_ble_eq_true rfl, by decide⟩ (hH_O (rfl : kotab 85 = some kMo)) (c_M_starts s2 _ hq5) (Nat.le_of_ble_eq_true rfl) ?_
    refine kw_step rfl rfl rfl rfl ?_
    refine kw_step (L' := [some (kr 85), some (kI 0), none]) rfl rfl rfl rfl ?_
    refine kw_step rfl rfl rfl rfl ?_
    refine kw_step (L' := [some (kr 85), some (kI 0), some (kI 1)]) rfl rfl rfl rfl ?_
    exact kW_le (L' := [some (kr 85), some (kI 0), some (kI 1)]) ⟨Or.inr rfl, Or.inr rfl, Or.inr rfl, trivial⟩ (b_M_rule_16 0 1 q5 _ hf hq)
  · have hf := gift c1 hf
    refine kw_step rfl rfl rfl rfl ?_
    cases hf
    exact kw_ret rfl rfl rfl hq
def f_M_force (x1 : Int) (s : kM) : Option (Int × kM) :=
  (f_M_in x1 (-1) (wI ((s 85 25) - 1)) s).bind fun q1 => if q1 = 0 then (some ((-2), s)) else (gLet (gU s 86 5 x1) fun s3 => some ((s 86 5), s3))
set_option maxRecDepth 8000 in
theorem c_M_force {sc : List Int} (x1 : Int) (s : kM) (t : Int × kM) (hf : f_M_force x1 s = some t) : kR sc 1 km_M_force [kr 85, kI x1] (hH s) (some (kI t.1)) (hH t.2) := by
  unfold f_M_force at hf
  refine kR.start rfl ?_
  show kW sc 1 kc_M_force 1 0 [some (kr 85), some (kI x1), none] [] (hH s) _
  have hq : (fun (r : Option kV) (g : kH) => r = some (kI t.1) ∧ g = hH t.2) (some (kI t.1)) (hH t.2) := ⟨rfl, rfl⟩
  refine kw_step rfl rfl rfl rfl ?_
  refine kw_step rfl rfl rfl rfl ?_
  refine kw_step rfl rfl rfl rfl ?_
  refine kw_step rfl rfl rfl rfl ?_
  refine kw_get rfl (hH_O (rfl : kotab 85 = some kMo)) rfl ?_
  refine kw_step rfl rfl rfl rfl ?_
  refine kw_step rfl rfl rfl rfl ?_
  refine kw_step rfl rfl rfl rfl ?_
  obtain ⟨q1, hq1, hf⟩ := gbind hf
  refine kw_callS (vs := [kJ x1, kJ (-1), kJ (wI ((s 85 25) - 1))]) rfl rfl rfl ⟨rfl, Nat.le_of_ble_eq_true rfl, Nat.le_of_ble_eq_true rfl, rfl⟩ (c_M_in x1 (-1) (wI ((s 85 25) - 1)) s _ hq1) (Nat.le_of_ble_eq_true rfl) ?_
  refine kw_if_ne rfl rfl (fun c2 => ?_) (fun c2 => ?_)
  · have hf := giff c2 hf
    refine kw_step rfl rfl rfl rfl ?_
    refine kw_get rfl (hH_O (rfl : kotab 85 = some kMo)) rfl ?_
    refine kw_step rfl rfl rfl rfl ?_
    refine kw_iald rfl (hH_A (rfl : ktab 86 = some (0, 6))) (by decide) (by decide) (j := 5) rfl ?_
    refine kw_step (L' := [some (kr 85), some (kI x1), some (kI (s 86 5))]) rfl rfl rfl rfl ?_
    refine kw_step rfl rfl rfl rfl ?_
    refine kw_get rfl (hH_O (rfl : kotab 85 = some kMo)) rfl ?_
    refine kw_step rfl rfl rfl rfl ?_
    refine kw_step rfl rfl rfl rfl ?_
    obtain ⟨s3, ee4, hf⟩ := gbL hf
    refine kw_iastH rfl (rfl : ktab 86 = some (0, 6)) (by decide) (by decide) (j := 5) rfl ee4 ?_
    refine kw_step rfl rfl rfl rfl ?_
    cases hf
    exact kw_ret rfl rfl rfl hq
  · have hf := gift c2 hf
    refine kw_step rfl rfl rfl rfl ?_
    cases hf
    exact kw_ret rfl rfl rfl hq
def f_M_isPlace (x1 : Int) (s : kM) : Option (Int) :=
  (f_M_places s).bind fun q1 => (f_M_in x1 0 (wI (q1 - 1)) s).bind fun q2 => (gB q2).bind fun _ => some q2
set_option maxRecDepth 8000 in
theorem c_M_isPlace {sc : List Int} (x1 : Int) (s : kM) (t : Int) (hf : f_M_isPlace x1 s = some t) : kR sc 1 km_M_isPlace [kr 85, kI x1] (hH s) (some (kI t)) (hH s) := by
  unfold f_M_isPlace at hf
  refine kR.start rfl ?_
  show kW sc 1 kc_M_isPlace 2 0 [some (kr 85), some (kI x1)] [] (hH s) _
  have hq : (fun (r : Option kV) (g : kH) => r = some (kI t) ∧ g = hH s) (some (kI t)) (hH s) := ⟨rfl, rfl⟩
  refine kw_step rfl rfl rfl rfl ?_
  refine kw_step rfl rfl rfl rfl ?_
  refine kw_step rfl rfl rfl rfl ?_
  refine kw_step rfl rfl rfl rfl ?_
  obtain ⟨q1, hq1, hf⟩ := gbind hf
  refine kw_callV (vs := []) rfl rfl rfl ⟨rfl, Nat.le_of_ble_eq_true rfl, Nat.le_of_ble_eq_true rfl, by decide⟩ (hH_O (rfl : kotab 85 = some kMo)) (c_M_places s _ hq1) (Nat.le_of_ble_eq_true rfl) ?_
  refine kw_step rfl rfl rfl rfl ?_
  refine kw_step rfl rfl rfl rfl ?_
  refine kw_step rfl rfl rfl rfl ?_
  obtain ⟨q2, hq2, hf⟩ := gbind hf
  refine kw_callS (vs := [kJ x1, kJ 0, kJ (wI (q1 - 1))]) rfl rfl rfl ⟨rfl, Nat.le_of_ble_eq_true rfl, Nat.le_of_ble_eq_true rfl, rfl⟩ (c_M_in x1 0 (wI (q1 - 1)) s _ hq2) (Nat.le_of_ble_eq_true rfl) ?_
  obtain ⟨w3, hf⟩ := gbB hf
  cases hf
  exact kw_ret rfl rfl (if_pos w3) hq
