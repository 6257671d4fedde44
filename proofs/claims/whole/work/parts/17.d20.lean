/-! PRINTED by wip/whole/decall.py: methods as functions over the flat world, with their contracts -/
def f_M_off (x1 : Int) (s : kM) : Option (Int × kM) :=
  (f_M_isOff x1 s).bind fun q1 => if q1 = 0 then ((gB q1).bind fun _ => some (q1, s)) else ((f_M_removes (kshl 1 x1) s).bind fun q4 => gLet (gU q4 86 3 (wI ((q4 86 3) + 1))) fun s6 => (gB q1).bind fun _ => some (q1, s6))
set_option maxRecDepth 8000 in
theorem c_M_off {sc : List Int} (x1 : Int) (s : kM) (t : Int × kM) (hf : f_M_off x1 s = some t) : kR sc 3 km_M_off [kr 85, kI x1] (hH s) (some (kI t.1)) (hH t.2) := by
  unfold f_M_off at hf
  refine kR.start rfl ?_
  show kW sc 3 kc_M_off 2 0 [some (kr 85), some (kI x1), none] [] (hH s) _
  have hq : (fun (r : Option kV) (g : kH) => r = some (kI t.1) ∧ g = hH t.2) (some (kI t.1)) (hH t.2) := ⟨rfl, rfl⟩
  refine kw_step rfl rfl rfl rfl ?_
  refine kw_step rfl rfl rfl rfl ?_
  obtain ⟨q1, hq1, hf⟩ := gbind hf
  refine kw_callV (vs := [kI x1]) rfl rfl rfl ⟨rfl, Nat.le_of_ble_eq_true rfl, Nat.le_of_ble_eq_true rfl, by decide⟩ (hH_O (rfl : kotab 85 = some kMo)) (c_M_isOff x1 s _ hq1) (Nat.le_of_ble_eq_true rfl) ?_
  refine kw_step (L' := [some (kr 85), some (kI x1), some (kI q1)]) rfl rfl rfl rfl ?_
  refine kw_step rfl rfl rfl rfl ?_
  refine kw_if_eq rfl rfl (fun c2 => ?_) (fun c2 => ?_)
  · have hf := gift c2 hf
    refine kw_step rfl rfl rfl rfl ?_
    obtain ⟨w3, hf⟩ := gbB hf
    cases hf
    exact kw_ret rfl rfl (if_pos w3) hq
  · have hf := giff c2 hf
    refine kw_step rfl rfl rfl rfl ?_
    refine kw_step rfl rfl rfl rfl ?_
    refine kw_step rfl rfl rfl rfl ?_
    refine kw_step rfl rfl rfl rfl ?_
    obtain ⟨q4, hq4, hf⟩ := gbind hf
    refine kw_callV (vs := [kI (kshl 1 x1)]) rfl rfl rfl ⟨rfl, Nat.le_of_ble_eq_true rfl, Nat.le_of_ble_eq_true rfl, by decide⟩ (hH_O (rfl : kotab 85 = some kMo)) (c_M_removes (kshl 1 x1) s _ hq4) (Nat.le_of_ble_eq_true rfl) ?_
    refine kw_step rfl rfl rfl rfl ?_
    refine kw_get rfl (hH_O (rfl : kotab 85 = some kMo)) rfl ?_
    refine kw_step rfl rfl rfl rfl ?_
    refine kw_step rfl rfl rfl rfl ?_
    refine kw_iald rfl (hH_A (rfl : ktab 86 = some (0, 6))) (by decide) (by decide) (j := 3) rfl ?_
    refine kw_step rfl rfl rfl rfl ?_
    refine kw_step rfl rfl rfl rfl ?_
    obtain ⟨s6, ee7, hf⟩ := gbL hf
    refine kw_iastH rfl (rfl : ktab 86 = some (0, 6)) (by decide) (by decide) (j := 3) rfl ee7 ?_
    refine kw_step rfl rfl rfl rfl ?_
    obtain ⟨w9, hf⟩ := gbB hf
    cases hf
    exact kw_ret rfl rfl (if_pos w9) hq
def f_M_isBetween_18 (x2 : Int) (x3 : Int) (x4 : Int) (x5 : Int) (s : kM) : Option (Int) :=
  if x4 = x3 then (if x5 = x2 then (some 1) else (some 0)) else (some 0)
set_option maxRecDepth 8000 in
theorem b_M_isBetween_18 {sc : List Int} {Q : Option kV → kH → Prop} (x2 : Int) (x3 : Int) (x4 : Int) (x5 : Int) (s : kM) (t : Int) (hf : f_M_isBetween_18 x2 x3 x4 x5 s = some t) (hq : (fun r => Q (some (kI r)) (hH s)) t) : kW sc 2 kc_M_isBetween 2 18 [none, none, some (kI x2), some (kI x3), some (kI x4), some (kI x5)] [] (hH s) Q := by
  unfold f_M_isBetween_18 at hf
  refine kw_step rfl rfl rfl rfl ?_
  refine kw_step rfl rfl rfl rfl ?_
  refine kw_icmp_ne rfl rfl (fun c1 => ?_) (fun c1 => ?_)
  · have hf := giff c1 hf
    refine kw_step rfl rfl rfl rfl ?_
    cases hf
    exact kw_ret rfl rfl rfl hq
  · have hf := gift c1 hf
    refine kw_step rfl rfl rfl rfl ?_
    refine kw_step rfl rfl rfl rfl ?_
    refine kw_icmp_ne rfl rfl (fun c2 => ?_) (fun c2 => ?_)
    · have hf := giff c2 hf
      refine kw_step rfl rfl rfl rfl ?_
      cases hf
      exact kw_ret rfl rfl rfl hq
    · have hf := gift c2 hf
      refine kw_step rfl rfl rfl rfl ?_
      refine kw_goto rfl rfl ?_
      cases hf
      exact kw_ret rfl rfl rfl hq
def f_M_isBetween (x1 : Int) (x2 : Int) (x3 : Int) (s : kM) : Option (Int) :=
  (gI 22 x1).bind fun j1 => (f_M_next x1 s).bind fun q3 => (gI 22 q3).bind fun j4 => if (s 87 j1) = x2 then (if (s 87 j4) = x3 then (some 1) else (f_M_isBetween_18 x2 x3 (s 87 j1) (s 87 j4) s)) else (f_M_isBetween_18 x2 x3 (s 87 j1) (s 87 j4) s)
set_option maxRecDepth 8000 in
theorem c_M_isBetween {sc : List Int} (x1 : Int) (x2 : Int) (x3 : Int) (s : kM) (t : Int) (hf : f_M_isBetween x1 x2 x3 s = some t) : kR sc 2 km_M_isBetween [kr 85, kI x1, kI x2, kI x3] (hH s) (some (kI t)) (hH s) := by
  unfold f_M_isBetween at hf
  refine kR.start rfl ?_
  show kW sc 2 kc_M_isBetween 2 0 [some (kr 85), some (kI x1), some (kI x2), some (kI x3), none, none] [] (hH s) _
  have hq : (fun (r : Option kV) (g : kH) => r = some (kI t) ∧ g = hH s) (some (kI t)) (hH s) := ⟨rfl, rfl⟩
  refine kw_step rfl rfl rfl rfl ?_
  refine kw_get rfl (hH_O (rfl : kotab 85 = some kMo)) rfl ?_
  refine kw_step rfl rfl rfl rfl ?_
  obtain ⟨j1, i2, hf⟩ := gbI hf
  refine kw_iald rfl (hH_A (rfl : ktab 87 = some (0, 22))) i2.1 i2.2.1 i2.2.2 ?_
  refine kw_step (L' := [some (kr 85), some (kI x1), some (kI x2), some (kI x3), some (kI (s 87 j1)), none]) rfl rfl rfl rfl ?_
  refine kw_step rfl rfl rfl rfl ?_
  refine kw_get rfl (hH_O (rfl : kotab 85 = some kMo)) rfl ?_
  refine kw_step rfl rfl rfl rfl ?_
  refine kw_step rfl rfl rfl rfl ?_
  obtain ⟨q3, hq3, hf⟩ := gbind hf
  refine kw_callV (vs := [kI x1]) rfl rfl rfl ⟨rfl, Nat.le_of_ble_eq_true rfl, Nat.le_of_ble_eq_true rfl, by decide⟩ (hH_O (rfl : kotab 85 = some kMo)) (c_M_next x1 s _ hq3) (Nat.le_of_ble_eq_true rfl) ?_
  obtain ⟨j4, i5, hf⟩ := gbI hf
  refine kw_iald rfl (hH_A (rfl : ktab 87 = some (0, 22))) i5.1 i5.2.1 i5.2.2 ?_
  refine kw_step (L' := [some (kr 85), some (kI x1), some (kI x2), some (kI x3), some (kI (s 87 j1)), some (kI (s 87 j4))]) rfl rfl rfl rfl ?_
  refine kw_step rfl rfl rfl rfl ?_
  refine kw_step rfl rfl rfl rfl ?_
  refine kw_icmp_ne rfl rfl (fun c6 => ?_) (fun c6 => ?_)
  · have hf := giff c6 hf
    exact kW_le (L' := [none, none, some (kI x2), some (kI x3), some (kI (s 87 j1)), some (kI (s 87 j4))]) ⟨Or.inl rfl, Or.inl rfl, Or.inr rfl, Or.inr rfl, Or.inr rfl, Or.inr rfl, trivial⟩ (b_M_isBetween_18 x2 x3 (s 87 j1) (s 87 j4) s _ hf hq)
  · have hf := gift c6 hf
    refine kw_step rfl rfl rfl rfl ?_
    refine kw_step rfl rfl rfl rfl ?_
    refine kw_icmp_eq rfl rfl (fun c7 => ?_) (fun c7 => ?_)
    · have hf := gift c7 hf
      refine kw_step rfl rfl rfl rfl ?_
      refine kw_goto rfl rfl ?_
      cases hf
      exact kw_ret rfl rfl rfl hq
    · have hf := giff c7 hf
      exact kW_le (L' := [none, none, some (kI x2), some (kI x3), some (kI (s 87 j1)), some (kI (s 87 j4))]) ⟨Or.inl rfl, Or.inl rfl, Or.inr rfl, Or.inr rfl, Or.inr rfl, Or.inr rfl, trivial⟩ (b_M_isBetween_18 x2 x3 (s 87 j1) (s 87 j4) s _ hf hq)
def f_M_heightOf (x1 : Int) (s : kM) : Option (Int) :=
  (gI 22 x1).bind fun j1 => (f_M_next x1 s).bind fun q3 => (gI 22 q3).bind fun j4 => some (wI ((s 88 j1) + (s 88 j4)))
set_option maxRecDepth 8000 in
theorem c_M_heightOf {sc : List Int} (x1 : Int) (s : kM) (t : Int) (hf : f_M_heightOf x1 s = some t) : kR sc 2 km_M_heightOf [kr 85, kI x1] (hH s) (some (kI t)) (hH s) := by
  unfold f_M_heightOf at hf
  refine kR.start rfl ?_
  show kW sc 2 kc_M_heightOf 1 0 [some (kr 85), some (kI x1)] [] (hH s) _
  have hq : (fun (r : Option kV) (g : kH) => r = some (kI t) ∧ g = hH s) (some (kI t)) (hH s) := ⟨rfl, rfl⟩
  refine kw_step rfl rfl rfl rfl ?_
  refine kw_get rfl (hH_O (rfl : kotab 85 = some kMo)) rfl ?_
  refine kw_step rfl rfl rfl rfl ?_
  obtain ⟨j1, i2, hf⟩ := gbI hf
  refine kw_iald rfl (hH_A (rfl : ktab 88 = some (0, 22))) i2.1 i2.2.1 i2.2.2 ?_
  refine kw_step rfl rfl rfl rfl ?_
  refine kw_get rfl (hH_O (rfl : kotab 85 = some kMo)) rfl ?_
  refine kw_step rfl rfl rfl rfl ?_
  refine kw_step rfl rfl rfl rfl ?_
  obtain ⟨q3, hq3, hf⟩ := gbind hf
  refine kw_callV (vs := [kI x1]) rfl rfl rfl ⟨rfl, Nat.le_of_ble_eq_true rfl, Nat.le_of_ble_eq_true rfl, by decide⟩ (hH_O (rfl : kotab 85 = some kMo)) (c_M_next x1 s _ hq3) (Nat.le_of_ble_eq_true rfl) ?_
  obtain ⟨j4, i5, hf⟩ := gbI hf
  refine kw_iald rfl (hH_A (rfl : ktab 88 = some (0, 22))) i5.1 i5.2.1 i5.2.2 ?_
  refine kw_step rfl rfl rfl rfl ?_
  cases hf
  exact kw_ret rfl rfl rfl hq
def f_M_isApart_75 (x1 : Int) (x2 : Int) (x3 : Int) (s : kM) : Option ((Int) ⊕ (Int)) :=
  some (.inl ((wI (x3 + 1))))
set_option maxRecDepth 8000 in
theorem b_M_isApart_75 {sc : List Int} {Q : Option kV → kH → Prop} (x1 : Int) (x2 : Int) (x3 : Int) (s : kM) (t : (Int) ⊕ (Int)) (hf : f_M_isApart_75 x1 x2 x3 s = some t) (hq : (gE (fun x => kW sc 3 kc_M_isApart 2 15 [some (kr 85), some (kI x1), some (kI x2), some (kI x), none, none] [] (hH s) Q) (fun r => Q (some (kI r)) (hH s))) t) : kW sc 3 kc_M_isApart 2 75 [some (kr 85), some (kI x1), some (kI x2), some (kI x3), none, none] [] (hH s) Q := by
  unfold f_M_isApart_75 at hf
  refine kw_step (L' := [some (kr 85), some (kI x1), some (kI x2), some (kI (wI (x3 + 1))), none, none]) rfl rfl rfl rfl ?_
  refine kw_goto rfl rfl ?_
  cases hf
  exact kW_le (L' := [some (kr 85), some (kI x1), some (kI x2), some (kI (wI (x3 + 1))), none, none]) ⟨Or.inr rfl, Or.inr rfl, Or.inr rfl, Or.inr rfl, Or.inl rfl, Or.inl rfl, trivial⟩ hq
def f_M_isApart_15b (x1 : Int) (x2 : Int) (x3 : Int) (s : kM) : Option ((Int) ⊕ (Int)) :=
  if (s 85 20) ≤ x3 then (some (.inr 0)) else ((gI 44 x3).bind fun j2 => if (s 102 j2) = 2 then ((gI 44 x3).bind fun j5 => (gI 44 x3).bind fun j7 => (gI 44 (kxor (s 103 j7) 1)).bind fun j9 => if (kdiv (s 103 j5) 2) = (kdiv (s 100 j9) 2) then (f_M_isApart_75 x1 x2 x3 s) else ((f_M_isBetween (kdiv (s 103 j5) 2) x1 x2 s).bind fun q12 => if q12 = 0 then (f_M_isApart_75 x1 x2 x3 s) else ((f_M_isBetween (kdiv (s 100 j9) 2) x1 x2 s).bind fun q14 => if q14 = 0 then (f_M_isApart_75 x1 x2 x3 s) else ((f_M_heightOf (kdiv (s 103 j5) 2) s).bind fun q16 => (f_M_heightOf (kdiv (s 100 j9) 2) s).bind fun q17 => if (wI (q16 + q17)) = 2 then ((f_M_heightOf (kdiv (s 103 j5) 2) s).bind fun q19 => if q19 = 1 then (f_M_isApart_75 x1 x2 x3 s) else (some (.inr 1))) else (f_M_isApart_75 x1 x2 x3 s))))) else (f_M_isApart_75 x1 x2 x3 s))
set_option maxRecDepth 8000 in
theorem b_M_isApart_15b {sc : List Int} {Q : Option kV → kH → Prop} (x1 : Int) (x2 : Int) (x3 : Int) (s : kM) (t : (Int) ⊕ (Int)) (hf : f_M_isApart_15b x1 x2 x3 s = some t) (hq : (gE (fun x => kW sc 3 kc_M_isApart 2 15 [some (kr 85), some (kI x1), some (kI x2), some (kI x), none, none] [] (hH s) Q) (fun r => Q (some (kI r)) (hH s))) t) : kW sc 3 kc_M_isApart 2 15 [some (kr 85), some (kI x1), some (kI x2), some (kI x3), none, none] [] (hH s) Q := by
  unfold f_M_isApart_15b at hf
  refine kw_step rfl rfl rfl rfl ?_
  refine kw_step rfl rfl rfl rfl ?_
  refine kw_get rfl (hH_O (rfl : kotab 85 = some kMo)) rfl ?_
  refine kw_icmp_ge rfl rfl (fun c1 => ?_) (fun c1 => ?_)
  · have hf := gift c1 hf
    refine kw_step rfl rfl rfl rfl ?_
    cases hf
    exact kw_ret rfl rfl rfl hq
  · have hf := giff c1 hf
    refine kw_step rfl rfl rfl rfl ?_
    refine kw_get rfl (hH_O (rfl : kotab 85 = some kMo)) rfl ?_
    refine kw_step rfl rfl rfl rfl ?_
    obtain ⟨j2, i3, hf⟩ := gbI hf
    refine kw_iald rfl (hH_A (rfl : ktab 102 = some (0, 44))) i3.1 i3.2.1 i3.2.2 ?_
    refine kw_step rfl rfl rfl rfl ?_
    refine kw_icmp_ne rfl rfl (fun c4 => ?_) (fun c4 => ?_)
    · have hf := giff c4 hf
      exact kW_le (L' := [some (kr 85), some (kI x1), some (kI x2), some (kI x3), none, none]) ⟨Or.inr rfl, Or.inr rfl, Or.inr rfl, Or.inr rfl, Or.inl rfl, Or.inl rfl, trivial⟩ (b_M_isApart_75 x1 x2 x3 s _ hf hq)
    · have hf := gift c4 hf
      refine kw_step rfl rfl rfl rfl ?_
      refine kw_get rfl (hH_O (rfl : kotab 85 = some kMo)) rfl ?_
      refine kw_step rfl rfl rfl rfl ?_
      obtain ⟨j5, i6, hf⟩ := gbI hf
      refine kw_iald rfl (hH_A (rfl : ktab 103 = some (0, 44))) i6.1 i6.2.1 i6.2.2 ?_
      refine kw_step rfl rfl rfl rfl ?_
      refine kw_idiv rfl (by decide) ?_
      refine kw_step (L' := [some (kr 85), some (kI x1), some (kI x2), some (kI x3), some (kI (kdiv (s 103 j5) 2)), none]) rfl rfl rfl rfl ?_
      refine kw_step rfl rfl rfl rfl ?_
      refine kw_get rfl (hH_O (rfl : kotab 85 = some kMo)) rfl ?_
      refine kw_step rfl rfl rfl rfl ?_
      refine kw_get rfl (hH_O (rfl : kotab 85 = some kMo)) rfl ?_
      refine kw_step rfl rfl rfl rfl ?_
      obtain ⟨j7, i8, hf⟩ := gbI hf
      refine kw_iald rfl (hH_A (rfl : ktab 103 = some (0, 44))) i8.1 i8.2.1 i8.2.2 ?_
      refine kw_step rfl rfl rfl rfl ?_
      refine kw_step rfl rfl rfl rfl ?_
      obtain ⟨j9, i10, hf⟩ := gbI hf
      refine kw_iald rfl (hH_A (rfl : ktab 100 = some (0, 44))) i10.1 i10.2.1 i10.2.2 ?_
      refine kw_step rfl rfl rfl rfl ?_
      refine kw_idiv rfl (by decide) ?_
      refine kw_step (L' := [some (kr 85), some (kI x1), some (kI x2), some (kI x3), some (kI (kdiv (s 103 j5) 2)), some (kI (kdiv (s 100 j9) 2))]) rfl rfl rfl rfl ?_
      refine kw_step rfl rfl rfl rfl ?_
      refine kw_step rfl rfl rfl rfl ?_
      refine kw_icmp_eq rfl rfl (fun c11 => ?_) (fun c11 => ?_)
      · have hf := gift c11 hf
        exact kW_le (L' := [some (kr 85), some (kI x1), some (kI x2), some (kI x3), none, none]) ⟨Or.inr rfl, Or.inr rfl, Or.inr rfl, Or.inr rfl, Or.inl rfl, Or.inl rfl, trivial⟩ (b_M_isApart_75 x1 x2 x3 s _ hf hq)
      · have hf := giff c11 hf
        refine kw_step rfl rfl rfl rfl ?_
        refine kw_step rfl rfl rfl rfl ?_
        refine kw_step rfl rfl rfl rfl ?_
        refine kw_step rfl rfl rfl rfl ?_
        obtain ⟨q12, hq12, hf⟩ := gbind hf
        refine kw_callV (vs := [kI (kdiv (s 103 j5) 2), kI x1, kI x2]) rfl rfl rfl ⟨rfl, Nat.le_of_ble_eq_true rfl, Nat.le_of_ble_eq_true rfl, by decide⟩ (hH_O (rfl : kotab 85 = some kMo)) (c_M_isBetween (kdiv (s 103 j5) 2) x1 x2 s _ hq12) (Nat.le_of_ble_eq_true rfl) ?_
        refine kw_if_eq rfl rfl (fun c13 => ?_) (fun c13 => ?_)
        · have hf := gift c13 hf
          exact kW_le (L' := [some (kr 85), some (kI x1), some (kI x2), some (kI x3), none, none]) ⟨Or.inr rfl, Or.inr rfl, Or.inr rfl, Or.inr rfl, Or.inl rfl, Or.inl rfl, trivial⟩ (b_M_isApart_75 x1 x2 x3 s _ hf hq)
        · have hf := giff c13 hf
          refine kw_step rfl rfl rfl rfl ?_
          refine kw_step rfl rfl rfl rfl ?_
          refine kw_step rfl rfl rfl rfl ?_
          refine kw_step rfl rfl rfl rfl ?_
          obtain ⟨q14, hq14, hf⟩ := gbind hf
          refine kw_callV (vs := [kI (kdiv (s 100 j9) 2), kI x1, kI x2]) rfl rfl rfl ⟨rfl, Nat.le_of_ble_eq_true rfl, Nat.le_of_ble_eq_true rfl, by decide⟩ (hH_O (rfl : kotab 85 = some kMo)) (c_M_isBetween (kdiv (s 100 j9) 2) x1 x2 s _ hq14) (Nat.le_of_ble_eq_true rfl) ?_
          refine kw_if_eq rfl rfl (fun c15 => ?_) (fun c15 => ?_)
          · have hf := gift c15 hf
            exact kW_le (L' := [some (kr 85), some (kI x1), some (kI x2), some (kI x3), none, none]) ⟨Or.inr rfl, Or.inr rfl, Or.inr rfl, Or.inr rfl, Or.inl rfl, Or.inl rfl, trivial⟩ (b_M_isApart_75 x1 x2 x3 s _ hf hq)
          · have hf := giff c15 hf
            refine kw_step rfl rfl rfl rfl ?_
            refine kw_step rfl rfl rfl rfl ?_
            obtain ⟨q16, hq16, hf⟩ := gbind hf
            refine kw_callV (vs := [kI (kdiv (s 103 j5) 2)]) rfl rfl rfl ⟨rfl, Nat.le_of_ble_eq_true rfl, Nat.le_of_ble_eq_true rfl, by decide⟩ (hH_O (rfl : kotab 85 = some kMo)) (c_M_heightOf (kdiv (s 103 j5) 2) s _ hq16) (Nat.le_of_ble_eq_true rfl) ?_
            refine kw_step rfl rfl rfl rfl ?_
            refine kw_step rfl rfl rfl rfl ?_
            obtain ⟨q17, hq17, hf⟩ := gbind hf
            refine kw_callV (vs := [kI (kdiv (s 100 j9) 2)]) rfl rfl rfl ⟨rfl, Nat.le_of_ble_eq_true rfl, Nat.le_of_ble_eq_true rfl, by decide⟩ (hH_O (rfl : kotab 85 = some kMo)) (c_M_heightOf (kdiv (s 100 j9) 2) s _ hq17) (Nat.le_of_ble_eq_true rfl) ?_
            refine kw_step rfl rfl rfl rfl ?_
            refine kw_step rfl rfl rfl rfl ?_
            refine kw_icmp_ne rfl rfl (fun c18 => ?_) (fun c18 => ?_)
            · have hf := giff c18 hf
              exact kW_le (L' := [some (kr 85), some (kI x1), some (kI x2), some (kI x3), none, none]) ⟨Or.inr rfl, Or.inr rfl, Or.inr rfl, Or.inr rfl, Or.inl rfl, Or.inl rfl, trivial⟩ (b_M_isApart_75 x1 x2 x3 s _ hf hq)
            · have hf := gift c18 hf
              refine kw_step rfl rfl rfl rfl ?_
              refine kw_step rfl rfl rfl rfl ?_
              obtain ⟨q19, hq19, hf⟩ := gbind hf
              refine kw_callV (vs := [kI (kdiv (s 103 j5) 2)]) rfl rfl rfl ⟨rfl, Nat.le_of_ble_eq_true rfl, Nat.le_of_ble_eq_true rfl, by decide⟩ (hH_O (rfl : kotab 85 = some kMo)) (c_M_heightOf (kdiv (s 103 j5) 2) s _ hq19) (Nat.le_of_ble_eq_true rfl) ?_
              refine kw_step rfl rfl rfl rfl ?_
              refine kw_icmp_eq rfl rfl (fun c20 => ?_) (fun c20 => ?_)
              · have hf := gift c20 hf
                exact kW_le (L' := [some (kr 85), some (kI x1), some (kI x2), some (kI x3), none, none]) ⟨Or.inr rfl, Or.inr rfl, Or.inr rfl, Or.inr rfl, Or.inl rfl, Or.inl rfl, trivial⟩ (b_M_isApart_75 x1 x2 x3 s _ hf hq)
              · have hf := giff c20 hf
                refine kw_step rfl rfl rfl rfl ?_
                cases hf
                exact kw_ret rfl rfl rfl hq
def f_M_isApart_15 (x1 : Int) (x2 : Int) (x3 : Int) (s : kM) : Option (Int) :=
  gL (fun (x : Int) => f_M_isApart_15b x1 x2 x s) gF (x3)
theorem b_M_isApart_15 {sc : List Int} {Q : Option kV → kH → Prop} (x1 : Int) (x2 : Int) (x3 : Int) (s : kM) (t : Int) (hf : f_M_isApart_15 x1 x2 x3 s = some t) (hq : (fun r => Q (some (kI r)) (hH s)) t) : kW sc 3 kc_M_isApart 2 15 [some (kr 85), some (kI x1), some (kI x2), some (kI x3), none, none] [] (hH s) Q :=
  gL_ind (P := fun (x : Int) => kW sc 3 kc_M_isApart 2 15 [some (kr 85), some (kI x1), some (kI x2), some (kI x), none, none] [] (hH s) Q) (q := (fun r => Q (some (kI r)) (hH s))) (fun x t hf hq => b_M_isApart_15b x1 x2 x s t hf hq) gF (x3) t hf hq
def f_M_isApart (x1 : Int) (x2 : Int) (s : kM) : Option (Int) :=
  (f_M_isBridge x1 s).bind fun q1 => if q1 = 0 then (some 0) else ((f_M_isBridge x2 s).bind fun q3 => if q3 = 0 then (some 0) else (if x1 = x2 then (some 0) else (f_M_isApart_15 x1 x2 0 s)))
set_option maxRecDepth 8000 in
theorem c_M_isApart {sc : List Int} (x1 : Int) (x2 : Int) (s : kM) (t : Int) (hf : f_M_isApart x1 x2 s = some t) : kR sc 3 km_M_isApart [kr 85, kI x1, kI x2] (hH s) (some (kI t)) (hH s) := by
  unfold f_M_isApart at hf
  refine kR.start rfl ?_
  show kW sc 3 kc_M_isApart 2 0 [some (kr 85), some (kI x1), some (kI x2), none, none, none] [] (hH s) _
  have hq : (fun (r : Option kV) (g : kH) => r = some (kI t) ∧ g = hH s) (some (kI t)) (hH s) := ⟨rfl, rfl⟩
  refine kw_step rfl rfl rfl rfl ?_
  refine kw_step rfl rfl rfl rfl ?_
  obtain ⟨q1, hq1, hf⟩ := gbind hf
  refine kw_callV (vs := [kI x1]) rfl rfl rfl ⟨rfl, Nat.le_of_ble_eq_true rfl, Nat.le_of_ble_eq_true rfl, by decide⟩ (hH_O (rfl : kotab 85 = some kMo)) (c_M_isBridge x1 s _ hq1) (Nat.le_of_ble_eq_true rfl) ?_
  refine kw_if_eq rfl rfl (fun c2 => ?_) (fun c2 => ?_)
  · have hf := gift c2 hf
    refine kw_step rfl rfl rfl rfl ?_
    cases hf
    exact kw_ret rfl rfl rfl hq
  · have hf := giff c2 hf
    refine kw_step rfl rfl rfl rfl ?_
    refine kw_step rfl rfl rfl rfl ?_
    obtain ⟨q3, hq3, hf⟩ := gbind hf
    refine kw_callV (vs := [kI x2]) rfl rfl rfl ⟨rfl, Nat.le_of_ble_eq_true rfl, Nat.le_of_ble_eq_true rfl, by decide⟩ (hH_O (rfl : kotab 85 = some kMo)) (c_M_isBridge x2 s _ hq3) (Nat.le_of_ble_eq_true rfl) ?_
    refine kw_if_eq rfl rfl (fun c4 => ?_) (fun c4 => ?_)
    · have hf := gift c4 hf
      refine kw_step rfl rfl rfl rfl ?_
      cases hf
      exact kw_ret rfl rfl rfl hq
    · have hf := giff c4 hf
      refine kw_step rfl rfl rfl rfl ?_
      refine kw_step rfl rfl rfl rfl ?_
      refine kw_icmp_ne rfl rfl (fun c5 => ?_) (fun c5 => ?_)
      · have hf := giff c5 hf
        refine kw_step rfl rfl rfl rfl ?_
        refine kw_step (L' := [some (kr 85), some (kI x1), some (kI x2), some (kI 0), none, none]) rfl rfl rfl rfl ?_
        exact kW_le (L' := [some (kr 85), some (kI x1), some (kI x2), some (kI 0), none, none]) ⟨Or.inr rfl, Or.inr rfl, Or.inr rfl, Or.inr rfl, Or.inl rfl, Or.inl rfl, trivial⟩ (b_M_isApart_15 x1 x2 0 s _ hf hq)
      · have hf := gift c5 hf
        refine kw_step rfl rfl rfl rfl ?_
        cases hf
        exact kw_ret rfl rfl rfl hq
def f_M_apart (x1 : Int) (x2 : Int) (s : kM) : Option (Int × kM) :=
  (f_M_fillsLand s).bind fun q1 => (f_M_isApart x1 x2 q1).bind fun q3 => if q3 = 0 then ((gB q3).bind fun _ => some (q3, q1)) else ((f_M_removes (kor (kshl 1 x1) (kshl 1 x2)) q1).bind fun q6 => gLet (gU q6 86 3 (wI ((q6 86 3) + 1))) fun s8 => (gB q3).bind fun _ => some (q3, s8))
set_option maxRecDepth 8000 in
theorem c_M_apart {sc : List Int} (x1 : Int) (x2 : Int) (s : kM) (t : Int × kM) (hf : f_M_apart x1 x2 s = some t) : kR sc 4 km_M_apart [kr 85, kI x1, kI x2] (hH s) (some (kI t.1)) (hH t.2) := by
  unfold f_M_apart at hf
  refine kR.start rfl ?_
  show kW sc 4 kc_M_apart 2 0 [some (kr 85), some (kI x1), some (kI x2), none] [] (hH s) _
  have hq : (fun (r : Option kV) (g : kH) => r = some (kI t.1) ∧ g = hH t.2) (some (kI t.1)) (hH t.2) := ⟨rfl, rfl⟩
  refine kw_step rfl rfl rfl rfl ?_
  obtain ⟨q1, hq1, hf⟩ := gbind hf
  refine kw_callV (vs := []) rfl rfl rfl ⟨rfl, Nat.le_of_ble_eq_true rfl, Nat.le_of_ble_eq_true rfl, by decide⟩ (hH_O (rfl : kotab 85 = some kMo)) (c_M_fillsLand s _ hq1) (Nat.le_of_ble_eq_true rfl) ?_
  refine kw_step rfl rfl rfl rfl ?_
  refine kw_step rfl rfl rfl rfl ?_
  refine kw_step rfl rfl rfl rfl ?_
  obtain ⟨q3, hq3, hf⟩ := gbind hf
  refine kw_callV (vs := [kI x1, kI x2]) rfl rfl rfl ⟨rfl, Nat.le_of_ble_eq_true rfl, Nat.le_of_ble_eq_true rfl, by decide⟩ (hH_O (rfl : kotab 85 = some kMo)) (c_M_isApart x1 x2 q1 _ hq3) (Nat.le_of_ble_eq_true rfl) ?_
  refine kw_step (L' := [some (kr 85), some (kI x1), some (kI x2), some (kI q3)]) rfl rfl rfl rfl ?_
  refine kw_step rfl rfl rfl rfl ?_
  refine kw_if_eq rfl rfl (fun c4 => ?_) (fun c4 => ?_)
  · have hf := gift c4 hf
    refine kw_step rfl rfl rfl rfl ?_
    obtain ⟨w5, hf⟩ := gbB hf
    cases hf
    exact kw_ret rfl rfl (if_pos w5) hq
  · have hf := giff c4 hf
    refine kw_step rfl rfl rfl rfl ?_
    refine kw_step rfl rfl rfl rfl ?_
    refine kw_step rfl rfl rfl rfl ?_
    refine kw_step rfl rfl rfl rfl ?_
    refine kw_step rfl rfl rfl rfl ?_
    refine kw_step rfl rfl rfl rfl ?_
    refine kw_step rfl rfl rfl rfl ?_
    refine kw_step rfl rfl rfl rfl ?_
    obtain ⟨q6, hq6, hf⟩ := gbind hf
    refine kw_callV (vs := [kI (kor (kshl 1 x1) (kshl 1 x2))]) rfl rfl rfl ⟨rfl, Nat.le_of_ble_eq_true rfl, Nat.le_of_ble_eq_true rfl, by decide⟩ (hH_O (rfl : kotab 85 = some kMo)) (c_M_removes (kor (kshl 1 x1) (kshl 1 x2)) q1 _ hq6) (Nat.le_of_ble_eq_true rfl) ?_
    refine kw_step rfl rfl rfl rfl ?_
    refine kw_get rfl (hH_O (rfl : kotab 85 = some kMo)) rfl ?_
    refine kw_step rfl rfl rfl rfl ?_
    refine kw_step rfl rfl rfl rfl ?_
    refine kw_iald rfl (hH_A (rfl : ktab 86 = some (0, 6))) (by decide) (by decide) (j := 3) rfl ?_
    refine kw_step rfl rfl rfl rfl ?_
    refine kw_step rfl rfl rfl rfl ?_
    obtain ⟨s8, ee9, hf⟩ := gbL hf
    refine kw_iastH rfl (rfl : ktab 86 = some (0, 6)) (by decide) (by decide) (j := 3) rfl ee9 ?_
    refine kw_step rfl rfl rfl rfl ?_
    obtain ⟨w11, hf⟩ := gbB hf
    cases hf
    exact kw_ret rfl rfl (if_pos w11) hq
def f_M_isSlideLand_68 (x2 : Int) (x3 : Int) (x4 : Int) (x5 : Int) (x7 : Int) (x8 : Int) (x9 : Int) (y0 : Int) (s : kM) : Option ((Int × Int × Int × Int × Int × kM) ⊕ (Int × kM)) :=
  (f_M_heightOf x8 s).bind fun q1 => (gI 44 (kxor x3 1)).bind fun j2 => some (.inl ((s 100 j2), (kor x4 (kxor x2 x9)), (kor x5 (kshl 1 q1)), y0, (wI (x7 + 1)), s))
set_option maxRecDepth 8000 in
theorem b_M_isSlideLand_68 {sc : List Int} {Q : Option kV → kH → Prop} (x2 : Int) (x3 : Int) (x4 : Int) (x5 : Int) (x7 : Int) (x8 : Int) (x9 : Int) (y0 : Int) (s : kM) (t : (Int × Int × Int × Int × Int × kM) ⊕ (Int × kM)) (hf : f_M_isSlideLand_68 x2 x3 x4 x5 x7 x8 x9 y0 s = some t) (hq : (gE (fun x => kW sc 3 kc_M_isSlideLand 2 13 [some (kr 85), none, some (kI x2), some (kI x.1), some (kI x.2.1), some (kI x.2.2.1), some (kI x.2.2.2.1), some (kI x.2.2.2.2.1), none, none] [] (hH x.2.2.2.2.2) Q) (fun r => Q (some (kI r.1)) (hH r.2))) t) : kW sc 3 kc_M_isSlideLand 2 68 [some (kr 85), none, some (kI x2), some (kI x3), some (kI x4), some (kI x5), none, some (kI x7), some (kI x8), some (kI x9)] [kI y0] (hH s) Q := by
  unfold f_M_isSlideLand_68 at hf
  refine kw_step (L' := [some (kr 85), none, some (kI x2), some (kI x3), some (kI x4), some (kI x5), some (kI y0), some (kI x7), some (kI x8), some (kI x9)]) rfl rfl rfl rfl ?_
  refine kw_step rfl rfl rfl rfl ?_
  refine kw_step rfl rfl rfl rfl ?_
  refine kw_step rfl rfl rfl rfl ?_
  refine kw_step rfl rfl rfl rfl ?_
  refine kw_step rfl rfl rfl rfl ?_
  refine kw_step (L' := [some (kr 85), none, some (kI x2), some (kI x3), some (kI (kor x4 (kxor x2 x9))), some (kI x5), some (kI y0), some (kI x7), some (kI x8), some (kI x9)]) rfl rfl rfl rfl ?_
  refine kw_step rfl rfl rfl rfl ?_
  refine kw_step rfl rfl rfl rfl ?_
  refine kw_step rfl rfl rfl rfl ?_
  refine kw_step rfl rfl rfl rfl ?_
  obtain ⟨q1, hq1, hf⟩ := gbind hf
  refine kw_callV (vs := [kI x8]) rfl rfl rfl ⟨rfl, Nat.le_of_ble_eq_true rfl, Nat.le_of_ble_eq_true rfl, by decide⟩ (hH_O (rfl : kotab 85 = some kMo)) (c_M_heightOf x8 s _ hq1) (Nat.le_of_ble_eq_true rfl) ?_
  refine kw_step rfl rfl rfl rfl ?_
  refine kw_step rfl rfl rfl rfl ?_
  refine kw_step (L' := [some (kr 85), none, some (kI x2), some (kI x3), some (kI (kor x4 (kxor x2 x9))), some (kI (kor x5 (kshl 1 q1))), some (kI y0), some (kI x7), some (kI x8), some (kI x9)]) rfl rfl rfl rfl ?_
  refine kw_step rfl rfl rfl rfl ?_
  refine kw_get rfl (hH_O (rfl : kotab 85 = some kMo)) rfl ?_
  refine kw_step rfl rfl rfl rfl ?_
  refine kw_step rfl rfl rfl rfl ?_
  refine kw_step rfl rfl rfl rfl ?_
  obtain ⟨j2, i3, hf⟩ := gbI hf
  refine kw_iald rfl (hH_A (rfl : ktab 100 = some (0, 44))) i3.1 i3.2.1 i3.2.2 ?_
  refine kw_step (L' := [some (kr 85), none, some (kI x2), some (kI (s 100 j2)), some (kI (kor x4 (kxor x2 x9))), some (kI (kor x5 (kshl 1 q1))), some (kI y0), some (kI x7), some (kI x8), some (kI x9)]) rfl rfl rfl rfl ?_
  refine kw_step (L' := [some (kr 85), none, some (kI x2), some (kI (s 100 j2)), some (kI (kor x4 (kxor x2 x9))), some (kI (kor x5 (kshl 1 q1))), some (kI y0), some (kI (wI (x7 + 1))), some (kI x8), some (kI x9)]) rfl rfl rfl rfl ?_
  refine kw_goto rfl rfl ?_
  cases hf
  exact kW_le (L' := [some (kr 85), none, some (kI x2), some (kI (s 100 j2)), some (kI (kor x4 (kxor x2 x9))), some (kI (kor x5 (kshl 1 q1))), some (kI y0), some (kI (wI (x7 + 1))), none, none]) ⟨Or.inr rfl, Or.inl rfl, Or.inr rfl, Or.inr rfl, Or.inr rfl, Or.inr rfl, Or.inr rfl, Or.inr rfl, Or.inl rfl, Or.inl rfl, trivial⟩ hq
def f_M_isSlideLand_67 (x2 : Int) (x3 : Int) (x4 : Int) (x5 : Int) (x7 : Int) (x8 : Int) (x9 : Int) (s : kM) : Option ((Int × Int × Int × Int × Int × kM) ⊕ (Int × kM)) :=
  f_M_isSlideLand_68 x2 x3 x4 x5 x7 x8 x9 0 s
set_option maxRecDepth 8000 in
theorem b_M_isSlideLand_67 {sc : List Int} {Q : Option kV → kH → Prop} (x2 : Int) (x3 : Int) (x4 : Int) (x5 : Int) (x7 : Int) (x8 : Int) (x9 : Int) (s : kM) (t : (Int × Int × Int × Int × Int × kM) ⊕ (Int × kM)) (hf : f_M_isSlideLand_67 x2 x3 x4 x5 x7 x8 x9 s = some t) (hq : (gE (fun x => kW sc 3 kc_M_isSlideLand 2 13 [some (kr 85), none, some (kI x2), some (kI x.1), some (kI x.2.1), some (kI x.2.2.1), some (kI x.2.2.2.1), some (kI x.2.2.2.2.1), none, none] [] (hH x.2.2.2.2.2) Q) (fun r => Q (some (kI r.1)) (hH r.2))) t) : kW sc 3 kc_M_isSlideLand 2 67 [some (kr 85), none, some (kI x2), some (kI x3), some (kI x4), some (kI x5), none, some (kI x7), some (kI x8), some (kI x9)] [] (hH s) Q := by
  unfold f_M_isSlideLand_67 at hf
  refine kw_step rfl rfl rfl rfl ?_
  exact kW_le (L' := [some (kr 85), none, some (kI x2), some (kI x3), some (kI x4), some (kI x5), none, some (kI x7), some (kI x8), some (kI x9)]) ⟨Or.inr rfl, Or.inl rfl, Or.inr rfl, Or.inr rfl, Or.inr rfl, Or.inr rfl, Or.inl rfl, Or.inr rfl, Or.inr rfl, Or.inr rfl, trivial⟩ (b_M_isSlideLand_68 x2 x3 x4 x5 x7 x8 x9 0 s _ hf hq)
def f_M_isSlideLand_13b (x2 : Int) (x3 : Int) (x4 : Int) (x5 : Int) (x6 : Int) (x7 : Int) (s : kM) : Option ((Int × Int × Int × Int × Int × kM) ⊕ (Int × kM)) :=
  if 3 ≤ x7 then (if x6 = 0 then (some (.inr (0, s))) else (if x5 = 7 then (some (.inr (1, s))) else (some (.inr (0, s))))) else ((gI 3 x7).bind fun j4 => gLet (gU s 116 j4 (kdiv x3 2)) fun s6 => (gI 22 (kdiv x3 2)).bind fun j9 => (f_M_next (kdiv x3 2) s6).bind fun q11 => (gI 22 q11).bind fun j12 => if x6 = 0 then (f_M_isSlideLand_67 x2 x3 x4 x5 x7 (kdiv x3 2) (kor (kshl 1 (s6 87 j9)) (kshl 1 (s6 87 j12))) s6) else ((gI 22 (kdiv x3 2)).bind fun j15 => (f_M_next (kdiv x3 2) s6).bind fun q17 => (gI 22 q17).bind fun j18 => if (s6 87 j15) = (s6 87 j18) then (f_M_isSlideLand_67 x2 x3 x4 x5 x7 (kdiv x3 2) (kor (kshl 1 (s6 87 j9)) (kshl 1 (s6 87 j12))) s6) else (if (kand (kor (kshl 1 (s6 87 j9)) (kshl 1 (s6 87 j12))) x2) = (kor (kshl 1 (s6 87 j9)) (kshl 1 (s6 87 j12))) then (if (kand x4 (kxor x2 (kor (kshl 1 (s6 87 j9)) (kshl 1 (s6 87 j12))))) = 0 then (f_M_isSlideLand_68 x2 x3 x4 x5 x7 (kdiv x3 2) (kor (kshl 1 (s6 87 j9)) (kshl 1 (s6 87 j12))) 1 s6) else (f_M_isSlideLand_67 x2 x3 x4 x5 x7 (kdiv x3 2) (kor (kshl 1 (s6 87 j9)) (kshl 1 (s6 87 j12))) s6)) else (f_M_isSlideLand_67 x2 x3 x4 x5 x7 (kdiv x3 2) (kor (kshl 1 (s6 87 j9)) (kshl 1 (s6 87 j12))) s6))))
set_option maxRecDepth 8000 in
theorem b_M_isSlideLand_13b {sc : List Int} {Q : Option kV → kH → Prop} (x2 : Int) (x3 : Int) (x4 : Int) (x5 : Int) (x6 : Int) (x7 : Int) (s : kM) (t : (Int × Int × Int × Int × Int × kM) ⊕ (Int × kM)) (hf : f_M_isSlideLand_13b x2 x3 x4 x5 x6 x7 s = some t) (hq : (gE (fun x => kW sc 3 kc_M_isSlideLand 2 13 [some (kr 85), none, some (kI x2), some (kI x.1), some (kI x.2.1), some (kI x.2.2.1), some (kI x.2.2.2.1), some (kI x.2.2.2.2.1), none, none] [] (hH x.2.2.2.2.2) Q) (fun r => Q (some (kI r.1)) (hH r.2))) t) : kW sc 3 kc_M_isSlideLand 2 13 [some (kr 85), none, some (kI x2), some (kI x3), some (kI x4), some (kI x5), some (kI x6), some (kI x7), none, none] [] (hH s) Q := by
  unfold f_M_isSlideLand_13b at hf
  refine kw_step rfl rfl rfl rfl ?_
  refine kw_step rfl rfl rfl rfl ?_
  refine kw_icmp_ge rfl rfl (fun c1 => ?_) (fun c1 => ?_)
  · have hf := gift c1 hf
    refine kw_step rfl rfl rfl rfl ?_
    refine kw_if_eq rfl rfl (fun c2 => ?_) (fun c2 => ?_)
    · have hf := gift c2 hf
      refine kw_step rfl rfl rfl rfl ?_
      cases hf
      exact kw_ret rfl rfl rfl hq
    · have hf := giff c2 hf
      refine kw_step rfl rfl rfl rfl ?_
      refine kw_step rfl rfl rfl rfl ?_
      refine kw_icmp_ne rfl rfl (fun c3 => ?_) (fun c3 => ?_)
      · have hf := giff c3 hf
        refine kw_step rfl rfl rfl rfl ?_
        cases hf
        exact kw_ret rfl rfl rfl hq
      · have hf := gift c3 hf
        refine kw_step rfl rfl rfl rfl ?_
        refine kw_goto rfl rfl ?_
        cases hf
        exact kw_ret rfl rfl rfl hq
  · have hf := giff c1 hf
    refine kw_step rfl rfl rfl rfl ?_
    refine kw_step rfl rfl rfl rfl ?_
    refine kw_idiv rfl (by decide) ?_
    refine kw_step (L' := [some (kr 85), none, some (kI x2), some (kI x3), some (kI x4), some (kI x5), some (kI x6), some (kI x7), some (kI (kdiv x3 2)), none]) rfl rfl rfl rfl ?_
    refine kw_step rfl rfl rfl rfl ?_
    refine kw_get rfl (hH_O (rfl : kotab 85 = some kMo)) rfl ?_
    refine kw_step rfl rfl rfl rfl ?_
    refine kw_step rfl rfl rfl rfl ?_
    obtain ⟨j4, i5, hf⟩ := gbI hf
    obtain ⟨s6, ee7, hf⟩ := gbL hf
    refine kw_iastH rfl (rfl : ktab 116 = some (0, 3)) i5.1 i5.2.1 i5.2.2 ee7 ?_
    refine kw_step rfl rfl rfl rfl ?_
    refine kw_step rfl rfl rfl rfl ?_
    refine kw_get rfl (hH_O (rfl : kotab 85 = some kMo)) rfl ?_
    refine kw_step rfl rfl rfl rfl ?_
    obtain ⟨j9, i10, hf⟩ := gbI hf
    refine kw_iald rfl (hH_A (rfl : ktab 87 = some (0, 22))) i10.1 i10.2.1 i10.2.2 ?_
    refine kw_step rfl rfl rfl rfl ?_
    refine kw_step rfl rfl rfl rfl ?_
    refine kw_step rfl rfl rfl rfl ?_
    refine kw_get rfl (hH_O (rfl : kotab 85 = some kMo)) rfl ?_
    refine kw_step rfl rfl rfl rfl ?_
    refine kw_step rfl rfl rfl rfl ?_
    obtain ⟨q11, hq11, hf⟩ := gbind hf
    refine kw_callV (vs := [kI (kdiv x3 2)]) rfl rfl rfl ⟨rfl, Nat.le_of_ble_eq_true rfl, Nat.le_of_ble_eq_true rfl, by decide⟩ (hH_O (rfl : kotab 85 = some kMo)) (c_M_next (kdiv x3 2) s6 _ hq11) (Nat.le_of_ble_eq_true rfl) ?_
    obtain ⟨j12, i13, hf⟩ := gbI hf
    refine kw_iald rfl (hH_A (rfl : ktab 87 = some (0, 22))) i13.1 i13.2.1 i13.2.2 ?_
    refine kw_step rfl rfl rfl rfl ?_
    refine kw_step rfl rfl rfl rfl ?_
    refine kw_step (L' := [some (kr 85), none, some (kI x2), some (kI x3), some (kI x4), some (kI x5), some (kI x6), some (kI x7), some (kI (kdiv x3 2)), some (kI (kor (kshl 1 (s6 87 j9)) (kshl 1 (s6 87 j12))))]) rfl rfl rfl rfl ?_
    refine kw_step rfl rfl rfl rfl ?_
    refine kw_if_eq rfl rfl (fun c14 => ?_) (fun c14 => ?_)
    · have hf := gift c14 hf
      exact kW_le (L' := [some (kr 85), none, some (kI x2), some (kI x3), some (kI x4), some (kI x5), none, some (kI x7), some (kI (kdiv x3 2)), some (kI (kor (kshl 1 (s6 87 j9)) (kshl 1 (s6 87 j12))))]) ⟨Or.inr rfl, Or.inl rfl, Or.inr rfl, Or.inr rfl, Or.inr rfl, Or.inr rfl, Or.inl rfl, Or.inr rfl, Or.inr rfl, Or.inr rfl, trivial⟩ (b_M_isSlideLand_67 x2 x3 x4 x5 x7 (kdiv x3 2) (kor (kshl 1 (s6 87 j9)) (kshl 1 (s6 87 j12))) s6 _ hf hq)
    · have hf := giff c14 hf
      refine kw_step rfl rfl rfl rfl ?_
      refine kw_get rfl (hH_O (rfl : kotab 85 = some kMo)) rfl ?_
      refine kw_step rfl rfl rfl rfl ?_
      obtain ⟨j15, i16, hf⟩ := gbI hf
      refine kw_iald rfl (hH_A (rfl : ktab 87 = some (0, 22))) i16.1 i16.2.1 i16.2.2 ?_
      refine kw_step rfl rfl rfl rfl ?_
      refine kw_get rfl (hH_O (rfl : kotab 85 = some kMo)) rfl ?_
      refine kw_step rfl rfl rfl rfl ?_
      refine kw_step rfl rfl rfl rfl ?_
      obtain ⟨q17, hq17, hf⟩ := gbind hf
      refine kw_callV (vs := [kI (kdiv x3 2)]) rfl rfl rfl ⟨rfl, Nat.le_of_ble_eq_true rfl, Nat.le_of_ble_eq_true rfl, by decide⟩ (hH_O (rfl : kotab 85 = some kMo)) (c_M_next (kdiv x3 2) s6 _ hq17) (Nat.le_of_ble_eq_true rfl) ?_
      obtain ⟨j18, i19, hf⟩ := gbI hf
      refine kw_iald rfl (hH_A (rfl : ktab 87 = some (0, 22))) i19.1 i19.2.1 i19.2.2 ?_
      refine kw_icmp_eq rfl rfl (fun c20 => ?_) (fun c20 => ?_)
      · have hf := gift c20 hf
        exact kW_le (L' := [some (kr 85), none, some (kI x2), some (kI x3), some (kI x4), some (kI x5), none, some (kI x7), some (kI (kdiv x3 2)), some (kI (kor (kshl 1 (s6 87 j9)) (kshl 1 (s6 87 j12))))]) ⟨Or.inr rfl, Or.inl rfl, Or.inr rfl, Or.inr rfl, Or.inr rfl, Or.inr rfl, Or.inl rfl, Or.inr rfl, Or.inr rfl, Or.inr rfl, trivial⟩ (b_M_isSlideLand_67 x2 x3 x4 x5 x7 (kdiv x3 2) (kor (kshl 1 (s6 87 j9)) (kshl 1 (s6 87 j12))) s6 _ hf hq)
      · have hf := giff c20 hf
        refine kw_step rfl rfl rfl rfl ?_
        refine kw_step rfl rfl rfl rfl ?_
        refine kw_step rfl rfl rfl rfl ?_
        refine kw_step rfl rfl rfl rfl ?_
        refine kw_icmp_ne rfl rfl (fun c21 => ?_) (fun c21 => ?_)
        · have hf := giff c21 hf
          exact kW_le (L' := [some (kr 85), none, some (kI x2), some (kI x3), some (kI x4), some (kI x5), none, some (kI x7), some (kI (kdiv x3 2)), some (kI (kor (kshl 1 (s6 87 j9)) (kshl 1 (s6 87 j12))))]) ⟨Or.inr rfl, Or.inl rfl, Or.inr rfl, Or.inr rfl, Or.inr rfl, Or.inr rfl, Or.inl rfl, Or.inr rfl, Or.inr rfl, Or.inr rfl, trivial⟩ (b_M_isSlideLand_67 x2 x3 x4 x5 x7 (kdiv x3 2) (kor (kshl 1 (s6 87 j9)) (kshl 1 (s6 87 j12))) s6 _ hf hq)
        · have hf := gift c21 hf
          refine kw_step rfl rfl rfl rfl ?_
          refine kw_step rfl rfl rfl rfl ?_
          refine kw_step rfl rfl rfl rfl ?_
          refine kw_step rfl rfl rfl rfl ?_
          refine kw_step rfl rfl rfl rfl ?_
          refine kw_if_ne rfl rfl (fun c22 => ?_) (fun c22 => ?_)
          · have hf := giff c22 hf
            exact kW_le (L' := [some (kr 85), none, some (kI x2), some (kI x3), some (kI x4), some (kI x5), none, some (kI x7), some (kI (kdiv x3 2)), some (kI (kor (kshl 1 (s6 87 j9)) (kshl 1 (s6 87 j12))))]) ⟨Or.inr rfl, Or.inl rfl, Or.inr rfl, Or.inr rfl, Or.inr rfl, Or.inr rfl, Or.inl rfl, Or.inr rfl, Or.inr rfl, Or.inr rfl, trivial⟩ (b_M_isSlideLand_67 x2 x3 x4 x5 x7 (kdiv x3 2) (kor (kshl 1 (s6 87 j9)) (kshl 1 (s6 87 j12))) s6 _ hf hq)
          · have hf := gift c22 hf
            refine kw_step rfl rfl rfl rfl ?_
            refine kw_goto rfl rfl ?_
            exact kW_le (L' := [some (kr 85), none, some (kI x2), some (kI x3), some (kI x4), some (kI x5), none, some (kI x7), some (kI (kdiv x3 2)), some (kI (kor (kshl 1 (s6 87 j9)) (kshl 1 (s6 87 j12))))]) ⟨Or.inr rfl, Or.inl rfl, Or.inr rfl, Or.inr rfl, Or.inr rfl, Or.inr rfl, Or.inl rfl, Or.inr rfl, Or.inr rfl, Or.inr rfl, trivial⟩ (b_M_isSlideLand_68 x2 x3 x4 x5 x7 (kdiv x3 2) (kor (kshl 1 (s6 87 j9)) (kshl 1 (s6 87 j12))) 1 s6 _ hf hq)
def f_M_isSlideLand_13 (x2 : Int) (x3 : Int) (x4 : Int) (x5 : Int) (x6 : Int) (x7 : Int) (s : kM) : Option (Int × kM) :=
  gL (fun (x : Int × Int × Int × Int × Int × kM) => f_M_isSlideLand_13b x2 x.1 x.2.1 x.2.2.1 x.2.2.2.1 x.2.2.2.2.1 x.2.2.2.2.2) gF (x3, x4, x5, x6, x7, s)
theorem b_M_isSlideLand_13 {sc : List Int} {Q : Option kV → kH → Prop} (x2 : Int) (x3 : Int) (x4 : Int) (x5 : Int) (x6 : Int) (x7 : Int) (s : kM) (t : Int × kM) (hf : f_M_isSlideLand_13 x2 x3 x4 x5 x6 x7 s = some t) (hq : (fun r => Q (some (kI r.1)) (hH r.2)) t) : kW sc 3 kc_M_isSlideLand 2 13 [some (kr 85), none, some (kI x2), some (kI x3), some (kI x4), some (kI x5), some (kI x6), some (kI x7), none, none] [] (hH s) Q :=
  gL_ind (P := fun (x : Int × Int × Int × Int × Int × kM) => kW sc 3 kc_M_isSlideLand 2 13 [some (kr 85), none, some (kI x2), some (kI x.1), some (kI x.2.1), some (kI x.2.2.1), some (kI x.2.2.2.1), some (kI x.2.2.2.2.1), none, none] [] (hH x.2.2.2.2.2) Q) (q := (fun r => Q (some (kI r.1)) (hH r.2))) (fun x t hf hq => b_M_isSlideLand_13b x2 x.1 x.2.1 x.2.2.1 x.2.2.2.1 x.2.2.2.2.1 x.2.2.2.2.2 t hf hq) gF (x3, x4, x5, x6, x7, s) t hf hq
def f_M_isSlideLand (x1 : Int) (x2 : Int) (s : kM) : Option (Int × kM) :=
  (gI 44 x1).bind fun j1 => f_M_isSlideLand_13 x2 (s 103 j1) 0 0 1 0 s
set_option maxRecDepth 8000 in
theorem c_M_isSlideLand {sc : List Int} (x1 : Int) (x2 : Int) (s : kM) (t : Int × kM) (hf : f_M_isSlideLand x1 x2 s = some t) : kR sc 3 km_M_isSlideLand [kr 85, kI x1, kI x2] (hH s) (some (kI t.1)) (hH t.2) := by
  unfold f_M_isSlideLand at hf
  refine kR.start rfl ?_
  show kW sc 3 kc_M_isSlideLand 2 0 [some (kr 85), some (kI x1), some (kI x2), none, none, none, none, none, none, none] [] (hH s) _
  have hq : (fun (r : Option kV) (g : kH) => r = some (kI t.1) ∧ g = hH t.2) (some (kI t.1)) (hH t.2) := ⟨rfl, rfl⟩
  refine kw_step rfl rfl rfl rfl ?_
  refine kw_get rfl (hH_O (rfl : kotab 85 = some kMo)) rfl ?_
  refine kw_step rfl rfl rfl rfl ?_
  obtain ⟨j1, i2, hf⟩ := gbI hf
  refine kw_iald rfl (hH_A (rfl : ktab 103 = some (0, 44))) i2.1 i2.2.1 i2.2.2 ?_
  refine kw_step (L' := [some (kr 85), some (kI x1), some (kI x2), some (kI (s 103 j1)), none, none, none, none, none, none]) rfl rfl rfl rfl ?_
  refine kw_step rfl rfl rfl rfl ?_
  refine kw_step (L' := [some (kr 85), some (kI x1), some (kI x2), some (kI (s 103 j1)), some (kI 0), none, none, none, none, none]) rfl rfl rfl rfl ?_
  refine kw_step rfl rfl rfl rfl ?_
  refine kw_step (L' := [some (kr 85), some (kI x1), some (kI x2), some (kI (s 103 j1)), some (kI 0), some (kI 0), none, none, none, none]) rfl rfl rfl rfl ?_
  refine kw_step rfl rfl rfl rfl ?_
  refine kw_step (L' := [some (kr 85), some (kI x1), some (kI x2), some (kI (s 103 j1)), some (kI 0), some (kI 0), some (kI 1), none, none, none]) rfl rfl rfl rfl ?_
  refine kw_step rfl rfl rfl rfl ?_
  refine kw_step (L' := [some (kr 85), some (kI x1), some (kI x2), some (kI (s 103 j1)), some (kI 0), some (kI 0), some (kI 1), some (kI 0), none, none]) rfl rfl rfl rfl ?_
  exact kW_le (L' := [some (kr 85), none, some (kI x2), some (kI (s 103 j1)), some (kI 0), some (kI 0), some (kI 1), some (kI 0), none, none]) ⟨Or.inr rfl, Or.inl rfl, Or.inr rfl, Or.inr rfl, Or.inr rfl, Or.inr rfl, Or.inr rfl, Or.inr rfl, Or.inl rfl, Or.inl rfl, trivial⟩ (b_M_isSlideLand_13 x2 (s 103 j1) 0 0 1 0 s _ hf hq)
def f_M_isSlide_52 (x1 : Int) (x2 : Int) (x3 : Int) (x4 : Int) (s : kM) : Option ((Int × kM) ⊕ (Int × kM)) :=
  some (.inl ((wI (x4 + 1)), s))
set_option maxRecDepth 8000 in
theorem b_M_isSlide_52 {sc : List Int} {Q : Option kV → kH → Prop} (x1 : Int) (x2 : Int) (x3 : Int) (x4 : Int) (s : kM) (t : (Int × kM) ⊕ (Int × kM)) (hf : f_M_isSlide_52 x1 x2 x3 x4 s = some t) (hq : (gE (fun x => kW sc 4 kc_M_isSlide 2 25 [some (kr 85), some (kI x1), some (kI x2), some (kI x3), some (kI x.1)] [] (hH x.2) Q) (fun r => Q (some (kI r.1)) (hH r.2))) t) : kW sc 4 kc_M_isSlide 2 52 [some (kr 85), some (kI x1), some (kI x2), some (kI x3), some (kI x4)] [] (hH s) Q := by
  unfold f_M_isSlide_52 at hf
  refine kw_step (L' := [some (kr 85), some (kI x1), some (kI x2), some (kI x3), some (kI (wI (x4 + 1)))]) rfl rfl rfl rfl ?_
  refine kw_goto rfl rfl ?_
  cases hf
  exact kW_le (L' := [some (kr 85), some (kI x1), some (kI x2), some (kI x3), some (kI (wI (x4 + 1)))]) ⟨Or.inr rfl, Or.inr rfl, Or.inr rfl, Or.inr rfl, Or.inr rfl, trivial⟩ hq
def f_M_isSlide_25b (x1 : Int) (x2 : Int) (x3 : Int) (x4 : Int) (s : kM) : Option ((Int × kM) ⊕ (Int × kM)) :=
  if (s 85 20) ≤ x4 then (some (.inr (0, s))) else ((gI 44 x4).bind fun j2 => if (s 102 j2) = 3 then ((f_M_isSlideLand x4 (kor (kor (kshl 1 x1) (kshl 1 x2)) (kshl 1 x3)) s).bind fun q5 => if q5.1 = 0 then (f_M_isSlide_52 x1 x2 x3 x4 q5.2) else (some (.inr (1, q5.2)))) else (f_M_isSlide_52 x1 x2 x3 x4 s))
set_option maxRecDepth 8000 in
theorem b_M_isSlide_25b {sc : List Int} {Q : Option kV → kH → Prop} (x1 : Int) (x2 : Int) (x3 : Int) (x4 : Int) (s : kM) (t : (Int × kM) ⊕ (Int × kM)) (hf : f_M_isSlide_25b x1 x2 x3 x4 s = some t) (hq : (gE (fun x => kW sc 4 kc_M_isSlide 2 25 [some (kr 85), some (kI x1), some (kI x2), some (kI x3), some (kI x.1)] [] (hH x.2) Q) (fun r => Q (some (kI r.1)) (hH r.2))) t) : kW sc 4 kc_M_isSlide 2 25 [some (kr 85), some (kI x1), some (kI x2), some (kI x3), some (kI x4)] [] (hH s) Q := by
  unfold f_M_isSlide_25b at hf
  refine kw_step rfl rfl rfl rfl ?_
  refine kw_step rfl rfl rfl rfl ?_
  refine kw_get rfl (hH_O (rfl : kotab 85 = some kMo)) rfl ?_
  refine kw_icmp_ge rfl rfl (fun c1 => ?_) (fun c1 => ?_)
  · have hf := gift c1 hf
    refine kw_step rfl rfl rfl rfl ?_
    cases hf
    exact kw_ret rfl rfl rfl hq
  · have hf := giff c1 hf
    refine kw_step rfl rfl rfl rfl ?_
    refine kw_get rfl (hH_O (rfl : kotab 85 = some kMo)) rfl ?_
    refine kw_step rfl rfl rfl rfl ?_
    obtain ⟨j2, i3, hf⟩ := gbI hf
    refine kw_iald rfl (hH_A (rfl : ktab 102 = some (0, 44))) i3.1 i3.2.1 i3.2.2 ?_
    refine kw_step rfl rfl rfl rfl ?_
    refine kw_icmp_ne rfl rfl (fun c4 => ?_) (fun c4 => ?_)
    · have hf := giff c4 hf
      exact kW_le (L' := [some (kr 85), some (kI x1), some (kI x2), some (kI x3), some (kI x4)]) ⟨Or.inr rfl, Or.inr rfl, Or.inr rfl, Or.inr rfl, Or.inr rfl, trivial⟩ (b_M_isSlide_52 x1 x2 x3 x4 s _ hf hq)
    · have hf := gift c4 hf
      refine kw_step rfl rfl rfl rfl ?_
      refine kw_step rfl rfl rfl rfl ?_
      refine kw_step rfl rfl rfl rfl ?_
      refine kw_step rfl rfl rfl rfl ?_
      refine kw_step rfl rfl rfl rfl ?_
      refine kw_step rfl rfl rfl rfl ?_
      refine kw_step rfl rfl rfl rfl ?_
      refine kw_step rfl rfl rfl rfl ?_
      refine kw_step rfl rfl rfl rfl ?_
      refine kw_step rfl rfl rfl rfl ?_
      refine kw_step rfl rfl rfl rfl ?_
      refine kw_step rfl rfl rfl rfl ?_
      refine kw_step rfl rfl rfl rfl ?_
      obtain ⟨q5, hq5, hf⟩ := gbind hf
      refine kw_callV (vs := [kI x4, kI (kor (kor (kshl 1 x1) (kshl 1 x2)) (kshl 1 x3))]) rfl rfl rfl ⟨rfl, Nat.le_of_ble_eq_true rfl, Nat.le_of_ble_eq_true rfl, by decide⟩ (hH_O (rfl : kotab 85 = some kMo)) (c_M_isSlideLand x4 (kor (kor (kshl 1 x1) (kshl 1 x2)) (kshl 1 x3)) s _ hq5) (Nat.le_of_ble_eq_true rfl) ?_
      refine kw_if_eq rfl rfl (fun c7 => ?_) (fun c7 => ?_)
      · have hf := gift c7 hf
        exact kW_le (L' := [some (kr 85), some (kI x1), some (kI x2), some (kI x3), some (kI x4)]) ⟨Or.inr rfl, Or.inr rfl, Or.inr rfl, Or.inr rfl, Or.inr rfl, trivial⟩ (b_M_isSlide_52 x1 x2 x3 x4 q5.2 _ hf hq)
      · have hf := giff c7 hf
        refine kw_step rfl rfl rfl rfl ?_
        cases hf
        exact kw_ret rfl rfl rfl hq
def f_M_isSlide_25 (x1 : Int) (x2 : Int) (x3 : Int) (x4 : Int) (s : kM) : Option (Int × kM) :=
  gL (fun (x : Int × kM) => f_M_isSlide_25b x1 x2 x3 x.1 x.2) gF (x4, s)
theorem b_M_isSlide_25 {sc : List Int} {Q : Option kV → kH → Prop} (x1 : Int) (x2 : Int) (x3 : Int) (x4 : Int) (s : kM) (t : Int × kM) (hf : f_M_isSlide_25 x1 x2 x3 x4 s = some t) (hq : (fun r => Q (some (kI r.1)) (hH r.2)) t) : kW sc 4 kc_M_isSlide 2 25 [some (kr 85), some (kI x1), some (kI x2), some (kI x3), some (kI x4)] [] (hH s) Q :=
  gL_ind (P := fun (x : Int × kM) => kW sc 4 kc_M_isSlide 2 25 [some (kr 85), some (kI x1), some (kI x2), some (kI x3), some (kI x.1)] [] (hH x.2) Q) (q := (fun r => Q (some (kI r.1)) (hH r.2))) (fun x t hf hq => b_M_isSlide_25b x1 x2 x3 x.1 x.2 t hf hq) gF (x4, s) t hf hq
def f_M_isSlide (x1 : Int) (x2 : Int) (x3 : Int) (s : kM) : Option (Int × kM) :=
  (f_M_isBridge x1 s).bind fun q1 => if q1 = 0 then (some (0, s)) else ((f_M_isBridge x2 s).bind fun q3 => if q3 = 0 then (some (0, s)) else ((f_M_isBridge x3 s).bind fun q5 => if q5 = 0 then (some (0, s)) else (if x1 = x2 then (some (0, s)) else (if x2 = x3 then (some (0, s)) else (if x1 = x3 then (some (0, s)) else (f_M_isSlide_25 x1 x2 x3 0 s))))))
set_option maxRecDepth 8000 in
theorem c_M_isSlide {sc : List Int} (x1 : Int) (x2 : Int) (x3 : Int) (s : kM) (t : Int × kM) (hf : f_M_isSlide x1 x2 x3 s = some t) : kR sc 4 km_M_isSlide [kr 85, kI x1, kI x2, kI x3] (hH s) (some (kI t.1)) (hH t.2) := by
  unfold f_M_isSlide at hf
  refine kR.start rfl ?_
  show kW sc 4 kc_M_isSlide 2 0 [some (kr 85), some (kI x1), some (kI x2), some (kI x3), none] [] (hH s) _
  have hq : (fun (r : Option kV) (g : kH) => r = some (kI t.1) ∧ g = hH t.2) (some (kI t.1)) (hH t.2) := ⟨rfl, rfl⟩
  refine kw_step rfl rfl rfl rfl ?_
  refine kw_step rfl rfl rfl rfl ?_
  obtain ⟨q1, hq1, hf⟩ := gbind hf
  refine kw_callV (vs := [kI x1]) rfl rfl rfl ⟨rfl, Nat.le_of_ble_eq_true rfl, Nat.le_of_ble_eq_true rfl, by decide⟩ (hH_O (rfl : kotab 85 = some kMo)) (c_M_isBridge x1 s _ hq1) (Nat.le_of_ble_eq_true rfl) ?_
  refine kw_if_eq rfl rfl (fun c2 => ?_) (fun c2 => ?_)
  · have hf := gift c2 hf
    refine kw_step rfl rfl rfl rfl ?_
    cases hf
    exact kw_ret rfl rfl rfl hq
  · have hf := giff c2 hf
    refine kw_step rfl rfl rfl rfl ?_
    refine kw_step rfl rfl rfl rfl ?_
    obtain ⟨q3, hq3, hf⟩ := gbind hf
    refine kw_callV (vs := [kI x2]) rfl rfl rfl ⟨rfl, Nat.le_of_ble_eq_true rfl, Nat.le_of_ble_eq_true rfl, by decide⟩ (hH_O (rfl : kotab 85 = some kMo)) (c_M_isBridge x2 s _ hq3) (Nat.le_of_ble_eq_true rfl) ?_
    refine kw_if_eq rfl rfl (fun c4 => ?_) (fun c4 => ?_)
    · have hf := gift c4 hf
      refine kw_step rfl rfl rfl rfl ?_
      cases hf
      exact kw_ret rfl rfl rfl hq
    · have hf := giff c4 hf
      refine kw_step rfl rfl rfl rfl ?_
      refine kw_step rfl rfl rfl rfl ?_
      obtain ⟨q5, hq5, hf⟩ := gbind hf
      refine kw_callV (vs := [kI x3]) rfl rfl rfl ⟨rfl, Nat.le_of_ble_eq_true rfl, Nat.le_of_ble_eq_true rfl, by decide⟩ (hH_O (rfl : kotab 85 = some kMo)) (c_M_isBridge x3 s _ hq5) (Nat.le_of_ble_eq_true rfl) ?_
      refine kw_if_eq rfl rfl (fun c6 => ?_) (fun c6 => ?_)
      · have hf := gift c6 hf
        refine kw_step rfl rfl rfl rfl ?_
        cases hf
        exact kw_ret rfl rfl rfl hq
      · have hf := giff c6 hf
        refine kw_step rfl rfl rfl rfl ?_
        refine kw_step rfl rfl rfl rfl ?_
        refine kw_icmp_eq rfl rfl (fun c7 => ?_) (fun c7 => ?_)
        · have hf := gift c7 hf
          refine kw_step rfl rfl rfl rfl ?_
          cases hf
          exact kw_ret rfl rfl rfl hq
        · have hf := giff c7 hf
          refine kw_step rfl rfl rfl rfl ?_
          refine kw_step rfl rfl rfl rfl ?_
          refine kw_icmp_eq rfl rfl (fun c8 => ?_) (fun c8 => ?_)
          · have hf := gift c8 hf
            refine kw_step rfl rfl rfl rfl ?_
            cases hf
            exact kw_ret rfl rfl rfl hq
          · have hf := giff c8 hf
            refine kw_step rfl rfl rfl rfl ?_
            refine kw_step rfl rfl rfl rfl ?_
            refine kw_icmp_ne rfl rfl (fun c9 => ?_) (fun c9 => ?_)
            · have hf := giff c9 hf
              refine kw_step rfl rfl rfl rfl ?_
              refine kw_step (L' := [some (kr 85), some (kI x1), some (kI x2), some (kI x3), some (kI 0)]) rfl rfl rfl rfl ?_
              exact kW_le (L' := [some (kr 85), some (kI x1), some (kI x2), some (kI x3), some (kI 0)]) ⟨Or.inr rfl, Or.inr rfl, Or.inr rfl, Or.inr rfl, Or.inr rfl, trivial⟩ (b_M_isSlide_25 x1 x2 x3 0 s _ hf hq)
            · have hf := gift c9 hf
              refine kw_step rfl rfl rfl rfl ?_
              cases hf
              exact kw_ret rfl rfl rfl hq
def f_M_swapsPasses (x1 : Int) (s : kM) : Option (kM) :=
  (f_M_next x1 s).bind fun q1 => (gI 22 x1).bind fun j2 => (gI 22 x1).bind fun j4 => (gI 22 q1).bind fun j6 => (gI 22 x1).bind fun j8 => gLet (gU s 87 j8 (s 87 j6)) fun s10 => (gI 22 q1).bind fun j13 => (gI 22 x1).bind fun j15 => gLet (gU s10 88 j15 (s10 88 j13)) fun s17 => (gI 22 q1).bind fun j20 => gLet (gU s17 87 j20 (s 87 j2)) fun s22 => (gI 22 q1).bind fun j25 => gLet (gU s22 88 j25 (s 88 j4)) fun s27 => some s27
set_option maxRecDepth 8000 in
theorem c_M_swapsPasses {sc : List Int} (x1 : Int) (s : kM) (t : kM) (hf : f_M_swapsPasses x1 s = some t) : kR sc 2 km_M_swapsPasses [kr 85, kI x1] (hH s) none (hH t) := by
  unfold f_M_swapsPasses at hf
  refine kR.start rfl ?_
  show kW sc 2 kc_M_swapsPasses 0 0 [some (kr 85), some (kI x1), none, none, none] [] (hH s) _
  have hq : (fun (r : Option kV) (g : kH) => r = none ∧ g = hH t) none (hH t) := ⟨rfl, rfl⟩
  refine kw_step rfl rfl rfl rfl ?_
  refine kw_step rfl rfl rfl rfl ?_
  obtain ⟨q1, hq1, hf⟩ := gbind hf
  refine kw_callV (vs := [kI x1]) rfl rfl rfl ⟨rfl, Nat.le_of_ble_eq_true rfl, Nat.le_of_ble_eq_true rfl, by decide⟩ (hH_O (rfl : kotab 85 = some kMo)) (c_M_next x1 s _ hq1) (Nat.le_of_ble_eq_true rfl) ?_
  refine kw_step (L' := [some (kr 85), some (kI x1), some (kI q1), none, none]) rfl rfl rfl rfl ?_
  refine kw_step rfl rfl rfl rfl ?_
  refine kw_get rfl (hH_O (rfl : kotab 85 = some kMo)) rfl ?_
  refine kw_step rfl rfl rfl rfl ?_
  obtain ⟨j2, i3, hf⟩ := gbI hf
  refine kw_iald rfl (hH_A (rfl : ktab 87 = some (0, 22))) i3.1 i3.2.1 i3.2.2 ?_
  refine kw_step (L' := [some (kr 85), some (kI x1), some (kI q1), some (kI (s 87 j2)), none]) rfl rfl rfl rfl ?_
  refine kw_step rfl rfl rfl rfl ?_
  refine kw_get rfl (hH_O (rfl : kotab 85 = some kMo)) rfl ?_
  refine kw_step rfl rfl rfl rfl ?_
  obtain ⟨j4, i5, hf⟩ := gbI hf
  refine kw_iald rfl (hH_A (rfl : ktab 88 = some (0, 22))) i5.1 i5.2.1 i5.2.2 ?_
  refine kw_step (L' := [some (kr 85), some (kI x1), some (kI q1), some (kI (s 87 j2)), some (kI (s 88 j4))]) rfl rfl rfl rfl ?_
  refine kw_step rfl rfl rfl rfl ?_
  refine kw_get rfl (hH_O (rfl : kotab 85 = some kMo)) rfl ?_
  refine kw_step rfl rfl rfl rfl ?_
  refine kw_step rfl rfl rfl rfl ?_
  refine kw_get rfl (hH_O (rfl : kotab 85 = some kMo)) rfl ?_
  refine kw_step rfl rfl rfl rfl ?_
  obtain ⟨j6, i7, hf⟩ := gbI hf
  refine kw_iald rfl (hH_A (rfl : ktab 87 = some (0, 22))) i7.1 i7.2.1 i7.2.2 ?_
  obtain ⟨j8, i9, hf⟩ := gbI hf
  obtain ⟨s10, ee11, hf⟩ := gbL hf
  refine kw_iastH rfl (rfl : ktab 87 = some (0, 22)) i9.1 i9.2.1 i9.2.2 ee11 ?_
  refine kw_step rfl rfl rfl rfl ?_
  refine kw_get rfl (hH_O (rfl : kotab 85 = some kMo)) rfl ?_
  refine kw_step rfl rfl rfl rfl ?_
  refine kw_step rfl rfl rfl rfl ?_
  refine kw_get rfl (hH_O (rfl : kotab 85 = some kMo)) rfl ?_
  refine kw_step rfl rfl rfl rfl ?_
  obtain ⟨j13, i14, hf⟩ := gbI hf
  refine kw_iald rfl (hH_A (rfl : ktab 88 = some (0, 22))) i14.1 i14.2.1 i14.2.2 ?_
  obtain ⟨j15, i16, hf⟩ := gbI hf
  obtain ⟨s17, ee18, hf⟩ := gbL hf
  refine kw_iastH rfl (rfl : ktab 88 = some (0, 22)) i16.1 i16.2.1 i16.2.2 ee18 ?_
  refine kw_step rfl rfl rfl rfl ?_
  refine kw_get rfl (hH_O (rfl : kotab 85 = some kMo)) rfl ?_
  refine kw_step rfl rfl rfl rfl ?_
  refine kw_step rfl rfl rfl rfl ?_
  obtain ⟨j20, i21, hf⟩ := gbI hf
  obtain ⟨s22, ee23, hf⟩ := gbL hf
  refine kw_iastH rfl (rfl : ktab 87 = some (0, 22)) i21.1 i21.2.1 i21.2.2 ee23 ?_
  refine kw_step rfl rfl rfl rfl ?_
  refine kw_get rfl (hH_O (rfl : kotab 85 = some kMo)) rfl ?_
  refine kw_step rfl rfl rfl rfl ?_
  refine kw_step rfl rfl rfl rfl ?_
  obtain ⟨j25, i26, hf⟩ := gbI hf
  obtain ⟨s27, ee28, hf⟩ := gbL hf
  refine kw_iastH rfl (rfl : ktab 88 = some (0, 22)) i26.1 i26.2.1 i26.2.2 ee28 ?_
  cases hf
  exact kw_ret rfl rfl rfl hq
def f_M_slides_2b (x1 : Int) (s : kM) : Option ((Int × kM) ⊕ (kM)) :=
  if 3 ≤ x1 then ((f_M_refresh s).bind fun q2 => some (.inr q2)) else ((gI 3 x1).bind fun j4 => (f_M_swapsPasses (s 116 j4) s).bind fun q6 => some (.inl ((wI (x1 + 1)), q6)))
set_option maxRecDepth 8000 in
theorem b_M_slides_2b {sc : List Int} {Q : Option kV → kH → Prop} (x1 : Int) (s : kM) (t : (Int × kM) ⊕ (kM)) (hf : f_M_slides_2b x1 s = some t) (hq : (gE (fun x => kW sc 3 kc_M_slides 0 2 [some (kr 85), some (kI x.1)] [] (hH x.2) Q) (fun r => Q none (hH r))) t) : kW sc 3 kc_M_slides 0 2 [some (kr 85), some (kI x1)] [] (hH s) Q := by
  unfold f_M_slides_2b at hf
  refine kw_step rfl rfl rfl rfl ?_
  refine kw_step rfl rfl rfl rfl ?_
  refine kw_icmp_ge rfl rfl (fun c1 => ?_) (fun c1 => ?_)
  · have hf := gift c1 hf
    refine kw_step rfl rfl rfl rfl ?_
    obtain ⟨q2, hq2, hf⟩ := gbind hf
    refine kw_callV (vs := []) rfl rfl rfl ⟨rfl, Nat.le_of_ble_eq_true rfl, Nat.le_of_ble_eq_true rfl, by decide⟩ (hH_O (rfl : kotab 85 = some kMo)) (c_M_refresh s _ hq2) (Nat.le_of_ble_eq_true rfl) ?_
    cases hf
    exact kw_ret rfl rfl rfl hq
  · have hf := giff c1 hf
    refine kw_step rfl rfl rfl rfl ?_
    refine kw_step rfl rfl rfl rfl ?_
    refine kw_get rfl (hH_O (rfl : kotab 85 = some kMo)) rfl ?_
    refine kw_step rfl rfl rfl rfl ?_
    obtain ⟨j4, i5, hf⟩ := gbI hf
    refine kw_iald rfl (hH_A (rfl : ktab 116 = some (0, 3))) i5.1 i5.2.1 i5.2.2 ?_
    obtain ⟨q6, hq6, hf⟩ := gbind hf
    refine kw_callV (vs := [kI (s 116 j4)]) rfl rfl rfl ⟨rfl, Nat.le_of_ble_eq_true rfl, Nat.le_of_ble_eq_true rfl, by decide⟩ (hH_O (rfl : kotab 85 = some kMo)) (c_M_swapsPasses (s 116 j4) s _ hq6) (Nat.le_of_ble_eq_true rfl) ?_
    refine kw_step (L' := [some (kr 85), some (kI (wI (x1 + 1)))]) rfl rfl rfl rfl ?_
    refine kw_goto rfl rfl ?_
    cases hf
    exact kW_le (L' := [some (kr 85), some (kI (wI (x1 + 1)))]) ⟨Or.inr rfl, Or.inr rfl, trivial⟩ hq
def f_M_slides_2 (x1 : Int) (s : kM) : Option (kM) :=
  gL (fun (x : Int × kM) => f_M_slides_2b x.1 x.2) gF (x1, s)
theorem b_M_slides_2 {sc : List Int} {Q : Option kV → kH → Prop} (x1 : Int) (s : kM) (t : kM) (hf : f_M_slides_2 x1 s = some t) (hq : (fun r => Q none (hH r)) t) : kW sc 3 kc_M_slides 0 2 [some (kr 85), some (kI x1)] [] (hH s) Q :=
  gL_ind (P := fun (x : Int × kM) => kW sc 3 kc_M_slides 0 2 [some (kr 85), some (kI x.1)] [] (hH x.2) Q) (q := (fun r => Q none (hH r))) (fun x t hf hq => b_M_slides_2b x.1 x.2 t hf hq) gF (x1, s) t hf hq
def f_M_slides (s : kM) : Option (kM) :=
  f_M_slides_2 0 s
set_option maxRecDepth 8000 in
theorem c_M_slides {sc : List Int} (s : kM) (t : kM) (hf : f_M_slides s = some t) : kR sc 3 km_M_slides [kr 85] (hH s) none (hH t) := by
  unfold f_M_slides at hf
  refine kR.start rfl ?_
  show kW sc 3 kc_M_slides 0 0 [some (kr 85), none] [] (hH s) _
  have hq : (fun (r : Option kV) (g : kH) => r = none ∧ g = hH t) none (hH t) := ⟨rfl, rfl⟩
  refine kw_step rfl rfl rfl rfl ?_
  refine kw_step (L' := [some (kr 85), some (kI 0)]) rfl rfl rfl rfl ?_
  exact kW_le (L' := [some (kr 85), some (kI 0)]) ⟨Or.inr rfl, Or.inr rfl, trivial⟩ (b_M_slides_2 0 s _ hf hq)
def f_M_slide (x1 : Int) (x2 : Int) (x3 : Int) (s : kM) : Option (Int × kM) :=
  (f_M_fillsLand s).bind fun q1 => (f_M_isSlide x1 x2 x3 q1).bind fun q3 => if q3.1 = 0 then ((gB q3.1).bind fun _ => some (q3.1, q3.2)) else ((f_M_slides q3.2).bind fun q7 => gLet (gU q7 86 3 (wI ((q7 86 3) + 1))) fun s9 => (gB q3.1).bind fun _ => some (q3.1, s9))
set_option maxRecDepth 8000 in
theorem c_M_slide {sc : List Int} (x1 : Int) (x2 : Int) (x3 : Int) (s : kM) (t : Int × kM) (hf : f_M_slide x1 x2 x3 s = some t) : kR sc 5 km_M_slide [kr 85, kI x1, kI x2, kI x3] (hH s) (some (kI t.1)) (hH t.2) := by
  unfold f_M_slide at hf
  refine kR.start rfl ?_
  show kW sc 5 kc_M_slide 2 0 [some (kr 85), some (kI x1), some (kI x2), some (kI x3), none] [] (hH s) _
  have hq : (fun (r : Option kV) (g : kH) => r = some (kI t.1) ∧ g = hH t.2) (some (kI t.1)) (hH t.2) := ⟨rfl, rfl⟩
  refine kw_step rfl rfl rfl rfl ?_
  obtain ⟨q1, hq1, hf⟩ := gbind hf
  refine kw_callV (vs := []) rfl rfl rfl ⟨rfl, Nat.le_of_ble_eq_true rfl, Nat.le_of_ble_eq_true rfl, by decide⟩ (hH_O (rfl : kotab 85 = some kMo)) (c_M_fillsLand s _ hq1) (Nat.le_of_ble_eq_true rfl) ?_
  refine kw_step rfl rfl rfl rfl ?_
  refine kw_step rfl rfl rfl rfl ?_
  refine kw_step rfl rfl rfl rfl ?_
  refine kw_step rfl rfl rfl rfl ?_
  obtain ⟨q3, hq3, hf⟩ := gbind hf
  refine kw_callV (vs := [kI x1, kI x2, kI x3]) rfl rfl rfl ⟨rfl, Nat.le_of_ble_eq_true rfl, Nat.le_of_ble_eq_true rfl, by decide⟩ (hH_O (rfl : kotab 85 = some kMo)) (c_M_isSlide x1 x2 x3 q1 _ hq3) (Nat.le_of_ble_eq_true rfl) ?_
  refine kw_step (L' := [some (kr 85), some (kI x1), some (kI x2), some (kI x3), some (kI q3.1)]) rfl rfl rfl rfl ?_
  refine kw_step rfl rfl rfl rfl ?_
  refine kw_if_eq rfl rfl (fun c5 => ?_) (fun c5 => ?_)
  · have hf := gift c5 hf
    refine kw_step rfl rfl rfl rfl ?_
    obtain ⟨w6, hf⟩ := gbB hf
    cases hf
    exact kw_ret rfl rfl (if_pos w6) hq
  · have hf := giff c5 hf
    refine kw_step rfl rfl rfl rfl ?_
    obtain ⟨q7, hq7, hf⟩ := gbind hf
    refine kw_callV (vs := []) rfl rfl rfl ⟨rfl, Nat.le_of_ble_eq_true rfl, Nat.le_of_ble_eq_true rfl, by decide⟩ (hH_O (rfl : kotab 85 = some kMo)) (c_M_slides q3.2 _ hq7) (Nat.le_of_ble_eq_true rfl) ?_
    refine kw_step rfl rfl rfl rfl ?_
    refine kw_get rfl (hH_O (rfl : kotab 85 = some kMo)) rfl ?_
    refine kw_step rfl rfl rfl rfl ?_
    refine kw_step rfl rfl rfl rfl ?_
    refine kw_iald rfl (hH_A (rfl : ktab 86 = some (0, 6))) (by decide) (by decide) (j := 3) rfl ?_
    refine kw_step rfl rfl rfl rfl ?_
    refine kw_step rfl rfl rfl rfl ?_
    obtain ⟨s9, ee10, hf⟩ := gbL hf
    refine kw_iastH rfl (rfl : ktab 86 = some (0, 6)) (by decide) (by decide) (j := 3) rfl ee10 ?_
    refine kw_step rfl rfl rfl rfl ?_
    obtain ⟨w12, hf⟩ := gbB hf
    cases hf
    exact kw_ret rfl rfl (if_pos w12) hq
