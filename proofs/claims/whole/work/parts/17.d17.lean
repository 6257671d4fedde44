/-! PRINTED by wip/whole/decall.py: methods as functions over the flat world, with their contracts -/
def f_M_town_98 (s : kM) : Option (Int × kM) :=
  if (s 85 23) ≤ 0 then ((f_M_many s).bind fun q2 => some (q2, s)) else ((f_M_laysBack s).bind fun q3 => some ((wI ((-2) - (q3 85 23))), q3))
set_option maxRecDepth 8000 in
theorem b_M_town_98 {sc : List Int} {Q : Option kV → kH → Prop} (s : kM) (t : Int × kM) (hf : f_M_town_98 s = some t) (hq : (fun r => Q (some (kI r.1)) (hH r.2)) t) : kW sc 6 kc_M_town 1 98 [some (kr 85), none, none, none] [] (hH s) Q := by
  unfold f_M_town_98 at hf
  refine kw_step rfl rfl rfl rfl ?_
  refine kw_get rfl (hH_O (rfl : kotab 85 = some kMo)) rfl ?_
  refine kw_if_le rfl rfl (fun c1 => ?_) (fun c1 => ?_)
  · have hf := gift c1 hf
    refine kw_step rfl rfl rfl rfl ?_
    obtain ⟨q2, hq2, hf⟩ := gbind hf
    refine kw_callV (vs := []) rfl rfl rfl ⟨rfl, Nat.le_of_ble_eq_true rfl, Nat.le_of_ble_eq_true rfl, by decide⟩ (hH_O (rfl : kotab 85 = some kMo)) (c_M_many s _ hq2) (Nat.le_of_ble_eq_true rfl) ?_
    cases hf
    exact kw_ret rfl rfl rfl hq
  · have hf := giff c1 hf
    refine kw_step rfl rfl rfl rfl ?_
    obtain ⟨q3, hq3, hf⟩ := gbind hf
    refine kw_callV (vs := []) rfl rfl rfl ⟨rfl, Nat.le_of_ble_eq_true rfl, Nat.le_of_ble_eq_true rfl, by decide⟩ (hH_O (rfl : kotab 85 = some kMo)) (c_M_laysBack s _ hq3) (Nat.le_of_ble_eq_true rfl) ?_
    refine kw_step rfl rfl rfl rfl ?_
    refine kw_step rfl rfl rfl rfl ?_
    refine kw_get rfl (hH_O (rfl : kotab 85 = some kMo)) rfl ?_
    refine kw_step rfl rfl rfl rfl ?_
    cases hf
    exact kw_ret rfl rfl rfl hq
def f_M_town_48b (x2 : Int) (x3 : Int) (s : kM) : Option ((Int × kM) ⊕ (Int × kM)) :=
  if 3 ≤ x3 then (gLet (gU s 86 3 0) fun s2 => (f_M_lay 91 22 87 22 s2).bind fun q5 => (f_M_lay 92 22 88 22 q5).bind fun q7 => (f_M_lay 93 11 89 11 q7).bind fun q9 => (f_M_refresh q9).bind fun q11 => (f_M_areWhole q11).bind fun q13 => if q13 = 0 then ((f_M_fails 6 x2 q11).bind fun q24 => (f_M_town_98 q24).map Sum.inr) else ((f_M_canBeDrawn q11).bind fun q15 => if q15.1 = 0 then ((f_M_fails 7 x2 q15.2).bind fun q20 => (f_M_town_98 q20).map Sum.inr) else ((f_M_town_98 q15.2).map Sum.inr))) else ((gI 3 x3).bind fun j28 => (gI 6 x3).bind fun j30 => gLet (gU s 86 j30 (s 90 j28)) fun s32 => some (.inl ((wI (x3 + 1)), s32)))
set_option maxRecDepth 8000 in
theorem b_M_town_48b {sc : List Int} {Q : Option kV → kH → Prop} (x2 : Int) (x3 : Int) (s : kM) (t : (Int × kM) ⊕ (Int × kM)) (hf : f_M_town_48b x2 x3 s = some t) (hq : (gE (fun x => kW sc 6 kc_M_town 1 48 [some (kr 85), none, some (kI x2), some (kI x.1)] [] (hH x.2) Q) (fun r => Q (some (kI r.1)) (hH r.2))) t) : kW sc 6 kc_M_town 1 48 [some (kr 85), none, some (kI x2), some (kI x3)] [] (hH s) Q := by
  unfold f_M_town_48b at hf
  refine kw_step rfl rfl rfl rfl ?_
  refine kw_step rfl rfl rfl rfl ?_
  refine kw_icmp_ge rfl rfl (fun c1 => ?_) (fun c1 => ?_)
  · have hf := gift c1 hf
    refine kw_step rfl rfl rfl rfl ?_
    refine kw_get rfl (hH_O (rfl : kotab 85 = some kMo)) rfl ?_
    refine kw_step rfl rfl rfl rfl ?_
    refine kw_step rfl rfl rfl rfl ?_
    obtain ⟨s2, ee3, hf⟩ := gbL hf
    refine kw_iastH rfl (rfl : ktab 86 = some (0, 6)) (by decide) (by decide) (j := 3) rfl ee3 ?_
    refine kw_step rfl rfl rfl rfl ?_
    refine kw_get rfl (hH_O (rfl : kotab 85 = some kMo)) rfl ?_
    refine kw_step rfl rfl rfl rfl ?_
    refine kw_get rfl (hH_O (rfl : kotab 85 = some kMo)) rfl ?_
    obtain ⟨q5, hq5, hf⟩ := gbind hf
    refine kw_callS (vs := [kr 91, kr 87]) rfl rfl rfl ⟨rfl, Nat.le_of_ble_eq_true rfl, Nat.le_of_ble_eq_true rfl, rfl⟩ (c_M_lay 91 22 87 22 (rfl : ktab 91 = some (0, 22)) (rfl : ktab 87 = some (0, 22)) s2 _ hq5) (Nat.le_of_ble_eq_true rfl) ?_
    refine kw_step rfl rfl rfl rfl ?_
    refine kw_get rfl (hH_O (rfl : kotab 85 = some kMo)) rfl ?_
    refine kw_step rfl rfl rfl rfl ?_
    refine kw_get rfl (hH_O (rfl : kotab 85 = some kMo)) rfl ?_
    obtain ⟨q7, hq7, hf⟩ := gbind hf
    refine kw_callS (vs := [kr 92, kr 88]) rfl rfl rfl ⟨rfl, Nat.le_of_ble_eq_true rfl, Nat.le_of_ble_eq_true rfl, rfl⟩ (c_M_lay 92 22 88 22 (rfl : ktab 92 = some (0, 22)) (rfl : ktab 88 = some (0, 22)) q5 _ hq7) (Nat.le_of_ble_eq_true rfl) ?_
    refine kw_step rfl rfl rfl rfl ?_
    refine kw_get rfl (hH_O (rfl : kotab 85 = some kMo)) rfl ?_
    refine kw_step rfl rfl rfl rfl ?_
    refine kw_get rfl (hH_O (rfl : kotab 85 = some kMo)) rfl ?_
    obtain ⟨q9, hq9, hf⟩ := gbind hf
    refine kw_callS (vs := [kr 93, kr 89]) rfl rfl rfl ⟨rfl, Nat.le_of_ble_eq_true rfl, Nat.le_of_ble_eq_true rfl, rfl⟩ (c_M_lay 93 11 89 11 (rfl : ktab 93 = some (0, 11)) (rfl : ktab 89 = some (0, 11)) q7 _ hq9) (Nat.le_of_ble_eq_true rfl) ?_
    refine kw_step rfl rfl rfl rfl ?_
    obtain ⟨q11, hq11, hf⟩ := gbind hf
    refine kw_callV (vs := []) rfl rfl rfl ⟨rfl, Nat.le_of_ble_eq_true rfl, Nat.le_of_ble_eq_true rfl, by decide⟩ (hH_O (rfl : kotab 85 = some kMo)) (c_M_refresh q9 _ hq11) (Nat.le_of_ble_eq_true rfl) ?_
    refine kw_step rfl rfl rfl rfl ?_
    obtain ⟨q13, hq13, hf⟩ := gbind hf
    refine kw_callV (vs := []) rfl rfl rfl ⟨rfl, Nat.le_of_ble_eq_true rfl, Nat.le_of_ble_eq_true rfl, by decide⟩ (hH_O (rfl : kotab 85 = some kMo)) (c_M_areWhole q11 _ hq13) (Nat.le_of_ble_eq_true rfl) ?_
    refine kw_if_ne rfl rfl (fun c14 => ?_) (fun c14 => ?_)
    · have hf := giff c14 hf
      refine kw_step rfl rfl rfl rfl ?_
      obtain ⟨q15, hq15, hf⟩ := gbind hf
      refine kw_callV (vs := []) rfl rfl rfl ⟨rfl, Nat.le_of_ble_eq_true rfl, Nat.le_of_ble_eq_true rfl, by decide⟩ (hH_O (rfl : kotab 85 = some kMo)) (c_M_canBeDrawn q11 _ hq15) (Nat.le_of_ble_eq_true rfl) ?_
      refine kw_if_ne rfl rfl (fun c17 => ?_) (fun c17 => ?_)
      · have hf := giff c17 hf
        obtain ⟨t18, hg19, rfl⟩ := gmap hf
        exact kW_le (L' := [some (kr 85), none, none, none]) ⟨Or.inr rfl, Or.inl rfl, Or.inl rfl, Or.inl rfl, trivial⟩ (b_M_town_98 q15.2 _ hg19 hq)
      · have hf := gift c17 hf
        refine kw_step rfl rfl rfl rfl ?_
        refine kw_step rfl rfl rfl rfl ?_
        refine kw_step rfl rfl rfl rfl ?_
        obtain ⟨q20, hq20, hf⟩ := gbind hf
        refine kw_callV (vs := [kI 7, kI x2]) rfl rfl rfl ⟨rfl, Nat.le_of_ble_eq_true rfl, Nat.le_of_ble_eq_true rfl, by decide⟩ (hH_O (rfl : kotab 85 = some kMo)) (c_M_fails 7 x2 q15.2 _ hq20) (Nat.le_of_ble_eq_true rfl) ?_
        obtain ⟨t22, hg23, rfl⟩ := gmap hf
        exact kW_le (L' := [some (kr 85), none, none, none]) ⟨Or.inr rfl, Or.inl rfl, Or.inl rfl, Or.inl rfl, trivial⟩ (b_M_town_98 q20 _ hg23 hq)
    · have hf := gift c14 hf
      refine kw_step rfl rfl rfl rfl ?_
      refine kw_step rfl rfl rfl rfl ?_
      refine kw_step rfl rfl rfl rfl ?_
      obtain ⟨q24, hq24, hf⟩ := gbind hf
      refine kw_callV (vs := [kI 6, kI x2]) rfl rfl rfl ⟨rfl, Nat.le_of_ble_eq_true rfl, Nat.le_of_ble_eq_true rfl, by decide⟩ (hH_O (rfl : kotab 85 = some kMo)) (c_M_fails 6 x2 q11 _ hq24) (Nat.le_of_ble_eq_true rfl) ?_
      refine kw_goto rfl rfl ?_
      obtain ⟨t26, hg27, rfl⟩ := gmap hf
      exact kW_le (L' := [some (kr 85), none, none, none]) ⟨Or.inr rfl, Or.inl rfl, Or.inl rfl, Or.inl rfl, trivial⟩ (b_M_town_98 q24 _ hg27 hq)
  · have hf := giff c1 hf
    refine kw_step rfl rfl rfl rfl ?_
    refine kw_get rfl (hH_O (rfl : kotab 85 = some kMo)) rfl ?_
    refine kw_step rfl rfl rfl rfl ?_
    refine kw_step rfl rfl rfl rfl ?_
    refine kw_get rfl (hH_O (rfl : kotab 85 = some kMo)) rfl ?_
    refine kw_step rfl rfl rfl rfl ?_
    obtain ⟨j28, i29, hf⟩ := gbI hf
    refine kw_iald rfl (hH_A (rfl : ktab 90 = some (0, 3))) i29.1 i29.2.1 i29.2.2 ?_
    obtain ⟨j30, i31, hf⟩ := gbI hf
    obtain ⟨s32, ee33, hf⟩ := gbL hf
    refine kw_iastH rfl (rfl : ktab 86 = some (0, 6)) i31.1 i31.2.1 i31.2.2 ee33 ?_
    refine kw_step (L' := [some (kr 85), none, some (kI x2), some (kI (wI (x3 + 1)))]) rfl rfl rfl rfl ?_
    refine kw_goto rfl rfl ?_
    cases hf
    exact kW_le (L' := [some (kr 85), none, some (kI x2), some (kI (wI (x3 + 1)))]) ⟨Or.inr rfl, Or.inl rfl, Or.inr rfl, Or.inr rfl, trivial⟩ hq
def f_M_town_48 (x2 : Int) (x3 : Int) (s : kM) : Option (Int × kM) :=
  gL (fun (x : Int × kM) => f_M_town_48b x2 x.1 x.2) gF (x3, s)
theorem b_M_town_48 {sc : List Int} {Q : Option kV → kH → Prop} (x2 : Int) (x3 : Int) (s : kM) (t : Int × kM) (hf : f_M_town_48 x2 x3 s = some t) (hq : (fun r => Q (some (kI r.1)) (hH r.2)) t) : kW sc 6 kc_M_town 1 48 [some (kr 85), none, some (kI x2), some (kI x3)] [] (hH s) Q :=
  gL_ind (P := fun (x : Int × kM) => kW sc 6 kc_M_town 1 48 [some (kr 85), none, some (kI x2), some (kI x.1)] [] (hH x.2) Q) (q := (fun r => Q (some (kI r.1)) (hH r.2))) (fun x t hf hq => b_M_town_48b x2 x.1 x.2 t hf hq) gF (x3, s) t hf hq
def f_M_town_22b (x1 : Int) (s : kM) : Option ((Int × kM) ⊕ (Int × kM)) :=
  if x1 = 0 then (gLet (gU s 85 21 0) fun s2 => if (s2 85 23) ≤ 0 then ((f_M_keeps s2).bind fun q6 => (f_M_town_48 (s 85 21) 0 q6).map Sum.inr) else (some (.inr ((wI ((-2) - (s2 85 23))), s2)))) else ((f_M_road s).bind fun q10 => (f_M_goesOn q10).bind fun q12 => some (.inl (q12.1, q12.2)))
set_option maxRecDepth 8000 in
theorem b_M_town_22b {sc : List Int} {Q : Option kV → kH → Prop} (x1 : Int) (s : kM) (t : (Int × kM) ⊕ (Int × kM)) (hf : f_M_town_22b x1 s = some t) (hq : (gE (fun x => kW sc 6 kc_M_town 1 22 [some (kr 85), some (kI x.1), none, none] [] (hH x.2) Q) (fun r => Q (some (kI r.1)) (hH r.2))) t) : kW sc 6 kc_M_town 1 22 [some (kr 85), some (kI x1), none, none] [] (hH s) Q := by
  unfold f_M_town_22b at hf
  refine kw_step rfl rfl rfl rfl ?_
  refine kw_if_eq rfl rfl (fun c1 => ?_) (fun c1 => ?_)
  · have hf := gift c1 hf
    refine kw_step rfl rfl rfl rfl ?_
    refine kw_get rfl (hH_O (rfl : kotab 85 = some kMo)) rfl ?_
    refine kw_step (L' := [some (kr 85), some (kI x1), some (kI (s 85 21)), none]) rfl rfl rfl rfl ?_
    refine kw_step rfl rfl rfl rfl ?_
    refine kw_step rfl rfl rfl rfl ?_
    obtain ⟨s2, ee3, hf⟩ := gbL hf
    refine kw_putH rfl (rfl : kotab 85 = some kMo) rfl rfl rfl (Nat.le_of_ble_eq_true rfl) rfl ee3 ?_
    refine kw_step rfl rfl rfl rfl ?_
    refine kw_get rfl (hH_O (rfl : kotab 85 = some kMo)) rfl ?_
    refine kw_if_le rfl rfl (fun c5 => ?_) (fun c5 => ?_)
    · have hf := gift c5 hf
      refine kw_step rfl rfl rfl rfl ?_
      obtain ⟨q6, hq6, hf⟩ := gbind hf
      refine kw_callV (vs := []) rfl rfl rfl ⟨rfl, Nat.le_of_ble_eq_true rfl, Nat.le_of_ble_eq_true rfl, by decide⟩ (hH_O (rfl : kotab 85 = some kMo)) (c_M_keeps s2 _ hq6) (Nat.le_of_ble_eq_true rfl) ?_
      refine kw_step rfl rfl rfl rfl ?_
      refine kw_step (L' := [some (kr 85), some (kI x1), some (kI (s 85 21)), some (kI 0)]) rfl rfl rfl rfl ?_
      obtain ⟨t8, hg9, rfl⟩ := gmap hf
      exact kW_le (L' := [some (kr 85), none, some (kI (s 85 21)), some (kI 0)]) ⟨Or.inr rfl, Or.inl rfl, Or.inr rfl, Or.inr rfl, trivial⟩ (b_M_town_48 (s 85 21) 0 q6 _ hg9 hq)
    · have hf := giff c5 hf
      refine kw_step rfl rfl rfl rfl ?_
      refine kw_step rfl rfl rfl rfl ?_
      refine kw_get rfl (hH_O (rfl : kotab 85 = some kMo)) rfl ?_
      refine kw_step rfl rfl rfl rfl ?_
      cases hf
      exact kw_ret rfl rfl rfl hq
  · have hf := giff c1 hf
    refine kw_step rfl rfl rfl rfl ?_
    obtain ⟨q10, hq10, hf⟩ := gbind hf
    refine kw_callV (vs := []) rfl rfl rfl ⟨rfl, Nat.le_of_ble_eq_true rfl, Nat.le_of_ble_eq_true rfl, by decide⟩ (hH_O (rfl : kotab 85 = some kMo)) (c_M_road s _ hq10) (Nat.le_of_ble_eq_true rfl) ?_
    refine kw_step rfl rfl rfl rfl ?_
    obtain ⟨q12, hq12, hf⟩ := gbind hf
    refine kw_callV (vs := []) rfl rfl rfl ⟨rfl, Nat.le_of_ble_eq_true rfl, Nat.le_of_ble_eq_true rfl, by decide⟩ (hH_O (rfl : kotab 85 = some kMo)) (c_M_goesOn q10 _ hq12) (Nat.le_of_ble_eq_true rfl) ?_
    refine kw_step (L' := [some (kr 85), some (kI q12.1), none, none]) rfl rfl rfl rfl ?_
    refine kw_goto rfl rfl ?_
    cases hf
    exact kW_le (L' := [some (kr 85), some (kI q12.1), none, none]) ⟨Or.inr rfl, Or.inr rfl, Or.inl rfl, Or.inl rfl, trivial⟩ hq
def f_M_town_22 (x1 : Int) (s : kM) : Option (Int × kM) :=
  gL (fun (x : Int × kM) => f_M_town_22b x.1 x.2) gF (x1, s)
theorem b_M_town_22 {sc : List Int} {Q : Option kV → kH → Prop} (x1 : Int) (s : kM) (t : Int × kM) (hf : f_M_town_22 x1 s = some t) (hq : (fun r => Q (some (kI r.1)) (hH r.2)) t) : kW sc 6 kc_M_town 1 22 [some (kr 85), some (kI x1), none, none] [] (hH s) Q :=
  gL_ind (P := fun (x : Int × kM) => kW sc 6 kc_M_town 1 22 [some (kr 85), some (kI x.1), none, none] [] (hH x.2) Q) (q := (fun r => Q (some (kI r.1)) (hH r.2))) (fun x t hf hq => b_M_town_22b x.1 x.2 t hf hq) gF (x1, s) t hf hq
def f_M_town_10b (x1 : Int) (s : kM) : Option ((Int × kM) ⊕ (Int × kM)) :=
  if 3 ≤ x1 then ((f_M_town_22 1 s).map Sum.inr) else ((gI 3 x1).bind fun j4 => gLet (gU s 90 j4 0) fun s6 => some (.inl ((wI (x1 + 1)), s6)))
set_option maxRecDepth 8000 in
theorem b_M_town_10b {sc : List Int} {Q : Option kV → kH → Prop} (x1 : Int) (s : kM) (t : (Int × kM) ⊕ (Int × kM)) (hf : f_M_town_10b x1 s = some t) (hq : (gE (fun x => kW sc 6 kc_M_town 1 10 [some (kr 85), some (kI x.1), none, none] [] (hH x.2) Q) (fun r => Q (some (kI r.1)) (hH r.2))) t) : kW sc 6 kc_M_town 1 10 [some (kr 85), some (kI x1), none, none] [] (hH s) Q := by
  unfold f_M_town_10b at hf
  refine kw_step rfl rfl rfl rfl ?_
  refine kw_step rfl rfl rfl rfl ?_
  refine kw_icmp_ge rfl rfl (fun c1 => ?_) (fun c1 => ?_)
  · have hf := gift c1 hf
    refine kw_step rfl rfl rfl rfl ?_
    refine kw_step (L' := [some (kr 85), some (kI 1), none, none]) rfl rfl rfl rfl ?_
    obtain ⟨t2, hg3, rfl⟩ := gmap hf
    exact kW_le (L' := [some (kr 85), some (kI 1), none, none]) ⟨Or.inr rfl, Or.inr rfl, Or.inl rfl, Or.inl rfl, trivial⟩ (b_M_town_22 1 s _ hg3 hq)
  · have hf := giff c1 hf
    refine kw_step rfl rfl rfl rfl ?_
    refine kw_get rfl (hH_O (rfl : kotab 85 = some kMo)) rfl ?_
    refine kw_step rfl rfl rfl rfl ?_
    refine kw_step rfl rfl rfl rfl ?_
    obtain ⟨j4, i5, hf⟩ := gbI hf
    obtain ⟨s6, ee7, hf⟩ := gbL hf
    refine kw_iastH rfl (rfl : ktab 90 = some (0, 3)) i5.1 i5.2.1 i5.2.2 ee7 ?_
    refine kw_step (L' := [some (kr 85), some (kI (wI (x1 + 1))), none, none]) rfl rfl rfl rfl ?_
    refine kw_goto rfl rfl ?_
    cases hf
    exact kW_le (L' := [some (kr 85), some (kI (wI (x1 + 1))), none, none]) ⟨Or.inr rfl, Or.inr rfl, Or.inl rfl, Or.inl rfl, trivial⟩ hq
def f_M_town_10 (x1 : Int) (s : kM) : Option (Int × kM) :=
  gL (fun (x : Int × kM) => f_M_town_10b x.1 x.2) gF (x1, s)
theorem b_M_town_10 {sc : List Int} {Q : Option kV → kH → Prop} (x1 : Int) (s : kM) (t : Int × kM) (hf : f_M_town_10 x1 s = some t) (hq : (fun r => Q (some (kI r.1)) (hH r.2)) t) : kW sc 6 kc_M_town 1 10 [some (kr 85), some (kI x1), none, none] [] (hH s) Q :=
  gL_ind (P := fun (x : Int × kM) => kW sc 6 kc_M_town 1 10 [some (kr 85), some (kI x.1), none, none] [] (hH x.2) Q) (q := (fun r => Q (some (kI r.1)) (hH r.2))) (fun x t hf hq => b_M_town_10b x.1 x.2 t hf hq) gF (x1, s) t hf hq
def f_M_town (s : kM) : Option (Int × kM) :=
  (f_M_starts s).bind fun q1 => gLet (gU q1 85 31 0) fun s3 => gLet (gU s3 85 32 0) fun s6 => f_M_town_10 0 s6
set_option maxRecDepth 8000 in
theorem c_M_town {sc : List Int} (s : kM) (t : Int × kM) (hf : f_M_town s = some t) : kR sc 6 km_M_town [kr 85] (hH s) (some (kI t.1)) (hH t.2) := by
  unfold f_M_town at hf
  refine kR.start rfl ?_
  show kW sc 6 kc_M_town 1 0 [some (kr 85), none, none, none] [] (hH s) _
  have hq : (fun (r : Option kV) (g : kH) => r = some (kI t.1) ∧ g = hH t.2) (some (kI t.1)) (hH t.2) := ⟨rfl, rfl⟩
  refine kw_step rfl rfl rfl rfl ?_
  obtain ⟨q1, hq1, hf⟩ := gbind hf
  refine kw_callV (vs := []) rfl rfl rfl ⟨rfl, Nat.le_of_ble_eq_true rfl, Nat.le_of_ble_eq_true rfl, by decide⟩ (hH_O (rfl : kotab 85 = some kMo)) (c_M_starts s _ hq1) (Nat.le_of_ble_eq_true rfl) ?_
  refine kw_step rfl rfl rfl rfl ?_
  refine kw_step rfl rfl rfl rfl ?_
  obtain ⟨s3, ee4, hf⟩ := gbL hf
  refine kw_putH rfl (rfl : kotab 85 = some kMo) rfl rfl rfl (Nat.le_of_ble_eq_true rfl) rfl ee4 ?_
  refine kw_step rfl rfl rfl rfl ?_
  refine kw_step rfl rfl rfl rfl ?_
  obtain ⟨s6, ee7, hf⟩ := gbL hf
  refine kw_putH rfl (rfl : kotab 85 = some kMo) rfl rfl rfl (Nat.le_of_ble_eq_true rfl) rfl ee7 ?_
  refine kw_step rfl rfl rfl rfl ?_
  refine kw_step (L' := [some (kr 85), some (kI 0), none, none]) rfl rfl rfl rfl ?_
  exact kW_le (L' := [some (kr 85), some (kI 0), none, none]) ⟨Or.inr rfl, Or.inr rfl, Or.inl rfl, Or.inl rfl, trivial⟩ (b_M_town_10 0 s6 _ hf hq)
def f_M_opens_21 (x1 : Int) (s : kM) : Option (kM) :=
  (gI 402 (s 85 29)).bind fun j1 => gLet (gU s 111 j1 x1) fun s3 => gLet (gU s3 85 29 (wI ((s3 85 29) + 1))) fun s6 => some s6
set_option maxRecDepth 8000 in
theorem b_M_opens_21 {sc : List Int} {Q : Option kV → kH → Prop} (x1 : Int) (s : kM) (t : kM) (hf : f_M_opens_21 x1 s = some t) (hq : (fun r => Q none (hH r)) t) : kW sc 1 kc_M_opens 0 21 [some (kr 85), some (kI x1)] [] (hH s) Q := by
  unfold f_M_opens_21 at hf
  refine kw_step rfl rfl rfl rfl ?_
  refine kw_get rfl (hH_O (rfl : kotab 85 = some kMo)) rfl ?_
  refine kw_step rfl rfl rfl rfl ?_
  refine kw_get rfl (hH_O (rfl : kotab 85 = some kMo)) rfl ?_
  refine kw_step rfl rfl rfl rfl ?_
  obtain ⟨j1, i2, hf⟩ := gbI hf
  obtain ⟨s3, ee4, hf⟩ := gbL hf
  refine kw_iastH rfl (rfl : ktab 111 = some (0, 402)) i2.1 i2.2.1 i2.2.2 ee4 ?_
  refine kw_step rfl rfl rfl rfl ?_
  refine kw_step rfl rfl rfl rfl ?_
  refine kw_get rfl (hH_O (rfl : kotab 85 = some kMo)) rfl ?_
  refine kw_step rfl rfl rfl rfl ?_
  refine kw_step rfl rfl rfl rfl ?_
  obtain ⟨s6, ee7, hf⟩ := gbL hf
  refine kw_putH rfl (rfl : kotab 85 = some kMo) rfl rfl rfl (Nat.le_of_ble_eq_true rfl) rfl ee7 ?_
  cases hf
  exact kw_ret rfl rfl rfl hq
def f_M_opens_15 (x1 : Int) (s : kM) : Option (kM) :=
  gLet (gU s 85 27 (wI ((s 85 27) + 1))) fun s1 => f_M_opens_21 x1 s1
set_option maxRecDepth 8000 in
theorem b_M_opens_15 {sc : List Int} {Q : Option kV → kH → Prop} (x1 : Int) (s : kM) (t : kM) (hf : f_M_opens_15 x1 s = some t) (hq : (fun r => Q none (hH r)) t) : kW sc 1 kc_M_opens 0 15 [some (kr 85), some (kI x1)] [] (hH s) Q := by
  unfold f_M_opens_15 at hf
  refine kw_step rfl rfl rfl rfl ?_
  refine kw_step rfl rfl rfl rfl ?_
  refine kw_get rfl (hH_O (rfl : kotab 85 = some kMo)) rfl ?_
  refine kw_step rfl rfl rfl rfl ?_
  refine kw_step rfl rfl rfl rfl ?_
  obtain ⟨s1, ee2, hf⟩ := gbL hf
  refine kw_putH rfl (rfl : kotab 85 = some kMo) rfl rfl rfl (Nat.le_of_ble_eq_true rfl) rfl ee2 ?_
  exact kW_le (L' := [some (kr 85), some (kI x1)]) ⟨Or.inr rfl, Or.inr rfl, trivial⟩ (b_M_opens_21 x1 s1 _ hf hq)
def f_M_opens_6 (x1 : Int) (s : kM) : Option (kM) :=
  if (s 85 27) = 10 then ((f_M_fails 2 (s 85 22) s).bind fun q2 => f_M_opens_15 x1 q2) else (f_M_opens_15 x1 s)
set_option maxRecDepth 8000 in
theorem b_M_opens_6 {sc : List Int} {Q : Option kV → kH → Prop} (x1 : Int) (s : kM) (t : kM) (hf : f_M_opens_6 x1 s = some t) (hq : (fun r => Q none (hH r)) t) : kW sc 1 kc_M_opens 0 6 [some (kr 85), some (kI x1)] [] (hH s) Q := by
  unfold f_M_opens_6 at hf
  refine kw_step rfl rfl rfl rfl ?_
  refine kw_get rfl (hH_O (rfl : kotab 85 = some kMo)) rfl ?_
  refine kw_step rfl rfl rfl rfl ?_
  refine kw_icmp_ne rfl rfl (fun c1 => ?_) (fun c1 => ?_)
  · have hf := giff c1 hf
    exact kW_le (L' := [some (kr 85), some (kI x1)]) ⟨Or.inr rfl, Or.inr rfl, trivial⟩ (b_M_opens_15 x1 s _ hf hq)
  · have hf := gift c1 hf
    refine kw_step rfl rfl rfl rfl ?_
    refine kw_step rfl rfl rfl rfl ?_
    refine kw_step rfl rfl rfl rfl ?_
    refine kw_get rfl (hH_O (rfl : kotab 85 = some kMo)) rfl ?_
    obtain ⟨q2, hq2, hf⟩ := gbind hf
    refine kw_callV (vs := [kI 2, kI (s 85 22)]) rfl rfl rfl ⟨rfl, Nat.le_of_ble_eq_true rfl, Nat.le_of_ble_eq_true rfl, by decide⟩ (hH_O (rfl : kotab 85 = some kMo)) (c_M_fails 2 (s 85 22) s _ hq2) (Nat.le_of_ble_eq_true rfl) ?_
    exact kW_le (L' := [some (kr 85), some (kI x1)]) ⟨Or.inr rfl, Or.inr rfl, trivial⟩ (b_M_opens_15 x1 q2 _ hf hq)
def f_M_opens (x1 : Int) (s : kM) : Option (kM) :=
  if x1 = 9 then (f_M_opens_6 x1 s) else (if x1 = 12 then (f_M_opens_6 x1 s) else (f_M_opens_21 x1 s))
set_option maxRecDepth 8000 in
theorem c_M_opens {sc : List Int} (x1 : Int) (s : kM) (t : kM) (hf : f_M_opens x1 s = some t) : kR sc 1 km_M_opens [kr 85, kI x1] (hH s) none (hH t) := by
  unfold f_M_opens at hf
  refine kR.start rfl ?_
  show kW sc 1 kc_M_opens 0 0 [some (kr 85), some (kI x1)] [] (hH s) _
  have hq : (fun (r : Option kV) (g : kH) => r = none ∧ g = hH t) none (hH t) := ⟨rfl, rfl⟩
  refine kw_step rfl rfl rfl rfl ?_
  refine kw_step rfl rfl rfl rfl ?_
  refine kw_icmp_eq rfl rfl (fun c1 => ?_) (fun c1 => ?_)
  · have hf := gift c1 hf
    exact kW_le (L' := [some (kr 85), some (kI x1)]) ⟨Or.inr rfl, Or.inr rfl, trivial⟩ (b_M_opens_6 x1 s _ hf hq)
  · have hf := giff c1 hf
    refine kw_step rfl rfl rfl rfl ?_
    refine kw_step rfl rfl rfl rfl ?_
    refine kw_icmp_ne rfl rfl (fun c2 => ?_) (fun c2 => ?_)
    · have hf := giff c2 hf
      exact kW_le (L' := [some (kr 85), some (kI x1)]) ⟨Or.inr rfl, Or.inr rfl, trivial⟩ (b_M_opens_21 x1 s _ hf hq)
    · have hf := gift c2 hf
      exact kW_le (L' := [some (kr 85), some (kI x1)]) ⟨Or.inr rfl, Or.inr rfl, trivial⟩ (b_M_opens_6 x1 s _ hf hq)
def f_M_isCounted_8 (s : kM) : Option (kM) :=
  gLet (gU s 85 28 (wI ((s 85 28) + 1))) fun s1 => some s1
set_option maxRecDepth 8000 in
theorem b_M_isCounted_8 {sc : List Int} {Q : Option kV → kH → Prop} (s : kM) (t : kM) (hf : f_M_isCounted_8 s = some t) (hq : (fun r => Q none (hH r)) t) : kW sc 1 kc_M_isCounted 0 8 [some (kr 85), none] [] (hH s) Q := by
  unfold f_M_isCounted_8 at hf
  refine kw_step rfl rfl rfl rfl ?_
  refine kw_step rfl rfl rfl rfl ?_
  refine kw_get rfl (hH_O (rfl : kotab 85 = some kMo)) rfl ?_
  refine kw_step rfl rfl rfl rfl ?_
  refine kw_step rfl rfl rfl rfl ?_
  obtain ⟨s1, ee2, hf⟩ := gbL hf
  refine kw_putH rfl (rfl : kotab 85 = some kMo) rfl rfl rfl (Nat.le_of_ble_eq_true rfl) rfl ee2 ?_
  cases hf
  exact kw_ret rfl rfl rfl hq
def f_M_isCounted (x1 : Int) (s : kM) : Option (kM) :=
  if (s 85 28) = 60 then ((f_M_fails 3 x1 s).bind fun q2 => f_M_isCounted_8 q2) else (f_M_isCounted_8 s)
set_option maxRecDepth 8000 in
theorem c_M_isCounted {sc : List Int} (x1 : Int) (s : kM) (t : kM) (hf : f_M_isCounted x1 s = some t) : kR sc 1 km_M_isCounted [kr 85, kI x1] (hH s) none (hH t) := by
  unfold f_M_isCounted at hf
  refine kR.start rfl ?_
  show kW sc 1 kc_M_isCounted 0 0 [some (kr 85), some (kI x1)] [] (hH s) _
  have hq : (fun (r : Option kV) (g : kH) => r = none ∧ g = hH t) none (hH t) := ⟨rfl, rfl⟩
  refine kw_step rfl rfl rfl rfl ?_
  refine kw_get rfl (hH_O (rfl : kotab 85 = some kMo)) rfl ?_
  refine kw_step rfl rfl rfl rfl ?_
  refine kw_icmp_ne rfl rfl (fun c1 => ?_) (fun c1 => ?_)
  · have hf := giff c1 hf
    exact kW_le (L' := [some (kr 85), none]) ⟨Or.inr rfl, Or.inl rfl, trivial⟩ (b_M_isCounted_8 s _ hf hq)
  · have hf := gift c1 hf
    refine kw_step rfl rfl rfl rfl ?_
    refine kw_step rfl rfl rfl rfl ?_
    refine kw_step rfl rfl rfl rfl ?_
    obtain ⟨q2, hq2, hf⟩ := gbind hf
    refine kw_callV (vs := [kI 3, kI x1]) rfl rfl rfl ⟨rfl, Nat.le_of_ble_eq_true rfl, Nat.le_of_ble_eq_true rfl, by decide⟩ (hH_O (rfl : kotab 85 = some kMo)) (c_M_fails 3 x1 s _ hq2) (Nat.le_of_ble_eq_true rfl) ?_
    exact kW_le (L' := [some (kr 85), none]) ⟨Or.inr rfl, Or.inl rfl, trivial⟩ (b_M_isCounted_8 q2 _ hf hq)
def f_M_entry (x1 : Int) (x2 : Int) (s : kM) : Option (kM) :=
  if (s 85 23) = 0 then ((gI 1800 (wI ((wI (300 * (s 85 24))) + (s 85 26)))).bind fun j2 => gLet (gU s 106 j2 x1) fun s4 => (gI 1800 (wI ((wI (300 * (s4 85 24))) + (s4 85 26)))).bind fun j7 => gLet (gU s4 107 j7 x2) fun s9 => gLet (gU s9 85 26 (wI ((s9 85 26) + 1))) fun s12 => some s12) else (some s)
set_option maxRecDepth 8000 in
theorem c_M_entry {sc : List Int} (x1 : Int) (x2 : Int) (s : kM) (t : kM) (hf : f_M_entry x1 x2 s = some t) : kR sc 0 km_M_entry [kr 85, kI x1, kI x2] (hH s) none (hH t) := by
  unfold f_M_entry at hf
  refine kR.start rfl ?_
  show kW sc 0 kc_M_entry 0 0 [some (kr 85), some (kI x1), some (kI x2)] [] (hH s) _
  have hq : (fun (r : Option kV) (g : kH) => r = none ∧ g = hH t) none (hH t) := ⟨rfl, rfl⟩
  refine kw_step rfl rfl rfl rfl ?_
  refine kw_get rfl (hH_O (rfl : kotab 85 = some kMo)) rfl ?_
  refine kw_if_ne rfl rfl (fun c1 => ?_) (fun c1 => ?_)
  · have hf := giff c1 hf
    cases hf
    exact kw_ret rfl rfl rfl hq
  · have hf := gift c1 hf
    refine kw_step rfl rfl rfl rfl ?_
    refine kw_get rfl (hH_O (rfl : kotab 85 = some kMo)) rfl ?_
    refine kw_step rfl rfl rfl rfl ?_
    refine kw_step rfl rfl rfl rfl ?_
    refine kw_get rfl (hH_O (rfl : kotab 85 = some kMo)) rfl ?_
    refine kw_step rfl rfl rfl rfl ?_
    refine kw_step rfl rfl rfl rfl ?_
    refine kw_get rfl (hH_O (rfl : kotab 85 = some kMo)) rfl ?_
    refine kw_step rfl rfl rfl rfl ?_
    refine kw_step rfl rfl rfl rfl ?_
    obtain ⟨j2, i3, hf⟩ := gbI hf
    obtain ⟨s4, ee5, hf⟩ := gbL hf
    refine kw_iastH rfl (rfl : ktab 106 = some (0, 1800)) i3.1 i3.2.1 i3.2.2 ee5 ?_
    refine kw_step rfl rfl rfl rfl ?_
    refine kw_get rfl (hH_O (rfl : kotab 85 = some kMo)) rfl ?_
    refine kw_step rfl rfl rfl rfl ?_
    refine kw_step rfl rfl rfl rfl ?_
    refine kw_get rfl (hH_O (rfl : kotab 85 = some kMo)) rfl ?_
    refine kw_step rfl rfl rfl rfl ?_
    refine kw_step rfl rfl rfl rfl ?_
    refine kw_get rfl (hH_O (rfl : kotab 85 = some kMo)) rfl ?_
    refine kw_step rfl rfl rfl rfl ?_
    refine kw_step rfl rfl rfl rfl ?_
    obtain ⟨j7, i8, hf⟩ := gbI hf
    obtain ⟨s9, ee10, hf⟩ := gbL hf
    refine kw_iastH rfl (rfl : ktab 107 = some (0, 1800)) i8.1 i8.2.1 i8.2.2 ee10 ?_
    refine kw_step rfl rfl rfl rfl ?_
    refine kw_step rfl rfl rfl rfl ?_
    refine kw_get rfl (hH_O (rfl : kotab 85 = some kMo)) rfl ?_
    refine kw_step rfl rfl rfl rfl ?_
    refine kw_step rfl rfl rfl rfl ?_
    obtain ⟨s12, ee13, hf⟩ := gbL hf
    refine kw_putH rfl (rfl : kotab 85 = some kMo) rfl rfl rfl (Nat.le_of_ble_eq_true rfl) rfl ee13 ?_
    cases hf
    exact kw_ret rfl rfl rfl hq
def f_M_wordOf (x0 : Int) (s : kM) : Option (Nat) :=
  if x0 = 0 then (some 20) else if x0 = 1 then (some 21) else if x0 = 2 then (some 22) else if x0 = 3 then (some 23) else if x0 = 4 then (some 24) else if x0 = 5 then (some 25) else if x0 = 6 then (some 26) else (some 27)
set_option maxRecDepth 8000 in
theorem c_M_wordOf {sc : List Int} (x0 : Int) (s : kM) (t : Nat) (hf : f_M_wordOf x0 s = some t) : kR sc 0 km_M_wordOf [kI x0] (hH s) (some (kS t)) (hH s) := by
  unfold f_M_wordOf at hf
  refine kR.start rfl ?_
  show kW sc 0 kc_M_wordOf 4 0 [some (kI x0)] [] (hH s) _
  have hq : (fun (r : Option kV) (g : kH) => r = some (kS t) ∧ g = hH s) (some (kS t)) (hH s) := ⟨rfl, rfl⟩
  refine kw_step rfl rfl rfl rfl ?_
  by_cases c1 : x0 = 0
  · have hf := gift c1 hf
    refine kw_tsw_at rfl c1 rfl rfl rfl ?_
    refine kw_step rfl rfl rfl rfl ?_
    cases hf
    exact kw_ret rfl rfl rfl hq
  have hf := giff c1 hf
  by_cases c2 : x0 = 1
  · have hf := gift c2 hf
    refine kw_tsw_at rfl c2 rfl rfl rfl ?_
    refine kw_step rfl rfl rfl rfl ?_
    cases hf
    exact kw_ret rfl rfl rfl hq
  have hf := giff c2 hf
  by_cases c3 : x0 = 2
  · have hf := gift c3 hf
    refine kw_tsw_at rfl c3 rfl rfl rfl ?_
    refine kw_step rfl rfl rfl rfl ?_
    cases hf
    exact kw_ret rfl rfl rfl hq
  have hf := giff c3 hf
  by_cases c4 : x0 = 3
  · have hf := gift c4 hf
    refine kw_tsw_at rfl c4 rfl rfl rfl ?_
    refine kw_step rfl rfl rfl rfl ?_
    cases hf
    exact kw_ret rfl rfl rfl hq
  have hf := giff c4 hf
  by_cases c5 : x0 = 4
  · have hf := gift c5 hf
    refine kw_tsw_at rfl c5 rfl rfl rfl ?_
    refine kw_step rfl rfl rfl rfl ?_
    cases hf
    exact kw_ret rfl rfl rfl hq
  have hf := giff c5 hf
  by_cases c6 : x0 = 5
  · have hf := gift c6 hf
    refine kw_tsw_at rfl c6 rfl rfl rfl ?_
    refine kw_step rfl rfl rfl rfl ?_
    cases hf
    exact kw_ret rfl rfl rfl hq
  have hf := giff c6 hf
  by_cases c7 : x0 = 6
  · have hf := gift c7 hf
    refine kw_tsw_at rfl c7 rfl rfl rfl ?_
    refine kw_step rfl rfl rfl rfl ?_
    cases hf
    exact kw_ret rfl rfl rfl hq
  have hf := giff c7 hf
  refine kw_tsw_out rfl (by omega) rfl ?_
  refine kw_step rfl rfl rfl rfl ?_
  cases hf
  exact kw_ret rfl rfl rfl hq
def f_M_value_33 (x1 : Int) (x2 : Int) (s : kM) : Option (kM) :=
  if x2 = (s 85 30) then ((f_M_fails 0 x1 s).bind fun q11 => some q11) else ((f_M_isCounted x1 s).bind fun q2 => (f_M_wordOf x2 q2).bind fun q4 => (gJ q4).bind fun _ => gLet (gU q2 85 22 (wI ((q2 85 22) + ((kstrs.getD q4 []).length : Int)))) fun s6 => (f_M_entry 1 x2 s6).bind fun q9 => some q9)
set_option maxRecDepth 8000 in
theorem b_M_value_33 {sc : List Int} {Q : Option kV → kH → Prop} (x1 : Int) (x2 : Int) (s : kM) (t : kM) (hf : f_M_value_33 x1 x2 s = some t) (hq : (fun r => Q none (hH r)) t) : kW sc 3 kc_M_value 0 33 [some (kr 85), some (kI x1), some (kI x2)] [] (hH s) Q := by
  unfold f_M_value_33 at hf
  refine kw_step rfl rfl rfl rfl ?_
  refine kw_step rfl rfl rfl rfl ?_
  refine kw_get rfl (hH_O (rfl : kotab 85 = some kMo)) rfl ?_
  refine kw_icmp_ne rfl rfl (fun c1 => ?_) (fun c1 => ?_)
  · have hf := giff c1 hf
    refine kw_step rfl rfl rfl rfl ?_
    refine kw_step rfl rfl rfl rfl ?_
    obtain ⟨q2, hq2, hf⟩ := gbind hf
    refine kw_callV (vs := [kI x1]) rfl rfl rfl ⟨rfl, Nat.le_of_ble_eq_true rfl, Nat.le_of_ble_eq_true rfl, by decide⟩ (hH_O (rfl : kotab 85 = some kMo)) (c_M_isCounted x1 s _ hq2) (Nat.le_of_ble_eq_true rfl) ?_
    refine kw_step rfl rfl rfl rfl ?_
    refine kw_step rfl rfl rfl rfl ?_
    refine kw_get rfl (hH_O (rfl : kotab 85 = some kMo)) rfl ?_
    refine kw_step rfl rfl rfl rfl ?_
    obtain ⟨q4, hq4, hf⟩ := gbind hf
    refine kw_callS (vs := [kI x2]) rfl rfl rfl ⟨rfl, Nat.le_of_ble_eq_true rfl, Nat.le_of_ble_eq_true rfl, rfl⟩ (c_M_wordOf x2 q2 _ hq4) (Nat.le_of_ble_eq_true rfl) ?_
    obtain ⟨z5, hf⟩ := gbJ hf
    refine kw_slen rfl ⟨z5, Nat.le_of_ble_eq_true rfl⟩ ?_
    refine kw_step rfl rfl rfl rfl ?_
    obtain ⟨s6, ee7, hf⟩ := gbL hf
    refine kw_putH rfl (rfl : kotab 85 = some kMo) rfl rfl rfl (Nat.le_of_ble_eq_true rfl) rfl ee7 ?_
    refine kw_step rfl rfl rfl rfl ?_
    refine kw_step rfl rfl rfl rfl ?_
    refine kw_step rfl rfl rfl rfl ?_
    obtain ⟨q9, hq9, hf⟩ := gbind hf
    refine kw_callV (vs := [kI 1, kI x2]) rfl rfl rfl ⟨rfl, Nat.le_of_ble_eq_true rfl, Nat.le_of_ble_eq_true rfl, by decide⟩ (hH_O (rfl : kotab 85 = some kMo)) (c_M_entry 1 x2 s6 _ hq9) (Nat.le_of_ble_eq_true rfl) ?_
    cases hf
    exact kw_ret rfl rfl rfl hq
  · have hf := gift c1 hf
    refine kw_step rfl rfl rfl rfl ?_
    refine kw_step rfl rfl rfl rfl ?_
    refine kw_step rfl rfl rfl rfl ?_
    obtain ⟨q11, hq11, hf⟩ := gbind hf
    refine kw_callV (vs := [kI 0, kI x1]) rfl rfl rfl ⟨rfl, Nat.le_of_ble_eq_true rfl, Nat.le_of_ble_eq_true rfl, by decide⟩ (hH_O (rfl : kotab 85 = some kMo)) (c_M_fails 0 x1 s _ hq11) (Nat.le_of_ble_eq_true rfl) ?_
    cases hf
    exact kw_ret rfl rfl rfl hq
def f_M_value_22b (x1 : Int) (x2 : Int) (s : kM) : Option ((Int) ⊕ (kM)) :=
  if (s 85 30) ≤ x2 then ((f_M_value_33 x1 x2 s).map Sum.inr) else ((f_M_wordOf x2 s).bind fun q4 => (f_M_stood q4 s).bind fun q5 => if q5 = 0 then (some (.inl ((wI (x2 + 1))))) else ((f_M_value_33 x1 x2 s).map Sum.inr))
set_option maxRecDepth 8000 in
theorem b_M_value_22b {sc : List Int} {Q : Option kV → kH → Prop} (x1 : Int) (x2 : Int) (s : kM) (t : (Int) ⊕ (kM)) (hf : f_M_value_22b x1 x2 s = some t) (hq : (gE (fun x => kW sc 3 kc_M_value 0 22 [some (kr 85), some (kI x1), some (kI x)] [] (hH s) Q) (fun r => Q none (hH r))) t) : kW sc 3 kc_M_value 0 22 [some (kr 85), some (kI x1), some (kI x2)] [] (hH s) Q := by
  unfold f_M_value_22b at hf
  refine kw_step rfl rfl rfl rfl ?_
  refine kw_step rfl rfl rfl rfl ?_
  refine kw_get rfl (hH_O (rfl : kotab 85 = some kMo)) rfl ?_
  refine kw_icmp_ge rfl rfl (fun c1 => ?_) (fun c1 => ?_)
  · have hf := gift c1 hf
    obtain ⟨t2, hg3, rfl⟩ := gmap hf
    exact kW_le (L' := [some (kr 85), some (kI x1), some (kI x2)]) ⟨Or.inr rfl, Or.inr rfl, Or.inr rfl, trivial⟩ (b_M_value_33 x1 x2 s _ hg3 hq)
  · have hf := giff c1 hf
    refine kw_step rfl rfl rfl rfl ?_
    refine kw_step rfl rfl rfl rfl ?_
    obtain ⟨q4, hq4, hf⟩ := gbind hf
    refine kw_callS (vs := [kI x2]) rfl rfl rfl ⟨rfl, Nat.le_of_ble_eq_true rfl, Nat.le_of_ble_eq_true rfl, rfl⟩ (c_M_wordOf x2 s _ hq4) (Nat.le_of_ble_eq_true rfl) ?_
    obtain ⟨q5, hq5, hf⟩ := gbind hf
    refine kw_callV (vs := [kS q4]) rfl rfl rfl ⟨rfl, Nat.le_of_ble_eq_true rfl, Nat.le_of_ble_eq_true rfl, by decide⟩ (hH_O (rfl : kotab 85 = some kMo)) (c_M_stood q4 s _ hq5) (Nat.le_of_ble_eq_true rfl) ?_
    refine kw_if_ne rfl rfl (fun c6 => ?_) (fun c6 => ?_)
    · have hf := giff c6 hf
      obtain ⟨t7, hg8, rfl⟩ := gmap hf
      exact kW_le (L' := [some (kr 85), some (kI x1), some (kI x2)]) ⟨Or.inr rfl, Or.inr rfl, Or.inr rfl, trivial⟩ (b_M_value_33 x1 x2 s _ hg8 hq)
    · have hf := gift c6 hf
      refine kw_step (L' := [some (kr 85), some (kI x1), some (kI (wI (x2 + 1)))]) rfl rfl rfl rfl ?_
      refine kw_goto rfl rfl ?_
      cases hf
      exact kW_le (L' := [some (kr 85), some (kI x1), some (kI (wI (x2 + 1)))]) ⟨Or.inr rfl, Or.inr rfl, Or.inr rfl, trivial⟩ hq
def f_M_value_22 (x1 : Int) (x2 : Int) (s : kM) : Option (kM) :=
  gL (fun (x : Int) => f_M_value_22b x1 x s) gF (x2)
theorem b_M_value_22 {sc : List Int} {Q : Option kV → kH → Prop} (x1 : Int) (x2 : Int) (s : kM) (t : kM) (hf : f_M_value_22 x1 x2 s = some t) (hq : (fun r => Q none (hH r)) t) : kW sc 3 kc_M_value 0 22 [some (kr 85), some (kI x1), some (kI x2)] [] (hH s) Q :=
  gL_ind (P := fun (x : Int) => kW sc 3 kc_M_value 0 22 [some (kr 85), some (kI x1), some (kI x)] [] (hH s) Q) (q := (fun r => Q none (hH r))) (fun x t hf hq => b_M_value_22b x1 x s t hf hq) gF (x2) t hf hq
def f_M_value (s : kM) : Option (kM) :=
  (f_M_blanks s).bind fun q1 => (f_M_isDigit q1).bind fun q3 => if q3 = 0 then (f_M_value_22 (q1 85 22) 0 q1) else ((f_M_digits 99999 q1).bind fun q5 => (f_M_isCounted (q1 85 22) q5.2).bind fun q7 => (f_M_entry 0 q5.1 q7).bind fun q9 => some q9)
set_option maxRecDepth 8000 in
theorem c_M_value {sc : List Int} (s : kM) (t : kM) (hf : f_M_value s = some t) : kR sc 3 km_M_value [kr 85] (hH s) none (hH t) := by
  unfold f_M_value at hf
  refine kR.start rfl ?_
  show kW sc 3 kc_M_value 0 0 [some (kr 85), none, none] [] (hH s) _
  have hq : (fun (r : Option kV) (g : kH) => r = none ∧ g = hH t) none (hH t) := ⟨rfl, rfl⟩
  refine kw_step rfl rfl rfl rfl ?_
  obtain ⟨q1, hq1, hf⟩ := gbind hf
  refine kw_callV (vs := []) rfl rfl rfl ⟨rfl, Nat.le_of_ble_eq_true rfl, Nat.le_of_ble_eq_true rfl, by decide⟩ (hH_O (rfl : kotab 85 = some kMo)) (c_M_blanks s _ hq1) (Nat.le_of_ble_eq_true rfl) ?_
  refine kw_step rfl rfl rfl rfl ?_
  refine kw_get rfl (hH_O (rfl : kotab 85 = some kMo)) rfl ?_
  refine kw_step (L' := [some (kr 85), some (kI (q1 85 22)), none]) rfl rfl rfl rfl ?_
  refine kw_step rfl rfl rfl rfl ?_
  obtain ⟨q3, hq3, hf⟩ := gbind hf
  refine kw_callV (vs := []) rfl rfl rfl ⟨rfl, Nat.le_of_ble_eq_true rfl, Nat.le_of_ble_eq_true rfl, by decide⟩ (hH_O (rfl : kotab 85 = some kMo)) (c_M_isDigit q1 _ hq3) (Nat.le_of_ble_eq_true rfl) ?_
  refine kw_if_eq rfl rfl (fun c4 => ?_) (fun c4 => ?_)
  · have hf := gift c4 hf
    refine kw_step rfl rfl rfl rfl ?_
    refine kw_step (L' := [some (kr 85), some (kI (q1 85 22)), some (kI 0)]) rfl rfl rfl rfl ?_
    exact kW_le (L' := [some (kr 85), some (kI (q1 85 22)), some (kI 0)]) ⟨Or.inr rfl, Or.inr rfl, Or.inr rfl, trivial⟩ (b_M_value_22 (q1 85 22) 0 q1 _ hf hq)
  · have hf := giff c4 hf
    refine kw_step rfl rfl rfl rfl ?_
    refine kw_step rfl rfl rfl rfl ?_
    obtain ⟨q5, hq5, hf⟩ := gbind hf
    refine kw_callV (vs := [kI 99999]) rfl rfl rfl ⟨rfl, Nat.le_of_ble_eq_true rfl, Nat.le_of_ble_eq_true rfl, by decide⟩ (hH_O (rfl : kotab 85 = some kMo)) (c_M_digits 99999 q1 _ hq5) (Nat.le_of_ble_eq_true rfl) ?_
    refine kw_step (L' := [some (kr 85), some (kI (q1 85 22)), some (kI q5.1)]) rfl rfl rfl rfl ?_
    refine kw_step rfl rfl rfl rfl ?_
    refine kw_step rfl rfl rfl rfl ?_
    obtain ⟨q7, hq7, hf⟩ := gbind hf
    refine kw_callV (vs := [kI (q1 85 22)]) rfl rfl rfl ⟨rfl, Nat.le_of_ble_eq_true rfl, Nat.le_of_ble_eq_true rfl, by decide⟩ (hH_O (rfl : kotab 85 = some kMo)) (c_M_isCounted (q1 85 22) q5.2 _ hq7) (Nat.le_of_ble_eq_true rfl) ?_
    refine kw_step rfl rfl rfl rfl ?_
    refine kw_step rfl rfl rfl rfl ?_
    refine kw_step rfl rfl rfl rfl ?_
    obtain ⟨q9, hq9, hf⟩ := gbind hf
    refine kw_callV (vs := [kI 0, kI q5.1]) rfl rfl rfl ⟨rfl, Nat.le_of_ble_eq_true rfl, Nat.le_of_ble_eq_true rfl, by decide⟩ (hH_O (rfl : kotab 85 = some kMo)) (c_M_entry 0 q5.1 q7 _ hq9) (Nat.le_of_ble_eq_true rfl) ?_
    cases hf
    exact kw_ret rfl rfl rfl hq
def f_M_term_32 (y0 : Int) (s : kM) : Option ((kM) ⊕ (kM)) :=
  gLet (gU s 85 22 (wI ((s 85 22) + 1))) fun s1 => (f_M_value s1).bind fun q4 => (f_M_entry y0 0 q4).bind fun q6 => (f_M_blanks q6).bind fun q8 => some (.inl (q8))
set_option maxRecDepth 8000 in
theorem b_M_term_32 {sc : List Int} {Q : Option kV → kH → Prop} (y0 : Int) (s : kM) (t : (kM) ⊕ (kM)) (hf : f_M_term_32 y0 s = some t) (hq : (gE (fun x => kW sc 4 kc_M_term 0 4 [some (kr 85), none] [] (hH x) Q) (fun r => Q none (hH r))) t) : kW sc 4 kc_M_term 0 32 [some (kr 85), none] [kI y0] (hH s) Q := by
  unfold f_M_term_32 at hf
  refine kw_step (L' := [some (kr 85), some (kI y0)]) rfl rfl rfl rfl ?_
  refine kw_step rfl rfl rfl rfl ?_
  refine kw_step rfl rfl rfl rfl ?_
  refine kw_get rfl (hH_O (rfl : kotab 85 = some kMo)) rfl ?_
  refine kw_step rfl rfl rfl rfl ?_
  refine kw_step rfl rfl rfl rfl ?_
  obtain ⟨s1, ee2, hf⟩ := gbL hf
  refine kw_putH rfl (rfl : kotab 85 = some kMo) rfl rfl rfl (Nat.le_of_ble_eq_true rfl) rfl ee2 ?_
  refine kw_step rfl rfl rfl rfl ?_
  obtain ⟨q4, hq4, hf⟩ := gbind hf
  refine kw_callV (vs := []) rfl rfl rfl ⟨rfl, Nat.le_of_ble_eq_true rfl, Nat.le_of_ble_eq_true rfl, by decide⟩ (hH_O (rfl : kotab 85 = some kMo)) (c_M_value s1 _ hq4) (Nat.le_of_ble_eq_true rfl) ?_
  refine kw_step rfl rfl rfl rfl ?_
  refine kw_step rfl rfl rfl rfl ?_
  refine kw_step rfl rfl rfl rfl ?_
  obtain ⟨q6, hq6, hf⟩ := gbind hf
  refine kw_callV (vs := [kI y0, kI 0]) rfl rfl rfl ⟨rfl, Nat.le_of_ble_eq_true rfl, Nat.le_of_ble_eq_true rfl, by decide⟩ (hH_O (rfl : kotab 85 = some kMo)) (c_M_entry y0 0 q4 _ hq6) (Nat.le_of_ble_eq_true rfl) ?_
  refine kw_step rfl rfl rfl rfl ?_
  obtain ⟨q8, hq8, hf⟩ := gbind hf
  refine kw_callV (vs := []) rfl rfl rfl ⟨rfl, Nat.le_of_ble_eq_true rfl, Nat.le_of_ble_eq_true rfl, by decide⟩ (hH_O (rfl : kotab 85 = some kMo)) (c_M_blanks q6 _ hq8) (Nat.le_of_ble_eq_true rfl) ?_
  refine kw_goto rfl rfl ?_
  cases hf
  exact kW_le (L' := [some (kr 85), none]) ⟨Or.inr rfl, Or.inl rfl, trivial⟩ hq
def f_M_term_19 (s : kM) : Option ((kM) ⊕ (kM)) :=
  (f_M_sign s).bind fun q1 => if q1 = 42 then (f_M_term_32 13 s) else ((f_M_sign s).bind fun q3 => if q3 = 47 then (f_M_term_32 14 s) else (f_M_term_32 15 s))
set_option maxRecDepth 8000 in
theorem b_M_term_19 {sc : List Int} {Q : Option kV → kH → Prop} (s : kM) (t : (kM) ⊕ (kM)) (hf : f_M_term_19 s = some t) (hq : (gE (fun x => kW sc 4 kc_M_term 0 4 [some (kr 85), none] [] (hH x) Q) (fun r => Q none (hH r))) t) : kW sc 4 kc_M_term 0 19 [some (kr 85), none] [] (hH s) Q := by
  unfold f_M_term_19 at hf
  refine kw_step rfl rfl rfl rfl ?_
  obtain ⟨q1, hq1, hf⟩ := gbind hf
  refine kw_callV (vs := []) rfl rfl rfl ⟨rfl, Nat.le_of_ble_eq_true rfl, Nat.le_of_ble_eq_true rfl, by decide⟩ (hH_O (rfl : kotab 85 = some kMo)) (c_M_sign s _ hq1) (Nat.le_of_ble_eq_true rfl) ?_
  refine kw_step rfl rfl rfl rfl ?_
  refine kw_icmp_ne rfl rfl (fun c2 => ?_) (fun c2 => ?_)
  · have hf := giff c2 hf
    refine kw_step rfl rfl rfl rfl ?_
    obtain ⟨q3, hq3, hf⟩ := gbind hf
    refine kw_callV (vs := []) rfl rfl rfl ⟨rfl, Nat.le_of_ble_eq_true rfl, Nat.le_of_ble_eq_true rfl, by decide⟩ (hH_O (rfl : kotab 85 = some kMo)) (c_M_sign s _ hq3) (Nat.le_of_ble_eq_true rfl) ?_
    refine kw_step rfl rfl rfl rfl ?_
    refine kw_icmp_ne rfl rfl (fun c4 => ?_) (fun c4 => ?_)
    · have hf := giff c4 hf
      refine kw_step rfl rfl rfl rfl ?_
      exact kW_le (L' := [some (kr 85), none]) ⟨Or.inr rfl, Or.inl rfl, trivial⟩ (b_M_term_32 15 s _ hf hq)
    · have hf := gift c4 hf
      refine kw_step rfl rfl rfl rfl ?_
      refine kw_goto rfl rfl ?_
      exact kW_le (L' := [some (kr 85), none]) ⟨Or.inr rfl, Or.inl rfl, trivial⟩ (b_M_term_32 14 s _ hf hq)
  · have hf := gift c2 hf
    refine kw_step rfl rfl rfl rfl ?_
    refine kw_goto rfl rfl ?_
    exact kW_le (L' := [some (kr 85), none]) ⟨Or.inr rfl, Or.inl rfl, trivial⟩ (b_M_term_32 13 s _ hf hq)
def f_M_term_4b (s : kM) : Option ((kM) ⊕ (kM)) :=
  if (s 85 23) = 0 then ((f_M_sign s).bind fun q2 => if q2 = 42 then (f_M_term_19 s) else ((f_M_sign s).bind fun q4 => if q4 = 47 then (f_M_term_19 s) else ((f_M_sign s).bind fun q6 => if q6 = 37 then (f_M_term_19 s) else (some (.inr s))))) else (some (.inr s))
set_option maxRecDepth 8000 in
theorem b_M_term_4b {sc : List Int} {Q : Option kV → kH → Prop} (s : kM) (t : (kM) ⊕ (kM)) (hf : f_M_term_4b s = some t) (hq : (gE (fun x => kW sc 4 kc_M_term 0 4 [some (kr 85), none] [] (hH x) Q) (fun r => Q none (hH r))) t) : kW sc 4 kc_M_term 0 4 [some (kr 85), none] [] (hH s) Q := by
  unfold f_M_term_4b at hf
  refine kw_step rfl rfl rfl rfl ?_
  refine kw_get rfl (hH_O (rfl : kotab 85 = some kMo)) rfl ?_
  refine kw_if_ne rfl rfl (fun c1 => ?_) (fun c1 => ?_)
  · have hf := giff c1 hf
    cases hf
    exact kw_ret rfl rfl rfl hq
  · have hf := gift c1 hf
    refine kw_step rfl rfl rfl rfl ?_
    obtain ⟨q2, hq2, hf⟩ := gbind hf
    refine kw_callV (vs := []) rfl rfl rfl ⟨rfl, Nat.le_of_ble_eq_true rfl, Nat.le_of_ble_eq_true rfl, by decide⟩ (hH_O (rfl : kotab 85 = some kMo)) (c_M_sign s _ hq2) (Nat.le_of_ble_eq_true rfl) ?_
    refine kw_step rfl rfl rfl rfl ?_
    refine kw_icmp_eq rfl rfl (fun c3 => ?_) (fun c3 => ?_)
    · have hf := gift c3 hf
      exact kW_le (L' := [some (kr 85), none]) ⟨Or.inr rfl, Or.inl rfl, trivial⟩ (b_M_term_19 s _ hf hq)
    · have hf := giff c3 hf
      refine kw_step rfl rfl rfl rfl ?_
      obtain ⟨q4, hq4, hf⟩ := gbind hf
      refine kw_callV (vs := []) rfl rfl rfl ⟨rfl, Nat.le_of_ble_eq_true rfl, Nat.le_of_ble_eq_true rfl, by decide⟩ (hH_O (rfl : kotab 85 = some kMo)) (c_M_sign s _ hq4) (Nat.le_of_ble_eq_true rfl) ?_
      refine kw_step rfl rfl rfl rfl ?_
      refine kw_icmp_eq rfl rfl (fun c5 => ?_) (fun c5 => ?_)
      · have hf := gift c5 hf
        exact kW_le (L' := [some (kr 85), none]) ⟨Or.inr rfl, Or.inl rfl, trivial⟩ (b_M_term_19 s _ hf hq)
      · have hf := giff c5 hf
        refine kw_step rfl rfl rfl rfl ?_
        obtain ⟨q6, hq6, hf⟩ := gbind hf
        refine kw_callV (vs := []) rfl rfl rfl ⟨rfl, Nat.le_of_ble_eq_true rfl, Nat.le_of_ble_eq_true rfl, by decide⟩ (hH_O (rfl : kotab 85 = some kMo)) (c_M_sign s _ hq6) (Nat.le_of_ble_eq_true rfl) ?_
        refine kw_step rfl rfl rfl rfl ?_
        refine kw_icmp_ne rfl rfl (fun c7 => ?_) (fun c7 => ?_)
        · have hf := giff c7 hf
          cases hf
          exact kw_ret rfl rfl rfl hq
        · have hf := gift c7 hf
          exact kW_le (L' := [some (kr 85), none]) ⟨Or.inr rfl, Or.inl rfl, trivial⟩ (b_M_term_19 s _ hf hq)
def f_M_term_4 (s : kM) : Option (kM) :=
  gL (fun (x : kM) => f_M_term_4b x) gF (s)
theorem b_M_term_4 {sc : List Int} {Q : Option kV → kH → Prop} (s : kM) (t : kM) (hf : f_M_term_4 s = some t) (hq : (fun r => Q none (hH r)) t) : kW sc 4 kc_M_term 0 4 [some (kr 85), none] [] (hH s) Q :=
  gL_ind (P := fun (x : kM) => kW sc 4 kc_M_term 0 4 [some (kr 85), none] [] (hH x) Q) (q := (fun r => Q none (hH r))) (fun x t hf hq => b_M_term_4b x t hf hq) gF (s) t hf hq
def f_M_term (s : kM) : Option (kM) :=
  (f_M_value s).bind fun q1 => (f_M_blanks q1).bind fun q3 => f_M_term_4 q3
set_option maxRecDepth 8000 in
theorem c_M_term {sc : List Int} (s : kM) (t : kM) (hf : f_M_term s = some t) : kR sc 4 km_M_term [kr 85] (hH s) none (hH t) := by
  unfold f_M_term at hf
  refine kR.start rfl ?_
  show kW sc 4 kc_M_term 0 0 [some (kr 85), none] [] (hH s) _
  have hq : (fun (r : Option kV) (g : kH) => r = none ∧ g = hH t) none (hH t) := ⟨rfl, rfl⟩
  refine kw_step rfl rfl rfl rfl ?_
  obtain ⟨q1, hq1, hf⟩ := gbind hf
  refine kw_callV (vs := []) rfl rfl rfl ⟨rfl, Nat.le_of_ble_eq_true rfl, Nat.le_of_ble_eq_true rfl, by decide⟩ (hH_O (rfl : kotab 85 = some kMo)) (c_M_value s _ hq1) (Nat.le_of_ble_eq_true rfl) ?_
  refine kw_step rfl rfl rfl rfl ?_
  obtain ⟨q3, hq3, hf⟩ := gbind hf
  refine kw_callV (vs := []) rfl rfl rfl ⟨rfl, Nat.le_of_ble_eq_true rfl, Nat.le_of_ble_eq_true rfl, by decide⟩ (hH_O (rfl : kotab 85 = some kMo)) (c_M_blanks q1 _ hq3) (Nat.le_of_ble_eq_true rfl) ?_
  exact kW_le (L' := [some (kr 85), none]) ⟨Or.inr rfl, Or.inl rfl, trivial⟩ (b_M_term_4 q3 _ hf hq)
def f_M_sum_20 (y0 : Int) (s : kM) : Option ((kM) ⊕ (kM)) :=
  gLet (gU s 85 22 (wI ((s 85 22) + 1))) fun s1 => (f_M_term s1).bind fun q4 => (f_M_entry y0 0 q4).bind fun q6 => some (.inl (q6))
set_option maxRecDepth 8000 in
theorem b_M_sum_20 {sc : List Int} {Q : Option kV → kH → Prop} (y0 : Int) (s : kM) (t : (kM) ⊕ (kM)) (hf : f_M_sum_20 y0 s = some t) (hq : (gE (fun x => kW sc 5 kc_M_sum 0 2 [some (kr 85), none] [] (hH x) Q) (fun r => Q none (hH r))) t) : kW sc 5 kc_M_sum 0 20 [some (kr 85), none] [kI y0] (hH s) Q := by
  unfold f_M_sum_20 at hf
  refine kw_step (L' := [some (kr 85), some (kI y0)]) rfl rfl rfl rfl ?_
  refine kw_step rfl rfl rfl rfl ?_
  refine kw_step rfl rfl rfl rfl ?_
  refine kw_get rfl (hH_O (rfl : kotab 85 = some kMo)) rfl ?_
  refine kw_step rfl rfl rfl rfl ?_
  refine kw_step rfl rfl rfl rfl ?_
  obtain ⟨s1, ee2, hf⟩ := gbL hf
  refine kw_putH rfl (rfl : kotab 85 = some kMo) rfl rfl rfl (Nat.le_of_ble_eq_true rfl) rfl ee2 ?_
  refine kw_step rfl rfl rfl rfl ?_
  obtain ⟨q4, hq4, hf⟩ := gbind hf
  refine kw_callV (vs := []) rfl rfl rfl ⟨rfl, Nat.le_of_ble_eq_true rfl, Nat.le_of_ble_eq_true rfl, by decide⟩ (hH_O (rfl : kotab 85 = some kMo)) (c_M_term s1 _ hq4) (Nat.le_of_ble_eq_true rfl) ?_
  refine kw_step rfl rfl rfl rfl ?_
  refine kw_step rfl rfl rfl rfl ?_
  refine kw_step rfl rfl rfl rfl ?_
  obtain ⟨q6, hq6, hf⟩ := gbind hf
  refine kw_callV (vs := [kI y0, kI 0]) rfl rfl rfl ⟨rfl, Nat.le_of_ble_eq_true rfl, Nat.le_of_ble_eq_true rfl, by decide⟩ (hH_O (rfl : kotab 85 = some kMo)) (c_M_entry y0 0 q4 _ hq6) (Nat.le_of_ble_eq_true rfl) ?_
  refine kw_goto rfl rfl ?_
  cases hf
  exact kW_le (L' := [some (kr 85), none]) ⟨Or.inr rfl, Or.inl rfl, trivial⟩ hq
def f_M_sum_13 (s : kM) : Option ((kM) ⊕ (kM)) :=
  (f_M_sign s).bind fun q1 => if q1 = 43 then (f_M_sum_20 2 s) else (f_M_sum_20 3 s)
set_option maxRecDepth 8000 in
theorem b_M_sum_13 {sc : List Int} {Q : Option kV → kH → Prop} (s : kM) (t : (kM) ⊕ (kM)) (hf : f_M_sum_13 s = some t) (hq : (gE (fun x => kW sc 5 kc_M_sum 0 2 [some (kr 85), none] [] (hH x) Q) (fun r => Q none (hH r))) t) : kW sc 5 kc_M_sum 0 13 [some (kr 85), none] [] (hH s) Q := by
  unfold f_M_sum_13 at hf
  refine kw_step rfl rfl rfl rfl ?_
  obtain ⟨q1, hq1, hf⟩ := gbind hf
  refine kw_callV (vs := []) rfl rfl rfl ⟨rfl, Nat.le_of_ble_eq_true rfl, Nat.le_of_ble_eq_true rfl, by decide⟩ (hH_O (rfl : kotab 85 = some kMo)) (c_M_sign s _ hq1) (Nat.le_of_ble_eq_true rfl) ?_
  refine kw_step rfl rfl rfl rfl ?_
  refine kw_icmp_ne rfl rfl (fun c2 => ?_) (fun c2 => ?_)
  · have hf := giff c2 hf
    refine kw_step rfl rfl rfl rfl ?_
    exact kW_le (L' := [some (kr 85), none]) ⟨Or.inr rfl, Or.inl rfl, trivial⟩ (b_M_sum_20 3 s _ hf hq)
  · have hf := gift c2 hf
    refine kw_step rfl rfl rfl rfl ?_
    refine kw_goto rfl rfl ?_
    exact kW_le (L' := [some (kr 85), none]) ⟨Or.inr rfl, Or.inl rfl, trivial⟩ (b_M_sum_20 2 s _ hf hq)
def f_M_sum_2b (s : kM) : Option ((kM) ⊕ (kM)) :=
  if (s 85 23) = 0 then ((f_M_sign s).bind fun q2 => if q2 = 43 then (f_M_sum_13 s) else ((f_M_sign s).bind fun q4 => if q4 = 45 then (f_M_sum_13 s) else (some (.inr s)))) else (some (.inr s))
set_option maxRecDepth 8000 in
theorem b_M_sum_2b {sc : List Int} {Q : Option kV → kH → Prop} (s : kM) (t : (kM) ⊕ (kM)) (hf : f_M_sum_2b s = some t) (hq : (gE (fun x => kW sc 5 kc_M_sum 0 2 [some (kr 85), none] [] (hH x) Q) (fun r => Q none (hH r))) t) : kW sc 5 kc_M_sum 0 2 [some (kr 85), none] [] (hH s) Q := by
  unfold f_M_sum_2b at hf
  refine kw_step rfl rfl rfl rfl ?_
  refine kw_get rfl (hH_O (rfl : kotab 85 = some kMo)) rfl ?_
  refine kw_if_ne rfl rfl (fun c1 => ?_) (fun c1 => ?_)
  · have hf := giff c1 hf
    cases hf
    exact kw_ret rfl rfl rfl hq
  · have hf := gift c1 hf
    refine kw_step rfl rfl rfl rfl ?_
    obtain ⟨q2, hq2, hf⟩ := gbind hf
    refine kw_callV (vs := []) rfl rfl rfl ⟨rfl, Nat.le_of_ble_eq_true rfl, Nat.le_of_ble_eq_true rfl, by decide⟩ (hH_O (rfl : kotab 85 = some kMo)) (c_M_sign s _ hq2) (Nat.le_of_ble_eq_true rfl) ?_
    refine kw_step rfl rfl rfl rfl ?_
    refine kw_icmp_eq rfl rfl (fun c3 => ?_) (fun c3 => ?_)
    · have hf := gift c3 hf
      exact kW_le (L' := [some (kr 85), none]) ⟨Or.inr rfl, Or.inl rfl, trivial⟩ (b_M_sum_13 s _ hf hq)
    · have hf := giff c3 hf
      refine kw_step rfl rfl rfl rfl ?_
      obtain ⟨q4, hq4, hf⟩ := gbind hf
      refine kw_callV (vs := []) rfl rfl rfl ⟨rfl, Nat.le_of_ble_eq_true rfl, Nat.le_of_ble_eq_true rfl, by decide⟩ (hH_O (rfl : kotab 85 = some kMo)) (c_M_sign s _ hq4) (Nat.le_of_ble_eq_true rfl) ?_
      refine kw_step rfl rfl rfl rfl ?_
      refine kw_icmp_ne rfl rfl (fun c5 => ?_) (fun c5 => ?_)
      · have hf := giff c5 hf
        cases hf
        exact kw_ret rfl rfl rfl hq
      · have hf := gift c5 hf
        exact kW_le (L' := [some (kr 85), none]) ⟨Or.inr rfl, Or.inl rfl, trivial⟩ (b_M_sum_13 s _ hf hq)
def f_M_sum_2 (s : kM) : Option (kM) :=
  gL (fun (x : kM) => f_M_sum_2b x) gF (s)
theorem b_M_sum_2 {sc : List Int} {Q : Option kV → kH → Prop} (s : kM) (t : kM) (hf : f_M_sum_2 s = some t) (hq : (fun r => Q none (hH r)) t) : kW sc 5 kc_M_sum 0 2 [some (kr 85), none] [] (hH s) Q :=
  gL_ind (P := fun (x : kM) => kW sc 5 kc_M_sum 0 2 [some (kr 85), none] [] (hH x) Q) (q := (fun r => Q none (hH r))) (fun x t hf hq => b_M_sum_2b x t hf hq) gF (s) t hf hq
def f_M_sum (s : kM) : Option (kM) :=
  (f_M_term s).bind fun q1 => f_M_sum_2 q1
set_option maxRecDepth 8000 in
theorem c_M_sum {sc : List Int} (s : kM) (t : kM) (hf : f_M_sum s = some t) : kR sc 5 km_M_sum [kr 85] (hH s) none (hH t) := by
  unfold f_M_sum at hf
  refine kR.start rfl ?_
  show kW sc 5 kc_M_sum 0 0 [some (kr 85), none] [] (hH s) _
  have hq : (fun (r : Option kV) (g : kH) => r = none ∧ g = hH t) none (hH t) := ⟨rfl, rfl⟩
  refine kw_step rfl rfl rfl rfl ?_
  obtain ⟨q1, hq1, hf⟩ := gbind hf
  refine kw_callV (vs := []) rfl rfl rfl ⟨rfl, Nat.le_of_ble_eq_true rfl, Nat.le_of_ble_eq_true rfl, by decide⟩ (hH_O (rfl : kotab 85 = some kMo)) (c_M_term s _ hq1) (Nat.le_of_ble_eq_true rfl) ?_
  exact kW_le (L' := [some (kr 85), none]) ⟨Or.inr rfl, Or.inl rfl, trivial⟩ (b_M_sum_2 q1 _ hf hq)
