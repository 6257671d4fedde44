/-! PRINTED by wip/whole/decall.py: methods as functions over the flat world, with their contracts -/
def f_M_finds_80b (x2 : Int) (x3 : Int) (s : kM) : Option ((Int × Int) ⊕ (Int × kM)) :=
  (gI 301 x3).bind fun j1 => if (s 121 j1) = (-1) then (some (.inr (x2, s))) else ((gI 301 x3).bind fun j4 => some (.inl ((wI (x2 + 1)), (s 121 j4))))
set_option maxRecDepth 8000 in
theorem b_M_finds_80b {sc : List Int} {Q : Option kV → kH → Prop} (x2 : Int) (x3 : Int) (s : kM) (t : (Int × Int) ⊕ (Int × kM)) (hf : f_M_finds_80b x2 x3 s = some t) (hq : (gE (fun x => kW sc 6 kc_M_finds 1 80 [some (kr 85), none, some (kI x.1), some (kI x.2)] [] (hH s) Q) (fun r => Q (some (kI r.1)) (hH r.2))) t) : kW sc 6 kc_M_finds 1 80 [some (kr 85), none, some (kI x2), some (kI x3)] [] (hH s) Q := by
  unfold f_M_finds_80b at hf
  refine kw_step rfl rfl rfl rfl ?_
  refine kw_get rfl (hH_O (rfl : kotab 85 = some kMo)) rfl ?_
  refine kw_step rfl rfl rfl rfl ?_
  obtain ⟨j1, i2, hf⟩ := gbI hf
  refine kw_iald rfl (hH_A (rfl : ktab 121 = some (0, 301))) i2.1 i2.2.1 i2.2.2 ?_
  refine kw_step rfl rfl rfl rfl ?_
  refine kw_icmp_eq rfl rfl (fun c3 => ?_) (fun c3 => ?_)
  · have hf := gift c3 hf
    refine kw_step rfl rfl rfl rfl ?_
    cases hf
    exact kw_ret rfl rfl rfl hq
  · have hf := giff c3 hf
    refine kw_step (L' := [some (kr 85), none, some (kI (wI (x2 + 1))), some (kI x3)]) rfl rfl rfl rfl ?_
    refine kw_step rfl rfl rfl rfl ?_
    refine kw_get rfl (hH_O (rfl : kotab 85 = some kMo)) rfl ?_
    refine kw_step rfl rfl rfl rfl ?_
    obtain ⟨j4, i5, hf⟩ := gbI hf
    refine kw_iald rfl (hH_A (rfl : ktab 121 = some (0, 301))) i5.1 i5.2.1 i5.2.2 ?_
    refine kw_step (L' := [some (kr 85), none, some (kI (wI (x2 + 1))), some (kI (s 121 j4))]) rfl rfl rfl rfl ?_
    refine kw_goto rfl rfl ?_
    cases hf
    exact kW_le (L' := [some (kr 85), none, some (kI (wI (x2 + 1))), some (kI (s 121 j4))]) ⟨Or.inr rfl, Or.inl rfl, Or.inr rfl, Or.inr rfl, trivial⟩ hq
def f_M_finds_80 (x2 : Int) (x3 : Int) (s : kM) : Option (Int × kM) :=
  gL (fun (x : Int × Int) => f_M_finds_80b x.1 x.2 s) gF (x2, x3)
theorem b_M_finds_80 {sc : List Int} {Q : Option kV → kH → Prop} (x2 : Int) (x3 : Int) (s : kM) (t : Int × kM) (hf : f_M_finds_80 x2 x3 s = some t) (hq : (fun r => Q (some (kI r.1)) (hH r.2)) t) : kW sc 6 kc_M_finds 1 80 [some (kr 85), none, some (kI x2), some (kI x3)] [] (hH s) Q :=
  gL_ind (P := fun (x : Int × Int) => kW sc 6 kc_M_finds 1 80 [some (kr 85), none, some (kI x.1), some (kI x.2)] [] (hH s) Q) (q := (fun r => Q (some (kI r.1)) (hH r.2))) (fun x t hf hq => b_M_finds_80b x.1 x.2 s t hf hq) gF (x2, x3) t hf hq
def f_M_finds_63 (x1 : Int) (s : kM) : Option (Int × kM) :=
  (f_M_laysBack s).bind fun q1 => if (q1 85 53) = (-1) then (if x1 = 0 then (some ((-2), q1)) else (some ((-3), q1))) else (f_M_finds_80 0 (q1 85 53) q1)
set_option maxRecDepth 8000 in
theorem b_M_finds_63 {sc : List Int} {Q : Option kV → kH → Prop} (x1 : Int) (s : kM) (t : Int × kM) (hf : f_M_finds_63 x1 s = some t) (hq : (fun r => Q (some (kI r.1)) (hH r.2)) t) : kW sc 6 kc_M_finds 1 63 [some (kr 85), some (kI x1), none, none] [] (hH s) Q := by
  unfold f_M_finds_63 at hf
  refine kw_step rfl rfl rfl rfl ?_
  obtain ⟨q1, hq1, hf⟩ := gbind hf
  refine kw_callV (vs := []) rfl rfl rfl ⟨rfl, Nat.le_of_ble_eq_true rfl, Nat.le_of_ble_eq_true rfl, by decide⟩ (hH_O (rfl : kotab 85 = some kMo)) (c_M_laysBack s _ hq1) (Nat.le_of_ble_eq_true rfl) ?_
  refine kw_step rfl rfl rfl rfl ?_
  refine kw_get rfl (hH_O (rfl : kotab 85 = some kMo)) rfl ?_
  refine kw_step rfl rfl rfl rfl ?_
  refine kw_icmp_ne rfl rfl (fun c3 => ?_) (fun c3 => ?_)
  · have hf := giff c3 hf
    refine kw_step rfl rfl rfl rfl ?_
    refine kw_step (L' := [some (kr 85), some (kI x1), some (kI 0), none]) rfl rfl rfl rfl ?_
    refine kw_step rfl rfl rfl rfl ?_
    refine kw_get rfl (hH_O (rfl : kotab 85 = some kMo)) rfl ?_
    refine kw_step (L' := [some (kr 85), some (kI x1), some (kI 0), some (kI (q1 85 53))]) rfl rfl rfl rfl ?_
    exact kW_le (L' := [some (kr 85), none, some (kI 0), some (kI (q1 85 53))]) ⟨Or.inr rfl, Or.inl rfl, Or.inr rfl, Or.inr rfl, trivial⟩ (b_M_finds_80 0 (q1 85 53) q1 _ hf hq)
  · have hf := gift c3 hf
    refine kw_step rfl rfl rfl rfl ?_
    refine kw_if_eq rfl rfl (fun c4 => ?_) (fun c4 => ?_)
    · have hf := gift c4 hf
      refine kw_step rfl rfl rfl rfl ?_
      cases hf
      exact kw_ret rfl rfl rfl hq
    · have hf := giff c4 hf
      refine kw_step rfl rfl rfl rfl ?_
      refine kw_goto rfl rfl ?_
      cases hf
      exact kw_ret rfl rfl rfl hq
def f_M_finds_61 (x1 : Int) (x2 : Int) (s : kM) : Option ((Int × Int × kM) ⊕ (Int × kM)) :=
  some (.inl (x1, (wI (x2 + 1)), s))
set_option maxRecDepth 8000 in
theorem b_M_finds_61 {sc : List Int} {Q : Option kV → kH → Prop} (x1 : Int) (x2 : Int) (s : kM) (t : (Int × Int × kM) ⊕ (Int × kM)) (hf : f_M_finds_61 x1 x2 s = some t) (hq : (gE (fun x => kW sc 6 kc_M_finds 1 15 [some (kr 85), some (kI x.1), some (kI x.2.1), none] [] (hH x.2.2) Q) (fun r => Q (some (kI r.1)) (hH r.2))) t) : kW sc 6 kc_M_finds 1 61 [some (kr 85), some (kI x1), some (kI x2), none] [] (hH s) Q := by
  unfold f_M_finds_61 at hf
  refine kw_step (L' := [some (kr 85), some (kI x1), some (kI (wI (x2 + 1))), none]) rfl rfl rfl rfl ?_
  refine kw_goto rfl rfl ?_
  cases hf
  exact kW_le (L' := [some (kr 85), some (kI x1), some (kI (wI (x2 + 1))), none]) ⟨Or.inr rfl, Or.inr rfl, Or.inr rfl, Or.inl rfl, trivial⟩ hq
def f_M_finds_59 (x1 : Int) (x2 : Int) (x3 : Int) (s : kM) : Option ((Int × Int × kM) ⊕ ((Int × Int × kM) ⊕ (Int × kM))) :=
  some (.inl (x1, (wI (x3 + 1)), s))
set_option maxRecDepth 8000 in
theorem b_M_finds_59 {sc : List Int} {Q : Option kV → kH → Prop} (x1 : Int) (x2 : Int) (x3 : Int) (s : kM) (t : (Int × Int × kM) ⊕ ((Int × Int × kM) ⊕ (Int × kM))) (hf : f_M_finds_59 x1 x2 x3 s = some t) (hq : (gE (fun x => kW sc 6 kc_M_finds 1 35 [some (kr 85), some (kI x.1), some (kI x2), some (kI x.2.1)] [] (hH x.2.2) Q) (gE (fun x => kW sc 6 kc_M_finds 1 15 [some (kr 85), some (kI x.1), some (kI x.2.1), none] [] (hH x.2.2) Q) (fun r => Q (some (kI r.1)) (hH r.2)))) t) : kW sc 6 kc_M_finds 1 59 [some (kr 85), some (kI x1), some (kI x2), some (kI x3)] [] (hH s) Q := by
  unfold f_M_finds_59 at hf
  refine kw_step (L' := [some (kr 85), some (kI x1), some (kI x2), some (kI (wI (x3 + 1)))]) rfl rfl rfl rfl ?_
  refine kw_goto rfl rfl ?_
  cases hf
  exact kW_le (L' := [some (kr 85), some (kI x1), some (kI x2), some (kI (wI (x3 + 1)))]) ⟨Or.inr rfl, Or.inr rfl, Or.inr rfl, Or.inr rfl, trivial⟩ hq
def f_M_finds_35b (x1 : Int) (x2 : Int) (x3 : Int) (s : kM) : Option ((Int × Int × kM) ⊕ ((Int × Int × kM) ⊕ (Int × kM))) :=
  if 1463 ≤ x3 then ((f_M_finds_61 x1 x2 s).map Sum.inr) else (if (s 85 53) = (-1) then (if x1 = 0 then ((f_M_canMove x3 s).bind fun q10 => if q10.1 = 0 then (f_M_finds_59 x1 x2 x3 q10.2) else ((f_M_does x3 q10.2).bind fun q13 => (f_M_comes x2 x3 q13).bind fun q15 => (f_M_laysRow x2 q15.2).bind fun q17 => f_M_finds_59 q15.1 x2 x3 q17)) else ((f_M_finds_61 x1 x2 s).map Sum.inr)) else ((f_M_finds_61 x1 x2 s).map Sum.inr))
set_option maxRecDepth 8000 in
theorem b_M_finds_35b {sc : List Int} {Q : Option kV → kH → Prop} (x1 : Int) (x2 : Int) (x3 : Int) (s : kM) (t : (Int × Int × kM) ⊕ ((Int × Int × kM) ⊕ (Int × kM))) (hf : f_M_finds_35b x1 x2 x3 s = some t) (hq : (gE (fun x => kW sc 6 kc_M_finds 1 35 [some (kr 85), some (kI x.1), some (kI x2), some (kI x.2.1)] [] (hH x.2.2) Q) (gE (fun x => kW sc 6 kc_M_finds 1 15 [some (kr 85), some (kI x.1), some (kI x.2.1), none] [] (hH x.2.2) Q) (fun r => Q (some (kI r.1)) (hH r.2)))) t) : kW sc 6 kc_M_finds 1 35 [some (kr 85), some (kI x1), some (kI x2), some (kI x3)] [] (hH s) Q := by
  unfold f_M_finds_35b at hf
  refine kw_step rfl rfl rfl rfl ?_
  refine kw_step rfl rfl rfl rfl ?_
  refine kw_icmp_ge rfl rfl (fun c1 => ?_) (fun c1 => ?_)
  · have hf := gift c1 hf
    obtain ⟨t2, hg3, rfl⟩ := gmap hf
    exact kW_le (L' := [some (kr 85), some (kI x1), some (kI x2), none]) ⟨Or.inr rfl, Or.inr rfl, Or.inr rfl, Or.inl rfl, trivial⟩ (b_M_finds_61 x1 x2 s _ hg3 hq)
  · have hf := giff c1 hf
    refine kw_step rfl rfl rfl rfl ?_
    refine kw_get rfl (hH_O (rfl : kotab 85 = some kMo)) rfl ?_
    refine kw_step rfl rfl rfl rfl ?_
    refine kw_icmp_ne rfl rfl (fun c4 => ?_) (fun c4 => ?_)
    · have hf := giff c4 hf
      obtain ⟨t5, hg6, rfl⟩ := gmap hf
      exact kW_le (L' := [some (kr 85), some (kI x1), some (kI x2), none]) ⟨Or.inr rfl, Or.inr rfl, Or.inr rfl, Or.inl rfl, trivial⟩ (b_M_finds_61 x1 x2 s _ hg6 hq)
    · have hf := gift c4 hf
      refine kw_step rfl rfl rfl rfl ?_
      refine kw_if_ne rfl rfl (fun c7 => ?_) (fun c7 => ?_)
      · have hf := giff c7 hf
        obtain ⟨t8, hg9, rfl⟩ := gmap hf
        exact kW_le (L' := [some (kr 85), some (kI x1), some (kI x2), none]) ⟨Or.inr rfl, Or.inr rfl, Or.inr rfl, Or.inl rfl, trivial⟩ (b_M_finds_61 x1 x2 s _ hg9 hq)
      · have hf := gift c7 hf
        refine kw_step rfl rfl rfl rfl ?_
        refine kw_step rfl rfl rfl rfl ?_
        obtain ⟨q10, hq10, hf⟩ := gbind hf
        refine kw_callV (vs := [kI x3]) rfl rfl rfl ⟨rfl, Nat.le_of_ble_eq_true rfl, Nat.le_of_ble_eq_true rfl, by decide⟩ (hH_O (rfl : kotab 85 = some kMo)) (c_M_canMove x3 s _ hq10) (Nat.le_of_ble_eq_true rfl) ?_
        refine kw_if_eq rfl rfl (fun c12 => ?_) (fun c12 => ?_)
        · have hf := gift c12 hf
          exact kW_le (L' := [some (kr 85), some (kI x1), some (kI x2), some (kI x3)]) ⟨Or.inr rfl, Or.inr rfl, Or.inr rfl, Or.inr rfl, trivial⟩ (b_M_finds_59 x1 x2 x3 q10.2 _ hf hq)
        · have hf := giff c12 hf
          refine kw_step rfl rfl rfl rfl ?_
          refine kw_step rfl rfl rfl rfl ?_
          obtain ⟨q13, hq13, hf⟩ := gbind hf
          refine kw_callV (vs := [kI x3]) rfl rfl rfl ⟨rfl, Nat.le_of_ble_eq_true rfl, Nat.le_of_ble_eq_true rfl, by decide⟩ (hH_O (rfl : kotab 85 = some kMo)) (c_M_does x3 q10.2 _ hq13) (Nat.le_of_ble_eq_true rfl) ?_
          refine kw_step rfl rfl rfl rfl ?_
          refine kw_step rfl rfl rfl rfl ?_
          refine kw_step rfl rfl rfl rfl ?_
          obtain ⟨q15, hq15, hf⟩ := gbind hf
          refine kw_callV (vs := [kI x2, kI x3]) rfl rfl rfl ⟨rfl, Nat.le_of_ble_eq_true rfl, Nat.le_of_ble_eq_true rfl, by decide⟩ (hH_O (rfl : kotab 85 = some kMo)) (c_M_comes x2 x3 q13 _ hq15) (Nat.le_of_ble_eq_true rfl) ?_
          refine kw_step (L' := [some (kr 85), some (kI q15.1), some (kI x2), some (kI x3)]) rfl rfl rfl rfl ?_
          refine kw_step rfl rfl rfl rfl ?_
          refine kw_step rfl rfl rfl rfl ?_
          obtain ⟨q17, hq17, hf⟩ := gbind hf
          refine kw_callV (vs := [kI x2]) rfl rfl rfl ⟨rfl, Nat.le_of_ble_eq_true rfl, Nat.le_of_ble_eq_true rfl, by decide⟩ (hH_O (rfl : kotab 85 = some kMo)) (c_M_laysRow x2 q15.2 _ hq17) (Nat.le_of_ble_eq_true rfl) ?_
          exact kW_le (L' := [some (kr 85), some (kI q15.1), some (kI x2), some (kI x3)]) ⟨Or.inr rfl, Or.inr rfl, Or.inr rfl, Or.inr rfl, trivial⟩ (b_M_finds_59 q15.1 x2 x3 q17 _ hf hq)
def f_M_finds_35 (x1 : Int) (x2 : Int) (x3 : Int) (s : kM) : Option ((Int × Int × kM) ⊕ (Int × kM)) :=
  gL (fun (x : Int × Int × kM) => f_M_finds_35b x.1 x2 x.2.1 x.2.2) gF (x1, x3, s)
theorem b_M_finds_35 {sc : List Int} {Q : Option kV → kH → Prop} (x1 : Int) (x2 : Int) (x3 : Int) (s : kM) (t : (Int × Int × kM) ⊕ (Int × kM)) (hf : f_M_finds_35 x1 x2 x3 s = some t) (hq : (gE (fun x => kW sc 6 kc_M_finds 1 15 [some (kr 85), some (kI x.1), some (kI x.2.1), none] [] (hH x.2.2) Q) (fun r => Q (some (kI r.1)) (hH r.2))) t) : kW sc 6 kc_M_finds 1 35 [some (kr 85), some (kI x1), some (kI x2), some (kI x3)] [] (hH s) Q :=
  gL_ind (P := fun (x : Int × Int × kM) => kW sc 6 kc_M_finds 1 35 [some (kr 85), some (kI x.1), some (kI x2), some (kI x.2.1)] [] (hH x.2.2) Q) (q := (gE (fun x => kW sc 6 kc_M_finds 1 15 [some (kr 85), some (kI x.1), some (kI x.2.1), none] [] (hH x.2.2) Q) (fun r => Q (some (kI r.1)) (hH r.2)))) (fun x t hf hq => b_M_finds_35b x.1 x2 x.2.1 x.2.2 t hf hq) gF (x1, x3, s) t hf hq
def f_M_finds_15b (x1 : Int) (x2 : Int) (s : kM) : Option ((Int × Int × kM) ⊕ (Int × kM)) :=
  if (s 85 52) ≤ x2 then ((f_M_finds_63 x1 s).map Sum.inr) else (if 300 ≤ x2 then ((f_M_finds_63 x1 s).map Sum.inr) else (if (s 85 53) = (-1) then (if x1 = 0 then ((f_M_laysRow x2 s).bind fun q13 => (f_M_fillsLand q13).bind fun q15 => f_M_finds_35 x1 x2 0 q15) else ((f_M_finds_63 x1 s).map Sum.inr)) else ((f_M_finds_63 x1 s).map Sum.inr)))
set_option maxRecDepth 8000 in
theorem b_M_finds_15b {sc : List Int} {Q : Option kV → kH → Prop} (x1 : Int) (x2 : Int) (s : kM) (t : (Int × Int × kM) ⊕ (Int × kM)) (hf : f_M_finds_15b x1 x2 s = some t) (hq : (gE (fun x => kW sc 6 kc_M_finds 1 15 [some (kr 85), some (kI x.1), some (kI x.2.1), none] [] (hH x.2.2) Q) (fun r => Q (some (kI r.1)) (hH r.2))) t) : kW sc 6 kc_M_finds 1 15 [some (kr 85), some (kI x1), some (kI x2), none] [] (hH s) Q := by
  unfold f_M_finds_15b at hf
  refine kw_step rfl rfl rfl rfl ?_
  refine kw_step rfl rfl rfl rfl ?_
  refine kw_get rfl (hH_O (rfl : kotab 85 = some kMo)) rfl ?_
  refine kw_icmp_ge rfl rfl (fun c1 => ?_) (fun c1 => ?_)
  · have hf := gift c1 hf
    obtain ⟨t2, hg3, rfl⟩ := gmap hf
    exact kW_le (L' := [some (kr 85), some (kI x1), none, none]) ⟨Or.inr rfl, Or.inr rfl, Or.inl rfl, Or.inl rfl, trivial⟩ (b_M_finds_63 x1 s _ hg3 hq)
  · have hf := giff c1 hf
    refine kw_step rfl rfl rfl rfl ?_
    refine kw_step rfl rfl rfl rfl ?_
    refine kw_icmp_ge rfl rfl (fun c4 => ?_) (fun c4 => ?_)
    · have hf := gift c4 hf
      obtain ⟨t5, hg6, rfl⟩ := gmap hf
      exact kW_le (L' := [some (kr 85), some (kI x1), none, none]) ⟨Or.inr rfl, Or.inr rfl, Or.inl rfl, Or.inl rfl, trivial⟩ (b_M_finds_63 x1 s _ hg6 hq)
    · have hf := giff c4 hf
      refine kw_step rfl rfl rfl rfl ?_
      refine kw_get rfl (hH_O (rfl : kotab 85 = some kMo)) rfl ?_
      refine kw_step rfl rfl rfl rfl ?_
      refine kw_icmp_ne rfl rfl (fun c7 => ?_) (fun c7 => ?_)
      · have hf := giff c7 hf
        obtain ⟨t8, hg9, rfl⟩ := gmap hf
        exact kW_le (L' := [some (kr 85), some (kI x1), none, none]) ⟨Or.inr rfl, Or.inr rfl, Or.inl rfl, Or.inl rfl, trivial⟩ (b_M_finds_63 x1 s _ hg9 hq)
      · have hf := gift c7 hf
        refine kw_step rfl rfl rfl rfl ?_
        refine kw_if_ne rfl rfl (fun c10 => ?_) (fun c10 => ?_)
        · have hf := giff c10 hf
          obtain ⟨t11, hg12, rfl⟩ := gmap hf
          exact kW_le (L' := [some (kr 85), some (kI x1), none, none]) ⟨Or.inr rfl, Or.inr rfl, Or.inl rfl, Or.inl rfl, trivial⟩ (b_M_finds_63 x1 s _ hg12 hq)
        · have hf := gift c10 hf
          refine kw_step rfl rfl rfl rfl ?_
          refine kw_step rfl rfl rfl rfl ?_
          obtain ⟨q13, hq13, hf⟩ := gbind hf
          refine kw_callV (vs := [kI x2]) rfl rfl rfl ⟨rfl, Nat.le_of_ble_eq_true rfl, Nat.le_of_ble_eq_true rfl, by decide⟩ (hH_O (rfl : kotab 85 = some kMo)) (c_M_laysRow x2 s _ hq13) (Nat.le_of_ble_eq_true rfl) ?_
          refine kw_step rfl rfl rfl rfl ?_
          obtain ⟨q15, hq15, hf⟩ := gbind hf
          refine kw_callV (vs := []) rfl rfl rfl ⟨rfl, Nat.le_of_ble_eq_true rfl, Nat.le_of_ble_eq_true rfl, by decide⟩ (hH_O (rfl : kotab 85 = some kMo)) (c_M_fillsLand q13 _ hq15) (Nat.le_of_ble_eq_true rfl) ?_
          refine kw_step rfl rfl rfl rfl ?_
          refine kw_step (L' := [some (kr 85), some (kI x1), some (kI x2), some (kI 0)]) rfl rfl rfl rfl ?_
          exact kW_le (L' := [some (kr 85), some (kI x1), some (kI x2), some (kI 0)]) ⟨Or.inr rfl, Or.inr rfl, Or.inr rfl, Or.inr rfl, trivial⟩ (b_M_finds_35 x1 x2 0 q15 _ hf hq)
def f_M_finds_15 (x1 : Int) (x2 : Int) (s : kM) : Option (Int × kM) :=
  gL (fun (x : Int × Int × kM) => f_M_finds_15b x.1 x.2.1 x.2.2) gF (x1, x2, s)
theorem b_M_finds_15 {sc : List Int} {Q : Option kV → kH → Prop} (x1 : Int) (x2 : Int) (s : kM) (t : Int × kM) (hf : f_M_finds_15 x1 x2 s = some t) (hq : (fun r => Q (some (kI r.1)) (hH r.2)) t) : kW sc 6 kc_M_finds 1 15 [some (kr 85), some (kI x1), some (kI x2), none] [] (hH s) Q :=
  gL_ind (P := fun (x : Int × Int × kM) => kW sc 6 kc_M_finds 1 15 [some (kr 85), some (kI x.1), some (kI x.2.1), none] [] (hH x.2.2) Q) (q := (fun r => Q (some (kI r.1)) (hH r.2))) (fun x t hf hq => b_M_finds_15b x.1 x.2.1 x.2.2 t hf hq) gF (x1, x2, s) t hf hq
def f_M_finds (s : kM) : Option (Int × kM) :=
  (f_M_keeps s).bind fun q1 => gLet (gU q1 85 52 0) fun s3 => gLet (gU s3 85 53 (-1)) fun s6 => (f_M_comes (-1) (-1) s6).bind fun q9 => f_M_finds_15 q9.1 0 q9.2
set_option maxRecDepth 8000 in
theorem c_M_finds {sc : List Int} (s : kM) (t : Int × kM) (hf : f_M_finds s = some t) : kR sc 6 km_M_finds [kr 85] (hH s) (some (kI t.1)) (hH t.2) := by
  unfold f_M_finds at hf
  refine kR.start rfl ?_
  show kW sc 6 kc_M_finds 1 0 [some (kr 85), none, none, none] [] (hH s) _
  have hq : (fun (r : Option kV) (g : kH) => r = some (kI t.1) ∧ g = hH t.2) (some (kI t.1)) (hH t.2) := ⟨rfl, rfl⟩
  refine kw_step rfl rfl rfl rfl ?_
  obtain ⟨q1, hq1, hf⟩ := gbind hf
  refine kw_callV (vs := []) rfl rfl rfl ⟨rfl, Nat.le_of_ble_eq_true rfl, Nat.le_of_ble_eq_true rfl, by decide⟩ (hH_O (rfl : kotab 85 = some kMo)) (c_M_keeps s _ hq1) (Nat.le_of_ble_eq_true rfl) ?_
  refine kw_step rfl rfl rfl rfl ?_
  refine kw_step rfl rfl rfl rfl ?_
  obtain ⟨s3, ee4, hf⟩ := gbL hf
  refine kw_putH rfl (rfl : kotab 85 = some kMo) rfl rfl rfl (Nat.le_of_ble_eq_true rfl) rfl ee4 ?_
  refine kw_step rfl rfl rfl rfl ?_
  refine kw_step rfl rfl rfl rfl ?_
  obtain ⟨s6, ee7, hf⟩ := gbL hf
  refine kw_putH rfl (rfl : kotab 85 = some kMo) rfl rfl rfl (Nat.le_of_ble_eq_true rfl) rfl ee7 ?_
  refine kw_step rfl rfl rfl rfl ?_
  refine kw_step rfl rfl rfl rfl ?_
  refine kw_step rfl rfl rfl rfl ?_
  obtain ⟨q9, hq9, hf⟩ := gbind hf
  refine kw_callV (vs := [kI (-1), kI (-1)]) rfl rfl rfl ⟨rfl, Nat.le_of_ble_eq_true rfl, Nat.le_of_ble_eq_true rfl, by decide⟩ (hH_O (rfl : kotab 85 = some kMo)) (c_M_comes (-1) (-1) s6 _ hq9) (Nat.le_of_ble_eq_true rfl) ?_
  refine kw_step (L' := [some (kr 85), some (kI q9.1), none, none]) rfl rfl rfl rfl ?_
  refine kw_step rfl rfl rfl rfl ?_
  refine kw_step (L' := [some (kr 85), some (kI q9.1), some (kI 0), none]) rfl rfl rfl rfl ?_
  exact kW_le (L' := [some (kr 85), some (kI q9.1), some (kI 0), none]) ⟨Or.inr rfl, Or.inr rfl, Or.inr rfl, Or.inl rfl, trivial⟩ (b_M_finds_15 q9.1 0 q9.2 _ hf hq)
def f_M_shaken (s : kM) : Option (Int × kM) :=
  (f_M_isTown s).bind fun q1 => if q1 = 0 then (some ((-1), s)) else ((f_M_finds s).bind fun q3 => some (q3.1, q3.2))
set_option maxRecDepth 8000 in
theorem c_M_shaken {sc : List Int} (s : kM) (t : Int × kM) (hf : f_M_shaken s = some t) : kR sc 7 km_M_shaken [kr 85] (hH s) (some (kI t.1)) (hH t.2) := by
  unfold f_M_shaken at hf
  refine kR.start rfl ?_
  show kW sc 7 kc_M_shaken 1 0 [some (kr 85)] [] (hH s) _
  have hq : (fun (r : Option kV) (g : kH) => r = some (kI t.1) ∧ g = hH t.2) (some (kI t.1)) (hH t.2) := ⟨rfl, rfl⟩
  refine kw_step rfl rfl rfl rfl ?_
  obtain ⟨q1, hq1, hf⟩ := gbind hf
  refine kw_callV (vs := []) rfl rfl rfl ⟨rfl, Nat.le_of_ble_eq_true rfl, Nat.le_of_ble_eq_true rfl, by decide⟩ (hH_O (rfl : kotab 85 = some kMo)) (c_M_isTown s _ hq1) (Nat.le_of_ble_eq_true rfl) ?_
  refine kw_if_eq rfl rfl (fun c2 => ?_) (fun c2 => ?_)
  · have hf := gift c2 hf
    refine kw_step rfl rfl rfl rfl ?_
    cases hf
    exact kw_ret rfl rfl rfl hq
  · have hf := giff c2 hf
    refine kw_step rfl rfl rfl rfl ?_
    obtain ⟨q3, hq3, hf⟩ := gbind hf
    refine kw_callV (vs := []) rfl rfl rfl ⟨rfl, Nat.le_of_ble_eq_true rfl, Nat.le_of_ble_eq_true rfl, by decide⟩ (hH_O (rfl : kotab 85 = some kMo)) (c_M_finds s _ hq3) (Nat.le_of_ble_eq_true rfl) ?_
    refine kw_goto rfl rfl ?_
    cases hf
    exact kw_ret rfl rfl rfl hq
def f_M_row_21 (x3 : Int) (s : kM) : Option (Int × kM) :=
  if 0 ≤ x3 then (some ((-2), s)) else (some (x3, s))
set_option maxRecDepth 8000 in
theorem b_M_row_21 {sc : List Int} {Q : Option kV → kH → Prop} (x3 : Int) (s : kM) (t : Int × kM) (hf : f_M_row_21 x3 s = some t) (hq : (fun r => Q (some (kI r.1)) (hH r.2)) t) : kW sc 7 kc_M_row 1 21 [none, none, none, some (kI x3), none, none] [] (hH s) Q := by
  unfold f_M_row_21 at hf
  refine kw_step rfl rfl rfl rfl ?_
  refine kw_if_ge rfl rfl (fun c1 => ?_) (fun c1 => ?_)
  · have hf := gift c1 hf
    refine kw_step rfl rfl rfl rfl ?_
    cases hf
    exact kw_ret rfl rfl rfl hq
  · have hf := giff c1 hf
    refine kw_step rfl rfl rfl rfl ?_
    refine kw_goto rfl rfl ?_
    cases hf
    exact kw_ret rfl rfl rfl hq
def f_M_row_34b (x1 : Int) (x2 : Int) (x4 : Int) (x5 : Int) (s : kM) : Option ((Int × Int) ⊕ (Int × kM)) :=
  if x5 ≤ x1 then (if x2 = 0 then ((gI 301 x4).bind fun j6 => (f_M_kindOf (s 122 j6) s).bind fun q8 => some (.inr (q8, s))) else ((gI 301 x4).bind fun j3 => (f_M_bridgeOf (s 122 j3) (wI (x2 - 1)) s).bind fun q5 => some (.inr (q5, s)))) else ((gI 301 x4).bind fun j9 => some (.inl ((s 121 j9), (wI (x5 + (-1))))))
set_option maxRecDepth 8000 in
theorem b_M_row_34b {sc : List Int} {Q : Option kV → kH → Prop} (x1 : Int) (x2 : Int) (x4 : Int) (x5 : Int) (s : kM) (t : (Int × Int) ⊕ (Int × kM)) (hf : f_M_row_34b x1 x2 x4 x5 s = some t) (hq : (gE (fun x => kW sc 7 kc_M_row 1 34 [some (kr 85), some (kI x1), some (kI x2), none, some (kI x.1), some (kI x.2)] [] (hH s) Q) (fun r => Q (some (kI r.1)) (hH r.2))) t) : kW sc 7 kc_M_row 1 34 [some (kr 85), some (kI x1), some (kI x2), none, some (kI x4), some (kI x5)] [] (hH s) Q := by
  unfold f_M_row_34b at hf
  refine kw_step rfl rfl rfl rfl ?_
  refine kw_step rfl rfl rfl rfl ?_
  refine kw_icmp_le rfl rfl (fun c1 => ?_) (fun c1 => ?_)
  · have hf := gift c1 hf
    refine kw_step rfl rfl rfl rfl ?_
    refine kw_if_ne rfl rfl (fun c2 => ?_) (fun c2 => ?_)
    · have hf := giff c2 hf
      refine kw_step rfl rfl rfl rfl ?_
      refine kw_get rfl (hH_O (rfl : kotab 85 = some kMo)) rfl ?_
      refine kw_step rfl rfl rfl rfl ?_
      obtain ⟨j3, i4, hf⟩ := gbI hf
      refine kw_iald rfl (hH_A (rfl : ktab 122 = some (0, 301))) i4.1 i4.2.1 i4.2.2 ?_
      refine kw_step rfl rfl rfl rfl ?_
      refine kw_step rfl rfl rfl rfl ?_
      refine kw_step rfl rfl rfl rfl ?_
      obtain ⟨q5, hq5, hf⟩ := gbind hf
      refine kw_callS (vs := [kI (s 122 j3), kI (wI (x2 - 1))]) rfl rfl rfl ⟨rfl, Nat.le_of_ble_eq_true rfl, Nat.le_of_ble_eq_true rfl, rfl⟩ (c_M_bridgeOf (s 122 j3) (wI (x2 - 1)) s _ hq5) (Nat.le_of_ble_eq_true rfl) ?_
      cases hf
      exact kw_ret rfl rfl rfl hq
    · have hf := gift c2 hf
      refine kw_step rfl rfl rfl rfl ?_
      refine kw_get rfl (hH_O (rfl : kotab 85 = some kMo)) rfl ?_
      refine kw_step rfl rfl rfl rfl ?_
      obtain ⟨j6, i7, hf⟩ := gbI hf
      refine kw_iald rfl (hH_A (rfl : ktab 122 = some (0, 301))) i7.1 i7.2.1 i7.2.2 ?_
      obtain ⟨q8, hq8, hf⟩ := gbind hf
      refine kw_callS (vs := [kI (s 122 j6)]) rfl rfl rfl ⟨rfl, Nat.le_of_ble_eq_true rfl, Nat.le_of_ble_eq_true rfl, rfl⟩ (c_M_kindOf (s 122 j6) s _ hq8) (Nat.le_of_ble_eq_true rfl) ?_
      refine kw_goto rfl rfl ?_
      cases hf
      exact kw_ret rfl rfl rfl hq
  · have hf := giff c1 hf
    refine kw_step rfl rfl rfl rfl ?_
    refine kw_get rfl (hH_O (rfl : kotab 85 = some kMo)) rfl ?_
    refine kw_step rfl rfl rfl rfl ?_
    obtain ⟨j9, i10, hf⟩ := gbI hf
    refine kw_iald rfl (hH_A (rfl : ktab 121 = some (0, 301))) i10.1 i10.2.1 i10.2.2 ?_
    refine kw_step (L' := [some (kr 85), some (kI x1), some (kI x2), none, some (kI (s 121 j9)), some (kI x5)]) rfl rfl rfl rfl ?_
    refine kw_step (L' := [some (kr 85), some (kI x1), some (kI x2), none, some (kI (s 121 j9)), some (kI (wI (x5 + (-1))))]) rfl rfl rfl rfl ?_
    refine kw_goto rfl rfl ?_
    cases hf
    exact kW_le (L' := [some (kr 85), some (kI x1), some (kI x2), none, some (kI (s 121 j9)), some (kI (wI (x5 + (-1))))]) ⟨Or.inr rfl, Or.inr rfl, Or.inr rfl, Or.inl rfl, Or.inr rfl, Or.inr rfl, trivial⟩ hq
def f_M_row_34 (x1 : Int) (x2 : Int) (x4 : Int) (x5 : Int) (s : kM) : Option (Int × kM) :=
  gL (fun (x : Int × Int) => f_M_row_34b x1 x2 x.1 x.2 s) gF (x4, x5)
theorem b_M_row_34 {sc : List Int} {Q : Option kV → kH → Prop} (x1 : Int) (x2 : Int) (x4 : Int) (x5 : Int) (s : kM) (t : Int × kM) (hf : f_M_row_34 x1 x2 x4 x5 s = some t) (hq : (fun r => Q (some (kI r.1)) (hH r.2)) t) : kW sc 7 kc_M_row 1 34 [some (kr 85), some (kI x1), some (kI x2), none, some (kI x4), some (kI x5)] [] (hH s) Q :=
  gL_ind (P := fun (x : Int × Int) => kW sc 7 kc_M_row 1 34 [some (kr 85), some (kI x1), some (kI x2), none, some (kI x.1), some (kI x.2)] [] (hH s) Q) (q := (fun r => Q (some (kI r.1)) (hH r.2))) (fun x t hf hq => b_M_row_34b x1 x2 x.1 x.2 s t hf hq) gF (x4, x5) t hf hq
def f_M_row (x1 : Int) (x2 : Int) (s : kM) : Option (Int × kM) :=
  (f_M_isTown s).bind fun q1 => if q1 = 0 then (some ((-1), s)) else (if x1 < 0 then (some ((-1), s)) else ((f_M_in x2 0 3 s).bind fun q4 => if q4 = 0 then (some ((-1), s)) else ((f_M_finds s).bind fun q6 => if q6.1 < 0 then (f_M_row_21 q6.1 q6.2) else (if x1 < q6.1 then (f_M_row_34 x1 x2 (q6.2 85 53) (wI (q6.1 - 1)) q6.2) else (f_M_row_21 q6.1 q6.2)))))
set_option maxRecDepth 8000 in
theorem c_M_row {sc : List Int} (x1 : Int) (x2 : Int) (s : kM) (t : Int × kM) (hf : f_M_row x1 x2 s = some t) : kR sc 7 km_M_row [kr 85, kI x1, kI x2] (hH s) (some (kI t.1)) (hH t.2) := by
  unfold f_M_row at hf
  refine kR.start rfl ?_
  show kW sc 7 kc_M_row 1 0 [some (kr 85), some (kI x1), some (kI x2), none, none, none] [] (hH s) _
  have hq : (fun (r : Option kV) (g : kH) => r = some (kI t.1) ∧ g = hH t.2) (some (kI t.1)) (hH t.2) := ⟨rfl, rfl⟩
  refine kw_step rfl rfl rfl rfl ?_
  obtain ⟨q1, hq1, hf⟩ := gbind hf
  refine kw_callV (vs := []) rfl rfl rfl ⟨rfl, Nat.le_of_ble_eq_true rfl, Nat.le_of_ble_eq_true rfl, by decide⟩ (hH_O (rfl : kotab 85 = some kMo)) (c_M_isTown s _ hq1) (Nat.le_of_ble_eq_true rfl) ?_
  refine kw_if_eq rfl rfl (fun c2 => ?_) (fun c2 => ?_)
  · have hf := gift c2 hf
    refine kw_step rfl rfl rfl rfl ?_
    cases hf
    exact kw_ret rfl rfl rfl hq
  · have hf := giff c2 hf
    refine kw_step rfl rfl rfl rfl ?_
    refine kw_if_lt rfl rfl (fun c3 => ?_) (fun c3 => ?_)
    · have hf := gift c3 hf
      refine kw_step rfl rfl rfl rfl ?_
      cases hf
      exact kw_ret rfl rfl rfl hq
    · have hf := giff c3 hf
      refine kw_step rfl rfl rfl rfl ?_
      refine kw_step rfl rfl rfl rfl ?_
      refine kw_step rfl rfl rfl rfl ?_
      refine kw_step rfl rfl rfl rfl ?_
      obtain ⟨q4, hq4, hf⟩ := gbind hf
      refine kw_callS (vs := [kJ x2, kJ 0, kJ 3]) rfl rfl rfl ⟨rfl, Nat.le_of_ble_eq_true rfl, Nat.le_of_ble_eq_true rfl, rfl⟩ (c_M_in x2 0 3 s _ hq4) (Nat.le_of_ble_eq_true rfl) ?_
      refine kw_if_ne rfl rfl (fun c5 => ?_) (fun c5 => ?_)
      · have hf := giff c5 hf
        refine kw_step rfl rfl rfl rfl ?_
        obtain ⟨q6, hq6, hf⟩ := gbind hf
        refine kw_callV (vs := []) rfl rfl rfl ⟨rfl, Nat.le_of_ble_eq_true rfl, Nat.le_of_ble_eq_true rfl, by decide⟩ (hH_O (rfl : kotab 85 = some kMo)) (c_M_finds s _ hq6) (Nat.le_of_ble_eq_true rfl) ?_
        refine kw_step (L' := [some (kr 85), some (kI x1), some (kI x2), some (kI q6.1), none, none]) rfl rfl rfl rfl ?_
        refine kw_step rfl rfl rfl rfl ?_
        refine kw_if_lt rfl rfl (fun c8 => ?_) (fun c8 => ?_)
        · have hf := gift c8 hf
          exact kW_le (L' := [none, none, none, some (kI q6.1), none, none]) ⟨Or.inl rfl, Or.inl rfl, Or.inl rfl, Or.inr rfl, Or.inl rfl, Or.inl rfl, trivial⟩ (b_M_row_21 q6.1 q6.2 _ hf hq)
        · have hf := giff c8 hf
          refine kw_step rfl rfl rfl rfl ?_
          refine kw_step rfl rfl rfl rfl ?_
          refine kw_icmp_lt rfl rfl (fun c9 => ?_) (fun c9 => ?_)
          · have hf := gift c9 hf
            refine kw_step rfl rfl rfl rfl ?_
            refine kw_get rfl (hH_O (rfl : kotab 85 = some kMo)) rfl ?_
            refine kw_step (L' := [some (kr 85), some (kI x1), some (kI x2), some (kI q6.1), some (kI (q6.2 85 53)), none]) rfl rfl rfl rfl ?_
            refine kw_step rfl rfl rfl rfl ?_
            refine kw_step rfl rfl rfl rfl ?_
            refine kw_step rfl rfl rfl rfl ?_
            refine kw_step (L' := [some (kr 85), some (kI x1), some (kI x2), some (kI q6.1), some (kI (q6.2 85 53)), some (kI (wI (q6.1 - 1)))]) rfl rfl rfl rfl ?_
            exact kW_le (L' := [some (kr 85), some (kI x1), some (kI x2), none, some (kI (q6.2 85 53)), some (kI (wI (q6.1 - 1)))]) ⟨Or.inr rfl, Or.inr rfl, Or.inr rfl, Or.inl rfl, Or.inr rfl, Or.inr rfl, trivial⟩ (b_M_row_34 x1 x2 (q6.2 85 53) (wI (q6.1 - 1)) q6.2 _ hf hq)
          · have hf := giff c9 hf
            exact kW_le (L' := [none, none, none, some (kI q6.1), none, none]) ⟨Or.inl rfl, Or.inl rfl, Or.inl rfl, Or.inr rfl, Or.inl rfl, Or.inl rfl, trivial⟩ (b_M_row_21 q6.1 q6.2 _ hf hq)
      · have hf := gift c5 hf
        refine kw_step rfl rfl rfl rfl ?_
        cases hf
        exact kw_ret rfl rfl rfl hq
def f_M_changesAll_15 (x1 : Int) (x2 : Int) (s : kM) : Option ((Int × kM) ⊕ (kM)) :=
  some (.inl ((wI (x2 + 1)), s))
set_option maxRecDepth 8000 in
theorem b_M_changesAll_15 {sc : List Int} {Q : Option kV → kH → Prop} (x1 : Int) (x2 : Int) (s : kM) (t : (Int × kM) ⊕ (kM)) (hf : f_M_changesAll_15 x1 x2 s = some t) (hq : (gE (fun x => kW sc 3 kc_M_changesAll 0 2 [some (kr 85), some (kI x1), some (kI x.1)] [] (hH x.2) Q) (fun r => Q none (hH r))) t) : kW sc 3 kc_M_changesAll 0 15 [some (kr 85), some (kI x1), some (kI x2)] [] (hH s) Q := by
  unfold f_M_changesAll_15 at hf
  refine kw_step (L' := [some (kr 85), some (kI x1), some (kI (wI (x2 + 1)))]) rfl rfl rfl rfl ?_
  refine kw_goto rfl rfl ?_
  cases hf
  exact kW_le (L' := [some (kr 85), some (kI x1), some (kI (wI (x2 + 1)))]) ⟨Or.inr rfl, Or.inr rfl, Or.inr rfl, trivial⟩ hq
def f_M_changesAll_2b (x1 : Int) (x2 : Int) (s : kM) : Option ((Int × kM) ⊕ (kM)) :=
  if 11 ≤ x2 then (some (.inr s)) else (if (kand (kshr x1 x2) 1) = 1 then ((f_M_changes1 x2 s).bind fun q3 => f_M_changesAll_15 x1 x2 q3) else (f_M_changesAll_15 x1 x2 s))
set_option maxRecDepth 8000 in
theorem b_M_changesAll_2b {sc : List Int} {Q : Option kV → kH → Prop} (x1 : Int) (x2 : Int) (s : kM) (t : (Int × kM) ⊕ (kM)) (hf : f_M_changesAll_2b x1 x2 s = some t) (hq : (gE (fun x => kW sc 3 kc_M_changesAll 0 2 [some (kr 85), some (kI x1), some (kI x.1)] [] (hH x.2) Q) (fun r => Q none (hH r))) t) : kW sc 3 kc_M_changesAll 0 2 [some (kr 85), some (kI x1), some (kI x2)] [] (hH s) Q := by
  unfold f_M_changesAll_2b at hf
  refine kw_step rfl rfl rfl rfl ?_
  refine kw_step rfl rfl rfl rfl ?_
  refine kw_icmp_ge rfl rfl (fun c1 => ?_) (fun c1 => ?_)
  · have hf := gift c1 hf
    cases hf
    exact kw_ret rfl rfl rfl hq
  · have hf := giff c1 hf
    refine kw_step rfl rfl rfl rfl ?_
    refine kw_step rfl rfl rfl rfl ?_
    refine kw_step rfl rfl rfl rfl ?_
    refine kw_step rfl rfl rfl rfl ?_
    refine kw_step rfl rfl rfl rfl ?_
    refine kw_step rfl rfl rfl rfl ?_
    refine kw_icmp_ne rfl rfl (fun c2 => ?_) (fun c2 => ?_)
    · have hf := giff c2 hf
      exact kW_le (L' := [some (kr 85), some (kI x1), some (kI x2)]) ⟨Or.inr rfl, Or.inr rfl, Or.inr rfl, trivial⟩ (b_M_changesAll_15 x1 x2 s _ hf hq)
    · have hf := gift c2 hf
      refine kw_step rfl rfl rfl rfl ?_
      refine kw_step rfl rfl rfl rfl ?_
      obtain ⟨q3, hq3, hf⟩ := gbind hf
      refine kw_callV (vs := [kI x2]) rfl rfl rfl ⟨rfl, Nat.le_of_ble_eq_true rfl, Nat.le_of_ble_eq_true rfl, by decide⟩ (hH_O (rfl : kotab 85 = some kMo)) (c_M_changes1 x2 s _ hq3) (Nat.le_of_ble_eq_true rfl) ?_
      exact kW_le (L' := [some (kr 85), some (kI x1), some (kI x2)]) ⟨Or.inr rfl, Or.inr rfl, Or.inr rfl, trivial⟩ (b_M_changesAll_15 x1 x2 q3 _ hf hq)
def f_M_changesAll_2 (x1 : Int) (x2 : Int) (s : kM) : Option (kM) :=
  gL (fun (x : Int × kM) => f_M_changesAll_2b x1 x.1 x.2) gF (x2, s)
theorem b_M_changesAll_2 {sc : List Int} {Q : Option kV → kH → Prop} (x1 : Int) (x2 : Int) (s : kM) (t : kM) (hf : f_M_changesAll_2 x1 x2 s = some t) (hq : (fun r => Q none (hH r)) t) : kW sc 3 kc_M_changesAll 0 2 [some (kr 85), some (kI x1), some (kI x2)] [] (hH s) Q :=
  gL_ind (P := fun (x : Int × kM) => kW sc 3 kc_M_changesAll 0 2 [some (kr 85), some (kI x1), some (kI x.1)] [] (hH x.2) Q) (q := (fun r => Q none (hH r))) (fun x t hf hq => b_M_changesAll_2b x1 x.1 x.2 t hf hq) gF (x2, s) t hf hq
def f_M_changesAll (x1 : Int) (s : kM) : Option (kM) :=
  f_M_changesAll_2 x1 0 s
set_option maxRecDepth 8000 in
theorem c_M_changesAll {sc : List Int} (x1 : Int) (s : kM) (t : kM) (hf : f_M_changesAll x1 s = some t) : kR sc 3 km_M_changesAll [kr 85, kI x1] (hH s) none (hH t) := by
  unfold f_M_changesAll at hf
  refine kR.start rfl ?_
  show kW sc 3 kc_M_changesAll 0 0 [some (kr 85), some (kI x1), none] [] (hH s) _
  have hq : (fun (r : Option kV) (g : kH) => r = none ∧ g = hH t) none (hH t) := ⟨rfl, rfl⟩
  refine kw_step rfl rfl rfl rfl ?_
  refine kw_step (L' := [some (kr 85), some (kI x1), some (kI 0)]) rfl rfl rfl rfl ?_
  exact kW_le (L' := [some (kr 85), some (kI x1), some (kI 0)]) ⟨Or.inr rfl, Or.inr rfl, Or.inr rfl, trivial⟩ (b_M_changesAll_2 x1 0 s _ hf hq)
def f_M_findsChanges_39 (x1 : Int) (x2 : Int) (x3 : Int) (s : kM) : Option ((Int × Int × kM) ⊕ (Int × kM)) :=
  some (.inl (x2, (wI (x3 + 1)), s))
set_option maxRecDepth 8000 in
theorem b_M_findsChanges_39 {sc : List Int} {Q : Option kV → kH → Prop} (x1 : Int) (x2 : Int) (x3 : Int) (s : kM) (t : (Int × Int × kM) ⊕ (Int × kM)) (hf : f_M_findsChanges_39 x1 x2 x3 s = some t) (hq : (gE (fun x => kW sc 7 kc_M_findsChanges 1 7 [some (kr 85), some (kI x1), some (kI x.1), some (kI x.2.1), none] [] (hH x.2.2) Q) (fun r => Q (some (kI r.1)) (hH r.2))) t) : kW sc 7 kc_M_findsChanges 1 39 [some (kr 85), some (kI x1), some (kI x2), some (kI x3), none] [] (hH s) Q := by
  unfold f_M_findsChanges_39 at hf
  refine kw_step (L' := [some (kr 85), some (kI x1), some (kI x2), some (kI (wI (x3 + 1))), none]) rfl rfl rfl rfl ?_
  refine kw_goto rfl rfl ?_
  cases hf
  exact kW_le (L' := [some (kr 85), some (kI x1), some (kI x2), some (kI (wI (x3 + 1))), none]) ⟨Or.inr rfl, Or.inr rfl, Or.inr rfl, Or.inr rfl, Or.inl rfl, trivial⟩ hq
def f_M_findsChanges_22 (x1 : Int) (x2 : Int) (x3 : Int) (s : kM) : Option ((Int × Int × kM) ⊕ (Int × kM)) :=
  (f_M_changesAll x3 s).bind fun q1 => (f_M_finds q1).bind fun q3 => (f_M_changesAll x3 q3.2).bind fun q5 => if q3.1 < 0 then (f_M_findsChanges_39 x1 x2 x3 q5) else ((f_M_ones x3 q5).bind fun q8 => gLet (gU q5 85 54 x3) fun s9 => f_M_findsChanges_39 x1 q8 x3 s9)
set_option maxRecDepth 8000 in
theorem b_M_findsChanges_22 {sc : List Int} {Q : Option kV → kH → Prop} (x1 : Int) (x2 : Int) (x3 : Int) (s : kM) (t : (Int × Int × kM) ⊕ (Int × kM)) (hf : f_M_findsChanges_22 x1 x2 x3 s = some t) (hq : (gE (fun x => kW sc 7 kc_M_findsChanges 1 7 [some (kr 85), some (kI x1), some (kI x.1), some (kI x.2.1), none] [] (hH x.2.2) Q) (fun r => Q (some (kI r.1)) (hH r.2))) t) : kW sc 7 kc_M_findsChanges 1 22 [some (kr 85), some (kI x1), some (kI x2), some (kI x3), none] [] (hH s) Q := by
  unfold f_M_findsChanges_22 at hf
  refine kw_step rfl rfl rfl rfl ?_
  refine kw_step rfl rfl rfl rfl ?_
  obtain ⟨q1, hq1, hf⟩ := gbind hf
  refine kw_callV (vs := [kI x3]) rfl rfl rfl ⟨rfl, Nat.le_of_ble_eq_true rfl, Nat.le_of_ble_eq_true rfl, by decide⟩ (hH_O (rfl : kotab 85 = some kMo)) (c_M_changesAll x3 s _ hq1) (Nat.le_of_ble_eq_true rfl) ?_
  refine kw_step rfl rfl rfl rfl ?_
  obtain ⟨q3, hq3, hf⟩ := gbind hf
  refine kw_callV (vs := []) rfl rfl rfl ⟨rfl, Nat.le_of_ble_eq_true rfl, Nat.le_of_ble_eq_true rfl, by decide⟩ (hH_O (rfl : kotab 85 = some kMo)) (c_M_finds q1 _ hq3) (Nat.le_of_ble_eq_true rfl) ?_
  refine kw_step (L' := [some (kr 85), some (kI x1), some (kI x2), some (kI x3), some (kI q3.1)]) rfl rfl rfl rfl ?_
  refine kw_step rfl rfl rfl rfl ?_
  refine kw_step rfl rfl rfl rfl ?_
  obtain ⟨q5, hq5, hf⟩ := gbind hf
  refine kw_callV (vs := [kI x3]) rfl rfl rfl ⟨rfl, Nat.le_of_ble_eq_true rfl, Nat.le_of_ble_eq_true rfl, by decide⟩ (hH_O (rfl : kotab 85 = some kMo)) (c_M_changesAll x3 q3.2 _ hq5) (Nat.le_of_ble_eq_true rfl) ?_
  refine kw_step rfl rfl rfl rfl ?_
  refine kw_if_lt rfl rfl (fun c7 => ?_) (fun c7 => ?_)
  · have hf := gift c7 hf
    exact kW_le (L' := [some (kr 85), some (kI x1), some (kI x2), some (kI x3), none]) ⟨Or.inr rfl, Or.inr rfl, Or.inr rfl, Or.inr rfl, Or.inl rfl, trivial⟩ (b_M_findsChanges_39 x1 x2 x3 q5 _ hf hq)
  · have hf := giff c7 hf
    refine kw_step rfl rfl rfl rfl ?_
    obtain ⟨q8, hq8, hf⟩ := gbind hf
    refine kw_callS (vs := [kI x3]) rfl rfl rfl ⟨rfl, Nat.le_of_ble_eq_true rfl, Nat.le_of_ble_eq_true rfl, rfl⟩ (c_M_ones x3 q5 _ hq8) (Nat.le_of_ble_eq_true rfl) ?_
    refine kw_step (L' := [some (kr 85), some (kI x1), some (kI q8), some (kI x3), some (kI q3.1)]) rfl rfl rfl rfl ?_
    refine kw_step rfl rfl rfl rfl ?_
    refine kw_step rfl rfl rfl rfl ?_
    obtain ⟨s9, ee10, hf⟩ := gbL hf
    refine kw_putH rfl (rfl : kotab 85 = some kMo) rfl rfl rfl (Nat.le_of_ble_eq_true rfl) rfl ee10 ?_
    exact kW_le (L' := [some (kr 85), some (kI x1), some (kI q8), some (kI x3), none]) ⟨Or.inr rfl, Or.inr rfl, Or.inr rfl, Or.inr rfl, Or.inl rfl, trivial⟩ (b_M_findsChanges_39 x1 q8 x3 s9 _ hf hq)
def f_M_findsChanges_7b (x1 : Int) (x2 : Int) (x3 : Int) (s : kM) : Option ((Int × Int × kM) ⊕ (Int × kM)) :=
  if 2048 ≤ x3 then (some (.inr (x2, s))) else (if (kand x3 x1) = x3 then (if x2 = (-2) then (f_M_findsChanges_22 x1 x2 x3 s) else ((f_M_ones x3 s).bind fun q4 => if x2 ≤ q4 then (f_M_findsChanges_39 x1 x2 x3 s) else (f_M_findsChanges_22 x1 x2 x3 s))) else (f_M_findsChanges_39 x1 x2 x3 s))
set_option maxRecDepth 8000 in
theorem b_M_findsChanges_7b {sc : List Int} {Q : Option kV → kH → Prop} (x1 : Int) (x2 : Int) (x3 : Int) (s : kM) (t : (Int × Int × kM) ⊕ (Int × kM)) (hf : f_M_findsChanges_7b x1 x2 x3 s = some t) (hq : (gE (fun x => kW sc 7 kc_M_findsChanges 1 7 [some (kr 85), some (kI x1), some (kI x.1), some (kI x.2.1), none] [] (hH x.2.2) Q) (fun r => Q (some (kI r.1)) (hH r.2))) t) : kW sc 7 kc_M_findsChanges 1 7 [some (kr 85), some (kI x1), some (kI x2), some (kI x3), none] [] (hH s) Q := by
  unfold f_M_findsChanges_7b at hf
  refine kw_step rfl rfl rfl rfl ?_
  refine kw_step rfl rfl rfl rfl ?_
  refine kw_icmp_ge rfl rfl (fun c1 => ?_) (fun c1 => ?_)
  · have hf := gift c1 hf
    refine kw_step rfl rfl rfl rfl ?_
    cases hf
    exact kw_ret rfl rfl rfl hq
  · have hf := giff c1 hf
    refine kw_step rfl rfl rfl rfl ?_
    refine kw_step rfl rfl rfl rfl ?_
    refine kw_step rfl rfl rfl rfl ?_
    refine kw_step rfl rfl rfl rfl ?_
    refine kw_icmp_ne rfl rfl (fun c2 => ?_) (fun c2 => ?_)
    · have hf := giff c2 hf
      exact kW_le (L' := [some (kr 85), some (kI x1), some (kI x2), some (kI x3), none]) ⟨Or.inr rfl, Or.inr rfl, Or.inr rfl, Or.inr rfl, Or.inl rfl, trivial⟩ (b_M_findsChanges_39 x1 x2 x3 s _ hf hq)
    · have hf := gift c2 hf
      refine kw_step rfl rfl rfl rfl ?_
      refine kw_step rfl rfl rfl rfl ?_
      refine kw_icmp_eq rfl rfl (fun c3 => ?_) (fun c3 => ?_)
      · have hf := gift c3 hf
        exact kW_le (L' := [some (kr 85), some (kI x1), some (kI x2), some (kI x3), none]) ⟨Or.inr rfl, Or.inr rfl, Or.inr rfl, Or.inr rfl, Or.inl rfl, trivial⟩ (b_M_findsChanges_22 x1 x2 x3 s _ hf hq)
      · have hf := giff c3 hf
        refine kw_step rfl rfl rfl rfl ?_
        obtain ⟨q4, hq4, hf⟩ := gbind hf
        refine kw_callS (vs := [kI x3]) rfl rfl rfl ⟨rfl, Nat.le_of_ble_eq_true rfl, Nat.le_of_ble_eq_true rfl, rfl⟩ (c_M_ones x3 s _ hq4) (Nat.le_of_ble_eq_true rfl) ?_
        refine kw_step rfl rfl rfl rfl ?_
        refine kw_icmp_ge rfl rfl (fun c5 => ?_) (fun c5 => ?_)
        · have hf := gift c5 hf
          exact kW_le (L' := [some (kr 85), some (kI x1), some (kI x2), some (kI x3), none]) ⟨Or.inr rfl, Or.inr rfl, Or.inr rfl, Or.inr rfl, Or.inl rfl, trivial⟩ (b_M_findsChanges_39 x1 x2 x3 s _ hf hq)
        · have hf := giff c5 hf
          exact kW_le (L' := [some (kr 85), some (kI x1), some (kI x2), some (kI x3), none]) ⟨Or.inr rfl, Or.inr rfl, Or.inr rfl, Or.inr rfl, Or.inl rfl, trivial⟩ (b_M_findsChanges_22 x1 x2 x3 s _ hf hq)
def f_M_findsChanges_7 (x1 : Int) (x2 : Int) (x3 : Int) (s : kM) : Option (Int × kM) :=
  gL (fun (x : Int × Int × kM) => f_M_findsChanges_7b x1 x.1 x.2.1 x.2.2) gF (x2, x3, s)
theorem b_M_findsChanges_7 {sc : List Int} {Q : Option kV → kH → Prop} (x1 : Int) (x2 : Int) (x3 : Int) (s : kM) (t : Int × kM) (hf : f_M_findsChanges_7 x1 x2 x3 s = some t) (hq : (fun r => Q (some (kI r.1)) (hH r.2)) t) : kW sc 7 kc_M_findsChanges 1 7 [some (kr 85), some (kI x1), some (kI x2), some (kI x3), none] [] (hH s) Q :=
  gL_ind (P := fun (x : Int × Int × kM) => kW sc 7 kc_M_findsChanges 1 7 [some (kr 85), some (kI x1), some (kI x.1), some (kI x.2.1), none] [] (hH x.2.2) Q) (q := (fun r => Q (some (kI r.1)) (hH r.2))) (fun x t hf hq => b_M_findsChanges_7b x1 x.1 x.2.1 x.2.2 t hf hq) gF (x2, x3, s) t hf hq
def f_M_findsChanges (s : kM) : Option (Int × kM) :=
  (f_M_presentSet s).bind fun q1 => f_M_findsChanges_7 q1 (-2) 0 s
set_option maxRecDepth 8000 in
theorem c_M_findsChanges {sc : List Int} (s : kM) (t : Int × kM) (hf : f_M_findsChanges s = some t) : kR sc 7 km_M_findsChanges [kr 85] (hH s) (some (kI t.1)) (hH t.2) := by
  unfold f_M_findsChanges at hf
  refine kR.start rfl ?_
  show kW sc 7 kc_M_findsChanges 1 0 [some (kr 85), none, none, none, none] [] (hH s) _
  have hq : (fun (r : Option kV) (g : kH) => r = some (kI t.1) ∧ g = hH t.2) (some (kI t.1)) (hH t.2) := ⟨rfl, rfl⟩
  refine kw_step rfl rfl rfl rfl ?_
  obtain ⟨q1, hq1, hf⟩ := gbind hf
  refine kw_callV (vs := []) rfl rfl rfl ⟨rfl, Nat.le_of_ble_eq_true rfl, Nat.le_of_ble_eq_true rfl, by decide⟩ (hH_O (rfl : kotab 85 = some kMo)) (c_M_presentSet s _ hq1) (Nat.le_of_ble_eq_true rfl) ?_
  refine kw_step (L' := [some (kr 85), some (kI q1), none, none, none]) rfl rfl rfl rfl ?_
  refine kw_step rfl rfl rfl rfl ?_
  refine kw_step (L' := [some (kr 85), some (kI q1), some (kI (-2)), none, none]) rfl rfl rfl rfl ?_
  refine kw_step rfl rfl rfl rfl ?_
  refine kw_step (L' := [some (kr 85), some (kI q1), some (kI (-2)), some (kI 0), none]) rfl rfl rfl rfl ?_
  exact kW_le (L' := [some (kr 85), some (kI q1), some (kI (-2)), some (kI 0), none]) ⟨Or.inr rfl, Or.inr rfl, Or.inr rfl, Or.inr rfl, Or.inl rfl, trivial⟩ (b_M_findsChanges_7 q1 (-2) 0 s _ hf hq)
def f_M_changes (x1 : Int) (s : kM) : Option (Int × kM) :=
  (f_M_isTown s).bind fun q1 => if q1 = 0 then (some ((-1), s)) else ((f_M_many s).bind fun q3 => if 6 < q3 then (some ((-1), s)) else ((f_M_in x1 0 1 s).bind fun q5 => if q5 = 0 then (some ((-1), s)) else ((f_M_findsChanges s).bind fun q7 => if q7.1 = (-2) then (some (q7.1, q7.2)) else (if x1 = 0 then (some (q7.1, q7.2)) else (some ((q7.2 85 54), q7.2))))))
set_option maxRecDepth 8000 in
theorem c_M_changes {sc : List Int} (x1 : Int) (s : kM) (t : Int × kM) (hf : f_M_changes x1 s = some t) : kR sc 8 km_M_changes [kr 85, kI x1] (hH s) (some (kI t.1)) (hH t.2) := by
  unfold f_M_changes at hf
  refine kR.start rfl ?_
  show kW sc 8 kc_M_changes 1 0 [some (kr 85), some (kI x1), none] [] (hH s) _
  have hq : (fun (r : Option kV) (g : kH) => r = some (kI t.1) ∧ g = hH t.2) (some (kI t.1)) (hH t.2) := ⟨rfl, rfl⟩
  refine kw_step rfl rfl rfl rfl ?_
  obtain ⟨q1, hq1, hf⟩ := gbind hf
  refine kw_callV (vs := []) rfl rfl rfl ⟨rfl, Nat.le_of_ble_eq_true rfl, Nat.le_of_ble_eq_true rfl, by decide⟩ (hH_O (rfl : kotab 85 = some kMo)) (c_M_isTown s _ hq1) (Nat.le_of_ble_eq_true rfl) ?_
  refine kw_if_eq rfl rfl (fun c2 => ?_) (fun c2 => ?_)
  · have hf := gift c2 hf
    refine kw_step rfl rfl rfl rfl ?_
    cases hf
    exact kw_ret rfl rfl rfl hq
  · have hf := giff c2 hf
    refine kw_step rfl rfl rfl rfl ?_
    obtain ⟨q3, hq3, hf⟩ := gbind hf
    refine kw_callV (vs := []) rfl rfl rfl ⟨rfl, Nat.le_of_ble_eq_true rfl, Nat.le_of_ble_eq_true rfl, by decide⟩ (hH_O (rfl : kotab 85 = some kMo)) (c_M_many s _ hq3) (Nat.le_of_ble_eq_true rfl) ?_
    refine kw_step rfl rfl rfl rfl ?_
    refine kw_icmp_gt rfl rfl (fun c4 => ?_) (fun c4 => ?_)
    · have hf := gift c4 hf
      refine kw_step rfl rfl rfl rfl ?_
      cases hf
      exact kw_ret rfl rfl rfl hq
    · have hf := giff c4 hf
      refine kw_step rfl rfl rfl rfl ?_
      refine kw_step rfl rfl rfl rfl ?_
      refine kw_step rfl rfl rfl rfl ?_
      refine kw_step rfl rfl rfl rfl ?_
      obtain ⟨q5, hq5, hf⟩ := gbind hf
      refine kw_callS (vs := [kJ x1, kJ 0, kJ 1]) rfl rfl rfl ⟨rfl, Nat.le_of_ble_eq_true rfl, Nat.le_of_ble_eq_true rfl, rfl⟩ (c_M_in x1 0 1 s _ hq5) (Nat.le_of_ble_eq_true rfl) ?_
      refine kw_if_ne rfl rfl (fun c6 => ?_) (fun c6 => ?_)
      · have hf := giff c6 hf
        refine kw_step rfl rfl rfl rfl ?_
        obtain ⟨q7, hq7, hf⟩ := gbind hf
        refine kw_callV (vs := []) rfl rfl rfl ⟨rfl, Nat.le_of_ble_eq_true rfl, Nat.le_of_ble_eq_true rfl, by decide⟩ (hH_O (rfl : kotab 85 = some kMo)) (c_M_findsChanges s _ hq7) (Nat.le_of_ble_eq_true rfl) ?_
        refine kw_step (L' := [some (kr 85), some (kI x1), some (kI q7.1)]) rfl rfl rfl rfl ?_
        refine kw_step rfl rfl rfl rfl ?_
        refine kw_step rfl rfl rfl rfl ?_
        refine kw_icmp_eq rfl rfl (fun c9 => ?_) (fun c9 => ?_)
        · have hf := gift c9 hf
          refine kw_step rfl rfl rfl rfl ?_
          refine kw_goto rfl rfl ?_
          cases hf
          exact kw_ret rfl rfl rfl hq
        · have hf := giff c9 hf
          refine kw_step rfl rfl rfl rfl ?_
          refine kw_if_ne rfl rfl (fun c10 => ?_) (fun c10 => ?_)
          · have hf := giff c10 hf
            refine kw_step rfl rfl rfl rfl ?_
            refine kw_get rfl (hH_O (rfl : kotab 85 = some kMo)) rfl ?_
            cases hf
            exact kw_ret rfl rfl rfl hq
          · have hf := gift c10 hf
            refine kw_step rfl rfl rfl rfl ?_
            refine kw_goto rfl rfl ?_
            cases hf
            exact kw_ret rfl rfl rfl hq
      · have hf := gift c6 hf
        refine kw_step rfl rfl rfl rfl ?_
        cases hf
        exact kw_ret rfl rfl rfl hq
def f_M_truth (x0 : Int) (s : kM) : Option (Int) :=
  if x0 = 0 then (some 0) else (some 1)
set_option maxRecDepth 8000 in
theorem c_M_truth {sc : List Int} (x0 : Int) (s : kM) (t : Int) (hf : f_M_truth x0 s = some t) : kR sc 0 km_M_truth [kI x0] (hH s) (some (kJ t)) (hH s) := by
  unfold f_M_truth at hf
  refine kR.start rfl ?_
  show kW sc 0 kc_M_truth 3 0 [some (kI x0)] [] (hH s) _
  have hq : (fun (r : Option kV) (g : kH) => r = some (kJ t) ∧ g = hH s) (some (kJ t)) (hH s) := ⟨rfl, rfl⟩
  refine kw_step rfl rfl rfl rfl ?_
  refine kw_if_eq rfl rfl (fun c1 => ?_) (fun c1 => ?_)
  · have hf := gift c1 hf
    refine kw_step rfl rfl rfl rfl ?_
    cases hf
    exact kw_ret rfl rfl rfl hq
  · have hf := giff c1 hf
    refine kw_step rfl rfl rfl rfl ?_
    refine kw_goto rfl rfl ?_
    cases hf
    exact kw_ret rfl rfl rfl hq
def f_M_both_41 (y0 : Int) (s : kM) : Option (Int) :=
  (f_M_truth y0 s).bind fun q1 => some q1
set_option maxRecDepth 8000 in
theorem b_M_both_41 {sc : List Int} {Q : Option kV → kH → Prop} (y0 : Int) (s : kM) (t : Int) (hf : f_M_both_41 y0 s = some t) (hq : (fun r => Q (some (kJ r)) (hH s)) t) : kW sc 1 kc_M_both 3 41 [none, none, none, none, none] [kI y0] (hH s) Q := by
  unfold f_M_both_41 at hf
  obtain ⟨q1, hq1, hf⟩ := gbind hf
  refine kw_callS (vs := [kI y0]) rfl rfl rfl ⟨rfl, Nat.le_of_ble_eq_true rfl, Nat.le_of_ble_eq_true rfl, rfl⟩ (c_M_truth y0 s _ hq1) (Nat.le_of_ble_eq_true rfl) ?_
  cases hf
  exact kw_ret rfl rfl rfl hq
def f_M_both_50 (y0 : Int) (s : kM) : Option (Int) :=
  (f_M_truth y0 s).bind fun q1 => some q1
set_option maxRecDepth 8000 in
theorem b_M_both_50 {sc : List Int} {Q : Option kV → kH → Prop} (y0 : Int) (s : kM) (t : Int) (hf : f_M_both_50 y0 s = some t) (hq : (fun r => Q (some (kJ r)) (hH s)) t) : kW sc 1 kc_M_both 3 50 [none, none, none, none, none] [kI y0] (hH s) Q := by
  unfold f_M_both_50 at hf
  obtain ⟨q1, hq1, hf⟩ := gbind hf
  refine kw_callS (vs := [kI y0]) rfl rfl rfl ⟨rfl, Nat.le_of_ble_eq_true rfl, Nat.le_of_ble_eq_true rfl, rfl⟩ (c_M_truth y0 s _ hq1) (Nat.le_of_ble_eq_true rfl) ?_
  cases hf
  exact kw_ret rfl rfl rfl hq
def f_M_both_59 (y0 : Int) (s : kM) : Option (Int) :=
  (f_M_truth y0 s).bind fun q1 => some q1
set_option maxRecDepth 8000 in
theorem b_M_both_59 {sc : List Int} {Q : Option kV → kH → Prop} (y0 : Int) (s : kM) (t : Int) (hf : f_M_both_59 y0 s = some t) (hq : (fun r => Q (some (kJ r)) (hH s)) t) : kW sc 1 kc_M_both 3 59 [none, none, none, none, none] [kI y0] (hH s) Q := by
  unfold f_M_both_59 at hf
  obtain ⟨q1, hq1, hf⟩ := gbind hf
  refine kw_callS (vs := [kI y0]) rfl rfl rfl ⟨rfl, Nat.le_of_ble_eq_true rfl, Nat.le_of_ble_eq_true rfl, rfl⟩ (c_M_truth y0 s _ hq1) (Nat.le_of_ble_eq_true rfl) ?_
  cases hf
  exact kw_ret rfl rfl rfl hq
def f_M_both_68 (y0 : Int) (s : kM) : Option (Int) :=
  (f_M_truth y0 s).bind fun q1 => some q1
set_option maxRecDepth 8000 in
theorem b_M_both_68 {sc : List Int} {Q : Option kV → kH → Prop} (y0 : Int) (s : kM) (t : Int) (hf : f_M_both_68 y0 s = some t) (hq : (fun r => Q (some (kJ r)) (hH s)) t) : kW sc 1 kc_M_both 3 68 [none, none, none, none, none] [kI y0] (hH s) Q := by
  unfold f_M_both_68 at hf
  obtain ⟨q1, hq1, hf⟩ := gbind hf
  refine kw_callS (vs := [kI y0]) rfl rfl rfl ⟨rfl, Nat.le_of_ble_eq_true rfl, Nat.le_of_ble_eq_true rfl, rfl⟩ (c_M_truth y0 s _ hq1) (Nat.le_of_ble_eq_true rfl) ?_
  cases hf
  exact kw_ret rfl rfl rfl hq
def f_M_both_77 (y0 : Int) (s : kM) : Option (Int) :=
  (f_M_truth y0 s).bind fun q1 => some q1
set_option maxRecDepth 8000 in
theorem b_M_both_77 {sc : List Int} {Q : Option kV → kH → Prop} (y0 : Int) (s : kM) (t : Int) (hf : f_M_both_77 y0 s = some t) (hq : (fun r => Q (some (kJ r)) (hH s)) t) : kW sc 1 kc_M_both 3 77 [none, none, none, none, none] [kI y0] (hH s) Q := by
  unfold f_M_both_77 at hf
  obtain ⟨q1, hq1, hf⟩ := gbind hf
  refine kw_callS (vs := [kI y0]) rfl rfl rfl ⟨rfl, Nat.le_of_ble_eq_true rfl, Nat.le_of_ble_eq_true rfl, rfl⟩ (c_M_truth y0 s _ hq1) (Nat.le_of_ble_eq_true rfl) ?_
  cases hf
  exact kw_ret rfl rfl rfl hq
def f_M_both (x0 : Int) (x1 : Int) (x3 : Int) (s : kM) : Option (Int) :=
  if x0 = 2 then (some (wL (x1 + x3))) else if x0 = 3 then (some (wL (x1 - x3))) else if x0 = 4 then (if x3 ≤ x1 then (f_M_both_41 0 s) else (f_M_both_41 1 s)) else if x0 = 5 then (if x3 < x1 then (f_M_both_50 0 s) else (f_M_both_50 1 s)) else if x0 = 6 then (if x1 = x3 then (f_M_both_59 1 s) else (f_M_both_59 0 s)) else if x0 = 7 then (if x1 < x3 then (f_M_both_68 0 s) else (f_M_both_68 1 s)) else if x0 = 8 then (if x1 ≤ x3 then (f_M_both_77 0 s) else (f_M_both_77 1 s)) else if x0 = 9 then (some (klor x1 x3)) else if x0 = 10 then (some (klnd x1 x3)) else if x0 = 11 then (some (klor x1 x3)) else if x0 = 12 then (some (klor x1 x3)) else if x0 = 13 then (some (wL (x1 * x3))) else if x0 = 14 then (if x3 = 0 then (some 0) else ((gD x3).bind fun _ => some (kldiv x1 x3))) else if x0 = 15 then (if x3 = 0 then (some 0) else ((gD x3).bind fun _ => some (klrem x1 x3))) else (some (klor x1 x3))
set_option maxRecDepth 8000 in
theorem c_M_both {sc : List Int} (x0 : Int) (x1 : Int) (x3 : Int) (s : kM) (t : Int) (hf : f_M_both x0 x1 x3 s = some t) : kR sc 1 km_M_both [kI x0, kJ x1, kJ x3] (hH s) (some (kJ t)) (hH s) := by
  unfold f_M_both at hf
  refine kR.start rfl ?_
  show kW sc 1 kc_M_both 3 0 [some (kI x0), some (kJ x1), none, some (kJ x3), none] [] (hH s) _
  have hq : (fun (r : Option kV) (g : kH) => r = some (kJ t) ∧ g = hH s) (some (kJ t)) (hH s) := ⟨rfl, rfl⟩
  refine kw_step rfl rfl rfl rfl ?_
  by_cases c1 : x0 = 2
  · have hf := gift c1 hf
    refine kw_tsw_at rfl c1 rfl rfl rfl ?_
    refine kw_step rfl rfl rfl rfl ?_
    refine kw_step rfl rfl rfl rfl ?_
    refine kw_step rfl rfl rfl rfl ?_
    cases hf
    exact kw_ret rfl rfl rfl hq
  have hf := giff c1 hf
  by_cases c2 : x0 = 3
  · have hf := gift c2 hf
    refine kw_tsw_at rfl c2 rfl rfl rfl ?_
    refine kw_step rfl rfl rfl rfl ?_
    refine kw_step rfl rfl rfl rfl ?_
    refine kw_step rfl rfl rfl rfl ?_
    cases hf
    exact kw_ret rfl rfl rfl hq
  have hf := giff c2 hf
  by_cases c3 : x0 = 4
  · have hf := gift c3 hf
    refine kw_tsw_at rfl c3 rfl rfl rfl ?_
    refine kw_step rfl rfl rfl rfl ?_
    refine kw_step rfl rfl rfl rfl ?_
    refine kw_lc_ge rfl rfl rfl (fun c4 => ?_) (fun c4 => ?_)
    · have hf := gift c4 hf
      refine kw_step rfl rfl rfl rfl ?_
      exact kW_le (L' := [none, none, none, none, none]) ⟨Or.inl rfl, Or.inl rfl, Or.inl rfl, Or.inl rfl, Or.inl rfl, trivial⟩ (b_M_both_41 0 s _ hf hq)
    · have hf := giff c4 hf
      refine kw_step rfl rfl rfl rfl ?_
      refine kw_goto rfl rfl ?_
      exact kW_le (L' := [none, none, none, none, none]) ⟨Or.inl rfl, Or.inl rfl, Or.inl rfl, Or.inl rfl, Or.inl rfl, trivial⟩ (b_M_both_41 1 s _ hf hq)
  have hf := giff c3 hf
  by_cases c5 : x0 = 5
  · have hf := gift c5 hf
    refine kw_tsw_at rfl c5 rfl rfl rfl ?_
    refine kw_step rfl rfl rfl rfl ?_
    refine kw_step rfl rfl rfl rfl ?_
    refine kw_lc_gt rfl rfl rfl (fun c6 => ?_) (fun c6 => ?_)
    · have hf := gift c6 hf
      refine kw_step rfl rfl rfl rfl ?_
      exact kW_le (L' := [none, none, none, none, none]) ⟨Or.inl rfl, Or.inl rfl, Or.inl rfl, Or.inl rfl, Or.inl rfl, trivial⟩ (b_M_both_50 0 s _ hf hq)
    · have hf := giff c6 hf
      refine kw_step rfl rfl rfl rfl ?_
      refine kw_goto rfl rfl ?_
      exact kW_le (L' := [none, none, none, none, none]) ⟨Or.inl rfl, Or.inl rfl, Or.inl rfl, Or.inl rfl, Or.inl rfl, trivial⟩ (b_M_both_50 1 s _ hf hq)
  have hf := giff c5 hf
  by_cases c7 : x0 = 6
  · have hf := gift c7 hf
    refine kw_tsw_at rfl c7 rfl rfl rfl ?_
    refine kw_step rfl rfl rfl rfl ?_
    refine kw_step rfl rfl rfl rfl ?_
    refine kw_lc_ne rfl rfl rfl (fun c8 => ?_) (fun c8 => ?_)
    · have hf := giff c8 hf
      refine kw_step rfl rfl rfl rfl ?_
      exact kW_le (L' := [none, none, none, none, none]) ⟨Or.inl rfl, Or.inl rfl, Or.inl rfl, Or.inl rfl, Or.inl rfl, trivial⟩ (b_M_both_59 0 s _ hf hq)
    · have hf := gift c8 hf
      refine kw_step rfl rfl rfl rfl ?_
      refine kw_goto rfl rfl ?_
      exact kW_le (L' := [none, none, none, none, none]) ⟨Or.inl rfl, Or.inl rfl, Or.inl rfl, Or.inl rfl, Or.inl rfl, trivial⟩ (b_M_both_59 1 s _ hf hq)
  have hf := giff c7 hf
  by_cases c9 : x0 = 7
  · have hf := gift c9 hf
    refine kw_tsw_at rfl c9 rfl rfl rfl ?_
    refine kw_step rfl rfl rfl rfl ?_
    refine kw_step rfl rfl rfl rfl ?_
    refine kw_lc_lt rfl rfl rfl (fun c10 => ?_) (fun c10 => ?_)
    · have hf := gift c10 hf
      refine kw_step rfl rfl rfl rfl ?_
      exact kW_le (L' := [none, none, none, none, none]) ⟨Or.inl rfl, Or.inl rfl, Or.inl rfl, Or.inl rfl, Or.inl rfl, trivial⟩ (b_M_both_68 0 s _ hf hq)
    · have hf := giff c10 hf
      refine kw_step rfl rfl rfl rfl ?_
      refine kw_goto rfl rfl ?_
      exact kW_le (L' := [none, none, none, none, none]) ⟨Or.inl rfl, Or.inl rfl, Or.inl rfl, Or.inl rfl, Or.inl rfl, trivial⟩ (b_M_both_68 1 s _ hf hq)
  have hf := giff c9 hf
  by_cases c11 : x0 = 8
  · have hf := gift c11 hf
    refine kw_tsw_at rfl c11 rfl rfl rfl ?_
    refine kw_step rfl rfl rfl rfl ?_
    refine kw_step rfl rfl rfl rfl ?_
    refine kw_lc_le rfl rfl rfl (fun c12 => ?_) (fun c12 => ?_)
    · have hf := gift c12 hf
      refine kw_step rfl rfl rfl rfl ?_
      exact kW_le (L' := [none, none, none, none, none]) ⟨Or.inl rfl, Or.inl rfl, Or.inl rfl, Or.inl rfl, Or.inl rfl, trivial⟩ (b_M_both_77 0 s _ hf hq)
    · have hf := giff c12 hf
      refine kw_step rfl rfl rfl rfl ?_
      refine kw_goto rfl rfl ?_
      exact kW_le (L' := [none, none, none, none, none]) ⟨Or.inl rfl, Or.inl rfl, Or.inl rfl, Or.inl rfl, Or.inl rfl, trivial⟩ (b_M_both_77 1 s _ hf hq)
  have hf := giff c11 hf
  by_cases c13 : x0 = 9
  · have hf := gift c13 hf
    refine kw_tsw_at rfl c13 rfl rfl rfl ?_
    refine kw_step rfl rfl rfl rfl ?_
    refine kw_step rfl rfl rfl rfl ?_
    refine kw_step rfl rfl rfl rfl ?_
    cases hf
    exact kw_ret rfl rfl rfl hq
  have hf := giff c13 hf
  by_cases c14 : x0 = 10
  · have hf := gift c14 hf
    refine kw_tsw_at rfl c14 rfl rfl rfl ?_
    refine kw_step rfl rfl rfl rfl ?_
    refine kw_step rfl rfl rfl rfl ?_
    refine kw_step rfl rfl rfl rfl ?_
    cases hf
    exact kw_ret rfl rfl rfl hq
  have hf := giff c14 hf
  by_cases c15 : x0 = 11
  · have hf := gift c15 hf
    refine kw_tsw_at rfl c15 rfl rfl rfl ?_
    refine kw_step rfl rfl rfl rfl ?_
    refine kw_step rfl rfl rfl rfl ?_
    refine kw_step rfl rfl rfl rfl ?_
    cases hf
    exact kw_ret rfl rfl rfl hq
  have hf := giff c15 hf
  by_cases c16 : x0 = 12
  · have hf := gift c16 hf
    refine kw_tsw_at rfl c16 rfl rfl rfl ?_
    refine kw_step rfl rfl rfl rfl ?_
    refine kw_step rfl rfl rfl rfl ?_
    refine kw_step rfl rfl rfl rfl ?_
    cases hf
    exact kw_ret rfl rfl rfl hq
  have hf := giff c16 hf
  by_cases c17 : x0 = 13
  · have hf := gift c17 hf
    refine kw_tsw_at rfl c17 rfl rfl rfl ?_
    refine kw_step rfl rfl rfl rfl ?_
    refine kw_step rfl rfl rfl rfl ?_
    refine kw_step rfl rfl rfl rfl ?_
    cases hf
    exact kw_ret rfl rfl rfl hq
  have hf := giff c17 hf
  by_cases c18 : x0 = 14
  · have hf := gift c18 hf
    refine kw_tsw_at rfl c18 rfl rfl rfl ?_
    refine kw_step rfl rfl rfl rfl ?_
    refine kw_step rfl rfl rfl rfl ?_
    refine kw_lc_ne rfl rfl rfl (fun c19 => ?_) (fun c19 => ?_)
    · have hf := giff c19 hf
      refine kw_step rfl rfl rfl rfl ?_
      refine kw_step rfl rfl rfl rfl ?_
      obtain ⟨z20, hf⟩ := gbD hf
      refine kw_ldiv rfl z20 ?_
      cases hf
      exact kw_ret rfl rfl rfl hq
    · have hf := gift c19 hf
      refine kw_step rfl rfl rfl rfl ?_
      refine kw_goto rfl rfl ?_
      cases hf
      exact kw_ret rfl rfl rfl hq
  have hf := giff c18 hf
  by_cases c21 : x0 = 15
  · have hf := gift c21 hf
    refine kw_tsw_at rfl c21 rfl rfl rfl ?_
    refine kw_step rfl rfl rfl rfl ?_
    refine kw_step rfl rfl rfl rfl ?_
    refine kw_lc_ne rfl rfl rfl (fun c22 => ?_) (fun c22 => ?_)
    · have hf := giff c22 hf
      refine kw_step rfl rfl rfl rfl ?_
      refine kw_step rfl rfl rfl rfl ?_
      obtain ⟨z23, hf⟩ := gbD hf
      refine kw_lrem rfl z23 ?_
      cases hf
      exact kw_ret rfl rfl rfl hq
    · have hf := gift c22 hf
      refine kw_step rfl rfl rfl rfl ?_
      refine kw_goto rfl rfl ?_
      cases hf
      exact kw_ret rfl rfl rfl hq
  have hf := giff c21 hf
  refine kw_tsw_out rfl (by omega) rfl ?_
  refine kw_step rfl rfl rfl rfl ?_
  refine kw_step rfl rfl rfl rfl ?_
  refine kw_step rfl rfl rfl rfl ?_
  cases hf
  exact kw_ret rfl rfl rfl hq
