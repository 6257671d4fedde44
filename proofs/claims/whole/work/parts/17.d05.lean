/-! PRINTED by wip/whole/decall.py: methods as functions over the flat world, with their contracts -/
def f_Town_hasPlace (b0 : Nat) (x1 : Int) (s : kM) : Option (Int) :=
  if x1 < 0 then (some 0) else (if (s b0 2) ≤ x1 then (some 0) else (some 1))
set_option maxRecDepth 8000 in
theorem c_Town_hasPlace {sc : List Int} (b0 : Nat) (hb0 : tT b0 = true) (x1 : Int) (s : kM) (t : Int) (hf : f_Town_hasPlace b0 x1 s = some t) : kR sc 0 km_Town_hasPlace [kr b0, kI x1] (hH s) (some (kI t)) (hH s) := by
  unfold f_Town_hasPlace at hf
  refine kR.start rfl ?_
  show kW sc 0 kc_Town_hasPlace 2 0 [some (kr b0), some (kI x1)] [] (hH s) _
  have hq : (fun (r : Option kV) (g : kH) => r = some (kI t) ∧ g = hH s) (some (kI t)) (hH s) := ⟨rfl, rfl⟩
  refine kw_step rfl rfl rfl rfl ?_
  refine kw_if_lt rfl rfl (fun c1 => ?_) (fun c1 => ?_)
  · have hf := gift c1 hf
    refine kw_step rfl rfl rfl rfl ?_
    cases hf
    exact kw_ret rfl rfl rfl hq
  · have hf := giff c1 hf
    refine kw_step rfl rfl rfl rfl ?_
    refine kw_step rfl rfl rfl rfl ?_
    refine kw_get rfl (hH_O (tT_0 hb0)) rfl ?_
    refine kw_icmp_ge rfl rfl (fun c2 => ?_) (fun c2 => ?_)
    · have hf := gift c2 hf
      refine kw_step rfl rfl rfl rfl ?_
      cases hf
      exact kw_ret rfl rfl rfl hq
    · have hf := giff c2 hf
      refine kw_step rfl rfl rfl rfl ?_
      refine kw_goto rfl rfl ?_
      cases hf
      exact kw_ret rfl rfl rfl hq
def f_Town_roadOf (b0 : Nat) (x1 : Int) (s : kM) : Option (Int) :=
  if (s b0 1) ≤ x1 then (some 1) else (some 0)
set_option maxRecDepth 8000 in
theorem c_Town_roadOf {sc : List Int} (b0 : Nat) (hb0 : tT b0 = true) (x1 : Int) (s : kM) (t : Int) (hf : f_Town_roadOf b0 x1 s = some t) : kR sc 0 km_Town_roadOf [kr b0, kI x1] (hH s) (some (kI t)) (hH s) := by
  unfold f_Town_roadOf at hf
  refine kR.start rfl ?_
  show kW sc 0 kc_Town_roadOf 1 0 [some (kr b0), some (kI x1)] [] (hH s) _
  have hq : (fun (r : Option kV) (g : kH) => r = some (kI t) ∧ g = hH s) (some (kI t)) (hH s) := ⟨rfl, rfl⟩
  refine kw_step rfl rfl rfl rfl ?_
  refine kw_step rfl rfl rfl rfl ?_
  refine kw_get rfl (hH_O (tT_0 hb0)) rfl ?_
  refine kw_icmp_ge rfl rfl (fun c1 => ?_) (fun c1 => ?_)
  · have hf := gift c1 hf
    refine kw_step rfl rfl rfl rfl ?_
    cases hf
    exact kw_ret rfl rfl rfl hq
  · have hf := giff c1 hf
    refine kw_step rfl rfl rfl rfl ?_
    refine kw_goto rfl rfl ?_
    cases hf
    exact kw_ret rfl rfl rfl hq
def f_Bows_findOnRoad_48b (b1 : Nat) (x3 : Int) (x4 : Int) (x5 : Int) (s : kM) : Option ((Int × kM) ⊕ (kM)) :=
  if x3 ≤ x5 then (some (.inr s)) else ((gI 22 x5).bind fun j2 => if x4 ≤ (s 49 j2) then (some (.inr s)) else ((gI 22 x5).bind fun j5 => gLet (gU s 49 j5 (wI ((s 48 0) - 1))) fun s7 => some (.inl ((wI (x5 + 1)), s7))))
set_option maxRecDepth 8000 in
theorem b_Bows_findOnRoad_48b {sc : List Int} {Q : Option kV → kH → Prop} (b1 : Nat) (hb1 : tT b1 = true) (x3 : Int) (x4 : Int) (x5 : Int) (s : kM) (t : (Int × kM) ⊕ (kM)) (hf : f_Bows_findOnRoad_48b b1 x3 x4 x5 s = some t) (hq : (gE (fun x => kW sc 0 kc_Bows_findOnRoad 0 48 [some (kr 48), none, none, some (kI x3), some (kI x4), some (kI x.1)] [] (hH x.2) Q) (fun r => Q none (hH r))) t) : kW sc 0 kc_Bows_findOnRoad 0 48 [some (kr 48), none, none, some (kI x3), some (kI x4), some (kI x5)] [] (hH s) Q := by
  unfold f_Bows_findOnRoad_48b at hf
  refine kw_step rfl rfl rfl rfl ?_
  refine kw_step rfl rfl rfl rfl ?_
  refine kw_icmp_ge rfl rfl (fun c1 => ?_) (fun c1 => ?_)
  · have hf := gift c1 hf
    cases hf
    exact kw_ret rfl rfl rfl hq
  · have hf := giff c1 hf
    refine kw_step rfl rfl rfl rfl ?_
    refine kw_get rfl (hH_O (rfl : kotab 48 = some kWo)) rfl ?_
    refine kw_step rfl rfl rfl rfl ?_
    obtain ⟨j2, i3, hf⟩ := gbI hf
    refine kw_iald rfl (hH_A (rfl : ktab 49 = some (0, 22))) i3.1 i3.2.1 i3.2.2 ?_
    refine kw_step rfl rfl rfl rfl ?_
    refine kw_icmp_ge rfl rfl (fun c4 => ?_) (fun c4 => ?_)
    · have hf := gift c4 hf
      cases hf
      exact kw_ret rfl rfl rfl hq
    · have hf := giff c4 hf
      refine kw_step rfl rfl rfl rfl ?_
      refine kw_get rfl (hH_O (rfl : kotab 48 = some kWo)) rfl ?_
      refine kw_step rfl rfl rfl rfl ?_
      refine kw_step rfl rfl rfl rfl ?_
      refine kw_get rfl (hH_O (rfl : kotab 48 = some kWo)) rfl ?_
      refine kw_step rfl rfl rfl rfl ?_
      refine kw_step rfl rfl rfl rfl ?_
      obtain ⟨j5, i6, hf⟩ := gbI hf
      obtain ⟨s7, ee8, hf⟩ := gbL hf
      refine kw_iastH rfl (rfl : ktab 49 = some (0, 22)) i6.1 i6.2.1 i6.2.2 ee8 ?_
      refine kw_step (L' := [some (kr 48), none, none, some (kI x3), some (kI x4), some (kI (wI (x5 + 1)))]) rfl rfl rfl rfl ?_
      refine kw_goto rfl rfl ?_
      cases hf
      exact kW_le (L' := [some (kr 48), none, none, some (kI x3), some (kI x4), some (kI (wI (x5 + 1)))]) ⟨Or.inr rfl, Or.inl rfl, Or.inl rfl, Or.inr rfl, Or.inr rfl, Or.inr rfl, trivial⟩ hq
def f_Bows_findOnRoad_48 (b1 : Nat) (x3 : Int) (x4 : Int) (x5 : Int) (s : kM) : Option (kM) :=
  gL (fun (x : Int × kM) => f_Bows_findOnRoad_48b b1 x3 x4 x.1 x.2) gF (x5, s)
theorem b_Bows_findOnRoad_48 {sc : List Int} {Q : Option kV → kH → Prop} (b1 : Nat) (hb1 : tT b1 = true) (x3 : Int) (x4 : Int) (x5 : Int) (s : kM) (t : kM) (hf : f_Bows_findOnRoad_48 b1 x3 x4 x5 s = some t) (hq : (fun r => Q none (hH r)) t) : kW sc 0 kc_Bows_findOnRoad 0 48 [some (kr 48), none, none, some (kI x3), some (kI x4), some (kI x5)] [] (hH s) Q :=
  gL_ind (P := fun (x : Int × kM) => kW sc 0 kc_Bows_findOnRoad 0 48 [some (kr 48), none, none, some (kI x3), some (kI x4), some (kI x.1)] [] (hH x.2) Q) (q := (fun r => Q none (hH r))) (fun x t hf hq => b_Bows_findOnRoad_48b b1 hb1 x3 x4 x.1 x.2 t hf hq) gF (x5, s) t hf hq
def f_Bows_findOnRoad_46 (b1 : Nat) (x2 : Int) (x3 : Int) (x4 : Int) (s : kM) : Option (kM) :=
  f_Bows_findOnRoad_48 b1 x3 x4 x2 s
set_option maxRecDepth 8000 in
theorem b_Bows_findOnRoad_46 {sc : List Int} {Q : Option kV → kH → Prop} (b1 : Nat) (hb1 : tT b1 = true) (x2 : Int) (x3 : Int) (x4 : Int) (s : kM) (t : kM) (hf : f_Bows_findOnRoad_46 b1 x2 x3 x4 s = some t) (hq : (fun r => Q none (hH r)) t) : kW sc 0 kc_Bows_findOnRoad 0 46 [some (kr 48), none, some (kI x2), some (kI x3), some (kI x4), none] [] (hH s) Q := by
  unfold f_Bows_findOnRoad_46 at hf
  refine kw_step rfl rfl rfl rfl ?_
  refine kw_step (L' := [some (kr 48), none, some (kI x2), some (kI x3), some (kI x4), some (kI x2)]) rfl rfl rfl rfl ?_
  exact kW_le (L' := [some (kr 48), none, none, some (kI x3), some (kI x4), some (kI x2)]) ⟨Or.inr rfl, Or.inl rfl, Or.inl rfl, Or.inr rfl, Or.inr rfl, Or.inr rfl, trivial⟩ (b_Bows_findOnRoad_48 b1 hb1 x3 x4 x2 s _ hf hq)
def f_Bows_findOnRoad_21 (b1 : Nat) (x2 : Int) (x3 : Int) (x4 : Int) (x5 : Int) (y1 : Int) (y2 : Int) (s : kM) : Option ((Int × kM) ⊕ (kM)) :=
  gLet (gU s 48 0 (wI (y1 + y2))) fun s1 => (gI 22 x5).bind fun j4 => gLet (gU s1 49 j4 (wI ((s1 48 0) - 1))) fun s6 => some (.inl ((wI (x5 + 1)), s6))
set_option maxRecDepth 8000 in
theorem b_Bows_findOnRoad_21 {sc : List Int} {Q : Option kV → kH → Prop} (b1 : Nat) (hb1 : tT b1 = true) (x2 : Int) (x3 : Int) (x4 : Int) (x5 : Int) (y1 : Int) (y2 : Int) (s : kM) (t : (Int × kM) ⊕ (kM)) (hf : f_Bows_findOnRoad_21 b1 x2 x3 x4 x5 y1 y2 s = some t) (hq : (gE (fun x => kW sc 0 kc_Bows_findOnRoad 0 5 [some (kr 48), some (kr b1), some (kI x2), some (kI x3), some (kI x4), some (kI x.1)] [] (hH x.2) Q) (fun r => Q none (hH r))) t) : kW sc 0 kc_Bows_findOnRoad 0 21 [some (kr 48), some (kr b1), some (kI x2), some (kI x3), some (kI x4), some (kI x5)] [kI y2, kI y1, kr 48] (hH s) Q := by
  unfold f_Bows_findOnRoad_21 at hf
  refine kw_step rfl rfl rfl rfl ?_
  obtain ⟨s1, ee2, hf⟩ := gbL hf
  refine kw_putH rfl (rfl : kotab 48 = some kWo) rfl rfl rfl (Nat.le_of_ble_eq_true rfl) rfl ee2 ?_
  refine kw_step rfl rfl rfl rfl ?_
  refine kw_get rfl (hH_O (rfl : kotab 48 = some kWo)) rfl ?_
  refine kw_step rfl rfl rfl rfl ?_
  refine kw_step rfl rfl rfl rfl ?_
  refine kw_get rfl (hH_O (rfl : kotab 48 = some kWo)) rfl ?_
  refine kw_step rfl rfl rfl rfl ?_
  refine kw_step rfl rfl rfl rfl ?_
  obtain ⟨j4, i5, hf⟩ := gbI hf
  obtain ⟨s6, ee7, hf⟩ := gbL hf
  refine kw_iastH rfl (rfl : ktab 49 = some (0, 22)) i5.1 i5.2.1 i5.2.2 ee7 ?_
  refine kw_step (L' := [some (kr 48), some (kr b1), some (kI x2), some (kI x3), some (kI x4), some (kI (wI (x5 + 1)))]) rfl rfl rfl rfl ?_
  refine kw_goto rfl rfl ?_
  cases hf
  exact kW_le (L' := [some (kr 48), some (kr b1), some (kI x2), some (kI x3), some (kI x4), some (kI (wI (x5 + 1)))]) ⟨Or.inr rfl, Or.inr rfl, Or.inr rfl, Or.inr rfl, Or.inr rfl, Or.inr rfl, trivial⟩ hq
def f_Bows_findOnRoad_5b (b1 : Nat) (x2 : Int) (x3 : Int) (x4 : Int) (x5 : Int) (s : kM) : Option ((Int × kM) ⊕ (kM)) :=
  if x3 ≤ x5 then (if (s 48 0) = x4 then (if x3 ≤ x2 then ((f_Bows_findOnRoad_46 b1 x2 x3 x4 s).map Sum.inr) else (gLet (gU s 48 0 (wI ((s 48 0) + 1))) fun s8 => (f_Bows_findOnRoad_46 b1 x2 x3 x4 s8).map Sum.inr)) else ((f_Bows_findOnRoad_46 b1 x2 x3 x4 s).map Sum.inr)) else ((gI 22 x5).bind fun j13 => if (kand (s (b1 + 1) j13) 1) = 0 then (f_Bows_findOnRoad_21 b1 x2 x3 x4 x5 (s 48 0) 1 s) else (f_Bows_findOnRoad_21 b1 x2 x3 x4 x5 (s 48 0) 0 s))
set_option maxRecDepth 8000 in
theorem b_Bows_findOnRoad_5b {sc : List Int} {Q : Option kV → kH → Prop} (b1 : Nat) (hb1 : tT b1 = true) (x2 : Int) (x3 : Int) (x4 : Int) (x5 : Int) (s : kM) (t : (Int × kM) ⊕ (kM)) (hf : f_Bows_findOnRoad_5b b1 x2 x3 x4 x5 s = some t) (hq : (gE (fun x => kW sc 0 kc_Bows_findOnRoad 0 5 [some (kr 48), some (kr b1), some (kI x2), some (kI x3), some (kI x4), some (kI x.1)] [] (hH x.2) Q) (fun r => Q none (hH r))) t) : kW sc 0 kc_Bows_findOnRoad 0 5 [some (kr 48), some (kr b1), some (kI x2), some (kI x3), some (kI x4), some (kI x5)] [] (hH s) Q := by
  unfold f_Bows_findOnRoad_5b at hf
  refine kw_step rfl rfl rfl rfl ?_
  refine kw_step rfl rfl rfl rfl ?_
  refine kw_icmp_ge rfl rfl (fun c1 => ?_) (fun c1 => ?_)
  · have hf := gift c1 hf
    refine kw_step rfl rfl rfl rfl ?_
    refine kw_get rfl (hH_O (rfl : kotab 48 = some kWo)) rfl ?_
    refine kw_step rfl rfl rfl rfl ?_
    refine kw_icmp_ne rfl rfl (fun c2 => ?_) (fun c2 => ?_)
    · have hf := giff c2 hf
      obtain ⟨t3, hg4, rfl⟩ := gmap hf
      exact kW_le (L' := [some (kr 48), none, some (kI x2), some (kI x3), some (kI x4), none]) ⟨Or.inr rfl, Or.inl rfl, Or.inr rfl, Or.inr rfl, Or.inr rfl, Or.inl rfl, trivial⟩ (b_Bows_findOnRoad_46 b1 hb1 x2 x3 x4 s _ hg4 hq)
    · have hf := gift c2 hf
      refine kw_step rfl rfl rfl rfl ?_
      refine kw_step rfl rfl rfl rfl ?_
      refine kw_icmp_ge rfl rfl (fun c5 => ?_) (fun c5 => ?_)
      · have hf := gift c5 hf
        obtain ⟨t6, hg7, rfl⟩ := gmap hf
        exact kW_le (L' := [some (kr 48), none, some (kI x2), some (kI x3), some (kI x4), none]) ⟨Or.inr rfl, Or.inl rfl, Or.inr rfl, Or.inr rfl, Or.inr rfl, Or.inl rfl, trivial⟩ (b_Bows_findOnRoad_46 b1 hb1 x2 x3 x4 s _ hg7 hq)
      · have hf := giff c5 hf
        refine kw_step rfl rfl rfl rfl ?_
        refine kw_step rfl rfl rfl rfl ?_
        refine kw_get rfl (hH_O (rfl : kotab 48 = some kWo)) rfl ?_
        refine kw_step rfl rfl rfl rfl ?_
        refine kw_step rfl rfl rfl rfl ?_
        obtain ⟨s8, ee9, hf⟩ := gbL hf
        refine kw_putH rfl (rfl : kotab 48 = some kWo) rfl rfl rfl (Nat.le_of_ble_eq_true rfl) rfl ee9 ?_
        obtain ⟨t11, hg12, rfl⟩ := gmap hf
        exact kW_le (L' := [some (kr 48), none, some (kI x2), some (kI x3), some (kI x4), none]) ⟨Or.inr rfl, Or.inl rfl, Or.inr rfl, Or.inr rfl, Or.inr rfl, Or.inl rfl, trivial⟩ (b_Bows_findOnRoad_46 b1 hb1 x2 x3 x4 s8 _ hg12 hq)
  · have hf := giff c1 hf
    refine kw_step rfl rfl rfl rfl ?_
    refine kw_step rfl rfl rfl rfl ?_
    refine kw_get rfl (hH_O (rfl : kotab 48 = some kWo)) rfl ?_
    refine kw_step rfl rfl rfl rfl ?_
    refine kw_get rfl (hH_O (tT_0 hb1)) rfl ?_
    refine kw_step rfl rfl rfl rfl ?_
    obtain ⟨j13, i14, hf⟩ := gbI hf
    refine kw_iald rfl (hH_A (tT_1 hb1)) i14.1 i14.2.1 i14.2.2 ?_
    refine kw_step rfl rfl rfl rfl ?_
    refine kw_step rfl rfl rfl rfl ?_
    refine kw_if_ne rfl rfl (fun c15 => ?_) (fun c15 => ?_)
    · have hf := giff c15 hf
      refine kw_step rfl rfl rfl rfl ?_
      exact kW_le (L' := [some (kr 48), some (kr b1), some (kI x2), some (kI x3), some (kI x4), some (kI x5)]) ⟨Or.inr rfl, Or.inr rfl, Or.inr rfl, Or.inr rfl, Or.inr rfl, Or.inr rfl, trivial⟩ (b_Bows_findOnRoad_21 b1 hb1 x2 x3 x4 x5 (s 48 0) 0 s _ hf hq)
    · have hf := gift c15 hf
      refine kw_step rfl rfl rfl rfl ?_
      refine kw_goto rfl rfl ?_
      exact kW_le (L' := [some (kr 48), some (kr b1), some (kI x2), some (kI x3), some (kI x4), some (kI x5)]) ⟨Or.inr rfl, Or.inr rfl, Or.inr rfl, Or.inr rfl, Or.inr rfl, Or.inr rfl, trivial⟩ (b_Bows_findOnRoad_21 b1 hb1 x2 x3 x4 x5 (s 48 0) 1 s _ hf hq)
def f_Bows_findOnRoad_5 (b1 : Nat) (x2 : Int) (x3 : Int) (x4 : Int) (x5 : Int) (s : kM) : Option (kM) :=
  gL (fun (x : Int × kM) => f_Bows_findOnRoad_5b b1 x2 x3 x4 x.1 x.2) gF (x5, s)
theorem b_Bows_findOnRoad_5 {sc : List Int} {Q : Option kV → kH → Prop} (b1 : Nat) (hb1 : tT b1 = true) (x2 : Int) (x3 : Int) (x4 : Int) (x5 : Int) (s : kM) (t : kM) (hf : f_Bows_findOnRoad_5 b1 x2 x3 x4 x5 s = some t) (hq : (fun r => Q none (hH r)) t) : kW sc 0 kc_Bows_findOnRoad 0 5 [some (kr 48), some (kr b1), some (kI x2), some (kI x3), some (kI x4), some (kI x5)] [] (hH s) Q :=
  gL_ind (P := fun (x : Int × kM) => kW sc 0 kc_Bows_findOnRoad 0 5 [some (kr 48), some (kr b1), some (kI x2), some (kI x3), some (kI x4), some (kI x.1)] [] (hH x.2) Q) (q := (fun r => Q none (hH r))) (fun x t hf hq => b_Bows_findOnRoad_5b b1 hb1 x2 x3 x4 x.1 x.2 t hf hq) gF (x5, s) t hf hq
def f_Bows_findOnRoad (b1 : Nat) (x2 : Int) (x3 : Int) (s : kM) : Option (kM) :=
  f_Bows_findOnRoad_5 b1 x2 x3 (s 48 0) x2 s
set_option maxRecDepth 8000 in
theorem c_Bows_findOnRoad {sc : List Int} (b1 : Nat) (hb1 : tT b1 = true) (x2 : Int) (x3 : Int) (s : kM) (t : kM) (hf : f_Bows_findOnRoad b1 x2 x3 s = some t) : kR sc 0 km_Bows_findOnRoad [kr 48, kr b1, kI x2, kI x3] (hH s) none (hH t) := by
  unfold f_Bows_findOnRoad at hf
  refine kR.start rfl ?_
  show kW sc 0 kc_Bows_findOnRoad 0 0 [some (kr 48), some (kr b1), some (kI x2), some (kI x3), none, none] [] (hH s) _
  have hq : (fun (r : Option kV) (g : kH) => r = none ∧ g = hH t) none (hH t) := ⟨rfl, rfl⟩
  refine kw_step rfl rfl rfl rfl ?_
  refine kw_get rfl (hH_O (rfl : kotab 48 = some kWo)) rfl ?_
  refine kw_step (L' := [some (kr 48), some (kr b1), some (kI x2), some (kI x3), some (kI (s 48 0)), none]) rfl rfl rfl rfl ?_
  refine kw_step rfl rfl rfl rfl ?_
  refine kw_step (L' := [some (kr 48), some (kr b1), some (kI x2), some (kI x3), some (kI (s 48 0)), some (kI x2)]) rfl rfl rfl rfl ?_
  exact kW_le (L' := [some (kr 48), some (kr b1), some (kI x2), some (kI x3), some (kI (s 48 0)), some (kI x2)]) ⟨Or.inr rfl, Or.inr rfl, Or.inr rfl, Or.inr rfl, Or.inr rfl, Or.inr rfl, trivial⟩ (b_Bows_findOnRoad_5 b1 hb1 x2 x3 (s 48 0) x2 s _ hf hq)
def f_Bows_find_22 (b1 : Nat) (x3 : Int) (y0 : Int) (y1 : Int) (s : kM) : Option ((Int × Int × kM) ⊕ (kM)) :=
  (f_Town_roadStart b1 x3 s).bind fun q1 => (f_Town_roadEnd b1 x3 s).bind fun q2 => (f_Bows_findOnRoad b1 q1 q2 s).bind fun q3 => some (.inl ((wI (y0 + y1)), (wI (x3 + 1)), q3))
set_option maxRecDepth 8000 in
theorem b_Bows_find_22 {sc : List Int} {Q : Option kV → kH → Prop} (b1 : Nat) (hb1 : tT b1 = true) (x3 : Int) (y0 : Int) (y1 : Int) (s : kM) (t : (Int × Int × kM) ⊕ (kM)) (hf : f_Bows_find_22 b1 x3 y0 y1 s = some t) (hq : (gE (fun x => kW sc 1 kc_Bows_find 0 7 [some (kr 48), some (kr b1), some (kI x.1), some (kI x.2.1)] [] (hH x.2.2) Q) (fun r => Q none (hH r))) t) : kW sc 1 kc_Bows_find 0 22 [some (kr 48), some (kr b1), none, some (kI x3)] [kI y1, kI y0] (hH s) Q := by
  unfold f_Bows_find_22 at hf
  refine kw_step rfl rfl rfl rfl ?_
  refine kw_step (L' := [some (kr 48), some (kr b1), some (kI (wI (y0 + y1))), some (kI x3)]) rfl rfl rfl rfl ?_
  refine kw_step rfl rfl rfl rfl ?_
  refine kw_step rfl rfl rfl rfl ?_
  refine kw_step rfl rfl rfl rfl ?_
  refine kw_step rfl rfl rfl rfl ?_
  obtain ⟨q1, hq1, hf⟩ := gbind hf
  refine kw_callV (vs := [kI x3]) rfl rfl rfl ⟨rfl, Nat.le_of_ble_eq_true rfl, Nat.le_of_ble_eq_true rfl, by decide⟩ (hH_O (tT_0 hb1)) (c_Town_roadStart b1 hb1 x3 s _ hq1) (Nat.le_of_ble_eq_true rfl) ?_
  refine kw_step rfl rfl rfl rfl ?_
  refine kw_step rfl rfl rfl rfl ?_
  obtain ⟨q2, hq2, hf⟩ := gbind hf
  refine kw_callV (vs := [kI x3]) rfl rfl rfl ⟨rfl, Nat.le_of_ble_eq_true rfl, Nat.le_of_ble_eq_true rfl, by decide⟩ (hH_O (tT_0 hb1)) (c_Town_roadEnd b1 hb1 x3 s _ hq2) (Nat.le_of_ble_eq_true rfl) ?_
  obtain ⟨q3, hq3, hf⟩ := gbind hf
  refine kw_callV (vs := [kr b1, kI q1, kI q2]) rfl rfl rfl ⟨rfl, Nat.le_of_ble_eq_true rfl, Nat.le_of_ble_eq_true rfl, by decide⟩ (hH_O (rfl : kotab 48 = some kWo)) (c_Bows_findOnRoad b1 hb1 q1 q2 s _ hq3) (Nat.le_of_ble_eq_true rfl) ?_
  refine kw_step (L' := [some (kr 48), some (kr b1), some (kI (wI (y0 + y1))), some (kI (wI (x3 + 1)))]) rfl rfl rfl rfl ?_
  refine kw_goto rfl rfl ?_
  cases hf
  exact kW_le (L' := [some (kr 48), some (kr b1), some (kI (wI (y0 + y1))), some (kI (wI (x3 + 1)))]) ⟨Or.inr rfl, Or.inr rfl, Or.inr rfl, Or.inr rfl, trivial⟩ hq
def f_Bows_find_7b (b1 : Nat) (x2 : Int) (x3 : Int) (s : kM) : Option ((Int × Int × kM) ⊕ (kM)) :=
  if (s b1 0) ≤ x3 then (gLet (gU s 48 0 (wI ((s 48 0) + x2))) fun s2 => some (.inr s2)) else ((f_Town_roadStart b1 x3 s).bind fun q5 => (f_Town_roadEnd b1 x3 s).bind fun q6 => if q5 = q6 then (f_Bows_find_22 b1 x3 x2 1 s) else (f_Bows_find_22 b1 x3 x2 0 s))
set_option maxRecDepth 8000 in
theorem b_Bows_find_7b {sc : List Int} {Q : Option kV → kH → Prop} (b1 : Nat) (hb1 : tT b1 = true) (x2 : Int) (x3 : Int) (s : kM) (t : (Int × Int × kM) ⊕ (kM)) (hf : f_Bows_find_7b b1 x2 x3 s = some t) (hq : (gE (fun x => kW sc 1 kc_Bows_find 0 7 [some (kr 48), some (kr b1), some (kI x.1), some (kI x.2.1)] [] (hH x.2.2) Q) (fun r => Q none (hH r))) t) : kW sc 1 kc_Bows_find 0 7 [some (kr 48), some (kr b1), some (kI x2), some (kI x3)] [] (hH s) Q := by
  unfold f_Bows_find_7b at hf
  refine kw_step rfl rfl rfl rfl ?_
  refine kw_step rfl rfl rfl rfl ?_
  refine kw_get rfl (hH_O (tT_0 hb1)) rfl ?_
  refine kw_icmp_ge rfl rfl (fun c1 => ?_) (fun c1 => ?_)
  · have hf := gift c1 hf
    refine kw_step rfl rfl rfl rfl ?_
    refine kw_step rfl rfl rfl rfl ?_
    refine kw_get rfl (hH_O (rfl : kotab 48 = some kWo)) rfl ?_
    refine kw_step rfl rfl rfl rfl ?_
    refine kw_step rfl rfl rfl rfl ?_
    obtain ⟨s2, ee3, hf⟩ := gbL hf
    refine kw_putH rfl (rfl : kotab 48 = some kWo) rfl rfl rfl (Nat.le_of_ble_eq_true rfl) rfl ee3 ?_
    cases hf
    exact kw_ret rfl rfl rfl hq
  · have hf := giff c1 hf
    refine kw_step rfl rfl rfl rfl ?_
    refine kw_step rfl rfl rfl rfl ?_
    refine kw_step rfl rfl rfl rfl ?_
    obtain ⟨q5, hq5, hf⟩ := gbind hf
    refine kw_callV (vs := [kI x3]) rfl rfl rfl ⟨rfl, Nat.le_of_ble_eq_true rfl, Nat.le_of_ble_eq_true rfl, by decide⟩ (hH_O (tT_0 hb1)) (c_Town_roadStart b1 hb1 x3 s _ hq5) (Nat.le_of_ble_eq_true rfl) ?_
    refine kw_step rfl rfl rfl rfl ?_
    refine kw_step rfl rfl rfl rfl ?_
    obtain ⟨q6, hq6, hf⟩ := gbind hf
    refine kw_callV (vs := [kI x3]) rfl rfl rfl ⟨rfl, Nat.le_of_ble_eq_true rfl, Nat.le_of_ble_eq_true rfl, by decide⟩ (hH_O (tT_0 hb1)) (c_Town_roadEnd b1 hb1 x3 s _ hq6) (Nat.le_of_ble_eq_true rfl) ?_
    refine kw_icmp_ne rfl rfl (fun c7 => ?_) (fun c7 => ?_)
    · have hf := giff c7 hf
      refine kw_step rfl rfl rfl rfl ?_
      exact kW_le (L' := [some (kr 48), some (kr b1), none, some (kI x3)]) ⟨Or.inr rfl, Or.inr rfl, Or.inl rfl, Or.inr rfl, trivial⟩ (b_Bows_find_22 b1 hb1 x3 x2 0 s _ hf hq)
    · have hf := gift c7 hf
      refine kw_step rfl rfl rfl rfl ?_
      refine kw_goto rfl rfl ?_
      exact kW_le (L' := [some (kr 48), some (kr b1), none, some (kI x3)]) ⟨Or.inr rfl, Or.inr rfl, Or.inl rfl, Or.inr rfl, trivial⟩ (b_Bows_find_22 b1 hb1 x3 x2 1 s _ hf hq)
def f_Bows_find_7 (b1 : Nat) (x2 : Int) (x3 : Int) (s : kM) : Option (kM) :=
  gL (fun (x : Int × Int × kM) => f_Bows_find_7b b1 x.1 x.2.1 x.2.2) gF (x2, x3, s)
theorem b_Bows_find_7 {sc : List Int} {Q : Option kV → kH → Prop} (b1 : Nat) (hb1 : tT b1 = true) (x2 : Int) (x3 : Int) (s : kM) (t : kM) (hf : f_Bows_find_7 b1 x2 x3 s = some t) (hq : (fun r => Q none (hH r)) t) : kW sc 1 kc_Bows_find 0 7 [some (kr 48), some (kr b1), some (kI x2), some (kI x3)] [] (hH s) Q :=
  gL_ind (P := fun (x : Int × Int × kM) => kW sc 1 kc_Bows_find 0 7 [some (kr 48), some (kr b1), some (kI x.1), some (kI x.2.1)] [] (hH x.2.2) Q) (q := (fun r => Q none (hH r))) (fun x t hf hq => b_Bows_find_7b b1 hb1 x.1 x.2.1 x.2.2 t hf hq) gF (x2, x3, s) t hf hq
def f_Bows_find (b1 : Nat) (s : kM) : Option (kM) :=
  gLet (gU s 48 0 0) fun s1 => f_Bows_find_7 b1 0 0 s1
set_option maxRecDepth 8000 in
theorem c_Bows_find {sc : List Int} (b1 : Nat) (hb1 : tT b1 = true) (s : kM) (t : kM) (hf : f_Bows_find b1 s = some t) : kR sc 1 km_Bows_find [kr 48, kr b1] (hH s) none (hH t) := by
  unfold f_Bows_find at hf
  refine kR.start rfl ?_
  show kW sc 1 kc_Bows_find 0 0 [some (kr 48), some (kr b1), none, none] [] (hH s) _
  have hq : (fun (r : Option kV) (g : kH) => r = none ∧ g = hH t) none (hH t) := ⟨rfl, rfl⟩
  refine kw_step rfl rfl rfl rfl ?_
  refine kw_step rfl rfl rfl rfl ?_
  obtain ⟨s1, ee2, hf⟩ := gbL hf
  refine kw_putH rfl (rfl : kotab 48 = some kWo) rfl rfl rfl (Nat.le_of_ble_eq_true rfl) rfl ee2 ?_
  refine kw_step rfl rfl rfl rfl ?_
  refine kw_step (L' := [some (kr 48), some (kr b1), some (kI 0), none]) rfl rfl rfl rfl ?_
  refine kw_step rfl rfl rfl rfl ?_
  refine kw_step (L' := [some (kr 48), some (kr b1), some (kI 0), some (kI 0)]) rfl rfl rfl rfl ?_
  exact kW_le (L' := [some (kr 48), some (kr b1), some (kI 0), some (kI 0)]) ⟨Or.inr rfl, Or.inr rfl, Or.inr rfl, Or.inr rfl, trivial⟩ (b_Bows_find_7 b1 hb1 0 0 s1 _ hf hq)
def f_KT_place (x1 : Int) (x2 : Int) (s : kM) : Option (Int × kM) :=
  (f_Town_hasPlace 4 x1 s).bind fun q1 => if q1 = 0 then (some ((-1), s)) else (if x2 = 0 then ((gI 22 x1).bind fun j4 => some ((kshr (s 5 j4) 1), s)) else if x2 = 1 then ((gI 22 x1).bind fun j7 => some ((kand (s 5 j7) 1), s)) else if x2 = 2 then ((f_Town_roadOf 4 x1 s).bind fun q10 => some (q10, s)) else if x2 = 3 then ((gI 22 x1).bind fun j12 => some ((s 7 j12), s)) else if x2 = 4 then ((f_Bows_find 4 s).bind fun q15 => (gI 22 x1).bind fun j17 => some ((q15 49 j17), q15)) else (some ((-1), s)))
set_option maxRecDepth 8000 in
theorem c_KT_place {sc : List Int} (x1 : Int) (x2 : Int) (s : kM) (t : Int × kM) (hf : f_KT_place x1 x2 s = some t) : kR sc 2 km_KT_place [kr 0, kI x1, kI x2] (hH s) (some (kI t.1)) (hH t.2) := by
  unfold f_KT_place at hf
  refine kR.start rfl ?_
  show kW sc 2 kc_KT_place 1 0 [some (kr 0), some (kI x1), some (kI x2), none] [] (hH s) _
  have hq : (fun (r : Option kV) (g : kH) => r = some (kI t.1) ∧ g = hH t.2) (some (kI t.1)) (hH t.2) := ⟨rfl, rfl⟩
  refine kw_step rfl rfl rfl rfl ?_
  refine kw_get rfl (hH_O (rfl : kotab 0 = some kKo)) rfl ?_
  refine kw_get rfl (hH_O (tS_0 (b := 3) rfl)) rfl ?_
  refine kw_step (L' := [some (kr 0), some (kI x1), some (kI x2), some (kr 4)]) rfl rfl rfl rfl ?_
  refine kw_step rfl rfl rfl rfl ?_
  refine kw_step rfl rfl rfl rfl ?_
  obtain ⟨q1, hq1, hf⟩ := gbind hf
  refine kw_callV (vs := [kI x1]) rfl rfl rfl ⟨rfl, Nat.le_of_ble_eq_true rfl, Nat.le_of_ble_eq_true rfl, by decide⟩ (hH_O (tT_0 (b := 4) rfl)) (c_Town_hasPlace 4 (rfl : tT 4 = true) x1 s _ hq1) (Nat.le_of_ble_eq_true rfl) ?_
  refine kw_if_ne rfl rfl (fun c2 => ?_) (fun c2 => ?_)
  · have hf := giff c2 hf
    refine kw_step rfl rfl rfl rfl ?_
    by_cases c3 : x2 = 0
    · have hf := gift c3 hf
      refine kw_tsw_at rfl c3 rfl rfl rfl ?_
      refine kw_step rfl rfl rfl rfl ?_
      refine kw_get rfl (hH_O (tT_0 (b := 4) rfl)) rfl ?_
      refine kw_step rfl rfl rfl rfl ?_
      obtain ⟨j4, i5, hf⟩ := gbI hf
      refine kw_iald rfl (hH_A (rfl : ktab 5 = some (0, 22))) i5.1 i5.2.1 i5.2.2 ?_
      refine kw_step rfl rfl rfl rfl ?_
      refine kw_step rfl rfl rfl rfl ?_
      cases hf
      exact kw_ret rfl rfl rfl hq
    have hf := giff c3 hf
    by_cases c6 : x2 = 1
    · have hf := gift c6 hf
      refine kw_tsw_at rfl c6 rfl rfl rfl ?_
      refine kw_step rfl rfl rfl rfl ?_
      refine kw_get rfl (hH_O (tT_0 (b := 4) rfl)) rfl ?_
      refine kw_step rfl rfl rfl rfl ?_
      obtain ⟨j7, i8, hf⟩ := gbI hf
      refine kw_iald rfl (hH_A (rfl : ktab 5 = some (0, 22))) i8.1 i8.2.1 i8.2.2 ?_
      refine kw_step rfl rfl rfl rfl ?_
      refine kw_step rfl rfl rfl rfl ?_
      cases hf
      exact kw_ret rfl rfl rfl hq
    have hf := giff c6 hf
    by_cases c9 : x2 = 2
    · have hf := gift c9 hf
      refine kw_tsw_at rfl c9 rfl rfl rfl ?_
      refine kw_step rfl rfl rfl rfl ?_
      refine kw_step rfl rfl rfl rfl ?_
      obtain ⟨q10, hq10, hf⟩ := gbind hf
      refine kw_callV (vs := [kI x1]) rfl rfl rfl ⟨rfl, Nat.le_of_ble_eq_true rfl, Nat.le_of_ble_eq_true rfl, by decide⟩ (hH_O (tT_0 (b := 4) rfl)) (c_Town_roadOf 4 (rfl : tT 4 = true) x1 s _ hq10) (Nat.le_of_ble_eq_true rfl) ?_
      cases hf
      exact kw_ret rfl rfl rfl hq
    have hf := giff c9 hf
    by_cases c11 : x2 = 3
    · have hf := gift c11 hf
      refine kw_tsw_at rfl c11 rfl rfl rfl ?_
      refine kw_step rfl rfl rfl rfl ?_
      refine kw_get rfl (hH_O (tT_0 (b := 4) rfl)) rfl ?_
      refine kw_step rfl rfl rfl rfl ?_
      obtain ⟨j12, i13, hf⟩ := gbI hf
      refine kw_iald rfl (hH_A (rfl : ktab 7 = some (0, 22))) i13.1 i13.2.1 i13.2.2 ?_
      cases hf
      exact kw_ret rfl rfl rfl hq
    have hf := giff c11 hf
    by_cases c14 : x2 = 4
    · have hf := gift c14 hf
      refine kw_tsw_at rfl c14 rfl rfl rfl ?_
      refine kw_step rfl rfl rfl rfl ?_
      refine kw_get rfl (hH_O (rfl : kotab 0 = some kKo)) rfl ?_
      refine kw_step rfl rfl rfl rfl ?_
      obtain ⟨q15, hq15, hf⟩ := gbind hf
      refine kw_callV (vs := [kr 4]) rfl rfl rfl ⟨rfl, Nat.le_of_ble_eq_true rfl, Nat.le_of_ble_eq_true rfl, by decide⟩ (hH_O (rfl : kotab 48 = some kWo)) (c_Bows_find 4 (rfl : tT 4 = true) s _ hq15) (Nat.le_of_ble_eq_true rfl) ?_
      refine kw_step rfl rfl rfl rfl ?_
      refine kw_get rfl (hH_O (rfl : kotab 0 = some kKo)) rfl ?_
      refine kw_get rfl (hH_O (rfl : kotab 48 = some kWo)) rfl ?_
      refine kw_step rfl rfl rfl rfl ?_
      obtain ⟨j17, i18, hf⟩ := gbI hf
      refine kw_iald rfl (hH_A (rfl : ktab 49 = some (0, 22))) i18.1 i18.2.1 i18.2.2 ?_
      cases hf
      exact kw_ret rfl rfl rfl hq
    have hf := giff c14 hf
    refine kw_tsw_out rfl (by omega) rfl ?_
    refine kw_step rfl rfl rfl rfl ?_
    cases hf
    exact kw_ret rfl rfl rfl hq
  · have hf := gift c2 hf
    refine kw_step rfl rfl rfl rfl ?_
    cases hf
    exact kw_ret rfl rfl rfl hq
def f_KT_bridge (x1 : Int) (x2 : Int) (s : kM) : Option (Int) :=
  (f_Town_has 4 x1 s).bind fun q1 => if q1 = 0 then (some (-1)) else (if x2 = 0 then ((gI 11 x1).bind fun j4 => some (s 6 j4)) else if x2 = 1 then ((f_Town_overAt 4 x1 s).bind fun q7 => some q7) else if x2 = 2 then ((f_Town_underAt 4 x1 s).bind fun q9 => some q9) else (some (-1)))
set_option maxRecDepth 8000 in
theorem c_KT_bridge {sc : List Int} (x1 : Int) (x2 : Int) (s : kM) (t : Int) (hf : f_KT_bridge x1 x2 s = some t) : kR sc 1 km_KT_bridge [kr 0, kI x1, kI x2] (hH s) (some (kI t)) (hH s) := by
  unfold f_KT_bridge at hf
  refine kR.start rfl ?_
  show kW sc 1 kc_KT_bridge 1 0 [some (kr 0), some (kI x1), some (kI x2), none] [] (hH s) _
  have hq : (fun (r : Option kV) (g : kH) => r = some (kI t) ∧ g = hH s) (some (kI t)) (hH s) := ⟨rfl, rfl⟩
  refine kw_step rfl rfl rfl rfl ?_
  refine kw_get rfl (hH_O (rfl : kotab 0 = some kKo)) rfl ?_
  refine kw_get rfl (hH_O (tS_0 (b := 3) rfl)) rfl ?_
  refine kw_step (L' := [some (kr 0), some (kI x1), some (kI x2), some (kr 4)]) rfl rfl rfl rfl ?_
  refine kw_step rfl rfl rfl rfl ?_
  refine kw_step rfl rfl rfl rfl ?_
  obtain ⟨q1, hq1, hf⟩ := gbind hf
  refine kw_callV (vs := [kI x1]) rfl rfl rfl ⟨rfl, Nat.le_of_ble_eq_true rfl, Nat.le_of_ble_eq_true rfl, by decide⟩ (hH_O (tT_0 (b := 4) rfl)) (c_Town_has 4 (rfl : tT 4 = true) x1 s _ hq1) (Nat.le_of_ble_eq_true rfl) ?_
  refine kw_if_ne rfl rfl (fun c2 => ?_) (fun c2 => ?_)
  · have hf := giff c2 hf
    refine kw_step rfl rfl rfl rfl ?_
    by_cases c3 : x2 = 0
    · have hf := gift c3 hf
      refine kw_tsw_at rfl c3 rfl rfl rfl ?_
      refine kw_step rfl rfl rfl rfl ?_
      refine kw_get rfl (hH_O (tT_0 (b := 4) rfl)) rfl ?_
      refine kw_step rfl rfl rfl rfl ?_
      obtain ⟨j4, i5, hf⟩ := gbI hf
      refine kw_iald rfl (hH_A (rfl : ktab 6 = some (0, 11))) i5.1 i5.2.1 i5.2.2 ?_
      cases hf
      exact kw_ret rfl rfl rfl hq
    have hf := giff c3 hf
    by_cases c6 : x2 = 1
    · have hf := gift c6 hf
      refine kw_tsw_at rfl c6 rfl rfl rfl ?_
      refine kw_step rfl rfl rfl rfl ?_
      refine kw_step rfl rfl rfl rfl ?_
      obtain ⟨q7, hq7, hf⟩ := gbind hf
      refine kw_callV (vs := [kI x1]) rfl rfl rfl ⟨rfl, Nat.le_of_ble_eq_true rfl, Nat.le_of_ble_eq_true rfl, by decide⟩ (hH_O (tT_0 (b := 4) rfl)) (c_Town_overAt 4 (rfl : tT 4 = true) x1 s _ hq7) (Nat.le_of_ble_eq_true rfl) ?_
      cases hf
      exact kw_ret rfl rfl rfl hq
    have hf := giff c6 hf
    by_cases c8 : x2 = 2
    · have hf := gift c8 hf
      refine kw_tsw_at rfl c8 rfl rfl rfl ?_
      refine kw_step rfl rfl rfl rfl ?_
      refine kw_step rfl rfl rfl rfl ?_
      obtain ⟨q9, hq9, hf⟩ := gbind hf
      refine kw_callV (vs := [kI x1]) rfl rfl rfl ⟨rfl, Nat.le_of_ble_eq_true rfl, Nat.le_of_ble_eq_true rfl, by decide⟩ (hH_O (tT_0 (b := 4) rfl)) (c_Town_underAt 4 (rfl : tT 4 = true) x1 s _ hq9) (Nat.le_of_ble_eq_true rfl) ?_
      cases hf
      exact kw_ret rfl rfl rfl hq
    have hf := giff c8 hf
    refine kw_tsw_out rfl (by omega) rfl ?_
    refine kw_step rfl rfl rfl rfl ?_
    cases hf
    exact kw_ret rfl rfl rfl hq
  · have hf := gift c2 hf
    refine kw_step rfl rfl rfl rfl ?_
    cases hf
    exact kw_ret rfl rfl rfl hq
def f_KT_land (x1 : Int) (s : kM) : Option (Int × kM) :=
  if (s 4 0) = 0 then (some ((-1), s)) else ((f_Land_survey 17 4 s).bind fun q2 => if x1 = 0 then (some ((q2 17 0), q2)) else if x1 = 1 then (some ((q2 17 1), q2)) else if x1 = 2 then (some ((q2 17 2), q2)) else if x1 = 3 then (some ((q2 17 3), q2)) else (some ((-1), q2)))
set_option maxRecDepth 8000 in
theorem c_KT_land {sc : List Int} (x1 : Int) (s : kM) (t : Int × kM) (hf : f_KT_land x1 s = some t) : kR sc 4 km_KT_land [kr 0, kI x1] (hH s) (some (kI t.1)) (hH t.2) := by
  unfold f_KT_land at hf
  refine kR.start rfl ?_
  show kW sc 4 kc_KT_land 1 0 [some (kr 0), some (kI x1)] [] (hH s) _
  have hq : (fun (r : Option kV) (g : kH) => r = some (kI t.1) ∧ g = hH t.2) (some (kI t.1)) (hH t.2) := ⟨rfl, rfl⟩
  refine kw_step rfl rfl rfl rfl ?_
  refine kw_get rfl (hH_O (rfl : kotab 0 = some kKo)) rfl ?_
  refine kw_get rfl (hH_O (tS_0 (b := 3) rfl)) rfl ?_
  refine kw_get rfl (hH_O (tT_0 (b := 4) rfl)) rfl ?_
  refine kw_if_ne rfl rfl (fun c1 => ?_) (fun c1 => ?_)
  · have hf := giff c1 hf
    refine kw_step rfl rfl rfl rfl ?_
    refine kw_get rfl (hH_O (rfl : kotab 0 = some kKo)) rfl ?_
    refine kw_step rfl rfl rfl rfl ?_
    refine kw_get rfl (hH_O (rfl : kotab 0 = some kKo)) rfl ?_
    refine kw_get rfl (hH_O (tS_0 (b := 3) rfl)) rfl ?_
    obtain ⟨q2, hq2, hf⟩ := gbind hf
    refine kw_callV (vs := [kr 4]) rfl rfl rfl ⟨rfl, Nat.le_of_ble_eq_true rfl, Nat.le_of_ble_eq_true rfl, by decide⟩ (hH_O (tL_0 (b := 17) rfl)) (c_Land_survey 17 4 (rfl : tL 17 = true) (rfl : tT 4 = true) s _ hq2) (Nat.le_of_ble_eq_true rfl) ?_
    refine kw_step rfl rfl rfl rfl ?_
    by_cases c4 : x1 = 0
    · have hf := gift c4 hf
      refine kw_tsw_at rfl c4 rfl rfl rfl ?_
      refine kw_step rfl rfl rfl rfl ?_
      refine kw_get rfl (hH_O (rfl : kotab 0 = some kKo)) rfl ?_
      refine kw_get rfl (hH_O (tL_0 (b := 17) rfl)) rfl ?_
      cases hf
      exact kw_ret rfl rfl rfl hq
    have hf := giff c4 hf
    by_cases c5 : x1 = 1
    · have hf := gift c5 hf
      refine kw_tsw_at rfl c5 rfl rfl rfl ?_
      refine kw_step rfl rfl rfl rfl ?_
      refine kw_get rfl (hH_O (rfl : kotab 0 = some kKo)) rfl ?_
      refine kw_get rfl (hH_O (tL_0 (b := 17) rfl)) rfl ?_
      cases hf
      exact kw_ret rfl rfl rfl hq
    have hf := giff c5 hf
    by_cases c6 : x1 = 2
    · have hf := gift c6 hf
      refine kw_tsw_at rfl c6 rfl rfl rfl ?_
      refine kw_step rfl rfl rfl rfl ?_
      refine kw_get rfl (hH_O (rfl : kotab 0 = some kKo)) rfl ?_
      refine kw_get rfl (hH_O (tL_0 (b := 17) rfl)) rfl ?_
      cases hf
      exact kw_ret rfl rfl rfl hq
    have hf := giff c6 hf
    by_cases c7 : x1 = 3
    · have hf := gift c7 hf
      refine kw_tsw_at rfl c7 rfl rfl rfl ?_
      refine kw_step rfl rfl rfl rfl ?_
      refine kw_get rfl (hH_O (rfl : kotab 0 = some kKo)) rfl ?_
      refine kw_get rfl (hH_O (tL_0 (b := 17) rfl)) rfl ?_
      cases hf
      exact kw_ret rfl rfl rfl hq
    have hf := giff c7 hf
    refine kw_tsw_out rfl (by omega) rfl ?_
    refine kw_step rfl rfl rfl rfl ?_
    cases hf
    exact kw_ret rfl rfl rfl hq
  · have hf := gift c1 hf
    refine kw_step rfl rfl rfl rfl ?_
    cases hf
    exact kw_ret rfl rfl rfl hq
def f_Land_partOfMove (x0 : Int) (x1 : Int) (s : kM) : Option (Int) :=
  if x1 ≤ 0 then (some (kand (kshr x0 (wI (4 * (wI (3 - x1))))) 15)) else (if (kand (kshr x0 (wI (4 * (wI (3 - x1))))) 15) = 15 then (some (-1)) else (some (kand (kshr x0 (wI (4 * (wI (3 - x1))))) 15)))
set_option maxRecDepth 8000 in
theorem c_Land_partOfMove {sc : List Int} (x0 : Int) (x1 : Int) (s : kM) (t : Int) (hf : f_Land_partOfMove x0 x1 s = some t) : kR sc 0 km_Land_partOfMove [kI x0, kI x1] (hH s) (some (kI t)) (hH s) := by
  unfold f_Land_partOfMove at hf
  refine kR.start rfl ?_
  show kW sc 0 kc_Land_partOfMove 1 0 [some (kI x0), some (kI x1), none] [] (hH s) _
  have hq : (fun (r : Option kV) (g : kH) => r = some (kI t) ∧ g = hH s) (some (kI t)) (hH s) := ⟨rfl, rfl⟩
  refine kw_step rfl rfl rfl rfl ?_
  refine kw_step rfl rfl rfl rfl ?_
  refine kw_step rfl rfl rfl rfl ?_
  refine kw_step rfl rfl rfl rfl ?_
  refine kw_step rfl rfl rfl rfl ?_
  refine kw_step rfl rfl rfl rfl ?_
  refine kw_step rfl rfl rfl rfl ?_
  refine kw_step rfl rfl rfl rfl ?_
  refine kw_step rfl rfl rfl rfl ?_
  refine kw_step (L' := [some (kI x0), some (kI x1), some (kI (kand (kshr x0 (wI (4 * (wI (3 - x1))))) 15))]) rfl rfl rfl rfl ?_
  refine kw_step rfl rfl rfl rfl ?_
  refine kw_if_le rfl rfl (fun c1 => ?_) (fun c1 => ?_)
  · have hf := gift c1 hf
    refine kw_step rfl rfl rfl rfl ?_
    cases hf
    exact kw_ret rfl rfl rfl hq
  · have hf := giff c1 hf
    refine kw_step rfl rfl rfl rfl ?_
    refine kw_step rfl rfl rfl rfl ?_
    refine kw_icmp_ne rfl rfl (fun c2 => ?_) (fun c2 => ?_)
    · have hf := giff c2 hf
      refine kw_step rfl rfl rfl rfl ?_
      cases hf
      exact kw_ret rfl rfl rfl hq
    · have hf := gift c2 hf
      refine kw_step rfl rfl rfl rfl ?_
      refine kw_goto rfl rfl ?_
      cases hf
      exact kw_ret rfl rfl rfl hq
def f_Land_gone_38 (b0 : Nat) (x1 : Int) (x3 : Int) (y0 : Int) (y1 : Int) (s : kM) : Option ((Int × Int) ⊕ (Int)) :=
  some (.inl ((kor y0 y1), (wI (x3 + 1))))
set_option maxRecDepth 8000 in
theorem b_Land_gone_38 {sc : List Int} {Q : Option kV → kH → Prop} (b0 : Nat) (hb0 : tL b0 = true) (x1 : Int) (x3 : Int) (y0 : Int) (y1 : Int) (s : kM) (t : (Int × Int) ⊕ (Int)) (hf : f_Land_gone_38 b0 x1 x3 y0 y1 s = some t) (hq : (gE (fun x => kW sc 1 kc_Land_gone 1 20 [some (kr b0), some (kI x1), some (kI x.1), some (kI x.2), none] [] (hH s) Q) (fun r => Q (some (kI r)) (hH s))) t) : kW sc 1 kc_Land_gone 1 38 [some (kr b0), some (kI x1), none, some (kI x3), none] [kI y1, kI y0] (hH s) Q := by
  unfold f_Land_gone_38 at hf
  refine kw_step rfl rfl rfl rfl ?_
  refine kw_step (L' := [some (kr b0), some (kI x1), some (kI (kor y0 y1)), some (kI x3), none]) rfl rfl rfl rfl ?_
  refine kw_step (L' := [some (kr b0), some (kI x1), some (kI (kor y0 y1)), some (kI (wI (x3 + 1))), none]) rfl rfl rfl rfl ?_
  refine kw_goto rfl rfl ?_
  cases hf
  exact kW_le (L' := [some (kr b0), some (kI x1), some (kI (kor y0 y1)), some (kI (wI (x3 + 1))), none]) ⟨Or.inr rfl, Or.inr rfl, Or.inr rfl, Or.inr rfl, Or.inl rfl, trivial⟩ hq
def f_Land_gone_20b (b0 : Nat) (x1 : Int) (x2 : Int) (x3 : Int) (s : kM) : Option ((Int × Int) ⊕ (Int)) :=
  if 2 < x3 then (some (.inr x2)) else ((gI 48 x1).bind fun j2 => (f_Land_partOfMove (s (b0 + 1) j2) x3 s).bind fun q4 => if 0 ≤ q4 then (f_Land_gone_38 b0 x1 x3 x2 (kshl 1 q4) s) else (f_Land_gone_38 b0 x1 x3 x2 0 s))
set_option maxRecDepth 8000 in
theorem b_Land_gone_20b {sc : List Int} {Q : Option kV → kH → Prop} (b0 : Nat) (hb0 : tL b0 = true) (x1 : Int) (x2 : Int) (x3 : Int) (s : kM) (t : (Int × Int) ⊕ (Int)) (hf : f_Land_gone_20b b0 x1 x2 x3 s = some t) (hq : (gE (fun x => kW sc 1 kc_Land_gone 1 20 [some (kr b0), some (kI x1), some (kI x.1), some (kI x.2), none] [] (hH s) Q) (fun r => Q (some (kI r)) (hH s))) t) : kW sc 1 kc_Land_gone 1 20 [some (kr b0), some (kI x1), some (kI x2), some (kI x3), none] [] (hH s) Q := by
  unfold f_Land_gone_20b at hf
  refine kw_step rfl rfl rfl rfl ?_
  refine kw_step rfl rfl rfl rfl ?_
  refine kw_icmp_gt rfl rfl (fun c1 => ?_) (fun c1 => ?_)
  · have hf := gift c1 hf
    refine kw_step rfl rfl rfl rfl ?_
    cases hf
    exact kw_ret rfl rfl rfl hq
  · have hf := giff c1 hf
    refine kw_step rfl rfl rfl rfl ?_
    refine kw_get rfl (hH_O (tL_0 hb0)) rfl ?_
    refine kw_step rfl rfl rfl rfl ?_
    obtain ⟨j2, i3, hf⟩ := gbI hf
    refine kw_iald rfl (hH_A (tL_1 hb0)) i3.1 i3.2.1 i3.2.2 ?_
    refine kw_step rfl rfl rfl rfl ?_
    obtain ⟨q4, hq4, hf⟩ := gbind hf
    refine kw_callS (vs := [kI (s (b0 + 1) j2), kI x3]) rfl rfl rfl ⟨rfl, Nat.le_of_ble_eq_true rfl, Nat.le_of_ble_eq_true rfl, rfl⟩ (c_Land_partOfMove (s (b0 + 1) j2) x3 s _ hq4) (Nat.le_of_ble_eq_true rfl) ?_
    refine kw_step (L' := [some (kr b0), some (kI x1), some (kI x2), some (kI x3), some (kI q4)]) rfl rfl rfl rfl ?_
    refine kw_step rfl rfl rfl rfl ?_
    refine kw_step rfl rfl rfl rfl ?_
    refine kw_if_ge rfl rfl (fun c5 => ?_) (fun c5 => ?_)
    · have hf := gift c5 hf
      refine kw_step rfl rfl rfl rfl ?_
      refine kw_step rfl rfl rfl rfl ?_
      refine kw_step rfl rfl rfl rfl ?_
      exact kW_le (L' := [some (kr b0), some (kI x1), none, some (kI x3), none]) ⟨Or.inr rfl, Or.inr rfl, Or.inl rfl, Or.inr rfl, Or.inl rfl, trivial⟩ (b_Land_gone_38 b0 hb0 x1 x3 x2 (kshl 1 q4) s _ hf hq)
    · have hf := giff c5 hf
      refine kw_step rfl rfl rfl rfl ?_
      refine kw_goto rfl rfl ?_
      exact kW_le (L' := [some (kr b0), some (kI x1), none, some (kI x3), none]) ⟨Or.inr rfl, Or.inr rfl, Or.inl rfl, Or.inr rfl, Or.inl rfl, trivial⟩ (b_Land_gone_38 b0 hb0 x1 x3 x2 0 s _ hf hq)
def f_Land_gone_20 (b0 : Nat) (x1 : Int) (x2 : Int) (x3 : Int) (s : kM) : Option (Int) :=
  gL (fun (x : Int × Int) => f_Land_gone_20b b0 x1 x.1 x.2 s) gF (x2, x3)
theorem b_Land_gone_20 {sc : List Int} {Q : Option kV → kH → Prop} (b0 : Nat) (hb0 : tL b0 = true) (x1 : Int) (x2 : Int) (x3 : Int) (s : kM) (t : Int) (hf : f_Land_gone_20 b0 x1 x2 x3 s = some t) (hq : (fun r => Q (some (kI r)) (hH s)) t) : kW sc 1 kc_Land_gone 1 20 [some (kr b0), some (kI x1), some (kI x2), some (kI x3), none] [] (hH s) Q :=
  gL_ind (P := fun (x : Int × Int) => kW sc 1 kc_Land_gone 1 20 [some (kr b0), some (kI x1), some (kI x.1), some (kI x.2), none] [] (hH s) Q) (q := (fun r => Q (some (kI r)) (hH s))) (fun x t hf hq => b_Land_gone_20b b0 hb0 x1 x.1 x.2 s t hf hq) gF (x2, x3) t hf hq
def f_Land_gone (b0 : Nat) (x1 : Int) (s : kM) : Option (Int) :=
  if x1 < 0 then (some 0) else (if (s b0 6) ≤ x1 then (some 0) else ((gI 48 x1).bind fun j3 => (f_Land_partOfMove (s (b0 + 1) j3) 0 s).bind fun q5 => if q5 = 3 then (some 0) else (f_Land_gone_20 b0 x1 0 1 s)))
set_option maxRecDepth 8000 in
theorem c_Land_gone {sc : List Int} (b0 : Nat) (hb0 : tL b0 = true) (x1 : Int) (s : kM) (t : Int) (hf : f_Land_gone b0 x1 s = some t) : kR sc 1 km_Land_gone [kr b0, kI x1] (hH s) (some (kI t)) (hH s) := by
  unfold f_Land_gone at hf
  refine kR.start rfl ?_
  show kW sc 1 kc_Land_gone 1 0 [some (kr b0), some (kI x1), none, none, none] [] (hH s) _
  have hq : (fun (r : Option kV) (g : kH) => r = some (kI t) ∧ g = hH s) (some (kI t)) (hH s) := ⟨rfl, rfl⟩
  refine kw_step rfl rfl rfl rfl ?_
  refine kw_step (L' := [some (kr b0), some (kI x1), some (kI 0), none, none]) rfl rfl rfl rfl ?_
  refine kw_step rfl rfl rfl rfl ?_
  refine kw_if_lt rfl rfl (fun c1 => ?_) (fun c1 => ?_)
  · have hf := gift c1 hf
    refine kw_step rfl rfl rfl rfl ?_
    cases hf
    exact kw_ret rfl rfl rfl hq
  · have hf := giff c1 hf
    refine kw_step rfl rfl rfl rfl ?_
    refine kw_step rfl rfl rfl rfl ?_
    refine kw_get rfl (hH_O (tL_0 hb0)) rfl ?_
    refine kw_icmp_ge rfl rfl (fun c2 => ?_) (fun c2 => ?_)
    · have hf := gift c2 hf
      refine kw_step rfl rfl rfl rfl ?_
      cases hf
      exact kw_ret rfl rfl rfl hq
    · have hf := giff c2 hf
      refine kw_step rfl rfl rfl rfl ?_
      refine kw_get rfl (hH_O (tL_0 hb0)) rfl ?_
      refine kw_step rfl rfl rfl rfl ?_
      obtain ⟨j3, i4, hf⟩ := gbI hf
      refine kw_iald rfl (hH_A (tL_1 hb0)) i4.1 i4.2.1 i4.2.2 ?_
      refine kw_step rfl rfl rfl rfl ?_
      obtain ⟨q5, hq5, hf⟩ := gbind hf
      refine kw_callS (vs := [kI (s (b0 + 1) j3), kI 0]) rfl rfl rfl ⟨rfl, Nat.le_of_ble_eq_true rfl, Nat.le_of_ble_eq_true rfl, rfl⟩ (c_Land_partOfMove (s (b0 + 1) j3) 0 s _ hq5) (Nat.le_of_ble_eq_true rfl) ?_
      refine kw_step rfl rfl rfl rfl ?_
      refine kw_icmp_ne rfl rfl (fun c6 => ?_) (fun c6 => ?_)
      · have hf := giff c6 hf
        refine kw_step rfl rfl rfl rfl ?_
        refine kw_step (L' := [some (kr b0), some (kI x1), some (kI 0), some (kI 1), none]) rfl rfl rfl rfl ?_
        exact kW_le (L' := [some (kr b0), some (kI x1), some (kI 0), some (kI 1), none]) ⟨Or.inr rfl, Or.inr rfl, Or.inr rfl, Or.inr rfl, Or.inl rfl, trivial⟩ (b_Land_gone_20 b0 hb0 x1 0 1 s _ hf hq)
      · have hf := gift c6 hf
        refine kw_step rfl rfl rfl rfl ?_
        cases hf
        exact kw_ret rfl rfl rfl hq
def f_Town_drop_40 (b0 : Nat) (x1 : Int) (x2 : Int) (x3 : Int) (x4 : Int) (s : kM) : Option ((Int × Int × Int × kM) ⊕ (kM)) :=
  some (.inl (x2, x3, (wI (x4 + 1)), s))
set_option maxRecDepth 8000 in
theorem b_Town_drop_40 {sc : List Int} {Q : Option kV → kH → Prop} (b0 : Nat) (hb0 : tT b0 = true) (x1 : Int) (x2 : Int) (x3 : Int) (x4 : Int) (s : kM) (t : (Int × Int × Int × kM) ⊕ (kM)) (hf : f_Town_drop_40 b0 x1 x2 x3 x4 s = some t) (hq : (gE (fun x => kW sc 0 kc_Town_drop 0 6 [some (kr b0), some (kI x1), some (kI x.1), some (kI x.2.1), some (kI x.2.2.1)] [] (hH x.2.2.2) Q) (fun r => Q none (hH r))) t) : kW sc 0 kc_Town_drop 0 40 [some (kr b0), some (kI x1), some (kI x2), some (kI x3), some (kI x4)] [] (hH s) Q := by
  unfold f_Town_drop_40 at hf
  refine kw_step (L' := [some (kr b0), some (kI x1), some (kI x2), some (kI x3), some (kI (wI (x4 + 1)))]) rfl rfl rfl rfl ?_
  refine kw_goto rfl rfl ?_
  cases hf
  exact kW_le (L' := [some (kr b0), some (kI x1), some (kI x2), some (kI x3), some (kI (wI (x4 + 1)))]) ⟨Or.inr rfl, Or.inr rfl, Or.inr rfl, Or.inr rfl, Or.inr rfl, trivial⟩ hq
def f_Town_drop_38 (b0 : Nat) (x1 : Int) (x2 : Int) (x4 : Int) (y0 : Int) (y1 : Int) (s : kM) : Option ((Int × Int × Int × kM) ⊕ (kM)) :=
  f_Town_drop_40 b0 x1 x2 (wI (y0 + y1)) x4 s
set_option maxRecDepth 8000 in
theorem b_Town_drop_38 {sc : List Int} {Q : Option kV → kH → Prop} (b0 : Nat) (hb0 : tT b0 = true) (x1 : Int) (x2 : Int) (x4 : Int) (y0 : Int) (y1 : Int) (s : kM) (t : (Int × Int × Int × kM) ⊕ (kM)) (hf : f_Town_drop_38 b0 x1 x2 x4 y0 y1 s = some t) (hq : (gE (fun x => kW sc 0 kc_Town_drop 0 6 [some (kr b0), some (kI x1), some (kI x.1), some (kI x.2.1), some (kI x.2.2.1)] [] (hH x.2.2.2) Q) (fun r => Q none (hH r))) t) : kW sc 0 kc_Town_drop 0 38 [some (kr b0), some (kI x1), some (kI x2), none, some (kI x4)] [kI y1, kI y0] (hH s) Q := by
  unfold f_Town_drop_38 at hf
  refine kw_step rfl rfl rfl rfl ?_
  refine kw_step (L' := [some (kr b0), some (kI x1), some (kI x2), some (kI (wI (y0 + y1))), some (kI x4)]) rfl rfl rfl rfl ?_
  exact kW_le (L' := [some (kr b0), some (kI x1), some (kI x2), some (kI (wI (y0 + y1))), some (kI x4)]) ⟨Or.inr rfl, Or.inr rfl, Or.inr rfl, Or.inr rfl, Or.inr rfl, trivial⟩ (b_Town_drop_40 b0 hb0 x1 x2 (wI (y0 + y1)) x4 s _ hf hq)
def f_Town_drop_6b (b0 : Nat) (x1 : Int) (x2 : Int) (x3 : Int) (x4 : Int) (s : kM) : Option ((Int × Int × Int × kM) ⊕ (kM)) :=
  if (s b0 2) ≤ x4 then (gLet (gU s b0 1 x3) fun s2 => gLet (gU s2 b0 2 x2) fun s5 => some (.inr s5)) else ((gI 22 x4).bind fun j8 => if (kand (kshr x1 (kshr (s (b0 + 1) j8) 1)) 1) = 0 then ((gI 22 x4).bind fun j11 => (gI 22 x2).bind fun j13 => gLet (gU s (b0 + 1) j13 (s (b0 + 1) j11)) fun s15 => if (s15 b0 1) ≤ x4 then (f_Town_drop_38 b0 x1 (wI (x2 + 1)) x4 x3 0 s15) else (f_Town_drop_38 b0 x1 (wI (x2 + 1)) x4 x3 1 s15)) else (f_Town_drop_40 b0 x1 x2 x3 x4 s))
set_option maxRecDepth 8000 in
theorem b_Town_drop_6b {sc : List Int} {Q : Option kV → kH → Prop} (b0 : Nat) (hb0 : tT b0 = true) (x1 : Int) (x2 : Int) (x3 : Int) (x4 : Int) (s : kM) (t : (Int × Int × Int × kM) ⊕ (kM)) (hf : f_Town_drop_6b b0 x1 x2 x3 x4 s = some t) (hq : (gE (fun x => kW sc 0 kc_Town_drop 0 6 [some (kr b0), some (kI x1), some (kI x.1), some (kI x.2.1), some (kI x.2.2.1)] [] (hH x.2.2.2) Q) (fun r => Q none (hH r))) t) : kW sc 0 kc_Town_drop 0 6 [some (kr b0), some (kI x1), some (kI x2), some (kI x3), some (kI x4)] [] (hH s) Q := by
  unfold f_Town_drop_6b at hf
  refine kw_step rfl rfl rfl rfl ?_
  refine kw_step rfl rfl rfl rfl ?_
  refine kw_get rfl (hH_O (tT_0 hb0)) rfl ?_
  refine kw_icmp_ge rfl rfl (fun c1 => ?_) (fun c1 => ?_)
  · have hf := gift c1 hf
    refine kw_step rfl rfl rfl rfl ?_
    refine kw_step rfl rfl rfl rfl ?_
    obtain ⟨s2, ee3, hf⟩ := gbL hf
    refine kw_putH rfl (tT_0 hb0) rfl rfl rfl (Nat.le_of_ble_eq_true rfl) rfl ee3 ?_
    refine kw_step rfl rfl rfl rfl ?_
    refine kw_step rfl rfl rfl rfl ?_
    obtain ⟨s5, ee6, hf⟩ := gbL hf
    refine kw_putH rfl (tT_0 hb0) rfl rfl rfl (Nat.le_of_ble_eq_true rfl) rfl ee6 ?_
    cases hf
    exact kw_ret rfl rfl rfl hq
  · have hf := giff c1 hf
    refine kw_step rfl rfl rfl rfl ?_
    refine kw_step rfl rfl rfl rfl ?_
    refine kw_get rfl (hH_O (tT_0 hb0)) rfl ?_
    refine kw_step rfl rfl rfl rfl ?_
    obtain ⟨j8, i9, hf⟩ := gbI hf
    refine kw_iald rfl (hH_A (tT_1 hb0)) i9.1 i9.2.1 i9.2.2 ?_
    refine kw_step rfl rfl rfl rfl ?_
    refine kw_step rfl rfl rfl rfl ?_
    refine kw_step rfl rfl rfl rfl ?_
    refine kw_step rfl rfl rfl rfl ?_
    refine kw_step rfl rfl rfl rfl ?_
    refine kw_if_ne rfl rfl (fun c10 => ?_) (fun c10 => ?_)
    · have hf := giff c10 hf
      exact kW_le (L' := [some (kr b0), some (kI x1), some (kI x2), some (kI x3), some (kI x4)]) ⟨Or.inr rfl, Or.inr rfl, Or.inr rfl, Or.inr rfl, Or.inr rfl, trivial⟩ (b_Town_drop_40 b0 hb0 x1 x2 x3 x4 s _ hf hq)
    · have hf := gift c10 hf
      refine kw_step rfl rfl rfl rfl ?_
      refine kw_get rfl (hH_O (tT_0 hb0)) rfl ?_
      refine kw_step rfl rfl rfl rfl ?_
      refine kw_step rfl rfl rfl rfl ?_
      refine kw_get rfl (hH_O (tT_0 hb0)) rfl ?_
      refine kw_step rfl rfl rfl rfl ?_
      obtain ⟨j11, i12, hf⟩ := gbI hf
      refine kw_iald rfl (hH_A (tT_1 hb0)) i12.1 i12.2.1 i12.2.2 ?_
      obtain ⟨j13, i14, hf⟩ := gbI hf
      obtain ⟨s15, ee16, hf⟩ := gbL hf
      refine kw_iastH rfl (tT_1 hb0) i14.1 i14.2.1 i14.2.2 ee16 ?_
      refine kw_step (L' := [some (kr b0), some (kI x1), some (kI (wI (x2 + 1))), some (kI x3), some (kI x4)]) rfl rfl rfl rfl ?_
      refine kw_step rfl rfl rfl rfl ?_
      refine kw_step rfl rfl rfl rfl ?_
      refine kw_step rfl rfl rfl rfl ?_
      refine kw_get rfl (hH_O (tT_0 hb0)) rfl ?_
      refine kw_icmp_ge rfl rfl (fun c18 => ?_) (fun c18 => ?_)
      · have hf := gift c18 hf
        refine kw_step rfl rfl rfl rfl ?_
        exact kW_le (L' := [some (kr b0), some (kI x1), some (kI (wI (x2 + 1))), none, some (kI x4)]) ⟨Or.inr rfl, Or.inr rfl, Or.inr rfl, Or.inl rfl, Or.inr rfl, trivial⟩ (b_Town_drop_38 b0 hb0 x1 (wI (x2 + 1)) x4 x3 0 s15 _ hf hq)
      · have hf := giff c18 hf
        refine kw_step rfl rfl rfl rfl ?_
        refine kw_goto rfl rfl ?_
        exact kW_le (L' := [some (kr b0), some (kI x1), some (kI (wI (x2 + 1))), none, some (kI x4)]) ⟨Or.inr rfl, Or.inr rfl, Or.inr rfl, Or.inl rfl, Or.inr rfl, trivial⟩ (b_Town_drop_38 b0 hb0 x1 (wI (x2 + 1)) x4 x3 1 s15 _ hf hq)
def f_Town_drop_6 (b0 : Nat) (x1 : Int) (x2 : Int) (x3 : Int) (x4 : Int) (s : kM) : Option (kM) :=
  gL (fun (x : Int × Int × Int × kM) => f_Town_drop_6b b0 x1 x.1 x.2.1 x.2.2.1 x.2.2.2) gF (x2, x3, x4, s)
theorem b_Town_drop_6 {sc : List Int} {Q : Option kV → kH → Prop} (b0 : Nat) (hb0 : tT b0 = true) (x1 : Int) (x2 : Int) (x3 : Int) (x4 : Int) (s : kM) (t : kM) (hf : f_Town_drop_6 b0 x1 x2 x3 x4 s = some t) (hq : (fun r => Q none (hH r)) t) : kW sc 0 kc_Town_drop 0 6 [some (kr b0), some (kI x1), some (kI x2), some (kI x3), some (kI x4)] [] (hH s) Q :=
  gL_ind (P := fun (x : Int × Int × Int × kM) => kW sc 0 kc_Town_drop 0 6 [some (kr b0), some (kI x1), some (kI x.1), some (kI x.2.1), some (kI x.2.2.1)] [] (hH x.2.2.2) Q) (q := (fun r => Q none (hH r))) (fun x t hf hq => b_Town_drop_6b b0 hb0 x1 x.1 x.2.1 x.2.2.1 x.2.2.2 t hf hq) gF (x2, x3, x4, s) t hf hq
def f_Town_drop (b0 : Nat) (x1 : Int) (s : kM) : Option (kM) :=
  f_Town_drop_6 b0 x1 0 0 0 s
set_option maxRecDepth 8000 in
theorem c_Town_drop {sc : List Int} (b0 : Nat) (hb0 : tT b0 = true) (x1 : Int) (s : kM) (t : kM) (hf : f_Town_drop b0 x1 s = some t) : kR sc 0 km_Town_drop [kr b0, kI x1] (hH s) none (hH t) := by
  unfold f_Town_drop at hf
  refine kR.start rfl ?_
  show kW sc 0 kc_Town_drop 0 0 [some (kr b0), some (kI x1), none, none, none] [] (hH s) _
  have hq : (fun (r : Option kV) (g : kH) => r = none ∧ g = hH t) none (hH t) := ⟨rfl, rfl⟩
  refine kw_step rfl rfl rfl rfl ?_
  refine kw_step (L' := [some (kr b0), some (kI x1), some (kI 0), none, none]) rfl rfl rfl rfl ?_
  refine kw_step rfl rfl rfl rfl ?_
  refine kw_step (L' := [some (kr b0), some (kI x1), some (kI 0), some (kI 0), none]) rfl rfl rfl rfl ?_
  refine kw_step rfl rfl rfl rfl ?_
  refine kw_step (L' := [some (kr b0), some (kI x1), some (kI 0), some (kI 0), some (kI 0)]) rfl rfl rfl rfl ?_
  exact kW_le (L' := [some (kr b0), some (kI x1), some (kI 0), some (kI 0), some (kI 0)]) ⟨Or.inr rfl, Or.inr rfl, Or.inr rfl, Or.inr rfl, Or.inr rfl, trivial⟩ (b_Town_drop_6 b0 hb0 x1 0 0 0 s _ hf hq)
def f_Town_swapAlong (b0 : Nat) (x1 : Int) (s : kM) : Option (kM) :=
  (f_Town_hasPlace b0 x1 s).bind fun q1 => if q1 = 0 then (some s) else ((gI 22 x1).bind fun j3 => (gI 22 x1).bind fun j5 => (gI 22 (s (b0 + 3) j3)).bind fun j7 => (gI 22 x1).bind fun j9 => gLet (gU s (b0 + 1) j9 (s (b0 + 1) j7)) fun s11 => (gI 22 (s (b0 + 3) j3)).bind fun j14 => gLet (gU s11 (b0 + 1) j14 (s (b0 + 1) j5)) fun s16 => some s16)
set_option maxRecDepth 8000 in
theorem c_Town_swapAlong {sc : List Int} (b0 : Nat) (hb0 : tT b0 = true) (x1 : Int) (s : kM) (t : kM) (hf : f_Town_swapAlong b0 x1 s = some t) : kR sc 1 km_Town_swapAlong [kr b0, kI x1] (hH s) none (hH t) := by
  unfold f_Town_swapAlong at hf
  refine kR.start rfl ?_
  show kW sc 1 kc_Town_swapAlong 0 0 [some (kr b0), some (kI x1), none, none] [] (hH s) _
  have hq : (fun (r : Option kV) (g : kH) => r = none ∧ g = hH t) none (hH t) := ⟨rfl, rfl⟩
  refine kw_step rfl rfl rfl rfl ?_
  refine kw_step rfl rfl rfl rfl ?_
  obtain ⟨q1, hq1, hf⟩ := gbind hf
  refine kw_callV (vs := [kI x1]) rfl rfl rfl ⟨rfl, Nat.le_of_ble_eq_true rfl, Nat.le_of_ble_eq_true rfl, by decide⟩ (hH_O (tT_0 hb0)) (c_Town_hasPlace b0 hb0 x1 s _ hq1) (Nat.le_of_ble_eq_true rfl) ?_
  refine kw_if_ne rfl rfl (fun c2 => ?_) (fun c2 => ?_)
  · have hf := giff c2 hf
    refine kw_step rfl rfl rfl rfl ?_
    refine kw_get rfl (hH_O (tT_0 hb0)) rfl ?_
    refine kw_step rfl rfl rfl rfl ?_
    obtain ⟨j3, i4, hf⟩ := gbI hf
    refine kw_iald rfl (hH_A (tT_3 hb0)) i4.1 i4.2.1 i4.2.2 ?_
    refine kw_step (L' := [some (kr b0), some (kI x1), some (kI (s (b0 + 3) j3)), none]) rfl rfl rfl rfl ?_
    refine kw_step rfl rfl rfl rfl ?_
    refine kw_get rfl (hH_O (tT_0 hb0)) rfl ?_
    refine kw_step rfl rfl rfl rfl ?_
    obtain ⟨j5, i6, hf⟩ := gbI hf
    refine kw_iald rfl (hH_A (tT_1 hb0)) i6.1 i6.2.1 i6.2.2 ?_
    refine kw_step (L' := [some (kr b0), some (kI x1), some (kI (s (b0 + 3) j3)), some (kI (s (b0 + 1) j5))]) rfl rfl rfl rfl ?_
    refine kw_step rfl rfl rfl rfl ?_
    refine kw_get rfl (hH_O (tT_0 hb0)) rfl ?_
    refine kw_step rfl rfl rfl rfl ?_
    refine kw_step rfl rfl rfl rfl ?_
    refine kw_get rfl (hH_O (tT_0 hb0)) rfl ?_
    refine kw_step rfl rfl rfl rfl ?_
    obtain ⟨j7, i8, hf⟩ := gbI hf
    refine kw_iald rfl (hH_A (tT_1 hb0)) i8.1 i8.2.1 i8.2.2 ?_
    obtain ⟨j9, i10, hf⟩ := gbI hf
    obtain ⟨s11, ee12, hf⟩ := gbL hf
    refine kw_iastH rfl (tT_1 hb0) i10.1 i10.2.1 i10.2.2 ee12 ?_
    refine kw_step rfl rfl rfl rfl ?_
    refine kw_get rfl (hH_O (tT_0 hb0)) rfl ?_
    refine kw_step rfl rfl rfl rfl ?_
    refine kw_step rfl rfl rfl rfl ?_
    obtain ⟨j14, i15, hf⟩ := gbI hf
    obtain ⟨s16, ee17, hf⟩ := gbL hf
    refine kw_iastH rfl (tT_1 hb0) i15.1 i15.2.1 i15.2.2 ee17 ?_
    cases hf
    exact kw_ret rfl rfl rfl hq
  · have hf := gift c2 hf
    cases hf
    exact kw_ret rfl rfl rfl hq
def f_Land_perform (b0 : Nat) (b1 : Nat) (x2 : Int) (s : kM) : Option (kM) :=
  if x2 < 0 then (some s) else (if x2 < (s b0 6) then ((gI 48 x2).bind fun j3 => (f_Land_partOfMove (s (b0 + 1) j3) 0 s).bind fun q5 => if q5 = 3 then ((gI 48 x2).bind fun j7 => (f_Land_stepFrom b0 (s (b0 + 2) j7) s).bind fun q9 => (gI 48 x2).bind fun j10 => (f_Town_swapAlong b1 (kshr (s (b0 + 2) j10) 1) s).bind fun q12 => (f_Town_swapAlong b1 (kshr q9 1) q12).bind fun q14 => (f_Land_stepFrom b0 q9 q14).bind fun q16 => (f_Town_swapAlong b1 (kshr q16 1) q14).bind fun q17 => some q17) else ((f_Land_gone b0 x2 s).bind fun q19 => (f_Town_drop b1 q19 s).bind fun q20 => some q20)) else (some s))
set_option maxRecDepth 8000 in
theorem c_Land_perform {sc : List Int} (b0 : Nat) (b1 : Nat) (hb0 : tL b0 = true) (hb1 : tT b1 = true) (x2 : Int) (s : kM) (t : kM) (hf : f_Land_perform b0 b1 x2 s = some t) : kR sc 2 km_Land_perform [kr b0, kr b1, kI x2] (hH s) none (hH t) := by
  unfold f_Land_perform at hf
  refine kR.start rfl ?_
  show kW sc 2 kc_Land_perform 0 0 [some (kr b0), some (kr b1), some (kI x2), none] [] (hH s) _
  have hq : (fun (r : Option kV) (g : kH) => r = none ∧ g = hH t) none (hH t) := ⟨rfl, rfl⟩
  refine kw_step rfl rfl rfl rfl ?_
  refine kw_if_lt rfl rfl (fun c1 => ?_) (fun c1 => ?_)
  · have hf := gift c1 hf
    cases hf
    exact kw_ret rfl rfl rfl hq
  · have hf := giff c1 hf
    refine kw_step rfl rfl rfl rfl ?_
    refine kw_step rfl rfl rfl rfl ?_
    refine kw_get rfl (hH_O (tL_0 hb0)) rfl ?_
    refine kw_icmp_lt rfl rfl (fun c2 => ?_) (fun c2 => ?_)
    · have hf := gift c2 hf
      refine kw_step rfl rfl rfl rfl ?_
      refine kw_get rfl (hH_O (tL_0 hb0)) rfl ?_
      refine kw_step rfl rfl rfl rfl ?_
      obtain ⟨j3, i4, hf⟩ := gbI hf
      refine kw_iald rfl (hH_A (tL_1 hb0)) i4.1 i4.2.1 i4.2.2 ?_
      refine kw_step rfl rfl rfl rfl ?_
      obtain ⟨q5, hq5, hf⟩ := gbind hf
      refine kw_callS (vs := [kI (s (b0 + 1) j3), kI 0]) rfl rfl rfl ⟨rfl, Nat.le_of_ble_eq_true rfl, Nat.le_of_ble_eq_true rfl, rfl⟩ (c_Land_partOfMove (s (b0 + 1) j3) 0 s _ hq5) (Nat.le_of_ble_eq_true rfl) ?_
      refine kw_step rfl rfl rfl rfl ?_
      refine kw_icmp_eq rfl rfl (fun c6 => ?_) (fun c6 => ?_)
      · have hf := gift c6 hf
        refine kw_step rfl rfl rfl rfl ?_
        refine kw_step rfl rfl rfl rfl ?_
        refine kw_get rfl (hH_O (tL_0 hb0)) rfl ?_
        refine kw_step rfl rfl rfl rfl ?_
        obtain ⟨j7, i8, hf⟩ := gbI hf
        refine kw_iald rfl (hH_A (tL_2 hb0)) i8.1 i8.2.1 i8.2.2 ?_
        obtain ⟨q9, hq9, hf⟩ := gbind hf
        refine kw_callV (vs := [kI (s (b0 + 2) j7)]) rfl rfl rfl ⟨rfl, Nat.le_of_ble_eq_true rfl, Nat.le_of_ble_eq_true rfl, by decide⟩ (hH_O (tL_0 hb0)) (c_Land_stepFrom b0 hb0 (s (b0 + 2) j7) s _ hq9) (Nat.le_of_ble_eq_true rfl) ?_
        refine kw_step (L' := [some (kr b0), some (kr b1), some (kI x2), some (kI q9)]) rfl rfl rfl rfl ?_
        refine kw_step rfl rfl rfl rfl ?_
        refine kw_step rfl rfl rfl rfl ?_
        refine kw_get rfl (hH_O (tL_0 hb0)) rfl ?_
        refine kw_step rfl rfl rfl rfl ?_
        obtain ⟨j10, i11, hf⟩ := gbI hf
        refine kw_iald rfl (hH_A (tL_2 hb0)) i11.1 i11.2.1 i11.2.2 ?_
        refine kw_step rfl rfl rfl rfl ?_
        refine kw_step rfl rfl rfl rfl ?_
        obtain ⟨q12, hq12, hf⟩ := gbind hf
        refine kw_callV (vs := [kI (kshr (s (b0 + 2) j10) 1)]) rfl rfl rfl ⟨rfl, Nat.le_of_ble_eq_true rfl, Nat.le_of_ble_eq_true rfl, by decide⟩ (hH_O (tT_0 hb1)) (c_Town_swapAlong b1 hb1 (kshr (s (b0 + 2) j10) 1) s _ hq12) (Nat.le_of_ble_eq_true rfl) ?_
        refine kw_step rfl rfl rfl rfl ?_
        refine kw_step rfl rfl rfl rfl ?_
        refine kw_step rfl rfl rfl rfl ?_
        refine kw_step rfl rfl rfl rfl ?_
        obtain ⟨q14, hq14, hf⟩ := gbind hf
        refine kw_callV (vs := [kI (kshr q9 1)]) rfl rfl rfl ⟨rfl, Nat.le_of_ble_eq_true rfl, Nat.le_of_ble_eq_true rfl, by decide⟩ (hH_O (tT_0 hb1)) (c_Town_swapAlong b1 hb1 (kshr q9 1) q12 _ hq14) (Nat.le_of_ble_eq_true rfl) ?_
        refine kw_step rfl rfl rfl rfl ?_
        refine kw_step rfl rfl rfl rfl ?_
        refine kw_step rfl rfl rfl rfl ?_
        obtain ⟨q16, hq16, hf⟩ := gbind hf
        refine kw_callV (vs := [kI q9]) rfl rfl rfl ⟨rfl, Nat.le_of_ble_eq_true rfl, Nat.le_of_ble_eq_true rfl, by decide⟩ (hH_O (tL_0 hb0)) (c_Land_stepFrom b0 hb0 q9 q14 _ hq16) (Nat.le_of_ble_eq_true rfl) ?_
        refine kw_step rfl rfl rfl rfl ?_
        refine kw_step rfl rfl rfl rfl ?_
        obtain ⟨q17, hq17, hf⟩ := gbind hf
        refine kw_callV (vs := [kI (kshr q16 1)]) rfl rfl rfl ⟨rfl, Nat.le_of_ble_eq_true rfl, Nat.le_of_ble_eq_true rfl, by decide⟩ (hH_O (tT_0 hb1)) (c_Town_swapAlong b1 hb1 (kshr q16 1) q14 _ hq17) (Nat.le_of_ble_eq_true rfl) ?_
        cases hf
        exact kw_ret rfl rfl rfl hq
      · have hf := giff c6 hf
        refine kw_step rfl rfl rfl rfl ?_
        refine kw_step rfl rfl rfl rfl ?_
        refine kw_step rfl rfl rfl rfl ?_
        obtain ⟨q19, hq19, hf⟩ := gbind hf
        refine kw_callV (vs := [kI x2]) rfl rfl rfl ⟨rfl, Nat.le_of_ble_eq_true rfl, Nat.le_of_ble_eq_true rfl, by decide⟩ (hH_O (tL_0 hb0)) (c_Land_gone b0 hb0 x2 s _ hq19) (Nat.le_of_ble_eq_true rfl) ?_
        obtain ⟨q20, hq20, hf⟩ := gbind hf
        refine kw_callV (vs := [kI q19]) rfl rfl rfl ⟨rfl, Nat.le_of_ble_eq_true rfl, Nat.le_of_ble_eq_true rfl, by decide⟩ (hH_O (tT_0 hb1)) (c_Town_drop b1 hb1 q19 s _ hq20) (Nat.le_of_ble_eq_true rfl) ?_
        cases hf
        exact kw_ret rfl rfl rfl hq
    · have hf := giff c2 hf
      cases hf
      exact kw_ret rfl rfl rfl hq
