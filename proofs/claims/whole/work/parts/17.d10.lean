/-! PRINTED by wip/whole/decall.py: methods as functions over the flat world, with their contracts -/
def f_Search_pack_78 (x1 : Int) (x2 : Int) (x3 : Int) (s : kM) : Option ((Int × Int × kM) ⊕ (kM)) :=
  some (.inl (x2, (wI (x3 + 1)), s))
set_option maxRecDepth 8000 in
theorem b_Search_pack_78 {sc : List Int} {Q : Option kV → kH → Prop} (x1 : Int) (x2 : Int) (x3 : Int) (s : kM) (t : (Int × Int × kM) ⊕ (kM)) (hf : f_Search_pack_78 x1 x2 x3 s = some t) (hq : (gE (fun x => kW sc 0 kc_Search_pack 0 13 [some (kr 21), some (kI x1), some (kI x.1), some (kI x.2.1), none] [] (hH x.2.2) Q) (fun r => Q none (hH r))) t) : kW sc 0 kc_Search_pack 0 78 [some (kr 21), some (kI x1), some (kI x2), some (kI x3), none] [] (hH s) Q := by
  unfold f_Search_pack_78 at hf
  refine kw_step (L' := [some (kr 21), some (kI x1), some (kI x2), some (kI (wI (x3 + 1))), none]) rfl rfl rfl rfl ?_
  refine kw_goto rfl rfl ?_
  cases hf
  exact kW_le (L' := [some (kr 21), some (kI x1), some (kI x2), some (kI (wI (x3 + 1))), none]) ⟨Or.inr rfl, Or.inr rfl, Or.inr rfl, Or.inr rfl, Or.inl rfl, trivial⟩ hq
def f_Search_pack_76 (x1 : Int) (x2 : Int) (x3 : Int) (y1 : Int) (y2 : Int) (s : kM) : Option ((Int × Int × kM) ⊕ (kM)) :=
  gLet (gU s 21 12 (wI (y1 + y2))) fun s1 => f_Search_pack_78 x1 x2 x3 s1
set_option maxRecDepth 8000 in
theorem b_Search_pack_76 {sc : List Int} {Q : Option kV → kH → Prop} (x1 : Int) (x2 : Int) (x3 : Int) (y1 : Int) (y2 : Int) (s : kM) (t : (Int × Int × kM) ⊕ (kM)) (hf : f_Search_pack_76 x1 x2 x3 y1 y2 s = some t) (hq : (gE (fun x => kW sc 0 kc_Search_pack 0 13 [some (kr 21), some (kI x1), some (kI x.1), some (kI x.2.1), none] [] (hH x.2.2) Q) (fun r => Q none (hH r))) t) : kW sc 0 kc_Search_pack 0 76 [some (kr 21), some (kI x1), some (kI x2), some (kI x3), none] [kI y2, kI y1, kr 21] (hH s) Q := by
  unfold f_Search_pack_76 at hf
  refine kw_step rfl rfl rfl rfl ?_
  obtain ⟨s1, ee2, hf⟩ := gbL hf
  refine kw_putH rfl (rfl : kotab 21 = some kHo) rfl rfl rfl (Nat.le_of_ble_eq_true rfl) rfl ee2 ?_
  exact kW_le (L' := [some (kr 21), some (kI x1), some (kI x2), some (kI x3), none]) ⟨Or.inr rfl, Or.inr rfl, Or.inr rfl, Or.inr rfl, Or.inl rfl, trivial⟩ (b_Search_pack_78 x1 x2 x3 s1 _ hf hq)
def f_Search_pack_64 (x1 : Int) (x2 : Int) (x3 : Int) (s : kM) : Option ((Int × Int × kM) ⊕ (kM)) :=
  if (s 28 1) ≤ x3 then (f_Search_pack_76 x1 (wI (x2 + 1)) x3 (s 21 12) 0 s) else (f_Search_pack_76 x1 (wI (x2 + 1)) x3 (s 21 12) 1 s)
set_option maxRecDepth 8000 in
theorem b_Search_pack_64 {sc : List Int} {Q : Option kV → kH → Prop} (x1 : Int) (x2 : Int) (x3 : Int) (s : kM) (t : (Int × Int × kM) ⊕ (kM)) (hf : f_Search_pack_64 x1 x2 x3 s = some t) (hq : (gE (fun x => kW sc 0 kc_Search_pack 0 13 [some (kr 21), some (kI x1), some (kI x.1), some (kI x.2.1), none] [] (hH x.2.2) Q) (fun r => Q none (hH r))) t) : kW sc 0 kc_Search_pack 0 64 [some (kr 21), some (kI x1), some (kI x2), some (kI x3), none] [] (hH s) Q := by
  unfold f_Search_pack_64 at hf
  refine kw_step (L' := [some (kr 21), some (kI x1), some (kI (wI (x2 + 1))), some (kI x3), none]) rfl rfl rfl rfl ?_
  refine kw_step rfl rfl rfl rfl ?_
  refine kw_step rfl rfl rfl rfl ?_
  refine kw_get rfl (hH_O (rfl : kotab 21 = some kHo)) rfl ?_
  refine kw_step rfl rfl rfl rfl ?_
  refine kw_step rfl rfl rfl rfl ?_
  refine kw_get rfl (hH_O (rfl : kotab 21 = some kHo)) rfl ?_
  refine kw_get rfl (hH_O (tT_0 (b := 28) rfl)) rfl ?_
  refine kw_icmp_ge rfl rfl (fun c1 => ?_) (fun c1 => ?_)
  · have hf := gift c1 hf
    refine kw_step rfl rfl rfl rfl ?_
    exact kW_le (L' := [some (kr 21), some (kI x1), some (kI (wI (x2 + 1))), some (kI x3), none]) ⟨Or.inr rfl, Or.inr rfl, Or.inr rfl, Or.inr rfl, Or.inl rfl, trivial⟩ (b_Search_pack_76 x1 (wI (x2 + 1)) x3 (s 21 12) 0 s _ hf hq)
  · have hf := giff c1 hf
    refine kw_step rfl rfl rfl rfl ?_
    refine kw_goto rfl rfl ?_
    exact kW_le (L' := [some (kr 21), some (kI x1), some (kI (wI (x2 + 1))), some (kI x3), none]) ⟨Or.inr rfl, Or.inr rfl, Or.inr rfl, Or.inr rfl, Or.inl rfl, trivial⟩ (b_Search_pack_76 x1 (wI (x2 + 1)) x3 (s 21 12) 1 s _ hf hq)
def f_Search_pack_13b (x1 : Int) (x2 : Int) (x3 : Int) (s : kM) : Option ((Int × Int × kM) ⊕ (kM)) :=
  if (s 28 2) ≤ x3 then (some (.inr s)) else ((gI 22 x3).bind fun j2 => if (kand (kshr x1 (kshr (s 29 j2) 1)) 1) = 0 then (if 12 ≤ x2 then (gLet (gU s 21 11 (klor (s 21 11) (klshl (wL ((s 29 j2) + 1)) (wI (5 * (wI (x2 - 12))))))) fun s6 => f_Search_pack_64 x1 x2 x3 s6) else (gLet (gU s 21 10 (klor (s 21 10) (klshl (wL ((s 29 j2) + 1)) (wI (5 * x2))))) fun s9 => f_Search_pack_64 x1 x2 x3 s9)) else (f_Search_pack_78 x1 x2 x3 s))
set_option maxRecDepth 8000 in
theorem b_Search_pack_13b {sc : List Int} {Q : Option kV → kH → Prop} (x1 : Int) (x2 : Int) (x3 : Int) (s : kM) (t : (Int × Int × kM) ⊕ (kM)) (hf : f_Search_pack_13b x1 x2 x3 s = some t) (hq : (gE (fun x => kW sc 0 kc_Search_pack 0 13 [some (kr 21), some (kI x1), some (kI x.1), some (kI x.2.1), none] [] (hH x.2.2) Q) (fun r => Q none (hH r))) t) : kW sc 0 kc_Search_pack 0 13 [some (kr 21), some (kI x1), some (kI x2), some (kI x3), none] [] (hH s) Q := by
  unfold f_Search_pack_13b at hf
  refine kw_step rfl rfl rfl rfl ?_
  refine kw_step rfl rfl rfl rfl ?_
  refine kw_get rfl (hH_O (rfl : kotab 21 = some kHo)) rfl ?_
  refine kw_get rfl (hH_O (tT_0 (b := 28) rfl)) rfl ?_
  refine kw_icmp_ge rfl rfl (fun c1 => ?_) (fun c1 => ?_)
  · have hf := gift c1 hf
    cases hf
    exact kw_ret rfl rfl rfl hq
  · have hf := giff c1 hf
    refine kw_step rfl rfl rfl rfl ?_
    refine kw_get rfl (hH_O (rfl : kotab 21 = some kHo)) rfl ?_
    refine kw_get rfl (hH_O (tT_0 (b := 28) rfl)) rfl ?_
    refine kw_step rfl rfl rfl rfl ?_
    obtain ⟨j2, i3, hf⟩ := gbI hf
    refine kw_iald rfl (hH_A (rfl : ktab 29 = some (0, 22))) i3.1 i3.2.1 i3.2.2 ?_
    refine kw_step (L' := [some (kr 21), some (kI x1), some (kI x2), some (kI x3), some (kI (s 29 j2))]) rfl rfl rfl rfl ?_
    refine kw_step rfl rfl rfl rfl ?_
    refine kw_step rfl rfl rfl rfl ?_
    refine kw_step rfl rfl rfl rfl ?_
    refine kw_step rfl rfl rfl rfl ?_
    refine kw_step rfl rfl rfl rfl ?_
    refine kw_step rfl rfl rfl rfl ?_
    refine kw_step rfl rfl rfl rfl ?_
    refine kw_if_ne rfl rfl (fun c4 => ?_) (fun c4 => ?_)
    · have hf := giff c4 hf
      exact kW_le (L' := [some (kr 21), some (kI x1), some (kI x2), some (kI x3), none]) ⟨Or.inr rfl, Or.inr rfl, Or.inr rfl, Or.inr rfl, Or.inl rfl, trivial⟩ (b_Search_pack_78 x1 x2 x3 s _ hf hq)
    · have hf := gift c4 hf
      refine kw_step rfl rfl rfl rfl ?_
      refine kw_step rfl rfl rfl rfl ?_
      refine kw_icmp_ge rfl rfl (fun c5 => ?_) (fun c5 => ?_)
      · have hf := gift c5 hf
        refine kw_step rfl rfl rfl rfl ?_
        refine kw_step rfl rfl rfl rfl ?_
        refine kw_get rfl (hH_O (rfl : kotab 21 = some kHo)) rfl ?_
        refine kw_step rfl rfl rfl rfl ?_
        refine kw_step rfl rfl rfl rfl ?_
        refine kw_step rfl rfl rfl rfl ?_
        refine kw_step rfl rfl rfl rfl ?_
        refine kw_step rfl rfl rfl rfl ?_
        refine kw_step rfl rfl rfl rfl ?_
        refine kw_step rfl rfl rfl rfl ?_
        refine kw_step rfl rfl rfl rfl ?_
        refine kw_step rfl rfl rfl rfl ?_
        refine kw_step rfl rfl rfl rfl ?_
        refine kw_step rfl rfl rfl rfl ?_
        obtain ⟨s6, ee7, hf⟩ := gbL hf
        refine kw_putH rfl (rfl : kotab 21 = some kHo) rfl rfl rfl (Nat.le_of_ble_eq_true rfl) rfl ee7 ?_
        exact kW_le (L' := [some (kr 21), some (kI x1), some (kI x2), some (kI x3), none]) ⟨Or.inr rfl, Or.inr rfl, Or.inr rfl, Or.inr rfl, Or.inl rfl, trivial⟩ (b_Search_pack_64 x1 x2 x3 s6 _ hf hq)
      · have hf := giff c5 hf
        refine kw_step rfl rfl rfl rfl ?_
        refine kw_step rfl rfl rfl rfl ?_
        refine kw_get rfl (hH_O (rfl : kotab 21 = some kHo)) rfl ?_
        refine kw_step rfl rfl rfl rfl ?_
        refine kw_step rfl rfl rfl rfl ?_
        refine kw_step rfl rfl rfl rfl ?_
        refine kw_step rfl rfl rfl rfl ?_
        refine kw_step rfl rfl rfl rfl ?_
        refine kw_step rfl rfl rfl rfl ?_
        refine kw_step rfl rfl rfl rfl ?_
        refine kw_step rfl rfl rfl rfl ?_
        refine kw_step rfl rfl rfl rfl ?_
        obtain ⟨s9, ee10, hf⟩ := gbL hf
        refine kw_putH rfl (rfl : kotab 21 = some kHo) rfl rfl rfl (Nat.le_of_ble_eq_true rfl) rfl ee10 ?_
        refine kw_goto rfl rfl ?_
        exact kW_le (L' := [some (kr 21), some (kI x1), some (kI x2), some (kI x3), none]) ⟨Or.inr rfl, Or.inr rfl, Or.inr rfl, Or.inr rfl, Or.inl rfl, trivial⟩ (b_Search_pack_64 x1 x2 x3 s9 _ hf hq)
def f_Search_pack_13 (x1 : Int) (x2 : Int) (x3 : Int) (s : kM) : Option (kM) :=
  gL (fun (x : Int × Int × kM) => f_Search_pack_13b x1 x.1 x.2.1 x.2.2) gF (x2, x3, s)
theorem b_Search_pack_13 {sc : List Int} {Q : Option kV → kH → Prop} (x1 : Int) (x2 : Int) (x3 : Int) (s : kM) (t : kM) (hf : f_Search_pack_13 x1 x2 x3 s = some t) (hq : (fun r => Q none (hH r)) t) : kW sc 0 kc_Search_pack 0 13 [some (kr 21), some (kI x1), some (kI x2), some (kI x3), none] [] (hH s) Q :=
  gL_ind (P := fun (x : Int × Int × kM) => kW sc 0 kc_Search_pack 0 13 [some (kr 21), some (kI x1), some (kI x.1), some (kI x.2.1), none] [] (hH x.2.2) Q) (q := (fun r => Q none (hH r))) (fun x t hf hq => b_Search_pack_13b x1 x.1 x.2.1 x.2.2 t hf hq) gF (x2, x3, s) t hf hq
def f_Search_pack (x1 : Int) (s : kM) : Option (kM) :=
  gLet (gU s 21 10 0) fun s1 => gLet (gU s1 21 11 0) fun s4 => gLet (gU s4 21 12 0) fun s7 => f_Search_pack_13 x1 0 0 s7
set_option maxRecDepth 8000 in
theorem c_Search_pack {sc : List Int} (x1 : Int) (s : kM) (t : kM) (hf : f_Search_pack x1 s = some t) : kR sc 0 km_Search_pack [kr 21, kI x1] (hH s) none (hH t) := by
  unfold f_Search_pack at hf
  refine kR.start rfl ?_
  show kW sc 0 kc_Search_pack 0 0 [some (kr 21), some (kI x1), none, none, none] [] (hH s) _
  have hq : (fun (r : Option kV) (g : kH) => r = none ∧ g = hH t) none (hH t) := ⟨rfl, rfl⟩
  refine kw_step rfl rfl rfl rfl ?_
  refine kw_step rfl rfl rfl rfl ?_
  obtain ⟨s1, ee2, hf⟩ := gbL hf
  refine kw_putH rfl (rfl : kotab 21 = some kHo) rfl rfl rfl (Nat.le_of_ble_eq_true rfl) rfl ee2 ?_
  refine kw_step rfl rfl rfl rfl ?_
  refine kw_step rfl rfl rfl rfl ?_
  obtain ⟨s4, ee5, hf⟩ := gbL hf
  refine kw_putH rfl (rfl : kotab 21 = some kHo) rfl rfl rfl (Nat.le_of_ble_eq_true rfl) rfl ee5 ?_
  refine kw_step rfl rfl rfl rfl ?_
  refine kw_step rfl rfl rfl rfl ?_
  obtain ⟨s7, ee8, hf⟩ := gbL hf
  refine kw_putH rfl (rfl : kotab 21 = some kHo) rfl rfl rfl (Nat.le_of_ble_eq_true rfl) rfl ee8 ?_
  refine kw_step rfl rfl rfl rfl ?_
  refine kw_step (L' := [some (kr 21), some (kI x1), some (kI 0), none, none]) rfl rfl rfl rfl ?_
  refine kw_step rfl rfl rfl rfl ?_
  refine kw_step (L' := [some (kr 21), some (kI x1), some (kI 0), some (kI 0), none]) rfl rfl rfl rfl ?_
  exact kW_le (L' := [some (kr 21), some (kI x1), some (kI 0), some (kI 0), none]) ⟨Or.inr rfl, Or.inr rfl, Or.inr rfl, Or.inr rfl, Or.inl rfl, trivial⟩ (b_Search_pack_13 x1 0 0 s7 _ hf hq)
def f_Search_freeSlot_56 (x3 : Int) (x4 : Int) (s : kM) : Option ((Int × Int) ⊕ (Int)) :=
  some (.inl ((kand (wI (x3 + 1)) 1023), (wI (x4 + 1))))
set_option maxRecDepth 8000 in
theorem b_Search_freeSlot_56 {sc : List Int} {Q : Option kV → kH → Prop} (x3 : Int) (x4 : Int) (s : kM) (t : (Int × Int) ⊕ (Int)) (hf : f_Search_freeSlot_56 x3 x4 s = some t) (hq : (gE (fun x => kW sc 0 kc_Search_freeSlot 1 19 [some (kr 21), none, none, some (kI x.1), some (kI x.2), none] [] (hH s) Q) (fun r => Q (some (kI r)) (hH s))) t) : kW sc 0 kc_Search_freeSlot 1 56 [some (kr 21), none, none, some (kI x3), some (kI x4), none] [] (hH s) Q := by
  unfold f_Search_freeSlot_56 at hf
  refine kw_step rfl rfl rfl rfl ?_
  refine kw_step rfl rfl rfl rfl ?_
  refine kw_step rfl rfl rfl rfl ?_
  refine kw_step rfl rfl rfl rfl ?_
  refine kw_step rfl rfl rfl rfl ?_
  refine kw_step (L' := [some (kr 21), none, none, some (kI (kand (wI (x3 + 1)) 1023)), some (kI x4), none]) rfl rfl rfl rfl ?_
  refine kw_step (L' := [some (kr 21), none, none, some (kI (kand (wI (x3 + 1)) 1023)), some (kI (wI (x4 + 1))), none]) rfl rfl rfl rfl ?_
  refine kw_goto rfl rfl ?_
  cases hf
  exact kW_le (L' := [some (kr 21), none, none, some (kI (kand (wI (x3 + 1)) 1023)), some (kI (wI (x4 + 1))), none]) ⟨Or.inr rfl, Or.inl rfl, Or.inl rfl, Or.inr rfl, Or.inr rfl, Or.inl rfl, trivial⟩ hq
def f_Search_freeSlot_19b (x3 : Int) (x4 : Int) (s : kM) : Option ((Int × Int) ⊕ (Int)) :=
  if 1024 ≤ x4 then (some (.inr x3)) else ((gI 1024 x3).bind fun j2 => if (s 27 j2) ≤ 0 then (some (.inr x3)) else ((gI 1024 x3).bind fun j5 => if (s 21 9) ≤ (wI ((s 27 j5) - 1)) then (f_Search_freeSlot_56 x3 x4 s) else ((gI 300 (wI ((s 27 j5) - 1))).bind fun j8 => if (s 22 j8) = (s 21 10) then ((gI 300 (wI ((s 27 j5) - 1))).bind fun j11 => if (s 23 j11) = (s 21 11) then (some (.inr (-1))) else (f_Search_freeSlot_56 x3 x4 s)) else (f_Search_freeSlot_56 x3 x4 s))))
set_option maxRecDepth 8000 in
theorem b_Search_freeSlot_19b {sc : List Int} {Q : Option kV → kH → Prop} (x3 : Int) (x4 : Int) (s : kM) (t : (Int × Int) ⊕ (Int)) (hf : f_Search_freeSlot_19b x3 x4 s = some t) (hq : (gE (fun x => kW sc 0 kc_Search_freeSlot 1 19 [some (kr 21), none, none, some (kI x.1), some (kI x.2), none] [] (hH s) Q) (fun r => Q (some (kI r)) (hH s))) t) : kW sc 0 kc_Search_freeSlot 1 19 [some (kr 21), none, none, some (kI x3), some (kI x4), none] [] (hH s) Q := by
  unfold f_Search_freeSlot_19b at hf
  refine kw_step rfl rfl rfl rfl ?_
  refine kw_step rfl rfl rfl rfl ?_
  refine kw_icmp_ge rfl rfl (fun c1 => ?_) (fun c1 => ?_)
  · have hf := gift c1 hf
    refine kw_step rfl rfl rfl rfl ?_
    cases hf
    exact kw_ret rfl rfl rfl hq
  · have hf := giff c1 hf
    refine kw_step rfl rfl rfl rfl ?_
    refine kw_get rfl (hH_O (rfl : kotab 21 = some kHo)) rfl ?_
    refine kw_step rfl rfl rfl rfl ?_
    obtain ⟨j2, i3, hf⟩ := gbI hf
    refine kw_sald rfl (hH_A (rfl : ktab 27 = some (2, 1024))) i3.1 i3.2.1 i3.2.2 ?_
    refine kw_if_le rfl rfl (fun c4 => ?_) (fun c4 => ?_)
    · have hf := gift c4 hf
      refine kw_step rfl rfl rfl rfl ?_
      cases hf
      exact kw_ret rfl rfl rfl hq
    · have hf := giff c4 hf
      refine kw_step rfl rfl rfl rfl ?_
      refine kw_get rfl (hH_O (rfl : kotab 21 = some kHo)) rfl ?_
      refine kw_step rfl rfl rfl rfl ?_
      obtain ⟨j5, i6, hf⟩ := gbI hf
      refine kw_sald rfl (hH_A (rfl : ktab 27 = some (2, 1024))) i6.1 i6.2.1 i6.2.2 ?_
      refine kw_step rfl rfl rfl rfl ?_
      refine kw_step rfl rfl rfl rfl ?_
      refine kw_step (L' := [some (kr 21), none, none, some (kI x3), some (kI x4), some (kI (wI ((s 27 j5) - 1)))]) rfl rfl rfl rfl ?_
      refine kw_step rfl rfl rfl rfl ?_
      refine kw_step rfl rfl rfl rfl ?_
      refine kw_get rfl (hH_O (rfl : kotab 21 = some kHo)) rfl ?_
      refine kw_icmp_ge rfl rfl (fun c7 => ?_) (fun c7 => ?_)
      · have hf := gift c7 hf
        exact kW_le (L' := [some (kr 21), none, none, some (kI x3), some (kI x4), none]) ⟨Or.inr rfl, Or.inl rfl, Or.inl rfl, Or.inr rfl, Or.inr rfl, Or.inl rfl, trivial⟩ (b_Search_freeSlot_56 x3 x4 s _ hf hq)
      · have hf := giff c7 hf
        refine kw_step rfl rfl rfl rfl ?_
        refine kw_get rfl (hH_O (rfl : kotab 21 = some kHo)) rfl ?_
        refine kw_step rfl rfl rfl rfl ?_
        obtain ⟨j8, i9, hf⟩ := gbI hf
        refine kw_lald rfl (hH_A (rfl : ktab 22 = some (3, 300))) i9.1 i9.2.1 i9.2.2 ?_
        refine kw_step rfl rfl rfl rfl ?_
        refine kw_get rfl (hH_O (rfl : kotab 21 = some kHo)) rfl ?_
        refine kw_lc_ne rfl rfl rfl (fun c10 => ?_) (fun c10 => ?_)
        · have hf := giff c10 hf
          exact kW_le (L' := [some (kr 21), none, none, some (kI x3), some (kI x4), none]) ⟨Or.inr rfl, Or.inl rfl, Or.inl rfl, Or.inr rfl, Or.inr rfl, Or.inl rfl, trivial⟩ (b_Search_freeSlot_56 x3 x4 s _ hf hq)
        · have hf := gift c10 hf
          refine kw_step rfl rfl rfl rfl ?_
          refine kw_get rfl (hH_O (rfl : kotab 21 = some kHo)) rfl ?_
          refine kw_step rfl rfl rfl rfl ?_
          obtain ⟨j11, i12, hf⟩ := gbI hf
          refine kw_lald rfl (hH_A (rfl : ktab 23 = some (3, 300))) i12.1 i12.2.1 i12.2.2 ?_
          refine kw_step rfl rfl rfl rfl ?_
          refine kw_get rfl (hH_O (rfl : kotab 21 = some kHo)) rfl ?_
          refine kw_lc_ne rfl rfl rfl (fun c13 => ?_) (fun c13 => ?_)
          · have hf := giff c13 hf
            exact kW_le (L' := [some (kr 21), none, none, some (kI x3), some (kI x4), none]) ⟨Or.inr rfl, Or.inl rfl, Or.inl rfl, Or.inr rfl, Or.inr rfl, Or.inl rfl, trivial⟩ (b_Search_freeSlot_56 x3 x4 s _ hf hq)
          · have hf := gift c13 hf
            refine kw_step rfl rfl rfl rfl ?_
            cases hf
            exact kw_ret rfl rfl rfl hq
def f_Search_freeSlot_19 (x3 : Int) (x4 : Int) (s : kM) : Option (Int) :=
  gL (fun (x : Int × Int) => f_Search_freeSlot_19b x.1 x.2 s) gF (x3, x4)
theorem b_Search_freeSlot_19 {sc : List Int} {Q : Option kV → kH → Prop} (x3 : Int) (x4 : Int) (s : kM) (t : Int) (hf : f_Search_freeSlot_19 x3 x4 s = some t) (hq : (fun r => Q (some (kI r)) (hH s)) t) : kW sc 0 kc_Search_freeSlot 1 19 [some (kr 21), none, none, some (kI x3), some (kI x4), none] [] (hH s) Q :=
  gL_ind (P := fun (x : Int × Int) => kW sc 0 kc_Search_freeSlot 1 19 [some (kr 21), none, none, some (kI x.1), some (kI x.2), none] [] (hH s) Q) (q := (fun r => Q (some (kI r)) (hH s))) (fun x t hf hq => b_Search_freeSlot_19b x.1 x.2 s t hf hq) gF (x3, x4) t hf hq
def f_Search_freeSlot (s : kM) : Option (Int) :=
  f_Search_freeSlot_19 (kand (wI (klushr (wL ((wL ((wL ((s 21 10) * 31)) + (s 21 11))) * (-7046029254386353131))) 54)) 1023) 0 s
set_option maxRecDepth 8000 in
theorem c_Search_freeSlot {sc : List Int} (s : kM) (t : Int) (hf : f_Search_freeSlot s = some t) : kR sc 0 km_Search_freeSlot [kr 21] (hH s) (some (kI t)) (hH s) := by
  unfold f_Search_freeSlot at hf
  refine kR.start rfl ?_
  show kW sc 0 kc_Search_freeSlot 1 0 [some (kr 21), none, none, none, none, none] [] (hH s) _
  have hq : (fun (r : Option kV) (g : kH) => r = some (kI t) ∧ g = hH s) (some (kI t)) (hH s) := ⟨rfl, rfl⟩
  refine kw_step rfl rfl rfl rfl ?_
  refine kw_get rfl (hH_O (rfl : kotab 21 = some kHo)) rfl ?_
  refine kw_step rfl rfl rfl rfl ?_
  refine kw_step rfl rfl rfl rfl ?_
  refine kw_step rfl rfl rfl rfl ?_
  refine kw_get rfl (hH_O (rfl : kotab 21 = some kHo)) rfl ?_
  refine kw_step rfl rfl rfl rfl ?_
  refine kw_step rfl rfl rfl rfl ?_
  refine kw_step rfl rfl rfl rfl ?_
  refine kw_step (L' := [some (kr 21), some (kJ (wL ((wL ((wL ((s 21 10) * 31)) + (s 21 11))) * (-7046029254386353131)))), none, none, none, none]) rfl rfl rfl rfl ?_
  refine kw_step rfl rfl rfl rfl ?_
  refine kw_step rfl rfl rfl rfl ?_
  refine kw_step rfl rfl rfl rfl ?_
  refine kw_step rfl rfl rfl rfl ?_
  refine kw_step rfl rfl rfl rfl ?_
  refine kw_step rfl rfl rfl rfl ?_
  refine kw_step (L' := [some (kr 21), some (kJ (wL ((wL ((wL ((s 21 10) * 31)) + (s 21 11))) * (-7046029254386353131)))), none, some (kI (kand (wI (klushr (wL ((wL ((wL ((s 21 10) * 31)) + (s 21 11))) * (-7046029254386353131))) 54)) 1023)), none, none]) rfl rfl rfl rfl ?_
  refine kw_step rfl rfl rfl rfl ?_
  refine kw_step (L' := [some (kr 21), some (kJ (wL ((wL ((wL ((s 21 10) * 31)) + (s 21 11))) * (-7046029254386353131)))), none, some (kI (kand (wI (klushr (wL ((wL ((wL ((s 21 10) * 31)) + (s 21 11))) * (-7046029254386353131))) 54)) 1023)), some (kI 0), none]) rfl rfl rfl rfl ?_
  exact kW_le (L' := [some (kr 21), none, none, some (kI (kand (wI (klushr (wL ((wL ((wL ((s 21 10) * 31)) + (s 21 11))) * (-7046029254386353131))) 54)) 1023)), some (kI 0), none]) ⟨Or.inr rfl, Or.inl rfl, Or.inl rfl, Or.inr rfl, Or.inr rfl, Or.inl rfl, trivial⟩ (b_Search_freeSlot_19 (kand (wI (klushr (wL ((wL ((wL ((s 21 10) * 31)) + (s 21 11))) * (-7046029254386353131))) 54)) 1023) 0 s _ hf hq)
def f_Search_add (x1 : Int) (x2 : Int) (x3 : Int) (s : kM) : Option (kM) :=
  if x1 < 0 then (some s) else (if (s 21 9) < 300 then ((gI 300 (s 21 9)).bind fun j3 => gLet (gU s 22 j3 (s 21 10)) fun s5 => (gI 300 (s5 21 9)).bind fun j8 => gLet (gU s5 23 j8 (s5 21 11)) fun s10 => (gI 300 (s10 21 9)).bind fun j13 => gLet (gU s10 24 j13 (ki2s (ki2s (s10 21 12)))) fun s15 => (gI 300 (s15 21 9)).bind fun j18 => gLet (gU s15 25 j18 (ki2s (ki2s x2))) fun s20 => (gI 300 (s20 21 9)).bind fun j23 => gLet (gU s20 26 j23 (ki2s (ki2s x3))) fun s25 => gLet (gU s25 21 9 (wI ((s25 21 9) + 1))) fun s28 => (gI 1024 x1).bind fun j31 => gLet (gU s28 27 j31 (ki2s (ki2s (s28 21 9)))) fun s33 => some s33) else (some s))
set_option maxRecDepth 8000 in
theorem c_Search_add {sc : List Int} (x1 : Int) (x2 : Int) (x3 : Int) (s : kM) (t : kM) (hf : f_Search_add x1 x2 x3 s = some t) : kR sc 0 km_Search_add [kr 21, kI x1, kI x2, kI x3] (hH s) none (hH t) := by
  unfold f_Search_add at hf
  refine kR.start rfl ?_
  show kW sc 0 kc_Search_add 0 0 [some (kr 21), some (kI x1), some (kI x2), some (kI x3)] [] (hH s) _
  have hq : (fun (r : Option kV) (g : kH) => r = none ∧ g = hH t) none (hH t) := ⟨rfl, rfl⟩
  refine kw_step rfl rfl rfl rfl ?_
  refine kw_if_lt rfl rfl (fun c1 => ?_) (fun c1 => ?_)
  · have hf := gift c1 hf
    cases hf
    exact kw_ret rfl rfl rfl hq
  · have hf := giff c1 hf
    refine kw_step rfl rfl rfl rfl ?_
    refine kw_get rfl (hH_O (rfl : kotab 21 = some kHo)) rfl ?_
    refine kw_step rfl rfl rfl rfl ?_
    refine kw_icmp_lt rfl rfl (fun c2 => ?_) (fun c2 => ?_)
    · have hf := gift c2 hf
      refine kw_step rfl rfl rfl rfl ?_
      refine kw_get rfl (hH_O (rfl : kotab 21 = some kHo)) rfl ?_
      refine kw_step rfl rfl rfl rfl ?_
      refine kw_get rfl (hH_O (rfl : kotab 21 = some kHo)) rfl ?_
      refine kw_step rfl rfl rfl rfl ?_
      refine kw_get rfl (hH_O (rfl : kotab 21 = some kHo)) rfl ?_
      obtain ⟨j3, i4, hf⟩ := gbI hf
      obtain ⟨s5, ee6, hf⟩ := gbL hf
      refine kw_lastH rfl (rfl : ktab 22 = some (3, 300)) i4.1 i4.2.1 i4.2.2 ee6 ?_
      refine kw_step rfl rfl rfl rfl ?_
      refine kw_get rfl (hH_O (rfl : kotab 21 = some kHo)) rfl ?_
      refine kw_step rfl rfl rfl rfl ?_
      refine kw_get rfl (hH_O (rfl : kotab 21 = some kHo)) rfl ?_
      refine kw_step rfl rfl rfl rfl ?_
      refine kw_get rfl (hH_O (rfl : kotab 21 = some kHo)) rfl ?_
      obtain ⟨j8, i9, hf⟩ := gbI hf
      obtain ⟨s10, ee11, hf⟩ := gbL hf
      refine kw_lastH rfl (rfl : ktab 23 = some (3, 300)) i9.1 i9.2.1 i9.2.2 ee11 ?_
      refine kw_step rfl rfl rfl rfl ?_
      refine kw_get rfl (hH_O (rfl : kotab 21 = some kHo)) rfl ?_
      refine kw_step rfl rfl rfl rfl ?_
      refine kw_get rfl (hH_O (rfl : kotab 21 = some kHo)) rfl ?_
      refine kw_step rfl rfl rfl rfl ?_
      refine kw_get rfl (hH_O (rfl : kotab 21 = some kHo)) rfl ?_
      refine kw_step rfl rfl rfl rfl ?_
      obtain ⟨j13, i14, hf⟩ := gbI hf
      obtain ⟨s15, ee16, hf⟩ := gbL hf
      refine kw_sastH rfl (rfl : ktab 24 = some (2, 300)) i14.1 i14.2.1 i14.2.2 ee16 ?_
      refine kw_step rfl rfl rfl rfl ?_
      refine kw_get rfl (hH_O (rfl : kotab 21 = some kHo)) rfl ?_
      refine kw_step rfl rfl rfl rfl ?_
      refine kw_get rfl (hH_O (rfl : kotab 21 = some kHo)) rfl ?_
      refine kw_step rfl rfl rfl rfl ?_
      refine kw_step rfl rfl rfl rfl ?_
      obtain ⟨j18, i19, hf⟩ := gbI hf
      obtain ⟨s20, ee21, hf⟩ := gbL hf
      refine kw_sastH rfl (rfl : ktab 25 = some (2, 300)) i19.1 i19.2.1 i19.2.2 ee21 ?_
      refine kw_step rfl rfl rfl rfl ?_
      refine kw_get rfl (hH_O (rfl : kotab 21 = some kHo)) rfl ?_
      refine kw_step rfl rfl rfl rfl ?_
      refine kw_get rfl (hH_O (rfl : kotab 21 = some kHo)) rfl ?_
      refine kw_step rfl rfl rfl rfl ?_
      refine kw_step rfl rfl rfl rfl ?_
      obtain ⟨j23, i24, hf⟩ := gbI hf
      obtain ⟨s25, ee26, hf⟩ := gbL hf
      refine kw_sastH rfl (rfl : ktab 26 = some (2, 300)) i24.1 i24.2.1 i24.2.2 ee26 ?_
      refine kw_step rfl rfl rfl rfl ?_
      refine kw_step rfl rfl rfl rfl ?_
      refine kw_get rfl (hH_O (rfl : kotab 21 = some kHo)) rfl ?_
      refine kw_step rfl rfl rfl rfl ?_
      refine kw_step rfl rfl rfl rfl ?_
      obtain ⟨s28, ee29, hf⟩ := gbL hf
      refine kw_putH rfl (rfl : kotab 21 = some kHo) rfl rfl rfl (Nat.le_of_ble_eq_true rfl) rfl ee29 ?_
      refine kw_step rfl rfl rfl rfl ?_
      refine kw_get rfl (hH_O (rfl : kotab 21 = some kHo)) rfl ?_
      refine kw_step rfl rfl rfl rfl ?_
      refine kw_step rfl rfl rfl rfl ?_
      refine kw_get rfl (hH_O (rfl : kotab 21 = some kHo)) rfl ?_
      refine kw_step rfl rfl rfl rfl ?_
      obtain ⟨j31, i32, hf⟩ := gbI hf
      obtain ⟨s33, ee34, hf⟩ := gbL hf
      refine kw_sastH rfl (rfl : ktab 27 = some (2, 1024)) i32.1 i32.2.1 i32.2.2 ee34 ?_
      cases hf
      exact kw_ret rfl rfl rfl hq
    · have hf := giff c2 hf
      cases hf
      exact kw_ret rfl rfl rfl hq
def f_Search_unpack_48 (x1 : Int) (x2 : Int) (s : kM) : Option ((Int × kM) ⊕ (kM)) :=
  some (.inl ((wI (x2 + 1)), s))
set_option maxRecDepth 8000 in
theorem b_Search_unpack_48 {sc : List Int} {Q : Option kV → kH → Prop} (x1 : Int) (x2 : Int) (s : kM) (t : (Int × kM) ⊕ (kM)) (hf : f_Search_unpack_48 x1 x2 s = some t) (hq : (gE (fun x => kW sc 2 kc_Search_unpack 0 6 [some (kr 21), some (kI x1), some (kI x.1), none, none, none] [] (hH x.2) Q) (fun r => Q none (hH r))) t) : kW sc 2 kc_Search_unpack 0 48 [some (kr 21), some (kI x1), some (kI x2), none, none, none] [] (hH s) Q := by
  unfold f_Search_unpack_48 at hf
  refine kw_step (L' := [some (kr 21), some (kI x1), some (kI (wI (x2 + 1))), none, none, none]) rfl rfl rfl rfl ?_
  refine kw_goto rfl rfl ?_
  cases hf
  exact kW_le (L' := [some (kr 21), some (kI x1), some (kI (wI (x2 + 1))), none, none, none]) ⟨Or.inr rfl, Or.inr rfl, Or.inr rfl, Or.inl rfl, Or.inl rfl, Or.inl rfl, trivial⟩ hq
def f_Search_unpack_31 (x1 : Int) (x2 : Int) (y0 : Int) (s : kM) : Option ((Int × kM) ⊕ (kM)) :=
  if (wI ((wI (klnd y0 31)) - 1)) < 0 then (f_Search_unpack_48 x1 x2 s) else (if 22 ≤ (wI ((wI (klnd y0 31)) - 1)) then (f_Search_unpack_48 x1 x2 s) else ((f_Town_append 28 (wI ((wI (klnd y0 31)) - 1)) s).bind fun q3 => f_Search_unpack_48 x1 x2 q3))
set_option maxRecDepth 8000 in
theorem b_Search_unpack_31 {sc : List Int} {Q : Option kV → kH → Prop} (x1 : Int) (x2 : Int) (y0 : Int) (s : kM) (t : (Int × kM) ⊕ (kM)) (hf : f_Search_unpack_31 x1 x2 y0 s = some t) (hq : (gE (fun x => kW sc 2 kc_Search_unpack 0 6 [some (kr 21), some (kI x1), some (kI x.1), none, none, none] [] (hH x.2) Q) (fun r => Q none (hH r))) t) : kW sc 2 kc_Search_unpack 0 31 [some (kr 21), some (kI x1), some (kI x2), none, none, none] [kJ y0] (hH s) Q := by
  unfold f_Search_unpack_31 at hf
  refine kw_step (L' := [some (kr 21), some (kI x1), some (kI x2), some (kJ y0), none, none]) rfl rfl rfl rfl ?_
  refine kw_step rfl rfl rfl rfl ?_
  refine kw_step rfl rfl rfl rfl ?_
  refine kw_step rfl rfl rfl rfl ?_
  refine kw_step rfl rfl rfl rfl ?_
  refine kw_step rfl rfl rfl rfl ?_
  refine kw_step rfl rfl rfl rfl ?_
  refine kw_step (L' := [some (kr 21), some (kI x1), some (kI x2), some (kJ y0), none, some (kI (wI ((wI (klnd y0 31)) - 1)))]) rfl rfl rfl rfl ?_
  refine kw_step rfl rfl rfl rfl ?_
  refine kw_if_lt rfl rfl (fun c1 => ?_) (fun c1 => ?_)
  · have hf := gift c1 hf
    exact kW_le (L' := [some (kr 21), some (kI x1), some (kI x2), none, none, none]) ⟨Or.inr rfl, Or.inr rfl, Or.inr rfl, Or.inl rfl, Or.inl rfl, Or.inl rfl, trivial⟩ (b_Search_unpack_48 x1 x2 s _ hf hq)
  · have hf := giff c1 hf
    refine kw_step rfl rfl rfl rfl ?_
    refine kw_step rfl rfl rfl rfl ?_
    refine kw_icmp_ge rfl rfl (fun c2 => ?_) (fun c2 => ?_)
    · have hf := gift c2 hf
      exact kW_le (L' := [some (kr 21), some (kI x1), some (kI x2), none, none, none]) ⟨Or.inr rfl, Or.inr rfl, Or.inr rfl, Or.inl rfl, Or.inl rfl, Or.inl rfl, trivial⟩ (b_Search_unpack_48 x1 x2 s _ hf hq)
    · have hf := giff c2 hf
      refine kw_step rfl rfl rfl rfl ?_
      refine kw_get rfl (hH_O (rfl : kotab 21 = some kHo)) rfl ?_
      refine kw_step rfl rfl rfl rfl ?_
      obtain ⟨q3, hq3, hf⟩ := gbind hf
      refine kw_callV (vs := [kI (wI ((wI (klnd y0 31)) - 1))]) rfl rfl rfl ⟨rfl, Nat.le_of_ble_eq_true rfl, Nat.le_of_ble_eq_true rfl, by decide⟩ (hH_O (tT_0 (b := 28) rfl)) (c_Town_append 28 (rfl : tT 28 = true) (wI ((wI (klnd y0 31)) - 1)) s _ hq3) (Nat.le_of_ble_eq_true rfl) ?_
      exact kW_le (L' := [some (kr 21), some (kI x1), some (kI x2), none, none, none]) ⟨Or.inr rfl, Or.inr rfl, Or.inr rfl, Or.inl rfl, Or.inl rfl, Or.inl rfl, trivial⟩ (b_Search_unpack_48 x1 x2 q3 _ hf hq)
def f_Search_unpack_6b (x1 : Int) (x2 : Int) (s : kM) : Option ((Int × kM) ⊕ (kM)) :=
  if 22 ≤ x2 then ((gI 300 x1).bind fun j2 => gLet (gU s 28 1 (s 24 j2)) fun s4 => (f_Town_settle 28 s4).bind fun q7 => some (.inr q7)) else (if 12 ≤ x2 then ((gI 300 x1).bind fun j10 => f_Search_unpack_31 x1 x2 (klshr (s 23 j10) (wI (5 * (wI (x2 - 12))))) s) else ((gI 300 x1).bind fun j12 => f_Search_unpack_31 x1 x2 (klshr (s 22 j12) (wI (5 * x2))) s))
set_option maxRecDepth 8000 in
theorem b_Search_unpack_6b {sc : List Int} {Q : Option kV → kH → Prop} (x1 : Int) (x2 : Int) (s : kM) (t : (Int × kM) ⊕ (kM)) (hf : f_Search_unpack_6b x1 x2 s = some t) (hq : (gE (fun x => kW sc 2 kc_Search_unpack 0 6 [some (kr 21), some (kI x1), some (kI x.1), none, none, none] [] (hH x.2) Q) (fun r => Q none (hH r))) t) : kW sc 2 kc_Search_unpack 0 6 [some (kr 21), some (kI x1), some (kI x2), none, none, none] [] (hH s) Q := by
  unfold f_Search_unpack_6b at hf
  refine kw_step rfl rfl rfl rfl ?_
  refine kw_step rfl rfl rfl rfl ?_
  refine kw_icmp_ge rfl rfl (fun c1 => ?_) (fun c1 => ?_)
  · have hf := gift c1 hf
    refine kw_step rfl rfl rfl rfl ?_
    refine kw_get rfl (hH_O (rfl : kotab 21 = some kHo)) rfl ?_
    refine kw_step rfl rfl rfl rfl ?_
    refine kw_get rfl (hH_O (rfl : kotab 21 = some kHo)) rfl ?_
    refine kw_step rfl rfl rfl rfl ?_
    obtain ⟨j2, i3, hf⟩ := gbI hf
    refine kw_sald rfl (hH_A (rfl : ktab 24 = some (2, 300))) i3.1 i3.2.1 i3.2.2 ?_
    obtain ⟨s4, ee5, hf⟩ := gbL hf
    refine kw_putH rfl (tT_0 (b := 28) rfl) rfl rfl rfl (Nat.le_of_ble_eq_true rfl) rfl ee5 ?_
    refine kw_step rfl rfl rfl rfl ?_
    refine kw_get rfl (hH_O (rfl : kotab 21 = some kHo)) rfl ?_
    obtain ⟨q7, hq7, hf⟩ := gbind hf
    refine kw_callV (vs := []) rfl rfl rfl ⟨rfl, Nat.le_of_ble_eq_true rfl, Nat.le_of_ble_eq_true rfl, by decide⟩ (hH_O (tT_0 (b := 28) rfl)) (c_Town_settle 28 (rfl : tT 28 = true) s4 _ hq7) (Nat.le_of_ble_eq_true rfl) ?_
    cases hf
    exact kw_ret rfl rfl rfl hq
  · have hf := giff c1 hf
    refine kw_step rfl rfl rfl rfl ?_
    refine kw_step rfl rfl rfl rfl ?_
    refine kw_icmp_ge rfl rfl (fun c9 => ?_) (fun c9 => ?_)
    · have hf := gift c9 hf
      refine kw_step rfl rfl rfl rfl ?_
      refine kw_get rfl (hH_O (rfl : kotab 21 = some kHo)) rfl ?_
      refine kw_step rfl rfl rfl rfl ?_
      obtain ⟨j10, i11, hf⟩ := gbI hf
      refine kw_lald rfl (hH_A (rfl : ktab 23 = some (3, 300))) i11.1 i11.2.1 i11.2.2 ?_
      refine kw_step rfl rfl rfl rfl ?_
      refine kw_step rfl rfl rfl rfl ?_
      refine kw_step rfl rfl rfl rfl ?_
      refine kw_step rfl rfl rfl rfl ?_
      refine kw_step rfl rfl rfl rfl ?_
      refine kw_step rfl rfl rfl rfl ?_
      exact kW_le (L' := [some (kr 21), some (kI x1), some (kI x2), none, none, none]) ⟨Or.inr rfl, Or.inr rfl, Or.inr rfl, Or.inl rfl, Or.inl rfl, Or.inl rfl, trivial⟩ (b_Search_unpack_31 x1 x2 (klshr (s 23 j10) (wI (5 * (wI (x2 - 12))))) s _ hf hq)
    · have hf := giff c9 hf
      refine kw_step rfl rfl rfl rfl ?_
      refine kw_get rfl (hH_O (rfl : kotab 21 = some kHo)) rfl ?_
      refine kw_step rfl rfl rfl rfl ?_
      obtain ⟨j12, i13, hf⟩ := gbI hf
      refine kw_lald rfl (hH_A (rfl : ktab 22 = some (3, 300))) i13.1 i13.2.1 i13.2.2 ?_
      refine kw_step rfl rfl rfl rfl ?_
      refine kw_step rfl rfl rfl rfl ?_
      refine kw_step rfl rfl rfl rfl ?_
      refine kw_step rfl rfl rfl rfl ?_
      refine kw_goto rfl rfl ?_
      exact kW_le (L' := [some (kr 21), some (kI x1), some (kI x2), none, none, none]) ⟨Or.inr rfl, Or.inr rfl, Or.inr rfl, Or.inl rfl, Or.inl rfl, Or.inl rfl, trivial⟩ (b_Search_unpack_31 x1 x2 (klshr (s 22 j12) (wI (5 * x2))) s _ hf hq)
def f_Search_unpack_6 (x1 : Int) (x2 : Int) (s : kM) : Option (kM) :=
  gL (fun (x : Int × kM) => f_Search_unpack_6b x1 x.1 x.2) gF (x2, s)
theorem b_Search_unpack_6 {sc : List Int} {Q : Option kV → kH → Prop} (x1 : Int) (x2 : Int) (s : kM) (t : kM) (hf : f_Search_unpack_6 x1 x2 s = some t) (hq : (fun r => Q none (hH r)) t) : kW sc 2 kc_Search_unpack 0 6 [some (kr 21), some (kI x1), some (kI x2), none, none, none] [] (hH s) Q :=
  gL_ind (P := fun (x : Int × kM) => kW sc 2 kc_Search_unpack 0 6 [some (kr 21), some (kI x1), some (kI x.1), none, none, none] [] (hH x.2) Q) (q := (fun r => Q none (hH r))) (fun x t hf hq => b_Search_unpack_6b x1 x.1 x.2 t hf hq) gF (x2, s) t hf hq
def f_Search_unpack (x1 : Int) (s : kM) : Option (kM) :=
  gLet (gU s 28 2 0) fun s1 => f_Search_unpack_6 x1 0 s1
set_option maxRecDepth 8000 in
theorem c_Search_unpack {sc : List Int} (x1 : Int) (s : kM) (t : kM) (hf : f_Search_unpack x1 s = some t) : kR sc 2 km_Search_unpack [kr 21, kI x1] (hH s) none (hH t) := by
  unfold f_Search_unpack at hf
  refine kR.start rfl ?_
  show kW sc 2 kc_Search_unpack 0 0 [some (kr 21), some (kI x1), none, none, none, none] [] (hH s) _
  have hq : (fun (r : Option kV) (g : kH) => r = none ∧ g = hH t) none (hH t) := ⟨rfl, rfl⟩
  refine kw_step rfl rfl rfl rfl ?_
  refine kw_get rfl (hH_O (rfl : kotab 21 = some kHo)) rfl ?_
  refine kw_step rfl rfl rfl rfl ?_
  obtain ⟨s1, ee2, hf⟩ := gbL hf
  refine kw_putH rfl (tT_0 (b := 28) rfl) rfl rfl rfl (Nat.le_of_ble_eq_true rfl) rfl ee2 ?_
  refine kw_step rfl rfl rfl rfl ?_
  refine kw_step (L' := [some (kr 21), some (kI x1), some (kI 0), none, none, none]) rfl rfl rfl rfl ?_
  exact kW_le (L' := [some (kr 21), some (kI x1), some (kI 0), none, none, none]) ⟨Or.inr rfl, Or.inr rfl, Or.inr rfl, Or.inl rfl, Or.inl rfl, Or.inl rfl, trivial⟩ (b_Search_unpack_6 x1 0 s1 _ hf hq)
def f_Search_packBehind (x1 : Int) (s : kM) : Option (kM) :=
  (f_Land_gone 40 x1 s).bind fun q1 => if q1 = 0 then ((f_Land_perform 40 28 x1 s).bind fun q3 => (f_Search_pack 0 q3).bind fun q5 => (f_Land_perform 40 28 x1 q5).bind fun q7 => some q7) else ((f_Search_pack q1 s).bind fun q9 => some q9)
set_option maxRecDepth 8000 in
theorem c_Search_packBehind {sc : List Int} (x1 : Int) (s : kM) (t : kM) (hf : f_Search_packBehind x1 s = some t) : kR sc 3 km_Search_packBehind [kr 21, kI x1] (hH s) none (hH t) := by
  unfold f_Search_packBehind at hf
  refine kR.start rfl ?_
  show kW sc 3 kc_Search_packBehind 0 0 [some (kr 21), some (kI x1), none] [] (hH s) _
  have hq : (fun (r : Option kV) (g : kH) => r = none ∧ g = hH t) none (hH t) := ⟨rfl, rfl⟩
  refine kw_step rfl rfl rfl rfl ?_
  refine kw_get rfl (hH_O (rfl : kotab 21 = some kHo)) rfl ?_
  refine kw_step rfl rfl rfl rfl ?_
  obtain ⟨q1, hq1, hf⟩ := gbind hf
  refine kw_callV (vs := [kI x1]) rfl rfl rfl ⟨rfl, Nat.le_of_ble_eq_true rfl, Nat.le_of_ble_eq_true rfl, by decide⟩ (hH_O (tL_0 (b := 40) rfl)) (c_Land_gone 40 (rfl : tL 40 = true) x1 s _ hq1) (Nat.le_of_ble_eq_true rfl) ?_
  refine kw_step (L' := [some (kr 21), some (kI x1), some (kI q1)]) rfl rfl rfl rfl ?_
  refine kw_step rfl rfl rfl rfl ?_
  refine kw_if_eq rfl rfl (fun c2 => ?_) (fun c2 => ?_)
  · have hf := gift c2 hf
    refine kw_step rfl rfl rfl rfl ?_
    refine kw_get rfl (hH_O (rfl : kotab 21 = some kHo)) rfl ?_
    refine kw_step rfl rfl rfl rfl ?_
    refine kw_get rfl (hH_O (rfl : kotab 21 = some kHo)) rfl ?_
    refine kw_step rfl rfl rfl rfl ?_
    obtain ⟨q3, hq3, hf⟩ := gbind hf
    refine kw_callV (vs := [kr 28, kI x1]) rfl rfl rfl ⟨rfl, Nat.le_of_ble_eq_true rfl, Nat.le_of_ble_eq_true rfl, by decide⟩ (hH_O (tL_0 (b := 40) rfl)) (c_Land_perform 40 28 (rfl : tL 40 = true) (rfl : tT 28 = true) x1 s _ hq3) (Nat.le_of_ble_eq_true rfl) ?_
    refine kw_step rfl rfl rfl rfl ?_
    refine kw_step rfl rfl rfl rfl ?_
    obtain ⟨q5, hq5, hf⟩ := gbind hf
    refine kw_callV (vs := [kI 0]) rfl rfl rfl ⟨rfl, Nat.le_of_ble_eq_true rfl, Nat.le_of_ble_eq_true rfl, by decide⟩ (hH_O (rfl : kotab 21 = some kHo)) (c_Search_pack 0 q3 _ hq5) (Nat.le_of_ble_eq_true rfl) ?_
    refine kw_step rfl rfl rfl rfl ?_
    refine kw_get rfl (hH_O (rfl : kotab 21 = some kHo)) rfl ?_
    refine kw_step rfl rfl rfl rfl ?_
    refine kw_get rfl (hH_O (rfl : kotab 21 = some kHo)) rfl ?_
    refine kw_step rfl rfl rfl rfl ?_
    obtain ⟨q7, hq7, hf⟩ := gbind hf
    refine kw_callV (vs := [kr 28, kI x1]) rfl rfl rfl ⟨rfl, Nat.le_of_ble_eq_true rfl, Nat.le_of_ble_eq_true rfl, by decide⟩ (hH_O (tL_0 (b := 40) rfl)) (c_Land_perform 40 28 (rfl : tL 40 = true) (rfl : tT 28 = true) x1 q5 _ hq7) (Nat.le_of_ble_eq_true rfl) ?_
    cases hf
    exact kw_ret rfl rfl rfl hq
  · have hf := giff c2 hf
    refine kw_step rfl rfl rfl rfl ?_
    refine kw_step rfl rfl rfl rfl ?_
    obtain ⟨q9, hq9, hf⟩ := gbind hf
    refine kw_callV (vs := [kI q1]) rfl rfl rfl ⟨rfl, Nat.le_of_ble_eq_true rfl, Nat.le_of_ble_eq_true rfl, by decide⟩ (hH_O (rfl : kotab 21 = some kHo)) (c_Search_pack q1 s _ hq9) (Nat.le_of_ble_eq_true rfl) ?_
    cases hf
    exact kw_ret rfl rfl rfl hq
def f_Search_goOnFrom_57 (x1 : Int) (x2 : Int) (s : kM) : Option ((Int × kM) ⊕ (Int × kM)) :=
  some (.inl ((wI (x2 + 1)), s))
set_option maxRecDepth 8000 in
theorem b_Search_goOnFrom_57 {sc : List Int} {Q : Option kV → kH → Prop} (x1 : Int) (x2 : Int) (s : kM) (t : (Int × kM) ⊕ (Int × kM)) (hf : f_Search_goOnFrom_57 x1 x2 s = some t) (hq : (gE (fun x => kW sc 4 kc_Search_goOnFrom 1 10 [some (kr 21), some (kI x1), some (kI x.1), none] [] (hH x.2) Q) (fun r => Q (some (kI r.1)) (hH r.2))) t) : kW sc 4 kc_Search_goOnFrom 1 57 [some (kr 21), some (kI x1), some (kI x2), none] [] (hH s) Q := by
  unfold f_Search_goOnFrom_57 at hf
  refine kw_step (L' := [some (kr 21), some (kI x1), some (kI (wI (x2 + 1))), none]) rfl rfl rfl rfl ?_
  refine kw_goto rfl rfl ?_
  cases hf
  exact kW_le (L' := [some (kr 21), some (kI x1), some (kI (wI (x2 + 1))), none]) ⟨Or.inr rfl, Or.inr rfl, Or.inr rfl, Or.inl rfl, trivial⟩ hq
def f_Search_goOnFrom_46 (x1 : Int) (x2 : Int) (x3 : Int) (s : kM) : Option ((Int × kM) ⊕ (Int × kM)) :=
  if x3 < 0 then (f_Search_goOnFrom_57 x1 x2 s) else ((gI 48 x2).bind fun j2 => (f_Search_add x3 x1 (s 41 j2) s).bind fun q4 => f_Search_goOnFrom_57 x1 x2 q4)
set_option maxRecDepth 8000 in
theorem b_Search_goOnFrom_46 {sc : List Int} {Q : Option kV → kH → Prop} (x1 : Int) (x2 : Int) (x3 : Int) (s : kM) (t : (Int × kM) ⊕ (Int × kM)) (hf : f_Search_goOnFrom_46 x1 x2 x3 s = some t) (hq : (gE (fun x => kW sc 4 kc_Search_goOnFrom 1 10 [some (kr 21), some (kI x1), some (kI x.1), none] [] (hH x.2) Q) (fun r => Q (some (kI r.1)) (hH r.2))) t) : kW sc 4 kc_Search_goOnFrom 1 46 [some (kr 21), some (kI x1), some (kI x2), some (kI x3)] [] (hH s) Q := by
  unfold f_Search_goOnFrom_46 at hf
  refine kw_step rfl rfl rfl rfl ?_
  refine kw_if_lt rfl rfl (fun c1 => ?_) (fun c1 => ?_)
  · have hf := gift c1 hf
    exact kW_le (L' := [some (kr 21), some (kI x1), some (kI x2), none]) ⟨Or.inr rfl, Or.inr rfl, Or.inr rfl, Or.inl rfl, trivial⟩ (b_Search_goOnFrom_57 x1 x2 s _ hf hq)
  · have hf := giff c1 hf
    refine kw_step rfl rfl rfl rfl ?_
    refine kw_step rfl rfl rfl rfl ?_
    refine kw_step rfl rfl rfl rfl ?_
    refine kw_step rfl rfl rfl rfl ?_
    refine kw_get rfl (hH_O (rfl : kotab 21 = some kHo)) rfl ?_
    refine kw_get rfl (hH_O (tL_0 (b := 40) rfl)) rfl ?_
    refine kw_step rfl rfl rfl rfl ?_
    obtain ⟨j2, i3, hf⟩ := gbI hf
    refine kw_iald rfl (hH_A (rfl : ktab 41 = some (0, 48))) i3.1 i3.2.1 i3.2.2 ?_
    obtain ⟨q4, hq4, hf⟩ := gbind hf
    refine kw_callV (vs := [kI x3, kI x1, kI (s 41 j2)]) rfl rfl rfl ⟨rfl, Nat.le_of_ble_eq_true rfl, Nat.le_of_ble_eq_true rfl, by decide⟩ (hH_O (rfl : kotab 21 = some kHo)) (c_Search_add x3 x1 (s 41 j2) s _ hq4) (Nat.le_of_ble_eq_true rfl) ?_
    exact kW_le (L' := [some (kr 21), some (kI x1), some (kI x2), none]) ⟨Or.inr rfl, Or.inr rfl, Or.inr rfl, Or.inl rfl, trivial⟩ (b_Search_goOnFrom_57 x1 x2 q4 _ hf hq)
def f_Search_goOnFrom_10b (x1 : Int) (x2 : Int) (s : kM) : Option ((Int × kM) ⊕ (Int × kM)) :=
  if (s 40 6) ≤ x2 then (some (.inr ((-2), s))) else ((f_Search_packBehind x2 s).bind fun q2 => if (q2 21 10) = 0 then (gLet (gU q2 21 13 x1) fun s8 => (gI 48 x2).bind fun j11 => gLet (gU s8 21 14 (s8 41 j11)) fun s13 => some (.inr (0, s13))) else ((f_Search_freeSlot q2).bind fun q5 => if q5 < 0 then (f_Search_goOnFrom_46 x1 x2 q5 q2) else (if (q2 21 9) < 300 then (f_Search_goOnFrom_46 x1 x2 q5 q2) else (some (.inr ((-3), q2))))))
set_option maxRecDepth 8000 in
theorem b_Search_goOnFrom_10b {sc : List Int} {Q : Option kV → kH → Prop} (x1 : Int) (x2 : Int) (s : kM) (t : (Int × kM) ⊕ (Int × kM)) (hf : f_Search_goOnFrom_10b x1 x2 s = some t) (hq : (gE (fun x => kW sc 4 kc_Search_goOnFrom 1 10 [some (kr 21), some (kI x1), some (kI x.1), none] [] (hH x.2) Q) (fun r => Q (some (kI r.1)) (hH r.2))) t) : kW sc 4 kc_Search_goOnFrom 1 10 [some (kr 21), some (kI x1), some (kI x2), none] [] (hH s) Q := by
  unfold f_Search_goOnFrom_10b at hf
  refine kw_step rfl rfl rfl rfl ?_
  refine kw_step rfl rfl rfl rfl ?_
  refine kw_get rfl (hH_O (rfl : kotab 21 = some kHo)) rfl ?_
  refine kw_get rfl (hH_O (tL_0 (b := 40) rfl)) rfl ?_
  refine kw_icmp_ge rfl rfl (fun c1 => ?_) (fun c1 => ?_)
  · have hf := gift c1 hf
    refine kw_step rfl rfl rfl rfl ?_
    cases hf
    exact kw_ret rfl rfl rfl hq
  · have hf := giff c1 hf
    refine kw_step rfl rfl rfl rfl ?_
    refine kw_step rfl rfl rfl rfl ?_
    obtain ⟨q2, hq2, hf⟩ := gbind hf
    refine kw_callV (vs := [kI x2]) rfl rfl rfl ⟨rfl, Nat.le_of_ble_eq_true rfl, Nat.le_of_ble_eq_true rfl, by decide⟩ (hH_O (rfl : kotab 21 = some kHo)) (c_Search_packBehind x2 s _ hq2) (Nat.le_of_ble_eq_true rfl) ?_
    refine kw_step rfl rfl rfl rfl ?_
    refine kw_get rfl (hH_O (rfl : kotab 21 = some kHo)) rfl ?_
    refine kw_step rfl rfl rfl rfl ?_
    refine kw_lc_ne rfl rfl rfl (fun c4 => ?_) (fun c4 => ?_)
    · have hf := giff c4 hf
      refine kw_step rfl rfl rfl rfl ?_
      obtain ⟨q5, hq5, hf⟩ := gbind hf
      refine kw_callV (vs := []) rfl rfl rfl ⟨rfl, Nat.le_of_ble_eq_true rfl, Nat.le_of_ble_eq_true rfl, by decide⟩ (hH_O (rfl : kotab 21 = some kHo)) (c_Search_freeSlot q2 _ hq5) (Nat.le_of_ble_eq_true rfl) ?_
      refine kw_step (L' := [some (kr 21), some (kI x1), some (kI x2), some (kI q5)]) rfl rfl rfl rfl ?_
      refine kw_step rfl rfl rfl rfl ?_
      refine kw_if_lt rfl rfl (fun c6 => ?_) (fun c6 => ?_)
      · have hf := gift c6 hf
        exact kW_le (L' := [some (kr 21), some (kI x1), some (kI x2), some (kI q5)]) ⟨Or.inr rfl, Or.inr rfl, Or.inr rfl, Or.inr rfl, trivial⟩ (b_Search_goOnFrom_46 x1 x2 q5 q2 _ hf hq)
      · have hf := giff c6 hf
        refine kw_step rfl rfl rfl rfl ?_
        refine kw_get rfl (hH_O (rfl : kotab 21 = some kHo)) rfl ?_
        refine kw_step rfl rfl rfl rfl ?_
        refine kw_icmp_lt rfl rfl (fun c7 => ?_) (fun c7 => ?_)
        · have hf := gift c7 hf
          exact kW_le (L' := [some (kr 21), some (kI x1), some (kI x2), some (kI q5)]) ⟨Or.inr rfl, Or.inr rfl, Or.inr rfl, Or.inr rfl, trivial⟩ (b_Search_goOnFrom_46 x1 x2 q5 q2 _ hf hq)
        · have hf := giff c7 hf
          refine kw_step rfl rfl rfl rfl ?_
          cases hf
          exact kw_ret rfl rfl rfl hq
    · have hf := gift c4 hf
      refine kw_step rfl rfl rfl rfl ?_
      refine kw_step rfl rfl rfl rfl ?_
      obtain ⟨s8, ee9, hf⟩ := gbL hf
      refine kw_putH rfl (rfl : kotab 21 = some kHo) rfl rfl rfl (Nat.le_of_ble_eq_true rfl) rfl ee9 ?_
      refine kw_step rfl rfl rfl rfl ?_
      refine kw_step rfl rfl rfl rfl ?_
      refine kw_get rfl (hH_O (rfl : kotab 21 = some kHo)) rfl ?_
      refine kw_get rfl (hH_O (tL_0 (b := 40) rfl)) rfl ?_
      refine kw_step rfl rfl rfl rfl ?_
      obtain ⟨j11, i12, hf⟩ := gbI hf
      refine kw_iald rfl (hH_A (rfl : ktab 41 = some (0, 48))) i12.1 i12.2.1 i12.2.2 ?_
      obtain ⟨s13, ee14, hf⟩ := gbL hf
      refine kw_putH rfl (rfl : kotab 21 = some kHo) rfl rfl rfl (Nat.le_of_ble_eq_true rfl) rfl ee14 ?_
      refine kw_step rfl rfl rfl rfl ?_
      cases hf
      exact kw_ret rfl rfl rfl hq
def f_Search_goOnFrom_10 (x1 : Int) (x2 : Int) (s : kM) : Option (Int × kM) :=
  gL (fun (x : Int × kM) => f_Search_goOnFrom_10b x1 x.1 x.2) gF (x2, s)
theorem b_Search_goOnFrom_10 {sc : List Int} {Q : Option kV → kH → Prop} (x1 : Int) (x2 : Int) (s : kM) (t : Int × kM) (hf : f_Search_goOnFrom_10 x1 x2 s = some t) (hq : (fun r => Q (some (kI r.1)) (hH r.2)) t) : kW sc 4 kc_Search_goOnFrom 1 10 [some (kr 21), some (kI x1), some (kI x2), none] [] (hH s) Q :=
  gL_ind (P := fun (x : Int × kM) => kW sc 4 kc_Search_goOnFrom 1 10 [some (kr 21), some (kI x1), some (kI x.1), none] [] (hH x.2) Q) (q := (fun r => Q (some (kI r.1)) (hH r.2))) (fun x t hf hq => b_Search_goOnFrom_10b x1 x.1 x.2 t hf hq) gF (x2, s) t hf hq
def f_Search_goOnFrom (x1 : Int) (s : kM) : Option (Int × kM) :=
  (f_Search_unpack x1 s).bind fun q1 => (f_Land_survey 40 28 q1).bind fun q3 => f_Search_goOnFrom_10 x1 0 q3
set_option maxRecDepth 8000 in
theorem c_Search_goOnFrom {sc : List Int} (x1 : Int) (s : kM) (t : Int × kM) (hf : f_Search_goOnFrom x1 s = some t) : kR sc 4 km_Search_goOnFrom [kr 21, kI x1] (hH s) (some (kI t.1)) (hH t.2) := by
  unfold f_Search_goOnFrom at hf
  refine kR.start rfl ?_
  show kW sc 4 kc_Search_goOnFrom 1 0 [some (kr 21), some (kI x1), none, none] [] (hH s) _
  have hq : (fun (r : Option kV) (g : kH) => r = some (kI t.1) ∧ g = hH t.2) (some (kI t.1)) (hH t.2) := ⟨rfl, rfl⟩
  refine kw_step rfl rfl rfl rfl ?_
  refine kw_step rfl rfl rfl rfl ?_
  obtain ⟨q1, hq1, hf⟩ := gbind hf
  refine kw_callV (vs := [kI x1]) rfl rfl rfl ⟨rfl, Nat.le_of_ble_eq_true rfl, Nat.le_of_ble_eq_true rfl, by decide⟩ (hH_O (rfl : kotab 21 = some kHo)) (c_Search_unpack x1 s _ hq1) (Nat.le_of_ble_eq_true rfl) ?_
  refine kw_step rfl rfl rfl rfl ?_
  refine kw_get rfl (hH_O (rfl : kotab 21 = some kHo)) rfl ?_
  refine kw_step rfl rfl rfl rfl ?_
  refine kw_get rfl (hH_O (rfl : kotab 21 = some kHo)) rfl ?_
  obtain ⟨q3, hq3, hf⟩ := gbind hf
  refine kw_callV (vs := [kr 28]) rfl rfl rfl ⟨rfl, Nat.le_of_ble_eq_true rfl, Nat.le_of_ble_eq_true rfl, by decide⟩ (hH_O (tL_0 (b := 40) rfl)) (c_Land_survey 40 28 (rfl : tL 40 = true) (rfl : tT 28 = true) q1 _ hq3) (Nat.le_of_ble_eq_true rfl) ?_
  refine kw_step rfl rfl rfl rfl ?_
  refine kw_step (L' := [some (kr 21), some (kI x1), some (kI 0), none]) rfl rfl rfl rfl ?_
  exact kW_le (L' := [some (kr 21), some (kI x1), some (kI 0), none]) ⟨Or.inr rfl, Or.inr rfl, Or.inr rfl, Or.inl rfl, trivial⟩ (b_Search_goOnFrom_10 x1 0 q3 _ hf hq)
def f_Search_depthOf_6b (x2 : Int) (x3 : Int) (x4 : Int) (s : kM) : Option ((Int × Int × Int) ⊕ (Int)) :=
  if 300 ≤ x4 then (some (.inr x2)) else (if x3 ≤ 0 then (some (.inr x2)) else (if (s 21 9) ≤ x3 then (some (.inr x2)) else ((gI 300 x3).bind fun j4 => some (.inl ((wI (x2 + 1)), (s 25 j4), (wI (x4 + 1)))))))
set_option maxRecDepth 8000 in
theorem b_Search_depthOf_6b {sc : List Int} {Q : Option kV → kH → Prop} (x2 : Int) (x3 : Int) (x4 : Int) (s : kM) (t : (Int × Int × Int) ⊕ (Int)) (hf : f_Search_depthOf_6b x2 x3 x4 s = some t) (hq : (gE (fun x => kW sc 0 kc_Search_depthOf 1 6 [some (kr 21), none, some (kI x.1), some (kI x.2.1), some (kI x.2.2)] [] (hH s) Q) (fun r => Q (some (kI r)) (hH s))) t) : kW sc 0 kc_Search_depthOf 1 6 [some (kr 21), none, some (kI x2), some (kI x3), some (kI x4)] [] (hH s) Q := by
  unfold f_Search_depthOf_6b at hf
  refine kw_step rfl rfl rfl rfl ?_
  refine kw_step rfl rfl rfl rfl ?_
  refine kw_icmp_ge rfl rfl (fun c1 => ?_) (fun c1 => ?_)
  · have hf := gift c1 hf
    refine kw_step rfl rfl rfl rfl ?_
    cases hf
    exact kw_ret rfl rfl rfl hq
  · have hf := giff c1 hf
    refine kw_step rfl rfl rfl rfl ?_
    refine kw_if_le rfl rfl (fun c2 => ?_) (fun c2 => ?_)
    · have hf := gift c2 hf
      refine kw_step rfl rfl rfl rfl ?_
      cases hf
      exact kw_ret rfl rfl rfl hq
    · have hf := giff c2 hf
      refine kw_step rfl rfl rfl rfl ?_
      refine kw_step rfl rfl rfl rfl ?_
      refine kw_get rfl (hH_O (rfl : kotab 21 = some kHo)) rfl ?_
      refine kw_icmp_ge rfl rfl (fun c3 => ?_) (fun c3 => ?_)
      · have hf := gift c3 hf
        refine kw_step rfl rfl rfl rfl ?_
        cases hf
        exact kw_ret rfl rfl rfl hq
      · have hf := giff c3 hf
        refine kw_step rfl rfl rfl rfl ?_
        refine kw_get rfl (hH_O (rfl : kotab 21 = some kHo)) rfl ?_
        refine kw_step rfl rfl rfl rfl ?_
        obtain ⟨j4, i5, hf⟩ := gbI hf
        refine kw_sald rfl (hH_A (rfl : ktab 25 = some (2, 300))) i5.1 i5.2.1 i5.2.2 ?_
        refine kw_step (L' := [some (kr 21), none, some (kI x2), some (kI (s 25 j4)), some (kI x4)]) rfl rfl rfl rfl ?_
        refine kw_step (L' := [some (kr 21), none, some (kI (wI (x2 + 1))), some (kI (s 25 j4)), some (kI x4)]) rfl rfl rfl rfl ?_
        refine kw_step (L' := [some (kr 21), none, some (kI (wI (x2 + 1))), some (kI (s 25 j4)), some (kI (wI (x4 + 1)))]) rfl rfl rfl rfl ?_
        refine kw_goto rfl rfl ?_
        cases hf
        exact kW_le (L' := [some (kr 21), none, some (kI (wI (x2 + 1))), some (kI (s 25 j4)), some (kI (wI (x4 + 1)))]) ⟨Or.inr rfl, Or.inl rfl, Or.inr rfl, Or.inr rfl, Or.inr rfl, trivial⟩ hq
def f_Search_depthOf_6 (x2 : Int) (x3 : Int) (x4 : Int) (s : kM) : Option (Int) :=
  gL (fun (x : Int × Int × Int) => f_Search_depthOf_6b x.1 x.2.1 x.2.2 s) gF (x2, x3, x4)
theorem b_Search_depthOf_6 {sc : List Int} {Q : Option kV → kH → Prop} (x2 : Int) (x3 : Int) (x4 : Int) (s : kM) (t : Int) (hf : f_Search_depthOf_6 x2 x3 x4 s = some t) (hq : (fun r => Q (some (kI r)) (hH s)) t) : kW sc 0 kc_Search_depthOf 1 6 [some (kr 21), none, some (kI x2), some (kI x3), some (kI x4)] [] (hH s) Q :=
  gL_ind (P := fun (x : Int × Int × Int) => kW sc 0 kc_Search_depthOf 1 6 [some (kr 21), none, some (kI x.1), some (kI x.2.1), some (kI x.2.2)] [] (hH s) Q) (q := (fun r => Q (some (kI r)) (hH s))) (fun x t hf hq => b_Search_depthOf_6b x.1 x.2.1 x.2.2 s t hf hq) gF (x2, x3, x4) t hf hq
def f_Search_depthOf (x1 : Int) (s : kM) : Option (Int) :=
  f_Search_depthOf_6 0 x1 0 s
set_option maxRecDepth 8000 in
theorem c_Search_depthOf {sc : List Int} (x1 : Int) (s : kM) (t : Int) (hf : f_Search_depthOf x1 s = some t) : kR sc 0 km_Search_depthOf [kr 21, kI x1] (hH s) (some (kI t)) (hH s) := by
  unfold f_Search_depthOf at hf
  refine kR.start rfl ?_
  show kW sc 0 kc_Search_depthOf 1 0 [some (kr 21), some (kI x1), none, none, none] [] (hH s) _
  have hq : (fun (r : Option kV) (g : kH) => r = some (kI t) ∧ g = hH s) (some (kI t)) (hH s) := ⟨rfl, rfl⟩
  refine kw_step rfl rfl rfl rfl ?_
  refine kw_step (L' := [some (kr 21), some (kI x1), some (kI 0), none, none]) rfl rfl rfl rfl ?_
  refine kw_step rfl rfl rfl rfl ?_
  refine kw_step (L' := [some (kr 21), some (kI x1), some (kI 0), some (kI x1), none]) rfl rfl rfl rfl ?_
  refine kw_step rfl rfl rfl rfl ?_
  refine kw_step (L' := [some (kr 21), some (kI x1), some (kI 0), some (kI x1), some (kI 0)]) rfl rfl rfl rfl ?_
  exact kW_le (L' := [some (kr 21), none, some (kI 0), some (kI x1), some (kI 0)]) ⟨Or.inr rfl, Or.inl rfl, Or.inr rfl, Or.inr rfl, Or.inr rfl, trivial⟩ (b_Search_depthOf_6 0 x1 0 s _ hf hq)
def f_Search_shake_27b (b1 : Nat) (x2 : Int) (s : kM) : Option ((Int × kM) ⊕ (Int × kM)) :=
  if (s 21 9) ≤ x2 then (some (.inr ((-2), s))) else (if 300 ≤ x2 then (some (.inr ((-2), s))) else ((f_Search_goOnFrom x2 s).bind fun q3 => if q3.1 = (-2) then (some (.inl ((wI (x2 + 1)), q3.2))) else (if q3.1 = (-3) then (some (.inr ((-3), q3.2))) else ((f_Search_depthOf (q3.2 21 13) q3.2).bind fun q7 => some (.inr ((wI (q7 + 1)), q3.2))))))
set_option maxRecDepth 8000 in
theorem b_Search_shake_27b {sc : List Int} {Q : Option kV → kH → Prop} (b1 : Nat) (hb1 : tT b1 = true) (x2 : Int) (s : kM) (t : (Int × kM) ⊕ (Int × kM)) (hf : f_Search_shake_27b b1 x2 s = some t) (hq : (gE (fun x => kW sc 5 kc_Search_shake 1 27 [some (kr 21), none, some (kI x.1), none] [] (hH x.2) Q) (fun r => Q (some (kI r.1)) (hH r.2))) t) : kW sc 5 kc_Search_shake 1 27 [some (kr 21), none, some (kI x2), none] [] (hH s) Q := by
  unfold f_Search_shake_27b at hf
  refine kw_step rfl rfl rfl rfl ?_
  refine kw_step rfl rfl rfl rfl ?_
  refine kw_get rfl (hH_O (rfl : kotab 21 = some kHo)) rfl ?_
  refine kw_icmp_ge rfl rfl (fun c1 => ?_) (fun c1 => ?_)
  · have hf := gift c1 hf
    refine kw_step rfl rfl rfl rfl ?_
    cases hf
    exact kw_ret rfl rfl rfl hq
  · have hf := giff c1 hf
    refine kw_step rfl rfl rfl rfl ?_
    refine kw_step rfl rfl rfl rfl ?_
    refine kw_icmp_ge rfl rfl (fun c2 => ?_) (fun c2 => ?_)
    · have hf := gift c2 hf
      refine kw_step rfl rfl rfl rfl ?_
      cases hf
      exact kw_ret rfl rfl rfl hq
    · have hf := giff c2 hf
      refine kw_step rfl rfl rfl rfl ?_
      refine kw_step rfl rfl rfl rfl ?_
      obtain ⟨q3, hq3, hf⟩ := gbind hf
      refine kw_callV (vs := [kI x2]) rfl rfl rfl ⟨rfl, Nat.le_of_ble_eq_true rfl, Nat.le_of_ble_eq_true rfl, by decide⟩ (hH_O (rfl : kotab 21 = some kHo)) (c_Search_goOnFrom x2 s _ hq3) (Nat.le_of_ble_eq_true rfl) ?_
      refine kw_step (L' := [some (kr 21), none, some (kI x2), some (kI q3.1)]) rfl rfl rfl rfl ?_
      refine kw_step rfl rfl rfl rfl ?_
      refine kw_step rfl rfl rfl rfl ?_
      refine kw_icmp_eq rfl rfl (fun c5 => ?_) (fun c5 => ?_)
      · have hf := gift c5 hf
        refine kw_step (L' := [some (kr 21), none, some (kI (wI (x2 + 1))), some (kI q3.1)]) rfl rfl rfl rfl ?_
        refine kw_goto rfl rfl ?_
        cases hf
        exact kW_le (L' := [some (kr 21), none, some (kI (wI (x2 + 1))), none]) ⟨Or.inr rfl, Or.inl rfl, Or.inr rfl, Or.inl rfl, trivial⟩ hq
      · have hf := giff c5 hf
        refine kw_step rfl rfl rfl rfl ?_
        refine kw_step rfl rfl rfl rfl ?_
        refine kw_icmp_ne rfl rfl (fun c6 => ?_) (fun c6 => ?_)
        · have hf := giff c6 hf
          refine kw_step rfl rfl rfl rfl ?_
          refine kw_step rfl rfl rfl rfl ?_
          refine kw_get rfl (hH_O (rfl : kotab 21 = some kHo)) rfl ?_
          obtain ⟨q7, hq7, hf⟩ := gbind hf
          refine kw_callV (vs := [kI (q3.2 21 13)]) rfl rfl rfl ⟨rfl, Nat.le_of_ble_eq_true rfl, Nat.le_of_ble_eq_true rfl, by decide⟩ (hH_O (rfl : kotab 21 = some kHo)) (c_Search_depthOf (q3.2 21 13) q3.2 _ hq7) (Nat.le_of_ble_eq_true rfl) ?_
          refine kw_step rfl rfl rfl rfl ?_
          refine kw_step rfl rfl rfl rfl ?_
          cases hf
          exact kw_ret rfl rfl rfl hq
        · have hf := gift c6 hf
          refine kw_step rfl rfl rfl rfl ?_
          refine kw_goto rfl rfl ?_
          cases hf
          exact kw_ret rfl rfl rfl hq
def f_Search_shake_27 (b1 : Nat) (x2 : Int) (s : kM) : Option (Int × kM) :=
  gL (fun (x : Int × kM) => f_Search_shake_27b b1 x.1 x.2) gF (x2, s)
theorem b_Search_shake_27 {sc : List Int} {Q : Option kV → kH → Prop} (b1 : Nat) (hb1 : tT b1 = true) (x2 : Int) (s : kM) (t : Int × kM) (hf : f_Search_shake_27 b1 x2 s = some t) (hq : (fun r => Q (some (kI r.1)) (hH r.2)) t) : kW sc 5 kc_Search_shake 1 27 [some (kr 21), none, some (kI x2), none] [] (hH s) Q :=
  gL_ind (P := fun (x : Int × kM) => kW sc 5 kc_Search_shake 1 27 [some (kr 21), none, some (kI x.1), none] [] (hH x.2) Q) (q := (fun r => Q (some (kI r.1)) (hH r.2))) (fun x t hf hq => b_Search_shake_27b b1 hb1 x.1 x.2 t hf hq) gF (x2, s) t hf hq
def f_Search_shake (b1 : Nat) (s : kM) : Option (Int × kM) :=
  if (s b1 2) = 0 then (some (0, s)) else ((f_Arrays_fill_SS 27 1024 0 s).bind fun q2 => (f_Town_copyFrom 28 b1 q2).bind fun q4 => gLet (gU q4 21 9 0) fun s6 => (f_Search_pack 0 s6).bind fun q9 => (f_Search_freeSlot q9).bind fun q11 => (f_Search_add q11 (-1) 0 q9).bind fun q12 => f_Search_shake_27 b1 0 q12)
set_option maxRecDepth 8000 in
theorem c_Search_shake {sc : List Int} (b1 : Nat) (hb1 : tT b1 = true) (s : kM) (t : Int × kM) (hf : f_Search_shake b1 s = some t) : kR sc 5 km_Search_shake [kr 21, kr b1] (hH s) (some (kI t.1)) (hH t.2) := by
  unfold f_Search_shake at hf
  refine kR.start rfl ?_
  show kW sc 5 kc_Search_shake 1 0 [some (kr 21), some (kr b1), none, none] [] (hH s) _
  have hq : (fun (r : Option kV) (g : kH) => r = some (kI t.1) ∧ g = hH t.2) (some (kI t.1)) (hH t.2) := ⟨rfl, rfl⟩
  refine kw_step rfl rfl rfl rfl ?_
  refine kw_get rfl (hH_O (tT_0 hb1)) rfl ?_
  refine kw_if_ne rfl rfl (fun c1 => ?_) (fun c1 => ?_)
  · have hf := giff c1 hf
    refine kw_step rfl rfl rfl rfl ?_
    refine kw_get rfl (hH_O (rfl : kotab 21 = some kHo)) rfl ?_
    refine kw_step rfl rfl rfl rfl ?_
    obtain ⟨q2, hq2, hf⟩ := gbind hf
    refine kw_callS (vs := [kr 27, kI 0]) rfl rfl rfl ⟨rfl, Nat.le_of_ble_eq_true rfl, Nat.le_of_ble_eq_true rfl, rfl⟩ (c_Arrays_fill_SS 27 1024 (rfl : ktab 27 = some (2, 1024)) 0 s _ hq2) (Nat.le_of_ble_eq_true rfl) ?_
    refine kw_step rfl rfl rfl rfl ?_
    refine kw_get rfl (hH_O (rfl : kotab 21 = some kHo)) rfl ?_
    refine kw_step rfl rfl rfl rfl ?_
    obtain ⟨q4, hq4, hf⟩ := gbind hf
    refine kw_callV (vs := [kr b1]) rfl rfl rfl ⟨rfl, Nat.le_of_ble_eq_true rfl, Nat.le_of_ble_eq_true rfl, by decide⟩ (hH_O (tT_0 (b := 28) rfl)) (c_Town_copyFrom 28 b1 (rfl : tT 28 = true) hb1 q2 _ hq4) (Nat.le_of_ble_eq_true rfl) ?_
    refine kw_step rfl rfl rfl rfl ?_
    refine kw_step rfl rfl rfl rfl ?_
    obtain ⟨s6, ee7, hf⟩ := gbL hf
    refine kw_putH rfl (rfl : kotab 21 = some kHo) rfl rfl rfl (Nat.le_of_ble_eq_true rfl) rfl ee7 ?_
    refine kw_step rfl rfl rfl rfl ?_
    refine kw_step rfl rfl rfl rfl ?_
    obtain ⟨q9, hq9, hf⟩ := gbind hf
    refine kw_callV (vs := [kI 0]) rfl rfl rfl ⟨rfl, Nat.le_of_ble_eq_true rfl, Nat.le_of_ble_eq_true rfl, by decide⟩ (hH_O (rfl : kotab 21 = some kHo)) (c_Search_pack 0 s6 _ hq9) (Nat.le_of_ble_eq_true rfl) ?_
    refine kw_step rfl rfl rfl rfl ?_
    refine kw_step rfl rfl rfl rfl ?_
    obtain ⟨q11, hq11, hf⟩ := gbind hf
    refine kw_callV (vs := []) rfl rfl rfl ⟨rfl, Nat.le_of_ble_eq_true rfl, Nat.le_of_ble_eq_true rfl, by decide⟩ (hH_O (rfl : kotab 21 = some kHo)) (c_Search_freeSlot q9 _ hq11) (Nat.le_of_ble_eq_true rfl) ?_
    refine kw_step rfl rfl rfl rfl ?_
    refine kw_step rfl rfl rfl rfl ?_
    obtain ⟨q12, hq12, hf⟩ := gbind hf
    refine kw_callV (vs := [kI q11, kI (-1), kI 0]) rfl rfl rfl ⟨rfl, Nat.le_of_ble_eq_true rfl, Nat.le_of_ble_eq_true rfl, by decide⟩ (hH_O (rfl : kotab 21 = some kHo)) (c_Search_add q11 (-1) 0 q9 _ hq12) (Nat.le_of_ble_eq_true rfl) ?_
    refine kw_step rfl rfl rfl rfl ?_
    refine kw_step (L' := [some (kr 21), some (kr b1), some (kI 0), none]) rfl rfl rfl rfl ?_
    exact kW_le (L' := [some (kr 21), none, some (kI 0), none]) ⟨Or.inr rfl, Or.inl rfl, Or.inr rfl, Or.inl rfl, trivial⟩ (b_Search_shake_27 b1 hb1 0 q12 _ hf hq)
  · have hf := gift c1 hf
    refine kw_step rfl rfl rfl rfl ?_
    cases hf
    exact kw_ret rfl rfl rfl hq
