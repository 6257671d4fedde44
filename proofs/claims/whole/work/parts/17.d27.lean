/-! PRINTED by wip/whole/decall.py: methods as functions over the flat world, with their contracts -/
def f_M_answer_82 (x1 : Int) (x3 : Int) (x4 : Int) (x5 : Int) (s : kM) : Option ((Int × Int × kM) ⊕ (Int × kM)) :=
  some (.inl (x4, (wI (x5 + 1)), s))
set_option maxRecDepth 8000 in
theorem b_M_answer_82 {sc : List Int} {Q : Option kV → kH → Prop} (x1 : Int) (x3 : Int) (x4 : Int) (x5 : Int) (s : kM) (t : (Int × Int × kM) ⊕ (Int × kM)) (hf : f_M_answer_82 x1 x3 x4 x5 s = some t) (hq : (gE (fun x => kW sc 2 kc_M_answer 3 4 [some (kr 85), some (kI x1), none, some (kI x3), some (kI x.1), some (kI x.2.1), none, none] [] (hH x.2.2) Q) (fun r => Q (some (kJ r.1)) (hH r.2))) t) : kW sc 2 kc_M_answer 3 82 [some (kr 85), some (kI x1), none, some (kI x3), some (kI x4), some (kI x5), none, none] [] (hH s) Q := by
  unfold f_M_answer_82 at hf
  refine kw_step (L' := [some (kr 85), some (kI x1), none, some (kI x3), some (kI x4), some (kI (wI (x5 + 1))), none, none]) rfl rfl rfl rfl ?_
  refine kw_goto rfl rfl ?_
  cases hf
  exact kW_le (L' := [some (kr 85), some (kI x1), none, some (kI x3), some (kI x4), some (kI (wI (x5 + 1))), none, none]) ⟨Or.inr rfl, Or.inr rfl, Or.inl rfl, Or.inr rfl, Or.inr rfl, Or.inr rfl, Or.inl rfl, Or.inl rfl, trivial⟩ hq
def f_M_answer_42 (x1 : Int) (x3 : Int) (x4 : Int) (x5 : Int) (y1 : Int) (y2 : Int) (s : kM) : Option ((Int × Int × kM) ⊕ (Int × kM)) :=
  (gI 300 y1).bind fun j1 => gLet (gU s 113 j1 y2) fun s3 => f_M_answer_82 x1 x3 (wI (x4 + 1)) x5 s3
set_option maxRecDepth 8000 in
theorem b_M_answer_42 {sc : List Int} {Q : Option kV → kH → Prop} (x1 : Int) (x3 : Int) (x4 : Int) (x5 : Int) (y1 : Int) (y2 : Int) (s : kM) (t : (Int × Int × kM) ⊕ (Int × kM)) (hf : f_M_answer_42 x1 x3 x4 x5 y1 y2 s = some t) (hq : (gE (fun x => kW sc 2 kc_M_answer 3 4 [some (kr 85), some (kI x1), none, some (kI x3), some (kI x.1), some (kI x.2.1), none, none] [] (hH x.2.2) Q) (fun r => Q (some (kJ r.1)) (hH r.2))) t) : kW sc 2 kc_M_answer 3 42 [some (kr 85), some (kI x1), none, some (kI x3), some (kI x4), some (kI x5), none, none] [kJ y2, kI y1, kr 113] (hH s) Q := by
  unfold f_M_answer_42 at hf
  obtain ⟨j1, i2, hf⟩ := gbI hf
  obtain ⟨s3, ee4, hf⟩ := gbL hf
  refine kw_lastH rfl (rfl : ktab 113 = some (3, 300)) i2.1 i2.2.1 i2.2.2 ee4 ?_
  refine kw_step (L' := [some (kr 85), some (kI x1), none, some (kI x3), some (kI (wI (x4 + 1))), some (kI x5), none, none]) rfl rfl rfl rfl ?_
  refine kw_goto rfl rfl ?_
  exact kW_le (L' := [some (kr 85), some (kI x1), none, some (kI x3), some (kI (wI (x4 + 1))), some (kI x5), none, none]) ⟨Or.inr rfl, Or.inr rfl, Or.inl rfl, Or.inr rfl, Or.inr rfl, Or.inr rfl, Or.inl rfl, Or.inl rfl, trivial⟩ (b_M_answer_82 x1 x3 (wI (x4 + 1)) x5 s3 _ hf hq)
def f_M_answer_30 (x1 : Int) (x3 : Int) (x4 : Int) (x5 : Int) (x6 : Int) (x7 : Int) (s : kM) : Option ((Int × Int × kM) ⊕ (Int × kM)) :=
  if x6 = 0 then (f_M_answer_42 x1 x3 x4 x5 x4 x7 s) else ((gI 8 x7).bind fun j2 => f_M_answer_42 x1 x3 x4 x5 x4 (s 112 j2) s)
set_option maxRecDepth 8000 in
theorem b_M_answer_30 {sc : List Int} {Q : Option kV → kH → Prop} (x1 : Int) (x3 : Int) (x4 : Int) (x5 : Int) (x6 : Int) (x7 : Int) (s : kM) (t : (Int × Int × kM) ⊕ (Int × kM)) (hf : f_M_answer_30 x1 x3 x4 x5 x6 x7 s = some t) (hq : (gE (fun x => kW sc 2 kc_M_answer 3 4 [some (kr 85), some (kI x1), none, some (kI x3), some (kI x.1), some (kI x.2.1), none, none] [] (hH x.2.2) Q) (fun r => Q (some (kJ r.1)) (hH r.2))) t) : kW sc 2 kc_M_answer 3 30 [some (kr 85), some (kI x1), none, some (kI x3), some (kI x4), some (kI x5), some (kI x6), some (kI x7)] [] (hH s) Q := by
  unfold f_M_answer_30 at hf
  refine kw_step rfl rfl rfl rfl ?_
  refine kw_get rfl (hH_O (rfl : kotab 85 = some kMo)) rfl ?_
  refine kw_step rfl rfl rfl rfl ?_
  refine kw_step rfl rfl rfl rfl ?_
  refine kw_if_ne rfl rfl (fun c1 => ?_) (fun c1 => ?_)
  · have hf := giff c1 hf
    refine kw_step rfl rfl rfl rfl ?_
    refine kw_get rfl (hH_O (rfl : kotab 85 = some kMo)) rfl ?_
    refine kw_step rfl rfl rfl rfl ?_
    obtain ⟨j2, i3, hf⟩ := gbI hf
    refine kw_lald rfl (hH_A (rfl : ktab 112 = some (3, 8))) i3.1 i3.2.1 i3.2.2 ?_
    exact kW_le (L' := [some (kr 85), some (kI x1), none, some (kI x3), some (kI x4), some (kI x5), none, none]) ⟨Or.inr rfl, Or.inr rfl, Or.inl rfl, Or.inr rfl, Or.inr rfl, Or.inr rfl, Or.inl rfl, Or.inl rfl, trivial⟩ (b_M_answer_42 x1 x3 x4 x5 x4 (s 112 j2) s _ hf hq)
  · have hf := gift c1 hf
    refine kw_step rfl rfl rfl rfl ?_
    refine kw_step rfl rfl rfl rfl ?_
    refine kw_goto rfl rfl ?_
    exact kW_le (L' := [some (kr 85), some (kI x1), none, some (kI x3), some (kI x4), some (kI x5), none, none]) ⟨Or.inr rfl, Or.inr rfl, Or.inl rfl, Or.inr rfl, Or.inr rfl, Or.inr rfl, Or.inl rfl, Or.inl rfl, trivial⟩ (b_M_answer_42 x1 x3 x4 x5 x4 x7 s _ hf hq)
def f_M_answer_4b (x1 : Int) (x3 : Int) (x4 : Int) (x5 : Int) (s : kM) : Option ((Int × Int × kM) ⊕ (Int × kM)) :=
  if x3 ≤ x5 then (some (.inr ((s 113 0), s))) else ((gI 1800 (wI ((wI (300 * x1)) + x5))).bind fun j2 => (gI 1800 (wI ((wI (300 * x1)) + x5))).bind fun j4 => if (s 106 j2) = 0 then (f_M_answer_30 x1 x3 x4 x5 (s 106 j2) (s 107 j4) s) else (if (s 106 j2) = 1 then (f_M_answer_30 x1 x3 x4 x5 (s 106 j2) (s 107 j4) s) else (if (s 106 j2) = 9 then ((gI 300 (wI (x4 - 1))).bind fun j19 => (gI 300 (wI (x4 - 1))).bind fun j21 => gLet (gU s 113 j21 (wL (1 - (s 113 j19)))) fun s23 => f_M_answer_82 x1 x3 x4 x5 s23) else ((gI 300 (wI ((wI (x4 + (-1))) - 1))).bind fun j9 => (gI 300 (wI (x4 + (-1)))).bind fun j11 => (f_M_both (s 106 j2) (s 113 j9) (s 113 j11) s).bind fun q13 => (gI 300 (wI ((wI (x4 + (-1))) - 1))).bind fun j14 => gLet (gU s 113 j14 q13) fun s16 => f_M_answer_82 x1 x3 (wI (x4 + (-1))) x5 s16))))
set_option maxRecDepth 8000 in
theorem b_M_answer_4b {sc : List Int} {Q : Option kV → kH → Prop} (x1 : Int) (x3 : Int) (x4 : Int) (x5 : Int) (s : kM) (t : (Int × Int × kM) ⊕ (Int × kM)) (hf : f_M_answer_4b x1 x3 x4 x5 s = some t) (hq : (gE (fun x => kW sc 2 kc_M_answer 3 4 [some (kr 85), some (kI x1), none, some (kI x3), some (kI x.1), some (kI x.2.1), none, none] [] (hH x.2.2) Q) (fun r => Q (some (kJ r.1)) (hH r.2))) t) : kW sc 2 kc_M_answer 3 4 [some (kr 85), some (kI x1), none, some (kI x3), some (kI x4), some (kI x5), none, none] [] (hH s) Q := by
  unfold f_M_answer_4b at hf
  refine kw_step rfl rfl rfl rfl ?_
  refine kw_step rfl rfl rfl rfl ?_
  refine kw_icmp_ge rfl rfl (fun c1 => ?_) (fun c1 => ?_)
  · have hf := gift c1 hf
    refine kw_step rfl rfl rfl rfl ?_
    refine kw_get rfl (hH_O (rfl : kotab 85 = some kMo)) rfl ?_
    refine kw_step rfl rfl rfl rfl ?_
    refine kw_lald rfl (hH_A (rfl : ktab 113 = some (3, 300))) (by decide) (by decide) (j := 0) rfl ?_
    cases hf
    exact kw_ret rfl rfl rfl hq
  · have hf := giff c1 hf
    refine kw_step rfl rfl rfl rfl ?_
    refine kw_get rfl (hH_O (rfl : kotab 85 = some kMo)) rfl ?_
    refine kw_step rfl rfl rfl rfl ?_
    refine kw_step rfl rfl rfl rfl ?_
    refine kw_step rfl rfl rfl rfl ?_
    refine kw_step rfl rfl rfl rfl ?_
    refine kw_step rfl rfl rfl rfl ?_
    obtain ⟨j2, i3, hf⟩ := gbI hf
    refine kw_iald rfl (hH_A (rfl : ktab 106 = some (0, 1800))) i3.1 i3.2.1 i3.2.2 ?_
    refine kw_step (L' := [some (kr 85), some (kI x1), none, some (kI x3), some (kI x4), some (kI x5), some (kI (s 106 j2)), none]) rfl rfl rfl rfl ?_
    refine kw_step rfl rfl rfl rfl ?_
    refine kw_get rfl (hH_O (rfl : kotab 85 = some kMo)) rfl ?_
    refine kw_step rfl rfl rfl rfl ?_
    refine kw_step rfl rfl rfl rfl ?_
    refine kw_step rfl rfl rfl rfl ?_
    refine kw_step rfl rfl rfl rfl ?_
    refine kw_step rfl rfl rfl rfl ?_
    obtain ⟨j4, i5, hf⟩ := gbI hf
    refine kw_iald rfl (hH_A (rfl : ktab 107 = some (0, 1800))) i5.1 i5.2.1 i5.2.2 ?_
    refine kw_step (L' := [some (kr 85), some (kI x1), none, some (kI x3), some (kI x4), some (kI x5), some (kI (s 106 j2)), some (kI (s 107 j4))]) rfl rfl rfl rfl ?_
    refine kw_step rfl rfl rfl rfl ?_
    refine kw_if_eq rfl rfl (fun c6 => ?_) (fun c6 => ?_)
    · have hf := gift c6 hf
      exact kW_le (L' := [some (kr 85), some (kI x1), none, some (kI x3), some (kI x4), some (kI x5), some (kI (s 106 j2)), some (kI (s 107 j4))]) ⟨Or.inr rfl, Or.inr rfl, Or.inl rfl, Or.inr rfl, Or.inr rfl, Or.inr rfl, Or.inr rfl, Or.inr rfl, trivial⟩ (b_M_answer_30 x1 x3 x4 x5 (s 106 j2) (s 107 j4) s _ hf hq)
    · have hf := giff c6 hf
      refine kw_step rfl rfl rfl rfl ?_
      refine kw_step rfl rfl rfl rfl ?_
      refine kw_icmp_ne rfl rfl (fun c7 => ?_) (fun c7 => ?_)
      · have hf := giff c7 hf
        refine kw_step rfl rfl rfl rfl ?_
        refine kw_step rfl rfl rfl rfl ?_
        refine kw_icmp_ne rfl rfl (fun c8 => ?_) (fun c8 => ?_)
        · have hf := giff c8 hf
          refine kw_step (L' := [some (kr 85), some (kI x1), none, some (kI x3), some (kI (wI (x4 + (-1)))), some (kI x5), some (kI (s 106 j2)), some (kI (s 107 j4))]) rfl rfl rfl rfl ?_
          refine kw_step rfl rfl rfl rfl ?_
          refine kw_get rfl (hH_O (rfl : kotab 85 = some kMo)) rfl ?_
          refine kw_step rfl rfl rfl rfl ?_
          refine kw_step rfl rfl rfl rfl ?_
          refine kw_step rfl rfl rfl rfl ?_
          refine kw_step rfl rfl rfl rfl ?_
          refine kw_step rfl rfl rfl rfl ?_
          refine kw_get rfl (hH_O (rfl : kotab 85 = some kMo)) rfl ?_
          refine kw_step rfl rfl rfl rfl ?_
          refine kw_step rfl rfl rfl rfl ?_
          refine kw_step rfl rfl rfl rfl ?_
          obtain ⟨j9, i10, hf⟩ := gbI hf
          refine kw_lald rfl (hH_A (rfl : ktab 113 = some (3, 300))) i10.1 i10.2.1 i10.2.2 ?_
          refine kw_step rfl rfl rfl rfl ?_
          refine kw_get rfl (hH_O (rfl : kotab 85 = some kMo)) rfl ?_
          refine kw_step rfl rfl rfl rfl ?_
          obtain ⟨j11, i12, hf⟩ := gbI hf
          refine kw_lald rfl (hH_A (rfl : ktab 113 = some (3, 300))) i12.1 i12.2.1 i12.2.2 ?_
          obtain ⟨q13, hq13, hf⟩ := gbind hf
          refine kw_callS (vs := [kI (s 106 j2), kJ (s 113 j9), kJ (s 113 j11)]) rfl rfl rfl ⟨rfl, Nat.le_of_ble_eq_true rfl, Nat.le_of_ble_eq_true rfl, rfl⟩ (c_M_both (s 106 j2) (s 113 j9) (s 113 j11) s _ hq13) (Nat.le_of_ble_eq_true rfl) ?_
          obtain ⟨j14, i15, hf⟩ := gbI hf
          obtain ⟨s16, ee17, hf⟩ := gbL hf
          refine kw_lastH rfl (rfl : ktab 113 = some (3, 300)) i15.1 i15.2.1 i15.2.2 ee17 ?_
          exact kW_le (L' := [some (kr 85), some (kI x1), none, some (kI x3), some (kI (wI (x4 + (-1)))), some (kI x5), none, none]) ⟨Or.inr rfl, Or.inr rfl, Or.inl rfl, Or.inr rfl, Or.inr rfl, Or.inr rfl, Or.inl rfl, Or.inl rfl, trivial⟩ (b_M_answer_82 x1 x3 (wI (x4 + (-1))) x5 s16 _ hf hq)
        · have hf := gift c8 hf
          refine kw_step rfl rfl rfl rfl ?_
          refine kw_get rfl (hH_O (rfl : kotab 85 = some kMo)) rfl ?_
          refine kw_step rfl rfl rfl rfl ?_
          refine kw_step rfl rfl rfl rfl ?_
          refine kw_step rfl rfl rfl rfl ?_
          refine kw_step rfl rfl rfl rfl ?_
          refine kw_step rfl rfl rfl rfl ?_
          refine kw_get rfl (hH_O (rfl : kotab 85 = some kMo)) rfl ?_
          refine kw_step rfl rfl rfl rfl ?_
          refine kw_step rfl rfl rfl rfl ?_
          refine kw_step rfl rfl rfl rfl ?_
          obtain ⟨j19, i20, hf⟩ := gbI hf
          refine kw_lald rfl (hH_A (rfl : ktab 113 = some (3, 300))) i20.1 i20.2.1 i20.2.2 ?_
          refine kw_step rfl rfl rfl rfl ?_
          obtain ⟨j21, i22, hf⟩ := gbI hf
          obtain ⟨s23, ee24, hf⟩ := gbL hf
          refine kw_lastH rfl (rfl : ktab 113 = some (3, 300)) i22.1 i22.2.1 i22.2.2 ee24 ?_
          refine kw_goto rfl rfl ?_
          exact kW_le (L' := [some (kr 85), some (kI x1), none, some (kI x3), some (kI x4), some (kI x5), none, none]) ⟨Or.inr rfl, Or.inr rfl, Or.inl rfl, Or.inr rfl, Or.inr rfl, Or.inr rfl, Or.inl rfl, Or.inl rfl, trivial⟩ (b_M_answer_82 x1 x3 x4 x5 s23 _ hf hq)
      · have hf := gift c7 hf
        exact kW_le (L' := [some (kr 85), some (kI x1), none, some (kI x3), some (kI x4), some (kI x5), some (kI (s 106 j2)), some (kI (s 107 j4))]) ⟨Or.inr rfl, Or.inr rfl, Or.inl rfl, Or.inr rfl, Or.inr rfl, Or.inr rfl, Or.inr rfl, Or.inr rfl, trivial⟩ (b_M_answer_30 x1 x3 x4 x5 (s 106 j2) (s 107 j4) s _ hf hq)
def f_M_answer_4 (x1 : Int) (x3 : Int) (x4 : Int) (x5 : Int) (s : kM) : Option (Int × kM) :=
  gL (fun (x : Int × Int × kM) => f_M_answer_4b x1 x3 x.1 x.2.1 x.2.2) gF (x4, x5, s)
theorem b_M_answer_4 {sc : List Int} {Q : Option kV → kH → Prop} (x1 : Int) (x3 : Int) (x4 : Int) (x5 : Int) (s : kM) (t : Int × kM) (hf : f_M_answer_4 x1 x3 x4 x5 s = some t) (hq : (fun r => Q (some (kJ r.1)) (hH r.2)) t) : kW sc 2 kc_M_answer 3 4 [some (kr 85), some (kI x1), none, some (kI x3), some (kI x4), some (kI x5), none, none] [] (hH s) Q :=
  gL_ind (P := fun (x : Int × Int × kM) => kW sc 2 kc_M_answer 3 4 [some (kr 85), some (kI x1), none, some (kI x3), some (kI x.1), some (kI x.2.1), none, none] [] (hH x.2.2) Q) (q := (fun r => Q (some (kJ r.1)) (hH r.2))) (fun x t hf hq => b_M_answer_4b x1 x3 x.1 x.2.1 x.2.2 t hf hq) gF (x4, x5, s) t hf hq
def f_M_answer (x1 : Int) (x2 : Int) (x3 : Int) (s : kM) : Option (Int × kM) :=
  f_M_answer_4 x1 x3 0 x2 s
set_option maxRecDepth 8000 in
theorem c_M_answer {sc : List Int} (x1 : Int) (x2 : Int) (x3 : Int) (s : kM) (t : Int × kM) (hf : f_M_answer x1 x2 x3 s = some t) : kR sc 2 km_M_answer [kr 85, kI x1, kI x2, kI x3] (hH s) (some (kJ t.1)) (hH t.2) := by
  unfold f_M_answer at hf
  refine kR.start rfl ?_
  show kW sc 2 kc_M_answer 3 0 [some (kr 85), some (kI x1), some (kI x2), some (kI x3), none, none, none, none] [] (hH s) _
  have hq : (fun (r : Option kV) (g : kH) => r = some (kJ t.1) ∧ g = hH t.2) (some (kJ t.1)) (hH t.2) := ⟨rfl, rfl⟩
  refine kw_step rfl rfl rfl rfl ?_
  refine kw_step (L' := [some (kr 85), some (kI x1), some (kI x2), some (kI x3), some (kI 0), none, none, none]) rfl rfl rfl rfl ?_
  refine kw_step rfl rfl rfl rfl ?_
  refine kw_step (L' := [some (kr 85), some (kI x1), some (kI x2), some (kI x3), some (kI 0), some (kI x2), none, none]) rfl rfl rfl rfl ?_
  exact kW_le (L' := [some (kr 85), some (kI x1), none, some (kI x3), some (kI 0), some (kI x2), none, none]) ⟨Or.inr rfl, Or.inr rfl, Or.inl rfl, Or.inr rfl, Or.inr rfl, Or.inr rfl, Or.inl rfl, Or.inl rfl, trivial⟩ (b_M_answer_4 x1 x3 0 x2 s _ hf hq)
def f_M_isBarred_75b (x6 : Int) (x7 : Int) (s : kM) : Option ((Int × kM) ⊕ (Int × kM)) :=
  (gI 6 x6).bind fun j1 => if (wI ((wI (12 * x6)) + (s 108 j1))) ≤ x7 then (some (.inr (0, s))) else ((gI 72 x7).bind fun j4 => (gI 72 x7).bind fun j6 => (f_M_answer x6 (s 109 j4) (s 110 j6) s).bind fun q8 => if q8.1 = 1 then (some (.inr (1, q8.2))) else (some (.inl ((wI (x7 + 1)), q8.2))))
set_option maxRecDepth 8000 in
theorem b_M_isBarred_75b {sc : List Int} {Q : Option kV → kH → Prop} (x6 : Int) (x7 : Int) (s : kM) (t : (Int × kM) ⊕ (Int × kM)) (hf : f_M_isBarred_75b x6 x7 s = some t) (hq : (gE (fun x => kW sc 3 kc_M_isBarred 2 75 [some (kr 85), none, none, none, none, none, some (kI x6), some (kI x.1)] [] (hH x.2) Q) (fun r => Q (some (kI r.1)) (hH r.2))) t) : kW sc 3 kc_M_isBarred 2 75 [some (kr 85), none, none, none, none, none, some (kI x6), some (kI x7)] [] (hH s) Q := by
  unfold f_M_isBarred_75b at hf
  refine kw_step rfl rfl rfl rfl ?_
  refine kw_step rfl rfl rfl rfl ?_
  refine kw_step rfl rfl rfl rfl ?_
  refine kw_step rfl rfl rfl rfl ?_
  refine kw_step rfl rfl rfl rfl ?_
  refine kw_get rfl (hH_O (rfl : kotab 85 = some kMo)) rfl ?_
  refine kw_step rfl rfl rfl rfl ?_
  obtain ⟨j1, i2, hf⟩ := gbI hf
  refine kw_iald rfl (hH_A (rfl : ktab 108 = some (0, 6))) i2.1 i2.2.1 i2.2.2 ?_
  refine kw_step rfl rfl rfl rfl ?_
  refine kw_icmp_ge rfl rfl (fun c3 => ?_) (fun c3 => ?_)
  · have hf := gift c3 hf
    refine kw_step rfl rfl rfl rfl ?_
    cases hf
    exact kw_ret rfl rfl rfl hq
  · have hf := giff c3 hf
    refine kw_step rfl rfl rfl rfl ?_
    refine kw_step rfl rfl rfl rfl ?_
    refine kw_step rfl rfl rfl rfl ?_
    refine kw_get rfl (hH_O (rfl : kotab 85 = some kMo)) rfl ?_
    refine kw_step rfl rfl rfl rfl ?_
    obtain ⟨j4, i5, hf⟩ := gbI hf
    refine kw_iald rfl (hH_A (rfl : ktab 109 = some (0, 72))) i5.1 i5.2.1 i5.2.2 ?_
    refine kw_step rfl rfl rfl rfl ?_
    refine kw_get rfl (hH_O (rfl : kotab 85 = some kMo)) rfl ?_
    refine kw_step rfl rfl rfl rfl ?_
    obtain ⟨j6, i7, hf⟩ := gbI hf
    refine kw_iald rfl (hH_A (rfl : ktab 110 = some (0, 72))) i7.1 i7.2.1 i7.2.2 ?_
    obtain ⟨q8, hq8, hf⟩ := gbind hf
    refine kw_callV (vs := [kI x6, kI (s 109 j4), kI (s 110 j6)]) rfl rfl rfl ⟨rfl, Nat.le_of_ble_eq_true rfl, Nat.le_of_ble_eq_true rfl, by decide⟩ (hH_O (rfl : kotab 85 = some kMo)) (c_M_answer x6 (s 109 j4) (s 110 j6) s _ hq8) (Nat.le_of_ble_eq_true rfl) ?_
    refine kw_step rfl rfl rfl rfl ?_
    refine kw_lc_ne rfl rfl rfl (fun c10 => ?_) (fun c10 => ?_)
    · have hf := giff c10 hf
      refine kw_step (L' := [some (kr 85), none, none, none, none, none, some (kI x6), some (kI (wI (x7 + 1)))]) rfl rfl rfl rfl ?_
      refine kw_goto rfl rfl ?_
      cases hf
      exact kW_le (L' := [some (kr 85), none, none, none, none, none, some (kI x6), some (kI (wI (x7 + 1)))]) ⟨Or.inr rfl, Or.inl rfl, Or.inl rfl, Or.inl rfl, Or.inl rfl, Or.inl rfl, Or.inr rfl, Or.inr rfl, trivial⟩ hq
    · have hf := gift c10 hf
      refine kw_step rfl rfl rfl rfl ?_
      cases hf
      exact kw_ret rfl rfl rfl hq
def f_M_isBarred_75 (x6 : Int) (x7 : Int) (s : kM) : Option (Int × kM) :=
  gL (fun (x : Int × kM) => f_M_isBarred_75b x6 x.1 x.2) gF (x7, s)
theorem b_M_isBarred_75 {sc : List Int} {Q : Option kV → kH → Prop} (x6 : Int) (x7 : Int) (s : kM) (t : Int × kM) (hf : f_M_isBarred_75 x6 x7 s = some t) (hq : (fun r => Q (some (kI r.1)) (hH r.2)) t) : kW sc 3 kc_M_isBarred 2 75 [some (kr 85), none, none, none, none, none, some (kI x6), some (kI x7)] [] (hH s) Q :=
  gL_ind (P := fun (x : Int × kM) => kW sc 3 kc_M_isBarred 2 75 [some (kr 85), none, none, none, none, none, some (kI x6), some (kI x.1)] [] (hH x.2) Q) (q := (fun r => Q (some (kI r.1)) (hH r.2))) (fun x t hf hq => b_M_isBarred_75b x6 x.1 x.2 t hf hq) gF (x7, s) t hf hq
def f_M_isBarred (x1 : Int) (x2 : Int) (x3 : Int) (x4 : Int) (x5 : Int) (s : kM) : Option (Int × kM) :=
  if (s 86 5) = (-1) then (some (0, s)) else ((gI 22 x3).bind fun j2 => gLet (gU s 112 0 (s 87 j2)) fun s4 => (gI 22 x3).bind fun j7 => (gI 11 (s4 87 j7)).bind fun j9 => gLet (gU s4 112 1 (s4 89 j9)) fun s11 => gLet (gU s11 112 2 x1) fun s14 => gLet (gU s14 112 3 x2) fun s17 => gLet (gU s17 112 4 x4) fun s20 => (gI 22 x3).bind fun j23 => gLet (gU s20 112 5 (s20 88 j23)) fun s25 => gLet (gU s25 112 6 x5) fun s28 => (f_M_many s28).bind fun q31 => gLet (gU s28 112 7 q31) fun s32 => f_M_isBarred_75 (s 86 5) (wI (12 * (s 86 5))) s32)
set_option maxRecDepth 8000 in
theorem c_M_isBarred {sc : List Int} (x1 : Int) (x2 : Int) (x3 : Int) (x4 : Int) (x5 : Int) (s : kM) (t : Int × kM) (hf : f_M_isBarred x1 x2 x3 x4 x5 s = some t) : kR sc 3 km_M_isBarred [kr 85, kI x1, kI x2, kI x3, kI x4, kI x5] (hH s) (some (kI t.1)) (hH t.2) := by
  unfold f_M_isBarred at hf
  refine kR.start rfl ?_
  show kW sc 3 kc_M_isBarred 2 0 [some (kr 85), some (kI x1), some (kI x2), some (kI x3), some (kI x4), some (kI x5), none, none] [] (hH s) _
  have hq : (fun (r : Option kV) (g : kH) => r = some (kI t.1) ∧ g = hH t.2) (some (kI t.1)) (hH t.2) := ⟨rfl, rfl⟩
  refine kw_step rfl rfl rfl rfl ?_
  refine kw_get rfl (hH_O (rfl : kotab 85 = some kMo)) rfl ?_
  refine kw_step rfl rfl rfl rfl ?_
  refine kw_iald rfl (hH_A (rfl : ktab 86 = some (0, 6))) (by decide) (by decide) (j := 5) rfl ?_
  refine kw_step (L' := [some (kr 85), some (kI x1), some (kI x2), some (kI x3), some (kI x4), some (kI x5), some (kI (s 86 5)), none]) rfl rfl rfl rfl ?_
  refine kw_step rfl rfl rfl rfl ?_
  refine kw_step rfl rfl rfl rfl ?_
  refine kw_icmp_ne rfl rfl (fun c1 => ?_) (fun c1 => ?_)
  · have hf := giff c1 hf
    refine kw_step rfl rfl rfl rfl ?_
    refine kw_get rfl (hH_O (rfl : kotab 85 = some kMo)) rfl ?_
    refine kw_step rfl rfl rfl rfl ?_
    refine kw_step rfl rfl rfl rfl ?_
    refine kw_get rfl (hH_O (rfl : kotab 85 = some kMo)) rfl ?_
    refine kw_step rfl rfl rfl rfl ?_
    obtain ⟨j2, i3, hf⟩ := gbI hf
    refine kw_iald rfl (hH_A (rfl : ktab 87 = some (0, 22))) i3.1 i3.2.1 i3.2.2 ?_
    refine kw_step rfl rfl rfl rfl ?_
    obtain ⟨s4, ee5, hf⟩ := gbL hf
    refine kw_lastH rfl (rfl : ktab 112 = some (3, 8)) (by decide) (by decide) (j := 0) rfl ee5 ?_
    refine kw_step rfl rfl rfl rfl ?_
    refine kw_get rfl (hH_O (rfl : kotab 85 = some kMo)) rfl ?_
    refine kw_step rfl rfl rfl rfl ?_
    refine kw_step rfl rfl rfl rfl ?_
    refine kw_get rfl (hH_O (rfl : kotab 85 = some kMo)) rfl ?_
    refine kw_step rfl rfl rfl rfl ?_
    refine kw_get rfl (hH_O (rfl : kotab 85 = some kMo)) rfl ?_
    refine kw_step rfl rfl rfl rfl ?_
    obtain ⟨j7, i8, hf⟩ := gbI hf
    refine kw_iald rfl (hH_A (rfl : ktab 87 = some (0, 22))) i8.1 i8.2.1 i8.2.2 ?_
    obtain ⟨j9, i10, hf⟩ := gbI hf
    refine kw_iald rfl (hH_A (rfl : ktab 89 = some (0, 11))) i10.1 i10.2.1 i10.2.2 ?_
    refine kw_step rfl rfl rfl rfl ?_
    obtain ⟨s11, ee12, hf⟩ := gbL hf
    refine kw_lastH rfl (rfl : ktab 112 = some (3, 8)) (by decide) (by decide) (j := 1) rfl ee12 ?_
    refine kw_step rfl rfl rfl rfl ?_
    refine kw_get rfl (hH_O (rfl : kotab 85 = some kMo)) rfl ?_
    refine kw_step rfl rfl rfl rfl ?_
    refine kw_step rfl rfl rfl rfl ?_
    refine kw_step rfl rfl rfl rfl ?_
    obtain ⟨s14, ee15, hf⟩ := gbL hf
    refine kw_lastH rfl (rfl : ktab 112 = some (3, 8)) (by decide) (by decide) (j := 2) rfl ee15 ?_
    refine kw_step rfl rfl rfl rfl ?_
    refine kw_get rfl (hH_O (rfl : kotab 85 = some kMo)) rfl ?_
    refine kw_step rfl rfl rfl rfl ?_
    refine kw_step rfl rfl rfl rfl ?_
    refine kw_step rfl rfl rfl rfl ?_
    obtain ⟨s17, ee18, hf⟩ := gbL hf
    refine kw_lastH rfl (rfl : ktab 112 = some (3, 8)) (by decide) (by decide) (j := 3) rfl ee18 ?_
    refine kw_step rfl rfl rfl rfl ?_
    refine kw_get rfl (hH_O (rfl : kotab 85 = some kMo)) rfl ?_
    refine kw_step rfl rfl rfl rfl ?_
    refine kw_step rfl rfl rfl rfl ?_
    refine kw_step rfl rfl rfl rfl ?_
    obtain ⟨s20, ee21, hf⟩ := gbL hf
    refine kw_lastH rfl (rfl : ktab 112 = some (3, 8)) (by decide) (by decide) (j := 4) rfl ee21 ?_
    refine kw_step rfl rfl rfl rfl ?_
    refine kw_get rfl (hH_O (rfl : kotab 85 = some kMo)) rfl ?_
    refine kw_step rfl rfl rfl rfl ?_
    refine kw_step rfl rfl rfl rfl ?_
    refine kw_get rfl (hH_O (rfl : kotab 85 = some kMo)) rfl ?_
    refine kw_step rfl rfl rfl rfl ?_
    obtain ⟨j23, i24, hf⟩ := gbI hf
    refine kw_iald rfl (hH_A (rfl : ktab 88 = some (0, 22))) i24.1 i24.2.1 i24.2.2 ?_
    refine kw_step rfl rfl rfl rfl ?_
    obtain ⟨s25, ee26, hf⟩ := gbL hf
    refine kw_lastH rfl (rfl : ktab 112 = some (3, 8)) (by decide) (by decide) (j := 5) rfl ee26 ?_
    refine kw_step rfl rfl rfl rfl ?_
    refine kw_get rfl (hH_O (rfl : kotab 85 = some kMo)) rfl ?_
    refine kw_step rfl rfl rfl rfl ?_
    refine kw_step rfl rfl rfl rfl ?_
    refine kw_step rfl rfl rfl rfl ?_
    obtain ⟨s28, ee29, hf⟩ := gbL hf
    refine kw_lastH rfl (rfl : ktab 112 = some (3, 8)) (by decide) (by decide) (j := 6) rfl ee29 ?_
    refine kw_step rfl rfl rfl rfl ?_
    refine kw_get rfl (hH_O (rfl : kotab 85 = some kMo)) rfl ?_
    refine kw_step rfl rfl rfl rfl ?_
    refine kw_step rfl rfl rfl rfl ?_
    obtain ⟨q31, hq31, hf⟩ := gbind hf
    refine kw_callV (vs := []) rfl rfl rfl ⟨rfl, Nat.le_of_ble_eq_true rfl, Nat.le_of_ble_eq_true rfl, by decide⟩ (hH_O (rfl : kotab 85 = some kMo)) (c_M_many s28 _ hq31) (Nat.le_of_ble_eq_true rfl) ?_
    refine kw_step rfl rfl rfl rfl ?_
    obtain ⟨s32, ee33, hf⟩ := gbL hf
    refine kw_lastH rfl (rfl : ktab 112 = some (3, 8)) (by decide) (by decide) (j := 7) rfl ee33 ?_
    refine kw_step rfl rfl rfl rfl ?_
    refine kw_step rfl rfl rfl rfl ?_
    refine kw_step rfl rfl rfl rfl ?_
    refine kw_step (L' := [some (kr 85), some (kI x1), some (kI x2), some (kI x3), some (kI x4), some (kI x5), some (kI (s 86 5)), some (kI (wI (12 * (s 86 5))))]) rfl rfl rfl rfl ?_
    exact kW_le (L' := [some (kr 85), none, none, none, none, none, some (kI (s 86 5)), some (kI (wI (12 * (s 86 5))))]) ⟨Or.inr rfl, Or.inl rfl, Or.inl rfl, Or.inl rfl, Or.inl rfl, Or.inl rfl, Or.inr rfl, Or.inr rfl, trivial⟩ (b_M_isBarred_75 (s 86 5) (wI (12 * (s 86 5))) s32 _ hf hq)
  · have hf := gift c1 hf
    refine kw_step rfl rfl rfl rfl ?_
    cases hf
    exact kw_ret rfl rfl rfl hq
def f_M_passesTo (x1 : Int) (x2 : Int) (x3 : Int) (x4 : Int) (x5 : Int) (s : kM) : Option (Int × kM) :=
  (f_M_isBarred x1 x2 x3 x4 x5 s).bind fun q1 => if q1.1 = 0 then (some ((kshl 1 x2), q1.2)) else (some (0, q1.2))
set_option maxRecDepth 8000 in
theorem c_M_passesTo {sc : List Int} (x1 : Int) (x2 : Int) (x3 : Int) (x4 : Int) (x5 : Int) (s : kM) (t : Int × kM) (hf : f_M_passesTo x1 x2 x3 x4 x5 s = some t) : kR sc 4 km_M_passesTo [kr 85, kI x1, kI x2, kI x3, kI x4, kI x5] (hH s) (some (kI t.1)) (hH t.2) := by
  unfold f_M_passesTo at hf
  refine kR.start rfl ?_
  show kW sc 4 kc_M_passesTo 1 0 [some (kr 85), some (kI x1), some (kI x2), some (kI x3), some (kI x4), some (kI x5)] [] (hH s) _
  have hq : (fun (r : Option kV) (g : kH) => r = some (kI t.1) ∧ g = hH t.2) (some (kI t.1)) (hH t.2) := ⟨rfl, rfl⟩
  refine kw_step rfl rfl rfl rfl ?_
  refine kw_step rfl rfl rfl rfl ?_
  refine kw_step rfl rfl rfl rfl ?_
  refine kw_step rfl rfl rfl rfl ?_
  refine kw_step rfl rfl rfl rfl ?_
  refine kw_step rfl rfl rfl rfl ?_
  obtain ⟨q1, hq1, hf⟩ := gbind hf
  refine kw_callV (vs := [kI x1, kI x2, kI x3, kI x4, kI x5]) rfl rfl rfl ⟨rfl, Nat.le_of_ble_eq_true rfl, Nat.le_of_ble_eq_true rfl, by decide⟩ (hH_O (rfl : kotab 85 = some kMo)) (c_M_isBarred x1 x2 x3 x4 x5 s _ hq1) (Nat.le_of_ble_eq_true rfl) ?_
  refine kw_if_eq rfl rfl (fun c3 => ?_) (fun c3 => ?_)
  · have hf := gift c3 hf
    refine kw_step rfl rfl rfl rfl ?_
    refine kw_step rfl rfl rfl rfl ?_
    refine kw_step rfl rfl rfl rfl ?_
    cases hf
    exact kw_ret rfl rfl rfl hq
  · have hf := giff c3 hf
    refine kw_step rfl rfl rfl rfl ?_
    refine kw_goto rfl rfl ?_
    cases hf
    exact kw_ret rfl rfl rfl hq
def f_M_tells_20 (x1 : Int) (x2 : Int) (x3 : Int) (x4 : Int) (y0 : Int) (s : kM) : Option (Int × kM) :=
  (f_M_passesTo x1 x3 x2 0 x4 s).bind fun q1 => (f_M_passesTo x1 y0 x2 1 x4 q1.2).bind fun q3 => (f_M_ahead y0 q3.2).bind fun q5 => (f_M_passesTo x1 q5 x2 1 x4 q3.2).bind fun q6 => some ((kor (kor q1.1 q3.1) q6.1), q6.2)
set_option maxRecDepth 8000 in
theorem b_M_tells_20 {sc : List Int} {Q : Option kV → kH → Prop} (x1 : Int) (x2 : Int) (x3 : Int) (x4 : Int) (y0 : Int) (s : kM) (t : Int × kM) (hf : f_M_tells_20 x1 x2 x3 x4 y0 s = some t) (hq : (fun r => Q (some (kI r.1)) (hH r.2)) t) : kW sc 5 kc_M_tells 1 20 [some (kr 85), some (kI x1), some (kI x2), some (kI x3), some (kI x4), none, none, none] [kI y0] (hH s) Q := by
  unfold f_M_tells_20 at hf
  refine kw_step (L' := [some (kr 85), some (kI x1), some (kI x2), some (kI x3), some (kI x4), none, some (kI y0), none]) rfl rfl rfl rfl ?_
  refine kw_step rfl rfl rfl rfl ?_
  refine kw_step rfl rfl rfl rfl ?_
  refine kw_step rfl rfl rfl rfl ?_
  refine kw_step rfl rfl rfl rfl ?_
  refine kw_step rfl rfl rfl rfl ?_
  refine kw_step rfl rfl rfl rfl ?_
  obtain ⟨q1, hq1, hf⟩ := gbind hf
  refine kw_callV (vs := [kI x1, kI x3, kI x2, kI 0, kI x4]) rfl rfl rfl ⟨rfl, Nat.le_of_ble_eq_true rfl, Nat.le_of_ble_eq_true rfl, by decide⟩ (hH_O (rfl : kotab 85 = some kMo)) (c_M_passesTo x1 x3 x2 0 x4 s _ hq1) (Nat.le_of_ble_eq_true rfl) ?_
  refine kw_step (L' := [some (kr 85), some (kI x1), some (kI x2), some (kI x3), some (kI x4), none, some (kI y0), some (kI q1.1)]) rfl rfl rfl rfl ?_
  refine kw_step rfl rfl rfl rfl ?_
  refine kw_step rfl rfl rfl rfl ?_
  refine kw_step rfl rfl rfl rfl ?_
  refine kw_step rfl rfl rfl rfl ?_
  refine kw_step rfl rfl rfl rfl ?_
  refine kw_step rfl rfl rfl rfl ?_
  refine kw_step rfl rfl rfl rfl ?_
  obtain ⟨q3, hq3, hf⟩ := gbind hf
  refine kw_callV (vs := [kI x1, kI y0, kI x2, kI 1, kI x4]) rfl rfl rfl ⟨rfl, Nat.le_of_ble_eq_true rfl, Nat.le_of_ble_eq_true rfl, by decide⟩ (hH_O (rfl : kotab 85 = some kMo)) (c_M_passesTo x1 y0 x2 1 x4 q1.2 _ hq3) (Nat.le_of_ble_eq_true rfl) ?_
  refine kw_step rfl rfl rfl rfl ?_
  refine kw_step (L' := [some (kr 85), some (kI x1), some (kI x2), some (kI x3), some (kI x4), none, some (kI y0), some (kI (kor q1.1 q3.1))]) rfl rfl rfl rfl ?_
  refine kw_step rfl rfl rfl rfl ?_
  refine kw_step rfl rfl rfl rfl ?_
  refine kw_step rfl rfl rfl rfl ?_
  refine kw_step rfl rfl rfl rfl ?_
  refine kw_step rfl rfl rfl rfl ?_
  obtain ⟨q5, hq5, hf⟩ := gbind hf
  refine kw_callV (vs := [kI y0]) rfl rfl rfl ⟨rfl, Nat.le_of_ble_eq_true rfl, Nat.le_of_ble_eq_true rfl, by decide⟩ (hH_O (rfl : kotab 85 = some kMo)) (c_M_ahead y0 q3.2 _ hq5) (Nat.le_of_ble_eq_true rfl) ?_
  refine kw_step rfl rfl rfl rfl ?_
  refine kw_step rfl rfl rfl rfl ?_
  refine kw_step rfl rfl rfl rfl ?_
  obtain ⟨q6, hq6, hf⟩ := gbind hf
  refine kw_callV (vs := [kI x1, kI q5, kI x2, kI 1, kI x4]) rfl rfl rfl ⟨rfl, Nat.le_of_ble_eq_true rfl, Nat.le_of_ble_eq_true rfl, by decide⟩ (hH_O (rfl : kotab 85 = some kMo)) (c_M_passesTo x1 q5 x2 1 x4 q3.2 _ hq6) (Nat.le_of_ble_eq_true rfl) ?_
  refine kw_step rfl rfl rfl rfl ?_
  cases hf
  exact kw_ret rfl rfl rfl hq
def f_M_tells (x1 : Int) (x2 : Int) (x3 : Int) (x4 : Int) (s : kM) : Option (Int × kM) :=
  (gI 22 x2).bind fun j1 => (gI 22 x2).bind fun j3 => if (s 88 j3) = 1 then ((gI 11 (s 87 j1)).bind fun j8 => f_M_tells_20 x1 x2 x3 x4 (s 99 j8) s) else ((gI 11 (s 87 j1)).bind fun j6 => f_M_tells_20 x1 x2 x3 x4 (s 98 j6) s)
set_option maxRecDepth 8000 in
theorem c_M_tells {sc : List Int} (x1 : Int) (x2 : Int) (x3 : Int) (x4 : Int) (s : kM) (t : Int × kM) (hf : f_M_tells x1 x2 x3 x4 s = some t) : kR sc 5 km_M_tells [kr 85, kI x1, kI x2, kI x3, kI x4] (hH s) (some (kI t.1)) (hH t.2) := by
  unfold f_M_tells at hf
  refine kR.start rfl ?_
  show kW sc 5 kc_M_tells 1 0 [some (kr 85), some (kI x1), some (kI x2), some (kI x3), some (kI x4), none, none, none] [] (hH s) _
  have hq : (fun (r : Option kV) (g : kH) => r = some (kI t.1) ∧ g = hH t.2) (some (kI t.1)) (hH t.2) := ⟨rfl, rfl⟩
  refine kw_step rfl rfl rfl rfl ?_
  refine kw_get rfl (hH_O (rfl : kotab 85 = some kMo)) rfl ?_
  refine kw_step rfl rfl rfl rfl ?_
  obtain ⟨j1, i2, hf⟩ := gbI hf
  refine kw_iald rfl (hH_A (rfl : ktab 87 = some (0, 22))) i2.1 i2.2.1 i2.2.2 ?_
  refine kw_step (L' := [some (kr 85), some (kI x1), some (kI x2), some (kI x3), some (kI x4), some (kI (s 87 j1)), none, none]) rfl rfl rfl rfl ?_
  refine kw_step rfl rfl rfl rfl ?_
  refine kw_get rfl (hH_O (rfl : kotab 85 = some kMo)) rfl ?_
  refine kw_step rfl rfl rfl rfl ?_
  obtain ⟨j3, i4, hf⟩ := gbI hf
  refine kw_iald rfl (hH_A (rfl : ktab 88 = some (0, 22))) i4.1 i4.2.1 i4.2.2 ?_
  refine kw_step rfl rfl rfl rfl ?_
  refine kw_icmp_ne rfl rfl (fun c5 => ?_) (fun c5 => ?_)
  · have hf := giff c5 hf
    refine kw_step rfl rfl rfl rfl ?_
    refine kw_get rfl (hH_O (rfl : kotab 85 = some kMo)) rfl ?_
    refine kw_step rfl rfl rfl rfl ?_
    obtain ⟨j6, i7, hf⟩ := gbI hf
    refine kw_iald rfl (hH_A (rfl : ktab 98 = some (0, 11))) i7.1 i7.2.1 i7.2.2 ?_
    exact kW_le (L' := [some (kr 85), some (kI x1), some (kI x2), some (kI x3), some (kI x4), none, none, none]) ⟨Or.inr rfl, Or.inr rfl, Or.inr rfl, Or.inr rfl, Or.inr rfl, Or.inl rfl, Or.inl rfl, Or.inl rfl, trivial⟩ (b_M_tells_20 x1 x2 x3 x4 (s 98 j6) s _ hf hq)
  · have hf := gift c5 hf
    refine kw_step rfl rfl rfl rfl ?_
    refine kw_get rfl (hH_O (rfl : kotab 85 = some kMo)) rfl ?_
    refine kw_step rfl rfl rfl rfl ?_
    obtain ⟨j8, i9, hf⟩ := gbI hf
    refine kw_iald rfl (hH_A (rfl : ktab 99 = some (0, 11))) i9.1 i9.2.1 i9.2.2 ?_
    refine kw_goto rfl rfl ?_
    exact kW_le (L' := [some (kr 85), some (kI x1), some (kI x2), some (kI x3), some (kI x4), none, none, none]) ⟨Or.inr rfl, Or.inr rfl, Or.inr rfl, Or.inr rfl, Or.inr rfl, Or.inl rfl, Or.inl rfl, Or.inl rfl, trivial⟩ (b_M_tells_20 x1 x2 x3 x4 (s 99 j8) s _ hf hq)
def f_M_minuteOf_39 (x1 : Int) (x2 : Int) (x3 : Int) (x4 : Int) (s : kM) : Option ((Int × Int × kM) ⊕ (Int × kM)) :=
  some (.inl (x3, (wI (x4 + 1)), s))
set_option maxRecDepth 8000 in
theorem b_M_minuteOf_39 {sc : List Int} {Q : Option kV → kH → Prop} (x1 : Int) (x2 : Int) (x3 : Int) (x4 : Int) (s : kM) (t : (Int × Int × kM) ⊕ (Int × kM)) (hf : f_M_minuteOf_39 x1 x2 x3 x4 s = some t) (hq : (gE (fun x => kW sc 6 kc_M_minuteOf 1 4 [some (kr 85), some (kI x1), some (kI x2), some (kI x.1), some (kI x.2.1)] [] (hH x.2.2) Q) (fun r => Q (some (kI r.1)) (hH r.2))) t) : kW sc 6 kc_M_minuteOf 1 39 [some (kr 85), some (kI x1), some (kI x2), some (kI x3), some (kI x4)] [] (hH s) Q := by
  unfold f_M_minuteOf_39 at hf
  refine kw_step (L' := [some (kr 85), some (kI x1), some (kI x2), some (kI x3), some (kI (wI (x4 + 1)))]) rfl rfl rfl rfl ?_
  refine kw_goto rfl rfl ?_
  cases hf
  exact kW_le (L' := [some (kr 85), some (kI x1), some (kI x2), some (kI x3), some (kI (wI (x4 + 1)))]) ⟨Or.inr rfl, Or.inr rfl, Or.inr rfl, Or.inr rfl, Or.inr rfl, trivial⟩ hq
def f_M_minuteOf_4b (x1 : Int) (x2 : Int) (x3 : Int) (x4 : Int) (s : kM) : Option ((Int × Int × kM) ⊕ (Int × kM)) :=
  (f_M_places s).bind fun q1 => if q1 ≤ x4 then (some (.inr (x3, s))) else (if (kand (kshr x1 x4) 1) = 1 then ((f_M_next x4 s).bind fun q4 => (f_M_next x4 s).bind fun q5 => (f_M_tells x4 q4 q5 x2 s).bind fun q6 => (f_M_ahead x4 q6.2).bind fun q8 => (f_M_tells x4 x4 q8 x2 q6.2).bind fun q9 => f_M_minuteOf_39 x1 x2 (kor (kor x3 q6.1) q9.1) x4 q9.2) else (f_M_minuteOf_39 x1 x2 x3 x4 s))
set_option maxRecDepth 8000 in
theorem b_M_minuteOf_4b {sc : List Int} {Q : Option kV → kH → Prop} (x1 : Int) (x2 : Int) (x3 : Int) (x4 : Int) (s : kM) (t : (Int × Int × kM) ⊕ (Int × kM)) (hf : f_M_minuteOf_4b x1 x2 x3 x4 s = some t) (hq : (gE (fun x => kW sc 6 kc_M_minuteOf 1 4 [some (kr 85), some (kI x1), some (kI x2), some (kI x.1), some (kI x.2.1)] [] (hH x.2.2) Q) (fun r => Q (some (kI r.1)) (hH r.2))) t) : kW sc 6 kc_M_minuteOf 1 4 [some (kr 85), some (kI x1), some (kI x2), some (kI x3), some (kI x4)] [] (hH s) Q := by
  unfold f_M_minuteOf_4b at hf
  refine kw_step rfl rfl rfl rfl ?_
  refine kw_step rfl rfl rfl rfl ?_
  obtain ⟨q1, hq1, hf⟩ := gbind hf
  refine kw_callV (vs := []) rfl rfl rfl ⟨rfl, Nat.le_of_ble_eq_true rfl, Nat.le_of_ble_eq_true rfl, by decide⟩ (hH_O (rfl : kotab 85 = some kMo)) (c_M_places s _ hq1) (Nat.le_of_ble_eq_true rfl) ?_
  refine kw_icmp_ge rfl rfl (fun c2 => ?_) (fun c2 => ?_)
  · have hf := gift c2 hf
    refine kw_step rfl rfl rfl rfl ?_
    cases hf
    exact kw_ret rfl rfl rfl hq
  · have hf := giff c2 hf
    refine kw_step rfl rfl rfl rfl ?_
    refine kw_step rfl rfl rfl rfl ?_
    refine kw_step rfl rfl rfl rfl ?_
    refine kw_step rfl rfl rfl rfl ?_
    refine kw_step rfl rfl rfl rfl ?_
    refine kw_step rfl rfl rfl rfl ?_
    refine kw_icmp_ne rfl rfl (fun c3 => ?_) (fun c3 => ?_)
    · have hf := giff c3 hf
      exact kW_le (L' := [some (kr 85), some (kI x1), some (kI x2), some (kI x3), some (kI x4)]) ⟨Or.inr rfl, Or.inr rfl, Or.inr rfl, Or.inr rfl, Or.inr rfl, trivial⟩ (b_M_minuteOf_39 x1 x2 x3 x4 s _ hf hq)
    · have hf := gift c3 hf
      refine kw_step rfl rfl rfl rfl ?_
      refine kw_step rfl rfl rfl rfl ?_
      refine kw_step rfl rfl rfl rfl ?_
      refine kw_step rfl rfl rfl rfl ?_
      refine kw_step rfl rfl rfl rfl ?_
      obtain ⟨q4, hq4, hf⟩ := gbind hf
      refine kw_callV (vs := [kI x4]) rfl rfl rfl ⟨rfl, Nat.le_of_ble_eq_true rfl, Nat.le_of_ble_eq_true rfl, by decide⟩ (hH_O (rfl : kotab 85 = some kMo)) (c_M_next x4 s _ hq4) (Nat.le_of_ble_eq_true rfl) ?_
      refine kw_step rfl rfl rfl rfl ?_
      refine kw_step rfl rfl rfl rfl ?_
      obtain ⟨q5, hq5, hf⟩ := gbind hf
      refine kw_callV (vs := [kI x4]) rfl rfl rfl ⟨rfl, Nat.le_of_ble_eq_true rfl, Nat.le_of_ble_eq_true rfl, by decide⟩ (hH_O (rfl : kotab 85 = some kMo)) (c_M_next x4 s _ hq5) (Nat.le_of_ble_eq_true rfl) ?_
      refine kw_step rfl rfl rfl rfl ?_
      obtain ⟨q6, hq6, hf⟩ := gbind hf
      refine kw_callV (vs := [kI x4, kI q4, kI q5, kI x2]) rfl rfl rfl ⟨rfl, Nat.le_of_ble_eq_true rfl, Nat.le_of_ble_eq_true rfl, by decide⟩ (hH_O (rfl : kotab 85 = some kMo)) (c_M_tells x4 q4 q5 x2 s _ hq6) (Nat.le_of_ble_eq_true rfl) ?_
      refine kw_step rfl rfl rfl rfl ?_
      refine kw_step (L' := [some (kr 85), some (kI x1), some (kI x2), some (kI (kor x3 q6.1)), some (kI x4)]) rfl rfl rfl rfl ?_
      refine kw_step rfl rfl rfl rfl ?_
      refine kw_step rfl rfl rfl rfl ?_
      refine kw_step rfl rfl rfl rfl ?_
      refine kw_step rfl rfl rfl rfl ?_
      refine kw_step rfl rfl rfl rfl ?_
      refine kw_step rfl rfl rfl rfl ?_
      obtain ⟨q8, hq8, hf⟩ := gbind hf
      refine kw_callV (vs := [kI x4]) rfl rfl rfl ⟨rfl, Nat.le_of_ble_eq_true rfl, Nat.le_of_ble_eq_true rfl, by decide⟩ (hH_O (rfl : kotab 85 = some kMo)) (c_M_ahead x4 q6.2 _ hq8) (Nat.le_of_ble_eq_true rfl) ?_
      refine kw_step rfl rfl rfl rfl ?_
      obtain ⟨q9, hq9, hf⟩ := gbind hf
      refine kw_callV (vs := [kI x4, kI x4, kI q8, kI x2]) rfl rfl rfl ⟨rfl, Nat.le_of_ble_eq_true rfl, Nat.le_of_ble_eq_true rfl, by decide⟩ (hH_O (rfl : kotab 85 = some kMo)) (c_M_tells x4 x4 q8 x2 q6.2 _ hq9) (Nat.le_of_ble_eq_true rfl) ?_
      refine kw_step rfl rfl rfl rfl ?_
      refine kw_step (L' := [some (kr 85), some (kI x1), some (kI x2), some (kI (kor (kor x3 q6.1) q9.1)), some (kI x4)]) rfl rfl rfl rfl ?_
      exact kW_le (L' := [some (kr 85), some (kI x1), some (kI x2), some (kI (kor (kor x3 q6.1) q9.1)), some (kI x4)]) ⟨Or.inr rfl, Or.inr rfl, Or.inr rfl, Or.inr rfl, Or.inr rfl, trivial⟩ (b_M_minuteOf_39 x1 x2 (kor (kor x3 q6.1) q9.1) x4 q9.2 _ hf hq)
def f_M_minuteOf_4 (x1 : Int) (x2 : Int) (x3 : Int) (x4 : Int) (s : kM) : Option (Int × kM) :=
  gL (fun (x : Int × Int × kM) => f_M_minuteOf_4b x1 x2 x.1 x.2.1 x.2.2) gF (x3, x4, s)
theorem b_M_minuteOf_4 {sc : List Int} {Q : Option kV → kH → Prop} (x1 : Int) (x2 : Int) (x3 : Int) (x4 : Int) (s : kM) (t : Int × kM) (hf : f_M_minuteOf_4 x1 x2 x3 x4 s = some t) (hq : (fun r => Q (some (kI r.1)) (hH r.2)) t) : kW sc 6 kc_M_minuteOf 1 4 [some (kr 85), some (kI x1), some (kI x2), some (kI x3), some (kI x4)] [] (hH s) Q :=
  gL_ind (P := fun (x : Int × Int × kM) => kW sc 6 kc_M_minuteOf 1 4 [some (kr 85), some (kI x1), some (kI x2), some (kI x.1), some (kI x.2.1)] [] (hH x.2.2) Q) (q := (fun r => Q (some (kI r.1)) (hH r.2))) (fun x t hf hq => b_M_minuteOf_4b x1 x2 x.1 x.2.1 x.2.2 t hf hq) gF (x3, x4, s) t hf hq
def f_M_minuteOf (x1 : Int) (x2 : Int) (s : kM) : Option (Int × kM) :=
  f_M_minuteOf_4 x1 x2 x1 0 s
set_option maxRecDepth 8000 in
theorem c_M_minuteOf {sc : List Int} (x1 : Int) (x2 : Int) (s : kM) (t : Int × kM) (hf : f_M_minuteOf x1 x2 s = some t) : kR sc 6 km_M_minuteOf [kr 85, kI x1, kI x2] (hH s) (some (kI t.1)) (hH t.2) := by
  unfold f_M_minuteOf at hf
  refine kR.start rfl ?_
  show kW sc 6 kc_M_minuteOf 1 0 [some (kr 85), some (kI x1), some (kI x2), none, none] [] (hH s) _
  have hq : (fun (r : Option kV) (g : kH) => r = some (kI t.1) ∧ g = hH t.2) (some (kI t.1)) (hH t.2) := ⟨rfl, rfl⟩
  refine kw_step rfl rfl rfl rfl ?_
  refine kw_step (L' := [some (kr 85), some (kI x1), some (kI x2), some (kI x1), none]) rfl rfl rfl rfl ?_
  refine kw_step rfl rfl rfl rfl ?_
  refine kw_step (L' := [some (kr 85), some (kI x1), some (kI x2), some (kI x1), some (kI 0)]) rfl rfl rfl rfl ?_
  exact kW_le (L' := [some (kr 85), some (kI x1), some (kI x2), some (kI x1), some (kI 0)]) ⟨Or.inr rfl, Or.inr rfl, Or.inr rfl, Or.inr rfl, Or.inr rfl, trivial⟩ (b_M_minuteOf_4 x1 x2 x1 0 s _ hf hq)
def f_M_gossip_18b (x2 : Int) (x3 : Int) (x4 : Int) (s : kM) : Option ((Int × Int × kM) ⊕ (Int × kM)) :=
  if x2 < x4 then (some (.inr (x3, s))) else ((f_M_minuteOf x3 x4 s).bind fun q2 => some (.inl (q2.1, (wI (x4 + 1)), q2.2)))
set_option maxRecDepth 8000 in
theorem b_M_gossip_18b {sc : List Int} {Q : Option kV → kH → Prop} (x2 : Int) (x3 : Int) (x4 : Int) (s : kM) (t : (Int × Int × kM) ⊕ (Int × kM)) (hf : f_M_gossip_18b x2 x3 x4 s = some t) (hq : (gE (fun x => kW sc 7 kc_M_gossip 1 18 [some (kr 85), none, some (kI x2), some (kI x.1), some (kI x.2.1)] [] (hH x.2.2) Q) (fun r => Q (some (kI r.1)) (hH r.2))) t) : kW sc 7 kc_M_gossip 1 18 [some (kr 85), none, some (kI x2), some (kI x3), some (kI x4)] [] (hH s) Q := by
  unfold f_M_gossip_18b at hf
  refine kw_step rfl rfl rfl rfl ?_
  refine kw_step rfl rfl rfl rfl ?_
  refine kw_icmp_gt rfl rfl (fun c1 => ?_) (fun c1 => ?_)
  · have hf := gift c1 hf
    refine kw_step rfl rfl rfl rfl ?_
    cases hf
    exact kw_ret rfl rfl rfl hq
  · have hf := giff c1 hf
    refine kw_step rfl rfl rfl rfl ?_
    refine kw_step rfl rfl rfl rfl ?_
    refine kw_step rfl rfl rfl rfl ?_
    obtain ⟨q2, hq2, hf⟩ := gbind hf
    refine kw_callV (vs := [kI x3, kI x4]) rfl rfl rfl ⟨rfl, Nat.le_of_ble_eq_true rfl, Nat.le_of_ble_eq_true rfl, by decide⟩ (hH_O (rfl : kotab 85 = some kMo)) (c_M_minuteOf x3 x4 s _ hq2) (Nat.le_of_ble_eq_true rfl) ?_
    refine kw_step (L' := [some (kr 85), none, some (kI x2), some (kI q2.1), some (kI x4)]) rfl rfl rfl rfl ?_
    refine kw_step (L' := [some (kr 85), none, some (kI x2), some (kI q2.1), some (kI (wI (x4 + 1)))]) rfl rfl rfl rfl ?_
    refine kw_goto rfl rfl ?_
    cases hf
    exact kW_le (L' := [some (kr 85), none, some (kI x2), some (kI q2.1), some (kI (wI (x4 + 1)))]) ⟨Or.inr rfl, Or.inl rfl, Or.inr rfl, Or.inr rfl, Or.inr rfl, trivial⟩ hq
def f_M_gossip_18 (x2 : Int) (x3 : Int) (x4 : Int) (s : kM) : Option (Int × kM) :=
  gL (fun (x : Int × Int × kM) => f_M_gossip_18b x2 x.1 x.2.1 x.2.2) gF (x3, x4, s)
theorem b_M_gossip_18 {sc : List Int} {Q : Option kV → kH → Prop} (x2 : Int) (x3 : Int) (x4 : Int) (s : kM) (t : Int × kM) (hf : f_M_gossip_18 x2 x3 x4 s = some t) (hq : (fun r => Q (some (kI r.1)) (hH r.2)) t) : kW sc 7 kc_M_gossip 1 18 [some (kr 85), none, some (kI x2), some (kI x3), some (kI x4)] [] (hH s) Q :=
  gL_ind (P := fun (x : Int × Int × kM) => kW sc 7 kc_M_gossip 1 18 [some (kr 85), none, some (kI x2), some (kI x.1), some (kI x.2.1)] [] (hH x.2.2) Q) (q := (fun r => Q (some (kI r.1)) (hH r.2))) (fun x t hf hq => b_M_gossip_18b x2 x.1 x.2.1 x.2.2 t hf hq) gF (x3, x4, s) t hf hq
def f_M_gossip (x1 : Int) (x2 : Int) (s : kM) : Option (Int × kM) :=
  (f_M_isPlace x1 s).bind fun q1 => if q1 = 0 then (some ((-1), s)) else ((f_M_in x2 0 60 s).bind fun q3 => if q3 = 0 then (some ((-1), s)) else (f_M_gossip_18 x2 (kshl 1 x1) 1 s))
set_option maxRecDepth 8000 in
theorem c_M_gossip {sc : List Int} (x1 : Int) (x2 : Int) (s : kM) (t : Int × kM) (hf : f_M_gossip x1 x2 s = some t) : kR sc 7 km_M_gossip [kr 85, kI x1, kI x2] (hH s) (some (kI t.1)) (hH t.2) := by
  unfold f_M_gossip at hf
  refine kR.start rfl ?_
  show kW sc 7 kc_M_gossip 1 0 [some (kr 85), some (kI x1), some (kI x2), none, none] [] (hH s) _
  have hq : (fun (r : Option kV) (g : kH) => r = some (kI t.1) ∧ g = hH t.2) (some (kI t.1)) (hH t.2) := ⟨rfl, rfl⟩
  refine kw_step rfl rfl rfl rfl ?_
  refine kw_step rfl rfl rfl rfl ?_
  obtain ⟨q1, hq1, hf⟩ := gbind hf
  refine kw_callV (vs := [kI x1]) rfl rfl rfl ⟨rfl, Nat.le_of_ble_eq_true rfl, Nat.le_of_ble_eq_true rfl, by decide⟩ (hH_O (rfl : kotab 85 = some kMo)) (c_M_isPlace x1 s _ hq1) (Nat.le_of_ble_eq_true rfl) ?_
  refine kw_if_eq rfl rfl (fun c2 => ?_) (fun c2 => ?_)
  · have hf := gift c2 hf
    refine kw_step rfl rfl rfl rfl ?_
    cases hf
    exact kw_ret rfl rfl rfl hq
  · have hf := giff c2 hf
    refine kw_step rfl rfl rfl rfl ?_
    refine kw_step rfl rfl rfl rfl ?_
    refine kw_step rfl rfl rfl rfl ?_
    refine kw_step rfl rfl rfl rfl ?_
    obtain ⟨q3, hq3, hf⟩ := gbind hf
    refine kw_callS (vs := [kJ x2, kJ 0, kJ 60]) rfl rfl rfl ⟨rfl, Nat.le_of_ble_eq_true rfl, Nat.le_of_ble_eq_true rfl, rfl⟩ (c_M_in x2 0 60 s _ hq3) (Nat.le_of_ble_eq_true rfl) ?_
    refine kw_if_ne rfl rfl (fun c4 => ?_) (fun c4 => ?_)
    · have hf := giff c4 hf
      refine kw_step rfl rfl rfl rfl ?_
      refine kw_step rfl rfl rfl rfl ?_
      refine kw_step rfl rfl rfl rfl ?_
      refine kw_step (L' := [some (kr 85), some (kI x1), some (kI x2), some (kI (kshl 1 x1)), none]) rfl rfl rfl rfl ?_
      refine kw_step rfl rfl rfl rfl ?_
      refine kw_step (L' := [some (kr 85), some (kI x1), some (kI x2), some (kI (kshl 1 x1)), some (kI 1)]) rfl rfl rfl rfl ?_
      exact kW_le (L' := [some (kr 85), none, some (kI x2), some (kI (kshl 1 x1)), some (kI 1)]) ⟨Or.inr rfl, Or.inl rfl, Or.inr rfl, Or.inr rfl, Or.inr rfl, trivial⟩ (b_M_gossip_18 x2 (kshl 1 x1) 1 s _ hf hq)
    · have hf := gift c4 hf
      refine kw_step rfl rfl rfl rfl ?_
      cases hf
      exact kw_ret rfl rfl rfl hq
def f_M_heard_16b (x2 : Int) (x3 : Int) (x4 : Int) (s : kM) : Option ((Int × Int × kM) ⊕ (Int × kM)) :=
  if 60 < x4 then (some (.inr ((-2), s))) else (if (kand (kshr x3 x2) 1) = 1 then (some (.inr (x4, s))) else ((f_M_minuteOf x3 (wI (x4 + 1)) s).bind fun q3 => some (.inl (q3.1, (wI (x4 + 1)), q3.2))))
set_option maxRecDepth 8000 in
theorem b_M_heard_16b {sc : List Int} {Q : Option kV → kH → Prop} (x2 : Int) (x3 : Int) (x4 : Int) (s : kM) (t : (Int × Int × kM) ⊕ (Int × kM)) (hf : f_M_heard_16b x2 x3 x4 s = some t) (hq : (gE (fun x => kW sc 7 kc_M_heard 1 16 [some (kr 85), none, some (kI x2), some (kI x.1), some (kI x.2.1)] [] (hH x.2.2) Q) (fun r => Q (some (kI r.1)) (hH r.2))) t) : kW sc 7 kc_M_heard 1 16 [some (kr 85), none, some (kI x2), some (kI x3), some (kI x4)] [] (hH s) Q := by
  unfold f_M_heard_16b at hf
  refine kw_step rfl rfl rfl rfl ?_
  refine kw_step rfl rfl rfl rfl ?_
  refine kw_icmp_gt rfl rfl (fun c1 => ?_) (fun c1 => ?_)
  · have hf := gift c1 hf
    refine kw_step rfl rfl rfl rfl ?_
    cases hf
    exact kw_ret rfl rfl rfl hq
  · have hf := giff c1 hf
    refine kw_step rfl rfl rfl rfl ?_
    refine kw_step rfl rfl rfl rfl ?_
    refine kw_step rfl rfl rfl rfl ?_
    refine kw_step rfl rfl rfl rfl ?_
    refine kw_step rfl rfl rfl rfl ?_
    refine kw_step rfl rfl rfl rfl ?_
    refine kw_icmp_ne rfl rfl (fun c2 => ?_) (fun c2 => ?_)
    · have hf := giff c2 hf
      refine kw_step rfl rfl rfl rfl ?_
      refine kw_step rfl rfl rfl rfl ?_
      refine kw_step rfl rfl rfl rfl ?_
      refine kw_step rfl rfl rfl rfl ?_
      refine kw_step rfl rfl rfl rfl ?_
      obtain ⟨q3, hq3, hf⟩ := gbind hf
      refine kw_callV (vs := [kI x3, kI (wI (x4 + 1))]) rfl rfl rfl ⟨rfl, Nat.le_of_ble_eq_true rfl, Nat.le_of_ble_eq_true rfl, by decide⟩ (hH_O (rfl : kotab 85 = some kMo)) (c_M_minuteOf x3 (wI (x4 + 1)) s _ hq3) (Nat.le_of_ble_eq_true rfl) ?_
      refine kw_step (L' := [some (kr 85), none, some (kI x2), some (kI q3.1), some (kI x4)]) rfl rfl rfl rfl ?_
      refine kw_step (L' := [some (kr 85), none, some (kI x2), some (kI q3.1), some (kI (wI (x4 + 1)))]) rfl rfl rfl rfl ?_
      refine kw_goto rfl rfl ?_
      cases hf
      exact kW_le (L' := [some (kr 85), none, some (kI x2), some (kI q3.1), some (kI (wI (x4 + 1)))]) ⟨Or.inr rfl, Or.inl rfl, Or.inr rfl, Or.inr rfl, Or.inr rfl, trivial⟩ hq
    · have hf := gift c2 hf
      refine kw_step rfl rfl rfl rfl ?_
      cases hf
      exact kw_ret rfl rfl rfl hq
def f_M_heard_16 (x2 : Int) (x3 : Int) (x4 : Int) (s : kM) : Option (Int × kM) :=
  gL (fun (x : Int × Int × kM) => f_M_heard_16b x2 x.1 x.2.1 x.2.2) gF (x3, x4, s)
theorem b_M_heard_16 {sc : List Int} {Q : Option kV → kH → Prop} (x2 : Int) (x3 : Int) (x4 : Int) (s : kM) (t : Int × kM) (hf : f_M_heard_16 x2 x3 x4 s = some t) (hq : (fun r => Q (some (kI r.1)) (hH r.2)) t) : kW sc 7 kc_M_heard 1 16 [some (kr 85), none, some (kI x2), some (kI x3), some (kI x4)] [] (hH s) Q :=
  gL_ind (P := fun (x : Int × Int × kM) => kW sc 7 kc_M_heard 1 16 [some (kr 85), none, some (kI x2), some (kI x.1), some (kI x.2.1)] [] (hH x.2.2) Q) (q := (fun r => Q (some (kI r.1)) (hH r.2))) (fun x t hf hq => b_M_heard_16b x2 x.1 x.2.1 x.2.2 t hf hq) gF (x3, x4, s) t hf hq
def f_M_heard (x1 : Int) (x2 : Int) (s : kM) : Option (Int × kM) :=
  (f_M_isPlace x1 s).bind fun q1 => if q1 = 0 then (some ((-1), s)) else ((f_M_isPlace x2 s).bind fun q3 => if q3 = 0 then (some ((-1), s)) else (f_M_heard_16 x2 (kshl 1 x1) 0 s))
set_option maxRecDepth 8000 in
theorem c_M_heard {sc : List Int} (x1 : Int) (x2 : Int) (s : kM) (t : Int × kM) (hf : f_M_heard x1 x2 s = some t) : kR sc 7 km_M_heard [kr 85, kI x1, kI x2] (hH s) (some (kI t.1)) (hH t.2) := by
  unfold f_M_heard at hf
  refine kR.start rfl ?_
  show kW sc 7 kc_M_heard 1 0 [some (kr 85), some (kI x1), some (kI x2), none, none] [] (hH s) _
  have hq : (fun (r : Option kV) (g : kH) => r = some (kI t.1) ∧ g = hH t.2) (some (kI t.1)) (hH t.2) := ⟨rfl, rfl⟩
  refine kw_step rfl rfl rfl rfl ?_
  refine kw_step rfl rfl rfl rfl ?_
  obtain ⟨q1, hq1, hf⟩ := gbind hf
  refine kw_callV (vs := [kI x1]) rfl rfl rfl ⟨rfl, Nat.le_of_ble_eq_true rfl, Nat.le_of_ble_eq_true rfl, by decide⟩ (hH_O (rfl : kotab 85 = some kMo)) (c_M_isPlace x1 s _ hq1) (Nat.le_of_ble_eq_true rfl) ?_
  refine kw_if_eq rfl rfl (fun c2 => ?_) (fun c2 => ?_)
  · have hf := gift c2 hf
    refine kw_step rfl rfl rfl rfl ?_
    cases hf
    exact kw_ret rfl rfl rfl hq
  · have hf := giff c2 hf
    refine kw_step rfl rfl rfl rfl ?_
    refine kw_step rfl rfl rfl rfl ?_
    obtain ⟨q3, hq3, hf⟩ := gbind hf
    refine kw_callV (vs := [kI x2]) rfl rfl rfl ⟨rfl, Nat.le_of_ble_eq_true rfl, Nat.le_of_ble_eq_true rfl, by decide⟩ (hH_O (rfl : kotab 85 = some kMo)) (c_M_isPlace x2 s _ hq3) (Nat.le_of_ble_eq_true rfl) ?_
    refine kw_if_ne rfl rfl (fun c4 => ?_) (fun c4 => ?_)
    · have hf := giff c4 hf
      refine kw_step rfl rfl rfl rfl ?_
      refine kw_step rfl rfl rfl rfl ?_
      refine kw_step rfl rfl rfl rfl ?_
      refine kw_step (L' := [some (kr 85), some (kI x1), some (kI x2), some (kI (kshl 1 x1)), none]) rfl rfl rfl rfl ?_
      refine kw_step rfl rfl rfl rfl ?_
      refine kw_step (L' := [some (kr 85), some (kI x1), some (kI x2), some (kI (kshl 1 x1)), some (kI 0)]) rfl rfl rfl rfl ?_
      exact kW_le (L' := [some (kr 85), none, some (kI x2), some (kI (kshl 1 x1)), some (kI 0)]) ⟨Or.inr rfl, Or.inl rfl, Or.inr rfl, Or.inr rfl, Or.inr rfl, trivial⟩ (b_M_heard_16 x2 (kshl 1 x1) 0 s _ hf hq)
    · have hf := gift c4 hf
      refine kw_step rfl rfl rfl rfl ?_
      cases hf
      exact kw_ret rfl rfl rfl hq
def f_M_seed (x1 : Int) (s : kM) : Option (Int × kM) :=
  if 0 ≤ x1 then (gLet (gU s 86 4 x1) fun s2 => some ((s 86 4), s2)) else (some ((-1), s))
set_option maxRecDepth 8000 in
theorem c_M_seed {sc : List Int} (x1 : Int) (s : kM) (t : Int × kM) (hf : f_M_seed x1 s = some t) : kR sc 0 km_M_seed [kr 85, kI x1] (hH s) (some (kI t.1)) (hH t.2) := by
  unfold f_M_seed at hf
  refine kR.start rfl ?_
  show kW sc 0 kc_M_seed 1 0 [some (kr 85), some (kI x1), none] [] (hH s) _
  have hq : (fun (r : Option kV) (g : kH) => r = some (kI t.1) ∧ g = hH t.2) (some (kI t.1)) (hH t.2) := ⟨rfl, rfl⟩
  refine kw_step rfl rfl rfl rfl ?_
  refine kw_if_ge rfl rfl (fun c1 => ?_) (fun c1 => ?_)
  · have hf := gift c1 hf
    refine kw_step rfl rfl rfl rfl ?_
    refine kw_get rfl (hH_O (rfl : kotab 85 = some kMo)) rfl ?_
    refine kw_step rfl rfl rfl rfl ?_
    refine kw_iald rfl (hH_A (rfl : ktab 86 = some (0, 6))) (by decide) (by decide) (j := 4) rfl ?_
    refine kw_step (L' := [some (kr 85), some (kI x1), some (kI (s 86 4))]) rfl rfl rfl rfl ?_
    refine kw_step rfl rfl rfl rfl ?_
    refine kw_get rfl (hH_O (rfl : kotab 85 = some kMo)) rfl ?_
    refine kw_step rfl rfl rfl rfl ?_
    refine kw_step rfl rfl rfl rfl ?_
    obtain ⟨s2, ee3, hf⟩ := gbL hf
    refine kw_iastH rfl (rfl : ktab 86 = some (0, 6)) (by decide) (by decide) (j := 4) rfl ee3 ?_
    refine kw_step rfl rfl rfl rfl ?_
    cases hf
    exact kw_ret rfl rfl rfl hq
  · have hf := giff c1 hf
    refine kw_step rfl rfl rfl rfl ?_
    cases hf
    exact kw_ret rfl rfl rfl hq
def f_M_draws (x1 : Int) (s : kM) : Option (Int × kM) :=
  gLet (gU s 86 4 (wI (klrem (wL ((wL ((s 86 4) * 1103515245)) + 12345)) 2147483648))) fun s1 => (gD x1).bind fun _ => some ((krem (kdiv (s1 86 4) 65536) x1), s1)
set_option maxRecDepth 8000 in
theorem c_M_draws {sc : List Int} (x1 : Int) (s : kM) (t : Int × kM) (hf : f_M_draws x1 s = some t) : kR sc 0 km_M_draws [kr 85, kI x1] (hH s) (some (kI t.1)) (hH t.2) := by
  unfold f_M_draws at hf
  refine kR.start rfl ?_
  show kW sc 0 kc_M_draws 1 0 [some (kr 85), some (kI x1)] [] (hH s) _
  have hq : (fun (r : Option kV) (g : kH) => r = some (kI t.1) ∧ g = hH t.2) (some (kI t.1)) (hH t.2) := ⟨rfl, rfl⟩
  refine kw_step rfl rfl rfl rfl ?_
  refine kw_get rfl (hH_O (rfl : kotab 85 = some kMo)) rfl ?_
  refine kw_step rfl rfl rfl rfl ?_
  refine kw_step rfl rfl rfl rfl ?_
  refine kw_get rfl (hH_O (rfl : kotab 85 = some kMo)) rfl ?_
  refine kw_step rfl rfl rfl rfl ?_
  refine kw_iald rfl (hH_A (rfl : ktab 86 = some (0, 6))) (by decide) (by decide) (j := 4) rfl ?_
  refine kw_step rfl rfl rfl rfl ?_
  refine kw_step rfl rfl rfl rfl ?_
  refine kw_step rfl rfl rfl rfl ?_
  refine kw_step rfl rfl rfl rfl ?_
  refine kw_step rfl rfl rfl rfl ?_
  refine kw_step rfl rfl rfl rfl ?_
  refine kw_lrem rfl (by decide) ?_
  refine kw_step rfl rfl rfl rfl ?_
  obtain ⟨s1, ee2, hf⟩ := gbL hf
  refine kw_iastH rfl (rfl : ktab 86 = some (0, 6)) (by decide) (by decide) (j := 4) rfl ee2 ?_
  refine kw_step rfl rfl rfl rfl ?_
  refine kw_get rfl (hH_O (rfl : kotab 85 = some kMo)) rfl ?_
  refine kw_step rfl rfl rfl rfl ?_
  refine kw_iald rfl (hH_A (rfl : ktab 86 = some (0, 6))) (by decide) (by decide) (j := 4) rfl ?_
  refine kw_step rfl rfl rfl rfl ?_
  refine kw_idiv rfl (by decide) ?_
  refine kw_step rfl rfl rfl rfl ?_
  obtain ⟨z4, hf⟩ := gbD hf
  refine kw_irem rfl z4 ?_
  cases hf
  exact kw_ret rfl rfl rfl hq
