/-! PRINTED by wip/whole/decall.py: methods as functions over the flat world, with their contracts -/
def f_M_colours_146b (x1 : Int) (x4 : Int) (x6 : Int) (s : kM) : Option ((Int × Int) ⊕ (Int × kM)) :=
  if (s 85 44) ≤ x6 then (some (.inr (x4, s))) else (some (.inl ((wL (x4 * x1)), (wI (x6 + 1)))))
set_option maxRecDepth 8000 in
theorem b_M_colours_146b {sc : List Int} {Q : Option kV → kH → Prop} (x1 : Int) (x4 : Int) (x6 : Int) (s : kM) (t : (Int × Int) ⊕ (Int × kM)) (hf : f_M_colours_146b x1 x4 x6 s = some t) (hq : (gE (fun x => kW sc 4 kc_M_colours 3 146 [some (kr 85), some (kI x1), none, none, some (kJ x.1), none, some (kI x.2), none, none, none, none, none] [] (hH s) Q) (fun r => Q (some (kJ r.1)) (hH r.2))) t) : kW sc 4 kc_M_colours 3 146 [some (kr 85), some (kI x1), none, none, some (kJ x4), none, some (kI x6), none, none, none, none, none] [] (hH s) Q := by
  unfold f_M_colours_146b at hf
  refine kw_step rfl rfl rfl rfl ?_
  refine kw_step rfl rfl rfl rfl ?_
  refine kw_get rfl (hH_O (rfl : kotab 85 = some kMo)) rfl ?_
  refine kw_icmp_ge rfl rfl (fun c1 => ?_) (fun c1 => ?_)
  · have hf := gift c1 hf
    refine kw_step rfl rfl rfl rfl ?_
    cases hf
    exact kw_ret rfl rfl rfl hq
  · have hf := giff c1 hf
    refine kw_step rfl rfl rfl rfl ?_
    refine kw_step rfl rfl rfl rfl ?_
    refine kw_step rfl rfl rfl rfl ?_
    refine kw_step rfl rfl rfl rfl ?_
    refine kw_step (L' := [some (kr 85), some (kI x1), none, none, some (kJ (wL (x4 * x1))), none, some (kI x6), none, none, none, none, none]) rfl rfl rfl rfl ?_
    refine kw_step (L' := [some (kr 85), some (kI x1), none, none, some (kJ (wL (x4 * x1))), none, some (kI (wI (x6 + 1))), none, none, none, none, none]) rfl rfl rfl rfl ?_
    refine kw_goto rfl rfl ?_
    cases hf
    exact kW_le (L' := [some (kr 85), some (kI x1), none, none, some (kJ (wL (x4 * x1))), none, some (kI (wI (x6 + 1))), none, none, none, none, none]) ⟨Or.inr rfl, Or.inr rfl, Or.inl rfl, Or.inl rfl, Or.inr rfl, Or.inl rfl, Or.inr rfl, Or.inl rfl, Or.inl rfl, Or.inl rfl, Or.inl rfl, Or.inl rfl, trivial⟩ hq
def f_M_colours_146 (x1 : Int) (x4 : Int) (x6 : Int) (s : kM) : Option (Int × kM) :=
  gL (fun (x : Int × Int) => f_M_colours_146b x1 x.1 x.2 s) gF (x4, x6)
theorem b_M_colours_146 {sc : List Int} {Q : Option kV → kH → Prop} (x1 : Int) (x4 : Int) (x6 : Int) (s : kM) (t : Int × kM) (hf : f_M_colours_146 x1 x4 x6 s = some t) (hq : (fun r => Q (some (kJ r.1)) (hH r.2)) t) : kW sc 4 kc_M_colours 3 146 [some (kr 85), some (kI x1), none, none, some (kJ x4), none, some (kI x6), none, none, none, none, none] [] (hH s) Q :=
  gL_ind (P := fun (x : Int × Int) => kW sc 4 kc_M_colours 3 146 [some (kr 85), some (kI x1), none, none, some (kJ x.1), none, some (kI x.2), none, none, none, none, none] [] (hH s) Q) (q := (fun r => Q (some (kJ r.1)) (hH r.2))) (fun x t hf hq => b_M_colours_146b x1 x.1 x.2 s t hf hq) gF (x4, x6) t hf hq
def f_M_colours_142 (x1 : Int) (x3 : Int) (s : kM) : Option (Int × kM) :=
  f_M_colours_146 x1 1 x3 s
set_option maxRecDepth 8000 in
theorem b_M_colours_142 {sc : List Int} {Q : Option kV → kH → Prop} (x1 : Int) (x3 : Int) (s : kM) (t : Int × kM) (hf : f_M_colours_142 x1 x3 s = some t) (hq : (fun r => Q (some (kJ r.1)) (hH r.2)) t) : kW sc 4 kc_M_colours 3 142 [some (kr 85), some (kI x1), none, some (kI x3), none, none, none, none, none, none, none, none] [] (hH s) Q := by
  unfold f_M_colours_142 at hf
  refine kw_step rfl rfl rfl rfl ?_
  refine kw_step (L' := [some (kr 85), some (kI x1), none, some (kI x3), some (kJ 1), none, none, none, none, none, none, none]) rfl rfl rfl rfl ?_
  refine kw_step rfl rfl rfl rfl ?_
  refine kw_step (L' := [some (kr 85), some (kI x1), none, some (kI x3), some (kJ 1), none, some (kI x3), none, none, none, none, none]) rfl rfl rfl rfl ?_
  exact kW_le (L' := [some (kr 85), some (kI x1), none, none, some (kJ 1), none, some (kI x3), none, none, none, none, none]) ⟨Or.inr rfl, Or.inr rfl, Or.inl rfl, Or.inl rfl, Or.inr rfl, Or.inl rfl, Or.inr rfl, Or.inl rfl, Or.inl rfl, Or.inl rfl, Or.inl rfl, Or.inl rfl, trivial⟩ (b_M_colours_146 x1 1 x3 s _ hf hq)
def f_M_colours_140 (x1 : Int) (x2 : Int) (x3 : Int) (x4 : Int) (s : kM) : Option ((Int × Int × kM) ⊕ (Int × kM)) :=
  some (.inl (x3, (wI (x4 + 1)), s))
set_option maxRecDepth 8000 in
theorem b_M_colours_140 {sc : List Int} {Q : Option kV → kH → Prop} (x1 : Int) (x2 : Int) (x3 : Int) (x4 : Int) (s : kM) (t : (Int × Int × kM) ⊕ (Int × kM)) (hf : f_M_colours_140 x1 x2 x3 x4 s = some t) (hq : (gE (fun x => kW sc 4 kc_M_colours 3 27 [some (kr 85), some (kI x1), some (kI x2), some (kI x.1), some (kI x.2.1), none, none, none, none, none, none, none] [] (hH x.2.2) Q) (fun r => Q (some (kJ r.1)) (hH r.2))) t) : kW sc 4 kc_M_colours 3 140 [some (kr 85), some (kI x1), some (kI x2), some (kI x3), some (kI x4), none, none, none, none, none, none, none] [] (hH s) Q := by
  unfold f_M_colours_140 at hf
  refine kw_step (L' := [some (kr 85), some (kI x1), some (kI x2), some (kI x3), some (kI (wI (x4 + 1))), none, none, none, none, none, none, none]) rfl rfl rfl rfl ?_
  refine kw_goto rfl rfl ?_
  cases hf
  exact kW_le (L' := [some (kr 85), some (kI x1), some (kI x2), some (kI x3), some (kI (wI (x4 + 1))), none, none, none, none, none, none, none]) ⟨Or.inr rfl, Or.inr rfl, Or.inr rfl, Or.inr rfl, Or.inr rfl, Or.inl rfl, Or.inl rfl, Or.inl rfl, Or.inl rfl, Or.inl rfl, Or.inl rfl, Or.inl rfl, trivial⟩ hq
def f_M_colours_137 (x1 : Int) (x2 : Int) (x3 : Int) (x4 : Int) (x6 : Int) (x8 : Int) (s : kM) : Option ((Int × kM) ⊕ ((Int × Int × kM) ⊕ (Int × kM))) :=
  some (.inl ((wI (x8 + 1)), s))
set_option maxRecDepth 8000 in
theorem b_M_colours_137 {sc : List Int} {Q : Option kV → kH → Prop} (x1 : Int) (x2 : Int) (x3 : Int) (x4 : Int) (x6 : Int) (x8 : Int) (s : kM) (t : (Int × kM) ⊕ ((Int × Int × kM) ⊕ (Int × kM))) (hf : f_M_colours_137 x1 x2 x3 x4 x6 x8 s = some t) (hq : (gE (fun x => kW sc 4 kc_M_colours 3 76 [some (kr 85), some (kI x1), some (kI x2), some (kI x3), some (kI x4), none, some (kJ x6), none, some (kI x.1), none, none, none] [] (hH x.2) Q) (gE (fun x => kW sc 4 kc_M_colours 3 27 [some (kr 85), some (kI x1), some (kI x2), some (kI x.1), some (kI x.2.1), none, none, none, none, none, none, none] [] (hH x.2.2) Q) (fun r => Q (some (kJ r.1)) (hH r.2)))) t) : kW sc 4 kc_M_colours 3 137 [some (kr 85), some (kI x1), some (kI x2), some (kI x3), some (kI x4), none, some (kJ x6), none, some (kI x8), none, none, none] [] (hH s) Q := by
  unfold f_M_colours_137 at hf
  refine kw_step (L' := [some (kr 85), some (kI x1), some (kI x2), some (kI x3), some (kI x4), none, some (kJ x6), none, some (kI (wI (x8 + 1))), none, none, none]) rfl rfl rfl rfl ?_
  refine kw_goto rfl rfl ?_
  cases hf
  exact kW_le (L' := [some (kr 85), some (kI x1), some (kI x2), some (kI x3), some (kI x4), none, some (kJ x6), none, some (kI (wI (x8 + 1))), none, none, none]) ⟨Or.inr rfl, Or.inr rfl, Or.inr rfl, Or.inr rfl, Or.inr rfl, Or.inl rfl, Or.inr rfl, Or.inl rfl, Or.inr rfl, Or.inl rfl, Or.inl rfl, Or.inl rfl, trivial⟩ hq
def f_M_colours_97b (x1 : Int) (x2 : Int) (x3 : Int) (x4 : Int) (x6 : Int) (x8 : Int) (x9 : Int) (x11 : Int) (s : kM) : Option ((Int × kM) ⊕ ((Int × kM) ⊕ ((Int × Int × kM) ⊕ (Int × kM)))) :=
  if (s 85 44) ≤ x11 then ((f_M_colours_137 x1 x2 x3 x4 x6 x8 s).map Sum.inr) else (if x8 = x3 then ((f_M_colours_137 x1 x2 x3 x4 x6 x8 s).map Sum.inr) else ((gI 143 (wI ((wI (13 * x8)) + x11))).bind fun j7 => (gI 143 (wI ((wI (13 * x3)) + x11))).bind fun j9 => (f_M_modulo (s 117 j9) x1 s).bind fun q11 => (f_M_modulo (wL ((s 117 j7) - (wL (x9 * q11)))) x1 s).bind fun q12 => (gI 143 (wI ((wI (13 * x8)) + x11))).bind fun j13 => gLet (gU s 117 j13 q12) fun s15 => some (.inl ((wI (x11 + 1)), s15))))
set_option maxRecDepth 8000 in
theorem b_M_colours_97b {sc : List Int} {Q : Option kV → kH → Prop} (x1 : Int) (x2 : Int) (x3 : Int) (x4 : Int) (x6 : Int) (x8 : Int) (x9 : Int) (x11 : Int) (s : kM) (t : (Int × kM) ⊕ ((Int × kM) ⊕ ((Int × Int × kM) ⊕ (Int × kM)))) (hf : f_M_colours_97b x1 x2 x3 x4 x6 x8 x9 x11 s = some t) (hq : (gE (fun x => kW sc 4 kc_M_colours 3 97 [some (kr 85), some (kI x1), some (kI x2), some (kI x3), some (kI x4), none, some (kJ x6), none, some (kI x8), some (kJ x9), none, some (kI x.1)] [] (hH x.2) Q) (gE (fun x => kW sc 4 kc_M_colours 3 76 [some (kr 85), some (kI x1), some (kI x2), some (kI x3), some (kI x4), none, some (kJ x6), none, some (kI x.1), none, none, none] [] (hH x.2) Q) (gE (fun x => kW sc 4 kc_M_colours 3 27 [some (kr 85), some (kI x1), some (kI x2), some (kI x.1), some (kI x.2.1), none, none, none, none, none, none, none] [] (hH x.2.2) Q) (fun r => Q (some (kJ r.1)) (hH r.2))))) t) : kW sc 4 kc_M_colours 3 97 [some (kr 85), some (kI x1), some (kI x2), some (kI x3), some (kI x4), none, some (kJ x6), none, some (kI x8), some (kJ x9), none, some (kI x11)] [] (hH s) Q := by
  unfold f_M_colours_97b at hf
  refine kw_step rfl rfl rfl rfl ?_
  refine kw_step rfl rfl rfl rfl ?_
  refine kw_get rfl (hH_O (rfl : kotab 85 = some kMo)) rfl ?_
  refine kw_icmp_ge rfl rfl (fun c1 => ?_) (fun c1 => ?_)
  · have hf := gift c1 hf
    obtain ⟨t2, hg3, rfl⟩ := gmap hf
    exact kW_le (L' := [some (kr 85), some (kI x1), some (kI x2), some (kI x3), some (kI x4), none, some (kJ x6), none, some (kI x8), none, none, none]) ⟨Or.inr rfl, Or.inr rfl, Or.inr rfl, Or.inr rfl, Or.inr rfl, Or.inl rfl, Or.inr rfl, Or.inl rfl, Or.inr rfl, Or.inl rfl, Or.inl rfl, Or.inl rfl, trivial⟩ (b_M_colours_137 x1 x2 x3 x4 x6 x8 s _ hg3 hq)
  · have hf := giff c1 hf
    refine kw_step rfl rfl rfl rfl ?_
    refine kw_step rfl rfl rfl rfl ?_
    refine kw_icmp_eq rfl rfl (fun c4 => ?_) (fun c4 => ?_)
    · have hf := gift c4 hf
      obtain ⟨t5, hg6, rfl⟩ := gmap hf
      exact kW_le (L' := [some (kr 85), some (kI x1), some (kI x2), some (kI x3), some (kI x4), none, some (kJ x6), none, some (kI x8), none, none, none]) ⟨Or.inr rfl, Or.inr rfl, Or.inr rfl, Or.inr rfl, Or.inr rfl, Or.inl rfl, Or.inr rfl, Or.inl rfl, Or.inr rfl, Or.inl rfl, Or.inl rfl, Or.inl rfl, trivial⟩ (b_M_colours_137 x1 x2 x3 x4 x6 x8 s _ hg6 hq)
    · have hf := giff c4 hf
      refine kw_step rfl rfl rfl rfl ?_
      refine kw_get rfl (hH_O (rfl : kotab 85 = some kMo)) rfl ?_
      refine kw_step rfl rfl rfl rfl ?_
      refine kw_step rfl rfl rfl rfl ?_
      refine kw_step rfl rfl rfl rfl ?_
      refine kw_step rfl rfl rfl rfl ?_
      refine kw_step rfl rfl rfl rfl ?_
      refine kw_step rfl rfl rfl rfl ?_
      refine kw_get rfl (hH_O (rfl : kotab 85 = some kMo)) rfl ?_
      refine kw_step rfl rfl rfl rfl ?_
      refine kw_step rfl rfl rfl rfl ?_
      refine kw_step rfl rfl rfl rfl ?_
      refine kw_step rfl rfl rfl rfl ?_
      refine kw_step rfl rfl rfl rfl ?_
      obtain ⟨j7, i8, hf⟩ := gbI hf
      refine kw_lald rfl (hH_A (rfl : ktab 117 = some (3, 143))) i8.1 i8.2.1 i8.2.2 ?_
      refine kw_step rfl rfl rfl rfl ?_
      refine kw_step rfl rfl rfl rfl ?_
      refine kw_get rfl (hH_O (rfl : kotab 85 = some kMo)) rfl ?_
      refine kw_step rfl rfl rfl rfl ?_
      refine kw_step rfl rfl rfl rfl ?_
      refine kw_step rfl rfl rfl rfl ?_
      refine kw_step rfl rfl rfl rfl ?_
      refine kw_step rfl rfl rfl rfl ?_
      obtain ⟨j9, i10, hf⟩ := gbI hf
      refine kw_lald rfl (hH_A (rfl : ktab 117 = some (3, 143))) i10.1 i10.2.1 i10.2.2 ?_
      refine kw_step rfl rfl rfl rfl ?_
      obtain ⟨q11, hq11, hf⟩ := gbind hf
      refine kw_callS (vs := [kJ (s 117 j9), kI x1]) rfl rfl rfl ⟨rfl, Nat.le_of_ble_eq_true rfl, Nat.le_of_ble_eq_true rfl, rfl⟩ (c_M_modulo (s 117 j9) x1 s _ hq11) (Nat.le_of_ble_eq_true rfl) ?_
      refine kw_step rfl rfl rfl rfl ?_
      refine kw_step rfl rfl rfl rfl ?_
      refine kw_step rfl rfl rfl rfl ?_
      obtain ⟨q12, hq12, hf⟩ := gbind hf
      refine kw_callS (vs := [kJ (wL ((s 117 j7) - (wL (x9 * q11)))), kI x1]) rfl rfl rfl ⟨rfl, Nat.le_of_ble_eq_true rfl, Nat.le_of_ble_eq_true rfl, rfl⟩ (c_M_modulo (wL ((s 117 j7) - (wL (x9 * q11)))) x1 s _ hq12) (Nat.le_of_ble_eq_true rfl) ?_
      obtain ⟨j13, i14, hf⟩ := gbI hf
      obtain ⟨s15, ee16, hf⟩ := gbL hf
      refine kw_lastH rfl (rfl : ktab 117 = some (3, 143)) i14.1 i14.2.1 i14.2.2 ee16 ?_
      refine kw_step (L' := [some (kr 85), some (kI x1), some (kI x2), some (kI x3), some (kI x4), none, some (kJ x6), none, some (kI x8), some (kJ x9), none, some (kI (wI (x11 + 1)))]) rfl rfl rfl rfl ?_
      refine kw_goto rfl rfl ?_
      cases hf
      exact kW_le (L' := [some (kr 85), some (kI x1), some (kI x2), some (kI x3), some (kI x4), none, some (kJ x6), none, some (kI x8), some (kJ x9), none, some (kI (wI (x11 + 1)))]) ⟨Or.inr rfl, Or.inr rfl, Or.inr rfl, Or.inr rfl, Or.inr rfl, Or.inl rfl, Or.inr rfl, Or.inl rfl, Or.inr rfl, Or.inr rfl, Or.inl rfl, Or.inr rfl, trivial⟩ hq
def f_M_colours_97 (x1 : Int) (x2 : Int) (x3 : Int) (x4 : Int) (x6 : Int) (x8 : Int) (x9 : Int) (x11 : Int) (s : kM) : Option ((Int × kM) ⊕ ((Int × Int × kM) ⊕ (Int × kM))) :=
  gL (fun (x : Int × kM) => f_M_colours_97b x1 x2 x3 x4 x6 x8 x9 x.1 x.2) gF (x11, s)
theorem b_M_colours_97 {sc : List Int} {Q : Option kV → kH → Prop} (x1 : Int) (x2 : Int) (x3 : Int) (x4 : Int) (x6 : Int) (x8 : Int) (x9 : Int) (x11 : Int) (s : kM) (t : (Int × kM) ⊕ ((Int × Int × kM) ⊕ (Int × kM))) (hf : f_M_colours_97 x1 x2 x3 x4 x6 x8 x9 x11 s = some t) (hq : (gE (fun x => kW sc 4 kc_M_colours 3 76 [some (kr 85), some (kI x1), some (kI x2), some (kI x3), some (kI x4), none, some (kJ x6), none, some (kI x.1), none, none, none] [] (hH x.2) Q) (gE (fun x => kW sc 4 kc_M_colours 3 27 [some (kr 85), some (kI x1), some (kI x2), some (kI x.1), some (kI x.2.1), none, none, none, none, none, none, none] [] (hH x.2.2) Q) (fun r => Q (some (kJ r.1)) (hH r.2)))) t) : kW sc 4 kc_M_colours 3 97 [some (kr 85), some (kI x1), some (kI x2), some (kI x3), some (kI x4), none, some (kJ x6), none, some (kI x8), some (kJ x9), none, some (kI x11)] [] (hH s) Q :=
  gL_ind (P := fun (x : Int × kM) => kW sc 4 kc_M_colours 3 97 [some (kr 85), some (kI x1), some (kI x2), some (kI x3), some (kI x4), none, some (kJ x6), none, some (kI x8), some (kJ x9), none, some (kI x.1)] [] (hH x.2) Q) (q := (gE (fun x => kW sc 4 kc_M_colours 3 76 [some (kr 85), some (kI x1), some (kI x2), some (kI x3), some (kI x4), none, some (kJ x6), none, some (kI x.1), none, none, none] [] (hH x.2) Q) (gE (fun x => kW sc 4 kc_M_colours 3 27 [some (kr 85), some (kI x1), some (kI x2), some (kI x.1), some (kI x.2.1), none, none, none, none, none, none, none] [] (hH x.2.2) Q) (fun r => Q (some (kJ r.1)) (hH r.2))))) (fun x t hf hq => b_M_colours_97b x1 x2 x3 x4 x6 x8 x9 x.1 x.2 t hf hq) gF (x11, s) t hf hq
def f_M_colours_76b (x1 : Int) (x2 : Int) (x3 : Int) (x4 : Int) (x6 : Int) (x8 : Int) (s : kM) : Option ((Int × kM) ⊕ ((Int × Int × kM) ⊕ (Int × kM))) :=
  if x2 ≤ x8 then ((f_M_colours_140 x1 x2 (wI (x3 + 1)) x4 s).map Sum.inr) else ((gI 143 (wI ((wI (13 * x8)) + x4))).bind fun j4 => (f_M_modulo (s 117 j4) x1 s).bind fun q6 => (gD x1).bind fun _ => f_M_colours_97 x1 x2 x3 x4 x6 x8 (klrem (wL (q6 * x6)) x1) 0 s)
set_option maxRecDepth 8000 in
theorem b_M_colours_76b {sc : List Int} {Q : Option kV → kH → Prop} (x1 : Int) (x2 : Int) (x3 : Int) (x4 : Int) (x6 : Int) (x8 : Int) (s : kM) (t : (Int × kM) ⊕ ((Int × Int × kM) ⊕ (Int × kM))) (hf : f_M_colours_76b x1 x2 x3 x4 x6 x8 s = some t) (hq : (gE (fun x => kW sc 4 kc_M_colours 3 76 [some (kr 85), some (kI x1), some (kI x2), some (kI x3), some (kI x4), none, some (kJ x6), none, some (kI x.1), none, none, none] [] (hH x.2) Q) (gE (fun x => kW sc 4 kc_M_colours 3 27 [some (kr 85), some (kI x1), some (kI x2), some (kI x.1), some (kI x.2.1), none, none, none, none, none, none, none] [] (hH x.2.2) Q) (fun r => Q (some (kJ r.1)) (hH r.2)))) t) : kW sc 4 kc_M_colours 3 76 [some (kr 85), some (kI x1), some (kI x2), some (kI x3), some (kI x4), none, some (kJ x6), none, some (kI x8), none, none, none] [] (hH s) Q := by
  unfold f_M_colours_76b at hf
  refine kw_step rfl rfl rfl rfl ?_
  refine kw_step rfl rfl rfl rfl ?_
  refine kw_icmp_ge rfl rfl (fun c1 => ?_) (fun c1 => ?_)
  · have hf := gift c1 hf
    refine kw_step (L' := [some (kr 85), some (kI x1), some (kI x2), some (kI (wI (x3 + 1))), some (kI x4), none, some (kJ x6), none, some (kI x8), none, none, none]) rfl rfl rfl rfl ?_
    obtain ⟨t2, hg3, rfl⟩ := gmap hf
    exact kW_le (L' := [some (kr 85), some (kI x1), some (kI x2), some (kI (wI (x3 + 1))), some (kI x4), none, none, none, none, none, none, none]) ⟨Or.inr rfl, Or.inr rfl, Or.inr rfl, Or.inr rfl, Or.inr rfl, Or.inl rfl, Or.inl rfl, Or.inl rfl, Or.inl rfl, Or.inl rfl, Or.inl rfl, Or.inl rfl, trivial⟩ (b_M_colours_140 x1 x2 (wI (x3 + 1)) x4 s _ hg3 hq)
  · have hf := giff c1 hf
    refine kw_step rfl rfl rfl rfl ?_
    refine kw_get rfl (hH_O (rfl : kotab 85 = some kMo)) rfl ?_
    refine kw_step rfl rfl rfl rfl ?_
    refine kw_step rfl rfl rfl rfl ?_
    refine kw_step rfl rfl rfl rfl ?_
    refine kw_step rfl rfl rfl rfl ?_
    refine kw_step rfl rfl rfl rfl ?_
    obtain ⟨j4, i5, hf⟩ := gbI hf
    refine kw_lald rfl (hH_A (rfl : ktab 117 = some (3, 143))) i5.1 i5.2.1 i5.2.2 ?_
    refine kw_step rfl rfl rfl rfl ?_
    obtain ⟨q6, hq6, hf⟩ := gbind hf
    refine kw_callS (vs := [kJ (s 117 j4), kI x1]) rfl rfl rfl ⟨rfl, Nat.le_of_ble_eq_true rfl, Nat.le_of_ble_eq_true rfl, rfl⟩ (c_M_modulo (s 117 j4) x1 s _ hq6) (Nat.le_of_ble_eq_true rfl) ?_
    refine kw_step rfl rfl rfl rfl ?_
    refine kw_step rfl rfl rfl rfl ?_
    refine kw_step rfl rfl rfl rfl ?_
    refine kw_step rfl rfl rfl rfl ?_
    obtain ⟨z7, hf⟩ := gbD hf
    refine kw_lrem rfl z7 ?_
    refine kw_step (L' := [some (kr 85), some (kI x1), some (kI x2), some (kI x3), some (kI x4), none, some (kJ x6), none, some (kI x8), some (kJ (klrem (wL (q6 * x6)) x1)), none, none]) rfl rfl rfl rfl ?_
    refine kw_step rfl rfl rfl rfl ?_
    refine kw_step (L' := [some (kr 85), some (kI x1), some (kI x2), some (kI x3), some (kI x4), none, some (kJ x6), none, some (kI x8), some (kJ (klrem (wL (q6 * x6)) x1)), none, some (kI 0)]) rfl rfl rfl rfl ?_
    exact kW_le (L' := [some (kr 85), some (kI x1), some (kI x2), some (kI x3), some (kI x4), none, some (kJ x6), none, some (kI x8), some (kJ (klrem (wL (q6 * x6)) x1)), none, some (kI 0)]) ⟨Or.inr rfl, Or.inr rfl, Or.inr rfl, Or.inr rfl, Or.inr rfl, Or.inl rfl, Or.inr rfl, Or.inl rfl, Or.inr rfl, Or.inr rfl, Or.inl rfl, Or.inr rfl, trivial⟩ (b_M_colours_97 x1 x2 x3 x4 x6 x8 (klrem (wL (q6 * x6)) x1) 0 s _ hf hq)
def f_M_colours_76 (x1 : Int) (x2 : Int) (x3 : Int) (x4 : Int) (x6 : Int) (x8 : Int) (s : kM) : Option ((Int × Int × kM) ⊕ (Int × kM)) :=
  gL (fun (x : Int × kM) => f_M_colours_76b x1 x2 x3 x4 x6 x.1 x.2) gF (x8, s)
theorem b_M_colours_76 {sc : List Int} {Q : Option kV → kH → Prop} (x1 : Int) (x2 : Int) (x3 : Int) (x4 : Int) (x6 : Int) (x8 : Int) (s : kM) (t : (Int × Int × kM) ⊕ (Int × kM)) (hf : f_M_colours_76 x1 x2 x3 x4 x6 x8 s = some t) (hq : (gE (fun x => kW sc 4 kc_M_colours 3 27 [some (kr 85), some (kI x1), some (kI x2), some (kI x.1), some (kI x.2.1), none, none, none, none, none, none, none] [] (hH x.2.2) Q) (fun r => Q (some (kJ r.1)) (hH r.2))) t) : kW sc 4 kc_M_colours 3 76 [some (kr 85), some (kI x1), some (kI x2), some (kI x3), some (kI x4), none, some (kJ x6), none, some (kI x8), none, none, none] [] (hH s) Q :=
  gL_ind (P := fun (x : Int × kM) => kW sc 4 kc_M_colours 3 76 [some (kr 85), some (kI x1), some (kI x2), some (kI x3), some (kI x4), none, some (kJ x6), none, some (kI x.1), none, none, none] [] (hH x.2) Q) (q := (gE (fun x => kW sc 4 kc_M_colours 3 27 [some (kr 85), some (kI x1), some (kI x2), some (kI x.1), some (kI x.2.1), none, none, none, none, none, none, none] [] (hH x.2.2) Q) (fun r => Q (some (kJ r.1)) (hH r.2)))) (fun x t hf hq => b_M_colours_76b x1 x2 x3 x4 x6 x.1 x.2 t hf hq) gF (x8, s) t hf hq
def f_M_colours_54 (x1 : Int) (x2 : Int) (x3 : Int) (x4 : Int) (x5 : Int) (s : kM) : Option ((Int × Int × kM) ⊕ (Int × kM)) :=
  if x2 ≤ x5 then (f_M_colours_140 x1 x2 x3 x4 s) else ((f_M_swapsRows x5 x3 s).bind fun q2 => (gI 143 (wI ((wI (13 * x3)) + x4))).bind fun j4 => (f_M_modulo (q2 117 j4) x1 q2).bind fun q6 => (f_M_inverse q6 x1 q2).bind fun q7 => f_M_colours_76 x1 x2 x3 x4 q7 0 q2)
set_option maxRecDepth 8000 in
theorem b_M_colours_54 {sc : List Int} {Q : Option kV → kH → Prop} (x1 : Int) (x2 : Int) (x3 : Int) (x4 : Int) (x5 : Int) (s : kM) (t : (Int × Int × kM) ⊕ (Int × kM)) (hf : f_M_colours_54 x1 x2 x3 x4 x5 s = some t) (hq : (gE (fun x => kW sc 4 kc_M_colours 3 27 [some (kr 85), some (kI x1), some (kI x2), some (kI x.1), some (kI x.2.1), none, none, none, none, none, none, none] [] (hH x.2.2) Q) (fun r => Q (some (kJ r.1)) (hH r.2))) t) : kW sc 4 kc_M_colours 3 54 [some (kr 85), some (kI x1), some (kI x2), some (kI x3), some (kI x4), some (kI x5), none, none, none, none, none, none] [] (hH s) Q := by
  unfold f_M_colours_54 at hf
  refine kw_step rfl rfl rfl rfl ?_
  refine kw_step rfl rfl rfl rfl ?_
  refine kw_icmp_ge rfl rfl (fun c1 => ?_) (fun c1 => ?_)
  · have hf := gift c1 hf
    exact kW_le (L' := [some (kr 85), some (kI x1), some (kI x2), some (kI x3), some (kI x4), none, none, none, none, none, none, none]) ⟨Or.inr rfl, Or.inr rfl, Or.inr rfl, Or.inr rfl, Or.inr rfl, Or.inl rfl, Or.inl rfl, Or.inl rfl, Or.inl rfl, Or.inl rfl, Or.inl rfl, Or.inl rfl, trivial⟩ (b_M_colours_140 x1 x2 x3 x4 s _ hf hq)
  · have hf := giff c1 hf
    refine kw_step rfl rfl rfl rfl ?_
    refine kw_step rfl rfl rfl rfl ?_
    refine kw_step rfl rfl rfl rfl ?_
    obtain ⟨q2, hq2, hf⟩ := gbind hf
    refine kw_callV (vs := [kI x5, kI x3]) rfl rfl rfl ⟨rfl, Nat.le_of_ble_eq_true rfl, Nat.le_of_ble_eq_true rfl, by decide⟩ (hH_O (rfl : kotab 85 = some kMo)) (c_M_swapsRows x5 x3 s _ hq2) (Nat.le_of_ble_eq_true rfl) ?_
    refine kw_step rfl rfl rfl rfl ?_
    refine kw_get rfl (hH_O (rfl : kotab 85 = some kMo)) rfl ?_
    refine kw_step rfl rfl rfl rfl ?_
    refine kw_step rfl rfl rfl rfl ?_
    refine kw_step rfl rfl rfl rfl ?_
    refine kw_step rfl rfl rfl rfl ?_
    refine kw_step rfl rfl rfl rfl ?_
    obtain ⟨j4, i5, hf⟩ := gbI hf
    refine kw_lald rfl (hH_A (rfl : ktab 117 = some (3, 143))) i5.1 i5.2.1 i5.2.2 ?_
    refine kw_step rfl rfl rfl rfl ?_
    obtain ⟨q6, hq6, hf⟩ := gbind hf
    refine kw_callS (vs := [kJ (q2 117 j4), kI x1]) rfl rfl rfl ⟨rfl, Nat.le_of_ble_eq_true rfl, Nat.le_of_ble_eq_true rfl, rfl⟩ (c_M_modulo (q2 117 j4) x1 q2 _ hq6) (Nat.le_of_ble_eq_true rfl) ?_
    refine kw_step rfl rfl rfl rfl ?_
    obtain ⟨q7, hq7, hf⟩ := gbind hf
    refine kw_callS (vs := [kJ q6, kI x1]) rfl rfl rfl ⟨rfl, Nat.le_of_ble_eq_true rfl, Nat.le_of_ble_eq_true rfl, rfl⟩ (c_M_inverse q6 x1 q2 _ hq7) (Nat.le_of_ble_eq_true rfl) ?_
    refine kw_step (L' := [some (kr 85), some (kI x1), some (kI x2), some (kI x3), some (kI x4), some (kI x5), some (kJ q7), none, none, none, none, none]) rfl rfl rfl rfl ?_
    refine kw_step rfl rfl rfl rfl ?_
    refine kw_step (L' := [some (kr 85), some (kI x1), some (kI x2), some (kI x3), some (kI x4), some (kI x5), some (kJ q7), none, some (kI 0), none, none, none]) rfl rfl rfl rfl ?_
    exact kW_le (L' := [some (kr 85), some (kI x1), some (kI x2), some (kI x3), some (kI x4), none, some (kJ q7), none, some (kI 0), none, none, none]) ⟨Or.inr rfl, Or.inr rfl, Or.inr rfl, Or.inr rfl, Or.inr rfl, Or.inl rfl, Or.inr rfl, Or.inl rfl, Or.inr rfl, Or.inl rfl, Or.inl rfl, Or.inl rfl, trivial⟩ (b_M_colours_76 x1 x2 x3 x4 q7 0 q2 _ hf hq)
def f_M_colours_36b (x1 : Int) (x2 : Int) (x3 : Int) (x4 : Int) (x5 : Int) (s : kM) : Option ((Int) ⊕ ((Int × Int × kM) ⊕ (Int × kM))) :=
  if x2 ≤ x5 then ((f_M_colours_54 x1 x2 x3 x4 x5 s).map Sum.inr) else ((gI 143 (wI ((wI (13 * x5)) + x4))).bind fun j4 => (f_M_modulo (s 117 j4) x1 s).bind fun q6 => if q6 = 0 then (some (.inl ((wI (x5 + 1))))) else ((f_M_colours_54 x1 x2 x3 x4 x5 s).map Sum.inr))
set_option maxRecDepth 8000 in
theorem b_M_colours_36b {sc : List Int} {Q : Option kV → kH → Prop} (x1 : Int) (x2 : Int) (x3 : Int) (x4 : Int) (x5 : Int) (s : kM) (t : (Int) ⊕ ((Int × Int × kM) ⊕ (Int × kM))) (hf : f_M_colours_36b x1 x2 x3 x4 x5 s = some t) (hq : (gE (fun x => kW sc 4 kc_M_colours 3 36 [some (kr 85), some (kI x1), some (kI x2), some (kI x3), some (kI x4), some (kI x), none, none, none, none, none, none] [] (hH s) Q) (gE (fun x => kW sc 4 kc_M_colours 3 27 [some (kr 85), some (kI x1), some (kI x2), some (kI x.1), some (kI x.2.1), none, none, none, none, none, none, none] [] (hH x.2.2) Q) (fun r => Q (some (kJ r.1)) (hH r.2)))) t) : kW sc 4 kc_M_colours 3 36 [some (kr 85), some (kI x1), some (kI x2), some (kI x3), some (kI x4), some (kI x5), none, none, none, none, none, none] [] (hH s) Q := by
  unfold f_M_colours_36b at hf
  refine kw_step rfl rfl rfl rfl ?_
  refine kw_step rfl rfl rfl rfl ?_
  refine kw_icmp_ge rfl rfl (fun c1 => ?_) (fun c1 => ?_)
  · have hf := gift c1 hf
    obtain ⟨t2, hg3, rfl⟩ := gmap hf
    exact kW_le (L' := [some (kr 85), some (kI x1), some (kI x2), some (kI x3), some (kI x4), some (kI x5), none, none, none, none, none, none]) ⟨Or.inr rfl, Or.inr rfl, Or.inr rfl, Or.inr rfl, Or.inr rfl, Or.inr rfl, Or.inl rfl, Or.inl rfl, Or.inl rfl, Or.inl rfl, Or.inl rfl, Or.inl rfl, trivial⟩ (b_M_colours_54 x1 x2 x3 x4 x5 s _ hg3 hq)
  · have hf := giff c1 hf
    refine kw_step rfl rfl rfl rfl ?_
    refine kw_get rfl (hH_O (rfl : kotab 85 = some kMo)) rfl ?_
    refine kw_step rfl rfl rfl rfl ?_
    refine kw_step rfl rfl rfl rfl ?_
    refine kw_step rfl rfl rfl rfl ?_
    refine kw_step rfl rfl rfl rfl ?_
    refine kw_step rfl rfl rfl rfl ?_
    obtain ⟨j4, i5, hf⟩ := gbI hf
    refine kw_lald rfl (hH_A (rfl : ktab 117 = some (3, 143))) i5.1 i5.2.1 i5.2.2 ?_
    refine kw_step rfl rfl rfl rfl ?_
    obtain ⟨q6, hq6, hf⟩ := gbind hf
    refine kw_callS (vs := [kJ (s 117 j4), kI x1]) rfl rfl rfl ⟨rfl, Nat.le_of_ble_eq_true rfl, Nat.le_of_ble_eq_true rfl, rfl⟩ (c_M_modulo (s 117 j4) x1 s _ hq6) (Nat.le_of_ble_eq_true rfl) ?_
    refine kw_step rfl rfl rfl rfl ?_
    refine kw_lc_ne rfl rfl rfl (fun c7 => ?_) (fun c7 => ?_)
    · have hf := giff c7 hf
      obtain ⟨t8, hg9, rfl⟩ := gmap hf
      exact kW_le (L' := [some (kr 85), some (kI x1), some (kI x2), some (kI x3), some (kI x4), some (kI x5), none, none, none, none, none, none]) ⟨Or.inr rfl, Or.inr rfl, Or.inr rfl, Or.inr rfl, Or.inr rfl, Or.inr rfl, Or.inl rfl, Or.inl rfl, Or.inl rfl, Or.inl rfl, Or.inl rfl, Or.inl rfl, trivial⟩ (b_M_colours_54 x1 x2 x3 x4 x5 s _ hg9 hq)
    · have hf := gift c7 hf
      refine kw_step (L' := [some (kr 85), some (kI x1), some (kI x2), some (kI x3), some (kI x4), some (kI (wI (x5 + 1))), none, none, none, none, none, none]) rfl rfl rfl rfl ?_
      refine kw_goto rfl rfl ?_
      cases hf
      exact kW_le (L' := [some (kr 85), some (kI x1), some (kI x2), some (kI x3), some (kI x4), some (kI (wI (x5 + 1))), none, none, none, none, none, none]) ⟨Or.inr rfl, Or.inr rfl, Or.inr rfl, Or.inr rfl, Or.inr rfl, Or.inr rfl, Or.inl rfl, Or.inl rfl, Or.inl rfl, Or.inl rfl, Or.inl rfl, Or.inl rfl, trivial⟩ hq
def f_M_colours_36 (x1 : Int) (x2 : Int) (x3 : Int) (x4 : Int) (x5 : Int) (s : kM) : Option ((Int × Int × kM) ⊕ (Int × kM)) :=
  gL (fun (x : Int) => f_M_colours_36b x1 x2 x3 x4 x s) gF (x5)
theorem b_M_colours_36 {sc : List Int} {Q : Option kV → kH → Prop} (x1 : Int) (x2 : Int) (x3 : Int) (x4 : Int) (x5 : Int) (s : kM) (t : (Int × Int × kM) ⊕ (Int × kM)) (hf : f_M_colours_36 x1 x2 x3 x4 x5 s = some t) (hq : (gE (fun x => kW sc 4 kc_M_colours 3 27 [some (kr 85), some (kI x1), some (kI x2), some (kI x.1), some (kI x.2.1), none, none, none, none, none, none, none] [] (hH x.2.2) Q) (fun r => Q (some (kJ r.1)) (hH r.2))) t) : kW sc 4 kc_M_colours 3 36 [some (kr 85), some (kI x1), some (kI x2), some (kI x3), some (kI x4), some (kI x5), none, none, none, none, none, none] [] (hH s) Q :=
  gL_ind (P := fun (x : Int) => kW sc 4 kc_M_colours 3 36 [some (kr 85), some (kI x1), some (kI x2), some (kI x3), some (kI x4), some (kI x), none, none, none, none, none, none] [] (hH s) Q) (q := (gE (fun x => kW sc 4 kc_M_colours 3 27 [some (kr 85), some (kI x1), some (kI x2), some (kI x.1), some (kI x.2.1), none, none, none, none, none, none, none] [] (hH x.2.2) Q) (fun r => Q (some (kJ r.1)) (hH r.2)))) (fun x t hf hq => b_M_colours_36b x1 x2 x3 x4 x s t hf hq) gF (x5) t hf hq
def f_M_colours_27b (x1 : Int) (x2 : Int) (x3 : Int) (x4 : Int) (s : kM) : Option ((Int × Int × kM) ⊕ (Int × kM)) :=
  if (s 85 44) ≤ x4 then ((f_M_colours_142 x1 x3 s).map Sum.inr) else (if x2 ≤ x3 then ((f_M_colours_142 x1 x3 s).map Sum.inr) else (f_M_colours_36 x1 x2 x3 x4 x3 s))
set_option maxRecDepth 8000 in
theorem b_M_colours_27b {sc : List Int} {Q : Option kV → kH → Prop} (x1 : Int) (x2 : Int) (x3 : Int) (x4 : Int) (s : kM) (t : (Int × Int × kM) ⊕ (Int × kM)) (hf : f_M_colours_27b x1 x2 x3 x4 s = some t) (hq : (gE (fun x => kW sc 4 kc_M_colours 3 27 [some (kr 85), some (kI x1), some (kI x2), some (kI x.1), some (kI x.2.1), none, none, none, none, none, none, none] [] (hH x.2.2) Q) (fun r => Q (some (kJ r.1)) (hH r.2))) t) : kW sc 4 kc_M_colours 3 27 [some (kr 85), some (kI x1), some (kI x2), some (kI x3), some (kI x4), none, none, none, none, none, none, none] [] (hH s) Q := by
  unfold f_M_colours_27b at hf
  refine kw_step rfl rfl rfl rfl ?_
  refine kw_step rfl rfl rfl rfl ?_
  refine kw_get rfl (hH_O (rfl : kotab 85 = some kMo)) rfl ?_
  refine kw_icmp_ge rfl rfl (fun c1 => ?_) (fun c1 => ?_)
  · have hf := gift c1 hf
    obtain ⟨t2, hg3, rfl⟩ := gmap hf
    exact kW_le (L' := [some (kr 85), some (kI x1), none, some (kI x3), none, none, none, none, none, none, none, none]) ⟨Or.inr rfl, Or.inr rfl, Or.inl rfl, Or.inr rfl, Or.inl rfl, Or.inl rfl, Or.inl rfl, Or.inl rfl, Or.inl rfl, Or.inl rfl, Or.inl rfl, Or.inl rfl, trivial⟩ (b_M_colours_142 x1 x3 s _ hg3 hq)
  · have hf := giff c1 hf
    refine kw_step rfl rfl rfl rfl ?_
    refine kw_step rfl rfl rfl rfl ?_
    refine kw_icmp_ge rfl rfl (fun c4 => ?_) (fun c4 => ?_)
    · have hf := gift c4 hf
      obtain ⟨t5, hg6, rfl⟩ := gmap hf
      exact kW_le (L' := [some (kr 85), some (kI x1), none, some (kI x3), none, none, none, none, none, none, none, none]) ⟨Or.inr rfl, Or.inr rfl, Or.inl rfl, Or.inr rfl, Or.inl rfl, Or.inl rfl, Or.inl rfl, Or.inl rfl, Or.inl rfl, Or.inl rfl, Or.inl rfl, Or.inl rfl, trivial⟩ (b_M_colours_142 x1 x3 s _ hg6 hq)
    · have hf := giff c4 hf
      refine kw_step rfl rfl rfl rfl ?_
      refine kw_step (L' := [some (kr 85), some (kI x1), some (kI x2), some (kI x3), some (kI x4), some (kI x3), none, none, none, none, none, none]) rfl rfl rfl rfl ?_
      exact kW_le (L' := [some (kr 85), some (kI x1), some (kI x2), some (kI x3), some (kI x4), some (kI x3), none, none, none, none, none, none]) ⟨Or.inr rfl, Or.inr rfl, Or.inr rfl, Or.inr rfl, Or.inr rfl, Or.inr rfl, Or.inl rfl, Or.inl rfl, Or.inl rfl, Or.inl rfl, Or.inl rfl, Or.inl rfl, trivial⟩ (b_M_colours_36 x1 x2 x3 x4 x3 s _ hf hq)
def f_M_colours_27 (x1 : Int) (x2 : Int) (x3 : Int) (x4 : Int) (s : kM) : Option (Int × kM) :=
  gL (fun (x : Int × Int × kM) => f_M_colours_27b x1 x2 x.1 x.2.1 x.2.2) gF (x3, x4, s)
theorem b_M_colours_27 {sc : List Int} {Q : Option kV → kH → Prop} (x1 : Int) (x2 : Int) (x3 : Int) (x4 : Int) (s : kM) (t : Int × kM) (hf : f_M_colours_27 x1 x2 x3 x4 s = some t) (hq : (fun r => Q (some (kJ r.1)) (hH r.2)) t) : kW sc 4 kc_M_colours 3 27 [some (kr 85), some (kI x1), some (kI x2), some (kI x3), some (kI x4), none, none, none, none, none, none, none] [] (hH s) Q :=
  gL_ind (P := fun (x : Int × Int × kM) => kW sc 4 kc_M_colours 3 27 [some (kr 85), some (kI x1), some (kI x2), some (kI x.1), some (kI x.2.1), none, none, none, none, none, none, none] [] (hH x.2.2) Q) (q := (fun r => Q (some (kJ r.1)) (hH r.2))) (fun x t hf hq => b_M_colours_27b x1 x2 x.1 x.2.1 x.2.2 t hf hq) gF (x3, x4, s) t hf hq
def f_M_colours_20 (x1 : Int) (s : kM) : Option (Int × kM) :=
  (f_M_fillsMatrix s).bind fun q1 => f_M_colours_27 x1 q1.1 0 0 q1.2
set_option maxRecDepth 8000 in
theorem b_M_colours_20 {sc : List Int} {Q : Option kV → kH → Prop} (x1 : Int) (s : kM) (t : Int × kM) (hf : f_M_colours_20 x1 s = some t) (hq : (fun r => Q (some (kJ r.1)) (hH r.2)) t) : kW sc 4 kc_M_colours 3 20 [some (kr 85), some (kI x1), none, none, none, none, none, none, none, none, none, none] [] (hH s) Q := by
  unfold f_M_colours_20 at hf
  refine kw_step rfl rfl rfl rfl ?_
  obtain ⟨q1, hq1, hf⟩ := gbind hf
  refine kw_callV (vs := []) rfl rfl rfl ⟨rfl, Nat.le_of_ble_eq_true rfl, Nat.le_of_ble_eq_true rfl, by decide⟩ (hH_O (rfl : kotab 85 = some kMo)) (c_M_fillsMatrix s _ hq1) (Nat.le_of_ble_eq_true rfl) ?_
  refine kw_step (L' := [some (kr 85), some (kI x1), some (kI q1.1), none, none, none, none, none, none, none, none, none]) rfl rfl rfl rfl ?_
  refine kw_step rfl rfl rfl rfl ?_
  refine kw_step (L' := [some (kr 85), some (kI x1), some (kI q1.1), some (kI 0), none, none, none, none, none, none, none, none]) rfl rfl rfl rfl ?_
  refine kw_step rfl rfl rfl rfl ?_
  refine kw_step (L' := [some (kr 85), some (kI x1), some (kI q1.1), some (kI 0), some (kI 0), none, none, none, none, none, none, none]) rfl rfl rfl rfl ?_
  exact kW_le (L' := [some (kr 85), some (kI x1), some (kI q1.1), some (kI 0), some (kI 0), none, none, none, none, none, none, none]) ⟨Or.inr rfl, Or.inr rfl, Or.inr rfl, Or.inr rfl, Or.inr rfl, Or.inl rfl, Or.inl rfl, Or.inl rfl, Or.inl rfl, Or.inl rfl, Or.inl rfl, Or.inl rfl, trivial⟩ (b_M_colours_27 x1 q1.1 0 0 q1.2 _ hf hq)
def f_M_colours (x1 : Int) (s : kM) : Option (Int × kM) :=
  (f_M_isTown s).bind fun q1 => if q1 = 0 then (some ((-1), s)) else (if x1 = 3 then (f_M_colours_20 x1 s) else (if x1 = 5 then (f_M_colours_20 x1 s) else (if x1 = 7 then (f_M_colours_20 x1 s) else (if x1 = 11 then (f_M_colours_20 x1 s) else (if x1 = 13 then (f_M_colours_20 x1 s) else (some ((-1), s)))))))
set_option maxRecDepth 8000 in
theorem c_M_colours {sc : List Int} (x1 : Int) (s : kM) (t : Int × kM) (hf : f_M_colours x1 s = some t) : kR sc 4 km_M_colours [kr 85, kI x1] (hH s) (some (kJ t.1)) (hH t.2) := by
  unfold f_M_colours at hf
  refine kR.start rfl ?_
  show kW sc 4 kc_M_colours 3 0 [some (kr 85), some (kI x1), none, none, none, none, none, none, none, none, none, none] [] (hH s) _
  have hq : (fun (r : Option kV) (g : kH) => r = some (kJ t.1) ∧ g = hH t.2) (some (kJ t.1)) (hH t.2) := ⟨rfl, rfl⟩
  refine kw_step rfl rfl rfl rfl ?_
  obtain ⟨q1, hq1, hf⟩ := gbind hf
  refine kw_callV (vs := []) rfl rfl rfl ⟨rfl, Nat.le_of_ble_eq_true rfl, Nat.le_of_ble_eq_true rfl, by decide⟩ (hH_O (rfl : kotab 85 = some kMo)) (c_M_isTown s _ hq1) (Nat.le_of_ble_eq_true rfl) ?_
  refine kw_if_eq rfl rfl (fun c2 => ?_) (fun c2 => ?_)
  · have hf := gift c2 hf
    refine kw_step rfl rfl rfl rfl ?_
    cases hf
    exact kw_ret rfl rfl rfl hq
  · have hf := giff c2 hf
    refine kw_step rfl rfl rfl rfl ?_
    refine kw_step rfl rfl rfl rfl ?_
    refine kw_icmp_eq rfl rfl (fun c3 => ?_) (fun c3 => ?_)
    · have hf := gift c3 hf
      exact kW_le (L' := [some (kr 85), some (kI x1), none, none, none, none, none, none, none, none, none, none]) ⟨Or.inr rfl, Or.inr rfl, Or.inl rfl, Or.inl rfl, Or.inl rfl, Or.inl rfl, Or.inl rfl, Or.inl rfl, Or.inl rfl, Or.inl rfl, Or.inl rfl, Or.inl rfl, trivial⟩ (b_M_colours_20 x1 s _ hf hq)
    · have hf := giff c3 hf
      refine kw_step rfl rfl rfl rfl ?_
      refine kw_step rfl rfl rfl rfl ?_
      refine kw_icmp_eq rfl rfl (fun c4 => ?_) (fun c4 => ?_)
      · have hf := gift c4 hf
        exact kW_le (L' := [some (kr 85), some (kI x1), none, none, none, none, none, none, none, none, none, none]) ⟨Or.inr rfl, Or.inr rfl, Or.inl rfl, Or.inl rfl, Or.inl rfl, Or.inl rfl, Or.inl rfl, Or.inl rfl, Or.inl rfl, Or.inl rfl, Or.inl rfl, Or.inl rfl, trivial⟩ (b_M_colours_20 x1 s _ hf hq)
      · have hf := giff c4 hf
        refine kw_step rfl rfl rfl rfl ?_
        refine kw_step rfl rfl rfl rfl ?_
        refine kw_icmp_eq rfl rfl (fun c5 => ?_) (fun c5 => ?_)
        · have hf := gift c5 hf
          exact kW_le (L' := [some (kr 85), some (kI x1), none, none, none, none, none, none, none, none, none, none]) ⟨Or.inr rfl, Or.inr rfl, Or.inl rfl, Or.inl rfl, Or.inl rfl, Or.inl rfl, Or.inl rfl, Or.inl rfl, Or.inl rfl, Or.inl rfl, Or.inl rfl, Or.inl rfl, trivial⟩ (b_M_colours_20 x1 s _ hf hq)
        · have hf := giff c5 hf
          refine kw_step rfl rfl rfl rfl ?_
          refine kw_step rfl rfl rfl rfl ?_
          refine kw_icmp_eq rfl rfl (fun c6 => ?_) (fun c6 => ?_)
          · have hf := gift c6 hf
            exact kW_le (L' := [some (kr 85), some (kI x1), none, none, none, none, none, none, none, none, none, none]) ⟨Or.inr rfl, Or.inr rfl, Or.inl rfl, Or.inl rfl, Or.inl rfl, Or.inl rfl, Or.inl rfl, Or.inl rfl, Or.inl rfl, Or.inl rfl, Or.inl rfl, Or.inl rfl, trivial⟩ (b_M_colours_20 x1 s _ hf hq)
          · have hf := giff c6 hf
            refine kw_step rfl rfl rfl rfl ?_
            refine kw_step rfl rfl rfl rfl ?_
            refine kw_icmp_eq rfl rfl (fun c7 => ?_) (fun c7 => ?_)
            · have hf := gift c7 hf
              exact kW_le (L' := [some (kr 85), some (kI x1), none, none, none, none, none, none, none, none, none, none]) ⟨Or.inr rfl, Or.inr rfl, Or.inl rfl, Or.inl rfl, Or.inl rfl, Or.inl rfl, Or.inl rfl, Or.inl rfl, Or.inl rfl, Or.inl rfl, Or.inl rfl, Or.inl rfl, trivial⟩ (b_M_colours_20 x1 s _ hf hq)
            · have hf := giff c7 hf
              refine kw_step rfl rfl rfl rfl ?_
              cases hf
              exact kw_ret rfl rfl rfl hq
