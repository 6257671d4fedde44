/-! PRINTED by wip/whole/decall.py: methods as functions over the flat world, with their contracts -/
def f_Land_survey_98 (b0 : Nat) (b1 : Nat) (x2 : Int) (x4 : Int) (s : kM) : Option ((Int × Int × kM) ⊕ (kM)) :=
  some (.inl (x2, (wI (x4 + 1)), s))
set_option maxRecDepth 8000 in
theorem b_Land_survey_98 {sc : List Int} {Q : Option kV → kH → Prop} (b0 : Nat) (b1 : Nat) (hb0 : tL b0 = true) (hb1 : tT b1 = true) (x2 : Int) (x4 : Int) (s : kM) (t : (Int × Int × kM) ⊕ (kM)) (hf : f_Land_survey_98 b0 b1 x2 x4 s = some t) (hq : (gE (fun x => kW sc 3 kc_Land_survey 0 34 [some (kr b0), some (kr b1), some (kJ x.1), none, some (kI x.2.1), none, none, none] [] (hH x.2.2) Q) (fun r => Q none (hH r))) t) : kW sc 3 kc_Land_survey 0 98 [some (kr b0), some (kr b1), some (kJ x2), none, some (kI x4), none, none, none] [] (hH s) Q := by
  unfold f_Land_survey_98 at hf
  refine kw_step (L' := [some (kr b0), some (kr b1), some (kJ x2), none, some (kI (wI (x4 + 1))), none, none, none]) rfl rfl rfl rfl ?_
  refine kw_goto rfl rfl ?_
  cases hf
  exact kW_le (L' := [some (kr b0), some (kr b1), some (kJ x2), none, some (kI (wI (x4 + 1))), none, none, none]) ⟨Or.inr rfl, Or.inr rfl, Or.inr rfl, Or.inl rfl, Or.inr rfl, Or.inl rfl, Or.inl rfl, Or.inl rfl, trivial⟩ hq
def f_Land_survey_34b (b0 : Nat) (b1 : Nat) (x2 : Int) (x4 : Int) (s : kM) : Option ((Int × Int × kM) ⊕ (kM)) :=
  if (wI (2 * (s b1 2))) ≤ x4 then (some (.inr s)) else (if (klnd (klshr x2 x4) 1) = 0 then ((f_Land_roundFrom b0 x4 s).bind fun q3 => (f_Long_bitCount q3 s).bind fun q4 => gLet (gU s b0 0 (wI ((s b0 0) + 1))) fun s5 => (f_Math_max (s5 b0 1) q4 s5).bind fun q8 => gLet (gU s5 b0 1 q8) fun s9 => if q4 = 2 then (gLet (gU s9 b0 2 (wI ((s9 b0 2) + 1))) fun s19 => (f_Land_listApart b0 b1 x4 s19).bind fun q22 => f_Land_survey_98 b0 b1 (klor x2 q3) x4 q22) else (if q4 = 3 then (gLet (gU s9 b0 3 (wI ((s9 b0 3) + 1))) fun s14 => (f_Land_listSlide b0 b1 x4 s14).bind fun q17 => f_Land_survey_98 b0 b1 (klor x2 q3) x4 q17) else (f_Land_survey_98 b0 b1 (klor x2 q3) x4 s9))) else (f_Land_survey_98 b0 b1 x2 x4 s))
set_option maxRecDepth 8000 in
theorem b_Land_survey_34b {sc : List Int} {Q : Option kV → kH → Prop} (b0 : Nat) (b1 : Nat) (hb0 : tL b0 = true) (hb1 : tT b1 = true) (x2 : Int) (x4 : Int) (s : kM) (t : (Int × Int × kM) ⊕ (kM)) (hf : f_Land_survey_34b b0 b1 x2 x4 s = some t) (hq : (gE (fun x => kW sc 3 kc_Land_survey 0 34 [some (kr b0), some (kr b1), some (kJ x.1), none, some (kI x.2.1), none, none, none] [] (hH x.2.2) Q) (fun r => Q none (hH r))) t) : kW sc 3 kc_Land_survey 0 34 [some (kr b0), some (kr b1), some (kJ x2), none, some (kI x4), none, none, none] [] (hH s) Q := by
  unfold f_Land_survey_34b at hf
  refine kw_step rfl rfl rfl rfl ?_
  refine kw_step rfl rfl rfl rfl ?_
  refine kw_step rfl rfl rfl rfl ?_
  refine kw_get rfl (hH_O (tT_0 hb1)) rfl ?_
  refine kw_step rfl rfl rfl rfl ?_
  refine kw_icmp_ge rfl rfl (fun c1 => ?_) (fun c1 => ?_)
  · have hf := gift c1 hf
    cases hf
    exact kw_ret rfl rfl rfl hq
  · have hf := giff c1 hf
    refine kw_step rfl rfl rfl rfl ?_
    refine kw_step rfl rfl rfl rfl ?_
    refine kw_step rfl rfl rfl rfl ?_
    refine kw_step rfl rfl rfl rfl ?_
    refine kw_step rfl rfl rfl rfl ?_
    refine kw_step rfl rfl rfl rfl ?_
    refine kw_lc_ne rfl rfl rfl (fun c2 => ?_) (fun c2 => ?_)
    · have hf := giff c2 hf
      exact kW_le (L' := [some (kr b0), some (kr b1), some (kJ x2), none, some (kI x4), none, none, none]) ⟨Or.inr rfl, Or.inr rfl, Or.inr rfl, Or.inl rfl, Or.inr rfl, Or.inl rfl, Or.inl rfl, Or.inl rfl, trivial⟩ (b_Land_survey_98 b0 b1 hb0 hb1 x2 x4 s _ hf hq)
    · have hf := gift c2 hf
      refine kw_step rfl rfl rfl rfl ?_
      refine kw_step rfl rfl rfl rfl ?_
      obtain ⟨q3, hq3, hf⟩ := gbind hf
      refine kw_callV (vs := [kI x4]) rfl rfl rfl ⟨rfl, Nat.le_of_ble_eq_true rfl, Nat.le_of_ble_eq_true rfl, by decide⟩ (hH_O (tL_0 hb0)) (c_Land_roundFrom b0 hb0 x4 s _ hq3) (Nat.le_of_ble_eq_true rfl) ?_
      refine kw_step (L' := [some (kr b0), some (kr b1), some (kJ x2), none, some (kI x4), some (kJ q3), none, none]) rfl rfl rfl rfl ?_
      refine kw_step rfl rfl rfl rfl ?_
      obtain ⟨q4, hq4, hf⟩ := gbind hf
      refine kw_callS (vs := [kJ q3]) rfl rfl rfl ⟨rfl, Nat.le_of_ble_eq_true rfl, Nat.le_of_ble_eq_true rfl, rfl⟩ (c_Long_bitCount q3 s _ hq4) (Nat.le_of_ble_eq_true rfl) ?_
      refine kw_step (L' := [some (kr b0), some (kr b1), some (kJ x2), none, some (kI x4), some (kJ q3), none, some (kI q4)]) rfl rfl rfl rfl ?_
      refine kw_step rfl rfl rfl rfl ?_
      refine kw_step rfl rfl rfl rfl ?_
      refine kw_step rfl rfl rfl rfl ?_
      refine kw_step (L' := [some (kr b0), some (kr b1), some (kJ (klor x2 q3)), none, some (kI x4), some (kJ q3), none, some (kI q4)]) rfl rfl rfl rfl ?_
      refine kw_step rfl rfl rfl rfl ?_
      refine kw_step rfl rfl rfl rfl ?_
      refine kw_get rfl (hH_O (tL_0 hb0)) rfl ?_
      refine kw_step rfl rfl rfl rfl ?_
      refine kw_step rfl rfl rfl rfl ?_
      obtain ⟨s5, ee6, hf⟩ := gbL hf
      refine kw_putH rfl (tL_0 hb0) rfl rfl rfl (Nat.le_of_ble_eq_true rfl) rfl ee6 ?_
      refine kw_step rfl rfl rfl rfl ?_
      refine kw_step rfl rfl rfl rfl ?_
      refine kw_get rfl (hH_O (tL_0 hb0)) rfl ?_
      refine kw_step rfl rfl rfl rfl ?_
      obtain ⟨q8, hq8, hf⟩ := gbind hf
      refine kw_callS (vs := [kI (s5 b0 1), kI q4]) rfl rfl rfl ⟨rfl, Nat.le_of_ble_eq_true rfl, Nat.le_of_ble_eq_true rfl, rfl⟩ (c_Math_max (s5 b0 1) q4 s5 _ hq8) (Nat.le_of_ble_eq_true rfl) ?_
      obtain ⟨s9, ee10, hf⟩ := gbL hf
      refine kw_putH rfl (tL_0 hb0) rfl rfl rfl (Nat.le_of_ble_eq_true rfl) rfl ee10 ?_
      refine kw_step rfl rfl rfl rfl ?_
      refine kw_step rfl rfl rfl rfl ?_
      refine kw_icmp_ne rfl rfl (fun c12 => ?_) (fun c12 => ?_)
      · have hf := giff c12 hf
        refine kw_step rfl rfl rfl rfl ?_
        refine kw_step rfl rfl rfl rfl ?_
        refine kw_icmp_ne rfl rfl (fun c13 => ?_) (fun c13 => ?_)
        · have hf := giff c13 hf
          exact kW_le (L' := [some (kr b0), some (kr b1), some (kJ (klor x2 q3)), none, some (kI x4), none, none, none]) ⟨Or.inr rfl, Or.inr rfl, Or.inr rfl, Or.inl rfl, Or.inr rfl, Or.inl rfl, Or.inl rfl, Or.inl rfl, trivial⟩ (b_Land_survey_98 b0 b1 hb0 hb1 (klor x2 q3) x4 s9 _ hf hq)
        · have hf := gift c13 hf
          refine kw_step rfl rfl rfl rfl ?_
          refine kw_step rfl rfl rfl rfl ?_
          refine kw_get rfl (hH_O (tL_0 hb0)) rfl ?_
          refine kw_step rfl rfl rfl rfl ?_
          refine kw_step rfl rfl rfl rfl ?_
          obtain ⟨s14, ee15, hf⟩ := gbL hf
          refine kw_putH rfl (tL_0 hb0) rfl rfl rfl (Nat.le_of_ble_eq_true rfl) rfl ee15 ?_
          refine kw_step rfl rfl rfl rfl ?_
          refine kw_step rfl rfl rfl rfl ?_
          refine kw_step rfl rfl rfl rfl ?_
          obtain ⟨q17, hq17, hf⟩ := gbind hf
          refine kw_callV (vs := [kr b1, kI x4]) rfl rfl rfl ⟨rfl, Nat.le_of_ble_eq_true rfl, Nat.le_of_ble_eq_true rfl, by decide⟩ (hH_O (tL_0 hb0)) (c_Land_listSlide b0 b1 hb0 hb1 x4 s14 _ hq17) (Nat.le_of_ble_eq_true rfl) ?_
          exact kW_le (L' := [some (kr b0), some (kr b1), some (kJ (klor x2 q3)), none, some (kI x4), none, none, none]) ⟨Or.inr rfl, Or.inr rfl, Or.inr rfl, Or.inl rfl, Or.inr rfl, Or.inl rfl, Or.inl rfl, Or.inl rfl, trivial⟩ (b_Land_survey_98 b0 b1 hb0 hb1 (klor x2 q3) x4 q17 _ hf hq)
      · have hf := gift c12 hf
        refine kw_step rfl rfl rfl rfl ?_
        refine kw_step rfl rfl rfl rfl ?_
        refine kw_get rfl (hH_O (tL_0 hb0)) rfl ?_
        refine kw_step rfl rfl rfl rfl ?_
        refine kw_step rfl rfl rfl rfl ?_
        obtain ⟨s19, ee20, hf⟩ := gbL hf
        refine kw_putH rfl (tL_0 hb0) rfl rfl rfl (Nat.le_of_ble_eq_true rfl) rfl ee20 ?_
        refine kw_step rfl rfl rfl rfl ?_
        refine kw_step rfl rfl rfl rfl ?_
        refine kw_step rfl rfl rfl rfl ?_
        obtain ⟨q22, hq22, hf⟩ := gbind hf
        refine kw_callV (vs := [kr b1, kI x4]) rfl rfl rfl ⟨rfl, Nat.le_of_ble_eq_true rfl, Nat.le_of_ble_eq_true rfl, by decide⟩ (hH_O (tL_0 hb0)) (c_Land_listApart b0 b1 hb0 hb1 x4 s19 _ hq22) (Nat.le_of_ble_eq_true rfl) ?_
        refine kw_goto rfl rfl ?_
        exact kW_le (L' := [some (kr b0), some (kr b1), some (kJ (klor x2 q3)), none, some (kI x4), none, none, none]) ⟨Or.inr rfl, Or.inr rfl, Or.inr rfl, Or.inl rfl, Or.inr rfl, Or.inl rfl, Or.inl rfl, Or.inl rfl, trivial⟩ (b_Land_survey_98 b0 b1 hb0 hb1 (klor x2 q3) x4 q22 _ hf hq)
def f_Land_survey_34 (b0 : Nat) (b1 : Nat) (x2 : Int) (x4 : Int) (s : kM) : Option (kM) :=
  gL (fun (x : Int × Int × kM) => f_Land_survey_34b b0 b1 x.1 x.2.1 x.2.2) gF (x2, x4, s)
theorem b_Land_survey_34 {sc : List Int} {Q : Option kV → kH → Prop} (b0 : Nat) (b1 : Nat) (hb0 : tL b0 = true) (hb1 : tT b1 = true) (x2 : Int) (x4 : Int) (s : kM) (t : kM) (hf : f_Land_survey_34 b0 b1 x2 x4 s = some t) (hq : (fun r => Q none (hH r)) t) : kW sc 3 kc_Land_survey 0 34 [some (kr b0), some (kr b1), some (kJ x2), none, some (kI x4), none, none, none] [] (hH s) Q :=
  gL_ind (P := fun (x : Int × Int × kM) => kW sc 3 kc_Land_survey 0 34 [some (kr b0), some (kr b1), some (kJ x.1), none, some (kI x.2.1), none, none, none] [] (hH x.2.2) Q) (q := (fun r => Q none (hH r))) (fun x t hf hq => b_Land_survey_34b b0 b1 hb0 hb1 x.1 x.2.1 x.2.2 t hf hq) gF (x2, x4, s) t hf hq
def f_Land_survey_28 (b0 : Nat) (b1 : Nat) (x2 : Int) (s : kM) : Option ((Int × kM) ⊕ (kM)) :=
  some (.inl ((wI (x2 + 1)), s))
set_option maxRecDepth 8000 in
theorem b_Land_survey_28 {sc : List Int} {Q : Option kV → kH → Prop} (b0 : Nat) (b1 : Nat) (hb0 : tL b0 = true) (hb1 : tT b1 = true) (x2 : Int) (s : kM) (t : (Int × kM) ⊕ (kM)) (hf : f_Land_survey_28 b0 b1 x2 s = some t) (hq : (gE (fun x => kW sc 3 kc_Land_survey 0 17 [some (kr b0), some (kr b1), some (kI x.1), none, none, none, none, none] [] (hH x.2) Q) (fun r => Q none (hH r))) t) : kW sc 3 kc_Land_survey 0 28 [some (kr b0), some (kr b1), some (kI x2), none, none, none, none, none] [] (hH s) Q := by
  unfold f_Land_survey_28 at hf
  refine kw_step (L' := [some (kr b0), some (kr b1), some (kI (wI (x2 + 1))), none, none, none, none, none]) rfl rfl rfl rfl ?_
  refine kw_goto rfl rfl ?_
  cases hf
  exact kW_le (L' := [some (kr b0), some (kr b1), some (kI (wI (x2 + 1))), none, none, none, none, none]) ⟨Or.inr rfl, Or.inr rfl, Or.inr rfl, Or.inl rfl, Or.inl rfl, Or.inl rfl, Or.inl rfl, Or.inl rfl, trivial⟩ hq
def f_Land_survey_17b (b0 : Nat) (b1 : Nat) (x2 : Int) (s : kM) : Option ((Int × kM) ⊕ (kM)) :=
  if 11 ≤ x2 then ((f_Land_survey_34 b0 b1 0 0 s).map Sum.inr) else ((f_Town_has b1 x2 s).bind fun q4 => if q4 = 0 then (f_Land_survey_28 b0 b1 x2 s) else ((f_Land_lookRound b0 b1 x2 s).bind fun q6 => f_Land_survey_28 b0 b1 x2 q6))
set_option maxRecDepth 8000 in
theorem b_Land_survey_17b {sc : List Int} {Q : Option kV → kH → Prop} (b0 : Nat) (b1 : Nat) (hb0 : tL b0 = true) (hb1 : tT b1 = true) (x2 : Int) (s : kM) (t : (Int × kM) ⊕ (kM)) (hf : f_Land_survey_17b b0 b1 x2 s = some t) (hq : (gE (fun x => kW sc 3 kc_Land_survey 0 17 [some (kr b0), some (kr b1), some (kI x.1), none, none, none, none, none] [] (hH x.2) Q) (fun r => Q none (hH r))) t) : kW sc 3 kc_Land_survey 0 17 [some (kr b0), some (kr b1), some (kI x2), none, none, none, none, none] [] (hH s) Q := by
  unfold f_Land_survey_17b at hf
  refine kw_step rfl rfl rfl rfl ?_
  refine kw_step rfl rfl rfl rfl ?_
  refine kw_icmp_ge rfl rfl (fun c1 => ?_) (fun c1 => ?_)
  · have hf := gift c1 hf
    refine kw_step rfl rfl rfl rfl ?_
    refine kw_step (L' := [some (kr b0), some (kr b1), some (kJ 0), none, none, none, none, none]) rfl rfl rfl rfl ?_
    refine kw_step rfl rfl rfl rfl ?_
    refine kw_step (L' := [some (kr b0), some (kr b1), some (kJ 0), none, some (kI 0), none, none, none]) rfl rfl rfl rfl ?_
    obtain ⟨t2, hg3, rfl⟩ := gmap hf
    exact kW_le (L' := [some (kr b0), some (kr b1), some (kJ 0), none, some (kI 0), none, none, none]) ⟨Or.inr rfl, Or.inr rfl, Or.inr rfl, Or.inl rfl, Or.inr rfl, Or.inl rfl, Or.inl rfl, Or.inl rfl, trivial⟩ (b_Land_survey_34 b0 b1 hb0 hb1 0 0 s _ hg3 hq)
  · have hf := giff c1 hf
    refine kw_step rfl rfl rfl rfl ?_
    refine kw_step rfl rfl rfl rfl ?_
    obtain ⟨q4, hq4, hf⟩ := gbind hf
    refine kw_callV (vs := [kI x2]) rfl rfl rfl ⟨rfl, Nat.le_of_ble_eq_true rfl, Nat.le_of_ble_eq_true rfl, by decide⟩ (hH_O (tT_0 hb1)) (c_Town_has b1 hb1 x2 s _ hq4) (Nat.le_of_ble_eq_true rfl) ?_
    refine kw_if_eq rfl rfl (fun c5 => ?_) (fun c5 => ?_)
    · have hf := gift c5 hf
      exact kW_le (L' := [some (kr b0), some (kr b1), some (kI x2), none, none, none, none, none]) ⟨Or.inr rfl, Or.inr rfl, Or.inr rfl, Or.inl rfl, Or.inl rfl, Or.inl rfl, Or.inl rfl, Or.inl rfl, trivial⟩ (b_Land_survey_28 b0 b1 hb0 hb1 x2 s _ hf hq)
    · have hf := giff c5 hf
      refine kw_step rfl rfl rfl rfl ?_
      refine kw_step rfl rfl rfl rfl ?_
      refine kw_step rfl rfl rfl rfl ?_
      obtain ⟨q6, hq6, hf⟩ := gbind hf
      refine kw_callV (vs := [kr b1, kI x2]) rfl rfl rfl ⟨rfl, Nat.le_of_ble_eq_true rfl, Nat.le_of_ble_eq_true rfl, by decide⟩ (hH_O (tL_0 hb0)) (c_Land_lookRound b0 b1 hb0 hb1 x2 s _ hq6) (Nat.le_of_ble_eq_true rfl) ?_
      exact kW_le (L' := [some (kr b0), some (kr b1), some (kI x2), none, none, none, none, none]) ⟨Or.inr rfl, Or.inr rfl, Or.inr rfl, Or.inl rfl, Or.inl rfl, Or.inl rfl, Or.inl rfl, Or.inl rfl, trivial⟩ (b_Land_survey_28 b0 b1 hb0 hb1 x2 q6 _ hf hq)
def f_Land_survey_17 (b0 : Nat) (b1 : Nat) (x2 : Int) (s : kM) : Option (kM) :=
  gL (fun (x : Int × kM) => f_Land_survey_17b b0 b1 x.1 x.2) gF (x2, s)
theorem b_Land_survey_17 {sc : List Int} {Q : Option kV → kH → Prop} (b0 : Nat) (b1 : Nat) (hb0 : tL b0 = true) (hb1 : tT b1 = true) (x2 : Int) (s : kM) (t : kM) (hf : f_Land_survey_17 b0 b1 x2 s = some t) (hq : (fun r => Q none (hH r)) t) : kW sc 3 kc_Land_survey 0 17 [some (kr b0), some (kr b1), some (kI x2), none, none, none, none, none] [] (hH s) Q :=
  gL_ind (P := fun (x : Int × kM) => kW sc 3 kc_Land_survey 0 17 [some (kr b0), some (kr b1), some (kI x.1), none, none, none, none, none] [] (hH x.2) Q) (q := (fun r => Q none (hH r))) (fun x t hf hq => b_Land_survey_17b b0 b1 hb0 hb1 x.1 x.2 t hf hq) gF (x2, s) t hf hq
def f_Land_survey (b0 : Nat) (b1 : Nat) (s : kM) : Option (kM) :=
  gLet (gU s b0 0 0) fun s1 => gLet (gU s1 b0 1 0) fun s4 => gLet (gU s4 b0 2 0) fun s7 => gLet (gU s7 b0 3 0) fun s10 => gLet (gU s10 b0 6 0) fun s13 => f_Land_survey_17 b0 b1 0 s13
set_option maxRecDepth 8000 in
theorem c_Land_survey {sc : List Int} (b0 : Nat) (b1 : Nat) (hb0 : tL b0 = true) (hb1 : tT b1 = true) (s : kM) (t : kM) (hf : f_Land_survey b0 b1 s = some t) : kR sc 3 km_Land_survey [kr b0, kr b1] (hH s) none (hH t) := by
  unfold f_Land_survey at hf
  refine kR.start rfl ?_
  show kW sc 3 kc_Land_survey 0 0 [some (kr b0), some (kr b1), none, none, none, none, none, none] [] (hH s) _
  have hq : (fun (r : Option kV) (g : kH) => r = none ∧ g = hH t) none (hH t) := ⟨rfl, rfl⟩
  refine kw_step rfl rfl rfl rfl ?_
  refine kw_step rfl rfl rfl rfl ?_
  obtain ⟨s1, ee2, hf⟩ := gbL hf
  refine kw_putH rfl (tL_0 hb0) rfl rfl rfl (Nat.le_of_ble_eq_true rfl) rfl ee2 ?_
  refine kw_step rfl rfl rfl rfl ?_
  refine kw_step rfl rfl rfl rfl ?_
  obtain ⟨s4, ee5, hf⟩ := gbL hf
  refine kw_putH rfl (tL_0 hb0) rfl rfl rfl (Nat.le_of_ble_eq_true rfl) rfl ee5 ?_
  refine kw_step rfl rfl rfl rfl ?_
  refine kw_step rfl rfl rfl rfl ?_
  obtain ⟨s7, ee8, hf⟩ := gbL hf
  refine kw_putH rfl (tL_0 hb0) rfl rfl rfl (Nat.le_of_ble_eq_true rfl) rfl ee8 ?_
  refine kw_step rfl rfl rfl rfl ?_
  refine kw_step rfl rfl rfl rfl ?_
  obtain ⟨s10, ee11, hf⟩ := gbL hf
  refine kw_putH rfl (tL_0 hb0) rfl rfl rfl (Nat.le_of_ble_eq_true rfl) rfl ee11 ?_
  refine kw_step rfl rfl rfl rfl ?_
  refine kw_step rfl rfl rfl rfl ?_
  obtain ⟨s13, ee14, hf⟩ := gbL hf
  refine kw_putH rfl (tL_0 hb0) rfl rfl rfl (Nat.le_of_ble_eq_true rfl) rfl ee14 ?_
  refine kw_step rfl rfl rfl rfl ?_
  refine kw_step (L' := [some (kr b0), some (kr b1), some (kI 0), none, none, none, none, none]) rfl rfl rfl rfl ?_
  exact kW_le (L' := [some (kr b0), some (kr b1), some (kI 0), none, none, none, none, none]) ⟨Or.inr rfl, Or.inr rfl, Or.inr rfl, Or.inl rfl, Or.inl rfl, Or.inl rfl, Or.inl rfl, Or.inl rfl, trivial⟩ (b_Land_survey_17 b0 b1 hb0 hb1 0 s13 _ hf hq)
def f_Town_roadStart (b0 : Nat) (x1 : Int) (s : kM) : Option (Int) :=
  if x1 = 0 then (some 0) else (some (s b0 1))
set_option maxRecDepth 8000 in
theorem c_Town_roadStart {sc : List Int} (b0 : Nat) (hb0 : tT b0 = true) (x1 : Int) (s : kM) (t : Int) (hf : f_Town_roadStart b0 x1 s = some t) : kR sc 0 km_Town_roadStart [kr b0, kI x1] (hH s) (some (kI t)) (hH s) := by
  unfold f_Town_roadStart at hf
  refine kR.start rfl ?_
  show kW sc 0 kc_Town_roadStart 1 0 [some (kr b0), some (kI x1)] [] (hH s) _
  have hq : (fun (r : Option kV) (g : kH) => r = some (kI t) ∧ g = hH s) (some (kI t)) (hH s) := ⟨rfl, rfl⟩
  refine kw_step rfl rfl rfl rfl ?_
  refine kw_if_ne rfl rfl (fun c1 => ?_) (fun c1 => ?_)
  · have hf := giff c1 hf
    refine kw_step rfl rfl rfl rfl ?_
    refine kw_get rfl (hH_O (tT_0 hb0)) rfl ?_
    cases hf
    exact kw_ret rfl rfl rfl hq
  · have hf := gift c1 hf
    refine kw_step rfl rfl rfl rfl ?_
    refine kw_goto rfl rfl ?_
    cases hf
    exact kw_ret rfl rfl rfl hq
def f_Town_roadEnd (b0 : Nat) (x1 : Int) (s : kM) : Option (Int) :=
  if x1 = 0 then (some (s b0 1)) else (some (s b0 2))
set_option maxRecDepth 8000 in
theorem c_Town_roadEnd {sc : List Int} (b0 : Nat) (hb0 : tT b0 = true) (x1 : Int) (s : kM) (t : Int) (hf : f_Town_roadEnd b0 x1 s = some t) : kR sc 0 km_Town_roadEnd [kr b0, kI x1] (hH s) (some (kI t)) (hH s) := by
  unfold f_Town_roadEnd at hf
  refine kR.start rfl ?_
  show kW sc 0 kc_Town_roadEnd 1 0 [some (kr b0), some (kI x1)] [] (hH s) _
  have hq : (fun (r : Option kV) (g : kH) => r = some (kI t) ∧ g = hH s) (some (kI t)) (hH s) := ⟨rfl, rfl⟩
  refine kw_step rfl rfl rfl rfl ?_
  refine kw_if_ne rfl rfl (fun c1 => ?_) (fun c1 => ?_)
  · have hf := giff c1 hf
    refine kw_step rfl rfl rfl rfl ?_
    refine kw_get rfl (hH_O (tT_0 hb0)) rfl ?_
    cases hf
    exact kw_ret rfl rfl rfl hq
  · have hf := gift c1 hf
    refine kw_step rfl rfl rfl rfl ?_
    refine kw_get rfl (hH_O (tT_0 hb0)) rfl ?_
    refine kw_goto rfl rfl ?_
    cases hf
    exact kw_ret rfl rfl rfl hq
def f_Town_met_6b (b0 : Nat) (x1 : Int) (x2 : Int) (x3 : Int) (s : kM) : Option ((Int × Int) ⊕ (Int)) :=
  (f_Town_roadEnd b0 x1 s).bind fun q1 => if q1 ≤ x3 then (some (.inr x2)) else ((gI 22 x3).bind fun j3 => some (.inl ((kor x2 (kshl 1 (kshr (s (b0 + 1) j3) 1))), (wI (x3 + 1)))))
set_option maxRecDepth 8000 in
theorem b_Town_met_6b {sc : List Int} {Q : Option kV → kH → Prop} (b0 : Nat) (hb0 : tT b0 = true) (x1 : Int) (x2 : Int) (x3 : Int) (s : kM) (t : (Int × Int) ⊕ (Int)) (hf : f_Town_met_6b b0 x1 x2 x3 s = some t) (hq : (gE (fun x => kW sc 1 kc_Town_met 1 6 [some (kr b0), some (kI x1), some (kI x.1), some (kI x.2)] [] (hH s) Q) (fun r => Q (some (kI r)) (hH s))) t) : kW sc 1 kc_Town_met 1 6 [some (kr b0), some (kI x1), some (kI x2), some (kI x3)] [] (hH s) Q := by
  unfold f_Town_met_6b at hf
  refine kw_step rfl rfl rfl rfl ?_
  refine kw_step rfl rfl rfl rfl ?_
  refine kw_step rfl rfl rfl rfl ?_
  obtain ⟨q1, hq1, hf⟩ := gbind hf
  refine kw_callV (vs := [kI x1]) rfl rfl rfl ⟨rfl, Nat.le_of_ble_eq_true rfl, Nat.le_of_ble_eq_true rfl, by decide⟩ (hH_O (tT_0 hb0)) (c_Town_roadEnd b0 hb0 x1 s _ hq1) (Nat.le_of_ble_eq_true rfl) ?_
  refine kw_icmp_ge rfl rfl (fun c2 => ?_) (fun c2 => ?_)
  · have hf := gift c2 hf
    refine kw_step rfl rfl rfl rfl ?_
    cases hf
    exact kw_ret rfl rfl rfl hq
  · have hf := giff c2 hf
    refine kw_step rfl rfl rfl rfl ?_
    refine kw_step rfl rfl rfl rfl ?_
    refine kw_step rfl rfl rfl rfl ?_
    refine kw_get rfl (hH_O (tT_0 hb0)) rfl ?_
    refine kw_step rfl rfl rfl rfl ?_
    obtain ⟨j3, i4, hf⟩ := gbI hf
    refine kw_iald rfl (hH_A (tT_1 hb0)) i4.1 i4.2.1 i4.2.2 ?_
    refine kw_step rfl rfl rfl rfl ?_
    refine kw_step rfl rfl rfl rfl ?_
    refine kw_step rfl rfl rfl rfl ?_
    refine kw_step rfl rfl rfl rfl ?_
    refine kw_step (L' := [some (kr b0), some (kI x1), some (kI (kor x2 (kshl 1 (kshr (s (b0 + 1) j3) 1)))), some (kI x3)]) rfl rfl rfl rfl ?_
    refine kw_step (L' := [some (kr b0), some (kI x1), some (kI (kor x2 (kshl 1 (kshr (s (b0 + 1) j3) 1)))), some (kI (wI (x3 + 1)))]) rfl rfl rfl rfl ?_
    refine kw_goto rfl rfl ?_
    cases hf
    exact kW_le (L' := [some (kr b0), some (kI x1), some (kI (kor x2 (kshl 1 (kshr (s (b0 + 1) j3) 1)))), some (kI (wI (x3 + 1)))]) ⟨Or.inr rfl, Or.inr rfl, Or.inr rfl, Or.inr rfl, trivial⟩ hq
def f_Town_met_6 (b0 : Nat) (x1 : Int) (x2 : Int) (x3 : Int) (s : kM) : Option (Int) :=
  gL (fun (x : Int × Int) => f_Town_met_6b b0 x1 x.1 x.2 s) gF (x2, x3)
theorem b_Town_met_6 {sc : List Int} {Q : Option kV → kH → Prop} (b0 : Nat) (hb0 : tT b0 = true) (x1 : Int) (x2 : Int) (x3 : Int) (s : kM) (t : Int) (hf : f_Town_met_6 b0 x1 x2 x3 s = some t) (hq : (fun r => Q (some (kI r)) (hH s)) t) : kW sc 1 kc_Town_met 1 6 [some (kr b0), some (kI x1), some (kI x2), some (kI x3)] [] (hH s) Q :=
  gL_ind (P := fun (x : Int × Int) => kW sc 1 kc_Town_met 1 6 [some (kr b0), some (kI x1), some (kI x.1), some (kI x.2)] [] (hH s) Q) (q := (fun r => Q (some (kI r)) (hH s))) (fun x t hf hq => b_Town_met_6b b0 hb0 x1 x.1 x.2 s t hf hq) gF (x2, x3) t hf hq
def f_Town_met (b0 : Nat) (x1 : Int) (s : kM) : Option (Int) :=
  (f_Town_roadStart b0 x1 s).bind fun q1 => f_Town_met_6 b0 x1 0 q1 s
set_option maxRecDepth 8000 in
theorem c_Town_met {sc : List Int} (b0 : Nat) (hb0 : tT b0 = true) (x1 : Int) (s : kM) (t : Int) (hf : f_Town_met b0 x1 s = some t) : kR sc 1 km_Town_met [kr b0, kI x1] (hH s) (some (kI t)) (hH s) := by
  unfold f_Town_met at hf
  refine kR.start rfl ?_
  show kW sc 1 kc_Town_met 1 0 [some (kr b0), some (kI x1), none, none] [] (hH s) _
  have hq : (fun (r : Option kV) (g : kH) => r = some (kI t) ∧ g = hH s) (some (kI t)) (hH s) := ⟨rfl, rfl⟩
  refine kw_step rfl rfl rfl rfl ?_
  refine kw_step (L' := [some (kr b0), some (kI x1), some (kI 0), none]) rfl rfl rfl rfl ?_
  refine kw_step rfl rfl rfl rfl ?_
  refine kw_step rfl rfl rfl rfl ?_
  obtain ⟨q1, hq1, hf⟩ := gbind hf
  refine kw_callV (vs := [kI x1]) rfl rfl rfl ⟨rfl, Nat.le_of_ble_eq_true rfl, Nat.le_of_ble_eq_true rfl, by decide⟩ (hH_O (tT_0 hb0)) (c_Town_roadStart b0 hb0 x1 s _ hq1) (Nat.le_of_ble_eq_true rfl) ?_
  refine kw_step (L' := [some (kr b0), some (kI x1), some (kI 0), some (kI q1)]) rfl rfl rfl rfl ?_
  exact kW_le (L' := [some (kr b0), some (kI x1), some (kI 0), some (kI q1)]) ⟨Or.inr rfl, Or.inr rfl, Or.inr rfl, Or.inr rfl, trivial⟩ (b_Town_met_6 b0 hb0 x1 0 q1 s _ hf hq)
def f_Town_groups_12 (b0 : Nat) (x1 : Int) (x2 : Int) (s : kM) : Option (Int) :=
  if x1 = x2 then (some 0) else (some 1)
set_option maxRecDepth 8000 in
theorem b_Town_groups_12 {sc : List Int} {Q : Option kV → kH → Prop} (b0 : Nat) (hb0 : tT b0 = true) (x1 : Int) (x2 : Int) (s : kM) (t : Int) (hf : f_Town_groups_12 b0 x1 x2 s = some t) (hq : (fun r => Q (some (kI r)) (hH s)) t) : kW sc 2 kc_Town_groups 1 12 [none, some (kI x1), some (kI x2)] [] (hH s) Q := by
  unfold f_Town_groups_12 at hf
  refine kw_step rfl rfl rfl rfl ?_
  refine kw_step rfl rfl rfl rfl ?_
  refine kw_icmp_ne rfl rfl (fun c1 => ?_) (fun c1 => ?_)
  · have hf := giff c1 hf
    refine kw_step rfl rfl rfl rfl ?_
    cases hf
    exact kw_ret rfl rfl rfl hq
  · have hf := gift c1 hf
    refine kw_step rfl rfl rfl rfl ?_
    refine kw_goto rfl rfl ?_
    cases hf
    exact kw_ret rfl rfl rfl hq
def f_Town_groups (b0 : Nat) (s : kM) : Option (Int) :=
  (f_Town_met b0 0 s).bind fun q1 => (f_Town_met b0 1 s).bind fun q2 => if q1 = 0 then (f_Town_groups_12 b0 q1 q2 s) else (if q2 = 0 then (f_Town_groups_12 b0 q1 q2 s) else (if (kand q1 q2) = 0 then (some 2) else (some 1)))
set_option maxRecDepth 8000 in
theorem c_Town_groups {sc : List Int} (b0 : Nat) (hb0 : tT b0 = true) (s : kM) (t : Int) (hf : f_Town_groups b0 s = some t) : kR sc 2 km_Town_groups [kr b0] (hH s) (some (kI t)) (hH s) := by
  unfold f_Town_groups at hf
  refine kR.start rfl ?_
  show kW sc 2 kc_Town_groups 1 0 [some (kr b0), none, none] [] (hH s) _
  have hq : (fun (r : Option kV) (g : kH) => r = some (kI t) ∧ g = hH s) (some (kI t)) (hH s) := ⟨rfl, rfl⟩
  refine kw_step rfl rfl rfl rfl ?_
  refine kw_step rfl rfl rfl rfl ?_
  obtain ⟨q1, hq1, hf⟩ := gbind hf
  refine kw_callV (vs := [kI 0]) rfl rfl rfl ⟨rfl, Nat.le_of_ble_eq_true rfl, Nat.le_of_ble_eq_true rfl, by decide⟩ (hH_O (tT_0 hb0)) (c_Town_met b0 hb0 0 s _ hq1) (Nat.le_of_ble_eq_true rfl) ?_
  refine kw_step (L' := [some (kr b0), some (kI q1), none]) rfl rfl rfl rfl ?_
  refine kw_step rfl rfl rfl rfl ?_
  refine kw_step rfl rfl rfl rfl ?_
  obtain ⟨q2, hq2, hf⟩ := gbind hf
  refine kw_callV (vs := [kI 1]) rfl rfl rfl ⟨rfl, Nat.le_of_ble_eq_true rfl, Nat.le_of_ble_eq_true rfl, by decide⟩ (hH_O (tT_0 hb0)) (c_Town_met b0 hb0 1 s _ hq2) (Nat.le_of_ble_eq_true rfl) ?_
  refine kw_step (L' := [some (kr b0), some (kI q1), some (kI q2)]) rfl rfl rfl rfl ?_
  refine kw_step rfl rfl rfl rfl ?_
  refine kw_if_eq rfl rfl (fun c3 => ?_) (fun c3 => ?_)
  · have hf := gift c3 hf
    exact kW_le (L' := [none, some (kI q1), some (kI q2)]) ⟨Or.inl rfl, Or.inr rfl, Or.inr rfl, trivial⟩ (b_Town_groups_12 b0 hb0 q1 q2 s _ hf hq)
  · have hf := giff c3 hf
    refine kw_step rfl rfl rfl rfl ?_
    refine kw_if_ne rfl rfl (fun c4 => ?_) (fun c4 => ?_)
    · have hf := giff c4 hf
      refine kw_step rfl rfl rfl rfl ?_
      refine kw_step rfl rfl rfl rfl ?_
      refine kw_step rfl rfl rfl rfl ?_
      refine kw_if_ne rfl rfl (fun c5 => ?_) (fun c5 => ?_)
      · have hf := giff c5 hf
        refine kw_step rfl rfl rfl rfl ?_
        cases hf
        exact kw_ret rfl rfl rfl hq
      · have hf := gift c5 hf
        refine kw_step rfl rfl rfl rfl ?_
        refine kw_goto rfl rfl ?_
        cases hf
        exact kw_ret rfl rfl rfl hq
    · have hf := gift c4 hf
      exact kW_le (L' := [none, some (kI q1), some (kI q2)]) ⟨Or.inl rfl, Or.inr rfl, Or.inr rfl, trivial⟩ (b_Town_groups_12 b0 hb0 q1 q2 s _ hf hq)
def f_TownText_read_35 (b1 : Nat) (b2 : Nat) (s : kM) : Option (kM) :=
  if (s 1 3) = 0 then ((f_Town_settle b1 s).bind fun q2 => (f_Town_bridges b1 q2).bind fun q4 => if (q2 b1 2) = (wI (2 * q4)) then ((f_Land_survey b2 b1 q2).bind fun q6 => (f_Town_bridges b1 q6).bind fun q8 => (f_Town_groups b1 q6).bind fun q9 => if (q6 b2 0) = (wI (q8 + (wI (2 * q9)))) then (some q6) else ((f_Tape_fail 7 q6).bind fun q11 => some q11)) else ((f_Tape_fail 6 q2).bind fun q13 => some q13)) else (some s)
set_option maxRecDepth 8000 in
theorem b_TownText_read_35 {sc : List Int} {Q : Option kV → kH → Prop} (b1 : Nat) (b2 : Nat) (hb1 : tT b1 = true) (hb2 : tL b2 = true) (s : kM) (t : kM) (hf : f_TownText_read_35 b1 b2 s = some t) (hq : (fun r => Q none (hH r)) t) : kW sc 5 kc_TownText_read 0 35 [some (kr 1), some (kr b1), some (kr b2), none, none] [] (hH s) Q := by
  unfold f_TownText_read_35 at hf
  refine kw_step rfl rfl rfl rfl ?_
  refine kw_get rfl (hH_O (rfl : kotab 1 = some kPo)) rfl ?_
  refine kw_if_eq rfl rfl (fun c1 => ?_) (fun c1 => ?_)
  · have hf := gift c1 hf
    refine kw_step rfl rfl rfl rfl ?_
    obtain ⟨q2, hq2, hf⟩ := gbind hf
    refine kw_callV (vs := []) rfl rfl rfl ⟨rfl, Nat.le_of_ble_eq_true rfl, Nat.le_of_ble_eq_true rfl, by decide⟩ (hH_O (tT_0 hb1)) (c_Town_settle b1 hb1 s _ hq2) (Nat.le_of_ble_eq_true rfl) ?_
    refine kw_step rfl rfl rfl rfl ?_
    refine kw_get rfl (hH_O (tT_0 hb1)) rfl ?_
    refine kw_step rfl rfl rfl rfl ?_
    refine kw_step rfl rfl rfl rfl ?_
    obtain ⟨q4, hq4, hf⟩ := gbind hf
    refine kw_callV (vs := []) rfl rfl rfl ⟨rfl, Nat.le_of_ble_eq_true rfl, Nat.le_of_ble_eq_true rfl, by decide⟩ (hH_O (tT_0 hb1)) (c_Town_bridges b1 hb1 q2 _ hq4) (Nat.le_of_ble_eq_true rfl) ?_
    refine kw_step rfl rfl rfl rfl ?_
    refine kw_icmp_eq rfl rfl (fun c5 => ?_) (fun c5 => ?_)
    · have hf := gift c5 hf
      refine kw_step rfl rfl rfl rfl ?_
      refine kw_step rfl rfl rfl rfl ?_
      obtain ⟨q6, hq6, hf⟩ := gbind hf
      refine kw_callV (vs := [kr b1]) rfl rfl rfl ⟨rfl, Nat.le_of_ble_eq_true rfl, Nat.le_of_ble_eq_true rfl, by decide⟩ (hH_O (tL_0 hb2)) (c_Land_survey b2 b1 hb2 hb1 q2 _ hq6) (Nat.le_of_ble_eq_true rfl) ?_
      refine kw_step rfl rfl rfl rfl ?_
      refine kw_get rfl (hH_O (tL_0 hb2)) rfl ?_
      refine kw_step rfl rfl rfl rfl ?_
      obtain ⟨q8, hq8, hf⟩ := gbind hf
      refine kw_callV (vs := []) rfl rfl rfl ⟨rfl, Nat.le_of_ble_eq_true rfl, Nat.le_of_ble_eq_true rfl, by decide⟩ (hH_O (tT_0 hb1)) (c_Town_bridges b1 hb1 q6 _ hq8) (Nat.le_of_ble_eq_true rfl) ?_
      refine kw_step rfl rfl rfl rfl ?_
      refine kw_step rfl rfl rfl rfl ?_
      obtain ⟨q9, hq9, hf⟩ := gbind hf
      refine kw_callV (vs := []) rfl rfl rfl ⟨rfl, Nat.le_of_ble_eq_true rfl, Nat.le_of_ble_eq_true rfl, by decide⟩ (hH_O (tT_0 hb1)) (c_Town_groups b1 hb1 q6 _ hq9) (Nat.le_of_ble_eq_true rfl) ?_
      refine kw_step rfl rfl rfl rfl ?_
      refine kw_step rfl rfl rfl rfl ?_
      refine kw_icmp_eq rfl rfl (fun c10 => ?_) (fun c10 => ?_)
      · have hf := gift c10 hf
        cases hf
        exact kw_ret rfl rfl rfl hq
      · have hf := giff c10 hf
        refine kw_step rfl rfl rfl rfl ?_
        refine kw_step rfl rfl rfl rfl ?_
        obtain ⟨q11, hq11, hf⟩ := gbind hf
        refine kw_callV (vs := [kI 7]) rfl rfl rfl ⟨rfl, Nat.le_of_ble_eq_true rfl, Nat.le_of_ble_eq_true rfl, by decide⟩ (hH_O (rfl : kotab 1 = some kPo)) (c_Tape_fail 7 q6 _ hq11) (Nat.le_of_ble_eq_true rfl) ?_
        cases hf
        exact kw_ret rfl rfl rfl hq
    · have hf := giff c5 hf
      refine kw_step rfl rfl rfl rfl ?_
      refine kw_step rfl rfl rfl rfl ?_
      obtain ⟨q13, hq13, hf⟩ := gbind hf
      refine kw_callV (vs := [kI 6]) rfl rfl rfl ⟨rfl, Nat.le_of_ble_eq_true rfl, Nat.le_of_ble_eq_true rfl, by decide⟩ (hH_O (rfl : kotab 1 = some kPo)) (c_Tape_fail 6 q2 _ hq13) (Nat.le_of_ble_eq_true rfl) ?_
      cases hf
      exact kw_ret rfl rfl rfl hq
  · have hf := giff c1 hf
    cases hf
    exact kw_ret rfl rfl rfl hq
def f_TownText_read_29 (b1 : Nat) (b2 : Nat) (s : kM) : Option (kM) :=
  (f_Tape_atEnd s).bind fun q1 => if q1 = 0 then ((f_Tape_fail 0 s).bind fun q3 => f_TownText_read_35 b1 b2 q3) else (f_TownText_read_35 b1 b2 s)
set_option maxRecDepth 8000 in
theorem b_TownText_read_29 {sc : List Int} {Q : Option kV → kH → Prop} (b1 : Nat) (b2 : Nat) (hb1 : tT b1 = true) (hb2 : tL b2 = true) (s : kM) (t : kM) (hf : f_TownText_read_29 b1 b2 s = some t) (hq : (fun r => Q none (hH r)) t) : kW sc 5 kc_TownText_read 0 29 [some (kr 1), some (kr b1), some (kr b2), none, none] [] (hH s) Q := by
  unfold f_TownText_read_29 at hf
  refine kw_step rfl rfl rfl rfl ?_
  obtain ⟨q1, hq1, hf⟩ := gbind hf
  refine kw_callV (vs := []) rfl rfl rfl ⟨rfl, Nat.le_of_ble_eq_true rfl, Nat.le_of_ble_eq_true rfl, by decide⟩ (hH_O (rfl : kotab 1 = some kPo)) (c_Tape_atEnd s _ hq1) (Nat.le_of_ble_eq_true rfl) ?_
  refine kw_if_ne rfl rfl (fun c2 => ?_) (fun c2 => ?_)
  · have hf := giff c2 hf
    exact kW_le (L' := [some (kr 1), some (kr b1), some (kr b2), none, none]) ⟨Or.inr rfl, Or.inr rfl, Or.inr rfl, Or.inl rfl, Or.inl rfl, trivial⟩ (b_TownText_read_35 b1 b2 hb1 hb2 s _ hf hq)
  · have hf := gift c2 hf
    refine kw_step rfl rfl rfl rfl ?_
    refine kw_step rfl rfl rfl rfl ?_
    obtain ⟨q3, hq3, hf⟩ := gbind hf
    refine kw_callV (vs := [kI 0]) rfl rfl rfl ⟨rfl, Nat.le_of_ble_eq_true rfl, Nat.le_of_ble_eq_true rfl, by decide⟩ (hH_O (rfl : kotab 1 = some kPo)) (c_Tape_fail 0 s _ hq3) (Nat.le_of_ble_eq_true rfl) ?_
    exact kW_le (L' := [some (kr 1), some (kr b1), some (kr b2), none, none]) ⟨Or.inr rfl, Or.inr rfl, Or.inr rfl, Or.inl rfl, Or.inl rfl, trivial⟩ (b_TownText_read_35 b1 b2 hb1 hb2 q3 _ hf hq)
def f_TownText_read_26 (b1 : Nat) (b2 : Nat) (x4 : Int) (y0 : Int) (s : kM) : Option ((Int × Int × kM) ⊕ (kM)) :=
  some (.inl (y0, (wI (x4 + 1)), s))
set_option maxRecDepth 8000 in
theorem b_TownText_read_26 {sc : List Int} {Q : Option kV → kH → Prop} (b1 : Nat) (b2 : Nat) (hb1 : tT b1 = true) (hb2 : tL b2 = true) (x4 : Int) (y0 : Int) (s : kM) (t : (Int × Int × kM) ⊕ (kM)) (hf : f_TownText_read_26 b1 b2 x4 y0 s = some t) (hq : (gE (fun x => kW sc 5 kc_TownText_read 0 8 [some (kr 1), some (kr b1), some (kr b2), some (kI x.1), some (kI x.2.1)] [] (hH x.2.2) Q) (fun r => Q none (hH r))) t) : kW sc 5 kc_TownText_read 0 26 [some (kr 1), some (kr b1), some (kr b2), none, some (kI x4)] [kI y0] (hH s) Q := by
  unfold f_TownText_read_26 at hf
  refine kw_step (L' := [some (kr 1), some (kr b1), some (kr b2), some (kI y0), some (kI x4)]) rfl rfl rfl rfl ?_
  refine kw_step (L' := [some (kr 1), some (kr b1), some (kr b2), some (kI y0), some (kI (wI (x4 + 1)))]) rfl rfl rfl rfl ?_
  refine kw_goto rfl rfl ?_
  cases hf
  exact kW_le (L' := [some (kr 1), some (kr b1), some (kr b2), some (kI y0), some (kI (wI (x4 + 1)))]) ⟨Or.inr rfl, Or.inr rfl, Or.inr rfl, Or.inr rfl, Or.inr rfl, trivial⟩ hq
def f_TownText_read_25 (b1 : Nat) (b2 : Nat) (x4 : Int) (s : kM) : Option ((Int × Int × kM) ⊕ (kM)) :=
  f_TownText_read_26 b1 b2 x4 0 s
set_option maxRecDepth 8000 in
theorem b_TownText_read_25 {sc : List Int} {Q : Option kV → kH → Prop} (b1 : Nat) (b2 : Nat) (hb1 : tT b1 = true) (hb2 : tL b2 = true) (x4 : Int) (s : kM) (t : (Int × Int × kM) ⊕ (kM)) (hf : f_TownText_read_25 b1 b2 x4 s = some t) (hq : (gE (fun x => kW sc 5 kc_TownText_read 0 8 [some (kr 1), some (kr b1), some (kr b2), some (kI x.1), some (kI x.2.1)] [] (hH x.2.2) Q) (fun r => Q none (hH r))) t) : kW sc 5 kc_TownText_read 0 25 [some (kr 1), some (kr b1), some (kr b2), none, some (kI x4)] [] (hH s) Q := by
  unfold f_TownText_read_25 at hf
  refine kw_step rfl rfl rfl rfl ?_
  exact kW_le (L' := [some (kr 1), some (kr b1), some (kr b2), none, some (kI x4)]) ⟨Or.inr rfl, Or.inr rfl, Or.inr rfl, Or.inl rfl, Or.inr rfl, trivial⟩ (b_TownText_read_26 b1 b2 hb1 hb2 x4 0 s _ hf hq)
def f_TownText_read_8b (b1 : Nat) (b2 : Nat) (x3 : Int) (x4 : Int) (s : kM) : Option ((Int × Int × kM) ⊕ (kM)) :=
  if 2 < x4 then ((f_TownText_read_29 b1 b2 s).map Sum.inr) else (if x3 = 0 then ((f_TownText_read_29 b1 b2 s).map Sum.inr) else ((f_TownText_readRoad b1 s).bind fun q7 => if (q7 1 3) = 0 then ((f_Tape_takeSign 59 q7).bind fun q10 => if q10.1 = 0 then (f_TownText_read_25 b1 b2 x4 q10.2) else (f_TownText_read_26 b1 b2 x4 1 q10.2)) else (f_TownText_read_25 b1 b2 x4 q7)))
set_option maxRecDepth 8000 in
theorem b_TownText_read_8b {sc : List Int} {Q : Option kV → kH → Prop} (b1 : Nat) (b2 : Nat) (hb1 : tT b1 = true) (hb2 : tL b2 = true) (x3 : Int) (x4 : Int) (s : kM) (t : (Int × Int × kM) ⊕ (kM)) (hf : f_TownText_read_8b b1 b2 x3 x4 s = some t) (hq : (gE (fun x => kW sc 5 kc_TownText_read 0 8 [some (kr 1), some (kr b1), some (kr b2), some (kI x.1), some (kI x.2.1)] [] (hH x.2.2) Q) (fun r => Q none (hH r))) t) : kW sc 5 kc_TownText_read 0 8 [some (kr 1), some (kr b1), some (kr b2), some (kI x3), some (kI x4)] [] (hH s) Q := by
  unfold f_TownText_read_8b at hf
  refine kw_step rfl rfl rfl rfl ?_
  refine kw_step rfl rfl rfl rfl ?_
  refine kw_icmp_gt rfl rfl (fun c1 => ?_) (fun c1 => ?_)
  · have hf := gift c1 hf
    obtain ⟨t2, hg3, rfl⟩ := gmap hf
    exact kW_le (L' := [some (kr 1), some (kr b1), some (kr b2), none, none]) ⟨Or.inr rfl, Or.inr rfl, Or.inr rfl, Or.inl rfl, Or.inl rfl, trivial⟩ (b_TownText_read_29 b1 b2 hb1 hb2 s _ hg3 hq)
  · have hf := giff c1 hf
    refine kw_step rfl rfl rfl rfl ?_
    refine kw_if_eq rfl rfl (fun c4 => ?_) (fun c4 => ?_)
    · have hf := gift c4 hf
      obtain ⟨t5, hg6, rfl⟩ := gmap hf
      exact kW_le (L' := [some (kr 1), some (kr b1), some (kr b2), none, none]) ⟨Or.inr rfl, Or.inr rfl, Or.inr rfl, Or.inl rfl, Or.inl rfl, trivial⟩ (b_TownText_read_29 b1 b2 hb1 hb2 s _ hg6 hq)
    · have hf := giff c4 hf
      refine kw_step rfl rfl rfl rfl ?_
      refine kw_step rfl rfl rfl rfl ?_
      obtain ⟨q7, hq7, hf⟩ := gbind hf
      refine kw_callS (vs := [kr 1, kr b1]) rfl rfl rfl ⟨rfl, Nat.le_of_ble_eq_true rfl, Nat.le_of_ble_eq_true rfl, rfl⟩ (c_TownText_readRoad b1 hb1 s _ hq7) (Nat.le_of_ble_eq_true rfl) ?_
      refine kw_step rfl rfl rfl rfl ?_
      refine kw_get rfl (hH_O (rfl : kotab 1 = some kPo)) rfl ?_
      refine kw_if_ne rfl rfl (fun c9 => ?_) (fun c9 => ?_)
      · have hf := giff c9 hf
        exact kW_le (L' := [some (kr 1), some (kr b1), some (kr b2), none, some (kI x4)]) ⟨Or.inr rfl, Or.inr rfl, Or.inr rfl, Or.inl rfl, Or.inr rfl, trivial⟩ (b_TownText_read_25 b1 b2 hb1 hb2 x4 q7 _ hf hq)
      · have hf := gift c9 hf
        refine kw_step rfl rfl rfl rfl ?_
        refine kw_step rfl rfl rfl rfl ?_
        obtain ⟨q10, hq10, hf⟩ := gbind hf
        refine kw_callV (vs := [kI 59]) rfl rfl rfl ⟨rfl, Nat.le_of_ble_eq_true rfl, Nat.le_of_ble_eq_true rfl, by decide⟩ (hH_O (rfl : kotab 1 = some kPo)) (c_Tape_takeSign 59 q7 _ hq10) (Nat.le_of_ble_eq_true rfl) ?_
        refine kw_if_eq rfl rfl (fun c12 => ?_) (fun c12 => ?_)
        · have hf := gift c12 hf
          exact kW_le (L' := [some (kr 1), some (kr b1), some (kr b2), none, some (kI x4)]) ⟨Or.inr rfl, Or.inr rfl, Or.inr rfl, Or.inl rfl, Or.inr rfl, trivial⟩ (b_TownText_read_25 b1 b2 hb1 hb2 x4 q10.2 _ hf hq)
        · have hf := giff c12 hf
          refine kw_step rfl rfl rfl rfl ?_
          refine kw_goto rfl rfl ?_
          exact kW_le (L' := [some (kr 1), some (kr b1), some (kr b2), none, some (kI x4)]) ⟨Or.inr rfl, Or.inr rfl, Or.inr rfl, Or.inl rfl, Or.inr rfl, trivial⟩ (b_TownText_read_26 b1 b2 hb1 hb2 x4 1 q10.2 _ hf hq)
def f_TownText_read_8 (b1 : Nat) (b2 : Nat) (x3 : Int) (x4 : Int) (s : kM) : Option (kM) :=
  gL (fun (x : Int × Int × kM) => f_TownText_read_8b b1 b2 x.1 x.2.1 x.2.2) gF (x3, x4, s)
theorem b_TownText_read_8 {sc : List Int} {Q : Option kV → kH → Prop} (b1 : Nat) (b2 : Nat) (hb1 : tT b1 = true) (hb2 : tL b2 = true) (x3 : Int) (x4 : Int) (s : kM) (t : kM) (hf : f_TownText_read_8 b1 b2 x3 x4 s = some t) (hq : (fun r => Q none (hH r)) t) : kW sc 5 kc_TownText_read 0 8 [some (kr 1), some (kr b1), some (kr b2), some (kI x3), some (kI x4)] [] (hH s) Q :=
  gL_ind (P := fun (x : Int × Int × kM) => kW sc 5 kc_TownText_read 0 8 [some (kr 1), some (kr b1), some (kr b2), some (kI x.1), some (kI x.2.1)] [] (hH x.2.2) Q) (q := (fun r => Q none (hH r))) (fun x t hf hq => b_TownText_read_8b b1 b2 hb1 hb2 x.1 x.2.1 x.2.2 t hf hq) gF (x3, x4, s) t hf hq
def f_TownText_read (b1 : Nat) (b2 : Nat) (s : kM) : Option (kM) :=
  (f_Town_clear b1 s).bind fun q1 => (f_Tape_rewind q1).bind fun q3 => f_TownText_read_8 b1 b2 1 0 q3
set_option maxRecDepth 8000 in
theorem c_TownText_read {sc : List Int} (b1 : Nat) (b2 : Nat) (hb1 : tT b1 = true) (hb2 : tL b2 = true) (s : kM) (t : kM) (hf : f_TownText_read b1 b2 s = some t) : kR sc 5 km_TownText_read [kr 1, kr b1, kr b2] (hH s) none (hH t) := by
  unfold f_TownText_read at hf
  refine kR.start rfl ?_
  show kW sc 5 kc_TownText_read 0 0 [some (kr 1), some (kr b1), some (kr b2), none, none] [] (hH s) _
  have hq : (fun (r : Option kV) (g : kH) => r = none ∧ g = hH t) none (hH t) := ⟨rfl, rfl⟩
  refine kw_step rfl rfl rfl rfl ?_
  obtain ⟨q1, hq1, hf⟩ := gbind hf
  refine kw_callV (vs := []) rfl rfl rfl ⟨rfl, Nat.le_of_ble_eq_true rfl, Nat.le_of_ble_eq_true rfl, by decide⟩ (hH_O (tT_0 hb1)) (c_Town_clear b1 hb1 s _ hq1) (Nat.le_of_ble_eq_true rfl) ?_
  refine kw_step rfl rfl rfl rfl ?_
  obtain ⟨q3, hq3, hf⟩ := gbind hf
  refine kw_callV (vs := []) rfl rfl rfl ⟨rfl, Nat.le_of_ble_eq_true rfl, Nat.le_of_ble_eq_true rfl, by decide⟩ (hH_O (rfl : kotab 1 = some kPo)) (c_Tape_rewind q1 _ hq3) (Nat.le_of_ble_eq_true rfl) ?_
  refine kw_step rfl rfl rfl rfl ?_
  refine kw_step (L' := [some (kr 1), some (kr b1), some (kr b2), some (kI 1), none]) rfl rfl rfl rfl ?_
  refine kw_step rfl rfl rfl rfl ?_
  refine kw_step (L' := [some (kr 1), some (kr b1), some (kr b2), some (kI 1), some (kI 0)]) rfl rfl rfl rfl ?_
  exact kW_le (L' := [some (kr 1), some (kr b1), some (kr b2), some (kI 1), some (kI 0)]) ⟨Or.inr rfl, Or.inr rfl, Or.inr rfl, Or.inr rfl, Or.inr rfl, trivial⟩ (b_TownText_read_8 b1 b2 hb1 hb2 1 0 q3 _ hf hq)
def f_Town_copyFrom (b0 : Nat) (b1 : Nat) (s : kM) : Option (kM) :=
  gLet (gU s b0 0 (s b1 0)) fun s1 => gLet (gU s1 b0 1 (s1 b1 1)) fun s4 => gLet (gU s4 b0 2 (s4 b1 2)) fun s7 => gLet (gA s7 (b0 + 1) (kcpy (s7 (b1 + 1)) (s7 (b0 + 1)) 0 0 22)) fun s10 => gLet (gA s10 (b0 + 2) (kcpy (s10 (b1 + 2)) (s10 (b0 + 2)) 0 0 11)) fun s13 => (f_Town_settle b0 s13).bind fun q16 => some q16
set_option maxRecDepth 8000 in
theorem c_Town_copyFrom {sc : List Int} (b0 : Nat) (b1 : Nat) (hb0 : tT b0 = true) (hb1 : tT b1 = true) (s : kM) (t : kM) (hf : f_Town_copyFrom b0 b1 s = some t) : kR sc 2 km_Town_copyFrom [kr b0, kr b1] (hH s) none (hH t) := by
  unfold f_Town_copyFrom at hf
  refine kR.start rfl ?_
  show kW sc 2 kc_Town_copyFrom 0 0 [some (kr b0), some (kr b1)] [] (hH s) _
  have hq : (fun (r : Option kV) (g : kH) => r = none ∧ g = hH t) none (hH t) := ⟨rfl, rfl⟩
  refine kw_step rfl rfl rfl rfl ?_
  refine kw_step rfl rfl rfl rfl ?_
  refine kw_get rfl (hH_O (tT_0 hb1)) rfl ?_
  obtain ⟨s1, ee2, hf⟩ := gbL hf
  refine kw_putH rfl (tT_0 hb0) rfl rfl rfl (Nat.le_of_ble_eq_true rfl) rfl ee2 ?_
  refine kw_step rfl rfl rfl rfl ?_
  refine kw_step rfl rfl rfl rfl ?_
  refine kw_get rfl (hH_O (tT_0 hb1)) rfl ?_
  obtain ⟨s4, ee5, hf⟩ := gbL hf
  refine kw_putH rfl (tT_0 hb0) rfl rfl rfl (Nat.le_of_ble_eq_true rfl) rfl ee5 ?_
  refine kw_step rfl rfl rfl rfl ?_
  refine kw_step rfl rfl rfl rfl ?_
  refine kw_get rfl (hH_O (tT_0 hb1)) rfl ?_
  obtain ⟨s7, ee8, hf⟩ := gbL hf
  refine kw_putH rfl (tT_0 hb0) rfl rfl rfl (Nat.le_of_ble_eq_true rfl) rfl ee8 ?_
  refine kw_step rfl rfl rfl rfl ?_
  refine kw_get rfl (hH_O (tT_0 hb1)) rfl ?_
  refine kw_step rfl rfl rfl rfl ?_
  refine kw_step rfl rfl rfl rfl ?_
  refine kw_get rfl (hH_O (tT_0 hb0)) rfl ?_
  refine kw_step rfl rfl rfl rfl ?_
  refine kw_step rfl rfl rfl rfl ?_
  obtain ⟨s10, ee11, hf⟩ := gbL hf
  refine kw_acpH rfl (tT_1 hb0) (tT_1 hb1) (by decide) ee11 ?_
  refine kw_step rfl rfl rfl rfl ?_
  refine kw_get rfl (hH_O (tT_0 hb1)) rfl ?_
  refine kw_step rfl rfl rfl rfl ?_
  refine kw_step rfl rfl rfl rfl ?_
  refine kw_get rfl (hH_O (tT_0 hb0)) rfl ?_
  refine kw_step rfl rfl rfl rfl ?_
  refine kw_step rfl rfl rfl rfl ?_
  obtain ⟨s13, ee14, hf⟩ := gbL hf
  refine kw_acpH rfl (tT_2 hb0) (tT_2 hb1) (by decide) ee14 ?_
  refine kw_step rfl rfl rfl rfl ?_
  obtain ⟨q16, hq16, hf⟩ := gbind hf
  refine kw_callV (vs := []) rfl rfl rfl ⟨rfl, Nat.le_of_ble_eq_true rfl, Nat.le_of_ble_eq_true rfl, by decide⟩ (hH_O (tT_0 hb0)) (c_Town_settle b0 hb0 s13 _ hq16) (Nat.le_of_ble_eq_true rfl) ?_
  cases hf
  exact kw_ret rfl rfl rfl hq
def f_Search_forget (s : kM) : Option (kM) :=
  gLet (gU s 21 16 0) fun s1 => gLet (gU s1 21 18 0) fun s4 => some s4
set_option maxRecDepth 8000 in
theorem c_Search_forget {sc : List Int} (s : kM) (t : kM) (hf : f_Search_forget s = some t) : kR sc 0 km_Search_forget [kr 21] (hH s) none (hH t) := by
  unfold f_Search_forget at hf
  refine kR.start rfl ?_
  show kW sc 0 kc_Search_forget 0 0 [some (kr 21)] [] (hH s) _
  have hq : (fun (r : Option kV) (g : kH) => r = none ∧ g = hH t) none (hH t) := ⟨rfl, rfl⟩
  refine kw_step rfl rfl rfl rfl ?_
  refine kw_step rfl rfl rfl rfl ?_
  obtain ⟨s1, ee2, hf⟩ := gbL hf
  refine kw_putH rfl (rfl : kotab 21 = some kHo) rfl rfl rfl (Nat.le_of_ble_eq_true rfl) rfl ee2 ?_
  refine kw_step rfl rfl rfl rfl ?_
  refine kw_step rfl rfl rfl rfl ?_
  obtain ⟨s4, ee5, hf⟩ := gbL hf
  refine kw_putH rfl (rfl : kotab 21 = some kHo) rfl rfl rfl (Nat.le_of_ble_eq_true rfl) rfl ee5 ?_
  cases hf
  exact kw_ret rfl rfl rfl hq
def f_KT_forget (s : kM) : Option (kM) :=
  (f_Search_forget s).bind fun q1 => gLet (gU q1 44 0 0) fun s3 => some s3
set_option maxRecDepth 8000 in
theorem c_KT_forget {sc : List Int} (s : kM) (t : kM) (hf : f_KT_forget s = some t) : kR sc 1 km_KT_forget [kr 0] (hH s) none (hH t) := by
  unfold f_KT_forget at hf
  refine kR.start rfl ?_
  show kW sc 1 kc_KT_forget 0 0 [some (kr 0)] [] (hH s) _
  have hq : (fun (r : Option kV) (g : kH) => r = none ∧ g = hH t) none (hH t) := ⟨rfl, rfl⟩
  refine kw_step rfl rfl rfl rfl ?_
  refine kw_get rfl (hH_O (rfl : kotab 0 = some kKo)) rfl ?_
  obtain ⟨q1, hq1, hf⟩ := gbind hf
  refine kw_callV (vs := []) rfl rfl rfl ⟨rfl, Nat.le_of_ble_eq_true rfl, Nat.le_of_ble_eq_true rfl, by decide⟩ (hH_O (rfl : kotab 21 = some kHo)) (c_Search_forget s _ hq1) (Nat.le_of_ble_eq_true rfl) ?_
  refine kw_step rfl rfl rfl rfl ?_
  refine kw_get rfl (hH_O (rfl : kotab 0 = some kKo)) rfl ?_
  refine kw_step rfl rfl rfl rfl ?_
  obtain ⟨s3, ee4, hf⟩ := gbL hf
  refine kw_putH rfl (rfl : kotab 44 = some kBo) rfl rfl rfl (Nat.le_of_ble_eq_true rfl) rfl ee4 ?_
  cases hf
  exact kw_ret rfl rfl rfl hq
def f_KT_town (s : kM) : Option (Int × kM) :=
  (f_TownText_read 11 17 s).bind fun q1 => gLet (gU q1 1 1 0) fun s3 => if (s3 1 3) = 0 then ((f_Town_copyFrom 4 11 s3).bind fun q7 => gLet (gU q7 3 1 0) fun s9 => (f_KT_forget s9).bind fun q12 => (f_Town_bridges 4 q12).bind fun q14 => some (q14, q12)) else (some ((wI ((-2) - (s3 1 3))), s3))
set_option maxRecDepth 8000 in
theorem c_KT_town {sc : List Int} (s : kM) (t : Int × kM) (hf : f_KT_town s = some t) : kR sc 6 km_KT_town [kr 0] (hH s) (some (kI t.1)) (hH t.2) := by
  unfold f_KT_town at hf
  refine kR.start rfl ?_
  show kW sc 6 kc_KT_town 1 0 [some (kr 0)] [] (hH s) _
  have hq : (fun (r : Option kV) (g : kH) => r = some (kI t.1) ∧ g = hH t.2) (some (kI t.1)) (hH t.2) := ⟨rfl, rfl⟩
  refine kw_step rfl rfl rfl rfl ?_
  refine kw_get rfl (hH_O (rfl : kotab 0 = some kKo)) rfl ?_
  refine kw_step rfl rfl rfl rfl ?_
  refine kw_get rfl (hH_O (rfl : kotab 0 = some kKo)) rfl ?_
  refine kw_step rfl rfl rfl rfl ?_
  refine kw_get rfl (hH_O (rfl : kotab 0 = some kKo)) rfl ?_
  obtain ⟨q1, hq1, hf⟩ := gbind hf
  refine kw_callS (vs := [kr 1, kr 11, kr 17]) rfl rfl rfl ⟨rfl, Nat.le_of_ble_eq_true rfl, Nat.le_of_ble_eq_true rfl, rfl⟩ (c_TownText_read 11 17 (rfl : tT 11 = true) (rfl : tL 17 = true) s _ hq1) (Nat.le_of_ble_eq_true rfl) ?_
  refine kw_step rfl rfl rfl rfl ?_
  refine kw_get rfl (hH_O (rfl : kotab 0 = some kKo)) rfl ?_
  refine kw_step rfl rfl rfl rfl ?_
  obtain ⟨s3, ee4, hf⟩ := gbL hf
  refine kw_putH rfl (rfl : kotab 1 = some kPo) rfl rfl rfl (Nat.le_of_ble_eq_true rfl) rfl ee4 ?_
  refine kw_step rfl rfl rfl rfl ?_
  refine kw_get rfl (hH_O (rfl : kotab 0 = some kKo)) rfl ?_
  refine kw_get rfl (hH_O (rfl : kotab 1 = some kPo)) rfl ?_
  refine kw_if_eq rfl rfl (fun c6 => ?_) (fun c6 => ?_)
  · have hf := gift c6 hf
    refine kw_step rfl rfl rfl rfl ?_
    refine kw_get rfl (hH_O (rfl : kotab 0 = some kKo)) rfl ?_
    refine kw_get rfl (hH_O (tS_0 (b := 3) rfl)) rfl ?_
    refine kw_step rfl rfl rfl rfl ?_
    refine kw_get rfl (hH_O (rfl : kotab 0 = some kKo)) rfl ?_
    obtain ⟨q7, hq7, hf⟩ := gbind hf
    refine kw_callV (vs := [kr 11]) rfl rfl rfl ⟨rfl, Nat.le_of_ble_eq_true rfl, Nat.le_of_ble_eq_true rfl, by decide⟩ (hH_O (tT_0 (b := 4) rfl)) (c_Town_copyFrom 4 11 (rfl : tT 4 = true) (rfl : tT 11 = true) s3 _ hq7) (Nat.le_of_ble_eq_true rfl) ?_
    refine kw_step rfl rfl rfl rfl ?_
    refine kw_get rfl (hH_O (rfl : kotab 0 = some kKo)) rfl ?_
    refine kw_step rfl rfl rfl rfl ?_
    obtain ⟨s9, ee10, hf⟩ := gbL hf
    refine kw_putH rfl (tS_0 (b := 3) rfl) rfl rfl rfl (Nat.le_of_ble_eq_true rfl) rfl ee10 ?_
    refine kw_step rfl rfl rfl rfl ?_
    obtain ⟨q12, hq12, hf⟩ := gbind hf
    refine kw_callV (vs := []) rfl rfl rfl ⟨rfl, Nat.le_of_ble_eq_true rfl, Nat.le_of_ble_eq_true rfl, by decide⟩ (hH_O (rfl : kotab 0 = some kKo)) (c_KT_forget s9 _ hq12) (Nat.le_of_ble_eq_true rfl) ?_
    refine kw_step rfl rfl rfl rfl ?_
    refine kw_get rfl (hH_O (rfl : kotab 0 = some kKo)) rfl ?_
    refine kw_get rfl (hH_O (tS_0 (b := 3) rfl)) rfl ?_
    obtain ⟨q14, hq14, hf⟩ := gbind hf
    refine kw_callV (vs := []) rfl rfl rfl ⟨rfl, Nat.le_of_ble_eq_true rfl, Nat.le_of_ble_eq_true rfl, by decide⟩ (hH_O (tT_0 (b := 4) rfl)) (c_Town_bridges 4 (rfl : tT 4 = true) q12 _ hq14) (Nat.le_of_ble_eq_true rfl) ?_
    cases hf
    exact kw_ret rfl rfl rfl hq
  · have hf := giff c6 hf
    refine kw_step rfl rfl rfl rfl ?_
    refine kw_step rfl rfl rfl rfl ?_
    refine kw_get rfl (hH_O (rfl : kotab 0 = some kKo)) rfl ?_
    refine kw_get rfl (hH_O (rfl : kotab 1 = some kPo)) rfl ?_
    refine kw_step rfl rfl rfl rfl ?_
    cases hf
    exact kw_ret rfl rfl rfl hq
def f_RuleText_emit (x1 : Int) (s : kM) : Option (kM) :=
  if 400 ≤ (s 54 1) then (some s) else ((gI 400 (s 54 1)).bind fun j2 => gLet (gU s 55 j2 x1) fun s4 => gLet (gU s4 54 1 (wI ((s4 54 1) + 1))) fun s7 => some s7)
set_option maxRecDepth 8000 in
theorem c_RuleText_emit {sc : List Int} (x1 : Int) (s : kM) (t : kM) (hf : f_RuleText_emit x1 s = some t) : kR sc 0 km_RuleText_emit [kr 54, kI x1] (hH s) none (hH t) := by
  unfold f_RuleText_emit at hf
  refine kR.start rfl ?_
  show kW sc 0 kc_RuleText_emit 0 0 [some (kr 54), some (kI x1)] [] (hH s) _
  have hq : (fun (r : Option kV) (g : kH) => r = none ∧ g = hH t) none (hH t) := ⟨rfl, rfl⟩
  refine kw_step rfl rfl rfl rfl ?_
  refine kw_get rfl (hH_O (rfl : kotab 54 = some kXo)) rfl ?_
  refine kw_step rfl rfl rfl rfl ?_
  refine kw_get rfl (hH_O (rfl : kotab 54 = some kXo)) rfl ?_
  refine kw_alen rfl (hH_A (rfl : ktab 55 = some (0, 400))) (by decide) ?_
  show kW _ _ _ _ _ _ [kI 400, kI (s 54 1)] _ _
  refine kw_icmp_ge rfl rfl (fun c1 => ?_) (fun c1 => ?_)
  · have hf := gift c1 hf
    cases hf
    exact kw_ret rfl rfl rfl hq
  · have hf := giff c1 hf
    refine kw_step rfl rfl rfl rfl ?_
    refine kw_get rfl (hH_O (rfl : kotab 54 = some kXo)) rfl ?_
    refine kw_step rfl rfl rfl rfl ?_
    refine kw_get rfl (hH_O (rfl : kotab 54 = some kXo)) rfl ?_
    refine kw_step rfl rfl rfl rfl ?_
    obtain ⟨j2, i3, hf⟩ := gbI hf
    obtain ⟨s4, ee5, hf⟩ := gbL hf
    refine kw_iastH rfl (rfl : ktab 55 = some (0, 400)) i3.1 i3.2.1 i3.2.2 ee5 ?_
    refine kw_step rfl rfl rfl rfl ?_
    refine kw_step rfl rfl rfl rfl ?_
    refine kw_get rfl (hH_O (rfl : kotab 54 = some kXo)) rfl ?_
    refine kw_step rfl rfl rfl rfl ?_
    refine kw_step rfl rfl rfl rfl ?_
    obtain ⟨s7, ee8, hf⟩ := gbL hf
    refine kw_putH rfl (rfl : kotab 54 = some kXo) rfl rfl rfl (Nat.le_of_ble_eq_true rfl) rfl ee8 ?_
    cases hf
    exact kw_ret rfl rfl rfl hq
def f_RuleText_wordNamed (x0 : Int) (s : kM) : Option (Nat) :=
  if x0 = 0 then (some 5) else if x0 = 1 then (some 6) else if x0 = 2 then (some 7) else if x0 = 3 then (some 8) else if x0 = 4 then (some 9) else if x0 = 5 then (some 10) else if x0 = 6 then (some 11) else (some 12)
set_option maxRecDepth 8000 in
theorem c_RuleText_wordNamed {sc : List Int} (x0 : Int) (s : kM) (t : Nat) (hf : f_RuleText_wordNamed x0 s = some t) : kR sc 0 km_RuleText_wordNamed [kI x0] (hH s) (some (kS t)) (hH s) := by
  unfold f_RuleText_wordNamed at hf
  refine kR.start rfl ?_
  show kW sc 0 kc_RuleText_wordNamed 4 0 [some (kI x0)] [] (hH s) _
  have hq : (fun (r : Option kV) (g : kH) => r = some (kS t) ∧ g = hH s) (some (kS t)) (hH s) := ⟨rfl, rfl⟩
  refine kw_step rfl rfl rfl rfl ?_
  by_cases c1 : x0 = 0
  · have hf := gift c1 hf
    refine kw_tsw_at rfl c1 rfl rfl rfl ?_
    refine kw_step rfl rfl rfl rfl ?_
    cases hf
    exact kw_ret rfl rfl rfl hq
  have hf := giff c1 hf
  by_cases c2 : x0 = 1
  · have hf := gift c2 hf
    refine kw_tsw_at rfl c2 rfl rfl rfl ?_
    refine kw_step rfl rfl rfl rfl ?_
    cases hf
    exact kw_ret rfl rfl rfl hq
  have hf := giff c2 hf
  by_cases c3 : x0 = 2
  · have hf := gift c3 hf
    refine kw_tsw_at rfl c3 rfl rfl rfl ?_
    refine kw_step rfl rfl rfl rfl ?_
    cases hf
    exact kw_ret rfl rfl rfl hq
  have hf := giff c3 hf
  by_cases c4 : x0 = 3
  · have hf := gift c4 hf
    refine kw_tsw_at rfl c4 rfl rfl rfl ?_
    refine kw_step rfl rfl rfl rfl ?_
    cases hf
    exact kw_ret rfl rfl rfl hq
  have hf := giff c4 hf
  by_cases c5 : x0 = 4
  · have hf := gift c5 hf
    refine kw_tsw_at rfl c5 rfl rfl rfl ?_
    refine kw_step rfl rfl rfl rfl ?_
    cases hf
    exact kw_ret rfl rfl rfl hq
  have hf := giff c5 hf
  by_cases c6 : x0 = 5
  · have hf := gift c6 hf
    refine kw_tsw_at rfl c6 rfl rfl rfl ?_
    refine kw_step rfl rfl rfl rfl ?_
    cases hf
    exact kw_ret rfl rfl rfl hq
  have hf := giff c6 hf
  by_cases c7 : x0 = 6
  · have hf := gift c7 hf
    refine kw_tsw_at rfl c7 rfl rfl rfl ?_
    refine kw_step rfl rfl rfl rfl ?_
    cases hf
    exact kw_ret rfl rfl rfl hq
  have hf := giff c7 hf
  refine kw_tsw_out rfl (by omega) rfl ?_
  refine kw_step rfl rfl rfl rfl ?_
  cases hf
  exact kw_ret rfl rfl rfl hq
def f_RuleText_seenWord_2b (x1 : Int) (s : kM) : Option ((Int × kM) ⊕ (Int × kM)) :=
  if 8 ≤ x1 then (some (.inr ((-1), s))) else ((f_RuleText_wordNamed x1 s).bind fun q2 => (f_Tape_seesWord q2 s).bind fun q3 => if q3.1 = 0 then (some (.inl ((wI (x1 + 1)), q3.2))) else (some (.inr (x1, q3.2))))
set_option maxRecDepth 8000 in
theorem b_RuleText_seenWord_2b {sc : List Int} {Q : Option kV → kH → Prop} (x1 : Int) (s : kM) (t : (Int × kM) ⊕ (Int × kM)) (hf : f_RuleText_seenWord_2b x1 s = some t) (hq : (gE (fun x => kW sc 2 kc_RuleText_seenWord 1 2 [some (kr 1), some (kI x.1)] [] (hH x.2) Q) (fun r => Q (some (kI r.1)) (hH r.2))) t) : kW sc 2 kc_RuleText_seenWord 1 2 [some (kr 1), some (kI x1)] [] (hH s) Q := by
  unfold f_RuleText_seenWord_2b at hf
  refine kw_step rfl rfl rfl rfl ?_
  refine kw_step rfl rfl rfl rfl ?_
  refine kw_icmp_ge rfl rfl (fun c1 => ?_) (fun c1 => ?_)
  · have hf := gift c1 hf
    refine kw_step rfl rfl rfl rfl ?_
    cases hf
    exact kw_ret rfl rfl rfl hq
  · have hf := giff c1 hf
    refine kw_step rfl rfl rfl rfl ?_
    refine kw_step rfl rfl rfl rfl ?_
    obtain ⟨q2, hq2, hf⟩ := gbind hf
    refine kw_callS (vs := [kI x1]) rfl rfl rfl ⟨rfl, Nat.le_of_ble_eq_true rfl, Nat.le_of_ble_eq_true rfl, rfl⟩ (c_RuleText_wordNamed x1 s _ hq2) (Nat.le_of_ble_eq_true rfl) ?_
    obtain ⟨q3, hq3, hf⟩ := gbind hf
    refine kw_callV (vs := [kS q2]) rfl rfl rfl ⟨rfl, Nat.le_of_ble_eq_true rfl, Nat.le_of_ble_eq_true rfl, by decide⟩ (hH_O (rfl : kotab 1 = some kPo)) (c_Tape_seesWord q2 s _ hq3) (Nat.le_of_ble_eq_true rfl) ?_
    refine kw_if_eq rfl rfl (fun c5 => ?_) (fun c5 => ?_)
    · have hf := gift c5 hf
      refine kw_step (L' := [some (kr 1), some (kI (wI (x1 + 1)))]) rfl rfl rfl rfl ?_
      refine kw_goto rfl rfl ?_
      cases hf
      exact kW_le (L' := [some (kr 1), some (kI (wI (x1 + 1)))]) ⟨Or.inr rfl, Or.inr rfl, trivial⟩ hq
    · have hf := giff c5 hf
      refine kw_step rfl rfl rfl rfl ?_
      cases hf
      exact kw_ret rfl rfl rfl hq
def f_RuleText_seenWord_2 (x1 : Int) (s : kM) : Option (Int × kM) :=
  gL (fun (x : Int × kM) => f_RuleText_seenWord_2b x.1 x.2) gF (x1, s)
theorem b_RuleText_seenWord_2 {sc : List Int} {Q : Option kV → kH → Prop} (x1 : Int) (s : kM) (t : Int × kM) (hf : f_RuleText_seenWord_2 x1 s = some t) (hq : (fun r => Q (some (kI r.1)) (hH r.2)) t) : kW sc 2 kc_RuleText_seenWord 1 2 [some (kr 1), some (kI x1)] [] (hH s) Q :=
  gL_ind (P := fun (x : Int × kM) => kW sc 2 kc_RuleText_seenWord 1 2 [some (kr 1), some (kI x.1)] [] (hH x.2) Q) (q := (fun r => Q (some (kI r.1)) (hH r.2))) (fun x t hf hq => b_RuleText_seenWord_2b x.1 x.2 t hf hq) gF (x1, s) t hf hq
def f_RuleText_seenWord (s : kM) : Option (Int × kM) :=
  f_RuleText_seenWord_2 0 s
set_option maxRecDepth 8000 in
theorem c_RuleText_seenWord {sc : List Int} (s : kM) (t : Int × kM) (hf : f_RuleText_seenWord s = some t) : kR sc 2 km_RuleText_seenWord [kr 1] (hH s) (some (kI t.1)) (hH t.2) := by
  unfold f_RuleText_seenWord at hf
  refine kR.start rfl ?_
  show kW sc 2 kc_RuleText_seenWord 1 0 [some (kr 1), none] [] (hH s) _
  have hq : (fun (r : Option kV) (g : kH) => r = some (kI t.1) ∧ g = hH t.2) (some (kI t.1)) (hH t.2) := ⟨rfl, rfl⟩
  refine kw_step rfl rfl rfl rfl ?_
  refine kw_step (L' := [some (kr 1), some (kI 0)]) rfl rfl rfl rfl ?_
  exact kW_le (L' := [some (kr 1), some (kI 0)]) ⟨Or.inr rfl, Or.inr rfl, trivial⟩ (b_RuleText_seenWord_2 0 s _ hf hq)
