/-! PRINTED by wip/whole/decall.py: methods as functions over the flat world, with their contracts -/
def f_Land_lookRound_88 (b0 : Nat) (b1 : Nat) (x2 : Int) (s : kM) : Option (kM) :=
  (f_Land_offKey x2 s).bind fun q1 => (f_Land_list b0 q1 0 s).bind fun q2 => some q2
set_option maxRecDepth 8000 in
theorem b_Land_lookRound_88 {sc : List Int} {Q : Option kV → kH → Prop} (b0 : Nat) (b1 : Nat) (hb0 : tL b0 = true) (hb1 : tT b1 = true) (x2 : Int) (s : kM) (t : kM) (hf : f_Land_lookRound_88 b0 b1 x2 s = some t) (hq : (fun r => Q none (hH r)) t) : kW sc 2 kc_Land_lookRound 0 88 [some (kr b0), none, some (kI x2), none, none, none, none, none, none, none] [] (hH s) Q := by
  unfold f_Land_lookRound_88 at hf
  refine kw_step rfl rfl rfl rfl ?_
  refine kw_step rfl rfl rfl rfl ?_
  obtain ⟨q1, hq1, hf⟩ := gbind hf
  refine kw_callS (vs := [kI x2]) rfl rfl rfl ⟨rfl, Nat.le_of_ble_eq_true rfl, Nat.le_of_ble_eq_true rfl, rfl⟩ (c_Land_offKey x2 s _ hq1) (Nat.le_of_ble_eq_true rfl) ?_
  refine kw_step rfl rfl rfl rfl ?_
  obtain ⟨q2, hq2, hf⟩ := gbind hf
  refine kw_callV (vs := [kI q1, kI 0]) rfl rfl rfl ⟨rfl, Nat.le_of_ble_eq_true rfl, Nat.le_of_ble_eq_true rfl, by decide⟩ (hH_O (tL_0 hb0)) (c_Land_list b0 hb0 q1 0 s _ hq2) (Nat.le_of_ble_eq_true rfl) ?_
  cases hf
  exact kw_ret rfl rfl rfl hq
def f_Land_lookRound_51 (b0 : Nat) (b1 : Nat) (x2 : Int) (x3 : Int) (x4 : Int) (x5 : Int) (x8 : Int) (y0 : Int) (s : kM) : Option (kM) :=
  (gI 44 (wI (2 * x3))).bind fun j1 => gLet (gU s (b0 + 3) j1 x8) fun s3 => (gI 44 x8).bind fun j6 => gLet (gU s3 (b0 + 3) j6 x5) fun s8 => (gI 44 x5).bind fun j11 => gLet (gU s8 (b0 + 3) j11 y0) fun s13 => (gI 44 y0).bind fun j16 => gLet (gU s13 (b0 + 3) j16 (wI (2 * x3))) fun s18 => (gI 22 x3).bind fun j21 => if (s18 (b1 + 3) j21) = x4 then (f_Land_lookRound_88 b0 b1 x2 s18) else ((gI 22 x4).bind fun j24 => if (s18 (b1 + 3) j24) = x3 then (f_Land_lookRound_88 b0 b1 x2 s18) else (some s18))
set_option maxRecDepth 8000 in
theorem b_Land_lookRound_51 {sc : List Int} {Q : Option kV → kH → Prop} (b0 : Nat) (b1 : Nat) (hb0 : tL b0 = true) (hb1 : tT b1 = true) (x2 : Int) (x3 : Int) (x4 : Int) (x5 : Int) (x8 : Int) (y0 : Int) (s : kM) (t : kM) (hf : f_Land_lookRound_51 b0 b1 x2 x3 x4 x5 x8 y0 s = some t) (hq : (fun r => Q none (hH r)) t) : kW sc 2 kc_Land_lookRound 0 51 [some (kr b0), some (kr b1), some (kI x2), some (kI x3), some (kI x4), some (kI x5), none, none, some (kI x8), none] [kI y0] (hH s) Q := by
  unfold f_Land_lookRound_51 at hf
  refine kw_step (L' := [some (kr b0), some (kr b1), some (kI x2), some (kI x3), some (kI x4), some (kI x5), none, none, some (kI x8), some (kI y0)]) rfl rfl rfl rfl ?_
  refine kw_step rfl rfl rfl rfl ?_
  refine kw_get rfl (hH_O (tL_0 hb0)) rfl ?_
  refine kw_step rfl rfl rfl rfl ?_
  refine kw_step rfl rfl rfl rfl ?_
  refine kw_step rfl rfl rfl rfl ?_
  refine kw_step rfl rfl rfl rfl ?_
  obtain ⟨j1, i2, hf⟩ := gbI hf
  obtain ⟨s3, ee4, hf⟩ := gbL hf
  refine kw_iastH rfl (tL_3 hb0) i2.1 i2.2.1 i2.2.2 ee4 ?_
  refine kw_step rfl rfl rfl rfl ?_
  refine kw_get rfl (hH_O (tL_0 hb0)) rfl ?_
  refine kw_step rfl rfl rfl rfl ?_
  refine kw_step rfl rfl rfl rfl ?_
  obtain ⟨j6, i7, hf⟩ := gbI hf
  obtain ⟨s8, ee9, hf⟩ := gbL hf
  refine kw_iastH rfl (tL_3 hb0) i7.1 i7.2.1 i7.2.2 ee9 ?_
  refine kw_step rfl rfl rfl rfl ?_
  refine kw_get rfl (hH_O (tL_0 hb0)) rfl ?_
  refine kw_step rfl rfl rfl rfl ?_
  refine kw_step rfl rfl rfl rfl ?_
  obtain ⟨j11, i12, hf⟩ := gbI hf
  obtain ⟨s13, ee14, hf⟩ := gbL hf
  refine kw_iastH rfl (tL_3 hb0) i12.1 i12.2.1 i12.2.2 ee14 ?_
  refine kw_step rfl rfl rfl rfl ?_
  refine kw_get rfl (hH_O (tL_0 hb0)) rfl ?_
  refine kw_step rfl rfl rfl rfl ?_
  refine kw_step rfl rfl rfl rfl ?_
  refine kw_step rfl rfl rfl rfl ?_
  refine kw_step rfl rfl rfl rfl ?_
  obtain ⟨j16, i17, hf⟩ := gbI hf
  obtain ⟨s18, ee19, hf⟩ := gbL hf
  refine kw_iastH rfl (tL_3 hb0) i17.1 i17.2.1 i17.2.2 ee19 ?_
  refine kw_step rfl rfl rfl rfl ?_
  refine kw_get rfl (hH_O (tT_0 hb1)) rfl ?_
  refine kw_step rfl rfl rfl rfl ?_
  obtain ⟨j21, i22, hf⟩ := gbI hf
  refine kw_iald rfl (hH_A (tT_3 hb1)) i22.1 i22.2.1 i22.2.2 ?_
  refine kw_step rfl rfl rfl rfl ?_
  refine kw_icmp_eq rfl rfl (fun c23 => ?_) (fun c23 => ?_)
  · have hf := gift c23 hf
    exact kW_le (L' := [some (kr b0), none, some (kI x2), none, none, none, none, none, none, none]) ⟨Or.inr rfl, Or.inl rfl, Or.inr rfl, Or.inl rfl, Or.inl rfl, Or.inl rfl, Or.inl rfl, Or.inl rfl, Or.inl rfl, Or.inl rfl, trivial⟩ (b_Land_lookRound_88 b0 b1 hb0 hb1 x2 s18 _ hf hq)
  · have hf := giff c23 hf
    refine kw_step rfl rfl rfl rfl ?_
    refine kw_get rfl (hH_O (tT_0 hb1)) rfl ?_
    refine kw_step rfl rfl rfl rfl ?_
    obtain ⟨j24, i25, hf⟩ := gbI hf
    refine kw_iald rfl (hH_A (tT_3 hb1)) i25.1 i25.2.1 i25.2.2 ?_
    refine kw_step rfl rfl rfl rfl ?_
    refine kw_icmp_ne rfl rfl (fun c26 => ?_) (fun c26 => ?_)
    · have hf := giff c26 hf
      cases hf
      exact kw_ret rfl rfl rfl hq
    · have hf := gift c26 hf
      exact kW_le (L' := [some (kr b0), none, some (kI x2), none, none, none, none, none, none, none]) ⟨Or.inr rfl, Or.inl rfl, Or.inr rfl, Or.inl rfl, Or.inl rfl, Or.inl rfl, Or.inl rfl, Or.inl rfl, Or.inl rfl, Or.inl rfl, trivial⟩ (b_Land_lookRound_88 b0 b1 hb0 hb1 x2 s18 _ hf hq)
def f_Land_lookRound_43 (b0 : Nat) (b1 : Nat) (x2 : Int) (x3 : Int) (x4 : Int) (x5 : Int) (x6 : Int) (x7 : Int) (y0 : Int) (s : kM) : Option (kM) :=
  if x7 = 0 then (f_Land_lookRound_51 b0 b1 x2 x3 x4 x5 y0 (wI (2 * x4)) s) else (f_Land_lookRound_51 b0 b1 x2 x3 x4 x5 y0 x6 s)
set_option maxRecDepth 8000 in
theorem b_Land_lookRound_43 {sc : List Int} {Q : Option kV → kH → Prop} (b0 : Nat) (b1 : Nat) (hb0 : tL b0 = true) (hb1 : tT b1 = true) (x2 : Int) (x3 : Int) (x4 : Int) (x5 : Int) (x6 : Int) (x7 : Int) (y0 : Int) (s : kM) (t : kM) (hf : f_Land_lookRound_43 b0 b1 x2 x3 x4 x5 x6 x7 y0 s = some t) (hq : (fun r => Q none (hH r)) t) : kW sc 2 kc_Land_lookRound 0 43 [some (kr b0), some (kr b1), some (kI x2), some (kI x3), some (kI x4), some (kI x5), some (kI x6), some (kI x7), none, none] [kI y0] (hH s) Q := by
  unfold f_Land_lookRound_43 at hf
  refine kw_step (L' := [some (kr b0), some (kr b1), some (kI x2), some (kI x3), some (kI x4), some (kI x5), some (kI x6), some (kI x7), some (kI y0), none]) rfl rfl rfl rfl ?_
  refine kw_step rfl rfl rfl rfl ?_
  refine kw_if_eq rfl rfl (fun c1 => ?_) (fun c1 => ?_)
  · have hf := gift c1 hf
    refine kw_step rfl rfl rfl rfl ?_
    refine kw_step rfl rfl rfl rfl ?_
    refine kw_step rfl rfl rfl rfl ?_
    exact kW_le (L' := [some (kr b0), some (kr b1), some (kI x2), some (kI x3), some (kI x4), some (kI x5), none, none, some (kI y0), none]) ⟨Or.inr rfl, Or.inr rfl, Or.inr rfl, Or.inr rfl, Or.inr rfl, Or.inr rfl, Or.inl rfl, Or.inl rfl, Or.inr rfl, Or.inl rfl, trivial⟩ (b_Land_lookRound_51 b0 b1 hb0 hb1 x2 x3 x4 x5 y0 (wI (2 * x4)) s _ hf hq)
  · have hf := giff c1 hf
    refine kw_step rfl rfl rfl rfl ?_
    refine kw_goto rfl rfl ?_
    exact kW_le (L' := [some (kr b0), some (kr b1), some (kI x2), some (kI x3), some (kI x4), some (kI x5), none, none, some (kI y0), none]) ⟨Or.inr rfl, Or.inr rfl, Or.inr rfl, Or.inr rfl, Or.inr rfl, Or.inr rfl, Or.inl rfl, Or.inl rfl, Or.inr rfl, Or.inl rfl, trivial⟩ (b_Land_lookRound_51 b0 b1 hb0 hb1 x2 x3 x4 x5 y0 x6 s _ hf hq)
def f_Land_lookRound_35 (b0 : Nat) (b1 : Nat) (x2 : Int) (x3 : Int) (x4 : Int) (x5 : Int) (x6 : Int) (y0 : Int) (s : kM) : Option (kM) :=
  if y0 = 0 then (f_Land_lookRound_43 b0 b1 x2 x3 x4 x5 x6 y0 x6 s) else (f_Land_lookRound_43 b0 b1 x2 x3 x4 x5 x6 y0 (wI (2 * x4)) s)
set_option maxRecDepth 8000 in
theorem b_Land_lookRound_35 {sc : List Int} {Q : Option kV → kH → Prop} (b0 : Nat) (b1 : Nat) (hb0 : tL b0 = true) (hb1 : tT b1 = true) (x2 : Int) (x3 : Int) (x4 : Int) (x5 : Int) (x6 : Int) (y0 : Int) (s : kM) (t : kM) (hf : f_Land_lookRound_35 b0 b1 x2 x3 x4 x5 x6 y0 s = some t) (hq : (fun r => Q none (hH r)) t) : kW sc 2 kc_Land_lookRound 0 35 [some (kr b0), some (kr b1), some (kI x2), some (kI x3), some (kI x4), some (kI x5), some (kI x6), none, none, none] [kI y0] (hH s) Q := by
  unfold f_Land_lookRound_35 at hf
  refine kw_step (L' := [some (kr b0), some (kr b1), some (kI x2), some (kI x3), some (kI x4), some (kI x5), some (kI x6), some (kI y0), none, none]) rfl rfl rfl rfl ?_
  refine kw_step rfl rfl rfl rfl ?_
  refine kw_if_eq rfl rfl (fun c1 => ?_) (fun c1 => ?_)
  · have hf := gift c1 hf
    refine kw_step rfl rfl rfl rfl ?_
    exact kW_le (L' := [some (kr b0), some (kr b1), some (kI x2), some (kI x3), some (kI x4), some (kI x5), some (kI x6), some (kI y0), none, none]) ⟨Or.inr rfl, Or.inr rfl, Or.inr rfl, Or.inr rfl, Or.inr rfl, Or.inr rfl, Or.inr rfl, Or.inr rfl, Or.inl rfl, Or.inl rfl, trivial⟩ (b_Land_lookRound_43 b0 b1 hb0 hb1 x2 x3 x4 x5 x6 y0 x6 s _ hf hq)
  · have hf := giff c1 hf
    refine kw_step rfl rfl rfl rfl ?_
    refine kw_step rfl rfl rfl rfl ?_
    refine kw_step rfl rfl rfl rfl ?_
    refine kw_goto rfl rfl ?_
    exact kW_le (L' := [some (kr b0), some (kr b1), some (kI x2), some (kI x3), some (kI x4), some (kI x5), some (kI x6), some (kI y0), none, none]) ⟨Or.inr rfl, Or.inr rfl, Or.inr rfl, Or.inr rfl, Or.inr rfl, Or.inr rfl, Or.inr rfl, Or.inr rfl, Or.inl rfl, Or.inl rfl, trivial⟩ (b_Land_lookRound_43 b0 b1 hb0 hb1 x2 x3 x4 x5 x6 y0 (wI (2 * x4)) s _ hf hq)
def f_Land_lookRound (b0 : Nat) (b1 : Nat) (x2 : Int) (s : kM) : Option (kM) :=
  (f_Town_overAt b1 x2 s).bind fun q1 => (f_Town_underAt b1 x2 s).bind fun q2 => (gI 22 q1).bind fun j3 => (gI 22 q2).bind fun j5 => (gI 11 x2).bind fun j7 => if (s (b1 + 2) j7) = 1 then (f_Land_lookRound_35 b0 b1 x2 q1 q2 (wI ((wI (2 * (s (b1 + 4) j3))) + 1)) (wI ((wI (2 * (s (b1 + 4) j5))) + 1)) 1 s) else (f_Land_lookRound_35 b0 b1 x2 q1 q2 (wI ((wI (2 * (s (b1 + 4) j3))) + 1)) (wI ((wI (2 * (s (b1 + 4) j5))) + 1)) 0 s)
set_option maxRecDepth 8000 in
theorem c_Land_lookRound {sc : List Int} (b0 : Nat) (b1 : Nat) (hb0 : tL b0 = true) (hb1 : tT b1 = true) (x2 : Int) (s : kM) (t : kM) (hf : f_Land_lookRound b0 b1 x2 s = some t) : kR sc 2 km_Land_lookRound [kr b0, kr b1, kI x2] (hH s) none (hH t) := by
  unfold f_Land_lookRound at hf
  refine kR.start rfl ?_
  show kW sc 2 kc_Land_lookRound 0 0 [some (kr b0), some (kr b1), some (kI x2), none, none, none, none, none, none, none] [] (hH s) _
  have hq : (fun (r : Option kV) (g : kH) => r = none ∧ g = hH t) none (hH t) := ⟨rfl, rfl⟩
  refine kw_step rfl rfl rfl rfl ?_
  refine kw_step rfl rfl rfl rfl ?_
  obtain ⟨q1, hq1, hf⟩ := gbind hf
  refine kw_callV (vs := [kI x2]) rfl rfl rfl ⟨rfl, Nat.le_of_ble_eq_true rfl, Nat.le_of_ble_eq_true rfl, by decide⟩ (hH_O (tT_0 hb1)) (c_Town_overAt b1 hb1 x2 s _ hq1) (Nat.le_of_ble_eq_true rfl) ?_
  refine kw_step (L' := [some (kr b0), some (kr b1), some (kI x2), some (kI q1), none, none, none, none, none, none]) rfl rfl rfl rfl ?_
  refine kw_step rfl rfl rfl rfl ?_
  refine kw_step rfl rfl rfl rfl ?_
  obtain ⟨q2, hq2, hf⟩ := gbind hf
  refine kw_callV (vs := [kI x2]) rfl rfl rfl ⟨rfl, Nat.le_of_ble_eq_true rfl, Nat.le_of_ble_eq_true rfl, by decide⟩ (hH_O (tT_0 hb1)) (c_Town_underAt b1 hb1 x2 s _ hq2) (Nat.le_of_ble_eq_true rfl) ?_
  refine kw_step (L' := [some (kr b0), some (kr b1), some (kI x2), some (kI q1), some (kI q2), none, none, none, none, none]) rfl rfl rfl rfl ?_
  refine kw_step rfl rfl rfl rfl ?_
  refine kw_step rfl rfl rfl rfl ?_
  refine kw_get rfl (hH_O (tT_0 hb1)) rfl ?_
  refine kw_step rfl rfl rfl rfl ?_
  obtain ⟨j3, i4, hf⟩ := gbI hf
  refine kw_iald rfl (hH_A (tT_4 hb1)) i4.1 i4.2.1 i4.2.2 ?_
  refine kw_step rfl rfl rfl rfl ?_
  refine kw_step rfl rfl rfl rfl ?_
  refine kw_step rfl rfl rfl rfl ?_
  refine kw_step (L' := [some (kr b0), some (kr b1), some (kI x2), some (kI q1), some (kI q2), some (kI (wI ((wI (2 * (s (b1 + 4) j3))) + 1))), none, none, none, none]) rfl rfl rfl rfl ?_
  refine kw_step rfl rfl rfl rfl ?_
  refine kw_step rfl rfl rfl rfl ?_
  refine kw_get rfl (hH_O (tT_0 hb1)) rfl ?_
  refine kw_step rfl rfl rfl rfl ?_
  obtain ⟨j5, i6, hf⟩ := gbI hf
  refine kw_iald rfl (hH_A (tT_4 hb1)) i6.1 i6.2.1 i6.2.2 ?_
  refine kw_step rfl rfl rfl rfl ?_
  refine kw_step rfl rfl rfl rfl ?_
  refine kw_step rfl rfl rfl rfl ?_
  refine kw_step (L' := [some (kr b0), some (kr b1), some (kI x2), some (kI q1), some (kI q2), some (kI (wI ((wI (2 * (s (b1 + 4) j3))) + 1))), some (kI (wI ((wI (2 * (s (b1 + 4) j5))) + 1))), none, none, none]) rfl rfl rfl rfl ?_
  refine kw_step rfl rfl rfl rfl ?_
  refine kw_get rfl (hH_O (tT_0 hb1)) rfl ?_
  refine kw_step rfl rfl rfl rfl ?_
  obtain ⟨j7, i8, hf⟩ := gbI hf
  refine kw_iald rfl (hH_A (tT_2 hb1)) i8.1 i8.2.1 i8.2.2 ?_
  refine kw_step rfl rfl rfl rfl ?_
  refine kw_icmp_ne rfl rfl (fun c9 => ?_) (fun c9 => ?_)
  · have hf := giff c9 hf
    refine kw_step rfl rfl rfl rfl ?_
    exact kW_le (L' := [some (kr b0), some (kr b1), some (kI x2), some (kI q1), some (kI q2), some (kI (wI ((wI (2 * (s (b1 + 4) j3))) + 1))), some (kI (wI ((wI (2 * (s (b1 + 4) j5))) + 1))), none, none, none]) ⟨Or.inr rfl, Or.inr rfl, Or.inr rfl, Or.inr rfl, Or.inr rfl, Or.inr rfl, Or.inr rfl, Or.inl rfl, Or.inl rfl, Or.inl rfl, trivial⟩ (b_Land_lookRound_35 b0 b1 hb0 hb1 x2 q1 q2 (wI ((wI (2 * (s (b1 + 4) j3))) + 1)) (wI ((wI (2 * (s (b1 + 4) j5))) + 1)) 0 s _ hf hq)
  · have hf := gift c9 hf
    refine kw_step rfl rfl rfl rfl ?_
    refine kw_goto rfl rfl ?_
    exact kW_le (L' := [some (kr b0), some (kr b1), some (kI x2), some (kI q1), some (kI q2), some (kI (wI ((wI (2 * (s (b1 + 4) j3))) + 1))), some (kI (wI ((wI (2 * (s (b1 + 4) j5))) + 1))), none, none, none]) ⟨Or.inr rfl, Or.inr rfl, Or.inr rfl, Or.inr rfl, Or.inr rfl, Or.inr rfl, Or.inr rfl, Or.inl rfl, Or.inl rfl, Or.inl rfl, trivial⟩ (b_Land_lookRound_35 b0 b1 hb0 hb1 x2 q1 q2 (wI ((wI (2 * (s (b1 + 4) j3))) + 1)) (wI ((wI (2 * (s (b1 + 4) j5))) + 1)) 1 s _ hf hq)
def f_Land_roundFrom_6b (b0 : Nat) (x2 : Int) (x4 : Int) (x5 : Int) (s : kM) : Option ((Int × Int × Int) ⊕ (Int)) :=
  if 44 ≤ x5 then (some (.inr x2)) else (if (klnd (klshr x2 x4) 1) = 0 then ((gI 44 (kxor x4 1)).bind fun j3 => some (.inl ((klor x2 (klshl 1 x4)), (s (b0 + 3) j3), (wI (x5 + 1))))) else (some (.inr x2)))
set_option maxRecDepth 8000 in
theorem b_Land_roundFrom_6b {sc : List Int} {Q : Option kV → kH → Prop} (b0 : Nat) (hb0 : tL b0 = true) (x2 : Int) (x4 : Int) (x5 : Int) (s : kM) (t : (Int × Int × Int) ⊕ (Int)) (hf : f_Land_roundFrom_6b b0 x2 x4 x5 s = some t) (hq : (gE (fun x => kW sc 0 kc_Land_roundFrom 3 6 [some (kr b0), none, some (kJ x.1), none, some (kI x.2.1), some (kI x.2.2)] [] (hH s) Q) (fun r => Q (some (kJ r)) (hH s))) t) : kW sc 0 kc_Land_roundFrom 3 6 [some (kr b0), none, some (kJ x2), none, some (kI x4), some (kI x5)] [] (hH s) Q := by
  unfold f_Land_roundFrom_6b at hf
  refine kw_step rfl rfl rfl rfl ?_
  refine kw_step rfl rfl rfl rfl ?_
  refine kw_icmp_ge rfl rfl (fun c1 => ?_) (fun c1 => ?_)
  · have hf := gift c1 hf
    refine kw_step rfl rfl rfl rfl ?_
    cases hf
    exact kw_ret rfl rfl rfl hq
  · have hf := giff c1 hf
    refine kw_step rfl rfl rfl rfl ?_
    refine kw_step rfl rfl rfl rfl ?_
    refine kw_step rfl rfl rfl rfl ?_
    refine kw_step rfl rfl rfl rfl ?_
    refine kw_step rfl rfl rfl rfl ?_
    refine kw_step rfl rfl rfl rfl ?_
    refine kw_lc_ne rfl rfl rfl (fun c2 => ?_) (fun c2 => ?_)
    · have hf := giff c2 hf
      refine kw_step rfl rfl rfl rfl ?_
      cases hf
      exact kw_ret rfl rfl rfl hq
    · have hf := gift c2 hf
      refine kw_step rfl rfl rfl rfl ?_
      refine kw_step rfl rfl rfl rfl ?_
      refine kw_step rfl rfl rfl rfl ?_
      refine kw_step rfl rfl rfl rfl ?_
      refine kw_step rfl rfl rfl rfl ?_
      refine kw_step (L' := [some (kr b0), none, some (kJ (klor x2 (klshl 1 x4))), none, some (kI x4), some (kI x5)]) rfl rfl rfl rfl ?_
      refine kw_step rfl rfl rfl rfl ?_
      refine kw_get rfl (hH_O (tL_0 hb0)) rfl ?_
      refine kw_step rfl rfl rfl rfl ?_
      refine kw_step rfl rfl rfl rfl ?_
      refine kw_step rfl rfl rfl rfl ?_
      obtain ⟨j3, i4, hf⟩ := gbI hf
      refine kw_iald rfl (hH_A (tL_3 hb0)) i4.1 i4.2.1 i4.2.2 ?_
      refine kw_step (L' := [some (kr b0), none, some (kJ (klor x2 (klshl 1 x4))), none, some (kI (s (b0 + 3) j3)), some (kI x5)]) rfl rfl rfl rfl ?_
      refine kw_step (L' := [some (kr b0), none, some (kJ (klor x2 (klshl 1 x4))), none, some (kI (s (b0 + 3) j3)), some (kI (wI (x5 + 1)))]) rfl rfl rfl rfl ?_
      refine kw_goto rfl rfl ?_
      cases hf
      exact kW_le (L' := [some (kr b0), none, some (kJ (klor x2 (klshl 1 x4))), none, some (kI (s (b0 + 3) j3)), some (kI (wI (x5 + 1)))]) ⟨Or.inr rfl, Or.inl rfl, Or.inr rfl, Or.inl rfl, Or.inr rfl, Or.inr rfl, trivial⟩ hq
def f_Land_roundFrom_6 (b0 : Nat) (x2 : Int) (x4 : Int) (x5 : Int) (s : kM) : Option (Int) :=
  gL (fun (x : Int × Int × Int) => f_Land_roundFrom_6b b0 x.1 x.2.1 x.2.2 s) gF (x2, x4, x5)
theorem b_Land_roundFrom_6 {sc : List Int} {Q : Option kV → kH → Prop} (b0 : Nat) (hb0 : tL b0 = true) (x2 : Int) (x4 : Int) (x5 : Int) (s : kM) (t : Int) (hf : f_Land_roundFrom_6 b0 x2 x4 x5 s = some t) (hq : (fun r => Q (some (kJ r)) (hH s)) t) : kW sc 0 kc_Land_roundFrom 3 6 [some (kr b0), none, some (kJ x2), none, some (kI x4), some (kI x5)] [] (hH s) Q :=
  gL_ind (P := fun (x : Int × Int × Int) => kW sc 0 kc_Land_roundFrom 3 6 [some (kr b0), none, some (kJ x.1), none, some (kI x.2.1), some (kI x.2.2)] [] (hH s) Q) (q := (fun r => Q (some (kJ r)) (hH s))) (fun x t hf hq => b_Land_roundFrom_6b b0 hb0 x.1 x.2.1 x.2.2 s t hf hq) gF (x2, x4, x5) t hf hq
def f_Land_roundFrom (b0 : Nat) (x1 : Int) (s : kM) : Option (Int) :=
  f_Land_roundFrom_6 b0 0 x1 0 s
set_option maxRecDepth 8000 in
theorem c_Land_roundFrom {sc : List Int} (b0 : Nat) (hb0 : tL b0 = true) (x1 : Int) (s : kM) (t : Int) (hf : f_Land_roundFrom b0 x1 s = some t) : kR sc 0 km_Land_roundFrom [kr b0, kI x1] (hH s) (some (kJ t)) (hH s) := by
  unfold f_Land_roundFrom at hf
  refine kR.start rfl ?_
  show kW sc 0 kc_Land_roundFrom 3 0 [some (kr b0), some (kI x1), none, none, none, none] [] (hH s) _
  have hq : (fun (r : Option kV) (g : kH) => r = some (kJ t) ∧ g = hH s) (some (kJ t)) (hH s) := ⟨rfl, rfl⟩
  refine kw_step rfl rfl rfl rfl ?_
  refine kw_step (L' := [some (kr b0), some (kI x1), some (kJ 0), none, none, none]) rfl rfl rfl rfl ?_
  refine kw_step rfl rfl rfl rfl ?_
  refine kw_step (L' := [some (kr b0), some (kI x1), some (kJ 0), none, some (kI x1), none]) rfl rfl rfl rfl ?_
  refine kw_step rfl rfl rfl rfl ?_
  refine kw_step (L' := [some (kr b0), some (kI x1), some (kJ 0), none, some (kI x1), some (kI 0)]) rfl rfl rfl rfl ?_
  exact kW_le (L' := [some (kr b0), none, some (kJ 0), none, some (kI x1), some (kI 0)]) ⟨Or.inr rfl, Or.inl rfl, Or.inr rfl, Or.inl rfl, Or.inr rfl, Or.inr rfl, trivial⟩ (b_Land_roundFrom_6 b0 hb0 0 x1 0 s _ hf hq)
def f_Long_bitCount (x0 : Int) (s : kM) : Option (Int) :=
  some (kand (wI (wL ((wL ((wL ((klnd (wL ((wL ((klnd (wL (x0 - (klnd (klushr x0 1) 6148914691236517205))) 3689348814741910323) + (klnd (klushr (wL (x0 - (klnd (klushr x0 1) 6148914691236517205))) 2) 3689348814741910323))) + (klushr (wL ((klnd (wL (x0 - (klnd (klushr x0 1) 6148914691236517205))) 3689348814741910323) + (klnd (klushr (wL (x0 - (klnd (klushr x0 1) 6148914691236517205))) 2) 3689348814741910323))) 4))) 1085102592571150095) + (klushr (klnd (wL ((wL ((klnd (wL (x0 - (klnd (klushr x0 1) 6148914691236517205))) 3689348814741910323) + (klnd (klushr (wL (x0 - (klnd (klushr x0 1) 6148914691236517205))) 2) 3689348814741910323))) + (klushr (wL ((klnd (wL (x0 - (klnd (klushr x0 1) 6148914691236517205))) 3689348814741910323) + (klnd (klushr (wL (x0 - (klnd (klushr x0 1) 6148914691236517205))) 2) 3689348814741910323))) 4))) 1085102592571150095) 8))) + (klushr (wL ((klnd (wL ((wL ((klnd (wL (x0 - (klnd (klushr x0 1) 6148914691236517205))) 3689348814741910323) + (klnd (klushr (wL (x0 - (klnd (klushr x0 1) 6148914691236517205))) 2) 3689348814741910323))) + (klushr (wL ((klnd (wL (x0 - (klnd (klushr x0 1) 6148914691236517205))) 3689348814741910323) + (klnd (klushr (wL (x0 - (klnd (klushr x0 1) 6148914691236517205))) 2) 3689348814741910323))) 4))) 1085102592571150095) + (klushr (klnd (wL ((wL ((klnd (wL (x0 - (klnd (klushr x0 1) 6148914691236517205))) 3689348814741910323) + (klnd (klushr (wL (x0 - (klnd (klushr x0 1) 6148914691236517205))) 2) 3689348814741910323))) + (klushr (wL ((klnd (wL (x0 - (klnd (klushr x0 1) 6148914691236517205))) 3689348814741910323) + (klnd (klushr (wL (x0 - (klnd (klushr x0 1) 6148914691236517205))) 2) 3689348814741910323))) 4))) 1085102592571150095) 8))) 16))) + (klushr (wL ((wL ((klnd (wL ((wL ((klnd (wL (x0 - (klnd (klushr x0 1) 6148914691236517205))) 3689348814741910323) + (klnd (klushr (wL (x0 - (klnd (klushr x0 1) 6148914691236517205))) 2) 3689348814741910323))) + (klushr (wL ((klnd (wL (x0 - (klnd (klushr x0 1) 6148914691236517205))) 3689348814741910323) + (klnd (klushr (wL (x0 - (klnd (klushr x0 1) 6148914691236517205))) 2) 3689348814741910323))) 4))) 1085102592571150095) + (klushr (klnd (wL ((wL ((klnd (wL (x0 - (klnd (klushr x0 1) 6148914691236517205))) 3689348814741910323) + (klnd (klushr (wL (x0 - (klnd (klushr x0 1) 6148914691236517205))) 2) 3689348814741910323))) + (klushr (wL ((klnd (wL (x0 - (klnd (klushr x0 1) 6148914691236517205))) 3689348814741910323) + (klnd (klushr (wL (x0 - (klnd (klushr x0 1) 6148914691236517205))) 2) 3689348814741910323))) 4))) 1085102592571150095) 8))) + (klushr (wL ((klnd (wL ((wL ((klnd (wL (x0 - (klnd (klushr x0 1) 6148914691236517205))) 3689348814741910323) + (klnd (klushr (wL (x0 - (klnd (klushr x0 1) 6148914691236517205))) 2) 3689348814741910323))) + (klushr (wL ((klnd (wL (x0 - (klnd (klushr x0 1) 6148914691236517205))) 3689348814741910323) + (klnd (klushr (wL (x0 - (klnd (klushr x0 1) 6148914691236517205))) 2) 3689348814741910323))) 4))) 1085102592571150095) + (klushr (klnd (wL ((wL ((klnd (wL (x0 - (klnd (klushr x0 1) 6148914691236517205))) 3689348814741910323) + (klnd (klushr (wL (x0 - (klnd (klushr x0 1) 6148914691236517205))) 2) 3689348814741910323))) + (klushr (wL ((klnd (wL (x0 - (klnd (klushr x0 1) 6148914691236517205))) 3689348814741910323) + (klnd (klushr (wL (x0 - (klnd (klushr x0 1) 6148914691236517205))) 2) 3689348814741910323))) 4))) 1085102592571150095) 8))) 16))) 32)))) 127)
set_option maxRecDepth 8000 in
theorem c_Long_bitCount {sc : List Int} (x0 : Int) (s : kM) (t : Int) (hf : f_Long_bitCount x0 s = some t) : kR sc 0 km_Long_bitCount [kJ x0] (hH s) (some (kI t)) (hH s) := by
  unfold f_Long_bitCount at hf
  refine kR.start rfl ?_
  show kW sc 0 kc_Long_bitCount 1 0 [some (kJ x0), none] [] (hH s) _
  have hq : (fun (r : Option kV) (g : kH) => r = some (kI t) ∧ g = hH s) (some (kI t)) (hH s) := ⟨rfl, rfl⟩
  refine kw_step rfl rfl rfl rfl ?_
  refine kw_step rfl rfl rfl rfl ?_
  refine kw_step rfl rfl rfl rfl ?_
  refine kw_step rfl rfl rfl rfl ?_
  refine kw_step rfl rfl rfl rfl ?_
  refine kw_step rfl rfl rfl rfl ?_
  refine kw_step rfl rfl rfl rfl ?_
  refine kw_step (L' := [some (kJ (wL (x0 - (klnd (klushr x0 1) 6148914691236517205)))), none]) rfl rfl rfl rfl ?_
  refine kw_step rfl rfl rfl rfl ?_
  refine kw_step rfl rfl rfl rfl ?_
  refine kw_step rfl rfl rfl rfl ?_
  refine kw_step rfl rfl rfl rfl ?_
  refine kw_step rfl rfl rfl rfl ?_
  refine kw_step rfl rfl rfl rfl ?_
  refine kw_step rfl rfl rfl rfl ?_
  refine kw_step rfl rfl rfl rfl ?_
  refine kw_step rfl rfl rfl rfl ?_
  refine kw_step (L' := [some (kJ (wL ((klnd (wL (x0 - (klnd (klushr x0 1) 6148914691236517205))) 3689348814741910323) + (klnd (klushr (wL (x0 - (klnd (klushr x0 1) 6148914691236517205))) 2) 3689348814741910323)))), none]) rfl rfl rfl rfl ?_
  refine kw_step rfl rfl rfl rfl ?_
  refine kw_step rfl rfl rfl rfl ?_
  refine kw_step rfl rfl rfl rfl ?_
  refine kw_step rfl rfl rfl rfl ?_
  refine kw_step rfl rfl rfl rfl ?_
  refine kw_step rfl rfl rfl rfl ?_
  refine kw_step rfl rfl rfl rfl ?_
  refine kw_step (L' := [some (kJ (klnd (wL ((wL ((klnd (wL (x0 - (klnd (klushr x0 1) 6148914691236517205))) 3689348814741910323) + (klnd (klushr (wL (x0 - (klnd (klushr x0 1) 6148914691236517205))) 2) 3689348814741910323))) + (klushr (wL ((klnd (wL (x0 - (klnd (klushr x0 1) 6148914691236517205))) 3689348814741910323) + (klnd (klushr (wL (x0 - (klnd (klushr x0 1) 6148914691236517205))) 2) 3689348814741910323))) 4))) 1085102592571150095)), none]) rfl rfl rfl rfl ?_
  refine kw_step rfl rfl rfl rfl ?_
  refine kw_step rfl rfl rfl rfl ?_
  refine kw_step rfl rfl rfl rfl ?_
  refine kw_step rfl rfl rfl rfl ?_
  refine kw_step rfl rfl rfl rfl ?_
  refine kw_step (L' := [some (kJ (wL ((klnd (wL ((wL ((klnd (wL (x0 - (klnd (klushr x0 1) 6148914691236517205))) 3689348814741910323) + (klnd (klushr (wL (x0 - (klnd (klushr x0 1) 6148914691236517205))) 2) 3689348814741910323))) + (klushr (wL ((klnd (wL (x0 - (klnd (klushr x0 1) 6148914691236517205))) 3689348814741910323) + (klnd (klushr (wL (x0 - (klnd (klushr x0 1) 6148914691236517205))) 2) 3689348814741910323))) 4))) 1085102592571150095) + (klushr (klnd (wL ((wL ((klnd (wL (x0 - (klnd (klushr x0 1) 6148914691236517205))) 3689348814741910323) + (klnd (klushr (wL (x0 - (klnd (klushr x0 1) 6148914691236517205))) 2) 3689348814741910323))) + (klushr (wL ((klnd (wL (x0 - (klnd (klushr x0 1) 6148914691236517205))) 3689348814741910323) + (klnd (klushr (wL (x0 - (klnd (klushr x0 1) 6148914691236517205))) 2) 3689348814741910323))) 4))) 1085102592571150095) 8)))), none]) rfl rfl rfl rfl ?_
  refine kw_step rfl rfl rfl rfl ?_
  refine kw_step rfl rfl rfl rfl ?_
  refine kw_step rfl rfl rfl rfl ?_
  refine kw_step rfl rfl rfl rfl ?_
  refine kw_step rfl rfl rfl rfl ?_
  refine kw_step (L' := [some (kJ (wL ((wL ((klnd (wL ((wL ((klnd (wL (x0 - (klnd (klushr x0 1) 6148914691236517205))) 3689348814741910323) + (klnd (klushr (wL (x0 - (klnd (klushr x0 1) 6148914691236517205))) 2) 3689348814741910323))) + (klushr (wL ((klnd (wL (x0 - (klnd (klushr x0 1) 6148914691236517205))) 3689348814741910323) + (klnd (klushr (wL (x0 - (klnd (klushr x0 1) 6148914691236517205))) 2) 3689348814741910323))) 4))) 1085102592571150095) + (klushr (klnd (wL ((wL ((klnd (wL (x0 - (klnd (klushr x0 1) 6148914691236517205))) 3689348814741910323) + (klnd (klushr (wL (x0 - (klnd (klushr x0 1) 6148914691236517205))) 2) 3689348814741910323))) + (klushr (wL ((klnd (wL (x0 - (klnd (klushr x0 1) 6148914691236517205))) 3689348814741910323) + (klnd (klushr (wL (x0 - (klnd (klushr x0 1) 6148914691236517205))) 2) 3689348814741910323))) 4))) 1085102592571150095) 8))) + (klushr (wL ((klnd (wL ((wL ((klnd (wL (x0 - (klnd (klushr x0 1) 6148914691236517205))) 3689348814741910323) + (klnd (klushr (wL (x0 - (klnd (klushr x0 1) 6148914691236517205))) 2) 3689348814741910323))) + (klushr (wL ((klnd (wL (x0 - (klnd (klushr x0 1) 6148914691236517205))) 3689348814741910323) + (klnd (klushr (wL (x0 - (klnd (klushr x0 1) 6148914691236517205))) 2) 3689348814741910323))) 4))) 1085102592571150095) + (klushr (klnd (wL ((wL ((klnd (wL (x0 - (klnd (klushr x0 1) 6148914691236517205))) 3689348814741910323) + (klnd (klushr (wL (x0 - (klnd (klushr x0 1) 6148914691236517205))) 2) 3689348814741910323))) + (klushr (wL ((klnd (wL (x0 - (klnd (klushr x0 1) 6148914691236517205))) 3689348814741910323) + (klnd (klushr (wL (x0 - (klnd (klushr x0 1) 6148914691236517205))) 2) 3689348814741910323))) 4))) 1085102592571150095) 8))) 16)))), none]) rfl rfl rfl rfl ?_
  refine kw_step rfl rfl rfl rfl ?_
  refine kw_step rfl rfl rfl rfl ?_
  refine kw_step rfl rfl rfl rfl ?_
  refine kw_step rfl rfl rfl rfl ?_
  refine kw_step rfl rfl rfl rfl ?_
  refine kw_step (L' := [some (kJ (wL ((wL ((wL ((klnd (wL ((wL ((klnd (wL (x0 - (klnd (klushr x0 1) 6148914691236517205))) 3689348814741910323) + (klnd (klushr (wL (x0 - (klnd (klushr x0 1) 6148914691236517205))) 2) 3689348814741910323))) + (klushr (wL ((klnd (wL (x0 - (klnd (klushr x0 1) 6148914691236517205))) 3689348814741910323) + (klnd (klushr (wL (x0 - (klnd (klushr x0 1) 6148914691236517205))) 2) 3689348814741910323))) 4))) 1085102592571150095) + (klushr (klnd (wL ((wL ((klnd (wL (x0 - (klnd (klushr x0 1) 6148914691236517205))) 3689348814741910323) + (klnd (klushr (wL (x0 - (klnd (klushr x0 1) 6148914691236517205))) 2) 3689348814741910323))) + (klushr (wL ((klnd (wL (x0 - (klnd (klushr x0 1) 6148914691236517205))) 3689348814741910323) + (klnd (klushr (wL (x0 - (klnd (klushr x0 1) 6148914691236517205))) 2) 3689348814741910323))) 4))) 1085102592571150095) 8))) + (klushr (wL ((klnd (wL ((wL ((klnd (wL (x0 - (klnd (klushr x0 1) 6148914691236517205))) 3689348814741910323) + (klnd (klushr (wL (x0 - (klnd (klushr x0 1) 6148914691236517205))) 2) 3689348814741910323))) + (klushr (wL ((klnd (wL (x0 - (klnd (klushr x0 1) 6148914691236517205))) 3689348814741910323) + (klnd (klushr (wL (x0 - (klnd (klushr x0 1) 6148914691236517205))) 2) 3689348814741910323))) 4))) 1085102592571150095) + (klushr (klnd (wL ((wL ((klnd (wL (x0 - (klnd (klushr x0 1) 6148914691236517205))) 3689348814741910323) + (klnd (klushr (wL (x0 - (klnd (klushr x0 1) 6148914691236517205))) 2) 3689348814741910323))) + (klushr (wL ((klnd (wL (x0 - (klnd (klushr x0 1) 6148914691236517205))) 3689348814741910323) + (klnd (klushr (wL (x0 - (klnd (klushr x0 1) 6148914691236517205))) 2) 3689348814741910323))) 4))) 1085102592571150095) 8))) 16))) + (klushr (wL ((wL ((klnd (wL ((wL ((klnd (wL (x0 - (klnd (klushr x0 1) 6148914691236517205))) 3689348814741910323) + (klnd (klushr (wL (x0 - (klnd (klushr x0 1) 6148914691236517205))) 2) 3689348814741910323))) + (klushr (wL ((klnd (wL (x0 - (klnd (klushr x0 1) 6148914691236517205))) 3689348814741910323) + (klnd (klushr (wL (x0 - (klnd (klushr x0 1) 6148914691236517205))) 2) 3689348814741910323))) 4))) 1085102592571150095) + (klushr (klnd (wL ((wL ((klnd (wL (x0 - (klnd (klushr x0 1) 6148914691236517205))) 3689348814741910323) + (klnd (klushr (wL (x0 - (klnd (klushr x0 1) 6148914691236517205))) 2) 3689348814741910323))) + (klushr (wL ((klnd (wL (x0 - (klnd (klushr x0 1) 6148914691236517205))) 3689348814741910323) + (klnd (klushr (wL (x0 - (klnd (klushr x0 1) 6148914691236517205))) 2) 3689348814741910323))) 4))) 1085102592571150095) 8))) + (klushr (wL ((klnd (wL ((wL ((klnd (wL (x0 - (klnd (klushr x0 1) 6148914691236517205))) 3689348814741910323) + (klnd (klushr (wL (x0 - (klnd (klushr x0 1) 6148914691236517205))) 2) 3689348814741910323))) + (klushr (wL ((klnd (wL (x0 - (klnd (klushr x0 1) 6148914691236517205))) 3689348814741910323) + (klnd (klushr (wL (x0 - (klnd (klushr x0 1) 6148914691236517205))) 2) 3689348814741910323))) 4))) 1085102592571150095) + (klushr (klnd (wL ((wL ((klnd (wL (x0 - (klnd (klushr x0 1) 6148914691236517205))) 3689348814741910323) + (klnd (klushr (wL (x0 - (klnd (klushr x0 1) 6148914691236517205))) 2) 3689348814741910323))) + (klushr (wL ((klnd (wL (x0 - (klnd (klushr x0 1) 6148914691236517205))) 3689348814741910323) + (klnd (klushr (wL (x0 - (klnd (klushr x0 1) 6148914691236517205))) 2) 3689348814741910323))) 4))) 1085102592571150095) 8))) 16))) 32)))), none]) rfl rfl rfl rfl ?_
  refine kw_step rfl rfl rfl rfl ?_
  refine kw_step rfl rfl rfl rfl ?_
  refine kw_step rfl rfl rfl rfl ?_
  refine kw_step rfl rfl rfl rfl ?_
  cases hf
  exact kw_ret rfl rfl rfl hq
def f_Math_max (x0 : Int) (x1 : Int) (s : kM) : Option (Int) :=
  if x0 < x1 then (some x1) else (some x0)
set_option maxRecDepth 8000 in
theorem c_Math_max {sc : List Int} (x0 : Int) (x1 : Int) (s : kM) (t : Int) (hf : f_Math_max x0 x1 s = some t) : kR sc 0 km_Math_max [kI x0, kI x1] (hH s) (some (kI t)) (hH s) := by
  unfold f_Math_max at hf
  refine kR.start rfl ?_
  show kW sc 0 kc_Math_max 1 0 [some (kI x0), some (kI x1)] [] (hH s) _
  have hq : (fun (r : Option kV) (g : kH) => r = some (kI t) ∧ g = hH s) (some (kI t)) (hH s) := ⟨rfl, rfl⟩
  refine kw_step rfl rfl rfl rfl ?_
  refine kw_step rfl rfl rfl rfl ?_
  refine kw_icmp_lt rfl rfl (fun c1 => ?_) (fun c1 => ?_)
  · have hf := gift c1 hf
    refine kw_step rfl rfl rfl rfl ?_
    cases hf
    exact kw_ret rfl rfl rfl hq
  · have hf := giff c1 hf
    refine kw_step rfl rfl rfl rfl ?_
    refine kw_goto rfl rfl ?_
    cases hf
    exact kw_ret rfl rfl rfl hq
def f_Land_bridgeAtEnd_14 (b0 : Nat) (y0 : Int) (s : kM) : Option (Int) :=
  (gI 22 y0).bind fun j1 => some (kshr (s (b0 + 1) j1) 1)
set_option maxRecDepth 8000 in
theorem b_Land_bridgeAtEnd_14 {sc : List Int} {Q : Option kV → kH → Prop} (b0 : Nat) (hb0 : tT b0 = true) (y0 : Int) (s : kM) (t : Int) (hf : f_Land_bridgeAtEnd_14 b0 y0 s = some t) (hq : (fun r => Q (some (kI r)) (hH s)) t) : kW sc 0 kc_Land_bridgeAtEnd 1 14 [some (kr b0), none, none, none] [kI y0] (hH s) Q := by
  unfold f_Land_bridgeAtEnd_14 at hf
  refine kw_step (L' := [some (kr b0), none, none, some (kI y0)]) rfl rfl rfl rfl ?_
  refine kw_step rfl rfl rfl rfl ?_
  refine kw_get rfl (hH_O (tT_0 hb0)) rfl ?_
  refine kw_step rfl rfl rfl rfl ?_
  obtain ⟨j1, i2, hf⟩ := gbI hf
  refine kw_iald rfl (hH_A (tT_1 hb0)) i2.1 i2.2.1 i2.2.2 ?_
  refine kw_step rfl rfl rfl rfl ?_
  refine kw_step rfl rfl rfl rfl ?_
  cases hf
  exact kw_ret rfl rfl rfl hq
def f_Land_bridgeAtEnd (b0 : Nat) (x1 : Int) (s : kM) : Option (Int) :=
  if (kand x1 1) = 0 then (f_Land_bridgeAtEnd_14 b0 (kshr x1 1) s) else ((gI 22 (kshr x1 1)).bind fun j2 => f_Land_bridgeAtEnd_14 b0 (s (b0 + 3) j2) s)
set_option maxRecDepth 8000 in
theorem c_Land_bridgeAtEnd {sc : List Int} (b0 : Nat) (hb0 : tT b0 = true) (x1 : Int) (s : kM) (t : Int) (hf : f_Land_bridgeAtEnd b0 x1 s = some t) : kR sc 0 km_Land_bridgeAtEnd [kr b0, kI x1] (hH s) (some (kI t)) (hH s) := by
  unfold f_Land_bridgeAtEnd at hf
  refine kR.start rfl ?_
  show kW sc 0 kc_Land_bridgeAtEnd 1 0 [some (kr b0), some (kI x1), none, none] [] (hH s) _
  have hq : (fun (r : Option kV) (g : kH) => r = some (kI t) ∧ g = hH s) (some (kI t)) (hH s) := ⟨rfl, rfl⟩
  refine kw_step rfl rfl rfl rfl ?_
  refine kw_step rfl rfl rfl rfl ?_
  refine kw_step rfl rfl rfl rfl ?_
  refine kw_step (L' := [some (kr b0), some (kI x1), some (kI (kshr x1 1)), none]) rfl rfl rfl rfl ?_
  refine kw_step rfl rfl rfl rfl ?_
  refine kw_step rfl rfl rfl rfl ?_
  refine kw_step rfl rfl rfl rfl ?_
  refine kw_if_ne rfl rfl (fun c1 => ?_) (fun c1 => ?_)
  · have hf := giff c1 hf
    refine kw_step rfl rfl rfl rfl ?_
    refine kw_get rfl (hH_O (tT_0 hb0)) rfl ?_
    refine kw_step rfl rfl rfl rfl ?_
    obtain ⟨j2, i3, hf⟩ := gbI hf
    refine kw_iald rfl (hH_A (tT_3 hb0)) i3.1 i3.2.1 i3.2.2 ?_
    exact kW_le (L' := [some (kr b0), none, none, none]) ⟨Or.inr rfl, Or.inl rfl, Or.inl rfl, Or.inl rfl, trivial⟩ (b_Land_bridgeAtEnd_14 b0 hb0 (s (b0 + 3) j2) s _ hf hq)
  · have hf := gift c1 hf
    refine kw_step rfl rfl rfl rfl ?_
    refine kw_goto rfl rfl ?_
    exact kW_le (L' := [some (kr b0), none, none, none]) ⟨Or.inr rfl, Or.inl rfl, Or.inl rfl, Or.inl rfl, trivial⟩ (b_Land_bridgeAtEnd_14 b0 hb0 (kshr x1 1) s _ hf hq)
def f_Land_timesOver (b0 : Nat) (x1 : Int) (s : kM) : Option (Int) :=
  (gI 22 (kshr x1 1)).bind fun j1 => (gI 22 (kshr x1 1)).bind fun j3 => (gI 22 (s (b0 + 3) j3)).bind fun j5 => some (wI ((kand (s (b0 + 1) j1) 1) + (kand (s (b0 + 1) j5) 1)))
set_option maxRecDepth 8000 in
theorem c_Land_timesOver {sc : List Int} (b0 : Nat) (hb0 : tT b0 = true) (x1 : Int) (s : kM) (t : Int) (hf : f_Land_timesOver b0 x1 s = some t) : kR sc 0 km_Land_timesOver [kr b0, kI x1] (hH s) (some (kI t)) (hH s) := by
  unfold f_Land_timesOver at hf
  refine kR.start rfl ?_
  show kW sc 0 kc_Land_timesOver 1 0 [some (kr b0), some (kI x1), none] [] (hH s) _
  have hq : (fun (r : Option kV) (g : kH) => r = some (kI t) ∧ g = hH s) (some (kI t)) (hH s) := ⟨rfl, rfl⟩
  refine kw_step rfl rfl rfl rfl ?_
  refine kw_step rfl rfl rfl rfl ?_
  refine kw_step rfl rfl rfl rfl ?_
  refine kw_step (L' := [some (kr b0), some (kI x1), some (kI (kshr x1 1))]) rfl rfl rfl rfl ?_
  refine kw_step rfl rfl rfl rfl ?_
  refine kw_get rfl (hH_O (tT_0 hb0)) rfl ?_
  refine kw_step rfl rfl rfl rfl ?_
  obtain ⟨j1, i2, hf⟩ := gbI hf
  refine kw_iald rfl (hH_A (tT_1 hb0)) i2.1 i2.2.1 i2.2.2 ?_
  refine kw_step rfl rfl rfl rfl ?_
  refine kw_step rfl rfl rfl rfl ?_
  refine kw_step rfl rfl rfl rfl ?_
  refine kw_get rfl (hH_O (tT_0 hb0)) rfl ?_
  refine kw_step rfl rfl rfl rfl ?_
  refine kw_get rfl (hH_O (tT_0 hb0)) rfl ?_
  refine kw_step rfl rfl rfl rfl ?_
  obtain ⟨j3, i4, hf⟩ := gbI hf
  refine kw_iald rfl (hH_A (tT_3 hb0)) i4.1 i4.2.1 i4.2.2 ?_
  obtain ⟨j5, i6, hf⟩ := gbI hf
  refine kw_iald rfl (hH_A (tT_1 hb0)) i6.1 i6.2.1 i6.2.2 ?_
  refine kw_step rfl rfl rfl rfl ?_
  refine kw_step rfl rfl rfl rfl ?_
  refine kw_step rfl rfl rfl rfl ?_
  cases hf
  exact kw_ret rfl rfl rfl hq
def f_Land_stepFrom (b0 : Nat) (x1 : Int) (s : kM) : Option (Int) :=
  (gI 44 (kxor x1 1)).bind fun j1 => some (s (b0 + 3) j1)
set_option maxRecDepth 8000 in
theorem c_Land_stepFrom {sc : List Int} (b0 : Nat) (hb0 : tL b0 = true) (x1 : Int) (s : kM) (t : Int) (hf : f_Land_stepFrom b0 x1 s = some t) : kR sc 0 km_Land_stepFrom [kr b0, kI x1] (hH s) (some (kI t)) (hH s) := by
  unfold f_Land_stepFrom at hf
  refine kR.start rfl ?_
  show kW sc 0 kc_Land_stepFrom 1 0 [some (kr b0), some (kI x1)] [] (hH s) _
  have hq : (fun (r : Option kV) (g : kH) => r = some (kI t) ∧ g = hH s) (some (kI t)) (hH s) := ⟨rfl, rfl⟩
  refine kw_step rfl rfl rfl rfl ?_
  refine kw_get rfl (hH_O (tL_0 hb0)) rfl ?_
  refine kw_step rfl rfl rfl rfl ?_
  refine kw_step rfl rfl rfl rfl ?_
  refine kw_step rfl rfl rfl rfl ?_
  obtain ⟨j1, i2, hf⟩ := gbI hf
  refine kw_iald rfl (hH_A (tL_3 hb0)) i2.1 i2.2.1 i2.2.2 ?_
  cases hf
  exact kw_ret rfl rfl rfl hq
def f_Math_min (x0 : Int) (x1 : Int) (s : kM) : Option (Int) :=
  if x1 < x0 then (some x1) else (some x0)
set_option maxRecDepth 8000 in
theorem c_Math_min {sc : List Int} (x0 : Int) (x1 : Int) (s : kM) (t : Int) (hf : f_Math_min x0 x1 s = some t) : kR sc 0 km_Math_min [kI x0, kI x1] (hH s) (some (kI t)) (hH s) := by
  unfold f_Math_min at hf
  refine kR.start rfl ?_
  show kW sc 0 kc_Math_min 1 0 [some (kI x0), some (kI x1)] [] (hH s) _
  have hq : (fun (r : Option kV) (g : kH) => r = some (kI t) ∧ g = hH s) (some (kI t)) (hH s) := ⟨rfl, rfl⟩
  refine kw_step rfl rfl rfl rfl ?_
  refine kw_step rfl rfl rfl rfl ?_
  refine kw_icmp_gt rfl rfl (fun c1 => ?_) (fun c1 => ?_)
  · have hf := gift c1 hf
    refine kw_step rfl rfl rfl rfl ?_
    cases hf
    exact kw_ret rfl rfl rfl hq
  · have hf := giff c1 hf
    refine kw_step rfl rfl rfl rfl ?_
    refine kw_goto rfl rfl ?_
    cases hf
    exact kw_ret rfl rfl rfl hq
def f_Land_apartKey (x0 : Int) (x1 : Int) (s : kM) : Option (Int) :=
  (f_Math_min x0 x1 s).bind fun q1 => (f_Math_max x0 x1 s).bind fun q2 => some (kor (kor (kor 8192 (kshl q1 8)) (kshl q2 4)) 15)
set_option maxRecDepth 8000 in
theorem c_Land_apartKey {sc : List Int} (x0 : Int) (x1 : Int) (s : kM) (t : Int) (hf : f_Land_apartKey x0 x1 s = some t) : kR sc 1 km_Land_apartKey [kI x0, kI x1] (hH s) (some (kI t)) (hH s) := by
  unfold f_Land_apartKey at hf
  refine kR.start rfl ?_
  show kW sc 1 kc_Land_apartKey 1 0 [some (kI x0), some (kI x1)] [] (hH s) _
  have hq : (fun (r : Option kV) (g : kH) => r = some (kI t) ∧ g = hH s) (some (kI t)) (hH s) := ⟨rfl, rfl⟩
  refine kw_step rfl rfl rfl rfl ?_
  refine kw_step rfl rfl rfl rfl ?_
  refine kw_step rfl rfl rfl rfl ?_
  obtain ⟨q1, hq1, hf⟩ := gbind hf
  refine kw_callS (vs := [kI x0, kI x1]) rfl rfl rfl ⟨rfl, Nat.le_of_ble_eq_true rfl, Nat.le_of_ble_eq_true rfl, rfl⟩ (c_Math_min x0 x1 s _ hq1) (Nat.le_of_ble_eq_true rfl) ?_
  refine kw_step rfl rfl rfl rfl ?_
  refine kw_step rfl rfl rfl rfl ?_
  refine kw_step rfl rfl rfl rfl ?_
  refine kw_step rfl rfl rfl rfl ?_
  refine kw_step rfl rfl rfl rfl ?_
  obtain ⟨q2, hq2, hf⟩ := gbind hf
  refine kw_callS (vs := [kI x0, kI x1]) rfl rfl rfl ⟨rfl, Nat.le_of_ble_eq_true rfl, Nat.le_of_ble_eq_true rfl, rfl⟩ (c_Math_max x0 x1 s _ hq2) (Nat.le_of_ble_eq_true rfl) ?_
  refine kw_step rfl rfl rfl rfl ?_
  refine kw_step rfl rfl rfl rfl ?_
  refine kw_step rfl rfl rfl rfl ?_
  refine kw_step rfl rfl rfl rfl ?_
  refine kw_step rfl rfl rfl rfl ?_
  cases hf
  exact kw_ret rfl rfl rfl hq
def f_Land_listApart (b0 : Nat) (b1 : Nat) (x2 : Int) (s : kM) : Option (kM) :=
  (f_Land_bridgeAtEnd b1 x2 s).bind fun q1 => (f_Land_bridgeAtEnd b1 (kxor x2 1) s).bind fun q2 => (f_Land_timesOver b1 x2 s).bind fun q3 => (f_Land_stepFrom b0 x2 s).bind fun q4 => (f_Land_timesOver b1 q4 s).bind fun q5 => if q1 = q2 then (some s) else (if (kor (kshl 1 q3) (kshl 1 q5)) = 5 then ((f_Land_apartKey q1 q2 s).bind fun q8 => (f_Land_list b0 q8 x2 s).bind fun q9 => some q9) else (some s))
set_option maxRecDepth 8000 in
theorem c_Land_listApart {sc : List Int} (b0 : Nat) (b1 : Nat) (hb0 : tL b0 = true) (hb1 : tT b1 = true) (x2 : Int) (s : kM) (t : kM) (hf : f_Land_listApart b0 b1 x2 s = some t) : kR sc 2 km_Land_listApart [kr b0, kr b1, kI x2] (hH s) none (hH t) := by
  unfold f_Land_listApart at hf
  refine kR.start rfl ?_
  show kW sc 2 kc_Land_listApart 0 0 [some (kr b0), some (kr b1), some (kI x2), none, none, none] [] (hH s) _
  have hq : (fun (r : Option kV) (g : kH) => r = none ∧ g = hH t) none (hH t) := ⟨rfl, rfl⟩
  refine kw_step rfl rfl rfl rfl ?_
  refine kw_step rfl rfl rfl rfl ?_
  obtain ⟨q1, hq1, hf⟩ := gbind hf
  refine kw_callS (vs := [kr b1, kI x2]) rfl rfl rfl ⟨rfl, Nat.le_of_ble_eq_true rfl, Nat.le_of_ble_eq_true rfl, rfl⟩ (c_Land_bridgeAtEnd b1 hb1 x2 s _ hq1) (Nat.le_of_ble_eq_true rfl) ?_
  refine kw_step (L' := [some (kr b0), some (kr b1), some (kI x2), some (kI q1), none, none]) rfl rfl rfl rfl ?_
  refine kw_step rfl rfl rfl rfl ?_
  refine kw_step rfl rfl rfl rfl ?_
  refine kw_step rfl rfl rfl rfl ?_
  refine kw_step rfl rfl rfl rfl ?_
  obtain ⟨q2, hq2, hf⟩ := gbind hf
  refine kw_callS (vs := [kr b1, kI (kxor x2 1)]) rfl rfl rfl ⟨rfl, Nat.le_of_ble_eq_true rfl, Nat.le_of_ble_eq_true rfl, rfl⟩ (c_Land_bridgeAtEnd b1 hb1 (kxor x2 1) s _ hq2) (Nat.le_of_ble_eq_true rfl) ?_
  refine kw_step (L' := [some (kr b0), some (kr b1), some (kI x2), some (kI q1), some (kI q2), none]) rfl rfl rfl rfl ?_
  refine kw_step rfl rfl rfl rfl ?_
  refine kw_step rfl rfl rfl rfl ?_
  refine kw_step rfl rfl rfl rfl ?_
  obtain ⟨q3, hq3, hf⟩ := gbind hf
  refine kw_callS (vs := [kr b1, kI x2]) rfl rfl rfl ⟨rfl, Nat.le_of_ble_eq_true rfl, Nat.le_of_ble_eq_true rfl, rfl⟩ (c_Land_timesOver b1 hb1 x2 s _ hq3) (Nat.le_of_ble_eq_true rfl) ?_
  refine kw_step rfl rfl rfl rfl ?_
  refine kw_step rfl rfl rfl rfl ?_
  refine kw_step rfl rfl rfl rfl ?_
  refine kw_step rfl rfl rfl rfl ?_
  refine kw_step rfl rfl rfl rfl ?_
  obtain ⟨q4, hq4, hf⟩ := gbind hf
  refine kw_callV (vs := [kI x2]) rfl rfl rfl ⟨rfl, Nat.le_of_ble_eq_true rfl, Nat.le_of_ble_eq_true rfl, by decide⟩ (hH_O (tL_0 hb0)) (c_Land_stepFrom b0 hb0 x2 s _ hq4) (Nat.le_of_ble_eq_true rfl) ?_
  obtain ⟨q5, hq5, hf⟩ := gbind hf
  refine kw_callS (vs := [kr b1, kI q4]) rfl rfl rfl ⟨rfl, Nat.le_of_ble_eq_true rfl, Nat.le_of_ble_eq_true rfl, rfl⟩ (c_Land_timesOver b1 hb1 q4 s _ hq5) (Nat.le_of_ble_eq_true rfl) ?_
  refine kw_step rfl rfl rfl rfl ?_
  refine kw_step rfl rfl rfl rfl ?_
  refine kw_step (L' := [some (kr b0), some (kr b1), some (kI x2), some (kI q1), some (kI q2), some (kI (kor (kshl 1 q3) (kshl 1 q5)))]) rfl rfl rfl rfl ?_
  refine kw_step rfl rfl rfl rfl ?_
  refine kw_step rfl rfl rfl rfl ?_
  refine kw_icmp_eq rfl rfl (fun c6 => ?_) (fun c6 => ?_)
  · have hf := gift c6 hf
    cases hf
    exact kw_ret rfl rfl rfl hq
  · have hf := giff c6 hf
    refine kw_step rfl rfl rfl rfl ?_
    refine kw_step rfl rfl rfl rfl ?_
    refine kw_icmp_ne rfl rfl (fun c7 => ?_) (fun c7 => ?_)
    · have hf := giff c7 hf
      cases hf
      exact kw_ret rfl rfl rfl hq
    · have hf := gift c7 hf
      refine kw_step rfl rfl rfl rfl ?_
      refine kw_step rfl rfl rfl rfl ?_
      refine kw_step rfl rfl rfl rfl ?_
      obtain ⟨q8, hq8, hf⟩ := gbind hf
      refine kw_callS (vs := [kI q1, kI q2]) rfl rfl rfl ⟨rfl, Nat.le_of_ble_eq_true rfl, Nat.le_of_ble_eq_true rfl, rfl⟩ (c_Land_apartKey q1 q2 s _ hq8) (Nat.le_of_ble_eq_true rfl) ?_
      refine kw_step rfl rfl rfl rfl ?_
      obtain ⟨q9, hq9, hf⟩ := gbind hf
      refine kw_callV (vs := [kI q8, kI x2]) rfl rfl rfl ⟨rfl, Nat.le_of_ble_eq_true rfl, Nat.le_of_ble_eq_true rfl, by decide⟩ (hH_O (tL_0 hb0)) (c_Land_list b0 hb0 q8 x2 s _ hq9) (Nat.le_of_ble_eq_true rfl) ?_
      cases hf
      exact kw_ret rfl rfl rfl hq
def f_Land_slideKey (x0 : Int) (x1 : Int) (x2 : Int) (s : kM) : Option (Int) :=
  (f_Math_min x1 x2 s).bind fun q1 => (f_Math_min x0 q1 s).bind fun q2 => (f_Math_max x1 x2 s).bind fun q3 => (f_Math_max x0 q3 s).bind fun q4 => some (kor (kor (kor 12288 (kshl q2 8)) (kshl (wI ((wI ((wI ((wI (x0 + x1)) + x2)) - q2)) - q4)) 4)) q4)
set_option maxRecDepth 8000 in
theorem c_Land_slideKey {sc : List Int} (x0 : Int) (x1 : Int) (x2 : Int) (s : kM) (t : Int) (hf : f_Land_slideKey x0 x1 x2 s = some t) : kR sc 1 km_Land_slideKey [kI x0, kI x1, kI x2] (hH s) (some (kI t)) (hH s) := by
  unfold f_Land_slideKey at hf
  refine kR.start rfl ?_
  show kW sc 1 kc_Land_slideKey 1 0 [some (kI x0), some (kI x1), some (kI x2), none, none, none] [] (hH s) _
  have hq : (fun (r : Option kV) (g : kH) => r = some (kI t) ∧ g = hH s) (some (kI t)) (hH s) := ⟨rfl, rfl⟩
  refine kw_step rfl rfl rfl rfl ?_
  refine kw_step rfl rfl rfl rfl ?_
  refine kw_step rfl rfl rfl rfl ?_
  obtain ⟨q1, hq1, hf⟩ := gbind hf
  refine kw_callS (vs := [kI x1, kI x2]) rfl rfl rfl ⟨rfl, Nat.le_of_ble_eq_true rfl, Nat.le_of_ble_eq_true rfl, rfl⟩ (c_Math_min x1 x2 s _ hq1) (Nat.le_of_ble_eq_true rfl) ?_
  obtain ⟨q2, hq2, hf⟩ := gbind hf
  refine kw_callS (vs := [kI x0, kI q1]) rfl rfl rfl ⟨rfl, Nat.le_of_ble_eq_true rfl, Nat.le_of_ble_eq_true rfl, rfl⟩ (c_Math_min x0 q1 s _ hq2) (Nat.le_of_ble_eq_true rfl) ?_
  refine kw_step (L' := [some (kI x0), some (kI x1), some (kI x2), some (kI q2), none, none]) rfl rfl rfl rfl ?_
  refine kw_step rfl rfl rfl rfl ?_
  refine kw_step rfl rfl rfl rfl ?_
  refine kw_step rfl rfl rfl rfl ?_
  obtain ⟨q3, hq3, hf⟩ := gbind hf
  refine kw_callS (vs := [kI x1, kI x2]) rfl rfl rfl ⟨rfl, Nat.le_of_ble_eq_true rfl, Nat.le_of_ble_eq_true rfl, rfl⟩ (c_Math_max x1 x2 s _ hq3) (Nat.le_of_ble_eq_true rfl) ?_
  obtain ⟨q4, hq4, hf⟩ := gbind hf
  refine kw_callS (vs := [kI x0, kI q3]) rfl rfl rfl ⟨rfl, Nat.le_of_ble_eq_true rfl, Nat.le_of_ble_eq_true rfl, rfl⟩ (c_Math_max x0 q3 s _ hq4) (Nat.le_of_ble_eq_true rfl) ?_
  refine kw_step (L' := [some (kI x0), some (kI x1), some (kI x2), some (kI q2), some (kI q4), none]) rfl rfl rfl rfl ?_
  refine kw_step rfl rfl rfl rfl ?_
  refine kw_step rfl rfl rfl rfl ?_
  refine kw_step rfl rfl rfl rfl ?_
  refine kw_step rfl rfl rfl rfl ?_
  refine kw_step rfl rfl rfl rfl ?_
  refine kw_step rfl rfl rfl rfl ?_
  refine kw_step rfl rfl rfl rfl ?_
  refine kw_step rfl rfl rfl rfl ?_
  refine kw_step rfl rfl rfl rfl ?_
  refine kw_step (L' := [some (kI x0), some (kI x1), some (kI x2), some (kI q2), some (kI q4), some (kI (wI ((wI ((wI ((wI (x0 + x1)) + x2)) - q2)) - q4)))]) rfl rfl rfl rfl ?_
  refine kw_step rfl rfl rfl rfl ?_
  refine kw_step rfl rfl rfl rfl ?_
  refine kw_step rfl rfl rfl rfl ?_
  refine kw_step rfl rfl rfl rfl ?_
  refine kw_step rfl rfl rfl rfl ?_
  refine kw_step rfl rfl rfl rfl ?_
  refine kw_step rfl rfl rfl rfl ?_
  refine kw_step rfl rfl rfl rfl ?_
  refine kw_step rfl rfl rfl rfl ?_
  refine kw_step rfl rfl rfl rfl ?_
  refine kw_step rfl rfl rfl rfl ?_
  cases hf
  exact kw_ret rfl rfl rfl hq
def f_Land_listSlide (b0 : Nat) (b1 : Nat) (x2 : Int) (s : kM) : Option (kM) :=
  (f_Land_stepFrom b0 x2 s).bind fun q1 => (f_Land_stepFrom b0 q1 s).bind fun q2 => (f_Land_bridgeAtEnd b1 x2 s).bind fun q3 => (f_Land_bridgeAtEnd b1 q1 s).bind fun q4 => (f_Land_bridgeAtEnd b1 q2 s).bind fun q5 => (f_Land_timesOver b1 x2 s).bind fun q6 => (f_Land_timesOver b1 q1 s).bind fun q7 => (f_Land_timesOver b1 q2 s).bind fun q8 => if q3 = q4 then (some s) else (if q4 = q5 then (some s) else (if q3 = q5 then (some s) else (if (kor (kor (kshl 1 q6) (kshl 1 q7)) (kshl 1 q8)) = 7 then ((f_Land_slideKey q3 q4 q5 s).bind fun q13 => (f_Land_list b0 q13 x2 s).bind fun q14 => some q14) else (some s))))
set_option maxRecDepth 8000 in
theorem c_Land_listSlide {sc : List Int} (b0 : Nat) (b1 : Nat) (hb0 : tL b0 = true) (hb1 : tT b1 = true) (x2 : Int) (s : kM) (t : kM) (hf : f_Land_listSlide b0 b1 x2 s = some t) : kR sc 2 km_Land_listSlide [kr b0, kr b1, kI x2] (hH s) none (hH t) := by
  unfold f_Land_listSlide at hf
  refine kR.start rfl ?_
  show kW sc 2 kc_Land_listSlide 0 0 [some (kr b0), some (kr b1), some (kI x2), none, none, none, none, none, none] [] (hH s) _
  have hq : (fun (r : Option kV) (g : kH) => r = none ∧ g = hH t) none (hH t) := ⟨rfl, rfl⟩
  refine kw_step rfl rfl rfl rfl ?_
  refine kw_step rfl rfl rfl rfl ?_
  obtain ⟨q1, hq1, hf⟩ := gbind hf
  refine kw_callV (vs := [kI x2]) rfl rfl rfl ⟨rfl, Nat.le_of_ble_eq_true rfl, Nat.le_of_ble_eq_true rfl, by decide⟩ (hH_O (tL_0 hb0)) (c_Land_stepFrom b0 hb0 x2 s _ hq1) (Nat.le_of_ble_eq_true rfl) ?_
  refine kw_step (L' := [some (kr b0), some (kr b1), some (kI x2), some (kI q1), none, none, none, none, none]) rfl rfl rfl rfl ?_
  refine kw_step rfl rfl rfl rfl ?_
  refine kw_step rfl rfl rfl rfl ?_
  obtain ⟨q2, hq2, hf⟩ := gbind hf
  refine kw_callV (vs := [kI q1]) rfl rfl rfl ⟨rfl, Nat.le_of_ble_eq_true rfl, Nat.le_of_ble_eq_true rfl, by decide⟩ (hH_O (tL_0 hb0)) (c_Land_stepFrom b0 hb0 q1 s _ hq2) (Nat.le_of_ble_eq_true rfl) ?_
  refine kw_step (L' := [some (kr b0), some (kr b1), some (kI x2), some (kI q1), some (kI q2), none, none, none, none]) rfl rfl rfl rfl ?_
  refine kw_step rfl rfl rfl rfl ?_
  refine kw_step rfl rfl rfl rfl ?_
  obtain ⟨q3, hq3, hf⟩ := gbind hf
  refine kw_callS (vs := [kr b1, kI x2]) rfl rfl rfl ⟨rfl, Nat.le_of_ble_eq_true rfl, Nat.le_of_ble_eq_true rfl, rfl⟩ (c_Land_bridgeAtEnd b1 hb1 x2 s _ hq3) (Nat.le_of_ble_eq_true rfl) ?_
  refine kw_step (L' := [some (kr b0), some (kr b1), some (kI x2), some (kI q1), some (kI q2), some (kI q3), none, none, none]) rfl rfl rfl rfl ?_
  refine kw_step rfl rfl rfl rfl ?_
  refine kw_step rfl rfl rfl rfl ?_
  obtain ⟨q4, hq4, hf⟩ := gbind hf
  refine kw_callS (vs := [kr b1, kI q1]) rfl rfl rfl ⟨rfl, Nat.le_of_ble_eq_true rfl, Nat.le_of_ble_eq_true rfl, rfl⟩ (c_Land_bridgeAtEnd b1 hb1 q1 s _ hq4) (Nat.le_of_ble_eq_true rfl) ?_
  refine kw_step (L' := [some (kr b0), some (kr b1), some (kI x2), some (kI q1), some (kI q2), some (kI q3), some (kI q4), none, none]) rfl rfl rfl rfl ?_
  refine kw_step rfl rfl rfl rfl ?_
  refine kw_step rfl rfl rfl rfl ?_
  obtain ⟨q5, hq5, hf⟩ := gbind hf
  refine kw_callS (vs := [kr b1, kI q2]) rfl rfl rfl ⟨rfl, Nat.le_of_ble_eq_true rfl, Nat.le_of_ble_eq_true rfl, rfl⟩ (c_Land_bridgeAtEnd b1 hb1 q2 s _ hq5) (Nat.le_of_ble_eq_true rfl) ?_
  refine kw_step (L' := [some (kr b0), some (kr b1), some (kI x2), some (kI q1), some (kI q2), some (kI q3), some (kI q4), some (kI q5), none]) rfl rfl rfl rfl ?_
  refine kw_step rfl rfl rfl rfl ?_
  refine kw_step rfl rfl rfl rfl ?_
  refine kw_step rfl rfl rfl rfl ?_
  obtain ⟨q6, hq6, hf⟩ := gbind hf
  refine kw_callS (vs := [kr b1, kI x2]) rfl rfl rfl ⟨rfl, Nat.le_of_ble_eq_true rfl, Nat.le_of_ble_eq_true rfl, rfl⟩ (c_Land_timesOver b1 hb1 x2 s _ hq6) (Nat.le_of_ble_eq_true rfl) ?_
  refine kw_step rfl rfl rfl rfl ?_
  refine kw_step rfl rfl rfl rfl ?_
  refine kw_step rfl rfl rfl rfl ?_
  refine kw_step rfl rfl rfl rfl ?_
  obtain ⟨q7, hq7, hf⟩ := gbind hf
  refine kw_callS (vs := [kr b1, kI q1]) rfl rfl rfl ⟨rfl, Nat.le_of_ble_eq_true rfl, Nat.le_of_ble_eq_true rfl, rfl⟩ (c_Land_timesOver b1 hb1 q1 s _ hq7) (Nat.le_of_ble_eq_true rfl) ?_
  refine kw_step rfl rfl rfl rfl ?_
  refine kw_step rfl rfl rfl rfl ?_
  refine kw_step rfl rfl rfl rfl ?_
  refine kw_step rfl rfl rfl rfl ?_
  refine kw_step rfl rfl rfl rfl ?_
  obtain ⟨q8, hq8, hf⟩ := gbind hf
  refine kw_callS (vs := [kr b1, kI q2]) rfl rfl rfl ⟨rfl, Nat.le_of_ble_eq_true rfl, Nat.le_of_ble_eq_true rfl, rfl⟩ (c_Land_timesOver b1 hb1 q2 s _ hq8) (Nat.le_of_ble_eq_true rfl) ?_
  refine kw_step rfl rfl rfl rfl ?_
  refine kw_step rfl rfl rfl rfl ?_
  refine kw_step (L' := [some (kr b0), some (kr b1), some (kI x2), some (kI q1), some (kI q2), some (kI q3), some (kI q4), some (kI q5), some (kI (kor (kor (kshl 1 q6) (kshl 1 q7)) (kshl 1 q8)))]) rfl rfl rfl rfl ?_
  refine kw_step rfl rfl rfl rfl ?_
  refine kw_step rfl rfl rfl rfl ?_
  refine kw_icmp_eq rfl rfl (fun c9 => ?_) (fun c9 => ?_)
  · have hf := gift c9 hf
    cases hf
    exact kw_ret rfl rfl rfl hq
  · have hf := giff c9 hf
    refine kw_step rfl rfl rfl rfl ?_
    refine kw_step rfl rfl rfl rfl ?_
    refine kw_icmp_eq rfl rfl (fun c10 => ?_) (fun c10 => ?_)
    · have hf := gift c10 hf
      cases hf
      exact kw_ret rfl rfl rfl hq
    · have hf := giff c10 hf
      refine kw_step rfl rfl rfl rfl ?_
      refine kw_step rfl rfl rfl rfl ?_
      refine kw_icmp_eq rfl rfl (fun c11 => ?_) (fun c11 => ?_)
      · have hf := gift c11 hf
        cases hf
        exact kw_ret rfl rfl rfl hq
      · have hf := giff c11 hf
        refine kw_step rfl rfl rfl rfl ?_
        refine kw_step rfl rfl rfl rfl ?_
        refine kw_icmp_ne rfl rfl (fun c12 => ?_) (fun c12 => ?_)
        · have hf := giff c12 hf
          cases hf
          exact kw_ret rfl rfl rfl hq
        · have hf := gift c12 hf
          refine kw_step rfl rfl rfl rfl ?_
          refine kw_step rfl rfl rfl rfl ?_
          refine kw_step rfl rfl rfl rfl ?_
          refine kw_step rfl rfl rfl rfl ?_
          obtain ⟨q13, hq13, hf⟩ := gbind hf
          refine kw_callS (vs := [kI q3, kI q4, kI q5]) rfl rfl rfl ⟨rfl, Nat.le_of_ble_eq_true rfl, Nat.le_of_ble_eq_true rfl, rfl⟩ (c_Land_slideKey q3 q4 q5 s _ hq13) (Nat.le_of_ble_eq_true rfl) ?_
          refine kw_step rfl rfl rfl rfl ?_
          obtain ⟨q14, hq14, hf⟩ := gbind hf
          refine kw_callV (vs := [kI q13, kI x2]) rfl rfl rfl ⟨rfl, Nat.le_of_ble_eq_true rfl, Nat.le_of_ble_eq_true rfl, by decide⟩ (hH_O (tL_0 hb0)) (c_Land_list b0 hb0 q13 x2 s _ hq14) (Nat.le_of_ble_eq_true rfl) ?_
          cases hf
          exact kw_ret rfl rfl rfl hq
