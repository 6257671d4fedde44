/-! PRINTED by wip/whole/decall.py: methods as functions over the flat world, with their contracts -/
def f_Rule_reckon (x0 : Int) (x1 : Int) (x3 : Int) (s : kM) : Option (Int) :=
  if x0 = (-21) then (some (klor x1 x3)) else if x0 = (-20) then (some (klnd x1 x3)) else if x0 = (-19) then ((f_Rule_compare x0 x1 x3 s).bind fun q4 => if q4 = 0 then (some 0) else (some 1)) else if x0 = (-18) then ((f_Rule_compare x0 x1 x3 s).bind fun q7 => if q7 = 0 then (some 0) else (some 1)) else if x0 = (-17) then ((f_Rule_compare x0 x1 x3 s).bind fun q10 => if q10 = 0 then (some 0) else (some 1)) else if x0 = (-16) then ((f_Rule_compare x0 x1 x3 s).bind fun q13 => if q13 = 0 then (some 0) else (some 1)) else if x0 = (-15) then ((f_Rule_compare x0 x1 x3 s).bind fun q16 => if q16 = 0 then (some 0) else (some 1)) else if x0 = (-14) then (if x3 = 0 then (some 0) else ((gD x3).bind fun _ => some (klrem x1 x3))) else if x0 = (-13) then (if x3 = 0 then (some 0) else ((gD x3).bind fun _ => some (kldiv x1 x3))) else if x0 = (-12) then (some (wL (x1 * x3))) else if x0 = (-11) then (some (wL (x1 - x3))) else if x0 = (-10) then (some (wL (x1 + x3))) else ((f_Rule_compare x0 x1 x3 s).bind fun q27 => if q27 = 0 then (some 0) else (some 1))
set_option maxRecDepth 8000 in
theorem c_Rule_reckon {sc : List Int} (x0 : Int) (x1 : Int) (x3 : Int) (s : kM) (t : Int) (hf : f_Rule_reckon x0 x1 x3 s = some t) : kR sc 1 km_Rule_reckon [kI x0, kJ x1, kJ x3] (hH s) (some (kJ t)) (hH s) := by
  unfold f_Rule_reckon at hf
  refine kR.start rfl ?_
  show kW sc 1 kc_Rule_reckon 3 0 [some (kI x0), some (kJ x1), none, some (kJ x3), none] [] (hH s) _
  have hq : (fun (r : Option kV) (g : kH) => r = some (kJ t) ∧ g = hH s) (some (kJ t)) (hH s) := ⟨rfl, rfl⟩
  refine kw_step rfl rfl rfl rfl ?_
  by_cases c1 : x0 = (-21)
  · have hf := gift c1 hf
    refine kw_tsw_at rfl c1 rfl rfl rfl ?_
    refine kw_step rfl rfl rfl rfl ?_
    refine kw_step rfl rfl rfl rfl ?_
    refine kw_step rfl rfl rfl rfl ?_
    cases hf
    exact kw_ret rfl rfl rfl hq
  have hf := giff c1 hf
  by_cases c2 : x0 = (-20)
  · have hf := gift c2 hf
    refine kw_tsw_at rfl c2 rfl rfl rfl ?_
    refine kw_step rfl rfl rfl rfl ?_
    refine kw_step rfl rfl rfl rfl ?_
    refine kw_step rfl rfl rfl rfl ?_
    cases hf
    exact kw_ret rfl rfl rfl hq
  have hf := giff c2 hf
  by_cases c3 : x0 = (-19)
  · have hf := gift c3 hf
    refine kw_tsw_at rfl c3 rfl rfl rfl ?_
    refine kw_step rfl rfl rfl rfl ?_
    refine kw_step rfl rfl rfl rfl ?_
    refine kw_step rfl rfl rfl rfl ?_
    obtain ⟨q4, hq4, hf⟩ := gbind hf
    refine kw_callS (vs := [kI x0, kJ x1, kJ x3]) rfl rfl rfl ⟨rfl, Nat.le_of_ble_eq_true rfl, Nat.le_of_ble_eq_true rfl, rfl⟩ (c_Rule_compare x0 x1 x3 s _ hq4) (Nat.le_of_ble_eq_true rfl) ?_
    refine kw_if_eq rfl rfl (fun c5 => ?_) (fun c5 => ?_)
    · have hf := gift c5 hf
      refine kw_step rfl rfl rfl rfl ?_
      cases hf
      exact kw_ret rfl rfl rfl hq
    · have hf := giff c5 hf
      refine kw_step rfl rfl rfl rfl ?_
      refine kw_goto rfl rfl ?_
      cases hf
      exact kw_ret rfl rfl rfl hq
  have hf := giff c3 hf
  by_cases c6 : x0 = (-18)
  · have hf := gift c6 hf
    refine kw_tsw_at rfl c6 rfl rfl rfl ?_
    refine kw_step rfl rfl rfl rfl ?_
    refine kw_step rfl rfl rfl rfl ?_
    refine kw_step rfl rfl rfl rfl ?_
    obtain ⟨q7, hq7, hf⟩ := gbind hf
    refine kw_callS (vs := [kI x0, kJ x1, kJ x3]) rfl rfl rfl ⟨rfl, Nat.le_of_ble_eq_true rfl, Nat.le_of_ble_eq_true rfl, rfl⟩ (c_Rule_compare x0 x1 x3 s _ hq7) (Nat.le_of_ble_eq_true rfl) ?_
    refine kw_if_eq rfl rfl (fun c8 => ?_) (fun c8 => ?_)
    · have hf := gift c8 hf
      refine kw_step rfl rfl rfl rfl ?_
      cases hf
      exact kw_ret rfl rfl rfl hq
    · have hf := giff c8 hf
      refine kw_step rfl rfl rfl rfl ?_
      refine kw_goto rfl rfl ?_
      cases hf
      exact kw_ret rfl rfl rfl hq
  have hf := giff c6 hf
  by_cases c9 : x0 = (-17)
  · have hf := gift c9 hf
    refine kw_tsw_at rfl c9 rfl rfl rfl ?_
    refine kw_step rfl rfl rfl rfl ?_
    refine kw_step rfl rfl rfl rfl ?_
    refine kw_step rfl rfl rfl rfl ?_
    obtain ⟨q10, hq10, hf⟩ := gbind hf
    refine kw_callS (vs := [kI x0, kJ x1, kJ x3]) rfl rfl rfl ⟨rfl, Nat.le_of_ble_eq_true rfl, Nat.le_of_ble_eq_true rfl, rfl⟩ (c_Rule_compare x0 x1 x3 s _ hq10) (Nat.le_of_ble_eq_true rfl) ?_
    refine kw_if_eq rfl rfl (fun c11 => ?_) (fun c11 => ?_)
    · have hf := gift c11 hf
      refine kw_step rfl rfl rfl rfl ?_
      cases hf
      exact kw_ret rfl rfl rfl hq
    · have hf := giff c11 hf
      refine kw_step rfl rfl rfl rfl ?_
      refine kw_goto rfl rfl ?_
      cases hf
      exact kw_ret rfl rfl rfl hq
  have hf := giff c9 hf
  by_cases c12 : x0 = (-16)
  · have hf := gift c12 hf
    refine kw_tsw_at rfl c12 rfl rfl rfl ?_
    refine kw_step rfl rfl rfl rfl ?_
    refine kw_step rfl rfl rfl rfl ?_
    refine kw_step rfl rfl rfl rfl ?_
    obtain ⟨q13, hq13, hf⟩ := gbind hf
    refine kw_callS (vs := [kI x0, kJ x1, kJ x3]) rfl rfl rfl ⟨rfl, Nat.le_of_ble_eq_true rfl, Nat.le_of_ble_eq_true rfl, rfl⟩ (c_Rule_compare x0 x1 x3 s _ hq13) (Nat.le_of_ble_eq_true rfl) ?_
    refine kw_if_eq rfl rfl (fun c14 => ?_) (fun c14 => ?_)
    · have hf := gift c14 hf
      refine kw_step rfl rfl rfl rfl ?_
      cases hf
      exact kw_ret rfl rfl rfl hq
    · have hf := giff c14 hf
      refine kw_step rfl rfl rfl rfl ?_
      refine kw_goto rfl rfl ?_
      cases hf
      exact kw_ret rfl rfl rfl hq
  have hf := giff c12 hf
  by_cases c15 : x0 = (-15)
  · have hf := gift c15 hf
    refine kw_tsw_at rfl c15 rfl rfl rfl ?_
    refine kw_step rfl rfl rfl rfl ?_
    refine kw_step rfl rfl rfl rfl ?_
    refine kw_step rfl rfl rfl rfl ?_
    obtain ⟨q16, hq16, hf⟩ := gbind hf
    refine kw_callS (vs := [kI x0, kJ x1, kJ x3]) rfl rfl rfl ⟨rfl, Nat.le_of_ble_eq_true rfl, Nat.le_of_ble_eq_true rfl, rfl⟩ (c_Rule_compare x0 x1 x3 s _ hq16) (Nat.le_of_ble_eq_true rfl) ?_
    refine kw_if_eq rfl rfl (fun c17 => ?_) (fun c17 => ?_)
    · have hf := gift c17 hf
      refine kw_step rfl rfl rfl rfl ?_
      cases hf
      exact kw_ret rfl rfl rfl hq
    · have hf := giff c17 hf
      refine kw_step rfl rfl rfl rfl ?_
      refine kw_goto rfl rfl ?_
      cases hf
      exact kw_ret rfl rfl rfl hq
  have hf := giff c15 hf
  by_cases c18 : x0 = (-14)
  · have hf := gift c18 hf
    refine kw_tsw_at rfl c18 rfl rfl rfl ?_
    refine kw_step rfl rfl rfl rfl ?_
    refine kw_step rfl rfl rfl rfl ?_
    refine kw_lc_ne rfl rfl rfl (fun c19 => ?_) (fun c19 => ?_)
    · have hf := giff c19 hf
      refine kw_step rfl rfl rfl rfl ?_
      refine kw_step rfl rfl rfl rfl ?_
      obtain ⟨z20, hf⟩ := gbD hf
      refine kw_lrem rfl z20 ?_
      cases hf
      exact kw_ret rfl rfl rfl hq
    · have hf := gift c19 hf
      refine kw_step rfl rfl rfl rfl ?_
      refine kw_goto rfl rfl ?_
      cases hf
      exact kw_ret rfl rfl rfl hq
  have hf := giff c18 hf
  by_cases c21 : x0 = (-13)
  · have hf := gift c21 hf
    refine kw_tsw_at rfl c21 rfl rfl rfl ?_
    refine kw_step rfl rfl rfl rfl ?_
    refine kw_step rfl rfl rfl rfl ?_
    refine kw_lc_ne rfl rfl rfl (fun c22 => ?_) (fun c22 => ?_)
    · have hf := giff c22 hf
      refine kw_step rfl rfl rfl rfl ?_
      refine kw_step rfl rfl rfl rfl ?_
      obtain ⟨z23, hf⟩ := gbD hf
      refine kw_ldiv rfl z23 ?_
      cases hf
      exact kw_ret rfl rfl rfl hq
    · have hf := gift c22 hf
      refine kw_step rfl rfl rfl rfl ?_
      refine kw_goto rfl rfl ?_
      cases hf
      exact kw_ret rfl rfl rfl hq
  have hf := giff c21 hf
  by_cases c24 : x0 = (-12)
  · have hf := gift c24 hf
    refine kw_tsw_at rfl c24 rfl rfl rfl ?_
    refine kw_step rfl rfl rfl rfl ?_
    refine kw_step rfl rfl rfl rfl ?_
    refine kw_step rfl rfl rfl rfl ?_
    cases hf
    exact kw_ret rfl rfl rfl hq
  have hf := giff c24 hf
  by_cases c25 : x0 = (-11)
  · have hf := gift c25 hf
    refine kw_tsw_at rfl c25 rfl rfl rfl ?_
    refine kw_step rfl rfl rfl rfl ?_
    refine kw_step rfl rfl rfl rfl ?_
    refine kw_step rfl rfl rfl rfl ?_
    cases hf
    exact kw_ret rfl rfl rfl hq
  have hf := giff c25 hf
  by_cases c26 : x0 = (-10)
  · have hf := gift c26 hf
    refine kw_tsw_at rfl c26 rfl rfl rfl ?_
    refine kw_step rfl rfl rfl rfl ?_
    refine kw_step rfl rfl rfl rfl ?_
    refine kw_step rfl rfl rfl rfl ?_
    cases hf
    exact kw_ret rfl rfl rfl hq
  have hf := giff c26 hf
  refine kw_tsw_out rfl (by omega) rfl ?_
  refine kw_step rfl rfl rfl rfl ?_
  refine kw_step rfl rfl rfl rfl ?_
  refine kw_step rfl rfl rfl rfl ?_
  obtain ⟨q27, hq27, hf⟩ := gbind hf
  refine kw_callS (vs := [kI x0, kJ x1, kJ x3]) rfl rfl rfl ⟨rfl, Nat.le_of_ble_eq_true rfl, Nat.le_of_ble_eq_true rfl, rfl⟩ (c_Rule_compare x0 x1 x3 s _ hq27) (Nat.le_of_ble_eq_true rfl) ?_
  refine kw_if_eq rfl rfl (fun c28 => ?_) (fun c28 => ?_)
  · have hf := gift c28 hf
    refine kw_step rfl rfl rfl rfl ?_
    cases hf
    exact kw_ret rfl rfl rfl hq
  · have hf := giff c28 hf
    refine kw_step rfl rfl rfl rfl ?_
    refine kw_goto rfl rfl ?_
    cases hf
    exact kw_ret rfl rfl rfl hq
def f_Rule_bars_71 (e0 : Int) (a1 : Nat) (n1 : Nat) (a2 : Nat) (n2 : Nat) (x3 : Int) (x4 : Int) (s : kM) : Option ((Int × Int × kM) ⊕ (Int × kM)) :=
  some (.inl (x3, (wI (x4 + 1)), s))
set_option maxRecDepth 8000 in
theorem b_Rule_bars_71 {sc : List Int} {Q : Option kV → kH → Prop} (e0 : Int) (a1 : Nat) (n1 : Nat) (a2 : Nat) (n2 : Nat) (ha1 : ktab a1 = some (3, n1)) (ha2 : ktab a2 = some (3, n2)) (x3 : Int) (x4 : Int) (s : kM) (t : (Int × Int × kM) ⊕ (Int × kM)) (hf : f_Rule_bars_71 e0 a1 n1 a2 n2 x3 x4 s = some t) (hq : (gE (fun x => kW sc 2 kc_Rule_bars 2 4 [some (kq e0), some (kr a1), some (kr a2), some (kI x.1), some (kI x.2.1), none] [] (hH x.2.2) Q) (fun r => Q (some (kI r.1)) (hH r.2))) t) : kW sc 2 kc_Rule_bars 2 71 [some (kq e0), some (kr a1), some (kr a2), some (kI x3), some (kI x4), none] [] (hH s) Q := by
  unfold f_Rule_bars_71 at hf
  refine kw_step (L' := [some (kq e0), some (kr a1), some (kr a2), some (kI x3), some (kI (wI (x4 + 1))), none]) rfl rfl rfl rfl ?_
  refine kw_goto rfl rfl ?_
  cases hf
  exact kW_le (L' := [some (kq e0), some (kr a1), some (kr a2), some (kI x3), some (kI (wI (x4 + 1))), none]) ⟨Or.inr rfl, Or.inr rfl, Or.inr rfl, Or.inr rfl, Or.inr rfl, Or.inl rfl, trivial⟩ hq
def f_Rule_bars_31 (e0 : Int) (a1 : Nat) (n1 : Nat) (a2 : Nat) (n2 : Nat) (x3 : Int) (x4 : Int) (y1 : Int) (y2 : Int) (s : kM) : Option ((Int × Int × kM) ⊕ (Int × kM)) :=
  (gI n2 y1).bind fun j1 => gLet (gU s a2 j1 y2) fun s3 => f_Rule_bars_71 e0 a1 n1 a2 n2 (wI (x3 + 1)) x4 s3
set_option maxRecDepth 8000 in
theorem b_Rule_bars_31 {sc : List Int} {Q : Option kV → kH → Prop} (e0 : Int) (a1 : Nat) (n1 : Nat) (a2 : Nat) (n2 : Nat) (ha1 : ktab a1 = some (3, n1)) (ha2 : ktab a2 = some (3, n2)) (x3 : Int) (x4 : Int) (y1 : Int) (y2 : Int) (s : kM) (t : (Int × Int × kM) ⊕ (Int × kM)) (hf : f_Rule_bars_31 e0 a1 n1 a2 n2 x3 x4 y1 y2 s = some t) (hq : (gE (fun x => kW sc 2 kc_Rule_bars 2 4 [some (kq e0), some (kr a1), some (kr a2), some (kI x.1), some (kI x.2.1), none] [] (hH x.2.2) Q) (fun r => Q (some (kI r.1)) (hH r.2))) t) : kW sc 2 kc_Rule_bars 2 31 [some (kq e0), some (kr a1), some (kr a2), some (kI x3), some (kI x4), none] [kJ y2, kI y1, kr a2] (hH s) Q := by
  unfold f_Rule_bars_31 at hf
  obtain ⟨j1, i2, hf⟩ := gbI hf
  obtain ⟨s3, ee4, hf⟩ := gbL hf
  refine kw_lastH rfl ha2 i2.1 i2.2.1 i2.2.2 ee4 ?_
  refine kw_step (L' := [some (kq e0), some (kr a1), some (kr a2), some (kI (wI (x3 + 1))), some (kI x4), none]) rfl rfl rfl rfl ?_
  refine kw_goto rfl rfl ?_
  exact kW_le (L' := [some (kq e0), some (kr a1), some (kr a2), some (kI (wI (x3 + 1))), some (kI x4), none]) ⟨Or.inr rfl, Or.inr rfl, Or.inr rfl, Or.inr rfl, Or.inr rfl, Or.inl rfl, trivial⟩ (b_Rule_bars_71 e0 a1 n1 a2 n2 ha1 ha2 (wI (x3 + 1)) x4 s3 _ hf hq)
def f_Rule_bars_4b (e0 : Int) (a1 : Nat) (n1 : Nat) (a2 : Nat) (n2 : Nat) (x3 : Int) (x4 : Int) (s : kM) : Option ((Int × Int × kM) ⊕ (Int × kM)) :=
  (gR s e0).bind fun k1 => if (((s k1 0).toNat : Nat) : Int) ≤ x4 then (if x3 ≤ 0 then (some (.inr (0, s))) else ((gI n2 0).bind fun j5 => if (s a2 j5) = 0 then (some (.inr (0, s))) else (some (.inr (1, s))))) else ((gR s e0).bind fun k8 => (gI ((s k8 0).toNat) x4).bind fun j10 => if (s (k8 + 1) j10) ≤ (-10) then (if (s (k8 + 1) j10) = (-22) then (if x3 ≤ 0 then (f_Rule_bars_71 e0 a1 n1 a2 n2 x3 x4 s) else ((gI n2 (wI (x3 - 1))).bind fun j26 => (gI n2 (wI (x3 - 1))).bind fun j28 => gLet (gU s a2 j28 (wL (1 - (s a2 j26)))) fun s30 => f_Rule_bars_71 e0 a1 n1 a2 n2 x3 x4 s30)) else (if x3 ≤ 1 then (f_Rule_bars_71 e0 a1 n1 a2 n2 x3 x4 s) else ((gI n2 (wI ((wI (x3 + (-1))) - 1))).bind fun j15 => (gI n2 (wI (x3 + (-1)))).bind fun j17 => (f_Rule_reckon (s (k8 + 1) j10) (s a2 j15) (s a2 j17) s).bind fun q19 => (gI n2 (wI ((wI (x3 + (-1))) - 1))).bind fun j20 => gLet (gU s a2 j20 q19) fun s22 => f_Rule_bars_71 e0 a1 n1 a2 n2 (wI (x3 + (-1))) x4 s22))) else (if ((n2 : Nat) : Int) ≤ x3 then (f_Rule_bars_71 e0 a1 n1 a2 n2 x3 x4 s) else (if (s (k8 + 1) j10) < 0 then ((f_Rule_wordOf a1 n1 (s (k8 + 1) j10) s).bind fun q35 => f_Rule_bars_31 e0 a1 n1 a2 n2 x3 x4 x3 q35 s) else (f_Rule_bars_31 e0 a1 n1 a2 n2 x3 x4 x3 (s (k8 + 1) j10) s))))
set_option maxRecDepth 8000 in
theorem b_Rule_bars_4b {sc : List Int} {Q : Option kV → kH → Prop} (e0 : Int) (a1 : Nat) (n1 : Nat) (a2 : Nat) (n2 : Nat) (ha1 : ktab a1 = some (3, n1)) (ha2 : ktab a2 = some (3, n2)) (x3 : Int) (x4 : Int) (s : kM) (t : (Int × Int × kM) ⊕ (Int × kM)) (hf : f_Rule_bars_4b e0 a1 n1 a2 n2 x3 x4 s = some t) (hq : (gE (fun x => kW sc 2 kc_Rule_bars 2 4 [some (kq e0), some (kr a1), some (kr a2), some (kI x.1), some (kI x.2.1), none] [] (hH x.2.2) Q) (fun r => Q (some (kI r.1)) (hH r.2))) t) : kW sc 2 kc_Rule_bars 2 4 [some (kq e0), some (kr a1), some (kr a2), some (kI x3), some (kI x4), none] [] (hH s) Q := by
  unfold f_Rule_bars_4b at hf
  refine kw_step rfl rfl rfl rfl ?_
  refine kw_step rfl rfl rfl rfl ?_
  obtain ⟨k1, h2, hf⟩ := gbR hf
  refine kw_code rfl h2 ?_
  refine kw_alen rfl (hH_RA h2) (by decide) ?_
  refine kw_icmp_ge rfl rfl (fun c3 => ?_) (fun c3 => ?_)
  · have hf := gift c3 hf
    refine kw_step rfl rfl rfl rfl ?_
    refine kw_if_le rfl rfl (fun c4 => ?_) (fun c4 => ?_)
    · have hf := gift c4 hf
      refine kw_step rfl rfl rfl rfl ?_
      cases hf
      exact kw_ret rfl rfl rfl hq
    · have hf := giff c4 hf
      refine kw_step rfl rfl rfl rfl ?_
      refine kw_step rfl rfl rfl rfl ?_
      obtain ⟨j5, i6, hf⟩ := gbI hf
      refine kw_lald rfl (hH_A ha2) i6.1 i6.2.1 i6.2.2 ?_
      refine kw_step rfl rfl rfl rfl ?_
      refine kw_lc_eq rfl rfl rfl (fun c7 => ?_) (fun c7 => ?_)
      · have hf := gift c7 hf
        refine kw_step rfl rfl rfl rfl ?_
        cases hf
        exact kw_ret rfl rfl rfl hq
      · have hf := giff c7 hf
        refine kw_step rfl rfl rfl rfl ?_
        refine kw_goto rfl rfl ?_
        cases hf
        exact kw_ret rfl rfl rfl hq
  · have hf := giff c3 hf
    refine kw_step rfl rfl rfl rfl ?_
    obtain ⟨k8, h9, hf⟩ := gbR hf
    refine kw_code rfl h9 ?_
    refine kw_step rfl rfl rfl rfl ?_
    obtain ⟨j10, i11, hf⟩ := gbI hf
    refine kw_iald rfl (hH_RA h9) i11.1 i11.2.1 i11.2.2 ?_
    refine kw_step (L' := [some (kq e0), some (kr a1), some (kr a2), some (kI x3), some (kI x4), some (kI (s (k8 + 1) j10))]) rfl rfl rfl rfl ?_
    refine kw_step rfl rfl rfl rfl ?_
    refine kw_step rfl rfl rfl rfl ?_
    refine kw_icmp_le rfl rfl (fun c12 => ?_) (fun c12 => ?_)
    · have hf := gift c12 hf
      refine kw_step rfl rfl rfl rfl ?_
      refine kw_step rfl rfl rfl rfl ?_
      refine kw_icmp_ne rfl rfl (fun c13 => ?_) (fun c13 => ?_)
      · have hf := giff c13 hf
        refine kw_step rfl rfl rfl rfl ?_
        refine kw_step rfl rfl rfl rfl ?_
        refine kw_icmp_le rfl rfl (fun c14 => ?_) (fun c14 => ?_)
        · have hf := gift c14 hf
          exact kW_le (L' := [some (kq e0), some (kr a1), some (kr a2), some (kI x3), some (kI x4), none]) ⟨Or.inr rfl, Or.inr rfl, Or.inr rfl, Or.inr rfl, Or.inr rfl, Or.inl rfl, trivial⟩ (b_Rule_bars_71 e0 a1 n1 a2 n2 ha1 ha2 x3 x4 s _ hf hq)
        · have hf := giff c14 hf
          refine kw_step (L' := [some (kq e0), some (kr a1), some (kr a2), some (kI (wI (x3 + (-1)))), some (kI x4), some (kI (s (k8 + 1) j10))]) rfl rfl rfl rfl ?_
          refine kw_step rfl rfl rfl rfl ?_
          refine kw_step rfl rfl rfl rfl ?_
          refine kw_step rfl rfl rfl rfl ?_
          refine kw_step rfl rfl rfl rfl ?_
          refine kw_step rfl rfl rfl rfl ?_
          refine kw_step rfl rfl rfl rfl ?_
          refine kw_step rfl rfl rfl rfl ?_
          refine kw_step rfl rfl rfl rfl ?_
          refine kw_step rfl rfl rfl rfl ?_
          obtain ⟨j15, i16, hf⟩ := gbI hf
          refine kw_lald rfl (hH_A ha2) i16.1 i16.2.1 i16.2.2 ?_
          refine kw_step rfl rfl rfl rfl ?_
          refine kw_step rfl rfl rfl rfl ?_
          obtain ⟨j17, i18, hf⟩ := gbI hf
          refine kw_lald rfl (hH_A ha2) i18.1 i18.2.1 i18.2.2 ?_
          obtain ⟨q19, hq19, hf⟩ := gbind hf
          refine kw_callS (vs := [kI (s (k8 + 1) j10), kJ (s a2 j15), kJ (s a2 j17)]) rfl rfl rfl ⟨rfl, Nat.le_of_ble_eq_true rfl, Nat.le_of_ble_eq_true rfl, rfl⟩ (c_Rule_reckon (s (k8 + 1) j10) (s a2 j15) (s a2 j17) s _ hq19) (Nat.le_of_ble_eq_true rfl) ?_
          obtain ⟨j20, i21, hf⟩ := gbI hf
          obtain ⟨s22, ee23, hf⟩ := gbL hf
          refine kw_lastH rfl ha2 i21.1 i21.2.1 i21.2.2 ee23 ?_
          exact kW_le (L' := [some (kq e0), some (kr a1), some (kr a2), some (kI (wI (x3 + (-1)))), some (kI x4), none]) ⟨Or.inr rfl, Or.inr rfl, Or.inr rfl, Or.inr rfl, Or.inr rfl, Or.inl rfl, trivial⟩ (b_Rule_bars_71 e0 a1 n1 a2 n2 ha1 ha2 (wI (x3 + (-1))) x4 s22 _ hf hq)
      · have hf := gift c13 hf
        refine kw_step rfl rfl rfl rfl ?_
        refine kw_if_le rfl rfl (fun c25 => ?_) (fun c25 => ?_)
        · have hf := gift c25 hf
          exact kW_le (L' := [some (kq e0), some (kr a1), some (kr a2), some (kI x3), some (kI x4), none]) ⟨Or.inr rfl, Or.inr rfl, Or.inr rfl, Or.inr rfl, Or.inr rfl, Or.inl rfl, trivial⟩ (b_Rule_bars_71 e0 a1 n1 a2 n2 ha1 ha2 x3 x4 s _ hf hq)
        · have hf := giff c25 hf
          refine kw_step rfl rfl rfl rfl ?_
          refine kw_step rfl rfl rfl rfl ?_
          refine kw_step rfl rfl rfl rfl ?_
          refine kw_step rfl rfl rfl rfl ?_
          refine kw_step rfl rfl rfl rfl ?_
          refine kw_step rfl rfl rfl rfl ?_
          refine kw_step rfl rfl rfl rfl ?_
          refine kw_step rfl rfl rfl rfl ?_
          refine kw_step rfl rfl rfl rfl ?_
          obtain ⟨j26, i27, hf⟩ := gbI hf
          refine kw_lald rfl (hH_A ha2) i27.1 i27.2.1 i27.2.2 ?_
          refine kw_step rfl rfl rfl rfl ?_
          obtain ⟨j28, i29, hf⟩ := gbI hf
          obtain ⟨s30, ee31, hf⟩ := gbL hf
          refine kw_lastH rfl ha2 i29.1 i29.2.1 i29.2.2 ee31 ?_
          refine kw_goto rfl rfl ?_
          exact kW_le (L' := [some (kq e0), some (kr a1), some (kr a2), some (kI x3), some (kI x4), none]) ⟨Or.inr rfl, Or.inr rfl, Or.inr rfl, Or.inr rfl, Or.inr rfl, Or.inl rfl, trivial⟩ (b_Rule_bars_71 e0 a1 n1 a2 n2 ha1 ha2 x3 x4 s30 _ hf hq)
    · have hf := giff c12 hf
      refine kw_step rfl rfl rfl rfl ?_
      refine kw_step rfl rfl rfl rfl ?_
      refine kw_alen rfl (hH_A ha2) (by decide) ?_
      refine kw_icmp_ge rfl rfl (fun c33 => ?_) (fun c33 => ?_)
      · have hf := gift c33 hf
        exact kW_le (L' := [some (kq e0), some (kr a1), some (kr a2), some (kI x3), some (kI x4), none]) ⟨Or.inr rfl, Or.inr rfl, Or.inr rfl, Or.inr rfl, Or.inr rfl, Or.inl rfl, trivial⟩ (b_Rule_bars_71 e0 a1 n1 a2 n2 ha1 ha2 x3 x4 s _ hf hq)
      · have hf := giff c33 hf
        refine kw_step rfl rfl rfl rfl ?_
        refine kw_step rfl rfl rfl rfl ?_
        refine kw_step rfl rfl rfl rfl ?_
        refine kw_if_lt rfl rfl (fun c34 => ?_) (fun c34 => ?_)
        · have hf := gift c34 hf
          refine kw_step rfl rfl rfl rfl ?_
          refine kw_step rfl rfl rfl rfl ?_
          obtain ⟨q35, hq35, hf⟩ := gbind hf
          refine kw_callS (vs := [kr a1, kI (s (k8 + 1) j10)]) rfl rfl rfl ⟨rfl, Nat.le_of_ble_eq_true rfl, Nat.le_of_ble_eq_true rfl, rfl⟩ (c_Rule_wordOf a1 n1 ha1 (s (k8 + 1) j10) s _ hq35) (Nat.le_of_ble_eq_true rfl) ?_
          exact kW_le (L' := [some (kq e0), some (kr a1), some (kr a2), some (kI x3), some (kI x4), none]) ⟨Or.inr rfl, Or.inr rfl, Or.inr rfl, Or.inr rfl, Or.inr rfl, Or.inl rfl, trivial⟩ (b_Rule_bars_31 e0 a1 n1 a2 n2 ha1 ha2 x3 x4 x3 q35 s _ hf hq)
        · have hf := giff c34 hf
          refine kw_step rfl rfl rfl rfl ?_
          refine kw_step rfl rfl rfl rfl ?_
          refine kw_goto rfl rfl ?_
          exact kW_le (L' := [some (kq e0), some (kr a1), some (kr a2), some (kI x3), some (kI x4), none]) ⟨Or.inr rfl, Or.inr rfl, Or.inr rfl, Or.inr rfl, Or.inr rfl, Or.inl rfl, trivial⟩ (b_Rule_bars_31 e0 a1 n1 a2 n2 ha1 ha2 x3 x4 x3 (s (k8 + 1) j10) s _ hf hq)
def f_Rule_bars_4 (e0 : Int) (a1 : Nat) (n1 : Nat) (a2 : Nat) (n2 : Nat) (x3 : Int) (x4 : Int) (s : kM) : Option (Int × kM) :=
  gL (fun (x : Int × Int × kM) => f_Rule_bars_4b e0 a1 n1 a2 n2 x.1 x.2.1 x.2.2) gF (x3, x4, s)
theorem b_Rule_bars_4 {sc : List Int} {Q : Option kV → kH → Prop} (e0 : Int) (a1 : Nat) (n1 : Nat) (a2 : Nat) (n2 : Nat) (ha1 : ktab a1 = some (3, n1)) (ha2 : ktab a2 = some (3, n2)) (x3 : Int) (x4 : Int) (s : kM) (t : Int × kM) (hf : f_Rule_bars_4 e0 a1 n1 a2 n2 x3 x4 s = some t) (hq : (fun r => Q (some (kI r.1)) (hH r.2)) t) : kW sc 2 kc_Rule_bars 2 4 [some (kq e0), some (kr a1), some (kr a2), some (kI x3), some (kI x4), none] [] (hH s) Q :=
  gL_ind (P := fun (x : Int × Int × kM) => kW sc 2 kc_Rule_bars 2 4 [some (kq e0), some (kr a1), some (kr a2), some (kI x.1), some (kI x.2.1), none] [] (hH x.2.2) Q) (q := (fun r => Q (some (kI r.1)) (hH r.2))) (fun x t hf hq => b_Rule_bars_4b e0 a1 n1 a2 n2 ha1 ha2 x.1 x.2.1 x.2.2 t hf hq) gF (x3, x4, s) t hf hq
def f_Rule_bars (e0 : Int) (a1 : Nat) (n1 : Nat) (a2 : Nat) (n2 : Nat) (s : kM) : Option (Int × kM) :=
  f_Rule_bars_4 e0 a1 n1 a2 n2 0 0 s
set_option maxRecDepth 8000 in
theorem c_Rule_bars {sc : List Int} (e0 : Int) (a1 : Nat) (n1 : Nat) (a2 : Nat) (n2 : Nat) (ha1 : ktab a1 = some (3, n1)) (ha2 : ktab a2 = some (3, n2)) (s : kM) (t : Int × kM) (hf : f_Rule_bars e0 a1 n1 a2 n2 s = some t) : kR sc 2 km_Rule_bars [kq e0, kr a1, kr a2] (hH s) (some (kI t.1)) (hH t.2) := by
  unfold f_Rule_bars at hf
  refine kR.start rfl ?_
  show kW sc 2 kc_Rule_bars 2 0 [some (kq e0), some (kr a1), some (kr a2), none, none, none] [] (hH s) _
  have hq : (fun (r : Option kV) (g : kH) => r = some (kI t.1) ∧ g = hH t.2) (some (kI t.1)) (hH t.2) := ⟨rfl, rfl⟩
  refine kw_step rfl rfl rfl rfl ?_
  refine kw_step (L' := [some (kq e0), some (kr a1), some (kr a2), some (kI 0), none, none]) rfl rfl rfl rfl ?_
  refine kw_step rfl rfl rfl rfl ?_
  refine kw_step (L' := [some (kq e0), some (kr a1), some (kr a2), some (kI 0), some (kI 0), none]) rfl rfl rfl rfl ?_
  exact kW_le (L' := [some (kq e0), some (kr a1), some (kr a2), some (kI 0), some (kI 0), none]) ⟨Or.inr rfl, Or.inr rfl, Or.inr rfl, Or.inr rfl, Or.inr rfl, Or.inl rfl, trivial⟩ (b_Rule_bars_4 e0 a1 n1 a2 n2 ha1 ha2 0 0 s _ hf hq)
def f_Gossip_tell_24 (e1 : Int) (x2 : Int) (s : kM) : Option (kM) :=
  gLet (gU s 51 2 (kor (s 51 2) (kshl 1 x2))) fun s1 => some s1
set_option maxRecDepth 8000 in
theorem b_Gossip_tell_24 {sc : List Int} {Q : Option kV → kH → Prop} (e1 : Int) (x2 : Int) (s : kM) (t : kM) (hf : f_Gossip_tell_24 e1 x2 s = some t) (hq : (fun r => Q none (hH r)) t) : kW sc 3 kc_Gossip_tell 0 24 [some (kr 51), none, some (kI x2)] [] (hH s) Q := by
  unfold f_Gossip_tell_24 at hf
  refine kw_step rfl rfl rfl rfl ?_
  refine kw_step rfl rfl rfl rfl ?_
  refine kw_get rfl (hH_O (rfl : kotab 51 = some kGo)) rfl ?_
  refine kw_step rfl rfl rfl rfl ?_
  refine kw_step rfl rfl rfl rfl ?_
  refine kw_step rfl rfl rfl rfl ?_
  refine kw_step rfl rfl rfl rfl ?_
  obtain ⟨s1, ee2, hf⟩ := gbL hf
  refine kw_putH rfl (rfl : kotab 51 = some kGo) rfl rfl rfl (Nat.le_of_ble_eq_true rfl) rfl ee2 ?_
  cases hf
  exact kw_ret rfl rfl rfl hq
def f_Gossip_tell (e1 : Int) (x2 : Int) (s : kM) : Option (kM) :=
  if (kand (kshr (s 51 2) x2) 1) = 1 then (some s) else (gLet (gU s 52 3 x2) fun s2 => if e1 < 0 then (f_Gossip_tell_24 e1 x2 s2) else ((gR s2 e1).bind fun _ => (f_Rule_bars e1 52 8 53 64 s2).bind fun q6 => if q6.1 = 0 then (f_Gossip_tell_24 e1 x2 q6.2) else (some q6.2)))
set_option maxRecDepth 8000 in
theorem c_Gossip_tell {sc : List Int} (e1 : Int) (x2 : Int) (s : kM) (t : kM) (hf : f_Gossip_tell e1 x2 s = some t) : kR sc 3 km_Gossip_tell [kr 51, kq e1, kI x2] (hH s) none (hH t) := by
  unfold f_Gossip_tell at hf
  refine kR.start rfl ?_
  show kW sc 3 kc_Gossip_tell 0 0 [some (kr 51), some (kq e1), some (kI x2)] [] (hH s) _
  have hq : (fun (r : Option kV) (g : kH) => r = none ∧ g = hH t) none (hH t) := ⟨rfl, rfl⟩
  refine kw_step rfl rfl rfl rfl ?_
  refine kw_get rfl (hH_O (rfl : kotab 51 = some kGo)) rfl ?_
  refine kw_step rfl rfl rfl rfl ?_
  refine kw_step rfl rfl rfl rfl ?_
  refine kw_step rfl rfl rfl rfl ?_
  refine kw_step rfl rfl rfl rfl ?_
  refine kw_step rfl rfl rfl rfl ?_
  refine kw_icmp_ne rfl rfl (fun c1 => ?_) (fun c1 => ?_)
  · have hf := giff c1 hf
    refine kw_step rfl rfl rfl rfl ?_
    refine kw_get rfl (hH_O (rfl : kotab 51 = some kGo)) rfl ?_
    refine kw_step rfl rfl rfl rfl ?_
    refine kw_step rfl rfl rfl rfl ?_
    refine kw_step rfl rfl rfl rfl ?_
    obtain ⟨s2, ee3, hf⟩ := gbL hf
    refine kw_lastH rfl (rfl : ktab 52 = some (3, 8)) (by decide) (by decide) (j := 3) rfl ee3 ?_
    refine kw_step rfl rfl rfl rfl ?_
    refine kw_ifnullR rfl rfl (fun c5 => ?_) (fun c5 => ?_)
    · have hf := gift c5 hf
      exact kW_le (L' := [some (kr 51), none, some (kI x2)]) ⟨Or.inr rfl, Or.inl rfl, Or.inr rfl, trivial⟩ (b_Gossip_tell_24 e1 x2 s2 _ hf hq)
    · have hf := giff c5 hf
      refine kw_step rfl rfl rfl rfl ?_
      refine kw_step rfl rfl rfl rfl ?_
      refine kw_get rfl (hH_O (rfl : kotab 51 = some kGo)) rfl ?_
      refine kw_step rfl rfl rfl rfl ?_
      refine kw_get rfl (hH_O (rfl : kotab 51 = some kGo)) rfl ?_
      obtain ⟨k7, h8, hf⟩ := gbR hf
      obtain ⟨q6, hq6, hf⟩ := gbind hf
      show kW _ _ _ _ _ [some (kr 51), some (kq e1), some (kI x2)] [kr 53, kr 52, kq e1] _ _
      have hc := c_Rule_bars (sc := sc) e1 52 8 53 64 (rfl : ktab 52 = some (3, 8)) (rfl : ktab 53 = some (3, 64)) s2 _ hq6
      rw [kq_p (e := e1) h8.1] at hc ⊢
      refine kw_callV (vs := [kr 52, kr 53]) rfl rfl rfl ⟨rfl, Nat.le_of_ble_eq_true rfl, Nat.le_of_ble_eq_true rfl, by decide⟩ (hH_R ⟨h8.1, h8.2.1, rfl⟩) hc (Nat.le_of_ble_eq_true rfl) ?_
      rw [← kq_p (e := e1) h8.1]
      refine kw_if_ne rfl rfl (fun c10 => ?_) (fun c10 => ?_)
      · have hf := giff c10 hf
        cases hf
        exact kw_ret rfl rfl rfl hq
      · have hf := gift c10 hf
        exact kW_le (L' := [some (kr 51), none, some (kI x2)]) ⟨Or.inr rfl, Or.inl rfl, Or.inr rfl, trivial⟩ (b_Gossip_tell_24 e1 x2 q6.2 _ hf hq)
  · have hf := gift c1 hf
    cases hf
    exact kw_ret rfl rfl rfl hq
def f_Gossip_meet (b1 : Nat) (e2 : Int) (x3 : Int) (x4 : Int) (s : kM) : Option (kM) :=
  (gI 22 x3).bind fun j1 => (gI 22 (kxor (s (b1 + 1) j1) 1)).bind fun j3 => (f_Town_hasPlace b1 (s (b1 + 5) j3) s).bind fun q5 => if q5 = 0 then (some s) else (gLet (gU s 52 0 (kshr (s (b1 + 1) j1) 1)) fun s7 => (gI 11 (kshr (s (b1 + 1) j1) 1)).bind fun j10 => gLet (gU s7 52 1 (s7 (b1 + 2) j10)) fun s12 => gLet (gU s12 52 5 (kand (s (b1 + 1) j1) 1)) fun s15 => gLet (gU s15 52 4 0) fun s18 => (f_Gossip_tell e2 x4 s18).bind fun q21 => gLet (gU q21 52 4 1) fun s23 => (f_Gossip_tell e2 (s (b1 + 5) j3) s23).bind fun q26 => (gI 22 (s (b1 + 5) j3)).bind fun j28 => (f_Gossip_tell e2 (q26 (b1 + 4) j28) q26).bind fun q30 => some q30)
set_option maxRecDepth 8000 in
theorem c_Gossip_meet {sc : List Int} (b1 : Nat) (e2 : Int) (hb1 : tT b1 = true) (x3 : Int) (x4 : Int) (s : kM) (t : kM) (hf : f_Gossip_meet b1 e2 x3 x4 s = some t) : kR sc 4 km_Gossip_meet [kr 51, kr b1, kq e2, kI x3, kI x4] (hH s) none (hH t) := by
  unfold f_Gossip_meet at hf
  refine kR.start rfl ?_
  show kW sc 4 kc_Gossip_meet 0 0 [some (kr 51), some (kr b1), some (kq e2), some (kI x3), some (kI x4), none, none] [] (hH s) _
  have hq : (fun (r : Option kV) (g : kH) => r = none ∧ g = hH t) none (hH t) := ⟨rfl, rfl⟩
  refine kw_step rfl rfl rfl rfl ?_
  refine kw_get rfl (hH_O (tT_0 hb1)) rfl ?_
  refine kw_step rfl rfl rfl rfl ?_
  obtain ⟨j1, i2, hf⟩ := gbI hf
  refine kw_iald rfl (hH_A (tT_1 hb1)) i2.1 i2.2.1 i2.2.2 ?_
  refine kw_step (L' := [some (kr 51), some (kr b1), some (kq e2), some (kI x3), some (kI x4), some (kI (s (b1 + 1) j1)), none]) rfl rfl rfl rfl ?_
  refine kw_step rfl rfl rfl rfl ?_
  refine kw_get rfl (hH_O (tT_0 hb1)) rfl ?_
  refine kw_step rfl rfl rfl rfl ?_
  refine kw_step rfl rfl rfl rfl ?_
  refine kw_step rfl rfl rfl rfl ?_
  obtain ⟨j3, i4, hf⟩ := gbI hf
  refine kw_iald rfl (hH_A (tT_5 hb1)) i4.1 i4.2.1 i4.2.2 ?_
  refine kw_step (L' := [some (kr 51), some (kr b1), some (kq e2), some (kI x3), some (kI x4), some (kI (s (b1 + 1) j1)), some (kI (s (b1 + 5) j3))]) rfl rfl rfl rfl ?_
  refine kw_step rfl rfl rfl rfl ?_
  refine kw_step rfl rfl rfl rfl ?_
  obtain ⟨q5, hq5, hf⟩ := gbind hf
  refine kw_callV (vs := [kI (s (b1 + 5) j3)]) rfl rfl rfl ⟨rfl, Nat.le_of_ble_eq_true rfl, Nat.le_of_ble_eq_true rfl, by decide⟩ (hH_O (tT_0 hb1)) (c_Town_hasPlace b1 hb1 (s (b1 + 5) j3) s _ hq5) (Nat.le_of_ble_eq_true rfl) ?_
  refine kw_if_ne rfl rfl (fun c6 => ?_) (fun c6 => ?_)
  · have hf := giff c6 hf
    refine kw_step rfl rfl rfl rfl ?_
    refine kw_get rfl (hH_O (rfl : kotab 51 = some kGo)) rfl ?_
    refine kw_step rfl rfl rfl rfl ?_
    refine kw_step rfl rfl rfl rfl ?_
    refine kw_step rfl rfl rfl rfl ?_
    refine kw_step rfl rfl rfl rfl ?_
    refine kw_step rfl rfl rfl rfl ?_
    obtain ⟨s7, ee8, hf⟩ := gbL hf
    refine kw_lastH rfl (rfl : ktab 52 = some (3, 8)) (by decide) (by decide) (j := 0) rfl ee8 ?_
    refine kw_step rfl rfl rfl rfl ?_
    refine kw_get rfl (hH_O (rfl : kotab 51 = some kGo)) rfl ?_
    refine kw_step rfl rfl rfl rfl ?_
    refine kw_step rfl rfl rfl rfl ?_
    refine kw_get rfl (hH_O (tT_0 hb1)) rfl ?_
    refine kw_step rfl rfl rfl rfl ?_
    refine kw_step rfl rfl rfl rfl ?_
    refine kw_step rfl rfl rfl rfl ?_
    obtain ⟨j10, i11, hf⟩ := gbI hf
    refine kw_iald rfl (hH_A (tT_2 hb1)) i11.1 i11.2.1 i11.2.2 ?_
    refine kw_step rfl rfl rfl rfl ?_
    obtain ⟨s12, ee13, hf⟩ := gbL hf
    refine kw_lastH rfl (rfl : ktab 52 = some (3, 8)) (by decide) (by decide) (j := 1) rfl ee13 ?_
    refine kw_step rfl rfl rfl rfl ?_
    refine kw_get rfl (hH_O (rfl : kotab 51 = some kGo)) rfl ?_
    refine kw_step rfl rfl rfl rfl ?_
    refine kw_step rfl rfl rfl rfl ?_
    refine kw_step rfl rfl rfl rfl ?_
    refine kw_step rfl rfl rfl rfl ?_
    refine kw_step rfl rfl rfl rfl ?_
    obtain ⟨s15, ee16, hf⟩ := gbL hf
    refine kw_lastH rfl (rfl : ktab 52 = some (3, 8)) (by decide) (by decide) (j := 5) rfl ee16 ?_
    refine kw_step rfl rfl rfl rfl ?_
    refine kw_get rfl (hH_O (rfl : kotab 51 = some kGo)) rfl ?_
    refine kw_step rfl rfl rfl rfl ?_
    refine kw_step rfl rfl rfl rfl ?_
    obtain ⟨s18, ee19, hf⟩ := gbL hf
    refine kw_lastH rfl (rfl : ktab 52 = some (3, 8)) (by decide) (by decide) (j := 4) rfl ee19 ?_
    refine kw_step rfl rfl rfl rfl ?_
    refine kw_step rfl rfl rfl rfl ?_
    refine kw_step rfl rfl rfl rfl ?_
    obtain ⟨q21, hq21, hf⟩ := gbind hf
    refine kw_callV (vs := [kq e2, kI x4]) rfl rfl rfl ⟨rfl, Nat.le_of_ble_eq_true rfl, Nat.le_of_ble_eq_true rfl, by decide⟩ (hH_O (rfl : kotab 51 = some kGo)) (c_Gossip_tell e2 x4 s18 _ hq21) (Nat.le_of_ble_eq_true rfl) ?_
    refine kw_step rfl rfl rfl rfl ?_
    refine kw_get rfl (hH_O (rfl : kotab 51 = some kGo)) rfl ?_
    refine kw_step rfl rfl rfl rfl ?_
    refine kw_step rfl rfl rfl rfl ?_
    obtain ⟨s23, ee24, hf⟩ := gbL hf
    refine kw_lastH rfl (rfl : ktab 52 = some (3, 8)) (by decide) (by decide) (j := 4) rfl ee24 ?_
    refine kw_step rfl rfl rfl rfl ?_
    refine kw_step rfl rfl rfl rfl ?_
    refine kw_step rfl rfl rfl rfl ?_
    obtain ⟨q26, hq26, hf⟩ := gbind hf
    refine kw_callV (vs := [kq e2, kI (s (b1 + 5) j3)]) rfl rfl rfl ⟨rfl, Nat.le_of_ble_eq_true rfl, Nat.le_of_ble_eq_true rfl, by decide⟩ (hH_O (rfl : kotab 51 = some kGo)) (c_Gossip_tell e2 (s (b1 + 5) j3) s23 _ hq26) (Nat.le_of_ble_eq_true rfl) ?_
    refine kw_step rfl rfl rfl rfl ?_
    refine kw_step rfl rfl rfl rfl ?_
    refine kw_step rfl rfl rfl rfl ?_
    refine kw_get rfl (hH_O (tT_0 hb1)) rfl ?_
    refine kw_step rfl rfl rfl rfl ?_
    obtain ⟨j28, i29, hf⟩ := gbI hf
    refine kw_iald rfl (hH_A (tT_4 hb1)) i29.1 i29.2.1 i29.2.2 ?_
    obtain ⟨q30, hq30, hf⟩ := gbind hf
    refine kw_callV (vs := [kq e2, kI (q26 (b1 + 4) j28)]) rfl rfl rfl ⟨rfl, Nat.le_of_ble_eq_true rfl, Nat.le_of_ble_eq_true rfl, by decide⟩ (hH_O (rfl : kotab 51 = some kGo)) (c_Gossip_tell e2 (q26 (b1 + 4) j28) q26 _ hq30) (Nat.le_of_ble_eq_true rfl) ?_
    cases hf
    exact kw_ret rfl rfl rfl hq
  · have hf := gift c6 hf
    cases hf
    exact kw_ret rfl rfl rfl hq
def f_Gossip_passOn_59 (b1 : Nat) (e2 : Int) (x4 : Int) (y0 : Int) (s : kM) : Option (Int × kM) :=
  if (s 51 2) = (wI ((kshl 1 (s b1 2)) - 1)) then (some (0, s)) else (if (s 51 2) = x4 then (if y0 = 0 then (some (0, s)) else (some (1, s))) else (some (1, s)))
set_option maxRecDepth 8000 in
theorem b_Gossip_passOn_59 {sc : List Int} {Q : Option kV → kH → Prop} (b1 : Nat) (e2 : Int) (hb1 : tT b1 = true) (x4 : Int) (y0 : Int) (s : kM) (t : Int × kM) (hf : f_Gossip_passOn_59 b1 e2 x4 y0 s = some t) (hq : (fun r => Q (some (kI r.1)) (hH r.2)) t) : kW sc 5 kc_Gossip_passOn 2 59 [some (kr 51), some (kr b1), none, none, some (kI x4), none] [kI y0] (hH s) Q := by
  unfold f_Gossip_passOn_59 at hf
  refine kw_step (L' := [some (kr 51), some (kr b1), none, none, some (kI x4), some (kI y0)]) rfl rfl rfl rfl ?_
  refine kw_step rfl rfl rfl rfl ?_
  refine kw_get rfl (hH_O (rfl : kotab 51 = some kGo)) rfl ?_
  refine kw_step rfl rfl rfl rfl ?_
  refine kw_step rfl rfl rfl rfl ?_
  refine kw_get rfl (hH_O (tT_0 hb1)) rfl ?_
  refine kw_step rfl rfl rfl rfl ?_
  refine kw_step rfl rfl rfl rfl ?_
  refine kw_step rfl rfl rfl rfl ?_
  refine kw_icmp_eq rfl rfl (fun c1 => ?_) (fun c1 => ?_)
  · have hf := gift c1 hf
    refine kw_step rfl rfl rfl rfl ?_
    cases hf
    exact kw_ret rfl rfl rfl hq
  · have hf := giff c1 hf
    refine kw_step rfl rfl rfl rfl ?_
    refine kw_get rfl (hH_O (rfl : kotab 51 = some kGo)) rfl ?_
    refine kw_step rfl rfl rfl rfl ?_
    refine kw_icmp_ne rfl rfl (fun c2 => ?_) (fun c2 => ?_)
    · have hf := giff c2 hf
      refine kw_step rfl rfl rfl rfl ?_
      refine kw_goto rfl rfl ?_
      cases hf
      exact kw_ret rfl rfl rfl hq
    · have hf := gift c2 hf
      refine kw_step rfl rfl rfl rfl ?_
      refine kw_if_eq rfl rfl (fun c3 => ?_) (fun c3 => ?_)
      · have hf := gift c3 hf
        refine kw_step rfl rfl rfl rfl ?_
        cases hf
        exact kw_ret rfl rfl rfl hq
      · have hf := giff c3 hf
        refine kw_step rfl rfl rfl rfl ?_
        refine kw_goto rfl rfl ?_
        cases hf
        exact kw_ret rfl rfl rfl hq
def f_Gossip_passOn_58 (b1 : Nat) (e2 : Int) (x4 : Int) (s : kM) : Option (Int × kM) :=
  f_Gossip_passOn_59 b1 e2 x4 0 s
set_option maxRecDepth 8000 in
theorem b_Gossip_passOn_58 {sc : List Int} {Q : Option kV → kH → Prop} (b1 : Nat) (e2 : Int) (hb1 : tT b1 = true) (x4 : Int) (s : kM) (t : Int × kM) (hf : f_Gossip_passOn_58 b1 e2 x4 s = some t) (hq : (fun r => Q (some (kI r.1)) (hH r.2)) t) : kW sc 5 kc_Gossip_passOn 2 58 [some (kr 51), some (kr b1), none, none, some (kI x4), none] [] (hH s) Q := by
  unfold f_Gossip_passOn_58 at hf
  refine kw_step rfl rfl rfl rfl ?_
  exact kW_le (L' := [some (kr 51), some (kr b1), none, none, some (kI x4), none]) ⟨Or.inr rfl, Or.inr rfl, Or.inl rfl, Or.inl rfl, Or.inr rfl, Or.inl rfl, trivial⟩ (b_Gossip_passOn_59 b1 e2 hb1 x4 0 s _ hf hq)
def f_Gossip_passOn_49 (b1 : Nat) (e2 : Int) (x4 : Int) (x5 : Int) (s : kM) : Option ((Int × kM) ⊕ (Int × kM)) :=
  some (.inl ((wI (x5 + 1)), s))
set_option maxRecDepth 8000 in
theorem b_Gossip_passOn_49 {sc : List Int} {Q : Option kV → kH → Prop} (b1 : Nat) (e2 : Int) (hb1 : tT b1 = true) (x4 : Int) (x5 : Int) (s : kM) (t : (Int × kM) ⊕ (Int × kM)) (hf : f_Gossip_passOn_49 b1 e2 x4 x5 s = some t) (hq : (gE (fun x => kW sc 5 kc_Gossip_passOn 2 11 [some (kr 51), some (kr b1), some (kq e2), none, some (kI x4), some (kI x.1)] [] (hH x.2) Q) (fun r => Q (some (kI r.1)) (hH r.2))) t) : kW sc 5 kc_Gossip_passOn 2 49 [some (kr 51), some (kr b1), some (kq e2), none, some (kI x4), some (kI x5)] [] (hH s) Q := by
  unfold f_Gossip_passOn_49 at hf
  refine kw_step (L' := [some (kr 51), some (kr b1), some (kq e2), none, some (kI x4), some (kI (wI (x5 + 1)))]) rfl rfl rfl rfl ?_
  refine kw_goto rfl rfl ?_
  cases hf
  exact kW_le (L' := [some (kr 51), some (kr b1), some (kq e2), none, some (kI x4), some (kI (wI (x5 + 1)))]) ⟨Or.inr rfl, Or.inr rfl, Or.inr rfl, Or.inl rfl, Or.inr rfl, Or.inr rfl, trivial⟩ hq
def f_Gossip_passOn_11b (b1 : Nat) (e2 : Int) (x4 : Int) (x5 : Int) (s : kM) : Option ((Int × kM) ⊕ (Int × kM)) :=
  if (s b1 2) ≤ x5 then (if e2 < 0 then ((f_Gossip_passOn_58 b1 e2 x4 s).map Sum.inr) else ((gR s e2).bind fun k5 => if (s k5 1) = 0 then ((f_Gossip_passOn_58 b1 e2 x4 s).map Sum.inr) else ((f_Gossip_passOn_59 b1 e2 x4 1 s).map Sum.inr))) else (if (kand (kshr x4 x5) 1) = 1 then (gLet (gU s 52 2 x5) fun s13 => (gI 22 x5).bind fun j16 => (gI 22 x5).bind fun j18 => (f_Gossip_meet b1 e2 (s13 (b1 + 3) j16) (s13 (b1 + 3) j18) s13).bind fun q20 => (gI 22 x5).bind fun j22 => (f_Gossip_meet b1 e2 x5 (q20 (b1 + 4) j22) q20).bind fun q24 => f_Gossip_passOn_49 b1 e2 x4 x5 q24) else (f_Gossip_passOn_49 b1 e2 x4 x5 s))
set_option maxRecDepth 8000 in
theorem b_Gossip_passOn_11b {sc : List Int} {Q : Option kV → kH → Prop} (b1 : Nat) (e2 : Int) (hb1 : tT b1 = true) (x4 : Int) (x5 : Int) (s : kM) (t : (Int × kM) ⊕ (Int × kM)) (hf : f_Gossip_passOn_11b b1 e2 x4 x5 s = some t) (hq : (gE (fun x => kW sc 5 kc_Gossip_passOn 2 11 [some (kr 51), some (kr b1), some (kq e2), none, some (kI x4), some (kI x.1)] [] (hH x.2) Q) (fun r => Q (some (kI r.1)) (hH r.2))) t) : kW sc 5 kc_Gossip_passOn 2 11 [some (kr 51), some (kr b1), some (kq e2), none, some (kI x4), some (kI x5)] [] (hH s) Q := by
  unfold f_Gossip_passOn_11b at hf
  refine kw_step rfl rfl rfl rfl ?_
  refine kw_step rfl rfl rfl rfl ?_
  refine kw_get rfl (hH_O (tT_0 hb1)) rfl ?_
  refine kw_icmp_ge rfl rfl (fun c1 => ?_) (fun c1 => ?_)
  · have hf := gift c1 hf
    refine kw_step rfl rfl rfl rfl ?_
    refine kw_ifnullR rfl rfl (fun c2 => ?_) (fun c2 => ?_)
    · have hf := gift c2 hf
      obtain ⟨t3, hg4, rfl⟩ := gmap hf
      exact kW_le (L' := [some (kr 51), some (kr b1), none, none, some (kI x4), none]) ⟨Or.inr rfl, Or.inr rfl, Or.inl rfl, Or.inl rfl, Or.inr rfl, Or.inl rfl, trivial⟩ (b_Gossip_passOn_58 b1 e2 hb1 x4 s _ hg4 hq)
    · have hf := giff c2 hf
      refine kw_step rfl rfl rfl rfl ?_
      obtain ⟨k5, h6, hf⟩ := gbR hf
      refine kw_timed rfl h6 ?_
      refine kw_if_eq rfl rfl (fun c7 => ?_) (fun c7 => ?_)
      · have hf := gift c7 hf
        obtain ⟨t8, hg9, rfl⟩ := gmap hf
        exact kW_le (L' := [some (kr 51), some (kr b1), none, none, some (kI x4), none]) ⟨Or.inr rfl, Or.inr rfl, Or.inl rfl, Or.inl rfl, Or.inr rfl, Or.inl rfl, trivial⟩ (b_Gossip_passOn_58 b1 e2 hb1 x4 s _ hg9 hq)
      · have hf := giff c7 hf
        refine kw_step rfl rfl rfl rfl ?_
        refine kw_goto rfl rfl ?_
        obtain ⟨t10, hg11, rfl⟩ := gmap hf
        exact kW_le (L' := [some (kr 51), some (kr b1), none, none, some (kI x4), none]) ⟨Or.inr rfl, Or.inr rfl, Or.inl rfl, Or.inl rfl, Or.inr rfl, Or.inl rfl, trivial⟩ (b_Gossip_passOn_59 b1 e2 hb1 x4 1 s _ hg11 hq)
  · have hf := giff c1 hf
    refine kw_step rfl rfl rfl rfl ?_
    refine kw_step rfl rfl rfl rfl ?_
    refine kw_step rfl rfl rfl rfl ?_
    refine kw_step rfl rfl rfl rfl ?_
    refine kw_step rfl rfl rfl rfl ?_
    refine kw_step rfl rfl rfl rfl ?_
    refine kw_icmp_ne rfl rfl (fun c12 => ?_) (fun c12 => ?_)
    · have hf := giff c12 hf
      exact kW_le (L' := [some (kr 51), some (kr b1), some (kq e2), none, some (kI x4), some (kI x5)]) ⟨Or.inr rfl, Or.inr rfl, Or.inr rfl, Or.inl rfl, Or.inr rfl, Or.inr rfl, trivial⟩ (b_Gossip_passOn_49 b1 e2 hb1 x4 x5 s _ hf hq)
    · have hf := gift c12 hf
      refine kw_step rfl rfl rfl rfl ?_
      refine kw_get rfl (hH_O (rfl : kotab 51 = some kGo)) rfl ?_
      refine kw_step rfl rfl rfl rfl ?_
      refine kw_step rfl rfl rfl rfl ?_
      refine kw_step rfl rfl rfl rfl ?_
      obtain ⟨s13, ee14, hf⟩ := gbL hf
      refine kw_lastH rfl (rfl : ktab 52 = some (3, 8)) (by decide) (by decide) (j := 2) rfl ee14 ?_
      refine kw_step rfl rfl rfl rfl ?_
      refine kw_step rfl rfl rfl rfl ?_
      refine kw_step rfl rfl rfl rfl ?_
      refine kw_step rfl rfl rfl rfl ?_
      refine kw_get rfl (hH_O (tT_0 hb1)) rfl ?_
      refine kw_step rfl rfl rfl rfl ?_
      obtain ⟨j16, i17, hf⟩ := gbI hf
      refine kw_iald rfl (hH_A (tT_3 hb1)) i17.1 i17.2.1 i17.2.2 ?_
      refine kw_step rfl rfl rfl rfl ?_
      refine kw_get rfl (hH_O (tT_0 hb1)) rfl ?_
      refine kw_step rfl rfl rfl rfl ?_
      obtain ⟨j18, i19, hf⟩ := gbI hf
      refine kw_iald rfl (hH_A (tT_3 hb1)) i19.1 i19.2.1 i19.2.2 ?_
      obtain ⟨q20, hq20, hf⟩ := gbind hf
      refine kw_callV (vs := [kr b1, kq e2, kI (s13 (b1 + 3) j16), kI (s13 (b1 + 3) j18)]) rfl rfl rfl ⟨rfl, Nat.le_of_ble_eq_true rfl, Nat.le_of_ble_eq_true rfl, by decide⟩ (hH_O (rfl : kotab 51 = some kGo)) (c_Gossip_meet b1 e2 hb1 (s13 (b1 + 3) j16) (s13 (b1 + 3) j18) s13 _ hq20) (Nat.le_of_ble_eq_true rfl) ?_
      refine kw_step rfl rfl rfl rfl ?_
      refine kw_step rfl rfl rfl rfl ?_
      refine kw_step rfl rfl rfl rfl ?_
      refine kw_step rfl rfl rfl rfl ?_
      refine kw_step rfl rfl rfl rfl ?_
      refine kw_get rfl (hH_O (tT_0 hb1)) rfl ?_
      refine kw_step rfl rfl rfl rfl ?_
      obtain ⟨j22, i23, hf⟩ := gbI hf
      refine kw_iald rfl (hH_A (tT_4 hb1)) i23.1 i23.2.1 i23.2.2 ?_
      obtain ⟨q24, hq24, hf⟩ := gbind hf
      refine kw_callV (vs := [kr b1, kq e2, kI x5, kI (q20 (b1 + 4) j22)]) rfl rfl rfl ⟨rfl, Nat.le_of_ble_eq_true rfl, Nat.le_of_ble_eq_true rfl, by decide⟩ (hH_O (rfl : kotab 51 = some kGo)) (c_Gossip_meet b1 e2 hb1 x5 (q20 (b1 + 4) j22) q20 _ hq24) (Nat.le_of_ble_eq_true rfl) ?_
      exact kW_le (L' := [some (kr 51), some (kr b1), some (kq e2), none, some (kI x4), some (kI x5)]) ⟨Or.inr rfl, Or.inr rfl, Or.inr rfl, Or.inl rfl, Or.inr rfl, Or.inr rfl, trivial⟩ (b_Gossip_passOn_49 b1 e2 hb1 x4 x5 q24 _ hf hq)
def f_Gossip_passOn_11 (b1 : Nat) (e2 : Int) (x4 : Int) (x5 : Int) (s : kM) : Option (Int × kM) :=
  gL (fun (x : Int × kM) => f_Gossip_passOn_11b b1 e2 x4 x.1 x.2) gF (x5, s)
theorem b_Gossip_passOn_11 {sc : List Int} {Q : Option kV → kH → Prop} (b1 : Nat) (e2 : Int) (hb1 : tT b1 = true) (x4 : Int) (x5 : Int) (s : kM) (t : Int × kM) (hf : f_Gossip_passOn_11 b1 e2 x4 x5 s = some t) (hq : (fun r => Q (some (kI r.1)) (hH r.2)) t) : kW sc 5 kc_Gossip_passOn 2 11 [some (kr 51), some (kr b1), some (kq e2), none, some (kI x4), some (kI x5)] [] (hH s) Q :=
  gL_ind (P := fun (x : Int × kM) => kW sc 5 kc_Gossip_passOn 2 11 [some (kr 51), some (kr b1), some (kq e2), none, some (kI x4), some (kI x.1)] [] (hH x.2) Q) (q := (fun r => Q (some (kI r.1)) (hH r.2))) (fun x t hf hq => b_Gossip_passOn_11b b1 e2 hb1 x4 x.1 x.2 t hf hq) gF (x5, s) t hf hq
def f_Gossip_passOn (b1 : Nat) (e2 : Int) (x3 : Int) (s : kM) : Option (Int × kM) :=
  gLet (gU s 52 6 x3) fun s1 => f_Gossip_passOn_11 b1 e2 (s 51 2) 0 s1
set_option maxRecDepth 8000 in
theorem c_Gossip_passOn {sc : List Int} (b1 : Nat) (e2 : Int) (hb1 : tT b1 = true) (x3 : Int) (s : kM) (t : Int × kM) (hf : f_Gossip_passOn b1 e2 x3 s = some t) : kR sc 5 km_Gossip_passOn [kr 51, kr b1, kq e2, kI x3] (hH s) (some (kI t.1)) (hH t.2) := by
  unfold f_Gossip_passOn at hf
  refine kR.start rfl ?_
  show kW sc 5 kc_Gossip_passOn 2 0 [some (kr 51), some (kr b1), some (kq e2), some (kI x3), none, none] [] (hH s) _
  have hq : (fun (r : Option kV) (g : kH) => r = some (kI t.1) ∧ g = hH t.2) (some (kI t.1)) (hH t.2) := ⟨rfl, rfl⟩
  refine kw_step rfl rfl rfl rfl ?_
  refine kw_get rfl (hH_O (rfl : kotab 51 = some kGo)) rfl ?_
  refine kw_step (L' := [some (kr 51), some (kr b1), some (kq e2), some (kI x3), some (kI (s 51 2)), none]) rfl rfl rfl rfl ?_
  refine kw_step rfl rfl rfl rfl ?_
  refine kw_get rfl (hH_O (rfl : kotab 51 = some kGo)) rfl ?_
  refine kw_step rfl rfl rfl rfl ?_
  refine kw_step rfl rfl rfl rfl ?_
  refine kw_step rfl rfl rfl rfl ?_
  obtain ⟨s1, ee2, hf⟩ := gbL hf
  refine kw_lastH rfl (rfl : ktab 52 = some (3, 8)) (by decide) (by decide) (j := 6) rfl ee2 ?_
  refine kw_step rfl rfl rfl rfl ?_
  refine kw_step (L' := [some (kr 51), some (kr b1), some (kq e2), some (kI x3), some (kI (s 51 2)), some (kI 0)]) rfl rfl rfl rfl ?_
  exact kW_le (L' := [some (kr 51), some (kr b1), some (kq e2), none, some (kI (s 51 2)), some (kI 0)]) ⟨Or.inr rfl, Or.inr rfl, Or.inr rfl, Or.inl rfl, Or.inr rfl, Or.inr rfl, trivial⟩ (b_Gossip_passOn_11 b1 e2 hb1 (s 51 2) 0 s1 _ hf hq)
def f_Gossip_spread_6b (b1 : Nat) (e2 : Int) (x4 : Int) (x5 : Int) (s : kM) : Option ((Int × kM) ⊕ (Int × kM)) :=
  if x4 < x5 then (some (.inr ((s 51 2), s))) else ((f_Gossip_passOn b1 e2 x5 s).bind fun q2 => if q2.1 = 0 then (some (.inr ((q2.2 51 2), q2.2))) else (some (.inl ((wI (x5 + 1)), q2.2))))
set_option maxRecDepth 8000 in
theorem b_Gossip_spread_6b {sc : List Int} {Q : Option kV → kH → Prop} (b1 : Nat) (e2 : Int) (hb1 : tT b1 = true) (x4 : Int) (x5 : Int) (s : kM) (t : (Int × kM) ⊕ (Int × kM)) (hf : f_Gossip_spread_6b b1 e2 x4 x5 s = some t) (hq : (gE (fun x => kW sc 6 kc_Gossip_spread 1 6 [some (kr 51), some (kr b1), some (kq e2), none, some (kI x4), some (kI x.1)] [] (hH x.2) Q) (fun r => Q (some (kI r.1)) (hH r.2))) t) : kW sc 6 kc_Gossip_spread 1 6 [some (kr 51), some (kr b1), some (kq e2), none, some (kI x4), some (kI x5)] [] (hH s) Q := by
  unfold f_Gossip_spread_6b at hf
  refine kw_step rfl rfl rfl rfl ?_
  refine kw_step rfl rfl rfl rfl ?_
  refine kw_icmp_gt rfl rfl (fun c1 => ?_) (fun c1 => ?_)
  · have hf := gift c1 hf
    refine kw_step rfl rfl rfl rfl ?_
    refine kw_get rfl (hH_O (rfl : kotab 51 = some kGo)) rfl ?_
    cases hf
    exact kw_ret rfl rfl rfl hq
  · have hf := giff c1 hf
    refine kw_step rfl rfl rfl rfl ?_
    refine kw_step rfl rfl rfl rfl ?_
    refine kw_step rfl rfl rfl rfl ?_
    refine kw_step rfl rfl rfl rfl ?_
    obtain ⟨q2, hq2, hf⟩ := gbind hf
    refine kw_callV (vs := [kr b1, kq e2, kI x5]) rfl rfl rfl ⟨rfl, Nat.le_of_ble_eq_true rfl, Nat.le_of_ble_eq_true rfl, by decide⟩ (hH_O (rfl : kotab 51 = some kGo)) (c_Gossip_passOn b1 e2 hb1 x5 s _ hq2) (Nat.le_of_ble_eq_true rfl) ?_
    refine kw_if_ne rfl rfl (fun c4 => ?_) (fun c4 => ?_)
    · have hf := giff c4 hf
      refine kw_step (L' := [some (kr 51), some (kr b1), some (kq e2), none, some (kI x4), some (kI (wI (x5 + 1)))]) rfl rfl rfl rfl ?_
      refine kw_goto rfl rfl ?_
      cases hf
      exact kW_le (L' := [some (kr 51), some (kr b1), some (kq e2), none, some (kI x4), some (kI (wI (x5 + 1)))]) ⟨Or.inr rfl, Or.inr rfl, Or.inr rfl, Or.inl rfl, Or.inr rfl, Or.inr rfl, trivial⟩ hq
    · have hf := gift c4 hf
      refine kw_step rfl rfl rfl rfl ?_
      refine kw_get rfl (hH_O (rfl : kotab 51 = some kGo)) rfl ?_
      cases hf
      exact kw_ret rfl rfl rfl hq
def f_Gossip_spread_6 (b1 : Nat) (e2 : Int) (x4 : Int) (x5 : Int) (s : kM) : Option (Int × kM) :=
  gL (fun (x : Int × kM) => f_Gossip_spread_6b b1 e2 x4 x.1 x.2) gF (x5, s)
theorem b_Gossip_spread_6 {sc : List Int} {Q : Option kV → kH → Prop} (b1 : Nat) (e2 : Int) (hb1 : tT b1 = true) (x4 : Int) (x5 : Int) (s : kM) (t : Int × kM) (hf : f_Gossip_spread_6 b1 e2 x4 x5 s = some t) (hq : (fun r => Q (some (kI r.1)) (hH r.2)) t) : kW sc 6 kc_Gossip_spread 1 6 [some (kr 51), some (kr b1), some (kq e2), none, some (kI x4), some (kI x5)] [] (hH s) Q :=
  gL_ind (P := fun (x : Int × kM) => kW sc 6 kc_Gossip_spread 1 6 [some (kr 51), some (kr b1), some (kq e2), none, some (kI x4), some (kI x.1)] [] (hH x.2) Q) (q := (fun r => Q (some (kI r.1)) (hH r.2))) (fun x t hf hq => b_Gossip_spread_6b b1 e2 hb1 x4 x.1 x.2 t hf hq) gF (x5, s) t hf hq
def f_Gossip_spread (b1 : Nat) (e2 : Int) (x3 : Int) (x4 : Int) (s : kM) : Option (Int × kM) :=
  (f_Gossip_begin b1 x3 s).bind fun q1 => f_Gossip_spread_6 b1 e2 x4 1 q1
set_option maxRecDepth 8000 in
theorem c_Gossip_spread {sc : List Int} (b1 : Nat) (e2 : Int) (hb1 : tT b1 = true) (x3 : Int) (x4 : Int) (s : kM) (t : Int × kM) (hf : f_Gossip_spread b1 e2 x3 x4 s = some t) : kR sc 6 km_Gossip_spread [kr 51, kr b1, kq e2, kI x3, kI x4] (hH s) (some (kI t.1)) (hH t.2) := by
  unfold f_Gossip_spread at hf
  refine kR.start rfl ?_
  show kW sc 6 kc_Gossip_spread 1 0 [some (kr 51), some (kr b1), some (kq e2), some (kI x3), some (kI x4), none] [] (hH s) _
  have hq : (fun (r : Option kV) (g : kH) => r = some (kI t.1) ∧ g = hH t.2) (some (kI t.1)) (hH t.2) := ⟨rfl, rfl⟩
  refine kw_step rfl rfl rfl rfl ?_
  refine kw_step rfl rfl rfl rfl ?_
  refine kw_step rfl rfl rfl rfl ?_
  obtain ⟨q1, hq1, hf⟩ := gbind hf
  refine kw_callV (vs := [kr b1, kI x3]) rfl rfl rfl ⟨rfl, Nat.le_of_ble_eq_true rfl, Nat.le_of_ble_eq_true rfl, by decide⟩ (hH_O (rfl : kotab 51 = some kGo)) (c_Gossip_begin b1 hb1 x3 s _ hq1) (Nat.le_of_ble_eq_true rfl) ?_
  refine kw_step rfl rfl rfl rfl ?_
  refine kw_step (L' := [some (kr 51), some (kr b1), some (kq e2), some (kI x3), some (kI x4), some (kI 1)]) rfl rfl rfl rfl ?_
  exact kW_le (L' := [some (kr 51), some (kr b1), some (kq e2), none, some (kI x4), some (kI 1)]) ⟨Or.inr rfl, Or.inr rfl, Or.inr rfl, Or.inl rfl, Or.inr rfl, Or.inr rfl, trivial⟩ (b_Gossip_spread_6 b1 e2 hb1 x4 1 q1 _ hf hq)
def f_Gossip_minuteOf_36 (b1 : Nat) (e2 : Int) (x4 : Int) (x5 : Int) (s : kM) : Option (Int × kM) :=
  if (kand (kshr (s 51 2) x4) 1) = 1 then (some (x5, s)) else (some ((-2), s))
set_option maxRecDepth 8000 in
theorem b_Gossip_minuteOf_36 {sc : List Int} {Q : Option kV → kH → Prop} (b1 : Nat) (e2 : Int) (hb1 : tT b1 = true) (x4 : Int) (x5 : Int) (s : kM) (t : Int × kM) (hf : f_Gossip_minuteOf_36 b1 e2 x4 x5 s = some t) (hq : (fun r => Q (some (kI r.1)) (hH r.2)) t) : kW sc 6 kc_Gossip_minuteOf 1 36 [some (kr 51), none, none, none, some (kI x4), some (kI x5), none, none] [] (hH s) Q := by
  unfold f_Gossip_minuteOf_36 at hf
  refine kw_step rfl rfl rfl rfl ?_
  refine kw_get rfl (hH_O (rfl : kotab 51 = some kGo)) rfl ?_
  refine kw_step rfl rfl rfl rfl ?_
  refine kw_step rfl rfl rfl rfl ?_
  refine kw_step rfl rfl rfl rfl ?_
  refine kw_step rfl rfl rfl rfl ?_
  refine kw_step rfl rfl rfl rfl ?_
  refine kw_icmp_ne rfl rfl (fun c1 => ?_) (fun c1 => ?_)
  · have hf := giff c1 hf
    refine kw_step rfl rfl rfl rfl ?_
    cases hf
    exact kw_ret rfl rfl rfl hq
  · have hf := gift c1 hf
    refine kw_step rfl rfl rfl rfl ?_
    refine kw_goto rfl rfl ?_
    cases hf
    exact kw_ret rfl rfl rfl hq
def f_Gossip_minuteOf_10b (b1 : Nat) (e2 : Int) (x4 : Int) (x5 : Int) (x6 : Int) (x7 : Int) (s : kM) : Option ((Int × Int × Int × kM) ⊕ (Int × kM)) :=
  if 60 ≤ x7 then ((f_Gossip_minuteOf_36 b1 e2 x4 x5 s).map Sum.inr) else (if x6 = 0 then ((f_Gossip_minuteOf_36 b1 e2 x4 x5 s).map Sum.inr) else (if (kand (kshr (s 51 2) x4) 1) = 0 then ((f_Gossip_passOn b1 e2 (wI (x7 + 1)) s).bind fun q10 => some (.inl ((wI (x7 + 1)), q10.1, (wI (x7 + 1)), q10.2))) else ((f_Gossip_minuteOf_36 b1 e2 x4 x5 s).map Sum.inr)))
set_option maxRecDepth 8000 in
theorem b_Gossip_minuteOf_10b {sc : List Int} {Q : Option kV → kH → Prop} (b1 : Nat) (e2 : Int) (hb1 : tT b1 = true) (x4 : Int) (x5 : Int) (x6 : Int) (x7 : Int) (s : kM) (t : (Int × Int × Int × kM) ⊕ (Int × kM)) (hf : f_Gossip_minuteOf_10b b1 e2 x4 x5 x6 x7 s = some t) (hq : (gE (fun x => kW sc 6 kc_Gossip_minuteOf 1 10 [some (kr 51), some (kr b1), some (kq e2), none, some (kI x4), some (kI x.1), some (kI x.2.1), some (kI x.2.2.1)] [] (hH x.2.2.2) Q) (fun r => Q (some (kI r.1)) (hH r.2))) t) : kW sc 6 kc_Gossip_minuteOf 1 10 [some (kr 51), some (kr b1), some (kq e2), none, some (kI x4), some (kI x5), some (kI x6), some (kI x7)] [] (hH s) Q := by
  unfold f_Gossip_minuteOf_10b at hf
  refine kw_step rfl rfl rfl rfl ?_
  refine kw_step rfl rfl rfl rfl ?_
  refine kw_icmp_ge rfl rfl (fun c1 => ?_) (fun c1 => ?_)
  · have hf := gift c1 hf
    obtain ⟨t2, hg3, rfl⟩ := gmap hf
    exact kW_le (L' := [some (kr 51), none, none, none, some (kI x4), some (kI x5), none, none]) ⟨Or.inr rfl, Or.inl rfl, Or.inl rfl, Or.inl rfl, Or.inr rfl, Or.inr rfl, Or.inl rfl, Or.inl rfl, trivial⟩ (b_Gossip_minuteOf_36 b1 e2 hb1 x4 x5 s _ hg3 hq)
  · have hf := giff c1 hf
    refine kw_step rfl rfl rfl rfl ?_
    refine kw_if_eq rfl rfl (fun c4 => ?_) (fun c4 => ?_)
    · have hf := gift c4 hf
      obtain ⟨t5, hg6, rfl⟩ := gmap hf
      exact kW_le (L' := [some (kr 51), none, none, none, some (kI x4), some (kI x5), none, none]) ⟨Or.inr rfl, Or.inl rfl, Or.inl rfl, Or.inl rfl, Or.inr rfl, Or.inr rfl, Or.inl rfl, Or.inl rfl, trivial⟩ (b_Gossip_minuteOf_36 b1 e2 hb1 x4 x5 s _ hg6 hq)
    · have hf := giff c4 hf
      refine kw_step rfl rfl rfl rfl ?_
      refine kw_get rfl (hH_O (rfl : kotab 51 = some kGo)) rfl ?_
      refine kw_step rfl rfl rfl rfl ?_
      refine kw_step rfl rfl rfl rfl ?_
      refine kw_step rfl rfl rfl rfl ?_
      refine kw_step rfl rfl rfl rfl ?_
      refine kw_if_ne rfl rfl (fun c7 => ?_) (fun c7 => ?_)
      · have hf := giff c7 hf
        obtain ⟨t8, hg9, rfl⟩ := gmap hf
        exact kW_le (L' := [some (kr 51), none, none, none, some (kI x4), some (kI x5), none, none]) ⟨Or.inr rfl, Or.inl rfl, Or.inl rfl, Or.inl rfl, Or.inr rfl, Or.inr rfl, Or.inl rfl, Or.inl rfl, trivial⟩ (b_Gossip_minuteOf_36 b1 e2 hb1 x4 x5 s _ hg9 hq)
      · have hf := gift c7 hf
        refine kw_step rfl rfl rfl rfl ?_
        refine kw_step rfl rfl rfl rfl ?_
        refine kw_step rfl rfl rfl rfl ?_
        refine kw_step rfl rfl rfl rfl ?_
        refine kw_step rfl rfl rfl rfl ?_
        refine kw_step rfl rfl rfl rfl ?_
        obtain ⟨q10, hq10, hf⟩ := gbind hf
        refine kw_callV (vs := [kr b1, kq e2, kI (wI (x7 + 1))]) rfl rfl rfl ⟨rfl, Nat.le_of_ble_eq_true rfl, Nat.le_of_ble_eq_true rfl, by decide⟩ (hH_O (rfl : kotab 51 = some kGo)) (c_Gossip_passOn b1 e2 hb1 (wI (x7 + 1)) s _ hq10) (Nat.le_of_ble_eq_true rfl) ?_
        refine kw_step (L' := [some (kr 51), some (kr b1), some (kq e2), none, some (kI x4), some (kI x5), some (kI q10.1), some (kI x7)]) rfl rfl rfl rfl ?_
        refine kw_step rfl rfl rfl rfl ?_
        refine kw_step rfl rfl rfl rfl ?_
        refine kw_step rfl rfl rfl rfl ?_
        refine kw_step (L' := [some (kr 51), some (kr b1), some (kq e2), none, some (kI x4), some (kI (wI (x7 + 1))), some (kI q10.1), some (kI x7)]) rfl rfl rfl rfl ?_
        refine kw_step (L' := [some (kr 51), some (kr b1), some (kq e2), none, some (kI x4), some (kI (wI (x7 + 1))), some (kI q10.1), some (kI (wI (x7 + 1)))]) rfl rfl rfl rfl ?_
        refine kw_goto rfl rfl ?_
        cases hf
        exact kW_le (L' := [some (kr 51), some (kr b1), some (kq e2), none, some (kI x4), some (kI (wI (x7 + 1))), some (kI q10.1), some (kI (wI (x7 + 1)))]) ⟨Or.inr rfl, Or.inr rfl, Or.inr rfl, Or.inl rfl, Or.inr rfl, Or.inr rfl, Or.inr rfl, Or.inr rfl, trivial⟩ hq
def f_Gossip_minuteOf_10 (b1 : Nat) (e2 : Int) (x4 : Int) (x5 : Int) (x6 : Int) (x7 : Int) (s : kM) : Option (Int × kM) :=
  gL (fun (x : Int × Int × Int × kM) => f_Gossip_minuteOf_10b b1 e2 x4 x.1 x.2.1 x.2.2.1 x.2.2.2) gF (x5, x6, x7, s)
theorem b_Gossip_minuteOf_10 {sc : List Int} {Q : Option kV → kH → Prop} (b1 : Nat) (e2 : Int) (hb1 : tT b1 = true) (x4 : Int) (x5 : Int) (x6 : Int) (x7 : Int) (s : kM) (t : Int × kM) (hf : f_Gossip_minuteOf_10 b1 e2 x4 x5 x6 x7 s = some t) (hq : (fun r => Q (some (kI r.1)) (hH r.2)) t) : kW sc 6 kc_Gossip_minuteOf 1 10 [some (kr 51), some (kr b1), some (kq e2), none, some (kI x4), some (kI x5), some (kI x6), some (kI x7)] [] (hH s) Q :=
  gL_ind (P := fun (x : Int × Int × Int × kM) => kW sc 6 kc_Gossip_minuteOf 1 10 [some (kr 51), some (kr b1), some (kq e2), none, some (kI x4), some (kI x.1), some (kI x.2.1), some (kI x.2.2.1)] [] (hH x.2.2.2) Q) (q := (fun r => Q (some (kI r.1)) (hH r.2))) (fun x t hf hq => b_Gossip_minuteOf_10b b1 e2 hb1 x4 x.1 x.2.1 x.2.2.1 x.2.2.2 t hf hq) gF (x5, x6, x7, s) t hf hq
def f_Gossip_minuteOf (b1 : Nat) (e2 : Int) (x3 : Int) (x4 : Int) (s : kM) : Option (Int × kM) :=
  (f_Gossip_begin b1 x3 s).bind fun q1 => f_Gossip_minuteOf_10 b1 e2 x4 0 1 0 q1
set_option maxRecDepth 8000 in
theorem c_Gossip_minuteOf {sc : List Int} (b1 : Nat) (e2 : Int) (hb1 : tT b1 = true) (x3 : Int) (x4 : Int) (s : kM) (t : Int × kM) (hf : f_Gossip_minuteOf b1 e2 x3 x4 s = some t) : kR sc 6 km_Gossip_minuteOf [kr 51, kr b1, kq e2, kI x3, kI x4] (hH s) (some (kI t.1)) (hH t.2) := by
  unfold f_Gossip_minuteOf at hf
  refine kR.start rfl ?_
  show kW sc 6 kc_Gossip_minuteOf 1 0 [some (kr 51), some (kr b1), some (kq e2), some (kI x3), some (kI x4), none, none, none] [] (hH s) _
  have hq : (fun (r : Option kV) (g : kH) => r = some (kI t.1) ∧ g = hH t.2) (some (kI t.1)) (hH t.2) := ⟨rfl, rfl⟩
  refine kw_step rfl rfl rfl rfl ?_
  refine kw_step rfl rfl rfl rfl ?_
  refine kw_step rfl rfl rfl rfl ?_
  obtain ⟨q1, hq1, hf⟩ := gbind hf
  refine kw_callV (vs := [kr b1, kI x3]) rfl rfl rfl ⟨rfl, Nat.le_of_ble_eq_true rfl, Nat.le_of_ble_eq_true rfl, by decide⟩ (hH_O (rfl : kotab 51 = some kGo)) (c_Gossip_begin b1 hb1 x3 s _ hq1) (Nat.le_of_ble_eq_true rfl) ?_
  refine kw_step rfl rfl rfl rfl ?_
  refine kw_step (L' := [some (kr 51), some (kr b1), some (kq e2), some (kI x3), some (kI x4), some (kI 0), none, none]) rfl rfl rfl rfl ?_
  refine kw_step rfl rfl rfl rfl ?_
  refine kw_step (L' := [some (kr 51), some (kr b1), some (kq e2), some (kI x3), some (kI x4), some (kI 0), some (kI 1), none]) rfl rfl rfl rfl ?_
  refine kw_step rfl rfl rfl rfl ?_
  refine kw_step (L' := [some (kr 51), some (kr b1), some (kq e2), some (kI x3), some (kI x4), some (kI 0), some (kI 1), some (kI 0)]) rfl rfl rfl rfl ?_
  exact kW_le (L' := [some (kr 51), some (kr b1), some (kq e2), none, some (kI x4), some (kI 0), some (kI 1), some (kI 0)]) ⟨Or.inr rfl, Or.inr rfl, Or.inr rfl, Or.inl rfl, Or.inr rfl, Or.inr rfl, Or.inr rfl, Or.inr rfl, trivial⟩ (b_Gossip_minuteOf_10 b1 e2 hb1 x4 0 1 0 q1 _ hf hq)
