/-! PRINTED by wip/whole/decall.py: methods as functions over the flat world, with their contracts -/
def f_Bracket_tie (x1 : Int) (x2 : Int) (s : kM) : Option (Int × kM) :=
  (gI 44 x1).bind fun j1 => (gI 44 x2).bind fun j3 => if (s 47 j1) = x2 then (some (1, s)) else ((gI 44 (s 47 j1)).bind fun j6 => gLet (gU s 47 j6 (s 47 j3)) fun s8 => (gI 44 (s 47 j3)).bind fun j11 => gLet (gU s8 47 j11 (s 47 j1)) fun s13 => some (0, s13))
set_option maxRecDepth 8000 in
theorem c_Bracket_tie {sc : List Int} (x1 : Int) (x2 : Int) (s : kM) (t : Int × kM) (hf : f_Bracket_tie x1 x2 s = some t) : kR sc 0 km_Bracket_tie [kr 44, kI x1, kI x2] (hH s) (some (kI t.1)) (hH t.2) := by
  unfold f_Bracket_tie at hf
  refine kR.start rfl ?_
  show kW sc 0 kc_Bracket_tie 1 0 [some (kr 44), some (kI x1), some (kI x2), none, none] [] (hH s) _
  have hq : (fun (r : Option kV) (g : kH) => r = some (kI t.1) ∧ g = hH t.2) (some (kI t.1)) (hH t.2) := ⟨rfl, rfl⟩
  refine kw_step rfl rfl rfl rfl ?_
  refine kw_get rfl (hH_O (rfl : kotab 44 = some kBo)) rfl ?_
  refine kw_step rfl rfl rfl rfl ?_
  obtain ⟨j1, i2, hf⟩ := gbI hf
  refine kw_iald rfl (hH_A (rfl : ktab 47 = some (0, 44))) i2.1 i2.2.1 i2.2.2 ?_
  refine kw_step (L' := [some (kr 44), some (kI x1), some (kI x2), some (kI (s 47 j1)), none]) rfl rfl rfl rfl ?_
  refine kw_step rfl rfl rfl rfl ?_
  refine kw_get rfl (hH_O (rfl : kotab 44 = some kBo)) rfl ?_
  refine kw_step rfl rfl rfl rfl ?_
  obtain ⟨j3, i4, hf⟩ := gbI hf
  refine kw_iald rfl (hH_A (rfl : ktab 47 = some (0, 44))) i4.1 i4.2.1 i4.2.2 ?_
  refine kw_step (L' := [some (kr 44), some (kI x1), some (kI x2), some (kI (s 47 j1)), some (kI (s 47 j3))]) rfl rfl rfl rfl ?_
  refine kw_step rfl rfl rfl rfl ?_
  refine kw_step rfl rfl rfl rfl ?_
  refine kw_icmp_ne rfl rfl (fun c5 => ?_) (fun c5 => ?_)
  · have hf := giff c5 hf
    refine kw_step rfl rfl rfl rfl ?_
    refine kw_get rfl (hH_O (rfl : kotab 44 = some kBo)) rfl ?_
    refine kw_step rfl rfl rfl rfl ?_
    refine kw_step rfl rfl rfl rfl ?_
    obtain ⟨j6, i7, hf⟩ := gbI hf
    obtain ⟨s8, ee9, hf⟩ := gbL hf
    refine kw_iastH rfl (rfl : ktab 47 = some (0, 44)) i7.1 i7.2.1 i7.2.2 ee9 ?_
    refine kw_step rfl rfl rfl rfl ?_
    refine kw_get rfl (hH_O (rfl : kotab 44 = some kBo)) rfl ?_
    refine kw_step rfl rfl rfl rfl ?_
    refine kw_step rfl rfl rfl rfl ?_
    obtain ⟨j11, i12, hf⟩ := gbI hf
    obtain ⟨s13, ee14, hf⟩ := gbL hf
    refine kw_iastH rfl (rfl : ktab 47 = some (0, 44)) i12.1 i12.2.1 i12.2.2 ee14 ?_
    refine kw_step rfl rfl rfl rfl ?_
    cases hf
    exact kw_ret rfl rfl rfl hq
  · have hf := gift c5 hf
    refine kw_step rfl rfl rfl rfl ?_
    cases hf
    exact kw_ret rfl rfl rfl hq
def f_Bracket_untie (x1 : Int) (x2 : Int) (s : kM) : Option (kM) :=
  (gI 44 x1).bind fun j1 => (gI 44 x2).bind fun j3 => (gI 44 (s 47 j1)).bind fun j5 => gLet (gU s 47 j5 x1) fun s7 => (gI 44 (s 47 j3)).bind fun j10 => gLet (gU s7 47 j10 x2) fun s12 => some s12
set_option maxRecDepth 8000 in
theorem c_Bracket_untie {sc : List Int} (x1 : Int) (x2 : Int) (s : kM) (t : kM) (hf : f_Bracket_untie x1 x2 s = some t) : kR sc 0 km_Bracket_untie [kr 44, kI x1, kI x2] (hH s) none (hH t) := by
  unfold f_Bracket_untie at hf
  refine kR.start rfl ?_
  show kW sc 0 kc_Bracket_untie 0 0 [some (kr 44), some (kI x1), some (kI x2), none, none] [] (hH s) _
  have hq : (fun (r : Option kV) (g : kH) => r = none ∧ g = hH t) none (hH t) := ⟨rfl, rfl⟩
  refine kw_step rfl rfl rfl rfl ?_
  refine kw_get rfl (hH_O (rfl : kotab 44 = some kBo)) rfl ?_
  refine kw_step rfl rfl rfl rfl ?_
  obtain ⟨j1, i2, hf⟩ := gbI hf
  refine kw_iald rfl (hH_A (rfl : ktab 47 = some (0, 44))) i2.1 i2.2.1 i2.2.2 ?_
  refine kw_step (L' := [some (kr 44), some (kI x1), some (kI x2), some (kI (s 47 j1)), none]) rfl rfl rfl rfl ?_
  refine kw_step rfl rfl rfl rfl ?_
  refine kw_get rfl (hH_O (rfl : kotab 44 = some kBo)) rfl ?_
  refine kw_step rfl rfl rfl rfl ?_
  obtain ⟨j3, i4, hf⟩ := gbI hf
  refine kw_iald rfl (hH_A (rfl : ktab 47 = some (0, 44))) i4.1 i4.2.1 i4.2.2 ?_
  refine kw_step (L' := [some (kr 44), some (kI x1), some (kI x2), some (kI (s 47 j1)), some (kI (s 47 j3))]) rfl rfl rfl rfl ?_
  refine kw_step rfl rfl rfl rfl ?_
  refine kw_get rfl (hH_O (rfl : kotab 44 = some kBo)) rfl ?_
  refine kw_step rfl rfl rfl rfl ?_
  refine kw_step rfl rfl rfl rfl ?_
  obtain ⟨j5, i6, hf⟩ := gbI hf
  obtain ⟨s7, ee8, hf⟩ := gbL hf
  refine kw_iastH rfl (rfl : ktab 47 = some (0, 44)) i6.1 i6.2.1 i6.2.2 ee8 ?_
  refine kw_step rfl rfl rfl rfl ?_
  refine kw_get rfl (hH_O (rfl : kotab 44 = some kBo)) rfl ?_
  refine kw_step rfl rfl rfl rfl ?_
  refine kw_step rfl rfl rfl rfl ?_
  obtain ⟨j10, i11, hf⟩ := gbI hf
  obtain ⟨s12, ee13, hf⟩ := gbL hf
  refine kw_iastH rfl (rfl : ktab 47 = some (0, 44)) i11.1 i11.2.1 i11.2.2 ee13 ?_
  cases hf
  exact kw_ret rfl rfl rfl hq
def f_Bracket_cut (b1 : Nat) (rec : Nat → Int → Int → Int → kM → Option kM) (x2 : Int) (x3 : Int) (x4 : Int) (s : kM) : Option (kM) :=
  if x2 < 11 then ((f_Town_has b1 x2 s).bind fun q2 => if q2 = 0 then ((rec 0 (wI (x2 + 1)) x3 x4 s).bind fun q32 => some q32) else ((gI 11 x2).bind fun j4 => (f_Town_overAt b1 x2 s).bind fun q6 => (f_Town_underAt b1 x2 s).bind fun q7 => (gI 22 (kshr (wI (2 * q6)) 1)).bind fun j8 => (gI 22 (kshr (wI (2 * q7)) 1)).bind fun j10 => (f_Bracket_tie (wI ((wI (2 * (s (b1 + 4) j8))) + 1)) (wI (2 * q7)) s).bind fun q12 => (f_Bracket_tie (wI ((wI (2 * (s (b1 + 4) j10))) + 1)) (wI (2 * q6)) q12.2).bind fun q14 => (rec 0 (wI (x2 + 1)) (wI (x3 + (s (b1 + 2) j4))) (wI (x4 + (wI (q12.1 + q14.1)))) q14.2).bind fun q16 => (f_Bracket_untie (wI ((wI (2 * (s (b1 + 4) j10))) + 1)) (wI (2 * q6)) q16).bind fun q18 => (f_Bracket_untie (wI ((wI (2 * (s (b1 + 4) j8))) + 1)) (wI (2 * q7)) q18).bind fun q20 => (f_Bracket_tie (wI ((wI (2 * (s (b1 + 4) j8))) + 1)) (wI ((wI (2 * (s (b1 + 4) j10))) + 1)) q20).bind fun q22 => (f_Bracket_tie (wI (2 * q6)) (wI (2 * q7)) q22.2).bind fun q24 => (rec 0 (wI (x2 + 1)) (wI ((wI (x3 + 1)) - (s (b1 + 2) j4))) (wI (x4 + (wI (q22.1 + q24.1)))) q24.2).bind fun q26 => (f_Bracket_untie (wI (2 * q6)) (wI (2 * q7)) q26).bind fun q28 => (f_Bracket_untie (wI ((wI (2 * (s (b1 + 4) j8))) + 1)) (wI ((wI (2 * (s (b1 + 4) j10))) + 1)) q28).bind fun q30 => some q30)) else (if 16 ≤ x4 then (some s) else ((gI 192 (wI ((wI (x3 * 16)) + x4))).bind fun j35 => (gI 192 (wI ((wI (x3 * 16)) + x4))).bind fun j37 => gLet (gU s 46 j37 (wI ((s 46 j35) + 1))) fun s39 => some s39))
set_option maxRecDepth 8000 in
theorem c_Bracket_cut {sc : List Int} {e : Nat} (b1 : Nat) (hb1 : tT b1 = true) (rec : Nat → Int → Int → Int → kM → Option kM) (hrec : ∀ x2 x3 x4 s t, rec 0 x2 x3 x4 s = some t → kR sc e km_Bracket_cut [kr 44, kr b1, kI x2, kI x3, kI x4] (hH s) none (hH t)) (x2 : Int) (x3 : Int) (x4 : Int) (s : kM) (t : kM) (hf : f_Bracket_cut b1 rec x2 x3 x4 s = some t) : kR sc (e + 1) km_Bracket_cut [kr 44, kr b1, kI x2, kI x3, kI x4] (hH s) none (hH t) := by
  unfold f_Bracket_cut at hf
  refine kR.start rfl ?_
  show kW sc (e + 1) kc_Bracket_cut 0 0 [some (kr 44), some (kr b1), some (kI x2), some (kI x3), some (kI x4), none, none, none, none, none, none] [] (hH s) _
  have hq : (fun (r : Option kV) (g : kH) => r = none ∧ g = hH t) none (hH t) := ⟨rfl, rfl⟩
  refine kw_step rfl rfl rfl rfl ?_
  refine kw_step rfl rfl rfl rfl ?_
  refine kw_icmp_lt rfl rfl (fun c1 => ?_) (fun c1 => ?_)
  · have hf := gift c1 hf
    refine kw_step rfl rfl rfl rfl ?_
    refine kw_step rfl rfl rfl rfl ?_
    obtain ⟨q2, hq2, hf⟩ := gbind hf
    refine kw_callV (vs := [kI x2]) rfl rfl rfl ⟨rfl, Nat.le_of_ble_eq_true rfl, Nat.le_of_ble_eq_true rfl, by decide⟩ (hH_O (tT_0 hb1)) (c_Town_has b1 hb1 x2 s _ hq2) (by omega) ?_
    refine kw_if_ne rfl rfl (fun c3 => ?_) (fun c3 => ?_)
    · have hf := giff c3 hf
      refine kw_step rfl rfl rfl rfl ?_
      refine kw_get rfl (hH_O (tT_0 hb1)) rfl ?_
      refine kw_step rfl rfl rfl rfl ?_
      obtain ⟨j4, i5, hf⟩ := gbI hf
      refine kw_iald rfl (hH_A (tT_2 hb1)) i5.1 i5.2.1 i5.2.2 ?_
      refine kw_step (L' := [some (kr 44), some (kr b1), some (kI x2), some (kI x3), some (kI x4), some (kI (s (b1 + 2) j4)), none, none, none, none, none]) rfl rfl rfl rfl ?_
      refine kw_step rfl rfl rfl rfl ?_
      refine kw_step rfl rfl rfl rfl ?_
      refine kw_step rfl rfl rfl rfl ?_
      obtain ⟨q6, hq6, hf⟩ := gbind hf
      refine kw_callV (vs := [kI x2]) rfl rfl rfl ⟨rfl, Nat.le_of_ble_eq_true rfl, Nat.le_of_ble_eq_true rfl, by decide⟩ (hH_O (tT_0 hb1)) (c_Town_overAt b1 hb1 x2 s _ hq6) (by omega) ?_
      refine kw_step rfl rfl rfl rfl ?_
      refine kw_step (L' := [some (kr 44), some (kr b1), some (kI x2), some (kI x3), some (kI x4), some (kI (s (b1 + 2) j4)), some (kI (wI (2 * q6))), none, none, none, none]) rfl rfl rfl rfl ?_
      refine kw_step rfl rfl rfl rfl ?_
      refine kw_step rfl rfl rfl rfl ?_
      refine kw_step rfl rfl rfl rfl ?_
      obtain ⟨q7, hq7, hf⟩ := gbind hf
      refine kw_callV (vs := [kI x2]) rfl rfl rfl ⟨rfl, Nat.le_of_ble_eq_true rfl, Nat.le_of_ble_eq_true rfl, by decide⟩ (hH_O (tT_0 hb1)) (c_Town_underAt b1 hb1 x2 s _ hq7) (by omega) ?_
      refine kw_step rfl rfl rfl rfl ?_
      refine kw_step (L' := [some (kr 44), some (kr b1), some (kI x2), some (kI x3), some (kI x4), some (kI (s (b1 + 2) j4)), some (kI (wI (2 * q6))), some (kI (wI (2 * q7))), none, none, none]) rfl rfl rfl rfl ?_
      refine kw_step rfl rfl rfl rfl ?_
      refine kw_step rfl rfl rfl rfl ?_
      refine kw_get rfl (hH_O (tT_0 hb1)) rfl ?_
      refine kw_step rfl rfl rfl rfl ?_
      refine kw_step rfl rfl rfl rfl ?_
      refine kw_step rfl rfl rfl rfl ?_
      obtain ⟨j8, i9, hf⟩ := gbI hf
      refine kw_iald rfl (hH_A (tT_4 hb1)) i9.1 i9.2.1 i9.2.2 ?_
      refine kw_step rfl rfl rfl rfl ?_
      refine kw_step rfl rfl rfl rfl ?_
      refine kw_step rfl rfl rfl rfl ?_
      refine kw_step (L' := [some (kr 44), some (kr b1), some (kI x2), some (kI x3), some (kI x4), some (kI (s (b1 + 2) j4)), some (kI (wI (2 * q6))), some (kI (wI (2 * q7))), some (kI (wI ((wI (2 * (s (b1 + 4) j8))) + 1))), none, none]) rfl rfl rfl rfl ?_
      refine kw_step rfl rfl rfl rfl ?_
      refine kw_step rfl rfl rfl rfl ?_
      refine kw_get rfl (hH_O (tT_0 hb1)) rfl ?_
      refine kw_step rfl rfl rfl rfl ?_
      refine kw_step rfl rfl rfl rfl ?_
      refine kw_step rfl rfl rfl rfl ?_
      obtain ⟨j10, i11, hf⟩ := gbI hf
      refine kw_iald rfl (hH_A (tT_4 hb1)) i11.1 i11.2.1 i11.2.2 ?_
      refine kw_step rfl rfl rfl rfl ?_
      refine kw_step rfl rfl rfl rfl ?_
      refine kw_step rfl rfl rfl rfl ?_
      refine kw_step (L' := [some (kr 44), some (kr b1), some (kI x2), some (kI x3), some (kI x4), some (kI (s (b1 + 2) j4)), some (kI (wI (2 * q6))), some (kI (wI (2 * q7))), some (kI (wI ((wI (2 * (s (b1 + 4) j8))) + 1))), some (kI (wI ((wI (2 * (s (b1 + 4) j10))) + 1))), none]) rfl rfl rfl rfl ?_
      refine kw_step rfl rfl rfl rfl ?_
      refine kw_step rfl rfl rfl rfl ?_
      refine kw_step rfl rfl rfl rfl ?_
      obtain ⟨q12, hq12, hf⟩ := gbind hf
      refine kw_callV (vs := [kI (wI ((wI (2 * (s (b1 + 4) j8))) + 1)), kI (wI (2 * q7))]) rfl rfl rfl ⟨rfl, Nat.le_of_ble_eq_true rfl, Nat.le_of_ble_eq_true rfl, by decide⟩ (hH_O (rfl : kotab 44 = some kBo)) (c_Bracket_tie (wI ((wI (2 * (s (b1 + 4) j8))) + 1)) (wI (2 * q7)) s _ hq12) (by omega) ?_
      refine kw_step rfl rfl rfl rfl ?_
      refine kw_step rfl rfl rfl rfl ?_
      refine kw_step rfl rfl rfl rfl ?_
      obtain ⟨q14, hq14, hf⟩ := gbind hf
      refine kw_callV (vs := [kI (wI ((wI (2 * (s (b1 + 4) j10))) + 1)), kI (wI (2 * q6))]) rfl rfl rfl ⟨rfl, Nat.le_of_ble_eq_true rfl, Nat.le_of_ble_eq_true rfl, by decide⟩ (hH_O (rfl : kotab 44 = some kBo)) (c_Bracket_tie (wI ((wI (2 * (s (b1 + 4) j10))) + 1)) (wI (2 * q6)) q12.2 _ hq14) (by omega) ?_
      refine kw_step rfl rfl rfl rfl ?_
      refine kw_step (L' := [some (kr 44), some (kr b1), some (kI x2), some (kI x3), some (kI x4), some (kI (s (b1 + 2) j4)), some (kI (wI (2 * q6))), some (kI (wI (2 * q7))), some (kI (wI ((wI (2 * (s (b1 + 4) j8))) + 1))), some (kI (wI ((wI (2 * (s (b1 + 4) j10))) + 1))), some (kI (wI (q12.1 + q14.1)))]) rfl rfl rfl rfl ?_
      refine kw_step rfl rfl rfl rfl ?_
      refine kw_step rfl rfl rfl rfl ?_
      refine kw_step rfl rfl rfl rfl ?_
      refine kw_step rfl rfl rfl rfl ?_
      refine kw_step rfl rfl rfl rfl ?_
      refine kw_step rfl rfl rfl rfl ?_
      refine kw_step rfl rfl rfl rfl ?_
      refine kw_step rfl rfl rfl rfl ?_
      refine kw_step rfl rfl rfl rfl ?_
      refine kw_step rfl rfl rfl rfl ?_
      refine kw_step rfl rfl rfl rfl ?_
      obtain ⟨q16, hq16, hf⟩ := gbind hf
      refine kw_callS (vs := [kr 44, kr b1, kI (wI (x2 + 1)), kI (wI (x3 + (s (b1 + 2) j4))), kI (wI (x4 + (wI (q12.1 + q14.1))))]) rfl rfl rfl ⟨rfl, Nat.le_of_ble_eq_true rfl, Nat.le_of_ble_eq_true rfl, rfl⟩ (hrec (wI (x2 + 1)) (wI (x3 + (s (b1 + 2) j4))) (wI (x4 + (wI (q12.1 + q14.1)))) _ _ hq16) (by omega) ?_
      refine kw_step rfl rfl rfl rfl ?_
      refine kw_step rfl rfl rfl rfl ?_
      refine kw_step rfl rfl rfl rfl ?_
      obtain ⟨q18, hq18, hf⟩ := gbind hf
      refine kw_callV (vs := [kI (wI ((wI (2 * (s (b1 + 4) j10))) + 1)), kI (wI (2 * q6))]) rfl rfl rfl ⟨rfl, Nat.le_of_ble_eq_true rfl, Nat.le_of_ble_eq_true rfl, by decide⟩ (hH_O (rfl : kotab 44 = some kBo)) (c_Bracket_untie (wI ((wI (2 * (s (b1 + 4) j10))) + 1)) (wI (2 * q6)) q16 _ hq18) (by omega) ?_
      refine kw_step rfl rfl rfl rfl ?_
      refine kw_step rfl rfl rfl rfl ?_
      refine kw_step rfl rfl rfl rfl ?_
      obtain ⟨q20, hq20, hf⟩ := gbind hf
      refine kw_callV (vs := [kI (wI ((wI (2 * (s (b1 + 4) j8))) + 1)), kI (wI (2 * q7))]) rfl rfl rfl ⟨rfl, Nat.le_of_ble_eq_true rfl, Nat.le_of_ble_eq_true rfl, by decide⟩ (hH_O (rfl : kotab 44 = some kBo)) (c_Bracket_untie (wI ((wI (2 * (s (b1 + 4) j8))) + 1)) (wI (2 * q7)) q18 _ hq20) (by omega) ?_
      refine kw_step rfl rfl rfl rfl ?_
      refine kw_step rfl rfl rfl rfl ?_
      refine kw_step rfl rfl rfl rfl ?_
      obtain ⟨q22, hq22, hf⟩ := gbind hf
      refine kw_callV (vs := [kI (wI ((wI (2 * (s (b1 + 4) j8))) + 1)), kI (wI ((wI (2 * (s (b1 + 4) j10))) + 1))]) rfl rfl rfl ⟨rfl, Nat.le_of_ble_eq_true rfl, Nat.le_of_ble_eq_true rfl, by decide⟩ (hH_O (rfl : kotab 44 = some kBo)) (c_Bracket_tie (wI ((wI (2 * (s (b1 + 4) j8))) + 1)) (wI ((wI (2 * (s (b1 + 4) j10))) + 1)) q20 _ hq22) (by omega) ?_
      refine kw_step rfl rfl rfl rfl ?_
      refine kw_step rfl rfl rfl rfl ?_
      refine kw_step rfl rfl rfl rfl ?_
      obtain ⟨q24, hq24, hf⟩ := gbind hf
      refine kw_callV (vs := [kI (wI (2 * q6)), kI (wI (2 * q7))]) rfl rfl rfl ⟨rfl, Nat.le_of_ble_eq_true rfl, Nat.le_of_ble_eq_true rfl, by decide⟩ (hH_O (rfl : kotab 44 = some kBo)) (c_Bracket_tie (wI (2 * q6)) (wI (2 * q7)) q22.2 _ hq24) (by omega) ?_
      refine kw_step rfl rfl rfl rfl ?_
      refine kw_step (L' := [some (kr 44), some (kr b1), some (kI x2), some (kI x3), some (kI x4), some (kI (s (b1 + 2) j4)), some (kI (wI (2 * q6))), some (kI (wI (2 * q7))), some (kI (wI ((wI (2 * (s (b1 + 4) j8))) + 1))), some (kI (wI ((wI (2 * (s (b1 + 4) j10))) + 1))), some (kI (wI (q22.1 + q24.1)))]) rfl rfl rfl rfl ?_
      refine kw_step rfl rfl rfl rfl ?_
      refine kw_step rfl rfl rfl rfl ?_
      refine kw_step rfl rfl rfl rfl ?_
      refine kw_step rfl rfl rfl rfl ?_
      refine kw_step rfl rfl rfl rfl ?_
      refine kw_step rfl rfl rfl rfl ?_
      refine kw_step rfl rfl rfl rfl ?_
      refine kw_step rfl rfl rfl rfl ?_
      refine kw_step rfl rfl rfl rfl ?_
      refine kw_step rfl rfl rfl rfl ?_
      refine kw_step rfl rfl rfl rfl ?_
      refine kw_step rfl rfl rfl rfl ?_
      refine kw_step rfl rfl rfl rfl ?_
      obtain ⟨q26, hq26, hf⟩ := gbind hf
      refine kw_callS (vs := [kr 44, kr b1, kI (wI (x2 + 1)), kI (wI ((wI (x3 + 1)) - (s (b1 + 2) j4))), kI (wI (x4 + (wI (q22.1 + q24.1))))]) rfl rfl rfl ⟨rfl, Nat.le_of_ble_eq_true rfl, Nat.le_of_ble_eq_true rfl, rfl⟩ (hrec (wI (x2 + 1)) (wI ((wI (x3 + 1)) - (s (b1 + 2) j4))) (wI (x4 + (wI (q22.1 + q24.1)))) _ _ hq26) (by omega) ?_
      refine kw_step rfl rfl rfl rfl ?_
      refine kw_step rfl rfl rfl rfl ?_
      refine kw_step rfl rfl rfl rfl ?_
      obtain ⟨q28, hq28, hf⟩ := gbind hf
      refine kw_callV (vs := [kI (wI (2 * q6)), kI (wI (2 * q7))]) rfl rfl rfl ⟨rfl, Nat.le_of_ble_eq_true rfl, Nat.le_of_ble_eq_true rfl, by decide⟩ (hH_O (rfl : kotab 44 = some kBo)) (c_Bracket_untie (wI (2 * q6)) (wI (2 * q7)) q26 _ hq28) (by omega) ?_
      refine kw_step rfl rfl rfl rfl ?_
      refine kw_step rfl rfl rfl rfl ?_
      refine kw_step rfl rfl rfl rfl ?_
      obtain ⟨q30, hq30, hf⟩ := gbind hf
      refine kw_callV (vs := [kI (wI ((wI (2 * (s (b1 + 4) j8))) + 1)), kI (wI ((wI (2 * (s (b1 + 4) j10))) + 1))]) rfl rfl rfl ⟨rfl, Nat.le_of_ble_eq_true rfl, Nat.le_of_ble_eq_true rfl, by decide⟩ (hH_O (rfl : kotab 44 = some kBo)) (c_Bracket_untie (wI ((wI (2 * (s (b1 + 4) j8))) + 1)) (wI ((wI (2 * (s (b1 + 4) j10))) + 1)) q28 _ hq30) (by omega) ?_
      cases hf
      exact kw_ret rfl rfl rfl hq
    · have hf := gift c3 hf
      refine kw_step rfl rfl rfl rfl ?_
      refine kw_step rfl rfl rfl rfl ?_
      refine kw_step rfl rfl rfl rfl ?_
      refine kw_step rfl rfl rfl rfl ?_
      refine kw_step rfl rfl rfl rfl ?_
      refine kw_step rfl rfl rfl rfl ?_
      refine kw_step rfl rfl rfl rfl ?_
      obtain ⟨q32, hq32, hf⟩ := gbind hf
      refine kw_callS (vs := [kr 44, kr b1, kI (wI (x2 + 1)), kI x3, kI x4]) rfl rfl rfl ⟨rfl, Nat.le_of_ble_eq_true rfl, Nat.le_of_ble_eq_true rfl, rfl⟩ (hrec (wI (x2 + 1)) x3 x4 _ _ hq32) (by omega) ?_
      cases hf
      exact kw_ret rfl rfl rfl hq
  · have hf := giff c1 hf
    refine kw_step rfl rfl rfl rfl ?_
    refine kw_step rfl rfl rfl rfl ?_
    refine kw_icmp_ge rfl rfl (fun c34 => ?_) (fun c34 => ?_)
    · have hf := gift c34 hf
      cases hf
      exact kw_ret rfl rfl rfl hq
    · have hf := giff c34 hf
      refine kw_step rfl rfl rfl rfl ?_
      refine kw_get rfl (hH_O (rfl : kotab 44 = some kBo)) rfl ?_
      refine kw_step rfl rfl rfl rfl ?_
      refine kw_step rfl rfl rfl rfl ?_
      refine kw_step rfl rfl rfl rfl ?_
      refine kw_step rfl rfl rfl rfl ?_
      refine kw_step rfl rfl rfl rfl ?_
      refine kw_step rfl rfl rfl rfl ?_
      obtain ⟨j35, i36, hf⟩ := gbI hf
      refine kw_iald rfl (hH_A (rfl : ktab 46 = some (0, 192))) i36.1 i36.2.1 i36.2.2 ?_
      refine kw_step rfl rfl rfl rfl ?_
      refine kw_step rfl rfl rfl rfl ?_
      obtain ⟨j37, i38, hf⟩ := gbI hf
      obtain ⟨s39, ee40, hf⟩ := gbL hf
      refine kw_iastH rfl (rfl : ktab 46 = some (0, 192)) i38.1 i38.2.1 i38.2.2 ee40 ?_
      cases hf
      exact kw_ret rfl rfl rfl hq
def fr_Bracket_cut (b1 : Nat) : Nat → Nat → Int → Int → Int → kM → Option kM
  | 0, _, _, _, _, _ => none
  | n + 1, _, x2, x3, x4, s => f_Bracket_cut b1 (fr_Bracket_cut b1 n) x2 x3 x4 s
theorem cr_Bracket_cut {sc : List Int} (b1 : Nat) (hb1 : tT b1 = true) : ∀ (n : Nat) (x2 x3 x4 : Int) (s t : kM), fr_Bracket_cut b1 n 0 x2 x3 x4 s = some t → kR sc (n * 1) km_Bracket_cut [kr 44, kr b1, kI x2, kI x3, kI x4] (hH s) none (hH t) := by
  intro n
  induction n with
  | zero => intro x2 x3 x4 s t h; cases h
  | succ n ih =>
    intro x2 x3 x4 s t h
    have := c_Bracket_cut (e := n * 1) b1 hb1 (fr_Bracket_cut b1 n) ih x2 x3 x4 s t h
    rw [Nat.succ_mul]
    exact this
def f_Bracket_addUp_43 (x1 : Int) (x2 : Int) (x4 : Int) (x5 : Int) (s : kM) : Option ((Int × Int × kM) ⊕ (kM)) :=
  (gD (wI (x5 + 1))).bind fun _ => some (.inl ((kdiv (wI (x4 * (wI (x2 - x5)))) (wI (x5 + 1))), (wI (x5 + 1)), s))
set_option maxRecDepth 8000 in
theorem b_Bracket_addUp_43 {sc : List Int} {Q : Option kV → kH → Prop} (x1 : Int) (x2 : Int) (x4 : Int) (x5 : Int) (s : kM) (t : (Int × Int × kM) ⊕ (kM)) (hf : f_Bracket_addUp_43 x1 x2 x4 x5 s = some t) (hq : (gE (fun x => kW sc 0 kc_Bracket_addUp 0 11 [some (kr 44), some (kI x1), some (kI x2), none, some (kI x.1), some (kI x.2.1), none] [] (hH x.2.2) Q) (fun r => Q none (hH r))) t) : kW sc 0 kc_Bracket_addUp 0 43 [some (kr 44), some (kI x1), some (kI x2), none, some (kI x4), some (kI x5), none] [] (hH s) Q := by
  unfold f_Bracket_addUp_43 at hf
  refine kw_step rfl rfl rfl rfl ?_
  refine kw_step rfl rfl rfl rfl ?_
  refine kw_step rfl rfl rfl rfl ?_
  refine kw_step rfl rfl rfl rfl ?_
  refine kw_step rfl rfl rfl rfl ?_
  refine kw_step rfl rfl rfl rfl ?_
  refine kw_step rfl rfl rfl rfl ?_
  refine kw_step rfl rfl rfl rfl ?_
  obtain ⟨z1, hf⟩ := gbD hf
  refine kw_idiv rfl z1 ?_
  refine kw_step (L' := [some (kr 44), some (kI x1), some (kI x2), none, some (kI (kdiv (wI (x4 * (wI (x2 - x5)))) (wI (x5 + 1)))), some (kI x5), none]) rfl rfl rfl rfl ?_
  refine kw_step (L' := [some (kr 44), some (kI x1), some (kI x2), none, some (kI (kdiv (wI (x4 * (wI (x2 - x5)))) (wI (x5 + 1)))), some (kI (wI (x5 + 1))), none]) rfl rfl rfl rfl ?_
  refine kw_goto rfl rfl ?_
  cases hf
  exact kW_le (L' := [some (kr 44), some (kI x1), some (kI x2), none, some (kI (kdiv (wI (x4 * (wI (x2 - x5)))) (wI (x5 + 1)))), some (kI (wI (x5 + 1))), none]) ⟨Or.inr rfl, Or.inr rfl, Or.inr rfl, Or.inl rfl, Or.inr rfl, Or.inr rfl, Or.inl rfl, trivial⟩ hq
def f_Bracket_addUp_11b (x1 : Int) (x2 : Int) (x4 : Int) (x5 : Int) (s : kM) : Option ((Int × Int × kM) ⊕ (kM)) :=
  if x2 < x5 then (some (.inr s)) else (if x4 = 0 then (some (.inr s)) else (if (wI ((wI ((wI (x1 + (wI (2 * x2)))) - (wI (4 * x5)))) + 99)) < 0 then (f_Bracket_addUp_43 x1 x2 x4 x5 s) else (if 199 ≤ (wI ((wI ((wI (x1 + (wI (2 * x2)))) - (wI (4 * x5)))) + 99)) then (f_Bracket_addUp_43 x1 x2 x4 x5 s) else ((gI 199 (wI ((wI ((wI (x1 + (wI (2 * x2)))) - (wI (4 * x5)))) + 99))).bind fun j5 => (gI 199 (wI ((wI ((wI (x1 + (wI (2 * x2)))) - (wI (4 * x5)))) + 99))).bind fun j7 => gLet (gU s 45 j7 (wI ((s 45 j5) + x4))) fun s9 => f_Bracket_addUp_43 x1 x2 x4 x5 s9))))
set_option maxRecDepth 8000 in
theorem b_Bracket_addUp_11b {sc : List Int} {Q : Option kV → kH → Prop} (x1 : Int) (x2 : Int) (x4 : Int) (x5 : Int) (s : kM) (t : (Int × Int × kM) ⊕ (kM)) (hf : f_Bracket_addUp_11b x1 x2 x4 x5 s = some t) (hq : (gE (fun x => kW sc 0 kc_Bracket_addUp 0 11 [some (kr 44), some (kI x1), some (kI x2), none, some (kI x.1), some (kI x.2.1), none] [] (hH x.2.2) Q) (fun r => Q none (hH r))) t) : kW sc 0 kc_Bracket_addUp 0 11 [some (kr 44), some (kI x1), some (kI x2), none, some (kI x4), some (kI x5), none] [] (hH s) Q := by
  unfold f_Bracket_addUp_11b at hf
  refine kw_step rfl rfl rfl rfl ?_
  refine kw_step rfl rfl rfl rfl ?_
  refine kw_icmp_gt rfl rfl (fun c1 => ?_) (fun c1 => ?_)
  · have hf := gift c1 hf
    cases hf
    exact kw_ret rfl rfl rfl hq
  · have hf := giff c1 hf
    refine kw_step rfl rfl rfl rfl ?_
    refine kw_if_eq rfl rfl (fun c2 => ?_) (fun c2 => ?_)
    · have hf := gift c2 hf
      cases hf
      exact kw_ret rfl rfl rfl hq
    · have hf := giff c2 hf
      refine kw_step rfl rfl rfl rfl ?_
      refine kw_step rfl rfl rfl rfl ?_
      refine kw_step rfl rfl rfl rfl ?_
      refine kw_step rfl rfl rfl rfl ?_
      refine kw_step rfl rfl rfl rfl ?_
      refine kw_step rfl rfl rfl rfl ?_
      refine kw_step rfl rfl rfl rfl ?_
      refine kw_step rfl rfl rfl rfl ?_
      refine kw_step rfl rfl rfl rfl ?_
      refine kw_step rfl rfl rfl rfl ?_
      refine kw_step rfl rfl rfl rfl ?_
      refine kw_step (L' := [some (kr 44), some (kI x1), some (kI x2), none, some (kI x4), some (kI x5), some (kI (wI ((wI ((wI (x1 + (wI (2 * x2)))) - (wI (4 * x5)))) + 99)))]) rfl rfl rfl rfl ?_
      refine kw_step rfl rfl rfl rfl ?_
      refine kw_if_lt rfl rfl (fun c3 => ?_) (fun c3 => ?_)
      · have hf := gift c3 hf
        exact kW_le (L' := [some (kr 44), some (kI x1), some (kI x2), none, some (kI x4), some (kI x5), none]) ⟨Or.inr rfl, Or.inr rfl, Or.inr rfl, Or.inl rfl, Or.inr rfl, Or.inr rfl, Or.inl rfl, trivial⟩ (b_Bracket_addUp_43 x1 x2 x4 x5 s _ hf hq)
      · have hf := giff c3 hf
        refine kw_step rfl rfl rfl rfl ?_
        refine kw_step rfl rfl rfl rfl ?_
        refine kw_get rfl (hH_O (rfl : kotab 44 = some kBo)) rfl ?_
        refine kw_alen rfl (hH_A (rfl : ktab 45 = some (0, 199))) (by decide) ?_
        show kW _ _ _ _ _ _ [kI 199, kI (wI ((wI ((wI (x1 + (wI (2 * x2)))) - (wI (4 * x5)))) + 99))] _ _
        refine kw_icmp_ge rfl rfl (fun c4 => ?_) (fun c4 => ?_)
        · have hf := gift c4 hf
          exact kW_le (L' := [some (kr 44), some (kI x1), some (kI x2), none, some (kI x4), some (kI x5), none]) ⟨Or.inr rfl, Or.inr rfl, Or.inr rfl, Or.inl rfl, Or.inr rfl, Or.inr rfl, Or.inl rfl, trivial⟩ (b_Bracket_addUp_43 x1 x2 x4 x5 s _ hf hq)
        · have hf := giff c4 hf
          refine kw_step rfl rfl rfl rfl ?_
          refine kw_get rfl (hH_O (rfl : kotab 44 = some kBo)) rfl ?_
          refine kw_step rfl rfl rfl rfl ?_
          refine kw_step rfl rfl rfl rfl ?_
          obtain ⟨j5, i6, hf⟩ := gbI hf
          refine kw_iald rfl (hH_A (rfl : ktab 45 = some (0, 199))) i6.1 i6.2.1 i6.2.2 ?_
          refine kw_step rfl rfl rfl rfl ?_
          refine kw_step rfl rfl rfl rfl ?_
          obtain ⟨j7, i8, hf⟩ := gbI hf
          obtain ⟨s9, ee10, hf⟩ := gbL hf
          refine kw_iastH rfl (rfl : ktab 45 = some (0, 199)) i8.1 i8.2.1 i8.2.2 ee10 ?_
          exact kW_le (L' := [some (kr 44), some (kI x1), some (kI x2), none, some (kI x4), some (kI x5), none]) ⟨Or.inr rfl, Or.inr rfl, Or.inr rfl, Or.inl rfl, Or.inr rfl, Or.inr rfl, Or.inl rfl, trivial⟩ (b_Bracket_addUp_43 x1 x2 x4 x5 s9 _ hf hq)
def f_Bracket_addUp_11 (x1 : Int) (x2 : Int) (x4 : Int) (x5 : Int) (s : kM) : Option (kM) :=
  gL (fun (x : Int × Int × kM) => f_Bracket_addUp_11b x1 x2 x.1 x.2.1 x.2.2) gF (x4, x5, s)
theorem b_Bracket_addUp_11 {sc : List Int} {Q : Option kV → kH → Prop} (x1 : Int) (x2 : Int) (x4 : Int) (x5 : Int) (s : kM) (t : kM) (hf : f_Bracket_addUp_11 x1 x2 x4 x5 s = some t) (hq : (fun r => Q none (hH r)) t) : kW sc 0 kc_Bracket_addUp 0 11 [some (kr 44), some (kI x1), some (kI x2), none, some (kI x4), some (kI x5), none] [] (hH s) Q :=
  gL_ind (P := fun (x : Int × Int × kM) => kW sc 0 kc_Bracket_addUp 0 11 [some (kr 44), some (kI x1), some (kI x2), none, some (kI x.1), some (kI x.2.1), none] [] (hH x.2.2) Q) (q := (fun r => Q none (hH r))) (fun x t hf hq => b_Bracket_addUp_11b x1 x2 x.1 x.2.1 x.2.2 t hf hq) gF (x4, x5, s) t hf hq
def f_Bracket_addUp_8 (x1 : Int) (x2 : Int) (y0 : Int) (s : kM) : Option (kM) :=
  f_Bracket_addUp_11 x1 x2 y0 0 s
set_option maxRecDepth 8000 in
theorem b_Bracket_addUp_8 {sc : List Int} {Q : Option kV → kH → Prop} (x1 : Int) (x2 : Int) (y0 : Int) (s : kM) (t : kM) (hf : f_Bracket_addUp_8 x1 x2 y0 s = some t) (hq : (fun r => Q none (hH r)) t) : kW sc 0 kc_Bracket_addUp 0 8 [some (kr 44), some (kI x1), some (kI x2), none, none, none, none] [kI y0] (hH s) Q := by
  unfold f_Bracket_addUp_8 at hf
  refine kw_step (L' := [some (kr 44), some (kI x1), some (kI x2), none, some (kI y0), none, none]) rfl rfl rfl rfl ?_
  refine kw_step rfl rfl rfl rfl ?_
  refine kw_step (L' := [some (kr 44), some (kI x1), some (kI x2), none, some (kI y0), some (kI 0), none]) rfl rfl rfl rfl ?_
  exact kW_le (L' := [some (kr 44), some (kI x1), some (kI x2), none, some (kI y0), some (kI 0), none]) ⟨Or.inr rfl, Or.inr rfl, Or.inr rfl, Or.inl rfl, Or.inr rfl, Or.inr rfl, Or.inl rfl, trivial⟩ (b_Bracket_addUp_11 x1 x2 y0 0 s _ hf hq)
def f_Bracket_addUp (x1 : Int) (x2 : Int) (x3 : Int) (s : kM) : Option (kM) :=
  if (kand x2 1) = 0 then (f_Bracket_addUp_8 x1 x2 x3 s) else (f_Bracket_addUp_8 x1 x2 (wI (-x3)) s)
set_option maxRecDepth 8000 in
theorem c_Bracket_addUp {sc : List Int} (x1 : Int) (x2 : Int) (x3 : Int) (s : kM) (t : kM) (hf : f_Bracket_addUp x1 x2 x3 s = some t) : kR sc 0 km_Bracket_addUp [kr 44, kI x1, kI x2, kI x3] (hH s) none (hH t) := by
  unfold f_Bracket_addUp at hf
  refine kR.start rfl ?_
  show kW sc 0 kc_Bracket_addUp 0 0 [some (kr 44), some (kI x1), some (kI x2), some (kI x3), none, none, none] [] (hH s) _
  have hq : (fun (r : Option kV) (g : kH) => r = none ∧ g = hH t) none (hH t) := ⟨rfl, rfl⟩
  refine kw_step rfl rfl rfl rfl ?_
  refine kw_step rfl rfl rfl rfl ?_
  refine kw_step rfl rfl rfl rfl ?_
  refine kw_if_ne rfl rfl (fun c1 => ?_) (fun c1 => ?_)
  · have hf := giff c1 hf
    refine kw_step rfl rfl rfl rfl ?_
    refine kw_step rfl rfl rfl rfl ?_
    exact kW_le (L' := [some (kr 44), some (kI x1), some (kI x2), none, none, none, none]) ⟨Or.inr rfl, Or.inr rfl, Or.inr rfl, Or.inl rfl, Or.inl rfl, Or.inl rfl, Or.inl rfl, trivial⟩ (b_Bracket_addUp_8 x1 x2 (wI (-x3)) s _ hf hq)
  · have hf := gift c1 hf
    refine kw_step rfl rfl rfl rfl ?_
    refine kw_goto rfl rfl ?_
    exact kW_le (L' := [some (kr 44), some (kI x1), some (kI x2), none, none, none, none]) ⟨Or.inr rfl, Or.inr rfl, Or.inr rfl, Or.inl rfl, Or.inl rfl, Or.inl rfl, Or.inl rfl, trivial⟩ (b_Bracket_addUp_8 x1 x2 x3 s _ hf hq)
def f_Bracket_prepare_46b (b1 : Nat) (x2 : Int) (x3 : Int) (s : kM) : Option ((Int × kM) ⊕ ((Int × kM) ⊕ (kM))) :=
  if 16 ≤ x3 then (some (.inr (.inl ((wI (x2 + 1)), s)))) else ((f_Town_bridges b1 s).bind fun q2 => (gI 192 (wI ((wI (x2 * 16)) + x3))).bind fun j3 => (f_Bracket_addUp (wI ((wI (2 * x2)) - q2)) (wI (x3 - 1)) (s 46 j3) s).bind fun q5 => some (.inl ((wI (x3 + 1)), q5)))
set_option maxRecDepth 8000 in
theorem b_Bracket_prepare_46b {sc : List Int} {Q : Option kV → kH → Prop} (b1 : Nat) (hb1 : tT b1 = true) (x2 : Int) (x3 : Int) (s : kM) (t : (Int × kM) ⊕ ((Int × kM) ⊕ (kM))) (hf : f_Bracket_prepare_46b b1 x2 x3 s = some t) (hq : (gE (fun x => kW sc 17 kc_Bracket_prepare 0 46 [some (kr 44), some (kr b1), some (kI x2), some (kI x.1)] [] (hH x.2) Q) (gE (fun x => kW sc 17 kc_Bracket_prepare 0 40 [some (kr 44), some (kr b1), some (kI x.1), none] [] (hH x.2) Q) (fun r => Q none (hH r)))) t) : kW sc 17 kc_Bracket_prepare 0 46 [some (kr 44), some (kr b1), some (kI x2), some (kI x3)] [] (hH s) Q := by
  unfold f_Bracket_prepare_46b at hf
  refine kw_step rfl rfl rfl rfl ?_
  refine kw_step rfl rfl rfl rfl ?_
  refine kw_icmp_ge rfl rfl (fun c1 => ?_) (fun c1 => ?_)
  · have hf := gift c1 hf
    refine kw_step (L' := [some (kr 44), some (kr b1), some (kI (wI (x2 + 1))), some (kI x3)]) rfl rfl rfl rfl ?_
    refine kw_goto rfl rfl ?_
    cases hf
    exact kW_le (L' := [some (kr 44), some (kr b1), some (kI (wI (x2 + 1))), none]) ⟨Or.inr rfl, Or.inr rfl, Or.inr rfl, Or.inl rfl, trivial⟩ hq
  · have hf := giff c1 hf
    refine kw_step rfl rfl rfl rfl ?_
    refine kw_step rfl rfl rfl rfl ?_
    refine kw_step rfl rfl rfl rfl ?_
    refine kw_step rfl rfl rfl rfl ?_
    refine kw_step rfl rfl rfl rfl ?_
    obtain ⟨q2, hq2, hf⟩ := gbind hf
    refine kw_callV (vs := []) rfl rfl rfl ⟨rfl, Nat.le_of_ble_eq_true rfl, Nat.le_of_ble_eq_true rfl, by decide⟩ (hH_O (tT_0 hb1)) (c_Town_bridges b1 hb1 s _ hq2) (Nat.le_of_ble_eq_true rfl) ?_
    refine kw_step rfl rfl rfl rfl ?_
    refine kw_step rfl rfl rfl rfl ?_
    refine kw_step rfl rfl rfl rfl ?_
    refine kw_step rfl rfl rfl rfl ?_
    refine kw_step rfl rfl rfl rfl ?_
    refine kw_get rfl (hH_O (rfl : kotab 44 = some kBo)) rfl ?_
    refine kw_step rfl rfl rfl rfl ?_
    refine kw_step rfl rfl rfl rfl ?_
    refine kw_step rfl rfl rfl rfl ?_
    refine kw_step rfl rfl rfl rfl ?_
    refine kw_step rfl rfl rfl rfl ?_
    obtain ⟨j3, i4, hf⟩ := gbI hf
    refine kw_iald rfl (hH_A (rfl : ktab 46 = some (0, 192))) i4.1 i4.2.1 i4.2.2 ?_
    obtain ⟨q5, hq5, hf⟩ := gbind hf
    refine kw_callV (vs := [kI (wI ((wI (2 * x2)) - q2)), kI (wI (x3 - 1)), kI (s 46 j3)]) rfl rfl rfl ⟨rfl, Nat.le_of_ble_eq_true rfl, Nat.le_of_ble_eq_true rfl, by decide⟩ (hH_O (rfl : kotab 44 = some kBo)) (c_Bracket_addUp (wI ((wI (2 * x2)) - q2)) (wI (x3 - 1)) (s 46 j3) s _ hq5) (Nat.le_of_ble_eq_true rfl) ?_
    refine kw_step (L' := [some (kr 44), some (kr b1), some (kI x2), some (kI (wI (x3 + 1)))]) rfl rfl rfl rfl ?_
    refine kw_goto rfl rfl ?_
    cases hf
    exact kW_le (L' := [some (kr 44), some (kr b1), some (kI x2), some (kI (wI (x3 + 1)))]) ⟨Or.inr rfl, Or.inr rfl, Or.inr rfl, Or.inr rfl, trivial⟩ hq
def f_Bracket_prepare_46 (b1 : Nat) (x2 : Int) (x3 : Int) (s : kM) : Option ((Int × kM) ⊕ (kM)) :=
  gL (fun (x : Int × kM) => f_Bracket_prepare_46b b1 x2 x.1 x.2) gF (x3, s)
theorem b_Bracket_prepare_46 {sc : List Int} {Q : Option kV → kH → Prop} (b1 : Nat) (hb1 : tT b1 = true) (x2 : Int) (x3 : Int) (s : kM) (t : (Int × kM) ⊕ (kM)) (hf : f_Bracket_prepare_46 b1 x2 x3 s = some t) (hq : (gE (fun x => kW sc 17 kc_Bracket_prepare 0 40 [some (kr 44), some (kr b1), some (kI x.1), none] [] (hH x.2) Q) (fun r => Q none (hH r))) t) : kW sc 17 kc_Bracket_prepare 0 46 [some (kr 44), some (kr b1), some (kI x2), some (kI x3)] [] (hH s) Q :=
  gL_ind (P := fun (x : Int × kM) => kW sc 17 kc_Bracket_prepare 0 46 [some (kr 44), some (kr b1), some (kI x2), some (kI x.1)] [] (hH x.2) Q) (q := (gE (fun x => kW sc 17 kc_Bracket_prepare 0 40 [some (kr 44), some (kr b1), some (kI x.1), none] [] (hH x.2) Q) (fun r => Q none (hH r)))) (fun x t hf hq => b_Bracket_prepare_46b b1 hb1 x2 x.1 x.2 t hf hq) gF (x3, s) t hf hq
def f_Bracket_prepare_40b (b1 : Nat) (x2 : Int) (s : kM) : Option ((Int × kM) ⊕ (kM)) :=
  (f_Town_bridges b1 s).bind fun q1 => if q1 < x2 then (gLet (gU s 44 0 1) fun s3 => some (.inr s3)) else (f_Bracket_prepare_46 b1 x2 1 s)
set_option maxRecDepth 8000 in
theorem b_Bracket_prepare_40b {sc : List Int} {Q : Option kV → kH → Prop} (b1 : Nat) (hb1 : tT b1 = true) (x2 : Int) (s : kM) (t : (Int × kM) ⊕ (kM)) (hf : f_Bracket_prepare_40b b1 x2 s = some t) (hq : (gE (fun x => kW sc 17 kc_Bracket_prepare 0 40 [some (kr 44), some (kr b1), some (kI x.1), none] [] (hH x.2) Q) (fun r => Q none (hH r))) t) : kW sc 17 kc_Bracket_prepare 0 40 [some (kr 44), some (kr b1), some (kI x2), none] [] (hH s) Q := by
  unfold f_Bracket_prepare_40b at hf
  refine kw_step rfl rfl rfl rfl ?_
  refine kw_step rfl rfl rfl rfl ?_
  obtain ⟨q1, hq1, hf⟩ := gbind hf
  refine kw_callV (vs := []) rfl rfl rfl ⟨rfl, Nat.le_of_ble_eq_true rfl, Nat.le_of_ble_eq_true rfl, by decide⟩ (hH_O (tT_0 hb1)) (c_Town_bridges b1 hb1 s _ hq1) (Nat.le_of_ble_eq_true rfl) ?_
  refine kw_icmp_gt rfl rfl (fun c2 => ?_) (fun c2 => ?_)
  · have hf := gift c2 hf
    refine kw_step rfl rfl rfl rfl ?_
    refine kw_step rfl rfl rfl rfl ?_
    obtain ⟨s3, ee4, hf⟩ := gbL hf
    refine kw_putH rfl (rfl : kotab 44 = some kBo) rfl rfl rfl (Nat.le_of_ble_eq_true rfl) rfl ee4 ?_
    cases hf
    exact kw_ret rfl rfl rfl hq
  · have hf := giff c2 hf
    refine kw_step rfl rfl rfl rfl ?_
    refine kw_step (L' := [some (kr 44), some (kr b1), some (kI x2), some (kI 1)]) rfl rfl rfl rfl ?_
    exact kW_le (L' := [some (kr 44), some (kr b1), some (kI x2), some (kI 1)]) ⟨Or.inr rfl, Or.inr rfl, Or.inr rfl, Or.inr rfl, trivial⟩ (b_Bracket_prepare_46 b1 hb1 x2 1 s _ hf hq)
def f_Bracket_prepare_40 (b1 : Nat) (x2 : Int) (s : kM) : Option (kM) :=
  gL (fun (x : Int × kM) => f_Bracket_prepare_40b b1 x.1 x.2) gF (x2, s)
theorem b_Bracket_prepare_40 {sc : List Int} {Q : Option kV → kH → Prop} (b1 : Nat) (hb1 : tT b1 = true) (x2 : Int) (s : kM) (t : kM) (hf : f_Bracket_prepare_40 b1 x2 s = some t) (hq : (fun r => Q none (hH r)) t) : kW sc 17 kc_Bracket_prepare 0 40 [some (kr 44), some (kr b1), some (kI x2), none] [] (hH s) Q :=
  gL_ind (P := fun (x : Int × kM) => kW sc 17 kc_Bracket_prepare 0 40 [some (kr 44), some (kr b1), some (kI x.1), none] [] (hH x.2) Q) (q := (fun r => Q none (hH r))) (fun x t hf hq => b_Bracket_prepare_40b b1 hb1 x.1 x.2 t hf hq) gF (x2, s) t hf hq
def f_Bracket_prepare_14b (b1 : Nat) (x2 : Int) (s : kM) : Option ((Int × kM) ⊕ (kM)) :=
  if 44 ≤ x2 then ((f_Bracket_alone b1 0 s).bind fun q2 => (f_Bracket_alone b1 1 s).bind fun q3 => (fr_Bracket_cut b1 16 0 0 0 (wI (q2 + q3)) s).bind fun q4 => (f_Bracket_prepare_40 b1 0 q4).map Sum.inr) else ((gI 44 x2).bind fun j8 => gLet (gU s 47 j8 (kxor x2 1)) fun s10 => some (.inl ((wI (x2 + 1)), s10)))
set_option maxRecDepth 8000 in
theorem b_Bracket_prepare_14b {sc : List Int} {Q : Option kV → kH → Prop} (b1 : Nat) (hb1 : tT b1 = true) (x2 : Int) (s : kM) (t : (Int × kM) ⊕ (kM)) (hf : f_Bracket_prepare_14b b1 x2 s = some t) (hq : (gE (fun x => kW sc 17 kc_Bracket_prepare 0 14 [some (kr 44), some (kr b1), some (kI x.1), none] [] (hH x.2) Q) (fun r => Q none (hH r))) t) : kW sc 17 kc_Bracket_prepare 0 14 [some (kr 44), some (kr b1), some (kI x2), none] [] (hH s) Q := by
  unfold f_Bracket_prepare_14b at hf
  refine kw_step rfl rfl rfl rfl ?_
  refine kw_step rfl rfl rfl rfl ?_
  refine kw_icmp_ge rfl rfl (fun c1 => ?_) (fun c1 => ?_)
  · have hf := gift c1 hf
    refine kw_step rfl rfl rfl rfl ?_
    refine kw_step rfl rfl rfl rfl ?_
    refine kw_step rfl rfl rfl rfl ?_
    refine kw_step rfl rfl rfl rfl ?_
    refine kw_step rfl rfl rfl rfl ?_
    refine kw_step rfl rfl rfl rfl ?_
    obtain ⟨q2, hq2, hf⟩ := gbind hf
    refine kw_callS (vs := [kr b1, kI 0]) rfl rfl rfl ⟨rfl, Nat.le_of_ble_eq_true rfl, Nat.le_of_ble_eq_true rfl, rfl⟩ (c_Bracket_alone b1 hb1 0 s _ hq2) (Nat.le_of_ble_eq_true rfl) ?_
    refine kw_step rfl rfl rfl rfl ?_
    refine kw_step rfl rfl rfl rfl ?_
    obtain ⟨q3, hq3, hf⟩ := gbind hf
    refine kw_callS (vs := [kr b1, kI 1]) rfl rfl rfl ⟨rfl, Nat.le_of_ble_eq_true rfl, Nat.le_of_ble_eq_true rfl, rfl⟩ (c_Bracket_alone b1 hb1 1 s _ hq3) (Nat.le_of_ble_eq_true rfl) ?_
    refine kw_step rfl rfl rfl rfl ?_
    obtain ⟨q4, hq4, hf⟩ := gbind hf
    refine kw_callS (vs := [kr 44, kr b1, kI 0, kI 0, kI (wI (q2 + q3))]) rfl rfl rfl ⟨rfl, Nat.le_of_ble_eq_true rfl, Nat.le_of_ble_eq_true rfl, rfl⟩ (cr_Bracket_cut b1 hb1 16 0 0 (wI (q2 + q3)) _ _ hq4) (Nat.le_of_ble_eq_true rfl) ?_
    refine kw_step rfl rfl rfl rfl ?_
    refine kw_step (L' := [some (kr 44), some (kr b1), some (kI 0), none]) rfl rfl rfl rfl ?_
    obtain ⟨t6, hg7, rfl⟩ := gmap hf
    exact kW_le (L' := [some (kr 44), some (kr b1), some (kI 0), none]) ⟨Or.inr rfl, Or.inr rfl, Or.inr rfl, Or.inl rfl, trivial⟩ (b_Bracket_prepare_40 b1 hb1 0 q4 _ hg7 hq)
  · have hf := giff c1 hf
    refine kw_step rfl rfl rfl rfl ?_
    refine kw_get rfl (hH_O (rfl : kotab 44 = some kBo)) rfl ?_
    refine kw_step rfl rfl rfl rfl ?_
    refine kw_step rfl rfl rfl rfl ?_
    refine kw_step rfl rfl rfl rfl ?_
    refine kw_step rfl rfl rfl rfl ?_
    obtain ⟨j8, i9, hf⟩ := gbI hf
    obtain ⟨s10, ee11, hf⟩ := gbL hf
    refine kw_iastH rfl (rfl : ktab 47 = some (0, 44)) i9.1 i9.2.1 i9.2.2 ee11 ?_
    refine kw_step (L' := [some (kr 44), some (kr b1), some (kI (wI (x2 + 1))), none]) rfl rfl rfl rfl ?_
    refine kw_goto rfl rfl ?_
    cases hf
    exact kW_le (L' := [some (kr 44), some (kr b1), some (kI (wI (x2 + 1))), none]) ⟨Or.inr rfl, Or.inr rfl, Or.inr rfl, Or.inl rfl, trivial⟩ hq
def f_Bracket_prepare_14 (b1 : Nat) (x2 : Int) (s : kM) : Option (kM) :=
  gL (fun (x : Int × kM) => f_Bracket_prepare_14b b1 x.1 x.2) gF (x2, s)
theorem b_Bracket_prepare_14 {sc : List Int} {Q : Option kV → kH → Prop} (b1 : Nat) (hb1 : tT b1 = true) (x2 : Int) (s : kM) (t : kM) (hf : f_Bracket_prepare_14 b1 x2 s = some t) (hq : (fun r => Q none (hH r)) t) : kW sc 17 kc_Bracket_prepare 0 14 [some (kr 44), some (kr b1), some (kI x2), none] [] (hH s) Q :=
  gL_ind (P := fun (x : Int × kM) => kW sc 17 kc_Bracket_prepare 0 14 [some (kr 44), some (kr b1), some (kI x.1), none] [] (hH x.2) Q) (q := (fun r => Q none (hH r))) (fun x t hf hq => b_Bracket_prepare_14b b1 hb1 x.1 x.2 t hf hq) gF (x2, s) t hf hq
def f_Bracket_prepare (b1 : Nat) (s : kM) : Option (kM) :=
  if (s 44 0) = 0 then ((f_Arrays_fill_II 45 199 0 s).bind fun q2 => (f_Arrays_fill_II 46 192 0 q2).bind fun q4 => f_Bracket_prepare_14 b1 0 q4) else (some s)
set_option maxRecDepth 8000 in
theorem c_Bracket_prepare {sc : List Int} (b1 : Nat) (hb1 : tT b1 = true) (s : kM) (t : kM) (hf : f_Bracket_prepare b1 s = some t) : kR sc 17 km_Bracket_prepare [kr 44, kr b1] (hH s) none (hH t) := by
  unfold f_Bracket_prepare at hf
  refine kR.start rfl ?_
  show kW sc 17 kc_Bracket_prepare 0 0 [some (kr 44), some (kr b1), none, none] [] (hH s) _
  have hq : (fun (r : Option kV) (g : kH) => r = none ∧ g = hH t) none (hH t) := ⟨rfl, rfl⟩
  refine kw_step rfl rfl rfl rfl ?_
  refine kw_get rfl (hH_O (rfl : kotab 44 = some kBo)) rfl ?_
  refine kw_if_eq rfl rfl (fun c1 => ?_) (fun c1 => ?_)
  · have hf := gift c1 hf
    refine kw_step rfl rfl rfl rfl ?_
    refine kw_get rfl (hH_O (rfl : kotab 44 = some kBo)) rfl ?_
    refine kw_step rfl rfl rfl rfl ?_
    obtain ⟨q2, hq2, hf⟩ := gbind hf
    refine kw_callS (vs := [kr 45, kI 0]) rfl rfl rfl ⟨rfl, Nat.le_of_ble_eq_true rfl, Nat.le_of_ble_eq_true rfl, rfl⟩ (c_Arrays_fill_II 45 199 (rfl : ktab 45 = some (0, 199)) 0 s _ hq2) (Nat.le_of_ble_eq_true rfl) ?_
    refine kw_step rfl rfl rfl rfl ?_
    refine kw_get rfl (hH_O (rfl : kotab 44 = some kBo)) rfl ?_
    refine kw_step rfl rfl rfl rfl ?_
    obtain ⟨q4, hq4, hf⟩ := gbind hf
    refine kw_callS (vs := [kr 46, kI 0]) rfl rfl rfl ⟨rfl, Nat.le_of_ble_eq_true rfl, Nat.le_of_ble_eq_true rfl, rfl⟩ (c_Arrays_fill_II 46 192 (rfl : ktab 46 = some (0, 192)) 0 q2 _ hq4) (Nat.le_of_ble_eq_true rfl) ?_
    refine kw_step rfl rfl rfl rfl ?_
    refine kw_step (L' := [some (kr 44), some (kr b1), some (kI 0), none]) rfl rfl rfl rfl ?_
    exact kW_le (L' := [some (kr 44), some (kr b1), some (kI 0), none]) ⟨Or.inr rfl, Or.inr rfl, Or.inr rfl, Or.inl rfl, trivial⟩ (b_Bracket_prepare_14 b1 hb1 0 q4 _ hf hq)
  · have hf := giff c1 hf
    cases hf
    exact kw_ret rfl rfl rfl hq
def f_Bracket_numberAt (x1 : Int) (s : kM) : Option (Int) :=
  if x1 < (-99) then (some 0) else (if x1 ≤ 99 then ((gI 199 (wI (x1 + 99))).bind fun j3 => some (s 45 j3)) else (some 0))
set_option maxRecDepth 8000 in
theorem c_Bracket_numberAt {sc : List Int} (x1 : Int) (s : kM) (t : Int) (hf : f_Bracket_numberAt x1 s = some t) : kR sc 0 km_Bracket_numberAt [kr 44, kI x1] (hH s) (some (kI t)) (hH s) := by
  unfold f_Bracket_numberAt at hf
  refine kR.start rfl ?_
  show kW sc 0 kc_Bracket_numberAt 1 0 [some (kr 44), some (kI x1)] [] (hH s) _
  have hq : (fun (r : Option kV) (g : kH) => r = some (kI t) ∧ g = hH s) (some (kI t)) (hH s) := ⟨rfl, rfl⟩
  refine kw_step rfl rfl rfl rfl ?_
  refine kw_step rfl rfl rfl rfl ?_
  refine kw_icmp_lt rfl rfl (fun c1 => ?_) (fun c1 => ?_)
  · have hf := gift c1 hf
    refine kw_step rfl rfl rfl rfl ?_
    refine kw_goto rfl rfl ?_
    cases hf
    exact kw_ret rfl rfl rfl hq
  · have hf := giff c1 hf
    refine kw_step rfl rfl rfl rfl ?_
    refine kw_step rfl rfl rfl rfl ?_
    refine kw_icmp_le rfl rfl (fun c2 => ?_) (fun c2 => ?_)
    · have hf := gift c2 hf
      refine kw_step rfl rfl rfl rfl ?_
      refine kw_get rfl (hH_O (rfl : kotab 44 = some kBo)) rfl ?_
      refine kw_step rfl rfl rfl rfl ?_
      refine kw_step rfl rfl rfl rfl ?_
      refine kw_step rfl rfl rfl rfl ?_
      obtain ⟨j3, i4, hf⟩ := gbI hf
      refine kw_iald rfl (hH_A (rfl : ktab 45 = some (0, 199))) i4.1 i4.2.1 i4.2.2 ?_
      cases hf
      exact kw_ret rfl rfl rfl hq
    · have hf := giff c2 hf
      refine kw_step rfl rfl rfl rfl ?_
      refine kw_goto rfl rfl ?_
      cases hf
      exact kw_ret rfl rfl rfl hq
def f_Bracket_jonesAt (x1 : Int) (x2 : Int) (s : kM) : Option (Int) :=
  if x1 < (-99) then (some 0) else (if x1 ≤ 99 then ((f_Bracket_numberAt (wI (x1 + (wI (3 * x2)))) s).bind fun q3 => if (kand x2 1) = 0 then (some q3) else (some (wI (-q3)))) else (some 0))
set_option maxRecDepth 8000 in
theorem c_Bracket_jonesAt {sc : List Int} (x1 : Int) (x2 : Int) (s : kM) (t : Int) (hf : f_Bracket_jonesAt x1 x2 s = some t) : kR sc 1 km_Bracket_jonesAt [kr 44, kI x1, kI x2] (hH s) (some (kI t)) (hH s) := by
  unfold f_Bracket_jonesAt at hf
  refine kR.start rfl ?_
  show kW sc 1 kc_Bracket_jonesAt 1 0 [some (kr 44), some (kI x1), some (kI x2), none] [] (hH s) _
  have hq : (fun (r : Option kV) (g : kH) => r = some (kI t) ∧ g = hH s) (some (kI t)) (hH s) := ⟨rfl, rfl⟩
  refine kw_step rfl rfl rfl rfl ?_
  refine kw_step rfl rfl rfl rfl ?_
  refine kw_icmp_lt rfl rfl (fun c1 => ?_) (fun c1 => ?_)
  · have hf := gift c1 hf
    refine kw_step rfl rfl rfl rfl ?_
    cases hf
    exact kw_ret rfl rfl rfl hq
  · have hf := giff c1 hf
    refine kw_step rfl rfl rfl rfl ?_
    refine kw_step rfl rfl rfl rfl ?_
    refine kw_icmp_le rfl rfl (fun c2 => ?_) (fun c2 => ?_)
    · have hf := gift c2 hf
      refine kw_step rfl rfl rfl rfl ?_
      refine kw_step rfl rfl rfl rfl ?_
      refine kw_step rfl rfl rfl rfl ?_
      refine kw_step rfl rfl rfl rfl ?_
      refine kw_step rfl rfl rfl rfl ?_
      refine kw_step rfl rfl rfl rfl ?_
      obtain ⟨q3, hq3, hf⟩ := gbind hf
      refine kw_callV (vs := [kI (wI (x1 + (wI (3 * x2))))]) rfl rfl rfl ⟨rfl, Nat.le_of_ble_eq_true rfl, Nat.le_of_ble_eq_true rfl, by decide⟩ (hH_O (rfl : kotab 44 = some kBo)) (c_Bracket_numberAt (wI (x1 + (wI (3 * x2)))) s _ hq3) (Nat.le_of_ble_eq_true rfl) ?_
      refine kw_step (L' := [some (kr 44), some (kI x1), some (kI x2), some (kI q3)]) rfl rfl rfl rfl ?_
      refine kw_step rfl rfl rfl rfl ?_
      refine kw_step rfl rfl rfl rfl ?_
      refine kw_step rfl rfl rfl rfl ?_
      refine kw_if_ne rfl rfl (fun c4 => ?_) (fun c4 => ?_)
      · have hf := giff c4 hf
        refine kw_step rfl rfl rfl rfl ?_
        refine kw_step rfl rfl rfl rfl ?_
        cases hf
        exact kw_ret rfl rfl rfl hq
      · have hf := gift c4 hf
        refine kw_step rfl rfl rfl rfl ?_
        refine kw_goto rfl rfl ?_
        cases hf
        exact kw_ret rfl rfl rfl hq
    · have hf := giff c2 hf
      refine kw_step rfl rfl rfl rfl ?_
      cases hf
      exact kw_ret rfl rfl rfl hq
def f_KT_polynomial (x1 : Int) (x2 : Int) (s : kM) : Option (Int × kM) :=
  if (s 4 0) = 0 then (some (0, s)) else (if x1 < 0 then (some (0, s)) else (if x1 ≤ 1 then ((f_Bracket_prepare 4 s).bind fun q4 => if x1 = 0 then ((f_Bracket_numberAt x2 q4).bind fun q9 => some (q9, q4)) else ((f_Town_handsTogether 4 q4).bind fun q7 => (f_Bracket_jonesAt x2 q7 q4).bind fun q8 => some (q8, q4))) else (some (0, s))))
set_option maxRecDepth 8000 in
theorem c_KT_polynomial {sc : List Int} (x1 : Int) (x2 : Int) (s : kM) (t : Int × kM) (hf : f_KT_polynomial x1 x2 s = some t) : kR sc 18 km_KT_polynomial [kr 0, kI x1, kI x2] (hH s) (some (kI t.1)) (hH t.2) := by
  unfold f_KT_polynomial at hf
  refine kR.start rfl ?_
  show kW sc 18 kc_KT_polynomial 1 0 [some (kr 0), some (kI x1), some (kI x2)] [] (hH s) _
  have hq : (fun (r : Option kV) (g : kH) => r = some (kI t.1) ∧ g = hH t.2) (some (kI t.1)) (hH t.2) := ⟨rfl, rfl⟩
  refine kw_step rfl rfl rfl rfl ?_
  refine kw_get rfl (hH_O (rfl : kotab 0 = some kKo)) rfl ?_
  refine kw_get rfl (hH_O (tS_0 (b := 3) rfl)) rfl ?_
  refine kw_get rfl (hH_O (tT_0 (b := 4) rfl)) rfl ?_
  refine kw_if_eq rfl rfl (fun c1 => ?_) (fun c1 => ?_)
  · have hf := gift c1 hf
    refine kw_step rfl rfl rfl rfl ?_
    cases hf
    exact kw_ret rfl rfl rfl hq
  · have hf := giff c1 hf
    refine kw_step rfl rfl rfl rfl ?_
    refine kw_if_lt rfl rfl (fun c2 => ?_) (fun c2 => ?_)
    · have hf := gift c2 hf
      refine kw_step rfl rfl rfl rfl ?_
      cases hf
      exact kw_ret rfl rfl rfl hq
    · have hf := giff c2 hf
      refine kw_step rfl rfl rfl rfl ?_
      refine kw_step rfl rfl rfl rfl ?_
      refine kw_icmp_le rfl rfl (fun c3 => ?_) (fun c3 => ?_)
      · have hf := gift c3 hf
        refine kw_step rfl rfl rfl rfl ?_
        refine kw_get rfl (hH_O (rfl : kotab 0 = some kKo)) rfl ?_
        refine kw_step rfl rfl rfl rfl ?_
        refine kw_get rfl (hH_O (rfl : kotab 0 = some kKo)) rfl ?_
        refine kw_get rfl (hH_O (tS_0 (b := 3) rfl)) rfl ?_
        obtain ⟨q4, hq4, hf⟩ := gbind hf
        refine kw_callV (vs := [kr 4]) rfl rfl rfl ⟨rfl, Nat.le_of_ble_eq_true rfl, Nat.le_of_ble_eq_true rfl, by decide⟩ (hH_O (rfl : kotab 44 = some kBo)) (c_Bracket_prepare 4 (rfl : tT 4 = true) s _ hq4) (Nat.le_of_ble_eq_true rfl) ?_
        refine kw_step rfl rfl rfl rfl ?_
        refine kw_if_ne rfl rfl (fun c6 => ?_) (fun c6 => ?_)
        · have hf := giff c6 hf
          refine kw_step rfl rfl rfl rfl ?_
          refine kw_get rfl (hH_O (rfl : kotab 0 = some kKo)) rfl ?_
          refine kw_step rfl rfl rfl rfl ?_
          refine kw_step rfl rfl rfl rfl ?_
          refine kw_get rfl (hH_O (rfl : kotab 0 = some kKo)) rfl ?_
          refine kw_get rfl (hH_O (tS_0 (b := 3) rfl)) rfl ?_
          obtain ⟨q7, hq7, hf⟩ := gbind hf
          refine kw_callV (vs := []) rfl rfl rfl ⟨rfl, Nat.le_of_ble_eq_true rfl, Nat.le_of_ble_eq_true rfl, by decide⟩ (hH_O (tT_0 (b := 4) rfl)) (c_Town_handsTogether 4 (rfl : tT 4 = true) q4 _ hq7) (Nat.le_of_ble_eq_true rfl) ?_
          obtain ⟨q8, hq8, hf⟩ := gbind hf
          refine kw_callV (vs := [kI x2, kI q7]) rfl rfl rfl ⟨rfl, Nat.le_of_ble_eq_true rfl, Nat.le_of_ble_eq_true rfl, by decide⟩ (hH_O (rfl : kotab 44 = some kBo)) (c_Bracket_jonesAt x2 q7 q4 _ hq8) (Nat.le_of_ble_eq_true rfl) ?_
          cases hf
          exact kw_ret rfl rfl rfl hq
        · have hf := gift c6 hf
          refine kw_step rfl rfl rfl rfl ?_
          refine kw_get rfl (hH_O (rfl : kotab 0 = some kKo)) rfl ?_
          refine kw_step rfl rfl rfl rfl ?_
          obtain ⟨q9, hq9, hf⟩ := gbind hf
          refine kw_callV (vs := [kI x2]) rfl rfl rfl ⟨rfl, Nat.le_of_ble_eq_true rfl, Nat.le_of_ble_eq_true rfl, by decide⟩ (hH_O (rfl : kotab 44 = some kBo)) (c_Bracket_numberAt x2 q4 _ hq9) (Nat.le_of_ble_eq_true rfl) ?_
          refine kw_goto rfl rfl ?_
          cases hf
          exact kw_ret rfl rfl rfl hq
      · have hf := giff c3 hf
        refine kw_step rfl rfl rfl rfl ?_
        cases hf
        exact kw_ret rfl rfl rfl hq
def f_Arrays_fill_SS_5b (a0 : Nat) (n0 : Nat) (x1 : Int) (x2 : Int) (x3 : Int) (s : kM) : Option ((Int × kM) ⊕ (kM)) :=
  if x3 ≤ x2 then (some (.inr s)) else ((gI n0 x2).bind fun j2 => gLet (gU s a0 j2 (ki2s x1)) fun s4 => some (.inl ((wI (x2 + 1)), s4)))
set_option maxRecDepth 8000 in
theorem b_Arrays_fill_SS_5b {sc : List Int} {Q : Option kV → kH → Prop} (a0 : Nat) (n0 : Nat) (ha0 : ktab a0 = some (2, n0)) (x1 : Int) (x2 : Int) (x3 : Int) (s : kM) (t : (Int × kM) ⊕ (kM)) (hf : f_Arrays_fill_SS_5b a0 n0 x1 x2 x3 s = some t) (hq : (gE (fun x => kW sc 0 kc_Arrays_fill_SS 0 5 [some (kr a0), some (kI x1), some (kI x.1), some (kI x3)] [] (hH x.2) Q) (fun r => Q none (hH r))) t) : kW sc 0 kc_Arrays_fill_SS 0 5 [some (kr a0), some (kI x1), some (kI x2), some (kI x3)] [] (hH s) Q := by
  unfold f_Arrays_fill_SS_5b at hf
  refine kw_step rfl rfl rfl rfl ?_
  refine kw_step rfl rfl rfl rfl ?_
  refine kw_icmp_ge rfl rfl (fun c1 => ?_) (fun c1 => ?_)
  · have hf := gift c1 hf
    cases hf
    exact kw_ret rfl rfl rfl hq
  · have hf := giff c1 hf
    refine kw_step rfl rfl rfl rfl ?_
    refine kw_step rfl rfl rfl rfl ?_
    refine kw_step rfl rfl rfl rfl ?_
    obtain ⟨j2, i3, hf⟩ := gbI hf
    obtain ⟨s4, ee5, hf⟩ := gbL hf
    refine kw_sastH rfl ha0 i3.1 i3.2.1 i3.2.2 ee5 ?_
    refine kw_step (L' := [some (kr a0), some (kI x1), some (kI (wI (x2 + 1))), some (kI x3)]) rfl rfl rfl rfl ?_
    refine kw_goto rfl rfl ?_
    cases hf
    exact kW_le (L' := [some (kr a0), some (kI x1), some (kI (wI (x2 + 1))), some (kI x3)]) ⟨Or.inr rfl, Or.inr rfl, Or.inr rfl, Or.inr rfl, trivial⟩ hq
def f_Arrays_fill_SS_5 (a0 : Nat) (n0 : Nat) (x1 : Int) (x2 : Int) (x3 : Int) (s : kM) : Option (kM) :=
  gL (fun (x : Int × kM) => f_Arrays_fill_SS_5b a0 n0 x1 x.1 x3 x.2) gF (x2, s)
theorem b_Arrays_fill_SS_5 {sc : List Int} {Q : Option kV → kH → Prop} (a0 : Nat) (n0 : Nat) (ha0 : ktab a0 = some (2, n0)) (x1 : Int) (x2 : Int) (x3 : Int) (s : kM) (t : kM) (hf : f_Arrays_fill_SS_5 a0 n0 x1 x2 x3 s = some t) (hq : (fun r => Q none (hH r)) t) : kW sc 0 kc_Arrays_fill_SS 0 5 [some (kr a0), some (kI x1), some (kI x2), some (kI x3)] [] (hH s) Q :=
  gL_ind (P := fun (x : Int × kM) => kW sc 0 kc_Arrays_fill_SS 0 5 [some (kr a0), some (kI x1), some (kI x.1), some (kI x3)] [] (hH x.2) Q) (q := (fun r => Q none (hH r))) (fun x t hf hq => b_Arrays_fill_SS_5b a0 n0 ha0 x1 x.1 x3 x.2 t hf hq) gF (x2, s) t hf hq
def f_Arrays_fill_SS (a0 : Nat) (n0 : Nat) (x1 : Int) (s : kM) : Option (kM) :=
  f_Arrays_fill_SS_5 a0 n0 x1 0 ((n0 : Nat) : Int) s
set_option maxRecDepth 8000 in
theorem c_Arrays_fill_SS {sc : List Int} (a0 : Nat) (n0 : Nat) (ha0 : ktab a0 = some (2, n0)) (x1 : Int) (s : kM) (t : kM) (hf : f_Arrays_fill_SS a0 n0 x1 s = some t) : kR sc 0 km_Arrays_fill_SS [kr a0, kI x1] (hH s) none (hH t) := by
  unfold f_Arrays_fill_SS at hf
  refine kR.start rfl ?_
  show kW sc 0 kc_Arrays_fill_SS 0 0 [some (kr a0), some (kI x1), none, none] [] (hH s) _
  have hq : (fun (r : Option kV) (g : kH) => r = none ∧ g = hH t) none (hH t) := ⟨rfl, rfl⟩
  refine kw_step rfl rfl rfl rfl ?_
  refine kw_step (L' := [some (kr a0), some (kI x1), some (kI 0), none]) rfl rfl rfl rfl ?_
  refine kw_step rfl rfl rfl rfl ?_
  refine kw_alen rfl (hH_A ha0) (by decide) ?_
  refine kw_step (L' := [some (kr a0), some (kI x1), some (kI 0), some (kI ((n0 : Nat) : Int))]) rfl rfl rfl rfl ?_
  exact kW_le (L' := [some (kr a0), some (kI x1), some (kI 0), some (kI ((n0 : Nat) : Int))]) ⟨Or.inr rfl, Or.inr rfl, Or.inr rfl, Or.inr rfl, trivial⟩ (b_Arrays_fill_SS_5 a0 n0 ha0 x1 0 ((n0 : Nat) : Int) s _ hf hq)
