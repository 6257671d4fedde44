/-! PRINTED by wip/whole/decall.py: methods as functions over the flat world, with their contracts -/
def f_TownText_isTold_2b (b0 : Nat) (x1 : Int) (x2 : Int) (s : kM) : Option ((Int) ⊕ (Int)) :=
  if (s b0 2) ≤ x2 then (some (.inr 0)) else ((gI 22 x2).bind fun j2 => if (s (b0 + 1) j2) = x1 then (some (.inr 1)) else (some (.inl ((wI (x2 + 1))))))
set_option maxRecDepth 8000 in
theorem b_TownText_isTold_2b {sc : List Int} {Q : Option kV → kH → Prop} (b0 : Nat) (hb0 : tT b0 = true) (x1 : Int) (x2 : Int) (s : kM) (t : (Int) ⊕ (Int)) (hf : f_TownText_isTold_2b b0 x1 x2 s = some t) (hq : (gE (fun x => kW sc 0 kc_TownText_isTold 2 2 [some (kr b0), some (kI x1), some (kI x)] [] (hH s) Q) (fun r => Q (some (kI r)) (hH s))) t) : kW sc 0 kc_TownText_isTold 2 2 [some (kr b0), some (kI x1), some (kI x2)] [] (hH s) Q := by
  unfold f_TownText_isTold_2b at hf
  refine kw_step rfl rfl rfl rfl ?_
  refine kw_step rfl rfl rfl rfl ?_
  refine kw_get rfl (hH_O (tT_0 hb0)) rfl ?_
  refine kw_icmp_ge rfl rfl (fun c1 => ?_) (fun c1 => ?_)
  · have hf := gift c1 hf
    refine kw_step rfl rfl rfl rfl ?_
    cases hf
    exact kw_ret rfl rfl rfl hq
  · have hf := giff c1 hf
    refine kw_step rfl rfl rfl rfl ?_
    refine kw_get rfl (hH_O (tT_0 hb0)) rfl ?_
    refine kw_step rfl rfl rfl rfl ?_
    obtain ⟨j2, i3, hf⟩ := gbI hf
    refine kw_iald rfl (hH_A (tT_1 hb0)) i3.1 i3.2.1 i3.2.2 ?_
    refine kw_step rfl rfl rfl rfl ?_
    refine kw_icmp_ne rfl rfl (fun c4 => ?_) (fun c4 => ?_)
    · have hf := giff c4 hf
      refine kw_step (L' := [some (kr b0), some (kI x1), some (kI (wI (x2 + 1)))]) rfl rfl rfl rfl ?_
      refine kw_goto rfl rfl ?_
      cases hf
      exact kW_le (L' := [some (kr b0), some (kI x1), some (kI (wI (x2 + 1)))]) ⟨Or.inr rfl, Or.inr rfl, Or.inr rfl, trivial⟩ hq
    · have hf := gift c4 hf
      refine kw_step rfl rfl rfl rfl ?_
      cases hf
      exact kw_ret rfl rfl rfl hq
def f_TownText_isTold_2 (b0 : Nat) (x1 : Int) (x2 : Int) (s : kM) : Option (Int) :=
  gL (fun (x : Int) => f_TownText_isTold_2b b0 x1 x s) gF (x2)
theorem b_TownText_isTold_2 {sc : List Int} {Q : Option kV → kH → Prop} (b0 : Nat) (hb0 : tT b0 = true) (x1 : Int) (x2 : Int) (s : kM) (t : Int) (hf : f_TownText_isTold_2 b0 x1 x2 s = some t) (hq : (fun r => Q (some (kI r)) (hH s)) t) : kW sc 0 kc_TownText_isTold 2 2 [some (kr b0), some (kI x1), some (kI x2)] [] (hH s) Q :=
  gL_ind (P := fun (x : Int) => kW sc 0 kc_TownText_isTold 2 2 [some (kr b0), some (kI x1), some (kI x)] [] (hH s) Q) (q := (fun r => Q (some (kI r)) (hH s))) (fun x t hf hq => b_TownText_isTold_2b b0 hb0 x1 x s t hf hq) gF (x2) t hf hq
def f_TownText_isTold (b0 : Nat) (x1 : Int) (s : kM) : Option (Int) :=
  f_TownText_isTold_2 b0 x1 0 s
set_option maxRecDepth 8000 in
theorem c_TownText_isTold {sc : List Int} (b0 : Nat) (hb0 : tT b0 = true) (x1 : Int) (s : kM) (t : Int) (hf : f_TownText_isTold b0 x1 s = some t) : kR sc 0 km_TownText_isTold [kr b0, kI x1] (hH s) (some (kI t)) (hH s) := by
  unfold f_TownText_isTold at hf
  refine kR.start rfl ?_
  show kW sc 0 kc_TownText_isTold 2 0 [some (kr b0), some (kI x1), none] [] (hH s) _
  have hq : (fun (r : Option kV) (g : kH) => r = some (kI t) ∧ g = hH s) (some (kI t)) (hH s) := ⟨rfl, rfl⟩
  refine kw_step rfl rfl rfl rfl ?_
  refine kw_step (L' := [some (kr b0), some (kI x1), some (kI 0)]) rfl rfl rfl rfl ?_
  exact kW_le (L' := [some (kr b0), some (kI x1), some (kI 0)]) ⟨Or.inr rfl, Or.inr rfl, Or.inr rfl, trivial⟩ (b_TownText_isTold_2 b0 hb0 x1 0 s _ hf hq)
def f_Tape_skipNumber (s : kM) : Option (kM) :=
  (f_Tape_digitsHere s).bind fun q1 => gLet (gU s 1 2 (wI ((s 1 2) + q1))) fun s2 => some s2
set_option maxRecDepth 8000 in
theorem c_Tape_skipNumber {sc : List Int} (s : kM) (t : kM) (hf : f_Tape_skipNumber s = some t) : kR sc 1 km_Tape_skipNumber [kr 1] (hH s) none (hH t) := by
  unfold f_Tape_skipNumber at hf
  refine kR.start rfl ?_
  show kW sc 1 kc_Tape_skipNumber 0 0 [some (kr 1)] [] (hH s) _
  have hq : (fun (r : Option kV) (g : kH) => r = none ∧ g = hH t) none (hH t) := ⟨rfl, rfl⟩
  refine kw_step rfl rfl rfl rfl ?_
  refine kw_step rfl rfl rfl rfl ?_
  refine kw_get rfl (hH_O (rfl : kotab 1 = some kPo)) rfl ?_
  refine kw_step rfl rfl rfl rfl ?_
  obtain ⟨q1, hq1, hf⟩ := gbind hf
  refine kw_callV (vs := []) rfl rfl rfl ⟨rfl, Nat.le_of_ble_eq_true rfl, Nat.le_of_ble_eq_true rfl, by decide⟩ (hH_O (rfl : kotab 1 = some kPo)) (c_Tape_digitsHere s _ hq1) (Nat.le_of_ble_eq_true rfl) ?_
  refine kw_step rfl rfl rfl rfl ?_
  obtain ⟨s2, ee3, hf⟩ := gbL hf
  refine kw_putH rfl (rfl : kotab 1 = some kPo) rfl rfl rfl (Nat.le_of_ble_eq_true rfl) rfl ee3 ?_
  cases hf
  exact kw_ret rfl rfl rfl hq
def f_Town_append (b0 : Nat) (x1 : Int) (s : kM) : Option (kM) :=
  if 22 ≤ (s b0 2) then (some s) else ((gI 22 (s b0 2)).bind fun j2 => gLet (gU s (b0 + 1) j2 x1) fun s4 => gLet (gU s4 b0 2 (wI ((s4 b0 2) + 1))) fun s7 => some s7)
set_option maxRecDepth 8000 in
theorem c_Town_append {sc : List Int} (b0 : Nat) (hb0 : tT b0 = true) (x1 : Int) (s : kM) (t : kM) (hf : f_Town_append b0 x1 s = some t) : kR sc 0 km_Town_append [kr b0, kI x1] (hH s) none (hH t) := by
  unfold f_Town_append at hf
  refine kR.start rfl ?_
  show kW sc 0 kc_Town_append 0 0 [some (kr b0), some (kI x1)] [] (hH s) _
  have hq : (fun (r : Option kV) (g : kH) => r = none ∧ g = hH t) none (hH t) := ⟨rfl, rfl⟩
  refine kw_step rfl rfl rfl rfl ?_
  refine kw_get rfl (hH_O (tT_0 hb0)) rfl ?_
  refine kw_step rfl rfl rfl rfl ?_
  refine kw_icmp_ge rfl rfl (fun c1 => ?_) (fun c1 => ?_)
  · have hf := gift c1 hf
    cases hf
    exact kw_ret rfl rfl rfl hq
  · have hf := giff c1 hf
    refine kw_step rfl rfl rfl rfl ?_
    refine kw_get rfl (hH_O (tT_0 hb0)) rfl ?_
    refine kw_step rfl rfl rfl rfl ?_
    refine kw_get rfl (hH_O (tT_0 hb0)) rfl ?_
    refine kw_step rfl rfl rfl rfl ?_
    obtain ⟨j2, i3, hf⟩ := gbI hf
    obtain ⟨s4, ee5, hf⟩ := gbL hf
    refine kw_iastH rfl (tT_1 hb0) i3.1 i3.2.1 i3.2.2 ee5 ?_
    refine kw_step rfl rfl rfl rfl ?_
    refine kw_step rfl rfl rfl rfl ?_
    refine kw_get rfl (hH_O (tT_0 hb0)) rfl ?_
    refine kw_step rfl rfl rfl rfl ?_
    refine kw_step rfl rfl rfl rfl ?_
    obtain ⟨s7, ee8, hf⟩ := gbL hf
    refine kw_putH rfl (tT_0 hb0) rfl rfl rfl (Nat.le_of_ble_eq_true rfl) rfl ee8 ?_
    cases hf
    exact kw_ret rfl rfl rfl hq
def f_Tape_takeSign (x1 : Int) (s : kM) : Option (Int × kM) :=
  (f_Tape_look s).bind fun q1 => if q1.1 = x1 then (gLet (gU q1.2 1 2 (wI ((q1.2 1 2) + 1))) fun s4 => some (1, s4)) else (some (0, q1.2))
set_option maxRecDepth 8000 in
theorem c_Tape_takeSign {sc : List Int} (x1 : Int) (s : kM) (t : Int × kM) (hf : f_Tape_takeSign x1 s = some t) : kR sc 1 km_Tape_takeSign [kr 1, kI x1] (hH s) (some (kI t.1)) (hH t.2) := by
  unfold f_Tape_takeSign at hf
  refine kR.start rfl ?_
  show kW sc 1 kc_Tape_takeSign 2 0 [some (kr 1), some (kI x1)] [] (hH s) _
  have hq : (fun (r : Option kV) (g : kH) => r = some (kI t.1) ∧ g = hH t.2) (some (kI t.1)) (hH t.2) := ⟨rfl, rfl⟩
  refine kw_step rfl rfl rfl rfl ?_
  obtain ⟨q1, hq1, hf⟩ := gbind hf
  refine kw_callV (vs := []) rfl rfl rfl ⟨rfl, Nat.le_of_ble_eq_true rfl, Nat.le_of_ble_eq_true rfl, by decide⟩ (hH_O (rfl : kotab 1 = some kPo)) (c_Tape_look s _ hq1) (Nat.le_of_ble_eq_true rfl) ?_
  refine kw_step rfl rfl rfl rfl ?_
  refine kw_icmp_eq rfl rfl (fun c3 => ?_) (fun c3 => ?_)
  · have hf := gift c3 hf
    refine kw_step rfl rfl rfl rfl ?_
    refine kw_step rfl rfl rfl rfl ?_
    refine kw_get rfl (hH_O (rfl : kotab 1 = some kPo)) rfl ?_
    refine kw_step rfl rfl rfl rfl ?_
    refine kw_step rfl rfl rfl rfl ?_
    obtain ⟨s4, ee5, hf⟩ := gbL hf
    refine kw_putH rfl (rfl : kotab 1 = some kPo) rfl rfl rfl (Nat.le_of_ble_eq_true rfl) rfl ee5 ?_
    refine kw_step rfl rfl rfl rfl ?_
    cases hf
    exact kw_ret rfl rfl rfl hq
  · have hf := giff c3 hf
    refine kw_step rfl rfl rfl rfl ?_
    cases hf
    exact kw_ret rfl rfl rfl hq
def f_TownText_readHand (b1 : Nat) (x2 : Int) (s : kM) : Option (kM) :=
  (f_Tape_takeSign 43 s).bind fun q1 => if q1.1 = 0 then ((f_Tape_takeSign 45 q1.2).bind fun q4 => if q4.1 = 0 then ((f_Tape_fail 0 q4.2).bind fun q7 => some q7) else ((gI 11 x2).bind fun j9 => gLet (gU q4.2 (b1 + 2) j9 0) fun s11 => some s11)) else ((gI 11 x2).bind fun j14 => gLet (gU q1.2 (b1 + 2) j14 1) fun s16 => some s16)
set_option maxRecDepth 8000 in
theorem c_TownText_readHand {sc : List Int} (b1 : Nat) (hb1 : tT b1 = true) (x2 : Int) (s : kM) (t : kM) (hf : f_TownText_readHand b1 x2 s = some t) : kR sc 2 km_TownText_readHand [kr 1, kr b1, kI x2] (hH s) none (hH t) := by
  unfold f_TownText_readHand at hf
  refine kR.start rfl ?_
  show kW sc 2 kc_TownText_readHand 0 0 [some (kr 1), some (kr b1), some (kI x2)] [] (hH s) _
  have hq : (fun (r : Option kV) (g : kH) => r = none ∧ g = hH t) none (hH t) := ⟨rfl, rfl⟩
  refine kw_step rfl rfl rfl rfl ?_
  refine kw_step rfl rfl rfl rfl ?_
  obtain ⟨q1, hq1, hf⟩ := gbind hf
  refine kw_callV (vs := [kI 43]) rfl rfl rfl ⟨rfl, Nat.le_of_ble_eq_true rfl, Nat.le_of_ble_eq_true rfl, by decide⟩ (hH_O (rfl : kotab 1 = some kPo)) (c_Tape_takeSign 43 s _ hq1) (Nat.le_of_ble_eq_true rfl) ?_
  refine kw_if_eq rfl rfl (fun c3 => ?_) (fun c3 => ?_)
  · have hf := gift c3 hf
    refine kw_step rfl rfl rfl rfl ?_
    refine kw_step rfl rfl rfl rfl ?_
    obtain ⟨q4, hq4, hf⟩ := gbind hf
    refine kw_callV (vs := [kI 45]) rfl rfl rfl ⟨rfl, Nat.le_of_ble_eq_true rfl, Nat.le_of_ble_eq_true rfl, by decide⟩ (hH_O (rfl : kotab 1 = some kPo)) (c_Tape_takeSign 45 q1.2 _ hq4) (Nat.le_of_ble_eq_true rfl) ?_
    refine kw_if_eq rfl rfl (fun c6 => ?_) (fun c6 => ?_)
    · have hf := gift c6 hf
      refine kw_step rfl rfl rfl rfl ?_
      refine kw_step rfl rfl rfl rfl ?_
      obtain ⟨q7, hq7, hf⟩ := gbind hf
      refine kw_callV (vs := [kI 0]) rfl rfl rfl ⟨rfl, Nat.le_of_ble_eq_true rfl, Nat.le_of_ble_eq_true rfl, by decide⟩ (hH_O (rfl : kotab 1 = some kPo)) (c_Tape_fail 0 q4.2 _ hq7) (Nat.le_of_ble_eq_true rfl) ?_
      cases hf
      exact kw_ret rfl rfl rfl hq
    · have hf := giff c6 hf
      refine kw_step rfl rfl rfl rfl ?_
      refine kw_get rfl (hH_O (tT_0 hb1)) rfl ?_
      refine kw_step rfl rfl rfl rfl ?_
      refine kw_step rfl rfl rfl rfl ?_
      obtain ⟨j9, i10, hf⟩ := gbI hf
      obtain ⟨s11, ee12, hf⟩ := gbL hf
      refine kw_iastH rfl (tT_2 hb1) i10.1 i10.2.1 i10.2.2 ee12 ?_
      refine kw_goto rfl rfl ?_
      cases hf
      exact kw_ret rfl rfl rfl hq
  · have hf := giff c3 hf
    refine kw_step rfl rfl rfl rfl ?_
    refine kw_get rfl (hH_O (tT_0 hb1)) rfl ?_
    refine kw_step rfl rfl rfl rfl ?_
    refine kw_step rfl rfl rfl rfl ?_
    obtain ⟨j14, i15, hf⟩ := gbI hf
    obtain ⟨s16, ee17, hf⟩ := gbL hf
    refine kw_iastH rfl (tT_2 hb1) i15.1 i15.2.1 i15.2.2 ee17 ?_
    refine kw_goto rfl rfl ?_
    cases hf
    exact kw_ret rfl rfl rfl hq
def f_TownText_readPass_28 (b1 : Nat) (x2 : Int) (x3 : Int) (y0 : Int) (y1 : Int) (s : kM) : Option (Int × kM) :=
  (f_TownText_isTold b1 (wI (y0 + y1)) s).bind fun q1 => if q1 = 0 then ((f_Tape_skipNumber s).bind fun q3 => (f_Town_append b1 (wI (y0 + y1)) q3).bind fun q5 => if x2 = 0 then (some (1, q5)) else ((f_TownText_readHand b1 x3 q5).bind fun q8 => some (1, q8))) else ((f_Tape_fail 5 s).bind fun q10 => some (1, q10))
set_option maxRecDepth 8000 in
theorem b_TownText_readPass_28 {sc : List Int} {Q : Option kV → kH → Prop} (b1 : Nat) (hb1 : tT b1 = true) (x2 : Int) (x3 : Int) (y0 : Int) (y1 : Int) (s : kM) (t : Int × kM) (hf : f_TownText_readPass_28 b1 x2 x3 y0 y1 s = some t) (hq : (fun r => Q (some (kI r.1)) (hH r.2)) t) : kW sc 3 kc_TownText_readPass 2 28 [some (kr 1), some (kr b1), some (kI x2), some (kI x3), none] [kI y1, kI y0] (hH s) Q := by
  unfold f_TownText_readPass_28 at hf
  refine kw_step rfl rfl rfl rfl ?_
  refine kw_step (L' := [some (kr 1), some (kr b1), some (kI x2), some (kI x3), some (kI (wI (y0 + y1)))]) rfl rfl rfl rfl ?_
  refine kw_step rfl rfl rfl rfl ?_
  refine kw_step rfl rfl rfl rfl ?_
  obtain ⟨q1, hq1, hf⟩ := gbind hf
  refine kw_callS (vs := [kr b1, kI (wI (y0 + y1))]) rfl rfl rfl ⟨rfl, Nat.le_of_ble_eq_true rfl, Nat.le_of_ble_eq_true rfl, rfl⟩ (c_TownText_isTold b1 hb1 (wI (y0 + y1)) s _ hq1) (Nat.le_of_ble_eq_true rfl) ?_
  refine kw_if_eq rfl rfl (fun c2 => ?_) (fun c2 => ?_)
  · have hf := gift c2 hf
    refine kw_step rfl rfl rfl rfl ?_
    obtain ⟨q3, hq3, hf⟩ := gbind hf
    refine kw_callV (vs := []) rfl rfl rfl ⟨rfl, Nat.le_of_ble_eq_true rfl, Nat.le_of_ble_eq_true rfl, by decide⟩ (hH_O (rfl : kotab 1 = some kPo)) (c_Tape_skipNumber s _ hq3) (Nat.le_of_ble_eq_true rfl) ?_
    refine kw_step rfl rfl rfl rfl ?_
    refine kw_step rfl rfl rfl rfl ?_
    obtain ⟨q5, hq5, hf⟩ := gbind hf
    refine kw_callV (vs := [kI (wI (y0 + y1))]) rfl rfl rfl ⟨rfl, Nat.le_of_ble_eq_true rfl, Nat.le_of_ble_eq_true rfl, by decide⟩ (hH_O (tT_0 hb1)) (c_Town_append b1 hb1 (wI (y0 + y1)) q3 _ hq5) (Nat.le_of_ble_eq_true rfl) ?_
    refine kw_step rfl rfl rfl rfl ?_
    refine kw_if_eq rfl rfl (fun c7 => ?_) (fun c7 => ?_)
    · have hf := gift c7 hf
      refine kw_step rfl rfl rfl rfl ?_
      cases hf
      exact kw_ret rfl rfl rfl hq
    · have hf := giff c7 hf
      refine kw_step rfl rfl rfl rfl ?_
      refine kw_step rfl rfl rfl rfl ?_
      refine kw_step rfl rfl rfl rfl ?_
      obtain ⟨q8, hq8, hf⟩ := gbind hf
      refine kw_callS (vs := [kr 1, kr b1, kI x3]) rfl rfl rfl ⟨rfl, Nat.le_of_ble_eq_true rfl, Nat.le_of_ble_eq_true rfl, rfl⟩ (c_TownText_readHand b1 hb1 x3 q5 _ hq8) (Nat.le_of_ble_eq_true rfl) ?_
      refine kw_step rfl rfl rfl rfl ?_
      cases hf
      exact kw_ret rfl rfl rfl hq
  · have hf := giff c2 hf
    refine kw_step rfl rfl rfl rfl ?_
    refine kw_step rfl rfl rfl rfl ?_
    obtain ⟨q10, hq10, hf⟩ := gbind hf
    refine kw_callV (vs := [kI 5]) rfl rfl rfl ⟨rfl, Nat.le_of_ble_eq_true rfl, Nat.le_of_ble_eq_true rfl, by decide⟩ (hH_O (rfl : kotab 1 = some kPo)) (c_Tape_fail 5 s _ hq10) (Nat.le_of_ble_eq_true rfl) ?_
    refine kw_step rfl rfl rfl rfl ?_
    cases hf
    exact kw_ret rfl rfl rfl hq
def f_TownText_readPass_12 (b1 : Nat) (x2 : Int) (s : kM) : Option (Int × kM) :=
  (f_Tape_seenNumber 10 s).bind fun q1 => if 0 ≤ q1.1 then (if x2 = 0 then (f_TownText_readPass_28 b1 x2 q1.1 (wI (2 * q1.1)) 0 q1.2) else (f_TownText_readPass_28 b1 x2 q1.1 (wI (2 * q1.1)) 1 q1.2)) else (some (1, q1.2))
set_option maxRecDepth 8000 in
theorem b_TownText_readPass_12 {sc : List Int} {Q : Option kV → kH → Prop} (b1 : Nat) (hb1 : tT b1 = true) (x2 : Int) (s : kM) (t : Int × kM) (hf : f_TownText_readPass_12 b1 x2 s = some t) (hq : (fun r => Q (some (kI r.1)) (hH r.2)) t) : kW sc 3 kc_TownText_readPass 2 12 [some (kr 1), some (kr b1), some (kI x2), none, none] [] (hH s) Q := by
  unfold f_TownText_readPass_12 at hf
  refine kw_step rfl rfl rfl rfl ?_
  refine kw_step rfl rfl rfl rfl ?_
  obtain ⟨q1, hq1, hf⟩ := gbind hf
  refine kw_callV (vs := [kI 10]) rfl rfl rfl ⟨rfl, Nat.le_of_ble_eq_true rfl, Nat.le_of_ble_eq_true rfl, by decide⟩ (hH_O (rfl : kotab 1 = some kPo)) (c_Tape_seenNumber 10 s _ hq1) (Nat.le_of_ble_eq_true rfl) ?_
  refine kw_step (L' := [some (kr 1), some (kr b1), some (kI x2), some (kI q1.1), none]) rfl rfl rfl rfl ?_
  refine kw_step rfl rfl rfl rfl ?_
  refine kw_if_ge rfl rfl (fun c3 => ?_) (fun c3 => ?_)
  · have hf := gift c3 hf
    refine kw_step rfl rfl rfl rfl ?_
    refine kw_step rfl rfl rfl rfl ?_
    refine kw_step rfl rfl rfl rfl ?_
    refine kw_step rfl rfl rfl rfl ?_
    refine kw_if_eq rfl rfl (fun c4 => ?_) (fun c4 => ?_)
    · have hf := gift c4 hf
      refine kw_step rfl rfl rfl rfl ?_
      exact kW_le (L' := [some (kr 1), some (kr b1), some (kI x2), some (kI q1.1), none]) ⟨Or.inr rfl, Or.inr rfl, Or.inr rfl, Or.inr rfl, Or.inl rfl, trivial⟩ (b_TownText_readPass_28 b1 hb1 x2 q1.1 (wI (2 * q1.1)) 0 q1.2 _ hf hq)
    · have hf := giff c4 hf
      refine kw_step rfl rfl rfl rfl ?_
      refine kw_goto rfl rfl ?_
      exact kW_le (L' := [some (kr 1), some (kr b1), some (kI x2), some (kI q1.1), none]) ⟨Or.inr rfl, Or.inr rfl, Or.inr rfl, Or.inr rfl, Or.inl rfl, trivial⟩ (b_TownText_readPass_28 b1 hb1 x2 q1.1 (wI (2 * q1.1)) 1 q1.2 _ hf hq)
  · have hf := giff c3 hf
    refine kw_step rfl rfl rfl rfl ?_
    cases hf
    exact kw_ret rfl rfl rfl hq
def f_TownText_readPass (b1 : Nat) (s : kM) : Option (Int × kM) :=
  (f_Tape_takeWord 1 s).bind fun q1 => if q1.1 = 0 then ((f_Tape_takeWord 2 q1.2).bind fun q4 => if q4.1 = 0 then (some (0, q4.2)) else (f_TownText_readPass_12 b1 q1.1 q4.2)) else (f_TownText_readPass_12 b1 q1.1 q1.2)
set_option maxRecDepth 8000 in
theorem c_TownText_readPass {sc : List Int} (b1 : Nat) (hb1 : tT b1 = true) (s : kM) (t : Int × kM) (hf : f_TownText_readPass b1 s = some t) : kR sc 3 km_TownText_readPass [kr 1, kr b1] (hH s) (some (kI t.1)) (hH t.2) := by
  unfold f_TownText_readPass at hf
  refine kR.start rfl ?_
  show kW sc 3 kc_TownText_readPass 2 0 [some (kr 1), some (kr b1), none, none, none] [] (hH s) _
  have hq : (fun (r : Option kV) (g : kH) => r = some (kI t.1) ∧ g = hH t.2) (some (kI t.1)) (hH t.2) := ⟨rfl, rfl⟩
  refine kw_step rfl rfl rfl rfl ?_
  refine kw_step rfl rfl rfl rfl ?_
  obtain ⟨q1, hq1, hf⟩ := gbind hf
  refine kw_callV (vs := [kS 1]) rfl rfl rfl ⟨rfl, Nat.le_of_ble_eq_true rfl, Nat.le_of_ble_eq_true rfl, by decide⟩ (hH_O (rfl : kotab 1 = some kPo)) (c_Tape_takeWord 1 s _ hq1) (Nat.le_of_ble_eq_true rfl) ?_
  refine kw_step (L' := [some (kr 1), some (kr b1), some (kI q1.1), none, none]) rfl rfl rfl rfl ?_
  refine kw_step rfl rfl rfl rfl ?_
  refine kw_if_ne rfl rfl (fun c3 => ?_) (fun c3 => ?_)
  · have hf := giff c3 hf
    exact kW_le (L' := [some (kr 1), some (kr b1), some (kI q1.1), none, none]) ⟨Or.inr rfl, Or.inr rfl, Or.inr rfl, Or.inl rfl, Or.inl rfl, trivial⟩ (b_TownText_readPass_12 b1 hb1 q1.1 q1.2 _ hf hq)
  · have hf := gift c3 hf
    refine kw_step rfl rfl rfl rfl ?_
    refine kw_step rfl rfl rfl rfl ?_
    obtain ⟨q4, hq4, hf⟩ := gbind hf
    refine kw_callV (vs := [kS 2]) rfl rfl rfl ⟨rfl, Nat.le_of_ble_eq_true rfl, Nat.le_of_ble_eq_true rfl, by decide⟩ (hH_O (rfl : kotab 1 = some kPo)) (c_Tape_takeWord 2 q1.2 _ hq4) (Nat.le_of_ble_eq_true rfl) ?_
    refine kw_if_ne rfl rfl (fun c6 => ?_) (fun c6 => ?_)
    · have hf := giff c6 hf
      exact kW_le (L' := [some (kr 1), some (kr b1), some (kI q1.1), none, none]) ⟨Or.inr rfl, Or.inr rfl, Or.inr rfl, Or.inl rfl, Or.inl rfl, trivial⟩ (b_TownText_readPass_12 b1 hb1 q1.1 q4.2 _ hf hq)
    · have hf := gift c6 hf
      refine kw_step rfl rfl rfl rfl ?_
      cases hf
      exact kw_ret rfl rfl rfl hq
def f_TownText_readRoad_48 (b1 : Nat) (s : kM) : Option (kM) :=
  if (s b1 0) = 1 then (gLet (gU s b1 1 (s b1 2)) fun s2 => some s2) else (some s)
set_option maxRecDepth 8000 in
theorem b_TownText_readRoad_48 {sc : List Int} {Q : Option kV → kH → Prop} (b1 : Nat) (hb1 : tT b1 = true) (s : kM) (t : kM) (hf : f_TownText_readRoad_48 b1 s = some t) (hq : (fun r => Q none (hH r)) t) : kW sc 4 kc_TownText_readRoad 0 48 [none, some (kr b1), none, none] [] (hH s) Q := by
  unfold f_TownText_readRoad_48 at hf
  refine kw_step rfl rfl rfl rfl ?_
  refine kw_get rfl (hH_O (tT_0 hb1)) rfl ?_
  refine kw_step rfl rfl rfl rfl ?_
  refine kw_icmp_ne rfl rfl (fun c1 => ?_) (fun c1 => ?_)
  · have hf := giff c1 hf
    cases hf
    exact kw_ret rfl rfl rfl hq
  · have hf := gift c1 hf
    refine kw_step rfl rfl rfl rfl ?_
    refine kw_step rfl rfl rfl rfl ?_
    refine kw_get rfl (hH_O (tT_0 hb1)) rfl ?_
    obtain ⟨s2, ee3, hf⟩ := gbL hf
    refine kw_putH rfl (tT_0 hb1) rfl rfl rfl (Nat.le_of_ble_eq_true rfl) rfl ee3 ?_
    cases hf
    exact kw_ret rfl rfl rfl hq
def f_TownText_readRoad_45 (b1 : Nat) (x3 : Int) (y0 : Int) (s : kM) : Option ((Int × Int × kM) ⊕ (kM)) :=
  some (.inl (y0, (wI (x3 + 1)), s))
set_option maxRecDepth 8000 in
theorem b_TownText_readRoad_45 {sc : List Int} {Q : Option kV → kH → Prop} (b1 : Nat) (hb1 : tT b1 = true) (x3 : Int) (y0 : Int) (s : kM) (t : (Int × Int × kM) ⊕ (kM)) (hf : f_TownText_readRoad_45 b1 x3 y0 s = some t) (hq : (gE (fun x => kW sc 4 kc_TownText_readRoad 0 30 [some (kr 1), some (kr b1), some (kI x.1), some (kI x.2.1)] [] (hH x.2.2) Q) (fun r => Q none (hH r))) t) : kW sc 4 kc_TownText_readRoad 0 45 [some (kr 1), some (kr b1), none, some (kI x3)] [kI y0] (hH s) Q := by
  unfold f_TownText_readRoad_45 at hf
  refine kw_step (L' := [some (kr 1), some (kr b1), some (kI y0), some (kI x3)]) rfl rfl rfl rfl ?_
  refine kw_step (L' := [some (kr 1), some (kr b1), some (kI y0), some (kI (wI (x3 + 1)))]) rfl rfl rfl rfl ?_
  refine kw_goto rfl rfl ?_
  cases hf
  exact kW_le (L' := [some (kr 1), some (kr b1), some (kI y0), some (kI (wI (x3 + 1)))]) ⟨Or.inr rfl, Or.inr rfl, Or.inr rfl, Or.inr rfl, trivial⟩ hq
def f_TownText_readRoad_44 (b1 : Nat) (x3 : Int) (s : kM) : Option ((Int × Int × kM) ⊕ (kM)) :=
  f_TownText_readRoad_45 b1 x3 0 s
set_option maxRecDepth 8000 in
theorem b_TownText_readRoad_44 {sc : List Int} {Q : Option kV → kH → Prop} (b1 : Nat) (hb1 : tT b1 = true) (x3 : Int) (s : kM) (t : (Int × Int × kM) ⊕ (kM)) (hf : f_TownText_readRoad_44 b1 x3 s = some t) (hq : (gE (fun x => kW sc 4 kc_TownText_readRoad 0 30 [some (kr 1), some (kr b1), some (kI x.1), some (kI x.2.1)] [] (hH x.2.2) Q) (fun r => Q none (hH r))) t) : kW sc 4 kc_TownText_readRoad 0 44 [some (kr 1), some (kr b1), none, some (kI x3)] [] (hH s) Q := by
  unfold f_TownText_readRoad_44 at hf
  refine kw_step rfl rfl rfl rfl ?_
  exact kW_le (L' := [some (kr 1), some (kr b1), none, some (kI x3)]) ⟨Or.inr rfl, Or.inr rfl, Or.inl rfl, Or.inr rfl, trivial⟩ (b_TownText_readRoad_45 b1 hb1 x3 0 s _ hf hq)
def f_TownText_readRoad_30b (b1 : Nat) (x2 : Int) (x3 : Int) (s : kM) : Option ((Int × Int × kM) ⊕ (kM)) :=
  if 22 < x3 then ((f_TownText_readRoad_48 b1 s).map Sum.inr) else (if x2 = 0 then ((f_TownText_readRoad_48 b1 s).map Sum.inr) else ((f_TownText_readPass b1 s).bind fun q7 => if q7.1 = 0 then (f_TownText_readRoad_44 b1 x3 q7.2) else (if (q7.2 1 3) = 0 then (f_TownText_readRoad_45 b1 x3 1 q7.2) else (f_TownText_readRoad_44 b1 x3 q7.2))))
set_option maxRecDepth 8000 in
theorem b_TownText_readRoad_30b {sc : List Int} {Q : Option kV → kH → Prop} (b1 : Nat) (hb1 : tT b1 = true) (x2 : Int) (x3 : Int) (s : kM) (t : (Int × Int × kM) ⊕ (kM)) (hf : f_TownText_readRoad_30b b1 x2 x3 s = some t) (hq : (gE (fun x => kW sc 4 kc_TownText_readRoad 0 30 [some (kr 1), some (kr b1), some (kI x.1), some (kI x.2.1)] [] (hH x.2.2) Q) (fun r => Q none (hH r))) t) : kW sc 4 kc_TownText_readRoad 0 30 [some (kr 1), some (kr b1), some (kI x2), some (kI x3)] [] (hH s) Q := by
  unfold f_TownText_readRoad_30b at hf
  refine kw_step rfl rfl rfl rfl ?_
  refine kw_step rfl rfl rfl rfl ?_
  refine kw_icmp_gt rfl rfl (fun c1 => ?_) (fun c1 => ?_)
  · have hf := gift c1 hf
    obtain ⟨t2, hg3, rfl⟩ := gmap hf
    exact kW_le (L' := [none, some (kr b1), none, none]) ⟨Or.inl rfl, Or.inr rfl, Or.inl rfl, Or.inl rfl, trivial⟩ (b_TownText_readRoad_48 b1 hb1 s _ hg3 hq)
  · have hf := giff c1 hf
    refine kw_step rfl rfl rfl rfl ?_
    refine kw_if_eq rfl rfl (fun c4 => ?_) (fun c4 => ?_)
    · have hf := gift c4 hf
      obtain ⟨t5, hg6, rfl⟩ := gmap hf
      exact kW_le (L' := [none, some (kr b1), none, none]) ⟨Or.inl rfl, Or.inr rfl, Or.inl rfl, Or.inl rfl, trivial⟩ (b_TownText_readRoad_48 b1 hb1 s _ hg6 hq)
    · have hf := giff c4 hf
      refine kw_step rfl rfl rfl rfl ?_
      refine kw_step rfl rfl rfl rfl ?_
      obtain ⟨q7, hq7, hf⟩ := gbind hf
      refine kw_callS (vs := [kr 1, kr b1]) rfl rfl rfl ⟨rfl, Nat.le_of_ble_eq_true rfl, Nat.le_of_ble_eq_true rfl, rfl⟩ (c_TownText_readPass b1 hb1 s _ hq7) (Nat.le_of_ble_eq_true rfl) ?_
      refine kw_if_eq rfl rfl (fun c9 => ?_) (fun c9 => ?_)
      · have hf := gift c9 hf
        exact kW_le (L' := [some (kr 1), some (kr b1), none, some (kI x3)]) ⟨Or.inr rfl, Or.inr rfl, Or.inl rfl, Or.inr rfl, trivial⟩ (b_TownText_readRoad_44 b1 hb1 x3 q7.2 _ hf hq)
      · have hf := giff c9 hf
        refine kw_step rfl rfl rfl rfl ?_
        refine kw_get rfl (hH_O (rfl : kotab 1 = some kPo)) rfl ?_
        refine kw_if_ne rfl rfl (fun c10 => ?_) (fun c10 => ?_)
        · have hf := giff c10 hf
          exact kW_le (L' := [some (kr 1), some (kr b1), none, some (kI x3)]) ⟨Or.inr rfl, Or.inr rfl, Or.inl rfl, Or.inr rfl, trivial⟩ (b_TownText_readRoad_44 b1 hb1 x3 q7.2 _ hf hq)
        · have hf := gift c10 hf
          refine kw_step rfl rfl rfl rfl ?_
          refine kw_goto rfl rfl ?_
          exact kW_le (L' := [some (kr 1), some (kr b1), none, some (kI x3)]) ⟨Or.inr rfl, Or.inr rfl, Or.inl rfl, Or.inr rfl, trivial⟩ (b_TownText_readRoad_45 b1 hb1 x3 1 q7.2 _ hf hq)
def f_TownText_readRoad_30 (b1 : Nat) (x2 : Int) (x3 : Int) (s : kM) : Option (kM) :=
  gL (fun (x : Int × Int × kM) => f_TownText_readRoad_30b b1 x.1 x.2.1 x.2.2) gF (x2, x3, s)
theorem b_TownText_readRoad_30 {sc : List Int} {Q : Option kV → kH → Prop} (b1 : Nat) (hb1 : tT b1 = true) (x2 : Int) (x3 : Int) (s : kM) (t : kM) (hf : f_TownText_readRoad_30 b1 x2 x3 s = some t) (hq : (fun r => Q none (hH r)) t) : kW sc 4 kc_TownText_readRoad 0 30 [some (kr 1), some (kr b1), some (kI x2), some (kI x3)] [] (hH s) Q :=
  gL_ind (P := fun (x : Int × Int × kM) => kW sc 4 kc_TownText_readRoad 0 30 [some (kr 1), some (kr b1), some (kI x.1), some (kI x.2.1)] [] (hH x.2.2) Q) (q := (fun r => Q none (hH r))) (fun x t hf hq => b_TownText_readRoad_30b b1 hb1 x.1 x.2.1 x.2.2 t hf hq) gF (x2, x3, s) t hf hq
def f_TownText_readRoad (b1 : Nat) (s : kM) : Option (kM) :=
  (f_Tape_seesWord 0 s).bind fun q1 => if q1.1 = 0 then ((f_Tape_fail 0 q1.2).bind fun q12 => some q12) else (if (q1.2 b1 0) = 2 then ((f_Tape_fail 4 q1.2).bind fun q10 => some q10) else ((f_Tape_takeWord 0 q1.2).bind fun q5 => gLet (gU q5.2 b1 0 (wI ((q5.2 b1 0) + 1))) fun s7 => f_TownText_readRoad_30 b1 1 0 s7))
set_option maxRecDepth 8000 in
theorem c_TownText_readRoad {sc : List Int} (b1 : Nat) (hb1 : tT b1 = true) (s : kM) (t : kM) (hf : f_TownText_readRoad b1 s = some t) : kR sc 4 km_TownText_readRoad [kr 1, kr b1] (hH s) none (hH t) := by
  unfold f_TownText_readRoad at hf
  refine kR.start rfl ?_
  show kW sc 4 kc_TownText_readRoad 0 0 [some (kr 1), some (kr b1), none, none] [] (hH s) _
  have hq : (fun (r : Option kV) (g : kH) => r = none ∧ g = hH t) none (hH t) := ⟨rfl, rfl⟩
  refine kw_step rfl rfl rfl rfl ?_
  refine kw_step rfl rfl rfl rfl ?_
  obtain ⟨q1, hq1, hf⟩ := gbind hf
  refine kw_callV (vs := [kS 0]) rfl rfl rfl ⟨rfl, Nat.le_of_ble_eq_true rfl, Nat.le_of_ble_eq_true rfl, by decide⟩ (hH_O (rfl : kotab 1 = some kPo)) (c_Tape_seesWord 0 s _ hq1) (Nat.le_of_ble_eq_true rfl) ?_
  refine kw_if_ne rfl rfl (fun c3 => ?_) (fun c3 => ?_)
  · have hf := giff c3 hf
    refine kw_step rfl rfl rfl rfl ?_
    refine kw_get rfl (hH_O (tT_0 hb1)) rfl ?_
    refine kw_step rfl rfl rfl rfl ?_
    refine kw_icmp_ne rfl rfl (fun c4 => ?_) (fun c4 => ?_)
    · have hf := giff c4 hf
      refine kw_step rfl rfl rfl rfl ?_
      refine kw_step rfl rfl rfl rfl ?_
      obtain ⟨q5, hq5, hf⟩ := gbind hf
      refine kw_callV (vs := [kS 0]) rfl rfl rfl ⟨rfl, Nat.le_of_ble_eq_true rfl, Nat.le_of_ble_eq_true rfl, by decide⟩ (hH_O (rfl : kotab 1 = some kPo)) (c_Tape_takeWord 0 q1.2 _ hq5) (Nat.le_of_ble_eq_true rfl) ?_
      refine kw_step rfl rfl rfl rfl ?_
      refine kw_step rfl rfl rfl rfl ?_
      refine kw_step rfl rfl rfl rfl ?_
      refine kw_get rfl (hH_O (tT_0 hb1)) rfl ?_
      refine kw_step rfl rfl rfl rfl ?_
      refine kw_step rfl rfl rfl rfl ?_
      obtain ⟨s7, ee8, hf⟩ := gbL hf
      refine kw_putH rfl (tT_0 hb1) rfl rfl rfl (Nat.le_of_ble_eq_true rfl) rfl ee8 ?_
      refine kw_step rfl rfl rfl rfl ?_
      refine kw_step (L' := [some (kr 1), some (kr b1), some (kI 1), none]) rfl rfl rfl rfl ?_
      refine kw_step rfl rfl rfl rfl ?_
      refine kw_step (L' := [some (kr 1), some (kr b1), some (kI 1), some (kI 0)]) rfl rfl rfl rfl ?_
      exact kW_le (L' := [some (kr 1), some (kr b1), some (kI 1), some (kI 0)]) ⟨Or.inr rfl, Or.inr rfl, Or.inr rfl, Or.inr rfl, trivial⟩ (b_TownText_readRoad_30 b1 hb1 1 0 s7 _ hf hq)
    · have hf := gift c4 hf
      refine kw_step rfl rfl rfl rfl ?_
      refine kw_step rfl rfl rfl rfl ?_
      obtain ⟨q10, hq10, hf⟩ := gbind hf
      refine kw_callV (vs := [kI 4]) rfl rfl rfl ⟨rfl, Nat.le_of_ble_eq_true rfl, Nat.le_of_ble_eq_true rfl, by decide⟩ (hH_O (rfl : kotab 1 = some kPo)) (c_Tape_fail 4 q1.2 _ hq10) (Nat.le_of_ble_eq_true rfl) ?_
      cases hf
      exact kw_ret rfl rfl rfl hq
  · have hf := gift c3 hf
    refine kw_step rfl rfl rfl rfl ?_
    refine kw_step rfl rfl rfl rfl ?_
    obtain ⟨q12, hq12, hf⟩ := gbind hf
    refine kw_callV (vs := [kI 0]) rfl rfl rfl ⟨rfl, Nat.le_of_ble_eq_true rfl, Nat.le_of_ble_eq_true rfl, by decide⟩ (hH_O (rfl : kotab 1 = some kPo)) (c_Tape_fail 0 q1.2 _ hq12) (Nat.le_of_ble_eq_true rfl) ?_
    cases hf
    exact kw_ret rfl rfl rfl hq
def f_Tape_atEnd (s : kM) : Option (Int) :=
  if (s 1 2) < (s 1 1) then (some 0) else (some 1)
set_option maxRecDepth 8000 in
theorem c_Tape_atEnd {sc : List Int} (s : kM) (t : Int) (hf : f_Tape_atEnd s = some t) : kR sc 0 km_Tape_atEnd [kr 1] (hH s) (some (kI t)) (hH s) := by
  unfold f_Tape_atEnd at hf
  refine kR.start rfl ?_
  show kW sc 0 kc_Tape_atEnd 2 0 [some (kr 1)] [] (hH s) _
  have hq : (fun (r : Option kV) (g : kH) => r = some (kI t) ∧ g = hH s) (some (kI t)) (hH s) := ⟨rfl, rfl⟩
  refine kw_step rfl rfl rfl rfl ?_
  refine kw_get rfl (hH_O (rfl : kotab 1 = some kPo)) rfl ?_
  refine kw_step rfl rfl rfl rfl ?_
  refine kw_get rfl (hH_O (rfl : kotab 1 = some kPo)) rfl ?_
  refine kw_icmp_lt rfl rfl (fun c1 => ?_) (fun c1 => ?_)
  · have hf := gift c1 hf
    refine kw_step rfl rfl rfl rfl ?_
    cases hf
    exact kw_ret rfl rfl rfl hq
  · have hf := giff c1 hf
    refine kw_step rfl rfl rfl rfl ?_
    refine kw_goto rfl rfl ?_
    cases hf
    exact kw_ret rfl rfl rfl hq
def f_Integer_bitCount (x0 : Int) (s : kM) : Option (Int) :=
  some (kand (wI ((wI ((kand (wI ((wI ((kand (wI (x0 - (kand (kushr x0 1) 1431655765))) 858993459) + (kand (kushr (wI (x0 - (kand (kushr x0 1) 1431655765))) 2) 858993459))) + (kushr (wI ((kand (wI (x0 - (kand (kushr x0 1) 1431655765))) 858993459) + (kand (kushr (wI (x0 - (kand (kushr x0 1) 1431655765))) 2) 858993459))) 4))) 252645135) + (kushr (kand (wI ((wI ((kand (wI (x0 - (kand (kushr x0 1) 1431655765))) 858993459) + (kand (kushr (wI (x0 - (kand (kushr x0 1) 1431655765))) 2) 858993459))) + (kushr (wI ((kand (wI (x0 - (kand (kushr x0 1) 1431655765))) 858993459) + (kand (kushr (wI (x0 - (kand (kushr x0 1) 1431655765))) 2) 858993459))) 4))) 252645135) 8))) + (kushr (wI ((kand (wI ((wI ((kand (wI (x0 - (kand (kushr x0 1) 1431655765))) 858993459) + (kand (kushr (wI (x0 - (kand (kushr x0 1) 1431655765))) 2) 858993459))) + (kushr (wI ((kand (wI (x0 - (kand (kushr x0 1) 1431655765))) 858993459) + (kand (kushr (wI (x0 - (kand (kushr x0 1) 1431655765))) 2) 858993459))) 4))) 252645135) + (kushr (kand (wI ((wI ((kand (wI (x0 - (kand (kushr x0 1) 1431655765))) 858993459) + (kand (kushr (wI (x0 - (kand (kushr x0 1) 1431655765))) 2) 858993459))) + (kushr (wI ((kand (wI (x0 - (kand (kushr x0 1) 1431655765))) 858993459) + (kand (kushr (wI (x0 - (kand (kushr x0 1) 1431655765))) 2) 858993459))) 4))) 252645135) 8))) 16))) 63)
set_option maxRecDepth 8000 in
theorem c_Integer_bitCount {sc : List Int} (x0 : Int) (s : kM) (t : Int) (hf : f_Integer_bitCount x0 s = some t) : kR sc 0 km_Integer_bitCount [kI x0] (hH s) (some (kI t)) (hH s) := by
  unfold f_Integer_bitCount at hf
  refine kR.start rfl ?_
  show kW sc 0 kc_Integer_bitCount 1 0 [some (kI x0)] [] (hH s) _
  have hq : (fun (r : Option kV) (g : kH) => r = some (kI t) ∧ g = hH s) (some (kI t)) (hH s) := ⟨rfl, rfl⟩
  refine kw_step rfl rfl rfl rfl ?_
  refine kw_step rfl rfl rfl rfl ?_
  refine kw_step rfl rfl rfl rfl ?_
  refine kw_step rfl rfl rfl rfl ?_
  refine kw_step rfl rfl rfl rfl ?_
  refine kw_step rfl rfl rfl rfl ?_
  refine kw_step rfl rfl rfl rfl ?_
  refine kw_step (L' := [some (kI (wI (x0 - (kand (kushr x0 1) 1431655765))))]) rfl rfl rfl rfl ?_
  refine kw_step rfl rfl rfl rfl ?_
  refine kw_step rfl rfl rfl rfl ?_
  refine kw_step rfl rfl rfl rfl ?_
  refine kw_step rfl rfl rfl rfl ?_
  refine kw_step rfl rfl rfl rfl ?_
  refine kw_step rfl rfl rfl rfl ?_
  refine kw_step rfl rfl rfl rfl ?_
  refine kw_step rfl rfl rfl rfl ?_
  refine kw_step rfl rfl rfl rfl ?_
  refine kw_step (L' := [some (kI (wI ((kand (wI (x0 - (kand (kushr x0 1) 1431655765))) 858993459) + (kand (kushr (wI (x0 - (kand (kushr x0 1) 1431655765))) 2) 858993459))))]) rfl rfl rfl rfl ?_
  refine kw_step rfl rfl rfl rfl ?_
  refine kw_step rfl rfl rfl rfl ?_
  refine kw_step rfl rfl rfl rfl ?_
  refine kw_step rfl rfl rfl rfl ?_
  refine kw_step rfl rfl rfl rfl ?_
  refine kw_step rfl rfl rfl rfl ?_
  refine kw_step rfl rfl rfl rfl ?_
  refine kw_step (L' := [some (kI (kand (wI ((wI ((kand (wI (x0 - (kand (kushr x0 1) 1431655765))) 858993459) + (kand (kushr (wI (x0 - (kand (kushr x0 1) 1431655765))) 2) 858993459))) + (kushr (wI ((kand (wI (x0 - (kand (kushr x0 1) 1431655765))) 858993459) + (kand (kushr (wI (x0 - (kand (kushr x0 1) 1431655765))) 2) 858993459))) 4))) 252645135))]) rfl rfl rfl rfl ?_
  refine kw_step rfl rfl rfl rfl ?_
  refine kw_step rfl rfl rfl rfl ?_
  refine kw_step rfl rfl rfl rfl ?_
  refine kw_step rfl rfl rfl rfl ?_
  refine kw_step rfl rfl rfl rfl ?_
  refine kw_step (L' := [some (kI (wI ((kand (wI ((wI ((kand (wI (x0 - (kand (kushr x0 1) 1431655765))) 858993459) + (kand (kushr (wI (x0 - (kand (kushr x0 1) 1431655765))) 2) 858993459))) + (kushr (wI ((kand (wI (x0 - (kand (kushr x0 1) 1431655765))) 858993459) + (kand (kushr (wI (x0 - (kand (kushr x0 1) 1431655765))) 2) 858993459))) 4))) 252645135) + (kushr (kand (wI ((wI ((kand (wI (x0 - (kand (kushr x0 1) 1431655765))) 858993459) + (kand (kushr (wI (x0 - (kand (kushr x0 1) 1431655765))) 2) 858993459))) + (kushr (wI ((kand (wI (x0 - (kand (kushr x0 1) 1431655765))) 858993459) + (kand (kushr (wI (x0 - (kand (kushr x0 1) 1431655765))) 2) 858993459))) 4))) 252645135) 8))))]) rfl rfl rfl rfl ?_
  refine kw_step rfl rfl rfl rfl ?_
  refine kw_step rfl rfl rfl rfl ?_
  refine kw_step rfl rfl rfl rfl ?_
  refine kw_step rfl rfl rfl rfl ?_
  refine kw_step rfl rfl rfl rfl ?_
  refine kw_step (L' := [some (kI (wI ((wI ((kand (wI ((wI ((kand (wI (x0 - (kand (kushr x0 1) 1431655765))) 858993459) + (kand (kushr (wI (x0 - (kand (kushr x0 1) 1431655765))) 2) 858993459))) + (kushr (wI ((kand (wI (x0 - (kand (kushr x0 1) 1431655765))) 858993459) + (kand (kushr (wI (x0 - (kand (kushr x0 1) 1431655765))) 2) 858993459))) 4))) 252645135) + (kushr (kand (wI ((wI ((kand (wI (x0 - (kand (kushr x0 1) 1431655765))) 858993459) + (kand (kushr (wI (x0 - (kand (kushr x0 1) 1431655765))) 2) 858993459))) + (kushr (wI ((kand (wI (x0 - (kand (kushr x0 1) 1431655765))) 858993459) + (kand (kushr (wI (x0 - (kand (kushr x0 1) 1431655765))) 2) 858993459))) 4))) 252645135) 8))) + (kushr (wI ((kand (wI ((wI ((kand (wI (x0 - (kand (kushr x0 1) 1431655765))) 858993459) + (kand (kushr (wI (x0 - (kand (kushr x0 1) 1431655765))) 2) 858993459))) + (kushr (wI ((kand (wI (x0 - (kand (kushr x0 1) 1431655765))) 858993459) + (kand (kushr (wI (x0 - (kand (kushr x0 1) 1431655765))) 2) 858993459))) 4))) 252645135) + (kushr (kand (wI ((wI ((kand (wI (x0 - (kand (kushr x0 1) 1431655765))) 858993459) + (kand (kushr (wI (x0 - (kand (kushr x0 1) 1431655765))) 2) 858993459))) + (kushr (wI ((kand (wI (x0 - (kand (kushr x0 1) 1431655765))) 858993459) + (kand (kushr (wI (x0 - (kand (kushr x0 1) 1431655765))) 2) 858993459))) 4))) 252645135) 8))) 16))))]) rfl rfl rfl rfl ?_
  refine kw_step rfl rfl rfl rfl ?_
  refine kw_step rfl rfl rfl rfl ?_
  refine kw_step rfl rfl rfl rfl ?_
  cases hf
  exact kw_ret rfl rfl rfl hq
def f_Town_bridges (b0 : Nat) (s : kM) : Option (Int) :=
  (f_Integer_bitCount (s b0 3) s).bind fun q1 => some q1
set_option maxRecDepth 8000 in
theorem c_Town_bridges {sc : List Int} (b0 : Nat) (hb0 : tT b0 = true) (s : kM) (t : Int) (hf : f_Town_bridges b0 s = some t) : kR sc 1 km_Town_bridges [kr b0] (hH s) (some (kI t)) (hH s) := by
  unfold f_Town_bridges at hf
  refine kR.start rfl ?_
  show kW sc 1 kc_Town_bridges 1 0 [some (kr b0)] [] (hH s) _
  have hq : (fun (r : Option kV) (g : kH) => r = some (kI t) ∧ g = hH s) (some (kI t)) (hH s) := ⟨rfl, rfl⟩
  refine kw_step rfl rfl rfl rfl ?_
  refine kw_get rfl (hH_O (tT_0 hb0)) rfl ?_
  obtain ⟨q1, hq1, hf⟩ := gbind hf
  refine kw_callS (vs := [kI (s b0 3)]) rfl rfl rfl ⟨rfl, Nat.le_of_ble_eq_true rfl, Nat.le_of_ble_eq_true rfl, rfl⟩ (c_Integer_bitCount (s b0 3) s _ hq1) (Nat.le_of_ble_eq_true rfl) ?_
  cases hf
  exact kw_ret rfl rfl rfl hq
def f_Town_has (b0 : Nat) (x1 : Int) (s : kM) : Option (Int) :=
  if x1 < 0 then (some 0) else (if 11 ≤ x1 then (some 0) else ((gI 22 (wI (2 * x1))).bind fun j3 => if (s (b0 + 5) j3) < 0 then (some 0) else ((gI 22 (wI ((wI (2 * x1)) + 1))).bind fun j6 => if (s (b0 + 5) j6) < 0 then (some 0) else (some 1))))
set_option maxRecDepth 8000 in
theorem c_Town_has {sc : List Int} (b0 : Nat) (hb0 : tT b0 = true) (x1 : Int) (s : kM) (t : Int) (hf : f_Town_has b0 x1 s = some t) : kR sc 0 km_Town_has [kr b0, kI x1] (hH s) (some (kI t)) (hH s) := by
  unfold f_Town_has at hf
  refine kR.start rfl ?_
  show kW sc 0 kc_Town_has 2 0 [some (kr b0), some (kI x1)] [] (hH s) _
  have hq : (fun (r : Option kV) (g : kH) => r = some (kI t) ∧ g = hH s) (some (kI t)) (hH s) := ⟨rfl, rfl⟩
  refine kw_step rfl rfl rfl rfl ?_
  refine kw_if_lt rfl rfl (fun c1 => ?_) (fun c1 => ?_)
  · have hf := gift c1 hf
    refine kw_step rfl rfl rfl rfl ?_
    cases hf
    exact kw_ret rfl rfl rfl hq
  · have hf := giff c1 hf
    refine kw_step rfl rfl rfl rfl ?_
    refine kw_step rfl rfl rfl rfl ?_
    refine kw_icmp_ge rfl rfl (fun c2 => ?_) (fun c2 => ?_)
    · have hf := gift c2 hf
      refine kw_step rfl rfl rfl rfl ?_
      cases hf
      exact kw_ret rfl rfl rfl hq
    · have hf := giff c2 hf
      refine kw_step rfl rfl rfl rfl ?_
      refine kw_get rfl (hH_O (tT_0 hb0)) rfl ?_
      refine kw_step rfl rfl rfl rfl ?_
      refine kw_step rfl rfl rfl rfl ?_
      refine kw_step rfl rfl rfl rfl ?_
      obtain ⟨j3, i4, hf⟩ := gbI hf
      refine kw_iald rfl (hH_A (tT_5 hb0)) i4.1 i4.2.1 i4.2.2 ?_
      refine kw_if_lt rfl rfl (fun c5 => ?_) (fun c5 => ?_)
      · have hf := gift c5 hf
        refine kw_step rfl rfl rfl rfl ?_
        cases hf
        exact kw_ret rfl rfl rfl hq
      · have hf := giff c5 hf
        refine kw_step rfl rfl rfl rfl ?_
        refine kw_get rfl (hH_O (tT_0 hb0)) rfl ?_
        refine kw_step rfl rfl rfl rfl ?_
        refine kw_step rfl rfl rfl rfl ?_
        refine kw_step rfl rfl rfl rfl ?_
        refine kw_step rfl rfl rfl rfl ?_
        refine kw_step rfl rfl rfl rfl ?_
        obtain ⟨j6, i7, hf⟩ := gbI hf
        refine kw_iald rfl (hH_A (tT_5 hb0)) i7.1 i7.2.1 i7.2.2 ?_
        refine kw_if_lt rfl rfl (fun c8 => ?_) (fun c8 => ?_)
        · have hf := gift c8 hf
          refine kw_step rfl rfl rfl rfl ?_
          cases hf
          exact kw_ret rfl rfl rfl hq
        · have hf := giff c8 hf
          refine kw_step rfl rfl rfl rfl ?_
          refine kw_goto rfl rfl ?_
          cases hf
          exact kw_ret rfl rfl rfl hq
def f_Town_overAt (b0 : Nat) (x1 : Int) (s : kM) : Option (Int) :=
  (gI 22 (wI ((wI (2 * x1)) + 1))).bind fun j1 => some (s (b0 + 5) j1)
set_option maxRecDepth 8000 in
theorem c_Town_overAt {sc : List Int} (b0 : Nat) (hb0 : tT b0 = true) (x1 : Int) (s : kM) (t : Int) (hf : f_Town_overAt b0 x1 s = some t) : kR sc 0 km_Town_overAt [kr b0, kI x1] (hH s) (some (kI t)) (hH s) := by
  unfold f_Town_overAt at hf
  refine kR.start rfl ?_
  show kW sc 0 kc_Town_overAt 1 0 [some (kr b0), some (kI x1)] [] (hH s) _
  have hq : (fun (r : Option kV) (g : kH) => r = some (kI t) ∧ g = hH s) (some (kI t)) (hH s) := ⟨rfl, rfl⟩
  refine kw_step rfl rfl rfl rfl ?_
  refine kw_get rfl (hH_O (tT_0 hb0)) rfl ?_
  refine kw_step rfl rfl rfl rfl ?_
  refine kw_step rfl rfl rfl rfl ?_
  refine kw_step rfl rfl rfl rfl ?_
  refine kw_step rfl rfl rfl rfl ?_
  refine kw_step rfl rfl rfl rfl ?_
  obtain ⟨j1, i2, hf⟩ := gbI hf
  refine kw_iald rfl (hH_A (tT_5 hb0)) i2.1 i2.2.1 i2.2.2 ?_
  cases hf
  exact kw_ret rfl rfl rfl hq
def f_Town_underAt (b0 : Nat) (x1 : Int) (s : kM) : Option (Int) :=
  (gI 22 (wI (2 * x1))).bind fun j1 => some (s (b0 + 5) j1)
set_option maxRecDepth 8000 in
theorem c_Town_underAt {sc : List Int} (b0 : Nat) (hb0 : tT b0 = true) (x1 : Int) (s : kM) (t : Int) (hf : f_Town_underAt b0 x1 s = some t) : kR sc 0 km_Town_underAt [kr b0, kI x1] (hH s) (some (kI t)) (hH s) := by
  unfold f_Town_underAt at hf
  refine kR.start rfl ?_
  show kW sc 0 kc_Town_underAt 1 0 [some (kr b0), some (kI x1)] [] (hH s) _
  have hq : (fun (r : Option kV) (g : kH) => r = some (kI t) ∧ g = hH s) (some (kI t)) (hH s) := ⟨rfl, rfl⟩
  refine kw_step rfl rfl rfl rfl ?_
  refine kw_get rfl (hH_O (tT_0 hb0)) rfl ?_
  refine kw_step rfl rfl rfl rfl ?_
  refine kw_step rfl rfl rfl rfl ?_
  refine kw_step rfl rfl rfl rfl ?_
  obtain ⟨j1, i2, hf⟩ := gbI hf
  refine kw_iald rfl (hH_A (tT_5 hb0)) i2.1 i2.2.1 i2.2.2 ?_
  cases hf
  exact kw_ret rfl rfl rfl hq
def f_Land_offKey (x0 : Int) (s : kM) : Option (Int) :=
  some (kor (kor (kor 4096 (kshl x0 8)) 240) 15)
set_option maxRecDepth 8000 in
theorem c_Land_offKey {sc : List Int} (x0 : Int) (s : kM) (t : Int) (hf : f_Land_offKey x0 s = some t) : kR sc 0 km_Land_offKey [kI x0] (hH s) (some (kI t)) (hH s) := by
  unfold f_Land_offKey at hf
  refine kR.start rfl ?_
  show kW sc 0 kc_Land_offKey 1 0 [some (kI x0)] [] (hH s) _
  have hq : (fun (r : Option kV) (g : kH) => r = some (kI t) ∧ g = hH s) (some (kI t)) (hH s) := ⟨rfl, rfl⟩
  refine kw_step rfl rfl rfl rfl ?_
  refine kw_step rfl rfl rfl rfl ?_
  refine kw_step rfl rfl rfl rfl ?_
  refine kw_step rfl rfl rfl rfl ?_
  refine kw_step rfl rfl rfl rfl ?_
  refine kw_step rfl rfl rfl rfl ?_
  refine kw_step rfl rfl rfl rfl ?_
  refine kw_step rfl rfl rfl rfl ?_
  refine kw_step rfl rfl rfl rfl ?_
  cases hf
  exact kw_ret rfl rfl rfl hq
def f_Land_indexOfMove_2b (b0 : Nat) (x1 : Int) (x2 : Int) (s : kM) : Option ((Int) ⊕ (Int)) :=
  if (s b0 6) ≤ x2 then (some (.inr (-1))) else ((gI 48 x2).bind fun j2 => if (s (b0 + 1) j2) = x1 then (some (.inr x2)) else (some (.inl ((wI (x2 + 1))))))
set_option maxRecDepth 8000 in
theorem b_Land_indexOfMove_2b {sc : List Int} {Q : Option kV → kH → Prop} (b0 : Nat) (hb0 : tL b0 = true) (x1 : Int) (x2 : Int) (s : kM) (t : (Int) ⊕ (Int)) (hf : f_Land_indexOfMove_2b b0 x1 x2 s = some t) (hq : (gE (fun x => kW sc 0 kc_Land_indexOfMove 1 2 [some (kr b0), some (kI x1), some (kI x)] [] (hH s) Q) (fun r => Q (some (kI r)) (hH s))) t) : kW sc 0 kc_Land_indexOfMove 1 2 [some (kr b0), some (kI x1), some (kI x2)] [] (hH s) Q := by
  unfold f_Land_indexOfMove_2b at hf
  refine kw_step rfl rfl rfl rfl ?_
  refine kw_step rfl rfl rfl rfl ?_
  refine kw_get rfl (hH_O (tL_0 hb0)) rfl ?_
  refine kw_icmp_ge rfl rfl (fun c1 => ?_) (fun c1 => ?_)
  · have hf := gift c1 hf
    refine kw_step rfl rfl rfl rfl ?_
    cases hf
    exact kw_ret rfl rfl rfl hq
  · have hf := giff c1 hf
    refine kw_step rfl rfl rfl rfl ?_
    refine kw_get rfl (hH_O (tL_0 hb0)) rfl ?_
    refine kw_step rfl rfl rfl rfl ?_
    obtain ⟨j2, i3, hf⟩ := gbI hf
    refine kw_iald rfl (hH_A (tL_1 hb0)) i3.1 i3.2.1 i3.2.2 ?_
    refine kw_step rfl rfl rfl rfl ?_
    refine kw_icmp_ne rfl rfl (fun c4 => ?_) (fun c4 => ?_)
    · have hf := giff c4 hf
      refine kw_step (L' := [some (kr b0), some (kI x1), some (kI (wI (x2 + 1)))]) rfl rfl rfl rfl ?_
      refine kw_goto rfl rfl ?_
      cases hf
      exact kW_le (L' := [some (kr b0), some (kI x1), some (kI (wI (x2 + 1)))]) ⟨Or.inr rfl, Or.inr rfl, Or.inr rfl, trivial⟩ hq
    · have hf := gift c4 hf
      refine kw_step rfl rfl rfl rfl ?_
      cases hf
      exact kw_ret rfl rfl rfl hq
def f_Land_indexOfMove_2 (b0 : Nat) (x1 : Int) (x2 : Int) (s : kM) : Option (Int) :=
  gL (fun (x : Int) => f_Land_indexOfMove_2b b0 x1 x s) gF (x2)
theorem b_Land_indexOfMove_2 {sc : List Int} {Q : Option kV → kH → Prop} (b0 : Nat) (hb0 : tL b0 = true) (x1 : Int) (x2 : Int) (s : kM) (t : Int) (hf : f_Land_indexOfMove_2 b0 x1 x2 s = some t) (hq : (fun r => Q (some (kI r)) (hH s)) t) : kW sc 0 kc_Land_indexOfMove 1 2 [some (kr b0), some (kI x1), some (kI x2)] [] (hH s) Q :=
  gL_ind (P := fun (x : Int) => kW sc 0 kc_Land_indexOfMove 1 2 [some (kr b0), some (kI x1), some (kI x)] [] (hH s) Q) (q := (fun r => Q (some (kI r)) (hH s))) (fun x t hf hq => b_Land_indexOfMove_2b b0 hb0 x1 x s t hf hq) gF (x2) t hf hq
def f_Land_indexOfMove (b0 : Nat) (x1 : Int) (s : kM) : Option (Int) :=
  f_Land_indexOfMove_2 b0 x1 0 s
set_option maxRecDepth 8000 in
theorem c_Land_indexOfMove {sc : List Int} (b0 : Nat) (hb0 : tL b0 = true) (x1 : Int) (s : kM) (t : Int) (hf : f_Land_indexOfMove b0 x1 s = some t) : kR sc 0 km_Land_indexOfMove [kr b0, kI x1] (hH s) (some (kI t)) (hH s) := by
  unfold f_Land_indexOfMove at hf
  refine kR.start rfl ?_
  show kW sc 0 kc_Land_indexOfMove 1 0 [some (kr b0), some (kI x1), none] [] (hH s) _
  have hq : (fun (r : Option kV) (g : kH) => r = some (kI t) ∧ g = hH s) (some (kI t)) (hH s) := ⟨rfl, rfl⟩
  refine kw_step rfl rfl rfl rfl ?_
  refine kw_step (L' := [some (kr b0), some (kI x1), some (kI 0)]) rfl rfl rfl rfl ?_
  exact kW_le (L' := [some (kr b0), some (kI x1), some (kI 0)]) ⟨Or.inr rfl, Or.inr rfl, Or.inr rfl, trivial⟩ (b_Land_indexOfMove_2 b0 hb0 x1 0 s _ hf hq)
def f_Land_list_44 (b0 : Nat) (x1 : Int) (x2 : Int) (x3 : Int) (s : kM) : Option (kM) :=
  (gI 48 x3).bind fun j1 => gLet (gU s (b0 + 1) j1 x1) fun s3 => (gI 48 x3).bind fun j6 => gLet (gU s3 (b0 + 2) j6 x2) fun s8 => gLet (gU s8 b0 6 (wI ((s8 b0 6) + 1))) fun s11 => some s11
set_option maxRecDepth 8000 in
theorem b_Land_list_44 {sc : List Int} {Q : Option kV → kH → Prop} (b0 : Nat) (hb0 : tL b0 = true) (x1 : Int) (x2 : Int) (x3 : Int) (s : kM) (t : kM) (hf : f_Land_list_44 b0 x1 x2 x3 s = some t) (hq : (fun r => Q none (hH r)) t) : kW sc 1 kc_Land_list 0 44 [some (kr b0), some (kI x1), some (kI x2), some (kI x3)] [] (hH s) Q := by
  unfold f_Land_list_44 at hf
  refine kw_step rfl rfl rfl rfl ?_
  refine kw_get rfl (hH_O (tL_0 hb0)) rfl ?_
  refine kw_step rfl rfl rfl rfl ?_
  refine kw_step rfl rfl rfl rfl ?_
  obtain ⟨j1, i2, hf⟩ := gbI hf
  obtain ⟨s3, ee4, hf⟩ := gbL hf
  refine kw_iastH rfl (tL_1 hb0) i2.1 i2.2.1 i2.2.2 ee4 ?_
  refine kw_step rfl rfl rfl rfl ?_
  refine kw_get rfl (hH_O (tL_0 hb0)) rfl ?_
  refine kw_step rfl rfl rfl rfl ?_
  refine kw_step rfl rfl rfl rfl ?_
  obtain ⟨j6, i7, hf⟩ := gbI hf
  obtain ⟨s8, ee9, hf⟩ := gbL hf
  refine kw_iastH rfl (tL_2 hb0) i7.1 i7.2.1 i7.2.2 ee9 ?_
  refine kw_step rfl rfl rfl rfl ?_
  refine kw_step rfl rfl rfl rfl ?_
  refine kw_get rfl (hH_O (tL_0 hb0)) rfl ?_
  refine kw_step rfl rfl rfl rfl ?_
  refine kw_step rfl rfl rfl rfl ?_
  obtain ⟨s11, ee12, hf⟩ := gbL hf
  refine kw_putH rfl (tL_0 hb0) rfl rfl rfl (Nat.le_of_ble_eq_true rfl) rfl ee12 ?_
  cases hf
  exact kw_ret rfl rfl rfl hq
def f_Land_list_12b (b0 : Nat) (x1 : Int) (x2 : Int) (x3 : Int) (s : kM) : Option ((Int × kM) ⊕ (kM)) :=
  if x3 ≤ 0 then ((f_Land_list_44 b0 x1 x2 x3 s).map Sum.inr) else ((gI 48 (wI (x3 - 1))).bind fun j4 => if (s (b0 + 1) j4) ≤ x1 then ((f_Land_list_44 b0 x1 x2 x3 s).map Sum.inr) else ((gI 48 (wI (x3 - 1))).bind fun j9 => (gI 48 x3).bind fun j11 => gLet (gU s (b0 + 1) j11 (s (b0 + 1) j9)) fun s13 => (gI 48 (wI (x3 - 1))).bind fun j16 => (gI 48 x3).bind fun j18 => gLet (gU s13 (b0 + 2) j18 (s13 (b0 + 2) j16)) fun s20 => some (.inl ((wI (x3 + (-1))), s20))))
set_option maxRecDepth 8000 in
theorem b_Land_list_12b {sc : List Int} {Q : Option kV → kH → Prop} (b0 : Nat) (hb0 : tL b0 = true) (x1 : Int) (x2 : Int) (x3 : Int) (s : kM) (t : (Int × kM) ⊕ (kM)) (hf : f_Land_list_12b b0 x1 x2 x3 s = some t) (hq : (gE (fun x => kW sc 1 kc_Land_list 0 12 [some (kr b0), some (kI x1), some (kI x2), some (kI x.1)] [] (hH x.2) Q) (fun r => Q none (hH r))) t) : kW sc 1 kc_Land_list 0 12 [some (kr b0), some (kI x1), some (kI x2), some (kI x3)] [] (hH s) Q := by
  unfold f_Land_list_12b at hf
  refine kw_step rfl rfl rfl rfl ?_
  refine kw_if_le rfl rfl (fun c1 => ?_) (fun c1 => ?_)
  · have hf := gift c1 hf
    obtain ⟨t2, hg3, rfl⟩ := gmap hf
    exact kW_le (L' := [some (kr b0), some (kI x1), some (kI x2), some (kI x3)]) ⟨Or.inr rfl, Or.inr rfl, Or.inr rfl, Or.inr rfl, trivial⟩ (b_Land_list_44 b0 hb0 x1 x2 x3 s _ hg3 hq)
  · have hf := giff c1 hf
    refine kw_step rfl rfl rfl rfl ?_
    refine kw_get rfl (hH_O (tL_0 hb0)) rfl ?_
    refine kw_step rfl rfl rfl rfl ?_
    refine kw_step rfl rfl rfl rfl ?_
    refine kw_step rfl rfl rfl rfl ?_
    obtain ⟨j4, i5, hf⟩ := gbI hf
    refine kw_iald rfl (hH_A (tL_1 hb0)) i5.1 i5.2.1 i5.2.2 ?_
    refine kw_step rfl rfl rfl rfl ?_
    refine kw_icmp_le rfl rfl (fun c6 => ?_) (fun c6 => ?_)
    · have hf := gift c6 hf
      obtain ⟨t7, hg8, rfl⟩ := gmap hf
      exact kW_le (L' := [some (kr b0), some (kI x1), some (kI x2), some (kI x3)]) ⟨Or.inr rfl, Or.inr rfl, Or.inr rfl, Or.inr rfl, trivial⟩ (b_Land_list_44 b0 hb0 x1 x2 x3 s _ hg8 hq)
    · have hf := giff c6 hf
      refine kw_step rfl rfl rfl rfl ?_
      refine kw_get rfl (hH_O (tL_0 hb0)) rfl ?_
      refine kw_step rfl rfl rfl rfl ?_
      refine kw_step rfl rfl rfl rfl ?_
      refine kw_get rfl (hH_O (tL_0 hb0)) rfl ?_
      refine kw_step rfl rfl rfl rfl ?_
      refine kw_step rfl rfl rfl rfl ?_
      refine kw_step rfl rfl rfl rfl ?_
      obtain ⟨j9, i10, hf⟩ := gbI hf
      refine kw_iald rfl (hH_A (tL_1 hb0)) i10.1 i10.2.1 i10.2.2 ?_
      obtain ⟨j11, i12, hf⟩ := gbI hf
      obtain ⟨s13, ee14, hf⟩ := gbL hf
      refine kw_iastH rfl (tL_1 hb0) i12.1 i12.2.1 i12.2.2 ee14 ?_
      refine kw_step rfl rfl rfl rfl ?_
      refine kw_get rfl (hH_O (tL_0 hb0)) rfl ?_
      refine kw_step rfl rfl rfl rfl ?_
      refine kw_step rfl rfl rfl rfl ?_
      refine kw_get rfl (hH_O (tL_0 hb0)) rfl ?_
      refine kw_step rfl rfl rfl rfl ?_
      refine kw_step rfl rfl rfl rfl ?_
      refine kw_step rfl rfl rfl rfl ?_
      obtain ⟨j16, i17, hf⟩ := gbI hf
      refine kw_iald rfl (hH_A (tL_2 hb0)) i17.1 i17.2.1 i17.2.2 ?_
      obtain ⟨j18, i19, hf⟩ := gbI hf
      obtain ⟨s20, ee21, hf⟩ := gbL hf
      refine kw_iastH rfl (tL_2 hb0) i19.1 i19.2.1 i19.2.2 ee21 ?_
      refine kw_step (L' := [some (kr b0), some (kI x1), some (kI x2), some (kI (wI (x3 + (-1))))]) rfl rfl rfl rfl ?_
      refine kw_goto rfl rfl ?_
      cases hf
      exact kW_le (L' := [some (kr b0), some (kI x1), some (kI x2), some (kI (wI (x3 + (-1))))]) ⟨Or.inr rfl, Or.inr rfl, Or.inr rfl, Or.inr rfl, trivial⟩ hq
def f_Land_list_12 (b0 : Nat) (x1 : Int) (x2 : Int) (x3 : Int) (s : kM) : Option (kM) :=
  gL (fun (x : Int × kM) => f_Land_list_12b b0 x1 x2 x.1 x.2) gF (x3, s)
theorem b_Land_list_12 {sc : List Int} {Q : Option kV → kH → Prop} (b0 : Nat) (hb0 : tL b0 = true) (x1 : Int) (x2 : Int) (x3 : Int) (s : kM) (t : kM) (hf : f_Land_list_12 b0 x1 x2 x3 s = some t) (hq : (fun r => Q none (hH r)) t) : kW sc 1 kc_Land_list 0 12 [some (kr b0), some (kI x1), some (kI x2), some (kI x3)] [] (hH s) Q :=
  gL_ind (P := fun (x : Int × kM) => kW sc 1 kc_Land_list 0 12 [some (kr b0), some (kI x1), some (kI x2), some (kI x.1)] [] (hH x.2) Q) (q := (fun r => Q none (hH r))) (fun x t hf hq => b_Land_list_12b b0 hb0 x1 x2 x.1 x.2 t hf hq) gF (x3, s) t hf hq
def f_Land_list (b0 : Nat) (x1 : Int) (x2 : Int) (s : kM) : Option (kM) :=
  if 48 ≤ (s b0 6) then (some s) else ((f_Land_indexOfMove b0 x1 s).bind fun q2 => if q2 < 0 then (f_Land_list_12 b0 x1 x2 (s b0 6) s) else (some s))
set_option maxRecDepth 8000 in
theorem c_Land_list {sc : List Int} (b0 : Nat) (hb0 : tL b0 = true) (x1 : Int) (x2 : Int) (s : kM) (t : kM) (hf : f_Land_list b0 x1 x2 s = some t) : kR sc 1 km_Land_list [kr b0, kI x1, kI x2] (hH s) none (hH t) := by
  unfold f_Land_list at hf
  refine kR.start rfl ?_
  show kW sc 1 kc_Land_list 0 0 [some (kr b0), some (kI x1), some (kI x2), none] [] (hH s) _
  have hq : (fun (r : Option kV) (g : kH) => r = none ∧ g = hH t) none (hH t) := ⟨rfl, rfl⟩
  refine kw_step rfl rfl rfl rfl ?_
  refine kw_get rfl (hH_O (tL_0 hb0)) rfl ?_
  refine kw_step rfl rfl rfl rfl ?_
  refine kw_icmp_ge rfl rfl (fun c1 => ?_) (fun c1 => ?_)
  · have hf := gift c1 hf
    cases hf
    exact kw_ret rfl rfl rfl hq
  · have hf := giff c1 hf
    refine kw_step rfl rfl rfl rfl ?_
    refine kw_step rfl rfl rfl rfl ?_
    obtain ⟨q2, hq2, hf⟩ := gbind hf
    refine kw_callV (vs := [kI x1]) rfl rfl rfl ⟨rfl, Nat.le_of_ble_eq_true rfl, Nat.le_of_ble_eq_true rfl, by decide⟩ (hH_O (tL_0 hb0)) (c_Land_indexOfMove b0 hb0 x1 s _ hq2) (Nat.le_of_ble_eq_true rfl) ?_
    refine kw_if_lt rfl rfl (fun c3 => ?_) (fun c3 => ?_)
    · have hf := gift c3 hf
      refine kw_step rfl rfl rfl rfl ?_
      refine kw_get rfl (hH_O (tL_0 hb0)) rfl ?_
      refine kw_step (L' := [some (kr b0), some (kI x1), some (kI x2), some (kI (s b0 6))]) rfl rfl rfl rfl ?_
      exact kW_le (L' := [some (kr b0), some (kI x1), some (kI x2), some (kI (s b0 6))]) ⟨Or.inr rfl, Or.inr rfl, Or.inr rfl, Or.inr rfl, trivial⟩ (b_Land_list_12 b0 hb0 x1 x2 (s b0 6) s _ hf hq)
    · have hf := giff c3 hf
      cases hf
      exact kw_ret rfl rfl rfl hq
