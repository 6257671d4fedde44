/-! PRINTED by wip/whole/decall.py: methods as functions over the flat world, with their contracts -/
def f_Arrays_fill_II_5b (a0 : Nat) (n0 : Nat) (x1 : Int) (x2 : Int) (x3 : Int) (s : kM) : Option ((Int × kM) ⊕ (kM)) :=
  if x3 ≤ x2 then (some (.inr s)) else ((gI n0 x2).bind fun j2 => gLet (gU s a0 j2 x1) fun s4 => some (.inl ((wI (x2 + 1)), s4)))
set_option maxRecDepth 8000 in
theorem b_Arrays_fill_II_5b {sc : List Int} {Q : Option kV → kH → Prop} (a0 : Nat) (n0 : Nat) (ha0 : ktab a0 = some (0, n0)) (x1 : Int) (x2 : Int) (x3 : Int) (s : kM) (t : (Int × kM) ⊕ (kM)) (hf : f_Arrays_fill_II_5b a0 n0 x1 x2 x3 s = some t) (hq : (gE (fun x => kW sc 0 kc_Arrays_fill_II 0 5 [some (kr a0), some (kI x1), some (kI x.1), some (kI x3)] [] (hH x.2) Q) (fun r => Q none (hH r))) t) : kW sc 0 kc_Arrays_fill_II 0 5 [some (kr a0), some (kI x1), some (kI x2), some (kI x3)] [] (hH s) Q := by
  unfold f_Arrays_fill_II_5b at hf
  refine kw_step rfl rfl rfl rfl ?_
  refine kw_step rfl rfl rfl rfl ?_
  refine kw_icmp_ge rfl rfl (fun c1 => ?_) (fun c1 => ?_)
  · have hf := gift c1 hf
    cases hf
    exact kw_ret rfl rfl rfl hq
  · have hf := giff c1 hf
    refine kw_step rfl rfl rfl rfl ?_
    refine kw_step rfl rfl rfl rfl ?_
    refine kw_step rfl rfl rfl rfl ?_
    obtain ⟨j2, i3, hf⟩ := gbI hf
    obtain ⟨s4, ee5, hf⟩ := gbL hf
    refine kw_iastH rfl ha0 i3.1 i3.2.1 i3.2.2 ee5 ?_
    refine kw_step (L' := [some (kr a0), some (kI x1), some (kI (wI (x2 + 1))), some (kI x3)]) rfl rfl rfl rfl ?_
    refine kw_goto rfl rfl ?_
    cases hf
    exact kW_le (L' := [some (kr a0), some (kI x1), some (kI (wI (x2 + 1))), some (kI x3)]) ⟨Or.inr rfl, Or.inr rfl, Or.inr rfl, Or.inr rfl, trivial⟩ hq
def f_Arrays_fill_II_5 (a0 : Nat) (n0 : Nat) (x1 : Int) (x2 : Int) (x3 : Int) (s : kM) : Option (kM) :=
  gL (fun (x : Int × kM) => f_Arrays_fill_II_5b a0 n0 x1 x.1 x3 x.2) gF (x2, s)
theorem b_Arrays_fill_II_5 {sc : List Int} {Q : Option kV → kH → Prop} (a0 : Nat) (n0 : Nat) (ha0 : ktab a0 = some (0, n0)) (x1 : Int) (x2 : Int) (x3 : Int) (s : kM) (t : kM) (hf : f_Arrays_fill_II_5 a0 n0 x1 x2 x3 s = some t) (hq : (fun r => Q none (hH r)) t) : kW sc 0 kc_Arrays_fill_II 0 5 [some (kr a0), some (kI x1), some (kI x2), some (kI x3)] [] (hH s) Q :=
  gL_ind (P := fun (x : Int × kM) => kW sc 0 kc_Arrays_fill_II 0 5 [some (kr a0), some (kI x1), some (kI x.1), some (kI x3)] [] (hH x.2) Q) (q := (fun r => Q none (hH r))) (fun x t hf hq => b_Arrays_fill_II_5b a0 n0 ha0 x1 x.1 x3 x.2 t hf hq) gF (x2, s) t hf hq
def f_Arrays_fill_II (a0 : Nat) (n0 : Nat) (x1 : Int) (s : kM) : Option (kM) :=
  f_Arrays_fill_II_5 a0 n0 x1 0 ((n0 : Nat) : Int) s
set_option maxRecDepth 8000 in
theorem c_Arrays_fill_II {sc : List Int} (a0 : Nat) (n0 : Nat) (ha0 : ktab a0 = some (0, n0)) (x1 : Int) (s : kM) (t : kM) (hf : f_Arrays_fill_II a0 n0 x1 s = some t) : kR sc 0 km_Arrays_fill_II [kr a0, kI x1] (hH s) none (hH t) := by
  unfold f_Arrays_fill_II at hf
  refine kR.start rfl ?_
  show kW sc 0 kc_Arrays_fill_II 0 0 [some (kr a0), some (kI x1), none, none] [] (hH s) _
  have hq : (fun (r : Option kV) (g : kH) => r = none ∧ g = hH t) none (hH t) := ⟨rfl, rfl⟩
  refine kw_step rfl rfl rfl rfl ?_
  refine kw_step (L' := [some (kr a0), some (kI x1), some (kI 0), none]) rfl rfl rfl rfl ?_
  refine kw_step rfl rfl rfl rfl ?_
  refine kw_alen rfl (hH_A ha0) (by decide) ?_
  refine kw_step (L' := [some (kr a0), some (kI x1), some (kI 0), some (kI ((n0 : Nat) : Int))]) rfl rfl rfl rfl ?_
  exact kW_le (L' := [some (kr a0), some (kI x1), some (kI 0), some (kI ((n0 : Nat) : Int))]) ⟨Or.inr rfl, Or.inr rfl, Or.inr rfl, Or.inr rfl, trivial⟩ (b_Arrays_fill_II_5 a0 n0 ha0 x1 0 ((n0 : Nat) : Int) s _ hf hq)
def f_Tape_put_23 (x1 : Int) (x2 : Int) (s : kM) : Option ((Int × kM) ⊕ (kM)) :=
  some (.inl ((wI (x2 + (-8))), s))
set_option maxRecDepth 8000 in
theorem b_Tape_put_23 {sc : List Int} {Q : Option kV → kH → Prop} (x1 : Int) (x2 : Int) (s : kM) (t : (Int × kM) ⊕ (kM)) (hf : f_Tape_put_23 x1 x2 s = some t) (hq : (gE (fun x => kW sc 0 kc_Tape_put 0 2 [some (kr 1), some (kI x1), some (kI x.1)] [] (hH x.2) Q) (fun r => Q none (hH r))) t) : kW sc 0 kc_Tape_put 0 23 [some (kr 1), some (kI x1), some (kI x2)] [] (hH s) Q := by
  unfold f_Tape_put_23 at hf
  refine kw_step (L' := [some (kr 1), some (kI x1), some (kI (wI (x2 + (-8))))]) rfl rfl rfl rfl ?_
  refine kw_goto rfl rfl ?_
  cases hf
  exact kW_le (L' := [some (kr 1), some (kI x1), some (kI (wI (x2 + (-8))))]) ⟨Or.inr rfl, Or.inr rfl, Or.inr rfl, trivial⟩ hq
def f_Tape_put_2b (x1 : Int) (x2 : Int) (s : kM) : Option ((Int × kM) ⊕ (kM)) :=
  if x2 < 0 then (some (.inr s)) else (if 400 ≤ (s 1 1) then (f_Tape_put_23 x1 x2 s) else ((gI 400 (s 1 1)).bind fun j3 => gLet (gU s 2 j3 (ki2b (ki2b (kshr x1 x2)))) fun s5 => gLet (gU s5 1 1 (wI ((s5 1 1) + 1))) fun s8 => f_Tape_put_23 x1 x2 s8))
set_option maxRecDepth 8000 in
theorem b_Tape_put_2b {sc : List Int} {Q : Option kV → kH → Prop} (x1 : Int) (x2 : Int) (s : kM) (t : (Int × kM) ⊕ (kM)) (hf : f_Tape_put_2b x1 x2 s = some t) (hq : (gE (fun x => kW sc 0 kc_Tape_put 0 2 [some (kr 1), some (kI x1), some (kI x.1)] [] (hH x.2) Q) (fun r => Q none (hH r))) t) : kW sc 0 kc_Tape_put 0 2 [some (kr 1), some (kI x1), some (kI x2)] [] (hH s) Q := by
  unfold f_Tape_put_2b at hf
  refine kw_step rfl rfl rfl rfl ?_
  refine kw_if_lt rfl rfl (fun c1 => ?_) (fun c1 => ?_)
  · have hf := gift c1 hf
    cases hf
    exact kw_ret rfl rfl rfl hq
  · have hf := giff c1 hf
    refine kw_step rfl rfl rfl rfl ?_
    refine kw_get rfl (hH_O (rfl : kotab 1 = some kPo)) rfl ?_
    refine kw_step rfl rfl rfl rfl ?_
    refine kw_icmp_ge rfl rfl (fun c2 => ?_) (fun c2 => ?_)
    · have hf := gift c2 hf
      exact kW_le (L' := [some (kr 1), some (kI x1), some (kI x2)]) ⟨Or.inr rfl, Or.inr rfl, Or.inr rfl, trivial⟩ (b_Tape_put_23 x1 x2 s _ hf hq)
    · have hf := giff c2 hf
      refine kw_step rfl rfl rfl rfl ?_
      refine kw_get rfl (hH_O (rfl : kotab 1 = some kPo)) rfl ?_
      refine kw_step rfl rfl rfl rfl ?_
      refine kw_get rfl (hH_O (rfl : kotab 1 = some kPo)) rfl ?_
      refine kw_step rfl rfl rfl rfl ?_
      refine kw_step rfl rfl rfl rfl ?_
      refine kw_step rfl rfl rfl rfl ?_
      refine kw_step rfl rfl rfl rfl ?_
      obtain ⟨j3, i4, hf⟩ := gbI hf
      obtain ⟨s5, ee6, hf⟩ := gbL hf
      refine kw_bastH rfl (rfl : ktab 2 = some (1, 400)) i4.1 i4.2.1 i4.2.2 ee6 ?_
      refine kw_step rfl rfl rfl rfl ?_
      refine kw_step rfl rfl rfl rfl ?_
      refine kw_get rfl (hH_O (rfl : kotab 1 = some kPo)) rfl ?_
      refine kw_step rfl rfl rfl rfl ?_
      refine kw_step rfl rfl rfl rfl ?_
      obtain ⟨s8, ee9, hf⟩ := gbL hf
      refine kw_putH rfl (rfl : kotab 1 = some kPo) rfl rfl rfl (Nat.le_of_ble_eq_true rfl) rfl ee9 ?_
      exact kW_le (L' := [some (kr 1), some (kI x1), some (kI x2)]) ⟨Or.inr rfl, Or.inr rfl, Or.inr rfl, trivial⟩ (b_Tape_put_23 x1 x2 s8 _ hf hq)
def f_Tape_put_2 (x1 : Int) (x2 : Int) (s : kM) : Option (kM) :=
  gL (fun (x : Int × kM) => f_Tape_put_2b x1 x.1 x.2) gF (x2, s)
theorem b_Tape_put_2 {sc : List Int} {Q : Option kV → kH → Prop} (x1 : Int) (x2 : Int) (s : kM) (t : kM) (hf : f_Tape_put_2 x1 x2 s = some t) (hq : (fun r => Q none (hH r)) t) : kW sc 0 kc_Tape_put 0 2 [some (kr 1), some (kI x1), some (kI x2)] [] (hH s) Q :=
  gL_ind (P := fun (x : Int × kM) => kW sc 0 kc_Tape_put 0 2 [some (kr 1), some (kI x1), some (kI x.1)] [] (hH x.2) Q) (q := (fun r => Q none (hH r))) (fun x t hf hq => b_Tape_put_2b x1 x.1 x.2 t hf hq) gF (x2, s) t hf hq
def f_Tape_put (x1 : Int) (s : kM) : Option (kM) :=
  f_Tape_put_2 x1 24 s
set_option maxRecDepth 8000 in
theorem c_Tape_put {sc : List Int} (x1 : Int) (s : kM) (t : kM) (hf : f_Tape_put x1 s = some t) : kR sc 0 km_Tape_put [kr 1, kI x1] (hH s) none (hH t) := by
  unfold f_Tape_put at hf
  refine kR.start rfl ?_
  show kW sc 0 kc_Tape_put 0 0 [some (kr 1), some (kI x1), none] [] (hH s) _
  have hq : (fun (r : Option kV) (g : kH) => r = none ∧ g = hH t) none (hH t) := ⟨rfl, rfl⟩
  refine kw_step rfl rfl rfl rfl ?_
  refine kw_step (L' := [some (kr 1), some (kI x1), some (kI 24)]) rfl rfl rfl rfl ?_
  exact kW_le (L' := [some (kr 1), some (kI x1), some (kI 24)]) ⟨Or.inr rfl, Or.inr rfl, Or.inr rfl, trivial⟩ (b_Tape_put_2 x1 24 s _ hf hq)
def f_KT_feed (x1 : Int) (x2 : Int) (x3 : Int) (x4 : Int) (x5 : Int) (s : kM) : Option (Int × kM) :=
  if (wI ((s 1 1) + 20)) ≤ 400 then ((f_Tape_put x1 s).bind fun q2 => (f_Tape_put x2 q2).bind fun q4 => (f_Tape_put x3 q4).bind fun q6 => (f_Tape_put x4 q6).bind fun q8 => (f_Tape_put x5 q8).bind fun q10 => some ((q10 1 1), q10)) else (some ((-1), s))
set_option maxRecDepth 8000 in
theorem c_KT_feed {sc : List Int} (x1 : Int) (x2 : Int) (x3 : Int) (x4 : Int) (x5 : Int) (s : kM) (t : Int × kM) (hf : f_KT_feed x1 x2 x3 x4 x5 s = some t) : kR sc 1 km_KT_feed [kr 0, kI x1, kI x2, kI x3, kI x4, kI x5] (hH s) (some (kI t.1)) (hH t.2) := by
  unfold f_KT_feed at hf
  refine kR.start rfl ?_
  show kW sc 1 kc_KT_feed 1 0 [some (kr 0), some (kI x1), some (kI x2), some (kI x3), some (kI x4), some (kI x5)] [] (hH s) _
  have hq : (fun (r : Option kV) (g : kH) => r = some (kI t.1) ∧ g = hH t.2) (some (kI t.1)) (hH t.2) := ⟨rfl, rfl⟩
  refine kw_step rfl rfl rfl rfl ?_
  refine kw_get rfl (hH_O (rfl : kotab 0 = some kKo)) rfl ?_
  refine kw_get rfl (hH_O (rfl : kotab 1 = some kPo)) rfl ?_
  refine kw_step rfl rfl rfl rfl ?_
  refine kw_step rfl rfl rfl rfl ?_
  refine kw_step rfl rfl rfl rfl ?_
  refine kw_icmp_le rfl rfl (fun c1 => ?_) (fun c1 => ?_)
  · have hf := gift c1 hf
    refine kw_step rfl rfl rfl rfl ?_
    refine kw_get rfl (hH_O (rfl : kotab 0 = some kKo)) rfl ?_
    refine kw_step rfl rfl rfl rfl ?_
    obtain ⟨q2, hq2, hf⟩ := gbind hf
    refine kw_callV (vs := [kI x1]) rfl rfl rfl ⟨rfl, Nat.le_of_ble_eq_true rfl, Nat.le_of_ble_eq_true rfl, by decide⟩ (hH_O (rfl : kotab 1 = some kPo)) (c_Tape_put x1 s _ hq2) (Nat.le_of_ble_eq_true rfl) ?_
    refine kw_step rfl rfl rfl rfl ?_
    refine kw_get rfl (hH_O (rfl : kotab 0 = some kKo)) rfl ?_
    refine kw_step rfl rfl rfl rfl ?_
    obtain ⟨q4, hq4, hf⟩ := gbind hf
    refine kw_callV (vs := [kI x2]) rfl rfl rfl ⟨rfl, Nat.le_of_ble_eq_true rfl, Nat.le_of_ble_eq_true rfl, by decide⟩ (hH_O (rfl : kotab 1 = some kPo)) (c_Tape_put x2 q2 _ hq4) (Nat.le_of_ble_eq_true rfl) ?_
    refine kw_step rfl rfl rfl rfl ?_
    refine kw_get rfl (hH_O (rfl : kotab 0 = some kKo)) rfl ?_
    refine kw_step rfl rfl rfl rfl ?_
    obtain ⟨q6, hq6, hf⟩ := gbind hf
    refine kw_callV (vs := [kI x3]) rfl rfl rfl ⟨rfl, Nat.le_of_ble_eq_true rfl, Nat.le_of_ble_eq_true rfl, by decide⟩ (hH_O (rfl : kotab 1 = some kPo)) (c_Tape_put x3 q4 _ hq6) (Nat.le_of_ble_eq_true rfl) ?_
    refine kw_step rfl rfl rfl rfl ?_
    refine kw_get rfl (hH_O (rfl : kotab 0 = some kKo)) rfl ?_
    refine kw_step rfl rfl rfl rfl ?_
    obtain ⟨q8, hq8, hf⟩ := gbind hf
    refine kw_callV (vs := [kI x4]) rfl rfl rfl ⟨rfl, Nat.le_of_ble_eq_true rfl, Nat.le_of_ble_eq_true rfl, by decide⟩ (hH_O (rfl : kotab 1 = some kPo)) (c_Tape_put x4 q6 _ hq8) (Nat.le_of_ble_eq_true rfl) ?_
    refine kw_step rfl rfl rfl rfl ?_
    refine kw_get rfl (hH_O (rfl : kotab 0 = some kKo)) rfl ?_
    refine kw_step rfl rfl rfl rfl ?_
    obtain ⟨q10, hq10, hf⟩ := gbind hf
    refine kw_callV (vs := [kI x5]) rfl rfl rfl ⟨rfl, Nat.le_of_ble_eq_true rfl, Nat.le_of_ble_eq_true rfl, by decide⟩ (hH_O (rfl : kotab 1 = some kPo)) (c_Tape_put x5 q8 _ hq10) (Nat.le_of_ble_eq_true rfl) ?_
    refine kw_step rfl rfl rfl rfl ?_
    refine kw_get rfl (hH_O (rfl : kotab 0 = some kKo)) rfl ?_
    refine kw_get rfl (hH_O (rfl : kotab 1 = some kPo)) rfl ?_
    cases hf
    exact kw_ret rfl rfl rfl hq
  · have hf := giff c1 hf
    refine kw_step rfl rfl rfl rfl ?_
    cases hf
    exact kw_ret rfl rfl rfl hq
def f_KT_end (x1 : Int) (s : kM) : Option (Int × kM) :=
  if x1 < 0 then (some ((-1), s)) else (if x1 ≤ (s 1 1) then (gLet (gU s 1 1 x1) fun s3 => some (x1, s3)) else (some ((-1), s)))
set_option maxRecDepth 8000 in
theorem c_KT_end {sc : List Int} (x1 : Int) (s : kM) (t : Int × kM) (hf : f_KT_end x1 s = some t) : kR sc 0 km_KT_end [kr 0, kI x1] (hH s) (some (kI t.1)) (hH t.2) := by
  unfold f_KT_end at hf
  refine kR.start rfl ?_
  show kW sc 0 kc_KT_end 1 0 [some (kr 0), some (kI x1)] [] (hH s) _
  have hq : (fun (r : Option kV) (g : kH) => r = some (kI t.1) ∧ g = hH t.2) (some (kI t.1)) (hH t.2) := ⟨rfl, rfl⟩
  refine kw_step rfl rfl rfl rfl ?_
  refine kw_if_lt rfl rfl (fun c1 => ?_) (fun c1 => ?_)
  · have hf := gift c1 hf
    refine kw_step rfl rfl rfl rfl ?_
    cases hf
    exact kw_ret rfl rfl rfl hq
  · have hf := giff c1 hf
    refine kw_step rfl rfl rfl rfl ?_
    refine kw_step rfl rfl rfl rfl ?_
    refine kw_get rfl (hH_O (rfl : kotab 0 = some kKo)) rfl ?_
    refine kw_get rfl (hH_O (rfl : kotab 1 = some kPo)) rfl ?_
    refine kw_icmp_le rfl rfl (fun c2 => ?_) (fun c2 => ?_)
    · have hf := gift c2 hf
      refine kw_step rfl rfl rfl rfl ?_
      refine kw_get rfl (hH_O (rfl : kotab 0 = some kKo)) rfl ?_
      refine kw_step rfl rfl rfl rfl ?_
      obtain ⟨s3, ee4, hf⟩ := gbL hf
      refine kw_putH rfl (rfl : kotab 1 = some kPo) rfl rfl rfl (Nat.le_of_ble_eq_true rfl) rfl ee4 ?_
      refine kw_step rfl rfl rfl rfl ?_
      cases hf
      exact kw_ret rfl rfl rfl hq
    · have hf := giff c2 hf
      refine kw_step rfl rfl rfl rfl ?_
      cases hf
      exact kw_ret rfl rfl rfl hq
def f_Town_comeHome (b0 : Nat) (x1 : Int) (x2 : Int) (s : kM) : Option (kM) :=
  if x2 ≤ x1 then (some s) else ((gI 22 (wI (x2 - 1))).bind fun j2 => gLet (gU s (b0 + 3) j2 x1) fun s4 => (gI 22 x1).bind fun j7 => gLet (gU s4 (b0 + 4) j7 (wI (x2 - 1))) fun s9 => some s9)
set_option maxRecDepth 8000 in
theorem c_Town_comeHome {sc : List Int} (b0 : Nat) (hb0 : tT b0 = true) (x1 : Int) (x2 : Int) (s : kM) (t : kM) (hf : f_Town_comeHome b0 x1 x2 s = some t) : kR sc 0 km_Town_comeHome [kr b0, kI x1, kI x2] (hH s) none (hH t) := by
  unfold f_Town_comeHome at hf
  refine kR.start rfl ?_
  show kW sc 0 kc_Town_comeHome 0 0 [some (kr b0), some (kI x1), some (kI x2)] [] (hH s) _
  have hq : (fun (r : Option kV) (g : kH) => r = none ∧ g = hH t) none (hH t) := ⟨rfl, rfl⟩
  refine kw_step rfl rfl rfl rfl ?_
  refine kw_step rfl rfl rfl rfl ?_
  refine kw_icmp_ge rfl rfl (fun c1 => ?_) (fun c1 => ?_)
  · have hf := gift c1 hf
    cases hf
    exact kw_ret rfl rfl rfl hq
  · have hf := giff c1 hf
    refine kw_step rfl rfl rfl rfl ?_
    refine kw_get rfl (hH_O (tT_0 hb0)) rfl ?_
    refine kw_step rfl rfl rfl rfl ?_
    refine kw_step rfl rfl rfl rfl ?_
    refine kw_step rfl rfl rfl rfl ?_
    refine kw_step rfl rfl rfl rfl ?_
    obtain ⟨j2, i3, hf⟩ := gbI hf
    obtain ⟨s4, ee5, hf⟩ := gbL hf
    refine kw_iastH rfl (tT_3 hb0) i3.1 i3.2.1 i3.2.2 ee5 ?_
    refine kw_step rfl rfl rfl rfl ?_
    refine kw_get rfl (hH_O (tT_0 hb0)) rfl ?_
    refine kw_step rfl rfl rfl rfl ?_
    refine kw_step rfl rfl rfl rfl ?_
    refine kw_step rfl rfl rfl rfl ?_
    refine kw_step rfl rfl rfl rfl ?_
    obtain ⟨j7, i8, hf⟩ := gbI hf
    obtain ⟨s9, ee10, hf⟩ := gbL hf
    refine kw_iastH rfl (tT_4 hb0) i8.1 i8.2.1 i8.2.2 ee10 ?_
    cases hf
    exact kw_ret rfl rfl rfl hq
def f_Town_settle_9b (b0 : Nat) (x1 : Int) (s : kM) : Option ((Int × kM) ⊕ (kM)) :=
  if (s b0 2) ≤ x1 then ((f_Town_comeHome b0 0 (s b0 1) s).bind fun q2 => (f_Town_comeHome b0 (q2 b0 1) (q2 b0 2) q2).bind fun q4 => some (.inr q4)) else ((gI 22 x1).bind fun j6 => (gI 22 (s (b0 + 1) j6)).bind fun j8 => gLet (gU s (b0 + 5) j8 x1) fun s10 => (gI 22 x1).bind fun j13 => gLet (gU s10 b0 3 (kor (s10 b0 3) (kshl 1 (kshr (s10 (b0 + 1) j13) 1)))) fun s15 => (gI 22 x1).bind fun j18 => gLet (gU s15 (b0 + 3) j18 (wI (x1 + 1))) fun s20 => (gI 22 x1).bind fun j23 => gLet (gU s20 (b0 + 4) j23 (wI (x1 - 1))) fun s25 => some (.inl ((wI (x1 + 1)), s25)))
set_option maxRecDepth 8000 in
theorem b_Town_settle_9b {sc : List Int} {Q : Option kV → kH → Prop} (b0 : Nat) (hb0 : tT b0 = true) (x1 : Int) (s : kM) (t : (Int × kM) ⊕ (kM)) (hf : f_Town_settle_9b b0 x1 s = some t) (hq : (gE (fun x => kW sc 1 kc_Town_settle 0 9 [some (kr b0), some (kI x.1)] [] (hH x.2) Q) (fun r => Q none (hH r))) t) : kW sc 1 kc_Town_settle 0 9 [some (kr b0), some (kI x1)] [] (hH s) Q := by
  unfold f_Town_settle_9b at hf
  refine kw_step rfl rfl rfl rfl ?_
  refine kw_step rfl rfl rfl rfl ?_
  refine kw_get rfl (hH_O (tT_0 hb0)) rfl ?_
  refine kw_icmp_ge rfl rfl (fun c1 => ?_) (fun c1 => ?_)
  · have hf := gift c1 hf
    refine kw_step rfl rfl rfl rfl ?_
    refine kw_step rfl rfl rfl rfl ?_
    refine kw_step rfl rfl rfl rfl ?_
    refine kw_get rfl (hH_O (tT_0 hb0)) rfl ?_
    obtain ⟨q2, hq2, hf⟩ := gbind hf
    refine kw_callV (vs := [kI 0, kI (s b0 1)]) rfl rfl rfl ⟨rfl, Nat.le_of_ble_eq_true rfl, Nat.le_of_ble_eq_true rfl, by decide⟩ (hH_O (tT_0 hb0)) (c_Town_comeHome b0 hb0 0 (s b0 1) s _ hq2) (Nat.le_of_ble_eq_true rfl) ?_
    refine kw_step rfl rfl rfl rfl ?_
    refine kw_step rfl rfl rfl rfl ?_
    refine kw_get rfl (hH_O (tT_0 hb0)) rfl ?_
    refine kw_step rfl rfl rfl rfl ?_
    refine kw_get rfl (hH_O (tT_0 hb0)) rfl ?_
    obtain ⟨q4, hq4, hf⟩ := gbind hf
    refine kw_callV (vs := [kI (q2 b0 1), kI (q2 b0 2)]) rfl rfl rfl ⟨rfl, Nat.le_of_ble_eq_true rfl, Nat.le_of_ble_eq_true rfl, by decide⟩ (hH_O (tT_0 hb0)) (c_Town_comeHome b0 hb0 (q2 b0 1) (q2 b0 2) q2 _ hq4) (Nat.le_of_ble_eq_true rfl) ?_
    cases hf
    exact kw_ret rfl rfl rfl hq
  · have hf := giff c1 hf
    refine kw_step rfl rfl rfl rfl ?_
    refine kw_get rfl (hH_O (tT_0 hb0)) rfl ?_
    refine kw_step rfl rfl rfl rfl ?_
    refine kw_get rfl (hH_O (tT_0 hb0)) rfl ?_
    refine kw_step rfl rfl rfl rfl ?_
    obtain ⟨j6, i7, hf⟩ := gbI hf
    refine kw_iald rfl (hH_A (tT_1 hb0)) i7.1 i7.2.1 i7.2.2 ?_
    refine kw_step rfl rfl rfl rfl ?_
    obtain ⟨j8, i9, hf⟩ := gbI hf
    obtain ⟨s10, ee11, hf⟩ := gbL hf
    refine kw_iastH rfl (tT_5 hb0) i9.1 i9.2.1 i9.2.2 ee11 ?_
    refine kw_step rfl rfl rfl rfl ?_
    refine kw_step rfl rfl rfl rfl ?_
    refine kw_get rfl (hH_O (tT_0 hb0)) rfl ?_
    refine kw_step rfl rfl rfl rfl ?_
    refine kw_step rfl rfl rfl rfl ?_
    refine kw_get rfl (hH_O (tT_0 hb0)) rfl ?_
    refine kw_step rfl rfl rfl rfl ?_
    obtain ⟨j13, i14, hf⟩ := gbI hf
    refine kw_iald rfl (hH_A (tT_1 hb0)) i14.1 i14.2.1 i14.2.2 ?_
    refine kw_step rfl rfl rfl rfl ?_
    refine kw_step rfl rfl rfl rfl ?_
    refine kw_step rfl rfl rfl rfl ?_
    refine kw_step rfl rfl rfl rfl ?_
    obtain ⟨s15, ee16, hf⟩ := gbL hf
    refine kw_putH rfl (tT_0 hb0) rfl rfl rfl (Nat.le_of_ble_eq_true rfl) rfl ee16 ?_
    refine kw_step rfl rfl rfl rfl ?_
    refine kw_get rfl (hH_O (tT_0 hb0)) rfl ?_
    refine kw_step rfl rfl rfl rfl ?_
    refine kw_step rfl rfl rfl rfl ?_
    refine kw_step rfl rfl rfl rfl ?_
    refine kw_step rfl rfl rfl rfl ?_
    obtain ⟨j18, i19, hf⟩ := gbI hf
    obtain ⟨s20, ee21, hf⟩ := gbL hf
    refine kw_iastH rfl (tT_3 hb0) i19.1 i19.2.1 i19.2.2 ee21 ?_
    refine kw_step rfl rfl rfl rfl ?_
    refine kw_get rfl (hH_O (tT_0 hb0)) rfl ?_
    refine kw_step rfl rfl rfl rfl ?_
    refine kw_step rfl rfl rfl rfl ?_
    refine kw_step rfl rfl rfl rfl ?_
    refine kw_step rfl rfl rfl rfl ?_
    obtain ⟨j23, i24, hf⟩ := gbI hf
    obtain ⟨s25, ee26, hf⟩ := gbL hf
    refine kw_iastH rfl (tT_4 hb0) i24.1 i24.2.1 i24.2.2 ee26 ?_
    refine kw_step (L' := [some (kr b0), some (kI (wI (x1 + 1)))]) rfl rfl rfl rfl ?_
    refine kw_goto rfl rfl ?_
    cases hf
    exact kW_le (L' := [some (kr b0), some (kI (wI (x1 + 1)))]) ⟨Or.inr rfl, Or.inr rfl, trivial⟩ hq
def f_Town_settle_9 (b0 : Nat) (x1 : Int) (s : kM) : Option (kM) :=
  gL (fun (x : Int × kM) => f_Town_settle_9b b0 x.1 x.2) gF (x1, s)
theorem b_Town_settle_9 {sc : List Int} {Q : Option kV → kH → Prop} (b0 : Nat) (hb0 : tT b0 = true) (x1 : Int) (s : kM) (t : kM) (hf : f_Town_settle_9 b0 x1 s = some t) (hq : (fun r => Q none (hH r)) t) : kW sc 1 kc_Town_settle 0 9 [some (kr b0), some (kI x1)] [] (hH s) Q :=
  gL_ind (P := fun (x : Int × kM) => kW sc 1 kc_Town_settle 0 9 [some (kr b0), some (kI x.1)] [] (hH x.2) Q) (q := (fun r => Q none (hH r))) (fun x t hf hq => b_Town_settle_9b b0 hb0 x.1 x.2 t hf hq) gF (x1, s) t hf hq
def f_Town_settle (b0 : Nat) (s : kM) : Option (kM) :=
  (f_Arrays_fill_II (b0 + 5) 22 (-1) s).bind fun q1 => gLet (gU q1 b0 3 0) fun s3 => f_Town_settle_9 b0 0 s3
set_option maxRecDepth 8000 in
theorem c_Town_settle {sc : List Int} (b0 : Nat) (hb0 : tT b0 = true) (s : kM) (t : kM) (hf : f_Town_settle b0 s = some t) : kR sc 1 km_Town_settle [kr b0] (hH s) none (hH t) := by
  unfold f_Town_settle at hf
  refine kR.start rfl ?_
  show kW sc 1 kc_Town_settle 0 0 [some (kr b0), none] [] (hH s) _
  have hq : (fun (r : Option kV) (g : kH) => r = none ∧ g = hH t) none (hH t) := ⟨rfl, rfl⟩
  refine kw_step rfl rfl rfl rfl ?_
  refine kw_get rfl (hH_O (tT_0 hb0)) rfl ?_
  refine kw_step rfl rfl rfl rfl ?_
  obtain ⟨q1, hq1, hf⟩ := gbind hf
  refine kw_callS (vs := [kr (b0 + 5), kI (-1)]) rfl rfl rfl ⟨rfl, Nat.le_of_ble_eq_true rfl, Nat.le_of_ble_eq_true rfl, rfl⟩ (c_Arrays_fill_II (b0 + 5) 22 (tT_5 hb0) (-1) s _ hq1) (Nat.le_of_ble_eq_true rfl) ?_
  refine kw_step rfl rfl rfl rfl ?_
  refine kw_step rfl rfl rfl rfl ?_
  obtain ⟨s3, ee4, hf⟩ := gbL hf
  refine kw_putH rfl (tT_0 hb0) rfl rfl rfl (Nat.le_of_ble_eq_true rfl) rfl ee4 ?_
  refine kw_step rfl rfl rfl rfl ?_
  refine kw_step (L' := [some (kr b0), some (kI 0)]) rfl rfl rfl rfl ?_
  exact kW_le (L' := [some (kr b0), some (kI 0)]) ⟨Or.inr rfl, Or.inr rfl, trivial⟩ (b_Town_settle_9 b0 hb0 0 s3 _ hf hq)
def f_Town_clear (b0 : Nat) (s : kM) : Option (kM) :=
  gLet (gU s b0 0 0) fun s1 => gLet (gU s1 b0 1 0) fun s4 => gLet (gU s4 b0 2 0) fun s7 => (f_Town_settle b0 s7).bind fun q10 => some q10
set_option maxRecDepth 8000 in
theorem c_Town_clear {sc : List Int} (b0 : Nat) (hb0 : tT b0 = true) (s : kM) (t : kM) (hf : f_Town_clear b0 s = some t) : kR sc 2 km_Town_clear [kr b0] (hH s) none (hH t) := by
  unfold f_Town_clear at hf
  refine kR.start rfl ?_
  show kW sc 2 kc_Town_clear 0 0 [some (kr b0)] [] (hH s) _
  have hq : (fun (r : Option kV) (g : kH) => r = none ∧ g = hH t) none (hH t) := ⟨rfl, rfl⟩
  refine kw_step rfl rfl rfl rfl ?_
  refine kw_step rfl rfl rfl rfl ?_
  obtain ⟨s1, ee2, hf⟩ := gbL hf
  refine kw_putH rfl (tT_0 hb0) rfl rfl rfl (Nat.le_of_ble_eq_true rfl) rfl ee2 ?_
  refine kw_step rfl rfl rfl rfl ?_
  refine kw_step rfl rfl rfl rfl ?_
  obtain ⟨s4, ee5, hf⟩ := gbL hf
  refine kw_putH rfl (tT_0 hb0) rfl rfl rfl (Nat.le_of_ble_eq_true rfl) rfl ee5 ?_
  refine kw_step rfl rfl rfl rfl ?_
  refine kw_step rfl rfl rfl rfl ?_
  obtain ⟨s7, ee8, hf⟩ := gbL hf
  refine kw_putH rfl (tT_0 hb0) rfl rfl rfl (Nat.le_of_ble_eq_true rfl) rfl ee8 ?_
  refine kw_step rfl rfl rfl rfl ?_
  obtain ⟨q10, hq10, hf⟩ := gbind hf
  refine kw_callV (vs := []) rfl rfl rfl ⟨rfl, Nat.le_of_ble_eq_true rfl, Nat.le_of_ble_eq_true rfl, by decide⟩ (hH_O (tT_0 hb0)) (c_Town_settle b0 hb0 s7 _ hq10) (Nat.le_of_ble_eq_true rfl) ?_
  cases hf
  exact kw_ret rfl rfl rfl hq
def f_Tape_rewind (s : kM) : Option (kM) :=
  gLet (gU s 1 2 0) fun s1 => gLet (gU s1 1 3 0) fun s4 => some s4
set_option maxRecDepth 8000 in
theorem c_Tape_rewind {sc : List Int} (s : kM) (t : kM) (hf : f_Tape_rewind s = some t) : kR sc 0 km_Tape_rewind [kr 1] (hH s) none (hH t) := by
  unfold f_Tape_rewind at hf
  refine kR.start rfl ?_
  show kW sc 0 kc_Tape_rewind 0 0 [some (kr 1)] [] (hH s) _
  have hq : (fun (r : Option kV) (g : kH) => r = none ∧ g = hH t) none (hH t) := ⟨rfl, rfl⟩
  refine kw_step rfl rfl rfl rfl ?_
  refine kw_step rfl rfl rfl rfl ?_
  obtain ⟨s1, ee2, hf⟩ := gbL hf
  refine kw_putH rfl (rfl : kotab 1 = some kPo) rfl rfl rfl (Nat.le_of_ble_eq_true rfl) rfl ee2 ?_
  refine kw_step rfl rfl rfl rfl ?_
  refine kw_step rfl rfl rfl rfl ?_
  obtain ⟨s4, ee5, hf⟩ := gbL hf
  refine kw_putH rfl (rfl : kotab 1 = some kPo) rfl rfl rfl (Nat.le_of_ble_eq_true rfl) rfl ee5 ?_
  cases hf
  exact kw_ret rfl rfl rfl hq
def f_Tape_look_19 (s : kM) : Option (Int × kM) :=
  if (s 1 1) ≤ (s 1 2) then (some ((-1), s)) else ((gI 400 (s 1 2)).bind fun j2 => some ((kand (s 2 j2) 255), s))
set_option maxRecDepth 8000 in
theorem b_Tape_look_19 {sc : List Int} {Q : Option kV → kH → Prop} (s : kM) (t : Int × kM) (hf : f_Tape_look_19 s = some t) (hq : (fun r => Q (some (kI r.1)) (hH r.2)) t) : kW sc 0 kc_Tape_look 1 19 [some (kr 1)] [] (hH s) Q := by
  unfold f_Tape_look_19 at hf
  refine kw_step rfl rfl rfl rfl ?_
  refine kw_get rfl (hH_O (rfl : kotab 1 = some kPo)) rfl ?_
  refine kw_step rfl rfl rfl rfl ?_
  refine kw_get rfl (hH_O (rfl : kotab 1 = some kPo)) rfl ?_
  refine kw_icmp_ge rfl rfl (fun c1 => ?_) (fun c1 => ?_)
  · have hf := gift c1 hf
    refine kw_step rfl rfl rfl rfl ?_
    cases hf
    exact kw_ret rfl rfl rfl hq
  · have hf := giff c1 hf
    refine kw_step rfl rfl rfl rfl ?_
    refine kw_get rfl (hH_O (rfl : kotab 1 = some kPo)) rfl ?_
    refine kw_step rfl rfl rfl rfl ?_
    refine kw_get rfl (hH_O (rfl : kotab 1 = some kPo)) rfl ?_
    obtain ⟨j2, i3, hf⟩ := gbI hf
    refine kw_bald rfl (hH_A (rfl : ktab 2 = some (1, 400))) i3.1 i3.2.1 i3.2.2 ?_
    refine kw_step rfl rfl rfl rfl ?_
    refine kw_step rfl rfl rfl rfl ?_
    refine kw_goto rfl rfl ?_
    cases hf
    exact kw_ret rfl rfl rfl hq
def f_Tape_look_0b (s : kM) : Option ((kM) ⊕ (Int × kM)) :=
  if (s 1 1) ≤ (s 1 2) then ((f_Tape_look_19 s).map Sum.inr) else ((gI 400 (s 1 2)).bind fun j4 => if (s 2 j4) = 32 then (gLet (gU s 1 2 (wI ((s 1 2) + 1))) fun s9 => some (.inl (s9))) else ((f_Tape_look_19 s).map Sum.inr))
set_option maxRecDepth 8000 in
theorem b_Tape_look_0b {sc : List Int} {Q : Option kV → kH → Prop} (s : kM) (t : (kM) ⊕ (Int × kM)) (hf : f_Tape_look_0b s = some t) (hq : (gE (fun x => kW sc 0 kc_Tape_look 1 0 [some (kr 1)] [] (hH x) Q) (fun r => Q (some (kI r.1)) (hH r.2))) t) : kW sc 0 kc_Tape_look 1 0 [some (kr 1)] [] (hH s) Q := by
  unfold f_Tape_look_0b at hf
  refine kw_step rfl rfl rfl rfl ?_
  refine kw_get rfl (hH_O (rfl : kotab 1 = some kPo)) rfl ?_
  refine kw_step rfl rfl rfl rfl ?_
  refine kw_get rfl (hH_O (rfl : kotab 1 = some kPo)) rfl ?_
  refine kw_icmp_ge rfl rfl (fun c1 => ?_) (fun c1 => ?_)
  · have hf := gift c1 hf
    obtain ⟨t2, hg3, rfl⟩ := gmap hf
    exact kW_le (L' := [some (kr 1)]) ⟨Or.inr rfl, trivial⟩ (b_Tape_look_19 s _ hg3 hq)
  · have hf := giff c1 hf
    refine kw_step rfl rfl rfl rfl ?_
    refine kw_get rfl (hH_O (rfl : kotab 1 = some kPo)) rfl ?_
    refine kw_step rfl rfl rfl rfl ?_
    refine kw_get rfl (hH_O (rfl : kotab 1 = some kPo)) rfl ?_
    obtain ⟨j4, i5, hf⟩ := gbI hf
    refine kw_bald rfl (hH_A (rfl : ktab 2 = some (1, 400))) i5.1 i5.2.1 i5.2.2 ?_
    refine kw_step rfl rfl rfl rfl ?_
    refine kw_icmp_ne rfl rfl (fun c6 => ?_) (fun c6 => ?_)
    · have hf := giff c6 hf
      obtain ⟨t7, hg8, rfl⟩ := gmap hf
      exact kW_le (L' := [some (kr 1)]) ⟨Or.inr rfl, trivial⟩ (b_Tape_look_19 s _ hg8 hq)
    · have hf := gift c6 hf
      refine kw_step rfl rfl rfl rfl ?_
      refine kw_step rfl rfl rfl rfl ?_
      refine kw_get rfl (hH_O (rfl : kotab 1 = some kPo)) rfl ?_
      refine kw_step rfl rfl rfl rfl ?_
      refine kw_step rfl rfl rfl rfl ?_
      obtain ⟨s9, ee10, hf⟩ := gbL hf
      refine kw_putH rfl (rfl : kotab 1 = some kPo) rfl rfl rfl (Nat.le_of_ble_eq_true rfl) rfl ee10 ?_
      refine kw_goto rfl rfl ?_
      cases hf
      exact kW_le (L' := [some (kr 1)]) ⟨Or.inr rfl, trivial⟩ hq
def f_Tape_look_0 (s : kM) : Option (Int × kM) :=
  gL (fun (x : kM) => f_Tape_look_0b x) gF (s)
theorem b_Tape_look_0 {sc : List Int} {Q : Option kV → kH → Prop} (s : kM) (t : Int × kM) (hf : f_Tape_look_0 s = some t) (hq : (fun r => Q (some (kI r.1)) (hH r.2)) t) : kW sc 0 kc_Tape_look 1 0 [some (kr 1)] [] (hH s) Q :=
  gL_ind (P := fun (x : kM) => kW sc 0 kc_Tape_look 1 0 [some (kr 1)] [] (hH x) Q) (q := (fun r => Q (some (kI r.1)) (hH r.2))) (fun x t hf hq => b_Tape_look_0b x t hf hq) gF (s) t hf hq
def f_Tape_look (s : kM) : Option (Int × kM) :=
  f_Tape_look_0 s
theorem c_Tape_look {sc : List Int} (s : kM) (t : Int × kM) (hf : f_Tape_look s = some t) : kR sc 0 km_Tape_look [kr 1] (hH s) (some (kI t.1)) (hH t.2) := by
  unfold f_Tape_look at hf
  refine kR.start rfl ?_
  show kW sc 0 kc_Tape_look 1 0 [some (kr 1)] [] (hH s) _
  have hq : (fun (r : Option kV) (g : kH) => r = some (kI t.1) ∧ g = hH t.2) (some (kI t.1)) (hH t.2) := ⟨rfl, rfl⟩
  exact kW_le (L' := [some (kr 1)]) ⟨Or.inr rfl, trivial⟩ (b_Tape_look_0 s t hf hq)
def f_Tape_seesWord_55 (t1 : Nat) (x2 : Int) (x3 : Int) (s : kM) : Option (Int × kM) :=
  if x3 = 0 then (some (0, s)) else ((gJ t1).bind fun _ => if x2 = ((kstrs.getD t1 []).length : Int) then (some (1, s)) else (some (0, s)))
set_option maxRecDepth 8000 in
theorem b_Tape_seesWord_55 {sc : List Int} {Q : Option kV → kH → Prop} (t1 : Nat) (x2 : Int) (x3 : Int) (s : kM) (t : Int × kM) (hf : f_Tape_seesWord_55 t1 x2 x3 s = some t) (hq : (fun r => Q (some (kI r.1)) (hH r.2)) t) : kW sc 1 kc_Tape_seesWord 2 55 [none, some (kS t1), some (kI x2), some (kI x3)] [] (hH s) Q := by
  unfold f_Tape_seesWord_55 at hf
  refine kw_step rfl rfl rfl rfl ?_
  refine kw_if_eq rfl rfl (fun c1 => ?_) (fun c1 => ?_)
  · have hf := gift c1 hf
    refine kw_step rfl rfl rfl rfl ?_
    cases hf
    exact kw_ret rfl rfl rfl hq
  · have hf := giff c1 hf
    refine kw_step rfl rfl rfl rfl ?_
    refine kw_step rfl rfl rfl rfl ?_
    obtain ⟨z2, hf⟩ := gbJ hf
    refine kw_slen rfl ⟨z2, Nat.le_of_ble_eq_true rfl⟩ ?_
    refine kw_icmp_ne rfl rfl (fun c3 => ?_) (fun c3 => ?_)
    · have hf := giff c3 hf
      refine kw_step rfl rfl rfl rfl ?_
      cases hf
      exact kw_ret rfl rfl rfl hq
    · have hf := gift c3 hf
      refine kw_step rfl rfl rfl rfl ?_
      refine kw_goto rfl rfl ?_
      cases hf
      exact kw_ret rfl rfl rfl hq
def f_Tape_seesWord_52 (t1 : Nat) (x2 : Int) (y0 : Int) (s : kM) : Option ((Int × Int) ⊕ (Int × kM)) :=
  some (.inl ((wI (x2 + 1)), y0))
set_option maxRecDepth 8000 in
theorem b_Tape_seesWord_52 {sc : List Int} {Q : Option kV → kH → Prop} (t1 : Nat) (x2 : Int) (y0 : Int) (s : kM) (t : (Int × Int) ⊕ (Int × kM)) (hf : f_Tape_seesWord_52 t1 x2 y0 s = some t) (hq : (gE (fun x => kW sc 1 kc_Tape_seesWord 2 7 [some (kr 1), some (kS t1), some (kI x.1), some (kI x.2)] [] (hH s) Q) (fun r => Q (some (kI r.1)) (hH r.2))) t) : kW sc 1 kc_Tape_seesWord 2 52 [some (kr 1), some (kS t1), some (kI x2), none] [kI y0] (hH s) Q := by
  unfold f_Tape_seesWord_52 at hf
  refine kw_step (L' := [some (kr 1), some (kS t1), some (kI x2), some (kI y0)]) rfl rfl rfl rfl ?_
  refine kw_step (L' := [some (kr 1), some (kS t1), some (kI (wI (x2 + 1))), some (kI y0)]) rfl rfl rfl rfl ?_
  refine kw_goto rfl rfl ?_
  cases hf
  exact kW_le (L' := [some (kr 1), some (kS t1), some (kI (wI (x2 + 1))), some (kI y0)]) ⟨Or.inr rfl, Or.inr rfl, Or.inr rfl, Or.inr rfl, trivial⟩ hq
def f_Tape_seesWord_51 (t1 : Nat) (x2 : Int) (s : kM) : Option ((Int × Int) ⊕ (Int × kM)) :=
  f_Tape_seesWord_52 t1 x2 0 s
set_option maxRecDepth 8000 in
theorem b_Tape_seesWord_51 {sc : List Int} {Q : Option kV → kH → Prop} (t1 : Nat) (x2 : Int) (s : kM) (t : (Int × Int) ⊕ (Int × kM)) (hf : f_Tape_seesWord_51 t1 x2 s = some t) (hq : (gE (fun x => kW sc 1 kc_Tape_seesWord 2 7 [some (kr 1), some (kS t1), some (kI x.1), some (kI x.2)] [] (hH s) Q) (fun r => Q (some (kI r.1)) (hH r.2))) t) : kW sc 1 kc_Tape_seesWord 2 51 [some (kr 1), some (kS t1), some (kI x2), none] [] (hH s) Q := by
  unfold f_Tape_seesWord_51 at hf
  refine kw_step rfl rfl rfl rfl ?_
  exact kW_le (L' := [some (kr 1), some (kS t1), some (kI x2), none]) ⟨Or.inr rfl, Or.inr rfl, Or.inr rfl, Or.inl rfl, trivial⟩ (b_Tape_seesWord_52 t1 x2 0 s _ hf hq)
def f_Tape_seesWord_7b (t1 : Nat) (x2 : Int) (x3 : Int) (s : kM) : Option ((Int × Int) ⊕ (Int × kM)) :=
  if (s 1 1) ≤ (wI ((s 1 2) + x2)) then ((f_Tape_seesWord_55 t1 x2 x3 s).map Sum.inr) else ((gI 400 (wI ((s 1 2) + x2))).bind fun j4 => if (s 2 j4) < 97 then ((f_Tape_seesWord_55 t1 x2 x3 s).map Sum.inr) else ((gI 400 (wI ((s 1 2) + x2))).bind fun j9 => if 122 < (s 2 j9) then ((f_Tape_seesWord_55 t1 x2 x3 s).map Sum.inr) else (if x3 = 0 then (f_Tape_seesWord_51 t1 x2 s) else ((gJ t1).bind fun _ => if ((kstrs.getD t1 []).length : Int) ≤ x2 then (f_Tape_seesWord_51 t1 x2 s) else ((gI 400 (wI ((s 1 2) + x2))).bind fun j17 => (gJ t1).bind fun _ => (gI (kstrs.getD t1 []).length x2).bind fun j20 => if (s 2 j17) = ((kstrs.getD t1 []).getD j20 0) then (f_Tape_seesWord_52 t1 x2 1 s) else (f_Tape_seesWord_51 t1 x2 s))))))
set_option maxRecDepth 8000 in
theorem b_Tape_seesWord_7b {sc : List Int} {Q : Option kV → kH → Prop} (t1 : Nat) (x2 : Int) (x3 : Int) (s : kM) (t : (Int × Int) ⊕ (Int × kM)) (hf : f_Tape_seesWord_7b t1 x2 x3 s = some t) (hq : (gE (fun x => kW sc 1 kc_Tape_seesWord 2 7 [some (kr 1), some (kS t1), some (kI x.1), some (kI x.2)] [] (hH s) Q) (fun r => Q (some (kI r.1)) (hH r.2))) t) : kW sc 1 kc_Tape_seesWord 2 7 [some (kr 1), some (kS t1), some (kI x2), some (kI x3)] [] (hH s) Q := by
  unfold f_Tape_seesWord_7b at hf
  refine kw_step rfl rfl rfl rfl ?_
  refine kw_get rfl (hH_O (rfl : kotab 1 = some kPo)) rfl ?_
  refine kw_step rfl rfl rfl rfl ?_
  refine kw_step rfl rfl rfl rfl ?_
  refine kw_step rfl rfl rfl rfl ?_
  refine kw_get rfl (hH_O (rfl : kotab 1 = some kPo)) rfl ?_
  refine kw_icmp_ge rfl rfl (fun c1 => ?_) (fun c1 => ?_)
  · have hf := gift c1 hf
    obtain ⟨t2, hg3, rfl⟩ := gmap hf
    exact kW_le (L' := [none, some (kS t1), some (kI x2), some (kI x3)]) ⟨Or.inl rfl, Or.inr rfl, Or.inr rfl, Or.inr rfl, trivial⟩ (b_Tape_seesWord_55 t1 x2 x3 s _ hg3 hq)
  · have hf := giff c1 hf
    refine kw_step rfl rfl rfl rfl ?_
    refine kw_get rfl (hH_O (rfl : kotab 1 = some kPo)) rfl ?_
    refine kw_step rfl rfl rfl rfl ?_
    refine kw_get rfl (hH_O (rfl : kotab 1 = some kPo)) rfl ?_
    refine kw_step rfl rfl rfl rfl ?_
    refine kw_step rfl rfl rfl rfl ?_
    obtain ⟨j4, i5, hf⟩ := gbI hf
    refine kw_bald rfl (hH_A (rfl : ktab 2 = some (1, 400))) i5.1 i5.2.1 i5.2.2 ?_
    refine kw_step rfl rfl rfl rfl ?_
    refine kw_icmp_lt rfl rfl (fun c6 => ?_) (fun c6 => ?_)
    · have hf := gift c6 hf
      obtain ⟨t7, hg8, rfl⟩ := gmap hf
      exact kW_le (L' := [none, some (kS t1), some (kI x2), some (kI x3)]) ⟨Or.inl rfl, Or.inr rfl, Or.inr rfl, Or.inr rfl, trivial⟩ (b_Tape_seesWord_55 t1 x2 x3 s _ hg8 hq)
    · have hf := giff c6 hf
      refine kw_step rfl rfl rfl rfl ?_
      refine kw_get rfl (hH_O (rfl : kotab 1 = some kPo)) rfl ?_
      refine kw_step rfl rfl rfl rfl ?_
      refine kw_get rfl (hH_O (rfl : kotab 1 = some kPo)) rfl ?_
      refine kw_step rfl rfl rfl rfl ?_
      refine kw_step rfl rfl rfl rfl ?_
      obtain ⟨j9, i10, hf⟩ := gbI hf
      refine kw_bald rfl (hH_A (rfl : ktab 2 = some (1, 400))) i10.1 i10.2.1 i10.2.2 ?_
      refine kw_step rfl rfl rfl rfl ?_
      refine kw_icmp_gt rfl rfl (fun c11 => ?_) (fun c11 => ?_)
      · have hf := gift c11 hf
        obtain ⟨t12, hg13, rfl⟩ := gmap hf
        exact kW_le (L' := [none, some (kS t1), some (kI x2), some (kI x3)]) ⟨Or.inl rfl, Or.inr rfl, Or.inr rfl, Or.inr rfl, trivial⟩ (b_Tape_seesWord_55 t1 x2 x3 s _ hg13 hq)
      · have hf := giff c11 hf
        refine kw_step rfl rfl rfl rfl ?_
        refine kw_if_eq rfl rfl (fun c14 => ?_) (fun c14 => ?_)
        · have hf := gift c14 hf
          exact kW_le (L' := [some (kr 1), some (kS t1), some (kI x2), none]) ⟨Or.inr rfl, Or.inr rfl, Or.inr rfl, Or.inl rfl, trivial⟩ (b_Tape_seesWord_51 t1 x2 s _ hf hq)
        · have hf := giff c14 hf
          refine kw_step rfl rfl rfl rfl ?_
          refine kw_step rfl rfl rfl rfl ?_
          obtain ⟨z15, hf⟩ := gbJ hf
          refine kw_slen rfl ⟨z15, Nat.le_of_ble_eq_true rfl⟩ ?_
          refine kw_icmp_ge rfl rfl (fun c16 => ?_) (fun c16 => ?_)
          · have hf := gift c16 hf
            exact kW_le (L' := [some (kr 1), some (kS t1), some (kI x2), none]) ⟨Or.inr rfl, Or.inr rfl, Or.inr rfl, Or.inl rfl, trivial⟩ (b_Tape_seesWord_51 t1 x2 s _ hf hq)
          · have hf := giff c16 hf
            refine kw_step rfl rfl rfl rfl ?_
            refine kw_get rfl (hH_O (rfl : kotab 1 = some kPo)) rfl ?_
            refine kw_step rfl rfl rfl rfl ?_
            refine kw_get rfl (hH_O (rfl : kotab 1 = some kPo)) rfl ?_
            refine kw_step rfl rfl rfl rfl ?_
            refine kw_step rfl rfl rfl rfl ?_
            obtain ⟨j17, i18, hf⟩ := gbI hf
            refine kw_bald rfl (hH_A (rfl : ktab 2 = some (1, 400))) i18.1 i18.2.1 i18.2.2 ?_
            refine kw_step rfl rfl rfl rfl ?_
            refine kw_step rfl rfl rfl rfl ?_
            obtain ⟨z19, hf⟩ := gbJ hf
            obtain ⟨j20, i21, hf⟩ := gbI hf
            refine kw_schr rfl z19 i21.1 i21.2.1 i21.2.2 (Nat.le_of_ble_eq_true rfl) ?_
            refine kw_icmp_ne rfl rfl (fun c22 => ?_) (fun c22 => ?_)
            · have hf := giff c22 hf
              exact kW_le (L' := [some (kr 1), some (kS t1), some (kI x2), none]) ⟨Or.inr rfl, Or.inr rfl, Or.inr rfl, Or.inl rfl, trivial⟩ (b_Tape_seesWord_51 t1 x2 s _ hf hq)
            · have hf := gift c22 hf
              refine kw_step rfl rfl rfl rfl ?_
              refine kw_goto rfl rfl ?_
              exact kW_le (L' := [some (kr 1), some (kS t1), some (kI x2), none]) ⟨Or.inr rfl, Or.inr rfl, Or.inr rfl, Or.inl rfl, trivial⟩ (b_Tape_seesWord_52 t1 x2 1 s _ hf hq)
def f_Tape_seesWord_7 (t1 : Nat) (x2 : Int) (x3 : Int) (s : kM) : Option (Int × kM) :=
  gL (fun (x : Int × Int) => f_Tape_seesWord_7b t1 x.1 x.2 s) gF (x2, x3)
theorem b_Tape_seesWord_7 {sc : List Int} {Q : Option kV → kH → Prop} (t1 : Nat) (x2 : Int) (x3 : Int) (s : kM) (t : Int × kM) (hf : f_Tape_seesWord_7 t1 x2 x3 s = some t) (hq : (fun r => Q (some (kI r.1)) (hH r.2)) t) : kW sc 1 kc_Tape_seesWord 2 7 [some (kr 1), some (kS t1), some (kI x2), some (kI x3)] [] (hH s) Q :=
  gL_ind (P := fun (x : Int × Int) => kW sc 1 kc_Tape_seesWord 2 7 [some (kr 1), some (kS t1), some (kI x.1), some (kI x.2)] [] (hH s) Q) (q := (fun r => Q (some (kI r.1)) (hH r.2))) (fun x t hf hq => b_Tape_seesWord_7b t1 x.1 x.2 s t hf hq) gF (x2, x3) t hf hq
def f_Tape_seesWord (t1 : Nat) (s : kM) : Option (Int × kM) :=
  (f_Tape_look s).bind fun q1 => f_Tape_seesWord_7 t1 0 1 q1.2
set_option maxRecDepth 8000 in
theorem c_Tape_seesWord {sc : List Int} (t1 : Nat) (s : kM) (t : Int × kM) (hf : f_Tape_seesWord t1 s = some t) : kR sc 1 km_Tape_seesWord [kr 1, kS t1] (hH s) (some (kI t.1)) (hH t.2) := by
  unfold f_Tape_seesWord at hf
  refine kR.start rfl ?_
  show kW sc 1 kc_Tape_seesWord 2 0 [some (kr 1), some (kS t1), none, none] [] (hH s) _
  have hq : (fun (r : Option kV) (g : kH) => r = some (kI t.1) ∧ g = hH t.2) (some (kI t.1)) (hH t.2) := ⟨rfl, rfl⟩
  refine kw_step rfl rfl rfl rfl ?_
  obtain ⟨q1, hq1, hf⟩ := gbind hf
  refine kw_callV (vs := []) rfl rfl rfl ⟨rfl, Nat.le_of_ble_eq_true rfl, Nat.le_of_ble_eq_true rfl, by decide⟩ (hH_O (rfl : kotab 1 = some kPo)) (c_Tape_look s _ hq1) (Nat.le_of_ble_eq_true rfl) ?_
  refine kw_step rfl rfl rfl rfl ?_
  refine kw_step rfl rfl rfl rfl ?_
  refine kw_step (L' := [some (kr 1), some (kS t1), some (kI 0), none]) rfl rfl rfl rfl ?_
  refine kw_step rfl rfl rfl rfl ?_
  refine kw_step (L' := [some (kr 1), some (kS t1), some (kI 0), some (kI 1)]) rfl rfl rfl rfl ?_
  exact kW_le (L' := [some (kr 1), some (kS t1), some (kI 0), some (kI 1)]) ⟨Or.inr rfl, Or.inr rfl, Or.inr rfl, Or.inr rfl, trivial⟩ (b_Tape_seesWord_7 t1 0 1 q1.2 _ hf hq)
def f_Tape_fail (x1 : Int) (s : kM) : Option (kM) :=
  if (s 1 3) = 0 then (gLet (gU s 1 3 (wI ((wI (1 + (wI (8 * (s 1 2))))) + x1))) fun s2 => some s2) else (some s)
set_option maxRecDepth 8000 in
theorem c_Tape_fail {sc : List Int} (x1 : Int) (s : kM) (t : kM) (hf : f_Tape_fail x1 s = some t) : kR sc 0 km_Tape_fail [kr 1, kI x1] (hH s) none (hH t) := by
  unfold f_Tape_fail at hf
  refine kR.start rfl ?_
  show kW sc 0 kc_Tape_fail 0 0 [some (kr 1), some (kI x1)] [] (hH s) _
  have hq : (fun (r : Option kV) (g : kH) => r = none ∧ g = hH t) none (hH t) := ⟨rfl, rfl⟩
  refine kw_step rfl rfl rfl rfl ?_
  refine kw_get rfl (hH_O (rfl : kotab 1 = some kPo)) rfl ?_
  refine kw_if_ne rfl rfl (fun c1 => ?_) (fun c1 => ?_)
  · have hf := giff c1 hf
    cases hf
    exact kw_ret rfl rfl rfl hq
  · have hf := gift c1 hf
    refine kw_step rfl rfl rfl rfl ?_
    refine kw_step rfl rfl rfl rfl ?_
    refine kw_step rfl rfl rfl rfl ?_
    refine kw_step rfl rfl rfl rfl ?_
    refine kw_get rfl (hH_O (rfl : kotab 1 = some kPo)) rfl ?_
    refine kw_step rfl rfl rfl rfl ?_
    refine kw_step rfl rfl rfl rfl ?_
    refine kw_step rfl rfl rfl rfl ?_
    refine kw_step rfl rfl rfl rfl ?_
    obtain ⟨s2, ee3, hf⟩ := gbL hf
    refine kw_putH rfl (rfl : kotab 1 = some kPo) rfl rfl rfl (Nat.le_of_ble_eq_true rfl) rfl ee3 ?_
    cases hf
    exact kw_ret rfl rfl rfl hq
def f_Tape_takeWord (t1 : Nat) (s : kM) : Option (Int × kM) :=
  (f_Tape_seesWord t1 s).bind fun q1 => if q1.1 = 0 then (some (0, q1.2)) else ((gJ t1).bind fun _ => gLet (gU q1.2 1 2 (wI ((q1.2 1 2) + ((kstrs.getD t1 []).length : Int)))) fun s5 => some (1, s5))
set_option maxRecDepth 8000 in
theorem c_Tape_takeWord {sc : List Int} (t1 : Nat) (s : kM) (t : Int × kM) (hf : f_Tape_takeWord t1 s = some t) : kR sc 2 km_Tape_takeWord [kr 1, kS t1] (hH s) (some (kI t.1)) (hH t.2) := by
  unfold f_Tape_takeWord at hf
  refine kR.start rfl ?_
  show kW sc 2 kc_Tape_takeWord 2 0 [some (kr 1), some (kS t1)] [] (hH s) _
  have hq : (fun (r : Option kV) (g : kH) => r = some (kI t.1) ∧ g = hH t.2) (some (kI t.1)) (hH t.2) := ⟨rfl, rfl⟩
  refine kw_step rfl rfl rfl rfl ?_
  refine kw_step rfl rfl rfl rfl ?_
  obtain ⟨q1, hq1, hf⟩ := gbind hf
  refine kw_callV (vs := [kS t1]) rfl rfl rfl ⟨rfl, Nat.le_of_ble_eq_true rfl, Nat.le_of_ble_eq_true rfl, by decide⟩ (hH_O (rfl : kotab 1 = some kPo)) (c_Tape_seesWord t1 s _ hq1) (Nat.le_of_ble_eq_true rfl) ?_
  refine kw_if_ne rfl rfl (fun c3 => ?_) (fun c3 => ?_)
  · have hf := giff c3 hf
    refine kw_step rfl rfl rfl rfl ?_
    refine kw_step rfl rfl rfl rfl ?_
    refine kw_get rfl (hH_O (rfl : kotab 1 = some kPo)) rfl ?_
    refine kw_step rfl rfl rfl rfl ?_
    obtain ⟨z4, hf⟩ := gbJ hf
    refine kw_slen rfl ⟨z4, Nat.le_of_ble_eq_true rfl⟩ ?_
    refine kw_step rfl rfl rfl rfl ?_
    obtain ⟨s5, ee6, hf⟩ := gbL hf
    refine kw_putH rfl (rfl : kotab 1 = some kPo) rfl rfl rfl (Nat.le_of_ble_eq_true rfl) rfl ee6 ?_
    refine kw_step rfl rfl rfl rfl ?_
    cases hf
    exact kw_ret rfl rfl rfl hq
  · have hf := gift c3 hf
    refine kw_step rfl rfl rfl rfl ?_
    cases hf
    exact kw_ret rfl rfl rfl hq
def f_Tape_seesNumber (s : kM) : Option (Int × kM) :=
  (f_Tape_look s).bind fun q1 => if q1.1 < 48 then (some (0, q1.2)) else (if 57 < q1.1 then (some (0, q1.2)) else (some (1, q1.2)))
set_option maxRecDepth 8000 in
theorem c_Tape_seesNumber {sc : List Int} (s : kM) (t : Int × kM) (hf : f_Tape_seesNumber s = some t) : kR sc 1 km_Tape_seesNumber [kr 1] (hH s) (some (kI t.1)) (hH t.2) := by
  unfold f_Tape_seesNumber at hf
  refine kR.start rfl ?_
  show kW sc 1 kc_Tape_seesNumber 2 0 [some (kr 1), none] [] (hH s) _
  have hq : (fun (r : Option kV) (g : kH) => r = some (kI t.1) ∧ g = hH t.2) (some (kI t.1)) (hH t.2) := ⟨rfl, rfl⟩
  refine kw_step rfl rfl rfl rfl ?_
  obtain ⟨q1, hq1, hf⟩ := gbind hf
  refine kw_callV (vs := []) rfl rfl rfl ⟨rfl, Nat.le_of_ble_eq_true rfl, Nat.le_of_ble_eq_true rfl, by decide⟩ (hH_O (rfl : kotab 1 = some kPo)) (c_Tape_look s _ hq1) (Nat.le_of_ble_eq_true rfl) ?_
  refine kw_step (L' := [some (kr 1), some (kI q1.1)]) rfl rfl rfl rfl ?_
  refine kw_step rfl rfl rfl rfl ?_
  refine kw_step rfl rfl rfl rfl ?_
  refine kw_icmp_lt rfl rfl (fun c3 => ?_) (fun c3 => ?_)
  · have hf := gift c3 hf
    refine kw_step rfl rfl rfl rfl ?_
    cases hf
    exact kw_ret rfl rfl rfl hq
  · have hf := giff c3 hf
    refine kw_step rfl rfl rfl rfl ?_
    refine kw_step rfl rfl rfl rfl ?_
    refine kw_icmp_gt rfl rfl (fun c4 => ?_) (fun c4 => ?_)
    · have hf := gift c4 hf
      refine kw_step rfl rfl rfl rfl ?_
      cases hf
      exact kw_ret rfl rfl rfl hq
    · have hf := giff c4 hf
      refine kw_step rfl rfl rfl rfl ?_
      refine kw_goto rfl rfl ?_
      cases hf
      exact kw_ret rfl rfl rfl hq
def f_Tape_digitsHere_2b (x1 : Int) (s : kM) : Option ((Int) ⊕ (Int)) :=
  if (s 1 1) ≤ (wI ((s 1 2) + x1)) then (some (.inr x1)) else ((gI 400 (wI ((s 1 2) + x1))).bind fun j2 => if (s 2 j2) < 48 then (some (.inr x1)) else ((gI 400 (wI ((s 1 2) + x1))).bind fun j5 => if 57 < (s 2 j5) then (some (.inr x1)) else (some (.inl ((wI (x1 + 1)))))))
set_option maxRecDepth 8000 in
theorem b_Tape_digitsHere_2b {sc : List Int} {Q : Option kV → kH → Prop} (x1 : Int) (s : kM) (t : (Int) ⊕ (Int)) (hf : f_Tape_digitsHere_2b x1 s = some t) (hq : (gE (fun x => kW sc 0 kc_Tape_digitsHere 1 2 [some (kr 1), some (kI x)] [] (hH s) Q) (fun r => Q (some (kI r)) (hH s))) t) : kW sc 0 kc_Tape_digitsHere 1 2 [some (kr 1), some (kI x1)] [] (hH s) Q := by
  unfold f_Tape_digitsHere_2b at hf
  refine kw_step rfl rfl rfl rfl ?_
  refine kw_get rfl (hH_O (rfl : kotab 1 = some kPo)) rfl ?_
  refine kw_step rfl rfl rfl rfl ?_
  refine kw_step rfl rfl rfl rfl ?_
  refine kw_step rfl rfl rfl rfl ?_
  refine kw_get rfl (hH_O (rfl : kotab 1 = some kPo)) rfl ?_
  refine kw_icmp_ge rfl rfl (fun c1 => ?_) (fun c1 => ?_)
  · have hf := gift c1 hf
    refine kw_step rfl rfl rfl rfl ?_
    cases hf
    exact kw_ret rfl rfl rfl hq
  · have hf := giff c1 hf
    refine kw_step rfl rfl rfl rfl ?_
    refine kw_get rfl (hH_O (rfl : kotab 1 = some kPo)) rfl ?_
    refine kw_step rfl rfl rfl rfl ?_
    refine kw_get rfl (hH_O (rfl : kotab 1 = some kPo)) rfl ?_
    refine kw_step rfl rfl rfl rfl ?_
    refine kw_step rfl rfl rfl rfl ?_
    obtain ⟨j2, i3, hf⟩ := gbI hf
    refine kw_bald rfl (hH_A (rfl : ktab 2 = some (1, 400))) i3.1 i3.2.1 i3.2.2 ?_
    refine kw_step rfl rfl rfl rfl ?_
    refine kw_icmp_lt rfl rfl (fun c4 => ?_) (fun c4 => ?_)
    · have hf := gift c4 hf
      refine kw_step rfl rfl rfl rfl ?_
      cases hf
      exact kw_ret rfl rfl rfl hq
    · have hf := giff c4 hf
      refine kw_step rfl rfl rfl rfl ?_
      refine kw_get rfl (hH_O (rfl : kotab 1 = some kPo)) rfl ?_
      refine kw_step rfl rfl rfl rfl ?_
      refine kw_get rfl (hH_O (rfl : kotab 1 = some kPo)) rfl ?_
      refine kw_step rfl rfl rfl rfl ?_
      refine kw_step rfl rfl rfl rfl ?_
      obtain ⟨j5, i6, hf⟩ := gbI hf
      refine kw_bald rfl (hH_A (rfl : ktab 2 = some (1, 400))) i6.1 i6.2.1 i6.2.2 ?_
      refine kw_step rfl rfl rfl rfl ?_
      refine kw_icmp_gt rfl rfl (fun c7 => ?_) (fun c7 => ?_)
      · have hf := gift c7 hf
        refine kw_step rfl rfl rfl rfl ?_
        cases hf
        exact kw_ret rfl rfl rfl hq
      · have hf := giff c7 hf
        refine kw_step (L' := [some (kr 1), some (kI (wI (x1 + 1)))]) rfl rfl rfl rfl ?_
        refine kw_goto rfl rfl ?_
        cases hf
        exact kW_le (L' := [some (kr 1), some (kI (wI (x1 + 1)))]) ⟨Or.inr rfl, Or.inr rfl, trivial⟩ hq
def f_Tape_digitsHere_2 (x1 : Int) (s : kM) : Option (Int) :=
  gL (fun (x : Int) => f_Tape_digitsHere_2b x s) gF (x1)
theorem b_Tape_digitsHere_2 {sc : List Int} {Q : Option kV → kH → Prop} (x1 : Int) (s : kM) (t : Int) (hf : f_Tape_digitsHere_2 x1 s = some t) (hq : (fun r => Q (some (kI r)) (hH s)) t) : kW sc 0 kc_Tape_digitsHere 1 2 [some (kr 1), some (kI x1)] [] (hH s) Q :=
  gL_ind (P := fun (x : Int) => kW sc 0 kc_Tape_digitsHere 1 2 [some (kr 1), some (kI x)] [] (hH s) Q) (q := (fun r => Q (some (kI r)) (hH s))) (fun x t hf hq => b_Tape_digitsHere_2b x s t hf hq) gF (x1) t hf hq
def f_Tape_digitsHere (s : kM) : Option (Int) :=
  f_Tape_digitsHere_2 0 s
set_option maxRecDepth 8000 in
theorem c_Tape_digitsHere {sc : List Int} (s : kM) (t : Int) (hf : f_Tape_digitsHere s = some t) : kR sc 0 km_Tape_digitsHere [kr 1] (hH s) (some (kI t)) (hH s) := by
  unfold f_Tape_digitsHere at hf
  refine kR.start rfl ?_
  show kW sc 0 kc_Tape_digitsHere 1 0 [some (kr 1), none] [] (hH s) _
  have hq : (fun (r : Option kV) (g : kH) => r = some (kI t) ∧ g = hH s) (some (kI t)) (hH s) := ⟨rfl, rfl⟩
  refine kw_step rfl rfl rfl rfl ?_
  refine kw_step (L' := [some (kr 1), some (kI 0)]) rfl rfl rfl rfl ?_
  exact kW_le (L' := [some (kr 1), some (kI 0)]) ⟨Or.inr rfl, Or.inr rfl, trivial⟩ (b_Tape_digitsHere_2 0 s _ hf hq)
def f_Tape_seenNumber_51 (s : kM) : Option (Int × kM) :=
  (f_Tape_fail 1 s).bind fun q1 => some ((-1), q1)
set_option maxRecDepth 8000 in
theorem b_Tape_seenNumber_51 {sc : List Int} {Q : Option kV → kH → Prop} (s : kM) (t : Int × kM) (hf : f_Tape_seenNumber_51 s = some t) (hq : (fun r => Q (some (kI r.1)) (hH r.2)) t) : kW sc 2 kc_Tape_seenNumber 1 51 [some (kr 1), none, none, none, none] [] (hH s) Q := by
  unfold f_Tape_seenNumber_51 at hf
  refine kw_step rfl rfl rfl rfl ?_
  refine kw_step rfl rfl rfl rfl ?_
  obtain ⟨q1, hq1, hf⟩ := gbind hf
  refine kw_callV (vs := [kI 1]) rfl rfl rfl ⟨rfl, Nat.le_of_ble_eq_true rfl, Nat.le_of_ble_eq_true rfl, by decide⟩ (hH_O (rfl : kotab 1 = some kPo)) (c_Tape_fail 1 s _ hq1) (Nat.le_of_ble_eq_true rfl) ?_
  refine kw_step rfl rfl rfl rfl ?_
  cases hf
  exact kw_ret rfl rfl rfl hq
def f_Tape_seenNumber_45 (x1 : Int) (x2 : Int) (x3 : Int) (s : kM) : Option (Int × kM) :=
  if 5 < x2 then (f_Tape_seenNumber_51 s) else (if x3 ≤ x1 then (some (x3, s)) else (f_Tape_seenNumber_51 s))
set_option maxRecDepth 8000 in
theorem b_Tape_seenNumber_45 {sc : List Int} {Q : Option kV → kH → Prop} (x1 : Int) (x2 : Int) (x3 : Int) (s : kM) (t : Int × kM) (hf : f_Tape_seenNumber_45 x1 x2 x3 s = some t) (hq : (fun r => Q (some (kI r.1)) (hH r.2)) t) : kW sc 2 kc_Tape_seenNumber 1 45 [some (kr 1), some (kI x1), some (kI x2), some (kI x3), none] [] (hH s) Q := by
  unfold f_Tape_seenNumber_45 at hf
  refine kw_step rfl rfl rfl rfl ?_
  refine kw_step rfl rfl rfl rfl ?_
  refine kw_icmp_gt rfl rfl (fun c1 => ?_) (fun c1 => ?_)
  · have hf := gift c1 hf
    exact kW_le (L' := [some (kr 1), none, none, none, none]) ⟨Or.inr rfl, Or.inl rfl, Or.inl rfl, Or.inl rfl, Or.inl rfl, trivial⟩ (b_Tape_seenNumber_51 s _ hf hq)
  · have hf := giff c1 hf
    refine kw_step rfl rfl rfl rfl ?_
    refine kw_step rfl rfl rfl rfl ?_
    refine kw_icmp_le rfl rfl (fun c2 => ?_) (fun c2 => ?_)
    · have hf := gift c2 hf
      refine kw_step rfl rfl rfl rfl ?_
      cases hf
      exact kw_ret rfl rfl rfl hq
    · have hf := giff c2 hf
      exact kW_le (L' := [some (kr 1), none, none, none, none]) ⟨Or.inr rfl, Or.inl rfl, Or.inl rfl, Or.inl rfl, Or.inl rfl, trivial⟩ (b_Tape_seenNumber_51 s _ hf hq)
def f_Tape_seenNumber_16b (x1 : Int) (x2 : Int) (x3 : Int) (x4 : Int) (s : kM) : Option ((Int × Int) ⊕ (Int × kM)) :=
  if (wI ((s 1 2) + x2)) ≤ x4 then ((f_Tape_seenNumber_45 x1 x2 x3 s).map Sum.inr) else (if (wI ((s 1 2) + 5)) ≤ x4 then ((f_Tape_seenNumber_45 x1 x2 x3 s).map Sum.inr) else (if (s 1 1) ≤ x4 then ((f_Tape_seenNumber_45 x1 x2 x3 s).map Sum.inr) else ((gI 400 x4).bind fun j10 => some (.inl ((wI ((wI ((wI (10 * x3)) + (s 2 j10))) - 48)), (wI (x4 + 1)))))))
set_option maxRecDepth 8000 in
theorem b_Tape_seenNumber_16b {sc : List Int} {Q : Option kV → kH → Prop} (x1 : Int) (x2 : Int) (x3 : Int) (x4 : Int) (s : kM) (t : (Int × Int) ⊕ (Int × kM)) (hf : f_Tape_seenNumber_16b x1 x2 x3 x4 s = some t) (hq : (gE (fun x => kW sc 2 kc_Tape_seenNumber 1 16 [some (kr 1), some (kI x1), some (kI x2), some (kI x.1), some (kI x.2)] [] (hH s) Q) (fun r => Q (some (kI r.1)) (hH r.2))) t) : kW sc 2 kc_Tape_seenNumber 1 16 [some (kr 1), some (kI x1), some (kI x2), some (kI x3), some (kI x4)] [] (hH s) Q := by
  unfold f_Tape_seenNumber_16b at hf
  refine kw_step rfl rfl rfl rfl ?_
  refine kw_step rfl rfl rfl rfl ?_
  refine kw_get rfl (hH_O (rfl : kotab 1 = some kPo)) rfl ?_
  refine kw_step rfl rfl rfl rfl ?_
  refine kw_step rfl rfl rfl rfl ?_
  refine kw_icmp_ge rfl rfl (fun c1 => ?_) (fun c1 => ?_)
  · have hf := gift c1 hf
    obtain ⟨t2, hg3, rfl⟩ := gmap hf
    exact kW_le (L' := [some (kr 1), some (kI x1), some (kI x2), some (kI x3), none]) ⟨Or.inr rfl, Or.inr rfl, Or.inr rfl, Or.inr rfl, Or.inl rfl, trivial⟩ (b_Tape_seenNumber_45 x1 x2 x3 s _ hg3 hq)
  · have hf := giff c1 hf
    refine kw_step rfl rfl rfl rfl ?_
    refine kw_step rfl rfl rfl rfl ?_
    refine kw_get rfl (hH_O (rfl : kotab 1 = some kPo)) rfl ?_
    refine kw_step rfl rfl rfl rfl ?_
    refine kw_step rfl rfl rfl rfl ?_
    refine kw_icmp_ge rfl rfl (fun c4 => ?_) (fun c4 => ?_)
    · have hf := gift c4 hf
      obtain ⟨t5, hg6, rfl⟩ := gmap hf
      exact kW_le (L' := [some (kr 1), some (kI x1), some (kI x2), some (kI x3), none]) ⟨Or.inr rfl, Or.inr rfl, Or.inr rfl, Or.inr rfl, Or.inl rfl, trivial⟩ (b_Tape_seenNumber_45 x1 x2 x3 s _ hg6 hq)
    · have hf := giff c4 hf
      refine kw_step rfl rfl rfl rfl ?_
      refine kw_step rfl rfl rfl rfl ?_
      refine kw_get rfl (hH_O (rfl : kotab 1 = some kPo)) rfl ?_
      refine kw_icmp_ge rfl rfl (fun c7 => ?_) (fun c7 => ?_)
      · have hf := gift c7 hf
        obtain ⟨t8, hg9, rfl⟩ := gmap hf
        exact kW_le (L' := [some (kr 1), some (kI x1), some (kI x2), some (kI x3), none]) ⟨Or.inr rfl, Or.inr rfl, Or.inr rfl, Or.inr rfl, Or.inl rfl, trivial⟩ (b_Tape_seenNumber_45 x1 x2 x3 s _ hg9 hq)
      · have hf := giff c7 hf
        refine kw_step rfl rfl rfl rfl ?_
        refine kw_step rfl rfl rfl rfl ?_
        refine kw_step rfl rfl rfl rfl ?_
        refine kw_step rfl rfl rfl rfl ?_
        refine kw_get rfl (hH_O (rfl : kotab 1 = some kPo)) rfl ?_
        refine kw_step rfl rfl rfl rfl ?_
        obtain ⟨j10, i11, hf⟩ := gbI hf
        refine kw_bald rfl (hH_A (rfl : ktab 2 = some (1, 400))) i11.1 i11.2.1 i11.2.2 ?_
        refine kw_step rfl rfl rfl rfl ?_
        refine kw_step rfl rfl rfl rfl ?_
        refine kw_step rfl rfl rfl rfl ?_
        refine kw_step (L' := [some (kr 1), some (kI x1), some (kI x2), some (kI (wI ((wI ((wI (10 * x3)) + (s 2 j10))) - 48))), some (kI x4)]) rfl rfl rfl rfl ?_
        refine kw_step (L' := [some (kr 1), some (kI x1), some (kI x2), some (kI (wI ((wI ((wI (10 * x3)) + (s 2 j10))) - 48))), some (kI (wI (x4 + 1)))]) rfl rfl rfl rfl ?_
        refine kw_goto rfl rfl ?_
        cases hf
        exact kW_le (L' := [some (kr 1), some (kI x1), some (kI x2), some (kI (wI ((wI ((wI (10 * x3)) + (s 2 j10))) - 48))), some (kI (wI (x4 + 1)))]) ⟨Or.inr rfl, Or.inr rfl, Or.inr rfl, Or.inr rfl, Or.inr rfl, trivial⟩ hq
def f_Tape_seenNumber_16 (x1 : Int) (x2 : Int) (x3 : Int) (x4 : Int) (s : kM) : Option (Int × kM) :=
  gL (fun (x : Int × Int) => f_Tape_seenNumber_16b x1 x2 x.1 x.2 s) gF (x3, x4)
theorem b_Tape_seenNumber_16 {sc : List Int} {Q : Option kV → kH → Prop} (x1 : Int) (x2 : Int) (x3 : Int) (x4 : Int) (s : kM) (t : Int × kM) (hf : f_Tape_seenNumber_16 x1 x2 x3 x4 s = some t) (hq : (fun r => Q (some (kI r.1)) (hH r.2)) t) : kW sc 2 kc_Tape_seenNumber 1 16 [some (kr 1), some (kI x1), some (kI x2), some (kI x3), some (kI x4)] [] (hH s) Q :=
  gL_ind (P := fun (x : Int × Int) => kW sc 2 kc_Tape_seenNumber 1 16 [some (kr 1), some (kI x1), some (kI x2), some (kI x.1), some (kI x.2)] [] (hH s) Q) (q := (fun r => Q (some (kI r.1)) (hH r.2))) (fun x t hf hq => b_Tape_seenNumber_16b x1 x2 x.1 x.2 s t hf hq) gF (x3, x4) t hf hq
def f_Tape_seenNumber (x1 : Int) (s : kM) : Option (Int × kM) :=
  (f_Tape_seesNumber s).bind fun q1 => if q1.1 = 0 then ((f_Tape_fail 0 q1.2).bind fun q5 => some ((-1), q5)) else ((f_Tape_digitsHere q1.2).bind fun q4 => f_Tape_seenNumber_16 x1 q4 0 (q1.2 1 2) q1.2)
set_option maxRecDepth 8000 in
theorem c_Tape_seenNumber {sc : List Int} (x1 : Int) (s : kM) (t : Int × kM) (hf : f_Tape_seenNumber x1 s = some t) : kR sc 2 km_Tape_seenNumber [kr 1, kI x1] (hH s) (some (kI t.1)) (hH t.2) := by
  unfold f_Tape_seenNumber at hf
  refine kR.start rfl ?_
  show kW sc 2 kc_Tape_seenNumber 1 0 [some (kr 1), some (kI x1), none, none, none] [] (hH s) _
  have hq : (fun (r : Option kV) (g : kH) => r = some (kI t.1) ∧ g = hH t.2) (some (kI t.1)) (hH t.2) := ⟨rfl, rfl⟩
  refine kw_step rfl rfl rfl rfl ?_
  obtain ⟨q1, hq1, hf⟩ := gbind hf
  refine kw_callV (vs := []) rfl rfl rfl ⟨rfl, Nat.le_of_ble_eq_true rfl, Nat.le_of_ble_eq_true rfl, by decide⟩ (hH_O (rfl : kotab 1 = some kPo)) (c_Tape_seesNumber s _ hq1) (Nat.le_of_ble_eq_true rfl) ?_
  refine kw_if_ne rfl rfl (fun c3 => ?_) (fun c3 => ?_)
  · have hf := giff c3 hf
    refine kw_step rfl rfl rfl rfl ?_
    obtain ⟨q4, hq4, hf⟩ := gbind hf
    refine kw_callV (vs := []) rfl rfl rfl ⟨rfl, Nat.le_of_ble_eq_true rfl, Nat.le_of_ble_eq_true rfl, by decide⟩ (hH_O (rfl : kotab 1 = some kPo)) (c_Tape_digitsHere q1.2 _ hq4) (Nat.le_of_ble_eq_true rfl) ?_
    refine kw_step (L' := [some (kr 1), some (kI x1), some (kI q4), none, none]) rfl rfl rfl rfl ?_
    refine kw_step rfl rfl rfl rfl ?_
    refine kw_step (L' := [some (kr 1), some (kI x1), some (kI q4), some (kI 0), none]) rfl rfl rfl rfl ?_
    refine kw_step rfl rfl rfl rfl ?_
    refine kw_get rfl (hH_O (rfl : kotab 1 = some kPo)) rfl ?_
    refine kw_step (L' := [some (kr 1), some (kI x1), some (kI q4), some (kI 0), some (kI (q1.2 1 2))]) rfl rfl rfl rfl ?_
    exact kW_le (L' := [some (kr 1), some (kI x1), some (kI q4), some (kI 0), some (kI (q1.2 1 2))]) ⟨Or.inr rfl, Or.inr rfl, Or.inr rfl, Or.inr rfl, Or.inr rfl, trivial⟩ (b_Tape_seenNumber_16 x1 q4 0 (q1.2 1 2) q1.2 _ hf hq)
  · have hf := gift c3 hf
    refine kw_step rfl rfl rfl rfl ?_
    refine kw_step rfl rfl rfl rfl ?_
    obtain ⟨q5, hq5, hf⟩ := gbind hf
    refine kw_callV (vs := [kI 0]) rfl rfl rfl ⟨rfl, Nat.le_of_ble_eq_true rfl, Nat.le_of_ble_eq_true rfl, by decide⟩ (hH_O (rfl : kotab 1 = some kPo)) (c_Tape_fail 0 q1.2 _ hq5) (Nat.le_of_ble_eq_true rfl) ?_
    refine kw_step rfl rfl rfl rfl ?_
    cases hf
    exact kw_ret rfl rfl rfl hq
