/-! PRINTED by wip/whole/decall.py: methods as functions over the flat world, with their contracts -/
def f_KT_heard (x1 : Int) (x2 : Int) (s : kM) : Option (Int × kM) :=
  (f_Town_hasPlace 4 x1 s).bind fun q1 => if q1 = 0 then (some ((-1), s)) else ((f_Town_hasPlace 4 x2 s).bind fun q3 => if q3 = 0 then (some ((-1), s)) else ((f_KT_ruleInForce s).bind fun q5 => (f_Gossip_minuteOf 4 q5 x1 x2 s).bind fun q6 => some (q6.1, q6.2)))
set_option maxRecDepth 8000 in
theorem c_KT_heard {sc : List Int} (x1 : Int) (x2 : Int) (s : kM) (t : Int × kM) (hf : f_KT_heard x1 x2 s = some t) : kR sc 7 km_KT_heard [kr 0, kI x1, kI x2] (hH s) (some (kI t.1)) (hH t.2) := by
  unfold f_KT_heard at hf
  refine kR.start rfl ?_
  show kW sc 7 kc_KT_heard 1 0 [some (kr 0), some (kI x1), some (kI x2)] [] (hH s) _
  have hq : (fun (r : Option kV) (g : kH) => r = some (kI t.1) ∧ g = hH t.2) (some (kI t.1)) (hH t.2) := ⟨rfl, rfl⟩
  refine kw_step rfl rfl rfl rfl ?_
  refine kw_get rfl (hH_O (rfl : kotab 0 = some kKo)) rfl ?_
  refine kw_get rfl (hH_O (tS_0 (b := 3) rfl)) rfl ?_
  refine kw_step rfl rfl rfl rfl ?_
  obtain ⟨q1, hq1, hf⟩ := gbind hf
  refine kw_callV (vs := [kI x1]) rfl rfl rfl ⟨rfl, Nat.le_of_ble_eq_true rfl, Nat.le_of_ble_eq_true rfl, by decide⟩ (hH_O (tT_0 (b := 4) rfl)) (c_Town_hasPlace 4 (rfl : tT 4 = true) x1 s _ hq1) (Nat.le_of_ble_eq_true rfl) ?_
  refine kw_if_eq rfl rfl (fun c2 => ?_) (fun c2 => ?_)
  · have hf := gift c2 hf
    refine kw_step rfl rfl rfl rfl ?_
    cases hf
    exact kw_ret rfl rfl rfl hq
  · have hf := giff c2 hf
    refine kw_step rfl rfl rfl rfl ?_
    refine kw_get rfl (hH_O (rfl : kotab 0 = some kKo)) rfl ?_
    refine kw_get rfl (hH_O (tS_0 (b := 3) rfl)) rfl ?_
    refine kw_step rfl rfl rfl rfl ?_
    obtain ⟨q3, hq3, hf⟩ := gbind hf
    refine kw_callV (vs := [kI x2]) rfl rfl rfl ⟨rfl, Nat.le_of_ble_eq_true rfl, Nat.le_of_ble_eq_true rfl, by decide⟩ (hH_O (tT_0 (b := 4) rfl)) (c_Town_hasPlace 4 (rfl : tT 4 = true) x2 s _ hq3) (Nat.le_of_ble_eq_true rfl) ?_
    refine kw_if_ne rfl rfl (fun c4 => ?_) (fun c4 => ?_)
    · have hf := giff c4 hf
      refine kw_step rfl rfl rfl rfl ?_
      refine kw_get rfl (hH_O (rfl : kotab 0 = some kKo)) rfl ?_
      refine kw_step rfl rfl rfl rfl ?_
      refine kw_get rfl (hH_O (rfl : kotab 0 = some kKo)) rfl ?_
      refine kw_get rfl (hH_O (tS_0 (b := 3) rfl)) rfl ?_
      refine kw_step rfl rfl rfl rfl ?_
      obtain ⟨q5, hq5, hf⟩ := gbind hf
      refine kw_callV (vs := []) rfl rfl rfl ⟨rfl, Nat.le_of_ble_eq_true rfl, Nat.le_of_ble_eq_true rfl, by decide⟩ (hH_O (rfl : kotab 0 = some kKo)) (c_KT_ruleInForce s _ hq5) (Nat.le_of_ble_eq_true rfl) ?_
      refine kw_step rfl rfl rfl rfl ?_
      refine kw_step rfl rfl rfl rfl ?_
      obtain ⟨q6, hq6, hf⟩ := gbind hf
      refine kw_callV (vs := [kr 4, kq q5, kI x1, kI x2]) rfl rfl rfl ⟨rfl, Nat.le_of_ble_eq_true rfl, Nat.le_of_ble_eq_true rfl, by decide⟩ (hH_O (rfl : kotab 51 = some kGo)) (c_Gossip_minuteOf 4 q5 (rfl : tT 4 = true) x1 x2 s _ hq6) (Nat.le_of_ble_eq_true rfl) ?_
      cases hf
      exact kw_ret rfl rfl rfl hq
    · have hf := gift c4 hf
      refine kw_step rfl rfl rfl rfl ?_
      cases hf
      exact kw_ret rfl rfl rfl hq
def f_KT_seed (x1 : Int) (s : kM) : Option (Int × kM) :=
  if 0 ≤ x1 then (gLet (gU s 3 3 x1) fun s2 => some ((s 3 3), s2)) else (some ((-1), s))
set_option maxRecDepth 8000 in
theorem c_KT_seed {sc : List Int} (x1 : Int) (s : kM) (t : Int × kM) (hf : f_KT_seed x1 s = some t) : kR sc 0 km_KT_seed [kr 0, kI x1] (hH s) (some (kI t.1)) (hH t.2) := by
  unfold f_KT_seed at hf
  refine kR.start rfl ?_
  show kW sc 0 kc_KT_seed 1 0 [some (kr 0), some (kI x1), none] [] (hH s) _
  have hq : (fun (r : Option kV) (g : kH) => r = some (kI t.1) ∧ g = hH t.2) (some (kI t.1)) (hH t.2) := ⟨rfl, rfl⟩
  refine kw_step rfl rfl rfl rfl ?_
  refine kw_if_ge rfl rfl (fun c1 => ?_) (fun c1 => ?_)
  · have hf := gift c1 hf
    refine kw_step rfl rfl rfl rfl ?_
    refine kw_get rfl (hH_O (rfl : kotab 0 = some kKo)) rfl ?_
    refine kw_get rfl (hH_O (tS_0 (b := 3) rfl)) rfl ?_
    refine kw_step (L' := [some (kr 0), some (kI x1), some (kI (s 3 3))]) rfl rfl rfl rfl ?_
    refine kw_step rfl rfl rfl rfl ?_
    refine kw_get rfl (hH_O (rfl : kotab 0 = some kKo)) rfl ?_
    refine kw_step rfl rfl rfl rfl ?_
    obtain ⟨s2, ee3, hf⟩ := gbL hf
    refine kw_putH rfl (tS_0 (b := 3) rfl) rfl rfl rfl (Nat.le_of_ble_eq_true rfl) rfl ee3 ?_
    refine kw_step rfl rfl rfl rfl ?_
    cases hf
    exact kw_ret rfl rfl rfl hq
  · have hf := giff c1 hf
    refine kw_step rfl rfl rfl rfl ?_
    cases hf
    exact kw_ret rfl rfl rfl hq
def f_KT_drawnAfter (x0 : Int) (s : kM) : Option (Int) :=
  some (wI (klnd (wL ((wL (x0 * 1103515245)) + 12345)) 2147483647))
set_option maxRecDepth 8000 in
theorem c_KT_drawnAfter {sc : List Int} (x0 : Int) (s : kM) (t : Int) (hf : f_KT_drawnAfter x0 s = some t) : kR sc 0 km_KT_drawnAfter [kI x0] (hH s) (some (kI t)) (hH s) := by
  unfold f_KT_drawnAfter at hf
  refine kR.start rfl ?_
  show kW sc 0 kc_KT_drawnAfter 1 0 [some (kI x0)] [] (hH s) _
  have hq : (fun (r : Option kV) (g : kH) => r = some (kI t) ∧ g = hH s) (some (kI t)) (hH s) := ⟨rfl, rfl⟩
  refine kw_step rfl rfl rfl rfl ?_
  refine kw_step rfl rfl rfl rfl ?_
  refine kw_step rfl rfl rfl rfl ?_
  refine kw_step rfl rfl rfl rfl ?_
  refine kw_step rfl rfl rfl rfl ?_
  refine kw_step rfl rfl rfl rfl ?_
  refine kw_step rfl rfl rfl rfl ?_
  refine kw_step rfl rfl rfl rfl ?_
  refine kw_step rfl rfl rfl rfl ?_
  cases hf
  exact kw_ret rfl rfl rfl hq
def f_Town_getsAlong_40 (b0 : Nat) (x2 : Int) (x4 : Int) (s : kM) : Option (Int) :=
  if x4 = x2 then (some 1) else (some 0)
set_option maxRecDepth 8000 in
theorem b_Town_getsAlong_40 {sc : List Int} {Q : Option kV → kH → Prop} (b0 : Nat) (hb0 : tT b0 = true) (x2 : Int) (x4 : Int) (s : kM) (t : Int) (hf : f_Town_getsAlong_40 b0 x2 x4 s = some t) (hq : (fun r => Q (some (kI r)) (hH s)) t) : kW sc 0 kc_Town_getsAlong 2 40 [none, none, some (kI x2), none, some (kI x4), none, none] [] (hH s) Q := by
  unfold f_Town_getsAlong_40 at hf
  refine kw_step rfl rfl rfl rfl ?_
  refine kw_step rfl rfl rfl rfl ?_
  refine kw_icmp_ne rfl rfl (fun c1 => ?_) (fun c1 => ?_)
  · have hf := giff c1 hf
    refine kw_step rfl rfl rfl rfl ?_
    cases hf
    exact kw_ret rfl rfl rfl hq
  · have hf := gift c1 hf
    refine kw_step rfl rfl rfl rfl ?_
    refine kw_goto rfl rfl ?_
    cases hf
    exact kw_ret rfl rfl rfl hq
def f_Town_getsAlong_33 (b0 : Nat) (x2 : Int) (x3 : Int) (x4 : Int) (x5 : Int) (s : kM) : Option ((Int × Int) ⊕ (Int)) :=
  (gI 22 x4).bind fun j1 => some (.inl ((s (b0 + 3) j1), (wI (x5 + 1))))
set_option maxRecDepth 8000 in
theorem b_Town_getsAlong_33 {sc : List Int} {Q : Option kV → kH → Prop} (b0 : Nat) (hb0 : tT b0 = true) (x2 : Int) (x3 : Int) (x4 : Int) (x5 : Int) (s : kM) (t : (Int × Int) ⊕ (Int)) (hf : f_Town_getsAlong_33 b0 x2 x3 x4 x5 s = some t) (hq : (gE (fun x => kW sc 0 kc_Town_getsAlong 2 4 [some (kr b0), none, some (kI x2), some (kI x3), some (kI x.1), some (kI x.2), none] [] (hH s) Q) (fun r => Q (some (kI r)) (hH s))) t) : kW sc 0 kc_Town_getsAlong 2 33 [some (kr b0), none, some (kI x2), some (kI x3), some (kI x4), some (kI x5), none] [] (hH s) Q := by
  unfold f_Town_getsAlong_33 at hf
  refine kw_step rfl rfl rfl rfl ?_
  refine kw_get rfl (hH_O (tT_0 hb0)) rfl ?_
  refine kw_step rfl rfl rfl rfl ?_
  obtain ⟨j1, i2, hf⟩ := gbI hf
  refine kw_iald rfl (hH_A (tT_3 hb0)) i2.1 i2.2.1 i2.2.2 ?_
  refine kw_step (L' := [some (kr b0), none, some (kI x2), some (kI x3), some (kI (s (b0 + 3) j1)), some (kI x5), none]) rfl rfl rfl rfl ?_
  refine kw_step (L' := [some (kr b0), none, some (kI x2), some (kI x3), some (kI (s (b0 + 3) j1)), some (kI (wI (x5 + 1))), none]) rfl rfl rfl rfl ?_
  refine kw_goto rfl rfl ?_
  cases hf
  exact kW_le (L' := [some (kr b0), none, some (kI x2), some (kI x3), some (kI (s (b0 + 3) j1)), some (kI (wI (x5 + 1))), none]) ⟨Or.inr rfl, Or.inl rfl, Or.inr rfl, Or.inr rfl, Or.inr rfl, Or.inr rfl, Or.inl rfl, trivial⟩ hq
def f_Town_getsAlong_4b (b0 : Nat) (x2 : Int) (x3 : Int) (x4 : Int) (x5 : Int) (s : kM) : Option ((Int × Int) ⊕ (Int)) :=
  if 22 ≤ x5 then ((f_Town_getsAlong_40 b0 x2 x4 s).map Sum.inr) else (if x4 = x2 then ((f_Town_getsAlong_40 b0 x2 x4 s).map Sum.inr) else ((gI 22 x4).bind fun j7 => (gI 22 (s (b0 + 3) j7)).bind fun j9 => if (kand (s (b0 + 1) j9) 1) = 0 then (if (kand (kshr x3 (kshr (s (b0 + 1) j9) 1)) 1) = 1 then (some (.inr 0)) else (f_Town_getsAlong_33 b0 x2 x3 x4 x5 s)) else (f_Town_getsAlong_33 b0 x2 x3 x4 x5 s)))
set_option maxRecDepth 8000 in
theorem b_Town_getsAlong_4b {sc : List Int} {Q : Option kV → kH → Prop} (b0 : Nat) (hb0 : tT b0 = true) (x2 : Int) (x3 : Int) (x4 : Int) (x5 : Int) (s : kM) (t : (Int × Int) ⊕ (Int)) (hf : f_Town_getsAlong_4b b0 x2 x3 x4 x5 s = some t) (hq : (gE (fun x => kW sc 0 kc_Town_getsAlong 2 4 [some (kr b0), none, some (kI x2), some (kI x3), some (kI x.1), some (kI x.2), none] [] (hH s) Q) (fun r => Q (some (kI r)) (hH s))) t) : kW sc 0 kc_Town_getsAlong 2 4 [some (kr b0), none, some (kI x2), some (kI x3), some (kI x4), some (kI x5), none] [] (hH s) Q := by
  unfold f_Town_getsAlong_4b at hf
  refine kw_step rfl rfl rfl rfl ?_
  refine kw_step rfl rfl rfl rfl ?_
  refine kw_icmp_ge rfl rfl (fun c1 => ?_) (fun c1 => ?_)
  · have hf := gift c1 hf
    obtain ⟨t2, hg3, rfl⟩ := gmap hf
    exact kW_le (L' := [none, none, some (kI x2), none, some (kI x4), none, none]) ⟨Or.inl rfl, Or.inl rfl, Or.inr rfl, Or.inl rfl, Or.inr rfl, Or.inl rfl, Or.inl rfl, trivial⟩ (b_Town_getsAlong_40 b0 hb0 x2 x4 s _ hg3 hq)
  · have hf := giff c1 hf
    refine kw_step rfl rfl rfl rfl ?_
    refine kw_step rfl rfl rfl rfl ?_
    refine kw_icmp_eq rfl rfl (fun c4 => ?_) (fun c4 => ?_)
    · have hf := gift c4 hf
      obtain ⟨t5, hg6, rfl⟩ := gmap hf
      exact kW_le (L' := [none, none, some (kI x2), none, some (kI x4), none, none]) ⟨Or.inl rfl, Or.inl rfl, Or.inr rfl, Or.inl rfl, Or.inr rfl, Or.inl rfl, Or.inl rfl, trivial⟩ (b_Town_getsAlong_40 b0 hb0 x2 x4 s _ hg6 hq)
    · have hf := giff c4 hf
      refine kw_step rfl rfl rfl rfl ?_
      refine kw_get rfl (hH_O (tT_0 hb0)) rfl ?_
      refine kw_step rfl rfl rfl rfl ?_
      refine kw_get rfl (hH_O (tT_0 hb0)) rfl ?_
      refine kw_step rfl rfl rfl rfl ?_
      obtain ⟨j7, i8, hf⟩ := gbI hf
      refine kw_iald rfl (hH_A (tT_3 hb0)) i8.1 i8.2.1 i8.2.2 ?_
      obtain ⟨j9, i10, hf⟩ := gbI hf
      refine kw_iald rfl (hH_A (tT_1 hb0)) i10.1 i10.2.1 i10.2.2 ?_
      refine kw_step (L' := [some (kr b0), none, some (kI x2), some (kI x3), some (kI x4), some (kI x5), some (kI (s (b0 + 1) j9))]) rfl rfl rfl rfl ?_
      refine kw_step rfl rfl rfl rfl ?_
      refine kw_step rfl rfl rfl rfl ?_
      refine kw_step rfl rfl rfl rfl ?_
      refine kw_if_ne rfl rfl (fun c11 => ?_) (fun c11 => ?_)
      · have hf := giff c11 hf
        exact kW_le (L' := [some (kr b0), none, some (kI x2), some (kI x3), some (kI x4), some (kI x5), none]) ⟨Or.inr rfl, Or.inl rfl, Or.inr rfl, Or.inr rfl, Or.inr rfl, Or.inr rfl, Or.inl rfl, trivial⟩ (b_Town_getsAlong_33 b0 hb0 x2 x3 x4 x5 s _ hf hq)
      · have hf := gift c11 hf
        refine kw_step rfl rfl rfl rfl ?_
        refine kw_step rfl rfl rfl rfl ?_
        refine kw_step rfl rfl rfl rfl ?_
        refine kw_step rfl rfl rfl rfl ?_
        refine kw_step rfl rfl rfl rfl ?_
        refine kw_step rfl rfl rfl rfl ?_
        refine kw_step rfl rfl rfl rfl ?_
        refine kw_step rfl rfl rfl rfl ?_
        refine kw_icmp_ne rfl rfl (fun c12 => ?_) (fun c12 => ?_)
        · have hf := giff c12 hf
          exact kW_le (L' := [some (kr b0), none, some (kI x2), some (kI x3), some (kI x4), some (kI x5), none]) ⟨Or.inr rfl, Or.inl rfl, Or.inr rfl, Or.inr rfl, Or.inr rfl, Or.inr rfl, Or.inl rfl, trivial⟩ (b_Town_getsAlong_33 b0 hb0 x2 x3 x4 x5 s _ hf hq)
        · have hf := gift c12 hf
          refine kw_step rfl rfl rfl rfl ?_
          cases hf
          exact kw_ret rfl rfl rfl hq
def f_Town_getsAlong_4 (b0 : Nat) (x2 : Int) (x3 : Int) (x4 : Int) (x5 : Int) (s : kM) : Option (Int) :=
  gL (fun (x : Int × Int) => f_Town_getsAlong_4b b0 x2 x3 x.1 x.2 s) gF (x4, x5)
theorem b_Town_getsAlong_4 {sc : List Int} {Q : Option kV → kH → Prop} (b0 : Nat) (hb0 : tT b0 = true) (x2 : Int) (x3 : Int) (x4 : Int) (x5 : Int) (s : kM) (t : Int) (hf : f_Town_getsAlong_4 b0 x2 x3 x4 x5 s = some t) (hq : (fun r => Q (some (kI r)) (hH s)) t) : kW sc 0 kc_Town_getsAlong 2 4 [some (kr b0), none, some (kI x2), some (kI x3), some (kI x4), some (kI x5), none] [] (hH s) Q :=
  gL_ind (P := fun (x : Int × Int) => kW sc 0 kc_Town_getsAlong 2 4 [some (kr b0), none, some (kI x2), some (kI x3), some (kI x.1), some (kI x.2), none] [] (hH s) Q) (q := (fun r => Q (some (kI r)) (hH s))) (fun x t hf hq => b_Town_getsAlong_4b b0 hb0 x2 x3 x.1 x.2 s t hf hq) gF (x4, x5) t hf hq
def f_Town_getsAlong (b0 : Nat) (x1 : Int) (x2 : Int) (x3 : Int) (s : kM) : Option (Int) :=
  f_Town_getsAlong_4 b0 x2 x3 x1 0 s
set_option maxRecDepth 8000 in
theorem c_Town_getsAlong {sc : List Int} (b0 : Nat) (hb0 : tT b0 = true) (x1 : Int) (x2 : Int) (x3 : Int) (s : kM) (t : Int) (hf : f_Town_getsAlong b0 x1 x2 x3 s = some t) : kR sc 0 km_Town_getsAlong [kr b0, kI x1, kI x2, kI x3] (hH s) (some (kI t)) (hH s) := by
  unfold f_Town_getsAlong at hf
  refine kR.start rfl ?_
  show kW sc 0 kc_Town_getsAlong 2 0 [some (kr b0), some (kI x1), some (kI x2), some (kI x3), none, none, none] [] (hH s) _
  have hq : (fun (r : Option kV) (g : kH) => r = some (kI t) ∧ g = hH s) (some (kI t)) (hH s) := ⟨rfl, rfl⟩
  refine kw_step rfl rfl rfl rfl ?_
  refine kw_step (L' := [some (kr b0), some (kI x1), some (kI x2), some (kI x3), some (kI x1), none, none]) rfl rfl rfl rfl ?_
  refine kw_step rfl rfl rfl rfl ?_
  refine kw_step (L' := [some (kr b0), some (kI x1), some (kI x2), some (kI x3), some (kI x1), some (kI 0), none]) rfl rfl rfl rfl ?_
  exact kW_le (L' := [some (kr b0), none, some (kI x2), some (kI x3), some (kI x1), some (kI 0), none]) ⟨Or.inr rfl, Or.inl rfl, Or.inr rfl, Or.inr rfl, Or.inr rfl, Or.inr rfl, Or.inl rfl, trivial⟩ (b_Town_getsAlong_4 b0 hb0 x2 x3 x1 0 s _ hf hq)
def f_KT_floods_92 (x1 : Int) (x2 : Int) (x3 : Int) (x4 : Int) (x6 : Int) (x8 : Int) (y0 : Int) (y1 : Int) (s : kM) : Option ((Int × Int × Int) ⊕ (Int)) :=
  some (.inl (x6, (wI (y0 + y1)), (wI (x8 + 1))))
set_option maxRecDepth 8000 in
theorem b_KT_floods_92 {sc : List Int} {Q : Option kV → kH → Prop} (x1 : Int) (x2 : Int) (x3 : Int) (x4 : Int) (x6 : Int) (x8 : Int) (y0 : Int) (y1 : Int) (s : kM) (t : (Int × Int × Int) ⊕ (Int)) (hf : f_KT_floods_92 x1 x2 x3 x4 x6 x8 y0 y1 s = some t) (hq : (gE (fun x => kW sc 1 kc_KT_floods 1 42 [none, some (kI x1), some (kI x2), some (kI x3), some (kI x4), some (kr 4), some (kI x.1), some (kI x.2.1), some (kI x.2.2), none, none] [] (hH s) Q) (fun r => Q (some (kI r)) (hH s))) t) : kW sc 1 kc_KT_floods 1 92 [none, some (kI x1), some (kI x2), some (kI x3), some (kI x4), some (kr 4), some (kI x6), none, some (kI x8), none, none] [kI y1, kI y0] (hH s) Q := by
  unfold f_KT_floods_92 at hf
  refine kw_step rfl rfl rfl rfl ?_
  refine kw_step (L' := [none, some (kI x1), some (kI x2), some (kI x3), some (kI x4), some (kr 4), some (kI x6), some (kI (wI (y0 + y1))), some (kI x8), none, none]) rfl rfl rfl rfl ?_
  refine kw_step (L' := [none, some (kI x1), some (kI x2), some (kI x3), some (kI x4), some (kr 4), some (kI x6), some (kI (wI (y0 + y1))), some (kI (wI (x8 + 1))), none, none]) rfl rfl rfl rfl ?_
  refine kw_goto rfl rfl ?_
  cases hf
  exact kW_le (L' := [none, some (kI x1), some (kI x2), some (kI x3), some (kI x4), some (kr 4), some (kI x6), some (kI (wI (y0 + y1))), some (kI (wI (x8 + 1))), none, none]) ⟨Or.inl rfl, Or.inr rfl, Or.inr rfl, Or.inr rfl, Or.inr rfl, Or.inr rfl, Or.inr rfl, Or.inr rfl, Or.inr rfl, Or.inl rfl, Or.inl rfl, trivial⟩ hq
def f_KT_floods_89 (x1 : Int) (x2 : Int) (x3 : Int) (x4 : Int) (x6 : Int) (x8 : Int) (y0 : Int) (s : kM) : Option ((Int × Int × Int) ⊕ (Int)) :=
  f_KT_floods_92 x1 x2 x3 x4 x6 x8 y0 1 s
set_option maxRecDepth 8000 in
theorem b_KT_floods_89 {sc : List Int} {Q : Option kV → kH → Prop} (x1 : Int) (x2 : Int) (x3 : Int) (x4 : Int) (x6 : Int) (x8 : Int) (y0 : Int) (s : kM) (t : (Int × Int × Int) ⊕ (Int)) (hf : f_KT_floods_89 x1 x2 x3 x4 x6 x8 y0 s = some t) (hq : (gE (fun x => kW sc 1 kc_KT_floods 1 42 [none, some (kI x1), some (kI x2), some (kI x3), some (kI x4), some (kr 4), some (kI x.1), some (kI x.2.1), some (kI x.2.2), none, none] [] (hH s) Q) (fun r => Q (some (kI r)) (hH s))) t) : kW sc 1 kc_KT_floods 1 89 [none, some (kI x1), some (kI x2), some (kI x3), some (kI x4), some (kr 4), some (kI x6), none, some (kI x8), none, none] [kI y0] (hH s) Q := by
  unfold f_KT_floods_89 at hf
  refine kw_step rfl rfl rfl rfl ?_
  refine kw_goto rfl rfl ?_
  exact kW_le (L' := [none, some (kI x1), some (kI x2), some (kI x3), some (kI x4), some (kr 4), some (kI x6), none, some (kI x8), none, none]) ⟨Or.inl rfl, Or.inr rfl, Or.inr rfl, Or.inr rfl, Or.inr rfl, Or.inr rfl, Or.inr rfl, Or.inl rfl, Or.inr rfl, Or.inl rfl, Or.inl rfl, trivial⟩ (b_KT_floods_92 x1 x2 x3 x4 x6 x8 y0 1 s _ hf hq)
def f_KT_floods_74 (x1 : Int) (x2 : Int) (x3 : Int) (x4 : Int) (x6 : Int) (x7 : Int) (x8 : Int) (x9 : Int) (x10 : Int) (s : kM) : Option ((Int × Int × Int) ⊕ ((Int × Int × Int) ⊕ (Int))) :=
  some (.inl (x6, x9, (wI (x10 + 1))))
set_option maxRecDepth 8000 in
theorem b_KT_floods_74 {sc : List Int} {Q : Option kV → kH → Prop} (x1 : Int) (x2 : Int) (x3 : Int) (x4 : Int) (x6 : Int) (x7 : Int) (x8 : Int) (x9 : Int) (x10 : Int) (s : kM) (t : (Int × Int × Int) ⊕ ((Int × Int × Int) ⊕ (Int))) (hf : f_KT_floods_74 x1 x2 x3 x4 x6 x7 x8 x9 x10 s = some t) (hq : (gE (fun x => kW sc 1 kc_KT_floods 1 49 [none, some (kI x1), some (kI x2), some (kI x3), some (kI x4), some (kr 4), some (kI x.1), some (kI x7), some (kI x8), some (kI x.2.1), some (kI x.2.2)] [] (hH s) Q) (gE (fun x => kW sc 1 kc_KT_floods 1 42 [none, some (kI x1), some (kI x2), some (kI x3), some (kI x4), some (kr 4), some (kI x.1), some (kI x.2.1), some (kI x.2.2), none, none] [] (hH s) Q) (fun r => Q (some (kI r)) (hH s)))) t) : kW sc 1 kc_KT_floods 1 74 [none, some (kI x1), some (kI x2), some (kI x3), some (kI x4), some (kr 4), some (kI x6), some (kI x7), some (kI x8), some (kI x9), some (kI x10)] [] (hH s) Q := by
  unfold f_KT_floods_74 at hf
  refine kw_step (L' := [none, some (kI x1), some (kI x2), some (kI x3), some (kI x4), some (kr 4), some (kI x6), some (kI x7), some (kI x8), some (kI x9), some (kI (wI (x10 + 1)))]) rfl rfl rfl rfl ?_
  refine kw_goto rfl rfl ?_
  cases hf
  exact kW_le (L' := [none, some (kI x1), some (kI x2), some (kI x3), some (kI x4), some (kr 4), some (kI x6), some (kI x7), some (kI x8), some (kI x9), some (kI (wI (x10 + 1)))]) ⟨Or.inl rfl, Or.inr rfl, Or.inr rfl, Or.inr rfl, Or.inr rfl, Or.inr rfl, Or.inr rfl, Or.inr rfl, Or.inr rfl, Or.inr rfl, Or.inr rfl, trivial⟩ hq
def f_KT_floods_72 (x1 : Int) (x2 : Int) (x3 : Int) (x4 : Int) (x6 : Int) (x7 : Int) (x8 : Int) (x10 : Int) (y0 : Int) (y1 : Int) (s : kM) : Option ((Int × Int × Int) ⊕ ((Int × Int × Int) ⊕ (Int))) :=
  f_KT_floods_74 x1 x2 x3 x4 x6 x7 x8 (kor y0 y1) x10 s
set_option maxRecDepth 8000 in
theorem b_KT_floods_72 {sc : List Int} {Q : Option kV → kH → Prop} (x1 : Int) (x2 : Int) (x3 : Int) (x4 : Int) (x6 : Int) (x7 : Int) (x8 : Int) (x10 : Int) (y0 : Int) (y1 : Int) (s : kM) (t : (Int × Int × Int) ⊕ ((Int × Int × Int) ⊕ (Int))) (hf : f_KT_floods_72 x1 x2 x3 x4 x6 x7 x8 x10 y0 y1 s = some t) (hq : (gE (fun x => kW sc 1 kc_KT_floods 1 49 [none, some (kI x1), some (kI x2), some (kI x3), some (kI x4), some (kr 4), some (kI x.1), some (kI x7), some (kI x8), some (kI x.2.1), some (kI x.2.2)] [] (hH s) Q) (gE (fun x => kW sc 1 kc_KT_floods 1 42 [none, some (kI x1), some (kI x2), some (kI x3), some (kI x4), some (kr 4), some (kI x.1), some (kI x.2.1), some (kI x.2.2), none, none] [] (hH s) Q) (fun r => Q (some (kI r)) (hH s)))) t) : kW sc 1 kc_KT_floods 1 72 [none, some (kI x1), some (kI x2), some (kI x3), some (kI x4), some (kr 4), some (kI x6), some (kI x7), some (kI x8), none, some (kI x10)] [kI y1, kI y0] (hH s) Q := by
  unfold f_KT_floods_72 at hf
  refine kw_step rfl rfl rfl rfl ?_
  refine kw_step (L' := [none, some (kI x1), some (kI x2), some (kI x3), some (kI x4), some (kr 4), some (kI x6), some (kI x7), some (kI x8), some (kI (kor y0 y1)), some (kI x10)]) rfl rfl rfl rfl ?_
  exact kW_le (L' := [none, some (kI x1), some (kI x2), some (kI x3), some (kI x4), some (kr 4), some (kI x6), some (kI x7), some (kI x8), some (kI (kor y0 y1)), some (kI x10)]) ⟨Or.inl rfl, Or.inr rfl, Or.inr rfl, Or.inr rfl, Or.inr rfl, Or.inr rfl, Or.inr rfl, Or.inr rfl, Or.inr rfl, Or.inr rfl, Or.inr rfl, trivial⟩ (b_KT_floods_74 x1 x2 x3 x4 x6 x7 x8 (kor y0 y1) x10 s _ hf hq)
def f_KT_floods_49b (x1 : Int) (x2 : Int) (x3 : Int) (x4 : Int) (x6 : Int) (x7 : Int) (x8 : Int) (x9 : Int) (x10 : Int) (s : kM) : Option ((Int × Int × Int) ⊕ ((Int × Int × Int) ⊕ (Int))) :=
  if 11 ≤ x10 then ((f_Town_getsAlong 4 x3 x4 x9 s).bind fun q2 => if q2 = 0 then ((f_Town_getsAlong 4 x4 x3 x9 s).bind fun q6 => if q6 = 0 then ((f_KT_floods_92 x1 x2 x3 x4 x6 x8 x7 0 s).map Sum.inr) else ((f_KT_floods_89 x1 x2 x3 x4 x6 x8 x7 s).map Sum.inr)) else ((f_KT_floods_89 x1 x2 x3 x4 x6 x8 x7 s).map Sum.inr)) else ((f_Town_has 4 x10 s).bind fun q12 => if q12 = 0 then (f_KT_floods_74 x1 x2 x3 x4 x6 x7 x8 x9 x10 s) else ((f_KT_drawnAfter x6 s).bind fun q14 => if x2 ≤ (krem (kdiv q14 65536) 100) then (f_KT_floods_72 x1 x2 x3 x4 q14 x7 x8 x10 x9 0 s) else (f_KT_floods_72 x1 x2 x3 x4 q14 x7 x8 x10 x9 (kshl 1 x10) s)))
set_option maxRecDepth 8000 in
theorem b_KT_floods_49b {sc : List Int} {Q : Option kV → kH → Prop} (x1 : Int) (x2 : Int) (x3 : Int) (x4 : Int) (x6 : Int) (x7 : Int) (x8 : Int) (x9 : Int) (x10 : Int) (s : kM) (t : (Int × Int × Int) ⊕ ((Int × Int × Int) ⊕ (Int))) (hf : f_KT_floods_49b x1 x2 x3 x4 x6 x7 x8 x9 x10 s = some t) (hq : (gE (fun x => kW sc 1 kc_KT_floods 1 49 [none, some (kI x1), some (kI x2), some (kI x3), some (kI x4), some (kr 4), some (kI x.1), some (kI x7), some (kI x8), some (kI x.2.1), some (kI x.2.2)] [] (hH s) Q) (gE (fun x => kW sc 1 kc_KT_floods 1 42 [none, some (kI x1), some (kI x2), some (kI x3), some (kI x4), some (kr 4), some (kI x.1), some (kI x.2.1), some (kI x.2.2), none, none] [] (hH s) Q) (fun r => Q (some (kI r)) (hH s)))) t) : kW sc 1 kc_KT_floods 1 49 [none, some (kI x1), some (kI x2), some (kI x3), some (kI x4), some (kr 4), some (kI x6), some (kI x7), some (kI x8), some (kI x9), some (kI x10)] [] (hH s) Q := by
  unfold f_KT_floods_49b at hf
  refine kw_step rfl rfl rfl rfl ?_
  refine kw_step rfl rfl rfl rfl ?_
  refine kw_icmp_ge rfl rfl (fun c1 => ?_) (fun c1 => ?_)
  · have hf := gift c1 hf
    refine kw_step rfl rfl rfl rfl ?_
    refine kw_step rfl rfl rfl rfl ?_
    refine kw_step rfl rfl rfl rfl ?_
    refine kw_step rfl rfl rfl rfl ?_
    refine kw_step rfl rfl rfl rfl ?_
    obtain ⟨q2, hq2, hf⟩ := gbind hf
    refine kw_callV (vs := [kI x3, kI x4, kI x9]) rfl rfl rfl ⟨rfl, Nat.le_of_ble_eq_true rfl, Nat.le_of_ble_eq_true rfl, by decide⟩ (hH_O (tT_0 (b := 4) rfl)) (c_Town_getsAlong 4 (rfl : tT 4 = true) x3 x4 x9 s _ hq2) (Nat.le_of_ble_eq_true rfl) ?_
    refine kw_if_ne rfl rfl (fun c3 => ?_) (fun c3 => ?_)
    · have hf := giff c3 hf
      obtain ⟨t4, hg5, rfl⟩ := gmap hf
      exact kW_le (L' := [none, some (kI x1), some (kI x2), some (kI x3), some (kI x4), some (kr 4), some (kI x6), none, some (kI x8), none, none]) ⟨Or.inl rfl, Or.inr rfl, Or.inr rfl, Or.inr rfl, Or.inr rfl, Or.inr rfl, Or.inr rfl, Or.inl rfl, Or.inr rfl, Or.inl rfl, Or.inl rfl, trivial⟩ (b_KT_floods_89 x1 x2 x3 x4 x6 x8 x7 s _ hg5 hq)
    · have hf := gift c3 hf
      refine kw_step rfl rfl rfl rfl ?_
      refine kw_step rfl rfl rfl rfl ?_
      refine kw_step rfl rfl rfl rfl ?_
      refine kw_step rfl rfl rfl rfl ?_
      obtain ⟨q6, hq6, hf⟩ := gbind hf
      refine kw_callV (vs := [kI x4, kI x3, kI x9]) rfl rfl rfl ⟨rfl, Nat.le_of_ble_eq_true rfl, Nat.le_of_ble_eq_true rfl, by decide⟩ (hH_O (tT_0 (b := 4) rfl)) (c_Town_getsAlong 4 (rfl : tT 4 = true) x4 x3 x9 s _ hq6) (Nat.le_of_ble_eq_true rfl) ?_
      refine kw_if_eq rfl rfl (fun c7 => ?_) (fun c7 => ?_)
      · have hf := gift c7 hf
        refine kw_step rfl rfl rfl rfl ?_
        obtain ⟨t8, hg9, rfl⟩ := gmap hf
        exact kW_le (L' := [none, some (kI x1), some (kI x2), some (kI x3), some (kI x4), some (kr 4), some (kI x6), none, some (kI x8), none, none]) ⟨Or.inl rfl, Or.inr rfl, Or.inr rfl, Or.inr rfl, Or.inr rfl, Or.inr rfl, Or.inr rfl, Or.inl rfl, Or.inr rfl, Or.inl rfl, Or.inl rfl, trivial⟩ (b_KT_floods_92 x1 x2 x3 x4 x6 x8 x7 0 s _ hg9 hq)
      · have hf := giff c7 hf
        obtain ⟨t10, hg11, rfl⟩ := gmap hf
        exact kW_le (L' := [none, some (kI x1), some (kI x2), some (kI x3), some (kI x4), some (kr 4), some (kI x6), none, some (kI x8), none, none]) ⟨Or.inl rfl, Or.inr rfl, Or.inr rfl, Or.inr rfl, Or.inr rfl, Or.inr rfl, Or.inr rfl, Or.inl rfl, Or.inr rfl, Or.inl rfl, Or.inl rfl, trivial⟩ (b_KT_floods_89 x1 x2 x3 x4 x6 x8 x7 s _ hg11 hq)
  · have hf := giff c1 hf
    refine kw_step rfl rfl rfl rfl ?_
    refine kw_step rfl rfl rfl rfl ?_
    obtain ⟨q12, hq12, hf⟩ := gbind hf
    refine kw_callV (vs := [kI x10]) rfl rfl rfl ⟨rfl, Nat.le_of_ble_eq_true rfl, Nat.le_of_ble_eq_true rfl, by decide⟩ (hH_O (tT_0 (b := 4) rfl)) (c_Town_has 4 (rfl : tT 4 = true) x10 s _ hq12) (Nat.le_of_ble_eq_true rfl) ?_
    refine kw_if_eq rfl rfl (fun c13 => ?_) (fun c13 => ?_)
    · have hf := gift c13 hf
      exact kW_le (L' := [none, some (kI x1), some (kI x2), some (kI x3), some (kI x4), some (kr 4), some (kI x6), some (kI x7), some (kI x8), some (kI x9), some (kI x10)]) ⟨Or.inl rfl, Or.inr rfl, Or.inr rfl, Or.inr rfl, Or.inr rfl, Or.inr rfl, Or.inr rfl, Or.inr rfl, Or.inr rfl, Or.inr rfl, Or.inr rfl, trivial⟩ (b_KT_floods_74 x1 x2 x3 x4 x6 x7 x8 x9 x10 s _ hf hq)
    · have hf := giff c13 hf
      refine kw_step rfl rfl rfl rfl ?_
      obtain ⟨q14, hq14, hf⟩ := gbind hf
      refine kw_callS (vs := [kI x6]) rfl rfl rfl ⟨rfl, Nat.le_of_ble_eq_true rfl, Nat.le_of_ble_eq_true rfl, rfl⟩ (c_KT_drawnAfter x6 s _ hq14) (Nat.le_of_ble_eq_true rfl) ?_
      refine kw_step (L' := [none, some (kI x1), some (kI x2), some (kI x3), some (kI x4), some (kr 4), some (kI q14), some (kI x7), some (kI x8), some (kI x9), some (kI x10)]) rfl rfl rfl rfl ?_
      refine kw_step rfl rfl rfl rfl ?_
      refine kw_step rfl rfl rfl rfl ?_
      refine kw_step rfl rfl rfl rfl ?_
      refine kw_idiv rfl (by decide) ?_
      refine kw_step rfl rfl rfl rfl ?_
      refine kw_irem rfl (by decide) ?_
      refine kw_step rfl rfl rfl rfl ?_
      refine kw_icmp_ge rfl rfl (fun c15 => ?_) (fun c15 => ?_)
      · have hf := gift c15 hf
        refine kw_step rfl rfl rfl rfl ?_
        exact kW_le (L' := [none, some (kI x1), some (kI x2), some (kI x3), some (kI x4), some (kr 4), some (kI q14), some (kI x7), some (kI x8), none, some (kI x10)]) ⟨Or.inl rfl, Or.inr rfl, Or.inr rfl, Or.inr rfl, Or.inr rfl, Or.inr rfl, Or.inr rfl, Or.inr rfl, Or.inr rfl, Or.inl rfl, Or.inr rfl, trivial⟩ (b_KT_floods_72 x1 x2 x3 x4 q14 x7 x8 x10 x9 0 s _ hf hq)
      · have hf := giff c15 hf
        refine kw_step rfl rfl rfl rfl ?_
        refine kw_step rfl rfl rfl rfl ?_
        refine kw_step rfl rfl rfl rfl ?_
        refine kw_goto rfl rfl ?_
        exact kW_le (L' := [none, some (kI x1), some (kI x2), some (kI x3), some (kI x4), some (kr 4), some (kI q14), some (kI x7), some (kI x8), none, some (kI x10)]) ⟨Or.inl rfl, Or.inr rfl, Or.inr rfl, Or.inr rfl, Or.inr rfl, Or.inr rfl, Or.inr rfl, Or.inr rfl, Or.inr rfl, Or.inl rfl, Or.inr rfl, trivial⟩ (b_KT_floods_72 x1 x2 x3 x4 q14 x7 x8 x10 x9 (kshl 1 x10) s _ hf hq)
def f_KT_floods_49 (x1 : Int) (x2 : Int) (x3 : Int) (x4 : Int) (x6 : Int) (x7 : Int) (x8 : Int) (x9 : Int) (x10 : Int) (s : kM) : Option ((Int × Int × Int) ⊕ (Int)) :=
  gL (fun (x : Int × Int × Int) => f_KT_floods_49b x1 x2 x3 x4 x.1 x7 x8 x.2.1 x.2.2 s) gF (x6, x9, x10)
theorem b_KT_floods_49 {sc : List Int} {Q : Option kV → kH → Prop} (x1 : Int) (x2 : Int) (x3 : Int) (x4 : Int) (x6 : Int) (x7 : Int) (x8 : Int) (x9 : Int) (x10 : Int) (s : kM) (t : (Int × Int × Int) ⊕ (Int)) (hf : f_KT_floods_49 x1 x2 x3 x4 x6 x7 x8 x9 x10 s = some t) (hq : (gE (fun x => kW sc 1 kc_KT_floods 1 42 [none, some (kI x1), some (kI x2), some (kI x3), some (kI x4), some (kr 4), some (kI x.1), some (kI x.2.1), some (kI x.2.2), none, none] [] (hH s) Q) (fun r => Q (some (kI r)) (hH s))) t) : kW sc 1 kc_KT_floods 1 49 [none, some (kI x1), some (kI x2), some (kI x3), some (kI x4), some (kr 4), some (kI x6), some (kI x7), some (kI x8), some (kI x9), some (kI x10)] [] (hH s) Q :=
  gL_ind (P := fun (x : Int × Int × Int) => kW sc 1 kc_KT_floods 1 49 [none, some (kI x1), some (kI x2), some (kI x3), some (kI x4), some (kr 4), some (kI x.1), some (kI x7), some (kI x8), some (kI x.2.1), some (kI x.2.2)] [] (hH s) Q) (q := (gE (fun x => kW sc 1 kc_KT_floods 1 42 [none, some (kI x1), some (kI x2), some (kI x3), some (kI x4), some (kr 4), some (kI x.1), some (kI x.2.1), some (kI x.2.2), none, none] [] (hH s) Q) (fun r => Q (some (kI r)) (hH s)))) (fun x t hf hq => b_KT_floods_49b x1 x2 x3 x4 x.1 x7 x8 x.2.1 x.2.2 s t hf hq) gF (x6, x9, x10) t hf hq
def f_KT_floods_42b (x1 : Int) (x2 : Int) (x3 : Int) (x4 : Int) (x6 : Int) (x7 : Int) (x8 : Int) (s : kM) : Option ((Int × Int × Int) ⊕ (Int)) :=
  if x1 ≤ x8 then (some (.inr x7)) else (f_KT_floods_49 x1 x2 x3 x4 x6 x7 x8 0 0 s)
set_option maxRecDepth 8000 in
theorem b_KT_floods_42b {sc : List Int} {Q : Option kV → kH → Prop} (x1 : Int) (x2 : Int) (x3 : Int) (x4 : Int) (x6 : Int) (x7 : Int) (x8 : Int) (s : kM) (t : (Int × Int × Int) ⊕ (Int)) (hf : f_KT_floods_42b x1 x2 x3 x4 x6 x7 x8 s = some t) (hq : (gE (fun x => kW sc 1 kc_KT_floods 1 42 [none, some (kI x1), some (kI x2), some (kI x3), some (kI x4), some (kr 4), some (kI x.1), some (kI x.2.1), some (kI x.2.2), none, none] [] (hH s) Q) (fun r => Q (some (kI r)) (hH s))) t) : kW sc 1 kc_KT_floods 1 42 [none, some (kI x1), some (kI x2), some (kI x3), some (kI x4), some (kr 4), some (kI x6), some (kI x7), some (kI x8), none, none] [] (hH s) Q := by
  unfold f_KT_floods_42b at hf
  refine kw_step rfl rfl rfl rfl ?_
  refine kw_step rfl rfl rfl rfl ?_
  refine kw_icmp_ge rfl rfl (fun c1 => ?_) (fun c1 => ?_)
  · have hf := gift c1 hf
    refine kw_step rfl rfl rfl rfl ?_
    cases hf
    exact kw_ret rfl rfl rfl hq
  · have hf := giff c1 hf
    refine kw_step rfl rfl rfl rfl ?_
    refine kw_step (L' := [none, some (kI x1), some (kI x2), some (kI x3), some (kI x4), some (kr 4), some (kI x6), some (kI x7), some (kI x8), some (kI 0), none]) rfl rfl rfl rfl ?_
    refine kw_step rfl rfl rfl rfl ?_
    refine kw_step (L' := [none, some (kI x1), some (kI x2), some (kI x3), some (kI x4), some (kr 4), some (kI x6), some (kI x7), some (kI x8), some (kI 0), some (kI 0)]) rfl rfl rfl rfl ?_
    exact kW_le (L' := [none, some (kI x1), some (kI x2), some (kI x3), some (kI x4), some (kr 4), some (kI x6), some (kI x7), some (kI x8), some (kI 0), some (kI 0)]) ⟨Or.inl rfl, Or.inr rfl, Or.inr rfl, Or.inr rfl, Or.inr rfl, Or.inr rfl, Or.inr rfl, Or.inr rfl, Or.inr rfl, Or.inr rfl, Or.inr rfl, trivial⟩ (b_KT_floods_49 x1 x2 x3 x4 x6 x7 x8 0 0 s _ hf hq)
def f_KT_floods_42 (x1 : Int) (x2 : Int) (x3 : Int) (x4 : Int) (x6 : Int) (x7 : Int) (x8 : Int) (s : kM) : Option (Int) :=
  gL (fun (x : Int × Int × Int) => f_KT_floods_42b x1 x2 x3 x4 x.1 x.2.1 x.2.2 s) gF (x6, x7, x8)
theorem b_KT_floods_42 {sc : List Int} {Q : Option kV → kH → Prop} (x1 : Int) (x2 : Int) (x3 : Int) (x4 : Int) (x6 : Int) (x7 : Int) (x8 : Int) (s : kM) (t : Int) (hf : f_KT_floods_42 x1 x2 x3 x4 x6 x7 x8 s = some t) (hq : (fun r => Q (some (kI r)) (hH s)) t) : kW sc 1 kc_KT_floods 1 42 [none, some (kI x1), some (kI x2), some (kI x3), some (kI x4), some (kr 4), some (kI x6), some (kI x7), some (kI x8), none, none] [] (hH s) Q :=
  gL_ind (P := fun (x : Int × Int × Int) => kW sc 1 kc_KT_floods 1 42 [none, some (kI x1), some (kI x2), some (kI x3), some (kI x4), some (kr 4), some (kI x.1), some (kI x.2.1), some (kI x.2.2), none, none] [] (hH s) Q) (q := (fun r => Q (some (kI r)) (hH s))) (fun x t hf hq => b_KT_floods_42b x1 x2 x3 x4 x.1 x.2.1 x.2.2 s t hf hq) gF (x6, x7, x8) t hf hq
def f_KT_floods (x1 : Int) (x2 : Int) (x3 : Int) (x4 : Int) (s : kM) : Option (Int) :=
  if x1 < 1 then (some (-1)) else (if 20 < x1 then (some (-1)) else (if x2 < 0 then (some (-1)) else (if 100 < x2 then (some (-1)) else ((f_Town_hasPlace 4 x3 s).bind fun q5 => if q5 = 0 then (some (-1)) else ((f_Town_hasPlace 4 x4 s).bind fun q7 => if q7 = 0 then (some (-1)) else ((f_Town_roadOf 4 x3 s).bind fun q9 => (f_Town_roadOf 4 x4 s).bind fun q10 => if q9 = q10 then (f_KT_floods_42 x1 x2 x3 x4 (s 3 3) 0 0 s) else (some (-1))))))))
set_option maxRecDepth 8000 in
theorem c_KT_floods {sc : List Int} (x1 : Int) (x2 : Int) (x3 : Int) (x4 : Int) (s : kM) (t : Int) (hf : f_KT_floods x1 x2 x3 x4 s = some t) : kR sc 1 km_KT_floods [kr 0, kI x1, kI x2, kI x3, kI x4] (hH s) (some (kI t)) (hH s) := by
  unfold f_KT_floods at hf
  refine kR.start rfl ?_
  show kW sc 1 kc_KT_floods 1 0 [some (kr 0), some (kI x1), some (kI x2), some (kI x3), some (kI x4), none, none, none, none, none, none] [] (hH s) _
  have hq : (fun (r : Option kV) (g : kH) => r = some (kI t) ∧ g = hH s) (some (kI t)) (hH s) := ⟨rfl, rfl⟩
  refine kw_step rfl rfl rfl rfl ?_
  refine kw_get rfl (hH_O (rfl : kotab 0 = some kKo)) rfl ?_
  refine kw_get rfl (hH_O (tS_0 (b := 3) rfl)) rfl ?_
  refine kw_step (L' := [some (kr 0), some (kI x1), some (kI x2), some (kI x3), some (kI x4), some (kr 4), none, none, none, none, none]) rfl rfl rfl rfl ?_
  refine kw_step rfl rfl rfl rfl ?_
  refine kw_step rfl rfl rfl rfl ?_
  refine kw_icmp_lt rfl rfl (fun c1 => ?_) (fun c1 => ?_)
  · have hf := gift c1 hf
    refine kw_step rfl rfl rfl rfl ?_
    cases hf
    exact kw_ret rfl rfl rfl hq
  · have hf := giff c1 hf
    refine kw_step rfl rfl rfl rfl ?_
    refine kw_step rfl rfl rfl rfl ?_
    refine kw_icmp_gt rfl rfl (fun c2 => ?_) (fun c2 => ?_)
    · have hf := gift c2 hf
      refine kw_step rfl rfl rfl rfl ?_
      cases hf
      exact kw_ret rfl rfl rfl hq
    · have hf := giff c2 hf
      refine kw_step rfl rfl rfl rfl ?_
      refine kw_if_lt rfl rfl (fun c3 => ?_) (fun c3 => ?_)
      · have hf := gift c3 hf
        refine kw_step rfl rfl rfl rfl ?_
        cases hf
        exact kw_ret rfl rfl rfl hq
      · have hf := giff c3 hf
        refine kw_step rfl rfl rfl rfl ?_
        refine kw_step rfl rfl rfl rfl ?_
        refine kw_icmp_gt rfl rfl (fun c4 => ?_) (fun c4 => ?_)
        · have hf := gift c4 hf
          refine kw_step rfl rfl rfl rfl ?_
          cases hf
          exact kw_ret rfl rfl rfl hq
        · have hf := giff c4 hf
          refine kw_step rfl rfl rfl rfl ?_
          refine kw_step rfl rfl rfl rfl ?_
          obtain ⟨q5, hq5, hf⟩ := gbind hf
          refine kw_callV (vs := [kI x3]) rfl rfl rfl ⟨rfl, Nat.le_of_ble_eq_true rfl, Nat.le_of_ble_eq_true rfl, by decide⟩ (hH_O (tT_0 (b := 4) rfl)) (c_Town_hasPlace 4 (rfl : tT 4 = true) x3 s _ hq5) (Nat.le_of_ble_eq_true rfl) ?_
          refine kw_if_eq rfl rfl (fun c6 => ?_) (fun c6 => ?_)
          · have hf := gift c6 hf
            refine kw_step rfl rfl rfl rfl ?_
            cases hf
            exact kw_ret rfl rfl rfl hq
          · have hf := giff c6 hf
            refine kw_step rfl rfl rfl rfl ?_
            refine kw_step rfl rfl rfl rfl ?_
            obtain ⟨q7, hq7, hf⟩ := gbind hf
            refine kw_callV (vs := [kI x4]) rfl rfl rfl ⟨rfl, Nat.le_of_ble_eq_true rfl, Nat.le_of_ble_eq_true rfl, by decide⟩ (hH_O (tT_0 (b := 4) rfl)) (c_Town_hasPlace 4 (rfl : tT 4 = true) x4 s _ hq7) (Nat.le_of_ble_eq_true rfl) ?_
            refine kw_if_ne rfl rfl (fun c8 => ?_) (fun c8 => ?_)
            · have hf := giff c8 hf
              refine kw_step rfl rfl rfl rfl ?_
              refine kw_step rfl rfl rfl rfl ?_
              obtain ⟨q9, hq9, hf⟩ := gbind hf
              refine kw_callV (vs := [kI x3]) rfl rfl rfl ⟨rfl, Nat.le_of_ble_eq_true rfl, Nat.le_of_ble_eq_true rfl, by decide⟩ (hH_O (tT_0 (b := 4) rfl)) (c_Town_roadOf 4 (rfl : tT 4 = true) x3 s _ hq9) (Nat.le_of_ble_eq_true rfl) ?_
              refine kw_step rfl rfl rfl rfl ?_
              refine kw_step rfl rfl rfl rfl ?_
              obtain ⟨q10, hq10, hf⟩ := gbind hf
              refine kw_callV (vs := [kI x4]) rfl rfl rfl ⟨rfl, Nat.le_of_ble_eq_true rfl, Nat.le_of_ble_eq_true rfl, by decide⟩ (hH_O (tT_0 (b := 4) rfl)) (c_Town_roadOf 4 (rfl : tT 4 = true) x4 s _ hq10) (Nat.le_of_ble_eq_true rfl) ?_
              refine kw_icmp_eq rfl rfl (fun c11 => ?_) (fun c11 => ?_)
              · have hf := gift c11 hf
                refine kw_step rfl rfl rfl rfl ?_
                refine kw_get rfl (hH_O (rfl : kotab 0 = some kKo)) rfl ?_
                refine kw_get rfl (hH_O (tS_0 (b := 3) rfl)) rfl ?_
                refine kw_step (L' := [some (kr 0), some (kI x1), some (kI x2), some (kI x3), some (kI x4), some (kr 4), some (kI (s 3 3)), none, none, none, none]) rfl rfl rfl rfl ?_
                refine kw_step rfl rfl rfl rfl ?_
                refine kw_step (L' := [some (kr 0), some (kI x1), some (kI x2), some (kI x3), some (kI x4), some (kr 4), some (kI (s 3 3)), some (kI 0), none, none, none]) rfl rfl rfl rfl ?_
                refine kw_step rfl rfl rfl rfl ?_
                refine kw_step (L' := [some (kr 0), some (kI x1), some (kI x2), some (kI x3), some (kI x4), some (kr 4), some (kI (s 3 3)), some (kI 0), some (kI 0), none, none]) rfl rfl rfl rfl ?_
                exact kW_le (L' := [none, some (kI x1), some (kI x2), some (kI x3), some (kI x4), some (kr 4), some (kI (s 3 3)), some (kI 0), some (kI 0), none, none]) ⟨Or.inl rfl, Or.inr rfl, Or.inr rfl, Or.inr rfl, Or.inr rfl, Or.inr rfl, Or.inr rfl, Or.inr rfl, Or.inr rfl, Or.inl rfl, Or.inl rfl, trivial⟩ (b_KT_floods_42 x1 x2 x3 x4 (s 3 3) 0 0 s _ hf hq)
              · have hf := giff c11 hf
                refine kw_step rfl rfl rfl rfl ?_
                cases hf
                exact kw_ret rfl rfl rfl hq
            · have hf := gift c8 hf
              refine kw_step rfl rfl rfl rfl ?_
              cases hf
              exact kw_ret rfl rfl rfl hq
def f_KT_count (x1 : Int) (s : kM) : Option (Int × kM) :=
  if x1 = 0 then (some ((s 4 0), s)) else if x1 = 1 then ((f_Town_bridges 4 s).bind fun q3 => some (q3, s)) else if x1 = 2 then (some ((s 4 2), s)) else if x1 = 3 then ((f_Town_plusHands 4 s).bind fun q6 => some (q6, s)) else if x1 = 4 then (some ((s 3 1), s)) else if x1 = 5 then ((f_Bows_find 4 s).bind fun q9 => some ((q9 48 0), q9)) else if x1 = 6 then (some ((s 0 11), s)) else if x1 = 7 then (some ((s 3 2), s)) else if x1 = 8 then (some ((s 3 3), s)) else if x1 = 9 then (some ((s 1 1), s)) else if x1 = 10 then ((f_Town_groups 4 s).bind fun q16 => some (q16, s)) else (some ((-1), s))
set_option maxRecDepth 8000 in
theorem c_KT_count {sc : List Int} (x1 : Int) (s : kM) (t : Int × kM) (hf : f_KT_count x1 s = some t) : kR sc 3 km_KT_count [kr 0, kI x1] (hH s) (some (kI t.1)) (hH t.2) := by
  unfold f_KT_count at hf
  refine kR.start rfl ?_
  show kW sc 3 kc_KT_count 1 0 [some (kr 0), some (kI x1), none] [] (hH s) _
  have hq : (fun (r : Option kV) (g : kH) => r = some (kI t.1) ∧ g = hH t.2) (some (kI t.1)) (hH t.2) := ⟨rfl, rfl⟩
  refine kw_step rfl rfl rfl rfl ?_
  refine kw_get rfl (hH_O (rfl : kotab 0 = some kKo)) rfl ?_
  refine kw_get rfl (hH_O (tS_0 (b := 3) rfl)) rfl ?_
  refine kw_step (L' := [some (kr 0), some (kI x1), some (kr 4)]) rfl rfl rfl rfl ?_
  refine kw_step rfl rfl rfl rfl ?_
  by_cases c1 : x1 = 0
  · have hf := gift c1 hf
    refine kw_tsw_at rfl c1 rfl rfl rfl ?_
    refine kw_step rfl rfl rfl rfl ?_
    refine kw_get rfl (hH_O (tT_0 (b := 4) rfl)) rfl ?_
    cases hf
    exact kw_ret rfl rfl rfl hq
  have hf := giff c1 hf
  by_cases c2 : x1 = 1
  · have hf := gift c2 hf
    refine kw_tsw_at rfl c2 rfl rfl rfl ?_
    refine kw_step rfl rfl rfl rfl ?_
    obtain ⟨q3, hq3, hf⟩ := gbind hf
    refine kw_callV (vs := []) rfl rfl rfl ⟨rfl, Nat.le_of_ble_eq_true rfl, Nat.le_of_ble_eq_true rfl, by decide⟩ (hH_O (tT_0 (b := 4) rfl)) (c_Town_bridges 4 (rfl : tT 4 = true) s _ hq3) (Nat.le_of_ble_eq_true rfl) ?_
    cases hf
    exact kw_ret rfl rfl rfl hq
  have hf := giff c2 hf
  by_cases c4 : x1 = 2
  · have hf := gift c4 hf
    refine kw_tsw_at rfl c4 rfl rfl rfl ?_
    refine kw_step rfl rfl rfl rfl ?_
    refine kw_get rfl (hH_O (tT_0 (b := 4) rfl)) rfl ?_
    cases hf
    exact kw_ret rfl rfl rfl hq
  have hf := giff c4 hf
  by_cases c5 : x1 = 3
  · have hf := gift c5 hf
    refine kw_tsw_at rfl c5 rfl rfl rfl ?_
    refine kw_step rfl rfl rfl rfl ?_
    obtain ⟨q6, hq6, hf⟩ := gbind hf
    refine kw_callV (vs := []) rfl rfl rfl ⟨rfl, Nat.le_of_ble_eq_true rfl, Nat.le_of_ble_eq_true rfl, by decide⟩ (hH_O (tT_0 (b := 4) rfl)) (c_Town_plusHands 4 (rfl : tT 4 = true) s _ hq6) (Nat.le_of_ble_eq_true rfl) ?_
    cases hf
    exact kw_ret rfl rfl rfl hq
  have hf := giff c5 hf
  by_cases c7 : x1 = 4
  · have hf := gift c7 hf
    refine kw_tsw_at rfl c7 rfl rfl rfl ?_
    refine kw_step rfl rfl rfl rfl ?_
    refine kw_get rfl (hH_O (rfl : kotab 0 = some kKo)) rfl ?_
    refine kw_get rfl (hH_O (tS_0 (b := 3) rfl)) rfl ?_
    cases hf
    exact kw_ret rfl rfl rfl hq
  have hf := giff c7 hf
  by_cases c8 : x1 = 5
  · have hf := gift c8 hf
    refine kw_tsw_at rfl c8 rfl rfl rfl ?_
    refine kw_step rfl rfl rfl rfl ?_
    refine kw_get rfl (hH_O (rfl : kotab 0 = some kKo)) rfl ?_
    refine kw_step rfl rfl rfl rfl ?_
    obtain ⟨q9, hq9, hf⟩ := gbind hf
    refine kw_callV (vs := [kr 4]) rfl rfl rfl ⟨rfl, Nat.le_of_ble_eq_true rfl, Nat.le_of_ble_eq_true rfl, by decide⟩ (hH_O (rfl : kotab 48 = some kWo)) (c_Bows_find 4 (rfl : tT 4 = true) s _ hq9) (Nat.le_of_ble_eq_true rfl) ?_
    refine kw_step rfl rfl rfl rfl ?_
    refine kw_get rfl (hH_O (rfl : kotab 0 = some kKo)) rfl ?_
    refine kw_get rfl (hH_O (rfl : kotab 48 = some kWo)) rfl ?_
    cases hf
    exact kw_ret rfl rfl rfl hq
  have hf := giff c8 hf
  by_cases c11 : x1 = 6
  · have hf := gift c11 hf
    refine kw_tsw_at rfl c11 rfl rfl rfl ?_
    refine kw_step rfl rfl rfl rfl ?_
    refine kw_get rfl (hH_O (rfl : kotab 0 = some kKo)) rfl ?_
    cases hf
    exact kw_ret rfl rfl rfl hq
  have hf := giff c11 hf
  by_cases c12 : x1 = 7
  · have hf := gift c12 hf
    refine kw_tsw_at rfl c12 rfl rfl rfl ?_
    refine kw_step rfl rfl rfl rfl ?_
    refine kw_get rfl (hH_O (rfl : kotab 0 = some kKo)) rfl ?_
    refine kw_get rfl (hH_O (tS_0 (b := 3) rfl)) rfl ?_
    cases hf
    exact kw_ret rfl rfl rfl hq
  have hf := giff c12 hf
  by_cases c13 : x1 = 8
  · have hf := gift c13 hf
    refine kw_tsw_at rfl c13 rfl rfl rfl ?_
    refine kw_step rfl rfl rfl rfl ?_
    refine kw_get rfl (hH_O (rfl : kotab 0 = some kKo)) rfl ?_
    refine kw_get rfl (hH_O (tS_0 (b := 3) rfl)) rfl ?_
    cases hf
    exact kw_ret rfl rfl rfl hq
  have hf := giff c13 hf
  by_cases c14 : x1 = 9
  · have hf := gift c14 hf
    refine kw_tsw_at rfl c14 rfl rfl rfl ?_
    refine kw_step rfl rfl rfl rfl ?_
    refine kw_get rfl (hH_O (rfl : kotab 0 = some kKo)) rfl ?_
    refine kw_get rfl (hH_O (rfl : kotab 1 = some kPo)) rfl ?_
    cases hf
    exact kw_ret rfl rfl rfl hq
  have hf := giff c14 hf
  by_cases c15 : x1 = 10
  · have hf := gift c15 hf
    refine kw_tsw_at rfl c15 rfl rfl rfl ?_
    refine kw_step rfl rfl rfl rfl ?_
    obtain ⟨q16, hq16, hf⟩ := gbind hf
    refine kw_callV (vs := []) rfl rfl rfl ⟨rfl, Nat.le_of_ble_eq_true rfl, Nat.le_of_ble_eq_true rfl, by decide⟩ (hH_O (tT_0 (b := 4) rfl)) (c_Town_groups 4 (rfl : tT 4 = true) s _ hq16) (Nat.le_of_ble_eq_true rfl) ?_
    cases hf
    exact kw_ret rfl rfl rfl hq
  have hf := giff c15 hf
  refine kw_tsw_out rfl (by omega) rfl ?_
  refine kw_step rfl rfl rfl rfl ?_
  cases hf
  exact kw_ret rfl rfl rfl hq
def f_Stand_copyFrom (b0 : Nat) (b1 : Nat) (s : kM) : Option (kM) :=
  (f_Town_copyFrom (b0 + 1) (b1 + 1) s).bind fun q1 => gLet (gU q1 b0 1 (q1 b1 1)) fun s3 => gLet (gU s3 b0 2 (s3 b1 2)) fun s6 => gLet (gU s6 b0 3 (s6 b1 3)) fun s9 => some s9
set_option maxRecDepth 8000 in
theorem c_Stand_copyFrom {sc : List Int} (b0 : Nat) (b1 : Nat) (hb0 : tS b0 = true) (hb1 : tS b1 = true) (s : kM) (t : kM) (hf : f_Stand_copyFrom b0 b1 s = some t) : kR sc 3 km_Stand_copyFrom [kr b0, kr b1] (hH s) none (hH t) := by
  unfold f_Stand_copyFrom at hf
  refine kR.start rfl ?_
  show kW sc 3 kc_Stand_copyFrom 0 0 [some (kr b0), some (kr b1)] [] (hH s) _
  have hq : (fun (r : Option kV) (g : kH) => r = none ∧ g = hH t) none (hH t) := ⟨rfl, rfl⟩
  refine kw_step rfl rfl rfl rfl ?_
  refine kw_get rfl (hH_O (tS_0 hb0)) rfl ?_
  refine kw_step rfl rfl rfl rfl ?_
  refine kw_get rfl (hH_O (tS_0 hb1)) rfl ?_
  obtain ⟨q1, hq1, hf⟩ := gbind hf
  refine kw_callV (vs := [kr (b1 + 1)]) rfl rfl rfl ⟨rfl, Nat.le_of_ble_eq_true rfl, Nat.le_of_ble_eq_true rfl, by decide⟩ (hH_O (tT_0 (tS_1 hb0))) (c_Town_copyFrom (b0 + 1) (b1 + 1) (tS_1 hb0) (tS_1 hb1) s _ hq1) (Nat.le_of_ble_eq_true rfl) ?_
  refine kw_step rfl rfl rfl rfl ?_
  refine kw_step rfl rfl rfl rfl ?_
  refine kw_get rfl (hH_O (tS_0 hb1)) rfl ?_
  obtain ⟨s3, ee4, hf⟩ := gbL hf
  refine kw_putH rfl (tS_0 hb0) rfl rfl rfl (Nat.le_of_ble_eq_true rfl) rfl ee4 ?_
  refine kw_step rfl rfl rfl rfl ?_
  refine kw_step rfl rfl rfl rfl ?_
  refine kw_get rfl (hH_O (tS_0 hb1)) rfl ?_
  obtain ⟨s6, ee7, hf⟩ := gbL hf
  refine kw_putH rfl (tS_0 hb0) rfl rfl rfl (Nat.le_of_ble_eq_true rfl) rfl ee7 ?_
  refine kw_step rfl rfl rfl rfl ?_
  refine kw_step rfl rfl rfl rfl ?_
  refine kw_get rfl (hH_O (tS_0 hb1)) rfl ?_
  obtain ⟨s9, ee10, hf⟩ := gbL hf
  refine kw_putH rfl (tS_0 hb0) rfl rfl rfl (Nat.le_of_ble_eq_true rfl) rfl ee10 ?_
  cases hf
  exact kw_ret rfl rfl rfl hq
def f_KT_image (x1 : Int) (s : kM) : Option (Int × kM) :=
  if x1 < 0 then (some ((-1), s)) else (if x1 < 4 then ((gI 4 x1).bind fun j3 => (f_Stand_copyFrom (57 + 7 * j3) 3 s).bind fun q5 => (gI 4 x1).bind fun j7 => gLet (gU q5 (57 + 7 * j7) 4 1) fun s9 => some ((s9 3 1), s9)) else (some ((-1), s)))
set_option maxRecDepth 8000 in
theorem c_KT_image {sc : List Int} (x1 : Int) (s : kM) (t : Int × kM) (hf : f_KT_image x1 s = some t) : kR sc 4 km_KT_image [kr 0, kI x1] (hH s) (some (kI t.1)) (hH t.2) := by
  unfold f_KT_image at hf
  refine kR.start rfl ?_
  show kW sc 4 kc_KT_image 1 0 [some (kr 0), some (kI x1)] [] (hH s) _
  have hq : (fun (r : Option kV) (g : kH) => r = some (kI t.1) ∧ g = hH t.2) (some (kI t.1)) (hH t.2) := ⟨rfl, rfl⟩
  refine kw_step rfl rfl rfl rfl ?_
  refine kw_if_lt rfl rfl (fun c1 => ?_) (fun c1 => ?_)
  · have hf := gift c1 hf
    refine kw_step rfl rfl rfl rfl ?_
    cases hf
    exact kw_ret rfl rfl rfl hq
  · have hf := giff c1 hf
    refine kw_step rfl rfl rfl rfl ?_
    refine kw_step rfl rfl rfl rfl ?_
    refine kw_icmp_lt rfl rfl (fun c2 => ?_) (fun c2 => ?_)
    · have hf := gift c2 hf
      refine kw_step rfl rfl rfl rfl ?_
      refine kw_get rfl (hH_O (rfl : kotab 0 = some kKo)) rfl ?_
      refine kw_step rfl rfl rfl rfl ?_
      obtain ⟨j3, i4, hf⟩ := gbI hf
      refine kw_img rfl i4.1 i4.2.1 i4.2.2 ?_
      refine kw_step rfl rfl rfl rfl ?_
      refine kw_get rfl (hH_O (rfl : kotab 0 = some kKo)) rfl ?_
      obtain ⟨q5, hq5, hf⟩ := gbind hf
      refine kw_callV (vs := [kr 3]) rfl rfl rfl ⟨rfl, Nat.le_of_ble_eq_true rfl, Nat.le_of_ble_eq_true rfl, by decide⟩ (hH_O (tS_0 (tS_i (j := j3) (by omega)))) (c_Stand_copyFrom (57 + 7 * j3) 3 (tS_i (j := j3) (by omega)) (rfl : tS 3 = true) s _ hq5) (Nat.le_of_ble_eq_true rfl) ?_
      refine kw_step rfl rfl rfl rfl ?_
      refine kw_get rfl (hH_O (rfl : kotab 0 = some kKo)) rfl ?_
      refine kw_step rfl rfl rfl rfl ?_
      obtain ⟨j7, i8, hf⟩ := gbI hf
      refine kw_img rfl i8.1 i8.2.1 i8.2.2 ?_
      refine kw_step rfl rfl rfl rfl ?_
      obtain ⟨s9, ee10, hf⟩ := gbL hf
      refine kw_putH rfl (tS_0 (tS_i (j := j7) (by omega))) rfl rfl rfl (Nat.le_of_ble_eq_true rfl) rfl ee10 ?_
      refine kw_step rfl rfl rfl rfl ?_
      refine kw_get rfl (hH_O (rfl : kotab 0 = some kKo)) rfl ?_
      refine kw_get rfl (hH_O (tS_0 (b := 3) rfl)) rfl ?_
      cases hf
      exact kw_ret rfl rfl rfl hq
    · have hf := giff c2 hf
      refine kw_step rfl rfl rfl rfl ?_
      cases hf
      exact kw_ret rfl rfl rfl hq
def f_KT_back (x1 : Int) (s : kM) : Option (Int × kM) :=
  if x1 < 0 then (some ((-1), s)) else (if 4 ≤ x1 then (some ((-1), s)) else ((gI 4 x1).bind fun j3 => if (s (57 + 7 * j3) 4) = 0 then (some ((-1), s)) else ((gI 4 x1).bind fun j6 => (f_Stand_copyFrom 3 (57 + 7 * j6) s).bind fun q8 => (f_KT_forget q8).bind fun q10 => some ((q10 3 1), q10))))
set_option maxRecDepth 8000 in
theorem c_KT_back {sc : List Int} (x1 : Int) (s : kM) (t : Int × kM) (hf : f_KT_back x1 s = some t) : kR sc 4 km_KT_back [kr 0, kI x1] (hH s) (some (kI t.1)) (hH t.2) := by
  unfold f_KT_back at hf
  refine kR.start rfl ?_
  show kW sc 4 kc_KT_back 1 0 [some (kr 0), some (kI x1)] [] (hH s) _
  have hq : (fun (r : Option kV) (g : kH) => r = some (kI t.1) ∧ g = hH t.2) (some (kI t.1)) (hH t.2) := ⟨rfl, rfl⟩
  refine kw_step rfl rfl rfl rfl ?_
  refine kw_if_lt rfl rfl (fun c1 => ?_) (fun c1 => ?_)
  · have hf := gift c1 hf
    refine kw_step rfl rfl rfl rfl ?_
    cases hf
    exact kw_ret rfl rfl rfl hq
  · have hf := giff c1 hf
    refine kw_step rfl rfl rfl rfl ?_
    refine kw_step rfl rfl rfl rfl ?_
    refine kw_icmp_ge rfl rfl (fun c2 => ?_) (fun c2 => ?_)
    · have hf := gift c2 hf
      refine kw_step rfl rfl rfl rfl ?_
      cases hf
      exact kw_ret rfl rfl rfl hq
    · have hf := giff c2 hf
      refine kw_step rfl rfl rfl rfl ?_
      refine kw_get rfl (hH_O (rfl : kotab 0 = some kKo)) rfl ?_
      refine kw_step rfl rfl rfl rfl ?_
      obtain ⟨j3, i4, hf⟩ := gbI hf
      refine kw_img rfl i4.1 i4.2.1 i4.2.2 ?_
      refine kw_get rfl (hH_O (tS_0 (tS_i (j := j3) (by omega)))) rfl ?_
      refine kw_if_ne rfl rfl (fun c5 => ?_) (fun c5 => ?_)
      · have hf := giff c5 hf
        refine kw_step rfl rfl rfl rfl ?_
        refine kw_get rfl (hH_O (rfl : kotab 0 = some kKo)) rfl ?_
        refine kw_step rfl rfl rfl rfl ?_
        refine kw_get rfl (hH_O (rfl : kotab 0 = some kKo)) rfl ?_
        refine kw_step rfl rfl rfl rfl ?_
        obtain ⟨j6, i7, hf⟩ := gbI hf
        refine kw_img rfl i7.1 i7.2.1 i7.2.2 ?_
        obtain ⟨q8, hq8, hf⟩ := gbind hf
        refine kw_callV (vs := [kr (57 + 7 * j6)]) rfl rfl rfl ⟨rfl, Nat.le_of_ble_eq_true rfl, Nat.le_of_ble_eq_true rfl, by decide⟩ (hH_O (tS_0 (b := 3) rfl)) (c_Stand_copyFrom 3 (57 + 7 * j6) (rfl : tS 3 = true) (tS_i (j := j6) (by omega)) s _ hq8) (Nat.le_of_ble_eq_true rfl) ?_
        refine kw_step rfl rfl rfl rfl ?_
        obtain ⟨q10, hq10, hf⟩ := gbind hf
        refine kw_callV (vs := []) rfl rfl rfl ⟨rfl, Nat.le_of_ble_eq_true rfl, Nat.le_of_ble_eq_true rfl, by decide⟩ (hH_O (rfl : kotab 0 = some kKo)) (c_KT_forget q8 _ hq10) (Nat.le_of_ble_eq_true rfl) ?_
        refine kw_step rfl rfl rfl rfl ?_
        refine kw_get rfl (hH_O (rfl : kotab 0 = some kKo)) rfl ?_
        refine kw_get rfl (hH_O (tS_0 (b := 3) rfl)) rfl ?_
        cases hf
        exact kw_ret rfl rfl rfl hq
      · have hf := gift c5 hf
        refine kw_step rfl rfl rfl rfl ?_
        cases hf
        exact kw_ret rfl rfl rfl hq
def f_M_places (s : kM) : Option (Int) :=
  some (wI ((s 86 1) + (s 86 2)))
set_option maxRecDepth 8000 in
theorem c_M_places {sc : List Int} (s : kM) (t : Int) (hf : f_M_places s = some t) : kR sc 0 km_M_places [kr 85] (hH s) (some (kI t)) (hH s) := by
  unfold f_M_places at hf
  refine kR.start rfl ?_
  show kW sc 0 kc_M_places 1 0 [some (kr 85)] [] (hH s) _
  have hq : (fun (r : Option kV) (g : kH) => r = some (kI t) ∧ g = hH s) (some (kI t)) (hH s) := ⟨rfl, rfl⟩
  refine kw_step rfl rfl rfl rfl ?_
  refine kw_get rfl (hH_O (rfl : kotab 85 = some kMo)) rfl ?_
  refine kw_step rfl rfl rfl rfl ?_
  refine kw_iald rfl (hH_A (rfl : ktab 86 = some (0, 6))) (by decide) (by decide) (j := 1) rfl ?_
  refine kw_step rfl rfl rfl rfl ?_
  refine kw_get rfl (hH_O (rfl : kotab 85 = some kMo)) rfl ?_
  refine kw_step rfl rfl rfl rfl ?_
  refine kw_iald rfl (hH_A (rfl : ktab 86 = some (0, 6))) (by decide) (by decide) (j := 2) rfl ?_
  refine kw_step rfl rfl rfl rfl ?_
  cases hf
  exact kw_ret rfl rfl rfl hq
