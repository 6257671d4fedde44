/-! PRINTED by wip/whole/decall.py: methods as functions over the flat world, with their contracts -/
def f_Search_fewestMoves_11 (b1 : Nat) (s : kM) : Option (Int × kM) :=
  some ((s 21 15), s)
set_option maxRecDepth 8000 in
theorem b_Search_fewestMoves_11 {sc : List Int} {Q : Option kV → kH → Prop} (b1 : Nat) (hb1 : tT b1 = true) (s : kM) (t : Int × kM) (hf : f_Search_fewestMoves_11 b1 s = some t) (hq : (fun r => Q (some (kI r.1)) (hH r.2)) t) : kW sc 6 kc_Search_fewestMoves 1 11 [some (kr 21), none] [] (hH s) Q := by
  unfold f_Search_fewestMoves_11 at hf
  refine kw_step rfl rfl rfl rfl ?_
  refine kw_get rfl (hH_O (rfl : kotab 21 = some kHo)) rfl ?_
  cases hf
  exact kw_ret rfl rfl rfl hq
def f_Search_fewestMoves (b1 : Nat) (s : kM) : Option (Int × kM) :=
  if (s 21 16) = 0 then ((f_Search_shake b1 s).bind fun q2 => gLet (gU q2.2 21 15 q2.1) fun s4 => gLet (gU s4 21 16 1) fun s7 => f_Search_fewestMoves_11 b1 s7) else (f_Search_fewestMoves_11 b1 s)
set_option maxRecDepth 8000 in
theorem c_Search_fewestMoves {sc : List Int} (b1 : Nat) (hb1 : tT b1 = true) (s : kM) (t : Int × kM) (hf : f_Search_fewestMoves b1 s = some t) : kR sc 6 km_Search_fewestMoves [kr 21, kr b1] (hH s) (some (kI t.1)) (hH t.2) := by
  unfold f_Search_fewestMoves at hf
  refine kR.start rfl ?_
  show kW sc 6 kc_Search_fewestMoves 1 0 [some (kr 21), some (kr b1)] [] (hH s) _
  have hq : (fun (r : Option kV) (g : kH) => r = some (kI t.1) ∧ g = hH t.2) (some (kI t.1)) (hH t.2) := ⟨rfl, rfl⟩
  refine kw_step rfl rfl rfl rfl ?_
  refine kw_get rfl (hH_O (rfl : kotab 21 = some kHo)) rfl ?_
  refine kw_if_ne rfl rfl (fun c1 => ?_) (fun c1 => ?_)
  · have hf := giff c1 hf
    exact kW_le (L' := [some (kr 21), none]) ⟨Or.inr rfl, Or.inl rfl, trivial⟩ (b_Search_fewestMoves_11 b1 hb1 s _ hf hq)
  · have hf := gift c1 hf
    refine kw_step rfl rfl rfl rfl ?_
    refine kw_step rfl rfl rfl rfl ?_
    refine kw_step rfl rfl rfl rfl ?_
    obtain ⟨q2, hq2, hf⟩ := gbind hf
    refine kw_callV (vs := [kr b1]) rfl rfl rfl ⟨rfl, Nat.le_of_ble_eq_true rfl, Nat.le_of_ble_eq_true rfl, by decide⟩ (hH_O (rfl : kotab 21 = some kHo)) (c_Search_shake b1 hb1 s _ hq2) (Nat.le_of_ble_eq_true rfl) ?_
    obtain ⟨s4, ee5, hf⟩ := gbL hf
    refine kw_putH rfl (rfl : kotab 21 = some kHo) rfl rfl rfl (Nat.le_of_ble_eq_true rfl) rfl ee5 ?_
    refine kw_step rfl rfl rfl rfl ?_
    refine kw_step rfl rfl rfl rfl ?_
    obtain ⟨s7, ee8, hf⟩ := gbL hf
    refine kw_putH rfl (rfl : kotab 21 = some kHo) rfl rfl rfl (Nat.le_of_ble_eq_true rfl) rfl ee8 ?_
    exact kW_le (L' := [some (kr 21), none]) ⟨Or.inr rfl, Or.inl rfl, trivial⟩ (b_Search_fewestMoves_11 b1 hb1 s7 _ hf hq)
def f_KT_shaken (s : kM) : Option (Int × kM) :=
  if (s 4 0) = 0 then (some ((-1), s)) else ((f_Search_fewestMoves 4 s).bind fun q2 => some (q2.1, q2.2))
set_option maxRecDepth 8000 in
theorem c_KT_shaken {sc : List Int} (s : kM) (t : Int × kM) (hf : f_KT_shaken s = some t) : kR sc 7 km_KT_shaken [kr 0] (hH s) (some (kI t.1)) (hH t.2) := by
  unfold f_KT_shaken at hf
  refine kR.start rfl ?_
  show kW sc 7 kc_KT_shaken 1 0 [some (kr 0)] [] (hH s) _
  have hq : (fun (r : Option kV) (g : kH) => r = some (kI t.1) ∧ g = hH t.2) (some (kI t.1)) (hH t.2) := ⟨rfl, rfl⟩
  refine kw_step rfl rfl rfl rfl ?_
  refine kw_get rfl (hH_O (rfl : kotab 0 = some kKo)) rfl ?_
  refine kw_get rfl (hH_O (tS_0 (b := 3) rfl)) rfl ?_
  refine kw_get rfl (hH_O (tT_0 (b := 4) rfl)) rfl ?_
  refine kw_if_ne rfl rfl (fun c1 => ?_) (fun c1 => ?_)
  · have hf := giff c1 hf
    refine kw_step rfl rfl rfl rfl ?_
    refine kw_get rfl (hH_O (rfl : kotab 0 = some kKo)) rfl ?_
    refine kw_step rfl rfl rfl rfl ?_
    refine kw_get rfl (hH_O (rfl : kotab 0 = some kKo)) rfl ?_
    refine kw_get rfl (hH_O (tS_0 (b := 3) rfl)) rfl ?_
    obtain ⟨q2, hq2, hf⟩ := gbind hf
    refine kw_callV (vs := [kr 4]) rfl rfl rfl ⟨rfl, Nat.le_of_ble_eq_true rfl, Nat.le_of_ble_eq_true rfl, by decide⟩ (hH_O (rfl : kotab 21 = some kHo)) (c_Search_fewestMoves 4 (rfl : tT 4 = true) s _ hq2) (Nat.le_of_ble_eq_true rfl) ?_
    cases hf
    exact kw_ret rfl rfl rfl hq
  · have hf := gift c1 hf
    refine kw_step rfl rfl rfl rfl ?_
    refine kw_goto rfl rfl ?_
    cases hf
    exact kw_ret rfl rfl rfl hq
def f_Search_moveOfRow_11b (x1 : Int) (x2 : Int) (x3 : Int) (x4 : Int) (s : kM) : Option ((Int × Int × Int) ⊕ (Int)) :=
  if x4 ≤ x1 then (some (.inr x2)) else (if x3 < 0 then (some (.inr x2)) else (if (s 21 9) ≤ x3 then (some (.inr x2)) else ((gI 300 x3).bind fun j4 => (gI 300 x3).bind fun j6 => some (.inl ((s 26 j4), (s 25 j6), (wI (x4 + (-1))))))))
set_option maxRecDepth 8000 in
theorem b_Search_moveOfRow_11b {sc : List Int} {Q : Option kV → kH → Prop} (x1 : Int) (x2 : Int) (x3 : Int) (x4 : Int) (s : kM) (t : (Int × Int × Int) ⊕ (Int)) (hf : f_Search_moveOfRow_11b x1 x2 x3 x4 s = some t) (hq : (gE (fun x => kW sc 0 kc_Search_moveOfRow 1 11 [some (kr 21), some (kI x1), some (kI x.1), some (kI x.2.1), some (kI x.2.2)] [] (hH s) Q) (fun r => Q (some (kI r)) (hH s))) t) : kW sc 0 kc_Search_moveOfRow 1 11 [some (kr 21), some (kI x1), some (kI x2), some (kI x3), some (kI x4)] [] (hH s) Q := by
  unfold f_Search_moveOfRow_11b at hf
  refine kw_step rfl rfl rfl rfl ?_
  refine kw_step rfl rfl rfl rfl ?_
  refine kw_icmp_le rfl rfl (fun c1 => ?_) (fun c1 => ?_)
  · have hf := gift c1 hf
    refine kw_step rfl rfl rfl rfl ?_
    cases hf
    exact kw_ret rfl rfl rfl hq
  · have hf := giff c1 hf
    refine kw_step rfl rfl rfl rfl ?_
    refine kw_if_lt rfl rfl (fun c2 => ?_) (fun c2 => ?_)
    · have hf := gift c2 hf
      refine kw_step rfl rfl rfl rfl ?_
      cases hf
      exact kw_ret rfl rfl rfl hq
    · have hf := giff c2 hf
      refine kw_step rfl rfl rfl rfl ?_
      refine kw_step rfl rfl rfl rfl ?_
      refine kw_get rfl (hH_O (rfl : kotab 21 = some kHo)) rfl ?_
      refine kw_icmp_ge rfl rfl (fun c3 => ?_) (fun c3 => ?_)
      · have hf := gift c3 hf
        refine kw_step rfl rfl rfl rfl ?_
        cases hf
        exact kw_ret rfl rfl rfl hq
      · have hf := giff c3 hf
        refine kw_step rfl rfl rfl rfl ?_
        refine kw_get rfl (hH_O (rfl : kotab 21 = some kHo)) rfl ?_
        refine kw_step rfl rfl rfl rfl ?_
        obtain ⟨j4, i5, hf⟩ := gbI hf
        refine kw_sald rfl (hH_A (rfl : ktab 26 = some (2, 300))) i5.1 i5.2.1 i5.2.2 ?_
        refine kw_step (L' := [some (kr 21), some (kI x1), some (kI (s 26 j4)), some (kI x3), some (kI x4)]) rfl rfl rfl rfl ?_
        refine kw_step rfl rfl rfl rfl ?_
        refine kw_get rfl (hH_O (rfl : kotab 21 = some kHo)) rfl ?_
        refine kw_step rfl rfl rfl rfl ?_
        obtain ⟨j6, i7, hf⟩ := gbI hf
        refine kw_sald rfl (hH_A (rfl : ktab 25 = some (2, 300))) i7.1 i7.2.1 i7.2.2 ?_
        refine kw_step (L' := [some (kr 21), some (kI x1), some (kI (s 26 j4)), some (kI (s 25 j6)), some (kI x4)]) rfl rfl rfl rfl ?_
        refine kw_step (L' := [some (kr 21), some (kI x1), some (kI (s 26 j4)), some (kI (s 25 j6)), some (kI (wI (x4 + (-1))))]) rfl rfl rfl rfl ?_
        refine kw_goto rfl rfl ?_
        cases hf
        exact kW_le (L' := [some (kr 21), some (kI x1), some (kI (s 26 j4)), some (kI (s 25 j6)), some (kI (wI (x4 + (-1))))]) ⟨Or.inr rfl, Or.inr rfl, Or.inr rfl, Or.inr rfl, Or.inr rfl, trivial⟩ hq
def f_Search_moveOfRow_11 (x1 : Int) (x2 : Int) (x3 : Int) (x4 : Int) (s : kM) : Option (Int) :=
  gL (fun (x : Int × Int × Int) => f_Search_moveOfRow_11b x1 x.1 x.2.1 x.2.2 s) gF (x2, x3, x4)
theorem b_Search_moveOfRow_11 {sc : List Int} {Q : Option kV → kH → Prop} (x1 : Int) (x2 : Int) (x3 : Int) (x4 : Int) (s : kM) (t : Int) (hf : f_Search_moveOfRow_11 x1 x2 x3 x4 s = some t) (hq : (fun r => Q (some (kI r)) (hH s)) t) : kW sc 0 kc_Search_moveOfRow 1 11 [some (kr 21), some (kI x1), some (kI x2), some (kI x3), some (kI x4)] [] (hH s) Q :=
  gL_ind (P := fun (x : Int × Int × Int) => kW sc 0 kc_Search_moveOfRow 1 11 [some (kr 21), some (kI x1), some (kI x.1), some (kI x.2.1), some (kI x.2.2)] [] (hH s) Q) (q := (fun r => Q (some (kI r)) (hH s))) (fun x t hf hq => b_Search_moveOfRow_11b x1 x.1 x.2.1 x.2.2 s t hf hq) gF (x2, x3, x4) t hf hq
def f_Search_moveOfRow (x1 : Int) (s : kM) : Option (Int) :=
  f_Search_moveOfRow_11 x1 (s 21 14) (s 21 13) (wI ((s 21 15) - 1)) s
set_option maxRecDepth 8000 in
theorem c_Search_moveOfRow {sc : List Int} (x1 : Int) (s : kM) (t : Int) (hf : f_Search_moveOfRow x1 s = some t) : kR sc 0 km_Search_moveOfRow [kr 21, kI x1] (hH s) (some (kI t)) (hH s) := by
  unfold f_Search_moveOfRow at hf
  refine kR.start rfl ?_
  show kW sc 0 kc_Search_moveOfRow 1 0 [some (kr 21), some (kI x1), none, none, none] [] (hH s) _
  have hq : (fun (r : Option kV) (g : kH) => r = some (kI t) ∧ g = hH s) (some (kI t)) (hH s) := ⟨rfl, rfl⟩
  refine kw_step rfl rfl rfl rfl ?_
  refine kw_get rfl (hH_O (rfl : kotab 21 = some kHo)) rfl ?_
  refine kw_step (L' := [some (kr 21), some (kI x1), some (kI (s 21 14)), none, none]) rfl rfl rfl rfl ?_
  refine kw_step rfl rfl rfl rfl ?_
  refine kw_get rfl (hH_O (rfl : kotab 21 = some kHo)) rfl ?_
  refine kw_step (L' := [some (kr 21), some (kI x1), some (kI (s 21 14)), some (kI (s 21 13)), none]) rfl rfl rfl rfl ?_
  refine kw_step rfl rfl rfl rfl ?_
  refine kw_get rfl (hH_O (rfl : kotab 21 = some kHo)) rfl ?_
  refine kw_step rfl rfl rfl rfl ?_
  refine kw_step rfl rfl rfl rfl ?_
  refine kw_step (L' := [some (kr 21), some (kI x1), some (kI (s 21 14)), some (kI (s 21 13)), some (kI (wI ((s 21 15) - 1)))]) rfl rfl rfl rfl ?_
  exact kW_le (L' := [some (kr 21), some (kI x1), some (kI (s 21 14)), some (kI (s 21 13)), some (kI (wI ((s 21 15) - 1)))]) ⟨Or.inr rfl, Or.inr rfl, Or.inr rfl, Or.inr rfl, Or.inr rfl, trivial⟩ (b_Search_moveOfRow_11 x1 (s 21 14) (s 21 13) (wI ((s 21 15) - 1)) s _ hf hq)
def f_KT_row (x1 : Int) (x2 : Int) (s : kM) : Option (Int × kM) :=
  if (s 4 0) = 0 then (some ((-1), s)) else (if x1 < 0 then (some ((-1), s)) else (if x2 < 0 then (some ((-1), s)) else (if x2 ≤ 3 then ((f_Search_fewestMoves 4 s).bind fun q5 => if 0 ≤ q5.1 then (if x1 < q5.1 then ((f_Search_moveOfRow x1 q5.2).bind fun q9 => (f_Land_partOfMove q9 x2 q5.2).bind fun q10 => some (q10, q5.2)) else (some ((-2), q5.2))) else (some (q5.1, q5.2))) else (some ((-1), s)))))
set_option maxRecDepth 8000 in
theorem c_KT_row {sc : List Int} (x1 : Int) (x2 : Int) (s : kM) (t : Int × kM) (hf : f_KT_row x1 x2 s = some t) : kR sc 7 km_KT_row [kr 0, kI x1, kI x2] (hH s) (some (kI t.1)) (hH t.2) := by
  unfold f_KT_row at hf
  refine kR.start rfl ?_
  show kW sc 7 kc_KT_row 1 0 [some (kr 0), some (kI x1), some (kI x2), none] [] (hH s) _
  have hq : (fun (r : Option kV) (g : kH) => r = some (kI t.1) ∧ g = hH t.2) (some (kI t.1)) (hH t.2) := ⟨rfl, rfl⟩
  refine kw_step rfl rfl rfl rfl ?_
  refine kw_get rfl (hH_O (rfl : kotab 0 = some kKo)) rfl ?_
  refine kw_get rfl (hH_O (tS_0 (b := 3) rfl)) rfl ?_
  refine kw_get rfl (hH_O (tT_0 (b := 4) rfl)) rfl ?_
  refine kw_if_eq rfl rfl (fun c1 => ?_) (fun c1 => ?_)
  · have hf := gift c1 hf
    refine kw_step rfl rfl rfl rfl ?_
    cases hf
    exact kw_ret rfl rfl rfl hq
  · have hf := giff c1 hf
    refine kw_step rfl rfl rfl rfl ?_
    refine kw_if_lt rfl rfl (fun c2 => ?_) (fun c2 => ?_)
    · have hf := gift c2 hf
      refine kw_step rfl rfl rfl rfl ?_
      cases hf
      exact kw_ret rfl rfl rfl hq
    · have hf := giff c2 hf
      refine kw_step rfl rfl rfl rfl ?_
      refine kw_if_lt rfl rfl (fun c3 => ?_) (fun c3 => ?_)
      · have hf := gift c3 hf
        refine kw_step rfl rfl rfl rfl ?_
        cases hf
        exact kw_ret rfl rfl rfl hq
      · have hf := giff c3 hf
        refine kw_step rfl rfl rfl rfl ?_
        refine kw_step rfl rfl rfl rfl ?_
        refine kw_icmp_le rfl rfl (fun c4 => ?_) (fun c4 => ?_)
        · have hf := gift c4 hf
          refine kw_step rfl rfl rfl rfl ?_
          refine kw_get rfl (hH_O (rfl : kotab 0 = some kKo)) rfl ?_
          refine kw_step rfl rfl rfl rfl ?_
          refine kw_get rfl (hH_O (rfl : kotab 0 = some kKo)) rfl ?_
          refine kw_get rfl (hH_O (tS_0 (b := 3) rfl)) rfl ?_
          obtain ⟨q5, hq5, hf⟩ := gbind hf
          refine kw_callV (vs := [kr 4]) rfl rfl rfl ⟨rfl, Nat.le_of_ble_eq_true rfl, Nat.le_of_ble_eq_true rfl, by decide⟩ (hH_O (rfl : kotab 21 = some kHo)) (c_Search_fewestMoves 4 (rfl : tT 4 = true) s _ hq5) (Nat.le_of_ble_eq_true rfl) ?_
          refine kw_step (L' := [some (kr 0), some (kI x1), some (kI x2), some (kI q5.1)]) rfl rfl rfl rfl ?_
          refine kw_step rfl rfl rfl rfl ?_
          refine kw_if_ge rfl rfl (fun c7 => ?_) (fun c7 => ?_)
          · have hf := gift c7 hf
            refine kw_step rfl rfl rfl rfl ?_
            refine kw_step rfl rfl rfl rfl ?_
            refine kw_icmp_lt rfl rfl (fun c8 => ?_) (fun c8 => ?_)
            · have hf := gift c8 hf
              refine kw_step rfl rfl rfl rfl ?_
              refine kw_get rfl (hH_O (rfl : kotab 0 = some kKo)) rfl ?_
              refine kw_step rfl rfl rfl rfl ?_
              obtain ⟨q9, hq9, hf⟩ := gbind hf
              refine kw_callV (vs := [kI x1]) rfl rfl rfl ⟨rfl, Nat.le_of_ble_eq_true rfl, Nat.le_of_ble_eq_true rfl, by decide⟩ (hH_O (rfl : kotab 21 = some kHo)) (c_Search_moveOfRow x1 q5.2 _ hq9) (Nat.le_of_ble_eq_true rfl) ?_
              refine kw_step rfl rfl rfl rfl ?_
              obtain ⟨q10, hq10, hf⟩ := gbind hf
              refine kw_callS (vs := [kI q9, kI x2]) rfl rfl rfl ⟨rfl, Nat.le_of_ble_eq_true rfl, Nat.le_of_ble_eq_true rfl, rfl⟩ (c_Land_partOfMove q9 x2 q5.2 _ hq10) (Nat.le_of_ble_eq_true rfl) ?_
              cases hf
              exact kw_ret rfl rfl rfl hq
            · have hf := giff c8 hf
              refine kw_step rfl rfl rfl rfl ?_
              refine kw_goto rfl rfl ?_
              cases hf
              exact kw_ret rfl rfl rfl hq
          · have hf := giff c7 hf
            refine kw_step rfl rfl rfl rfl ?_
            cases hf
            exact kw_ret rfl rfl rfl hq
        · have hf := giff c4 hf
          refine kw_step rfl rfl rfl rfl ?_
          cases hf
          exact kw_ret rfl rfl rfl hq
def f_Search_tryOut_20 (b1 : Nat) (x2 : Int) (x3 : Int) (s : kM) : Option ((Int × kM) ⊕ (Int × kM)) :=
  some (.inl ((wI (x3 + 1)), s))
set_option maxRecDepth 8000 in
theorem b_Search_tryOut_20 {sc : List Int} {Q : Option kV → kH → Prop} (b1 : Nat) (hb1 : tT b1 = true) (x2 : Int) (x3 : Int) (s : kM) (t : (Int × kM) ⊕ (Int × kM)) (hf : f_Search_tryOut_20 b1 x2 x3 s = some t) (hq : (gE (fun x => kW sc 3 kc_Search_tryOut 2 6 [some (kr 21), none, some (kI x2), some (kI x.1)] [] (hH x.2) Q) (fun r => Q (some (kI r.1)) (hH r.2))) t) : kW sc 3 kc_Search_tryOut 2 20 [some (kr 21), none, some (kI x2), some (kI x3)] [] (hH s) Q := by
  unfold f_Search_tryOut_20 at hf
  refine kw_step (L' := [some (kr 21), none, some (kI x2), some (kI (wI (x3 + 1)))]) rfl rfl rfl rfl ?_
  refine kw_goto rfl rfl ?_
  cases hf
  exact kW_le (L' := [some (kr 21), none, some (kI x2), some (kI (wI (x3 + 1)))]) ⟨Or.inr rfl, Or.inl rfl, Or.inr rfl, Or.inr rfl, trivial⟩ hq
def f_Search_tryOut_6b (b1 : Nat) (x2 : Int) (x3 : Int) (s : kM) : Option ((Int × kM) ⊕ (Int × kM)) :=
  if 11 ≤ x3 then ((f_Town_sharedHands 34 s).bind fun q2 => if q2 = 0 then (some (.inr (1, s))) else (some (.inr (0, s)))) else (if (kand (kshr x2 x3) 1) = 1 then ((f_Town_flip 34 x3 s).bind fun q5 => f_Search_tryOut_20 b1 x2 x3 q5) else (f_Search_tryOut_20 b1 x2 x3 s))
set_option maxRecDepth 8000 in
theorem b_Search_tryOut_6b {sc : List Int} {Q : Option kV → kH → Prop} (b1 : Nat) (hb1 : tT b1 = true) (x2 : Int) (x3 : Int) (s : kM) (t : (Int × kM) ⊕ (Int × kM)) (hf : f_Search_tryOut_6b b1 x2 x3 s = some t) (hq : (gE (fun x => kW sc 3 kc_Search_tryOut 2 6 [some (kr 21), none, some (kI x2), some (kI x.1)] [] (hH x.2) Q) (fun r => Q (some (kI r.1)) (hH r.2))) t) : kW sc 3 kc_Search_tryOut 2 6 [some (kr 21), none, some (kI x2), some (kI x3)] [] (hH s) Q := by
  unfold f_Search_tryOut_6b at hf
  refine kw_step rfl rfl rfl rfl ?_
  refine kw_step rfl rfl rfl rfl ?_
  refine kw_icmp_ge rfl rfl (fun c1 => ?_) (fun c1 => ?_)
  · have hf := gift c1 hf
    refine kw_step rfl rfl rfl rfl ?_
    refine kw_get rfl (hH_O (rfl : kotab 21 = some kHo)) rfl ?_
    obtain ⟨q2, hq2, hf⟩ := gbind hf
    refine kw_callV (vs := []) rfl rfl rfl ⟨rfl, Nat.le_of_ble_eq_true rfl, Nat.le_of_ble_eq_true rfl, by decide⟩ (hH_O (tT_0 (b := 34) rfl)) (c_Town_sharedHands 34 (rfl : tT 34 = true) s _ hq2) (Nat.le_of_ble_eq_true rfl) ?_
    refine kw_if_ne rfl rfl (fun c3 => ?_) (fun c3 => ?_)
    · have hf := giff c3 hf
      refine kw_step rfl rfl rfl rfl ?_
      cases hf
      exact kw_ret rfl rfl rfl hq
    · have hf := gift c3 hf
      refine kw_step rfl rfl rfl rfl ?_
      refine kw_goto rfl rfl ?_
      cases hf
      exact kw_ret rfl rfl rfl hq
  · have hf := giff c1 hf
    refine kw_step rfl rfl rfl rfl ?_
    refine kw_step rfl rfl rfl rfl ?_
    refine kw_step rfl rfl rfl rfl ?_
    refine kw_step rfl rfl rfl rfl ?_
    refine kw_step rfl rfl rfl rfl ?_
    refine kw_step rfl rfl rfl rfl ?_
    refine kw_icmp_ne rfl rfl (fun c4 => ?_) (fun c4 => ?_)
    · have hf := giff c4 hf
      exact kW_le (L' := [some (kr 21), none, some (kI x2), some (kI x3)]) ⟨Or.inr rfl, Or.inl rfl, Or.inr rfl, Or.inr rfl, trivial⟩ (b_Search_tryOut_20 b1 hb1 x2 x3 s _ hf hq)
    · have hf := gift c4 hf
      refine kw_step rfl rfl rfl rfl ?_
      refine kw_get rfl (hH_O (rfl : kotab 21 = some kHo)) rfl ?_
      refine kw_step rfl rfl rfl rfl ?_
      obtain ⟨q5, hq5, hf⟩ := gbind hf
      refine kw_callV (vs := [kI x3]) rfl rfl rfl ⟨rfl, Nat.le_of_ble_eq_true rfl, Nat.le_of_ble_eq_true rfl, by decide⟩ (hH_O (tT_0 (b := 34) rfl)) (c_Town_flip 34 (rfl : tT 34 = true) x3 s _ hq5) (Nat.le_of_ble_eq_true rfl) ?_
      exact kW_le (L' := [some (kr 21), none, some (kI x2), some (kI x3)]) ⟨Or.inr rfl, Or.inl rfl, Or.inr rfl, Or.inr rfl, trivial⟩ (b_Search_tryOut_20 b1 hb1 x2 x3 q5 _ hf hq)
def f_Search_tryOut_6 (b1 : Nat) (x2 : Int) (x3 : Int) (s : kM) : Option (Int × kM) :=
  gL (fun (x : Int × kM) => f_Search_tryOut_6b b1 x2 x.1 x.2) gF (x3, s)
theorem b_Search_tryOut_6 {sc : List Int} {Q : Option kV → kH → Prop} (b1 : Nat) (hb1 : tT b1 = true) (x2 : Int) (x3 : Int) (s : kM) (t : Int × kM) (hf : f_Search_tryOut_6 b1 x2 x3 s = some t) (hq : (fun r => Q (some (kI r.1)) (hH r.2)) t) : kW sc 3 kc_Search_tryOut 2 6 [some (kr 21), none, some (kI x2), some (kI x3)] [] (hH s) Q :=
  gL_ind (P := fun (x : Int × kM) => kW sc 3 kc_Search_tryOut 2 6 [some (kr 21), none, some (kI x2), some (kI x.1)] [] (hH x.2) Q) (q := (fun r => Q (some (kI r.1)) (hH r.2))) (fun x t hf hq => b_Search_tryOut_6b b1 hb1 x2 x.1 x.2 t hf hq) gF (x3, s) t hf hq
def f_Search_tryOut (b1 : Nat) (x2 : Int) (s : kM) : Option (Int × kM) :=
  (f_Town_copyFrom 34 b1 s).bind fun q1 => f_Search_tryOut_6 b1 x2 0 q1
set_option maxRecDepth 8000 in
theorem c_Search_tryOut {sc : List Int} (b1 : Nat) (hb1 : tT b1 = true) (x2 : Int) (s : kM) (t : Int × kM) (hf : f_Search_tryOut b1 x2 s = some t) : kR sc 3 km_Search_tryOut [kr 21, kr b1, kI x2] (hH s) (some (kI t.1)) (hH t.2) := by
  unfold f_Search_tryOut at hf
  refine kR.start rfl ?_
  show kW sc 3 kc_Search_tryOut 2 0 [some (kr 21), some (kr b1), some (kI x2), none] [] (hH s) _
  have hq : (fun (r : Option kV) (g : kH) => r = some (kI t.1) ∧ g = hH t.2) (some (kI t.1)) (hH t.2) := ⟨rfl, rfl⟩
  refine kw_step rfl rfl rfl rfl ?_
  refine kw_get rfl (hH_O (rfl : kotab 21 = some kHo)) rfl ?_
  refine kw_step rfl rfl rfl rfl ?_
  obtain ⟨q1, hq1, hf⟩ := gbind hf
  refine kw_callV (vs := [kr b1]) rfl rfl rfl ⟨rfl, Nat.le_of_ble_eq_true rfl, Nat.le_of_ble_eq_true rfl, by decide⟩ (hH_O (tT_0 (b := 34) rfl)) (c_Town_copyFrom 34 b1 (rfl : tT 34 = true) hb1 s _ hq1) (Nat.le_of_ble_eq_true rfl) ?_
  refine kw_step rfl rfl rfl rfl ?_
  refine kw_step (L' := [some (kr 21), some (kr b1), some (kI x2), some (kI 0)]) rfl rfl rfl rfl ?_
  exact kW_le (L' := [some (kr 21), none, some (kI x2), some (kI 0)]) ⟨Or.inr rfl, Or.inl rfl, Or.inr rfl, Or.inr rfl, trivial⟩ (b_Search_tryOut_6 b1 hb1 x2 0 q1 _ hf hq)
def f_Search_fewestChanges_77 (b1 : Nat) (s : kM) : Option (Int × kM) :=
  some ((s 21 17), s)
set_option maxRecDepth 8000 in
theorem b_Search_fewestChanges_77 {sc : List Int} {Q : Option kV → kH → Prop} (b1 : Nat) (hb1 : tT b1 = true) (s : kM) (t : Int × kM) (hf : f_Search_fewestChanges_77 b1 s = some t) (hq : (fun r => Q (some (kI r.1)) (hH r.2)) t) : kW sc 6 kc_Search_fewestChanges 1 77 [some (kr 21), none, none, none, none, none] [] (hH s) Q := by
  unfold f_Search_fewestChanges_77 at hf
  refine kw_step rfl rfl rfl rfl ?_
  refine kw_get rfl (hH_O (rfl : kotab 21 = some kHo)) rfl ?_
  cases hf
  exact kw_ret rfl rfl rfl hq
def f_Search_fewestChanges_68 (b1 : Nat) (s : kM) : Option (Int × kM) :=
  if (s 21 18) = 0 then (gLet (gU s 21 17 (-1)) fun s2 => gLet (gU s2 21 18 1) fun s5 => f_Search_fewestChanges_77 b1 s5) else (f_Search_fewestChanges_77 b1 s)
set_option maxRecDepth 8000 in
theorem b_Search_fewestChanges_68 {sc : List Int} {Q : Option kV → kH → Prop} (b1 : Nat) (hb1 : tT b1 = true) (s : kM) (t : Int × kM) (hf : f_Search_fewestChanges_68 b1 s = some t) (hq : (fun r => Q (some (kI r.1)) (hH r.2)) t) : kW sc 6 kc_Search_fewestChanges 1 68 [some (kr 21), none, none, none, none, none] [] (hH s) Q := by
  unfold f_Search_fewestChanges_68 at hf
  refine kw_step rfl rfl rfl rfl ?_
  refine kw_get rfl (hH_O (rfl : kotab 21 = some kHo)) rfl ?_
  refine kw_if_ne rfl rfl (fun c1 => ?_) (fun c1 => ?_)
  · have hf := giff c1 hf
    exact kW_le (L' := [some (kr 21), none, none, none, none, none]) ⟨Or.inr rfl, Or.inl rfl, Or.inl rfl, Or.inl rfl, Or.inl rfl, Or.inl rfl, trivial⟩ (b_Search_fewestChanges_77 b1 hb1 s _ hf hq)
  · have hf := gift c1 hf
    refine kw_step rfl rfl rfl rfl ?_
    refine kw_step rfl rfl rfl rfl ?_
    obtain ⟨s2, ee3, hf⟩ := gbL hf
    refine kw_putH rfl (rfl : kotab 21 = some kHo) rfl rfl rfl (Nat.le_of_ble_eq_true rfl) rfl ee3 ?_
    refine kw_step rfl rfl rfl rfl ?_
    refine kw_step rfl rfl rfl rfl ?_
    obtain ⟨s5, ee6, hf⟩ := gbL hf
    refine kw_putH rfl (rfl : kotab 21 = some kHo) rfl rfl rfl (Nat.le_of_ble_eq_true rfl) rfl ee6 ?_
    exact kW_le (L' := [some (kr 21), none, none, none, none, none]) ⟨Or.inr rfl, Or.inl rfl, Or.inl rfl, Or.inl rfl, Or.inl rfl, Or.inl rfl, trivial⟩ (b_Search_fewestChanges_77 b1 hb1 s5 _ hf hq)
def f_Search_fewestChanges_66 (b1 : Nat) (x2 : Int) (x3 : Int) (s : kM) : Option ((Int × kM) ⊕ (Int × kM)) :=
  some (.inl ((wI (x3 + 1)), s))
set_option maxRecDepth 8000 in
theorem b_Search_fewestChanges_66 {sc : List Int} {Q : Option kV → kH → Prop} (b1 : Nat) (hb1 : tT b1 = true) (x2 : Int) (x3 : Int) (s : kM) (t : (Int × kM) ⊕ (Int × kM)) (hf : f_Search_fewestChanges_66 b1 x2 x3 s = some t) (hq : (gE (fun x => kW sc 6 kc_Search_fewestChanges 1 20 [some (kr 21), some (kr b1), some (kI x2), some (kI x.1), none, none] [] (hH x.2) Q) (fun r => Q (some (kI r.1)) (hH r.2))) t) : kW sc 6 kc_Search_fewestChanges 1 66 [some (kr 21), some (kr b1), some (kI x2), some (kI x3), none, none] [] (hH s) Q := by
  unfold f_Search_fewestChanges_66 at hf
  refine kw_step (L' := [some (kr 21), some (kr b1), some (kI x2), some (kI (wI (x3 + 1))), none, none]) rfl rfl rfl rfl ?_
  refine kw_goto rfl rfl ?_
  cases hf
  exact kW_le (L' := [some (kr 21), some (kr b1), some (kI x2), some (kI (wI (x3 + 1))), none, none]) ⟨Or.inr rfl, Or.inr rfl, Or.inr rfl, Or.inr rfl, Or.inl rfl, Or.inl rfl, trivial⟩ hq
def f_Search_fewestChanges_56 (b1 : Nat) (x2 : Int) (x3 : Int) (x4 : Int) (x5 : Int) (s : kM) : Option ((Int × Int × kM) ⊕ ((Int × kM) ⊕ (Int × kM))) :=
  some (.inl ((kand (wI (x4 - (s b1 3))) (s b1 3)), (wI (x5 + 1)), s))
set_option maxRecDepth 8000 in
theorem b_Search_fewestChanges_56 {sc : List Int} {Q : Option kV → kH → Prop} (b1 : Nat) (hb1 : tT b1 = true) (x2 : Int) (x3 : Int) (x4 : Int) (x5 : Int) (s : kM) (t : (Int × Int × kM) ⊕ ((Int × kM) ⊕ (Int × kM))) (hf : f_Search_fewestChanges_56 b1 x2 x3 x4 x5 s = some t) (hq : (gE (fun x => kW sc 6 kc_Search_fewestChanges 1 30 [some (kr 21), some (kr b1), some (kI x2), some (kI x3), some (kI x.1), some (kI x.2.1)] [] (hH x.2.2) Q) (gE (fun x => kW sc 6 kc_Search_fewestChanges 1 20 [some (kr 21), some (kr b1), some (kI x2), some (kI x.1), none, none] [] (hH x.2) Q) (fun r => Q (some (kI r.1)) (hH r.2)))) t) : kW sc 6 kc_Search_fewestChanges 1 56 [some (kr 21), some (kr b1), some (kI x2), some (kI x3), some (kI x4), some (kI x5)] [] (hH s) Q := by
  unfold f_Search_fewestChanges_56 at hf
  refine kw_step rfl rfl rfl rfl ?_
  refine kw_step rfl rfl rfl rfl ?_
  refine kw_get rfl (hH_O (tT_0 hb1)) rfl ?_
  refine kw_step rfl rfl rfl rfl ?_
  refine kw_step rfl rfl rfl rfl ?_
  refine kw_get rfl (hH_O (tT_0 hb1)) rfl ?_
  refine kw_step rfl rfl rfl rfl ?_
  refine kw_step (L' := [some (kr 21), some (kr b1), some (kI x2), some (kI x3), some (kI (kand (wI (x4 - (s b1 3))) (s b1 3))), some (kI x5)]) rfl rfl rfl rfl ?_
  refine kw_step (L' := [some (kr 21), some (kr b1), some (kI x2), some (kI x3), some (kI (kand (wI (x4 - (s b1 3))) (s b1 3))), some (kI (wI (x5 + 1)))]) rfl rfl rfl rfl ?_
  refine kw_goto rfl rfl ?_
  cases hf
  exact kW_le (L' := [some (kr 21), some (kr b1), some (kI x2), some (kI x3), some (kI (kand (wI (x4 - (s b1 3))) (s b1 3))), some (kI (wI (x5 + 1)))]) ⟨Or.inr rfl, Or.inr rfl, Or.inr rfl, Or.inr rfl, Or.inr rfl, Or.inr rfl, trivial⟩ hq
def f_Search_fewestChanges_30b (b1 : Nat) (x2 : Int) (x3 : Int) (x4 : Int) (x5 : Int) (s : kM) : Option ((Int × Int × kM) ⊕ ((Int × kM) ⊕ (Int × kM))) :=
  if x2 ≤ x5 then ((f_Search_fewestChanges_66 b1 x2 x3 s).map Sum.inr) else (if (s 21 18) = 0 then ((f_Integer_bitCount x4 s).bind fun q7 => if q7 = x3 then ((f_Search_tryOut b1 x4 s).bind fun q9 => if q9.1 = 0 then (f_Search_fewestChanges_56 b1 x2 x3 x4 x5 q9.2) else ((f_Search_shake 34 q9.2).bind fun q12 => if q12.1 < 0 then (f_Search_fewestChanges_56 b1 x2 x3 x4 x5 q12.2) else (gLet (gU q12.2 21 17 x4) fun s15 => gLet (gU s15 21 18 1) fun s18 => f_Search_fewestChanges_56 b1 x2 x3 x4 x5 s18))) else (f_Search_fewestChanges_56 b1 x2 x3 x4 x5 s)) else ((f_Search_fewestChanges_66 b1 x2 x3 s).map Sum.inr))
set_option maxRecDepth 8000 in
theorem b_Search_fewestChanges_30b {sc : List Int} {Q : Option kV → kH → Prop} (b1 : Nat) (hb1 : tT b1 = true) (x2 : Int) (x3 : Int) (x4 : Int) (x5 : Int) (s : kM) (t : (Int × Int × kM) ⊕ ((Int × kM) ⊕ (Int × kM))) (hf : f_Search_fewestChanges_30b b1 x2 x3 x4 x5 s = some t) (hq : (gE (fun x => kW sc 6 kc_Search_fewestChanges 1 30 [some (kr 21), some (kr b1), some (kI x2), some (kI x3), some (kI x.1), some (kI x.2.1)] [] (hH x.2.2) Q) (gE (fun x => kW sc 6 kc_Search_fewestChanges 1 20 [some (kr 21), some (kr b1), some (kI x2), some (kI x.1), none, none] [] (hH x.2) Q) (fun r => Q (some (kI r.1)) (hH r.2)))) t) : kW sc 6 kc_Search_fewestChanges 1 30 [some (kr 21), some (kr b1), some (kI x2), some (kI x3), some (kI x4), some (kI x5)] [] (hH s) Q := by
  unfold f_Search_fewestChanges_30b at hf
  refine kw_step rfl rfl rfl rfl ?_
  refine kw_step rfl rfl rfl rfl ?_
  refine kw_icmp_ge rfl rfl (fun c1 => ?_) (fun c1 => ?_)
  · have hf := gift c1 hf
    obtain ⟨t2, hg3, rfl⟩ := gmap hf
    exact kW_le (L' := [some (kr 21), some (kr b1), some (kI x2), some (kI x3), none, none]) ⟨Or.inr rfl, Or.inr rfl, Or.inr rfl, Or.inr rfl, Or.inl rfl, Or.inl rfl, trivial⟩ (b_Search_fewestChanges_66 b1 hb1 x2 x3 s _ hg3 hq)
  · have hf := giff c1 hf
    refine kw_step rfl rfl rfl rfl ?_
    refine kw_get rfl (hH_O (rfl : kotab 21 = some kHo)) rfl ?_
    refine kw_if_ne rfl rfl (fun c4 => ?_) (fun c4 => ?_)
    · have hf := giff c4 hf
      obtain ⟨t5, hg6, rfl⟩ := gmap hf
      exact kW_le (L' := [some (kr 21), some (kr b1), some (kI x2), some (kI x3), none, none]) ⟨Or.inr rfl, Or.inr rfl, Or.inr rfl, Or.inr rfl, Or.inl rfl, Or.inl rfl, trivial⟩ (b_Search_fewestChanges_66 b1 hb1 x2 x3 s _ hg6 hq)
    · have hf := gift c4 hf
      refine kw_step rfl rfl rfl rfl ?_
      obtain ⟨q7, hq7, hf⟩ := gbind hf
      refine kw_callS (vs := [kI x4]) rfl rfl rfl ⟨rfl, Nat.le_of_ble_eq_true rfl, Nat.le_of_ble_eq_true rfl, rfl⟩ (c_Integer_bitCount x4 s _ hq7) (Nat.le_of_ble_eq_true rfl) ?_
      refine kw_step rfl rfl rfl rfl ?_
      refine kw_icmp_ne rfl rfl (fun c8 => ?_) (fun c8 => ?_)
      · have hf := giff c8 hf
        exact kW_le (L' := [some (kr 21), some (kr b1), some (kI x2), some (kI x3), some (kI x4), some (kI x5)]) ⟨Or.inr rfl, Or.inr rfl, Or.inr rfl, Or.inr rfl, Or.inr rfl, Or.inr rfl, trivial⟩ (b_Search_fewestChanges_56 b1 hb1 x2 x3 x4 x5 s _ hf hq)
      · have hf := gift c8 hf
        refine kw_step rfl rfl rfl rfl ?_
        refine kw_step rfl rfl rfl rfl ?_
        refine kw_step rfl rfl rfl rfl ?_
        obtain ⟨q9, hq9, hf⟩ := gbind hf
        refine kw_callV (vs := [kr b1, kI x4]) rfl rfl rfl ⟨rfl, Nat.le_of_ble_eq_true rfl, Nat.le_of_ble_eq_true rfl, by decide⟩ (hH_O (rfl : kotab 21 = some kHo)) (c_Search_tryOut b1 hb1 x4 s _ hq9) (Nat.le_of_ble_eq_true rfl) ?_
        refine kw_if_eq rfl rfl (fun c11 => ?_) (fun c11 => ?_)
        · have hf := gift c11 hf
          exact kW_le (L' := [some (kr 21), some (kr b1), some (kI x2), some (kI x3), some (kI x4), some (kI x5)]) ⟨Or.inr rfl, Or.inr rfl, Or.inr rfl, Or.inr rfl, Or.inr rfl, Or.inr rfl, trivial⟩ (b_Search_fewestChanges_56 b1 hb1 x2 x3 x4 x5 q9.2 _ hf hq)
        · have hf := giff c11 hf
          refine kw_step rfl rfl rfl rfl ?_
          refine kw_step rfl rfl rfl rfl ?_
          refine kw_get rfl (hH_O (rfl : kotab 21 = some kHo)) rfl ?_
          obtain ⟨q12, hq12, hf⟩ := gbind hf
          refine kw_callV (vs := [kr 34]) rfl rfl rfl ⟨rfl, Nat.le_of_ble_eq_true rfl, Nat.le_of_ble_eq_true rfl, by decide⟩ (hH_O (rfl : kotab 21 = some kHo)) (c_Search_shake 34 (rfl : tT 34 = true) q9.2 _ hq12) (Nat.le_of_ble_eq_true rfl) ?_
          refine kw_if_lt rfl rfl (fun c14 => ?_) (fun c14 => ?_)
          · have hf := gift c14 hf
            exact kW_le (L' := [some (kr 21), some (kr b1), some (kI x2), some (kI x3), some (kI x4), some (kI x5)]) ⟨Or.inr rfl, Or.inr rfl, Or.inr rfl, Or.inr rfl, Or.inr rfl, Or.inr rfl, trivial⟩ (b_Search_fewestChanges_56 b1 hb1 x2 x3 x4 x5 q12.2 _ hf hq)
          · have hf := giff c14 hf
            refine kw_step rfl rfl rfl rfl ?_
            refine kw_step rfl rfl rfl rfl ?_
            obtain ⟨s15, ee16, hf⟩ := gbL hf
            refine kw_putH rfl (rfl : kotab 21 = some kHo) rfl rfl rfl (Nat.le_of_ble_eq_true rfl) rfl ee16 ?_
            refine kw_step rfl rfl rfl rfl ?_
            refine kw_step rfl rfl rfl rfl ?_
            obtain ⟨s18, ee19, hf⟩ := gbL hf
            refine kw_putH rfl (rfl : kotab 21 = some kHo) rfl rfl rfl (Nat.le_of_ble_eq_true rfl) rfl ee19 ?_
            exact kW_le (L' := [some (kr 21), some (kr b1), some (kI x2), some (kI x3), some (kI x4), some (kI x5)]) ⟨Or.inr rfl, Or.inr rfl, Or.inr rfl, Or.inr rfl, Or.inr rfl, Or.inr rfl, trivial⟩ (b_Search_fewestChanges_56 b1 hb1 x2 x3 x4 x5 s18 _ hf hq)
def f_Search_fewestChanges_30 (b1 : Nat) (x2 : Int) (x3 : Int) (x4 : Int) (x5 : Int) (s : kM) : Option ((Int × kM) ⊕ (Int × kM)) :=
  gL (fun (x : Int × Int × kM) => f_Search_fewestChanges_30b b1 x2 x3 x.1 x.2.1 x.2.2) gF (x4, x5, s)
theorem b_Search_fewestChanges_30 {sc : List Int} {Q : Option kV → kH → Prop} (b1 : Nat) (hb1 : tT b1 = true) (x2 : Int) (x3 : Int) (x4 : Int) (x5 : Int) (s : kM) (t : (Int × kM) ⊕ (Int × kM)) (hf : f_Search_fewestChanges_30 b1 x2 x3 x4 x5 s = some t) (hq : (gE (fun x => kW sc 6 kc_Search_fewestChanges 1 20 [some (kr 21), some (kr b1), some (kI x2), some (kI x.1), none, none] [] (hH x.2) Q) (fun r => Q (some (kI r.1)) (hH r.2))) t) : kW sc 6 kc_Search_fewestChanges 1 30 [some (kr 21), some (kr b1), some (kI x2), some (kI x3), some (kI x4), some (kI x5)] [] (hH s) Q :=
  gL_ind (P := fun (x : Int × Int × kM) => kW sc 6 kc_Search_fewestChanges 1 30 [some (kr 21), some (kr b1), some (kI x2), some (kI x3), some (kI x.1), some (kI x.2.1)] [] (hH x.2.2) Q) (q := (gE (fun x => kW sc 6 kc_Search_fewestChanges 1 20 [some (kr 21), some (kr b1), some (kI x2), some (kI x.1), none, none] [] (hH x.2) Q) (fun r => Q (some (kI r.1)) (hH r.2)))) (fun x t hf hq => b_Search_fewestChanges_30b b1 hb1 x2 x3 x.1 x.2.1 x.2.2 t hf hq) gF (x4, x5, s) t hf hq
def f_Search_fewestChanges_20b (b1 : Nat) (x2 : Int) (x3 : Int) (s : kM) : Option ((Int × kM) ⊕ (Int × kM)) :=
  if 6 < x3 then ((f_Search_fewestChanges_68 b1 s).map Sum.inr) else (if (s 21 18) = 0 then (f_Search_fewestChanges_30 b1 x2 x3 0 0 s) else ((f_Search_fewestChanges_68 b1 s).map Sum.inr))
set_option maxRecDepth 8000 in
theorem b_Search_fewestChanges_20b {sc : List Int} {Q : Option kV → kH → Prop} (b1 : Nat) (hb1 : tT b1 = true) (x2 : Int) (x3 : Int) (s : kM) (t : (Int × kM) ⊕ (Int × kM)) (hf : f_Search_fewestChanges_20b b1 x2 x3 s = some t) (hq : (gE (fun x => kW sc 6 kc_Search_fewestChanges 1 20 [some (kr 21), some (kr b1), some (kI x2), some (kI x.1), none, none] [] (hH x.2) Q) (fun r => Q (some (kI r.1)) (hH r.2))) t) : kW sc 6 kc_Search_fewestChanges 1 20 [some (kr 21), some (kr b1), some (kI x2), some (kI x3), none, none] [] (hH s) Q := by
  unfold f_Search_fewestChanges_20b at hf
  refine kw_step rfl rfl rfl rfl ?_
  refine kw_step rfl rfl rfl rfl ?_
  refine kw_icmp_gt rfl rfl (fun c1 => ?_) (fun c1 => ?_)
  · have hf := gift c1 hf
    obtain ⟨t2, hg3, rfl⟩ := gmap hf
    exact kW_le (L' := [some (kr 21), none, none, none, none, none]) ⟨Or.inr rfl, Or.inl rfl, Or.inl rfl, Or.inl rfl, Or.inl rfl, Or.inl rfl, trivial⟩ (b_Search_fewestChanges_68 b1 hb1 s _ hg3 hq)
  · have hf := giff c1 hf
    refine kw_step rfl rfl rfl rfl ?_
    refine kw_get rfl (hH_O (rfl : kotab 21 = some kHo)) rfl ?_
    refine kw_if_ne rfl rfl (fun c4 => ?_) (fun c4 => ?_)
    · have hf := giff c4 hf
      obtain ⟨t5, hg6, rfl⟩ := gmap hf
      exact kW_le (L' := [some (kr 21), none, none, none, none, none]) ⟨Or.inr rfl, Or.inl rfl, Or.inl rfl, Or.inl rfl, Or.inl rfl, Or.inl rfl, trivial⟩ (b_Search_fewestChanges_68 b1 hb1 s _ hg6 hq)
    · have hf := gift c4 hf
      refine kw_step rfl rfl rfl rfl ?_
      refine kw_step (L' := [some (kr 21), some (kr b1), some (kI x2), some (kI x3), some (kI 0), none]) rfl rfl rfl rfl ?_
      refine kw_step rfl rfl rfl rfl ?_
      refine kw_step (L' := [some (kr 21), some (kr b1), some (kI x2), some (kI x3), some (kI 0), some (kI 0)]) rfl rfl rfl rfl ?_
      exact kW_le (L' := [some (kr 21), some (kr b1), some (kI x2), some (kI x3), some (kI 0), some (kI 0)]) ⟨Or.inr rfl, Or.inr rfl, Or.inr rfl, Or.inr rfl, Or.inr rfl, Or.inr rfl, trivial⟩ (b_Search_fewestChanges_30 b1 hb1 x2 x3 0 0 s _ hf hq)
def f_Search_fewestChanges_20 (b1 : Nat) (x2 : Int) (x3 : Int) (s : kM) : Option (Int × kM) :=
  gL (fun (x : Int × kM) => f_Search_fewestChanges_20b b1 x2 x.1 x.2) gF (x3, s)
theorem b_Search_fewestChanges_20 {sc : List Int} {Q : Option kV → kH → Prop} (b1 : Nat) (hb1 : tT b1 = true) (x2 : Int) (x3 : Int) (s : kM) (t : Int × kM) (hf : f_Search_fewestChanges_20 b1 x2 x3 s = some t) (hq : (fun r => Q (some (kI r.1)) (hH r.2)) t) : kW sc 6 kc_Search_fewestChanges 1 20 [some (kr 21), some (kr b1), some (kI x2), some (kI x3), none, none] [] (hH s) Q :=
  gL_ind (P := fun (x : Int × kM) => kW sc 6 kc_Search_fewestChanges 1 20 [some (kr 21), some (kr b1), some (kI x2), some (kI x.1), none, none] [] (hH x.2) Q) (q := (fun r => Q (some (kI r.1)) (hH r.2))) (fun x t hf hq => b_Search_fewestChanges_20b b1 hb1 x2 x.1 x.2 t hf hq) gF (x3, s) t hf hq
def f_Search_fewestChanges_17 (b1 : Nat) (x2 : Int) (y1 : Int) (s : kM) : Option (Int × kM) :=
  (gB y1).bind fun _ => gLet (gU s 21 16 y1) fun s2 => f_Search_fewestChanges_20 b1 x2 0 s2
set_option maxRecDepth 8000 in
theorem b_Search_fewestChanges_17 {sc : List Int} {Q : Option kV → kH → Prop} (b1 : Nat) (hb1 : tT b1 = true) (x2 : Int) (y1 : Int) (s : kM) (t : Int × kM) (hf : f_Search_fewestChanges_17 b1 x2 y1 s = some t) (hq : (fun r => Q (some (kI r.1)) (hH r.2)) t) : kW sc 6 kc_Search_fewestChanges 1 17 [some (kr 21), some (kr b1), some (kI x2), none, none, none] [kI y1, kr 21] (hH s) Q := by
  unfold f_Search_fewestChanges_17 at hf
  obtain ⟨w1, hf⟩ := gbB hf
  obtain ⟨s2, ee3, hf⟩ := gbL hf
  refine kw_putH rfl (rfl : kotab 21 = some kHo) rfl rfl rfl (Nat.le_of_ble_eq_true rfl) (decide_eq_true w1) ee3 ?_
  refine kw_step rfl rfl rfl rfl ?_
  refine kw_step (L' := [some (kr 21), some (kr b1), some (kI x2), some (kI 0), none, none]) rfl rfl rfl rfl ?_
  exact kW_le (L' := [some (kr 21), some (kr b1), some (kI x2), some (kI 0), none, none]) ⟨Or.inr rfl, Or.inr rfl, Or.inr rfl, Or.inr rfl, Or.inl rfl, Or.inl rfl, trivial⟩ (b_Search_fewestChanges_20 b1 hb1 x2 0 s2 _ hf hq)
def f_Search_fewestChanges_16 (b1 : Nat) (x2 : Int) (s : kM) : Option (Int × kM) :=
  f_Search_fewestChanges_17 b1 x2 0 s
set_option maxRecDepth 8000 in
theorem b_Search_fewestChanges_16 {sc : List Int} {Q : Option kV → kH → Prop} (b1 : Nat) (hb1 : tT b1 = true) (x2 : Int) (s : kM) (t : Int × kM) (hf : f_Search_fewestChanges_16 b1 x2 s = some t) (hq : (fun r => Q (some (kI r.1)) (hH r.2)) t) : kW sc 6 kc_Search_fewestChanges 1 16 [some (kr 21), some (kr b1), some (kI x2), none, none, none] [kr 21] (hH s) Q := by
  unfold f_Search_fewestChanges_16 at hf
  refine kw_step rfl rfl rfl rfl ?_
  exact kW_le (L' := [some (kr 21), some (kr b1), some (kI x2), none, none, none]) ⟨Or.inr rfl, Or.inr rfl, Or.inr rfl, Or.inl rfl, Or.inl rfl, Or.inl rfl, trivial⟩ (b_Search_fewestChanges_17 b1 hb1 x2 0 s _ hf hq)
def f_Search_fewestChanges (b1 : Nat) (s : kM) : Option (Int × kM) :=
  (f_Town_bridges b1 s).bind fun q1 => (f_Math_min q1 6 s).bind fun q2 => if (s 21 16) = 0 then (f_Search_fewestChanges_16 b1 (kshl 1 q2) s) else (if (s 21 18) = 0 then (f_Search_fewestChanges_16 b1 (kshl 1 q2) s) else (f_Search_fewestChanges_17 b1 (kshl 1 q2) 1 s))
set_option maxRecDepth 8000 in
theorem c_Search_fewestChanges {sc : List Int} (b1 : Nat) (hb1 : tT b1 = true) (s : kM) (t : Int × kM) (hf : f_Search_fewestChanges b1 s = some t) : kR sc 6 km_Search_fewestChanges [kr 21, kr b1] (hH s) (some (kI t.1)) (hH t.2) := by
  unfold f_Search_fewestChanges at hf
  refine kR.start rfl ?_
  show kW sc 6 kc_Search_fewestChanges 1 0 [some (kr 21), some (kr b1), none, none, none, none] [] (hH s) _
  have hq : (fun (r : Option kV) (g : kH) => r = some (kI t.1) ∧ g = hH t.2) (some (kI t.1)) (hH t.2) := ⟨rfl, rfl⟩
  refine kw_step rfl rfl rfl rfl ?_
  refine kw_step rfl rfl rfl rfl ?_
  obtain ⟨q1, hq1, hf⟩ := gbind hf
  refine kw_callV (vs := []) rfl rfl rfl ⟨rfl, Nat.le_of_ble_eq_true rfl, Nat.le_of_ble_eq_true rfl, by decide⟩ (hH_O (tT_0 hb1)) (c_Town_bridges b1 hb1 s _ hq1) (Nat.le_of_ble_eq_true rfl) ?_
  refine kw_step rfl rfl rfl rfl ?_
  obtain ⟨q2, hq2, hf⟩ := gbind hf
  refine kw_callS (vs := [kI q1, kI 6]) rfl rfl rfl ⟨rfl, Nat.le_of_ble_eq_true rfl, Nat.le_of_ble_eq_true rfl, rfl⟩ (c_Math_min q1 6 s _ hq2) (Nat.le_of_ble_eq_true rfl) ?_
  refine kw_step rfl rfl rfl rfl ?_
  refine kw_step (L' := [some (kr 21), some (kr b1), some (kI (kshl 1 q2)), none, none, none]) rfl rfl rfl rfl ?_
  refine kw_step rfl rfl rfl rfl ?_
  refine kw_step rfl rfl rfl rfl ?_
  refine kw_get rfl (hH_O (rfl : kotab 21 = some kHo)) rfl ?_
  refine kw_if_eq rfl rfl (fun c3 => ?_) (fun c3 => ?_)
  · have hf := gift c3 hf
    exact kW_le (L' := [some (kr 21), some (kr b1), some (kI (kshl 1 q2)), none, none, none]) ⟨Or.inr rfl, Or.inr rfl, Or.inr rfl, Or.inl rfl, Or.inl rfl, Or.inl rfl, trivial⟩ (b_Search_fewestChanges_16 b1 hb1 (kshl 1 q2) s _ hf hq)
  · have hf := giff c3 hf
    refine kw_step rfl rfl rfl rfl ?_
    refine kw_get rfl (hH_O (rfl : kotab 21 = some kHo)) rfl ?_
    refine kw_if_eq rfl rfl (fun c4 => ?_) (fun c4 => ?_)
    · have hf := gift c4 hf
      exact kW_le (L' := [some (kr 21), some (kr b1), some (kI (kshl 1 q2)), none, none, none]) ⟨Or.inr rfl, Or.inr rfl, Or.inr rfl, Or.inl rfl, Or.inl rfl, Or.inl rfl, trivial⟩ (b_Search_fewestChanges_16 b1 hb1 (kshl 1 q2) s _ hf hq)
    · have hf := giff c4 hf
      refine kw_step rfl rfl rfl rfl ?_
      refine kw_goto rfl rfl ?_
      exact kW_le (L' := [some (kr 21), some (kr b1), some (kI (kshl 1 q2)), none, none, none]) ⟨Or.inr rfl, Or.inr rfl, Or.inr rfl, Or.inl rfl, Or.inl rfl, Or.inl rfl, trivial⟩ (b_Search_fewestChanges_17 b1 hb1 (kshl 1 q2) 1 s _ hf hq)
def f_KT_changes (x1 : Int) (s : kM) : Option (Int × kM) :=
  if (s 4 0) = 0 then (some ((-1), s)) else (if x1 < 0 then (some ((-1), s)) else (if 1 < x1 then (some ((-1), s)) else ((f_Town_bridges 4 s).bind fun q4 => if q4 ≤ 6 then ((f_Search_fewestChanges 4 s).bind fun q6 => if 0 ≤ q6.1 then (if x1 = 0 then ((f_Integer_bitCount q6.1 q6.2).bind fun q10 => some (q10, q6.2)) else (some (q6.1, q6.2))) else (some ((-2), q6.2))) else (some ((-1), s)))))
set_option maxRecDepth 8000 in
theorem c_KT_changes {sc : List Int} (x1 : Int) (s : kM) (t : Int × kM) (hf : f_KT_changes x1 s = some t) : kR sc 7 km_KT_changes [kr 0, kI x1] (hH s) (some (kI t.1)) (hH t.2) := by
  unfold f_KT_changes at hf
  refine kR.start rfl ?_
  show kW sc 7 kc_KT_changes 1 0 [some (kr 0), some (kI x1), none, none] [] (hH s) _
  have hq : (fun (r : Option kV) (g : kH) => r = some (kI t.1) ∧ g = hH t.2) (some (kI t.1)) (hH t.2) := ⟨rfl, rfl⟩
  refine kw_step rfl rfl rfl rfl ?_
  refine kw_get rfl (hH_O (rfl : kotab 0 = some kKo)) rfl ?_
  refine kw_get rfl (hH_O (tS_0 (b := 3) rfl)) rfl ?_
  refine kw_step (L' := [some (kr 0), some (kI x1), some (kr 4), none]) rfl rfl rfl rfl ?_
  refine kw_step rfl rfl rfl rfl ?_
  refine kw_get rfl (hH_O (tT_0 (b := 4) rfl)) rfl ?_
  refine kw_if_eq rfl rfl (fun c1 => ?_) (fun c1 => ?_)
  · have hf := gift c1 hf
    refine kw_step rfl rfl rfl rfl ?_
    cases hf
    exact kw_ret rfl rfl rfl hq
  · have hf := giff c1 hf
    refine kw_step rfl rfl rfl rfl ?_
    refine kw_if_lt rfl rfl (fun c2 => ?_) (fun c2 => ?_)
    · have hf := gift c2 hf
      refine kw_step rfl rfl rfl rfl ?_
      cases hf
      exact kw_ret rfl rfl rfl hq
    · have hf := giff c2 hf
      refine kw_step rfl rfl rfl rfl ?_
      refine kw_step rfl rfl rfl rfl ?_
      refine kw_icmp_gt rfl rfl (fun c3 => ?_) (fun c3 => ?_)
      · have hf := gift c3 hf
        refine kw_step rfl rfl rfl rfl ?_
        cases hf
        exact kw_ret rfl rfl rfl hq
      · have hf := giff c3 hf
        refine kw_step rfl rfl rfl rfl ?_
        obtain ⟨q4, hq4, hf⟩ := gbind hf
        refine kw_callV (vs := []) rfl rfl rfl ⟨rfl, Nat.le_of_ble_eq_true rfl, Nat.le_of_ble_eq_true rfl, by decide⟩ (hH_O (tT_0 (b := 4) rfl)) (c_Town_bridges 4 (rfl : tT 4 = true) s _ hq4) (Nat.le_of_ble_eq_true rfl) ?_
        refine kw_step rfl rfl rfl rfl ?_
        refine kw_icmp_le rfl rfl (fun c5 => ?_) (fun c5 => ?_)
        · have hf := gift c5 hf
          refine kw_step rfl rfl rfl rfl ?_
          refine kw_get rfl (hH_O (rfl : kotab 0 = some kKo)) rfl ?_
          refine kw_step rfl rfl rfl rfl ?_
          obtain ⟨q6, hq6, hf⟩ := gbind hf
          refine kw_callV (vs := [kr 4]) rfl rfl rfl ⟨rfl, Nat.le_of_ble_eq_true rfl, Nat.le_of_ble_eq_true rfl, by decide⟩ (hH_O (rfl : kotab 21 = some kHo)) (c_Search_fewestChanges 4 (rfl : tT 4 = true) s _ hq6) (Nat.le_of_ble_eq_true rfl) ?_
          refine kw_step (L' := [some (kr 0), some (kI x1), some (kr 4), some (kI q6.1)]) rfl rfl rfl rfl ?_
          refine kw_step rfl rfl rfl rfl ?_
          refine kw_if_ge rfl rfl (fun c8 => ?_) (fun c8 => ?_)
          · have hf := gift c8 hf
            refine kw_step rfl rfl rfl rfl ?_
            refine kw_if_ne rfl rfl (fun c9 => ?_) (fun c9 => ?_)
            · have hf := giff c9 hf
              refine kw_step rfl rfl rfl rfl ?_
              cases hf
              exact kw_ret rfl rfl rfl hq
            · have hf := gift c9 hf
              refine kw_step rfl rfl rfl rfl ?_
              obtain ⟨q10, hq10, hf⟩ := gbind hf
              refine kw_callS (vs := [kI q6.1]) rfl rfl rfl ⟨rfl, Nat.le_of_ble_eq_true rfl, Nat.le_of_ble_eq_true rfl, rfl⟩ (c_Integer_bitCount q6.1 q6.2 _ hq10) (Nat.le_of_ble_eq_true rfl) ?_
              refine kw_goto rfl rfl ?_
              cases hf
              exact kw_ret rfl rfl rfl hq
          · have hf := giff c8 hf
            refine kw_step rfl rfl rfl rfl ?_
            cases hf
            exact kw_ret rfl rfl rfl hq
        · have hf := giff c5 hf
          refine kw_step rfl rfl rfl rfl ?_
          cases hf
          exact kw_ret rfl rfl rfl hq
def f_KT_ruleInForce_15 (s : kM) : Option (Int) :=
  some (-1)
set_option maxRecDepth 8000 in
theorem b_KT_ruleInForce_15 {sc : List Int} {Q : Option kV → kH → Prop} (s : kM) (t : Int) (hf : f_KT_ruleInForce_15 s = some t) (hq : (fun r => Q (some (kq r)) (hH s)) t) : kW sc 0 kc_KT_ruleInForce 4 15 [none, none] [] (hH s) Q := by
  unfold f_KT_ruleInForce_15 at hf
  refine kw_step (st' := [kq (-1)]) rfl rfl rfl rfl ?_
  cases hf
  exact kw_ret rfl rfl rfl hq
def f_KT_ruleInForce (s : kM) : Option (Int) :=
  if (s 3 2) < 0 then (f_KT_ruleInForce_15 s) else (if (s 0 11) ≤ (s 3 2) then (f_KT_ruleInForce_15 s) else ((gI 6 (s 3 2)).bind fun j3 => some (s 56 j3)))
set_option maxRecDepth 8000 in
theorem c_KT_ruleInForce {sc : List Int} (s : kM) (t : Int) (hf : f_KT_ruleInForce s = some t) : kR sc 0 km_KT_ruleInForce [kr 0] (hH s) (some (kq t)) (hH s) := by
  unfold f_KT_ruleInForce at hf
  refine kR.start rfl ?_
  show kW sc 0 kc_KT_ruleInForce 4 0 [some (kr 0), none] [] (hH s) _
  have hq : (fun (r : Option kV) (g : kH) => r = some (kq t) ∧ g = hH s) (some (kq t)) (hH s) := ⟨rfl, rfl⟩
  refine kw_step rfl rfl rfl rfl ?_
  refine kw_get rfl (hH_O (rfl : kotab 0 = some kKo)) rfl ?_
  refine kw_get rfl (hH_O (tS_0 (b := 3) rfl)) rfl ?_
  refine kw_step (L' := [some (kr 0), some (kI (s 3 2))]) rfl rfl rfl rfl ?_
  refine kw_step rfl rfl rfl rfl ?_
  refine kw_if_lt rfl rfl (fun c1 => ?_) (fun c1 => ?_)
  · have hf := gift c1 hf
    exact kW_le (L' := [none, none]) ⟨Or.inl rfl, Or.inl rfl, trivial⟩ (b_KT_ruleInForce_15 s _ hf hq)
  · have hf := giff c1 hf
    refine kw_step rfl rfl rfl rfl ?_
    refine kw_step rfl rfl rfl rfl ?_
    refine kw_get rfl (hH_O (rfl : kotab 0 = some kKo)) rfl ?_
    refine kw_icmp_ge rfl rfl (fun c2 => ?_) (fun c2 => ?_)
    · have hf := gift c2 hf
      exact kW_le (L' := [none, none]) ⟨Or.inl rfl, Or.inl rfl, trivial⟩ (b_KT_ruleInForce_15 s _ hf hq)
    · have hf := giff c2 hf
      refine kw_step rfl rfl rfl rfl ?_
      refine kw_get rfl (hH_O (rfl : kotab 0 = some kKo)) rfl ?_
      refine kw_step rfl rfl rfl rfl ?_
      obtain ⟨j3, i4, hf⟩ := gbI hf
      refine kw_rul rfl i4.1 i4.2.1 i4.2.2 ?_
      refine kw_goto rfl rfl ?_
      cases hf
      exact kw_ret rfl rfl rfl hq
def f_Gossip_begin (b1 : Nat) (x2 : Int) (s : kM) : Option (kM) :=
  gLet (gU s 51 2 (kshl 1 x2)) fun s1 => (f_Town_bridges b1 s1).bind fun q4 => gLet (gU s1 52 7 q4) fun s5 => some s5
set_option maxRecDepth 8000 in
theorem c_Gossip_begin {sc : List Int} (b1 : Nat) (hb1 : tT b1 = true) (x2 : Int) (s : kM) (t : kM) (hf : f_Gossip_begin b1 x2 s = some t) : kR sc 2 km_Gossip_begin [kr 51, kr b1, kI x2] (hH s) none (hH t) := by
  unfold f_Gossip_begin at hf
  refine kR.start rfl ?_
  show kW sc 2 kc_Gossip_begin 0 0 [some (kr 51), some (kr b1), some (kI x2)] [] (hH s) _
  have hq : (fun (r : Option kV) (g : kH) => r = none ∧ g = hH t) none (hH t) := ⟨rfl, rfl⟩
  refine kw_step rfl rfl rfl rfl ?_
  refine kw_step rfl rfl rfl rfl ?_
  refine kw_step rfl rfl rfl rfl ?_
  refine kw_step rfl rfl rfl rfl ?_
  obtain ⟨s1, ee2, hf⟩ := gbL hf
  refine kw_putH rfl (rfl : kotab 51 = some kGo) rfl rfl rfl (Nat.le_of_ble_eq_true rfl) rfl ee2 ?_
  refine kw_step rfl rfl rfl rfl ?_
  refine kw_get rfl (hH_O (rfl : kotab 51 = some kGo)) rfl ?_
  refine kw_step rfl rfl rfl rfl ?_
  refine kw_step rfl rfl rfl rfl ?_
  obtain ⟨q4, hq4, hf⟩ := gbind hf
  refine kw_callV (vs := []) rfl rfl rfl ⟨rfl, Nat.le_of_ble_eq_true rfl, Nat.le_of_ble_eq_true rfl, by decide⟩ (hH_O (tT_0 hb1)) (c_Town_bridges b1 hb1 s1 _ hq4) (Nat.le_of_ble_eq_true rfl) ?_
  refine kw_step rfl rfl rfl rfl ?_
  obtain ⟨s5, ee6, hf⟩ := gbL hf
  refine kw_lastH rfl (rfl : ktab 52 = some (3, 8)) (by decide) (by decide) (j := 7) rfl ee6 ?_
  cases hf
  exact kw_ret rfl rfl rfl hq
def f_Rule_wordOf (a0 : Nat) (n0 : Nat) (x1 : Int) (s : kM) : Option (Int) :=
  if (wI ((-1) - x1)) < 0 then (some 0) else (if ((n0 : Nat) : Int) ≤ (wI ((-1) - x1)) then (some 0) else ((gI n0 (wI ((-1) - x1))).bind fun j3 => some (s a0 j3)))
set_option maxRecDepth 8000 in
theorem c_Rule_wordOf {sc : List Int} (a0 : Nat) (n0 : Nat) (ha0 : ktab a0 = some (3, n0)) (x1 : Int) (s : kM) (t : Int) (hf : f_Rule_wordOf a0 n0 x1 s = some t) : kR sc 0 km_Rule_wordOf [kr a0, kI x1] (hH s) (some (kJ t)) (hH s) := by
  unfold f_Rule_wordOf at hf
  refine kR.start rfl ?_
  show kW sc 0 kc_Rule_wordOf 3 0 [some (kr a0), some (kI x1), none] [] (hH s) _
  have hq : (fun (r : Option kV) (g : kH) => r = some (kJ t) ∧ g = hH s) (some (kJ t)) (hH s) := ⟨rfl, rfl⟩
  refine kw_step rfl rfl rfl rfl ?_
  refine kw_step rfl rfl rfl rfl ?_
  refine kw_step rfl rfl rfl rfl ?_
  refine kw_step (L' := [some (kr a0), some (kI x1), some (kI (wI ((-1) - x1)))]) rfl rfl rfl rfl ?_
  refine kw_step rfl rfl rfl rfl ?_
  refine kw_if_lt rfl rfl (fun c1 => ?_) (fun c1 => ?_)
  · have hf := gift c1 hf
    refine kw_step rfl rfl rfl rfl ?_
    cases hf
    exact kw_ret rfl rfl rfl hq
  · have hf := giff c1 hf
    refine kw_step rfl rfl rfl rfl ?_
    refine kw_step rfl rfl rfl rfl ?_
    refine kw_alen rfl (hH_A ha0) (by decide) ?_
    refine kw_icmp_ge rfl rfl (fun c2 => ?_) (fun c2 => ?_)
    · have hf := gift c2 hf
      refine kw_step rfl rfl rfl rfl ?_
      cases hf
      exact kw_ret rfl rfl rfl hq
    · have hf := giff c2 hf
      refine kw_step rfl rfl rfl rfl ?_
      refine kw_step rfl rfl rfl rfl ?_
      obtain ⟨j3, i4, hf⟩ := gbI hf
      refine kw_lald rfl (hH_A ha0) i4.1 i4.2.1 i4.2.2 ?_
      refine kw_goto rfl rfl ?_
      cases hf
      exact kw_ret rfl rfl rfl hq
def f_Rule_compare (x0 : Int) (x1 : Int) (x3 : Int) (s : kM) : Option (Int) :=
  if x0 = (-18) then (if x1 < x3 then (some 0) else (some 1)) else if x0 = (-17) then (if x1 = x3 then (some 1) else (some 0)) else if x0 = (-16) then (if x3 < x1 then (some 0) else (some 1)) else if x0 = (-15) then (if x3 ≤ x1 then (some 0) else (some 1)) else (if x1 ≤ x3 then (some 0) else (some 1))
set_option maxRecDepth 8000 in
theorem c_Rule_compare {sc : List Int} (x0 : Int) (x1 : Int) (x3 : Int) (s : kM) (t : Int) (hf : f_Rule_compare x0 x1 x3 s = some t) : kR sc 0 km_Rule_compare [kI x0, kJ x1, kJ x3] (hH s) (some (kI t)) (hH s) := by
  unfold f_Rule_compare at hf
  refine kR.start rfl ?_
  show kW sc 0 kc_Rule_compare 2 0 [some (kI x0), some (kJ x1), none, some (kJ x3), none] [] (hH s) _
  have hq : (fun (r : Option kV) (g : kH) => r = some (kI t) ∧ g = hH s) (some (kI t)) (hH s) := ⟨rfl, rfl⟩
  refine kw_step rfl rfl rfl rfl ?_
  by_cases c1 : x0 = (-18)
  · have hf := gift c1 hf
    refine kw_tsw_at rfl c1 rfl rfl rfl ?_
    refine kw_step rfl rfl rfl rfl ?_
    refine kw_step rfl rfl rfl rfl ?_
    refine kw_lc_lt rfl rfl rfl (fun c2 => ?_) (fun c2 => ?_)
    · have hf := gift c2 hf
      refine kw_step rfl rfl rfl rfl ?_
      cases hf
      exact kw_ret rfl rfl rfl hq
    · have hf := giff c2 hf
      refine kw_step rfl rfl rfl rfl ?_
      refine kw_goto rfl rfl ?_
      cases hf
      exact kw_ret rfl rfl rfl hq
  have hf := giff c1 hf
  by_cases c3 : x0 = (-17)
  · have hf := gift c3 hf
    refine kw_tsw_at rfl c3 rfl rfl rfl ?_
    refine kw_step rfl rfl rfl rfl ?_
    refine kw_step rfl rfl rfl rfl ?_
    refine kw_lc_ne rfl rfl rfl (fun c4 => ?_) (fun c4 => ?_)
    · have hf := giff c4 hf
      refine kw_step rfl rfl rfl rfl ?_
      cases hf
      exact kw_ret rfl rfl rfl hq
    · have hf := gift c4 hf
      refine kw_step rfl rfl rfl rfl ?_
      refine kw_goto rfl rfl ?_
      cases hf
      exact kw_ret rfl rfl rfl hq
  have hf := giff c3 hf
  by_cases c5 : x0 = (-16)
  · have hf := gift c5 hf
    refine kw_tsw_at rfl c5 rfl rfl rfl ?_
    refine kw_step rfl rfl rfl rfl ?_
    refine kw_step rfl rfl rfl rfl ?_
    refine kw_lc_gt rfl rfl rfl (fun c6 => ?_) (fun c6 => ?_)
    · have hf := gift c6 hf
      refine kw_step rfl rfl rfl rfl ?_
      cases hf
      exact kw_ret rfl rfl rfl hq
    · have hf := giff c6 hf
      refine kw_step rfl rfl rfl rfl ?_
      refine kw_goto rfl rfl ?_
      cases hf
      exact kw_ret rfl rfl rfl hq
  have hf := giff c5 hf
  by_cases c7 : x0 = (-15)
  · have hf := gift c7 hf
    refine kw_tsw_at rfl c7 rfl rfl rfl ?_
    refine kw_step rfl rfl rfl rfl ?_
    refine kw_step rfl rfl rfl rfl ?_
    refine kw_lc_ge rfl rfl rfl (fun c8 => ?_) (fun c8 => ?_)
    · have hf := gift c8 hf
      refine kw_step rfl rfl rfl rfl ?_
      cases hf
      exact kw_ret rfl rfl rfl hq
    · have hf := giff c8 hf
      refine kw_step rfl rfl rfl rfl ?_
      refine kw_goto rfl rfl ?_
      cases hf
      exact kw_ret rfl rfl rfl hq
  have hf := giff c7 hf
  refine kw_tsw_out rfl (by omega) rfl ?_
  refine kw_step rfl rfl rfl rfl ?_
  refine kw_step rfl rfl rfl rfl ?_
  refine kw_lc_le rfl rfl rfl (fun c9 => ?_) (fun c9 => ?_)
  · have hf := gift c9 hf
    refine kw_step rfl rfl rfl rfl ?_
    cases hf
    exact kw_ret rfl rfl rfl hq
  · have hf := giff c9 hf
    refine kw_step rfl rfl rfl rfl ?_
    refine kw_goto rfl rfl ?_
    cases hf
    exact kw_ret rfl rfl rfl hq
