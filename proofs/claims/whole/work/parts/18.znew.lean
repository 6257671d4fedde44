/-! PRINTED by wip/whole/dec18z.py: the two methods that make a RULE -/
def f_RuleText_read_43 (s : kM) : Option (Int × kM) :=
  if (s 1 3) = 0 then ((gNw s).bind fun q2 => some ((s 900 0), q2)) else (some ((-1), s))
set_option maxRecDepth 8000 in
theorem b_RuleText_read_43 {sc : List Int} {Q : Option kV → kH → Prop} (s : kM) (t : Int × kM) (hf : f_RuleText_read_43 s = some t) (hq : (fun r => Q (some (kq r.1)) (hH r.2)) t) : kW sc 242 kc_RuleText_read 4 43 [some (kr 54), some (kr 1), none, none] [] (hH s) Q := by
  unfold f_RuleText_read_43 at hf
  refine kw_step rfl rfl rfl rfl ?_
  refine kw_get rfl (hH_O (rfl : kotab 1 = some kPo)) rfl ?_
  refine kw_if_ne rfl rfl (fun c1 => ?_) (fun c1 => ?_)
  · have hf := giff c1 hf
    refine kw_step (st' := [kq (-1)]) rfl rfl rfl rfl ?_
    cases hf
    exact kw_ret rfl rfl rfl hq
  · have hf := gift c1 hf
    obtain ⟨q2, ee3, h4, hf⟩ := gbN2 hf
    refine kw_newR2 ee3 h4 ?_
    refine kw_goto rfl rfl ?_
    cases hf
    exact kw_ret rfl rfl rfl hq
def f_RuleText_read_37 (s : kM) : Option (Int × kM) :=
  (f_Tape_atEnd s).bind fun q1 => if q1 = 0 then ((f_Tape_fail 0 s).bind fun q3 => f_RuleText_read_43 q3) else (f_RuleText_read_43 s)
set_option maxRecDepth 8000 in
theorem b_RuleText_read_37 {sc : List Int} {Q : Option kV → kH → Prop} (s : kM) (t : Int × kM) (hf : f_RuleText_read_37 s = some t) (hq : (fun r => Q (some (kq r.1)) (hH r.2)) t) : kW sc 242 kc_RuleText_read 4 37 [some (kr 54), some (kr 1), none, none] [] (hH s) Q := by
  unfold f_RuleText_read_37 at hf
  refine kw_step rfl rfl rfl rfl ?_
  obtain ⟨q1, hq1, hf⟩ := gbind hf
  refine kw_callV (vs := []) rfl rfl rfl ⟨rfl, Nat.le_of_ble_eq_true rfl, Nat.le_of_ble_eq_true rfl, by decide⟩ (hH_O (rfl : kotab 1 = some kPo)) (c_Tape_atEnd s _ hq1) (Nat.le_of_ble_eq_true rfl) ?_
  refine kw_if_ne rfl rfl (fun c2 => ?_) (fun c2 => ?_)
  · have hf := giff c2 hf
    exact kW_le (L' := [some (kr 54), some (kr 1), none, none]) ⟨Or.inr rfl, Or.inr rfl, Or.inl rfl, Or.inl rfl, trivial⟩ (b_RuleText_read_43 s _ hf hq)
  · have hf := gift c2 hf
    refine kw_step rfl rfl rfl rfl ?_
    refine kw_step rfl rfl rfl rfl ?_
    obtain ⟨q3, hq3, hf⟩ := gbind hf
    refine kw_callV (vs := [kI 0]) rfl rfl rfl ⟨rfl, Nat.le_of_ble_eq_true rfl, Nat.le_of_ble_eq_true rfl, by decide⟩ (hH_O (rfl : kotab 1 = some kPo)) (c_Tape_fail 0 s _ hq3) (Nat.le_of_ble_eq_true rfl) ?_
    exact kW_le (L' := [some (kr 54), some (kr 1), none, none]) ⟨Or.inr rfl, Or.inr rfl, Or.inl rfl, Or.inl rfl, trivial⟩ (b_RuleText_read_43 q3 _ hf hq)
def f_RuleText_read_34 (x3 : Int) (y0 : Int) (s : kM) : Option ((Int × Int × kM) ⊕ (Int × kM)) :=
  some (.inl (y0, (wI (x3 + 1)), s))
set_option maxRecDepth 8000 in
theorem b_RuleText_read_34 {sc : List Int} {Q : Option kV → kH → Prop} (x3 : Int) (y0 : Int) (s : kM) (t : (Int × Int × kM) ⊕ (Int × kM)) (hf : f_RuleText_read_34 x3 y0 s = some t) (hq : (gE (fun x => kW sc 242 kc_RuleText_read 4 15 [some (kr 54), some (kr 1), some (kI x.1), some (kI x.2.1)] [] (hH x.2.2) Q) (fun r => Q (some (kq r.1)) (hH r.2))) t) : kW sc 242 kc_RuleText_read 4 34 [some (kr 54), some (kr 1), none, some (kI x3)] [kI y0] (hH s) Q := by
  unfold f_RuleText_read_34 at hf
  refine kw_step (L' := [some (kr 54), some (kr 1), some (kI y0), some (kI x3)]) rfl rfl rfl rfl ?_
  refine kw_step (L' := [some (kr 54), some (kr 1), some (kI y0), some (kI (wI (x3 + 1)))]) rfl rfl rfl rfl ?_
  refine kw_goto rfl rfl ?_
  cases hf
  exact kW_le (L' := [some (kr 54), some (kr 1), some (kI y0), some (kI (wI (x3 + 1)))]) ⟨Or.inr rfl, Or.inr rfl, Or.inr rfl, Or.inr rfl, trivial⟩ hq
def f_RuleText_read_33 (x3 : Int) (s : kM) : Option ((Int × Int × kM) ⊕ (Int × kM)) :=
  f_RuleText_read_34 x3 0 s
set_option maxRecDepth 8000 in
theorem b_RuleText_read_33 {sc : List Int} {Q : Option kV → kH → Prop} (x3 : Int) (s : kM) (t : (Int × Int × kM) ⊕ (Int × kM)) (hf : f_RuleText_read_33 x3 s = some t) (hq : (gE (fun x => kW sc 242 kc_RuleText_read 4 15 [some (kr 54), some (kr 1), some (kI x.1), some (kI x.2.1)] [] (hH x.2.2) Q) (fun r => Q (some (kq r.1)) (hH r.2))) t) : kW sc 242 kc_RuleText_read 4 33 [some (kr 54), some (kr 1), none, some (kI x3)] [] (hH s) Q := by
  unfold f_RuleText_read_33 at hf
  refine kw_step rfl rfl rfl rfl ?_
  exact kW_le (L' := [some (kr 54), some (kr 1), none, some (kI x3)]) ⟨Or.inr rfl, Or.inr rfl, Or.inl rfl, Or.inr rfl, trivial⟩ (b_RuleText_read_34 x3 0 s _ hf hq)
def f_RuleText_read_15b (x2 : Int) (x3 : Int) (s : kM) : Option ((Int × Int × kM) ⊕ (Int × kM)) :=
  if 12 < x3 then ((f_RuleText_read_37 s).map Sum.inr) else (if x2 = 0 then ((f_RuleText_read_37 s).map Sum.inr) else ((f_RuleText_readClause x3 s).bind fun q7 => if (q7 1 3) = 0 then ((f_Tape_takeSign 59 q7).bind fun q10 => if q10.1 = 0 then (f_RuleText_read_33 x3 q10.2) else (f_RuleText_read_34 x3 1 q10.2)) else (f_RuleText_read_33 x3 q7)))
set_option maxRecDepth 8000 in
theorem b_RuleText_read_15b {sc : List Int} {Q : Option kV → kH → Prop} (x2 : Int) (x3 : Int) (s : kM) (t : (Int × Int × kM) ⊕ (Int × kM)) (hf : f_RuleText_read_15b x2 x3 s = some t) (hq : (gE (fun x => kW sc 242 kc_RuleText_read 4 15 [some (kr 54), some (kr 1), some (kI x.1), some (kI x.2.1)] [] (hH x.2.2) Q) (fun r => Q (some (kq r.1)) (hH r.2))) t) : kW sc 242 kc_RuleText_read 4 15 [some (kr 54), some (kr 1), some (kI x2), some (kI x3)] [] (hH s) Q := by
  unfold f_RuleText_read_15b at hf
  refine kw_step rfl rfl rfl rfl ?_
  refine kw_step rfl rfl rfl rfl ?_
  refine kw_icmp_gt rfl rfl (fun c1 => ?_) (fun c1 => ?_)
  · have hf := gift c1 hf
    obtain ⟨t2, hg3, rfl⟩ := gmap hf
    exact kW_le (L' := [some (kr 54), some (kr 1), none, none]) ⟨Or.inr rfl, Or.inr rfl, Or.inl rfl, Or.inl rfl, trivial⟩ (b_RuleText_read_37 s _ hg3 hq)
  · have hf := giff c1 hf
    refine kw_step rfl rfl rfl rfl ?_
    refine kw_if_eq rfl rfl (fun c4 => ?_) (fun c4 => ?_)
    · have hf := gift c4 hf
      obtain ⟨t5, hg6, rfl⟩ := gmap hf
      exact kW_le (L' := [some (kr 54), some (kr 1), none, none]) ⟨Or.inr rfl, Or.inr rfl, Or.inl rfl, Or.inl rfl, trivial⟩ (b_RuleText_read_37 s _ hg6 hq)
    · have hf := giff c4 hf
      refine kw_step rfl rfl rfl rfl ?_
      refine kw_step rfl rfl rfl rfl ?_
      refine kw_step rfl rfl rfl rfl ?_
      obtain ⟨q7, hq7, hf⟩ := gbind hf
      refine kw_callV (vs := [kr 1, kI x3]) rfl rfl rfl ⟨rfl, Nat.le_of_ble_eq_true rfl, Nat.le_of_ble_eq_true rfl, by decide⟩ (hH_O (rfl : kotab 54 = some kXo)) (c_RuleText_readClause x3 s _ hq7) (Nat.le_of_ble_eq_true rfl) ?_
      refine kw_step rfl rfl rfl rfl ?_
      refine kw_get rfl (hH_O (rfl : kotab 1 = some kPo)) rfl ?_
      refine kw_if_ne rfl rfl (fun c9 => ?_) (fun c9 => ?_)
      · have hf := giff c9 hf
        exact kW_le (L' := [some (kr 54), some (kr 1), none, some (kI x3)]) ⟨Or.inr rfl, Or.inr rfl, Or.inl rfl, Or.inr rfl, trivial⟩ (b_RuleText_read_33 x3 q7 _ hf hq)
      · have hf := gift c9 hf
        refine kw_step rfl rfl rfl rfl ?_
        refine kw_step rfl rfl rfl rfl ?_
        obtain ⟨q10, hq10, hf⟩ := gbind hf
        refine kw_callV (vs := [kI 59]) rfl rfl rfl ⟨rfl, Nat.le_of_ble_eq_true rfl, Nat.le_of_ble_eq_true rfl, by decide⟩ (hH_O (rfl : kotab 1 = some kPo)) (c_Tape_takeSign 59 q7 _ hq10) (Nat.le_of_ble_eq_true rfl) ?_
        refine kw_if_eq rfl rfl (fun c12 => ?_) (fun c12 => ?_)
        · have hf := gift c12 hf
          exact kW_le (L' := [some (kr 54), some (kr 1), none, some (kI x3)]) ⟨Or.inr rfl, Or.inr rfl, Or.inl rfl, Or.inr rfl, trivial⟩ (b_RuleText_read_33 x3 q10.2 _ hf hq)
        · have hf := giff c12 hf
          refine kw_step rfl rfl rfl rfl ?_
          refine kw_goto rfl rfl ?_
          exact kW_le (L' := [some (kr 54), some (kr 1), none, some (kI x3)]) ⟨Or.inr rfl, Or.inr rfl, Or.inl rfl, Or.inr rfl, trivial⟩ (b_RuleText_read_34 x3 1 q10.2 _ hf hq)
def f_RuleText_read_15 (x2 : Int) (x3 : Int) (s : kM) : Option (Int × kM) :=
  gL (fun (x : Int × Int × kM) => f_RuleText_read_15b x.1 x.2.1 x.2.2) gF (x2, x3, s)
theorem b_RuleText_read_15 {sc : List Int} {Q : Option kV → kH → Prop} (x2 : Int) (x3 : Int) (s : kM) (t : Int × kM) (hf : f_RuleText_read_15 x2 x3 s = some t) (hq : (fun r => Q (some (kq r.1)) (hH r.2)) t) : kW sc 242 kc_RuleText_read 4 15 [some (kr 54), some (kr 1), some (kI x2), some (kI x3)] [] (hH s) Q :=
  gL_ind (P := fun (x : Int × Int × kM) => kW sc 242 kc_RuleText_read 4 15 [some (kr 54), some (kr 1), some (kI x.1), some (kI x.2.1)] [] (hH x.2.2) Q) (q := (fun r => Q (some (kq r.1)) (hH r.2))) (fun x t hf hq => b_RuleText_read_15b x.1 x.2.1 x.2.2 t hf hq) gF (x2, x3, s) t hf hq
def f_RuleText_read (s : kM) : Option (Int × kM) :=
  gLet (gU s 54 1 0) fun s1 => gLet (gU s1 54 2 0) fun s4 => gLet (gU s4 54 3 0) fun s7 => (f_Tape_rewind s7).bind fun q10 => f_RuleText_read_15 1 0 q10
set_option maxRecDepth 8000 in
theorem c_RuleText_read {sc : List Int} (s : kM) (t : Int × kM) (hf : f_RuleText_read s = some t) : kR sc 242 km_RuleText_read [kr 54, kr 1] (hH s) (some (kq t.1)) (hH t.2) := by
  unfold f_RuleText_read at hf
  refine kR.start rfl ?_
  show kW sc 242 kc_RuleText_read 4 0 [some (kr 54), some (kr 1), none, none] [] (hH s) _
  have hq : (fun (r : Option kV) (g : kH) => r = some (kq t.1) ∧ g = hH t.2) (some (kq t.1)) (hH t.2) := ⟨rfl, rfl⟩
  refine kw_step rfl rfl rfl rfl ?_
  refine kw_step rfl rfl rfl rfl ?_
  obtain ⟨s1, ee2, hf⟩ := gbL hf
  refine kw_putH rfl (rfl : kotab 54 = some kXo) rfl rfl rfl (Nat.le_of_ble_eq_true rfl) rfl ee2 ?_
  refine kw_step rfl rfl rfl rfl ?_
  refine kw_step rfl rfl rfl rfl ?_
  obtain ⟨s4, ee5, hf⟩ := gbL hf
  refine kw_putH rfl (rfl : kotab 54 = some kXo) rfl rfl rfl (Nat.le_of_ble_eq_true rfl) rfl ee5 ?_
  refine kw_step rfl rfl rfl rfl ?_
  refine kw_step rfl rfl rfl rfl ?_
  obtain ⟨s7, ee8, hf⟩ := gbL hf
  refine kw_putH rfl (rfl : kotab 54 = some kXo) rfl rfl rfl (Nat.le_of_ble_eq_true rfl) rfl ee8 ?_
  refine kw_step rfl rfl rfl rfl ?_
  obtain ⟨q10, hq10, hf⟩ := gbind hf
  refine kw_callV (vs := []) rfl rfl rfl ⟨rfl, Nat.le_of_ble_eq_true rfl, Nat.le_of_ble_eq_true rfl, by decide⟩ (hH_O (rfl : kotab 1 = some kPo)) (c_Tape_rewind s7 _ hq10) (Nat.le_of_ble_eq_true rfl) ?_
  refine kw_step rfl rfl rfl rfl ?_
  refine kw_step (L' := [some (kr 54), some (kr 1), some (kI 1), none]) rfl rfl rfl rfl ?_
  refine kw_step rfl rfl rfl rfl ?_
  refine kw_step (L' := [some (kr 54), some (kr 1), some (kI 1), some (kI 0)]) rfl rfl rfl rfl ?_
  exact kW_le (L' := [some (kr 54), some (kr 1), some (kI 1), some (kI 0)]) ⟨Or.inr rfl, Or.inr rfl, Or.inr rfl, Or.inr rfl, trivial⟩ (b_RuleText_read_15 1 0 q10 _ hf hq)
def f_KT_rule (s : kM) : Option (Int × kM) :=
  if (s 0 11) < 6 then ((f_RuleText_read s).bind fun q2 => gLet (gU q2.2 1 1 0) fun s4 => if q2.1 < 0 then (some ((wI ((-2) - (s4 1 3))), s4)) else ((gR s4 q2.1).bind fun _ => (gI 6 (s4 0 11)).bind fun j10 => gLet (gU s4 56 j10 q2.1) fun s12 => gLet (gU s12 0 11 (wI ((s12 0 11) + 1))) fun s14 => some ((wI ((s14 0 11) - 1)), s14))) else (some ((-1), s))
set_option maxRecDepth 8000 in
theorem c_KT_rule {sc : List Int} (s : kM) (t : Int × kM) (hf : f_KT_rule s = some t) : kR sc 243 km_KT_rule [kr 0] (hH s) (some (kI t.1)) (hH t.2) := by
  unfold f_KT_rule at hf
  refine kR.start rfl ?_
  show kW sc 243 kc_KT_rule 1 0 [some (kr 0), none] [] (hH s) _
  have hq : (fun (r : Option kV) (g : kH) => r = some (kI t.1) ∧ g = hH t.2) (some (kI t.1)) (hH t.2) := ⟨rfl, rfl⟩
  refine kw_step rfl rfl rfl rfl ?_
  refine kw_get rfl (hH_O (rfl : kotab 0 = some kKo)) rfl ?_
  refine kw_step rfl rfl rfl rfl ?_
  refine kw_icmp_lt rfl rfl (fun c1 => ?_) (fun c1 => ?_)
  · have hf := gift c1 hf
    refine kw_step rfl rfl rfl rfl ?_
    refine kw_get rfl (hH_O (rfl : kotab 0 = some kKo)) rfl ?_
    refine kw_step rfl rfl rfl rfl ?_
    refine kw_get rfl (hH_O (rfl : kotab 0 = some kKo)) rfl ?_
    obtain ⟨q2, hq2, hf⟩ := gbind hf
    refine kw_callV (vs := [kr 1]) rfl rfl rfl ⟨rfl, Nat.le_of_ble_eq_true rfl, Nat.le_of_ble_eq_true rfl, by decide⟩ (hH_O (rfl : kotab 54 = some kXo)) (c_RuleText_read s _ hq2) (Nat.le_of_ble_eq_true rfl) ?_
    refine kw_step (L' := [some (kr 0), some (kq q2.1)]) rfl rfl rfl rfl ?_
    refine kw_step rfl rfl rfl rfl ?_
    refine kw_get rfl (hH_O (rfl : kotab 0 = some kKo)) rfl ?_
    refine kw_step rfl rfl rfl rfl ?_
    obtain ⟨s4, ee5, hf⟩ := gbL hf
    refine kw_putH rfl (rfl : kotab 1 = some kPo) rfl rfl rfl (Nat.le_of_ble_eq_true rfl) rfl ee5 ?_
    refine kw_step rfl rfl rfl rfl ?_
    refine kw_ifnonnullR rfl rfl (fun c7 => ?_) (fun c7 => ?_)
    · have hf := giff c7 hf
      refine kw_step rfl rfl rfl rfl ?_
      refine kw_get rfl (hH_O (rfl : kotab 0 = some kKo)) rfl ?_
      refine kw_step rfl rfl rfl rfl ?_
      refine kw_get rfl (hH_O (rfl : kotab 0 = some kKo)) rfl ?_
      refine kw_step rfl rfl rfl rfl ?_
      obtain ⟨k8, h9, hf⟩ := gbR hf
      obtain ⟨j10, i11, hf⟩ := gbI hf
      obtain ⟨s12, ee13, hf⟩ := gbL hf
      refine kw_rast rfl h9 i11.1 i11.2.1 i11.2.2 ee13 ?_
      refine kw_step rfl rfl rfl rfl ?_
      refine kw_step rfl rfl rfl rfl ?_
      refine kw_get rfl (hH_O (rfl : kotab 0 = some kKo)) rfl ?_
      refine kw_step rfl rfl rfl rfl ?_
      refine kw_step rfl rfl rfl rfl ?_
      obtain ⟨s14, ee15, hf⟩ := gbL hf
      refine kw_putH rfl (rfl : kotab 0 = some kKo) rfl rfl rfl (Nat.le_of_ble_eq_true rfl) rfl ee15 ?_
      refine kw_step rfl rfl rfl rfl ?_
      refine kw_get rfl (hH_O (rfl : kotab 0 = some kKo)) rfl ?_
      refine kw_step rfl rfl rfl rfl ?_
      refine kw_step rfl rfl rfl rfl ?_
      cases hf
      exact kw_ret rfl rfl rfl hq
    · have hf := gift c7 hf
      refine kw_step rfl rfl rfl rfl ?_
      refine kw_step rfl rfl rfl rfl ?_
      refine kw_get rfl (hH_O (rfl : kotab 0 = some kKo)) rfl ?_
      refine kw_get rfl (hH_O (rfl : kotab 1 = some kPo)) rfl ?_
      refine kw_step rfl rfl rfl rfl ?_
      cases hf
      exact kw_ret rfl rfl rfl hq
  · have hf := giff c1 hf
    refine kw_step rfl rfl rfl rfl ?_
    cases hf
    exact kw_ret rfl rfl rfl hq
