/-! PRINTED by wip/whole/decall.py: methods as functions over the flat world, with their contracts -/
def f_RuleText_readValue_69 (y1 : Int) (y2 : Int) (s : kM) : Option (kM) :=
  (gB (kor y1 y2)).bind fun _ => gLet (gU s 54 3 (kor y1 y2)) fun s2 => some s2
set_option maxRecDepth 8000 in
theorem b_RuleText_readValue_69 {sc : List Int} {Q : Option kV → kH → Prop} (y1 : Int) (y2 : Int) (s : kM) (t : kM) (hf : f_RuleText_readValue_69 y1 y2 s = some t) (hq : (fun r => Q none (hH r)) t) : kW sc 3 kc_RuleText_readValue 0 69 [none, none, none, none, none] [kI y2, kI y1, kr 54] (hH s) Q := by
  unfold f_RuleText_readValue_69 at hf
  refine kw_step rfl rfl rfl rfl ?_
  obtain ⟨w1, hf⟩ := gbB hf
  obtain ⟨s2, ee3, hf⟩ := gbL hf
  refine kw_putH rfl (rfl : kotab 54 = some kXo) rfl rfl rfl (Nat.le_of_ble_eq_true rfl) (decide_eq_true w1) ee3 ?_
  cases hf
  exact kw_ret rfl rfl rfl hq
def f_RuleText_readValue_37 (x2 : Int) (x3 : Int) (x4 : Int) (s : kM) : Option (kM) :=
  if (s 1 3) = 0 then (gLet (gU s 54 2 (wI ((s 54 2) + 1))) fun s2 => (f_RuleText_emit x4 s2).bind fun q5 => if x2 = 0 then ((f_RuleText_wordNamed x3 q5).bind fun q8 => (f_Tape_takeWord q8 q5).bind fun q9 => if x3 = 6 then (f_RuleText_readValue_69 (q9.2 54 3) 1 q9.2) else (f_RuleText_readValue_69 (q9.2 54 3) 0 q9.2)) else ((f_Tape_skipNumber q5).bind fun q12 => some q12)) else (some s)
set_option maxRecDepth 8000 in
theorem b_RuleText_readValue_37 {sc : List Int} {Q : Option kV → kH → Prop} (x2 : Int) (x3 : Int) (x4 : Int) (s : kM) (t : kM) (hf : f_RuleText_readValue_37 x2 x3 x4 s = some t) (hq : (fun r => Q none (hH r)) t) : kW sc 3 kc_RuleText_readValue 0 37 [some (kr 54), some (kr 1), some (kI x2), some (kI x3), some (kI x4)] [] (hH s) Q := by
  unfold f_RuleText_readValue_37 at hf
  refine kw_step rfl rfl rfl rfl ?_
  refine kw_get rfl (hH_O (rfl : kotab 1 = some kPo)) rfl ?_
  refine kw_if_eq rfl rfl (fun c1 => ?_) (fun c1 => ?_)
  · have hf := gift c1 hf
    refine kw_step rfl rfl rfl rfl ?_
    refine kw_step rfl rfl rfl rfl ?_
    refine kw_get rfl (hH_O (rfl : kotab 54 = some kXo)) rfl ?_
    refine kw_step rfl rfl rfl rfl ?_
    refine kw_step rfl rfl rfl rfl ?_
    obtain ⟨s2, ee3, hf⟩ := gbL hf
    refine kw_putH rfl (rfl : kotab 54 = some kXo) rfl rfl rfl (Nat.le_of_ble_eq_true rfl) rfl ee3 ?_
    refine kw_step rfl rfl rfl rfl ?_
    refine kw_step rfl rfl rfl rfl ?_
    obtain ⟨q5, hq5, hf⟩ := gbind hf
    refine kw_callV (vs := [kI x4]) rfl rfl rfl ⟨rfl, Nat.le_of_ble_eq_true rfl, Nat.le_of_ble_eq_true rfl, by decide⟩ (hH_O (rfl : kotab 54 = some kXo)) (c_RuleText_emit x4 s2 _ hq5) (Nat.le_of_ble_eq_true rfl) ?_
    refine kw_step rfl rfl rfl rfl ?_
    refine kw_if_eq rfl rfl (fun c7 => ?_) (fun c7 => ?_)
    · have hf := gift c7 hf
      refine kw_step rfl rfl rfl rfl ?_
      refine kw_step rfl rfl rfl rfl ?_
      obtain ⟨q8, hq8, hf⟩ := gbind hf
      refine kw_callS (vs := [kI x3]) rfl rfl rfl ⟨rfl, Nat.le_of_ble_eq_true rfl, Nat.le_of_ble_eq_true rfl, rfl⟩ (c_RuleText_wordNamed x3 q5 _ hq8) (Nat.le_of_ble_eq_true rfl) ?_
      obtain ⟨q9, hq9, hf⟩ := gbind hf
      refine kw_callV (vs := [kS q8]) rfl rfl rfl ⟨rfl, Nat.le_of_ble_eq_true rfl, Nat.le_of_ble_eq_true rfl, by decide⟩ (hH_O (rfl : kotab 1 = some kPo)) (c_Tape_takeWord q8 q5 _ hq9) (Nat.le_of_ble_eq_true rfl) ?_
      refine kw_step rfl rfl rfl rfl ?_
      refine kw_step rfl rfl rfl rfl ?_
      refine kw_step rfl rfl rfl rfl ?_
      refine kw_get rfl (hH_O (rfl : kotab 54 = some kXo)) rfl ?_
      refine kw_step rfl rfl rfl rfl ?_
      refine kw_step rfl rfl rfl rfl ?_
      refine kw_icmp_ne rfl rfl (fun c11 => ?_) (fun c11 => ?_)
      · have hf := giff c11 hf
        refine kw_step rfl rfl rfl rfl ?_
        exact kW_le (L' := [none, none, none, none, none]) ⟨Or.inl rfl, Or.inl rfl, Or.inl rfl, Or.inl rfl, Or.inl rfl, trivial⟩ (b_RuleText_readValue_69 (q9.2 54 3) 0 q9.2 _ hf hq)
      · have hf := gift c11 hf
        refine kw_step rfl rfl rfl rfl ?_
        refine kw_goto rfl rfl ?_
        exact kW_le (L' := [none, none, none, none, none]) ⟨Or.inl rfl, Or.inl rfl, Or.inl rfl, Or.inl rfl, Or.inl rfl, trivial⟩ (b_RuleText_readValue_69 (q9.2 54 3) 1 q9.2 _ hf hq)
    · have hf := giff c7 hf
      refine kw_step rfl rfl rfl rfl ?_
      obtain ⟨q12, hq12, hf⟩ := gbind hf
      refine kw_callV (vs := []) rfl rfl rfl ⟨rfl, Nat.le_of_ble_eq_true rfl, Nat.le_of_ble_eq_true rfl, by decide⟩ (hH_O (rfl : kotab 1 = some kPo)) (c_Tape_skipNumber q5 _ hq12) (Nat.le_of_ble_eq_true rfl) ?_
      refine kw_goto rfl rfl ?_
      cases hf
      exact kw_ret rfl rfl rfl hq
  · have hf := giff c1 hf
    cases hf
    exact kw_ret rfl rfl rfl hq
def f_RuleText_readValue_27 (x2 : Int) (x3 : Int) (x4 : Int) (s : kM) : Option (kM) :=
  if (s 1 3) = 0 then (if (s 54 2) < 60 then (f_RuleText_readValue_37 x2 x3 x4 s) else ((f_Tape_fail 3 s).bind fun q3 => f_RuleText_readValue_37 x2 x3 x4 q3)) else (f_RuleText_readValue_37 x2 x3 x4 s)
set_option maxRecDepth 8000 in
theorem b_RuleText_readValue_27 {sc : List Int} {Q : Option kV → kH → Prop} (x2 : Int) (x3 : Int) (x4 : Int) (s : kM) (t : kM) (hf : f_RuleText_readValue_27 x2 x3 x4 s = some t) (hq : (fun r => Q none (hH r)) t) : kW sc 3 kc_RuleText_readValue 0 27 [some (kr 54), some (kr 1), some (kI x2), some (kI x3), some (kI x4)] [] (hH s) Q := by
  unfold f_RuleText_readValue_27 at hf
  refine kw_step rfl rfl rfl rfl ?_
  refine kw_get rfl (hH_O (rfl : kotab 1 = some kPo)) rfl ?_
  refine kw_if_ne rfl rfl (fun c1 => ?_) (fun c1 => ?_)
  · have hf := giff c1 hf
    exact kW_le (L' := [some (kr 54), some (kr 1), some (kI x2), some (kI x3), some (kI x4)]) ⟨Or.inr rfl, Or.inr rfl, Or.inr rfl, Or.inr rfl, Or.inr rfl, trivial⟩ (b_RuleText_readValue_37 x2 x3 x4 s _ hf hq)
  · have hf := gift c1 hf
    refine kw_step rfl rfl rfl rfl ?_
    refine kw_get rfl (hH_O (rfl : kotab 54 = some kXo)) rfl ?_
    refine kw_step rfl rfl rfl rfl ?_
    refine kw_icmp_lt rfl rfl (fun c2 => ?_) (fun c2 => ?_)
    · have hf := gift c2 hf
      exact kW_le (L' := [some (kr 54), some (kr 1), some (kI x2), some (kI x3), some (kI x4)]) ⟨Or.inr rfl, Or.inr rfl, Or.inr rfl, Or.inr rfl, Or.inr rfl, trivial⟩ (b_RuleText_readValue_37 x2 x3 x4 s _ hf hq)
    · have hf := giff c2 hf
      refine kw_step rfl rfl rfl rfl ?_
      refine kw_step rfl rfl rfl rfl ?_
      obtain ⟨q3, hq3, hf⟩ := gbind hf
      refine kw_callV (vs := [kI 3]) rfl rfl rfl ⟨rfl, Nat.le_of_ble_eq_true rfl, Nat.le_of_ble_eq_true rfl, by decide⟩ (hH_O (rfl : kotab 1 = some kPo)) (c_Tape_fail 3 s _ hq3) (Nat.le_of_ble_eq_true rfl) ?_
      exact kW_le (L' := [some (kr 54), some (kr 1), some (kI x2), some (kI x3), some (kI x4)]) ⟨Or.inr rfl, Or.inr rfl, Or.inr rfl, Or.inr rfl, Or.inr rfl, trivial⟩ (b_RuleText_readValue_37 x2 x3 x4 q3 _ hf hq)
def f_RuleText_readValue_19 (x2 : Int) (x3 : Int) (y0 : Int) (s : kM) : Option (kM) :=
  if x2 = 0 then (if 0 ≤ x3 then (f_RuleText_readValue_27 x2 x3 y0 s) else ((f_Tape_fail 0 s).bind fun q3 => f_RuleText_readValue_27 x2 x3 y0 q3)) else (f_RuleText_readValue_27 x2 x3 y0 s)
set_option maxRecDepth 8000 in
theorem b_RuleText_readValue_19 {sc : List Int} {Q : Option kV → kH → Prop} (x2 : Int) (x3 : Int) (y0 : Int) (s : kM) (t : kM) (hf : f_RuleText_readValue_19 x2 x3 y0 s = some t) (hq : (fun r => Q none (hH r)) t) : kW sc 3 kc_RuleText_readValue 0 19 [some (kr 54), some (kr 1), some (kI x2), some (kI x3), none] [kI y0] (hH s) Q := by
  unfold f_RuleText_readValue_19 at hf
  refine kw_step (L' := [some (kr 54), some (kr 1), some (kI x2), some (kI x3), some (kI y0)]) rfl rfl rfl rfl ?_
  refine kw_step rfl rfl rfl rfl ?_
  refine kw_if_ne rfl rfl (fun c1 => ?_) (fun c1 => ?_)
  · have hf := giff c1 hf
    exact kW_le (L' := [some (kr 54), some (kr 1), some (kI x2), some (kI x3), some (kI y0)]) ⟨Or.inr rfl, Or.inr rfl, Or.inr rfl, Or.inr rfl, Or.inr rfl, trivial⟩ (b_RuleText_readValue_27 x2 x3 y0 s _ hf hq)
  · have hf := gift c1 hf
    refine kw_step rfl rfl rfl rfl ?_
    refine kw_if_ge rfl rfl (fun c2 => ?_) (fun c2 => ?_)
    · have hf := gift c2 hf
      exact kW_le (L' := [some (kr 54), some (kr 1), some (kI x2), some (kI x3), some (kI y0)]) ⟨Or.inr rfl, Or.inr rfl, Or.inr rfl, Or.inr rfl, Or.inr rfl, trivial⟩ (b_RuleText_readValue_27 x2 x3 y0 s _ hf hq)
    · have hf := giff c2 hf
      refine kw_step rfl rfl rfl rfl ?_
      refine kw_step rfl rfl rfl rfl ?_
      obtain ⟨q3, hq3, hf⟩ := gbind hf
      refine kw_callV (vs := [kI 0]) rfl rfl rfl ⟨rfl, Nat.le_of_ble_eq_true rfl, Nat.le_of_ble_eq_true rfl, by decide⟩ (hH_O (rfl : kotab 1 = some kPo)) (c_Tape_fail 0 s _ hq3) (Nat.le_of_ble_eq_true rfl) ?_
      exact kW_le (L' := [some (kr 54), some (kr 1), some (kI x2), some (kI x3), some (kI y0)]) ⟨Or.inr rfl, Or.inr rfl, Or.inr rfl, Or.inr rfl, Or.inr rfl, trivial⟩ (b_RuleText_readValue_27 x2 x3 y0 q3 _ hf hq)
def f_RuleText_readValue_9 (x2 : Int) (y0 : Int) (s : kM) : Option (kM) :=
  if x2 = 0 then (f_RuleText_readValue_19 x2 y0 (wI ((-1) - y0)) s) else ((f_Tape_seenNumber 99999 s).bind fun q2 => f_RuleText_readValue_19 x2 y0 q2.1 q2.2)
set_option maxRecDepth 8000 in
theorem b_RuleText_readValue_9 {sc : List Int} {Q : Option kV → kH → Prop} (x2 : Int) (y0 : Int) (s : kM) (t : kM) (hf : f_RuleText_readValue_9 x2 y0 s = some t) (hq : (fun r => Q none (hH r)) t) : kW sc 3 kc_RuleText_readValue 0 9 [some (kr 54), some (kr 1), some (kI x2), none, none] [kI y0] (hH s) Q := by
  unfold f_RuleText_readValue_9 at hf
  refine kw_step (L' := [some (kr 54), some (kr 1), some (kI x2), some (kI y0), none]) rfl rfl rfl rfl ?_
  refine kw_step rfl rfl rfl rfl ?_
  refine kw_if_eq rfl rfl (fun c1 => ?_) (fun c1 => ?_)
  · have hf := gift c1 hf
    refine kw_step rfl rfl rfl rfl ?_
    refine kw_step rfl rfl rfl rfl ?_
    refine kw_step rfl rfl rfl rfl ?_
    exact kW_le (L' := [some (kr 54), some (kr 1), some (kI x2), some (kI y0), none]) ⟨Or.inr rfl, Or.inr rfl, Or.inr rfl, Or.inr rfl, Or.inl rfl, trivial⟩ (b_RuleText_readValue_19 x2 y0 (wI ((-1) - y0)) s _ hf hq)
  · have hf := giff c1 hf
    refine kw_step rfl rfl rfl rfl ?_
    refine kw_step rfl rfl rfl rfl ?_
    obtain ⟨q2, hq2, hf⟩ := gbind hf
    refine kw_callV (vs := [kI 99999]) rfl rfl rfl ⟨rfl, Nat.le_of_ble_eq_true rfl, Nat.le_of_ble_eq_true rfl, by decide⟩ (hH_O (rfl : kotab 1 = some kPo)) (c_Tape_seenNumber 99999 s _ hq2) (Nat.le_of_ble_eq_true rfl) ?_
    refine kw_goto rfl rfl ?_
    exact kW_le (L' := [some (kr 54), some (kr 1), some (kI x2), some (kI y0), none]) ⟨Or.inr rfl, Or.inr rfl, Or.inr rfl, Or.inr rfl, Or.inl rfl, trivial⟩ (b_RuleText_readValue_19 x2 y0 q2.1 q2.2 _ hf hq)
def f_RuleText_readValue (s : kM) : Option (kM) :=
  (f_Tape_seesNumber s).bind fun q1 => if q1.1 = 0 then ((f_RuleText_seenWord q1.2).bind fun q4 => f_RuleText_readValue_9 q1.1 q4.1 q4.2) else (f_RuleText_readValue_9 q1.1 (-1) q1.2)
set_option maxRecDepth 8000 in
theorem c_RuleText_readValue {sc : List Int} (s : kM) (t : kM) (hf : f_RuleText_readValue s = some t) : kR sc 3 km_RuleText_readValue [kr 54, kr 1] (hH s) none (hH t) := by
  unfold f_RuleText_readValue at hf
  refine kR.start rfl ?_
  show kW sc 3 kc_RuleText_readValue 0 0 [some (kr 54), some (kr 1), none, none, none] [] (hH s) _
  have hq : (fun (r : Option kV) (g : kH) => r = none ∧ g = hH t) none (hH t) := ⟨rfl, rfl⟩
  refine kw_step rfl rfl rfl rfl ?_
  obtain ⟨q1, hq1, hf⟩ := gbind hf
  refine kw_callV (vs := []) rfl rfl rfl ⟨rfl, Nat.le_of_ble_eq_true rfl, Nat.le_of_ble_eq_true rfl, by decide⟩ (hH_O (rfl : kotab 1 = some kPo)) (c_Tape_seesNumber s _ hq1) (Nat.le_of_ble_eq_true rfl) ?_
  refine kw_step (L' := [some (kr 54), some (kr 1), some (kI q1.1), none, none]) rfl rfl rfl rfl ?_
  refine kw_step rfl rfl rfl rfl ?_
  refine kw_if_eq rfl rfl (fun c3 => ?_) (fun c3 => ?_)
  · have hf := gift c3 hf
    refine kw_step rfl rfl rfl rfl ?_
    obtain ⟨q4, hq4, hf⟩ := gbind hf
    refine kw_callS (vs := [kr 1]) rfl rfl rfl ⟨rfl, Nat.le_of_ble_eq_true rfl, Nat.le_of_ble_eq_true rfl, rfl⟩ (c_RuleText_seenWord q1.2 _ hq4) (Nat.le_of_ble_eq_true rfl) ?_
    exact kW_le (L' := [some (kr 54), some (kr 1), some (kI q1.1), none, none]) ⟨Or.inr rfl, Or.inr rfl, Or.inr rfl, Or.inl rfl, Or.inl rfl, trivial⟩ (b_RuleText_readValue_9 q1.1 q4.1 q4.2 _ hf hq)
  · have hf := giff c3 hf
    refine kw_step rfl rfl rfl rfl ?_
    refine kw_goto rfl rfl ?_
    exact kW_le (L' := [some (kr 54), some (kr 1), some (kI q1.1), none, none]) ⟨Or.inr rfl, Or.inr rfl, Or.inr rfl, Or.inl rfl, Or.inl rfl, trivial⟩ (b_RuleText_readValue_9 q1.1 (-1) q1.2 _ hf hq)
def f_RuleText_takenJoint (x1 : Int) (s : kM) : Option (Int × kM) :=
  if (s 1 3) = 0 then (if x1 = 0 then ((f_Tape_takeWord 13 s).bind fun q3 => if q3.1 = 0 then (some (0, q3.2)) else (some ((-21), q3.2))) else if x1 = 1 then ((f_Tape_takeWord 14 s).bind fun q7 => if q7.1 = 0 then (some (0, q7.2)) else (some ((-20), q7.2))) else if x1 = 2 then ((f_Tape_takeSign 42 s).bind fun q11 => if q11.1 = 0 then ((f_Tape_takeSign 47 q11.2).bind fun q14 => if q14.1 = 0 then ((f_Tape_takeSign 37 q14.2).bind fun q17 => if q17.1 = 0 then (some (0, q17.2)) else (some ((-14), q17.2))) else (some ((-13), q14.2))) else (some ((-12), q11.2))) else if x1 = 3 then ((f_Tape_takeSign 43 s).bind fun q21 => if q21.1 = 0 then ((f_Tape_takeSign 45 q21.2).bind fun q24 => if q24.1 = 0 then (some (0, q24.2)) else (some ((-11), q24.2))) else (some ((-10), q21.2))) else ((f_Tape_takeSign 42 s).bind fun q27 => if q27.1 = 0 then ((f_Tape_takeSign 47 q27.2).bind fun q30 => if q30.1 = 0 then ((f_Tape_takeSign 37 q30.2).bind fun q33 => if q33.1 = 0 then (some (0, q33.2)) else (some ((-14), q33.2))) else (some ((-13), q30.2))) else (some ((-12), q27.2)))) else (some (0, s))
set_option maxRecDepth 8000 in
theorem c_RuleText_takenJoint {sc : List Int} (x1 : Int) (s : kM) (t : Int × kM) (hf : f_RuleText_takenJoint x1 s = some t) : kR sc 3 km_RuleText_takenJoint [kr 1, kI x1] (hH s) (some (kI t.1)) (hH t.2) := by
  unfold f_RuleText_takenJoint at hf
  refine kR.start rfl ?_
  show kW sc 3 kc_RuleText_takenJoint 1 0 [some (kr 1), some (kI x1)] [] (hH s) _
  have hq : (fun (r : Option kV) (g : kH) => r = some (kI t.1) ∧ g = hH t.2) (some (kI t.1)) (hH t.2) := ⟨rfl, rfl⟩
  refine kw_step rfl rfl rfl rfl ?_
  refine kw_get rfl (hH_O (rfl : kotab 1 = some kPo)) rfl ?_
  refine kw_if_eq rfl rfl (fun c1 => ?_) (fun c1 => ?_)
  · have hf := gift c1 hf
    refine kw_step rfl rfl rfl rfl ?_
    by_cases c2 : x1 = 0
    · have hf := gift c2 hf
      refine kw_tsw_at rfl c2 rfl rfl rfl ?_
      refine kw_step rfl rfl rfl rfl ?_
      refine kw_step rfl rfl rfl rfl ?_
      obtain ⟨q3, hq3, hf⟩ := gbind hf
      refine kw_callV (vs := [kS 13]) rfl rfl rfl ⟨rfl, Nat.le_of_ble_eq_true rfl, Nat.le_of_ble_eq_true rfl, by decide⟩ (hH_O (rfl : kotab 1 = some kPo)) (c_Tape_takeWord 13 s _ hq3) (Nat.le_of_ble_eq_true rfl) ?_
      refine kw_if_eq rfl rfl (fun c5 => ?_) (fun c5 => ?_)
      · have hf := gift c5 hf
        refine kw_step rfl rfl rfl rfl ?_
        cases hf
        exact kw_ret rfl rfl rfl hq
      · have hf := giff c5 hf
        refine kw_step rfl rfl rfl rfl ?_
        refine kw_goto rfl rfl ?_
        cases hf
        exact kw_ret rfl rfl rfl hq
    have hf := giff c2 hf
    by_cases c6 : x1 = 1
    · have hf := gift c6 hf
      refine kw_tsw_at rfl c6 rfl rfl rfl ?_
      refine kw_step rfl rfl rfl rfl ?_
      refine kw_step rfl rfl rfl rfl ?_
      obtain ⟨q7, hq7, hf⟩ := gbind hf
      refine kw_callV (vs := [kS 14]) rfl rfl rfl ⟨rfl, Nat.le_of_ble_eq_true rfl, Nat.le_of_ble_eq_true rfl, by decide⟩ (hH_O (rfl : kotab 1 = some kPo)) (c_Tape_takeWord 14 s _ hq7) (Nat.le_of_ble_eq_true rfl) ?_
      refine kw_if_eq rfl rfl (fun c9 => ?_) (fun c9 => ?_)
      · have hf := gift c9 hf
        refine kw_step rfl rfl rfl rfl ?_
        cases hf
        exact kw_ret rfl rfl rfl hq
      · have hf := giff c9 hf
        refine kw_step rfl rfl rfl rfl ?_
        refine kw_goto rfl rfl ?_
        cases hf
        exact kw_ret rfl rfl rfl hq
    have hf := giff c6 hf
    by_cases c10 : x1 = 2
    · have hf := gift c10 hf
      refine kw_tsw_at rfl c10 rfl rfl rfl ?_
      refine kw_step rfl rfl rfl rfl ?_
      refine kw_step rfl rfl rfl rfl ?_
      obtain ⟨q11, hq11, hf⟩ := gbind hf
      refine kw_callV (vs := [kI 42]) rfl rfl rfl ⟨rfl, Nat.le_of_ble_eq_true rfl, Nat.le_of_ble_eq_true rfl, by decide⟩ (hH_O (rfl : kotab 1 = some kPo)) (c_Tape_takeSign 42 s _ hq11) (Nat.le_of_ble_eq_true rfl) ?_
      refine kw_if_eq rfl rfl (fun c13 => ?_) (fun c13 => ?_)
      · have hf := gift c13 hf
        refine kw_step rfl rfl rfl rfl ?_
        refine kw_step rfl rfl rfl rfl ?_
        obtain ⟨q14, hq14, hf⟩ := gbind hf
        refine kw_callV (vs := [kI 47]) rfl rfl rfl ⟨rfl, Nat.le_of_ble_eq_true rfl, Nat.le_of_ble_eq_true rfl, by decide⟩ (hH_O (rfl : kotab 1 = some kPo)) (c_Tape_takeSign 47 q11.2 _ hq14) (Nat.le_of_ble_eq_true rfl) ?_
        refine kw_if_eq rfl rfl (fun c16 => ?_) (fun c16 => ?_)
        · have hf := gift c16 hf
          refine kw_step rfl rfl rfl rfl ?_
          refine kw_step rfl rfl rfl rfl ?_
          obtain ⟨q17, hq17, hf⟩ := gbind hf
          refine kw_callV (vs := [kI 37]) rfl rfl rfl ⟨rfl, Nat.le_of_ble_eq_true rfl, Nat.le_of_ble_eq_true rfl, by decide⟩ (hH_O (rfl : kotab 1 = some kPo)) (c_Tape_takeSign 37 q14.2 _ hq17) (Nat.le_of_ble_eq_true rfl) ?_
          refine kw_if_eq rfl rfl (fun c19 => ?_) (fun c19 => ?_)
          · have hf := gift c19 hf
            refine kw_step rfl rfl rfl rfl ?_
            cases hf
            exact kw_ret rfl rfl rfl hq
          · have hf := giff c19 hf
            refine kw_step rfl rfl rfl rfl ?_
            refine kw_goto rfl rfl ?_
            cases hf
            exact kw_ret rfl rfl rfl hq
        · have hf := giff c16 hf
          refine kw_step rfl rfl rfl rfl ?_
          refine kw_goto rfl rfl ?_
          cases hf
          exact kw_ret rfl rfl rfl hq
      · have hf := giff c13 hf
        refine kw_step rfl rfl rfl rfl ?_
        refine kw_goto rfl rfl ?_
        cases hf
        exact kw_ret rfl rfl rfl hq
    have hf := giff c10 hf
    by_cases c20 : x1 = 3
    · have hf := gift c20 hf
      refine kw_tsw_at rfl c20 rfl rfl rfl ?_
      refine kw_step rfl rfl rfl rfl ?_
      refine kw_step rfl rfl rfl rfl ?_
      obtain ⟨q21, hq21, hf⟩ := gbind hf
      refine kw_callV (vs := [kI 43]) rfl rfl rfl ⟨rfl, Nat.le_of_ble_eq_true rfl, Nat.le_of_ble_eq_true rfl, by decide⟩ (hH_O (rfl : kotab 1 = some kPo)) (c_Tape_takeSign 43 s _ hq21) (Nat.le_of_ble_eq_true rfl) ?_
      refine kw_if_eq rfl rfl (fun c23 => ?_) (fun c23 => ?_)
      · have hf := gift c23 hf
        refine kw_step rfl rfl rfl rfl ?_
        refine kw_step rfl rfl rfl rfl ?_
        obtain ⟨q24, hq24, hf⟩ := gbind hf
        refine kw_callV (vs := [kI 45]) rfl rfl rfl ⟨rfl, Nat.le_of_ble_eq_true rfl, Nat.le_of_ble_eq_true rfl, by decide⟩ (hH_O (rfl : kotab 1 = some kPo)) (c_Tape_takeSign 45 q21.2 _ hq24) (Nat.le_of_ble_eq_true rfl) ?_
        refine kw_if_eq rfl rfl (fun c26 => ?_) (fun c26 => ?_)
        · have hf := gift c26 hf
          refine kw_step rfl rfl rfl rfl ?_
          cases hf
          exact kw_ret rfl rfl rfl hq
        · have hf := giff c26 hf
          refine kw_step rfl rfl rfl rfl ?_
          refine kw_goto rfl rfl ?_
          cases hf
          exact kw_ret rfl rfl rfl hq
      · have hf := giff c23 hf
        refine kw_step rfl rfl rfl rfl ?_
        refine kw_goto rfl rfl ?_
        cases hf
        exact kw_ret rfl rfl rfl hq
    have hf := giff c20 hf
    refine kw_tsw_out rfl (by omega) rfl ?_
    refine kw_step rfl rfl rfl rfl ?_
    refine kw_step rfl rfl rfl rfl ?_
    obtain ⟨q27, hq27, hf⟩ := gbind hf
    refine kw_callV (vs := [kI 42]) rfl rfl rfl ⟨rfl, Nat.le_of_ble_eq_true rfl, Nat.le_of_ble_eq_true rfl, by decide⟩ (hH_O (rfl : kotab 1 = some kPo)) (c_Tape_takeSign 42 s _ hq27) (Nat.le_of_ble_eq_true rfl) ?_
    refine kw_if_eq rfl rfl (fun c29 => ?_) (fun c29 => ?_)
    · have hf := gift c29 hf
      refine kw_step rfl rfl rfl rfl ?_
      refine kw_step rfl rfl rfl rfl ?_
      obtain ⟨q30, hq30, hf⟩ := gbind hf
      refine kw_callV (vs := [kI 47]) rfl rfl rfl ⟨rfl, Nat.le_of_ble_eq_true rfl, Nat.le_of_ble_eq_true rfl, by decide⟩ (hH_O (rfl : kotab 1 = some kPo)) (c_Tape_takeSign 47 q27.2 _ hq30) (Nat.le_of_ble_eq_true rfl) ?_
      refine kw_if_eq rfl rfl (fun c32 => ?_) (fun c32 => ?_)
      · have hf := gift c32 hf
        refine kw_step rfl rfl rfl rfl ?_
        refine kw_step rfl rfl rfl rfl ?_
        obtain ⟨q33, hq33, hf⟩ := gbind hf
        refine kw_callV (vs := [kI 37]) rfl rfl rfl ⟨rfl, Nat.le_of_ble_eq_true rfl, Nat.le_of_ble_eq_true rfl, by decide⟩ (hH_O (rfl : kotab 1 = some kPo)) (c_Tape_takeSign 37 q30.2 _ hq33) (Nat.le_of_ble_eq_true rfl) ?_
        refine kw_if_eq rfl rfl (fun c35 => ?_) (fun c35 => ?_)
        · have hf := gift c35 hf
          refine kw_step rfl rfl rfl rfl ?_
          cases hf
          exact kw_ret rfl rfl rfl hq
        · have hf := giff c35 hf
          refine kw_step rfl rfl rfl rfl ?_
          refine kw_goto rfl rfl ?_
          cases hf
          exact kw_ret rfl rfl rfl hq
      · have hf := giff c32 hf
        refine kw_step rfl rfl rfl rfl ?_
        refine kw_goto rfl rfl ?_
        cases hf
        exact kw_ret rfl rfl rfl hq
    · have hf := giff c29 hf
      refine kw_step rfl rfl rfl rfl ?_
      refine kw_goto rfl rfl ?_
      cases hf
      exact kw_ret rfl rfl rfl hq
  · have hf := giff c1 hf
    refine kw_step rfl rfl rfl rfl ?_
    cases hf
    exact kw_ret rfl rfl rfl hq
def f_RuleText_seenSign_22 (x1 : Int) (y0 : Int) (s : kM) : Option (Int × kM) :=
  if x1 = 60 then (if y0 = 0 then (some ((-15), s)) else (some ((-16), s))) else if x1 = 61 then (some ((-17), s)) else if x1 = 62 then (if y0 = 0 then (some ((-19), s)) else (some ((-18), s))) else (some (0, s))
set_option maxRecDepth 8000 in
theorem b_RuleText_seenSign_22 {sc : List Int} {Q : Option kV → kH → Prop} (x1 : Int) (y0 : Int) (s : kM) (t : Int × kM) (hf : f_RuleText_seenSign_22 x1 y0 s = some t) (hq : (fun r => Q (some (kI r.1)) (hH r.2)) t) : kW sc 1 kc_RuleText_seenSign 1 22 [none, some (kI x1), none] [kI y0] (hH s) Q := by
  unfold f_RuleText_seenSign_22 at hf
  refine kw_step (L' := [none, some (kI x1), some (kI y0)]) rfl rfl rfl rfl ?_
  refine kw_step rfl rfl rfl rfl ?_
  by_cases c1 : x1 = 60
  · have hf := gift c1 hf
    refine kw_tsw_at rfl c1 rfl rfl rfl ?_
    refine kw_step rfl rfl rfl rfl ?_
    refine kw_if_eq rfl rfl (fun c2 => ?_) (fun c2 => ?_)
    · have hf := gift c2 hf
      refine kw_step rfl rfl rfl rfl ?_
      cases hf
      exact kw_ret rfl rfl rfl hq
    · have hf := giff c2 hf
      refine kw_step rfl rfl rfl rfl ?_
      refine kw_goto rfl rfl ?_
      cases hf
      exact kw_ret rfl rfl rfl hq
  have hf := giff c1 hf
  by_cases c3 : x1 = 61
  · have hf := gift c3 hf
    refine kw_tsw_at rfl c3 rfl rfl rfl ?_
    refine kw_step rfl rfl rfl rfl ?_
    cases hf
    exact kw_ret rfl rfl rfl hq
  have hf := giff c3 hf
  by_cases c4 : x1 = 62
  · have hf := gift c4 hf
    refine kw_tsw_at rfl c4 rfl rfl rfl ?_
    refine kw_step rfl rfl rfl rfl ?_
    refine kw_if_eq rfl rfl (fun c5 => ?_) (fun c5 => ?_)
    · have hf := gift c5 hf
      refine kw_step rfl rfl rfl rfl ?_
      cases hf
      exact kw_ret rfl rfl rfl hq
    · have hf := giff c5 hf
      refine kw_step rfl rfl rfl rfl ?_
      refine kw_goto rfl rfl ?_
      cases hf
      exact kw_ret rfl rfl rfl hq
  have hf := giff c4 hf
  refine kw_tsw_out rfl (by omega) rfl ?_
  refine kw_step rfl rfl rfl rfl ?_
  cases hf
  exact kw_ret rfl rfl rfl hq
def f_RuleText_seenSign_21 (x1 : Int) (s : kM) : Option (Int × kM) :=
  f_RuleText_seenSign_22 x1 0 s
set_option maxRecDepth 8000 in
theorem b_RuleText_seenSign_21 {sc : List Int} {Q : Option kV → kH → Prop} (x1 : Int) (s : kM) (t : Int × kM) (hf : f_RuleText_seenSign_21 x1 s = some t) (hq : (fun r => Q (some (kI r.1)) (hH r.2)) t) : kW sc 1 kc_RuleText_seenSign 1 21 [none, some (kI x1), none] [] (hH s) Q := by
  unfold f_RuleText_seenSign_21 at hf
  refine kw_step rfl rfl rfl rfl ?_
  exact kW_le (L' := [none, some (kI x1), none]) ⟨Or.inl rfl, Or.inr rfl, Or.inl rfl, trivial⟩ (b_RuleText_seenSign_22 x1 0 s _ hf hq)
def f_RuleText_seenSign (s : kM) : Option (Int × kM) :=
  (f_Tape_look s).bind fun q1 => if (q1.2 1 1) ≤ (wI ((q1.2 1 2) + 1)) then (f_RuleText_seenSign_21 q1.1 q1.2) else ((gI 400 (wI ((q1.2 1 2) + 1))).bind fun j4 => if (q1.2 2 j4) = 61 then (f_RuleText_seenSign_22 q1.1 1 q1.2) else (f_RuleText_seenSign_21 q1.1 q1.2))
set_option maxRecDepth 8000 in
theorem c_RuleText_seenSign {sc : List Int} (s : kM) (t : Int × kM) (hf : f_RuleText_seenSign s = some t) : kR sc 1 km_RuleText_seenSign [kr 1] (hH s) (some (kI t.1)) (hH t.2) := by
  unfold f_RuleText_seenSign at hf
  refine kR.start rfl ?_
  show kW sc 1 kc_RuleText_seenSign 1 0 [some (kr 1), none, none] [] (hH s) _
  have hq : (fun (r : Option kV) (g : kH) => r = some (kI t.1) ∧ g = hH t.2) (some (kI t.1)) (hH t.2) := ⟨rfl, rfl⟩
  refine kw_step rfl rfl rfl rfl ?_
  obtain ⟨q1, hq1, hf⟩ := gbind hf
  refine kw_callV (vs := []) rfl rfl rfl ⟨rfl, Nat.le_of_ble_eq_true rfl, Nat.le_of_ble_eq_true rfl, by decide⟩ (hH_O (rfl : kotab 1 = some kPo)) (c_Tape_look s _ hq1) (Nat.le_of_ble_eq_true rfl) ?_
  refine kw_step (L' := [some (kr 1), some (kI q1.1), none]) rfl rfl rfl rfl ?_
  refine kw_step rfl rfl rfl rfl ?_
  refine kw_get rfl (hH_O (rfl : kotab 1 = some kPo)) rfl ?_
  refine kw_step rfl rfl rfl rfl ?_
  refine kw_step rfl rfl rfl rfl ?_
  refine kw_step rfl rfl rfl rfl ?_
  refine kw_get rfl (hH_O (rfl : kotab 1 = some kPo)) rfl ?_
  refine kw_icmp_ge rfl rfl (fun c3 => ?_) (fun c3 => ?_)
  · have hf := gift c3 hf
    exact kW_le (L' := [none, some (kI q1.1), none]) ⟨Or.inl rfl, Or.inr rfl, Or.inl rfl, trivial⟩ (b_RuleText_seenSign_21 q1.1 q1.2 _ hf hq)
  · have hf := giff c3 hf
    refine kw_step rfl rfl rfl rfl ?_
    refine kw_get rfl (hH_O (rfl : kotab 1 = some kPo)) rfl ?_
    refine kw_step rfl rfl rfl rfl ?_
    refine kw_get rfl (hH_O (rfl : kotab 1 = some kPo)) rfl ?_
    refine kw_step rfl rfl rfl rfl ?_
    refine kw_step rfl rfl rfl rfl ?_
    obtain ⟨j4, i5, hf⟩ := gbI hf
    refine kw_bald rfl (hH_A (rfl : ktab 2 = some (1, 400))) i5.1 i5.2.1 i5.2.2 ?_
    refine kw_step rfl rfl rfl rfl ?_
    refine kw_icmp_ne rfl rfl (fun c6 => ?_) (fun c6 => ?_)
    · have hf := giff c6 hf
      exact kW_le (L' := [none, some (kI q1.1), none]) ⟨Or.inl rfl, Or.inr rfl, Or.inl rfl, trivial⟩ (b_RuleText_seenSign_21 q1.1 q1.2 _ hf hq)
    · have hf := gift c6 hf
      refine kw_step rfl rfl rfl rfl ?_
      refine kw_goto rfl rfl ?_
      exact kW_le (L' := [none, some (kI q1.1), none]) ⟨Or.inl rfl, Or.inr rfl, Or.inl rfl, trivial⟩ (b_RuleText_seenSign_22 q1.1 1 q1.2 _ hf hq)
def f_RuleText_readLevel_28b (rec : Nat → Int → Int → Int → kM → Option kM) (x2 : Int) (x3 : Int) (x4 : Int) (x5 : Int) (s : kM) : Option ((Int × Int × kM) ⊕ (kM)) :=
  if 400 ≤ x5 then (some (.inr s)) else (if x4 = 0 then (some (.inr s)) else ((rec 0 (wI (x2 + 1)) x3 0 s).bind fun q3 => (f_RuleText_emit x4 q3).bind fun q5 => (f_RuleText_takenJoint x2 q5).bind fun q7 => some (.inl (q7.1, (wI (x5 + 1)), q7.2))))
set_option maxRecDepth 8000 in
theorem b_RuleText_readLevel_28b {sc : List Int} {Q : Option kV → kH → Prop} {e : Nat} (rec : Nat → Int → Int → Int → kM → Option kM) (hrec : (∀ x2 x3 y s t, rec 0 x2 x3 y s = some t → kR sc e km_RuleText_readLevel [kr 54, kr 1, kI x2, kI x3] (hH s) none (hH t)) ∧ (∀ x2 y z s t, rec 1 x2 y z s = some t → kR sc e km_RuleText_readFact [kr 54, kr 1, kI x2] (hH s) none (hH t)) ∧ (∀ x2 y z s t, rec 2 x2 y z s = some t → kR sc e km_RuleText_readComparison [kr 54, kr 1, kI x2] (hH s) none (hH t))) (x2 : Int) (x3 : Int) (x4 : Int) (x5 : Int) (s : kM) (t : (Int × Int × kM) ⊕ (kM)) (hf : f_RuleText_readLevel_28b rec x2 x3 x4 x5 s = some t) (hq : (gE (fun x => kW sc (e + 4) kc_RuleText_readLevel 0 28 [some (kr 54), some (kr 1), some (kI x2), some (kI x3), some (kI x.1), some (kI x.2.1)] [] (hH x.2.2) Q) (fun r => Q none (hH r))) t) : kW sc (e + 4) kc_RuleText_readLevel 0 28 [some (kr 54), some (kr 1), some (kI x2), some (kI x3), some (kI x4), some (kI x5)] [] (hH s) Q := by
  unfold f_RuleText_readLevel_28b at hf
  refine kw_step rfl rfl rfl rfl ?_
  refine kw_step rfl rfl rfl rfl ?_
  refine kw_icmp_ge rfl rfl (fun c1 => ?_) (fun c1 => ?_)
  · have hf := gift c1 hf
    cases hf
    exact kw_ret rfl rfl rfl hq
  · have hf := giff c1 hf
    refine kw_step rfl rfl rfl rfl ?_
    refine kw_if_eq rfl rfl (fun c2 => ?_) (fun c2 => ?_)
    · have hf := gift c2 hf
      cases hf
      exact kw_ret rfl rfl rfl hq
    · have hf := giff c2 hf
      refine kw_step rfl rfl rfl rfl ?_
      refine kw_step rfl rfl rfl rfl ?_
      refine kw_step rfl rfl rfl rfl ?_
      refine kw_step rfl rfl rfl rfl ?_
      refine kw_step rfl rfl rfl rfl ?_
      refine kw_step rfl rfl rfl rfl ?_
      obtain ⟨q3, hq3, hf⟩ := gbind hf
      refine kw_callV (vs := [kr 1, kI (wI (x2 + 1)), kI x3]) rfl rfl rfl ⟨rfl, Nat.le_of_ble_eq_true rfl, Nat.le_of_ble_eq_true rfl, by decide⟩ (hH_O (rfl : kotab 54 = some kXo)) (hrec.1 (wI (x2 + 1)) x3 0 _ _ hq3) (by omega) ?_
      refine kw_step rfl rfl rfl rfl ?_
      refine kw_step rfl rfl rfl rfl ?_
      obtain ⟨q5, hq5, hf⟩ := gbind hf
      refine kw_callV (vs := [kI x4]) rfl rfl rfl ⟨rfl, Nat.le_of_ble_eq_true rfl, Nat.le_of_ble_eq_true rfl, by decide⟩ (hH_O (rfl : kotab 54 = some kXo)) (c_RuleText_emit x4 q3 _ hq5) (by omega) ?_
      refine kw_step rfl rfl rfl rfl ?_
      refine kw_step rfl rfl rfl rfl ?_
      obtain ⟨q7, hq7, hf⟩ := gbind hf
      refine kw_callS (vs := [kr 1, kI x2]) rfl rfl rfl ⟨rfl, Nat.le_of_ble_eq_true rfl, Nat.le_of_ble_eq_true rfl, rfl⟩ (c_RuleText_takenJoint x2 q5 _ hq7) (by omega) ?_
      refine kw_step (L' := [some (kr 54), some (kr 1), some (kI x2), some (kI x3), some (kI q7.1), some (kI x5)]) rfl rfl rfl rfl ?_
      refine kw_step (L' := [some (kr 54), some (kr 1), some (kI x2), some (kI x3), some (kI q7.1), some (kI (wI (x5 + 1)))]) rfl rfl rfl rfl ?_
      refine kw_goto rfl rfl ?_
      cases hf
      exact kW_le (L' := [some (kr 54), some (kr 1), some (kI x2), some (kI x3), some (kI q7.1), some (kI (wI (x5 + 1)))]) ⟨Or.inr rfl, Or.inr rfl, Or.inr rfl, Or.inr rfl, Or.inr rfl, Or.inr rfl, trivial⟩ hq
def f_RuleText_readLevel_28 (rec : Nat → Int → Int → Int → kM → Option kM) (x2 : Int) (x3 : Int) (x4 : Int) (x5 : Int) (s : kM) : Option (kM) :=
  gL (fun (x : Int × Int × kM) => f_RuleText_readLevel_28b rec x2 x3 x.1 x.2.1 x.2.2) gF (x4, x5, s)
theorem b_RuleText_readLevel_28 {sc : List Int} {Q : Option kV → kH → Prop} {e : Nat} (rec : Nat → Int → Int → Int → kM → Option kM) (hrec : (∀ x2 x3 y s t, rec 0 x2 x3 y s = some t → kR sc e km_RuleText_readLevel [kr 54, kr 1, kI x2, kI x3] (hH s) none (hH t)) ∧ (∀ x2 y z s t, rec 1 x2 y z s = some t → kR sc e km_RuleText_readFact [kr 54, kr 1, kI x2] (hH s) none (hH t)) ∧ (∀ x2 y z s t, rec 2 x2 y z s = some t → kR sc e km_RuleText_readComparison [kr 54, kr 1, kI x2] (hH s) none (hH t))) (x2 : Int) (x3 : Int) (x4 : Int) (x5 : Int) (s : kM) (t : kM) (hf : f_RuleText_readLevel_28 rec x2 x3 x4 x5 s = some t) (hq : (fun r => Q none (hH r)) t) : kW sc (e + 4) kc_RuleText_readLevel 0 28 [some (kr 54), some (kr 1), some (kI x2), some (kI x3), some (kI x4), some (kI x5)] [] (hH s) Q :=
  gL_ind (P := fun (x : Int × Int × kM) => kW sc (e + 4) kc_RuleText_readLevel 0 28 [some (kr 54), some (kr 1), some (kI x2), some (kI x3), some (kI x.1), some (kI x.2.1)] [] (hH x.2.2) Q) (q := (fun r => Q none (hH r))) (fun x t hf hq => b_RuleText_readLevel_28b rec hrec x2 x3 x.1 x.2.1 x.2.2 t hf hq) gF (x4, x5, s) t hf hq
def f_RuleText_readLevel (rec : Nat → Int → Int → Int → kM → Option kM) (x2 : Int) (x3 : Int) (s : kM) : Option (kM) :=
  if x2 = 2 then ((rec 1 x3 0 0 s).bind fun q9 => some q9) else (if x2 = 5 then ((f_RuleText_readValue s).bind fun q7 => some q7) else ((rec 0 (wI (x2 + 1)) x3 0 s).bind fun q3 => (f_RuleText_takenJoint x2 q3).bind fun q5 => f_RuleText_readLevel_28 rec x2 x3 q5.1 0 q5.2))
set_option maxRecDepth 8000 in
theorem c_RuleText_readLevel {sc : List Int} {e : Nat} (rec : Nat → Int → Int → Int → kM → Option kM) (hrec : (∀ x2 x3 y s t, rec 0 x2 x3 y s = some t → kR sc e km_RuleText_readLevel [kr 54, kr 1, kI x2, kI x3] (hH s) none (hH t)) ∧ (∀ x2 y z s t, rec 1 x2 y z s = some t → kR sc e km_RuleText_readFact [kr 54, kr 1, kI x2] (hH s) none (hH t)) ∧ (∀ x2 y z s t, rec 2 x2 y z s = some t → kR sc e km_RuleText_readComparison [kr 54, kr 1, kI x2] (hH s) none (hH t))) (x2 : Int) (x3 : Int) (s : kM) (t : kM) (hf : f_RuleText_readLevel rec x2 x3 s = some t) : kR sc (e + 4) km_RuleText_readLevel [kr 54, kr 1, kI x2, kI x3] (hH s) none (hH t) := by
  unfold f_RuleText_readLevel at hf
  refine kR.start rfl ?_
  show kW sc (e + 4) kc_RuleText_readLevel 0 0 [some (kr 54), some (kr 1), some (kI x2), some (kI x3), none, none] [] (hH s) _
  have hq : (fun (r : Option kV) (g : kH) => r = none ∧ g = hH t) none (hH t) := ⟨rfl, rfl⟩
  refine kw_step rfl rfl rfl rfl ?_
  refine kw_step rfl rfl rfl rfl ?_
  refine kw_icmp_ne rfl rfl (fun c1 => ?_) (fun c1 => ?_)
  · have hf := giff c1 hf
    refine kw_step rfl rfl rfl rfl ?_
    refine kw_step rfl rfl rfl rfl ?_
    refine kw_icmp_ne rfl rfl (fun c2 => ?_) (fun c2 => ?_)
    · have hf := giff c2 hf
      refine kw_step rfl rfl rfl rfl ?_
      refine kw_step rfl rfl rfl rfl ?_
      refine kw_step rfl rfl rfl rfl ?_
      refine kw_step rfl rfl rfl rfl ?_
      refine kw_step rfl rfl rfl rfl ?_
      refine kw_step rfl rfl rfl rfl ?_
      obtain ⟨q3, hq3, hf⟩ := gbind hf
      refine kw_callV (vs := [kr 1, kI (wI (x2 + 1)), kI x3]) rfl rfl rfl ⟨rfl, Nat.le_of_ble_eq_true rfl, Nat.le_of_ble_eq_true rfl, by decide⟩ (hH_O (rfl : kotab 54 = some kXo)) (hrec.1 (wI (x2 + 1)) x3 0 _ _ hq3) (by omega) ?_
      refine kw_step rfl rfl rfl rfl ?_
      refine kw_step rfl rfl rfl rfl ?_
      obtain ⟨q5, hq5, hf⟩ := gbind hf
      refine kw_callS (vs := [kr 1, kI x2]) rfl rfl rfl ⟨rfl, Nat.le_of_ble_eq_true rfl, Nat.le_of_ble_eq_true rfl, rfl⟩ (c_RuleText_takenJoint x2 q3 _ hq5) (by omega) ?_
      refine kw_step (L' := [some (kr 54), some (kr 1), some (kI x2), some (kI x3), some (kI q5.1), none]) rfl rfl rfl rfl ?_
      refine kw_step rfl rfl rfl rfl ?_
      refine kw_step (L' := [some (kr 54), some (kr 1), some (kI x2), some (kI x3), some (kI q5.1), some (kI 0)]) rfl rfl rfl rfl ?_
      exact kW_le (L' := [some (kr 54), some (kr 1), some (kI x2), some (kI x3), some (kI q5.1), some (kI 0)]) ⟨Or.inr rfl, Or.inr rfl, Or.inr rfl, Or.inr rfl, Or.inr rfl, Or.inr rfl, trivial⟩ (b_RuleText_readLevel_28 rec hrec x2 x3 q5.1 0 q5.2 _ hf hq)
    · have hf := gift c2 hf
      refine kw_step rfl rfl rfl rfl ?_
      refine kw_step rfl rfl rfl rfl ?_
      obtain ⟨q7, hq7, hf⟩ := gbind hf
      refine kw_callV (vs := [kr 1]) rfl rfl rfl ⟨rfl, Nat.le_of_ble_eq_true rfl, Nat.le_of_ble_eq_true rfl, by decide⟩ (hH_O (rfl : kotab 54 = some kXo)) (c_RuleText_readValue s _ hq7) (by omega) ?_
      cases hf
      exact kw_ret rfl rfl rfl hq
  · have hf := gift c1 hf
    refine kw_step rfl rfl rfl rfl ?_
    refine kw_step rfl rfl rfl rfl ?_
    refine kw_step rfl rfl rfl rfl ?_
    obtain ⟨q9, hq9, hf⟩ := gbind hf
    refine kw_callV (vs := [kr 1, kI x3]) rfl rfl rfl ⟨rfl, Nat.le_of_ble_eq_true rfl, Nat.le_of_ble_eq_true rfl, by decide⟩ (hH_O (rfl : kotab 54 = some kXo)) (hrec.2.1 x3 0 0 _ _ hq9) (by omega) ?_
    cases hf
    exact kw_ret rfl rfl rfl hq
def f_RuleText_readFact_15 (rec : Nat → Int → Int → Int → kM → Option kM) (x2 : Int) (x3 : Int) (s : kM) : Option (kM) :=
  if x2 < 10 then (if x3 = 0 then ((f_Tape_takeSign 91 s).bind fun q3 => (rec 0 0 (wI (x2 + 1)) 0 q3.2).bind fun q5 => if (q5 1 3) = 0 then ((f_Tape_takeSign 93 q5).bind fun q8 => if q8.1 = 0 then ((f_Tape_fail 0 q8.2).bind fun q11 => some q11) else (some q8.2)) else (some q5)) else ((f_Tape_takeWord 4 s).bind fun q13 => (rec 1 (wI (x2 + 1)) 0 0 q13.2).bind fun q15 => (f_RuleText_emit (-22) q15).bind fun q17 => some q17)) else ((f_Tape_fail 2 s).bind fun q19 => some q19)
set_option maxRecDepth 8000 in
theorem b_RuleText_readFact_15 {sc : List Int} {Q : Option kV → kH → Prop} {e : Nat} (rec : Nat → Int → Int → Int → kM → Option kM) (hrec : (∀ x2 x3 y s t, rec 0 x2 x3 y s = some t → kR sc e km_RuleText_readLevel [kr 54, kr 1, kI x2, kI x3] (hH s) none (hH t)) ∧ (∀ x2 y z s t, rec 1 x2 y z s = some t → kR sc e km_RuleText_readFact [kr 54, kr 1, kI x2] (hH s) none (hH t)) ∧ (∀ x2 y z s t, rec 2 x2 y z s = some t → kR sc e km_RuleText_readComparison [kr 54, kr 1, kI x2] (hH s) none (hH t))) (x2 : Int) (x3 : Int) (s : kM) (t : kM) (hf : f_RuleText_readFact_15 rec x2 x3 s = some t) (hq : (fun r => Q none (hH r)) t) : kW sc (e + 4) kc_RuleText_readFact 0 15 [some (kr 54), some (kr 1), some (kI x2), some (kI x3)] [] (hH s) Q := by
  unfold f_RuleText_readFact_15 at hf
  refine kw_step rfl rfl rfl rfl ?_
  refine kw_step rfl rfl rfl rfl ?_
  refine kw_icmp_lt rfl rfl (fun c1 => ?_) (fun c1 => ?_)
  · have hf := gift c1 hf
    refine kw_step rfl rfl rfl rfl ?_
    refine kw_if_eq rfl rfl (fun c2 => ?_) (fun c2 => ?_)
    · have hf := gift c2 hf
      refine kw_step rfl rfl rfl rfl ?_
      refine kw_step rfl rfl rfl rfl ?_
      obtain ⟨q3, hq3, hf⟩ := gbind hf
      refine kw_callV (vs := [kI 91]) rfl rfl rfl ⟨rfl, Nat.le_of_ble_eq_true rfl, Nat.le_of_ble_eq_true rfl, by decide⟩ (hH_O (rfl : kotab 1 = some kPo)) (c_Tape_takeSign 91 s _ hq3) (by omega) ?_
      refine kw_step rfl rfl rfl rfl ?_
      refine kw_step rfl rfl rfl rfl ?_
      refine kw_step rfl rfl rfl rfl ?_
      refine kw_step rfl rfl rfl rfl ?_
      refine kw_step rfl rfl rfl rfl ?_
      refine kw_step rfl rfl rfl rfl ?_
      refine kw_step rfl rfl rfl rfl ?_
      obtain ⟨q5, hq5, hf⟩ := gbind hf
      refine kw_callV (vs := [kr 1, kI 0, kI (wI (x2 + 1))]) rfl rfl rfl ⟨rfl, Nat.le_of_ble_eq_true rfl, Nat.le_of_ble_eq_true rfl, by decide⟩ (hH_O (rfl : kotab 54 = some kXo)) (hrec.1 0 (wI (x2 + 1)) 0 _ _ hq5) (by omega) ?_
      refine kw_step rfl rfl rfl rfl ?_
      refine kw_get rfl (hH_O (rfl : kotab 1 = some kPo)) rfl ?_
      refine kw_if_ne rfl rfl (fun c7 => ?_) (fun c7 => ?_)
      · have hf := giff c7 hf
        cases hf
        exact kw_ret rfl rfl rfl hq
      · have hf := gift c7 hf
        refine kw_step rfl rfl rfl rfl ?_
        refine kw_step rfl rfl rfl rfl ?_
        obtain ⟨q8, hq8, hf⟩ := gbind hf
        refine kw_callV (vs := [kI 93]) rfl rfl rfl ⟨rfl, Nat.le_of_ble_eq_true rfl, Nat.le_of_ble_eq_true rfl, by decide⟩ (hH_O (rfl : kotab 1 = some kPo)) (c_Tape_takeSign 93 q5 _ hq8) (by omega) ?_
        refine kw_if_ne rfl rfl (fun c10 => ?_) (fun c10 => ?_)
        · have hf := giff c10 hf
          cases hf
          exact kw_ret rfl rfl rfl hq
        · have hf := gift c10 hf
          refine kw_step rfl rfl rfl rfl ?_
          refine kw_step rfl rfl rfl rfl ?_
          obtain ⟨q11, hq11, hf⟩ := gbind hf
          refine kw_callV (vs := [kI 0]) rfl rfl rfl ⟨rfl, Nat.le_of_ble_eq_true rfl, Nat.le_of_ble_eq_true rfl, by decide⟩ (hH_O (rfl : kotab 1 = some kPo)) (c_Tape_fail 0 q8.2 _ hq11) (by omega) ?_
          cases hf
          exact kw_ret rfl rfl rfl hq
    · have hf := giff c2 hf
      refine kw_step rfl rfl rfl rfl ?_
      refine kw_step rfl rfl rfl rfl ?_
      obtain ⟨q13, hq13, hf⟩ := gbind hf
      refine kw_callV (vs := [kS 4]) rfl rfl rfl ⟨rfl, Nat.le_of_ble_eq_true rfl, Nat.le_of_ble_eq_true rfl, by decide⟩ (hH_O (rfl : kotab 1 = some kPo)) (c_Tape_takeWord 4 s _ hq13) (by omega) ?_
      refine kw_step rfl rfl rfl rfl ?_
      refine kw_step rfl rfl rfl rfl ?_
      refine kw_step rfl rfl rfl rfl ?_
      refine kw_step rfl rfl rfl rfl ?_
      refine kw_step rfl rfl rfl rfl ?_
      refine kw_step rfl rfl rfl rfl ?_
      obtain ⟨q15, hq15, hf⟩ := gbind hf
      refine kw_callV (vs := [kr 1, kI (wI (x2 + 1))]) rfl rfl rfl ⟨rfl, Nat.le_of_ble_eq_true rfl, Nat.le_of_ble_eq_true rfl, by decide⟩ (hH_O (rfl : kotab 54 = some kXo)) (hrec.2.1 (wI (x2 + 1)) 0 0 _ _ hq15) (by omega) ?_
      refine kw_step rfl rfl rfl rfl ?_
      refine kw_step rfl rfl rfl rfl ?_
      obtain ⟨q17, hq17, hf⟩ := gbind hf
      refine kw_callV (vs := [kI (-22)]) rfl rfl rfl ⟨rfl, Nat.le_of_ble_eq_true rfl, Nat.le_of_ble_eq_true rfl, by decide⟩ (hH_O (rfl : kotab 54 = some kXo)) (c_RuleText_emit (-22) q15 _ hq17) (by omega) ?_
      cases hf
      exact kw_ret rfl rfl rfl hq
  · have hf := giff c1 hf
    refine kw_step rfl rfl rfl rfl ?_
    refine kw_step rfl rfl rfl rfl ?_
    obtain ⟨q19, hq19, hf⟩ := gbind hf
    refine kw_callV (vs := [kI 2]) rfl rfl rfl ⟨rfl, Nat.le_of_ble_eq_true rfl, Nat.le_of_ble_eq_true rfl, by decide⟩ (hH_O (rfl : kotab 1 = some kPo)) (c_Tape_fail 2 s _ hq19) (by omega) ?_
    cases hf
    exact kw_ret rfl rfl rfl hq
def f_RuleText_readFact (rec : Nat → Int → Int → Int → kM → Option kM) (x2 : Int) (s : kM) : Option (kM) :=
  (f_Tape_seesWord 4 s).bind fun q1 => if q1.1 = 0 then ((f_Tape_look q1.2).bind fun q4 => if q4.1 = 91 then (f_RuleText_readFact_15 rec x2 q1.1 q4.2) else ((rec 2 x2 0 0 q4.2).bind fun q7 => some q7)) else (f_RuleText_readFact_15 rec x2 q1.1 q1.2)
set_option maxRecDepth 8000 in
theorem c_RuleText_readFact {sc : List Int} {e : Nat} (rec : Nat → Int → Int → Int → kM → Option kM) (hrec : (∀ x2 x3 y s t, rec 0 x2 x3 y s = some t → kR sc e km_RuleText_readLevel [kr 54, kr 1, kI x2, kI x3] (hH s) none (hH t)) ∧ (∀ x2 y z s t, rec 1 x2 y z s = some t → kR sc e km_RuleText_readFact [kr 54, kr 1, kI x2] (hH s) none (hH t)) ∧ (∀ x2 y z s t, rec 2 x2 y z s = some t → kR sc e km_RuleText_readComparison [kr 54, kr 1, kI x2] (hH s) none (hH t))) (x2 : Int) (s : kM) (t : kM) (hf : f_RuleText_readFact rec x2 s = some t) : kR sc (e + 4) km_RuleText_readFact [kr 54, kr 1, kI x2] (hH s) none (hH t) := by
  unfold f_RuleText_readFact at hf
  refine kR.start rfl ?_
  show kW sc (e + 4) kc_RuleText_readFact 0 0 [some (kr 54), some (kr 1), some (kI x2), none] [] (hH s) _
  have hq : (fun (r : Option kV) (g : kH) => r = none ∧ g = hH t) none (hH t) := ⟨rfl, rfl⟩
  refine kw_step rfl rfl rfl rfl ?_
  refine kw_step rfl rfl rfl rfl ?_
  obtain ⟨q1, hq1, hf⟩ := gbind hf
  refine kw_callV (vs := [kS 4]) rfl rfl rfl ⟨rfl, Nat.le_of_ble_eq_true rfl, Nat.le_of_ble_eq_true rfl, by decide⟩ (hH_O (rfl : kotab 1 = some kPo)) (c_Tape_seesWord 4 s _ hq1) (by omega) ?_
  refine kw_step (L' := [some (kr 54), some (kr 1), some (kI x2), some (kI q1.1)]) rfl rfl rfl rfl ?_
  refine kw_step rfl rfl rfl rfl ?_
  refine kw_if_ne rfl rfl (fun c3 => ?_) (fun c3 => ?_)
  · have hf := giff c3 hf
    exact kW_le (L' := [some (kr 54), some (kr 1), some (kI x2), some (kI q1.1)]) ⟨Or.inr rfl, Or.inr rfl, Or.inr rfl, Or.inr rfl, trivial⟩ (b_RuleText_readFact_15 rec hrec x2 q1.1 q1.2 _ hf hq)
  · have hf := gift c3 hf
    refine kw_step rfl rfl rfl rfl ?_
    obtain ⟨q4, hq4, hf⟩ := gbind hf
    refine kw_callV (vs := []) rfl rfl rfl ⟨rfl, Nat.le_of_ble_eq_true rfl, Nat.le_of_ble_eq_true rfl, by decide⟩ (hH_O (rfl : kotab 1 = some kPo)) (c_Tape_look q1.2 _ hq4) (by omega) ?_
    refine kw_step rfl rfl rfl rfl ?_
    refine kw_icmp_eq rfl rfl (fun c6 => ?_) (fun c6 => ?_)
    · have hf := gift c6 hf
      exact kW_le (L' := [some (kr 54), some (kr 1), some (kI x2), some (kI q1.1)]) ⟨Or.inr rfl, Or.inr rfl, Or.inr rfl, Or.inr rfl, trivial⟩ (b_RuleText_readFact_15 rec hrec x2 q1.1 q4.2 _ hf hq)
    · have hf := giff c6 hf
      refine kw_step rfl rfl rfl rfl ?_
      refine kw_step rfl rfl rfl rfl ?_
      refine kw_step rfl rfl rfl rfl ?_
      obtain ⟨q7, hq7, hf⟩ := gbind hf
      refine kw_callV (vs := [kr 1, kI x2]) rfl rfl rfl ⟨rfl, Nat.le_of_ble_eq_true rfl, Nat.le_of_ble_eq_true rfl, by decide⟩ (hH_O (rfl : kotab 54 = some kXo)) (hrec.2.2 x2 0 0 _ _ hq7) (by omega) ?_
      cases hf
      exact kw_ret rfl rfl rfl hq
def f_RuleText_readComparison_44 (rec : Nat → Int → Int → Int → kM → Option kM) (x2 : Int) (x3 : Int) (y1 : Int) (y2 : Int) (s : kM) : Option (kM) :=
  gLet (gU s 1 2 (wI (y1 + y2))) fun s1 => (rec 0 3 x2 0 s1).bind fun q4 => (f_RuleText_emit x3 q4).bind fun q6 => some q6
set_option maxRecDepth 8000 in
theorem b_RuleText_readComparison_44 {sc : List Int} {Q : Option kV → kH → Prop} {e : Nat} (rec : Nat → Int → Int → Int → kM → Option kM) (hrec : (∀ x2 x3 y s t, rec 0 x2 x3 y s = some t → kR sc e km_RuleText_readLevel [kr 54, kr 1, kI x2, kI x3] (hH s) none (hH t)) ∧ (∀ x2 y z s t, rec 1 x2 y z s = some t → kR sc e km_RuleText_readFact [kr 54, kr 1, kI x2] (hH s) none (hH t)) ∧ (∀ x2 y z s t, rec 2 x2 y z s = some t → kR sc e km_RuleText_readComparison [kr 54, kr 1, kI x2] (hH s) none (hH t))) (x2 : Int) (x3 : Int) (y1 : Int) (y2 : Int) (s : kM) (t : kM) (hf : f_RuleText_readComparison_44 rec x2 x3 y1 y2 s = some t) (hq : (fun r => Q none (hH r)) t) : kW sc (e + 4) kc_RuleText_readComparison 0 44 [some (kr 54), some (kr 1), some (kI x2), some (kI x3)] [kI y2, kI y1, kr 1] (hH s) Q := by
  unfold f_RuleText_readComparison_44 at hf
  refine kw_step rfl rfl rfl rfl ?_
  obtain ⟨s1, ee2, hf⟩ := gbL hf
  refine kw_putH rfl (rfl : kotab 1 = some kPo) rfl rfl rfl (Nat.le_of_ble_eq_true rfl) rfl ee2 ?_
  refine kw_step rfl rfl rfl rfl ?_
  refine kw_step rfl rfl rfl rfl ?_
  refine kw_step rfl rfl rfl rfl ?_
  refine kw_step rfl rfl rfl rfl ?_
  obtain ⟨q4, hq4, hf⟩ := gbind hf
  refine kw_callV (vs := [kr 1, kI 3, kI x2]) rfl rfl rfl ⟨rfl, Nat.le_of_ble_eq_true rfl, Nat.le_of_ble_eq_true rfl, by decide⟩ (hH_O (rfl : kotab 54 = some kXo)) (hrec.1 3 x2 0 _ _ hq4) (by omega) ?_
  refine kw_step rfl rfl rfl rfl ?_
  refine kw_step rfl rfl rfl rfl ?_
  obtain ⟨q6, hq6, hf⟩ := gbind hf
  refine kw_callV (vs := [kI x3]) rfl rfl rfl ⟨rfl, Nat.le_of_ble_eq_true rfl, Nat.le_of_ble_eq_true rfl, by decide⟩ (hH_O (rfl : kotab 54 = some kXo)) (c_RuleText_emit x3 q4 _ hq6) (by omega) ?_
  cases hf
  exact kw_ret rfl rfl rfl hq
def f_RuleText_readComparison_41 (rec : Nat → Int → Int → Int → kM → Option kM) (x2 : Int) (x3 : Int) (y1 : Int) (s : kM) : Option (kM) :=
  f_RuleText_readComparison_44 rec x2 x3 y1 2 s
set_option maxRecDepth 8000 in
theorem b_RuleText_readComparison_41 {sc : List Int} {Q : Option kV → kH → Prop} {e : Nat} (rec : Nat → Int → Int → Int → kM → Option kM) (hrec : (∀ x2 x3 y s t, rec 0 x2 x3 y s = some t → kR sc e km_RuleText_readLevel [kr 54, kr 1, kI x2, kI x3] (hH s) none (hH t)) ∧ (∀ x2 y z s t, rec 1 x2 y z s = some t → kR sc e km_RuleText_readFact [kr 54, kr 1, kI x2] (hH s) none (hH t)) ∧ (∀ x2 y z s t, rec 2 x2 y z s = some t → kR sc e km_RuleText_readComparison [kr 54, kr 1, kI x2] (hH s) none (hH t))) (x2 : Int) (x3 : Int) (y1 : Int) (s : kM) (t : kM) (hf : f_RuleText_readComparison_41 rec x2 x3 y1 s = some t) (hq : (fun r => Q none (hH r)) t) : kW sc (e + 4) kc_RuleText_readComparison 0 41 [some (kr 54), some (kr 1), some (kI x2), some (kI x3)] [kI y1, kr 1] (hH s) Q := by
  unfold f_RuleText_readComparison_41 at hf
  refine kw_step rfl rfl rfl rfl ?_
  refine kw_goto rfl rfl ?_
  exact kW_le (L' := [some (kr 54), some (kr 1), some (kI x2), some (kI x3)]) ⟨Or.inr rfl, Or.inr rfl, Or.inr rfl, Or.inr rfl, trivial⟩ (b_RuleText_readComparison_44 rec hrec x2 x3 y1 2 s _ hf hq)
def f_RuleText_readComparison (rec : Nat → Int → Int → Int → kM → Option kM) (x2 : Int) (s : kM) : Option (kM) :=
  (rec 0 3 x2 0 s).bind fun q1 => if (q1 1 3) = 0 then ((f_RuleText_seenSign q1).bind fun q4 => if q4.1 = 0 then ((f_Tape_fail 0 q4.2).bind fun q15 => some q15) else (if (q4.2 54 2) < 60 then (gLet (gU q4.2 54 2 (wI ((q4.2 54 2) + 1))) fun s8 => if q4.1 = (-16) then (f_RuleText_readComparison_41 rec x2 q4.1 (s8 1 2) s8) else (if q4.1 = (-18) then (f_RuleText_readComparison_41 rec x2 q4.1 (s8 1 2) s8) else (f_RuleText_readComparison_44 rec x2 q4.1 (s8 1 2) 1 s8))) else ((f_Tape_fail 3 q4.2).bind fun q13 => some q13))) else (some q1)
set_option maxRecDepth 8000 in
theorem c_RuleText_readComparison {sc : List Int} {e : Nat} (rec : Nat → Int → Int → Int → kM → Option kM) (hrec : (∀ x2 x3 y s t, rec 0 x2 x3 y s = some t → kR sc e km_RuleText_readLevel [kr 54, kr 1, kI x2, kI x3] (hH s) none (hH t)) ∧ (∀ x2 y z s t, rec 1 x2 y z s = some t → kR sc e km_RuleText_readFact [kr 54, kr 1, kI x2] (hH s) none (hH t)) ∧ (∀ x2 y z s t, rec 2 x2 y z s = some t → kR sc e km_RuleText_readComparison [kr 54, kr 1, kI x2] (hH s) none (hH t))) (x2 : Int) (s : kM) (t : kM) (hf : f_RuleText_readComparison rec x2 s = some t) : kR sc (e + 4) km_RuleText_readComparison [kr 54, kr 1, kI x2] (hH s) none (hH t) := by
  unfold f_RuleText_readComparison at hf
  refine kR.start rfl ?_
  show kW sc (e + 4) kc_RuleText_readComparison 0 0 [some (kr 54), some (kr 1), some (kI x2), none] [] (hH s) _
  have hq : (fun (r : Option kV) (g : kH) => r = none ∧ g = hH t) none (hH t) := ⟨rfl, rfl⟩
  refine kw_step rfl rfl rfl rfl ?_
  refine kw_step rfl rfl rfl rfl ?_
  refine kw_step rfl rfl rfl rfl ?_
  refine kw_step rfl rfl rfl rfl ?_
  obtain ⟨q1, hq1, hf⟩ := gbind hf
  refine kw_callV (vs := [kr 1, kI 3, kI x2]) rfl rfl rfl ⟨rfl, Nat.le_of_ble_eq_true rfl, Nat.le_of_ble_eq_true rfl, by decide⟩ (hH_O (rfl : kotab 54 = some kXo)) (hrec.1 3 x2 0 _ _ hq1) (by omega) ?_
  refine kw_step rfl rfl rfl rfl ?_
  refine kw_get rfl (hH_O (rfl : kotab 1 = some kPo)) rfl ?_
  refine kw_if_eq rfl rfl (fun c3 => ?_) (fun c3 => ?_)
  · have hf := gift c3 hf
    refine kw_step rfl rfl rfl rfl ?_
    obtain ⟨q4, hq4, hf⟩ := gbind hf
    refine kw_callS (vs := [kr 1]) rfl rfl rfl ⟨rfl, Nat.le_of_ble_eq_true rfl, Nat.le_of_ble_eq_true rfl, rfl⟩ (c_RuleText_seenSign q1 _ hq4) (by omega) ?_
    refine kw_step (L' := [some (kr 54), some (kr 1), some (kI x2), some (kI q4.1)]) rfl rfl rfl rfl ?_
    refine kw_step rfl rfl rfl rfl ?_
    refine kw_if_ne rfl rfl (fun c6 => ?_) (fun c6 => ?_)
    · have hf := giff c6 hf
      refine kw_step rfl rfl rfl rfl ?_
      refine kw_get rfl (hH_O (rfl : kotab 54 = some kXo)) rfl ?_
      refine kw_step rfl rfl rfl rfl ?_
      refine kw_icmp_lt rfl rfl (fun c7 => ?_) (fun c7 => ?_)
      · have hf := gift c7 hf
        refine kw_step rfl rfl rfl rfl ?_
        refine kw_step rfl rfl rfl rfl ?_
        refine kw_get rfl (hH_O (rfl : kotab 54 = some kXo)) rfl ?_
        refine kw_step rfl rfl rfl rfl ?_
        refine kw_step rfl rfl rfl rfl ?_
        obtain ⟨s8, ee9, hf⟩ := gbL hf
        refine kw_putH rfl (rfl : kotab 54 = some kXo) rfl rfl rfl (Nat.le_of_ble_eq_true rfl) rfl ee9 ?_
        refine kw_step rfl rfl rfl rfl ?_
        refine kw_step rfl rfl rfl rfl ?_
        refine kw_get rfl (hH_O (rfl : kotab 1 = some kPo)) rfl ?_
        refine kw_step rfl rfl rfl rfl ?_
        refine kw_step rfl rfl rfl rfl ?_
        refine kw_icmp_eq rfl rfl (fun c11 => ?_) (fun c11 => ?_)
        · have hf := gift c11 hf
          exact kW_le (L' := [some (kr 54), some (kr 1), some (kI x2), some (kI q4.1)]) ⟨Or.inr rfl, Or.inr rfl, Or.inr rfl, Or.inr rfl, trivial⟩ (b_RuleText_readComparison_41 rec hrec x2 q4.1 (s8 1 2) s8 _ hf hq)
        · have hf := giff c11 hf
          refine kw_step rfl rfl rfl rfl ?_
          refine kw_step rfl rfl rfl rfl ?_
          refine kw_icmp_ne rfl rfl (fun c12 => ?_) (fun c12 => ?_)
          · have hf := giff c12 hf
            refine kw_step rfl rfl rfl rfl ?_
            exact kW_le (L' := [some (kr 54), some (kr 1), some (kI x2), some (kI q4.1)]) ⟨Or.inr rfl, Or.inr rfl, Or.inr rfl, Or.inr rfl, trivial⟩ (b_RuleText_readComparison_44 rec hrec x2 q4.1 (s8 1 2) 1 s8 _ hf hq)
          · have hf := gift c12 hf
            exact kW_le (L' := [some (kr 54), some (kr 1), some (kI x2), some (kI q4.1)]) ⟨Or.inr rfl, Or.inr rfl, Or.inr rfl, Or.inr rfl, trivial⟩ (b_RuleText_readComparison_41 rec hrec x2 q4.1 (s8 1 2) s8 _ hf hq)
      · have hf := giff c7 hf
        refine kw_step rfl rfl rfl rfl ?_
        refine kw_step rfl rfl rfl rfl ?_
        obtain ⟨q13, hq13, hf⟩ := gbind hf
        refine kw_callV (vs := [kI 3]) rfl rfl rfl ⟨rfl, Nat.le_of_ble_eq_true rfl, Nat.le_of_ble_eq_true rfl, by decide⟩ (hH_O (rfl : kotab 1 = some kPo)) (c_Tape_fail 3 q4.2 _ hq13) (by omega) ?_
        cases hf
        exact kw_ret rfl rfl rfl hq
    · have hf := gift c6 hf
      refine kw_step rfl rfl rfl rfl ?_
      refine kw_step rfl rfl rfl rfl ?_
      obtain ⟨q15, hq15, hf⟩ := gbind hf
      refine kw_callV (vs := [kI 0]) rfl rfl rfl ⟨rfl, Nat.le_of_ble_eq_true rfl, Nat.le_of_ble_eq_true rfl, by decide⟩ (hH_O (rfl : kotab 1 = some kPo)) (c_Tape_fail 0 q4.2 _ hq15) (by omega) ?_
      cases hf
      exact kw_ret rfl rfl rfl hq
  · have hf := giff c3 hf
    cases hf
    exact kw_ret rfl rfl rfl hq
def fr_RuleText_readLevel : Nat → Nat → Int → Int → Int → kM → Option kM
  | 0, _, _, _, _, _ => none
  | n + 1, w, x2, x3, _, s => if w = 0 then f_RuleText_readLevel (fr_RuleText_readLevel n) x2 x3 s else if w = 1 then f_RuleText_readFact (fr_RuleText_readLevel n) x2 s else f_RuleText_readComparison (fr_RuleText_readLevel n) x2 s
theorem cr_RuleText {sc : List Int} : ∀ (n : Nat), (∀ (x2 x3 y : Int) (s t : kM), fr_RuleText_readLevel n 0 x2 x3 y s = some t → kR sc (n * 4) km_RuleText_readLevel [kr 54, kr 1, kI x2, kI x3] (hH s) none (hH t)) ∧ (∀ (x2 y z : Int) (s t : kM), fr_RuleText_readLevel n 1 x2 y z s = some t → kR sc (n * 4) km_RuleText_readFact [kr 54, kr 1, kI x2] (hH s) none (hH t)) ∧ (∀ (x2 y z : Int) (s t : kM), fr_RuleText_readLevel n 2 x2 y z s = some t → kR sc (n * 4) km_RuleText_readComparison [kr 54, kr 1, kI x2] (hH s) none (hH t)) := by
  intro n
  induction n with
  | zero => exact ⟨fun _ _ _ _ _ h => (by cases h), fun _ _ _ _ _ h => (by cases h), fun _ _ _ _ _ h => (by cases h)⟩
  | succ n ih =>
    rw [Nat.succ_mul]
    exact ⟨fun x2 x3 y s t h => c_RuleText_readLevel (fr_RuleText_readLevel n) ih x2 x3 s t h, fun x2 y z s t h => c_RuleText_readFact (fr_RuleText_readLevel n) ih x2 s t h, fun x2 y z s t h => c_RuleText_readComparison (fr_RuleText_readLevel n) ih x2 s t h⟩
theorem cr_RuleText_readLevel {sc : List Int} (n : Nat) (x2 x3 y : Int) (s t : kM) (h : fr_RuleText_readLevel n 0 x2 x3 y s = some t) : kR sc (n * 4) km_RuleText_readLevel [kr 54, kr 1, kI x2, kI x3] (hH s) none (hH t) := (cr_RuleText n).1 x2 x3 y s t h
def f_RuleText_readClause (x2 : Int) (s : kM) : Option (kM) :=
  (f_Tape_seesWord 3 s).bind fun q1 => if q1.1 = 0 then ((f_Tape_fail 0 q1.2).bind fun q14 => some q14) else (if x2 = 12 then ((f_Tape_fail 4 q1.2).bind fun q12 => some q12) else ((f_Tape_takeWord 3 q1.2).bind fun q5 => (fr_RuleText_readLevel 60 0 0 0 0 q5.2).bind fun q7 => if x2 ≤ 0 then (some q7) else ((f_RuleText_emit (-21) q7).bind fun q10 => some q10)))
set_option maxRecDepth 8000 in
theorem c_RuleText_readClause {sc : List Int} (x2 : Int) (s : kM) (t : kM) (hf : f_RuleText_readClause x2 s = some t) : kR sc 241 km_RuleText_readClause [kr 54, kr 1, kI x2] (hH s) none (hH t) := by
  unfold f_RuleText_readClause at hf
  refine kR.start rfl ?_
  show kW sc 241 kc_RuleText_readClause 0 0 [some (kr 54), some (kr 1), some (kI x2)] [] (hH s) _
  have hq : (fun (r : Option kV) (g : kH) => r = none ∧ g = hH t) none (hH t) := ⟨rfl, rfl⟩
  refine kw_step rfl rfl rfl rfl ?_
  refine kw_step rfl rfl rfl rfl ?_
  obtain ⟨q1, hq1, hf⟩ := gbind hf
  refine kw_callV (vs := [kS 3]) rfl rfl rfl ⟨rfl, Nat.le_of_ble_eq_true rfl, Nat.le_of_ble_eq_true rfl, by decide⟩ (hH_O (rfl : kotab 1 = some kPo)) (c_Tape_seesWord 3 s _ hq1) (Nat.le_of_ble_eq_true rfl) ?_
  refine kw_if_ne rfl rfl (fun c3 => ?_) (fun c3 => ?_)
  · have hf := giff c3 hf
    refine kw_step rfl rfl rfl rfl ?_
    refine kw_step rfl rfl rfl rfl ?_
    refine kw_icmp_ne rfl rfl (fun c4 => ?_) (fun c4 => ?_)
    · have hf := giff c4 hf
      refine kw_step rfl rfl rfl rfl ?_
      refine kw_step rfl rfl rfl rfl ?_
      obtain ⟨q5, hq5, hf⟩ := gbind hf
      refine kw_callV (vs := [kS 3]) rfl rfl rfl ⟨rfl, Nat.le_of_ble_eq_true rfl, Nat.le_of_ble_eq_true rfl, by decide⟩ (hH_O (rfl : kotab 1 = some kPo)) (c_Tape_takeWord 3 q1.2 _ hq5) (Nat.le_of_ble_eq_true rfl) ?_
      refine kw_step rfl rfl rfl rfl ?_
      refine kw_step rfl rfl rfl rfl ?_
      refine kw_step rfl rfl rfl rfl ?_
      refine kw_step rfl rfl rfl rfl ?_
      refine kw_step rfl rfl rfl rfl ?_
      obtain ⟨q7, hq7, hf⟩ := gbind hf
      refine kw_callV (vs := [kr 1, kI 0, kI 0]) rfl rfl rfl ⟨rfl, Nat.le_of_ble_eq_true rfl, Nat.le_of_ble_eq_true rfl, by decide⟩ (hH_O (rfl : kotab 54 = some kXo)) (cr_RuleText_readLevel 60 0 0 0 _ _ hq7) (Nat.le_of_ble_eq_true rfl) ?_
      refine kw_step rfl rfl rfl rfl ?_
      refine kw_if_le rfl rfl (fun c9 => ?_) (fun c9 => ?_)
      · have hf := gift c9 hf
        cases hf
        exact kw_ret rfl rfl rfl hq
      · have hf := giff c9 hf
        refine kw_step rfl rfl rfl rfl ?_
        refine kw_step rfl rfl rfl rfl ?_
        obtain ⟨q10, hq10, hf⟩ := gbind hf
        refine kw_callV (vs := [kI (-21)]) rfl rfl rfl ⟨rfl, Nat.le_of_ble_eq_true rfl, Nat.le_of_ble_eq_true rfl, by decide⟩ (hH_O (rfl : kotab 54 = some kXo)) (c_RuleText_emit (-21) q7 _ hq10) (Nat.le_of_ble_eq_true rfl) ?_
        cases hf
        exact kw_ret rfl rfl rfl hq
    · have hf := gift c4 hf
      refine kw_step rfl rfl rfl rfl ?_
      refine kw_step rfl rfl rfl rfl ?_
      obtain ⟨q12, hq12, hf⟩ := gbind hf
      refine kw_callV (vs := [kI 4]) rfl rfl rfl ⟨rfl, Nat.le_of_ble_eq_true rfl, Nat.le_of_ble_eq_true rfl, by decide⟩ (hH_O (rfl : kotab 1 = some kPo)) (c_Tape_fail 4 q1.2 _ hq12) (Nat.le_of_ble_eq_true rfl) ?_
      cases hf
      exact kw_ret rfl rfl rfl hq
  · have hf := gift c3 hf
    refine kw_step rfl rfl rfl rfl ?_
    refine kw_step rfl rfl rfl rfl ?_
    obtain ⟨q14, hq14, hf⟩ := gbind hf
    refine kw_callV (vs := [kI 0]) rfl rfl rfl ⟨rfl, Nat.le_of_ble_eq_true rfl, Nat.le_of_ble_eq_true rfl, by decide⟩ (hH_O (rfl : kotab 1 = some kPo)) (c_Tape_fail 0 q1.2 _ hq14) (Nat.le_of_ble_eq_true rfl) ?_
    cases hf
    exact kw_ret rfl rfl rfl hq
def f_KT_force (x1 : Int) (s : kM) : Option (Int × kM) :=
  if x1 < (-1) then (some ((-2), s)) else (if x1 < (s 0 11) then (gLet (gU s 3 2 x1) fun s3 => some ((s 3 2), s3)) else (some ((-2), s)))
set_option maxRecDepth 8000 in
theorem c_KT_force {sc : List Int} (x1 : Int) (s : kM) (t : Int × kM) (hf : f_KT_force x1 s = some t) : kR sc 0 km_KT_force [kr 0, kI x1] (hH s) (some (kI t.1)) (hH t.2) := by
  unfold f_KT_force at hf
  refine kR.start rfl ?_
  show kW sc 0 kc_KT_force 1 0 [some (kr 0), some (kI x1), none] [] (hH s) _
  have hq : (fun (r : Option kV) (g : kH) => r = some (kI t.1) ∧ g = hH t.2) (some (kI t.1)) (hH t.2) := ⟨rfl, rfl⟩
  refine kw_step rfl rfl rfl rfl ?_
  refine kw_step rfl rfl rfl rfl ?_
  refine kw_icmp_lt rfl rfl (fun c1 => ?_) (fun c1 => ?_)
  · have hf := gift c1 hf
    refine kw_step rfl rfl rfl rfl ?_
    cases hf
    exact kw_ret rfl rfl rfl hq
  · have hf := giff c1 hf
    refine kw_step rfl rfl rfl rfl ?_
    refine kw_step rfl rfl rfl rfl ?_
    refine kw_get rfl (hH_O (rfl : kotab 0 = some kKo)) rfl ?_
    refine kw_icmp_lt rfl rfl (fun c2 => ?_) (fun c2 => ?_)
    · have hf := gift c2 hf
      refine kw_step rfl rfl rfl rfl ?_
      refine kw_get rfl (hH_O (rfl : kotab 0 = some kKo)) rfl ?_
      refine kw_get rfl (hH_O (tS_0 (b := 3) rfl)) rfl ?_
      refine kw_step (L' := [some (kr 0), some (kI x1), some (kI (s 3 2))]) rfl rfl rfl rfl ?_
      refine kw_step rfl rfl rfl rfl ?_
      refine kw_get rfl (hH_O (rfl : kotab 0 = some kKo)) rfl ?_
      refine kw_step rfl rfl rfl rfl ?_
      obtain ⟨s3, ee4, hf⟩ := gbL hf
      refine kw_putH rfl (tS_0 (b := 3) rfl) rfl rfl rfl (Nat.le_of_ble_eq_true rfl) rfl ee4 ?_
      refine kw_step rfl rfl rfl rfl ?_
      cases hf
      exact kw_ret rfl rfl rfl hq
    · have hf := giff c2 hf
      refine kw_step rfl rfl rfl rfl ?_
      cases hf
      exact kw_ret rfl rfl rfl hq
