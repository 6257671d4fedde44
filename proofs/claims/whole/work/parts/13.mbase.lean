/-! the reference: its small methods. Cells: 86 scalar (roads, first, second, moves, draw, in force), 87 passBridge, 88 passOver, 89 hand, 98 overAt, 99 underAt -/
/-- how many places there are: numbers in their range -/
def mP (h : kH) : Prop := (0 ≤ ar h 86 1 ∧ ar h 86 1 ≤ 22) ∧ (0 ≤ ar h 86 2 ∧ ar h 86 2 ≤ 22) ∧ ar h 86 1 + ar h 86 2 ≤ 22
def mN (h : kH) : Int := ar h 86 1 + ar h 86 2
def mRoad (h : kH) (p : Int) : Int := if p < ar h 86 1 then 0 else 1
def mBeg (h : kH) (r : Int) : Int := if r = 0 then 0 else ar h 86 1
def mNext (h : kH) (p : Int) : Int := if p < ar h 86 1 then (if p + 1 = ar h 86 1 then 0 else p + 1) else (if p + 1 = ar h 86 1 + ar h 86 2 then ar h 86 1 else p + 1)
def mAhead (h : kH) (p : Int) : Int := if p < ar h 86 1 then (if p = 0 then ar h 86 1 - 1 else p - 1) else (if p = ar h 86 1 then ar h 86 1 + ar h 86 2 - 1 else p - 1)
set_option maxRecDepth 4000 in
theorem tM_isTown {sc : List Int} {h : kH} (hw : kWF h) : kR sc 0 km_M_isTown [kr 85] h (some (kI (if 0 < ar h 86 0 then 1 else 0))) h := by
  refine kR.start rfl ?_
  show kW sc 0 kc_M_isTown 2 0 [some (kr 85)] [] h _
  refine kw_step rfl rfl rfl rfl ?_
  refine kw_get rfl (hw.O (g := kMo) rfl) rfl ?_
  refine kw_step rfl rfl rfl rfl ?_
  refine kw_iald rfl (hw.A rfl) (by decide) (by decide) (j := 0) rfl ?_
  refine kw_if_le rfl rfl (fun c1 => ?_) (fun c1 => ?_)
  · refine kw_step rfl rfl rfl rfl ?_
    refine kw_ret rfl rfl rfl ?_
    refine ⟨?_, rfl⟩
    first | rw [if_neg (by show ¬ 0 < ar h 86 0; have : ar h 86 0 ≤ 0 := c1; omega)] | rw [if_pos (by show 0 < ar h 86 0; have : ¬ ar h 86 0 ≤ 0 := c1; omega)]
  · refine kw_step rfl rfl rfl rfl ?_
    refine kw_goto rfl rfl ?_
    refine kw_ret rfl rfl rfl ?_
    refine ⟨?_, rfl⟩
    first | rw [if_neg (by show ¬ 0 < ar h 86 0; have : ar h 86 0 ≤ 0 := c1; omega)] | rw [if_pos (by show 0 < ar h 86 0; have : ¬ ar h 86 0 ≤ 0 := c1; omega)]

set_option maxRecDepth 4000 in
theorem tM_places {sc : List Int} {h : kH} (hw : kWF h) (hp : mP h) : kR sc 0 km_M_places [kr 85] h (some (kI (mN h))) h := by
  refine kR.start rfl ?_
  show kW sc 0 kc_M_places 1 0 [some (kr 85)] [] h _
  obtain ⟨q1, q2, q3⟩ := hp
  refine kw_step rfl rfl rfl rfl ?_
  refine kw_get rfl (hw.O (g := kMo) rfl) rfl ?_
  refine kw_step rfl rfl rfl rfl ?_
  refine kw_iald rfl (hw.A rfl) (by decide) (by decide) (j := 1) rfl ?_
  refine kw_step rfl rfl rfl rfl ?_
  refine kw_get rfl (hw.O (g := kMo) rfl) rfl ?_
  refine kw_step rfl rfl rfl rfl ?_
  refine kw_iald rfl (hw.A rfl) (by decide) (by decide) (j := 2) rfl ?_
  refine kw_step rfl rfl rfl rfl ?_
  rw [wI_id (by omega) (by omega)]
  refine kw_ret rfl rfl rfl ?_
  exact ⟨rfl, rfl⟩

set_option maxRecDepth 4000 in
theorem tM_in {sc : List Int} {h : kH} (v lo hi : Int) : kR sc 0 km_M_in [kJ v, kJ lo, kJ hi] h (some (kI (if lo ≤ v ∧ v ≤ hi then 1 else 0))) h := by
  refine kR.start rfl ?_
  show kW sc 0 kc_M_in 2 0 [some (kJ v), none, some (kJ lo), none, some (kJ hi), none] [] h _
  refine kw_step rfl rfl rfl rfl ?_
  refine kw_step rfl rfl rfl rfl ?_
  refine kw_step rfl rfl rfl rfl ?_
  refine kw_if_lt rfl rfl (fun c1 => ?_) (fun c1 => ?_)
  · refine kw_step rfl rfl rfl rfl ?_
    refine kw_ret rfl rfl rfl ?_
    refine ⟨?_, rfl⟩
    simp only [klc_lt, klc_gt, klc_ge, klc_le, klc_eq] at *
    first | rw [if_pos (by omega)] | rw [if_neg (by omega)]
  · refine kw_step rfl rfl rfl rfl ?_
    refine kw_step rfl rfl rfl rfl ?_
    refine kw_step rfl rfl rfl rfl ?_
    refine kw_if_gt rfl rfl (fun c2 => ?_) (fun c2 => ?_)
    · refine kw_step rfl rfl rfl rfl ?_
      refine kw_ret rfl rfl rfl ?_
      refine ⟨?_, rfl⟩
      simp only [klc_lt, klc_gt, klc_ge, klc_le, klc_eq] at *
      first | rw [if_pos (by omega)] | rw [if_neg (by omega)]
    · refine kw_step rfl rfl rfl rfl ?_
      refine kw_goto rfl rfl ?_
      refine kw_ret rfl rfl rfl ?_
      refine ⟨?_, rfl⟩
      simp only [klc_lt, klc_gt, klc_ge, klc_le, klc_eq] at *
      first | rw [if_pos (by omega)] | rw [if_neg (by omega)]

set_option maxRecDepth 4000 in
theorem tM_roadOf {sc : List Int} {h : kH} (hw : kWF h) (p : Int) : kR sc 0 km_M_roadOf [kr 85, kI p] h (some (kI (mRoad h p))) h := by
  refine kR.start rfl ?_
  show kW sc 0 kc_M_roadOf 1 0 [some (kr 85), some (kI p)] [] h _
  refine kw_step rfl rfl rfl rfl ?_
  refine kw_step rfl rfl rfl rfl ?_
  refine kw_get rfl (hw.O (g := kMo) rfl) rfl ?_
  refine kw_step rfl rfl rfl rfl ?_
  refine kw_iald rfl (hw.A rfl) (by decide) (by decide) (j := 1) rfl ?_
  refine kw_icmp_ge rfl rfl (fun c1 => ?_) (fun c1 => ?_)
  · refine kw_step rfl rfl rfl rfl ?_
    refine kw_ret rfl rfl rfl ?_
    refine ⟨?_, rfl⟩
    unfold mRoad
    first | rw [if_neg (by show ¬ p < ar h 86 1; have : ar h 86 1 ≤ p := c1; omega)] | rw [if_pos (by show p < ar h 86 1; have : ¬ ar h 86 1 ≤ p := c1; omega)]
  · refine kw_step rfl rfl rfl rfl ?_
    refine kw_goto rfl rfl ?_
    refine kw_ret rfl rfl rfl ?_
    refine ⟨?_, rfl⟩
    unfold mRoad
    first | rw [if_neg (by show ¬ p < ar h 86 1; have : ar h 86 1 ≤ p := c1; omega)] | rw [if_pos (by show p < ar h 86 1; have : ¬ ar h 86 1 ≤ p := c1; omega)]

set_option maxRecDepth 4000 in
theorem tM_beginOf {sc : List Int} {h : kH} (hw : kWF h) (r : Int) : kR sc 0 km_M_beginOf [kr 85, kI r] h (some (kI (mBeg h r))) h := by
  refine kR.start rfl ?_
  show kW sc 0 kc_M_beginOf 1 0 [some (kr 85), some (kI r)] [] h _
  refine kw_step rfl rfl rfl rfl ?_
  refine kw_if_ne rfl rfl (fun c1 => ?_) (fun c1 => ?_)
  · refine kw_step rfl rfl rfl rfl ?_
    refine kw_get rfl (hw.O (g := kMo) rfl) rfl ?_
    refine kw_step rfl rfl rfl rfl ?_
    refine kw_iald rfl (hw.A rfl) (by decide) (by decide) (j := 1) rfl ?_
    refine kw_ret rfl rfl rfl ?_
    refine ⟨?_, rfl⟩
    unfold mBeg
    first | rw [if_pos c1] | rw [if_neg c1]
    try rfl
  · refine kw_step rfl rfl rfl rfl ?_
    refine kw_goto rfl rfl ?_
    refine kw_ret rfl rfl rfl ?_
    refine ⟨?_, rfl⟩
    unfold mBeg
    first | rw [if_pos c1] | rw [if_neg c1]
    try rfl

set_option maxRecDepth 4000 in
theorem tM_next {sc : List Int} {h : kH} (hw : kWF h) (hp : mP h) (p : Int) (h0 : 0 ≤ p) (h1 : p < mN h) : kR sc 1 km_M_next [kr 85, kI p] h (some (kI (mNext h p))) h := by
  refine kR.start rfl ?_
  show kW sc 1 kc_M_next 1 0 [some (kr 85), some (kI p), none] [] h _
  obtain ⟨q1, q2, q3⟩ := hp
  unfold mN at h1
  unfold mNext
  by_cases hr : p < ar h 86 1
  · have r1 : mRoad h p = 0 := if_pos hr
    have r2 : mBeg h 0 = 0 := rfl
    rw [if_pos hr]
    refine kw_step rfl rfl rfl rfl ?_
    refine kw_step rfl rfl rfl rfl ?_
    refine kw_callV (vs := [_]) rfl rfl rfl ⟨rfl, Nat.le_of_ble_eq_true rfl, Nat.le_of_ble_eq_true rfl, by decide⟩ (hw.O (g := kMo) rfl) (tM_roadOf hw _) (by omega) ?_
    rw [r1]
    refine kw_step rfl rfl rfl rfl ?_
    refine kw_step rfl rfl rfl rfl ?_
    refine kw_step rfl rfl rfl rfl ?_
    refine kw_step rfl rfl rfl rfl ?_
    rw [wI_id (by omega) (by omega)]
    refine kw_step rfl rfl rfl rfl ?_
    refine kw_step rfl rfl rfl rfl ?_
    refine kw_callV (vs := [_]) rfl rfl rfl ⟨rfl, Nat.le_of_ble_eq_true rfl, Nat.le_of_ble_eq_true rfl, by decide⟩ (hw.O (g := kMo) rfl) (tM_beginOf hw _) (by omega) ?_
    rw [r2]
    refine kw_step rfl rfl rfl rfl ?_
    refine kw_get rfl (hw.O (g := kMo) rfl) rfl ?_
    refine kw_step rfl rfl rfl rfl ?_
    refine kw_step rfl rfl rfl rfl ?_
    refine kw_step rfl rfl rfl rfl ?_
    rw [wI_id (by omega) (by omega)]
    refine kw_iald rfl (hw.A rfl) (by decide) (by decide) (j := 1) rfl ?_
    refine kw_step rfl rfl rfl rfl ?_
    rw [wI_id (by omega) (by omega)]
    refine kw_icmp_ne rfl rfl (fun c1 => ?_) (fun c1 => ?_)
    · refine kw_step rfl rfl rfl rfl ?_
      refine kw_step rfl rfl rfl rfl ?_
      refine kw_step rfl rfl rfl rfl ?_
      rw [wI_id (by omega) (by omega)]
      refine kw_ret rfl rfl rfl ?_
      refine ⟨?_, rfl⟩
      first | (rw [if_pos (by omega)]) | (rw [if_neg (by omega)]) | grind
      try (congr 2; omega)
    · refine kw_step rfl rfl rfl rfl ?_
      refine kw_step rfl rfl rfl rfl ?_
      refine kw_callV (vs := [_]) rfl rfl rfl ⟨rfl, Nat.le_of_ble_eq_true rfl, Nat.le_of_ble_eq_true rfl, by decide⟩ (hw.O (g := kMo) rfl) (tM_beginOf hw _) (by omega) ?_
      rw [r2]
      refine kw_goto rfl rfl ?_
      refine kw_ret rfl rfl rfl ?_
      refine ⟨?_, rfl⟩
      first | (rw [if_pos (by omega)]) | (rw [if_neg (by omega)]) | grind
      try (congr 2; omega)
  · have r1 : mRoad h p = 1 := if_neg hr
    have r2 : mBeg h 1 = ar h 86 1 := rfl
    rw [if_neg hr]
    refine kw_step rfl rfl rfl rfl ?_
    refine kw_step rfl rfl rfl rfl ?_
    refine kw_callV (vs := [_]) rfl rfl rfl ⟨rfl, Nat.le_of_ble_eq_true rfl, Nat.le_of_ble_eq_true rfl, by decide⟩ (hw.O (g := kMo) rfl) (tM_roadOf hw _) (by omega) ?_
    rw [r1]
    refine kw_step rfl rfl rfl rfl ?_
    refine kw_step rfl rfl rfl rfl ?_
    refine kw_step rfl rfl rfl rfl ?_
    refine kw_step rfl rfl rfl rfl ?_
    rw [wI_id (by omega) (by omega)]
    refine kw_step rfl rfl rfl rfl ?_
    refine kw_step rfl rfl rfl rfl ?_
    refine kw_callV (vs := [_]) rfl rfl rfl ⟨rfl, Nat.le_of_ble_eq_true rfl, Nat.le_of_ble_eq_true rfl, by decide⟩ (hw.O (g := kMo) rfl) (tM_beginOf hw _) (by omega) ?_
    rw [r2]
    refine kw_step rfl rfl rfl rfl ?_
    refine kw_get rfl (hw.O (g := kMo) rfl) rfl ?_
    refine kw_step rfl rfl rfl rfl ?_
    refine kw_step rfl rfl rfl rfl ?_
    refine kw_step rfl rfl rfl rfl ?_
    rw [wI_id (by omega) (by omega)]
    refine kw_iald rfl (hw.A rfl) (by decide) (by decide) (j := 2) rfl ?_
    refine kw_step rfl rfl rfl rfl ?_
    rw [wI_id (by omega) (by omega)]
    refine kw_icmp_ne rfl rfl (fun c1 => ?_) (fun c1 => ?_)
    · refine kw_step rfl rfl rfl rfl ?_
      refine kw_step rfl rfl rfl rfl ?_
      refine kw_step rfl rfl rfl rfl ?_
      rw [wI_id (by omega) (by omega)]
      refine kw_ret rfl rfl rfl ?_
      refine ⟨?_, rfl⟩
      first | (rw [if_pos (by omega)]) | (rw [if_neg (by omega)]) | grind
      try (congr 2; omega)
    · refine kw_step rfl rfl rfl rfl ?_
      refine kw_step rfl rfl rfl rfl ?_
      refine kw_callV (vs := [_]) rfl rfl rfl ⟨rfl, Nat.le_of_ble_eq_true rfl, Nat.le_of_ble_eq_true rfl, by decide⟩ (hw.O (g := kMo) rfl) (tM_beginOf hw _) (by omega) ?_
      rw [r2]
      refine kw_goto rfl rfl ?_
      refine kw_ret rfl rfl rfl ?_
      refine ⟨?_, rfl⟩
      first | (rw [if_pos (by omega)]) | (rw [if_neg (by omega)]) | grind
      try (congr 2; omega)

set_option maxRecDepth 4000 in
theorem tM_ahead {sc : List Int} {h : kH} (hw : kWF h) (hp : mP h) (p : Int) (h0 : 0 ≤ p) (h1 : p < mN h) : kR sc 1 km_M_ahead [kr 85, kI p] h (some (kI (mAhead h p))) h := by
  refine kR.start rfl ?_
  show kW sc 1 kc_M_ahead 1 0 [some (kr 85), some (kI p), none] [] h _
  obtain ⟨q1, q2, q3⟩ := hp
  unfold mN at h1
  unfold mAhead
  by_cases hr : p < ar h 86 1
  · have r1 : mRoad h p = 0 := if_pos hr
    have r2 : mBeg h 0 = 0 := rfl
    rw [if_pos hr]
    refine kw_step rfl rfl rfl rfl ?_
    refine kw_step rfl rfl rfl rfl ?_
    refine kw_callV (vs := [_]) rfl rfl rfl ⟨rfl, Nat.le_of_ble_eq_true rfl, Nat.le_of_ble_eq_true rfl, by decide⟩ (hw.O (g := kMo) rfl) (tM_roadOf hw _) (by omega) ?_
    rw [r1]
    refine kw_step rfl rfl rfl rfl ?_
    refine kw_step rfl rfl rfl rfl ?_
    refine kw_step rfl rfl rfl rfl ?_
    refine kw_step rfl rfl rfl rfl ?_
    refine kw_callV (vs := [_]) rfl rfl rfl ⟨rfl, Nat.le_of_ble_eq_true rfl, Nat.le_of_ble_eq_true rfl, by decide⟩ (hw.O (g := kMo) rfl) (tM_beginOf hw _) (by omega) ?_
    rw [r2]
    refine kw_icmp_ne rfl rfl (fun c1 => ?_) (fun c1 => ?_)
    · refine kw_step rfl rfl rfl rfl ?_
      refine kw_step rfl rfl rfl rfl ?_
      refine kw_step rfl rfl rfl rfl ?_
      rw [wI_id (by omega) (by omega)]
      refine kw_ret rfl rfl rfl ?_
      refine ⟨?_, rfl⟩
      first | (rw [if_pos (by omega)]) | (rw [if_neg (by omega)]) | grind
      try (congr 2; omega)
    · refine kw_step rfl rfl rfl rfl ?_
      refine kw_step rfl rfl rfl rfl ?_
      refine kw_get rfl (hw.O (g := kMo) rfl) rfl ?_
      refine kw_step rfl rfl rfl rfl ?_
      refine kw_step rfl rfl rfl rfl ?_
      refine kw_step rfl rfl rfl rfl ?_
      rw [wI_id (by omega) (by omega)]
      refine kw_iald rfl (hw.A rfl) (by decide) (by decide) (j := 1) rfl ?_
      refine kw_step rfl rfl rfl rfl ?_
      rw [wI_id (by omega) (by omega)]
      refine kw_step rfl rfl rfl rfl ?_
      refine kw_step rfl rfl rfl rfl ?_
      rw [wI_id (by omega) (by omega)]
      refine kw_goto rfl rfl ?_
      refine kw_ret rfl rfl rfl ?_
      refine ⟨?_, rfl⟩
      first | (rw [if_pos (by omega)]) | (rw [if_neg (by omega)]) | grind
      try (congr 2; omega)
  · have r1 : mRoad h p = 1 := if_neg hr
    have r2 : mBeg h 1 = ar h 86 1 := rfl
    rw [if_neg hr]
    refine kw_step rfl rfl rfl rfl ?_
    refine kw_step rfl rfl rfl rfl ?_
    refine kw_callV (vs := [_]) rfl rfl rfl ⟨rfl, Nat.le_of_ble_eq_true rfl, Nat.le_of_ble_eq_true rfl, by decide⟩ (hw.O (g := kMo) rfl) (tM_roadOf hw _) (by omega) ?_
    rw [r1]
    refine kw_step rfl rfl rfl rfl ?_
    refine kw_step rfl rfl rfl rfl ?_
    refine kw_step rfl rfl rfl rfl ?_
    refine kw_step rfl rfl rfl rfl ?_
    refine kw_callV (vs := [_]) rfl rfl rfl ⟨rfl, Nat.le_of_ble_eq_true rfl, Nat.le_of_ble_eq_true rfl, by decide⟩ (hw.O (g := kMo) rfl) (tM_beginOf hw _) (by omega) ?_
    rw [r2]
    refine kw_icmp_ne rfl rfl (fun c1 => ?_) (fun c1 => ?_)
    · refine kw_step rfl rfl rfl rfl ?_
      refine kw_step rfl rfl rfl rfl ?_
      refine kw_step rfl rfl rfl rfl ?_
      rw [wI_id (by omega) (by omega)]
      refine kw_ret rfl rfl rfl ?_
      refine ⟨?_, rfl⟩
      first | (rw [if_pos (by omega)]) | (rw [if_neg (by omega)]) | grind
      try (congr 2; omega)
    · refine kw_step rfl rfl rfl rfl ?_
      refine kw_step rfl rfl rfl rfl ?_
      refine kw_get rfl (hw.O (g := kMo) rfl) rfl ?_
      refine kw_step rfl rfl rfl rfl ?_
      refine kw_step rfl rfl rfl rfl ?_
      refine kw_step rfl rfl rfl rfl ?_
      rw [wI_id (by omega) (by omega)]
      refine kw_iald rfl (hw.A rfl) (by decide) (by decide) (j := 2) rfl ?_
      refine kw_step rfl rfl rfl rfl ?_
      rw [wI_id (by omega) (by omega)]
      refine kw_step rfl rfl rfl rfl ?_
      refine kw_step rfl rfl rfl rfl ?_
      rw [wI_id (by omega) (by omega)]
      refine kw_goto rfl rfl ?_
      refine kw_ret rfl rfl rfl ?_
      refine ⟨?_, rfl⟩
      first | (rw [if_pos (by omega)]) | (rw [if_neg (by omega)]) | grind
      try (congr 2; omega)
