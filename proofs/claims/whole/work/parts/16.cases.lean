/-! the smallest cases, on both sides -/
set_option maxRecDepth 4000 in
theorem tKT_end {sc : List Int} {h : kH} (hw : kWF h) (n : Int) : kR sc 0 km_KT_end [kr 0, kI n] h (some (kI (if 0 ≤ n ∧ n ≤ ob h 1 1 then n else -1))) (if 0 ≤ n ∧ n ≤ ob h 1 1 then kput h 1 (kPo (kup (ob h 1) 1 n)) else h) := by
  refine kR.start rfl ?_
  show kW sc 0 kc_KT_end 1 0 [some (kr 0), some (kI n)] [] h _
  refine kw_step rfl rfl rfl rfl ?_
  refine kw_if_lt rfl rfl (fun c1 => ?_) (fun c1 => ?_)
  · refine kw_step rfl rfl rfl rfl ?_
    refine kw_ret rfl rfl rfl ?_
    first
      | (have e2 : n ≤ ob h 1 1 := c2; rw [if_pos ⟨by omega, e2⟩, if_pos ⟨by omega, e2⟩]; exact ⟨rfl, rfl⟩)
      | (have e2 : ¬ n ≤ ob h 1 1 := c2; rw [if_neg (fun q => e2 q.2), if_neg (fun q => e2 q.2)]; exact ⟨rfl, rfl⟩)
      | (rw [if_neg (fun q => by have := q.1; omega), if_neg (fun q => by have := q.1; omega)]; exact ⟨rfl, rfl⟩)
  · refine kw_step rfl rfl rfl rfl ?_
    refine kw_step rfl rfl rfl rfl ?_
    refine kw_get rfl (hw.O (g := kKo) rfl) rfl ?_
    refine kw_get rfl (hw.O (g := kPo) rfl) rfl ?_
    refine kw_icmp_le rfl rfl (fun c2 => ?_) (fun c2 => ?_)
    · refine kw_step rfl rfl rfl rfl ?_
      refine kw_get rfl (hw.O (g := kKo) rfl) rfl ?_
      refine kw_step rfl rfl rfl rfl ?_
      refine kw_put rfl (hw.O (g := kPo) rfl) (Nat.le_of_ble_eq_true rfl) rfl ?_
      -- put kPo.length
      refine kw_step rfl rfl rfl rfl ?_
      refine kw_ret rfl rfl rfl ?_
      first
        | (have e2 : n ≤ ob h 1 1 := c2; rw [if_pos ⟨by omega, e2⟩, if_pos ⟨by omega, e2⟩]; exact ⟨rfl, rfl⟩)
        | (have e2 : ¬ n ≤ ob h 1 1 := c2; rw [if_neg (fun q => e2 q.2), if_neg (fun q => e2 q.2)]; exact ⟨rfl, rfl⟩)
        | (rw [if_neg (fun q => by have := q.1; omega), if_neg (fun q => by have := q.1; omega)]; exact ⟨rfl, rfl⟩)
    · refine kw_step rfl rfl rfl rfl ?_
      refine kw_ret rfl rfl rfl ?_
      first
        | (have e2 : n ≤ ob h 1 1 := c2; rw [if_pos ⟨by omega, e2⟩, if_pos ⟨by omega, e2⟩]; exact ⟨rfl, rfl⟩)
        | (have e2 : ¬ n ≤ ob h 1 1 := c2; rw [if_neg (fun q => e2 q.2), if_neg (fun q => e2 q.2)]; exact ⟨rfl, rfl⟩)
        | (rw [if_neg (fun q => by have := q.1; omega), if_neg (fun q => by have := q.1; omega)]; exact ⟨rfl, rfl⟩)

set_option maxRecDepth 4000 in
theorem tM_end {sc : List Int} {h : kH} (hw : kWF h) (n : Int) : kR sc 0 km_M_end [kr 85, kI n] h (some (kI (if 0 ≤ n ∧ n ≤ ob h 85 21 then n else -1))) (if 0 ≤ n ∧ n ≤ ob h 85 21 then kput h 85 (kMo (kup (ob h 85) 21 n)) else h) := by
  refine kR.start rfl ?_
  show kW sc 0 kc_M_end 1 0 [some (kr 85), some (kI n)] [] h _
  refine kw_step rfl rfl rfl rfl ?_
  refine kw_if_lt rfl rfl (fun c1 => ?_) (fun c1 => ?_)
  · refine kw_step rfl rfl rfl rfl ?_
    refine kw_ret rfl rfl rfl ?_
    first
      | (have e2 : n ≤ ob h 85 21 := c2; rw [if_pos ⟨by omega, e2⟩, if_pos ⟨by omega, e2⟩]; exact ⟨rfl, rfl⟩)
      | (have e2 : ¬ n ≤ ob h 85 21 := c2; rw [if_neg (fun q => e2 q.2), if_neg (fun q => e2 q.2)]; exact ⟨rfl, rfl⟩)
      | (rw [if_neg (fun q => by have := q.1; omega), if_neg (fun q => by have := q.1; omega)]; exact ⟨rfl, rfl⟩)
  · refine kw_step rfl rfl rfl rfl ?_
    refine kw_step rfl rfl rfl rfl ?_
    refine kw_get rfl (hw.O (g := kMo) rfl) rfl ?_
    refine kw_icmp_le rfl rfl (fun c2 => ?_) (fun c2 => ?_)
    · refine kw_step rfl rfl rfl rfl ?_
      refine kw_step rfl rfl rfl rfl ?_
      refine kw_put rfl (hw.O (g := kMo) rfl) (Nat.le_of_ble_eq_true rfl) rfl ?_
      -- put kMo.taped
      refine kw_step rfl rfl rfl rfl ?_
      refine kw_ret rfl rfl rfl ?_
      first
        | (have e2 : n ≤ ob h 85 21 := c2; rw [if_pos ⟨by omega, e2⟩, if_pos ⟨by omega, e2⟩]; exact ⟨rfl, rfl⟩)
        | (have e2 : ¬ n ≤ ob h 85 21 := c2; rw [if_neg (fun q => e2 q.2), if_neg (fun q => e2 q.2)]; exact ⟨rfl, rfl⟩)
        | (rw [if_neg (fun q => by have := q.1; omega), if_neg (fun q => by have := q.1; omega)]; exact ⟨rfl, rfl⟩)
    · refine kw_step rfl rfl rfl rfl ?_
      refine kw_ret rfl rfl rfl ?_
      first
        | (have e2 : n ≤ ob h 85 21 := c2; rw [if_pos ⟨by omega, e2⟩, if_pos ⟨by omega, e2⟩]; exact ⟨rfl, rfl⟩)
        | (have e2 : ¬ n ≤ ob h 85 21 := c2; rw [if_neg (fun q => e2 q.2), if_neg (fun q => e2 q.2)]; exact ⟨rfl, rfl⟩)
        | (rw [if_neg (fun q => by have := q.1; omega), if_neg (fun q => by have := q.1; omega)]; exact ⟨rfl, rfl⟩)

set_option maxRecDepth 4000 in
theorem tKT_seed {sc : List Int} {h : kH} (hw : kWF h) (n : Int) : kR sc 0 km_KT_seed [kr 0, kI n] h (some (kI (if 0 ≤ n then ob h 3 3 else -1))) (if 0 ≤ n then kput h 3 (kSo 3 (kup (ob h 3) 3 n)) else h) := by
  refine kR.start rfl ?_
  show kW sc 0 kc_KT_seed 1 0 [some (kr 0), some (kI n), none] [] h _
  refine kw_step rfl rfl rfl rfl ?_
  refine kw_if_ge rfl rfl (fun c1 => ?_) (fun c1 => ?_)
  · refine kw_step rfl rfl rfl rfl ?_
    refine kw_get rfl (hw.O (g := kKo) rfl) rfl ?_
    refine kw_get rfl (hw.O (g := kSo 3) rfl) rfl ?_
    refine kw_step rfl rfl rfl rfl ?_
    refine kw_step rfl rfl rfl rfl ?_
    refine kw_get rfl (hw.O (g := kKo) rfl) rfl ?_
    refine kw_step rfl rfl rfl rfl ?_
    refine kw_put rfl (hw.O (g := kSo 3) rfl) (Nat.le_of_ble_eq_true rfl) rfl ?_
    refine kw_step rfl rfl rfl rfl ?_
    refine kw_ret rfl rfl rfl ?_
    first
      | (have e1 : 0 ≤ n := c1; rw [if_pos e1, if_pos e1]; exact ⟨rfl, rfl⟩)
      | (have e1 : ¬ 0 ≤ n := c1; rw [if_neg e1, if_neg e1]; exact ⟨rfl, rfl⟩)
  · refine kw_step rfl rfl rfl rfl ?_
    refine kw_ret rfl rfl rfl ?_
    first
      | (have e1 : 0 ≤ n := c1; rw [if_pos e1, if_pos e1]; exact ⟨rfl, rfl⟩)
      | (have e1 : ¬ 0 ≤ n := c1; rw [if_neg e1, if_neg e1]; exact ⟨rfl, rfl⟩)

set_option maxRecDepth 4000 in
theorem tM_seed {sc : List Int} {h : kH} (hw : kWF h) (n : Int) : kR sc 0 km_M_seed [kr 85, kI n] h (some (kI (if 0 ≤ n then ar h 86 4 else -1))) (if 0 ≤ n then kput h 86 (kAi 6 (kup (ar h 86) 4 n)) else h) := by
  refine kR.start rfl ?_
  show kW sc 0 kc_M_seed 1 0 [some (kr 85), some (kI n), none] [] h _
  refine kw_step rfl rfl rfl rfl ?_
  refine kw_if_ge rfl rfl (fun c1 => ?_) (fun c1 => ?_)
  · refine kw_step rfl rfl rfl rfl ?_
    refine kw_get rfl (hw.O (g := kMo) rfl) rfl ?_
    refine kw_step rfl rfl rfl rfl ?_
    refine kw_iald rfl (hw.A rfl) (by decide) (by decide) (j := 4) rfl ?_
    refine kw_step rfl rfl rfl rfl ?_
    refine kw_step rfl rfl rfl rfl ?_
    refine kw_get rfl (hw.O (g := kMo) rfl) rfl ?_
    refine kw_step rfl rfl rfl rfl ?_
    refine kw_step rfl rfl rfl rfl ?_
    refine kw_iast rfl (hw.A rfl) (by decide) (by decide) (j := 4) rfl ?_
    -- store
    refine kw_step rfl rfl rfl rfl ?_
    refine kw_ret rfl rfl rfl ?_
    first
      | (have e1 : 0 ≤ n := c1; rw [if_pos e1, if_pos e1]; exact ⟨rfl, rfl⟩)
      | (have e1 : ¬ 0 ≤ n := c1; rw [if_neg e1, if_neg e1]; exact ⟨rfl, rfl⟩)
  · refine kw_step rfl rfl rfl rfl ?_
    refine kw_ret rfl rfl rfl ?_
    first
      | (have e1 : 0 ≤ n := c1; rw [if_pos e1, if_pos e1]; exact ⟨rfl, rfl⟩)
      | (have e1 : ¬ 0 ≤ n := c1; rw [if_neg e1, if_neg e1]; exact ⟨rfl, rfl⟩)
