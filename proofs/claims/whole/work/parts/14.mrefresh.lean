/-! the reference: refresh -/
theorem kput3 (h : kH) {a b : Nat} (hn : a ≠ b) (e1 e2 e3 : kE) : kput (kput (kput h a e1) b e2) a e3 = kput (kput h a e3) b e2 := by
  rw [kputC (kput h a e1) (Ne.symm hn), kput2]
def kfill (x : Int) (b : Nat) (o : Nat → Int) : Nat → Int := fun j => if j < b then x else o j
theorem kfill_0 (x : Int) (o : Nat → Int) : kfill x 0 o = o := by
  funext j
  simp [kfill]
theorem kfill_s (x : Int) (b : Nat) (o : Nat → Int) : kup (kfill x b o) b x = kfill x (b + 1) o := by
  funext j
  simp only [kup, kfill]
  by_cases h1 : j = b
  · rw [if_pos h1, if_pos (by omega)]
  · rw [if_neg h1]
    by_cases h2 : j < b
    · rw [if_pos h2, if_pos (by omega)]
    · rw [if_neg h2, if_neg (by omega)]
/-- where each bridge is gone over (x = 1), under (x = 0), by the first k places -/
def mAt (pb po : Nat → Int) (x : Bool) (o : Nat → Int) : Nat → Nat → Int
  | 0 => o
  | k + 1 => if (decide (po k = 1)) = x then kup (mAt pb po x o k) (pb k).toNat k else mAt pb po x o k
def mRefresh (h : kH) : kH := kput (kput h 98 (kAi 11 (mAt (ar h 87) (ar h 88) true (kfill (-1) 11 (ar h 98)) (mN h).toNat))) 99 (kAi 11 (mAt (ar h 87) (ar h 88) false (kfill (-1) 11 (ar h 99)) (mN h).toNat))
/-- the bridges of the passes are numbers of bridges -/
def mB (h : kH) : Prop := mP h ∧ ∀ j : Nat, (j : Int) < mN h → 0 ≤ ar h 87 j ∧ ar h 87 j < 11
set_option maxRecDepth 4000 in
theorem tM_refresh {sc : List Int} {h : kH} (hw : kWF h) (hb : mB h) : kR sc 1 km_M_refresh [kr 85] h none (mRefresh h) := by
  refine kR.start rfl ?_
  show kW sc 1 kc_M_refresh 0 0 [some (kr 85), none] [] h _
  obtain ⟨hp, hb⟩ := hb
  have hN : ((mN h).toNat : Int) = mN h := by obtain ⟨q1, q2, q3⟩ := hp; unfold mN; omega
  have hN2 : mN h ≤ 22 := hp.2.2
  have loop2 : ∀ (n k : Nat), k + n = (mN h).toNat → kW sc 1 kc_M_refresh 0 19 [some (kr 85), some (kI k)] [] (kput (kput h 98 (kAi 11 (mAt (ar h 87) (ar h 88) true (kfill (-1) 11 (ar h 98)) k))) 99 (kAi 11 (mAt (ar h 87) (ar h 88) false (kfill (-1) 11 (ar h 99)) k))) (fun r g => r = none ∧ g = mRefresh h) := by
    intro n
    induction n with
    | zero =>
      intro k hk
      have hk2 : (k : Int) = mN h := by omega
      refine kw_step rfl rfl rfl rfl ?_
      refine kw_step rfl rfl rfl rfl ?_
      refine kw_callV (vs := []) rfl rfl rfl ⟨rfl, Nat.le_of_ble_eq_true rfl, Nat.le_of_ble_eq_true rfl, by decide⟩ (hw.O (g := kMo) rfl) (show kR sc 0 km_M_places [kr 85] _ (some (kI (mN h))) _ from tM_places ((hw.pA rfl _).pA rfl _) hp) (by omega) ?_
      refine kw_icmp_ge rfl rfl (fun c1 => ?_) (fun c1 => ?_)
      · refine kw_ret rfl rfl rfl ?_
        refine ⟨rfl, ?_⟩
        unfold mRefresh
        rw [show (mN h).toNat = k by omega]
      · exact absurd (show mN h ≤ (k : Int) by omega) c1
    | succ n ih =>
      intro k hk
      have hk2 : (k : Int) < mN h := by omega
      have hbk := hb k hk2
      have ek : ((k : Int) + 1) = ((k + 1 : Nat) : Int) := by omega
      refine kw_step rfl rfl rfl rfl ?_
      refine kw_step rfl rfl rfl rfl ?_
      refine kw_callV (vs := []) rfl rfl rfl ⟨rfl, Nat.le_of_ble_eq_true rfl, Nat.le_of_ble_eq_true rfl, by decide⟩ (hw.O (g := kMo) rfl) (show kR sc 0 km_M_places [kr 85] _ (some (kI (mN h))) _ from tM_places ((hw.pA rfl _).pA rfl _) hp) (by omega) ?_
      refine kw_icmp_ge rfl rfl (fun c1 => ?_) (fun c1 => ?_)
      · exact absurd (show mN h ≤ (k : Int) from c1) (by omega)
      · refine kw_step rfl rfl rfl rfl ?_
        refine kw_get rfl (hw.O (g := kMo) rfl) rfl ?_
        refine kw_step rfl rfl rfl rfl ?_
        refine kw_iald rfl (hw.A rfl) (by omega) (by omega) (Int.toNat_natCast _) ?_
        refine kw_step rfl rfl rfl rfl ?_
        refine kw_icmp_ne rfl rfl (fun c2 => ?_) (fun c2 => ?_)
        · refine kw_step rfl rfl rfl rfl ?_
          refine kw_get rfl (hw.O (g := kMo) rfl) rfl ?_
          refine kw_step rfl rfl rfl rfl ?_
          refine kw_get rfl (hw.O (g := kMo) rfl) rfl ?_
          refine kw_step rfl rfl rfl rfl ?_
          refine kw_iald rfl (hw.A rfl) (by omega) (by omega) (Int.toNat_natCast _) ?_
          refine kw_step rfl rfl rfl rfl ?_
          refine kw_iast rfl (rfl) hbk.1 hbk.2 rfl ?_
          -- store
          rw [kput2]
          have e1 : mAt (ar h 87) (ar h 88) true (kfill (-1) 11 (ar h 98)) (k + 1) = mAt (ar h 87) (ar h 88) true (kfill (-1) 11 (ar h 98)) k := if_neg (by rw [decide_eq_false c2]; decide)
          have e2 : mAt (ar h 87) (ar h 88) false (kfill (-1) 11 (ar h 99)) (k + 1) = kup (mAt (ar h 87) (ar h 88) false (kfill (-1) 11 (ar h 99)) k) (ar h 87 k).toNat k := if_pos (decide_eq_false c2)
          refine kw_step rfl rfl rfl rfl ?_
          rw [wI_id (by omega) (by omega), ek]
          refine kw_goto rfl rfl ?_
          have this := ih (k + 1) (by omega)
          rw [e1, e2] at this
          exact this
        · refine kw_step rfl rfl rfl rfl ?_
          refine kw_get rfl (hw.O (g := kMo) rfl) rfl ?_
          refine kw_step rfl rfl rfl rfl ?_
          refine kw_get rfl (hw.O (g := kMo) rfl) rfl ?_
          refine kw_step rfl rfl rfl rfl ?_
          refine kw_iald rfl (hw.A rfl) (by omega) (by omega) (Int.toNat_natCast _) ?_
          refine kw_step rfl rfl rfl rfl ?_
          refine kw_iast rfl (rfl) hbk.1 hbk.2 rfl ?_
          -- store
          rw [kput3 _ (by decide)]
          have e1 : mAt (ar h 87) (ar h 88) true (kfill (-1) 11 (ar h 98)) (k + 1) = kup (mAt (ar h 87) (ar h 88) true (kfill (-1) 11 (ar h 98)) k) (ar h 87 k).toNat k := if_pos (decide_eq_true c2)
          have e2 : mAt (ar h 87) (ar h 88) false (kfill (-1) 11 (ar h 99)) (k + 1) = mAt (ar h 87) (ar h 88) false (kfill (-1) 11 (ar h 99)) k := if_neg (by rw [decide_eq_true c2]; decide)
          refine kw_goto rfl rfl ?_
          refine kw_step rfl rfl rfl rfl ?_
          rw [wI_id (by omega) (by omega), ek]
          refine kw_goto rfl rfl ?_
          have this := ih (k + 1) (by omega)
          rw [e1, e2] at this
          exact this
  have loop1 : ∀ (n k : Nat), k + n = 11 → kW sc 1 kc_M_refresh 0 2 [some (kr 85), some (kI k)] [] (kput (kput h 98 (kAi 11 (kfill (-1) k (ar h 98)))) 99 (kAi 11 (kfill (-1) k (ar h 99)))) (fun r g => r = none ∧ g = mRefresh h) := by
    intro n
    induction n with
    | zero =>
      intro k hk
      obtain rfl : k = 11 := by omega
      refine kw_step rfl rfl rfl rfl ?_
      refine kw_step rfl rfl rfl rfl ?_
      refine kw_icmp_ge rfl rfl (fun c1 => ?_) (fun c1 => ?_)
      · refine kw_step rfl rfl rfl rfl ?_
        refine kw_step rfl rfl rfl rfl ?_
        exact loop2 (mN h).toNat 0 (by omega)
      · exact absurd (by decide) c1
    | succ n ih =>
      intro k hk
      have ek : ((k : Int) + 1) = ((k + 1 : Nat) : Int) := by omega
      refine kw_step rfl rfl rfl rfl ?_
      refine kw_step rfl rfl rfl rfl ?_
      refine kw_icmp_ge rfl rfl (fun c1 => ?_) (fun c1 => ?_)
      · exact absurd c1 (by omega)
      · refine kw_step rfl rfl rfl rfl ?_
        refine kw_get rfl (hw.O (g := kMo) rfl) rfl ?_
        refine kw_step rfl rfl rfl rfl ?_
        refine kw_step rfl rfl rfl rfl ?_
        refine kw_iast rfl (rfl) (by omega) (by omega) (Int.toNat_natCast _) ?_
        -- store
        rw [kput3 _ (by decide), kfill_s]
        refine kw_step rfl rfl rfl rfl ?_
        refine kw_get rfl (hw.O (g := kMo) rfl) rfl ?_
        refine kw_step rfl rfl rfl rfl ?_
        refine kw_step rfl rfl rfl rfl ?_
        refine kw_iast rfl (rfl) (by omega) (by omega) (Int.toNat_natCast _) ?_
        -- store
        rw [kput2, kfill_s]
        refine kw_step rfl rfl rfl rfl ?_
        rw [wI_id (by omega) (by omega), ek]
        refine kw_goto rfl rfl ?_
        exact ih (k + 1) (by omega)
  refine kw_step rfl rfl rfl rfl ?_
  refine kw_step rfl rfl rfl rfl ?_
  have this := loop1 11 0 (by omega)
  rw [kfill_0, kfill_0] at this
  rw [kput_id h (hw.A (a := 98) rfl), kput_id h (hw.A (a := 99) rfl)] at this
  exact this

