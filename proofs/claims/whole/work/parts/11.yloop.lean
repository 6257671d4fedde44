/-! THE LAW'S LOOP out of one contract for each case -/
section KL
variable {sc : List Int} {d : Nat} {cd : List Instr} {rk pc : Nat} {L : kLs} {st : List kV} {h : kH} {Q : Option kV → kH → Prop}
abbrev ksc : kV := .inr (.inr (.inr 99))
theorem kw_ialdS {i : Int} (hc : cd[pc]? = some .iaload) (h0 : 0 ≤ i) (h1 : i < sc.length) (k : kW sc d cd rk (pc + 1) L (.inl (sc.getD i.toNat 0) :: st) h Q) : kW sc d cd rk pc L (.inl i :: ksc :: st) h Q := by
  refine kw_step hc rfl rfl ?_ k
  unfold kst
  dsimp only
  rw [show ksx sc 99 = sc from rfl]
  exact if_pos ⟨rfl, h0, h1⟩
theorem kw_alenS (hc : cd[pc]? = some .arraylength) (k : kW sc d cd rk (pc + 1) L (.inl sc.length :: st) h Q) : kW sc d cd rk pc L (ksc :: st) h Q := by
  refine kw_step hc rfl rfl ?_ k
  unfold kst
  dsimp only
  rw [show ksx sc 99 = sc from rfl]
  exact if_pos rfl
end KL
theorem kand31 (x : Int) : ∃ k : Nat, k < 32 ∧ kand x 31 = k := by
  have h1 : (Int32.ofInt x &&& Int32.ofInt 31).toBitVec.toNat ≤ 31 := by
    rw [Int32.toBitVec_and, BitVec.toNat_and]
    exact Nat.and_le_right
  refine ⟨(Int32.ofInt x &&& Int32.ofInt 31).toBitVec.toNat, by omega, ?_⟩
  show (Int32.ofInt x &&& Int32.ofInt 31).toBitVec.toInt = _
  exact BitVec.toInt_eq_toNat_of_lt (by omega)
theorem kR32_at {sc : List Int} (h : ∀ x ∈ sc, kR32 x) (n : Nat) : kR32 (sc.getD n 0) := by
  rw [List.getD_eq_getElem?_getD]
  cases e : sc[n]? with
  | none => exact ⟨by decide, by decide⟩
  | some x => exact h x (List.mem_of_getElem? e)
/-- one case: the class answers, then the reference answers the same; the invariant stands again; no more than so much room is taken -/
def kCaseOf (sc : List Int) (Inv : kH → Prop) (cK cM : Nat) (mk : Int → kV) (as : List kV) : Prop := ∀ h : kH, Inv h → ∃ (x : Int) (h1 h2 : kH), kR sc 900 cK (kr 0 :: as) h (some (mk x)) h1 ∧ (∃ fs, h1.2.2 85 = some (.inr (.inr (11, fs)))) ∧ kR sc 900 cM (kr 85 :: as) h1 (some (mk x)) h2 ∧ Inv h2 ∧ h2.1 ≤ h.1 + 100 ∧ h2.2.1 ≤ h.2.1 + 2000
abbrev kNewK : kH := kadd (0, 0, fun _ => none) (kfk 10).length (.inr (.inr (10, (kfk 10).map kdef0)))
abbrev kNewM (h : kH) : kH := kadd h (kfk 11).length (.inr (.inr (11, (kfk 11).map kdef0)))
/-- both constructors -/
def kInit (sc : List Int) (Inv : kH → Prop) : Prop := ∃ h1 h2 : kH, kR sc 900 1 [kr 0] kNewK none h1 ∧ h1.1 = 85 ∧ kR sc 900 171 [kr 85] (kNewM h1) none h2 ∧ Inv h2 ∧ h2.1 ≤ 1000 ∧ h2.2.1 ≤ 1000000
abbrev kLw (i : Nat) : kLs := [some ksc, some (kr 0), some (kr 85), some (kI (i : Int))]
set_option maxRecDepth 4000 in
theorem kOp_0 {sc : List Int} {Inv : kH → Prop} (h0 : ∀ h, Inv h → ∃ fs, h.2.2 0 = some (.inr (.inr (10, fs)))) {i : Nat} (hi : i + 6 ≤ sc.length) (hl : sc.length ≤ 3072) {h : kH} {Q : Option kV → kH → Prop} (hI : Inv h) (hc : kCaseOf sc Inv 12 174 kI [kI (sc.getD ((i : Int) + 1).toNat 0), kI (sc.getD ((i : Int) + 2).toNat 0), kI (sc.getD ((i : Int) + 3).toNat 0), kI (sc.getD ((i : Int) + 4).toNat 0), kI (sc.getD ((i : Int) + 5).toNat 0)]) (kk : ∀ g, Inv g → g.1 ≤ h.1 + 100 → g.2.1 ≤ h.2.1 + 2000 → kW sc 1000 kc_Law_law 2 677 (kLw i) [] g Q) : kW sc 1000 kc_Law_law 2 22 (kLw i) [] h Q := by
  obtain ⟨fs0, hk0⟩ := h0 h hI
  obtain ⟨x, h1, h2, r1, ⟨fs1, hk1⟩, r2, hI2, b1, b2⟩ := hc h hI
  refine kw_step rfl rfl rfl rfl ?_
  refine kw_step rfl rfl rfl rfl ?_
  refine kw_step rfl rfl rfl rfl ?_
  refine kw_step rfl rfl rfl rfl ?_
  refine kw_step rfl rfl rfl rfl ?_
  rw [wI_id (by omega) (by omega)]
  refine kw_ialdS rfl (by omega) (by omega) ?_
  refine kw_step rfl rfl rfl rfl ?_
  refine kw_step rfl rfl rfl rfl ?_
  refine kw_step rfl rfl rfl rfl ?_
  refine kw_step rfl rfl rfl rfl ?_
  rw [wI_id (by omega) (by omega)]
  refine kw_ialdS rfl (by omega) (by omega) ?_
  refine kw_step rfl rfl rfl rfl ?_
  refine kw_step rfl rfl rfl rfl ?_
  refine kw_step rfl rfl rfl rfl ?_
  refine kw_step rfl rfl rfl rfl ?_
  rw [wI_id (by omega) (by omega)]
  refine kw_ialdS rfl (by omega) (by omega) ?_
  refine kw_step rfl rfl rfl rfl ?_
  refine kw_step rfl rfl rfl rfl ?_
  refine kw_step rfl rfl rfl rfl ?_
  refine kw_step rfl rfl rfl rfl ?_
  rw [wI_id (by omega) (by omega)]
  refine kw_ialdS rfl (by omega) (by omega) ?_
  refine kw_step rfl rfl rfl rfl ?_
  refine kw_step rfl rfl rfl rfl ?_
  refine kw_step rfl rfl rfl rfl ?_
  refine kw_step rfl rfl rfl rfl ?_
  rw [wI_id (by omega) (by omega)]
  refine kw_ialdS rfl (by omega) (by omega) ?_
  refine kw_callV (vs := [_, _, _, _, _]) rfl rfl rfl ⟨rfl, Nat.le_of_ble_eq_true rfl, Nat.le_of_ble_eq_true rfl, by decide⟩ hk0 r1 (by decide) ?_
  refine kw_step rfl rfl rfl rfl ?_
  refine kw_step rfl rfl rfl rfl ?_
  refine kw_step rfl rfl rfl rfl ?_
  refine kw_step rfl rfl rfl rfl ?_
  refine kw_step rfl rfl rfl rfl ?_
  rw [wI_id (by omega) (by omega)]
  refine kw_ialdS rfl (by omega) (by omega) ?_
  refine kw_step rfl rfl rfl rfl ?_
  refine kw_step rfl rfl rfl rfl ?_
  refine kw_step rfl rfl rfl rfl ?_
  refine kw_step rfl rfl rfl rfl ?_
  rw [wI_id (by omega) (by omega)]
  refine kw_ialdS rfl (by omega) (by omega) ?_
  refine kw_step rfl rfl rfl rfl ?_
  refine kw_step rfl rfl rfl rfl ?_
  refine kw_step rfl rfl rfl rfl ?_
  refine kw_step rfl rfl rfl rfl ?_
  rw [wI_id (by omega) (by omega)]
  refine kw_ialdS rfl (by omega) (by omega) ?_
  refine kw_step rfl rfl rfl rfl ?_
  refine kw_step rfl rfl rfl rfl ?_
  refine kw_step rfl rfl rfl rfl ?_
  refine kw_step rfl rfl rfl rfl ?_
  rw [wI_id (by omega) (by omega)]
  refine kw_ialdS rfl (by omega) (by omega) ?_
  refine kw_step rfl rfl rfl rfl ?_
  refine kw_step rfl rfl rfl rfl ?_
  refine kw_step rfl rfl rfl rfl ?_
  refine kw_step rfl rfl rfl rfl ?_
  rw [wI_id (by omega) (by omega)]
  refine kw_ialdS rfl (by omega) (by omega) ?_
  refine kw_callV (vs := [_, _, _, _, _]) rfl rfl rfl ⟨rfl, Nat.le_of_ble_eq_true rfl, Nat.le_of_ble_eq_true rfl, by decide⟩ hk1 r2 (by decide) ?_
  refine kw_icmp_eq rfl rfl (fun _ => ?_) (fun q => absurd rfl q)
  exact kk h2 hI2 b1 b2
set_option maxRecDepth 4000 in
theorem kOp_1 {sc : List Int} {Inv : kH → Prop} (h0 : ∀ h, Inv h → ∃ fs, h.2.2 0 = some (.inr (.inr (10, fs)))) {i : Nat} (hi : i + 6 ≤ sc.length) (hl : sc.length ≤ 3072) {h : kH} {Q : Option kV → kH → Prop} (hI : Inv h) (hc : kCaseOf sc Inv 14 176 kI [kI (sc.getD ((i : Int) + 1).toNat 0)]) (kk : ∀ g, Inv g → g.1 ≤ h.1 + 100 → g.2.1 ≤ h.2.1 + 2000 → kW sc 1000 kc_Law_law 2 677 (kLw i) [] g Q) : kW sc 1000 kc_Law_law 2 79 (kLw i) [] h Q := by
  obtain ⟨fs0, hk0⟩ := h0 h hI
  obtain ⟨x, h1, h2, r1, ⟨fs1, hk1⟩, r2, hI2, b1, b2⟩ := hc h hI
  refine kw_step rfl rfl rfl rfl ?_
  refine kw_step rfl rfl rfl rfl ?_
  refine kw_step rfl rfl rfl rfl ?_
  refine kw_step rfl rfl rfl rfl ?_
  refine kw_step rfl rfl rfl rfl ?_
  rw [wI_id (by omega) (by omega)]
  refine kw_ialdS rfl (by omega) (by omega) ?_
  refine kw_callV (vs := [_]) rfl rfl rfl ⟨rfl, Nat.le_of_ble_eq_true rfl, Nat.le_of_ble_eq_true rfl, by decide⟩ hk0 r1 (by decide) ?_
  refine kw_step rfl rfl rfl rfl ?_
  refine kw_step rfl rfl rfl rfl ?_
  refine kw_step rfl rfl rfl rfl ?_
  refine kw_step rfl rfl rfl rfl ?_
  refine kw_step rfl rfl rfl rfl ?_
  rw [wI_id (by omega) (by omega)]
  refine kw_ialdS rfl (by omega) (by omega) ?_
  refine kw_callV (vs := [_]) rfl rfl rfl ⟨rfl, Nat.le_of_ble_eq_true rfl, Nat.le_of_ble_eq_true rfl, by decide⟩ hk1 r2 (by decide) ?_
  refine kw_icmp_eq rfl rfl (fun _ => ?_) (fun q => absurd rfl q)
  exact kk h2 hI2 b1 b2
set_option maxRecDepth 4000 in
theorem kOp_2 {sc : List Int} {Inv : kH → Prop} (h0 : ∀ h, Inv h → ∃ fs, h.2.2 0 = some (.inr (.inr (10, fs)))) {i : Nat} (hi : i + 6 ≤ sc.length) (hl : sc.length ≤ 3072) {h : kH} {Q : Option kV → kH → Prop} (hI : Inv h) (hc : kCaseOf sc Inv 15 177 kI []) (kk : ∀ g, Inv g → g.1 ≤ h.1 + 100 → g.2.1 ≤ h.2.1 + 2000 → kW sc 1000 kc_Law_law 2 677 (kLw i) [] g Q) : kW sc 1000 kc_Law_law 2 96 (kLw i) [] h Q := by
  obtain ⟨fs0, hk0⟩ := h0 h hI
  obtain ⟨x, h1, h2, r1, ⟨fs1, hk1⟩, r2, hI2, b1, b2⟩ := hc h hI
  refine kw_step rfl rfl rfl rfl ?_
  refine kw_callV (vs := []) rfl rfl rfl ⟨rfl, Nat.le_of_ble_eq_true rfl, Nat.le_of_ble_eq_true rfl, by decide⟩ hk0 r1 (by decide) ?_
  refine kw_step rfl rfl rfl rfl ?_
  refine kw_callV (vs := []) rfl rfl rfl ⟨rfl, Nat.le_of_ble_eq_true rfl, Nat.le_of_ble_eq_true rfl, by decide⟩ hk1 r2 (by decide) ?_
  refine kw_icmp_eq rfl rfl (fun _ => ?_) (fun q => absurd rfl q)
  exact kk h2 hI2 b1 b2
set_option maxRecDepth 4000 in
theorem kOp_3 {sc : List Int} {Inv : kH → Prop} (h0 : ∀ h, Inv h → ∃ fs, h.2.2 0 = some (.inr (.inr (10, fs)))) {i : Nat} (hi : i + 6 ≤ sc.length) (hl : sc.length ≤ 3072) {h : kH} {Q : Option kV → kH → Prop} (hI : Inv h) (hc : kCaseOf sc Inv 64 205 kI []) (kk : ∀ g, Inv g → g.1 ≤ h.1 + 100 → g.2.1 ≤ h.2.1 + 2000 → kW sc 1000 kc_Law_law 2 677 (kLw i) [] g Q) : kW sc 1000 kc_Law_law 2 103 (kLw i) [] h Q := by
  obtain ⟨fs0, hk0⟩ := h0 h hI
  obtain ⟨x, h1, h2, r1, ⟨fs1, hk1⟩, r2, hI2, b1, b2⟩ := hc h hI
  refine kw_step rfl rfl rfl rfl ?_
  refine kw_callV (vs := []) rfl rfl rfl ⟨rfl, Nat.le_of_ble_eq_true rfl, Nat.le_of_ble_eq_true rfl, by decide⟩ hk0 r1 (by decide) ?_
  refine kw_step rfl rfl rfl rfl ?_
  refine kw_callV (vs := []) rfl rfl rfl ⟨rfl, Nat.le_of_ble_eq_true rfl, Nat.le_of_ble_eq_true rfl, by decide⟩ hk1 r2 (by decide) ?_
  refine kw_icmp_eq rfl rfl (fun _ => ?_) (fun q => absurd rfl q)
  exact kk h2 hI2 b1 b2
set_option maxRecDepth 4000 in
theorem kOp_4 {sc : List Int} {Inv : kH → Prop} (h0 : ∀ h, Inv h → ∃ fs, h.2.2 0 = some (.inr (.inr (10, fs)))) {i : Nat} (hi : i + 6 ≤ sc.length) (hl : sc.length ≤ 3072) {h : kH} {Q : Option kV → kH → Prop} (hI : Inv h) (hc : kCaseOf sc Inv 78 219 kI [kI (sc.getD ((i : Int) + 1).toNat 0)]) (kk : ∀ g, Inv g → g.1 ≤ h.1 + 100 → g.2.1 ≤ h.2.1 + 2000 → kW sc 1000 kc_Law_law 2 677 (kLw i) [] g Q) : kW sc 1000 kc_Law_law 2 110 (kLw i) [] h Q := by
  obtain ⟨fs0, hk0⟩ := h0 h hI
  obtain ⟨x, h1, h2, r1, ⟨fs1, hk1⟩, r2, hI2, b1, b2⟩ := hc h hI
  refine kw_step rfl rfl rfl rfl ?_
  refine kw_step rfl rfl rfl rfl ?_
  refine kw_step rfl rfl rfl rfl ?_
  refine kw_step rfl rfl rfl rfl ?_
  refine kw_step rfl rfl rfl rfl ?_
  rw [wI_id (by omega) (by omega)]
  refine kw_ialdS rfl (by omega) (by omega) ?_
  refine kw_callV (vs := [_]) rfl rfl rfl ⟨rfl, Nat.le_of_ble_eq_true rfl, Nat.le_of_ble_eq_true rfl, by decide⟩ hk0 r1 (by decide) ?_
  refine kw_step rfl rfl rfl rfl ?_
  refine kw_step rfl rfl rfl rfl ?_
  refine kw_step rfl rfl rfl rfl ?_
  refine kw_step rfl rfl rfl rfl ?_
  refine kw_step rfl rfl rfl rfl ?_
  rw [wI_id (by omega) (by omega)]
  refine kw_ialdS rfl (by omega) (by omega) ?_
  refine kw_callV (vs := [_]) rfl rfl rfl ⟨rfl, Nat.le_of_ble_eq_true rfl, Nat.le_of_ble_eq_true rfl, by decide⟩ hk1 r2 (by decide) ?_
  refine kw_icmp_eq rfl rfl (fun _ => ?_) (fun q => absurd rfl q)
  exact kk h2 hI2 b1 b2
set_option maxRecDepth 4000 in
theorem kOp_5 {sc : List Int} {Inv : kH → Prop} (h0 : ∀ h, Inv h → ∃ fs, h.2.2 0 = some (.inr (.inr (10, fs)))) {i : Nat} (hi : i + 6 ≤ sc.length) (hl : sc.length ≤ 3072) {h : kH} {Q : Option kV → kH → Prop} (hI : Inv h) (hc : kCaseOf sc Inv 79 220 kI [kI (sc.getD ((i : Int) + 1).toNat 0), kI (sc.getD ((i : Int) + 2).toNat 0)]) (kk : ∀ g, Inv g → g.1 ≤ h.1 + 100 → g.2.1 ≤ h.2.1 + 2000 → kW sc 1000 kc_Law_law 2 677 (kLw i) [] g Q) : kW sc 1000 kc_Law_law 2 127 (kLw i) [] h Q := by
  obtain ⟨fs0, hk0⟩ := h0 h hI
  obtain ⟨x, h1, h2, r1, ⟨fs1, hk1⟩, r2, hI2, b1, b2⟩ := hc h hI
  refine kw_step rfl rfl rfl rfl ?_
  refine kw_step rfl rfl rfl rfl ?_
  refine kw_step rfl rfl rfl rfl ?_
  refine kw_step rfl rfl rfl rfl ?_
  refine kw_step rfl rfl rfl rfl ?_
  rw [wI_id (by omega) (by omega)]
  refine kw_ialdS rfl (by omega) (by omega) ?_
  refine kw_step rfl rfl rfl rfl ?_
  refine kw_step rfl rfl rfl rfl ?_
  refine kw_step rfl rfl rfl rfl ?_
  refine kw_step rfl rfl rfl rfl ?_
  rw [wI_id (by omega) (by omega)]
  refine kw_ialdS rfl (by omega) (by omega) ?_
  refine kw_callV (vs := [_, _]) rfl rfl rfl ⟨rfl, Nat.le_of_ble_eq_true rfl, Nat.le_of_ble_eq_true rfl, by decide⟩ hk0 r1 (by decide) ?_
  refine kw_step rfl rfl rfl rfl ?_
  refine kw_step rfl rfl rfl rfl ?_
  refine kw_step rfl rfl rfl rfl ?_
  refine kw_step rfl rfl rfl rfl ?_
  refine kw_step rfl rfl rfl rfl ?_
  rw [wI_id (by omega) (by omega)]
  refine kw_ialdS rfl (by omega) (by omega) ?_
  refine kw_step rfl rfl rfl rfl ?_
  refine kw_step rfl rfl rfl rfl ?_
  refine kw_step rfl rfl rfl rfl ?_
  refine kw_step rfl rfl rfl rfl ?_
  rw [wI_id (by omega) (by omega)]
  refine kw_ialdS rfl (by omega) (by omega) ?_
  refine kw_callV (vs := [_, _]) rfl rfl rfl ⟨rfl, Nat.le_of_ble_eq_true rfl, Nat.le_of_ble_eq_true rfl, by decide⟩ hk1 r2 (by decide) ?_
  refine kw_icmp_eq rfl rfl (fun _ => ?_) (fun q => absurd rfl q)
  exact kk h2 hI2 b1 b2
set_option maxRecDepth 4000 in
theorem kOp_6 {sc : List Int} {Inv : kH → Prop} (h0 : ∀ h, Inv h → ∃ fs, h.2.2 0 = some (.inr (.inr (10, fs)))) {i : Nat} (hi : i + 6 ≤ sc.length) (hl : sc.length ≤ 3072) {h : kH} {Q : Option kV → kH → Prop} (hI : Inv h) (hc : kCaseOf sc Inv 84 224 kI [kI (sc.getD ((i : Int) + 1).toNat 0), kI (sc.getD ((i : Int) + 2).toNat 0)]) (kk : ∀ g, Inv g → g.1 ≤ h.1 + 100 → g.2.1 ≤ h.2.1 + 2000 → kW sc 1000 kc_Law_law 2 677 (kLw i) [] g Q) : kW sc 1000 kc_Law_law 2 154 (kLw i) [] h Q := by
  obtain ⟨fs0, hk0⟩ := h0 h hI
  obtain ⟨x, h1, h2, r1, ⟨fs1, hk1⟩, r2, hI2, b1, b2⟩ := hc h hI
  refine kw_step rfl rfl rfl rfl ?_
  refine kw_step rfl rfl rfl rfl ?_
  refine kw_step rfl rfl rfl rfl ?_
  refine kw_step rfl rfl rfl rfl ?_
  refine kw_step rfl rfl rfl rfl ?_
  rw [wI_id (by omega) (by omega)]
  refine kw_ialdS rfl (by omega) (by omega) ?_
  refine kw_step rfl rfl rfl rfl ?_
  refine kw_step rfl rfl rfl rfl ?_
  refine kw_step rfl rfl rfl rfl ?_
  refine kw_step rfl rfl rfl rfl ?_
  rw [wI_id (by omega) (by omega)]
  refine kw_ialdS rfl (by omega) (by omega) ?_
  refine kw_callV (vs := [_, _]) rfl rfl rfl ⟨rfl, Nat.le_of_ble_eq_true rfl, Nat.le_of_ble_eq_true rfl, by decide⟩ hk0 r1 (by decide) ?_
  refine kw_step rfl rfl rfl rfl ?_
  refine kw_step rfl rfl rfl rfl ?_
  refine kw_step rfl rfl rfl rfl ?_
  refine kw_step rfl rfl rfl rfl ?_
  refine kw_step rfl rfl rfl rfl ?_
  rw [wI_id (by omega) (by omega)]
  refine kw_ialdS rfl (by omega) (by omega) ?_
  refine kw_step rfl rfl rfl rfl ?_
  refine kw_step rfl rfl rfl rfl ?_
  refine kw_step rfl rfl rfl rfl ?_
  refine kw_step rfl rfl rfl rfl ?_
  rw [wI_id (by omega) (by omega)]
  refine kw_ialdS rfl (by omega) (by omega) ?_
  refine kw_callV (vs := [_, _]) rfl rfl rfl ⟨rfl, Nat.le_of_ble_eq_true rfl, Nat.le_of_ble_eq_true rfl, by decide⟩ hk1 r2 (by decide) ?_
  refine kw_icmp_eq rfl rfl (fun _ => ?_) (fun q => absurd rfl q)
  exact kk h2 hI2 b1 b2
set_option maxRecDepth 4000 in
theorem kOp_7 {sc : List Int} {Inv : kH → Prop} (h0 : ∀ h, Inv h → ∃ fs, h.2.2 0 = some (.inr (.inr (10, fs)))) {i : Nat} (hi : i + 6 ≤ sc.length) (hl : sc.length ≤ 3072) {h : kH} {Q : Option kV → kH → Prop} (hI : Inv h) (hc : kCaseOf sc Inv 85 225 kI [kI (sc.getD ((i : Int) + 1).toNat 0)]) (kk : ∀ g, Inv g → g.1 ≤ h.1 + 100 → g.2.1 ≤ h.2.1 + 2000 → kW sc 1000 kc_Law_law 2 677 (kLw i) [] g Q) : kW sc 1000 kc_Law_law 2 181 (kLw i) [] h Q := by
  obtain ⟨fs0, hk0⟩ := h0 h hI
  obtain ⟨x, h1, h2, r1, ⟨fs1, hk1⟩, r2, hI2, b1, b2⟩ := hc h hI
  refine kw_step rfl rfl rfl rfl ?_
  refine kw_step rfl rfl rfl rfl ?_
  refine kw_step rfl rfl rfl rfl ?_
  refine kw_step rfl rfl rfl rfl ?_
  refine kw_step rfl rfl rfl rfl ?_
  rw [wI_id (by omega) (by omega)]
  refine kw_ialdS rfl (by omega) (by omega) ?_
  refine kw_callV (vs := [_]) rfl rfl rfl ⟨rfl, Nat.le_of_ble_eq_true rfl, Nat.le_of_ble_eq_true rfl, by decide⟩ hk0 r1 (by decide) ?_
  refine kw_step rfl rfl rfl rfl ?_
  refine kw_step rfl rfl rfl rfl ?_
  refine kw_step rfl rfl rfl rfl ?_
  refine kw_step rfl rfl rfl rfl ?_
  refine kw_step rfl rfl rfl rfl ?_
  rw [wI_id (by omega) (by omega)]
  refine kw_ialdS rfl (by omega) (by omega) ?_
  refine kw_callV (vs := [_]) rfl rfl rfl ⟨rfl, Nat.le_of_ble_eq_true rfl, Nat.le_of_ble_eq_true rfl, by decide⟩ hk1 r2 (by decide) ?_
  refine kw_icmp_eq rfl rfl (fun _ => ?_) (fun q => absurd rfl q)
  exact kk h2 hI2 b1 b2
set_option maxRecDepth 4000 in
theorem kOp_8 {sc : List Int} {Inv : kH → Prop} (h0 : ∀ h, Inv h → ∃ fs, h.2.2 0 = some (.inr (.inr (10, fs)))) {i : Nat} (hi : i + 6 ≤ sc.length) (hl : sc.length ≤ 3072) {h : kH} {Q : Option kV → kH → Prop} (hI : Inv h) (hc : kCaseOf sc Inv 86 227 kI [kI (sc.getD ((i : Int) + 1).toNat 0)]) (kk : ∀ g, Inv g → g.1 ≤ h.1 + 100 → g.2.1 ≤ h.2.1 + 2000 → kW sc 1000 kc_Law_law 2 677 (kLw i) [] g Q) : kW sc 1000 kc_Law_law 2 198 (kLw i) [] h Q := by
  obtain ⟨fs0, hk0⟩ := h0 h hI
  obtain ⟨x, h1, h2, r1, ⟨fs1, hk1⟩, r2, hI2, b1, b2⟩ := hc h hI
  refine kw_step rfl rfl rfl rfl ?_
  refine kw_step rfl rfl rfl rfl ?_
  refine kw_step rfl rfl rfl rfl ?_
  refine kw_step rfl rfl rfl rfl ?_
  refine kw_step rfl rfl rfl rfl ?_
  rw [wI_id (by omega) (by omega)]
  refine kw_ialdS rfl (by omega) (by omega) ?_
  refine kw_callV (vs := [_]) rfl rfl rfl ⟨rfl, Nat.le_of_ble_eq_true rfl, Nat.le_of_ble_eq_true rfl, by decide⟩ hk0 r1 (by decide) ?_
  refine kw_step rfl rfl rfl rfl ?_
  refine kw_step rfl rfl rfl rfl ?_
  refine kw_step rfl rfl rfl rfl ?_
  refine kw_step rfl rfl rfl rfl ?_
  refine kw_step rfl rfl rfl rfl ?_
  rw [wI_id (by omega) (by omega)]
  refine kw_ialdS rfl (by omega) (by omega) ?_
  refine kw_callV (vs := [_]) rfl rfl rfl ⟨rfl, Nat.le_of_ble_eq_true rfl, Nat.le_of_ble_eq_true rfl, by decide⟩ hk1 r2 (by decide) ?_
  refine kw_icmp_eq rfl rfl (fun _ => ?_) (fun q => absurd rfl q)
  exact kk h2 hI2 b1 b2
set_option maxRecDepth 4000 in
theorem kOp_9 {sc : List Int} {Inv : kH → Prop} (h0 : ∀ h, Inv h → ∃ fs, h.2.2 0 = some (.inr (.inr (10, fs)))) {i : Nat} (hi : i + 6 ≤ sc.length) (hl : sc.length ≤ 3072) {h : kH} {Q : Option kV → kH → Prop} (hI : Inv h) (hc : kCaseOf sc Inv 93 230 kI [kI (sc.getD ((i : Int) + 1).toNat 0), kI (sc.getD ((i : Int) + 2).toNat 0)]) (kk : ∀ g, Inv g → g.1 ≤ h.1 + 100 → g.2.1 ≤ h.2.1 + 2000 → kW sc 1000 kc_Law_law 2 677 (kLw i) [] g Q) : kW sc 1000 kc_Law_law 2 215 (kLw i) [] h Q := by
  obtain ⟨fs0, hk0⟩ := h0 h hI
  obtain ⟨x, h1, h2, r1, ⟨fs1, hk1⟩, r2, hI2, b1, b2⟩ := hc h hI
  refine kw_step rfl rfl rfl rfl ?_
  refine kw_step rfl rfl rfl rfl ?_
  refine kw_step rfl rfl rfl rfl ?_
  refine kw_step rfl rfl rfl rfl ?_
  refine kw_step rfl rfl rfl rfl ?_
  rw [wI_id (by omega) (by omega)]
  refine kw_ialdS rfl (by omega) (by omega) ?_
  refine kw_step rfl rfl rfl rfl ?_
  refine kw_step rfl rfl rfl rfl ?_
  refine kw_step rfl rfl rfl rfl ?_
  refine kw_step rfl rfl rfl rfl ?_
  rw [wI_id (by omega) (by omega)]
  refine kw_ialdS rfl (by omega) (by omega) ?_
  refine kw_callV (vs := [_, _]) rfl rfl rfl ⟨rfl, Nat.le_of_ble_eq_true rfl, Nat.le_of_ble_eq_true rfl, by decide⟩ hk0 r1 (by decide) ?_
  refine kw_step rfl rfl rfl rfl ?_
  refine kw_step rfl rfl rfl rfl ?_
  refine kw_step rfl rfl rfl rfl ?_
  refine kw_step rfl rfl rfl rfl ?_
  refine kw_step rfl rfl rfl rfl ?_
  rw [wI_id (by omega) (by omega)]
  refine kw_ialdS rfl (by omega) (by omega) ?_
  refine kw_step rfl rfl rfl rfl ?_
  refine kw_step rfl rfl rfl rfl ?_
  refine kw_step rfl rfl rfl rfl ?_
  refine kw_step rfl rfl rfl rfl ?_
  rw [wI_id (by omega) (by omega)]
  refine kw_ialdS rfl (by omega) (by omega) ?_
  refine kw_callV (vs := [_, _]) rfl rfl rfl ⟨rfl, Nat.le_of_ble_eq_true rfl, Nat.le_of_ble_eq_true rfl, by decide⟩ hk1 r2 (by decide) ?_
  refine kw_icmp_eq rfl rfl (fun _ => ?_) (fun q => absurd rfl q)
  exact kk h2 hI2 b1 b2
set_option maxRecDepth 4000 in
theorem kOp_10 {sc : List Int} {Inv : kH → Prop} (h0 : ∀ h, Inv h → ∃ fs, h.2.2 0 = some (.inr (.inr (10, fs)))) {i : Nat} (hi : i + 6 ≤ sc.length) (hl : sc.length ≤ 3072) {h : kH} {Q : Option kV → kH → Prop} (hI : Inv h) (hc : kCaseOf sc Inv 94 234 kI [kI (sc.getD ((i : Int) + 1).toNat 0), kI (sc.getD ((i : Int) + 2).toNat 0), kI (sc.getD ((i : Int) + 3).toNat 0)]) (kk : ∀ g, Inv g → g.1 ≤ h.1 + 100 → g.2.1 ≤ h.2.1 + 2000 → kW sc 1000 kc_Law_law 2 677 (kLw i) [] g Q) : kW sc 1000 kc_Law_law 2 242 (kLw i) [] h Q := by
  obtain ⟨fs0, hk0⟩ := h0 h hI
  obtain ⟨x, h1, h2, r1, ⟨fs1, hk1⟩, r2, hI2, b1, b2⟩ := hc h hI
  refine kw_step rfl rfl rfl rfl ?_
  refine kw_step rfl rfl rfl rfl ?_
  refine kw_step rfl rfl rfl rfl ?_
  refine kw_step rfl rfl rfl rfl ?_
  refine kw_step rfl rfl rfl rfl ?_
  rw [wI_id (by omega) (by omega)]
  refine kw_ialdS rfl (by omega) (by omega) ?_
  refine kw_step rfl rfl rfl rfl ?_
  refine kw_step rfl rfl rfl rfl ?_
  refine kw_step rfl rfl rfl rfl ?_
  refine kw_step rfl rfl rfl rfl ?_
  rw [wI_id (by omega) (by omega)]
  refine kw_ialdS rfl (by omega) (by omega) ?_
  refine kw_step rfl rfl rfl rfl ?_
  refine kw_step rfl rfl rfl rfl ?_
  refine kw_step rfl rfl rfl rfl ?_
  refine kw_step rfl rfl rfl rfl ?_
  rw [wI_id (by omega) (by omega)]
  refine kw_ialdS rfl (by omega) (by omega) ?_
  refine kw_callV (vs := [_, _, _]) rfl rfl rfl ⟨rfl, Nat.le_of_ble_eq_true rfl, Nat.le_of_ble_eq_true rfl, by decide⟩ hk0 r1 (by decide) ?_
  refine kw_step rfl rfl rfl rfl ?_
  refine kw_step rfl rfl rfl rfl ?_
  refine kw_step rfl rfl rfl rfl ?_
  refine kw_step rfl rfl rfl rfl ?_
  refine kw_step rfl rfl rfl rfl ?_
  rw [wI_id (by omega) (by omega)]
  refine kw_ialdS rfl (by omega) (by omega) ?_
  refine kw_step rfl rfl rfl rfl ?_
  refine kw_step rfl rfl rfl rfl ?_
  refine kw_step rfl rfl rfl rfl ?_
  refine kw_step rfl rfl rfl rfl ?_
  rw [wI_id (by omega) (by omega)]
  refine kw_ialdS rfl (by omega) (by omega) ?_
  refine kw_step rfl rfl rfl rfl ?_
  refine kw_step rfl rfl rfl rfl ?_
  refine kw_step rfl rfl rfl rfl ?_
  refine kw_step rfl rfl rfl rfl ?_
  rw [wI_id (by omega) (by omega)]
  refine kw_ialdS rfl (by omega) (by omega) ?_
  refine kw_callV (vs := [_, _, _]) rfl rfl rfl ⟨rfl, Nat.le_of_ble_eq_true rfl, Nat.le_of_ble_eq_true rfl, by decide⟩ hk1 r2 (by decide) ?_
  refine kw_icmp_eq rfl rfl (fun _ => ?_) (fun q => absurd rfl q)
  exact kk h2 hI2 b1 b2
set_option maxRecDepth 4000 in
theorem kOp_11 {sc : List Int} {Inv : kH → Prop} (h0 : ∀ h, Inv h → ∃ fs, h.2.2 0 = some (.inr (.inr (10, fs)))) {i : Nat} (hi : i + 6 ≤ sc.length) (hl : sc.length ≤ 3072) {h : kH} {Q : Option kV → kH → Prop} (hI : Inv h) (hc : kCaseOf sc Inv 95 239 kI [kI (sc.getD ((i : Int) + 1).toNat 0)]) (kk : ∀ g, Inv g → g.1 ≤ h.1 + 100 → g.2.1 ≤ h.2.1 + 2000 → kW sc 1000 kc_Law_law 2 677 (kLw i) [] g Q) : kW sc 1000 kc_Law_law 2 279 (kLw i) [] h Q := by
  obtain ⟨fs0, hk0⟩ := h0 h hI
  obtain ⟨x, h1, h2, r1, ⟨fs1, hk1⟩, r2, hI2, b1, b2⟩ := hc h hI
  refine kw_step rfl rfl rfl rfl ?_
  refine kw_step rfl rfl rfl rfl ?_
  refine kw_step rfl rfl rfl rfl ?_
  refine kw_step rfl rfl rfl rfl ?_
  refine kw_step rfl rfl rfl rfl ?_
  rw [wI_id (by omega) (by omega)]
  refine kw_ialdS rfl (by omega) (by omega) ?_
  refine kw_callV (vs := [_]) rfl rfl rfl ⟨rfl, Nat.le_of_ble_eq_true rfl, Nat.le_of_ble_eq_true rfl, by decide⟩ hk0 r1 (by decide) ?_
  refine kw_step rfl rfl rfl rfl ?_
  refine kw_step rfl rfl rfl rfl ?_
  refine kw_step rfl rfl rfl rfl ?_
  refine kw_step rfl rfl rfl rfl ?_
  refine kw_step rfl rfl rfl rfl ?_
  rw [wI_id (by omega) (by omega)]
  refine kw_ialdS rfl (by omega) (by omega) ?_
  refine kw_callV (vs := [_]) rfl rfl rfl ⟨rfl, Nat.le_of_ble_eq_true rfl, Nat.le_of_ble_eq_true rfl, by decide⟩ hk1 r2 (by decide) ?_
  refine kw_icmp_eq rfl rfl (fun _ => ?_) (fun q => absurd rfl q)
  exact kk h2 hI2 b1 b2
set_option maxRecDepth 4000 in
theorem kOp_12 {sc : List Int} {Inv : kH → Prop} (h0 : ∀ h, Inv h → ∃ fs, h.2.2 0 = some (.inr (.inr (10, fs)))) {i : Nat} (hi : i + 6 ≤ sc.length) (hl : sc.length ≤ 3072) {h : kH} {Q : Option kV → kH → Prop} (hI : Inv h) (hc : kCaseOf sc Inv 97 241 kI [kI (sc.getD ((i : Int) + 1).toNat 0), kI (if sc.getD ((i : Int) + 2).toNat 0 = 0 then 0 else 1), kI (if sc.getD ((i : Int) + 3).toNat 0 = 0 then 0 else 1)]) (kk : ∀ g, Inv g → g.1 ≤ h.1 + 100 → g.2.1 ≤ h.2.1 + 2000 → kW sc 1000 kc_Law_law 2 677 (kLw i) [] g Q) : kW sc 1000 kc_Law_law 2 296 (kLw i) [] h Q := by
  obtain ⟨fs0, hk0⟩ := h0 h hI
  obtain ⟨x, h1, h2, r1, ⟨fs1, hk1⟩, r2, hI2, b1, b2⟩ := hc h hI
  by_cases z2 : sc.getD ((i : Int) + 2).toNat 0 = 0
  · by_cases z3 : sc.getD ((i : Int) + 3).toNat 0 = 0
    · rw [if_pos z2, if_pos z3] at r1 r2
      refine kw_step rfl rfl rfl rfl ?_
      refine kw_step rfl rfl rfl rfl ?_
      refine kw_step rfl rfl rfl rfl ?_
      refine kw_step rfl rfl rfl rfl ?_
      refine kw_step rfl rfl rfl rfl ?_
      rw [wI_id (by omega) (by omega)]
      refine kw_ialdS rfl (by omega) (by omega) ?_
      refine kw_step rfl rfl rfl rfl ?_
      refine kw_step rfl rfl rfl rfl ?_
      refine kw_step rfl rfl rfl rfl ?_
      refine kw_step rfl rfl rfl rfl ?_
      rw [wI_id (by omega) (by omega)]
      refine kw_ialdS rfl (by omega) (by omega) ?_
      refine kw_if_eq rfl rfl (fun _ => ?_) (fun q => absurd z2 q)
      refine kw_step rfl rfl rfl rfl ?_
      refine kw_step rfl rfl rfl rfl ?_
      refine kw_step rfl rfl rfl rfl ?_
      refine kw_step rfl rfl rfl rfl ?_
      refine kw_step rfl rfl rfl rfl ?_
      rw [wI_id (by omega) (by omega)]
      refine kw_ialdS rfl (by omega) (by omega) ?_
      refine kw_if_eq rfl rfl (fun _ => ?_) (fun q => absurd z3 q)
      refine kw_step rfl rfl rfl rfl ?_
      refine kw_callV (vs := [_, _, _]) rfl rfl rfl ⟨rfl, Nat.le_of_ble_eq_true rfl, Nat.le_of_ble_eq_true rfl, by decide⟩ hk0 r1 (by decide) ?_
      refine kw_step rfl rfl rfl rfl ?_
      refine kw_step rfl rfl rfl rfl ?_
      refine kw_step rfl rfl rfl rfl ?_
      refine kw_step rfl rfl rfl rfl ?_
      refine kw_step rfl rfl rfl rfl ?_
      rw [wI_id (by omega) (by omega)]
      refine kw_ialdS rfl (by omega) (by omega) ?_
      refine kw_step rfl rfl rfl rfl ?_
      refine kw_step rfl rfl rfl rfl ?_
      refine kw_step rfl rfl rfl rfl ?_
      refine kw_step rfl rfl rfl rfl ?_
      rw [wI_id (by omega) (by omega)]
      refine kw_ialdS rfl (by omega) (by omega) ?_
      refine kw_if_eq rfl rfl (fun _ => ?_) (fun q => absurd z2 q)
      refine kw_step rfl rfl rfl rfl ?_
      refine kw_step rfl rfl rfl rfl ?_
      refine kw_step rfl rfl rfl rfl ?_
      refine kw_step rfl rfl rfl rfl ?_
      refine kw_step rfl rfl rfl rfl ?_
      rw [wI_id (by omega) (by omega)]
      refine kw_ialdS rfl (by omega) (by omega) ?_
      refine kw_if_eq rfl rfl (fun _ => ?_) (fun q => absurd z3 q)
      refine kw_step rfl rfl rfl rfl ?_
      refine kw_callV (vs := [_, _, _]) rfl rfl rfl ⟨rfl, Nat.le_of_ble_eq_true rfl, Nat.le_of_ble_eq_true rfl, by decide⟩ hk1 r2 (by decide) ?_
      refine kw_icmp_eq rfl rfl (fun _ => ?_) (fun q => absurd rfl q)
      exact kk h2 hI2 b1 b2
    · rw [if_pos z2, if_neg z3] at r1 r2
      refine kw_step rfl rfl rfl rfl ?_
      refine kw_step rfl rfl rfl rfl ?_
      refine kw_step rfl rfl rfl rfl ?_
      refine kw_step rfl rfl rfl rfl ?_
      refine kw_step rfl rfl rfl rfl ?_
      rw [wI_id (by omega) (by omega)]
      refine kw_ialdS rfl (by omega) (by omega) ?_
      refine kw_step rfl rfl rfl rfl ?_
      refine kw_step rfl rfl rfl rfl ?_
      refine kw_step rfl rfl rfl rfl ?_
      refine kw_step rfl rfl rfl rfl ?_
      rw [wI_id (by omega) (by omega)]
      refine kw_ialdS rfl (by omega) (by omega) ?_
      refine kw_if_eq rfl rfl (fun _ => ?_) (fun q => absurd z2 q)
      refine kw_step rfl rfl rfl rfl ?_
      refine kw_step rfl rfl rfl rfl ?_
      refine kw_step rfl rfl rfl rfl ?_
      refine kw_step rfl rfl rfl rfl ?_
      refine kw_step rfl rfl rfl rfl ?_
      rw [wI_id (by omega) (by omega)]
      refine kw_ialdS rfl (by omega) (by omega) ?_
      refine kw_if_eq rfl rfl (fun q => absurd q z3) (fun _ => ?_)
      refine kw_step rfl rfl rfl rfl ?_
      refine kw_goto rfl rfl ?_
      refine kw_callV (vs := [_, _, _]) rfl rfl rfl ⟨rfl, Nat.le_of_ble_eq_true rfl, Nat.le_of_ble_eq_true rfl, by decide⟩ hk0 r1 (by decide) ?_
      refine kw_step rfl rfl rfl rfl ?_
      refine kw_step rfl rfl rfl rfl ?_
      refine kw_step rfl rfl rfl rfl ?_
      refine kw_step rfl rfl rfl rfl ?_
      refine kw_step rfl rfl rfl rfl ?_
      rw [wI_id (by omega) (by omega)]
      refine kw_ialdS rfl (by omega) (by omega) ?_
      refine kw_step rfl rfl rfl rfl ?_
      refine kw_step rfl rfl rfl rfl ?_
      refine kw_step rfl rfl rfl rfl ?_
      refine kw_step rfl rfl rfl rfl ?_
      rw [wI_id (by omega) (by omega)]
      refine kw_ialdS rfl (by omega) (by omega) ?_
      refine kw_if_eq rfl rfl (fun _ => ?_) (fun q => absurd z2 q)
      refine kw_step rfl rfl rfl rfl ?_
      refine kw_step rfl rfl rfl rfl ?_
      refine kw_step rfl rfl rfl rfl ?_
      refine kw_step rfl rfl rfl rfl ?_
      refine kw_step rfl rfl rfl rfl ?_
      rw [wI_id (by omega) (by omega)]
      refine kw_ialdS rfl (by omega) (by omega) ?_
      refine kw_if_eq rfl rfl (fun q => absurd q z3) (fun _ => ?_)
      refine kw_step rfl rfl rfl rfl ?_
      refine kw_goto rfl rfl ?_
      refine kw_callV (vs := [_, _, _]) rfl rfl rfl ⟨rfl, Nat.le_of_ble_eq_true rfl, Nat.le_of_ble_eq_true rfl, by decide⟩ hk1 r2 (by decide) ?_
      refine kw_icmp_eq rfl rfl (fun _ => ?_) (fun q => absurd rfl q)
      exact kk h2 hI2 b1 b2
  · by_cases z3 : sc.getD ((i : Int) + 3).toNat 0 = 0
    · rw [if_neg z2, if_pos z3] at r1 r2
      refine kw_step rfl rfl rfl rfl ?_
      refine kw_step rfl rfl rfl rfl ?_
      refine kw_step rfl rfl rfl rfl ?_
      refine kw_step rfl rfl rfl rfl ?_
      refine kw_step rfl rfl rfl rfl ?_
      rw [wI_id (by omega) (by omega)]
      refine kw_ialdS rfl (by omega) (by omega) ?_
      refine kw_step rfl rfl rfl rfl ?_
      refine kw_step rfl rfl rfl rfl ?_
      refine kw_step rfl rfl rfl rfl ?_
      refine kw_step rfl rfl rfl rfl ?_
      rw [wI_id (by omega) (by omega)]
      refine kw_ialdS rfl (by omega) (by omega) ?_
      refine kw_if_eq rfl rfl (fun q => absurd q z2) (fun _ => ?_)
      refine kw_step rfl rfl rfl rfl ?_
      refine kw_goto rfl rfl ?_
      refine kw_step rfl rfl rfl rfl ?_
      refine kw_step rfl rfl rfl rfl ?_
      refine kw_step rfl rfl rfl rfl ?_
      refine kw_step rfl rfl rfl rfl ?_
      rw [wI_id (by omega) (by omega)]
      refine kw_ialdS rfl (by omega) (by omega) ?_
      refine kw_if_eq rfl rfl (fun _ => ?_) (fun q => absurd z3 q)
      refine kw_step rfl rfl rfl rfl ?_
      refine kw_callV (vs := [_, _, _]) rfl rfl rfl ⟨rfl, Nat.le_of_ble_eq_true rfl, Nat.le_of_ble_eq_true rfl, by decide⟩ hk0 r1 (by decide) ?_
      refine kw_step rfl rfl rfl rfl ?_
      refine kw_step rfl rfl rfl rfl ?_
      refine kw_step rfl rfl rfl rfl ?_
      refine kw_step rfl rfl rfl rfl ?_
      refine kw_step rfl rfl rfl rfl ?_
      rw [wI_id (by omega) (by omega)]
      refine kw_ialdS rfl (by omega) (by omega) ?_
      refine kw_step rfl rfl rfl rfl ?_
      refine kw_step rfl rfl rfl rfl ?_
      refine kw_step rfl rfl rfl rfl ?_
      refine kw_step rfl rfl rfl rfl ?_
      rw [wI_id (by omega) (by omega)]
      refine kw_ialdS rfl (by omega) (by omega) ?_
      refine kw_if_eq rfl rfl (fun q => absurd q z2) (fun _ => ?_)
      refine kw_step rfl rfl rfl rfl ?_
      refine kw_goto rfl rfl ?_
      refine kw_step rfl rfl rfl rfl ?_
      refine kw_step rfl rfl rfl rfl ?_
      refine kw_step rfl rfl rfl rfl ?_
      refine kw_step rfl rfl rfl rfl ?_
      rw [wI_id (by omega) (by omega)]
      refine kw_ialdS rfl (by omega) (by omega) ?_
      refine kw_if_eq rfl rfl (fun _ => ?_) (fun q => absurd z3 q)
      refine kw_step rfl rfl rfl rfl ?_
      refine kw_callV (vs := [_, _, _]) rfl rfl rfl ⟨rfl, Nat.le_of_ble_eq_true rfl, Nat.le_of_ble_eq_true rfl, by decide⟩ hk1 r2 (by decide) ?_
      refine kw_icmp_eq rfl rfl (fun _ => ?_) (fun q => absurd rfl q)
      exact kk h2 hI2 b1 b2
    · rw [if_neg z2, if_neg z3] at r1 r2
      refine kw_step rfl rfl rfl rfl ?_
      refine kw_step rfl rfl rfl rfl ?_
      refine kw_step rfl rfl rfl rfl ?_
      refine kw_step rfl rfl rfl rfl ?_
      refine kw_step rfl rfl rfl rfl ?_
      rw [wI_id (by omega) (by omega)]
      refine kw_ialdS rfl (by omega) (by omega) ?_
      refine kw_step rfl rfl rfl rfl ?_
      refine kw_step rfl rfl rfl rfl ?_
      refine kw_step rfl rfl rfl rfl ?_
      refine kw_step rfl rfl rfl rfl ?_
      rw [wI_id (by omega) (by omega)]
      refine kw_ialdS rfl (by omega) (by omega) ?_
      refine kw_if_eq rfl rfl (fun q => absurd q z2) (fun _ => ?_)
      refine kw_step rfl rfl rfl rfl ?_
      refine kw_goto rfl rfl ?_
      refine kw_step rfl rfl rfl rfl ?_
      refine kw_step rfl rfl rfl rfl ?_
      refine kw_step rfl rfl rfl rfl ?_
      refine kw_step rfl rfl rfl rfl ?_
      rw [wI_id (by omega) (by omega)]
      refine kw_ialdS rfl (by omega) (by omega) ?_
      refine kw_if_eq rfl rfl (fun q => absurd q z3) (fun _ => ?_)
      refine kw_step rfl rfl rfl rfl ?_
      refine kw_goto rfl rfl ?_
      refine kw_callV (vs := [_, _, _]) rfl rfl rfl ⟨rfl, Nat.le_of_ble_eq_true rfl, Nat.le_of_ble_eq_true rfl, by decide⟩ hk0 r1 (by decide) ?_
      refine kw_step rfl rfl rfl rfl ?_
      refine kw_step rfl rfl rfl rfl ?_
      refine kw_step rfl rfl rfl rfl ?_
      refine kw_step rfl rfl rfl rfl ?_
      refine kw_step rfl rfl rfl rfl ?_
      rw [wI_id (by omega) (by omega)]
      refine kw_ialdS rfl (by omega) (by omega) ?_
      refine kw_step rfl rfl rfl rfl ?_
      refine kw_step rfl rfl rfl rfl ?_
      refine kw_step rfl rfl rfl rfl ?_
      refine kw_step rfl rfl rfl rfl ?_
      rw [wI_id (by omega) (by omega)]
      refine kw_ialdS rfl (by omega) (by omega) ?_
      refine kw_if_eq rfl rfl (fun q => absurd q z2) (fun _ => ?_)
      refine kw_step rfl rfl rfl rfl ?_
      refine kw_goto rfl rfl ?_
      refine kw_step rfl rfl rfl rfl ?_
      refine kw_step rfl rfl rfl rfl ?_
      refine kw_step rfl rfl rfl rfl ?_
      refine kw_step rfl rfl rfl rfl ?_
      rw [wI_id (by omega) (by omega)]
      refine kw_ialdS rfl (by omega) (by omega) ?_
      refine kw_if_eq rfl rfl (fun q => absurd q z3) (fun _ => ?_)
      refine kw_step rfl rfl rfl rfl ?_
      refine kw_goto rfl rfl ?_
      refine kw_callV (vs := [_, _, _]) rfl rfl rfl ⟨rfl, Nat.le_of_ble_eq_true rfl, Nat.le_of_ble_eq_true rfl, by decide⟩ hk1 r2 (by decide) ?_
      refine kw_icmp_eq rfl rfl (fun _ => ?_) (fun q => absurd rfl q)
      exact kk h2 hI2 b1 b2
set_option maxRecDepth 4000 in
theorem kOp_13 {sc : List Int} {Inv : kH → Prop} (h0 : ∀ h, Inv h → ∃ fs, h.2.2 0 = some (.inr (.inr (10, fs)))) {i : Nat} (hi : i + 6 ≤ sc.length) (hl : sc.length ≤ 3072) {h : kH} {Q : Option kV → kH → Prop} (hI : Inv h) (hc : kCaseOf sc Inv 101 242 kI []) (kk : ∀ g, Inv g → g.1 ≤ h.1 + 100 → g.2.1 ≤ h.2.1 + 2000 → kW sc 1000 kc_Law_law 2 677 (kLw i) [] g Q) : kW sc 1000 kc_Law_law 2 349 (kLw i) [] h Q := by
  obtain ⟨fs0, hk0⟩ := h0 h hI
  obtain ⟨x, h1, h2, r1, ⟨fs1, hk1⟩, r2, hI2, b1, b2⟩ := hc h hI
  refine kw_step rfl rfl rfl rfl ?_
  refine kw_callV (vs := []) rfl rfl rfl ⟨rfl, Nat.le_of_ble_eq_true rfl, Nat.le_of_ble_eq_true rfl, by decide⟩ hk0 r1 (by decide) ?_
  refine kw_step rfl rfl rfl rfl ?_
  refine kw_callV (vs := []) rfl rfl rfl ⟨rfl, Nat.le_of_ble_eq_true rfl, Nat.le_of_ble_eq_true rfl, by decide⟩ hk1 r2 (by decide) ?_
  refine kw_icmp_eq rfl rfl (fun _ => ?_) (fun q => absurd rfl q)
  exact kk h2 hI2 b1 b2
set_option maxRecDepth 4000 in
theorem kOp_14 {sc : List Int} {Inv : kH → Prop} (h0 : ∀ h, Inv h → ∃ fs, h.2.2 0 = some (.inr (.inr (10, fs)))) {i : Nat} (hi : i + 6 ≤ sc.length) (hl : sc.length ≤ 3072) {h : kH} {Q : Option kV → kH → Prop} (hI : Inv h) (hc : kCaseOf sc Inv 102 243 kI [kI (sc.getD ((i : Int) + 1).toNat 0)]) (kk : ∀ g, Inv g → g.1 ≤ h.1 + 100 → g.2.1 ≤ h.2.1 + 2000 → kW sc 1000 kc_Law_law 2 677 (kLw i) [] g Q) : kW sc 1000 kc_Law_law 2 356 (kLw i) [] h Q := by
  obtain ⟨fs0, hk0⟩ := h0 h hI
  obtain ⟨x, h1, h2, r1, ⟨fs1, hk1⟩, r2, hI2, b1, b2⟩ := hc h hI
  refine kw_step rfl rfl rfl rfl ?_
  refine kw_step rfl rfl rfl rfl ?_
  refine kw_step rfl rfl rfl rfl ?_
  refine kw_step rfl rfl rfl rfl ?_
  refine kw_step rfl rfl rfl rfl ?_
  rw [wI_id (by omega) (by omega)]
  refine kw_ialdS rfl (by omega) (by omega) ?_
  refine kw_callV (vs := [_]) rfl rfl rfl ⟨rfl, Nat.le_of_ble_eq_true rfl, Nat.le_of_ble_eq_true rfl, by decide⟩ hk0 r1 (by decide) ?_
  refine kw_step rfl rfl rfl rfl ?_
  refine kw_step rfl rfl rfl rfl ?_
  refine kw_step rfl rfl rfl rfl ?_
  refine kw_step rfl rfl rfl rfl ?_
  refine kw_step rfl rfl rfl rfl ?_
  rw [wI_id (by omega) (by omega)]
  refine kw_ialdS rfl (by omega) (by omega) ?_
  refine kw_callV (vs := [_]) rfl rfl rfl ⟨rfl, Nat.le_of_ble_eq_true rfl, Nat.le_of_ble_eq_true rfl, by decide⟩ hk1 r2 (by decide) ?_
  refine kw_icmp_eq rfl rfl (fun _ => ?_) (fun q => absurd rfl q)
  exact kk h2 hI2 b1 b2
set_option maxRecDepth 4000 in
theorem kOp_15 {sc : List Int} {Inv : kH → Prop} (h0 : ∀ h, Inv h → ∃ fs, h.2.2 0 = some (.inr (.inr (10, fs)))) {i : Nat} (hi : i + 6 ≤ sc.length) (hl : sc.length ≤ 3072) {h : kH} {Q : Option kV → kH → Prop} (hI : Inv h) (hc : kCaseOf sc Inv 104 245 kI [kI (sc.getD ((i : Int) + 1).toNat 0)]) (kk : ∀ g, Inv g → g.1 ≤ h.1 + 100 → g.2.1 ≤ h.2.1 + 2000 → kW sc 1000 kc_Law_law 2 677 (kLw i) [] g Q) : kW sc 1000 kc_Law_law 2 373 (kLw i) [] h Q := by
  obtain ⟨fs0, hk0⟩ := h0 h hI
  obtain ⟨x, h1, h2, r1, ⟨fs1, hk1⟩, r2, hI2, b1, b2⟩ := hc h hI
  refine kw_step rfl rfl rfl rfl ?_
  refine kw_step rfl rfl rfl rfl ?_
  refine kw_step rfl rfl rfl rfl ?_
  refine kw_step rfl rfl rfl rfl ?_
  refine kw_step rfl rfl rfl rfl ?_
  rw [wI_id (by omega) (by omega)]
  refine kw_ialdS rfl (by omega) (by omega) ?_
  refine kw_callV (vs := [_]) rfl rfl rfl ⟨rfl, Nat.le_of_ble_eq_true rfl, Nat.le_of_ble_eq_true rfl, by decide⟩ hk0 r1 (by decide) ?_
  refine kw_step rfl rfl rfl rfl ?_
  refine kw_step rfl rfl rfl rfl ?_
  refine kw_step rfl rfl rfl rfl ?_
  refine kw_step rfl rfl rfl rfl ?_
  refine kw_step rfl rfl rfl rfl ?_
  rw [wI_id (by omega) (by omega)]
  refine kw_ialdS rfl (by omega) (by omega) ?_
  refine kw_callV (vs := [_]) rfl rfl rfl ⟨rfl, Nat.le_of_ble_eq_true rfl, Nat.le_of_ble_eq_true rfl, by decide⟩ hk1 r2 (by decide) ?_
  refine kw_icmp_eq rfl rfl (fun _ => ?_) (fun q => absurd rfl q)
  exact kk h2 hI2 b1 b2
set_option maxRecDepth 4000 in
theorem kOp_16 {sc : List Int} {Inv : kH → Prop} (h0 : ∀ h, Inv h → ∃ fs, h.2.2 0 = some (.inr (.inr (10, fs)))) {i : Nat} (hi : i + 6 ≤ sc.length) (hl : sc.length ≤ 3072) {h : kH} {Q : Option kV → kH → Prop} (hI : Inv h) (hc : kCaseOf sc Inv 106 249 kI []) (kk : ∀ g, Inv g → g.1 ≤ h.1 + 100 → g.2.1 ≤ h.2.1 + 2000 → kW sc 1000 kc_Law_law 2 677 (kLw i) [] g Q) : kW sc 1000 kc_Law_law 2 390 (kLw i) [] h Q := by
  obtain ⟨fs0, hk0⟩ := h0 h hI
  obtain ⟨x, h1, h2, r1, ⟨fs1, hk1⟩, r2, hI2, b1, b2⟩ := hc h hI
  refine kw_step rfl rfl rfl rfl ?_
  refine kw_callV (vs := []) rfl rfl rfl ⟨rfl, Nat.le_of_ble_eq_true rfl, Nat.le_of_ble_eq_true rfl, by decide⟩ hk0 r1 (by decide) ?_
  refine kw_step rfl rfl rfl rfl ?_
  refine kw_callV (vs := []) rfl rfl rfl ⟨rfl, Nat.le_of_ble_eq_true rfl, Nat.le_of_ble_eq_true rfl, by decide⟩ hk1 r2 (by decide) ?_
  refine kw_icmp_eq rfl rfl (fun _ => ?_) (fun q => absurd rfl q)
  exact kk h2 hI2 b1 b2
set_option maxRecDepth 4000 in
theorem kOp_17 {sc : List Int} {Inv : kH → Prop} (h0 : ∀ h, Inv h → ∃ fs, h.2.2 0 = some (.inr (.inr (10, fs)))) {i : Nat} (hi : i + 6 ≤ sc.length) (hl : sc.length ≤ 3072) {h : kH} {Q : Option kV → kH → Prop} (hI : Inv h) (hc : kCaseOf sc Inv 110 251 kI []) (kk : ∀ g, Inv g → g.1 ≤ h.1 + 100 → g.2.1 ≤ h.2.1 + 2000 → kW sc 1000 kc_Law_law 2 677 (kLw i) [] g Q) : kW sc 1000 kc_Law_law 2 397 (kLw i) [] h Q := by
  obtain ⟨fs0, hk0⟩ := h0 h hI
  obtain ⟨x, h1, h2, r1, ⟨fs1, hk1⟩, r2, hI2, b1, b2⟩ := hc h hI
  refine kw_step rfl rfl rfl rfl ?_
  refine kw_callV (vs := []) rfl rfl rfl ⟨rfl, Nat.le_of_ble_eq_true rfl, Nat.le_of_ble_eq_true rfl, by decide⟩ hk0 r1 (by decide) ?_
  refine kw_step rfl rfl rfl rfl ?_
  refine kw_callV (vs := []) rfl rfl rfl ⟨rfl, Nat.le_of_ble_eq_true rfl, Nat.le_of_ble_eq_true rfl, by decide⟩ hk1 r2 (by decide) ?_
  refine kw_icmp_eq rfl rfl (fun _ => ?_) (fun q => absurd rfl q)
  exact kk h2 hI2 b1 b2
set_option maxRecDepth 4000 in
theorem kOp_18 {sc : List Int} {Inv : kH → Prop} (h0 : ∀ h, Inv h → ∃ fs, h.2.2 0 = some (.inr (.inr (10, fs)))) {i : Nat} (hi : i + 6 ≤ sc.length) (hl : sc.length ≤ 3072) {h : kH} {Q : Option kV → kH → Prop} (hI : Inv h) (hc : kCaseOf sc Inv 112 252 kJ [kI (sc.getD ((i : Int) + 1).toNat 0)]) (kk : ∀ g, Inv g → g.1 ≤ h.1 + 100 → g.2.1 ≤ h.2.1 + 2000 → kW sc 1000 kc_Law_law 2 677 (kLw i) [] g Q) : kW sc 1000 kc_Law_law 2 404 (kLw i) [] h Q := by
  obtain ⟨fs0, hk0⟩ := h0 h hI
  obtain ⟨x, h1, h2, r1, ⟨fs1, hk1⟩, r2, hI2, b1, b2⟩ := hc h hI
  refine kw_step rfl rfl rfl rfl ?_
  refine kw_step rfl rfl rfl rfl ?_
  refine kw_step rfl rfl rfl rfl ?_
  refine kw_step rfl rfl rfl rfl ?_
  refine kw_step rfl rfl rfl rfl ?_
  rw [wI_id (by omega) (by omega)]
  refine kw_ialdS rfl (by omega) (by omega) ?_
  refine kw_callV (vs := [_]) rfl rfl rfl ⟨rfl, Nat.le_of_ble_eq_true rfl, Nat.le_of_ble_eq_true rfl, by decide⟩ hk0 r1 (by decide) ?_
  refine kw_step rfl rfl rfl rfl ?_
  refine kw_step rfl rfl rfl rfl ?_
  refine kw_step rfl rfl rfl rfl ?_
  refine kw_step rfl rfl rfl rfl ?_
  refine kw_step rfl rfl rfl rfl ?_
  rw [wI_id (by omega) (by omega)]
  refine kw_ialdS rfl (by omega) (by omega) ?_
  refine kw_callV (vs := [_]) rfl rfl rfl ⟨rfl, Nat.le_of_ble_eq_true rfl, Nat.le_of_ble_eq_true rfl, by decide⟩ hk1 r2 (by decide) ?_
  refine kw_step rfl rfl rfl rfl ?_
  refine kw_if_eq rfl rfl (fun _ => ?_) (fun q => absurd ((klc_eq x x).mpr rfl) q)
  exact kk h2 hI2 b1 b2
set_option maxRecDepth 4000 in
theorem kOp_19 {sc : List Int} {Inv : kH → Prop} (h0 : ∀ h, Inv h → ∃ fs, h.2.2 0 = some (.inr (.inr (10, fs)))) {i : Nat} (hi : i + 6 ≤ sc.length) (hl : sc.length ≤ 3072) {h : kH} {Q : Option kV → kH → Prop} (hI : Inv h) (hc : kCaseOf sc Inv 121 257 kJ []) (kk : ∀ g, Inv g → g.1 ≤ h.1 + 100 → g.2.1 ≤ h.2.1 + 2000 → kW sc 1000 kc_Law_law 2 677 (kLw i) [] g Q) : kW sc 1000 kc_Law_law 2 422 (kLw i) [] h Q := by
  obtain ⟨fs0, hk0⟩ := h0 h hI
  obtain ⟨x, h1, h2, r1, ⟨fs1, hk1⟩, r2, hI2, b1, b2⟩ := hc h hI
  refine kw_step rfl rfl rfl rfl ?_
  refine kw_callV (vs := []) rfl rfl rfl ⟨rfl, Nat.le_of_ble_eq_true rfl, Nat.le_of_ble_eq_true rfl, by decide⟩ hk0 r1 (by decide) ?_
  refine kw_step rfl rfl rfl rfl ?_
  refine kw_callV (vs := []) rfl rfl rfl ⟨rfl, Nat.le_of_ble_eq_true rfl, Nat.le_of_ble_eq_true rfl, by decide⟩ hk1 r2 (by decide) ?_
  refine kw_step rfl rfl rfl rfl ?_
  refine kw_if_eq rfl rfl (fun _ => ?_) (fun q => absurd ((klc_eq x x).mpr rfl) q)
  exact kk h2 hI2 b1 b2
set_option maxRecDepth 4000 in
theorem kOp_20 {sc : List Int} {Inv : kH → Prop} (h0 : ∀ h, Inv h → ∃ fs, h.2.2 0 = some (.inr (.inr (10, fs)))) {i : Nat} (hi : i + 6 ≤ sc.length) (hl : sc.length ≤ 3072) {h : kH} {Q : Option kV → kH → Prop} (hI : Inv h) (hc : kCaseOf sc Inv 125 258 kI [kI (sc.getD ((i : Int) + 1).toNat 0), kI (sc.getD ((i : Int) + 2).toNat 0)]) (kk : ∀ g, Inv g → g.1 ≤ h.1 + 100 → g.2.1 ≤ h.2.1 + 2000 → kW sc 1000 kc_Law_law 2 677 (kLw i) [] g Q) : kW sc 1000 kc_Law_law 2 430 (kLw i) [] h Q := by
  obtain ⟨fs0, hk0⟩ := h0 h hI
  obtain ⟨x, h1, h2, r1, ⟨fs1, hk1⟩, r2, hI2, b1, b2⟩ := hc h hI
  refine kw_step rfl rfl rfl rfl ?_
  refine kw_step rfl rfl rfl rfl ?_
  refine kw_step rfl rfl rfl rfl ?_
  refine kw_step rfl rfl rfl rfl ?_
  refine kw_step rfl rfl rfl rfl ?_
  rw [wI_id (by omega) (by omega)]
  refine kw_ialdS rfl (by omega) (by omega) ?_
  refine kw_step rfl rfl rfl rfl ?_
  refine kw_step rfl rfl rfl rfl ?_
  refine kw_step rfl rfl rfl rfl ?_
  refine kw_step rfl rfl rfl rfl ?_
  rw [wI_id (by omega) (by omega)]
  refine kw_ialdS rfl (by omega) (by omega) ?_
  refine kw_callV (vs := [_, _]) rfl rfl rfl ⟨rfl, Nat.le_of_ble_eq_true rfl, Nat.le_of_ble_eq_true rfl, by decide⟩ hk0 r1 (by decide) ?_
  refine kw_step rfl rfl rfl rfl ?_
  refine kw_step rfl rfl rfl rfl ?_
  refine kw_step rfl rfl rfl rfl ?_
  refine kw_step rfl rfl rfl rfl ?_
  refine kw_step rfl rfl rfl rfl ?_
  rw [wI_id (by omega) (by omega)]
  refine kw_ialdS rfl (by omega) (by omega) ?_
  refine kw_step rfl rfl rfl rfl ?_
  refine kw_step rfl rfl rfl rfl ?_
  refine kw_step rfl rfl rfl rfl ?_
  refine kw_step rfl rfl rfl rfl ?_
  rw [wI_id (by omega) (by omega)]
  refine kw_ialdS rfl (by omega) (by omega) ?_
  refine kw_callV (vs := [_, _]) rfl rfl rfl ⟨rfl, Nat.le_of_ble_eq_true rfl, Nat.le_of_ble_eq_true rfl, by decide⟩ hk1 r2 (by decide) ?_
  refine kw_icmp_eq rfl rfl (fun _ => ?_) (fun q => absurd rfl q)
  exact kk h2 hI2 b1 b2
set_option maxRecDepth 4000 in
theorem kOp_21 {sc : List Int} {Inv : kH → Prop} (h0 : ∀ h, Inv h → ∃ fs, h.2.2 0 = some (.inr (.inr (10, fs)))) {i : Nat} (hi : i + 6 ≤ sc.length) (hl : sc.length ≤ 3072) {h : kH} {Q : Option kV → kH → Prop} (hI : Inv h) (hc : kCaseOf sc Inv 134 265 kI []) (kk : ∀ g, Inv g → g.1 ≤ h.1 + 100 → g.2.1 ≤ h.2.1 + 2000 → kW sc 1000 kc_Law_law 2 677 (kLw i) [] g Q) : kW sc 1000 kc_Law_law 2 457 (kLw i) [] h Q := by
  obtain ⟨fs0, hk0⟩ := h0 h hI
  obtain ⟨x, h1, h2, r1, ⟨fs1, hk1⟩, r2, hI2, b1, b2⟩ := hc h hI
  refine kw_step rfl rfl rfl rfl ?_
  refine kw_callV (vs := []) rfl rfl rfl ⟨rfl, Nat.le_of_ble_eq_true rfl, Nat.le_of_ble_eq_true rfl, by decide⟩ hk0 r1 (by decide) ?_
  refine kw_step rfl rfl rfl rfl ?_
  refine kw_callV (vs := []) rfl rfl rfl ⟨rfl, Nat.le_of_ble_eq_true rfl, Nat.le_of_ble_eq_true rfl, by decide⟩ hk1 r2 (by decide) ?_
  refine kw_icmp_eq rfl rfl (fun _ => ?_) (fun q => absurd rfl q)
  exact kk h2 hI2 b1 b2
set_option maxRecDepth 4000 in
theorem kOp_22 {sc : List Int} {Inv : kH → Prop} (h0 : ∀ h, Inv h → ∃ fs, h.2.2 0 = some (.inr (.inr (10, fs)))) {i : Nat} (hi : i + 6 ≤ sc.length) (hl : sc.length ≤ 3072) {h : kH} {Q : Option kV → kH → Prop} (hI : Inv h) (hc : kCaseOf sc Inv 145 272 kI [kI (sc.getD ((i : Int) + 1).toNat 0), kI (sc.getD ((i : Int) + 2).toNat 0)]) (kk : ∀ g, Inv g → g.1 ≤ h.1 + 100 → g.2.1 ≤ h.2.1 + 2000 → kW sc 1000 kc_Law_law 2 677 (kLw i) [] g Q) : kW sc 1000 kc_Law_law 2 464 (kLw i) [] h Q := by
  obtain ⟨fs0, hk0⟩ := h0 h hI
  obtain ⟨x, h1, h2, r1, ⟨fs1, hk1⟩, r2, hI2, b1, b2⟩ := hc h hI
  refine kw_step rfl rfl rfl rfl ?_
  refine kw_step rfl rfl rfl rfl ?_
  refine kw_step rfl rfl rfl rfl ?_
  refine kw_step rfl rfl rfl rfl ?_
  refine kw_step rfl rfl rfl rfl ?_
  rw [wI_id (by omega) (by omega)]
  refine kw_ialdS rfl (by omega) (by omega) ?_
  refine kw_step rfl rfl rfl rfl ?_
  refine kw_step rfl rfl rfl rfl ?_
  refine kw_step rfl rfl rfl rfl ?_
  refine kw_step rfl rfl rfl rfl ?_
  rw [wI_id (by omega) (by omega)]
  refine kw_ialdS rfl (by omega) (by omega) ?_
  refine kw_callV (vs := [_, _]) rfl rfl rfl ⟨rfl, Nat.le_of_ble_eq_true rfl, Nat.le_of_ble_eq_true rfl, by decide⟩ hk0 r1 (by decide) ?_
  refine kw_step rfl rfl rfl rfl ?_
  refine kw_step rfl rfl rfl rfl ?_
  refine kw_step rfl rfl rfl rfl ?_
  refine kw_step rfl rfl rfl rfl ?_
  refine kw_step rfl rfl rfl rfl ?_
  rw [wI_id (by omega) (by omega)]
  refine kw_ialdS rfl (by omega) (by omega) ?_
  refine kw_step rfl rfl rfl rfl ?_
  refine kw_step rfl rfl rfl rfl ?_
  refine kw_step rfl rfl rfl rfl ?_
  refine kw_step rfl rfl rfl rfl ?_
  rw [wI_id (by omega) (by omega)]
  refine kw_ialdS rfl (by omega) (by omega) ?_
  refine kw_callV (vs := [_, _]) rfl rfl rfl ⟨rfl, Nat.le_of_ble_eq_true rfl, Nat.le_of_ble_eq_true rfl, by decide⟩ hk1 r2 (by decide) ?_
  refine kw_icmp_eq rfl rfl (fun _ => ?_) (fun q => absurd rfl q)
  exact kk h2 hI2 b1 b2
set_option maxRecDepth 4000 in
theorem kOp_23 {sc : List Int} {Inv : kH → Prop} (h0 : ∀ h, Inv h → ∃ fs, h.2.2 0 = some (.inr (.inr (10, fs)))) {i : Nat} (hi : i + 6 ≤ sc.length) (hl : sc.length ≤ 3072) {h : kH} {Q : Option kV → kH → Prop} (hI : Inv h) (hc : kCaseOf sc Inv 147 273 kI [kI (sc.getD ((i : Int) + 1).toNat 0)]) (kk : ∀ g, Inv g → g.1 ≤ h.1 + 100 → g.2.1 ≤ h.2.1 + 2000 → kW sc 1000 kc_Law_law 2 677 (kLw i) [] g Q) : kW sc 1000 kc_Law_law 2 491 (kLw i) [] h Q := by
  obtain ⟨fs0, hk0⟩ := h0 h hI
  obtain ⟨x, h1, h2, r1, ⟨fs1, hk1⟩, r2, hI2, b1, b2⟩ := hc h hI
  refine kw_step rfl rfl rfl rfl ?_
  refine kw_step rfl rfl rfl rfl ?_
  refine kw_step rfl rfl rfl rfl ?_
  refine kw_step rfl rfl rfl rfl ?_
  refine kw_step rfl rfl rfl rfl ?_
  rw [wI_id (by omega) (by omega)]
  refine kw_ialdS rfl (by omega) (by omega) ?_
  refine kw_callV (vs := [_]) rfl rfl rfl ⟨rfl, Nat.le_of_ble_eq_true rfl, Nat.le_of_ble_eq_true rfl, by decide⟩ hk0 r1 (by decide) ?_
  refine kw_step rfl rfl rfl rfl ?_
  refine kw_step rfl rfl rfl rfl ?_
  refine kw_step rfl rfl rfl rfl ?_
  refine kw_step rfl rfl rfl rfl ?_
  refine kw_step rfl rfl rfl rfl ?_
  rw [wI_id (by omega) (by omega)]
  refine kw_ialdS rfl (by omega) (by omega) ?_
  refine kw_callV (vs := [_]) rfl rfl rfl ⟨rfl, Nat.le_of_ble_eq_true rfl, Nat.le_of_ble_eq_true rfl, by decide⟩ hk1 r2 (by decide) ?_
  refine kw_icmp_eq rfl rfl (fun _ => ?_) (fun q => absurd rfl q)
  exact kk h2 hI2 b1 b2
set_option maxRecDepth 4000 in
theorem kOp_24 {sc : List Int} {Inv : kH → Prop} (h0 : ∀ h, Inv h → ∃ fs, h.2.2 0 = some (.inr (.inr (10, fs)))) {i : Nat} (hi : i + 6 ≤ sc.length) (hl : sc.length ≤ 3072) {h : kH} {Q : Option kV → kH → Prop} (hI : Inv h) (hc : kCaseOf sc Inv 150 276 kI [kI (sc.getD ((i : Int) + 1).toNat 0), kI (sc.getD ((i : Int) + 2).toNat 0)]) (kk : ∀ g, Inv g → g.1 ≤ h.1 + 100 → g.2.1 ≤ h.2.1 + 2000 → kW sc 1000 kc_Law_law 2 677 (kLw i) [] g Q) : kW sc 1000 kc_Law_law 2 508 (kLw i) [] h Q := by
  obtain ⟨fs0, hk0⟩ := h0 h hI
  obtain ⟨x, h1, h2, r1, ⟨fs1, hk1⟩, r2, hI2, b1, b2⟩ := hc h hI
  refine kw_step rfl rfl rfl rfl ?_
  refine kw_step rfl rfl rfl rfl ?_
  refine kw_step rfl rfl rfl rfl ?_
  refine kw_step rfl rfl rfl rfl ?_
  refine kw_step rfl rfl rfl rfl ?_
  rw [wI_id (by omega) (by omega)]
  refine kw_ialdS rfl (by omega) (by omega) ?_
  refine kw_step rfl rfl rfl rfl ?_
  refine kw_step rfl rfl rfl rfl ?_
  refine kw_step rfl rfl rfl rfl ?_
  refine kw_step rfl rfl rfl rfl ?_
  rw [wI_id (by omega) (by omega)]
  refine kw_ialdS rfl (by omega) (by omega) ?_
  refine kw_callV (vs := [_, _]) rfl rfl rfl ⟨rfl, Nat.le_of_ble_eq_true rfl, Nat.le_of_ble_eq_true rfl, by decide⟩ hk0 r1 (by decide) ?_
  refine kw_step rfl rfl rfl rfl ?_
  refine kw_step rfl rfl rfl rfl ?_
  refine kw_step rfl rfl rfl rfl ?_
  refine kw_step rfl rfl rfl rfl ?_
  refine kw_step rfl rfl rfl rfl ?_
  rw [wI_id (by omega) (by omega)]
  refine kw_ialdS rfl (by omega) (by omega) ?_
  refine kw_step rfl rfl rfl rfl ?_
  refine kw_step rfl rfl rfl rfl ?_
  refine kw_step rfl rfl rfl rfl ?_
  refine kw_step rfl rfl rfl rfl ?_
  rw [wI_id (by omega) (by omega)]
  refine kw_ialdS rfl (by omega) (by omega) ?_
  refine kw_callV (vs := [_, _]) rfl rfl rfl ⟨rfl, Nat.le_of_ble_eq_true rfl, Nat.le_of_ble_eq_true rfl, by decide⟩ hk1 r2 (by decide) ?_
  refine kw_icmp_eq rfl rfl (fun _ => ?_) (fun q => absurd rfl q)
  exact kk h2 hI2 b1 b2
set_option maxRecDepth 4000 in
theorem kOp_25 {sc : List Int} {Inv : kH → Prop} (h0 : ∀ h, Inv h → ∃ fs, h.2.2 0 = some (.inr (.inr (10, fs)))) {i : Nat} (hi : i + 6 ≤ sc.length) (hl : sc.length ≤ 3072) {h : kH} {Q : Option kV → kH → Prop} (hI : Inv h) (hc : kCaseOf sc Inv 161 284 kI [kI (sc.getD ((i : Int) + 1).toNat 0), kI (sc.getD ((i : Int) + 2).toNat 0)]) (kk : ∀ g, Inv g → g.1 ≤ h.1 + 100 → g.2.1 ≤ h.2.1 + 2000 → kW sc 1000 kc_Law_law 2 677 (kLw i) [] g Q) : kW sc 1000 kc_Law_law 2 535 (kLw i) [] h Q := by
  obtain ⟨fs0, hk0⟩ := h0 h hI
  obtain ⟨x, h1, h2, r1, ⟨fs1, hk1⟩, r2, hI2, b1, b2⟩ := hc h hI
  refine kw_step rfl rfl rfl rfl ?_
  refine kw_step rfl rfl rfl rfl ?_
  refine kw_step rfl rfl rfl rfl ?_
  refine kw_step rfl rfl rfl rfl ?_
  refine kw_step rfl rfl rfl rfl ?_
  rw [wI_id (by omega) (by omega)]
  refine kw_ialdS rfl (by omega) (by omega) ?_
  refine kw_step rfl rfl rfl rfl ?_
  refine kw_step rfl rfl rfl rfl ?_
  refine kw_step rfl rfl rfl rfl ?_
  refine kw_step rfl rfl rfl rfl ?_
  rw [wI_id (by omega) (by omega)]
  refine kw_ialdS rfl (by omega) (by omega) ?_
  refine kw_callV (vs := [_, _]) rfl rfl rfl ⟨rfl, Nat.le_of_ble_eq_true rfl, Nat.le_of_ble_eq_true rfl, by decide⟩ hk0 r1 (by decide) ?_
  refine kw_step rfl rfl rfl rfl ?_
  refine kw_step rfl rfl rfl rfl ?_
  refine kw_step rfl rfl rfl rfl ?_
  refine kw_step rfl rfl rfl rfl ?_
  refine kw_step rfl rfl rfl rfl ?_
  rw [wI_id (by omega) (by omega)]
  refine kw_ialdS rfl (by omega) (by omega) ?_
  refine kw_step rfl rfl rfl rfl ?_
  refine kw_step rfl rfl rfl rfl ?_
  refine kw_step rfl rfl rfl rfl ?_
  refine kw_step rfl rfl rfl rfl ?_
  rw [wI_id (by omega) (by omega)]
  refine kw_ialdS rfl (by omega) (by omega) ?_
  refine kw_callV (vs := [_, _]) rfl rfl rfl ⟨rfl, Nat.le_of_ble_eq_true rfl, Nat.le_of_ble_eq_true rfl, by decide⟩ hk1 r2 (by decide) ?_
  refine kw_icmp_eq rfl rfl (fun _ => ?_) (fun q => absurd rfl q)
  exact kk h2 hI2 b1 b2
set_option maxRecDepth 4000 in
theorem kOp_26 {sc : List Int} {Inv : kH → Prop} (h0 : ∀ h, Inv h → ∃ fs, h.2.2 0 = some (.inr (.inr (10, fs)))) {i : Nat} (hi : i + 6 ≤ sc.length) (hl : sc.length ≤ 3072) {h : kH} {Q : Option kV → kH → Prop} (hI : Inv h) (hc : kCaseOf sc Inv 163 285 kI [kI (sc.getD ((i : Int) + 1).toNat 0)]) (kk : ∀ g, Inv g → g.1 ≤ h.1 + 100 → g.2.1 ≤ h.2.1 + 2000 → kW sc 1000 kc_Law_law 2 677 (kLw i) [] g Q) : kW sc 1000 kc_Law_law 2 562 (kLw i) [] h Q := by
  obtain ⟨fs0, hk0⟩ := h0 h hI
  obtain ⟨x, h1, h2, r1, ⟨fs1, hk1⟩, r2, hI2, b1, b2⟩ := hc h hI
  refine kw_step rfl rfl rfl rfl ?_
  refine kw_step rfl rfl rfl rfl ?_
  refine kw_step rfl rfl rfl rfl ?_
  refine kw_step rfl rfl rfl rfl ?_
  refine kw_step rfl rfl rfl rfl ?_
  rw [wI_id (by omega) (by omega)]
  refine kw_ialdS rfl (by omega) (by omega) ?_
  refine kw_callV (vs := [_]) rfl rfl rfl ⟨rfl, Nat.le_of_ble_eq_true rfl, Nat.le_of_ble_eq_true rfl, by decide⟩ hk0 r1 (by decide) ?_
  refine kw_step rfl rfl rfl rfl ?_
  refine kw_step rfl rfl rfl rfl ?_
  refine kw_step rfl rfl rfl rfl ?_
  refine kw_step rfl rfl rfl rfl ?_
  refine kw_step rfl rfl rfl rfl ?_
  rw [wI_id (by omega) (by omega)]
  refine kw_ialdS rfl (by omega) (by omega) ?_
  refine kw_callV (vs := [_]) rfl rfl rfl ⟨rfl, Nat.le_of_ble_eq_true rfl, Nat.le_of_ble_eq_true rfl, by decide⟩ hk1 r2 (by decide) ?_
  refine kw_icmp_eq rfl rfl (fun _ => ?_) (fun q => absurd rfl q)
  exact kk h2 hI2 b1 b2
set_option maxRecDepth 4000 in
theorem kOp_27 {sc : List Int} {Inv : kH → Prop} (h0 : ∀ h, Inv h → ∃ fs, h.2.2 0 = some (.inr (.inr (10, fs)))) {i : Nat} (hi : i + 6 ≤ sc.length) (hl : sc.length ≤ 3072) {h : kH} {Q : Option kV → kH → Prop} (hI : Inv h) (hc : kCaseOf sc Inv 164 286 kI [kI (sc.getD ((i : Int) + 1).toNat 0), kI (sc.getD ((i : Int) + 2).toNat 0), kI (sc.getD ((i : Int) + 3).toNat 0), kI (sc.getD ((i : Int) + 4).toNat 0)]) (kk : ∀ g, Inv g → g.1 ≤ h.1 + 100 → g.2.1 ≤ h.2.1 + 2000 → kW sc 1000 kc_Law_law 2 677 (kLw i) [] g Q) : kW sc 1000 kc_Law_law 2 579 (kLw i) [] h Q := by
  obtain ⟨fs0, hk0⟩ := h0 h hI
  obtain ⟨x, h1, h2, r1, ⟨fs1, hk1⟩, r2, hI2, b1, b2⟩ := hc h hI
  refine kw_step rfl rfl rfl rfl ?_
  refine kw_step rfl rfl rfl rfl ?_
  refine kw_step rfl rfl rfl rfl ?_
  refine kw_step rfl rfl rfl rfl ?_
  refine kw_step rfl rfl rfl rfl ?_
  rw [wI_id (by omega) (by omega)]
  refine kw_ialdS rfl (by omega) (by omega) ?_
  refine kw_step rfl rfl rfl rfl ?_
  refine kw_step rfl rfl rfl rfl ?_
  refine kw_step rfl rfl rfl rfl ?_
  refine kw_step rfl rfl rfl rfl ?_
  rw [wI_id (by omega) (by omega)]
  refine kw_ialdS rfl (by omega) (by omega) ?_
  refine kw_step rfl rfl rfl rfl ?_
  refine kw_step rfl rfl rfl rfl ?_
  refine kw_step rfl rfl rfl rfl ?_
  refine kw_step rfl rfl rfl rfl ?_
  rw [wI_id (by omega) (by omega)]
  refine kw_ialdS rfl (by omega) (by omega) ?_
  refine kw_step rfl rfl rfl rfl ?_
  refine kw_step rfl rfl rfl rfl ?_
  refine kw_step rfl rfl rfl rfl ?_
  refine kw_step rfl rfl rfl rfl ?_
  rw [wI_id (by omega) (by omega)]
  refine kw_ialdS rfl (by omega) (by omega) ?_
  refine kw_callV (vs := [_, _, _, _]) rfl rfl rfl ⟨rfl, Nat.le_of_ble_eq_true rfl, Nat.le_of_ble_eq_true rfl, by decide⟩ hk0 r1 (by decide) ?_
  refine kw_step rfl rfl rfl rfl ?_
  refine kw_step rfl rfl rfl rfl ?_
  refine kw_step rfl rfl rfl rfl ?_
  refine kw_step rfl rfl rfl rfl ?_
  refine kw_step rfl rfl rfl rfl ?_
  rw [wI_id (by omega) (by omega)]
  refine kw_ialdS rfl (by omega) (by omega) ?_
  refine kw_step rfl rfl rfl rfl ?_
  refine kw_step rfl rfl rfl rfl ?_
  refine kw_step rfl rfl rfl rfl ?_
  refine kw_step rfl rfl rfl rfl ?_
  rw [wI_id (by omega) (by omega)]
  refine kw_ialdS rfl (by omega) (by omega) ?_
  refine kw_step rfl rfl rfl rfl ?_
  refine kw_step rfl rfl rfl rfl ?_
  refine kw_step rfl rfl rfl rfl ?_
  refine kw_step rfl rfl rfl rfl ?_
  rw [wI_id (by omega) (by omega)]
  refine kw_ialdS rfl (by omega) (by omega) ?_
  refine kw_step rfl rfl rfl rfl ?_
  refine kw_step rfl rfl rfl rfl ?_
  refine kw_step rfl rfl rfl rfl ?_
  refine kw_step rfl rfl rfl rfl ?_
  rw [wI_id (by omega) (by omega)]
  refine kw_ialdS rfl (by omega) (by omega) ?_
  refine kw_callV (vs := [_, _, _, _]) rfl rfl rfl ⟨rfl, Nat.le_of_ble_eq_true rfl, Nat.le_of_ble_eq_true rfl, by decide⟩ hk1 r2 (by decide) ?_
  refine kw_icmp_eq rfl rfl (fun _ => ?_) (fun q => absurd rfl q)
  exact kk h2 hI2 b1 b2
set_option maxRecDepth 4000 in
theorem kOp_28 {sc : List Int} {Inv : kH → Prop} (h0 : ∀ h, Inv h → ∃ fs, h.2.2 0 = some (.inr (.inr (10, fs)))) {i : Nat} (hi : i + 6 ≤ sc.length) (hl : sc.length ≤ 3072) {h : kH} {Q : Option kV → kH → Prop} (hI : Inv h) (hc : kCaseOf sc Inv 167 290 kI [kI (sc.getD ((i : Int) + 1).toNat 0)]) (kk : ∀ g, Inv g → g.1 ≤ h.1 + 100 → g.2.1 ≤ h.2.1 + 2000 → kW sc 1000 kc_Law_law 2 677 (kLw i) [] g Q) : kW sc 1000 kc_Law_law 2 626 (kLw i) [] h Q := by
  obtain ⟨fs0, hk0⟩ := h0 h hI
  obtain ⟨x, h1, h2, r1, ⟨fs1, hk1⟩, r2, hI2, b1, b2⟩ := hc h hI
  refine kw_step rfl rfl rfl rfl ?_
  refine kw_step rfl rfl rfl rfl ?_
  refine kw_step rfl rfl rfl rfl ?_
  refine kw_step rfl rfl rfl rfl ?_
  refine kw_step rfl rfl rfl rfl ?_
  rw [wI_id (by omega) (by omega)]
  refine kw_ialdS rfl (by omega) (by omega) ?_
  refine kw_callV (vs := [_]) rfl rfl rfl ⟨rfl, Nat.le_of_ble_eq_true rfl, Nat.le_of_ble_eq_true rfl, by decide⟩ hk0 r1 (by decide) ?_
  refine kw_step rfl rfl rfl rfl ?_
  refine kw_step rfl rfl rfl rfl ?_
  refine kw_step rfl rfl rfl rfl ?_
  refine kw_step rfl rfl rfl rfl ?_
  refine kw_step rfl rfl rfl rfl ?_
  rw [wI_id (by omega) (by omega)]
  refine kw_ialdS rfl (by omega) (by omega) ?_
  refine kw_callV (vs := [_]) rfl rfl rfl ⟨rfl, Nat.le_of_ble_eq_true rfl, Nat.le_of_ble_eq_true rfl, by decide⟩ hk1 r2 (by decide) ?_
  refine kw_icmp_eq rfl rfl (fun _ => ?_) (fun q => absurd rfl q)
  exact kk h2 hI2 b1 b2
set_option maxRecDepth 4000 in
theorem kOp_29 {sc : List Int} {Inv : kH → Prop} (h0 : ∀ h, Inv h → ∃ fs, h.2.2 0 = some (.inr (.inr (10, fs)))) {i : Nat} (hi : i + 6 ≤ sc.length) (hl : sc.length ≤ 3072) {h : kH} {Q : Option kV → kH → Prop} (hI : Inv h) (hc : kCaseOf sc Inv 168 291 kI [kI (sc.getD ((i : Int) + 1).toNat 0)]) (kk : ∀ g, Inv g → g.1 ≤ h.1 + 100 → g.2.1 ≤ h.2.1 + 2000 → kW sc 1000 kc_Law_law 2 677 (kLw i) [] g Q) : kW sc 1000 kc_Law_law 2 643 (kLw i) [] h Q := by
  obtain ⟨fs0, hk0⟩ := h0 h hI
  obtain ⟨x, h1, h2, r1, ⟨fs1, hk1⟩, r2, hI2, b1, b2⟩ := hc h hI
  refine kw_step rfl rfl rfl rfl ?_
  refine kw_step rfl rfl rfl rfl ?_
  refine kw_step rfl rfl rfl rfl ?_
  refine kw_step rfl rfl rfl rfl ?_
  refine kw_step rfl rfl rfl rfl ?_
  rw [wI_id (by omega) (by omega)]
  refine kw_ialdS rfl (by omega) (by omega) ?_
  refine kw_callV (vs := [_]) rfl rfl rfl ⟨rfl, Nat.le_of_ble_eq_true rfl, Nat.le_of_ble_eq_true rfl, by decide⟩ hk0 r1 (by decide) ?_
  refine kw_step rfl rfl rfl rfl ?_
  refine kw_step rfl rfl rfl rfl ?_
  refine kw_step rfl rfl rfl rfl ?_
  refine kw_step rfl rfl rfl rfl ?_
  refine kw_step rfl rfl rfl rfl ?_
  rw [wI_id (by omega) (by omega)]
  refine kw_ialdS rfl (by omega) (by omega) ?_
  refine kw_callV (vs := [_]) rfl rfl rfl ⟨rfl, Nat.le_of_ble_eq_true rfl, Nat.le_of_ble_eq_true rfl, by decide⟩ hk1 r2 (by decide) ?_
  refine kw_icmp_eq rfl rfl (fun _ => ?_) (fun q => absurd rfl q)
  exact kk h2 hI2 b1 b2
set_option maxRecDepth 4000 in
theorem kOp_30 {sc : List Int} {Inv : kH → Prop} (h0 : ∀ h, Inv h → ∃ fs, h.2.2 0 = some (.inr (.inr (10, fs)))) {i : Nat} (hi : i + 6 ≤ sc.length) (hl : sc.length ≤ 3072) {h : kH} {Q : Option kV → kH → Prop} (hI : Inv h) (hc : kCaseOf sc Inv 170 294 kI [kI (sc.getD ((i : Int) + 1).toNat 0)]) (kk : ∀ g, Inv g → g.1 ≤ h.1 + 100 → g.2.1 ≤ h.2.1 + 2000 → kW sc 1000 kc_Law_law 2 677 (kLw i) [] g Q) : kW sc 1000 kc_Law_law 2 660 (kLw i) [] h Q := by
  obtain ⟨fs0, hk0⟩ := h0 h hI
  obtain ⟨x, h1, h2, r1, ⟨fs1, hk1⟩, r2, hI2, b1, b2⟩ := hc h hI
  refine kw_step rfl rfl rfl rfl ?_
  refine kw_step rfl rfl rfl rfl ?_
  refine kw_step rfl rfl rfl rfl ?_
  refine kw_step rfl rfl rfl rfl ?_
  refine kw_step rfl rfl rfl rfl ?_
  rw [wI_id (by omega) (by omega)]
  refine kw_ialdS rfl (by omega) (by omega) ?_
  refine kw_callV (vs := [_]) rfl rfl rfl ⟨rfl, Nat.le_of_ble_eq_true rfl, Nat.le_of_ble_eq_true rfl, by decide⟩ hk0 r1 (by decide) ?_
  refine kw_step rfl rfl rfl rfl ?_
  refine kw_step rfl rfl rfl rfl ?_
  refine kw_step rfl rfl rfl rfl ?_
  refine kw_step rfl rfl rfl rfl ?_
  refine kw_step rfl rfl rfl rfl ?_
  rw [wI_id (by omega) (by omega)]
  refine kw_ialdS rfl (by omega) (by omega) ?_
  refine kw_callV (vs := [_]) rfl rfl rfl ⟨rfl, Nat.le_of_ble_eq_true rfl, Nat.le_of_ble_eq_true rfl, by decide⟩ hk1 r2 (by decide) ?_
  refine kw_icmp_eq rfl rfl (fun _ => ?_) (fun q => absurd rfl q)
  exact kk h2 hI2 b1 b2
/-- case 0: feed -/
def kC_0 (sc : List Int) (Inv : kH → Prop) : Prop := ∀ (a : Int) (_ : kR32 a) (b : Int) (_ : kR32 b) (c : Int) (_ : kR32 c) (d : Int) (_ : kR32 d) (e : Int) (_ : kR32 e), kCaseOf sc Inv 12 174 kI [kI a, kI b, kI c, kI d, kI e]
/-- case 1: end -/
def kC_1 (sc : List Int) (Inv : kH → Prop) : Prop := ∀ (a : Int) (_ : kR32 a), kCaseOf sc Inv 14 176 kI [kI a]
/-- case 2: town -/
def kC_2 (sc : List Int) (Inv : kH → Prop) : Prop := kCaseOf sc Inv 15 177 kI []
/-- case 3: rule -/
def kC_3 (sc : List Int) (Inv : kH → Prop) : Prop := kCaseOf sc Inv 64 205 kI []
/-- case 4: force -/
def kC_4 (sc : List Int) (Inv : kH → Prop) : Prop := ∀ (a : Int) (_ : kR32 a), kCaseOf sc Inv 78 219 kI [kI a]
/-- case 5: place -/
def kC_5 (sc : List Int) (Inv : kH → Prop) : Prop := ∀ (a : Int) (_ : kR32 a) (b : Int) (_ : kR32 b), kCaseOf sc Inv 79 220 kI [kI a, kI b]
/-- case 6: bridge -/
def kC_6 (sc : List Int) (Inv : kH → Prop) : Prop := ∀ (a : Int) (_ : kR32 a) (b : Int) (_ : kR32 b), kCaseOf sc Inv 84 224 kI [kI a, kI b]
/-- case 7: land -/
def kC_7 (sc : List Int) (Inv : kH → Prop) : Prop := ∀ (a : Int) (_ : kR32 a), kCaseOf sc Inv 85 225 kI [kI a]
/-- case 8: off -/
def kC_8 (sc : List Int) (Inv : kH → Prop) : Prop := ∀ (a : Int) (_ : kR32 a), kCaseOf sc Inv 86 227 kI [kI a]
/-- case 9: apart -/
def kC_9 (sc : List Int) (Inv : kH → Prop) : Prop := ∀ (a : Int) (_ : kR32 a) (b : Int) (_ : kR32 b), kCaseOf sc Inv 93 230 kI [kI a, kI b]
/-- case 10: slide -/
def kC_10 (sc : List Int) (Inv : kH → Prop) : Prop := ∀ (a : Int) (_ : kR32 a) (b : Int) (_ : kR32 b) (c : Int) (_ : kR32 c), kCaseOf sc Inv 94 234 kI [kI a, kI b, kI c]
/-- case 11: change -/
def kC_11 (sc : List Int) (Inv : kH → Prop) : Prop := ∀ (a : Int) (_ : kR32 a), kCaseOf sc Inv 95 239 kI [kI a]
/-- case 12: twist -/
def kC_12 (sc : List Int) (Inv : kH → Prop) : Prop := ∀ (a : Int) (_ : kR32 a) (b : Int) (_ : b = 0 ∨ b = 1) (c : Int) (_ : c = 0 ∨ c = 1), kCaseOf sc Inv 97 241 kI [kI a, kI b, kI c]
/-- case 13: mirror -/
def kC_13 (sc : List Int) (Inv : kH → Prop) : Prop := kCaseOf sc Inv 101 242 kI []
/-- case 14: backToFront -/
def kC_14 (sc : List Int) (Inv : kH → Prop) : Prop := ∀ (a : Int) (_ : kR32 a), kCaseOf sc Inv 102 243 kI [kI a]
/-- case 15: can -/
def kC_15 (sc : List Int) (Inv : kH → Prop) : Prop := ∀ (a : Int) (_ : kR32 a), kCaseOf sc Inv 104 245 kI [kI a]
/-- case 16: writhe -/
def kC_16 (sc : List Int) (Inv : kH → Prop) : Prop := kCaseOf sc Inv 106 249 kI []
/-- case 17: linked -/
def kC_17 (sc : List Int) (Inv : kH → Prop) : Prop := kCaseOf sc Inv 110 251 kI []
/-- case 18: colours -/
def kC_18 (sc : List Int) (Inv : kH → Prop) : Prop := ∀ (a : Int) (_ : kR32 a), kCaseOf sc Inv 112 252 kJ [kI a]
/-- case 19: determinant -/
def kC_19 (sc : List Int) (Inv : kH → Prop) : Prop := kCaseOf sc Inv 121 257 kJ []
/-- case 20: polynomial -/
def kC_20 (sc : List Int) (Inv : kH → Prop) : Prop := ∀ (a : Int) (_ : kR32 a) (b : Int) (_ : kR32 b), kCaseOf sc Inv 125 258 kI [kI a, kI b]
/-- case 21: shaken -/
def kC_21 (sc : List Int) (Inv : kH → Prop) : Prop := kCaseOf sc Inv 134 265 kI []
/-- case 22: row -/
def kC_22 (sc : List Int) (Inv : kH → Prop) : Prop := ∀ (a : Int) (_ : kR32 a) (b : Int) (_ : kR32 b), kCaseOf sc Inv 145 272 kI [kI a, kI b]
/-- case 23: changes -/
def kC_23 (sc : List Int) (Inv : kH → Prop) : Prop := ∀ (a : Int) (_ : kR32 a), kCaseOf sc Inv 147 273 kI [kI a]
/-- case 24: gossip -/
def kC_24 (sc : List Int) (Inv : kH → Prop) : Prop := ∀ (a : Int) (_ : kR32 a) (b : Int) (_ : kR32 b), kCaseOf sc Inv 150 276 kI [kI a, kI b]
/-- case 25: heard -/
def kC_25 (sc : List Int) (Inv : kH → Prop) : Prop := ∀ (a : Int) (_ : kR32 a) (b : Int) (_ : kR32 b), kCaseOf sc Inv 161 284 kI [kI a, kI b]
/-- case 26: seed -/
def kC_26 (sc : List Int) (Inv : kH → Prop) : Prop := ∀ (a : Int) (_ : kR32 a), kCaseOf sc Inv 163 285 kI [kI a]
/-- case 27: floods -/
def kC_27 (sc : List Int) (Inv : kH → Prop) : Prop := ∀ (a : Int) (_ : kR32 a) (b : Int) (_ : kR32 b) (c : Int) (_ : kR32 c) (d : Int) (_ : kR32 d), kCaseOf sc Inv 164 286 kI [kI a, kI b, kI c, kI d]
/-- case 28: count -/
def kC_28 (sc : List Int) (Inv : kH → Prop) : Prop := ∀ (a : Int) (_ : kR32 a), kCaseOf sc Inv 167 290 kI [kI a]
/-- case 29: image -/
def kC_29 (sc : List Int) (Inv : kH → Prop) : Prop := ∀ (a : Int) (_ : kR32 a), kCaseOf sc Inv 168 291 kI [kI a]
/-- case 30: back -/
def kC_30 (sc : List Int) (Inv : kH → Prop) : Prop := ∀ (a : Int) (_ : kR32 a), kCaseOf sc Inv 170 294 kI [kI a]
def kCases (sc : List Int) (Inv : kH → Prop) : Prop := kC_0 sc Inv ∧ kC_1 sc Inv ∧ kC_2 sc Inv ∧ kC_3 sc Inv ∧ kC_4 sc Inv ∧ kC_5 sc Inv ∧ kC_6 sc Inv ∧ kC_7 sc Inv ∧ kC_8 sc Inv ∧ kC_9 sc Inv ∧ kC_10 sc Inv ∧ kC_11 sc Inv ∧ kC_12 sc Inv ∧ kC_13 sc Inv ∧ kC_14 sc Inv ∧ kC_15 sc Inv ∧ kC_16 sc Inv ∧ kC_17 sc Inv ∧ kC_18 sc Inv ∧ kC_19 sc Inv ∧ kC_20 sc Inv ∧ kC_21 sc Inv ∧ kC_22 sc Inv ∧ kC_23 sc Inv ∧ kC_24 sc Inv ∧ kC_25 sc Inv ∧ kC_26 sc Inv ∧ kC_27 sc Inv ∧ kC_28 sc Inv ∧ kC_29 sc Inv ∧ kC_30 sc Inv
set_option maxRecDepth 4000 in
theorem kLoop {sc : List Int} {Inv : kH → Prop} (hs : ∀ x ∈ sc, kR32 x) (hl : sc.length ≤ 3072) (h0 : ∀ h, Inv h → ∃ fs, h.2.2 0 = some (.inr (.inr (10, fs)))) (hC : kCases sc Inv) : ∀ (n i : Nat) (h : kH), sc.length - i ≤ n → i ≤ 3072 + 6 → Inv h → 
    kW sc 1000 kc_Law_law 2 10 (kLw i) [] h (fun r g => r = some (kI 1) ∧ g.1 ≤ h.1 + 100 * n ∧ g.2.1 ≤ h.2.1 + 2000 * n) := by
  intro n
  induction n with
  | zero =>
    intro i h hn hi hI
    refine kw_step rfl rfl rfl rfl ?_
    refine kw_step rfl rfl rfl rfl ?_
    refine kw_alenS rfl ?_
    refine kw_step rfl rfl rfl rfl ?_
    refine kw_step rfl rfl rfl rfl ?_
    rw [wI_id (by omega) (by omega)]
    refine kw_icmp_gt rfl rfl (fun _ => ?_) (fun q => absurd q (by omega))
    refine kw_step rfl rfl rfl rfl ?_
    exact kw_ret rfl rfl rfl ⟨rfl, by omega, by omega⟩
  | succ n ih =>
    intro i h hn hi hI
    refine kw_step rfl rfl rfl rfl ?_
    refine kw_step rfl rfl rfl rfl ?_
    refine kw_alenS rfl ?_
    refine kw_step rfl rfl rfl rfl ?_
    refine kw_step rfl rfl rfl rfl ?_
    rw [wI_id (by omega) (by omega)]
    refine kw_icmp_gt rfl rfl (fun _ => ?_) (fun q => ?_)
    · refine kw_step rfl rfl rfl rfl ?_
      exact kw_ret rfl rfl rfl ⟨rfl, by omega, by omega⟩
    have hi6 : i + 6 ≤ sc.length := by omega
    have fin : ∀ g, Inv g → g.1 ≤ h.1 + 100 → g.2.1 ≤ h.2.1 + 2000 → kW sc 1000 kc_Law_law 2 677 (kLw i) [] g (fun r g => r = some (kI 1) ∧ g.1 ≤ h.1 + 100 * (n + 1) ∧ g.2.1 ≤ h.2.1 + 2000 * (n + 1)) := by
      intro g hg b1 b2
      refine kw_step rfl rfl rfl rfl ?_
      rw [wI_id (by omega) (by omega)]
      refine kw_goto rfl rfl ?_
      have := ih (i + 6) g (by omega) (by omega) hg
      exact this.post (fun r g' hq => ⟨hq.1, by have := hq.2.1; omega, by have := hq.2.2; omega⟩)
    refine kw_step rfl rfl rfl rfl ?_
    refine kw_step rfl rfl rfl rfl ?_
    refine kw_ialdS rfl (by omega) (by omega) ?_
    refine kw_step rfl rfl rfl rfl ?_
    refine kw_step rfl rfl rfl rfl ?_
    obtain ⟨k, hk, e⟩ := kand31 (sc.getD ((i : Int)).toNat 0)
    rw [e]
    clear e
    match k, hk with
    | 0, _ =>
      refine kw_step rfl rfl rfl rfl ?_
      exact kOp_0 h0 hi6 hl hI (hC.1 _ (kR32_at hs _) _ (kR32_at hs _) _ (kR32_at hs _) _ (kR32_at hs _) _ (kR32_at hs _)) fin
    | 1, _ =>
      refine kw_step rfl rfl rfl rfl ?_
      exact kOp_1 h0 hi6 hl hI (hC.2.1 _ (kR32_at hs _)) fin
    | 2, _ =>
      refine kw_step rfl rfl rfl rfl ?_
      exact kOp_2 h0 hi6 hl hI (hC.2.2.1) fin
    | 3, _ =>
      refine kw_step rfl rfl rfl rfl ?_
      exact kOp_3 h0 hi6 hl hI (hC.2.2.2.1) fin
    | 4, _ =>
      refine kw_step rfl rfl rfl rfl ?_
      exact kOp_4 h0 hi6 hl hI (hC.2.2.2.2.1 _ (kR32_at hs _)) fin
    | 5, _ =>
      refine kw_step rfl rfl rfl rfl ?_
      exact kOp_5 h0 hi6 hl hI (hC.2.2.2.2.2.1 _ (kR32_at hs _) _ (kR32_at hs _)) fin
    | 6, _ =>
      refine kw_step rfl rfl rfl rfl ?_
      exact kOp_6 h0 hi6 hl hI (hC.2.2.2.2.2.2.1 _ (kR32_at hs _) _ (kR32_at hs _)) fin
    | 7, _ =>
      refine kw_step rfl rfl rfl rfl ?_
      exact kOp_7 h0 hi6 hl hI (hC.2.2.2.2.2.2.2.1 _ (kR32_at hs _)) fin
    | 8, _ =>
      refine kw_step rfl rfl rfl rfl ?_
      exact kOp_8 h0 hi6 hl hI (hC.2.2.2.2.2.2.2.2.1 _ (kR32_at hs _)) fin
    | 9, _ =>
      refine kw_step rfl rfl rfl rfl ?_
      exact kOp_9 h0 hi6 hl hI (hC.2.2.2.2.2.2.2.2.2.1 _ (kR32_at hs _) _ (kR32_at hs _)) fin
    | 10, _ =>
      refine kw_step rfl rfl rfl rfl ?_
      exact kOp_10 h0 hi6 hl hI (hC.2.2.2.2.2.2.2.2.2.2.1 _ (kR32_at hs _) _ (kR32_at hs _) _ (kR32_at hs _)) fin
    | 11, _ =>
      refine kw_step rfl rfl rfl rfl ?_
      exact kOp_11 h0 hi6 hl hI (hC.2.2.2.2.2.2.2.2.2.2.2.1 _ (kR32_at hs _)) fin
    | 12, _ =>
      refine kw_step rfl rfl rfl rfl ?_
      exact kOp_12 h0 hi6 hl hI (hC.2.2.2.2.2.2.2.2.2.2.2.2.1 _ (kR32_at hs _) _ (by split <;> simp) _ (by split <;> simp)) fin
    | 13, _ =>
      refine kw_step rfl rfl rfl rfl ?_
      exact kOp_13 h0 hi6 hl hI (hC.2.2.2.2.2.2.2.2.2.2.2.2.2.1) fin
    | 14, _ =>
      refine kw_step rfl rfl rfl rfl ?_
      exact kOp_14 h0 hi6 hl hI (hC.2.2.2.2.2.2.2.2.2.2.2.2.2.2.1 _ (kR32_at hs _)) fin
    | 15, _ =>
      refine kw_step rfl rfl rfl rfl ?_
      exact kOp_15 h0 hi6 hl hI (hC.2.2.2.2.2.2.2.2.2.2.2.2.2.2.2.1 _ (kR32_at hs _)) fin
    | 16, _ =>
      refine kw_step rfl rfl rfl rfl ?_
      exact kOp_16 h0 hi6 hl hI (hC.2.2.2.2.2.2.2.2.2.2.2.2.2.2.2.2.1) fin
    | 17, _ =>
      refine kw_step rfl rfl rfl rfl ?_
      exact kOp_17 h0 hi6 hl hI (hC.2.2.2.2.2.2.2.2.2.2.2.2.2.2.2.2.2.1) fin
    | 18, _ =>
      refine kw_step rfl rfl rfl rfl ?_
      exact kOp_18 h0 hi6 hl hI (hC.2.2.2.2.2.2.2.2.2.2.2.2.2.2.2.2.2.2.1 _ (kR32_at hs _)) fin
    | 19, _ =>
      refine kw_step rfl rfl rfl rfl ?_
      exact kOp_19 h0 hi6 hl hI (hC.2.2.2.2.2.2.2.2.2.2.2.2.2.2.2.2.2.2.2.1) fin
    | 20, _ =>
      refine kw_step rfl rfl rfl rfl ?_
      exact kOp_20 h0 hi6 hl hI (hC.2.2.2.2.2.2.2.2.2.2.2.2.2.2.2.2.2.2.2.2.1 _ (kR32_at hs _) _ (kR32_at hs _)) fin
    | 21, _ =>
      refine kw_step rfl rfl rfl rfl ?_
      exact kOp_21 h0 hi6 hl hI (hC.2.2.2.2.2.2.2.2.2.2.2.2.2.2.2.2.2.2.2.2.2.1) fin
    | 22, _ =>
      refine kw_step rfl rfl rfl rfl ?_
      exact kOp_22 h0 hi6 hl hI (hC.2.2.2.2.2.2.2.2.2.2.2.2.2.2.2.2.2.2.2.2.2.2.1 _ (kR32_at hs _) _ (kR32_at hs _)) fin
    | 23, _ =>
      refine kw_step rfl rfl rfl rfl ?_
      exact kOp_23 h0 hi6 hl hI (hC.2.2.2.2.2.2.2.2.2.2.2.2.2.2.2.2.2.2.2.2.2.2.2.1 _ (kR32_at hs _)) fin
    | 24, _ =>
      refine kw_step rfl rfl rfl rfl ?_
      exact kOp_24 h0 hi6 hl hI (hC.2.2.2.2.2.2.2.2.2.2.2.2.2.2.2.2.2.2.2.2.2.2.2.2.1 _ (kR32_at hs _) _ (kR32_at hs _)) fin
    | 25, _ =>
      refine kw_step rfl rfl rfl rfl ?_
      exact kOp_25 h0 hi6 hl hI (hC.2.2.2.2.2.2.2.2.2.2.2.2.2.2.2.2.2.2.2.2.2.2.2.2.2.1 _ (kR32_at hs _) _ (kR32_at hs _)) fin
    | 26, _ =>
      refine kw_step rfl rfl rfl rfl ?_
      exact kOp_26 h0 hi6 hl hI (hC.2.2.2.2.2.2.2.2.2.2.2.2.2.2.2.2.2.2.2.2.2.2.2.2.2.2.1 _ (kR32_at hs _)) fin
    | 27, _ =>
      refine kw_step rfl rfl rfl rfl ?_
      exact kOp_27 h0 hi6 hl hI (hC.2.2.2.2.2.2.2.2.2.2.2.2.2.2.2.2.2.2.2.2.2.2.2.2.2.2.2.1 _ (kR32_at hs _) _ (kR32_at hs _) _ (kR32_at hs _) _ (kR32_at hs _)) fin
    | 28, _ =>
      refine kw_step rfl rfl rfl rfl ?_
      exact kOp_28 h0 hi6 hl hI (hC.2.2.2.2.2.2.2.2.2.2.2.2.2.2.2.2.2.2.2.2.2.2.2.2.2.2.2.2.1 _ (kR32_at hs _)) fin
    | 29, _ =>
      refine kw_step rfl rfl rfl rfl ?_
      exact kOp_29 h0 hi6 hl hI (hC.2.2.2.2.2.2.2.2.2.2.2.2.2.2.2.2.2.2.2.2.2.2.2.2.2.2.2.2.2.1 _ (kR32_at hs _)) fin
    | 30, _ =>
      refine kw_step rfl rfl rfl rfl ?_
      exact kOp_30 h0 hi6 hl hI (hC.2.2.2.2.2.2.2.2.2.2.2.2.2.2.2.2.2.2.2.2.2.2.2.2.2.2.2.2.2.2 _ (kR32_at hs _)) fin
    | 31, _ =>
      refine kw_step rfl rfl rfl rfl ?_
      exact fin h hI (by omega) (by omega)
    | k + 32, hk => exact absurd hk (by omega)
/-- what is owed, out of the cases -/
theorem kOwed_of (H : ∀ sc : List Int, sc.length ≤ 3072 → (∀ x ∈ sc, kR32 x) → ∃ Inv : kH → Prop, (∀ h, Inv h → ∃ fs, h.2.2 0 = some (.inr (.inr (10, fs)))) ∧ kInit sc Inv ∧ kCases sc Inv) : kOwed := by
  intro sc hl hs
  obtain ⟨Inv, h0, ⟨h1, h2, r1, e1, r2, hI, b1, b2⟩, hC⟩ := H sc hl hs
  have hw : kW sc 1000 kc_Law_law 2 0 [some ksc, none, none, none] [] (0, 0, fun _ => none) (fun r g => r = some (kI 1) ∧ g.1 ≤ 1000 + 100 * 3072 ∧ g.2.1 ≤ 1000000 + 2000 * 3072) := by
    refine kw_step rfl rfl rfl rfl ?_
    refine kw_step rfl rfl rfl rfl ?_
    refine kw_callI (vs := []) rfl rfl rfl ⟨rfl, Nat.le_of_ble_eq_true rfl, Nat.le_of_ble_eq_true rfl, by decide, rfl⟩ rfl r1 (by decide) ?_
    refine kw_step rfl rfl rfl rfl ?_
    refine kw_step rfl rfl rfl rfl ?_
    rw [e1]
    refine kw_step rfl rfl rfl rfl ?_
    refine kw_callI (vs := []) rfl rfl rfl ⟨rfl, Nat.le_of_ble_eq_true rfl, Nat.le_of_ble_eq_true rfl, by decide, rfl⟩ (by show (if 85 = h1.1 then _ else _) = _; rw [if_pos e1.symm]) r2 (by decide) ?_
    refine kw_step rfl rfl rfl rfl ?_
    refine kw_step rfl rfl rfl rfl ?_
    refine kw_step rfl rfl rfl rfl ?_
    have := kLoop hs hl h0 hC 3072 0 h2 (by omega) (by omega) hI
    exact this.post (fun r g hq => ⟨hq.1, by have := hq.2.1; omega, by have := hq.2.2; omega⟩)
  obtain ⟨n, rv, g, hrun, hq⟩ := hw
  exact ⟨g, kR.start rfl ⟨n, rv, g, hrun, hq.1, rfl⟩, by have := hq.2.1; omega, by have := hq.2.2; omega⟩
