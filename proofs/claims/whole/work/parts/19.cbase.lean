/-! the reference's town; what both sides say of places and bridges -/
def pb (A : zA) (k : Nat) : Bool := (mk (ap A) (aN A)).testBit k
theorem pb_iff {A : zA} {k : Nat} : pb A k = true ↔ pr A k := mk_bit _ _ _
/-- the reference's town, as it is told; what follows from it -/
def MR (A : zA) (s : kM) : Prop := s 86 0 = aR A ∧ s 86 1 = aF A ∧ s 86 2 = (aN A : Int) - aF A ∧ (∀ j, j < aN A → s 87 j = ((ap A j / 2 : Nat) : Int) ∧ s 88 j = ((ap A j % 2 : Nat) : Int)) ∧ (∀ k, pr A k → s 89 k = ah A k)
def MS (A : zA) (s : kM) : Prop := ∀ k, k < 11 → s 98 k = po (ap A) (2 * k + 1) (aN A) ∧ s 99 k = po (ap A) (2 * k) (aN A)
def MT (A : zA) (s : kM) : Prop := MR A s ∧ MS A s
theorem po_pair {A : zA} (hA : okA A) {k : Nat} : (pb A k = true ↔ 0 ≤ po (ap A) (2 * k) (aN A)) ∧ (pb A k = true ↔ 0 ≤ po (ap A) (2 * k + 1) (aN A)) := by
  obtain ⟨⟨a1, a2, a3, a4, a5⟩, b1, b2, b3, b4⟩ := hA
  rw [pb_iff]
  have key : pr A k → (∃ j, j < aN A ∧ ap A j = 2 * k) ∧ (∃ j, j < aN A ∧ ap A j = 2 * k + 1) := by
    rintro ⟨j, h1, h2⟩
    obtain ⟨i, h3, h4, h5⟩ := b3 j h1
    have h6 : ap A j = 2 * k ∨ ap A j = 2 * k + 1 := by omega
    rcases h6 with h6 | h6
    · exact ⟨⟨j, h1, h6⟩, i, h3, by omega⟩
    · exact ⟨⟨i, h3, by omega⟩, j, h1, h6⟩
  constructor
  · constructor
    · intro h
      obtain ⟨j, h1, h2⟩ := (key h).1
      rcases po_cases (ap A) (2 * k) (aN A) with ⟨_, q⟩ | ⟨i, _, _, q⟩
      · exact absurd h2 (q j h1)
      · omega
    · intro h
      rcases po_cases (ap A) (2 * k) (aN A) with ⟨q, _⟩ | ⟨i, q1, q2, _⟩
      · omega
      · exact ⟨i, q1, by omega⟩
  · constructor
    · intro h
      obtain ⟨j, h1, h2⟩ := (key h).2
      rcases po_cases (ap A) (2 * k + 1) (aN A) with ⟨_, q⟩ | ⟨i, _, _, q⟩
      · exact absurd h2 (q j h1)
      · omega
    · intro h
      rcases po_cases (ap A) (2 * k + 1) (aN A) with ⟨q, _⟩ | ⟨i, q1, q2, _⟩
      · omega
      · exact ⟨i, q1, by omega⟩
section BASE
variable {A : zA} {s : kM} {b : Nat}
theorem e_has (hA : okA A) (hK : KT b A s) (x : Int) : f_Town_has b x s = some (if 0 ≤ x ∧ x < 11 ∧ pb A x.toNat = true then 1 else 0) := by
  obtain ⟨-, -, k5, -⟩ := hK
  obtain ⟨p1, p2⟩ := po_pair hA (k := x.toNat)
  apply wp_eq
  unfold f_Town_has
  simp only [wp_ite, wp_bind, wp_gI, wp_some]
  refine ⟨fun c => by rw [if_neg (by omega)], fun c => ⟨fun c2 => by rw [if_neg (by omega)], fun c2 => ?_⟩⟩
  rw [wI_id (by omega) (by omega), wI_id (by omega) (by omega), k5 _ (by omega), k5 _ (by omega), show ((2 : Int) * x).toNat = 2 * x.toNat by omega, show ((2 : Int) * x + 1).toNat = 2 * x.toNat + 1 by omega]
  refine ⟨by omega, fun c3 => ?_, fun c3 => ⟨by omega, fun c4 => ?_, fun c4 => ?_⟩⟩
  · rw [if_neg]; rintro ⟨-, -, h⟩; exact absurd (p1.mp h) (by omega)
  · rw [if_neg]; rintro ⟨-, -, h⟩; exact absurd (p2.mp h) (by omega)
  · rw [if_pos ⟨by omega, by omega, p1.mpr (by omega)⟩]
theorem e_hasPlace (hK : KT b A s) (x : Int) : f_Town_hasPlace b x s = some (if 0 ≤ x ∧ x < aN A then 1 else 0) := by
  obtain ⟨⟨-, -, k3, -⟩, -⟩ := hK
  unfold f_Town_hasPlace
  rw [k3]
  grind
theorem e_overAt (hK : KT b A s) {k : Nat} (hk : k < 11) : f_Town_overAt b k s = some (po (ap A) (2 * k + 1) (aN A)) := by
  obtain ⟨-, -, k5, -⟩ := hK
  apply wp_eq
  unfold f_Town_overAt
  simp only [wp_bind, wp_gI, wp_some]
  rw [wI_id (x := 2 * (k : Int)) (by omega) (by omega), wI_id (by omega) (by omega), show ((2 : Int) * k + 1).toNat = 2 * k + 1 by omega, k5 _ (by omega)]
  exact ⟨by omega, rfl⟩
theorem e_underAt (hK : KT b A s) {k : Nat} (hk : k < 11) : f_Town_underAt b k s = some (po (ap A) (2 * k) (aN A)) := by
  obtain ⟨-, -, k5, -⟩ := hK
  apply wp_eq
  unfold f_Town_underAt
  simp only [wp_bind, wp_gI, wp_some]
  rw [wI_id (by omega) (by omega), show ((2 : Int) * k).toNat = 2 * k by omega, k5 _ (by omega)]
  exact ⟨by omega, rfl⟩
theorem e_roadOf (hK : KT b A s) (x : Int) : f_Town_roadOf b x s = some (if aF A ≤ x then 1 else 0) := by
  obtain ⟨⟨-, k2, -⟩, -⟩ := hK
  unfold f_Town_roadOf
  rw [k2]
  grind
theorem e_roadStart (hK : KT b A s) (x : Int) : f_Town_roadStart b x s = some (if x = 0 then 0 else (aF A : Int)) := by
  obtain ⟨⟨-, k2, -⟩, -⟩ := hK
  unfold f_Town_roadStart
  rw [k2]
  grind
theorem e_roadEnd (hK : KT b A s) (x : Int) : f_Town_roadEnd b x s = some (if x = 0 then (aF A : Int) else aN A) := by
  obtain ⟨⟨-, k2, k3, -⟩, -⟩ := hK
  unfold f_Town_roadEnd
  rw [k2, k3]
  grind
theorem okB_n (h : okB A) : aF A ≤ aN A ∧ aN A ≤ 22 := ⟨h.2.1, h.2.2.1⟩
theorem e_M_places (hA : okB A) (hM : MR A s) : f_M_places s = some (aN A : Int) := by
  obtain ⟨-, m1, m2, -⟩ := hM
  have := okB_n hA
  unfold f_M_places
  rw [m1, m2, wI_id (by omega) (by omega)]
  congr 1
  omega
theorem e_M_many (hA : okB A) (hM : MR A s) : f_M_many s = some ((aN A / 2 : Nat) : Int) := by
  have := okB_n hA
  unfold f_M_many
  rw [e_M_places hA hM]
  show some (kdiv (aN A : Int) ((2 : Nat) : Int)) = _
  rw [kdiv_n (by omega) (by omega) (by omega)]
theorem e_M_isTown (hM : MR A s) : f_M_isTown s = some (if 0 < aR A then 1 else 0) := by
  obtain ⟨m0, -⟩ := hM
  unfold f_M_isTown
  rw [m0]
  grind
theorem e_M_in (x y z : Int) : f_M_in x y z s = some (if y ≤ x ∧ x ≤ z then 1 else 0) := by
  unfold f_M_in
  grind
theorem e_M_isPlace (hA : okB A) (hM : MR A s) (x : Int) : f_M_isPlace x s = some (if 0 ≤ x ∧ x < aN A then 1 else 0) := by
  have := okB_n hA
  unfold f_M_isPlace
  rw [e_M_places hA hM]
  simp only [Option.bind_some, e_M_in]
  rw [wI_id (by omega) (by omega)]
  unfold gB
  grind
theorem e_M_isBridge (hA : okA A) (hM : MT A s) (x : Int) : f_M_isBridge x s = some (if 0 ≤ x ∧ x < 11 ∧ pb A x.toNat = true then 1 else 0) := by
  obtain ⟨-, m⟩ := hM
  obtain ⟨p1, p2⟩ := po_pair hA (k := x.toNat)
  apply wp_eq
  unfold f_M_isBridge
  rw [e_M_in]
  simp only [wp_ite, wp_bind, wp_gI, wp_some]
  by_cases c : 0 ≤ x ∧ x ≤ 10
  · rw [if_pos c, (m x.toNat (by omega)).1]
    have := po_lt (ap A) (2 * x.toNat + 1) (aN A)
    refine ⟨fun q => by omega, fun _ => ⟨by omega, fun q => ?_, fun q => ?_⟩⟩
    · rw [if_neg]; rintro ⟨-, -, h⟩; have := p2.mp h; omega
    · rw [if_pos ⟨by omega, by omega, p2.mpr (by omega)⟩]
  · rw [if_neg c]
    exact ⟨fun _ => by rw [if_neg (by omega)], fun q => by omega⟩
theorem e_M_roadOf (hM : MR A s) (x : Int) : f_M_roadOf x s = some (if aF A ≤ x then 1 else 0) := by
  obtain ⟨-, m1, -⟩ := hM
  unfold f_M_roadOf
  rw [m1]
  grind
theorem e_M_beginOf (hM : MR A s) (x : Int) : f_M_beginOf x s = some (if x = 0 then 0 else (aF A : Int)) := by
  obtain ⟨-, m1, -⟩ := hM
  unfold f_M_beginOf
  rw [m1]
  grind
theorem e_M_next (hA : okB A) (hM : MR A s) {j : Nat} (hj : j < aN A) : f_M_next j s = some ((nx (aF A) (aN A) j : Nat) : Int) := by
  have := okB_n hA
  have hM' := hM
  obtain ⟨-, m1, m2, -⟩ := hM'
  apply wp_eq
  unfold f_M_next nx
  rw [e_M_roadOf hM]
  simp only [Option.bind_some, e_M_beginOf hM, wp_bind, wp_gI, wp_ite, wp_some]
  by_cases c : j < aF A
  · rw [if_neg (show ¬ (aF A : Int) ≤ j by omega)]
    have e1 : (wI (1 + 0)).toNat = 1 := by decide
    have e2 : (wI (1 + 0)) = 1 := by decide
    rw [e1, e2, m1, wI_id (by omega) (by omega), wI_id (by simp <;> omega) (by simp <;> omega)]
    grind
  · rw [if_pos (show (aF A : Int) ≤ j by omega)]
    have e1 : (wI (1 + 1)).toNat = 2 := by decide
    have e2 : (wI (1 + 1)) = 2 := by decide
    rw [e1, e2, m2, wI_id (by omega) (by omega), wI_id (by simp <;> omega) (by simp <;> omega)]
    grind
theorem e_M_ahead (hA : okB A) (hM : MR A s) {j : Nat} (hj : j < aN A) : f_M_ahead j s = some ((pv (aF A) (aN A) j : Nat) : Int) := by
  have := okB_n hA
  have hM' := hM
  obtain ⟨-, m1, m2, -⟩ := hM'
  apply wp_eq
  unfold f_M_ahead pv
  rw [e_M_roadOf hM]
  simp only [Option.bind_some, e_M_beginOf hM, wp_bind, wp_gI, wp_ite, wp_some]
  by_cases c : j < aF A
  · rw [if_neg (show ¬ (aF A : Int) ≤ j by omega)]
    have e1 : (wI (1 + 0)).toNat = 1 := by decide
    have e2 : (wI (1 + 0)) = 1 := by decide
    rw [e1, e2, m1, wI_id (x := (j : Int) + aF A) (by omega) (by omega), wI_id (by omega) (by omega), wI_id (by omega) (by omega)]
    grind
  · rw [if_pos (show (aF A : Int) ≤ j by omega)]
    have e1 : (wI (1 + 1)).toNat = 2 := by decide
    have e2 : (wI (1 + 1)) = 2 := by decide
    rw [e1, e2, m2, wI_id (x := (j : Int) + (aN A - aF A)) (by omega) (by omega), wI_id (by omega) (by omega), wI_id (by omega) (by omega)]
    grind
end BASE
