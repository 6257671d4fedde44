/-! THE RULE: what its text says, and what its code answers -/
/-- a sign on two numbers -/
def op2 (x a b : Int) : Int := if x = -21 then klor a b else if x = -20 then klnd a b else if x = -19 then (if a ≤ b then 0 else 1) else if x = -18 then (if a < b then 0 else 1) else if x = -17 then (if a = b then 1 else 0) else if x = -16 then (if b < a then 0 else 1) else if x = -15 then (if b ≤ a then 0 else 1) else if x = -14 then (if b = 0 then 0 else klrem a b) else if x = -13 then (if b = 0 then 0 else kldiv a b) else if x = -12 then wL (a * b) else if x = -11 then wL (a - b) else wL (a + b)
/-- one token on a stack of numbers: below its height -/
def stp (w : Nat → Int) (x : Int) (z : (Nat → Int) × Nat) : (Nat → Int) × Nat := if -10 < x then (kup z.1 z.2 (if x < 0 then w (-1 - x).toNat else x), z.2 + 1) else if x = -22 then (kup z.1 (z.2 - 1) (wL (1 - z.1 (z.2 - 1))), z.2) else (kup z.1 (z.2 - 2) (op2 x (z.1 (z.2 - 2)) (z.1 (z.2 - 1))), z.2 - 1)
def run (w : Nat → Int) : List Int → (Nat → Int) × Nat → (Nat → Int) × Nat
  | [], z => z
  | x :: c, z => run w c (stp w x z)
theorem run_app (w : Nat → Int) : ∀ (c c' : List Int) (z : (Nat → Int) × Nat), run w (c ++ c') z = run w c' (run w c z)
  | [], _, _ => rfl
  | x :: c, c', z => run_app w c c' (stp w x z)
/-- never too few on the stack -/
def dOK : Nat → List Int → Prop
  | _, [] => True
  | d, x :: c => if -10 < x then dOK (d + 1) c else if x = -22 then 1 ≤ d ∧ dOK d c else 2 ≤ d ∧ dOK (d - 1) c
def dpt : Nat → List Int → Nat
  | d, [] => d
  | d, x :: c => if -10 < x then dpt (d + 1) c else if x = -22 then dpt d c else dpt (d - 1) c
theorem dpt_c (d : Nat) (x : Int) (c : List Int) : dpt d (x :: c) = if -10 < x then dpt (d + 1) c else if x = -22 then dpt d c else dpt (d - 1) c := rfl
def pus : List Int → Nat
  | [] => 0
  | x :: c => (if -10 < x then 1 else 0) + pus c
theorem pus_app : ∀ c c' : List Int, pus (c ++ c') = pus c + pus c'
  | [], c' => by show pus c' = 0 + pus c'; omega
  | x :: c, c' => by
    show _ + pus (c ++ c') = _ + pus c + pus c'
    rw [pus_app c c']
    omega
theorem dOK_app : ∀ (c c' : List Int) (d : Nat), dOK d c → dOK (dpt d c) c' → dOK d (c ++ c')
  | [], _, _, _, h => h
  | x :: c, c', d, h1, h2 => by
    unfold dOK at h1
    unfold dpt at h2
    show dOK d (x :: (c ++ c'))
    unfold dOK
    by_cases h : -10 < x
    · rw [if_pos h] at h1 h2 ⊢
      exact dOK_app c c' _ h1 h2
    · rw [if_neg h] at h1 h2 ⊢
      by_cases h3 : x = -22
      · rw [if_pos h3] at h1 h2 ⊢
        exact ⟨h1.1, dOK_app c c' _ h1.2 h2⟩
      · rw [if_neg h3] at h1 h2 ⊢
        exact ⟨h1.1, dOK_app c c' _ h1.2 h2⟩
theorem dpt_app : ∀ (c c' : List Int) (d : Nat), dpt d (c ++ c') = dpt (dpt d c) c'
  | [], _, _ => rfl
  | x :: c, c', d => by
    show dpt d (x :: (c ++ c')) = dpt (dpt d (x :: c)) c'
    rw [dpt_c, dpt_c]
    by_cases h : -10 < x
    · rw [if_pos h, if_pos h]
      exact dpt_app c c' _
    · rw [if_neg h, if_neg h]
      by_cases h3 : x = -22
      · rw [if_pos h3, if_pos h3]
        exact dpt_app c c' _
      · rw [if_neg h3, if_neg h3]
        exact dpt_app c c' _
theorem run_d (w : Nat → Int) : ∀ (c : List Int) (z : (Nat → Int) × Nat), (run w c z).2 = dpt z.2 c
  | [], _ => rfl
  | x :: c, z => by
    show (run w c (stp w x z)).2 = dpt z.2 (x :: c)
    rw [run_d w c, dpt_c]
    unfold stp
    by_cases h : -10 < x
    · rw [if_pos h, if_pos h]
    · rw [if_neg h, if_neg h]
      by_cases h3 : x = -22
      · rw [if_pos h3, if_pos h3]
      · rw [if_neg h3, if_neg h3]
/-- tokens that are there -/
def tkn (x : Int) : Prop := -22 ≤ x ∧ x ≠ -9 ∧ x ≤ 99999
/-- code that leaves one number more, and what that is -/
def WFv (c : List Int) (val : (Nat → Int) → Int) : Prop := (∀ x, x ∈ c → tkn x) ∧ (∀ d, dOK d c ∧ dpt d c = d + 1) ∧ (∀ w f d, (run w c (f, d)).1 d = val w ∧ ∀ i, i < d → (run w c (f, d)).1 i = f i) ∧ (∀ x y : Nat → Int, (∀ i, i < 8 → (i = 6 → (-7 : Int) ∈ c) → x i = y i) → val x = val y)
def WF (b : Bool) (c : List Int) : Prop := ∃ val, WFv c val ∧ (b = true → ∀ w, val w = 0 ∨ val w = 1)
theorem WF_1 {x : Int} (h1 : -9 < x) (h2 : x ≤ 99999) : WF false [x] := by
  refine ⟨fun w => if x < 0 then w (-1 - x).toNat else x, ⟨fun y hy => ?_, fun d => ?_, fun w f d => ?_, fun y z h => ?_⟩, fun h => by cases h⟩
  · rw [List.mem_singleton] at hy
    unfold tkn
    omega
  · unfold dOK dpt
    rw [if_pos (by omega), if_pos (by omega)]
    exact ⟨trivial, rfl⟩
  · show (stp w x (f, d)).1 d = _ ∧ ∀ i, i < d → (stp w x (f, d)).1 i = f i
    unfold stp kup
    rw [if_pos (by omega)]
    dsimp only
    refine ⟨if_pos rfl, fun i hi => if_neg (by omega)⟩
  · dsimp only
    by_cases hx : x < 0
    · rw [if_pos hx, if_pos hx]
      refine h _ (by omega) (fun h6 => ?_)
      rw [List.mem_singleton]
      omega
    · rw [if_neg hx, if_neg hx]
theorem WF_not {c : List Int} (h : WF true c) : WF true (c ++ [-22]) := by
  obtain ⟨val, ⟨k1, k2, k3, k4⟩, k5⟩ := h
  refine ⟨fun w => wL (1 - val w), ⟨fun y hy => ?_, fun d => ?_, fun w f d => ?_, fun y z h => ?_⟩, fun _ w => ?_⟩
  · rw [List.mem_append, List.mem_singleton] at hy
    rcases hy with hy | hy
    · exact k1 y hy
    · unfold tkn
      omega
  · rw [dpt_app, (k2 d).2]
    refine ⟨dOK_app _ _ _ (k2 d).1 ?_, rfl⟩
    rw [(k2 d).2]
    exact ⟨by omega, trivial⟩
  · rw [run_app]
    have e := run_d w c (f, d)
    rw [(k2 d).2] at e
    obtain ⟨g1, g2⟩ := k3 w f d
    generalize run w c (f, d) = z at e g1 g2
    show (stp w (-22) z).1 d = _ ∧ ∀ i, i < d → (stp w (-22) z).1 i = f i
    unfold stp
    rw [if_neg (by decide), if_pos rfl, e, Nat.add_sub_cancel]
    dsimp only
    unfold kup
    refine ⟨by rw [if_pos rfl, g1], fun i hi => by rw [if_neg (by omega)]; exact g2 i hi⟩
  · dsimp only
    rw [k4 y z (fun i hi h6 => h i hi (fun q => List.mem_append_left _ (h6 q)))]
  · dsimp only
    rcases k5 rfl w with q | q
    · rw [q]; exact Or.inr (by decide)
    · rw [q]; exact Or.inl (by decide)
theorem op2_b {x a b : Int} (hx : -21 ≤ x) (hx2 : x ≤ -15) (h : x = -21 ∨ x = -20 → (a = 0 ∨ a = 1) ∧ (b = 0 ∨ b = 1)) : op2 x a b = 0 ∨ op2 x a b = 1 := by
  unfold op2
  by_cases h1 : x = -21
  · rw [if_pos h1]
    obtain ⟨ha, hb⟩ := h (Or.inl h1)
    rcases ha with ha | ha <;> rcases hb with hb | hb <;> rw [ha, hb]
    · exact Or.inl (by decide)
    · exact Or.inr (by decide)
    · exact Or.inr (by decide)
    · exact Or.inr (by decide)
  · rw [if_neg h1]
    by_cases h2 : x = -20
    · rw [if_pos h2]
      obtain ⟨ha, hb⟩ := h (Or.inr h2)
      rcases ha with ha | ha <;> rcases hb with hb | hb <;> rw [ha, hb]
      · exact Or.inl (by decide)
      · exact Or.inl (by decide)
      · exact Or.inl (by decide)
      · exact Or.inr (by decide)
    · rw [if_neg h2]
      have h3 : x = -19 ∨ x = -18 ∨ x = -17 ∨ x = -16 ∨ x = -15 := by omega
      clear h
      rcases h3 with h3 | h3 | h3 | h3 | h3
      · rw [if_pos h3]
        split
        · exact Or.inl rfl
        · exact Or.inr rfl
      · rw [if_neg (by omega), if_pos h3]
        split
        · exact Or.inl rfl
        · exact Or.inr rfl
      · rw [if_neg (by omega), if_neg (by omega), if_pos h3]
        split
        · exact Or.inr rfl
        · exact Or.inl rfl
      · rw [if_neg (by omega), if_neg (by omega), if_neg (by omega), if_pos h3]
        split
        · exact Or.inl rfl
        · exact Or.inr rfl
      · rw [if_neg (by omega), if_neg (by omega), if_neg (by omega), if_neg (by omega), if_pos h3]
        split
        · exact Or.inl rfl
        · exact Or.inr rfl
theorem WF_2 {b b' : Bool} {c c' : List Int} {x : Int} (h : WF b c) (h' : WF b c') (hx : -21 ≤ x) (hx2 : x ≤ -10) (hb : b' = true → x ≤ -15 ∧ (x = -21 ∨ x = -20 → b = true)) : WF b' (c ++ c' ++ [x]) := by
  obtain ⟨val, ⟨k1, k2, k3, k4⟩, k5⟩ := h
  obtain ⟨val', ⟨m1, m2, m3, m4⟩, m5⟩ := h'
  refine ⟨fun w => op2 x (val w) (val' w), ⟨fun y hy => ?_, fun d => ?_, fun w f d => ?_, fun y z h => ?_⟩, fun hbb w => ?_⟩
  · rw [List.mem_append, List.mem_append, List.mem_singleton] at hy
    rcases hy with (hy | hy) | hy
    · exact k1 y hy
    · exact m1 y hy
    · unfold tkn
      omega
  · rw [dpt_app, dpt_app, (k2 d).2, (m2 (d + 1)).2]
    refine ⟨dOK_app _ _ _ (dOK_app _ _ _ (k2 d).1 (by rw [(k2 d).2]; exact (m2 (d + 1)).1)) ?_, ?_⟩
    · rw [dpt_app, (k2 d).2, (m2 (d + 1)).2]
      unfold dOK
      rw [if_neg (by omega), if_neg (by omega)]
      exact ⟨by omega, trivial⟩
    · unfold dpt
      rw [if_neg (by omega), if_neg (by omega)]
      rfl
  · rw [run_app, run_app]
    have e := run_d w c (f, d)
    rw [(k2 d).2] at e
    obtain ⟨g1, g2⟩ := k3 w f d
    obtain ⟨f1, hf1⟩ : ∃ f1, run w c (f, d) = (f1, d + 1) := ⟨(run w c (f, d)).1, by rw [← e]⟩
    rw [hf1] at g1 g2 ⊢
    dsimp only at g1 g2
    have e2 := run_d w c' (f1, d + 1)
    rw [(m2 (d + 1)).2] at e2
    obtain ⟨n1, n2⟩ := m3 w f1 (d + 1)
    generalize run w c' (f1, d + 1) = z at e2 n1 n2
    show (stp w x z).1 d = _ ∧ ∀ i, i < d → (stp w x z).1 i = f i
    unfold stp
    rw [if_neg (by omega), if_neg (by omega), e2]
    dsimp only
    rw [show d + 1 + 1 - 2 = d by omega, show d + 1 + 1 - 1 = d + 1 by omega, n1, n2 d (by omega), g1]
    unfold kup
    refine ⟨if_pos rfl, fun i hi => by rw [if_neg (by omega), n2 i (by omega)]; exact g2 i hi⟩
  · dsimp only
    rw [k4 y z (fun i hi h6 => h i hi (fun q => List.mem_append_left _ (List.mem_append_left _ (h6 q)))), m4 y z (fun i hi h6 => h i hi (fun q => List.mem_append_left _ (List.mem_append_right _ (h6 q))))]
  · obtain ⟨q1, q2⟩ := hb hbb
    exact op2_b hx q1 (fun h => ⟨k5 (q2 h) w, m5 (q2 h) w⟩)
