/-! PRINTED by wip/whole/gen12.py (tables) and by hand: the world behind the two constructors: arrays of numbers (kind, length), objects (a form that takes their numbers). Cells from 125 on are RULES and their code. -/
def ktab (a : Nat) : Option (Nat × Nat) := match a with
  | 2 => some (1, 400)
  | 5 => some (0, 22)
  | 6 => some (0, 11)
  | 7 => some (0, 22)
  | 8 => some (0, 22)
  | 9 => some (0, 22)
  | 12 => some (0, 22)
  | 13 => some (0, 11)
  | 14 => some (0, 22)
  | 15 => some (0, 22)
  | 16 => some (0, 22)
  | 18 => some (0, 48)
  | 19 => some (0, 48)
  | 20 => some (0, 44)
  | 22 => some (3, 300)
  | 23 => some (3, 300)
  | 24 => some (2, 300)
  | 25 => some (2, 300)
  | 26 => some (2, 300)
  | 27 => some (2, 1024)
  | 29 => some (0, 22)
  | 30 => some (0, 11)
  | 31 => some (0, 22)
  | 32 => some (0, 22)
  | 33 => some (0, 22)
  | 35 => some (0, 22)
  | 36 => some (0, 11)
  | 37 => some (0, 22)
  | 38 => some (0, 22)
  | 39 => some (0, 22)
  | 41 => some (0, 48)
  | 42 => some (0, 48)
  | 43 => some (0, 44)
  | 45 => some (0, 199)
  | 46 => some (0, 192)
  | 47 => some (0, 44)
  | 49 => some (0, 22)
  | 50 => some (3, 143)
  | 52 => some (3, 8)
  | 53 => some (3, 64)
  | 55 => some (0, 400)
  | 59 => some (0, 22)
  | 60 => some (0, 11)
  | 61 => some (0, 22)
  | 62 => some (0, 22)
  | 63 => some (0, 22)
  | 66 => some (0, 22)
  | 67 => some (0, 11)
  | 68 => some (0, 22)
  | 69 => some (0, 22)
  | 70 => some (0, 22)
  | 73 => some (0, 22)
  | 74 => some (0, 11)
  | 75 => some (0, 22)
  | 76 => some (0, 22)
  | 77 => some (0, 22)
  | 80 => some (0, 22)
  | 81 => some (0, 11)
  | 82 => some (0, 22)
  | 83 => some (0, 22)
  | 84 => some (0, 22)
  | 86 => some (0, 6)
  | 87 => some (0, 22)
  | 88 => some (0, 22)
  | 89 => some (0, 11)
  | 90 => some (0, 3)
  | 91 => some (0, 22)
  | 92 => some (0, 22)
  | 93 => some (0, 11)
  | 94 => some (0, 6)
  | 95 => some (0, 22)
  | 96 => some (0, 22)
  | 97 => some (0, 11)
  | 98 => some (0, 11)
  | 99 => some (0, 11)
  | 100 => some (0, 44)
  | 101 => some (0, 44)
  | 102 => some (0, 44)
  | 103 => some (0, 44)
  | 104 => some (0, 11)
  | 105 => some (1, 400)
  | 106 => some (0, 1800)
  | 107 => some (0, 1800)
  | 108 => some (0, 6)
  | 109 => some (0, 72)
  | 110 => some (0, 72)
  | 111 => some (0, 402)
  | 112 => some (3, 8)
  | 113 => some (3, 300)
  | 114 => some (0, 22)
  | 115 => some (0, 23)
  | 116 => some (0, 3)
  | 117 => some (3, 143)
  | 118 => some (0, 199)
  | 119 => some (0, 22)
  | 120 => some (0, 7224)
  | 121 => some (0, 301)
  | 122 => some (0, 301)
  | 123 => some (0, 280)
  | 124 => some (4, 4)
  | _ => none
def kTo (b : Nat) (s : Nat → Int) : kE := .inr (.inr (9, [kI (s 0), kI (s 1), kI (s 2), kI (s 3), kr (b + 1), kr (b + 2), kr (b + 3), kr (b + 4), kr (b + 5)]))
def kLo (b : Nat) (s : Nat → Int) : kE := .inr (.inr (3, [kI (s 0), kI (s 1), kI (s 2), kI (s 3), kr (b + 1), kr (b + 2), kI (s 6), kr (b + 3)]))
def kSo (b : Nat) (s : Nat → Int) : kE := .inr (.inr (7, [kr (b + 1), kI (s 1), kI (s 2), kI (s 3), kI (s 4)]))
def kKo (s : Nat → Int) : kE := .inr (.inr (10, [kr 1, kr 3, kr 10, kr 11, kr 17, kr 21, kr 44, kr 48, kr 51, kr 54, kr 56, kI (s 11)]))
def kPo (s : Nat → Int) : kE := .inr (.inr (8, [kr 2, kI (s 1), kI (s 2), kI (s 3)]))
def kHo (s : Nat → Int) : kE := .inr (.inr (6, [kr 22, kr 23, kr 24, kr 25, kr 26, kr 27, kr 28, kr 34, kr 40, kI (s 9), kJ (s 10), kJ (s 11), kI (s 12), kI (s 13), kI (s 14), kI (s 15), kI (s 16), kI (s 17), kI (s 18)]))
def kBo (s : Nat → Int) : kE := .inr (.inr (1, [kI (s 0), kr 45, kr 46, kr 47]))
def kWo (s : Nat → Int) : kE := .inr (.inr (0, [kI (s 0), kr 49, kr 50, kI (s 3)]))
def kGo (s : Nat → Int) : kE := .inr (.inr (2, [kr 52, kr 53, kI (s 2)]))
def kXo (s : Nat → Int) : kE := .inr (.inr (5, [kr 55, kI (s 1), kI (s 2), kI (s 3)]))
def kotab (a : Nat) : Option ((Nat → Int) → kE) := match a with
  | 0 => some kKo
  | 1 => some kPo
  | 3 => some (kSo 3)
  | 4 => some (kTo 4)
  | 11 => some (kTo 11)
  | 17 => some (kLo 17)
  | 21 => some kHo
  | 28 => some (kTo 28)
  | 34 => some (kTo 34)
  | 40 => some (kLo 40)
  | 44 => some kBo
  | 48 => some kWo
  | 51 => some kGo
  | 54 => some kXo
  | 57 => some (kSo 57)
  | 58 => some (kTo 58)
  | 64 => some (kSo 64)
  | 65 => some (kTo 65)
  | 71 => some (kSo 71)
  | 72 => some (kTo 72)
  | 78 => some (kSo 78)
  | 79 => some (kTo 79)
  | 85 => some kMo
  | _ => none
def ar (h : kH) (a : Nat) : Nat → Int := match h.2.2 a with
  | some (.inl (_, _, f)) => f
  | _ => fun _ => 0
def ob (h : kH) (a k : Nat) : Int := match h.2.2 a with
  | some (.inr (.inr (_, fs))) => match fs.getD k (kI 0) with
    | .inl x => x
    | .inr (.inl x) => x
    | _ => 0
  | _ => 0
/-- the world is of its form -/
def kWF (h : kH) : Prop := (∀ a k n, ktab a = some (k, n) → h.2.2 a = some (.inl (k, n, ar h a))) ∧ (∀ a g, kotab a = some g → h.2.2 a = some (g (ob h a))) ∧ h.2.2 10 = some (.inr (.inl (7, 4, fun j => if j = 0 then some 57 else if j = 1 then some 64 else if j = 2 then some 71 else if j = 3 then some 78 else none)))
theorem ar_s (h : kH) (a k n : Nat) (f : Nat → Int) : ar (kput h a (.inl (k, n, f))) a = f := by simp [ar, kput]
theorem ar_n (h : kH) {a b : Nat} (e : kE) (hn : b ≠ a) : ar (kput h a e) b = ar h b := by simp [ar, kput, hn]
theorem ob_n (h : kH) {a b : Nat} (e : kE) (hn : b ≠ a) : ob (kput h a e) b = ob h b := by
  funext k
  simp [ob, kput, hn]
theorem kput2 (h : kH) (a : Nat) (e e' : kE) : kput (kput h a e) a e' = kput h a e' := by
  unfold kput
  congr 2
  funext j
  dsimp only
  by_cases hj : j = a
  · rw [if_pos hj, if_pos hj]
  · rw [if_neg hj, if_neg hj, if_neg hj]
theorem kputC (h : kH) {a b : Nat} (hn : a ≠ b) (e e' : kE) : kput (kput h a e) b e' = kput (kput h b e') a e := by
  unfold kput
  congr 2
  funext j
  dsimp only
  by_cases hj : j = a
  · subst hj
    rw [if_neg hn, if_pos rfl, if_pos rfl]
  · rw [if_neg hj]
    by_cases hk : j = b
    · rw [if_pos hk, if_neg hj]
    · rw [if_neg hk, if_neg hj]
theorem kput_id (h : kH) {a : Nat} {e : kE} (he : h.2.2 a = some e) : kput h a e = h := by
  unfold kput
  obtain ⟨n, z, f⟩ := h
  congr 2
  funext j
  dsimp only
  by_cases hj : j = a
  · rw [if_pos hj, hj]; exact he.symm
  · rw [if_neg hj]
theorem ktab_kotab {a : Nat} {q : Nat × Nat} {g : (Nat → Int) → kE} (h1 : ktab a = some q) (h2 : kotab a = some g) : False := by
  unfold ktab at h1
  split at h1 <;> first | cases h2 | cases h1
theorem kWF.A {h : kH} (hw : kWF h) {a k n : Nat} (ht : ktab a = some (k, n)) : h.2.2 a = some (.inl (k, n, ar h a)) := hw.1 a k n ht
theorem kWF.O {h : kH} (hw : kWF h) {a : Nat} {g : (Nat → Int) → kE} (ht : kotab a = some g) : h.2.2 a = some (g (ob h a)) := hw.2.1 a g ht
theorem kWF.pA {h : kH} (hw : kWF h) {a k n : Nat} (ht : ktab a = some (k, n)) (f : Nat → Int) : kWF (kput h a (.inl (k, n, f))) := by
  refine ⟨fun b k' n' hb => ?_, fun b g hb => ?_, ?_⟩
  · by_cases hba : b = a
    · subst hba
      cases ht.symm.trans hb
      rw [kput_s, ar_s]
    · rw [kput_n _ _ hba, ar_n _ _ hba]
      exact hw.1 b k' n' hb
  · have hba : b ≠ a := fun q => by subst q; exact ktab_kotab ht hb
    rw [kput_n _ _ hba, ob_n _ _ hba]
    exact hw.2.1 b g hb
  · have hba : (10 : Nat) ≠ a := fun q => by subst q; cases ht
    rw [kput_n _ _ hba]
    exact hw.2.2
/-- an object's numbers come back out of its form -/
def kForm (g : (Nat → Int) → kE) : Prop := ∀ (h : kH) (a : Nat) (s : Nat → Int), g (ob (kput h a (g s)) a) = g s
theorem kWF.pO {h : kH} (hw : kWF h) {a : Nat} {g : (Nat → Int) → kE} (ht : kotab a = some g) (hg : kForm g) (s : Nat → Int) : kWF (kput h a (g s)) := by
  refine ⟨fun b k' n' hb => ?_, fun b g' hb => ?_, ?_⟩
  · have hba : b ≠ a := fun q => by subst q; exact ktab_kotab hb ht
    rw [kput_n _ _ hba, ar_n _ _ hba]
    exact hw.1 b k' n' hb
  · by_cases hba : b = a
    · subst hba
      cases ht.symm.trans hb
      rw [kput_s, hg h b s]
    · rw [kput_n _ _ hba, ob_n _ _ hba]
      exact hw.2.1 b g' hb
  · have hba : (10 : Nat) ≠ a := fun q => by subst q; cases ht
    rw [kput_n _ _ hba]
    exact hw.2.2
theorem kMo_form : kForm kMo := by
  intro h a s
  unfold kMo
  simp only [ob, kput_s]
  rfl
theorem kKo_form : kForm kKo := by
  intro h a s
  unfold kKo
  simp only [ob, kput_s]
  rfl
theorem kPo_form : kForm kPo := by
  intro h a s
  unfold kPo
  simp only [ob, kput_s]
  rfl
theorem kHo_form : kForm kHo := by
  intro h a s
  unfold kHo
  simp only [ob, kput_s]
  rfl
theorem kBo_form : kForm kBo := by
  intro h a s
  unfold kBo
  simp only [ob, kput_s]
  rfl
theorem kWo_form : kForm kWo := by
  intro h a s
  unfold kWo
  simp only [ob, kput_s]
  rfl
theorem kGo_form : kForm kGo := by
  intro h a s
  unfold kGo
  simp only [ob, kput_s]
  rfl
theorem kXo_form : kForm kXo := by
  intro h a s
  unfold kXo
  simp only [ob, kput_s]
  rfl
theorem kTo_form (b : Nat) : kForm (kTo b) := by
  intro h a s
  unfold kTo
  simp only [ob, kput_s]
  rfl
theorem kLo_form (b : Nat) : kForm (kLo b) := by
  intro h a s
  unfold kLo
  simp only [ob, kput_s]
  rfl
theorem kSo_form (b : Nat) : kForm (kSo b) := by
  intro h a s
  unfold kSo
  simp only [ob, kput_s]
  rfl
