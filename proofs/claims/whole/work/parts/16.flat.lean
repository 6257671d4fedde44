/-! THE FLAT WORLD: the numbers of every cell by address and place; the heap that they make; the small machine's rules over such heaps -/
abbrev kM : Type := Nat → Nat → Int
def gA (s : kM) (a : Nat) (f : Nat → Int) : kM := fun b => if b = a then f else s b
def gU (s : kM) (a i : Nat) (x : Int) : kM := gA s a (kup (s a) i x)
theorem gA_s (s : kM) (a : Nat) (f : Nat → Int) : gA s a f a = f := by simp [gA]
theorem gA_n (s : kM) {a b : Nat} (f : Nat → Int) (h : b ≠ a) : gA s a f b = s b := by simp [gA, h]
theorem gU_s (s : kM) (a i : Nat) (x : Int) : gU s a i x a = kup (s a) i x := gA_s _ _ _
theorem gU_n (s : kM) {a b : Nat} (i : Nat) (x : Int) (h : b ≠ a) : gU s a i x b = s b := gA_n _ _ h
/-- a cell: 900 0 counts the RULES, 900 1 the places of the heap -/
def hC (s : kM) (a : Nat) : Option kE := match ktab a with
  | some (k, n) => some (.inl (k, n, s a))
  | none => match kotab a with
    | some g => some (g (s a))
    | none => if a = 10 then some (.inr (.inl (7, 4, fun j => if j < 4 then some (57 + 7 * j) else none)))
      else if a = 56 then some (.inr (.inl (4, 6, fun j => if 0 ≤ s 56 j then some (125 + 2 * (s 56 j).toNat) else none)))
      else if a < 125 then none
      else if a < 125 + 2 * (s 900 0).toNat then (if a % 2 = 1 then some (.inr (.inr (4, [kr (a + 1), kI (s a 1)]))) else some (.inl (0, (s (a - 1) 0).toNat, s a)))
      else none
def hH (s : kM) : kH := (125 + 2 * (s 900 0).toNat, (s 900 1).toNat, hC s)
theorem ktab_lt {a : Nat} {q : Nat × Nat} (h : ktab a = some q) : a < 125 := by
  unfold ktab at h
  split at h <;> first | cases h; done | decide
theorem kotab_lt {a : Nat} {g : (Nat → Int) → kE} (h : kotab a = some g) : a < 125 := by
  unfold kotab at h
  split at h <;> first | cases h; done | decide
theorem hH_A {s : kM} {a k n : Nat} (ht : ktab a = some (k, n)) : (hH s).2.2 a = some (.inl (k, n, s a)) := by
  show hC s a = _
  unfold hC
  rw [ht]
theorem hH_O {s : kM} {a : Nat} {g : (Nat → Int) → kE} (ht : kotab a = some g) : (hH s).2.2 a = some (g (s a)) := by
  show hC s a = _
  unfold hC
  cases hk : ktab a with
  | some q => exact absurd ht (fun h => ktab_kotab hk h)
  | none =>
    dsimp only
    rw [ht]
theorem hC_n {s : kM} {a c : Nat} (f : Nat → Int) (ha : a < 125) (h56 : a ≠ 56) (hc : c ≠ a) : hC (gA s a f) c = hC s c := by
  have e1 : gA s a f c = s c := gA_n _ _ hc
  have e2 : gA s a f 56 = s 56 := gA_n _ _ (Ne.symm h56)
  have e3 : gA s a f 900 = s 900 := gA_n _ _ (by omega)
  unfold hC
  rw [e1, e2, e3]
  by_cases h5 : c < 126
  · split
    · rfl
    · split
      · rfl
      · split
        · rfl
        · split
          · rfl
          · split
            · rfl
            · split
              · have h6 : c % 2 = 1 := by omega
                rw [if_pos h6, if_pos h6]
              · rfl
  · rw [show gA s a f (c - 1) = s (c - 1) from gA_n _ _ (by omega)]
theorem hH_pA {s : kM} {a k n : Nat} (ht : ktab a = some (k, n)) (f : Nat → Int) : kput (hH s) a (.inl (k, n, f)) = hH (gA s a f) := by
  have hl := ktab_lt ht
  have h56 : a ≠ 56 := fun q => by subst q; cases ht
  unfold kput hH
  rw [show gA s a f 900 = s 900 from gA_n _ _ (by omega)]
  congr 2
  funext c
  dsimp only
  by_cases hc : c = a
  · subst hc
    rw [if_pos rfl]
    unfold hC
    rw [ht]
    dsimp only
    rw [gA_s]
  · rw [if_neg hc, hC_n f hl h56 hc]
theorem hH_pO {s : kM} {a : Nat} {g : (Nat → Int) → kE} (ht : kotab a = some g) (f : Nat → Int) : kput (hH s) a (g f) = hH (gA s a f) := by
  have hl := kotab_lt ht
  have h56 : a ≠ 56 := fun q => by subst q; cases ht
  unfold kput hH
  rw [show gA s a f 900 = s 900 from gA_n _ _ (by omega)]
  congr 2
  funext c
  dsimp only
  by_cases hc : c = a
  · subst hc
    rw [if_pos rfl]
    have := hH_O (s := gA s c f) ht
    rw [gA_s] at this
    exact this.symm
  · rw [if_neg hc, hC_n f hl h56 hc]
/-! objects that there are several of: TOWNS, STANDS, LANDS -/
def tT (b : Nat) : Bool := b == 4 || b == 11 || b == 28 || b == 34 || b == 58 || b == 65 || b == 72 || b == 79
def tS (b : Nat) : Bool := b == 3 || b == 57 || b == 64 || b == 71 || b == 78
def tL (b : Nat) : Bool := b == 17 || b == 40
theorem tT_cases {b : Nat} (h : tT b = true) : b = 4 ∨ b = 11 ∨ b = 28 ∨ b = 34 ∨ b = 58 ∨ b = 65 ∨ b = 72 ∨ b = 79 := by simpa [tT, or_assoc] using h
theorem tS_cases {b : Nat} (h : tS b = true) : b = 3 ∨ b = 57 ∨ b = 64 ∨ b = 71 ∨ b = 78 := by simpa [tS, or_assoc] using h
theorem tL_cases {b : Nat} (h : tL b = true) : b = 17 ∨ b = 40 := by simpa [tL, or_assoc] using h
theorem tT_0 {b : Nat} (h : tT b = true) : kotab b = some (kTo b) := by rcases tT_cases h with rfl | rfl | rfl | rfl | rfl | rfl | rfl | rfl <;> rfl
theorem tT_1 {b : Nat} (h : tT b = true) : ktab (b + 1) = some (0, 22) := by rcases tT_cases h with rfl | rfl | rfl | rfl | rfl | rfl | rfl | rfl <;> rfl
theorem tT_2 {b : Nat} (h : tT b = true) : ktab (b + 2) = some (0, 11) := by rcases tT_cases h with rfl | rfl | rfl | rfl | rfl | rfl | rfl | rfl <;> rfl
theorem tT_3 {b : Nat} (h : tT b = true) : ktab (b + 3) = some (0, 22) := by rcases tT_cases h with rfl | rfl | rfl | rfl | rfl | rfl | rfl | rfl <;> rfl
theorem tT_4 {b : Nat} (h : tT b = true) : ktab (b + 4) = some (0, 22) := by rcases tT_cases h with rfl | rfl | rfl | rfl | rfl | rfl | rfl | rfl <;> rfl
theorem tT_5 {b : Nat} (h : tT b = true) : ktab (b + 5) = some (0, 22) := by rcases tT_cases h with rfl | rfl | rfl | rfl | rfl | rfl | rfl | rfl <;> rfl
theorem tS_0 {b : Nat} (h : tS b = true) : kotab b = some (kSo b) := by rcases tS_cases h with rfl | rfl | rfl | rfl | rfl <;> rfl
theorem tS_1 {b : Nat} (h : tS b = true) : tT (b + 1) = true := by rcases tS_cases h with rfl | rfl | rfl | rfl | rfl <;> rfl
theorem tL_0 {b : Nat} (h : tL b = true) : kotab b = some (kLo b) := by rcases tL_cases h with rfl | rfl <;> rfl
theorem tL_1 {b : Nat} (h : tL b = true) : ktab (b + 1) = some (0, 48) := by rcases tL_cases h with rfl | rfl <;> rfl
theorem tL_2 {b : Nat} (h : tL b = true) : ktab (b + 2) = some (0, 48) := by rcases tL_cases h with rfl | rfl <;> rfl
theorem tL_3 {b : Nat} (h : tL b = true) : ktab (b + 3) = some (0, 44) := by rcases tL_cases h with rfl | rfl <;> rfl
theorem tS_i {j : Nat} (h : j < 4) : tS (57 + 7 * j) = true := by
  have : j = 0 ∨ j = 1 ∨ j = 2 ∨ j = 3 := by omega
  rcases this with rfl | rfl | rfl | rfl <;> rfl
/-! what may fail, loops -/
def gI (n : Nat) (i : Int) : Option Nat := if 0 ≤ i ∧ i < n then some i.toNat else none
def gB (x : Int) : Option Unit := if x = 0 ∨ x = 1 then some () else none
def gD (x : Int) : Option Unit := if x = 0 then none else some ()
def gJ (j : Nat) : Option Unit := if j < 30 then some () else none
def gR (s : kM) (e : Int) : Option Nat := if 0 ≤ e ∧ e < s 900 0 then some (125 + 2 * e.toNat) else none
def gLet {α β : Type} (x : α) (f : α → β) : β := f x
def gL {σ ρ : Type} (f : σ → Option (σ ⊕ ρ)) : Nat → σ → Option ρ
  | 0, _ => none
  | n + 1, x => match f x with
    | some (.inl y) => gL f n y
    | some (.inr r) => some r
    | none => none
def gF : Nat := 4096
def gE {σ ρ : Type} (p : σ → Prop) (q : ρ → Prop) : σ ⊕ ρ → Prop
  | .inl x => p x
  | .inr r => q r
theorem gbI {β : Type} {n : Nat} {i : Int} {f : Nat → Option β} {t : β} (h : (gI n i).bind f = some t) : ∃ j, (0 ≤ i ∧ i < n ∧ i.toNat = j) ∧ f j = some t := by
  unfold gI at h
  split at h
  · rename_i c
    exact ⟨i.toNat, ⟨c.1, c.2, rfl⟩, h⟩
  · cases h
theorem gbB {β : Type} {x : Int} {f : Unit → Option β} {t : β} (h : (gB x).bind f = some t) : (x = 0 ∨ x = 1) ∧ f () = some t := by
  unfold gB at h
  split at h
  · rename_i c
    exact ⟨c, h⟩
  · cases h
theorem gbD {β : Type} {x : Int} {f : Unit → Option β} {t : β} (h : (gD x).bind f = some t) : x ≠ 0 ∧ f () = some t := by
  unfold gD at h
  split at h
  · cases h
  · rename_i c
    exact ⟨c, h⟩
theorem gbJ {β : Type} {x : Nat} {f : Unit → Option β} {t : β} (h : (gJ x).bind f = some t) : x < 30 ∧ f () = some t := by
  unfold gJ at h
  split at h
  · rename_i c
    exact ⟨c, h⟩
  · cases h
theorem gbR {β : Type} {s : kM} {e : Int} {f : Nat → Option β} {t : β} (h : (gR s e).bind f = some t) : ∃ k, (0 ≤ e ∧ e < s 900 0 ∧ k = 125 + 2 * e.toNat) ∧ f k = some t := by
  unfold gR at h
  split at h
  · rename_i c
    exact ⟨_, ⟨c.1, c.2, rfl⟩, h⟩
  · cases h
theorem gbind {α β : Type} {x : Option α} {f : α → Option β} {t : β} (h : x.bind f = some t) : ∃ q, x = some q ∧ f q = some t := by
  cases x with
  | none => cases h
  | some q => exact ⟨q, rfl, h⟩
theorem gbL {α β : Type} {x : α} {f : α → Option β} {t : β} (h : gLet x f = some t) : ∃ y, y = x ∧ f y = some t := ⟨x, rfl, h⟩
theorem gmap {α β : Type} {x : Option α} {f : α → β} {t : β} (h : x.map f = some t) : ∃ q, x = some q ∧ f q = t := by
  cases x with
  | none => cases h
  | some q => exact ⟨q, rfl, Option.some.inj h⟩
theorem gift {α : Type} {c : Prop} {dc : Decidable c} {x y z : α} (h : c) (e : (@ite α c dc x y) = z) : x = z := by rw [if_pos h] at e; exact e
theorem giff {α : Type} {c : Prop} {dc : Decidable c} {x y z : α} (h : ¬ c) (e : (@ite α c dc x y) = z) : y = z := by rw [if_neg h] at e; exact e
theorem gL_ind {σ ρ : Type} {f : σ → Option (σ ⊕ ρ)} {P : σ → Prop} {q : ρ → Prop} (hs : ∀ x t, f x = some t → gE P q t → P x) : ∀ (n : Nat) (x : σ) (t : ρ), gL f n x = some t → q t → P x := by
  intro n
  induction n with
  | zero => intro x t h; cases h
  | succ n ih =>
    intro x t h hq
    unfold gL at h
    cases hf : f x with
    | none => rw [hf] at h; cases h
    | some r =>
      rw [hf] at h
      cases r with
      | inl y => exact hs x _ hf (ih y t h hq)
      | inr r => cases h; exact hs x _ hf hq
/-! fewer locals known is no loss -/
def kLe : kLs → kLs → Prop
  | [], [] => True
  | a :: r, b :: t => (a = none ∨ a = b) ∧ kLe r t
  | [], _ :: _ => False
  | _ :: _, [] => False
theorem kLe_len : ∀ {L L' : kLs}, kLe L L' → L.length = L'.length
  | [], [], _ => rfl
  | _ :: _, _ :: _, h => congrArg (· + 1) (kLe_len h.2)
  | [], _ :: _, h => h.elim
  | _ :: _, [], h => h.elim
theorem kLe_get : ∀ {L L' : kLs} {i : Nat} {v : kV}, kLe L L' → L[i]? = some (some v) → L'[i]? = some (some v)
  | [], [], _, _, _, h => h
  | a :: r, b :: t, 0, v, h, e => by
    simp only [List.getElem?_cons_zero] at e ⊢
    rcases h.1 with h1 | h1
    · rw [h1] at e; cases e
    · rw [← h1]; exact e
  | a :: r, b :: t, i + 1, v, h, e => by
    simp only [List.getElem?_cons_succ] at e ⊢
    exact kLe_get h.2 e
  | [], _ :: _, _, _, h, _ => h.elim
  | _ :: _, [], _, _, h, _ => h.elim
theorem kLe_set : ∀ {L L' : kLs} (i : Nat) (v : Option kV), kLe L L' → kLe (L.set i v) (L'.set i v)
  | [], [], _, _, h => h
  | a :: r, b :: t, 0, v, h => ⟨Or.inr rfl, h.2⟩
  | a :: r, b :: t, i + 1, v, h => ⟨h.1, kLe_set i v h.2⟩
  | [], _ :: _, _, _, h => h.elim
  | _ :: _, [], _, _, h => h.elim
theorem kLe_setn : ∀ {L L' : kLs} (i : Nat), kLe L L' → L[i]? = some none → kLe L (L'.set i none)
  | [], [], _, h, _ => h
  | a :: r, b :: t, 0, h, e => ⟨Or.inl (by simpa using e), h.2⟩
  | a :: r, b :: t, i + 1, h, e => ⟨h.1, kLe_setn i h.2 (by simpa using e)⟩
  | [], _ :: _, _, h, _ => h.elim
  | _ :: _, [], _, h, _ => h.elim
theorem kLe_getn {L L' : kLs} {i : Nat} (h : kLe L L') (e : L[i]? = none) : L'[i]? = none := by
  rw [List.getElem?_eq_none_iff] at e ⊢
  rw [← kLe_len h]
  exact e
theorem kLe_clr {L L' : kLs} (i : Nat) (h : kLe L L') : kLe (kclr L i) (kclr L' i) := by
  cases i with
  | zero => exact h
  | succ j =>
    unfold kclr
    dsimp only
    cases e : L[j]? with
    | none => rw [kLe_getn h e]; exact h
    | some w =>
      cases w with
      | none =>
        dsimp only
        split
        · exact kLe_setn j h e
        · exact h
      | some v =>
        rw [kLe_get h e]
        split
        · exact kLe_set j none h
        · exact h
def kloc (ins : Instr) : Bool := match ins with
  | .iload _ => true
  | .lload _ => true
  | .aload _ => true
  | .istore _ => true
  | .lstore _ => true
  | .astore _ => true
  | .iinc _ _ => true
  | _ => false
