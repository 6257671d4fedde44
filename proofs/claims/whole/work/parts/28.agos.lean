/-! GOSSIP: a RULE as both sides hold it: whether it bars, by the values of the words -/
def MSl (k : Nat) (s t : kM) : Prop := (∀ j, 300 * k ≤ j → j < 300 * k + 300 → t 106 j = s 106 j ∧ t 107 j = s 107 j) ∧ t 108 k = s 108 k ∧ ∀ j, 12 * k ≤ j → j < 12 * k + 12 → t 109 j = s 109 j ∧ t 110 j = s 110 j
def KBs (k : Nat) (E : (Nat → Int) → Bool) (s : kM) : Prop := ∀ t : kM, t (125 + 2 * k) = s (125 + 2 * k) → t (126 + 2 * k) = s (126 + 2 * k) → (k : Int) < t 900 0 → wp (f_Rule_bars k 52 8 53 64 t) (fun r => r.1 = (if E (t 52) = true then 1 else 0) ∧ ∀ z, z ≠ 53 → r.2 z = t z)
def MBs (k : Nat) (E : (Nat → Int) → Bool) (s : kM) : Prop := ∀ t : kM, MSl k s t → wp (f_M_isBarred_75 k ((12 * k : Nat) : Int) t) (fun r => r.1 = (if E (t 112) = true then 1 else 0) ∧ ∀ z, z ≠ 113 → r.2 z = t z)
def Eok (E : (Nat → Int) → Bool) : Prop := ∀ x y : Nat → Int, (∀ i, i < 8 → x i = y i) → E x = E y
def Etm (E : (Nat → Int) → Bool) : Prop := ∀ (x : Nat → Int) (y : Int), E (kup x 6 y) = E x
def RU0 (k : Nat) (s : kM) : Prop := ∃ E, Eok E ∧ (s (125 + 2 * k) 1 = 0 → Etm E) ∧ KBs k E s ∧ MBs k E s
theorem MSl_r {k : Nat} {s t u : kM} (h : MSl k s t) (h2 : MSl k t u) : MSl k s u := by
  obtain ⟨a1, a2, a3⟩ := h
  obtain ⟨b1, b2, b3⟩ := h2
  refine ⟨fun j h1 h2 => ⟨?_, ?_⟩, by rw [b2, a2], fun j h1 h2 => ⟨?_, ?_⟩⟩
  · rw [(b1 j h1 h2).1, (a1 j h1 h2).1]
  · rw [(b1 j h1 h2).2, (a1 j h1 h2).2]
  · rw [(b3 j h1 h2).1, (a3 j h1 h2).1]
  · rw [(b3 j h1 h2).2, (a3 j h1 h2).2]
theorem MSl_e {k : Nat} {s t : kM} (h : ∀ a, 106 ≤ a → a ≤ 110 → t a = s a) : MSl k s t := by
  refine ⟨fun j h1 h2 => ⟨by rw [h 106 (by decide) (by decide)], by rw [h 107 (by decide) (by decide)]⟩, by rw [h 108 (by decide) (by decide)], fun j h1 h2 => ⟨by rw [h 109 (by decide) (by decide)], by rw [h 110 (by decide) (by decide)]⟩⟩
/-- a rule stands as long as its own cells do -/
theorem RU0_c {k : Nat} {s s' : kM} (h : RU0 k s) (h1 : s' (125 + 2 * k) = s (125 + 2 * k)) (h2 : s' (126 + 2 * k) = s (126 + 2 * k)) (h3 : MSl k s s') : RU0 k s' := by
  obtain ⟨E, e1, e2, e3, e4⟩ := h
  refine ⟨E, e1, by rw [h1]; exact e2, fun t q1 q2 q3 => e3 t (by rw [q1, h1]) (by rw [q2, h2]) q3, fun t q => e4 t (MSl_r h3 q)⟩
theorem hRU0 : hRU RU0 := by
  intro k s s' h h1
  exact RU0_c h (h1 _ (Or.inl rfl)) (h1 _ (Or.inr (Or.inl rfl))) (MSl_e (fun a x y => h1 a (Or.inr (Or.inr ⟨x, y⟩))))
/-! one minute, as a set of pieces -/
def wrd (A : zA) (m q pa to th : Nat) : Nat → Int := fun i => if i = 0 then ((ap A pa / 2 : Nat) : Int) else if i = 1 then ((ah A (ap A pa / 2) : Nat) : Int) else if i = 2 then (q : Int) else if i = 3 then (to : Int) else if i = 4 then (th : Int) else if i = 5 then ((ap A pa % 2 : Nat) : Int) else if i = 6 then (m : Int) else ((aN A / 2 : Nat) : Int)
def tl (b : Bool) (to X : Nat) : Nat := if b = true then X else X ||| 2 ^ to
/-- the other pass of a bridge -/
def otA (A : zA) (pa : Nat) : Nat := if ap A pa % 2 = 1 then uA A (ap A pa / 2) else oA A (ap A pa / 2)
def te (E : (Nat → Int) → Bool) (A : zA) (m q pa al X : Nat) : Nat := tl (E (wrd A m q pa (pv (aF A) (aN A) (otA A pa)) 1)) (pv (aF A) (aN A) (otA A pa)) (tl (E (wrd A m q pa (otA A pa) 1)) (otA A pa) (tl (E (wrd A m q pa al 0)) al X))
def mdq (E : (Nat → Int) → Bool) (A : zA) (m S : Nat) : Nat → Nat
  | 0 => S
  | q + 1 => if S.testBit q = true then te E A m q q (pv (aF A) (aN A) q) (te E A m q (nx (aF A) (aN A) q) (nx (aF A) (aN A) q) (mdq E A m S q)) else mdq E A m S q
theorem mdq_s (E : (Nat → Int) → Bool) (A : zA) (m S q : Nat) : mdq E A m S (q + 1) = if S.testBit q = true then te E A m q q (pv (aF A) (aN A) q) (te E A m q (nx (aF A) (aN A) q) (nx (aF A) (aN A) q) (mdq E A m S q)) else mdq E A m S q := rfl
def md (E : (Nat → Int) → Bool) (A : zA) (m S : Nat) : Nat := mdq E A m S (aN A)
def itn (E : (Nat → Int) → Bool) (A : zA) (S : Nat) : Nat → Nat
  | 0 => S
  | m + 1 => md E A (m + 1) (itn E A S m)
theorem itn_s (E : (Nat → Int) → Bool) (A : zA) (S m : Nat) : itn E A S (m + 1) = md E A (m + 1) (itn E A S m) := rfl
theorem tl_lt {b : Bool} {to X n : Nat} (h : to < n) (hX : X < 2 ^ n) : tl b to X < 2 ^ n := by
  unfold tl
  split
  · exact hX
  · exact Nat.or_lt_two_pow hX (Nat.pow_lt_pow_right (by decide) h)
theorem tl_sub (b : Bool) (to X i : Nat) (h : X.testBit i = true) : (tl b to X).testBit i = true := by
  unfold tl
  split
  · exact h
  · rw [Nat.testBit_or, h, Bool.true_or]
theorem ot_lt {A : zA} (hA : okA A) {j : Nat} (hj : j < aN A) : otA A j < aN A := by
  have hp : pb A (ap A j / 2) = true := pb_iff.mpr ⟨j, hj, rfl⟩
  obtain ⟨h1, h2, h3, h4⟩ := oA_lt hA hp
  unfold otA
  split <;> omega
theorem te_lt {E : (Nat → Int) → Bool} {A : zA} (hA : okA A) {m q pa al X : Nat} (hp : pa < aN A) (ha : al < aN A) (hX : X < 2 ^ aN A) : te E A m q pa al X < 2 ^ aN A := by
  have := ot_lt hA hp
  unfold te
  exact tl_lt (pv_lt hA.1 this) (tl_lt this (tl_lt ha hX))
theorem te_sub {E : (Nat → Int) → Bool} {A : zA} {m q pa al X i : Nat} (h : X.testBit i = true) : (te E A m q pa al X).testBit i = true := by
  unfold te
  exact tl_sub _ _ _ _ (tl_sub _ _ _ _ (tl_sub _ _ _ _ h))
theorem mdq_lt {E : (Nat → Int) → Bool} {A : zA} (hA : okA A) {m S : Nat} (hS : S < 2 ^ aN A) : ∀ q, q ≤ aN A → mdq E A m S q < 2 ^ aN A
  | 0, _ => hS
  | q + 1, h => by
    have ih := mdq_lt (E := E) hA (m := m) hS q (by omega)
    have hq : q < aN A := by omega
    rw [mdq_s]
    split
    · exact te_lt hA hq (pv_lt hA.1 hq) (te_lt hA (nx_lt hA.1 hq) (nx_lt hA.1 hq) ih)
    · exact ih
theorem mdq_sub {E : (Nat → Int) → Bool} {A : zA} {m S i : Nat} (h : S.testBit i = true) : ∀ q, (mdq E A m S q).testBit i = true
  | 0 => h
  | q + 1 => by
    have ih := mdq_sub (E := E) (A := A) (m := m) h q
    rw [mdq_s]
    split
    · exact te_sub (te_sub ih)
    · exact ih
theorem md_lt {E : (Nat → Int) → Bool} {A : zA} (hA : okA A) {m S : Nat} (hS : S < 2 ^ aN A) : md E A m S < 2 ^ aN A := mdq_lt hA hS _ (Nat.le_refl _)
theorem itn_lt {E : (Nat → Int) → Bool} {A : zA} (hA : okA A) {S : Nat} (hS : S < 2 ^ aN A) : ∀ m, itn E A S m < 2 ^ aN A
  | 0 => hS
  | m + 1 => md_lt hA (itn_lt hA hS m)
/-- all have it -/
theorem md_full {E : (Nat → Int) → Bool} {A : zA} (hA : okA A) (m : Nat) : md E A m (2 ^ aN A - 1) = 2 ^ aN A - 1 := by
  have h0 : 0 < 2 ^ aN A := Nat.two_pow_pos _
  have h1 := md_lt (E := E) hA (m := m) (S := 2 ^ aN A - 1) (by omega)
  apply Nat.eq_of_testBit_eq
  intro i
  rw [Nat.testBit_two_pow_sub_one]
  by_cases hi : i < aN A
  · have : (2 ^ aN A - 1).testBit i = true := by rw [Nat.testBit_two_pow_sub_one, decide_eq_true hi]
    rw [decide_eq_true hi]
    exact mdq_sub this _
  · rw [decide_eq_false hi]
    exact Nat.testBit_lt_two_pow (Nat.lt_of_lt_of_le h1 (Nat.pow_le_pow_right (by decide) (by omega)))
theorem wrd_m {E : (Nat → Int) → Bool} (ht : Etm E) (h8 : Eok E) (A : zA) (m m' q pa to th : Nat) : E (wrd A m q pa to th) = E (wrd A m' q pa to th) := by
  rw [← ht (wrd A m q pa to th) (m' : Int)]
  apply h8
  intro i hi
  unfold kup wrd
  by_cases h6 : i = 6
  · rw [if_pos h6, if_neg (by omega), if_neg (by omega), if_neg (by omega), if_neg (by omega), if_neg (by omega), if_neg (by omega), if_pos h6]
  · rw [if_neg h6]
    simp only [if_neg h6]
theorem mdq_m {E : (Nat → Int) → Bool} (ht : Etm E) (h8 : Eok E) (A : zA) (m m' S : Nat) : ∀ q, mdq E A m S q = mdq E A m' S q
  | 0 => rfl
  | q + 1 => by
    have ih := mdq_m ht h8 A m m' S q
    have e : ∀ pa al X, te E A m q pa al X = te E A m' q pa al X := by
      intro pa al X
      unfold te
      rw [wrd_m ht h8 A m m', wrd_m ht h8 A m m', wrd_m ht h8 A m m']
    rw [mdq_s, mdq_s, ih, e, e]
/-- nothing new comes any more -/
theorem itn_fix {E : (Nat → Int) → Bool} {A : zA} {S m : Nat} (h : ∀ k, md E A k (itn E A S m) = itn E A S m) : ∀ d, itn E A S (m + d) = itn E A S m
  | 0 => rfl
  | d + 1 => by
    rw [show m + (d + 1) = (m + d) + 1 by omega, itn_s, itn_fix h d]
    exact h _
