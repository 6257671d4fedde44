/-! short names; calls by kind -/
abbrev kI (x : Int) : kV := .inl x
abbrev kJ (x : Int) : kV := .inr (.inl x)
abbrev kr (a : Nat) : kV := .inr (.inr (.inl (some a)))
section KW
variable {sc : List Int} {d : Nat} {cd : List Instr} {rk pc : Nat} {L : kLs} {st : List kV} {h : kH} {Q : Option kV → kH → Prop}
theorem kw_callS {c e : Nat} {vs rest : List kV} {rv : Option kV} {h1 : kH} {q : List Instr × Nat × Nat × Nat × Nat} (hc : cd[pc]? = some (.invokestatic c)) (hst : st = vs.reverse ++ rest) (hq : kms c = some q) (hp : vs.length = q.2.2.1 ∧ (kargs vs).length ≤ q.2.1 ∧ kwts rest ≤ 8 ∧ q.2.2.2.2 = 1000)
    (hr : kR sc e c vs h rv h1) (hd : e ≤ d) (k : kW sc (d + 1) cd rk (pc + 1) L (rv.toList ++ rest) h1 Q) : kW sc (d + 1) cd rk pc L st h Q := by
  obtain ⟨hl, rfl⟩ := kmsq c q hq
  exact kw_call hc rfl hl hst hp.1 hp.2.1 hp.2.2.1 (fun _ => hp.2.2.2) (fun z => absurd rfl z) (fun z => by cases z) hr hd k
theorem kw_callV {c e a : Nat} {vs rest fs : List kV} {rv : Option kV} {h1 : kH} {q : List Instr × Nat × Nat × Nat × Nat} (hc : cd[pc]? = some (.invokevirtual c)) (hst : st = (kr a :: vs).reverse ++ rest) (hq : kms c = some q) (hp : vs.length + 1 = q.2.2.1 ∧ (kargs (kr a :: vs)).length ≤ q.2.1 ∧ kwts rest ≤ 8 ∧ q.2.2.2.2 ≠ 1000) (ha : h.2.2 a = some (.inr (.inr (q.2.2.2.2, fs))))
    (hr : kR sc e c (kr a :: vs) h rv h1) (hd : e ≤ d) (k : kW sc (d + 1) cd rk (pc + 1) L (rv.toList ++ rest) h1 Q) : kW sc (d + 1) cd rk pc L st h Q := by
  obtain ⟨hl, rfl⟩ := kmsq c q hq
  refine kw_call hc rfl hl hst hp.1 hp.2.1 hp.2.2.1 (fun z => by cases z) (fun _ => ⟨hp.2.2.2, ?_⟩) (fun z => by cases z) hr hd k
  show krcv h _ (some (kr a)) = true
  unfold krcv
  dsimp only
  rw [ha]
  exact decide_eq_true rfl
theorem kw_callI {c e a : Nat} {vs rest fs : List kV} {rv : Option kV} {h1 : kH} {q : List Instr × Nat × Nat × Nat × Nat} (hc : cd[pc]? = some (.invokespecial c)) (hst : st = (kr a :: vs).reverse ++ rest) (hq : kms c = some q) (hp : vs.length + 1 = q.2.2.1 ∧ (kargs (kr a :: vs)).length ≤ q.2.1 ∧ kwts rest ≤ 8 ∧ q.2.2.2.2 ≠ 1000 ∧ q.2.2.2.1 = 0) (ha : h.2.2 a = some (.inr (.inr (q.2.2.2.2, fs))))
    (hr : kR sc e c (kr a :: vs) h rv h1) (hd : e ≤ d) (k : kW sc (d + 1) cd rk (pc + 1) L (rv.toList ++ rest) h1 Q) : kW sc (d + 1) cd rk pc L st h Q := by
  obtain ⟨hl, rfl⟩ := kmsq c q hq
  refine kw_call hc rfl hl hst hp.1 hp.2.1 hp.2.2.1 (fun z => by cases z) (fun _ => ⟨hp.2.2.2.1, ?_⟩) (fun _ => hp.2.2.2.2) hr hd k
  show krcv h _ (some (kr a)) = true
  unfold krcv
  dsimp only
  rw [ha]
  exact decide_eq_true rfl
theorem kR.start {c : Nat} {vs : List kV} {rv : Option kV} {h' : kH} {q : List Instr × Nat × Nat × Nat × Nat} (hq : kms c = some q) (k : kW sc d q.1 q.2.2.2.1 0 (kent vs q.2.1) [] h (fun r g => r = rv ∧ g = h')) : kR sc d c vs h rv h' := by
  obtain ⟨-, rfl⟩ := kmsq c q hq
  exact k
theorem kR.mono {c e : Nat} {vs : List kV} {rv : Option kV} {h' : kH} (k : kR sc d c vs h rv h') (hd : d ≤ e) : kR sc e c vs h rv h' := by
  have := kW.mono (e := e - d) k
  rw [show d + (e - d) = e by omega] at this
  exact this
end KW
theorem wI_id {x : Int} (h1 : -2147483648 ≤ x) (h2 : x ≤ 2147483647) : wI x = x := by
  unfold wI
  rw [Int.bmod_eq_of_le (by omega) (by omega)]
theorem wL_id {x : Int} (h1 : -9223372036854775808 ≤ x) (h2 : x ≤ 9223372036854775807) : wL x = x := by
  unfold wL
  rw [Int.bmod_eq_of_le (by omega) (by omega)]
theorem kput_s (h : kH) (k : Nat) (e : kE) : (kput h k e).2.2 k = some e := by simp [kput]
theorem kput_n (h : kH) {j k : Nat} (e : kE) (hj : j ≠ k) : (kput h k e).2.2 j = h.2.2 j := by simp [kput, hj]
/-- the reference's object: its numbers by the numbers of the fields -/
def kMo (s : Nat → Int) : kE := .inr (.inr (11, [kI (s 0), kr 86, kr 87, kr 88, kr 89, kr 90, kr 91, kr 92, kr 93, kr 94, kr 95, kr 96, kr 97, kr 98, kr 99, kr 100, kr 101, kr 102, kr 103, kr 104, kI (s 20), kI (s 21), kI (s 22), kI (s 23), kI (s 24), kI (s 25), kI (s 26), kI (s 27), kI (s 28), kI (s 29), kI (s 30), kI (s 31), kI (s 32), kr 105, kr 106, kr 107, kr 108, kr 109, kr 110, kr 111, kr 112, kr 113, kr 114, kr 115, kI (s 44), kr 116, kr 117, kr 118, kr 119, kr 120, kr 121, kr 122, kI (s 52), kI (s 53), kI (s 54), kr 123, kr 124, kI (s 57), kI (s 58)]))
abbrev kAi (n : Nat) (f : Nat → Int) : kE := .inl (0, n, f)
theorem klc_lt (a b : Int) : klcmp a b < 0 ↔ a < b := by unfold klcmp; split <;> (try split) <;> omega
theorem klc_gt (a b : Int) : 0 < klcmp a b ↔ b < a := by unfold klcmp; split <;> (try split) <;> omega
theorem klc_ge (a b : Int) : 0 ≤ klcmp a b ↔ b ≤ a := by unfold klcmp; split <;> (try split) <;> omega
theorem klc_le (a b : Int) : klcmp a b ≤ 0 ↔ a ≤ b := by unfold klcmp; split <;> (try split) <;> omega
theorem klc_eq (a b : Int) : klcmp a b = 0 ↔ a = b := by unfold klcmp; split <;> (try split) <;> omega
