/-! the classes, one statement for all -/
def kkt (t : Nat) (ty : FieldType) : Bool := match t, ty with
  | 0, .int => true
  | 3, .long => true
  | 4, .boolean => true
  | 5, .object _ => true
  | 5, .array _ => true
  | _, _ => false
def kcq (ci : Nat) : vw_C := kCl.getD ci ("", kT_0, 0)
def kCa (ci : Nat) : Prop := kCl[ci]? = some (kcq ci) ∧ (∀ w ∈ u_ws (kcq ci).1 (kcq ci).2.1 (kcq ci).2.2, w ∈ kG) ∧ Cond.instantiable (kcq ci).1 (kcq ci).2.2 ∈ kG ∧ Cond.initialized (kcq ci).1 ∈ kG ∧ (∀ a, a < (kcq ci).2.2 → ∀ b, b < (kcq ci).2.2 → a ≠ b → ((kcq ci).2.1 a).2.1 ≠ ((kcq ci).2.1 b).2.1) ∧ (kfk ci).length = (kcq ci).2.2 ∧
  ∃ ty : Nat → FieldType, (∀ k, k < (kcq ci).2.2 → parseFieldDescriptor ((kcq ci).2.1 k).2.2.1 = some (ty k)) ∧ ∀ k, k < (kcq ci).2.2 → kkt ((kfk ci).getD k 9) (ty k) = true
theorem kCa_ok (ci : Nat) (h : ci < 12) : kCa ci := by
  match ci, h with
  | 0, _ => exact ⟨rfl, kCw_0, kCi_0.1, kCi_0.2, kCn_0, rfl, kty_0, kCt_0, by decide +kernel⟩
  | 1, _ => exact ⟨rfl, kCw_1, kCi_1.1, kCi_1.2, kCn_1, rfl, kty_1, kCt_1, by decide +kernel⟩
  | 2, _ => exact ⟨rfl, kCw_2, kCi_2.1, kCi_2.2, kCn_2, rfl, kty_2, kCt_2, by decide +kernel⟩
  | 3, _ => exact ⟨rfl, kCw_3, kCi_3.1, kCi_3.2, kCn_3, rfl, kty_3, kCt_3, by decide +kernel⟩
  | 4, _ => exact ⟨rfl, kCw_4, kCi_4.1, kCi_4.2, kCn_4, rfl, kty_4, kCt_4, by decide +kernel⟩
  | 5, _ => exact ⟨rfl, kCw_5, kCi_5.1, kCi_5.2, kCn_5, rfl, kty_5, kCt_5, by decide +kernel⟩
  | 6, _ => exact ⟨rfl, kCw_6, kCi_6.1, kCi_6.2, kCn_6, rfl, kty_6, kCt_6, by decide +kernel⟩
  | 7, _ => exact ⟨rfl, kCw_7, kCi_7.1, kCi_7.2, kCn_7, rfl, kty_7, kCt_7, by decide +kernel⟩
  | 8, _ => exact ⟨rfl, kCw_8, kCi_8.1, kCi_8.2, kCn_8, rfl, kty_8, kCt_8, by decide +kernel⟩
  | 9, _ => exact ⟨rfl, kCw_9, kCi_9.1, kCi_9.2, kCn_9, rfl, kty_9, kCt_9, by decide +kernel⟩
  | 10, _ => exact ⟨rfl, kCw_10, kCi_10.1, kCi_10.2, kCn_10, rfl, kty_10, kCt_10, by decide +kernel⟩
  | 11, _ => exact ⟨rfl, kCw_11, kCi_11.1, kCi_11.2, kCn_11, rfl, kty_11, kCt_11, by decide +kernel⟩
  | ci + 12, h => omega
theorem kfit_ok {base : Nat} {ad : Nat → Nat} {t : Nat} {ty : FieldType} {v : kV} (h1 : kkt t ty = true) (h2 : kfit t v = true) : narrow ty (kc base ad v) = kc base ad v ∧ fits ty (kc base ad v) = true := by
  unfold kkt at h1
  split at h1
  · rcases v with v | v | v | v <;> first | exact ⟨rfl, rfl⟩ | cases h2
  · rcases v with v | v | v | v <;> first | exact ⟨rfl, rfl⟩ | cases h2
  · rcases v with v | v | v | v <;> first | (rcases of_decide_eq_true h2 with rfl | rfl <;> exact ⟨rfl, rfl⟩) | cases h2
  · rcases v with v | v | v | v <;> first | (rcases v with _ | v <;> exact ⟨rfl, rfl⟩) | cases h2
  · rcases v with v | v | v | v <;> first | (rcases v with _ | v <;> exact ⟨rfl, rfl⟩) | cases h2
  · cases h1
theorem kdef_ok {base : Nat} {ad : Nat → Nat} {t : Nat} {ty : FieldType} (h1 : kkt t ty = true) : defaultValue ty = kc base ad (kdef0 t) := by
  unfold kkt at h1
  split at h1 <;> first | rfl | cases h1
/-- a final field is set in a constructor of its own class alone -/
def kfin (q : Nat × List Instr × MethodName × Nat) : Bool := q.2.1.all (fun ins => match ins with
  | .putfield f => !((kTf f).2.2.2) || (decide (q.2.2.1.name = "<init>") && decide ((kTf f).1 = kon q.2.2.2))
  | _ => true)
theorem kfin_ok : ((List.range 295).all (fun c => kfin (c, (kMl.getD c ([], 0, 0, 0, 0)).1, (kAll.getD c (⟨"", "", ""⟩, code, 0, none, 0)).1, (kAll.getD c (⟨"", "", ""⟩, code, 0, none, 0)).2.2.2.2))) = true := by decide +kernel
