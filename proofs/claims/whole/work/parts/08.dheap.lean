/-! the locals -/
def klv (base : Nat) (ad : Nat → Nat) (L : kLs) : List (Nat × Value) := (List.range L.length).filterMap (fun i => match L[i]? with
  | some (some v) => some (i, kc base ad v)
  | _ => none)
theorem klv_mem {base : Nat} {ad : Nat → Nat} {L : kLs} {q : Nat × Value} : q ∈ klv base ad L ↔ ∃ v, L[q.1]? = some (some v) ∧ q.2 = kc base ad v := by
  unfold klv
  rw [List.mem_filterMap]
  constructor
  · rintro ⟨i, hi, hq⟩
    split at hq
    · rename_i v hv
      cases hq
      exact ⟨v, hv, rfl⟩
    · cases hq
  · rintro ⟨v, hv, h2⟩
    refine ⟨q.1, List.mem_range.mpr (List.getElem?_eq_some_iff.mp hv).1, ?_⟩
    rw [hv]
    simp [← h2]
theorem kLR.has {base : Nat} {ad : Nat → Nat} {L : kLs} {ls : Array Slot} {n : Nat} (h : kLR base ad L ls n) : lv_has ls n (klv base ad L) := by
  refine ⟨h.2.2.1, h.2.2.2.1, fun q hq => ?_⟩
  obtain ⟨v, h1, h2⟩ := klv_mem.mp hq
  rw [h2]
  exact h.2.2.2.2 q.1 v h1
theorem kclr_len (L : kLs) (i : Nat) : (kclr L i).length = L.length := by
  unfold kclr
  split
  · rfl
  · split <;> simp
theorem kclr_get {L : kLs} {i j : Nat} {w : kV} (h : (kclr L i)[j]? = some (some w)) : L[j]? = some (some w) ∧ ¬ (j + 1 = i ∧ kislong w = true) := by
  unfold kclr at h
  split at h
  · exact ⟨h, by omega⟩
  · rename_i j2
    split at h
    · rename_i x hx
      by_cases hj : j2 = j
      · subst hj
        have hl := (List.getElem?_eq_some_iff.mp hx).1
        rw [List.getElem?_set_self hl] at h
        cases h
      · rw [List.getElem?_set_ne hj] at h
        exact ⟨h, by omega⟩
    · rename_i hno
      refine ⟨h, fun ⟨h1, h2⟩ => ?_⟩
      obtain rfl : j = j2 := by omega
      rcases w with w | w | w
      · cases h2
      · exact hno w h
      · cases h2
theorem kLR.st1 {base : Nat} {ad : Nat → Nat} {L : kLs} {ls ls' : Array Slot} {n i : Nat} {v : kV} (h : kLR base ad L ls n) (hv : kOK v) (hi : i < n)
    (h' : lv_has ls' n ((i, kc base ad v) :: (klv base ad L).filter (fun q => !(q.1 == i) && !(q.1 + 1 == i && q.2.category == 2)))) : kLR base ad (kst1 L i v) ls' n := by
  have key : ∀ (j : Nat) (w : kV), (kst1 L i v)[j]? = some (some w) → (j = i ∧ w = v) ∨ (j ≠ i ∧ L[j]? = some (some w) ∧ ¬ (j + 1 = i ∧ kislong w = true)) := by
    intro j w hw
    unfold kst1 at hw
    by_cases hj : i = j
    · subst hj
      rw [List.getElem?_set_self (by rw [kclr_len, h.1]; exact hi)] at hw
      cases hw
      exact Or.inl ⟨rfl, rfl⟩
    · rw [List.getElem?_set_ne hj] at hw
      obtain ⟨h1, h2⟩ := kclr_get hw
      exact Or.inr ⟨fun q => hj q.symm, h1, h2⟩
  refine ⟨by unfold kst1; rw [List.length_set, kclr_len]; exact h.1, fun j w hw => ?_, h'.1, h'.2.1, fun j w hw => ?_⟩
  · rcases key j w hw with ⟨-, rfl⟩ | ⟨-, h1, -⟩
    · exact hv
    · exact h.2.1 j w h1
  · rcases key j w hw with ⟨rfl, rfl⟩ | ⟨h0, h1, h2⟩
    · exact h'.2.2 _ List.mem_cons_self
    · refine h'.2.2 (j, kc base ad w) (List.mem_cons_of_mem _ (List.mem_filter.mpr ⟨klv_mem.mpr ⟨w, h1, rfl⟩, ?_⟩))
      simp only [Bool.and_eq_true, Bool.not_eq_true', beq_eq_false_iff_ne, Bool.and_eq_false_iff]
      refine ⟨h0, ?_⟩
      by_cases hj : j + 1 = i
      · right
        rw [kn_cat, kwt, if_neg (fun q => h2 ⟨hj, q⟩)]
        decide
      · exact Or.inl hj
theorem kLR.st2 {base : Nat} {ad : Nat → Nat} {L : kLs} {ls ls' : Array Slot} {n i : Nat} {v : kV} (h : kLR base ad L ls n) (hv : kOK v) (hi : i + 1 < n)
    (h' : lv_has ls' n ((i, kc base ad v) :: (klv base ad L).filter (fun q => !(q.1 == i) && (!(q.1 == i + 1) && !(q.1 + 1 == i && q.2.category == 2))))) : kLR base ad (kst2 L i v) ls' n := by
  have key : ∀ (j : Nat) (w : kV), (kst2 L i v)[j]? = some (some w) → (j = i ∧ w = v) ∨ (j ≠ i ∧ j ≠ i + 1 ∧ L[j]? = some (some w) ∧ ¬ (j + 1 = i ∧ kislong w = true)) := by
    intro j w hw
    unfold kst2 at hw
    by_cases hj2 : i + 1 = j
    · subst hj2
      rw [List.getElem?_set_self (by rw [List.length_set, kclr_len, h.1]; exact hi)] at hw
      cases hw
    · rw [List.getElem?_set_ne hj2] at hw
      by_cases hj : i = j
      · subst hj
        rw [List.getElem?_set_self (by rw [kclr_len, h.1]; omega)] at hw
        cases hw
        exact Or.inl ⟨rfl, rfl⟩
      · rw [List.getElem?_set_ne hj] at hw
        obtain ⟨h1, h2⟩ := kclr_get hw
        exact Or.inr ⟨fun q => hj q.symm, fun q => hj2 q.symm, h1, h2⟩
  refine ⟨by unfold kst2; rw [List.length_set, List.length_set, kclr_len]; exact h.1, fun j w hw => ?_, h'.1, h'.2.1, fun j w hw => ?_⟩
  · rcases key j w hw with ⟨-, rfl⟩ | ⟨-, -, h1, -⟩
    · exact hv
    · exact h.2.1 j w h1
  · rcases key j w hw with ⟨rfl, rfl⟩ | ⟨h0, h01, h1, h2⟩
    · exact h'.2.2 _ List.mem_cons_self
    · refine h'.2.2 (j, kc base ad w) (List.mem_cons_of_mem _ (List.mem_filter.mpr ⟨klv_mem.mpr ⟨w, h1, rfl⟩, ?_⟩))
      simp only [Bool.and_eq_true, Bool.not_eq_true', beq_eq_false_iff_ne, Bool.and_eq_false_iff]
      refine ⟨h0, h01, ?_⟩
      by_cases hj : j + 1 = i
      · right
        rw [kn_cat, kwt, if_neg (fun q => h2 ⟨hj, q⟩)]
        decide
      · exact Or.inl hj
/-! the heap -/
theorem kHR.put {base : Nat} {ad : Nat → Nat} {cT : Nat → ClassId} {D : va_G} {h : kH} {H H1 : Heap} {k : Nat} {e0 e : kE} (hH : kHR base ad cT D h H) (hk : h.2.2 k = some e0) (he : kEOK e) (hz : H1.size = H.size) (ho : ∀ q : Nat, q ≠ base + k → H1[q]? = H[q]?)
    (ha : va_at D kCl (base + k, kce base ad cT e) H1) : kHR base ad cT D (kput h k e) H1 := by
  refine ⟨by rw [hz]; exact hH.1, fun j x hj => ?_⟩
  simp only [kput] at hj
  by_cases hjk : j = k
  · subst hjk
    rw [if_pos rfl] at hj
    cases hj
    exact ⟨(hH.2 j e0 hk).1, he, ha⟩
  · rw [if_neg hjk] at hj
    obtain ⟨h1, h2, h3⟩ := hH.2 j x hj
    exact ⟨h1, h2, h3.kept (ho _ (by show base + j ≠ base + k; omega))⟩
theorem kHR.add {base : Nat} {ad : Nat → Nat} {cT : Nat → ClassId} {D : va_G} {h : kH} {H H1 : Heap} {z : Nat} {e : kE} (hH : kHR base ad cT D h H) (he : kEOK e) (hz : H1.size = H.size + 1) (ho : ∀ q : Nat, q < H.size → H1[q]? = H[q]?)
    (ha : va_at D kCl (H.size, kce base ad cT e) H1) : kHR base ad cT D (kadd h z e) H1 := by
  refine ⟨by rw [hz, hH.1]; simp only [kadd]; omega, fun j x hj => ?_⟩
  simp only [kadd] at hj ⊢
  by_cases hjk : j = h.1
  · subst hjk
    rw [if_pos rfl] at hj
    cases hj
    rw [← hH.1]
    exact ⟨by omega, he, ha⟩
  · rw [if_neg hjk] at hj
    obtain ⟨h1, h2, h3⟩ := hH.2 j x hj
    exact ⟨by omega, h2, h3.kept (ho _ (by show base + j < H.size; rw [hH.1]; omega))⟩
theorem kS_put {base a k : Nat} {s : State} {H H1 : Heap} {locs : List Loc} (hS : va_S (kA base) s.heap H locs) (hz : H1.size = H.size) (ho : ∀ q : Nat, q ≠ base + a → H1[q]? = H[q]?) : va_S (kA base) s.heap H1 (locs ++ [⟨base + a, k⟩]) := hS.put hz ho (Nat.le_add_right _ _)
theorem kS_add {base : Nat} {s : State} {H H1 : Heap} {locs : List Loc} (hS : va_S (kA base) s.heap H locs) (hz : H1.size = H.size + 1) (ho : ∀ q : Nat, q < H.size → H1[q]? = H[q]?) : va_S (kA base) s.heap H1 locs :=
  ⟨Nat.le_trans hS.1 (by omega), fun q h1 h2 => (ho q (Nat.lt_of_lt_of_le h1 hS.1)).trans (hS.2.1 q h1 h2), hS.2.2⟩
