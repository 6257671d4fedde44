/-- the reference bars by its clauses -/
theorem MB_of {k : Nat} (hk : k < 6) {acc : List (List Int)} {s : kM} (ha : acc.length ≤ 12) (h108 : s 108 k = ((acc.length : Nat) : Int)) (hB : CB k acc s) (hl : acc.flatten.length < 300) (ht : ∀ i, i < acc.flatten.length → s 106 (300 * k + i) = mt1 (acc.flatten.getD i 0) ∧ s 107 (300 * k + i) = mt2 (acc.flatten.getD i 0)) (hW : ∀ c, c ∈ acc → WF true c) (hp : ∀ c, c ∈ acc → pus c ≤ 60) {E : (Nat → Int) → Bool} (hE : ∀ w, E w = true ↔ ∃ c, c ∈ acc ∧ vof c w = 1) : MBs k E s := by
  rintro t ⟨m1, m2, m3⟩
  unfold f_M_isBarred_75
  refine wp_for acc.length (fun j x => x.1 = ((12 * k + j : Nat) : Int) ∧ (∀ z, z ≠ 113 → x.2 z = t z) ∧ ∀ i, i < j → vof (acc.getD i []) (t 112) ≠ 1) 0 _ (by omega) (by omega) (by exact ⟨rfl, fun _ _ => rfl, fun i hi => by omega⟩) ?_ ?_
  · rintro j ⟨y1, u⟩ _ hj ⟨rfl, q1, q2⟩
    dsimp only at q1 q2
    obtain ⟨f1, f2, f3⟩ := fl_at acc j hj
    have hmem : acc.getD j [] ∈ acc := by
      rw [List.getD_eq_getElem?_getD, List.getElem?_eq_getElem hj]
      exact List.getElem_mem hj
    obtain ⟨val, hv, hb⟩ := hW _ hmem
    have e108 : u 108 k = ((acc.length : Nat) : Int) := by rw [q1 108 (by decide), m2]; exact h108
    have e109 : u 109 (12 * k + j) = (((acc.take j).flatten.length : Nat) : Int) := by rw [q1 109 (by decide), (m3 _ (by omega) (by omega)).1]; exact (hB j hj).1
    have e110 : u 110 (12 * k + j) = (((acc.take (j + 1)).flatten.length : Nat) : Int) := by rw [q1 110 (by decide), (m3 _ (by omega) (by omega)).2]; exact (hB j hj).2
    have ew : wI (wI (12 * ((k : Nat) : Int)) + ((acc.length : Nat) : Int)) = ((12 * k + acc.length : Nat) : Int) := by
      rw [wI_id (x := 12 * ((k : Nat) : Int)) (by omega) (by omega), wI_id (by omega) (by omega)]
      omega
    obtain ⟨r, g, r1, r2⟩ := M_run (k := k) (cc := acc.flatten) (s0 := u) hk hl (fun i hi => by rw [q1 106 (by decide), q1 107 (by decide), (m1 _ (by omega) (by omega)).1, (m1 _ (by omega) (by omega)).2]; exact ht i hi) (en := (acc.take (j + 1)).flatten.length) f2 (acc.getD j []) (acc.take j).flatten.length 0 gF u f1.symm f3 hv.1 (hv.2.1 0).1 (by have := hp _ hmem; omega) (by show _ < 4096; clear ew; omega) (fun _ _ => rfl)
    have g' : f_M_answer (k : Int) (((acc.take j).flatten.length : Nat) : Int) (((acc.take (j + 1)).flatten.length : Nat) : Int) u = some r := g
    have ev : r.1 = vof (acc.getD j []) (t 112) := by rw [r1, (hv.2.2.1 (u 112) (u 113) 0).1, vof_v hv, q1 112 (by decide)]
    dsimp only
    unfold f_M_isBarred_75b
    rw [gI_n hk, Option.bind_some, e108, ew, if_neg (by clear ew; omega), gI_n (show 12 * k + j < 72 by clear ew; omega), Option.bind_some, Option.bind_some, e109, e110, g', Option.bind_some, ev]
    by_cases h1 : vof (acc.getD j []) (t 112) = 1
    · rw [if_pos h1, wp_some, gE_r]
      refine ⟨?_, fun z hz => by dsimp only; rw [r2 z hz]; exact q1 z hz⟩
      dsimp only
      rw [if_pos ((hE _).mpr ⟨_, hmem, h1⟩)]
    · rw [if_neg h1, wp_some, gE_l, wI_s (by clear ew; omega)]
      refine ⟨rfl, fun z hz => by dsimp only; rw [r2 z hz]; exact q1 z hz, fun i hi => ?_⟩
      by_cases hij : i = j
      · rw [hij]; exact h1
      · exact q2 i (by clear ew; omega)
  · rintro ⟨y1, u⟩ ⟨rfl, q1, q2⟩
    dsimp only at q1 q2
    have e108 : u 108 k = ((acc.length : Nat) : Int) := by rw [q1 108 (by decide), m2]; exact h108
    have ew : wI (wI (12 * ((k : Nat) : Int)) + ((acc.length : Nat) : Int)) = ((12 * k + acc.length : Nat) : Int) := by
      rw [wI_id (x := 12 * ((k : Nat) : Int)) (by omega) (by omega), wI_id (by omega) (by omega)]
      omega
    dsimp only
    unfold f_M_isBarred_75b
    rw [gI_n hk, Option.bind_some, e108, ew, if_pos (Int.le_refl _), wp_some, gE_r]
    refine ⟨?_, q1⟩
    dsimp only
    rw [if_neg]
    intro z
    obtain ⟨c, hc, hv⟩ := (hE _).mp z
    obtain ⟨i, hi, hci⟩ := List.getElem_of_mem hc
    refine q2 i hi ?_
    rw [List.getD_eq_getElem?_getD, List.getElem?_eq_getElem hi]
    show vof acc[i] (t 112) = 1
    rw [hci]
    exact hv
