/-! PRINTED by wip/whole/gen98.py: what holds behind both constructors -/
theorem mR_n (g : kH) {a : Nat} (h1 : a ≠ 98) (h2 : a ≠ 99) : (mRefresh g).2.2 a = g.2.2 a := by
  unfold mRefresh
  rw [kput_n _ _ h2, kput_n _ _ h1]
theorem s901 (g : kH) : 0 ≤ sOf (mRefresh g) 900 1 := by
  show (0 : Int) ≤ (((mRefresh g).2.1 : Nat) : Int)
  exact Int.natCast_nonneg _
set_option maxRecDepth 4000 in
theorem Rel_init {RC : zA → kM → Prop} {RU : Nat → kM → Prop} (hC : hRC RC) {g : kH} (e1 : g.1 = 125) (hw : kWF g) (c0 : g.2.2 0 = some (.inr (.inr (10, (((((((((((((kfk 10).map kdef0).set 0 (kr 1)).set 1 (kr 3)).set 2 (kr 10)).set 3 (kr 11)).set 4 (kr 17)).set 5 (kr 21)).set 6 (kr 44)).set 7 (kr 48)).set 8 (kr 51)).set 9 (kr 54)).set 10 (kr 56)))))) (c1 : g.2.2 1 = some (.inr (.inr (8, (((kfk 8).map kdef0).set 0 (kr 2)))))) (c2 : g.2.2 2 = some (.inl (1, 400, fun _ => 0))) (c3 : g.2.2 3 = some (.inr (.inr (7, ((((kfk 7).map kdef0).set 0 (kr 4)).set 2 (kI (-1))))))) (c4 : g.2.2 4 = some (.inr (.inr (9, (((((((kfk 9).map kdef0).set 4 (kr 5)).set 5 (kr 6)).set 6 (kr 7)).set 7 (kr 8)).set 8 (kr 9)))))) (c9 : g.2.2 9 = some (.inl (0, 22, (kfill (-1) 22 (fun _ => 0))))) (c21 : g.2.2 21 = some (.inr (.inr (6, (((((((((((kfk 6).map kdef0).set 0 (kr 22)).set 1 (kr 23)).set 2 (kr 24)).set 3 (kr 25)).set 4 (kr 26)).set 5 (kr 27)).set 6 (kr 28)).set 7 (kr 34)).set 8 (kr 40)))))) (c44 : g.2.2 44 = some (.inr (.inr (1, (((((kfk 1).map kdef0).set 1 (kr 45)).set 2 (kr 46)).set 3 (kr 47)))))) (c56 : g.2.2 56 = some (.inr (.inl (4, 6, fun _ => none)))) (c57 : g.2.2 57 = some (.inr (.inr (7, ((((kfk 7).map kdef0).set 0 (kr 58)).set 2 (kI (-1))))))) (c64 : g.2.2 64 = some (.inr (.inr (7, ((((kfk 7).map kdef0).set 0 (kr 65)).set 2 (kI (-1))))))) (c71 : g.2.2 71 = some (.inr (.inr (7, ((((kfk 7).map kdef0).set 0 (kr 72)).set 2 (kI (-1))))))) (c78 : g.2.2 78 = some (.inr (.inr (7, ((((kfk 7).map kdef0).set 0 (kr 79)).set 2 (kI (-1))))))) (c85 : g.2.2 85 = some (.inr (.inr (11, ((((((((((((((((((((((((((((((((((((((((((kfk 11).map kdef0).set 1 (kr 86)).set 2 (kr 87)).set 3 (kr 88)).set 4 (kr 89)).set 5 (kr 90)).set 6 (kr 91)).set 7 (kr 92)).set 8 (kr 93)).set 9 (kr 94)).set 10 (kr 95)).set 11 (kr 96)).set 12 (kr 97)).set 13 (kr 98)).set 14 (kr 99)).set 15 (kr 100)).set 16 (kr 101)).set 17 (kr 102)).set 18 (kr 103)).set 19 (kr 104)).set 30 (kI (8))).set 33 (kr 105)).set 34 (kr 106)).set 35 (kr 107)).set 36 (kr 108)).set 37 (kr 109)).set 38 (kr 110)).set 39 (kr 111)).set 40 (kr 112)).set 41 (kr 113)).set 42 (kr 114)).set 43 (kr 115)).set 45 (kr 116)).set 46 (kr 117)).set 47 (kr 118)).set 48 (kr 119)).set 49 (kr 120)).set 50 (kr 121)).set 51 (kr 122)).set 55 (kr 123)).set 56 (kr 124)))))) (c86 : g.2.2 86 = some (.inl (0, 6, (kup (kup (kup (kup (kup (kup (fun _ => 0) 0 (0)) 1 (0)) 2 (0)) 3 (0)) 4 (0)) 5 (-1))))) (c105 : g.2.2 105 = some (.inl (1, 400, fun _ => 0))) (c124 : g.2.2 124 = some (.inl (4, 4, fun _ => 0))) (hcl : cln (mRefresh g)) : kInv RC RU (mRefresh g) := by
  have hw2 : kWF (mRefresh g) := (hw.pA rfl _).pA rfl _
  have d0 := (mR_n g (a := 0) (by decide) (by decide)).trans c0
  have d1 := (mR_n g (a := 1) (by decide) (by decide)).trans c1
  have d2 := (mR_n g (a := 2) (by decide) (by decide)).trans c2
  have d3 := (mR_n g (a := 3) (by decide) (by decide)).trans c3
  have d4 := (mR_n g (a := 4) (by decide) (by decide)).trans c4
  have d9 := (mR_n g (a := 9) (by decide) (by decide)).trans c9
  have d21 := (mR_n g (a := 21) (by decide) (by decide)).trans c21
  have d44 := (mR_n g (a := 44) (by decide) (by decide)).trans c44
  have d56 := (mR_n g (a := 56) (by decide) (by decide)).trans c56
  have d57 := (mR_n g (a := 57) (by decide) (by decide)).trans c57
  have d64 := (mR_n g (a := 64) (by decide) (by decide)).trans c64
  have d71 := (mR_n g (a := 71) (by decide) (by decide)).trans c71
  have d78 := (mR_n g (a := 78) (by decide) (by decide)).trans c78
  have d85 := (mR_n g (a := 85) (by decide) (by decide)).trans c85
  have d86 := (mR_n g (a := 86) (by decide) (by decide)).trans c86
  have d105 := (mR_n g (a := 105) (by decide) (by decide)).trans c105
  have d124 := (mR_n g (a := 124) (by decide) (by decide)).trans c124
  refine ⟨sOf (mRefresh g), hH_sOf hw2 hcl e1 d56, ?_, s901 g⟩
  have hN : mN g = 0 := by
    unfold mN
    have := ar_of c86
    rw [this]
    rfl
  have v98 : ∀ k, k < 11 → sOf (mRefresh g) 98 k = -1 ∧ sOf (mRefresh g) 99 k = -1 := by
    intro k hk
    have a1 : (mRefresh g).2.2 98 = some (kAi 11 (mAt (ar g 87) (ar g 88) true (kfill (-1) 11 (ar g 98)) (mN g).toNat)) := by
      unfold mRefresh
      rw [kput_n _ _ (by decide), kput_s]
    have a2 : (mRefresh g).2.2 99 = some (kAi 11 (mAt (ar g 87) (ar g 88) false (kfill (-1) 11 (ar g 99)) (mN g).toNat)) := by
      unfold mRefresh
      rw [kput_s]
    rw [hN] at a1 a2
    refine ⟨?_, ?_⟩
    · show ar (mRefresh g) 98 k = -1
      rw [ar_of a1]
      show kfill (-1) 11 (ar g 98) k = -1
      unfold kfill
      rw [if_pos hk]
    · show ar (mRefresh g) 99 k = -1
      rw [ar_of a2]
      show kfill (-1) 11 (ar g 99) k = -1
      unfold kfill
      rw [if_pos hk]
  have w : ∀ (a k : Nat) (x : Int), sOf (mRefresh g) a = ob (mRefresh g) a → ob (mRefresh g) a k = x → sOf (mRefresh g) a k = x := fun a k x h1 h2 => by rw [h1]; exact h2
  have s0 : sOf (mRefresh g) 0 11 = 0 := w _ _ _ rfl (by rw [ob_of d0]; rfl)
  have s1 : sOf (mRefresh g) 1 1 = 0 := w _ _ _ rfl (by rw [ob_of d1]; rfl)
  have s2 : sOf (mRefresh g) 2 = fun _ => 0 := ar_of d2
  have s31 : sOf (mRefresh g) 3 1 = 0 := w _ _ _ rfl (by rw [ob_of d3]; rfl)
  have s32 : sOf (mRefresh g) 3 2 = -1 := w _ _ _ rfl (by rw [ob_of d3]; rfl)
  have s33 : sOf (mRefresh g) 3 3 = 0 := w _ _ _ rfl (by rw [ob_of d3]; rfl)
  have s40 : sOf (mRefresh g) 4 0 = 0 := w _ _ _ rfl (by rw [ob_of d4]; rfl)
  have s41 : sOf (mRefresh g) 4 1 = 0 := w _ _ _ rfl (by rw [ob_of d4]; rfl)
  have s42 : sOf (mRefresh g) 4 2 = 0 := w _ _ _ rfl (by rw [ob_of d4]; rfl)
  have s43 : sOf (mRefresh g) 4 3 = 0 := w _ _ _ rfl (by rw [ob_of d4]; rfl)
  have s9 : sOf (mRefresh g) 9 = kfill (-1) 22 (fun _ => 0) := ar_of d9
  have s21a : sOf (mRefresh g) 21 16 = 0 := w _ _ _ rfl (by rw [ob_of d21]; rfl)
  have s21b : sOf (mRefresh g) 21 18 = 0 := w _ _ _ rfl (by rw [ob_of d21]; rfl)
  have s44 : sOf (mRefresh g) 44 0 = 0 := w _ _ _ rfl (by rw [ob_of d44]; rfl)
  have s57 : sOf (mRefresh g) 57 4 = 0 := w _ _ _ rfl (by rw [ob_of d57]; rfl)
  have s64 : sOf (mRefresh g) 64 4 = 0 := w _ _ _ rfl (by rw [ob_of d64]; rfl)
  have s71 : sOf (mRefresh g) 71 4 = 0 := w _ _ _ rfl (by rw [ob_of d71]; rfl)
  have s78 : sOf (mRefresh g) 78 4 = 0 := w _ _ _ rfl (by rw [ob_of d78]; rfl)
  have s85a : sOf (mRefresh g) 85 21 = 0 := w _ _ _ rfl (by rw [ob_of d85]; rfl)
  have s85b : sOf (mRefresh g) 85 25 = 0 := w _ _ _ rfl (by rw [ob_of d85]; rfl)
  have s85c : sOf (mRefresh g) 85 30 = 8 := w _ _ _ rfl (by rw [ob_of d85]; rfl)
  have s86 : sOf (mRefresh g) 86 = (kup (kup (kup (kup (kup (kup (fun _ => 0) 0 (0)) 1 (0)) 2 (0)) 3 (0)) 4 (0)) 5 (-1)) := ar_of d86
  have s105 : sOf (mRefresh g) 105 = fun _ => 0 := ar_of d105
  have s124 : sOf (mRefresh g) 124 = fun _ => 0 := ar_of d124
  have s900 : sOf (mRefresh g) 900 0 = 0 := rfl
  have no : ∀ k, ¬ pr (0, 0, 0, fun _ => 0, fun _ => 0) k := by
    rintro k ⟨j, h1, -⟩
    have h1' : j < 0 := h1
    omega
  refine ⟨(0, 0, 0, fun _ => 0, fun _ => 0), ?_, ?_, ?_, ?_, ?_, ?_, ?_, hC.2 _ _ s44 s21a s21b⟩
  · refine ⟨⟨by decide, by decide, by decide, fun j h => ?_, fun i j h => ?_⟩, fun _ => rfl, fun _ => rfl, fun j h => ?_, fun k h => (no k h).elim⟩
    · have h' : j < 0 := h
      omega
    · have h' : i < 0 := h
      omega
    · have h' : j < 0 := h
      omega
  · refine ⟨⟨s40, s41, s42, fun j h => ?_, fun k h => (no k h).elim⟩, s43, fun c hc => ?_, fun j h => ?_, fun j h => ?_⟩
    · have h' : j < 0 := h
      omega
    · show sOf (mRefresh g) 9 c = -1
      rw [s9]
      unfold kfill
      rw [if_pos hc]
    · have h' : j < 0 := h
      omega
    · have h' : j < 0 := h
      omega
  · refine ⟨⟨?_, ?_, ?_, fun j h => ?_, fun k h => (no k h).elim⟩, v98⟩
    · rw [s86]; rfl
    · rw [s86]; rfl
    · rw [s86]; rfl
    · have h' : j < 0 := h
      omega
  · refine ⟨by rw [s1, s85a], by rw [s1]; decide, by rw [s1]; decide, by rw [s2, s105], fun j => by rw [s2]; exact (by decide : (-128 : Int) ≤ 0 ∧ (0 : Int) ≤ 127)⟩
  · refine ⟨by rw [s31, s86]; rfl, by rw [s32, s86]; rfl, by rw [s32]; decide, by rw [s32, s0]; decide, by rw [s33, s86]; rfl, by rw [s33]; decide, by rw [s33]; decide⟩
  · refine ⟨by rw [s0, s85b], by rw [s0]; decide, by rw [s0]; decide, by rw [s900, s0], s85c, fun k hk => ?_⟩
    rw [s0] at hk
    omega
  · intro i hi
    have hm : sOf (mRefresh g) (57 + 7 * i) 4 = 0 := by
      have : i = 0 ∨ i = 1 ∨ i = 2 ∨ i = 3 := by omega
      rcases this with rfl | rfl | rfl | rfl
      · exact s57
      · exact s64
      · exact s71
      · exact s78
    rw [hm, s124]
    exact ⟨rfl, Or.inl rfl, fun q => absurd (show (0 : Int) = 1 from q) (by decide)⟩
theorem kInit_rel {sc : List Int} {RC : zA → kM → Prop} {RU : Nat → kM → Prop} (hC : hRC RC) : kInit sc (kInv RC RU) :=
  kInit_cln (kInit_of (fun g e1 hw _ c0 c1 c2 c3 c4 _ _ _ _ c9 _ _ _ _ _ _ _ _ _ _ _ c21 _ _ _ _ _ _ _ _ _ _ _ _ _ _ _ _ _ _ _ _ _ _ c44 _ _ _ _ _ _ _ _ _ _ _ c56 c57 _ _ _ _ _ _ c64 _ _ _ _ _ _ c71 _ _ _ _ _ _ c78 _ _ _ _ _ _ c85 c86 _ _ _ _ _ _ _ _ _ _ _ _ _ _ _ _ _ _ c105 _ _ _ _ _ _ _ _ _ _ _ _ _ _ _ _ _ _ c124 hcl => Rel_init hC e1 hw c0 c1 c2 c3 c4 c9 c21 c44 c56 c57 c64 c71 c78 c85 c86 c105 c124 hcl))
