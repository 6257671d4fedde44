section TOWN
variable {RC : zA → kM → Prop} {RU : Nat → kM → Prop}
/-- what a call did to scratch cells alone leaves all as it was -/
theorem Rel_fr (hC : hRC RC) (hU : hRU RU) {s t : kM} (h : Rel RC RU s) (h1 : ∀ a, a ≠ 85 → scr a = false → t a = s a) (h2 : ∀ i, i ≠ 44 → i ≠ 20 → t 85 i = s 85 i) : Rel RC RU t :=
  Rel_scr hC hU h h1 (fun j hj => h2 j (by omega) (by omega))
theorem O_place (hC : hRC RC) (hU : hRU RU) (x y : Int) : OB RC RU (f_KT_place x y) (f_M_place x y) := by
  intro s hs
  have hs' := hs
  obtain ⟨A, hA, hK, hM, -⟩ := hs'
  have hn := okB_n hA.1
  by_cases c : 0 ≤ x ∧ x < aN A
  · obtain ⟨q, rfl⟩ : ∃ q : Nat, x = (q : Int) := ⟨x.toNat, by omega⟩
    have hq : q < aN A := by omega
    have q22 : gI 22 (q : Int) = some q := gI_n (by omega)
    have e5 : s 5 q = ap A q := hK.1.2.2.2.1 q hq
    have e7 : s 7 q = ((nx (aF A) (aN A) q : Nat) : Int) := hK.2.2.2.1 q hq
    have hpq := hA.1.2.2.2.1 q hq
    have f0 : kshr ((ap A q : Nat) : Int) 1 = ((ap A q / 2 : Nat) : Int) := kshr_n (k := 1) (by omega) (by omega)
    have f1 : kand ((ap A q : Nat) : Int) 1 = ((ap A q % 2 : Nat) : Int) := kand1_n (by omega)
    have ek : f_KT_place q y s = if y = 0 then some (((ap A q / 2 : Nat) : Int), s) else if y = 1 then some (((ap A q % 2 : Nat) : Int), s) else if y = 2 then some ((if (aF A : Int) ≤ q then 1 else 0), s) else if y = 3 then some (((nx (aF A) (aN A) q : Nat) : Int), s) else if y = 4 then ((f_Bows_find 4 s).bind fun t => some (t 49 q, t)) else some (-1, s) := by
      unfold f_KT_place
      rw [e_hasPlace hK, if_pos c, Option.bind_some, if_neg (by decide)]
      simp only [q22, Option.bind_some, e_roadOf hK, e5, e7, f0, f1]
    have em : ∀ g, MT A g → f_M_place q y g = if y = 0 then some (((ap A q / 2 : Nat) : Int), g) else if y = 1 then some (((ap A q % 2 : Nat) : Int), g) else if y = 2 then some ((if (aF A : Int) ≤ q then 1 else 0), g) else if y = 3 then some (((nx (aF A) (aN A) q : Nat) : Int), g) else if y = 4 then ((f_M_fillsBows g).bind fun t => some (t 114 q, t)) else some (-1, g) := by
      intro g hg
      obtain ⟨m87, m88⟩ := hg.1.2.2.2.1 q hq
      unfold f_M_place
      rw [e_M_isPlace hA.1 hg.1, if_pos c, Option.bind_some, if_neg (by decide)]
      simp only [q22, Option.bind_some, e_M_roadOf hg.1, e_M_next hA.1 hg.1 hq, m87, m88]
    by_cases y4 : y = 4
    · subst y4
      obtain ⟨t, e1, k1, k2⟩ := wp_Bows_find hA hK
      have fr : ∀ z, z ≠ 48 → z ≠ 49 → t z = s z := fun z z1 z2 => w_Bows_find 4 s t e1 z (by simp [W_Bows_find]; omega)
      have hMt : MT A t := MT_k hM (fun a h1 h2 => fr a (by omega) (by omega))
      obtain ⟨w, e2, p1, p2, p3, p4⟩ := wp_fillsBows hA hMt.1
      refine ⟨((bwA A q : Nat) : Int), t, w, ?_, ?_, ?_⟩
      · rw [ek, if_neg (by decide), if_neg (by decide), if_neg (by decide), if_neg (by decide), if_pos rfl, e1, Option.bind_some, k2 q hq]
      · rw [em t hMt, if_neg (by decide), if_neg (by decide), if_neg (by decide), if_neg (by decide), if_pos rfl, e2, Option.bind_some, p4 q hq]
      · refine Rel_fr hC hU hs (fun a h1 h2 => ?_) (fun i h1 h2 => ?_)
        · have n114 : a ≠ 114 := fun z => by subst z; cases h2
          have n115 : a ≠ 115 := fun z => by subst z; cases h2
          have n48 : a ≠ 48 := fun z => by subst z; cases h2
          have n49 : a ≠ 49 := fun z => by subst z; cases h2
          rw [p1 a h1 n114 n115, fr a n48 n49]
        · rw [p2 i h1, fr 85 (by decide) (by decide)]
    · have ek' := ek
      have em' := em s hM
      rw [if_neg y4] at ek' em'
      by_cases y0 : y = 0
      · rw [if_pos y0] at ek' em'
        exact ⟨_, s, s, ek', em', hs⟩
      · rw [if_neg y0] at ek' em'
        by_cases y1 : y = 1
        · rw [if_pos y1] at ek' em'
          exact ⟨_, s, s, ek', em', hs⟩
        · rw [if_neg y1] at ek' em'
          by_cases y2 : y = 2
          · rw [if_pos y2] at ek' em'
            exact ⟨_, s, s, ek', em', hs⟩
          · rw [if_neg y2] at ek' em'
            by_cases y3 : y = 3
            · rw [if_pos y3] at ek' em'
              exact ⟨_, s, s, ek', em', hs⟩
            · rw [if_neg y3] at ek' em'
              exact ⟨_, s, s, ek', em', hs⟩
  · refine ⟨-1, s, s, ?_, ?_, hs⟩
    · unfold f_KT_place
      rw [e_hasPlace hK, if_neg c]
      rfl
    · unfold f_M_place
      rw [e_M_isPlace hA.1 hM.1, if_neg c]
      rfl
end TOWN
