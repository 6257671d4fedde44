theorem wp_fr {α : Type} {x : Option α} {Q P : α → Prop} (h : wp x Q) (hp : ∀ r, x = some r → P r) : wp x (fun r => Q r ∧ P r) := by
  obtain ⟨r, h1, h2⟩ := h
  exact ⟨r, h1, h2, hp r h1⟩
section TOWN
variable {RC : zA → kM → Prop} {RU : Nat → kM → Prop}
/-- a call that changes the town on both sides, and MOVES -/
theorem OB_town3 (hC : hRC RC) (hU : hRU RU) {s : kM} (hs : Rel RC RU s) {A A' : zA} (hA' : okA A') (hM : MT A s) {fK fM : kM → Option (Int × kM)} {v m : Int} (WK WM : List Nat)
    (hK : wp (fK s) (fun r => KT 4 A' r.2 ∧ r.1 = v ∧ (r.2 44 0 = 0 ∧ r.2 21 16 = 0 ∧ r.2 21 18 = 0) ∧ r.2 3 1 = m ∧ r.2 3 2 = s 3 2 ∧ r.2 3 3 = s 3 3)) (frK : ∀ t, fK s = some t → Fr WK s t.2)
    (hMm : ∀ g, MT A g → g 86 3 = s 86 3 → wp (fM g) (fun r => MT A' r.2 ∧ r.1 = v ∧ r.2 86 3 = m ∧ r.2 86 4 = g 86 4 ∧ r.2 86 5 = g 86 5)) (frM : ∀ g t, fM g = some t → Fr WM g t.2)
    (wk : ∀ a, a ∈ WK → (3 ≤ a ∧ a ≤ 55)) (wm : ∀ a, a ∈ WM → (86 ≤ a ∧ a ≤ 104) ∨ (111 ≤ a ∧ a ≤ 122)) : ∃ v s1 s2, fK s = some (v, s1) ∧ fM s1 = some (v, s2) ∧ Rel RC RU s2 := by
  obtain ⟨⟨zv, s1⟩, e1, k1, hzv, k2, k3, k4, k5⟩ := hK
  have f1 : ∀ a, ¬ (3 ≤ a ∧ a ≤ 55) → s1 a = s a := fun a h => frK _ e1 a (fun q => h (wk a q))
  have hM1 : MT A s1 := MT_k hM (fun a h1 h2 => f1 a (by omega))
  obtain ⟨⟨zw, s2⟩, e2, m1, hzw, m2, m3, m4⟩ := hMm s1 hM1 (by rw [f1 86 (by decide)])
  have f2 : ∀ a, ¬ ((86 ≤ a ∧ a ≤ 104) ∨ (111 ≤ a ∧ a ≤ 122)) → s2 a = s1 a := fun a h => frM _ _ e2 a (fun q => h (wm a q))
  dsimp only at k1 k2 k3 k4 k5 m1 m2 m3 m4
  have f3 : ∀ a, ¬ (3 ≤ a ∧ a ≤ 55) → ¬ ((86 ≤ a ∧ a ≤ 104) ∨ (111 ≤ a ∧ a ≤ 122)) → s2 a = s a := fun a h1 h2 => (f2 a h2).trans (f1 a h1)
  refine ⟨zv, s1, s2, e1, by rw [e2, show zw = zv from hzw.trans hzv.symm], Rel_town hC hU hs hA' (KT_c k1 (fun i hi => f2 _ (by omega))) m1 (fun a ha => f3 a (by omega) (by omega)) ?_ ?_ ?_ ?_ ?_⟩
  · rw [f2 3 (by decide), k3, m2]
  · rw [f2 3 (by decide)]; exact ⟨k4, k5⟩
  · rw [m3, m4, f1 86 (by decide)]; exact ⟨rfl, rfl⟩
  · rw [f3 85 (by decide) (by decide)]; exact ⟨rfl, rfl, rfl⟩
  · rw [f2 44 (by decide), f2 21 (by decide)]; exact k2
theorem OB_town2 (hC : hRC RC) (hU : hRU RU) {s : kM} (hs : Rel RC RU s) {A A' : zA} (hA' : okA A') (hM : MT A s) {fK fM : kM → Option (Int × kM)} {v : Int} (WK WM : List Nat)
    (hK : wp (fK s) (fun r => KT 4 A' r.2 ∧ r.1 = v ∧ r.2 44 0 = 0 ∧ r.2 21 16 = 0 ∧ r.2 21 18 = 0)) (frK : ∀ t, fK s = some t → Fr WK s t.2)
    (hMm : ∀ g, MT A g → wp (fM g) (fun r => MT A' r.2 ∧ r.1 = v ∧ r.2 86 3 = g 86 3 ∧ r.2 86 4 = g 86 4 ∧ r.2 86 5 = g 86 5)) (frM : ∀ g t, fM g = some t → Fr WM g t.2)
    (wk : ∀ a, a ∈ WK → (4 ≤ a ∧ a ≤ 55)) (wm : ∀ a, a ∈ WM → (86 ≤ a ∧ a ≤ 104) ∨ (111 ≤ a ∧ a ≤ 122)) : ∃ v s1 s2, fK s = some (v, s1) ∧ fM s1 = some (v, s2) ∧ Rel RC RU s2 := by
  have hs' := hs
  obtain ⟨B, -, -, -, -, q5, -⟩ := hs'
  refine OB_town3 hC hU hs hA' hM (v := v) (m := s 3 1) WK WM ?_ frK ?_ frM (fun a ha => by have := wk a ha; omega) wm
  · refine (wp_fr hK frK).mono ?_
    rintro r ⟨⟨h1, h2, h3⟩, h4⟩
    have : r.2 3 = s 3 := h4 3 (fun q => by have := wk 3 q; omega)
    rw [this]
    exact ⟨h1, h2, h3, rfl, rfl, rfl⟩
  · intro g hg h3
    refine (hMm g hg).mono ?_
    rintro r ⟨h1, h2, h4, h5, h6⟩
    exact ⟨h1, h2, by rw [h4, h3, q5.1], h5, h6⟩
end TOWN
