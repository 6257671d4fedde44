theorem e_goesUnder {A : zA} (hA : okB A) {s : kM} (hM : MR A s) {r a e : Nat} (hr : r = 0 ∨ r = 1) (hae : a ≤ e) (he : e ≤ aN A) (h1 : f_M_beginOf r s = some (a : Int)) (h2 : s 86 (1 + r) = (e : Int) - a) : f_M_goesUnder r s = some (if uc (ap A) a (e - a) = 0 then 0 else 1) := by
  have hn := okB_n hA
  have hj : gI 6 ((1 + r : Nat) : Int) = some (1 + r) := gI_n (by omega)
  unfold f_M_goesUnder
  rw [h1, Option.bind_some]
  unfold f_M_goesUnder_6
  apply wp_eq
  refine wp_for e (fun k x => x.1 = (if uc (ap A) a (k - a) = 0 then (0 : Int) else 1) ∧ x.2 = (k : Int)) a _ hae (by omega) (by exact ⟨by rw [Nat.sub_self]; rfl, rfl⟩) ?_ ?_
  · rintro k ⟨y1, y2⟩ hak hke ⟨rfl, rfl⟩
    have e88 := (hM.2.2.2.1 k (by omega)).2
    have es : uc (ap A) a (k + 1 - a) = uc (ap A) a (k - a) + if ap A k % 2 = 0 then 1 else 0 := by
      rw [show k + 1 - a = (k - a) + 1 by omega, uc_succ, show a + (k - a) = k by omega]
    have hnle : ¬ (a : Int) + ((e : Int) - a) ≤ (k : Int) := by omega
    have hk22 : gI 22 (k : Int) = some k := gI_n (by omega)
    have hkl : k < 2147483647 := by omega
    have hrl : r < 2147483647 := by omega
    have hae2 : wI ((a : Int) + ((e : Int) - a)) = (a : Int) + ((e : Int) - a) := wI_id (by omega) (by omega)
    dsimp only
    unfold f_M_goesUnder_6b f_M_goesUnder_25 f_M_goesUnder_28
    rw [h1, Option.bind_some, wI_1 hrl, hj, Option.bind_some, h2, hae2, if_neg hnle, hk22, Option.bind_some, e88, wI_s hkl]
    clear hae2
    by_cases hu : uc (ap A) a (k - a) = 0
    · rw [if_pos hu, if_pos rfl]
      by_cases hp : ap A k % 2 = 0
      · rw [if_pos hp] at es
        rw [if_pos (show ((ap A k % 2 : Nat) : Int) = 0 by omega), wp_some, gE_l, if_neg (show ¬ uc (ap A) a (k + 1 - a) = 0 by omega)]
        exact ⟨rfl, rfl⟩
      · rw [if_neg hp] at es
        rw [if_neg (show ¬ ((ap A k % 2 : Nat) : Int) = 0 by omega), wp_some, gE_l, if_pos (show uc (ap A) a (k + 1 - a) = 0 by omega)]
        exact ⟨rfl, rfl⟩
    · rw [if_neg hu, if_neg (show ¬ (1 : Int) = 0 by decide), wp_some, gE_l, if_neg (show ¬ uc (ap A) a (k + 1 - a) = 0 by omega)]
      exact ⟨rfl, rfl⟩
  · rintro ⟨y1, y2⟩ ⟨rfl, rfl⟩
    have hle : (a : Int) + ((e : Int) - a) ≤ (e : Int) := by omega
    have hrl : r < 2147483647 := by omega
    have hae2 : wI ((a : Int) + ((e : Int) - a)) = (a : Int) + ((e : Int) - a) := wI_id (by omega) (by omega)
    dsimp only
    unfold f_M_goesUnder_6b
    rw [h1, Option.bind_some, wI_1 hrl, hj, Option.bind_some, h2, hae2, if_pos hle]
    clear hae2
    by_cases hu : uc (ap A) a (e - a) = 0
    · rw [if_pos hu]
      exact ⟨_, rfl, rfl⟩
    · rw [if_neg hu]
      exact ⟨_, rfl, rfl⟩
/-- what the walk's first half has done by place q -/
def fbI (A : zA) (s : kM) (q : Nat) (t : kM) : Prop := (∀ z, z ≠ 85 → z ≠ 115 → t z = s z) ∧ (∀ i, i ≠ 44 → t 85 i = s 85 i) ∧ t 85 44 = ((bbc A q : Nat) : Int) ∧ ∀ j, j < q → t 115 j = bgA A j
theorem bbc_le (A : zA) : ∀ q, bbc A q ≤ q
  | 0 => Nat.le_refl 0
  | q + 1 => by
    have := bbc_le A q
    rw [bbc_s]
    split <;> omega
theorem wp_fb1 {A : zA} (hA : okA A) {s t : kM} (hM : MR A s) {q : Nat} (hq : q < aN A) (hI : fbI A s q t) : wp (f_M_fillsBows_5b q t) (gE (fun x => x.1 = ((q + 1 : Nat) : Int) ∧ fbI A s (q + 1) x.2) (fun _ : kM => False)) := by
  have hn := okB_n hA.1
  obtain ⟨i1, i2, i3, i4⟩ := hI
  have hMt : MR A t := by
    unfold MR at hM ⊢
    rw [i1 86 (by decide) (by decide), i1 87 (by decide) (by decide), i1 88 (by decide) (by decide), i1 89 (by decide) (by decide)]
    exact hM
  have hbl := bbc_le A q
  obtain ⟨k1, k2, k3⟩ := rAE hA.1 hq
  have hql : q < 2147483647 := by omega
  have q23 : gI 23 (q : Int) = some q := gI_n (by omega)
  have q22 : gI 22 (q : Int) = some q := gI_n (by omega)
  have nle : ¬ (aN A : Int) ≤ (q : Int) := by omega
  -- the two ends
  have yes : ∀ g : kM, (∀ z, z ≠ 85 → z ≠ 115 → g z = s z) → (∀ i, i ≠ 44 → g 85 i = s 85 i) → g 85 44 = ((bbc A q : Nat) : Int) → (∀ j, j < q → g 115 j = bgA A j) → bgA A q ≠ -1 → wp (f_M_fillsBows_38 q g) (gE (fun x => x.1 = ((q + 1 : Nat) : Int) ∧ fbI A s (q + 1) x.2) (fun _ : kM => False)) := by
    intro g g1 g2 g3 g4 hb
    have hbb := bg_bbc hA.1 hq hb
    have hw : wI (((bbc A q : Nat) : Int) + 1) = ((bbc A q + 1 : Nat) : Int) := wI_s (by omega)
    unfold f_M_fillsBows_38 f_M_fillsBows_50
    rw [q23, Option.bind_some, gLet_eq, gLet_eq, wp_some, gE_l]
    dsimp only
    rw [wI_s hql]
    refine ⟨rfl, fun z z1 z2 => by rw [gU_n _ _ _ z1, gU_n _ _ _ z2]; exact g1 z z1 z2, fun i hi => by rw [gUo _ _ _ hi, gUn _ _ _ (by decide)]; exact g2 i hi, ?_, fun j hj => ?_⟩
    · rw [gUs, gUn _ _ _ (by decide), g3, hw, bbc_s, if_neg hb]
    · rw [gUn _ _ _ (by decide)]
      by_cases hjq : j = q
      · rw [hjq, gUs, g3, hbb]
      · rw [gUo _ _ _ hjq]
        exact g4 j (by omega)
  have no : ∀ g : kM, (∀ z, z ≠ 85 → z ≠ 115 → g z = s z) → (∀ i, i ≠ 44 → g 85 i = s 85 i) → g 85 44 = ((bbc A q : Nat) : Int) → (∀ j, j < q → g 115 j = bgA A j) → g 115 q = -1 → bgA A q = -1 → wp (f_M_fillsBows_50 q g) (gE (fun x => x.1 = ((q + 1 : Nat) : Int) ∧ fbI A s (q + 1) x.2) (fun _ : kM => False)) := by
    intro g g1 g2 g3 g4 g5 hb
    unfold f_M_fillsBows_50
    rw [wp_some, gE_l]
    dsimp only
    rw [wI_s hql]
    refine ⟨rfl, g1, g2, ?_, fun j hj => ?_⟩
    · rw [g3, bbc_s, if_pos hb, Nat.add_zero]
    · by_cases hjq : j = q
      · rw [hjq, g5, hb]
      · exact g4 j (by omega)
  obtain ⟨g, hg⟩ : ∃ g, g = gU t 115 q (-1) := ⟨_, rfl⟩
  have g1 : ∀ z, z ≠ 85 → z ≠ 115 → g z = s z := fun z z1 z2 => by rw [hg, gU_n _ _ _ z2]; exact i1 z z1 z2
  have g2 : ∀ i, i ≠ 44 → g 85 i = s 85 i := fun i hi => by rw [hg, gUn _ _ _ (by decide)]; exact i2 i hi
  have g3 : g 85 44 = ((bbc A q : Nat) : Int) := by rw [hg, gUn _ _ _ (by decide)]; exact i3
  have g4 : ∀ j, j < q → g 115 j = bgA A j := fun j hj => by rw [hg, gUo _ _ _ (by omega)]; exact i4 j hj
  have g5 : g 115 q = -1 := by rw [hg, gUs]
  have hMg : MR A g := by
    unfold MR at hM ⊢
    rw [g1 86 (by decide) (by decide), g1 87 (by decide) (by decide), g1 88 (by decide) (by decide), g1 89 (by decide) (by decide)]
    exact hM
  have g88 : g 88 q = ((ap A q % 2 : Nat) : Int) := (hMg.2.2.2.1 q hq).2
  obtain ⟨r, hr, hroad, hbeg, hlen⟩ : ∃ r : Nat, (r = 0 ∨ r = 1) ∧ (if (aF A : Int) ≤ q then (1 : Int) else 0) = r ∧ (if (r : Int) = 0 then 0 else (aF A : Int)) = ((rA A q : Nat) : Int) ∧ g 86 (1 + r) = ((rE A q : Nat) : Int) - ((rA A q : Nat) : Int) := by
    unfold rA rE
    by_cases hF : q < aF A
    · exact ⟨0, Or.inl rfl, by rw [if_neg (by omega)]; rfl, by rw [if_pos hF]; rfl, by rw [if_pos hF, if_pos hF, hMg.2.1]; omega⟩
    · exact ⟨1, Or.inr rfl, by rw [if_pos (by omega)]; rfl, by rw [if_neg hF]; rfl, by rw [if_neg hF, if_neg hF, hMg.2.2.1]⟩
  have hgu : f_M_goesUnder r g = some (if ru A q = 0 then 0 else 1) := e_goesUnder hA.1 hMg hr (by omega) k3 (by rw [e_M_beginOf hMg, hbeg]) hlen
  -- at a place, first of its road or not
  have at19 : ∀ y : Int, (y = 0 ↔ q ≠ rA A q) → wp (f_M_fillsBows_19 q y t) (gE (fun x => x.1 = ((q + 1 : Nat) : Int) ∧ fbI A s (q + 1) x.2) (fun _ : kM => False)) := by
    intro y hy
    unfold f_M_fillsBows_19
    rw [q23, Option.bind_some, gLet_eq, ← hg, q22, Option.bind_some, g88]
    by_cases hp : ap A q % 2 = 0
    · rw [if_pos (show ((ap A q % 2 : Nat) : Int) = 0 by omega)]
      refine yes g g1 g2 g3 g4 ?_
      unfold bgA
      rw [if_pos hp]
      omega
    · rw [if_neg (show ¬ ((ap A q % 2 : Nat) : Int) = 0 by omega)]
      by_cases hy0 : y = 0
      · rw [if_pos hy0]
        refine no g g1 g2 g3 g4 g5 ?_
        unfold bgA
        rw [if_neg hp, if_neg (fun z => (hy.mp hy0) z.1)]
      · rw [if_neg hy0, e_M_roadOf hMg, hroad, Option.bind_some, hgu, Option.bind_some]
        have hfirst : q = rA A q := Classical.not_not.mp (fun z => hy0 (hy.mpr z))
        by_cases hu : ru A q = 0
        · rw [if_pos hu, if_pos rfl]
          refine yes g g1 g2 g3 g4 ?_
          unfold bgA
          rw [if_neg hp, if_pos ⟨hfirst, hu⟩]
          omega
        · rw [if_neg hu, if_neg (by decide)]
          refine no g g1 g2 g3 g4 g5 ?_
          unfold bgA
          rw [if_neg hp, if_neg (fun z => hu z.2)]
  unfold f_M_fillsBows_5b
  rw [e_M_places hA.1 hMt, Option.bind_some, if_neg nle, e_M_roadOf hMt, hroad, Option.bind_some, e_M_beginOf hMt, hbeg, Option.bind_some]
  by_cases hfirst : (q : Int) = ((rA A q : Nat) : Int)
  · rw [if_pos hfirst]
    exact at19 1 ⟨fun z => absurd z (by decide), fun z => absurd (by omega : q = rA A q) z⟩
  · rw [if_neg hfirst]
    exact at19 0 ⟨fun _ z => hfirst (by omega), fun _ => rfl⟩
