/-! SEARCH: the reference lays a row out, does a move -/
theorem wp_laysRow {B : zA} (hB : okA B) {k : Nat} (hk : k ≤ 300) {s : kM} (hR : Rw k B s) (h0 : s 86 0 = ((aR B : Nat) : Int)) (h9 : ∀ i, pr B i → s 89 i = ((ah B i : Nat) : Int)) : wp (f_M_laysRow k s) (fun t => MT B t ∧ ∀ i, i ≠ 1 → i ≠ 2 → t 86 i = s 86 i) := by
  obtain ⟨r1, r2, r3⟩ := hR
  have hn := okB_n hB.1
  have e0 := wI24 hk
  have e1 : wI (((24 * k : Nat) : Int) + 1) = ((24 * k + 1 : Nat) : Int) := wI_s (by clear e0; omega)
  have e2 : wI (((24 * k : Nat) : Int) + 2) = ((24 * k + 2 : Nat) : Int) := wI_add2 (b := 2) (by clear e0 e1; omega)
  unfold f_M_laysRow f_M_laysRow_24
  rw [e0, gI_n (by clear e0 e1 e2; omega), Option.bind_some, gLet_eq, e1, gI_n (by clear e0 e1 e2; omega), Option.bind_some, gLet_eq, gU_n _ _ _ (by decide), r1, r2]
  obtain ⟨G, hG⟩ : ∃ G, G = gU (gU s 86 1 ((aF B : Nat) : Int)) 86 2 (((aN B : Nat) : Int) - ((aF B : Nat) : Int)) := ⟨_, rfl⟩
  have g1 : ∀ z, z ≠ 86 → G z = s z := fun z hz => by rw [hG, gU_n _ _ _ hz, gU_n _ _ _ hz]
  have g2 : ∀ i, i ≠ 1 → i ≠ 2 → G 86 i = s 86 i := fun i a b => by rw [hG, gUo _ _ _ b, gUo _ _ _ a]
  have g3 : G 86 1 = ((aF B : Nat) : Int) := by rw [hG, gUo _ _ _ (by decide), gUs]
  have g4 : G 86 2 = ((aN B : Nat) : Int) - ((aF B : Nat) : Int) := by rw [hG, gUs]
  rw [← hG]
  clear hG e1
  have pl : ∀ w : kM, w 86 = G 86 → f_M_places w = some ((aN B : Nat) : Int) := fun w hw => by
    clear e0 e2
    unfold f_M_places
    rw [hw, g3, g4, wI_id (by omega) (by omega)]
    congr 1
    omega
  refine wp_for (aN B) (fun n x => x.1 = (n : Int) ∧ (∀ z, z ≠ 87 → z ≠ 88 → x.2 z = G z) ∧ ∀ j, j < n → x.2 87 j = ((ap B j / 2 : Nat) : Int) ∧ x.2 88 j = ((ap B j % 2 : Nat) : Int)) 0 _ (by omega) (by omega) (by exact ⟨rfl, fun _ _ _ => rfl, fun j hj => absurd hj (Nat.not_lt_zero j)⟩) ?_ ?_
  · rintro n ⟨y1, w⟩ _ hq ⟨rfl, q1, q2⟩
    dsimp only at q1 q2
    have ej : wI (((24 * k + 2 : Nat) : Int) + (n : Int)) = ((24 * k + 2 + n : Nat) : Int) := wI_add2 (by clear e0 e2; omega)
    have hb := hB.1.2.2.2.1 n hq
    have e120 : w 120 (24 * k + 2 + n) = ((ap B n : Nat) : Int) := by rw [q1 120 (by decide) (by decide), g1 120 (by decide), r3 n (by clear e0 e2 ej; omega), if_pos hq]
    dsimp only
    unfold f_M_laysRow_24b
    rw [pl w (q1 86 (by decide) (by decide)), Option.bind_some, if_neg (by clear e0 e2 ej; omega), e0, e2, ej, gI_n (by clear e0 e2 ej; omega), Option.bind_some, gI_n (by clear e0 e2 ej; omega), Option.bind_some, gLet_eq, Option.bind_some, Option.bind_some, gLet_eq, gU_n _ _ _ (by decide), e120, wp_some, gE_l, wI_s (by clear e0 e2 ej; omega)]
    clear e0 e2 ej
    have ed : kdiv ((ap B n : Nat) : Int) 2 = ((ap B n / 2 : Nat) : Int) := kdiv_n (b := 2) (by omega) (by omega) (by omega)
    have em : krem ((ap B n : Nat) : Int) 2 = ((ap B n % 2 : Nat) : Int) := krem_n (b := 2) (by omega) (by omega) (by omega)
    rw [ed, em]
    clear ed em
    refine ⟨rfl, fun z z1 z2 => by dsimp only; rw [gU_n _ _ _ z2, gU_n _ _ _ z1]; exact q1 z z1 z2, fun j hj => ?_⟩
    dsimp only
    by_cases c : j = n
    · rw [c, gU_n _ _ _ (by decide), gUs, gUs]
      exact ⟨rfl, rfl⟩
    · rw [gU_n _ _ _ (by decide), gUo _ _ _ c, gUo _ _ _ c, gU_n _ _ _ (by decide)]
      exact q2 j (by omega)
  · rintro ⟨y1, w⟩ ⟨rfl, q1, q2⟩
    dsimp only at q1 q2
    have w86 : w 86 = G 86 := q1 86 (by decide) (by decide)
    have hMR : MR B w := ⟨by rw [w86, g2 0 (by decide) (by decide)]; exact h0, by rw [w86]; exact g3, by rw [w86]; exact g4, q2, fun i hi => by rw [q1 89 (by decide) (by decide), g1 89 (by decide)]; exact h9 i hi⟩
    obtain ⟨r, f1, t1⟩ := wp_refresh hB.1 hMR
    have fr : ∀ z, z ∉ W_M_refresh → r z = w z := w_M_refresh w r f1
    dsimp only
    unfold f_M_laysRow_24b
    rw [pl w w86, Option.bind_some, if_pos (Int.le_refl _), f1, Option.bind_some, wp_some, gE_r]
    exact ⟨t1, fun i a b => by rw [fr 86 (by decide), w86]; exact g2 i a b⟩
theorem wp_does {B : zA} (hB : okA B) {s : kM} (hM : MT B s) {m : Nat} (hm : m < 1463) (hP : PK B (2 * aN B) m = true) (h116 : 132 ≤ m → ∀ i, i < 3 → s 116 i = ((sit B (SK B (2 * aN B) m) i / 2 : Nat) : Int)) : wp (f_M_does m s) (fun t => MT (mvA B m) t) := by
  obtain ⟨b0, b1, b2⟩ := e_bridgeOf hm s
  obtain ⟨l1, l2, l3⟩ := mv_lt hm
  have k1 : kshl 1 ((mv1 m : Nat) : Int) = ((2 ^ mv1 m : Nat) : Int) := kone (by omega)
  have k2 : kshl 1 ((mv2 m : Nat) : Int) = ((2 ^ mv2 m : Nat) : Int) := kone (by omega)
  have p1 : 2 ^ mv1 m < 2 ^ 11 := Nat.pow_lt_pow_right (by decide) l1
  have p2 : 2 ^ mv2 m < 2 ^ 11 := Nat.pow_lt_pow_right (by decide) l2
  have hgb := gb_lt hm
  unfold f_M_does
  rw [b0, Option.bind_some, e_kindOf, Option.bind_some]
  by_cases h1 : m < 11
  · have ek : knd m = 1 := by unfold knd; rw [if_pos h1]
    have eg : gb m = 2 ^ mv1 m := by unfold gb; rw [if_pos h1]
    have eB : mvA B m = drp (gb m) B := by unfold mvA; rw [if_pos (by omega)]
    rw [ek, if_pos (by decide), k1, ← eg, eB]
    obtain ⟨t, f1, t1, -⟩ := wp_removes hB hM hgb
    rw [f1, Option.bind_some, wp_some]
    exact t1
  · by_cases h2 : m < 132
    · have ek : knd m = 2 := by unfold knd; rw [if_neg h1, if_pos h2]
      have eg : gb m = 2 ^ mv1 m ||| 2 ^ mv2 m := by unfold gb; rw [if_neg h1, if_pos h2]
      have eB : mvA B m = drp (gb m) B := by unfold mvA; rw [if_pos h2]
      rw [ek, if_neg (by decide), if_pos (by decide), b1, if_neg h1, Option.bind_some, k1, k2, kor_n (by omega) (by omega), ← eg, eB]
      obtain ⟨t, f1, t1, -⟩ := wp_removes hB hM hgb
      rw [f1, Option.bind_some, wp_some]
      exact t1
    · have ek : knd m = 3 := by unfold knd; rw [if_neg h1, if_neg h2]
      have eB : mvA B m = sw3 B (SK B (2 * aN B) m / 2) (sgm B (SK B (2 * aN B) m) / 2) (sgm B (sgm B (SK B (2 * aN B) m)) / 2) := by unfold mvA; rw [if_neg h2]
      obtain ⟨q1, q2, q3⟩ := mv_sl hB h2 hP
      rw [ek, if_neg (by decide), if_neg (by decide), eB]
      obtain ⟨t, f1, t1⟩ := wp_M_slides hB hM q1 q2 q3 (h116 (by omega) 0 (by decide)) (h116 (by omega) 1 (by decide)) (h116 (by omega) 2 (by decide))
      rw [f1, Option.bind_some, wp_some]
      exact t1
def MOu (x : zS) (o : Int) (s : kM) : Prop := MRw x.1 s ∧ match x.2 with
  | none => o = 0 ∧ s 85 53 = -1 ∧ s 85 52 = ((x.1.length : Nat) : Int)
  | some none => o = 1 ∧ s 85 53 = -1
  | some (some q) => o = 0 ∧ s 85 53 = ((x.1.length : Nat) : Int) ∧ s 121 x.1.length = ((q.1 : Nat) : Int) ∧ s 122 x.1.length = ((q.2 : Nat) : Int)
theorem MOu_n {x : zS} {o : Int} {s : kM} (h : MOu x o s) (hx : x.2 = none) : MRw x.1 s ∧ o = 0 ∧ s 85 53 = -1 ∧ s 85 52 = ((x.1.length : Nat) : Int) := by
  obtain ⟨h1, h2⟩ := h
  rw [hx] at h2
  exact ⟨h1, h2⟩
theorem MOu_o {x : zS} {o : Int} {s : kM} (h : MOu x o s) (hx : x.2 = some none) : MRw x.1 s ∧ o = 1 ∧ s 85 53 = -1 := by
  obtain ⟨h1, h2⟩ := h
  rw [hx] at h2
  exact ⟨h1, h2⟩
theorem MOu_f {x : zS} {o : Int} {s : kM} {k m : Nat} (h : MOu x o s) (hx : x.2 = some (some (k, m))) : MRw x.1 s ∧ o = 0 ∧ s 85 53 = ((x.1.length : Nat) : Int) ∧ s 121 x.1.length = (k : Int) ∧ s 122 x.1.length = (m : Int) := by
  obtain ⟨h1, h2⟩ := h
  rw [hx] at h2
  exact ⟨h1, h2⟩
theorem MOu_c {x : zS} {o : Int} {s t : kM} (h : MOu x o s) (h1 : t 120 = s 120) (h2 : t 121 = s 121) (h3 : t 122 = s 122) (h4 : t 85 53 = s 85 53) (h5 : t 85 52 = s 85 52) : MOu x o t := by
  unfold MOu MRw Rw at h ⊢
  rw [h1, h2, h3, h4, h5]
  exact h
theorem cmo_MOu {x : zS} (hx : x.2 = none) {B : zA} {k m : Nat} {r : Int × kM} (h : cmo x.1 B (k : Int) (m : Int) r) : MOu (cmf x B k m) r.1 r.2 := by
  obtain ⟨h1, h2⟩ := h
  unfold cmf
  rcases h2 with ⟨a1, a2, a3, a4⟩ | ⟨a1, a2, a3, a4, a5, a6, a7⟩ | ⟨a1, a2, a3, a4, a5⟩ | ⟨a1, a2, a3, a4, a5, a6, a7, a8, a9⟩
  · rw [if_pos a1]
    refine ⟨h1, ?_⟩
    rw [hx]
    exact ⟨a2, a4, a3⟩
  · rw [if_neg a1, if_pos a2]
    exact ⟨h1, a3, a5, a6, a7⟩
  · rw [if_neg a1, if_neg a2, if_pos a3]
    exact ⟨h1, a4, a5⟩
  · rw [if_neg a1, if_neg a2, if_neg a3]
    have hlen : (x.1 ++ [((B, (k : Int), m) : zE)]).length = x.1.length + 1 := by rw [List.length_append]; rfl
    refine ⟨fun j e he => ?_, a4, a6, by show _ = (((x.1 ++ [((B, (k : Int), m) : zE)]).length : Nat) : Int); rw [hlen]; exact a5⟩
    have he' : (x.1 ++ [((B, (k : Int), m) : zE)])[j]? = some e := he
    by_cases hj : j < x.1.length
    · rw [List.getElem?_append_left hj] at he'
      exact h1 j e he'
    · rw [List.getElem?_append_right (by omega)] at he'
      by_cases hj2 : j = x.1.length
      · rw [hj2, Nat.sub_self] at he'
        have he2 : some ((B, (k : Int), m) : zE) = some e := he'
        injection he2 with he3
        subst he3
        rw [hj2]
        exact ⟨a7, a8, fun _ => a9⟩
      · rw [List.getElem?_eq_none (show [((B, (k : Int), m) : zE)].length ≤ j - x.1.length by show 1 ≤ _; omega)] at he'
        cases he'
theorem fLd_d {A : zA} {s t w : kM} (h : fLd A s t) (h1 : w 100 = t 100) (h2 : w 102 = t 102) (h3 : w 103 = t 103) (h4 : w 85 20 = t 85 20) : fLd A w w := by
  obtain ⟨-, -, a3, a4, a5⟩ := h
  refine ⟨fun _ _ _ _ _ _ => rfl, fun _ _ => rfl, by rw [h1]; exact a3, by rw [h4]; exact a4, fun k hk => ?_⟩
  rw [h2, h3]
  exact a5 k hk
