/-! SEARCH: the reference's rows -/
def Rw (k : Nat) (B : zA) (s : kM) : Prop := s 120 (24 * k) = ((aF B : Nat) : Int) ∧ s 120 (24 * k + 1) = ((aN B : Nat) : Int) - ((aF B : Nat) : Int) ∧ ∀ q, q < 22 → s 120 (24 * k + 2 + q) = if q < aN B then ((ap B q : Nat) : Int) else -1
theorem wI24 {k : Nat} (hk : k ≤ 300) : wI (24 * (k : Int)) = ((24 * k : Nat) : Int) := by rw [wI_id (by omega) (by omega)]; omega
theorem wp_fillsRow {B : zA} (hB : okA B) {s : kM} (hM : MR B s) {k : Nat} (hk : k ≤ 300) : wp (f_M_fillsRow k s) (fun t => Rw k B t ∧ (∀ z, z ≠ 120 → t z = s z) ∧ ∀ j, j < 24 * k ∨ 24 * k + 24 ≤ j → t 120 j = s 120 j) := by
  have hn := okB_n hB.1
  have e0 := wI24 hk
  have e1 : wI (((24 * k : Nat) : Int) + 1) = ((24 * k + 1 : Nat) : Int) := wI_s (by clear e0; omega)
  have e2 : wI (((24 * k : Nat) : Int) + 2) = ((24 * k + 2 : Nat) : Int) := wI_add2 (b := 2) (by clear e0 e1; omega)
  unfold f_M_fillsRow f_M_fillsRow_24
  rw [e0, gI_n (by clear e0 e1 e2; omega), Option.bind_some, gLet_eq, e1, gI_n (by clear e0 e1 e2; omega), Option.bind_some, gLet_eq, gU_n _ _ _ (by decide), hM.2.1, hM.2.2.1]
  obtain ⟨G, hG⟩ : ∃ G, G = gU (gU s 120 (24 * k) ((aF B : Nat) : Int)) 120 (24 * k + 1) (((aN B : Nat) : Int) - ((aF B : Nat) : Int)) := ⟨_, rfl⟩
  have g1 : ∀ z, z ≠ 120 → G z = s z := fun z hz => by rw [hG, gU_n _ _ _ hz, gU_n _ _ _ hz]
  have g2 : G 120 (24 * k) = ((aF B : Nat) : Int) := by rw [hG, gUo _ _ _ (by clear e0 e1 e2; omega), gUs]
  have g3 : G 120 (24 * k + 1) = ((aN B : Nat) : Int) - ((aF B : Nat) : Int) := by rw [hG, gUs]
  have g4 : ∀ j, j < 24 * k ∨ 24 * k + 24 ≤ j → G 120 j = s 120 j := fun j hj => by rw [hG, gUo _ _ _ (by clear e0 e1 e2; omega), gUo _ _ _ (by clear e0 e1 e2; omega)]
  rw [← hG]
  clear hG e1
  refine wp_for 22 (fun n x => x.1 = (n : Int) ∧ (∀ z, z ≠ 120 → x.2 z = s z) ∧ x.2 120 (24 * k) = ((aF B : Nat) : Int) ∧ x.2 120 (24 * k + 1) = ((aN B : Nat) : Int) - ((aF B : Nat) : Int) ∧ (∀ q, q < n → x.2 120 (24 * k + 2 + q) = if q < aN B then ((ap B q : Nat) : Int) else -1) ∧ ∀ j, j < 24 * k ∨ 24 * k + 24 ≤ j → x.2 120 j = s 120 j) 0 _ (by omega) (by omega) (by exact ⟨rfl, g1, g2, g3, fun q hq => absurd hq (Nat.not_lt_zero q), g4⟩) ?_ ?_
  · rintro n ⟨y1, w⟩ _ hq ⟨rfl, q1, q2, q3, q4, q5⟩
    dsimp only at q1 q2 q3 q4 q5
    have hMw : MR B w := by
      unfold MR at hM ⊢
      rw [q1 86 (by decide), q1 87 (by decide), q1 88 (by decide), q1 89 (by decide)]
      exact hM
    have ej : wI (((24 * k + 2 : Nat) : Int) + (n : Int)) = ((24 * k + 2 + n : Nat) : Int) := wI_add2 (by clear e0 e2; omega)
    have fin : ∀ y : Int, y = (if n < aN B then ((ap B n : Nat) : Int) else -1) → wp (f_M_fillsRow_53 k n ((24 * k + 2 + n : Nat) : Int) y w) (gE (fun x => x.1 = ((n + 1 : Nat) : Int) ∧ (∀ z, z ≠ 120 → x.2 z = s z) ∧ x.2 120 (24 * k) = ((aF B : Nat) : Int) ∧ x.2 120 (24 * k + 1) = ((aN B : Nat) : Int) - ((aF B : Nat) : Int) ∧ (∀ q, q < n + 1 → x.2 120 (24 * k + 2 + q) = if q < aN B then ((ap B q : Nat) : Int) else -1) ∧ ∀ j, j < 24 * k ∨ 24 * k + 24 ≤ j → x.2 120 j = s 120 j) (fun t => Rw k B t ∧ (∀ z, z ≠ 120 → t z = s z) ∧ ∀ j, j < 24 * k ∨ 24 * k + 24 ≤ j → t 120 j = s 120 j)) := by
      intro y hy
      clear ej e0 e2
      unfold f_M_fillsRow_53
      rw [gI_n (by omega), Option.bind_some, gLet_eq, wp_some, gE_l, wI_s (by omega)]
      refine ⟨rfl, fun z hz => by dsimp only; rw [gU_n _ _ _ hz]; exact q1 z hz, by dsimp only; rw [gUo _ _ _ (by omega)]; exact q2, by dsimp only; rw [gUo _ _ _ (by omega)]; exact q3, fun q hq2 => ?_, fun j hj => by dsimp only; rw [gUo _ _ _ (by omega)]; exact q5 j hj⟩
      dsimp only
      by_cases c : q = n
      · rw [c, gUs, hy]
      · rw [gUo _ _ _ (by omega)]
        exact q4 q (by omega)
    dsimp only
    unfold f_M_fillsRow_24b
    rw [if_neg (by clear e0 e2 ej; omega), e_M_places hB.1 hMw, Option.bind_some, e0, e2, ej]
    by_cases c : n < aN B
    · obtain ⟨m1, m2⟩ := hMw.2.2.2.1 n c
      have hb := hB.1.2.2.2.1 n c
      rw [if_neg (by clear e0 e2 ej; omega), gI_n (by clear e0 e2 ej; omega), Option.bind_some, Option.bind_some, m1, m2]
      refine fin _ ?_
      clear e0 e2 ej
      rw [if_pos c, wI_id (x := 2 * ((ap B n / 2 : Nat) : Int)) (by omega) (by omega), wI_id (by omega) (by omega)]
      omega
    · rw [if_pos (by clear e0 e2 ej; omega)]
      exact fin _ (by rw [if_neg c])
  · rintro ⟨y1, w⟩ ⟨rfl, q1, q2, q3, q4, q5⟩
    dsimp only at q1 q2 q3 q4 q5
    dsimp only
    unfold f_M_fillsRow_24b
    rw [if_pos (by decide), wp_some, gE_r]
    exact ⟨⟨q2, q3, q4⟩, q1, q5⟩
theorem Rw_eq {k n : Nat} {C B : zA} {s : kM} (hC : okB C) (hB : okB B) (h1 : Rw k C s) (h2 : Rw n B s) : (∀ i, i < 24 → s 120 (24 * k + i) = s 120 (24 * n + i)) ↔ smb C B = true := by
  obtain ⟨a1, a2, a3⟩ := h1
  obtain ⟨b1, b2, b3⟩ := h2
  have c1 := okB_n hC
  have c2 := okB_n hB
  unfold smb
  rw [decide_eq_true_eq]
  constructor
  · intro h
    have e0 := h 0 (by decide)
    have e1 := h 1 (by decide)
    rw [Nat.add_zero, Nat.add_zero, a1, b1] at e0
    rw [a2, b2] at e1
    refine ⟨by omega, by omega, fun j hj => ?_⟩
    have e2 := h (2 + j) (by omega)
    rw [← Nat.add_assoc, ← Nat.add_assoc, a3 j (by omega), b3 j (by omega), if_pos hj, if_pos (by omega)] at e2
    omega
  · rintro ⟨h1, h2, h3⟩ i hi
    by_cases c : i = 0
    · rw [c, Nat.add_zero, Nat.add_zero, a1, b1, h2]
    · by_cases d : i = 1
      · rw [d, a2, b2, h1, h2]
      · obtain ⟨q, rfl⟩ : ∃ q, i = 2 + q := ⟨i - 2, by omega⟩
        rw [← Nat.add_assoc, ← Nat.add_assoc, a3 q (by omega), b3 q (by omega), ← h1]
        by_cases hq : q < aN C
        · rw [if_pos hq, if_pos hq, h3 q hq]
        · rw [if_neg hq, if_neg hq]
def MRw (l : List zE) (s : kM) : Prop := ∀ (j : Nat) (e : zE), l[j]? = some e → Rw j e.1 s ∧ s 121 j = e.2.1 ∧ (0 < j → s 122 j = ((e.2.2 : Nat) : Int))
theorem wp_isOld {G : zA → Prop} (hG : ∀ B, G B → okA B) {x : zS} (hS : SI G x) {s : kM} (hR : MRw x.1 s) (h52 : s 85 52 = ((x.1.length : Nat) : Int)) {B : zA} (hB : okA B) (hM : MR B s) : wp (f_M_isOld s) (fun r => r.1 = (if oldb x.1 B = true then 1 else 0) ∧ MRw x.1 r.2 ∧ Rw x.1.length B r.2 ∧ ∀ z, z ≠ 120 → r.2 z = s z) := by
  have hl := hS.1
  obtain ⟨n, hn⟩ : ∃ n, n = x.1.length := ⟨_, rfl⟩
  rw [← hn] at h52 hl ⊢
  unfold f_M_isOld
  rw [h52]
  obtain ⟨t, f1, t1, t2, t3⟩ := wp_fillsRow hB hM hl
  rw [f1, Option.bind_some]
  have hRt : MRw x.1 t := by
    intro j e he
    have hj := (List.getElem?_eq_some_iff.mp he).1
    obtain ⟨⟨a1, a2, a3⟩, a4, a5⟩ := hR j e he
    refine ⟨⟨by rw [t3 _ (by omega)]; exact a1, by rw [t3 _ (by omega)]; exact a2, fun q hq => by rw [t3 _ (by omega)]; exact a3 q hq⟩, by rw [t2 121 (by decide)]; exact a4, fun h0 => by rw [t2 122 (by decide)]; exact a5 h0⟩
  have t52 : t 85 52 = (n : Int) := by rw [t2 85 (by decide)]; exact h52
  have e0n := wI24 hl
  unfold f_M_isOld_6
  refine wp_for n (fun k y => y = (k : Int) ∧ ∀ j, j < k → ¬ ∀ i, i < 24 → t 120 (24 * j + i) = t 120 (24 * n + i)) 0 _ (by omega) (by omega) (by exact ⟨rfl, fun j hj => absurd hj (Nat.not_lt_zero j)⟩) ?_ ?_
  · rintro k y _ hk ⟨rfl, q1⟩
    have e0k := wI24 (k := k) (by clear e0n; omega)
    unfold f_M_isOld_6b
    rw [t52, if_neg (by clear e0n e0k; omega)]
    unfold f_M_isOld_14
    have he := List.getElem?_eq_getElem (show k < x.1.length by clear e0n e0k; omega)
    refine wp_for 24 (fun i y => y.2 = (i : Int) ∧ ((y.1 = 1 ∧ ∀ j, j < i → t 120 (24 * k + j) = t 120 (24 * n + j)) ∨ (y.1 = 0 ∧ ∃ j, j < 24 ∧ t 120 (24 * k + j) ≠ t 120 (24 * n + j)))) 0 _ (by omega) (by omega) (by exact ⟨rfl, Or.inl ⟨rfl, fun j hj => absurd hj (Nat.not_lt_zero j)⟩⟩) ?_ ?_
    · rintro i ⟨y1, y2⟩ _ hi ⟨rfl, q2⟩
      dsimp only at q2
      dsimp only
      unfold f_M_isOld_14b
      rw [if_neg (by clear e0n e0k; omega)]
      rcases q2 with ⟨rfl, q2⟩ | ⟨rfl, j, hj, q2⟩
      · have ei : wI (((24 * k : Nat) : Int) + (i : Int)) = ((24 * k + i : Nat) : Int) := wI_add2 (by clear e0n e0k; omega)
        have ein : wI (((24 * n : Nat) : Int) + (i : Int)) = ((24 * n + i : Nat) : Int) := wI_add2 (by clear e0n e0k ei; omega)
        rw [if_neg (by decide), e0k, ei, gI_n (by clear e0n e0k ei ein; omega), Option.bind_some, t52, e0n, ein, gI_n (by clear e0n e0k ei ein; omega), Option.bind_some]
        clear ei ein e0n e0k
        unfold f_M_isOld_40
        by_cases c : t 120 (24 * k + i) = t 120 (24 * n + i)
        · rw [if_pos c, wp_some, gE_l, wI_s (by omega)]
          refine ⟨rfl, Or.inl ⟨rfl, fun j hj => ?_⟩⟩
          by_cases cj : j = i
          · rw [cj]; exact c
          · exact q2 j (by omega)
        · rw [if_neg c, wp_some, gE_l, wI_s (by omega)]
          exact ⟨rfl, Or.inr ⟨rfl, i, hi, c⟩⟩
      · clear e0n e0k
        unfold f_M_isOld_43
        rw [if_pos rfl, if_pos rfl, wI_s (by omega)]
        show wp (some (Sum.inr (Sum.inl ((k + 1 : Nat) : Int)))) _
        rw [wp_some, gE_r, gE_l]
        refine ⟨rfl, fun j' hj' => ?_⟩
        by_cases c : j' = k
        · rw [c]
          exact fun z => q2 (z j hj)
        · exact q1 j' (by omega)
    · rintro ⟨y1, y2⟩ ⟨rfl, q2⟩
      dsimp only at q2
      dsimp only
      unfold f_M_isOld_14b f_M_isOld_43
      rw [if_pos (by decide)]
      clear e0n e0k
      rcases q2 with ⟨rfl, q2⟩ | ⟨rfl, j, hj, q2⟩
      · rw [if_neg (by decide)]
        show wp (some (Sum.inr (Sum.inr ((1 : Int), t)))) _
        rw [wp_some, gE_r, gE_r]
        have hsm := (Rw_eq (hG _ (hS.2.1 k _ he).1).1 hB.1 (hRt k _ he).1 t1).mp q2
        refine ⟨?_, hRt, t1, t2⟩
        dsimp only
        rw [if_pos (old_iff.mpr ⟨k, _, he, hsm⟩)]
      · rw [if_pos rfl, wI_s (by omega)]
        show wp (some (Sum.inr (Sum.inl ((k + 1 : Nat) : Int)))) _
        rw [wp_some, gE_r, gE_l]
        refine ⟨rfl, fun j' hj' => ?_⟩
        by_cases c : j' = k
        · rw [c]
          exact fun z => q2 (z j hj)
        · exact q1 j' (by omega)
  · rintro y ⟨rfl, q1⟩
    unfold f_M_isOld_6b
    rw [t52, if_pos (Int.le_refl _), wp_some, gE_r]
    refine ⟨?_, hRt, t1, t2⟩
    dsimp only
    rw [if_neg]
    intro z
    obtain ⟨j, e, j1, j2⟩ := old_iff.mp z
    have hj := (List.getElem?_eq_some_iff.mp j1).1
    exact q1 j (by clear e0n; omega) ((Rw_eq (hG _ (hS.2.1 j _ j1).1).1 hB.1 (hRt j _ j1).1 t1).mpr j2)
/-- a situation comes -/
def cmo (l : List zE) (B : zA) (fr zb : Int) (r : Int × kM) : Prop := MRw l r.2 ∧ ((oldb l B = true ∧ r.1 = 0 ∧ r.2 85 52 = ((l.length : Nat) : Int) ∧ r.2 85 53 = -1) ∨ (¬ oldb l B = true ∧ aN B = 0 ∧ r.1 = 0 ∧ r.2 85 52 = ((l.length + 1 : Nat) : Int) ∧ r.2 85 53 = ((l.length : Nat) : Int) ∧ r.2 121 l.length = fr ∧ r.2 122 l.length = zb) ∨ (¬ oldb l B = true ∧ aN B ≠ 0 ∧ l.length = 300 ∧ r.1 = 1 ∧ r.2 85 53 = -1) ∨ (¬ oldb l B = true ∧ aN B ≠ 0 ∧ l.length ≠ 300 ∧ r.1 = 0 ∧ r.2 85 52 = ((l.length + 1 : Nat) : Int) ∧ r.2 85 53 = -1 ∧ Rw l.length B r.2 ∧ r.2 121 l.length = fr ∧ r.2 122 l.length = zb))
theorem MRw_u {l : List zE} {s t : kM} (h : MRw l s) (h1 : t 120 = s 120) (h2 : ∀ j, j < l.length → t 121 j = s 121 j ∧ t 122 j = s 122 j) : MRw l t := by
  intro j e he
  have hj := (List.getElem?_eq_some_iff.mp he).1
  have h3 := h j e he
  unfold Rw at h3 ⊢
  rw [h1, (h2 j hj).1, (h2 j hj).2]
  exact h3
theorem wp_comes {G : zA → Prop} (hG : ∀ B, G B → okA B) {x : zS} (hS : SI G x) {s : kM} (hR : MRw x.1 s) (h52 : s 85 52 = ((x.1.length : Nat) : Int)) (h53 : s 85 53 = -1) {B : zA} (hB : okA B) (hM : MR B s) (fr zb : Int) : wp (f_M_comes fr zb s) (fun r => cmo x.1 B fr zb r ∧ ∀ i, i ≠ 52 → i ≠ 53 → r.2 85 i = s 85 i) := by
  have hl := hS.1
  have hn := okB_n hB.1
  obtain ⟨⟨o, t⟩, f1, t1, t2, t3, t4⟩ := wp_isOld hG hS hR h52 hB hM
  dsimp only at t1 t2 t3 t4
  have a52 : t 85 52 = ((x.1.length : Nat) : Int) := by rw [t4 85 (by decide)]; exact h52
  have a53 : t 85 53 = -1 := by rw [t4 85 (by decide)]; exact h53
  have a85 : ∀ i, t 85 i = s 85 i := fun i => by rw [t4 85 (by decide)]
  have hMt : MR B t := by
    unfold MR at hM ⊢
    rw [t4 86 (by decide), t4 87 (by decide), t4 88 (by decide), t4 89 (by decide)]
    exact hM
  unfold f_M_comes cmo
  rw [f1, Option.bind_some]
  dsimp only
  by_cases ho : oldb x.1 B = true
  · rw [if_pos ho] at t1
    rw [if_neg (by rw [t1]; decide), wp_some]
    exact ⟨⟨t2, Or.inl ⟨ho, rfl, a52, a53⟩⟩, fun i _ _ => a85 i⟩
  · rw [if_neg ho] at t1
    rw [if_pos t1, e_M_places hB.1 hMt, Option.bind_some]
    have g20 : ∀ y0 : Int, (y0 = 0 ∨ y0 = 1) → f_M_comes_20 fr zb y0 t = some (0, gU (gU (gU (gU t 121 x.1.length fr) 122 x.1.length zb) 85 53 (if y0 = 0 then -1 else ((x.1.length : Nat) : Int))) 85 52 ((x.1.length + 1 : Nat) : Int)) := by
      intro y0 hy
      unfold f_M_comes_20 f_M_comes_40
      rw [a52, gI_n (by omega), Option.bind_some, gLet_eq, gU_n _ _ _ (by decide), a52, gI_n (by omega), Option.bind_some, gLet_eq]
      rcases hy with rfl | rfl
      · rw [if_pos rfl, if_pos rfl, gLet_eq, gLet_eq, gUo _ _ _ (by decide), gU_n _ _ _ (by decide), gU_n _ _ _ (by decide), a53, a52, wI_s (by omega)]
      · rw [if_neg (by decide), if_neg (by decide), gLet_eq, gLet_eq, gUo _ _ _ (by decide), gU_n _ _ _ (by decide), gU_n _ _ _ (by decide), a52, wI_s (by omega)]
    have hfr : ∀ y : Int, MRw x.1 (gU (gU (gU (gU t 121 x.1.length fr) 122 x.1.length zb) 85 53 y) 85 52 ((x.1.length + 1 : Nat) : Int)) ∧ (∀ i, i ≠ 52 → i ≠ 53 → gU (gU (gU (gU t 121 x.1.length fr) 122 x.1.length zb) 85 53 y) 85 52 ((x.1.length + 1 : Nat) : Int) 85 i = s 85 i) ∧ gU (gU (gU (gU t 121 x.1.length fr) 122 x.1.length zb) 85 53 y) 85 52 ((x.1.length + 1 : Nat) : Int) 121 x.1.length = fr ∧ gU (gU (gU (gU t 121 x.1.length fr) 122 x.1.length zb) 85 53 y) 85 52 ((x.1.length + 1 : Nat) : Int) 122 x.1.length = zb ∧ Rw x.1.length B (gU (gU (gU (gU t 121 x.1.length fr) 122 x.1.length zb) 85 53 y) 85 52 ((x.1.length + 1 : Nat) : Int)) := by
      intro y
      refine ⟨MRw_u t2 (by rw [gU_n _ _ _ (by decide), gU_n _ _ _ (by decide), gU_n _ _ _ (by decide), gU_n _ _ _ (by decide)]) (fun j hj => ⟨by rw [gU_n _ _ _ (by decide), gU_n _ _ _ (by decide), gU_n _ _ _ (by decide), gUo _ _ _ (by omega)], by rw [gU_n _ _ _ (by decide), gU_n _ _ _ (by decide), gUo _ _ _ (by omega), gU_n _ _ _ (by decide)]⟩), fun i i1 i2 => by rw [gUo _ _ _ i1, gUo _ _ _ i2, gU_n _ _ _ (by decide), gU_n _ _ _ (by decide)]; exact a85 i, by rw [gU_n _ _ _ (by decide), gU_n _ _ _ (by decide), gU_n _ _ _ (by decide), gUs], by rw [gU_n _ _ _ (by decide), gU_n _ _ _ (by decide), gUs], ?_⟩
      unfold Rw at t3 ⊢
      rw [gU_n _ _ _ (by decide), gU_n _ _ _ (by decide), gU_n _ _ _ (by decide), gU_n _ _ _ (by decide)]
      exact t3
    by_cases h0 : aN B = 0
    · rw [if_pos (by omega)]
      have e11 : f_M_comes_11 fr zb 1 t = f_M_comes_20 fr zb 1 t := by
        unfold f_M_comes_11
        rw [if_neg (show ¬ (1 : Int) = 0 by decide), ite_self]
      obtain ⟨b1, b2, b3, b4, b5⟩ := hfr ((x.1.length : Nat) : Int)
      rw [e11, g20 1 (Or.inr rfl), wp_some, if_neg (by decide)]
      refine ⟨⟨b1, Or.inr (Or.inl ⟨ho, h0, rfl, by dsimp only; rw [gUs], by dsimp only; rw [gUo _ _ _ (by decide), gUs], b3, b4⟩)⟩, b2⟩
    · rw [if_neg (by omega)]
      unfold f_M_comes_11
      rw [a52]
      by_cases h3 : x.1.length = 300
      · rw [if_pos (by omega), if_pos rfl, wp_some]
        exact ⟨⟨t2, Or.inr (Or.inr (Or.inl ⟨ho, h0, h3, rfl, a53⟩))⟩, fun i _ _ => a85 i⟩
      · obtain ⟨b1, b2, b3, b4, b5⟩ := hfr (-1)
        rw [if_neg (by omega), g20 0 (Or.inl rfl), wp_some, if_pos rfl]
        refine ⟨⟨b1, Or.inr (Or.inr (Or.inr ⟨ho, h0, h3, rfl, by dsimp only; rw [gUs], by dsimp only; rw [gUo _ _ _ (by decide), gUs], b5, b3, b4⟩))⟩, b2⟩
