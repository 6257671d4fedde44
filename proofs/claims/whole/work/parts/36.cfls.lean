/-! CHANGES: bridges changed on both sides -/
theorem fls_d (A : zA) (X : Nat) : ∀ n, fls A X n = (aR A, aF A, aN A, (fun j => if ap A j / 2 < n ∧ X.testBit (ap A j / 2) = true then fx (ap A j) else ap A j), fun i => if i < n ∧ X.testBit i = true then 1 - ah A i else ah A i)
  | 0 => by
    show A = _
    simp only [Nat.not_lt_zero, false_and, if_false]
  | n + 1 => by
    rw [fls_s, fls_d A X n]
    by_cases c : X.testBit n = true
    · rw [if_pos c]
      show (aR A, aF A, aN A, _, _) = (aR A, aF A, aN A, _, _)
      refine congrArg (fun z => (aR A, aF A, aN A, z)) (Prod.ext (funext fun j => ?_) (funext fun i => ?_))
      · show (if (if ap A j / 2 < n ∧ X.testBit (ap A j / 2) = true then fx (ap A j) else ap A j) / 2 = n then fx (if ap A j / 2 < n ∧ X.testBit (ap A j / 2) = true then fx (ap A j) else ap A j) else (if ap A j / 2 < n ∧ X.testBit (ap A j / 2) = true then fx (ap A j) else ap A j)) = (if ap A j / 2 < n + 1 ∧ X.testBit (ap A j / 2) = true then fx (ap A j) else ap A j)
        by_cases h1 : ap A j / 2 < n ∧ X.testBit (ap A j / 2) = true
        · rw [if_pos h1, fx_h, if_neg (by omega), if_pos ⟨by omega, h1.2⟩]
        · rw [if_neg h1]
          by_cases h2 : ap A j / 2 = n
          · rw [if_pos h2, if_pos ⟨by omega, by rw [h2]; exact c⟩]
          · rw [if_neg h2, if_neg]
            rintro ⟨a, b⟩
            exact h1 ⟨by omega, b⟩
      · show (if i = n then 1 - (if n < n ∧ X.testBit n = true then 1 - ah A n else ah A n) else (if i < n ∧ X.testBit i = true then 1 - ah A i else ah A i)) = (if i < n + 1 ∧ X.testBit i = true then 1 - ah A i else ah A i)
        by_cases h2 : i = n
        · rw [if_pos h2, if_neg (fun z => Nat.lt_irrefl n z.1), if_pos ⟨by omega, by rw [h2]; exact c⟩, h2]
        · rw [if_neg h2]
          by_cases h1 : i < n ∧ X.testBit i = true
          · rw [if_pos h1, if_pos ⟨by omega, h1.2⟩]
          · rw [if_neg h1, if_neg]
            rintro ⟨a, b⟩
            exact h1 ⟨by omega, b⟩
    · rw [if_neg c]
      refine congrArg (fun z => (aR A, aF A, aN A, z)) (Prod.ext (funext fun j => ?_) (funext fun i => ?_))
      · dsimp only
        by_cases h1 : ap A j / 2 < n ∧ X.testBit (ap A j / 2) = true
        · rw [if_pos h1, if_pos ⟨by omega, h1.2⟩]
        · rw [if_neg h1, if_neg]
          rintro ⟨a, b⟩
          refine h1 ⟨?_, b⟩
          by_cases h2 : ap A j / 2 = n
          · rw [h2] at b
            exact absurd b c
          · omega
      · dsimp only
        by_cases h1 : i < n ∧ X.testBit i = true
        · rw [if_pos h1, if_pos ⟨by omega, h1.2⟩]
        · rw [if_neg h1, if_neg]
          rintro ⟨a, b⟩
          refine h1 ⟨?_, b⟩
          by_cases h2 : i = n
          · rw [h2] at b
            exact absurd b c
          · omega
theorem fls_ok {A : zA} (hA : okA A) (X : Nat) : ∀ n, okA (fls A X n)
  | 0 => hA
  | n + 1 => by
    rw [fls_s]
    split
    · exact okA_fl (fls_ok hA X n) n
    · exact fls_ok hA X n
theorem fls_pr {A : zA} {X : Nat} {k : Nat} : ∀ n, pr (fls A X n) k ↔ pr A k
  | 0 => Iff.rfl
  | n + 1 => by
    rw [fls_s]
    split
    · rw [pr_fl]
      exact fls_pr n
    · exact fls_pr n
/-- done twice is undone -/
theorem fls_2 {A : zA} (hA : okA A) {X : Nat} (hX : ∀ k, X.testBit k = true → pr A k) : fls (fls A X 11) X 11 = A := by
  have h1 : (fun j => if (if ap A j / 2 < 11 ∧ X.testBit (ap A j / 2) = true then fx (ap A j) else ap A j) / 2 < 11 ∧ X.testBit ((if ap A j / 2 < 11 ∧ X.testBit (ap A j / 2) = true then fx (ap A j) else ap A j) / 2) = true then fx (if ap A j / 2 < 11 ∧ X.testBit (ap A j / 2) = true then fx (ap A j) else ap A j) else (if ap A j / 2 < 11 ∧ X.testBit (ap A j / 2) = true then fx (ap A j) else ap A j)) = ap A := by
    funext j
    by_cases c : ap A j / 2 < 11 ∧ X.testBit (ap A j / 2) = true
    · rw [if_pos c, fx_h, if_pos c, fx_fx]
    · rw [if_neg c, if_neg c]
  have h2 : (fun i => if i < 11 ∧ X.testBit i = true then 1 - (if i < 11 ∧ X.testBit i = true then 1 - ah A i else ah A i) else (if i < 11 ∧ X.testBit i = true then 1 - ah A i else ah A i)) = ah A := by
    funext i
    by_cases c : i < 11 ∧ X.testBit i = true
    · have := hA.2.2.2.2 i (hX i c.2)
      rw [if_pos c, if_pos c]
      omega
    · rw [if_neg c, if_neg c]
  have h3 : ∀ p q, p = ap A → q = ah A → ((aR A, aF A, aN A, p, q) : zA) = A := by
    rintro p q rfl rfl
    rfl
  rw [fls_d (fls A X 11) X 11, fls_d A X 11]
  exact h3 _ _ h1 h2
theorem sub_pr {A : zA} {X : Nat} (h : sub X (mk (ap A) (aN A))) {k : Nat} (hk : X.testBit k = true) : pr A k := by
  unfold sub at h
  rw [← h, Nat.testBit_and, Bool.and_eq_true_iff] at hk
  exact mk_pr hk.2
theorem mk_2048 {A : zA} (hA : okB A) : mk (ap A) (aN A) < 2048 := mk_lt hA.2.2.2.1
theorem wp_changesAll {A : zA} (hA : okA A) {s : kM} (hM : MT A s) {X : Nat} (hX : X < 2048) (hp : ∀ k, X.testBit k = true → pr A k) : wp (f_M_changesAll X s) (fun t => MT (fls A X 11) t) := by
  unfold f_M_changesAll f_M_changesAll_2
  refine wp_for 11 (fun n y => y.1 = (n : Int) ∧ MT (fls A X n) y.2) 0 _ (by omega) (by omega) (by exact ⟨rfl, hM⟩) ?_ ?_
  · rintro n ⟨y1, w⟩ _ hn ⟨rfl, q1⟩
    dsimp only at q1
    dsimp only
    unfold f_M_changesAll_2b f_M_changesAll_15
    rw [if_neg (by omega), kbit (by omega) (by omega)]
    by_cases c : X.testBit n = true
    · have hpb : pb (fls A X n) n = true := pb_iff.mpr ((fls_pr n).mpr (hp n c))
      obtain ⟨t, f1, t1⟩ := wp_changes1 (fls_ok hA X n) q1 hpb
      rw [if_pos c, if_pos rfl, f1, Option.bind_some, wp_some, gE_l, wI_s (by omega), fls_s, if_pos c]
      exact ⟨rfl, t1⟩
    · rw [if_neg c, if_neg (by decide), wp_some, gE_l, wI_s (by omega), fls_s, if_neg c]
      exact ⟨rfl, q1⟩
  · rintro ⟨y1, w⟩ ⟨rfl, q1⟩
    dsimp only at q1
    dsimp only
    unfold f_M_changesAll_2b
    rw [if_pos (by decide), wp_some, gE_r]
    exact q1
theorem wp_tryOut {A : zA} (hA : okA A) {s : kM} (hK : KT 4 A s) {X : Nat} (hX : X < 2048) (hp : ∀ k, X.testBit k = true → pr A k) : wp (f_Search_tryOut 4 X s) (fun r => KT 34 (fls A X 11) r.2 ∧ r.1 = (if lks (fls A X 11) 11 = 0 then 1 else 0)) := by
  unfold f_Search_tryOut f_Search_tryOut_6
  obtain ⟨s1, f1, t1⟩ := wp_copyFrom (b := 34) (c := 4) rfl rfl (by decide) hA.1 hK.1
  rw [f1, Option.bind_some]
  refine wp_for 11 (fun n y => y.1 = (n : Int) ∧ KT 34 (fls A X n) y.2) 0 _ (by omega) (by omega) (by exact ⟨rfl, t1⟩) ?_ ?_
  · rintro n ⟨y1, w⟩ _ hn ⟨rfl, q1⟩
    dsimp only at q1
    dsimp only
    unfold f_Search_tryOut_6b f_Search_tryOut_20
    rw [if_neg (by omega), kbit (by omega) (by omega)]
    by_cases c : X.testBit n = true
    · have hpb : pb (fls A X n) n = true := pb_iff.mpr ((fls_pr n).mpr (hp n c))
      obtain ⟨t, f2, t2⟩ := wp_flip (fls_ok hA X n) q1 hpb
      rw [if_pos c, if_pos rfl, f2, Option.bind_some, wp_some, gE_l, wI_s (by omega), fls_s, if_pos c]
      exact ⟨rfl, t2⟩
    · rw [if_neg c, if_neg (by decide), wp_some, gE_l, wI_s (by omega), fls_s, if_neg c]
      exact ⟨rfl, q1⟩
  · rintro ⟨y1, w⟩ ⟨rfl, q1⟩
    dsimp only at q1
    dsimp only
    unfold f_Search_tryOut_6b
    rw [if_pos (by decide), e_sharedHands (fls_ok hA X 11) q1, Option.bind_some, lks_e]
    by_cases c : lks (fls A X 11) 11 = 0
    · rw [if_pos c, if_pos c, wp_some, gE_r]
      exact ⟨q1, rfl⟩
    · rw [if_neg c, if_neg c, wp_some, gE_r]
      exact ⟨q1, rfl⟩
/-! the reference -/
def fch (A : zA) (n : Nat) (s w : kM) : Prop := MT A w ∧ (∀ j, j < 6 → w 86 j = s 86 j) ∧ (∀ i, i ≠ 20 → i ≠ 52 → i ≠ 53 → i ≠ 54 → w 85 i = s 85 i) ∧ ((chF A n).1 ≠ -2 → w 85 54 = (((chF A n).2 : Nat) : Int))
theorem kand_sub {n P : Nat} (hn : n < 2048) (hP : P < 2048) : kand (n : Int) (P : Int) = (n : Int) ↔ n &&& P = n := by
  rw [kand_n (by omega) (by omega)]
  omega
theorem wp_findsCh {A : zA} (hA : okA A) {s : kM} (hM : MT A s) : wp (f_M_findsChanges s) (fun r => r.1 = (chF A (cnn A)).1 ∧ fch A (cnn A) s r.2) := by
  have hN := cnn_e A
  have hP := mk_2048 hA.1
  unfold f_M_findsChanges f_M_findsChanges_7
  rw [e_presentSet hA hM, Option.bind_some]
  refine wp_for (cnn A) (fun n y => y.1 = (chF A n).1 ∧ y.2.1 = (n : Int) ∧ fch A n s y.2.2) 0 _ (by omega) (by omega) (by exact ⟨rfl, rfl, hM, fun _ _ => rfl, fun _ _ _ _ _ => rfl, fun z => absurd rfl z⟩) ?_ ?_
  · rintro n ⟨y1, y2, w⟩ _ hn ⟨q0, rfl, q1, q2, q3, q4⟩
    dsimp only at q0 q1 q2 q3 q4
    have hn2 : n < 2048 := by omega
    have ho : ∀ t : kM, f_M_ones (n : Int) t = some ((oc n 11 : Nat) : Int) := fun t => e_ones hn2 t
    have skip : ¬ (n &&& mk (ap A) (aN A) = n ∧ ((chF A n).1 = -2 ∨ ((oc n 11 : Nat) : Int) < (chF A n).1) ∧ 0 ≤ shv (fls A n 11)) → ∀ u : kM, fch A n s u → wp (f_M_findsChanges_39 ((mk (ap A) (aN A) : Nat) : Int) y1 (n : Int) u) (gE (fun (y : Int × Int × kM) => y.1 = (chF A (n + 1)).1 ∧ y.2.1 = ((n + 1 : Nat) : Int) ∧ fch A (n + 1) s y.2.2) (fun (r : Int × kM) => r.1 = (chF A (cnn A)).1 ∧ fch A (cnn A) s r.2)) := by
      intro hno u hu
      unfold f_M_findsChanges_39
      rw [wp_some, gE_l, wI_s (by omega)]
      have e : chF A (n + 1) = chF A n := by rw [chF_s, if_neg hno]
      unfold fch at hu ⊢
      rw [e]
      exact ⟨q0, rfl, hu⟩
    have go : n &&& mk (ap A) (aN A) = n → ((chF A n).1 = -2 ∨ ((oc n 11 : Nat) : Int) < (chF A n).1) → wp (f_M_findsChanges_22 ((mk (ap A) (aN A) : Nat) : Int) y1 (n : Int) w) (gE (fun (y : Int × Int × kM) => y.1 = (chF A (n + 1)).1 ∧ y.2.1 = ((n + 1 : Nat) : Int) ∧ fch A (n + 1) s y.2.2) (fun (r : Int × kM) => r.1 = (chF A (cnn A)).1 ∧ fch A (cnn A) s r.2)) := by
      intro c1 c2
      have hp : ∀ k, n.testBit k = true → pr A k := fun k hk => sub_pr c1 hk
      have hp2 : ∀ k, n.testBit k = true → pr (fls A n 11) k := fun k hk => (fls_pr 11).mpr (hp k hk)
      obtain ⟨w1, f1, m1⟩ := wp_changesAll hA q1 hn2 hp
      have d1 : ∀ z, z ∉ W_M_changesAll → w1 z = w z := w_M_changesAll n w w1 f1
      obtain ⟨⟨zv, w2⟩, f2, g1, g2, g3, g4, -⟩ := wp_finds (fls_ok hA n 11) m1
      dsimp only at g1 g2 g3 g4
      obtain ⟨w3, f3, m3⟩ := wp_changesAll (fls_ok hA n 11) g2 hn2 hp2
      have d3 : ∀ z, z ∉ W_M_changesAll → w3 z = w2 z := w_M_changesAll n w2 w3 f3
      rw [fls_2 hA hp] at m3
      have e86 : ∀ j, j < 6 → w3 86 j = s 86 j := fun j hj => by rw [d3 86 (by decide), g3 j hj, d1 86 (by decide)]; exact q2 j hj
      have e85 : ∀ i, i ≠ 20 → i ≠ 52 → i ≠ 53 → w3 85 i = w 85 i := fun i i1 i2 i3 => by rw [d3 85 (by decide), g4 i i1 i2 i3, d1 85 (by decide)]
      unfold f_M_findsChanges_22
      rw [f1, Option.bind_some, f2, Option.bind_some]
      dsimp only
      rw [f3, Option.bind_some, g1]
      by_cases c3 : shv (fls A n 11) < 0
      · rw [if_pos c3]
        exact skip (fun z => by have := z.2.2; omega) w3 ⟨m3, e86, fun i i1 i2 i3 i4 => by rw [e85 i i1 i2 i3]; exact q3 i i1 i2 i3 i4, fun z => by rw [e85 54 (by decide) (by decide) (by decide)]; exact q4 z⟩
      · have e : chF A (n + 1) = (((oc n 11 : Nat) : Int), n) := by rw [chF_s, if_pos ⟨c1, c2, by omega⟩]
        rw [if_neg c3, ho, Option.bind_some, gLet_eq]
        unfold f_M_findsChanges_39 fch
        rw [wp_some, gE_l, wI_s (by omega), e]
        refine ⟨rfl, rfl, MT_c m3 (by dsimp only; rw [gU_n _ _ _ (by decide)]; exact ⟨rfl, rfl, rfl⟩) (by dsimp only; rw [gU_n _ _ _ (by decide)]) (by dsimp only; rw [gU_n _ _ _ (by decide)]) (by dsimp only; rw [gU_n _ _ _ (by decide)]) (by dsimp only; rw [gU_n _ _ _ (by decide)]) (by dsimp only; rw [gU_n _ _ _ (by decide)]), fun j hj => by dsimp only; rw [gU_n _ _ _ (by decide)]; exact e86 j hj, fun i i1 i2 i3 i4 => by dsimp only; rw [gUo _ _ _ i4, e85 i i1 i2 i3]; exact q3 i i1 i2 i3 i4, fun _ => by dsimp only; rw [gUs]⟩
    have hfch : fch A n s w := ⟨q1, q2, q3, q4⟩
    dsimp only
    unfold f_M_findsChanges_7b
    rw [if_neg (by omega)]
    by_cases c1 : n &&& mk (ap A) (aN A) = n
    · rw [if_pos ((kand_sub hn2 hP).mpr c1)]
      by_cases c2 : y1 = -2
      · rw [if_pos c2]
        exact go c1 (Or.inl (by rw [← q0]; exact c2))
      · rw [if_neg c2, ho, Option.bind_some]
        by_cases c3 : y1 ≤ ((oc n 11 : Nat) : Int)
        · rw [if_pos c3]
          refine skip (fun z => ?_) w hfch
          rcases z.2.1 with a | a
          · exact c2 (by rw [q0]; exact a)
          · omega
        · rw [if_neg c3]
          exact go c1 (Or.inr (by omega))
    · rw [if_neg (fun z => c1 ((kand_sub hn2 hP).mp z))]
      exact skip (fun z => c1 z.1) w hfch
  · rintro ⟨y1, y2, w⟩ ⟨q0, rfl, q1⟩
    dsimp only at q0 q1
    dsimp only
    unfold f_M_findsChanges_7b
    rw [if_pos (by omega), wp_some, gE_r]
    exact ⟨q0, q1⟩
