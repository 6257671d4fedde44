/-! CHANGES -/
def gd (A : zA) (X : Nat) : Prop := sub X (mk (ap A) (aN A)) ∧ 0 ≤ shv (fls A X 11)
theorem chF_sp (A : zA) : ∀ n, ((chF A n).1 = -2 ∧ ∀ X, X < n → ¬ gd A X) ∨ ((chF A n).1 = ((oc (chF A n).2 11 : Nat) : Int) ∧ (chF A n).2 < n ∧ gd A (chF A n).2 ∧ ∀ X, X < n → gd A X → oc (chF A n).2 11 < oc X 11 ∨ (oc (chF A n).2 11 = oc X 11 ∧ (chF A n).2 ≤ X))
  | 0 => Or.inl ⟨rfl, fun X h => absurd h (Nat.not_lt_zero X)⟩
  | n + 1 => by
    have ih := chF_sp A n
    by_cases c : n &&& mk (ap A) (aN A) = n ∧ ((chF A n).1 = -2 ∨ ((oc n 11 : Nat) : Int) < (chF A n).1) ∧ 0 ≤ shv (fls A n 11)
    · rw [chF_s, if_pos c]
      dsimp only
      refine Or.inr ⟨rfl, by omega, ⟨c.1, c.2.2⟩, fun X hX hg => ?_⟩
      by_cases hn : X = n
      · rw [hn]
        exact Or.inr ⟨rfl, Nat.le_refl _⟩
      · rcases ih with ⟨i1, i2⟩ | ⟨i1, i2, i3, i4⟩
        · exact absurd hg (i2 X (by omega))
        · have h4 := i4 X (by omega) hg
          rcases c.2.1 with d | d
          · omega
          · omega
    · rw [chF_s, if_neg c]
      rcases ih with ⟨i1, i2⟩ | ⟨i1, i2, i3, i4⟩
      · refine Or.inl ⟨i1, fun X hX hg => ?_⟩
        by_cases hn : X = n
        · rw [hn] at hg
          exact c ⟨hg.1, Or.inl i1, hg.2⟩
        · exact i2 X (by omega) hg
      · refine Or.inr ⟨i1, by omega, i3, fun X hX hg => ?_⟩
        by_cases hn : X = n
        · rw [hn] at hg ⊢
          by_cases d : ((oc n 11 : Nat) : Int) < (chF A n).1
          · exact absurd ⟨hg.1, Or.inr d, hg.2⟩ c
          · omega
        · exact i4 X (by omega) hg
theorem gd_lt {A : zA} (hA : okB A) {X : Nat} (h : gd A X) : X < 2048 := by
  have := sub_le h.1
  have := mk_2048 hA
  omega
theorem chv_f {A : zA} (hA : okB A) {X k : Nat} (h1 : gd A X) (h2 : oc X 11 = k) (h3 : ∀ Z, gd A Z → k ≤ oc Z 11) (h4 : ∀ Z, gd A Z → oc Z 11 = k → X ≤ Z) : chv A = (X : Int) := by
  have hN := cnn_e A
  have hX := gd_lt hA h1
  unfold chv
  rcases chF_sp A (cnn A) with ⟨i1, i2⟩ | ⟨i1, i2, i3, i4⟩
  · exact absurd h1 (i2 X (by omega))
  · rw [if_neg (by omega)]
    have a1 := i4 X (by omega) h1
    have a2 := h3 _ i3
    have a3 : oc (chF A (cnn A)).2 11 = k := by omega
    have a4 := h4 _ i3 a3
    congr 1
    omega
theorem chv_n {A : zA} (h : ∀ Z, ¬ gd A Z) : chv A = -1 := by
  unfold chv
  rcases chF_sp A (cnn A) with ⟨i1, i2⟩ | ⟨i1, i2, i3, i4⟩
  · rw [if_pos i1]
  · exact absurd i3 (h _)
theorem rk_lt : ∀ n P x, rk n P x < 2 ^ oc P n
  | 0, P, x => Nat.zero_lt_one
  | n + 1, P, x => by
    have ih := rk_lt n (P / 2) (x / 2)
    rw [rk_s, oc_half2]
    by_cases c : P % 2 = 0
    · rw [if_pos c, c, Nat.zero_add]
      exact ih
    · have c1 : P % 2 = 1 := by omega
      rw [if_neg c, c1, Nat.pow_add]
      omega
theorem oc_32 {P : Nat} (h : P < 2048) : ∀ d, oc P (11 + d) = oc P 11
  | 0 => rfl
  | d + 1 => by
    rw [← Nat.add_assoc, oc_succ, oc_32 h d, Nat.testBit_lt_two_pow (Nat.lt_of_lt_of_le h (show 2 ^ 11 ≤ 2 ^ (11 + d) from Nat.pow_le_pow_right (by decide) (by omega)))]
    rfl
theorem oc_sub {x P : Nat} (h : sub x P) (n : Nat) : oc x n ≤ oc P n := oc_mono (fun k hk => by
  unfold sub at h
  rw [← h, Nat.testBit_and, Bool.and_eq_true_iff] at hk
  exact hk.2) n
/-- between the rounds of the class -/
def cst (A : zA) (s w : kM) (Q : Prop) : Prop := KT 4 A w ∧ w 21 16 = 0 ∧ (∀ z, z < 21 ∨ 43 < z → w z = s z) ∧ ((w 21 18 = 0 ∧ Q) ∨ (w 21 18 = 1 ∧ w 21 17 = chv A))
theorem cst_m {A : zA} {s w : kM} {Q R : Prop} (h : cst A s w Q) (hq : Q → R) : cst A s w R := by
  obtain ⟨a1, a2, a3, a4⟩ := h
  refine ⟨a1, a2, a3, ?_⟩
  rcases a4 with ⟨b1, b2⟩ | b
  · exact Or.inl ⟨b1, hq b2⟩
  · exact Or.inr b
def inv30 (A : zA) (k i : Nat) (x : Int) : Prop := (i < 2 ^ oc (mk (ap A) (aN A)) 11 → ∃ X : Nat, x = (X : Int) ∧ sub X (mk (ap A) (aN A)) ∧ rk 32 (mk (ap A) (aN A)) X = i ∧ ∀ Z, gd A Z → oc Z 11 = k → X ≤ Z) ∧ (i = 2 ^ oc (mk (ap A) (aN A)) 11 → ∀ Z, gd A Z → oc Z 11 ≠ k)
theorem wp_30 {A : zA} (hA : okA A) (h6 : oc (mk (ap A) (aN A)) 11 ≤ 6) {s w0 : kM} {k : Nat} (hk : k < 7) (h0 : cst A s w0 (∀ Z, gd A Z → k ≤ oc Z 11)) : wp (f_Search_fewestChanges_30 4 ((2 ^ oc (mk (ap A) (aN A)) 11 : Nat) : Int) k 0 0 w0) (fun r => ∃ w, r = .inl (((k + 1 : Nat) : Int), w) ∧ cst A s w (∀ Z, gd A Z → k + 1 ≤ oc Z 11)) := by
  have hP := mk_2048 hA.1
  obtain ⟨N, hNd⟩ : ∃ N, N = 2 ^ oc (mk (ap A) (aN A)) 11 := ⟨_, rfl⟩
  have hN1 : 1 ≤ N := by rw [hNd]; exact Nat.two_pow_pos _
  have hN64 : N ≤ 64 := by rw [hNd]; exact (show _ ≤ 2 ^ 6 from Nat.pow_le_pow_right (by decide) h6)
  have hoc : oc (mk (ap A) (aN A)) 32 = oc (mk (ap A) (aN A)) 11 := oc_32 hP 21
  have hQ : ∀ Q : Prop, cst A s w0 Q → True := fun _ _ => trivial
  unfold f_Search_fewestChanges_30
  rw [← hNd]
  have outQ : ∀ w : kM, cst A s w ((∀ Z, gd A Z → k ≤ oc Z 11) ∧ ∀ Z, gd A Z → oc Z 11 ≠ k) → cst A s w (∀ Z, gd A Z → k + 1 ≤ oc Z 11) := fun w h => cst_m h (fun q Z hZ => by
    have := q.1 Z hZ
    have := q.2 Z hZ
    omega)
  refine wp_for N (fun i y => y.2.1 = (i : Int) ∧ cst A s y.2.2 ((∀ Z, gd A Z → k ≤ oc Z 11) ∧ inv30 A k i y.1)) 0 _ (by omega) (by omega) (by
    refine ⟨rfl, cst_m h0 (fun q => ⟨q, fun _ => ⟨0, rfl, ?_, rk_0 32 _, fun Z _ _ => Nat.zero_le Z⟩, fun z => ?_⟩)⟩
    · unfold sub
      exact Nat.zero_and _
    · rw [← hNd] at z
      omega) ?_ ?_
  · rintro i ⟨x4, x5, w⟩ _ hi ⟨rfl, q1, q2, q3, q4⟩
    dsimp only at q1 q2 q3 q4
    have w43 : w 4 3 = ((mk (ap A) (aN A) : Nat) : Int) := q1.2.1
    dsimp only
    unfold f_Search_fewestChanges_30b
    rw [if_neg (by omega)]
    rcases q4 with ⟨q5, q6, q7, -⟩ | ⟨q5, q6⟩
    · obtain ⟨X, rfl, x1, x2, x3⟩ := q7 (by rw [← hNd]; exact hi)
      have hX : X < 2048 := by have := sub_le x1; omega
      have hp : ∀ j, X.testBit j = true → pr A j := fun j hj => sub_pr x1 hj
      -- behind a set that is not the one sought
      have next : ¬ (gd A X ∧ oc X 11 = k) → ∀ u : kM, KT 4 A u → u 21 16 = 0 → (∀ z, z < 21 ∨ 43 < z → u z = s z) → u 21 18 = 0 → wp (f_Search_fewestChanges_56 4 (N : Int) k (X : Int) i u) (gE (fun (y : Int × Int × kM) => y.2.1 = ((i + 1 : Nat) : Int) ∧ cst A s y.2.2 ((∀ Z, gd A Z → k ≤ oc Z 11) ∧ inv30 A k (i + 1) y.1)) (fun r => ∃ w, r = .inl (((k + 1 : Nat) : Int), w) ∧ cst A s w (∀ Z, gd A Z → k + 1 ≤ oc Z 11))) := by
        intro hno u u1 u2 u3 u4
        have u43 : u 4 3 = ((mk (ap A) (aN A) : Nat) : Int) := u1.2.1
        obtain ⟨n1, n2⟩ := nxs_n 32 (mk (ap A) (aN A)) X (by omega) x1
        unfold f_Search_fewestChanges_56
        rw [wp_some, gE_l, u43, e_nxs hP x1, wI_s (by omega)]
        refine ⟨rfl, u1, u2, u3, Or.inl ⟨u4, q6, fun hlt => ?_, fun heq => ?_⟩⟩
        · rw [← hNd] at hlt
          by_cases c : X = mk (ap A) (aN A)
          · have hr := rk_P 32 (mk (ap A) (aN A)) (by omega)
            rw [hoc, ← hNd] at hr
            rw [← c] at hr
            rw [← c] at x2
            omega
          · obtain ⟨m1, m2, m3, m4⟩ := n2 c
            refine ⟨_, rfl, m2, by rw [m4, x2], fun Z z1 z2 => ?_⟩
            have := x3 Z z1 z2
            by_cases d : Z = X
            · rw [d] at z1 z2
              exact absurd ⟨z1, z2⟩ hno
            · exact m3 Z z1.1 (by omega)
        · rw [← hNd] at heq
          by_cases c : X = mk (ap A) (aN A)
          · intro Z z1 z2
            have a1 := x3 Z z1 z2
            have a2 := sub_le z1.1
            have a3 : Z = X := by omega
            rw [a3] at z1 z2
            exact hno ⟨z1, z2⟩
          · obtain ⟨m1, m2, m3, m4⟩ := n2 c
            have := rk_lt 32 (mk (ap A) (aN A)) (nxs 32 (mk (ap A) (aN A)) X)
            rw [hoc, ← hNd] at this
            omega
      rw [if_pos q5, e_bitCount hX, Option.bind_some]
      by_cases c1 : oc X 11 = k
      · obtain ⟨⟨r1, u1⟩, f1, a1, a2⟩ := wp_tryOut hA q1 hX hp
        have d1 : ∀ z, z ∉ W_Search_tryOut 4 → u1 z = w z := w_Search_tryOut 4 X w _ f1
        dsimp only at a1 a2
        have hKu : KT 4 A u1 := KT_c q1 (fun j hj => d1 _ (by simp [W_Search_tryOut]; omega))
        have e21 : u1 21 = w 21 := d1 21 (by decide)
        rw [if_pos (by omega), f1, Option.bind_some]
        dsimp only
        by_cases c2 : lks (fls A X 11) 11 = 0
        · rw [if_pos c2] at a2
          rw [if_neg (by rw [a2]; decide)]
          obtain ⟨⟨r2, u2⟩, f2, b1, -, b3⟩ := wp_shake (fls_ok hA X 11) (b1 := 34) rfl (Or.inr rfl) a1.1
          have d2 : ∀ z, z ∉ W_Search_shake 34 → u2 z = u1 z := w_Search_shake 34 u1 _ f2
          dsimp only at b1 b3
          have hKu2 : KT 4 A u2 := KT_c hKu (fun j hj => d2 _ (by simp [W_Search_shake]; omega))
          have fz : ∀ z, z < 21 ∨ 43 < z → u2 z = s z := fun z hz => by rw [d2 z (by simp [W_Search_shake]; omega), d1 z (by simp [W_Search_tryOut]; omega)]; exact q3 z hz
          have e16 : u2 21 16 = 0 := by rw [b3 16 (by decide), e21]; exact q2
          have e18 : u2 21 18 = 0 := by rw [b3 18 (by decide), e21]; exact q5
          rw [f2, Option.bind_some]
          dsimp only
          by_cases c3 : r2 < 0
          · rw [if_pos c3]
            exact next (fun z => by have := z.1.2; omega) u2 hKu2 e16 fz e18
          · rw [if_neg c3, gLet_eq, gLet_eq]
            have hg : gd A X := ⟨x1, by omega⟩
            have hv := chv_f hA.1 hg c1 q6 x3
            obtain ⟨G, hG⟩ : ∃ G, G = gU (gU u2 21 17 (X : Int)) 21 18 1 := ⟨_, rfl⟩
            have g1 : ∀ z, z ≠ 21 → G z = u2 z := fun z hz => by rw [hG, gU_n _ _ _ hz, gU_n _ _ _ hz]
            have g17 : G 21 17 = chv A := by rw [hG, gUo _ _ _ (by decide), gUs, hv]
            have g18 : G 21 18 = 1 := by rw [hG, gUs]
            have g16 : G 21 16 = 0 := by rw [hG, gUo _ _ _ (by decide), gUo _ _ _ (by decide)]; exact e16
            rw [← hG]
            clear hG
            unfold f_Search_fewestChanges_56
            rw [wp_some, gE_l, wI_s (by omega)]
            exact ⟨rfl, KT_c hKu2 (fun j hj => g1 _ (by omega)), g16, fun z hz => by dsimp only; rw [g1 z (by omega)]; exact fz z hz, Or.inr ⟨g18, g17⟩⟩
        · rw [if_neg c2] at a2
          rw [if_pos a2]
          exact next (fun z => c2 (shv_lk (fls_ok hA X 11) z.1.2)) u1 hKu (by rw [e21]; exact q2) (fun z hz => by rw [d1 z (by simp [W_Search_tryOut]; omega)]; exact q3 z hz) (by rw [e21]; exact q5)
      · rw [if_neg (by omega)]
        exact next (fun z => c1 z.2) w q1 q2 q3 q5
    · rw [if_neg (by rw [q5]; decide), wp_map]
      unfold f_Search_fewestChanges_66
      rw [wp_some, gE_r, wI_s (by omega)]
      exact ⟨w, rfl, q1, q2, q3, Or.inr ⟨q5, q6⟩⟩
  · rintro ⟨x4, x5, w⟩ ⟨rfl, q1⟩
    dsimp only at q1
    dsimp only
    unfold f_Search_fewestChanges_30b
    rw [if_pos (Int.le_refl _), wp_map]
    unfold f_Search_fewestChanges_66
    rw [wp_some, gE_r, wI_s (by omega)]
    exact ⟨w, rfl, outQ w (cst_m q1 (fun q => ⟨q.1, q.2.2 hNd⟩))⟩
theorem wp_68 {A : zA} {s w : kM} {zQ : Prop} (h : cst A s w zQ) (hq : zQ → chv A = -1) : wp (f_Search_fewestChanges_68 4 w) (fun r => r.1 = chv A ∧ KT 4 A r.2 ∧ r.2 21 16 = 0 ∧ (∀ z, z < 21 ∨ 43 < z → r.2 z = s z) ∧ r.2 21 17 = chv A) := by
  obtain ⟨a1, a2, a3, a4⟩ := h
  unfold f_Search_fewestChanges_68 f_Search_fewestChanges_77
  rcases a4 with ⟨b1, b2⟩ | ⟨b1, b2⟩
  · rw [if_pos b1, gLet_eq, gLet_eq, wp_some]
    dsimp only
    obtain ⟨G, hG⟩ : ∃ G, G = gU (gU w 21 17 (-1)) 21 18 1 := ⟨_, rfl⟩
    have g1 : ∀ z, z ≠ 21 → G z = w z := fun z hz => by rw [hG, gU_n _ _ _ hz, gU_n _ _ _ hz]
    have g17 : G 21 17 = chv A := by rw [hG, gUo _ _ _ (by decide), gUs, hq b2]
    have g16 : G 21 16 = 0 := by rw [hG, gUo _ _ _ (by decide), gUo _ _ _ (by decide)]; exact a2
    rw [← hG]
    exact ⟨g17, KT_c a1 (fun j hj => g1 _ (by omega)), g16, fun z hz => by rw [g1 z (by omega)]; exact a3 z hz, g17⟩
  · rw [if_neg (by rw [b1]; decide), wp_some]
    exact ⟨b2, a1, a2, a3, b2⟩
theorem wp_fewCh {A : zA} (hA : okA A) (h6 : oc (mk (ap A) (aN A)) 11 ≤ 6) {s : kM} (hK : KT 4 A s) (hR : RC0 A s) : wp (f_Search_fewestChanges 4 s) (fun r => r.1 = chv A ∧ RC0 A r.2 ∧ ∀ z, z < 21 ∨ 43 < z → r.2 z = s z) := by
  have hmi : f_Math_min ((oc (mk (ap A) (aN A)) 11 : Nat) : Int) 6 s = some ((oc (mk (ap A) (aN A)) 11 : Nat) : Int) := by
    have := e_min (oc (mk (ap A) (aN A)) 11) 6 s
    rw [show mi (oc (mk (ap A) (aN A)) 11) 6 = oc (mk (ap A) (aN A)) 11 by unfold mi; split <;> omega] at this
    exact this
  have hsh : kshl 1 ((oc (mk (ap A) (aN A)) 11 : Nat) : Int) = ((2 ^ oc (mk (ap A) (aN A)) 11 : Nat) : Int) := kone (by omega)
  unfold f_Search_fewestChanges f_Search_fewestChanges_16
  rw [e_bridges hA.1 hK, Option.bind_some, hmi, Option.bind_some, hsh]
  by_cases h18 : s 21 18 = 0
  · have key : wp (f_Search_fewestChanges_17 4 ((2 ^ oc (mk (ap A) (aN A)) 11 : Nat) : Int) 0 s) (fun r => r.1 = chv A ∧ RC0 A r.2 ∧ ∀ z, z < 21 ∨ 43 < z → r.2 z = s z) := by
      unfold f_Search_fewestChanges_17
      rw [show gB 0 = some () from rfl, Option.bind_some, gLet_eq]
      obtain ⟨G, hG⟩ : ∃ G, G = gU s 21 16 0 := ⟨_, rfl⟩
      have g1 : ∀ z, z ≠ 21 → G z = s z := fun z hz => by rw [hG, gU_n _ _ _ hz]
      have g16 : G 21 16 = 0 := by rw [hG, gUs]
      have g18 : G 21 18 = 0 := by rw [hG, gUo _ _ _ (by decide)]; exact h18
      rw [← hG]
      clear hG
      have c0 : cst A s G (∀ Z, gd A Z → 0 ≤ oc Z 11) := ⟨KT_c hK (fun j hj => g1 _ (by omega)), g16, fun z hz => g1 z (by omega), Or.inl ⟨g18, fun _ _ => Nat.zero_le _⟩⟩
      have fin : ∀ r : Int × kM, (r.1 = chv A ∧ KT 4 A r.2 ∧ r.2 21 16 = 0 ∧ (∀ z, z < 21 ∨ 43 < z → r.2 z = s z) ∧ r.2 21 17 = chv A) → r.1 = chv A ∧ RC0 A r.2 ∧ ∀ z, z < 21 ∨ 43 < z → r.2 z = s z := by
        rintro r ⟨r1, r2, r3, r4, r5⟩
        refine ⟨r1, ⟨?_, fun z => absurd r3 z, fun _ => r5⟩, r4⟩
        have := hR.1
        unfold BRC at this ⊢
        rw [r4 44 (by decide), r4 45 (by decide)]
        exact this
      unfold f_Search_fewestChanges_20
      refine wp_for 7 (fun k y => y.1 = (k : Int) ∧ cst A s y.2 (∀ Z, gd A Z → k ≤ oc Z 11)) 0 _ (by omega) (by omega) (by exact ⟨rfl, c0⟩) ?_ ?_
      · rintro k ⟨y1, w⟩ _ hk ⟨rfl, q1⟩
        dsimp only at q1
        dsimp only
        unfold f_Search_fewestChanges_20b
        rw [if_neg (by omega)]
        by_cases c : w 21 18 = 0
        · rw [if_pos c]
          obtain ⟨r, f1, w', rfl, q2⟩ := wp_30 hA h6 hk q1
          rw [f1, wp_some, gE_l]
          exact ⟨rfl, q2⟩
        · rw [if_neg c, wp_map]
          have q2 : cst A s w False := by
            obtain ⟨a1, a2, a3, a4⟩ := q1
            refine ⟨a1, a2, a3, ?_⟩
            rcases a4 with ⟨b1, -⟩ | b
            · exact absurd b1 c
            · exact Or.inr b
          exact (wp_68 q2 (fun z => z.elim)).mono (fun r hr => fin r hr)
      · rintro ⟨y1, w⟩ ⟨rfl, q1⟩
        dsimp only at q1
        dsimp only
        unfold f_Search_fewestChanges_20b
        rw [if_pos (by decide), wp_map]
        refine (wp_68 q1 (fun z => chv_n (fun Z hZ => ?_))).mono (fun r hr => fin r hr)
        have a1 := z Z hZ
        have a2 := oc_sub hZ.1 11
        omega
    by_cases h16 : s 21 16 = 0
    · rw [if_pos h16]
      exact key
    · rw [if_neg h16, if_pos h18]
      exact key
  · have known : ∀ y : Int, (y = 0 ∨ (y = 1 ∧ s 21 16 ≠ 0)) → wp (f_Search_fewestChanges_17 4 ((2 ^ oc (mk (ap A) (aN A)) 11 : Nat) : Int) y s) (fun r => r.1 = chv A ∧ RC0 A r.2 ∧ ∀ z, z < 21 ∨ 43 < z → r.2 z = s z) := by
      intro y hy
      have hgb : gB y = some () := by
        rcases hy with rfl | ⟨rfl, -⟩
        · rfl
        · rfl
      unfold f_Search_fewestChanges_17
      rw [hgb, Option.bind_some, gLet_eq]
      obtain ⟨G, hG⟩ : ∃ G, G = gU s 21 16 y := ⟨_, rfl⟩
      have g1 : ∀ z, z ≠ 21 → G z = s z := fun z hz => by rw [hG, gU_n _ _ _ hz]
      have g2 : ∀ i, i ≠ 16 → G 21 i = s 21 i := fun i hi => by rw [hG, gUo _ _ _ hi]
      have g16 : G 21 16 = y := by rw [hG, gUs]
      rw [← hG]
      clear hG
      have g18 : ¬ G 21 18 = 0 := by rw [g2 18 (by decide)]; exact h18
      have er : f_Search_fewestChanges_20 4 ((2 ^ oc (mk (ap A) (aN A)) 11 : Nat) : Int) 0 G = some (G 21 17, G) := by
        unfold f_Search_fewestChanges_20
        refine gLr (n := 4095) ?_
        dsimp only
        unfold f_Search_fewestChanges_20b f_Search_fewestChanges_68 f_Search_fewestChanges_77
        rw [if_neg (by decide), if_neg g18, if_neg g18]
        rfl
      rw [er, wp_some]
      dsimp only
      have e17 : G 21 17 = chv A := by rw [g2 17 (by decide)]; exact hR.2.2 h18
      refine ⟨e17, ⟨?_, fun z => ?_, fun _ => e17⟩, fun z hz => g1 z (by omega)⟩
      · have := hR.1
        unfold BRC at this ⊢
        rw [g1 44 (by decide), g1 45 (by decide)]
        exact this
      · rw [g16] at z
        rcases hy with hy | ⟨-, hy⟩
        · exact absurd hy z
        · rw [g2 15 (by decide)]
          exact ⟨(hR.2.1 hy).1, KEd_c (hR.2.1 hy).2 (fun y y1 y2 => g1 y (by omega)) (fun i hi => g2 i (by omega))⟩
    by_cases h16 : s 21 16 = 0
    · rw [if_pos h16]
      exact known 0 (Or.inl rfl)
    · rw [if_neg h16, if_neg h18]
      exact known 1 (Or.inr ⟨rfl, h16⟩)
theorem W_fc : W_M_findsChanges = W_M_finds := rfl
theorem O_changes {RU : Nat → kM → Prop} (hU : hRU RU) (x1 : Int) : OB RC0 RU (f_KT_changes x1) (f_M_changes x1) := by
  intro s hr
  obtain ⟨A, hA, hK, hM, r1, r2, r3, r4, hRC⟩ := id hr
  by_cases h0 : aR A = 0
  · refine ⟨-1, s, s, ?_, ?_, hr⟩
    · unfold f_KT_changes
      rw [hK.1.1, if_pos (by omega)]
    · unfold f_M_changes
      rw [e_M_isTown hM.1, if_neg (by omega)]
      rfl
  · have hin : ∀ t : kM, MR A t → f_M_isTown t = some 1 := fun t h => by rw [e_M_isTown h, if_pos (by omega)]
    have k0 : ¬ s 4 0 = 0 := by rw [hK.1.1]; omega
    have hb : oc (mk (ap A) (aN A)) 11 = aN A / 2 := (oc_half hA).1
    by_cases h6 : aN A / 2 ≤ 6
    · by_cases hx : 0 ≤ x1 ∧ x1 ≤ 1
      · obtain ⟨⟨zv, t⟩, f1, t1, t2, t5⟩ := wp_fewCh hA (by omega) hK hRC
        dsimp only at t1 t2 t5
        have hMt : MT A t := MT_k hM (fun z h1 h2 => t5 z (by omega))
        obtain ⟨⟨zw, u⟩, f2, u1, u2, u3, u4, u5⟩ := wp_findsCh hA hMt
        have d2 : ∀ z, z ∉ W_M_findsChanges → u z = t z := w_M_findsChanges t _ f2
        dsimp only at u1 u2 u3 u4 u5
        have hRel : Rel RC0 RU u := Rel_fd hU hA hK r1 r2 r3 r4 (fun z z1 z2 => by rw [d2 z z2, t5 z z1]) u2 (fun j hj => by rw [u3 j hj, t5 86 (by decide)]) (fun j hj => by rw [u4 j (by omega) (by omega) (by omega) (by omega), t5 85 (by decide)]) (RC0_k t2 (fun z z1 z2 => d2 z (by simp [W_M_findsChanges]; omega)))
        have eK : f_KT_changes x1 s = if 0 ≤ chv A then (if x1 = 0 then ((f_Integer_bitCount (chv A) t).bind fun q10 => some (q10, t)) else (some (chv A, t))) else (some ((-2), t)) := by
          unfold f_KT_changes
          rw [if_neg k0, if_neg (by omega), if_neg (by omega), e_bridges hA.1 hK, Option.bind_some, if_pos (by omega), f1, Option.bind_some, t1]
        have eM : f_M_changes x1 t = if (chF A (cnn A)).1 = -2 then (some ((chF A (cnn A)).1, u)) else (if x1 = 0 then (some ((chF A (cnn A)).1, u)) else (some (u 85 54, u))) := by
          unfold f_M_changes
          rw [hin t hMt.1, Option.bind_some, if_neg (by decide), e_M_many hA.1 hMt.1, Option.bind_some, if_neg (by omega), e_M_in, if_pos hx, Option.bind_some, if_neg (by decide), f2, Option.bind_some, u1]
        rcases chF_sp A (cnn A) with ⟨i1, -⟩ | ⟨i1, i2, -, -⟩
        · have ev : chv A = -1 := by unfold chv; rw [if_pos i1]
          refine ⟨-2, t, u, ?_, ?_, hRel⟩
          · rw [eK, ev, if_neg (by decide)]
          · rw [eM, if_pos i1, i1]
        · have hne : ¬ (chF A (cnn A)).1 = -2 := by omega
          have ev : chv A = (((chF A (cnn A)).2 : Nat) : Int) := by unfold chv; rw [if_neg hne]
          have hN := cnn_e A
          by_cases c : x1 = 0
          · refine ⟨(chF A (cnn A)).1, t, u, ?_, ?_, hRel⟩
            · rw [eK, ev, if_pos (by omega), if_pos c, e_bitCount (by omega), Option.bind_some, i1]
            · rw [eM, if_neg hne, if_pos c]
          · refine ⟨chv A, t, u, ?_, ?_, hRel⟩
            · rw [eK, if_pos (by omega), if_neg c]
            · rw [eM, if_neg hne, if_neg c, u5 hne, ev]
      · refine ⟨-1, s, s, ?_, ?_, hr⟩
        · unfold f_KT_changes
          rw [if_neg k0]
          by_cases c : x1 < 0
          · rw [if_pos c]
          · rw [if_neg c, if_pos (by omega)]
        · unfold f_M_changes
          rw [hin s hM.1, Option.bind_some, if_neg (by decide), e_M_many hA.1 hM.1, Option.bind_some, if_neg (by omega), e_M_in, if_neg hx, Option.bind_some, if_pos rfl]
    · refine ⟨-1, s, s, ?_, ?_, hr⟩
      · unfold f_KT_changes
        rw [if_neg k0]
        by_cases c : x1 < 0
        · rw [if_pos c]
        · rw [if_neg c]
          by_cases d : 1 < x1
          · rw [if_pos d]
          · rw [if_neg d, e_bridges hA.1 hK, Option.bind_some, if_neg (by omega)]
      · unfold f_M_changes
        rw [hin s hM.1, Option.bind_some, if_neg (by decide), e_M_many hA.1 hM.1, Option.bind_some, if_pos (by omega)]
