def gs (f : Nat → Int) : Nat → Nat
  | 0 => 0
  | n + 1 => gs f n + (f n).toNat
theorem gs_succ (f : Nat → Int) (n : Nat) : gs f (n + 1) = gs f n + (f n).toNat := rfl
theorem gs_far (f : Nat → Int) (k : Nat) (x : Int) : ∀ n, n ≤ k → gs (kup f k x) n = gs f n
  | 0, _ => rfl
  | n + 1, h => by
    rw [gs_succ, gs_succ, gs_far f k x n (by omega)]
    unfold kup
    rw [if_neg (by omega)]
theorem gs_up (f : Nat → Int) (k : Nat) (x : Int) : ∀ n, k < n → gs (kup f k x) n + (f k).toNat = gs f n + x.toNat
  | 0, h => by omega
  | n + 1, h => by
    rw [gs_succ, gs_succ]
    by_cases hk : k = n
    · subst hk
      rw [gs_far f k x k (Nat.le_refl _)]
      unfold kup
      rw [if_pos rfl]
      omega
    · have := gs_up f k x n (by omega)
      rw [show kup f k x n = f n by unfold kup; rw [if_neg (Ne.symm hk)]]
      omega
theorem gs_e {f g : Nat → Int} : ∀ n, (∀ k, k < n → f k = g k) → gs f n = gs g n
  | 0, _ => rfl
  | n + 1, h => by rw [gs_succ, gs_succ, gs_e n (fun k hk => h k (by omega)), h n (by omega)]
theorem grI_e {A : zA} {f g : Nat → Int} (h : grI A f) (e : ∀ k, k < 11 → g k = f k) : grI A g := fun k hk => by
  rw [e k hk]
  exact h k hk
theorem gs_110 {A : zA} {f : Nat → Int} (h : grI A f) : ∀ n, n ≤ 11 → gs f n ≤ 11 * n
  | 0, _ => Nat.le_refl 0
  | n + 1, hn => by
    have ih := gs_110 h n (by omega)
    obtain ⟨g, h1, h2, -⟩ := h n (by omega)
    rw [gs_succ, h1, Int.toNat_natCast]
    omega
def stb (A : zA) (f : Nat → Int) : Prop := ∀ j, j < aN A → f (ap A j / 2) = f (ap A (nx (aF A) (aN A) j) / 2)
theorem wp_grpass {A : zA} (hA : okA A) {t : kM} (hM : MT A t) (hg : grI A (t 104)) : wp (f_M_groups_20 0 0 t) (fun r => ∃ (n : Nat) (w : kM), r = Sum.inl ((n : Int), w) ∧ n ≤ 1 ∧ grI A (w 104) ∧ (∀ z, z ≠ 104 → w z = t z) ∧ (n = 0 → stb A (w 104)) ∧ (n = 1 → gs (w 104) 11 < gs (t 104) 11)) := by
  have hn := okB_n hA.1
  unfold f_M_groups_20
  refine wp_for (aN A) (fun q x => ∃ n : Nat, n ≤ 1 ∧ x.1 = (n : Int) ∧ x.2.1 = (q : Int) ∧ (∀ z, z ≠ 104 → x.2.2 z = t z) ∧ grI A (x.2.2 104) ∧ (n = 0 → (∀ k, k < 11 → x.2.2 104 k = t 104 k) ∧ ∀ j, j < q → t 104 (ap A j / 2) = t 104 (ap A (nx (aF A) (aN A) j) / 2)) ∧ (n = 1 → gs (x.2.2 104) 11 < gs (t 104) 11)) 0 _ (by omega) (by omega) (by exact ⟨0, by omega, rfl, rfl, fun _ _ => rfl, hg, fun _ => ⟨fun _ _ => rfl, fun j hj => by omega⟩, fun h => by omega⟩) ?_ ?_
  · rintro q ⟨y1, y2, w⟩ _ hq ⟨n, n1, rfl, rfl, w1, w2, w3, w4⟩
    dsimp only at w1 w2 w3 w4
    have hMw : MT A w := MT_k hM (fun a h1 h2 => w1 a (by omega))
    have hnx := nx_lt hA.1 hq
    have hp1 := hA.1.2.2.2.1 q hq
    have hp2 := hA.1.2.2.2.1 _ hnx
    have hsg := sg_next hA.1 hq
    have m1 := (hMw.1.2.2.2.1 q hq).1
    have m2 := (hMw.1.2.2.2.1 _ hnx).1
    generalize hP : nx (aF A) (aN A) q = P at *
    generalize hxa : ap A q / 2 = a at *
    generalize hxb : ap A P / 2 = b at *
    have ha : a < 11 := by omega
    have hb : b < 11 := by omega
    obtain ⟨u, u1, u2, u3⟩ := w2 a ha
    obtain ⟨v, v1, v2, v3⟩ := w2 b hb
    have hql : q < 2147483647 := by omega
    have nle : ¬ (aN A : Int) ≤ (q : Int) := by omega
    have q22 : gI 22 (q : Int) = some q := gI_n (by omega)
    have P22 : gI 22 (P : Int) = some P := gI_n (by omega)
    have a11 : gI 11 (a : Int) = some a := gI_n ha
    have b11 : gI 11 (b : Int) = some b := gI_n hb
    -- the writes
    have put : ∀ (m d : Nat), (m = u ∨ m = v) → m ≤ u → m ≤ v → d ≤ 1 → (d = 0 → n = 0 ∧ u = v) → (d = 1 → n = 1 ∨ u ≠ v) → wp (f_M_groups_69 q a b m d w) (gE (fun x => ∃ n : Nat, n ≤ 1 ∧ x.1 = (n : Int) ∧ x.2.1 = ((q + 1 : Nat) : Int) ∧ (∀ z, z ≠ 104 → x.2.2 z = t z) ∧ grI A (x.2.2 104) ∧ (n = 0 → (∀ k, k < 11 → x.2.2 104 k = t 104 k) ∧ ∀ j, j < q + 1 → t 104 (ap A j / 2) = t 104 (ap A (nx (aF A) (aN A) j) / 2)) ∧ (n = 1 → gs (x.2.2 104) 11 < gs (t 104) 11)) (fun r => ∃ (n : Nat) (w : kM), r = Sum.inl ((n : Int), w) ∧ n ≤ 1 ∧ grI A (w 104) ∧ (∀ z, z ≠ 104 → w z = t z) ∧ (n = 0 → stb A (w 104)) ∧ (n = 1 → gs (w 104) 11 < gs (t 104) 11))) := by
      intro m d hm hmu hmv hd h0 h1
      have hfn : gU (gU w 104 a m) 104 b m 104 = kup (kup (w 104) a (m : Int)) b (m : Int) := by rw [gU_s, gU_s]
      have hval : ∀ k, kup (kup (w 104) a (m : Int)) b (m : Int) k = if k = b ∨ k = a then (m : Int) else w 104 k := by
        intro k
        unfold kup
        by_cases kb : k = b
        · rw [if_pos kb, if_pos (Or.inl kb)]
        · by_cases ka : k = a
          · rw [if_neg kb, if_pos ka, if_pos (Or.inr ka)]
          · rw [if_neg kb, if_neg ka, if_neg (fun z => z.elim kb ka)]
      have hgs1 := gs_up (w 104) a (m : Int) 11 ha
      have hgs2 := gs_up (kup (w 104) a (m : Int)) b (m : Int) 11 hb
      have hfb : kup (w 104) a (m : Int) b = if b = a then (m : Int) else w 104 b := rfl
      unfold f_M_groups_69
      rw [a11, Option.bind_some, gLet_eq, b11, Option.bind_some, gLet_eq, wp_some, gE_l]
      dsimp only
      rw [wI_s hql, hfn]
      refine ⟨d, hd, rfl, rfl, fun z hz => by rw [gU_n _ _ _ hz, gU_n _ _ _ hz]; exact w1 z hz, fun k hk => ?_, fun hd0 => ?_, fun hd1 => ?_⟩
      · rw [hval k]
        by_cases kk : k = b ∨ k = a
        · rw [if_pos kk]
          refine ⟨m, rfl, by rcases kk with z | z <;> omega, ?_⟩
          have am : sg A a m := by
            rcases hm with z | z
            · rw [z]; exact u3
            · rw [z]; exact sg_trans hsg v3
          rcases kk with z | z
          · rw [z]; exact sg_trans (sg_symm hsg) am
          · rw [z]; exact am
        · rw [if_neg kk]
          exact w2 k hk
      · obtain ⟨n0, huv⟩ := h0 hd0
        obtain ⟨z1, z2⟩ := w3 n0
        refine ⟨fun k hk => ?_, fun j hj => ?_⟩
        · rw [hval k]
          by_cases kk : k = b ∨ k = a
          · rw [if_pos kk, ← z1 k hk]
            rcases kk with z | z
            · rw [z, v1]; omega
            · rw [z, u1]; omega
          · rw [if_neg kk]; exact z1 k hk
        · by_cases hjq : j = q
          · rw [hjq, hP, hxa, hxb, ← z1 a ha, ← z1 b hb, u1, v1, huv]
          · exact z2 j (by omega)
      · rw [u1] at hgs1
        by_cases hba : b = a
        · have huv : u = v := by rw [hba, u1] at v1; omega
          have n1' : n = 1 := (h1 hd1).resolve_right (fun z => z huv)
          have := w4 n1'
          rw [hfb, if_pos hba] at hgs2
          omega
        · rw [hfb, if_neg hba, v1] at hgs2
          rcases h1 hd1 with z | z
          · have := w4 z
            omega
          · have hle : gs (w 104) 11 ≤ gs (t 104) 11 := by
              by_cases hn0 : n = 0
              · rw [gs_e 11 (fun k hk => (w3 hn0).1 k hk)]
                exact Nat.le_refl _
              · have := w4 (by omega)
                omega
            omega
    dsimp only
    unfold f_M_groups_20b
    rw [e_M_places hA.1 hMw.1, Option.bind_some, if_neg nle, q22, Option.bind_some, e_M_next hA.1 hMw.1 hq, hP, Option.bind_some, P22, Option.bind_some, m1, m2]
    simp only [a11, b11, Option.bind_some, u1, v1]
    have mid : ∀ m : Nat, (m = u ∨ m = v) → m ≤ u → m ≤ v → wp (f_M_groups_54 n q a b m w) (gE (fun x => ∃ n : Nat, n ≤ 1 ∧ x.1 = (n : Int) ∧ x.2.1 = ((q + 1 : Nat) : Int) ∧ (∀ z, z ≠ 104 → x.2.2 z = t z) ∧ grI A (x.2.2 104) ∧ (n = 0 → (∀ k, k < 11 → x.2.2 104 k = t 104 k) ∧ ∀ j, j < q + 1 → t 104 (ap A j / 2) = t 104 (ap A (nx (aF A) (aN A) j) / 2)) ∧ (n = 1 → gs (x.2.2 104) 11 < gs (t 104) 11)) (fun r => ∃ (n : Nat) (w : kM), r = Sum.inl ((n : Int), w) ∧ n ≤ 1 ∧ grI A (w 104) ∧ (∀ z, z ≠ 104 → w z = t z) ∧ (n = 0 → stb A (w 104)) ∧ (n = 1 → gs (w 104) 11 < gs (t 104) 11))) := by
      intro m hm hmu hmv
      unfold f_M_groups_54 f_M_groups_66
      rw [a11, Option.bind_some, b11, Option.bind_some, u1, v1]
      by_cases hn0 : (n : Int) = 0
      · rw [if_pos hn0]
        by_cases huv : (u : Int) = (v : Int)
        · rw [if_pos huv]
          exact put m 0 hm hmu hmv (by omega) (fun _ => ⟨by omega, by omega⟩) (fun z => by omega)
        · rw [if_neg huv]
          exact put m 1 hm hmu hmv (by omega) (fun z => by omega) (fun _ => Or.inr (by omega))
      · rw [if_neg hn0]
        exact put m 1 hm hmu hmv (by omega) (fun z => by omega) (fun _ => Or.inl (by omega))
    by_cases hvu : (v : Int) ≤ (u : Int)
    · rw [if_pos hvu]
      exact mid v (Or.inr rfl) (by omega) (by omega)
    · rw [if_neg hvu]
      exact mid u (Or.inl rfl) (by omega) (by omega)
  · rintro ⟨y1, y2, w⟩ ⟨n, n1, rfl, rfl, w1, w2, w3, w4⟩
    dsimp only at w1 w2 w3 w4
    have hMw : MT A w := MT_k hM (fun a h1 h2 => w1 a (by omega))
    dsimp only
    unfold f_M_groups_20b
    rw [e_M_places hA.1 hMw.1, Option.bind_some, if_pos (Int.le_refl _), wp_some, gE_r]
    refine ⟨n, w, rfl, n1, w2, w1, fun h0 j hj => ?_, w4⟩
    obtain ⟨z1, z2⟩ := w3 h0
    have hp1 := hA.1.2.2.2.1 j hj
    have hp2 := hA.1.2.2.2.1 _ (nx_lt hA.1 hj)
    rw [z1 _ (by omega), z1 _ (by omega)]
    exact z2 j hj
