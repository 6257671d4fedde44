theorem wp_gr87 {A : zA} (hA : okA A) {t : kM} (hM : MT A t) : f_M_groups_87 0 0 t = some (((cq (fun k => pb A k && decide (t 104 k = (k : Int))) 11 : Nat) : Int), t) := by
  have hcl : ∀ n, cq (fun k => pb A k && decide (t 104 k = (k : Int))) n ≤ n := by
    intro n
    induction n with
    | zero => exact Nat.le_refl 0
    | succ n ih => rw [cq_succ]; split <;> omega
  unfold f_M_groups_87
  apply wp_eq
  refine wp_for 11 (fun k x => x.1 = ((cq (fun k => pb A k && decide (t 104 k = (k : Int))) k : Nat) : Int) ∧ x.2 = (k : Int)) 0 _ (by omega) (by omega) (by exact ⟨rfl, rfl⟩) ?_ ?_
  · rintro k ⟨y1, y2⟩ _ hk ⟨rfl, rfl⟩
    have hc := hcl k
    have n11 : ¬ (11 : Int) ≤ (k : Int) := by omega
    have hkl : k < 2147483647 := by omega
    have k11 : gI 11 (k : Int) = some k := gI_n hk
    have fin : ∀ d : Nat, d ≤ 1 → cq (fun k => pb A k && decide (t 104 k = (k : Int))) (k + 1) = cq (fun k => pb A k && decide (t 104 k = (k : Int))) k + d → wp (f_M_groups_104 k ((cq (fun k => pb A k && decide (t 104 k = (k : Int))) k : Nat) : Int) d t) (gE (fun x => x.1 = ((cq (fun k => pb A k && decide (t 104 k = (k : Int))) (k + 1) : Nat) : Int) ∧ x.2 = ((k + 1 : Nat) : Int)) (fun r => r = (((cq (fun k => pb A k && decide (t 104 k = (k : Int))) 11 : Nat) : Int), t))) := by
      intro d hd he
      have hw : wI (((cq (fun k => pb A k && decide (t 104 k = (k : Int))) k : Nat) : Int) + d) = ((cq (fun k => pb A k && decide (t 104 k = (k : Int))) (k + 1) : Nat) : Int) := by rw [he, wI_id (by omega) (by omega)]; omega
      unfold f_M_groups_104
      rw [hw, wI_s hkl, wp_some, gE_l]
      exact ⟨rfl, rfl⟩
    dsimp only
    unfold f_M_groups_87b f_M_groups_103
    rw [if_neg n11, e_M_isBridge hA hM, Option.bind_some, Int.toNat_natCast, k11, Option.bind_some]
    by_cases hp : pb A k = true
    · rw [if_pos (show 0 ≤ (k : Int) ∧ (k : Int) < 11 ∧ pb A k = true from ⟨by omega, by omega, hp⟩), if_neg (show ¬ (1 : Int) = 0 by decide)]
      by_cases he : t 104 k = (k : Int)
      · rw [if_pos he]
        exact fin 1 (by omega) (by rw [cq_succ, if_pos (by rw [hp, decide_eq_true he]; rfl)])
      · rw [if_neg he]
        exact fin 0 (by omega) (by rw [cq_succ, if_neg (by rw [decide_eq_false he, Bool.and_false]; decide)])
    · rw [if_neg (show ¬ (0 ≤ (k : Int) ∧ (k : Int) < 11 ∧ pb A k = true) from fun q => hp q.2.2), if_pos rfl]
      exact fin 0 (by omega) (by rw [cq_succ, if_neg (by rw [Bool.eq_false_iff.mpr hp, Bool.false_and]; decide)])
  · rintro ⟨y1, y2⟩ ⟨rfl, rfl⟩
    dsimp only
    unfold f_M_groups_87b
    rw [if_pos (show (11 : Int) ≤ ((11 : Nat) : Int) by decide), wp_some, gE_r]
theorem wp_M_groups {A : zA} (hA : okA A) {s : kM} (hM : MT A s) : wp (f_M_groups s) (fun r => r.1 = ((grp A : Nat) : Int)) := by
  have loop : ∀ g : kM, MT A g → grI A (g 104) → wp (f_M_groups_14 1 g) (fun r => r.1 = ((grp A : Nat) : Int)) := by
    intro g hg hI
    unfold f_M_groups_14
    have h110 := gs_110 hI 11 (Nat.le_refl _)
    refine wp_gL (fun n x => ∃ d : Nat, d ≤ 1 ∧ x.1 = (d : Int) ∧ MT A x.2 ∧ grI A (x.2 104) ∧ (d = 0 → n = 0 ∧ stb A (x.2 104)) ∧ (d = 1 → n = gs (x.2 104) 11 + 1)) ?_ gF (gs (g 104) 11 + 1) (1, g) (by exact ⟨1, by omega, rfl, hg, hI, fun h => by omega, fun _ => rfl⟩) (by show gs (g 104) 11 + 1 < 4096; omega)
    rintro n ⟨y, w⟩ ⟨d, d1, rfl, w1, w2, w3, w4⟩
    dsimp only at w1 w2 w3 w4 ⊢
    unfold f_M_groups_14b
    by_cases hd : (d : Int) = 0
    · obtain ⟨-, hst⟩ := w3 (by omega)
      rw [if_pos hd, wp_gr87 hA w1, wp_map, wp_some, gE_r, cq_grp hA.1 w2 hst]
    · have hn := w4 (by omega)
      rw [if_neg hd]
      refine (wp_grpass hA w1 w2).mono ?_
      rintro r ⟨m, v, rfl, m1, m2, m3, m4, m5⟩
      rw [gE_l]
      by_cases hm : m = 0
      · exact ⟨0, by omega, m, m1, rfl, MT_k w1 (fun a h1 h2 => m3 a (by omega)), m2, fun _ => ⟨rfl, m4 hm⟩, fun z => by omega⟩
      · have := m5 (by omega)
        exact ⟨gs (v 104) 11 + 1, by omega, m, m1, rfl, MT_k w1 (fun a h1 h2 => m3 a (by omega)), m2, fun z => absurd z hm, fun _ => rfl⟩
  unfold f_M_groups f_M_groups_2
  refine wp_for 11 (fun k x => x.1 = (k : Int) ∧ (∀ z, z ≠ 104 → x.2 z = s z) ∧ ∀ j, j < k → x.2 104 j = (j : Int)) 0 _ (by omega) (by omega) (by exact ⟨rfl, fun _ _ => rfl, fun j hj => by omega⟩) ?_ ?_
  · rintro k ⟨y, t⟩ _ hk ⟨rfl, q1, q2⟩
    dsimp only at q1 q2
    have n11 : ¬ (11 : Int) ≤ (k : Int) := by omega
    have hkl : k < 2147483647 := by omega
    dsimp only
    unfold f_M_groups_2b
    rw [if_neg n11, gI_n hk, Option.bind_some, gLet_eq, wp_some, gE_l]
    dsimp only
    rw [wI_s hkl]
    refine ⟨rfl, fun z hz => by rw [gU_n _ _ _ hz]; exact q1 z hz, fun j hj => ?_⟩
    by_cases hjk : j = k
    · rw [hjk, gUs]
    · rw [gUo _ _ _ hjk]
      exact q2 j (by omega)
  · rintro ⟨y, t⟩ ⟨rfl, q1, q2⟩
    dsimp only at q1 q2
    dsimp only
    unfold f_M_groups_2b
    rw [if_pos (show (11 : Int) ≤ ((11 : Nat) : Int) by decide), wp_map]
    exact loop t (MT_k hM (fun a h1 h2 => q1 a (by omega))) (fun k hk => ⟨k, q2 k hk, Nat.le_refl _, Or.inl rfl⟩)
