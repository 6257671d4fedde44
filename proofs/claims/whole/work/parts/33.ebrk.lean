/-! the class's bracket: ready -/
def phj (A : zA) (j : Nat) : Nat → Nat → Int := fun as r => cfa (2 * (as : Int) - ((aN A / 2 : Nat) : Int)) (r - 1) j
def brk (A : zA) (j : Nat) : Int := LSm A (phj A j) 11 0 0 (aln A) (fun q => q)
def BRC (A : zA) (s : kM) : Prop := s 44 0 ≠ 0 → ∀ j, j < 199 → s 45 j = wI (brk A j)
def rwm (A : zA) (g : Nat → Nat) (j k : Nat) : Nat → Int := fun r => ((g (16 * k + (r + 1)) : Nat) : Int) * phj A j k (r + 1)
theorem wp_prep46 {A : zA} (hA : okA A) {t : kM} (hK : KT 4 A t) {k : Nat} (hk : k ≤ aN A / 2) {g : Nat → Nat} (h46 : ∀ i, i < 192 → t 46 i = ((g i : Nat) : Int)) (hg : ∀ i, g i ≤ 4096) {V : Nat → Int} (hV : ∀ j, j < 199 → t 45 j = wI (V j)) : wp (f_Bracket_prepare_46 4 (k : Int) 1 t) (fun r => ∃ u, r = .inl (((k + 1 : Nat) : Int), u) ∧ (∀ z, z ≠ 45 → u z = t z) ∧ ∀ j, j < 199 → u 45 j = wI (V j + smr (rwm A g j k) 15)) := by
  have hn := okB_n hA.1
  have hh := oc_half hA
  unfold f_Bracket_prepare_46
  refine wp_for 15 (fun r x => x.1 = ((r + 1 : Nat) : Int) ∧ (∀ z, z ≠ 45 → x.2 z = t z) ∧ ∀ j, j < 199 → x.2 45 j = wI (V j + smr (rwm A g j k) r)) 0 _ (by omega) (by omega) (by exact ⟨rfl, fun _ _ => rfl, fun j hj => by show t 45 j = wI (V j + 0); rw [Int.add_zero]; exact hV j hj⟩) ?_ ?_
  · rintro r ⟨y1, u⟩ _ hr ⟨rfl, q1, q2⟩
    dsimp only at q1 q2
    have hKu : KT 4 A u := KT_c hK (fun i hi => q1 _ (by omega))
    have e1 : wI ((k : Int) * 16) = ((16 * k : Nat) : Int) := by rw [wI_id (by omega) (by omega)]; omega
    have e2 : wI (((16 * k : Nat) : Int) + ((r + 1 : Nat) : Int)) = ((16 * k + (r + 1) : Nat) : Int) := wI_add2 (by omega)
    have e3 : wI (wI (2 * (k : Int)) - ((aN A / 2 : Nat) : Int)) = 2 * (k : Int) - ((aN A / 2 : Nat) : Int) := by rw [wI_id (x := 2 * (k : Int)) (by omega) (by omega), wI_id (by omega) (by omega)]
    have e4 : wI (((r + 1 : Nat) : Int) - 1) = (r : Int) := by rw [wI_id (by omega) (by omega)]; omega
    have e5 : u 46 (16 * k + (r + 1)) = ((g (16 * k + (r + 1)) : Nat) : Int) := by rw [q1 46 (by decide)]; exact h46 _ (by omega)
    dsimp only
    unfold f_Bracket_prepare_46b
    rw [if_neg (by omega), e_bridges hA.1 hKu, Option.bind_some, hh.1, e1, e2, gI_n (show 16 * k + (r + 1) < 192 by clear e1 e2 e3 e4; omega), Option.bind_some, e3, e4, e5, wI_s (by clear e1 e2 e3 e4; omega)]
    clear e1 e2 e3 e4
    obtain ⟨v, g1, v1, v2⟩ := wp_addUp (pw := 2 * (k : Int) - ((aN A / 2 : Nat) : Int)) (n := r) (tm := g (16 * k + (r + 1))) (by omega) (by omega) (by omega) (hg _) q2
    rw [g1, Option.bind_some, wp_some, gE_l]
    refine ⟨rfl, fun z hz => by dsimp only; rw [v1 z hz]; exact q1 z hz, fun j hj => ?_⟩
    dsimp only
    rw [v2 j hj, smr_s, Int.add_assoc]
    rfl
  · rintro ⟨y1, u⟩ ⟨rfl, q1, q2⟩
    dsimp only at q1 q2
    dsimp only
    unfold f_Bracket_prepare_46b
    rw [if_pos (by decide), wI_s (by omega), wp_some, gE_r]
    exact ⟨u, rfl, q1, q2⟩
theorem wp_prep40 {A : zA} (hA : okA A) {s : kM} (hK : KT 4 A s) {g : Nat → Nat} (h46 : ∀ i, i < 192 → s 46 i = ((g i : Nat) : Int)) (hg : ∀ i, g i ≤ 4096) (h45 : ∀ j, j < 199 → s 45 j = 0) : wp (f_Bracket_prepare_40 4 0 s) (fun t => (∀ z, z ≠ 44 → z ≠ 45 → t z = s z) ∧ t 44 0 = 1 ∧ ∀ j, j < 199 → t 45 j = wI (dsm (phj A j) (aN A / 2) g)) := by
  have hn := okB_n hA.1
  have hh := oc_half hA
  unfold f_Bracket_prepare_40
  refine wp_for (aN A / 2 + 1) (fun k x => x.1 = (k : Int) ∧ (∀ z, z ≠ 45 → x.2 z = s z) ∧ ∀ j, j < 199 → x.2 45 j = wI (smr (fun a => smr (rwm A g j a) 15) k)) 0 _ (by omega) (by omega) (by exact ⟨rfl, fun _ _ => rfl, fun j hj => by show s 45 j = wI 0; rw [h45 j hj]; rfl⟩) ?_ ?_
  · rintro k ⟨y1, u⟩ _ hk ⟨rfl, q1, q2⟩
    dsimp only at q1 q2
    have hKu : KT 4 A u := KT_c hK (fun i hi => q1 _ (by omega))
    dsimp only
    unfold f_Bracket_prepare_40b
    rw [e_bridges hA.1 hKu, Option.bind_some, hh.1, if_neg (by omega)]
    refine (wp_prep46 hA hKu (k := k) (by omega) (fun i hi => by rw [q1 46 (by decide)]; exact h46 i hi) hg q2).mono ?_
    rintro r ⟨v, rfl, v1, v2⟩
    refine ⟨rfl, fun z hz => by dsimp only; rw [v1 z hz]; exact q1 z hz, fun j hj => ?_⟩
    dsimp only
    exact v2 j hj
  · rintro ⟨y1, u⟩ ⟨rfl, q1, q2⟩
    dsimp only at q1 q2
    have hKu : KT 4 A u := KT_c hK (fun i hi => q1 _ (by omega))
    dsimp only
    unfold f_Bracket_prepare_40b
    rw [e_bridges hA.1 hKu, Option.bind_some, hh.1, if_pos (by omega), gLet_eq, wp_some, gE_r]
    exact ⟨fun z z1 z2 => by rw [gU_n _ _ _ z1]; exact q1 z z2, gUs _ _ _ _, fun j hj => by rw [gU_n _ _ _ (by decide)]; exact q2 j hj⟩
theorem e_alone {A : zA} (hA : okA A) {s : kM} (hK : KT 4 A s) : f_Bracket_alone 4 0 s = some ((if 1 ≤ aR A ∧ aF A = 0 then 1 else 0 : Nat) : Int) ∧ f_Bracket_alone 4 1 s = some ((if 2 ≤ aR A ∧ aF A = aN A then 1 else 0 : Nat) : Int) := by
  have hn := okB_n hA.1
  have s0 : f_Town_roadStart 4 0 s = some 0 := by rw [e_roadStart hK, if_pos rfl]
  have s1 : f_Town_roadStart 4 1 s = some ((aF A : Nat) : Int) := by rw [e_roadStart hK, if_neg (by decide)]
  have s2 : f_Town_roadEnd 4 0 s = some ((aF A : Nat) : Int) := by rw [e_roadEnd hK, if_pos rfl]
  have s3 : f_Town_roadEnd 4 1 s = some ((aN A : Nat) : Int) := by rw [e_roadEnd hK, if_neg (by decide)]
  unfold f_Bracket_alone
  rw [hK.1.1, s0, s1, s2, s3, Option.bind_some, Option.bind_some, Option.bind_some, Option.bind_some]
  constructor
  · by_cases h1 : 1 ≤ aR A
    · rw [if_neg (by omega)]
      by_cases h2 : aF A = 0
      · rw [if_pos (by omega), if_pos ⟨h1, h2⟩]
        rfl
      · rw [if_neg (by omega), if_neg (fun q => h2 q.2)]
        rfl
    · rw [if_pos (by omega), if_neg (fun q => h1 q.1)]
      rfl
  · by_cases h1 : 2 ≤ aR A
    · rw [if_neg (by omega)]
      by_cases h2 : aF A = aN A
      · rw [if_pos (by omega), if_pos ⟨h1, h2⟩]
        rfl
      · rw [if_neg (by omega), if_neg (fun q => h2 q.2)]
        rfl
    · rw [if_pos (by omega), if_neg (fun q => h1 q.1)]
      rfl
theorem Jv_0 (A : zA) : Jv (aN A) (fre A 0) (fun q => q) xo := by
  rintro x ⟨hx, -⟩
  have h2 := xo_lt hx
  unfold xo at h2 ⊢
  refine ⟨⟨hx, ⟨h2, Nat.zero_le _⟩, ?_, ?_⟩, ?_⟩
  · (repeat' split) <;> omega
  · split <;> omega
  · rintro y ⟨hy, -⟩
    dsimp only
    constructor
    · intro h
      split <;> omega
    · rintro (h | h)
      · rw [h]
      · rw [h]
        split <;> omega
theorem wp_prepare {A : zA} (hA : okA A) (hR : 1 ≤ aR A) {s : kM} (hK : KT 4 A s) (hB : BRC A s) : wp (f_Bracket_prepare 4 s) (fun t => (∀ z, z ≠ 44 → z ≠ 45 → z ≠ 46 → z ≠ 47 → t z = s z) ∧ t 44 0 ≠ 0 ∧ ∀ j, j < 199 → t 45 j = wI (brk A j)) := by
  have hn := okB_n hA.1
  unfold f_Bracket_prepare
  by_cases h0 : s 44 0 = 0
  · rw [if_pos h0, e_Arrays_fill_II _ _ _ _ (by decide), Option.bind_some, e_Arrays_fill_II _ _ _ _ (by decide), Option.bind_some]
    obtain ⟨w, hw⟩ : ∃ w, w = gA (gA s 45 (kfill 0 199 (s 45))) 46 (kfill 0 192 (gA s 45 (kfill 0 199 (s 45)) 46)) := ⟨_, rfl⟩
    rw [← hw]
    have w1 : ∀ z, z ≠ 45 → z ≠ 46 → w z = s z := fun z z1 z2 => by rw [hw, gAn _ _ z2, gAn _ _ z1]
    have w2 : ∀ j, j < 199 → w 45 j = 0 := fun j hj => by
      rw [hw, gAn _ _ (by decide), gA_s]
      exact if_pos hj
    have w3 : ∀ j, j < 192 → w 46 j = 0 := fun j hj => by
      rw [hw, gA_s]
      exact if_pos hj
    clear hw
    unfold f_Bracket_prepare_14
    refine wp_for 44 (fun k x => x.1 = (k : Int) ∧ (∀ z, z ≠ 47 → x.2 z = w z) ∧ ∀ e, e < k → x.2 47 e = ((xo e : Nat) : Int)) 0 _ (by omega) (by omega) (by exact ⟨rfl, fun _ _ => rfl, fun e he => by omega⟩) ?_ ?_
    · rintro k ⟨y1, u⟩ _ hk ⟨rfl, q1, q2⟩
      dsimp only at q1 q2
      have ek : kxor (k : Int) 1 = ((xo k : Nat) : Int) := by rw [← xo_xor hk]; exact kxor_n (b := 1) (by omega) (by decide)
      dsimp only
      unfold f_Bracket_prepare_14b
      rw [if_neg (by omega), gI_n hk, Option.bind_some, gLet_eq, ek, wI_s (by omega), wp_some, gE_l]
      refine ⟨rfl, fun z hz => by dsimp only; rw [gU_n _ _ _ hz]; exact q1 z hz, fun e he => ?_⟩
      dsimp only
      by_cases hek : e = k
      · rw [hek, gUs]
      · rw [gUo _ _ _ hek]
        exact q2 e (by omega)
    · rintro ⟨y1, u⟩ ⟨rfl, q1, q2⟩
      dsimp only at q1 q2
      have hKu : KT 4 A u := KT_c hK (fun i hi => by rw [q1 _ (by omega), w1 _ (by omega) (by omega)])
      have hal : aln A ≤ 2 := by unfold aln; (repeat' split) <;> omega
      have ea := e_alone hA hKu
      have ew : wI (((if 1 ≤ aR A ∧ aF A = 0 then 1 else 0 : Nat) : Int) + ((if 2 ≤ aR A ∧ aF A = aN A then 1 else 0 : Nat) : Int)) = ((aln A : Nat) : Int) := wI_add2 (by unfold aln at hal; omega)
      have hcut := wp_cut hA 11 0 16 0 (aln A) (fun q => q) xo u (by omega) (by omega) hKu (by omega) (by omega) (Jv_0 A) (fun e he => q2 e (by have := he.1; omega)) (fun i hi => by rw [q1 46 (by decide), w3 i hi]; decide)
      obtain ⟨v, g1, v1, v2⟩ := hcut
      dsimp only
      unfold f_Bracket_prepare_14b
      rw [if_pos (by decide), ea.1, Option.bind_some, ea.2, Option.bind_some, ew]
      clear ew
      have g1' : fr_Bracket_cut 4 16 0 0 0 ((aln A : Nat) : Int) u = some v := g1
      rw [g1', Option.bind_some, wp_map]
      have hKv : KT 4 A v := KT_c hKu (fun i hi => v1 _ (by omega))
      refine (wp_prep40 hA hKv (g := LC A 11 0 0 (aln A) (fun q => q)) (fun i hi => by rw [v2 i, q1 46 (by decide), w3 i hi, Int.zero_add]) (fun i => Nat.le_trans (LC_le A 11 0 0 (aln A) _ i) (by decide)) (fun j hj => by rw [v1 45 (by decide), q1 45 (by decide)]; exact w2 j hj)).mono ?_
      rintro t ⟨t1, t2, t3⟩
      rw [gE_r]
      refine ⟨fun z z1 z2 z3 z4 => by rw [t1 z z1 z2, v1 z z3, q1 z z4, w1 z z2 z3], by rw [t2]; decide, fun j hj => ?_⟩
      rw [t3 j hj]
      have := dsm_LC hA hR (phj A j) 11 0 0 0 (fun q => q) (by omega) (by omega) (IV_0 A)
      rw [Nat.add_zero] at this
      rw [this]
      rfl
  · rw [if_neg h0, wp_some]
    exact ⟨fun _ _ _ _ _ => rfl, h0, hB h0⟩
