/-! the town that was told is looked at -/
def M0 (A : zA) (s : kM) : Prop := s 86 1 = ((aF A : Nat) : Int) ∧ s 86 2 = ((aN A : Nat) : Int) - ((aF A : Nat) : Int) ∧ ∀ j, j < aN A → s 87 j = ((ap A j / 2 : Nat) : Int) ∧ s 88 j = ((ap A j % 2 : Nat) : Int)
theorem e_M_places0 {A : zA} {s : kM} (hA : okB A) (hM : M0 A s) : f_M_places s = some (aN A : Int) := by
  obtain ⟨m1, m2, -⟩ := hM
  have := okB_n hA
  unfold f_M_places
  rw [m1, m2, wI_id (by omega) (by omega)]
  congr 1
  omega
theorem wp_refresh0 {A : zA} (hA : okB A) {s : kM} (hM : M0 A s) : wp (f_M_refresh s) (fun t => (∀ a, a ≠ 98 → a ≠ 99 → t a = s a) ∧ MS A t) := by
  have hA' := hA
  obtain ⟨a1, a2, a3, a4, a5⟩ := hA'
  have hfr := w_M_refresh s
  have h2 : ∀ g : kM, (∀ a, a ≠ 98 → a ≠ 99 → g a = s a) → (∀ k, k < 11 → g 98 k = -1 ∧ g 99 k = -1) → wp (f_M_refresh_19 0 g) (fun t => (∀ a, a ≠ 98 → a ≠ 99 → t a = s a) ∧ MS A t) := by
    intro g h1 h2
    unfold f_M_refresh_19
    refine wp_for (aN A) (fun k x => x.1 = (k : Int) ∧ (∀ a, a ≠ 98 → a ≠ 99 → x.2 a = s a) ∧ ∀ b, b < 11 → x.2 98 b = po (ap A) (2 * b + 1) k ∧ x.2 99 b = po (ap A) (2 * b) k) 0 _ (by omega) (by omega) ⟨rfl, h1, h2⟩ ?_ ?_
    · rintro k ⟨i, s'⟩ _ hk ⟨rfl, q1, q2⟩
      dsimp only at q1 q2
      have hp := a4 k hk
      have hM' : M0 A s' := by
        unfold M0
        rw [q1 86 (by decide) (by decide), q1 87 (by decide) (by decide), q1 88 (by decide) (by decide)]
        exact hM
      simp only [f_M_refresh_19b, f_M_refresh_46, e_M_places0 hA hM', Option.bind_some, wp_ite, wp_bind, wp_gI, wp_gLet, wp_some, gE_l, gE_r, Int.toNat_natCast]
      obtain ⟨-, -, m4⟩ := hM'
      obtain ⟨m5, m6⟩ := m4 k hk
      rw [m5, m6, Int.toNat_natCast]
      refine ⟨fun c => by omega, fun _ => ⟨by omega, fun c => ⟨by omega, by omega, ?_, ?_, ?_⟩, fun c => ⟨by omega, by omega, ?_, ?_, ?_⟩⟩⟩
      · rw [wI_id (by omega) (by omega)]; rfl
      · intro a h98 h99
        rw [gU_n _ _ _ h98]
        exact q1 a h98 h99
      · intro b hb
        obtain ⟨e1, e2⟩ := q2 b hb
        unfold po
        refine ⟨?_, ?_⟩
        · by_cases hc : b = ap A k / 2
          · rw [hc, gUs, if_pos (by omega)]
          · rw [gUo _ _ _ hc, if_neg (by omega), e1]
        · rw [gUn _ _ _ (by decide), if_neg (by omega), e2]
      · rw [wI_id (by omega) (by omega)]; rfl
      · intro a h98 h99
        rw [gU_n _ _ _ h99]
        exact q1 a h98 h99
      · intro b hb
        obtain ⟨e1, e2⟩ := q2 b hb
        unfold po
        refine ⟨?_, ?_⟩
        · rw [gUn _ _ _ (by decide), if_neg (by omega), e1]
        · by_cases hc : b = ap A k / 2
          · rw [hc, gUs, if_pos (by omega)]
          · rw [gUo _ _ _ hc, if_neg (by omega), e2]
    · rintro ⟨i, s'⟩ ⟨rfl, q1, q2⟩
      dsimp only at q1 q2
      have hM' : M0 A s' := by
        unfold M0
        rw [q1 86 (by decide) (by decide), q1 87 (by decide) (by decide), q1 88 (by decide) (by decide)]
        exact hM
      simp only [f_M_refresh_19b, e_M_places0 hA hM', Option.bind_some, wp_ite, wp_bind, wp_gI, wp_gLet, wp_some, gE_l, gE_r]
      exact ⟨fun _ => ⟨q1, q2⟩, fun c => by omega⟩
  have h3 : wp (f_M_refresh s) (fun t => (∀ a, a ≠ 98 → a ≠ 99 → t a = s a) ∧ MS A t) := by
    unfold f_M_refresh f_M_refresh_2
    refine wp_for 11 (fun k x => x.1 = (k : Int) ∧ (∀ a, a ≠ 98 → a ≠ 99 → x.2 a = s a) ∧ ∀ b, b < k → x.2 98 b = -1 ∧ x.2 99 b = -1) 0 _ (by omega) (by omega) ⟨rfl, fun _ _ _ => rfl, fun b hb => by omega⟩ ?_ ?_
    · rintro k ⟨i, s'⟩ _ hk ⟨rfl, q1, q2⟩
      dsimp only at q1 q2
      simp only [f_M_refresh_2b, wp_ite, wp_bind, wp_gI, wp_gLet, wp_some, gE_l, gE_r, Int.toNat_natCast]
      refine ⟨fun c => by omega, fun _ => ⟨by omega, by omega, ?_, ?_, ?_⟩⟩
      · rw [wI_id (by omega) (by omega)]; rfl
      · intro a h98 h99
        rw [gU_n _ _ _ h99, gU_n _ _ _ h98]
        exact q1 a h98 h99
      · intro b hb
        rw [gUn _ _ _ (by decide)]
        by_cases hc : b = k
        · rw [hc, gUs, gUs]; exact ⟨rfl, rfl⟩
        · rw [gUo _ _ _ hc, gUo _ _ _ hc, gUn _ _ _ (by decide)]
          exact q2 b (by omega)
    · rintro ⟨i, s'⟩ ⟨rfl, q1, q2⟩
      simp only [f_M_refresh_2b, wp_ite, wp_bind, wp_gI, wp_gLet, wp_some, wp_map, gE_l, gE_r]
      exact ⟨fun _ => h2 s' q1 q2, fun c => by omega⟩
  exact h3
theorem e_M_lay {a n b m : Nat} (hab : a ≠ b) (hnm : n ≤ m) (hn : n < 4000) (s : kM) : f_M_lay a n b m s = some (gA s b (fun j => if j < n then s a j else s b j)) := by
  unfold f_M_lay f_M_lay_2
  apply wp_eq
  refine wp_for n (fun k x => x.1 = (k : Int) ∧ x.2 = gA s b (fun j => if j < k then s a j else s b j)) 0 _ (by omega) (by omega) (by exact ⟨rfl, (gA_id s b).symm⟩) ?_ ?_
  · rintro k ⟨y, w⟩ _ hk ⟨rfl, rfl⟩
    dsimp only
    unfold f_M_lay_2b
    rw [if_neg (show ¬ ((n : Nat) : Int) ≤ (k : Int) by omega), gI_n hk, Option.bind_some, gI_n (show k < m by omega), Option.bind_some, gLet_eq, wp_some, gE_l]
    dsimp only
    rw [wI_s (by omega), gAn _ _ hab, gUA]
    refine ⟨rfl, ?_⟩
    congr 1
    funext j
    unfold kup
    by_cases h : j = k
    · rw [if_pos h, if_pos (by omega), h]
    · rw [if_neg h]
      dsimp only
      by_cases h2 : j < k
      · rw [if_pos h2, if_pos (by omega)]
      · rw [if_neg h2, if_neg (by omega)]
  · rintro ⟨y, w⟩ ⟨rfl, rfl⟩
    dsimp only
    unfold f_M_lay_2b
    rw [if_pos (Int.le_refl _), wp_some, gE_r]
/-! every bridge is gone over and under -/
def whA (A : zA) : Prop := ∀ k, k < 11 → tld (ap A) (2 * k + 1) (aN A) = tld (ap A) (2 * k) (aN A)
theorem cnt1 {p : Nat → Nat} : ∀ n, (∀ j, j < n → p j < 22) → (∀ i j, i < n → j < n → p i = p j → i = j) → oc (bmk p 1 n) 11 + oc (bmk p 0 n) 11 = n
  | 0, _, _ => by
    show oc 0 11 + oc 0 11 = 0
    rw [oc_0]
  | n + 1, h1, h2 => by
    have ih := cnt1 (p := p) n (fun j hj => h1 j (by omega)) (fun i j hi hj => h2 i j (by omega) (by omega))
    have hlt := h1 n (by omega)
    have hno : ¬ tld p (p n) n = true := fun q => by
      obtain ⟨j, hj, he⟩ := (tld_iff n).mp q
      have := h2 j n (by omega) (by omega) he
      omega
    have hw : p n % 2 = 0 ∨ p n % 2 = 1 := by omega
    rw [bmk_s, bmk_s]
    rcases hw with hw | hw
    · rw [if_neg (by omega), if_pos hw, Nat.or_zero, oc_or, if_pos (by omega)]
      · omega
      · rw [bmk_bit (by omega), show 2 * (p n / 2) + 0 = p n by omega]
        exact Bool.eq_false_iff.mpr hno
    · rw [if_pos hw, if_neg (by omega), Nat.or_zero, oc_or, if_pos (by omega)]
      · omega
      · rw [bmk_bit (by omega), show 2 * (p n / 2) + 1 = p n by omega]
        exact Bool.eq_false_iff.mpr hno
theorem mk_bmk (p : Nat → Nat) (n : Nat) : mk p n = bmk p 1 n ||| bmk p 0 n := by
  apply Nat.eq_of_testBit_eq
  intro i
  rw [Nat.testBit_or, bmk_bit (by omega), bmk_bit (by omega), Bool.eq_iff_iff, mk_bit, Bool.or_eq_true, tld_iff, tld_iff]
  constructor
  · rintro ⟨j, h1, h2⟩
    by_cases h : p j % 2 = 1
    · exact Or.inl ⟨j, h1, by omega⟩
    · exact Or.inr ⟨j, h1, by omega⟩
  · rintro (⟨j, h1, h2⟩ | ⟨j, h1, h2⟩)
    · exact ⟨j, h1, by omega⟩
    · exact ⟨j, h1, by omega⟩
theorem oc_2 (x y : Nat) : ∀ n, oc x n + oc y n ≤ 2 * oc (x ||| y) n ∧ (oc x n + oc y n = 2 * oc (x ||| y) n ↔ ∀ k, k < n → x.testBit k = y.testBit k)
  | 0 => ⟨Nat.le_refl _, fun _ k hk => (by omega), fun _ => rfl⟩
  | n + 1 => by
    obtain ⟨h1, h2⟩ := oc_2 x y n
    rw [oc_succ, oc_succ, oc_succ, Nat.testBit_or]
    by_cases hx : x.testBit n = true
    · by_cases hy : y.testBit n = true
      · rw [hx, hy]
        simp only [Bool.or_true, if_true]
        refine ⟨by omega, ?_⟩
        rw [show oc x n + 1 + (oc y n + 1) = 2 * (oc (x ||| y) n + 1) ↔ oc x n + oc y n = 2 * oc (x ||| y) n by omega, h2]
        constructor
        · intro h k hk
          by_cases hkn : k = n
          · rw [hkn, hx, hy]
          · exact h k (by omega)
        · intro h k hk
          exact h k (by omega)
      · have hy' := Bool.eq_false_iff.mpr hy
        rw [hx, hy']
        simp only [Bool.or_false, if_true, Bool.false_eq_true, if_false]
        refine ⟨by omega, fun h => by omega, fun h => ?_⟩
        have := h n (by omega)
        rw [hx, hy'] at this
        cases this
    · have hx' := Bool.eq_false_iff.mpr hx
      by_cases hy : y.testBit n = true
      · rw [hx', hy]
        simp only [Bool.or_true, if_true, Bool.false_eq_true, if_false]
        refine ⟨by omega, fun h => by omega, fun h => ?_⟩
        have := h n (by omega)
        rw [hx', hy] at this
        cases this
      · have hy' := Bool.eq_false_iff.mpr hy
        rw [hx', hy']
        simp only [Bool.or_false, Bool.false_eq_true, if_false, Nat.add_zero]
        refine ⟨h1, ?_⟩
        rw [h2]
        constructor
        · intro h k hk
          by_cases hkn : k = n
          · rw [hkn, hx', hy']
          · exact h k (by omega)
        · intro h k hk
          exact h k (by omega)
theorem wh_cnt {A : zA} (hA : okB A) : aN A = 2 * oc (mk (ap A) (aN A)) 11 ↔ whA A := by
  have h1 := cnt1 (aN A) hA.2.2.2.1 hA.2.2.2.2
  have h2 := (oc_2 (bmk (ap A) 1 (aN A)) (bmk (ap A) 0 (aN A)) 11).2
  rw [← mk_bmk, h1] at h2
  rw [h2]
  unfold whA
  constructor
  · intro h k hk
    have := h k hk
    rw [bmk_bit (by omega), bmk_bit (by omega)] at this
    exact this
  · intro h k hk
    rw [bmk_bit (by omega), bmk_bit (by omega)]
    exact h k hk
theorem okA_wh {A : zA} (hA : PI A) (hR : 1 ≤ aR A) (hw : whA A) : okA A := by
  refine ⟨hA.1, fun h => by omega, hA.2.1, fun j hj => ?_, fun k hk => ?_⟩
  · have hp := hA.1.2.2.2.1 j hj
    have hk := hw (ap A j / 2) (by omega)
    by_cases h : ap A j % 2 = 1
    · have : tld (ap A) (2 * (ap A j / 2) + 1) (aN A) = true := (tld_iff _).mpr ⟨j, hj, by omega⟩
      rw [this] at hk
      obtain ⟨i, h1, h2⟩ := (tld_iff _).mp hk.symm
      exact ⟨i, h1, by omega, by omega⟩
    · have : tld (ap A) (2 * (ap A j / 2)) (aN A) = true := (tld_iff _).mpr ⟨j, hj, by omega⟩
      rw [this] at hk
      obtain ⟨i, h1, h2⟩ := (tld_iff _).mp hk
      exact ⟨i, h1, by omega, by omega⟩
  · obtain ⟨j, hj, he⟩ := hk
    have hp := hA.1.2.2.2.1 j hj
    have hk := hw k (by omega)
    apply hA.2.2 k
    by_cases h : ap A j % 2 = 1
    · exact (tld_iff _).mpr ⟨j, hj, by omega⟩
    · rw [hk]
      exact (tld_iff _).mpr ⟨j, hj, by omega⟩
theorem pr_tld {A : zA} (hA : okB A) (hw : whA A) {k : Nat} (h : pr A k) : tld (ap A) (2 * k + 1) (aN A) = true := by
  obtain ⟨j, hj, he⟩ := h
  have hp := hA.2.2.2.1 j hj
  have hk := hw k (by omega)
  by_cases h : ap A j % 2 = 1
  · exact (tld_iff _).mpr ⟨j, hj, by omega⟩
  · rw [hk]
    exact (tld_iff _).mpr ⟨j, hj, by omega⟩
theorem po_tld {p : Nat → Nat} {c n : Nat} : po p c n = -1 ↔ ¬ tld p c n = true := by
  rcases po_cases p c n with ⟨h1, h2⟩ | ⟨j, h1, h2, h3⟩
  · exact ⟨fun _ q => by obtain ⟨j, hj, he⟩ := (tld_iff n).mp q; exact h2 j hj he, fun _ => h1⟩
  · exact ⟨fun q => by omega, fun q => absurd ((tld_iff n).mpr ⟨j, h1, h2⟩) q⟩
def whB (A : zA) : Nat → Bool
  | 0 => true
  | n + 1 => whB A n && decide (tld (ap A) (2 * n + 1) (aN A) = tld (ap A) (2 * n) (aN A))
theorem whB_iff {A : zA} : ∀ n, whB A n = true ↔ ∀ k, k < n → tld (ap A) (2 * k + 1) (aN A) = tld (ap A) (2 * k) (aN A)
  | 0 => ⟨fun _ k hk => (by omega), fun _ => rfl⟩
  | n + 1 => by
    show (whB A n && decide (tld (ap A) (2 * n + 1) (aN A) = tld (ap A) (2 * n) (aN A))) = true ↔ _
    rw [Bool.and_eq_true, decide_eq_true_eq, whB_iff n]
    constructor
    · rintro ⟨h1, h2⟩ k hk
      by_cases hkn : k = n
      · rw [hkn]; exact h2
      · exact h1 k (by omega)
    · intro h
      exact ⟨fun k hk => h k (by omega), h n (by omega)⟩
theorem e_areWhole {A : zA} {s : kM} (hM : MS A s) : f_M_areWhole s = some (if whB A 11 = true then 1 else 0) := by
  unfold f_M_areWhole f_M_areWhole_4
  apply wp_eq
  refine wp_for 11 (fun k x => x.1 = (if whB A k = true then 1 else 0) ∧ x.2 = (k : Int)) 0 _ (by omega) (by omega) (by exact ⟨rfl, rfl⟩) ?_ ?_
  · rintro k ⟨y1, y2⟩ _ hk ⟨rfl, rfl⟩
    obtain ⟨m1, m2⟩ := hM k hk
    have p1 := po_tld (p := ap A) (c := 2 * k + 1) (n := aN A)
    have p2 := po_tld (p := ap A) (c := 2 * k) (n := aN A)
    have hs : whB A (k + 1) = (whB A k && decide (tld (ap A) (2 * k + 1) (aN A) = tld (ap A) (2 * k) (aN A))) := rfl
    dsimp only
    unfold f_M_areWhole_4b f_M_areWhole_18 f_M_areWhole_27 f_M_areWhole_30 f_M_areWhole_31
    rw [if_neg (show ¬ (11 : Int) ≤ (k : Int) by omega), gI_n hk, Option.bind_some, Option.bind_some, Option.bind_some, m1, m2, wI_s (by omega), hs]
    by_cases c1 : whB A k = true
    · rw [c1, if_pos rfl, if_neg (by decide), Bool.true_and]
      by_cases t1 : tld (ap A) (2 * k + 1) (aN A) = true
      · rw [if_neg (fun z => p1.mp z t1)]
        by_cases t2 : tld (ap A) (2 * k) (aN A) = true
        · rw [if_neg (fun z => p2.mp z t2), if_pos rfl, wp_some, gE_l, t1, t2]
          exact ⟨rfl, rfl⟩
        · rw [if_pos (p2.mpr t2), if_neg (by decide), wp_some, gE_l, t1, Bool.eq_false_iff.mpr t2]
          exact ⟨rfl, rfl⟩
      · rw [if_pos (p1.mpr t1)]
        by_cases t2 : tld (ap A) (2 * k) (aN A) = true
        · rw [if_neg (fun z => p2.mp z t2), if_neg (by decide), wp_some, gE_l, Bool.eq_false_iff.mpr t1, t2]
          exact ⟨rfl, rfl⟩
        · rw [if_pos (p2.mpr t2), if_pos rfl, wp_some, gE_l, Bool.eq_false_iff.mpr t1, Bool.eq_false_iff.mpr t2]
          exact ⟨rfl, rfl⟩
    · rw [if_neg c1, if_pos rfl, wp_some, gE_l, Bool.eq_false_iff.mpr c1, Bool.false_and]
      exact ⟨rfl, rfl⟩
  · rintro ⟨y1, y2⟩ ⟨rfl, rfl⟩
    dsimp only
    unfold f_M_areWhole_4b
    rw [if_pos (show (11 : Int) ≤ ((11 : Nat) : Int) by decide)]
    by_cases c1 : whB A 11 = true
    · rw [if_pos c1, show gB 1 = some () from rfl, Option.bind_some, wp_some, gE_r]
    · rw [if_neg c1, show gB 0 = some () from rfl, Option.bind_some, wp_some, gE_r]
