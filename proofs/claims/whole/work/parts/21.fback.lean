/-! back to front -/
theorem wI_s {k : Nat} (h : k < 2147483647) : wI ((k : Int) + 1) = ((k + 1 : Nat) : Int) := by
  rw [wI_id (by omega) (by omega)]
  rfl
theorem wI_1 {k : Nat} (h : k < 2147483647) : wI (1 + (k : Int)) = ((1 + k : Nat) : Int) := by
  rw [wI_id (by omega) (by omega)]
  rfl
theorem gA_e {s : kM} {a : Nat} {f g : Nat → Int} (h : ∀ i, f i = g i) : gA s a f = gA s a g := by
  rw [show f = g from funext h]
def sm (A : zA) : Nat := mk (ap A) (aF A) &&& mo A
/-- the first r of a stretch have changed places with the last r -/
def rf {α : Type} (f : Nat → α) (a e r : Nat) : Nat → α := fun j => if (a ≤ j ∧ j < a + r) ∨ (e ≤ j + r ∧ j < e) then f (a + e - 1 - j) else f j
def rvP (p : Nat → Nat) (a e : Nat) : Nat → Nat := fun j => if a ≤ j ∧ j < e then p (a + e - 1 - j) else p j
def rvA (A : zA) (a e : Nat) : zA := (aR A, aF A, aN A, rvP (ap A) a e, fun i => if (sm A).testBit i then 1 - ah A i else ah A i)
theorem rf_0 {α : Type} (f : Nat → α) (a e : Nat) : rf f a e 0 = f := by
  funext j
  unfold rf
  rw [if_neg (by omega)]
theorem rf_s {α : Type} (f : Nat → α) (a e r : Nat) (h : a + r < e - 1 - r) : kup (kup (rf f a e r) (a + r) (rf f a e r (e - 1 - r))) (e - 1 - r) (rf f a e r (a + r)) = rf f a e (r + 1) := by
  have e1 : rf f a e r (e - 1 - r) = f (e - 1 - r) := by unfold rf; rw [if_neg (by omega)]
  have e2 : rf f a e r (a + r) = f (a + r) := by unfold rf; rw [if_neg (by omega)]
  rw [e1, e2]
  funext j
  unfold kup rf
  by_cases h1 : j = e - 1 - r
  · rw [if_pos h1, if_pos (by omega)]
    congr 1
    omega
  · rw [if_neg h1]
    by_cases h2 : j = a + r
    · rw [if_pos h2, if_pos (by omega)]
      congr 1
      omega
    · rw [if_neg h2]
      by_cases h3 : (a ≤ j ∧ j < a + r) ∨ (e ≤ j + r ∧ j < e)
      · rw [if_pos h3, if_pos (by omega)]
      · rw [if_neg h3, if_neg (by omega)]
theorem rf_end (f : Nat → Int) (a e : Nat) (hae : a ≤ e) (j : Nat) : rf f a e ((e - a) / 2) j = if a ≤ j ∧ j < e then f (a + e - 1 - j) else f j := by
  unfold rf
  by_cases h1 : (a ≤ j ∧ j < a + (e - a) / 2) ∨ (e ≤ j + (e - a) / 2 ∧ j < e)
  · rw [if_pos h1, if_pos (by omega)]
  · rw [if_neg h1]
    by_cases h2 : a ≤ j ∧ j < e
    · rw [if_pos h2, show a + e - 1 - j = j by omega]
    · rw [if_neg h2]
theorem pr_rv {A : zA} {a e k : Nat} (he : e ≤ aN A) : pr (rvA A a e) k ↔ pr A k := by
  have key : ∀ p : Nat → Nat, (∃ j, j < aN A ∧ p j / 2 = k) → ∃ j, j < aN A ∧ rvP p a e j / 2 = k := by
    rintro p ⟨j, h1, h2⟩
    by_cases hj : a ≤ j ∧ j < e
    · refine ⟨a + e - 1 - j, by omega, ?_⟩
      unfold rvP
      rw [if_pos (by omega), show a + e - 1 - (a + e - 1 - j) = j by omega]
      exact h2
    · refine ⟨j, h1, ?_⟩
      unfold rvP
      rw [if_neg hj]
      exact h2
  constructor
  · intro h
    have h' : ∃ j, j < aN A ∧ rvP (ap A) a e j / 2 = k := h
    have := key _ h'
    obtain ⟨j, h1, h2⟩ := this
    refine ⟨j, h1, ?_⟩
    unfold rvP at h2
    by_cases hj : a ≤ j ∧ j < e
    · rw [if_pos hj, if_pos (by omega), show a + e - 1 - (a + e - 1 - j) = j by omega] at h2
      exact h2
    · rw [if_neg hj, if_neg hj] at h2
      exact h2
  · intro h
    exact key _ h
theorem okA_rv {A : zA} (hA : okA A) {a e : Nat} (he : e ≤ aN A) : okA (rvA A a e) := by
  have hA' := hA
  obtain ⟨⟨a1, a2, a3, a4, a5⟩, b1, b2, b3, b4⟩ := hA'
  -- where a place has gone to
  have go : ∀ j, j < aN A → ∃ m, m < aN A ∧ rvP (ap A) a e j = ap A m ∧ (m = if a ≤ j ∧ j < e then a + e - 1 - j else j) := by
    intro j hj
    unfold rvP
    by_cases h : a ≤ j ∧ j < e
    · exact ⟨a + e - 1 - j, by omega, by rw [if_pos h], by rw [if_pos h]⟩
    · exact ⟨j, hj, by rw [if_neg h], by rw [if_neg h]⟩
  have back : ∀ m, m < aN A → ∃ j, j < aN A ∧ rvP (ap A) a e j = ap A m := by
    intro m hm
    by_cases h : a ≤ m ∧ m < e
    · refine ⟨a + e - 1 - m, by omega, ?_⟩
      unfold rvP
      rw [if_pos (by omega), show a + e - 1 - (a + e - 1 - m) = m by omega]
    · exact ⟨m, hm, by unfold rvP; rw [if_neg h]⟩
  refine ⟨⟨a1, a2, a3, ?_, ?_⟩, b1, b2, ?_, ?_⟩
  · intro j hj
    obtain ⟨m, h1, h2, -⟩ := go j hj
    show rvP (ap A) a e j < 22
    rw [h2]
    exact a4 m h1
  · intro i j hi hj hij
    obtain ⟨m, h1, h2, h3⟩ := go i hi
    obtain ⟨n, g1, g2, g3⟩ := go j hj
    have hij' : rvP (ap A) a e i = rvP (ap A) a e j := hij
    rw [h2, g2] at hij'
    have hmn := a5 m n h1 g1 hij'
    have hi' : i < aN A := hi
    have hj' : j < aN A := hj
    split at h3 <;> split at g3 <;> omega
  · intro j hj
    obtain ⟨m, h1, h2, -⟩ := go j hj
    obtain ⟨i, g1, g2, g3⟩ := b3 m h1
    obtain ⟨l, l1, l2⟩ := back i g1
    refine ⟨l, l1, ?_, ?_⟩
    · show rvP (ap A) a e l / 2 = rvP (ap A) a e j / 2
      rw [l2, h2]; exact g2
    · show rvP (ap A) a e l ≠ rvP (ap A) a e j
      rw [l2, h2]; exact g3
  · intro i hi
    show (if (sm A).testBit i then 1 - ah A i else ah A i) ≤ 1
    split
    · omega
    · exact b4 i ((pr_rv he).mp hi)
theorem wp_reverse {b : Nat} {A : zA} (hA : okA A) {s : kM} (hK : KT b A s) (r : Int) {a e : Nat} (hae : a ≤ e) (he : e ≤ aN A) (h1 : (if r = 0 then 0 else (aF A : Int)) = a) (h2 : (if r = 0 then (aF A : Int) else aN A) = e) : wp (f_Town_reverse b r s) (fun t => KR b (rvA A a e) t) := by
  have hn := okB_n hA.1
  obtain ⟨l1, l2, l3⟩ := mo_lt hA.1
  obtain ⟨r1, r2, r3, r4, r5⟩ := hK.1
  unfold f_Town_reverse
  rw [e_met0 hA.1 hK, e_met1 hA.1 hK, e_roadStart hK, e_roadEnd hK, h1, h2]
  simp only [Option.bind_some]
  rw [kand_n (by omega) (by omega), wI_id (by omega) (by omega)]
  -- the hands
  have hands : ∀ g : kM, (∀ z, z ≠ b + 1 → g z = s z) → (∀ j, j < aN A → g (b + 1) j = ((rvP (ap A) a e j : Nat) : Int)) → wp (f_Town_reverse_44 b ((sm A : Nat) : Int) 0 g) (fun t => KR b (rvA A a e) t) := by
    intro g g0 g1
    unfold f_Town_reverse_44
    refine wp_for 11 (fun k x => x.1 = (k : Int) ∧ x.2 = gA g (b + 2) (fun i => if i < k ∧ (sm A).testBit i = true then 1 - s (b + 2) i else s (b + 2) i)) 0 _ (by omega) (by omega) ⟨rfl, ?_⟩ ?_ ?_
    · dsimp only
      rw [show (fun i => if i < 0 ∧ (sm A).testBit i = true then 1 - s (b + 2) i else s (b + 2) i) = g (b + 2) by
        funext i
        rw [if_neg (by omega), g0 _ (by omega)], gA_id]
    · rintro k ⟨y, t⟩ _ hk ⟨rfl, rfl⟩
      have hl3 : sm A < 2048 := l3
      simp only [f_Town_reverse_44b, f_Town_reverse_64, wp_ite, wp_bind, wp_gI, wp_gLet, wp_some, gE_l, Int.toNat_natCast, gUA, gA_s]
      rw [kbit (show sm A < 2147483648 by omega) (by omega)]
      refine ⟨fun c => by omega, fun _ => ⟨fun c => ⟨by omega, by omega, wI_s (by omega), ?_⟩, fun c => ⟨wI_s (by omega), ?_⟩⟩⟩
      · have hb : (sm A).testBit k = true := by
          by_cases h : (sm A).testBit k = true
          · exact h
          · rw [if_neg h] at c; omega
        have hh := hA.2.2.2.2 k (sh_and hb).1
        refine gA_e (fun i => ?_)
        unfold kup
        by_cases hi : i = k
        · subst hi
          rw [if_pos rfl, if_neg (by omega), if_pos ⟨by omega, hb⟩, r5 i (sh_and hb).1, wI_id (by omega) (by omega)]
        · rw [if_neg hi]
          dsimp only
          by_cases h : i < k ∧ (sm A).testBit i = true
          · rw [if_pos h, if_pos ⟨by omega, h.2⟩]
          · rw [if_neg h, if_neg (fun q => h ⟨by omega, q.2⟩)]
      · have hb : ¬ (sm A).testBit k = true := fun h => by rw [if_pos h] at c; omega
        refine gA_e (fun i => ?_)
        by_cases h : i < k ∧ (sm A).testBit i = true
        · rw [if_pos h, if_pos ⟨by omega, h.2⟩]
        · rw [if_neg h, if_neg (fun q => by
            by_cases hik : i = k
            · rw [hik] at q; exact hb q.2
            · exact h ⟨by omega, q.2⟩)]
    · rintro ⟨y, t⟩ ⟨rfl, rfl⟩
      simp only [f_Town_reverse_44b, wp_ite, wp_some, gE_r]
      refine ⟨fun _ => ?_, fun c => absurd (by omega : (11 : Int) ≤ ((11 : Nat) : Int)) c⟩
      refine ⟨?_, ?_, ?_, ?_, ?_⟩
      · rw [gAn _ _ (by omega), g0 _ (by omega)]; exact r1
      · rw [gAn _ _ (by omega), g0 _ (by omega)]; exact r2
      · rw [gAn _ _ (by omega), g0 _ (by omega)]; exact r3
      · intro j hj
        rw [gAn _ _ (by omega)]
        exact g1 j hj
      · intro i hi
        rw [gA_s]
        have hp := (pr_rv he).mp hi
        have hi11 : i < 11 := by
          obtain ⟨j, q1, q2⟩ := hp
          have := hA.1.2.2.2.1 j q1
          omega
        have hh := hA.2.2.2.2 i hp
        show _ = ((if (sm A).testBit i then 1 - ah A i else ah A i : Nat) : Int)
        rw [r5 i hp]
        by_cases h : (sm A).testBit i = true
        · rw [if_pos ⟨hi11, h⟩, if_pos h]; omega
        · rw [if_neg (fun q => h q.2), if_neg h]
  unfold f_Town_reverse_18
  refine wp_for ((e - a) / 2) (fun k x => x.1 = (a : Int) + k ∧ x.2.1 = (e : Int) - 1 - k ∧ x.2.2 = gA s (b + 1) (rf (s (b + 1)) a e k)) 0 _ (by omega) (by omega) ⟨by simp, by simp, by rw [rf_0, gA_id]⟩ ?_ ?_
  · rintro k ⟨y1, y2, t⟩ _ hk ⟨rfl, rfl, rfl⟩
    simp only [f_Town_reverse_18b, wp_ite, wp_bind, wp_gI, wp_gLet, wp_some, gE_l, gUA, gA_s]
    rw [wI_id (x := (a : Int) + k + 1) (by omega) (by omega), wI_id (x := (e : Int) - 1 - k + -1) (by omega) (by omega), show ((a : Int) + k).toNat = a + k by omega, show ((e : Int) - 1 - k).toNat = e - 1 - k by omega]
    refine ⟨fun c => by omega, fun _ => ⟨by omega, by omega, by omega, by omega, by omega, by omega, ?_⟩⟩
    rw [rf_s _ _ _ _ (by omega)]
  · rintro ⟨y1, y2, t⟩ ⟨rfl, rfl, rfl⟩
    simp only [f_Town_reverse_18b, wp_ite, wp_map, gE_r]
    refine ⟨fun _ => hands _ (fun z hz => by rw [gAn _ _ hz]) (fun j hj => ?_), fun c => absurd (by omega : (e : Int) - 1 - ((e - a) / 2 : Nat) ≤ (a : Int) + ((e - a) / 2 : Nat)) c⟩
    rw [gA_s, rf_end _ _ _ hae]
    unfold rvP
    by_cases h : a ≤ j ∧ j < e
    · rw [if_pos h, if_pos h]; exact r4 _ (by omega)
    · rw [if_neg h, if_neg h]; exact r4 j hj
theorem wp_M_back {A : zA} (hA : okA A) {s : kM} (hM : MT A s) (r : Nat) (hr : r = 0 ∨ r = 1) (hR : (r : Int) < aR A) {a e : Nat} (hae : a ≤ e) (he : e ≤ aN A) (h1 : (if (r : Int) = 0 then 0 else (aF A : Int)) = a) (h2 : s 86 (1 + r) = (e : Int) - a) : wp (f_M_backToFront r s) (fun t => MT (rvA A a e) t.2 ∧ t.1 = (e : Int) - a) := by
  have hn := okB_n hA.1
  have hR2 := hA.1.1
  have hM' := hM
  obtain ⟨⟨r1, r2, r3, r4, r5⟩, r6⟩ := hM'
  unfold f_M_backToFront
  rw [e_M_in, r1, wI_id (by omega) (by omega), if_pos (by omega)]
  simp only [Option.bind_some, show ¬ ((1 : Int) = 0) by decide, if_false]
  -- the passes
  have passes : ∀ g : kM, (∀ z, z ≠ 89 → g z = s z) → (∀ i, i < 11 → pr A i → g 89 i = ((if (sm A).testBit i then 1 - ah A i else ah A i : Nat) : Int)) → wp (f_M_backToFront_52 a ((e : Int) - a) 0 g) (fun t => MT (rvA A a e) t.2 ∧ t.1 = (e : Int) - a) := by
    intro g g0 g1
    unfold f_M_backToFront_52
    have hd : kdiv ((e : Int) - a) 2 = (((e - a) / 2 : Nat) : Int) := by
      have := kdiv_n (a := e - a) (b := 2) (by omega) (by omega) (by omega)
      rw [show ((e - a : Nat) : Int) = (e : Int) - a by omega] at this
      exact this
    refine wp_for ((e - a) / 2) (fun k x => x.1 = (k : Int) ∧ x.2 = gA (gA g 87 (rf (g 87) a e k)) 88 (rf (g 88) a e k)) 0 _ (by omega) (by omega) ⟨rfl, by rw [rf_0, rf_0, gA_id, gA_id]⟩ ?_ ?_
    · rintro k ⟨y, t⟩ _ hk ⟨rfl, rfl⟩
      simp only [f_M_backToFront_52b, hd, wp_ite, wp_bind, wp_gI, wp_gLet, wp_some, gE_l]
      rw [wI_id (x := (a : Int) + k) (by omega) (by omega), wI_id (x := (a : Int) + ((e : Int) - a)) (by omega) (by omega), wI_id (x := (a : Int) + ((e : Int) - a) - 1) (by omega) (by omega), wI_id (x := (a : Int) + ((e : Int) - a) - 1 - k) (by omega) (by omega), wI_id (x := (k : Int) + 1) (by omega) (by omega), show ((a : Int) + k).toNat = a + k by omega, show ((a : Int) + ((e : Int) - a) - 1 - k).toNat = e - 1 - k by omega]
      refine ⟨fun c => by omega, fun _ => ⟨by omega, by omega, by omega, by omega, by omega, by omega, by omega, by omega, by omega, ?_⟩⟩
      funext z j
      by_cases h87 : z = 87
      · subst h87
        rw [gUn _ _ _ (by decide), gU_s, gU_n _ _ _ (by decide), gU_s, gAn _ _ (by decide), gA_s, gAn _ _ (by decide), gA_s, rf_s _ _ _ _ (by omega)]
      · by_cases h88 : z = 88
        · subst h88
          rw [gU_s, gU_n _ _ _ (by decide), gU_s, gU_n _ _ _ (by decide), gA_s, gA_s, rf_s _ _ _ _ (by omega)]
        · rw [gUn _ _ _ h88, gUn _ _ _ h87, gUn _ _ _ h88, gUn _ _ _ h87, gAn _ _ h88, gAn _ _ h87, gAn _ _ h88, gAn _ _ h87]
    · rintro ⟨y, t⟩ ⟨rfl, rfl⟩
      simp only [f_M_backToFront_52b, hd, wp_ite, wp_bind]
      refine ⟨fun _ => ?_, fun c => absurd (Int.le_refl _) c⟩
      refine (wp_refresh (A := rvA A a e) (okA_rv hA he).1 ?_).mono (fun t ht => by rw [wp_some]; exact ⟨ht, rfl⟩)
      refine ⟨?_, ?_, ?_, ?_, ?_⟩
      · rw [gAn _ _ (by decide), gAn _ _ (by decide), g0 86 (by decide)]; exact r1
      · rw [gAn _ _ (by decide), gAn _ _ (by decide), g0 86 (by decide)]; exact r2
      · rw [gAn _ _ (by decide), gAn _ _ (by decide), g0 86 (by decide)]; exact r3
      · intro j hj
        rw [gA_s, gAn _ _ (by decide), gA_s, rf_end _ _ _ hae, rf_end _ _ _ hae, g0 87 (by decide), g0 88 (by decide)]
        show _ = ((rvP (ap A) a e j / 2 : Nat) : Int) ∧ _ = ((rvP (ap A) a e j % 2 : Nat) : Int)
        unfold rvP
        by_cases h : a ≤ j ∧ j < e
        · rw [if_pos h, if_pos h, if_pos h]; exact r4 _ (by omega)
        · rw [if_neg h, if_neg h, if_neg h]; exact r4 j hj
      · intro i hi
        rw [gAn _ _ (by decide), gAn _ _ (by decide)]
        have hp := (pr_rv he).mp hi
        have hi11 : i < 11 := by
          obtain ⟨j, q1, q2⟩ := hp
          have := hA.1.2.2.2.1 j q1
          omega
        exact g1 i hi11 hp
  unfold f_M_backToFront_16
  refine wp_for 11 (fun k x => x.1 = (k : Int) ∧ x.2 = gA s 89 (fun i => if i < k ∧ (sm A).testBit i = true then 1 - s 89 i else s 89 i)) 0 _ (by omega) (by omega) ⟨rfl, ?_⟩ ?_ ?_
  · dsimp only
    rw [show (fun i => if i < 0 ∧ (sm A).testBit i = true then 1 - s 89 i else s 89 i) = s 89 by
      funext i
      rw [if_neg (by omega)], gA_id]
  · rintro k ⟨y, t⟩ _ hk ⟨rfl, rfl⟩
    -- bridges and roads are what they were
    have ib : ∀ x : Int, f_M_isBridge x (gA s 89 (fun i => if i < k ∧ (sm A).testBit i = true then 1 - s 89 i else s 89 i)) = f_M_isBridge x s := by
      intro x
      unfold f_M_isBridge f_M_in
      rw [gAn _ _ (by decide)]
    have io : ∀ x : Int, f_M_isOfBoth x (gA s 89 (fun i => if i < k ∧ (sm A).testBit i = true then 1 - s 89 i else s 89 i)) = f_M_isOfBoth x s := by
      intro x
      unfold f_M_isOfBoth f_M_roadOf
      rw [gAn _ _ (by decide), gAn _ _ (by decide), gAn _ _ (by decide)]
    simp only [f_M_backToFront_16b, f_M_backToFront_37, ib, io, e_M_isBridge hA hM, Option.bind_some, wp_ite, wp_bind, wp_gI, wp_gLet, wp_some, gE_l, Int.toNat_natCast, gUA, gA_s]
    have no : ¬ (sm A).testBit k = true → wI ((k : Int) + 1) = ((k + 1 : Nat) : Int) ∧ gA s 89 (fun i => if i < k ∧ (sm A).testBit i = true then 1 - s 89 i else s 89 i) = gA s 89 (fun i => if i < k + 1 ∧ (sm A).testBit i = true then 1 - s 89 i else s 89 i) := by
      intro hb
      refine ⟨wI_s (by omega), ?_⟩
      refine gA_e (fun i => ?_)
      by_cases h : i < k ∧ (sm A).testBit i = true
      · rw [if_pos h, if_pos ⟨by omega, h.2⟩]
      · rw [if_neg h, if_neg (fun q => by
          by_cases hik : i = k
          · rw [hik] at q; exact hb q.2
          · exact h ⟨by omega, q.2⟩)]
    refine ⟨fun c => by omega, fun _ => ⟨fun c => ?_, fun c => ?_⟩⟩
    · refine no (fun hb => ?_)
      rw [if_pos ⟨by omega, by omega, pb_iff.mpr (sh_and hb).1⟩] at c
      omega
    · have hp : pb A k = true := by
        by_cases h : pb A k = true
        · exact h
        · rw [if_neg (fun q => h q.2.2)] at c; omega
      rw [e_M_isOfBoth hA hM hk hp]
      simp only [wp_some]
      refine ⟨fun c2 => no (fun hb => ?_), fun c2 => ⟨by omega, by omega, wI_s (by omega), ?_⟩⟩
      · have hb' : (mk (ap A) (aF A) &&& mo A).testBit k = true := hb
        rw [if_pos hb'] at c2
        omega
      · have hb : (sm A).testBit k = true := by
          by_cases h : (sm A).testBit k = true
          · exact h
          · have h' : ¬ (mk (ap A) (aF A) &&& mo A).testBit k = true := h
            rw [if_neg h'] at c2; omega
        have hh := hA.2.2.2.2 k (sh_and hb).1
        refine gA_e (fun i => ?_)
        unfold kup
        by_cases hi : i = k
        · subst hi
          rw [if_pos rfl, if_neg (by omega), if_pos ⟨by omega, hb⟩, r5 i (sh_and hb).1, wI_id (by omega) (by omega)]
        · rw [if_neg hi]
          dsimp only
          by_cases h : i < k ∧ (sm A).testBit i = true
          · rw [if_pos h, if_pos ⟨by omega, h.2⟩]
          · rw [if_neg h, if_neg (fun q => h ⟨by omega, q.2⟩)]
  · rintro ⟨y, t⟩ ⟨rfl, rfl⟩
    have hbeg : f_M_beginOf (r : Int) (gA s 89 (fun i => if i < 11 ∧ (sm A).testBit i = true then 1 - s 89 i else s 89 i)) = some (a : Int) := by
      unfold f_M_beginOf
      rw [gAn _ _ (by decide), r2, ← h1]
      split <;> rfl
    unfold f_M_backToFront_16b
    dsimp only
    rw [hbeg, Option.bind_some, wI_1 (by omega), gI_n (show 1 + r < 6 by omega), Option.bind_some]
    simp only [wp_ite, wp_map, gE_r]
    rw [gAn _ _ (by decide), h2]
    refine ⟨fun _ => passes _ (fun z hz => by rw [gAn _ _ hz]) (fun i hi hp => ?_), fun c => absurd (by omega : (11 : Int) ≤ ((11 : Nat) : Int)) c⟩
    rw [gA_s]
    have hh := hA.2.2.2.2 i hp
    rw [r5 i hp]
    by_cases h : (sm A).testBit i = true
    · rw [if_pos ⟨hi, h⟩, if_pos h]; omega
    · rw [if_neg (fun q => h q.2), if_neg h]
section TOWN
variable {RC : zA → kM → Prop} {RU : Nat → kM → Prop}
theorem O_backToFront (hC : hRC RC) (hU : hRU RU) (x : Int) : OB RC RU (f_KT_backToFront x) (f_M_backToFront x) := by
  intro s hs
  have hs' := hs
  obtain ⟨A, hA, hK, hM, -⟩ := hs'
  have hn := okB_n hA.1
  have hR := hA.1.1
  by_cases c : 0 ≤ x ∧ x < aR A
  · obtain ⟨r, rfl⟩ : ∃ r : Nat, x = (r : Int) := ⟨x.toNat, by omega⟩
    have hr : r = 0 ∨ r = 1 := by omega
    obtain ⟨a, e, hae, he, h1, h2, h3⟩ : ∃ a e : Nat, a ≤ e ∧ e ≤ aN A ∧ (if (r : Int) = 0 then 0 else (aF A : Int)) = a ∧ (if (r : Int) = 0 then (aF A : Int) else aN A) = e ∧ ∀ g, MT A g → g 86 (1 + r) = (e : Int) - a := by
      rcases hr with rfl | rfl
      · exact ⟨0, aF A, by omega, by omega, rfl, rfl, fun g hg => by rw [hg.1.2.1]; omega⟩
      · exact ⟨aF A, aN A, by omega, by omega, rfl, rfl, fun g hg => hg.1.2.2.1⟩
    have hkk : wp (f_KT_backToFront r s) (fun t => KT 4 (rvA A a e) t.2 ∧ t.1 = (e : Int) - a ∧ t.2 44 0 = 0 ∧ t.2 21 16 = 0 ∧ t.2 21 18 = 0) := by
      unfold f_KT_backToFront
      rw [hK.1.1, if_neg (by omega), if_pos (by omega)]
      simp only [wp_bind]
      refine (wp_reverse hA hK r hae he h1 h2).mono ?_
      intro t1 k1
      refine (wp_resettle (b := 4) rfl (okA_rv hA he).1 k1).mono ?_
      intro t2 k2
      rw [e_forget]
      simp only [wp_some]
      have k3 : KT 4 (rvA A a e) (gU (gU (gU t2 21 16 0) 21 18 0) 44 0 0) := KT_c k2 (fun i hi => by simp [gU, gA, show 4 + i ≠ 44 by omega, show 4 + i ≠ 21 by omega])
      rw [e_roadEnd k3, e_roadStart k3]
      simp only [wp_some]
      refine ⟨k3, ?_, ?_⟩
      · show wI ((if (r : Int) = 0 then (aF A : Int) else aN A) - (if (r : Int) = 0 then 0 else (aF A : Int))) = _
        rw [h1, h2, wI_id (by omega) (by omega)]
      · simp [gU, gA, kup]
    exact OB_town hC hU hs (okA_rv hA he) hM W_KT_backToFront W_M_backToFront hkk (fun t h => w_KT_backToFront r s t h) (fun g hg => wp_M_back hA hg r hr (by omega) hae he h1 (h3 g hg)) (fun g t h => w_M_backToFront r g t h) (by decide) (by decide)
  · refine ⟨-1, s, s, ?_, ?_, hs⟩
    · unfold f_KT_backToFront
      rw [hK.1.1]
      by_cases c2 : x < 0
      · rw [if_pos c2]
      · rw [if_neg c2, if_neg (by omega)]
    · unfold f_M_backToFront
      rw [e_M_in, hM.1.1, wI_id (by omega) (by omega), if_neg (by omega)]
      rfl
end TOWN
