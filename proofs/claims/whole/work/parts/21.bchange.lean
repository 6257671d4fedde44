/-! a bridge is changed: change, mirror -/
def fx (c : Nat) : Nat := if c % 2 = 0 then c + 1 else c - 1
theorem fx_h (c : Nat) : fx c / 2 = c / 2 := by unfold fx; split <;> omega
theorem fx_fx (c : Nat) : fx (fx c) = c := by unfold fx; split <;> split <;> omega
theorem fx_ne (c : Nat) : fx c ≠ c := by unfold fx; split <;> omega
theorem fx_lt {c : Nat} (h : c < 22) : fx c < 22 := by unfold fx; split <;> omega
def fp (p : Nat → Nat) (k : Nat) : Nat → Nat := fun j => if p j / 2 = k then fx (p j) else p j
def flA (A : zA) (k : Nat) : zA := (aR A, aF A, aN A, fp (ap A) k, fun i => if i = k then 1 - ah A k else ah A i)
theorem fp_h (p : Nat → Nat) (k j : Nat) : fp p k j / 2 = p j / 2 := by
  unfold fp
  split
  · exact fx_h _
  · rfl
theorem mk_fl (p : Nat → Nat) (k : Nat) : ∀ n, mk (fp p k) n = mk p n
  | 0 => rfl
  | n + 1 => by
    unfold mk
    rw [mk_fl p k n, fp_h]
theorem po_fl (p : Nat → Nat) (k c : Nat) : ∀ n, po (fp p k) c n = if c / 2 = k then po p (fx c) n else po p c n
  | 0 => by unfold po; split <;> rfl
  | n + 1 => by
    have ih := po_fl p k c n
    unfold po
    rw [ih]
    have h1 := fp_h p k n
    have h2 := fx_h c
    have h3 := fx_fx c
    have h4 := fx_fx (p n)
    have h5 := fx_h (p n)
    unfold fp at h1 ⊢
    by_cases hc : c / 2 = k
    · rw [if_pos hc, if_pos hc]
      by_cases hp : p n / 2 = k
      · rw [if_pos hp]
        by_cases he : fx (p n) = c
        · rw [if_pos he, if_pos (by rw [← he, h4])]
        · rw [if_neg he, if_neg (fun q => he (by rw [q, h3]))]
      · rw [if_neg hp, if_neg (fun q => hp (by rw [q]; exact hc)), if_neg (fun q => hp (by rw [q, h2]; exact hc))]
    · rw [if_neg hc, if_neg hc]
      by_cases hp : p n / 2 = k
      · rw [if_pos hp, if_neg (fun q => hc (by rw [← q, h5]; exact hp)), if_neg (fun q => hc (by rw [← q]; exact hp))]
      · rw [if_neg hp]
theorem pr_fl {A : zA} {k i : Nat} : pr (flA A k) i ↔ pr A i := by
  unfold pr flA
  constructor
  · rintro ⟨j, h1, h2⟩
    exact ⟨j, h1, by rw [← fp_h (ap A) k j]; exact h2⟩
  · rintro ⟨j, h1, h2⟩
    exact ⟨j, h1, (fp_h (ap A) k j).trans h2⟩
theorem okA_fl {A : zA} (hA : okA A) (k : Nat) : okA (flA A k) := by
  obtain ⟨⟨a1, a2, a3, a4, a5⟩, b1, b2, b3, b4⟩ := hA
  have key : ∀ i j, fp (ap A) k i = fp (ap A) k j → ap A i = ap A j := by
    intro i j h
    have h1 := fp_h (ap A) k i
    have h2 := fp_h (ap A) k j
    rw [h] at h1
    unfold fp at h
    by_cases hi : ap A i / 2 = k
    · rw [if_pos hi, if_pos (by omega)] at h
      have := congrArg fx h
      rwa [fx_fx, fx_fx] at this
    · rw [if_neg hi, if_neg (by omega)] at h
      exact h
  refine ⟨⟨a1, a2, a3, ?_, ?_⟩, b1, b2, ?_, ?_⟩
  · intro j hj
    show fp (ap A) k j < 22
    unfold fp
    split
    · exact fx_lt (a4 j hj)
    · exact a4 j hj
  · intro i j hi hj h
    exact a5 i j hi hj (key i j h)
  · intro j hj
    obtain ⟨i, h1, h2, h3⟩ := b3 j hj
    exact ⟨i, h1, by show fp (ap A) k i / 2 = fp (ap A) k j / 2; rw [fp_h, fp_h]; exact h2, fun q => h3 (key i j q)⟩
  · intro i hi
    show (if i = k then 1 - ah A k else ah A i) ≤ 1
    split
    · omega
    · exact b4 i (pr_fl.mp hi)
/-- the two places of a bridge -/
theorem two_at {A : zA} (hA : okA A) {k : Nat} (hp : pb A k = true) : ∃ u o : Nat, u < aN A ∧ o < aN A ∧ ap A u = 2 * k ∧ ap A o = 2 * k + 1 ∧ po (ap A) (2 * k) (aN A) = u ∧ po (ap A) (2 * k + 1) (aN A) = o ∧ u ≠ o ∧ k < 11 ∧ ∀ j, j < aN A → ap A j / 2 = k → j = u ∨ j = o := by
  obtain ⟨p1, p2⟩ := po_pair hA (k := k)
  have h1 := p1.mp hp
  have h2 := p2.mp hp
  rcases po_cases (ap A) (2 * k) (aN A) with ⟨q, _⟩ | ⟨u, hu1, hu2, hu3⟩
  · omega
  rcases po_cases (ap A) (2 * k + 1) (aN A) with ⟨q, _⟩ | ⟨o, ho1, ho2, ho3⟩
  · omega
  have h22 := hA.1.2.2.2.1 o ho1
  refine ⟨u, o, hu1, ho1, hu2, ho2, hu3, ho3, fun q => by subst q; omega, by omega, ?_⟩
  intro j hj hjk
  have : ap A j = 2 * k ∨ ap A j = 2 * k + 1 := by omega
  rcases this with h | h
  · exact Or.inl (hA.1.2.2.2.2 j u hj hu1 (by omega))
  · exact Or.inr (hA.1.2.2.2.2 j o hj ho1 (by omega))
theorem gI_n {n k : Nat} (h : k < n) : gI n (k : Int) = some k := by unfold gI; rw [if_pos (by omega), Int.toNat_natCast]
theorem wp_flip {b : Nat} {A : zA} {s : kM} (hA : okA A) (hK : KT b A s) {k : Nat} (hp : pb A k = true) : wp (f_Town_flip b k s) (fun t => KT b (flA A k) t) := by
  obtain ⟨u, o, u1, o1, u2, o2, u3, o3, uo, k11, two⟩ := two_at hA hp
  have hN := okB_n hA.1
  have hh := hA.2.2.2.2 k (pb_iff.mp hp)
  unfold f_Town_flip
  rw [e_has hA hK, Int.toNat_natCast, if_pos ⟨by omega, by omega, hp⟩, e_overAt hK k11, e_underAt hK k11, u3, o3]
  have e2 : wI (2 * (k : Int)) = ((2 * k : Nat) : Int) := by rw [wI_id (by omega) (by omega)]; rfl
  have e3 : wI (((2 * k : Nat) : Int) + 1) = ((2 * k + 1 : Nat) : Int) := by rw [wI_id (by omega) (by omega)]; rfl
  rw [e2, e3]
  simp only [Option.bind_some, gI_n (show o < 22 by omega), gI_n (show u < 22 by omega), gI_n (show 2 * k < 22 by omega), gI_n (show 2 * k + 1 < 22 by omega), gI_n k11, gLet, wp_ite, wp_some]
  refine ⟨fun c => by omega, fun _ => ?_⟩
  have ne1 : ∀ x y : Nat, x ≠ y → b + x ≠ b + y := fun x y h => by omega
  obtain ⟨⟨r1, r2, r3, r4, r5⟩, r6, r7, r8, r9⟩ := hK
  refine ⟨⟨?_, ?_, ?_, ?_, ?_⟩, ?_, ?_, ?_, ?_⟩
  · simp [gU, gA]; exact r1
  · simp [gU, gA]; exact r2
  · simp [gU, gA]; exact r3
  · intro j hj
    show _ = ((fp (ap A) k j : Nat) : Int)
    simp only [gU, gA]
    simp [kup]
    unfold fp
    by_cases h1 : j = u
    · subst h1
      rw [if_pos rfl, if_pos (by omega), u2]
      unfold fx
      rw [if_pos (by omega)]
      omega
    · by_cases h2 : j = o
      · subst h2
        rw [if_neg h1, if_pos rfl, if_pos (by omega), o2]
        unfold fx
        rw [if_neg (by omega)]
        omega
      · rw [if_neg h1, if_neg h2, if_neg (fun q => (two j hj q).elim h1 h2)]
        exact r4 j hj
  · intro i hi
    show _ = ((if i = k then 1 - ah A k else ah A i : Nat) : Int)
    simp only [gU, gA]
    simp [kup]
    by_cases h1 : i = k
    · subst h1
      rw [if_pos rfl, if_pos rfl, r5 i (pr_fl.mp hi), wI_id (by omega) (by omega)]
      omega
    · rw [if_neg h1, if_neg h1]
      exact r5 i (pr_fl.mp hi)
  · show _ = ((mk (fp (ap A) k) (aN A) : Nat) : Int)
    rw [mk_fl]
    simp [gU, gA]
    exact r6
  · intro c hc
    show _ = po (fp (ap A) k) c (aN A)
    rw [po_fl]
    simp only [gU, gA]
    simp [kup]
    by_cases h1 : c = 2 * k + 1
    · subst h1
      rw [if_pos rfl, if_pos (by omega)]
      unfold fx
      rw [if_neg (by omega), show 2 * k + 1 - 1 = 2 * k by omega]
      exact u3.symm
    · by_cases h2 : c = 2 * k
      · subst h2
        rw [if_neg h1, if_pos rfl, if_pos (by omega)]
        unfold fx
        rw [if_pos (by omega)]
        exact o3.symm
      · rw [if_neg h1, if_neg h2, if_neg (by omega)]
        exact r7 c hc
  · intro j hj
    simp [gU, gA]
    exact r8 j hj
  · intro j hj
    simp [gU, gA]
    exact r9 j hj
theorem wp_changes1 {A : zA} {s : kM} (hA : okA A) (hM : MT A s) {k : Nat} (hp : pb A k = true) : wp (f_M_changes1 k s) (fun t => MT (flA A k) t) := by
  obtain ⟨u, o, u1, o1, u2, o2, u3, o3, uo, k11, two⟩ := two_at hA hp
  have hN := okB_n hA.1
  have hh := hA.2.2.2.2 k (pb_iff.mp hp)
  unfold f_M_changes1
  obtain ⟨⟨r1, r2, r3, r4, r5⟩, r6⟩ := hM
  have e99 : gU s 88 o 0 99 k = u := by rw [gUn _ _ _ (by decide), (r6 k k11).2, u3]
  simp only [gI_n k11, Option.bind_some, (r6 k k11).1, o3, gI_n (show o < 22 by omega), gLet, e99, gI_n (show u < 22 by omega)]
  rw [wp_bind]
  refine (wp_refresh (okA_fl hA k).1 (A := flA A k) ?_).mono (fun t ht => by rw [wp_some]; exact ht)
  refine ⟨?_, ?_, ?_, ?_, ?_⟩
  · simp [gU, gA]; exact r1
  · simp [gU, gA]; exact r2
  · simp [gU, gA]; exact r3
  · intro j hj
    show _ = ((fp (ap A) k j / 2 : Nat) : Int) ∧ _ = ((fp (ap A) k j % 2 : Nat) : Int)
    rw [fp_h]
    simp only [gU, gA]
    simp [kup]
    refine ⟨(r4 j hj).1, ?_⟩
    unfold fp
    by_cases h1 : j = u
    · subst h1
      rw [if_pos rfl, if_pos (by omega), u2]
      unfold fx
      rw [if_pos (by omega)]
      omega
    · by_cases h2 : j = o
      · subst h2
        rw [if_neg h1, if_pos rfl, if_pos (by omega), o2]
        unfold fx
        rw [if_neg (by omega)]
        omega
      · rw [if_neg h1, if_neg h2, if_neg (fun q => (two j hj q).elim h1 h2)]
        exact (r4 j hj).2
  · intro i hi
    show _ = ((if i = k then 1 - ah A k else ah A i : Nat) : Int)
    simp only [gU, gA]
    simp [kup]
    by_cases h1 : i = k
    · subst h1
      rw [if_pos rfl, if_pos rfl, r5 i (pr_fl.mp hi), wI_id (by omega) (by omega)]
      omega
    · rw [if_neg h1, if_neg h1]
      exact r5 i (pr_fl.mp hi)
theorem MT_k {A : zA} {s s' : kM} (h : MT A s) (e : ∀ a, 86 ≤ a → a ≤ 99 → s' a = s a) : MT A s' :=
  MT_c h ⟨by rw [e 86 (by decide) (by decide)], by rw [e 86 (by decide) (by decide)], by rw [e 86 (by decide) (by decide)]⟩ (e _ (by decide) (by decide)) (e _ (by decide) (by decide)) (e _ (by decide) (by decide)) (e _ (by decide) (by decide)) (e _ (by decide) (by decide))
theorem wp_resettle {b : Nat} (hb : tT b = true) {A : zA} (hA : okB A) {s : kM} (hK : KR b A s) : wp (f_Town_settle b s) (fun t => KT b A t) := by
  refine (wp_settle hb hA hK.2.1 hK.2.2.1 hK.2.2.2.1).mono ?_
  rintro t ⟨h1, h2, h3, h4, h5, h6⟩
  refine ⟨?_, h1⟩
  unfold KR at hK ⊢
  rw [h2, h3, h4, h5, h6]
  exact hK
theorem e_forget (s : kM) : f_KT_forget s = some (gU (gU (gU s 21 16 0) 21 18 0) 44 0 0) := rfl
section TOWN
variable {RC : zA → kM → Prop} {RU : Nat → kM → Prop}
/-- the town is another one, what was kept of it is forgotten -/
theorem Rel_town (hC : hRC RC) (hU : hRU RU) {s t : kM} (h : Rel RC RU s) {A' : zA} (hA : okA A') (hK : KT 4 A' t) (hM : MT A' t) (e : ∀ a, a < 3 ∨ (56 ≤ a ∧ a < 85) ∨ (105 ≤ a ∧ a ≤ 110) ∨ 123 ≤ a → t a = s a) (hm : t 3 1 = t 86 3) (h3 : t 3 2 = s 3 2 ∧ t 3 3 = s 3 3) (h86 : t 86 4 = s 86 4 ∧ t 86 5 = s 86 5) (h85 : t 85 21 = s 85 21 ∧ t 85 25 = s 85 25 ∧ t 85 30 = s 85 30) (hc : t 44 0 = 0 ∧ t 21 16 = 0 ∧ t 21 18 = 0) : Rel RC RU t := by
  obtain ⟨A, q1, q2, q3, q4, q5, q6, q7, q8⟩ := h
  refine ⟨A', hA, hK, hM, RTape_c q4 (e _ (by decide)) (e _ (by decide)) h85.1 (e _ (by decide)), ?_, RRule_c hU q6 (by rw [e 0 (by decide)]) h85.2 (by rw [e 900 (by decide)]) (e _ (by decide)) (fun a _ _ => e a (by omega)) (fun a _ _ => e a (by omega)), RImg_c q7 (fun a _ _ => e a (by omega)) (e _ (by decide)) (e _ (by decide)) (by rw [e 0 (by decide)]; omega), hC.2 A' t hc.1 hc.2.1 hc.2.2⟩
  obtain ⟨r1, r2, r3, r4, r5, r6, r7⟩ := q5
  unfold RScal
  rw [h3.1, h3.2, h86.1, h86.2, e 0 (by decide)]
  exact ⟨hm, r2, r3, r4, r5, r6, r7⟩
theorem O_change (hC : hRC RC) (hU : hRU RU) (x : Int) : OB RC RU (f_KT_change x) (f_M_change x) := by
  intro s hs
  have hs' := hs
  obtain ⟨A, hA, hK, hM, q4, q5, q6, q7, q8⟩ := hs'
  by_cases c : 0 ≤ x ∧ x < 11 ∧ pb A x.toNat = true
  · obtain ⟨k, rfl⟩ : ∃ k : Nat, x = (k : Int) := ⟨x.toNat, by omega⟩
    rw [Int.toNat_natCast] at c
    obtain ⟨s1, e1, k1⟩ := wp_flip hA hK c.2.2
    obtain ⟨s2, e2, k2⟩ := wp_resettle (b := 4) rfl (okA_fl hA k).1 k1.1
    have e3 := e_forget s2
    generalize g3 : gU (gU (gU s2 21 16 0) 21 18 0) 44 0 0 = s3 at e3
    have hK3 : KT 4 (flA A k) s3 := KT_c k2 (fun i hi => by rw [← g3]; simp [gU, gA, show 4 + i ≠ 44 by omega, show 4 + i ≠ 21 by omega])
    have hk : f_KT_change k s = some (s3 6 k, s3) := by
      unfold f_KT_change
      rw [e_has hA hK, Int.toNat_natCast, if_pos c]
      simp only [Option.bind_some, show ¬ ((1 : Int) = 0) by decide, if_false, e1, e2, e3, gI_n (show k < 11 by omega)]
    have fr := w_KT_change k s _ hk
    have fr' : ∀ a, a ∉ W_KT_change → s3 a = s a := fr
    have hM3 : MT A s3 := MT_k hM (fun a h1 h2 => fr' a (by simp [W_KT_change]; omega))
    obtain ⟨s4, e4, m4⟩ := wp_changes1 hA hM3 c.2.2
    have hm : f_M_change k s3 = some (s4 89 k, s4) := by
      unfold f_M_change
      rw [e_M_isBridge hA hM3, Int.toNat_natCast, if_pos c]
      simp only [Option.bind_some, show ¬ ((1 : Int) = 0) by decide, if_false, e4, gI_n (show k < 11 by omega)]
    have fm : ∀ a, a ∉ W_M_change → s4 a = s3 a := w_M_change k s3 _ hm
    have hp : pr (flA A k) k := pr_fl.mpr (pb_iff.mp c.2.2)
    have hv : s3 6 k = s4 89 k := (hK3.1.2.2.2.2 k hp).trans (m4.1.2.2.2.2 k hp).symm
    have q31 : ∀ a, a ∉ W_KT_change → a ∉ W_M_change → s4 a = s a := fun a h1 h2 => (fm a h2).trans (fr' a h1)
    refine ⟨s3 6 k, s3, s4, hk, by rw [hv]; exact hm, Rel_town hC hU hs (okA_fl hA k) (KT_c hK3 (fun i hi => fm _ (by simp [W_M_change]; omega))) m4 (fun a ha => q31 a (by simp [W_KT_change]; omega) (by simp [W_M_change]; omega)) ?_ ?_ ?_ ?_ ?_⟩
    · rw [q31 3 (by decide) (by decide), q31 86 (by decide) (by decide)]; exact q5.1
    · rw [q31 3 (by decide) (by decide)]; exact ⟨rfl, rfl⟩
    · rw [q31 86 (by decide) (by decide)]; exact ⟨rfl, rfl⟩
    · rw [q31 85 (by decide) (by decide)]; exact ⟨rfl, rfl, rfl⟩
    · rw [fm 44 (by decide), fm 21 (by decide), ← g3]; simp [gU, gA, kup]
  · refine ⟨-1, s, s, ?_, ?_, hs⟩
    · unfold f_KT_change
      rw [e_has hA hK, if_neg c]
      rfl
    · unfold f_M_change
      rw [e_M_isBridge hA hM, if_neg c]
      rfl
end TOWN
