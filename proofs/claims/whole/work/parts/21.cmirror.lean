/-! mirror -/
/-- the bridges below n are changed -/
def mrA (A : zA) : Nat → zA
  | 0 => A
  | n + 1 => if pb A n = true then flA (mrA A n) n else mrA A n
theorem mrA_pb (A : zA) (k : Nat) : ∀ n, pb (mrA A n) k = pb A k
  | 0 => rfl
  | n + 1 => by
    unfold mrA
    split
    · have h : ∀ B : zA, pb (flA B n) k = pb B k := fun B => by
        show (mk (fp (ap B) n) (aN B)).testBit k = (mk (ap B) (aN B)).testBit k
        rw [mk_fl]
      rw [h]
      exact mrA_pb A k n
    · exact mrA_pb A k n
theorem mrA_ok {A : zA} (hA : okA A) : ∀ n, okA (mrA A n)
  | 0 => hA
  | n + 1 => by
    unfold mrA
    split
    · exact okA_fl (mrA_ok hA n) n
    · exact mrA_ok hA n
theorem mrA_n (A : zA) : ∀ n, aR (mrA A n) = aR A ∧ aN (mrA A n) = aN A
  | 0 => ⟨rfl, rfl⟩
  | n + 1 => by
    unfold mrA
    split
    · exact mrA_n A n
    · exact mrA_n A n
theorem mrA_s {A : zA} {n : Nat} (h : pb A n = true) : mrA A (n + 1) = flA (mrA A n) n := by
  rw [mrA, if_pos h]
theorem mrA_s' {A : zA} {n : Nat} (h : ¬ pb A n = true) : mrA A (n + 1) = mrA A n := by
  rw [mrA, if_neg h]
/-- twice as many passes as bridges -/
theorem oc_or {x k : Nat} (h : x.testBit k = false) : ∀ n, oc (x ||| 2 ^ k) n = oc x n + (if k < n then 1 else 0)
  | 0 => rfl
  | n + 1 => by
    rw [oc_succ, oc_succ, oc_or h n, Nat.testBit_or, Nat.testBit_two_pow]
    by_cases hk : k = n
    · subst hk
      simp [h]
    · simp [hk]
      split <;> split <;> split <;> omega
theorem oc_0 : ∀ n, oc 0 n = 0
  | 0 => rfl
  | n + 1 => by rw [oc_succ, oc_0 n]; simp
/-- codes without repetition, in pairs: by a count of places for each bridge -/
def pc (p : Nat → Nat) (k : Nat) : Nat → Nat
  | 0 => 0
  | n + 1 => pc p k n + (if p n / 2 = k then 1 else 0)
def ps (p : Nat → Nat) (n : Nat) : Nat → Nat
  | 0 => 0
  | k + 1 => ps p n k + pc p k n
theorem pc_succ (p : Nat → Nat) (k n : Nat) : pc p k (n + 1) = pc p k n + (if p n / 2 = k then 1 else 0) := rfl
theorem ps_succ (p : Nat → Nat) (n k : Nat) : ps p n (k + 1) = ps p n k + pc p k n := rfl
theorem ps_step (p : Nat → Nat) (n : Nat) : ∀ m, ps p (n + 1) m = ps p n m + (if p n / 2 < m then 1 else 0)
  | 0 => rfl
  | m + 1 => by
    rw [ps_succ, ps_succ, ps_step p n m, pc_succ]
    split <;> split <;> split <;> omega
theorem ps_all {p : Nat → Nat} : ∀ n, (∀ j, j < n → p j < 22) → ps p n 11 = n
  | 0, _ => by
    have : ∀ m, ps p 0 m = 0 := by
      intro m
      induction m with
      | zero => rfl
      | succ m ih => rw [ps_succ, ih]; rfl
    exact this 11
  | n + 1, h => by
    have h1 := h n (by omega)
    rw [ps_step, ps_all n (fun j hj => h j (by omega)), if_pos (by omega)]
theorem pc_0 {p : Nat → Nat} {k : Nat} : ∀ n, (∀ j, j < n → p j / 2 ≠ k) → pc p k n = 0
  | 0, _ => rfl
  | n + 1, h => by rw [pc_succ, pc_0 n (fun j hj => h j (by omega)), if_neg (h n (by omega))]
theorem pc_1 {p : Nat → Nat} {k u : Nat} : ∀ n, u < n → p u / 2 = k → (∀ j, j < n → p j / 2 = k → j = u) → pc p k n = 1
  | 0, h, _, _ => by omega
  | n + 1, h, hu, hj => by
    rw [pc_succ]
    by_cases hn : u = n
    · subst hn
      rw [pc_0 u (fun j h1 h2 => by have := hj j (by omega) h2; omega), if_pos hu]
    · rw [pc_1 n (by omega) hu (fun j h1 h2 => hj j (by omega) h2), if_neg (fun q => hn (hj n (by omega) q).symm)]
theorem pc_2 {p : Nat → Nat} {k u o : Nat} : ∀ n, u < n → o < n → u < o → p u / 2 = k → p o / 2 = k → (∀ j, j < n → p j / 2 = k → j = u ∨ j = o) → pc p k n = 2
  | 0, h, _, _, _, _, _ => by omega
  | n + 1, h1, h2, h3, h4, h5, h6 => by
    rw [pc_succ]
    by_cases hn : o = n
    · subst hn
      rw [pc_1 o h3 h4 (fun j h7 h8 => by rcases h6 j (by omega) h8 with h | h <;> omega), if_pos h5]
    · rw [pc_2 n (by omega) (by omega) h3 h4 h5 (fun j h7 h8 => h6 j (by omega) h8), if_neg (fun q => by rcases h6 n (by omega) q with h | h <;> omega)]
theorem pc_pb {A : zA} (hA : okA A) (k : Nat) : pc (ap A) k (aN A) = if pb A k = true then 2 else 0 := by
  by_cases h : pb A k = true
  · obtain ⟨u, o, u1, o1, u2, o2, u3, o3, uo, k11, two⟩ := two_at hA h
    rw [if_pos h]
    by_cases hlt : u < o
    · exact pc_2 _ u1 o1 hlt (by omega) (by omega) two
    · exact pc_2 _ o1 u1 (by omega) (by omega) (by omega) (fun j h1 h2 => (two j h1 h2).symm)
  · rw [if_neg h]
    exact pc_0 _ (fun j hj hk => h (pb_iff.mpr ⟨j, hj, hk⟩))
theorem ps_oc {A : zA} (hA : okA A) : ∀ m, ps (ap A) (aN A) m = 2 * oc (mk (ap A) (aN A)) m
  | 0 => rfl
  | m + 1 => by
    rw [ps_succ, oc_succ, ps_oc hA m, pc_pb hA]
    show _ = 2 * (_ + (if pb A m = true then 1 else 0))
    split <;> omega
theorem oc_half {A : zA} (hA : okA A) : oc (mk (ap A) (aN A)) 11 = aN A / 2 ∧ aN A = 2 * (aN A / 2) := by
  have h1 := ps_oc hA 11
  rw [ps_all _ hA.1.2.2.2.1] at h1
  omega
section TOWN
variable {RC : zA → kM → Prop} {RU : Nat → kM → Prop}
theorem wp_KT_mirror {A : zA} (hA : okA A) {s : kM} (hK : KT 4 A s) (h0 : aR A ≠ 0) : wp (f_KT_mirror s) (fun r => KT 4 (mrA A 11) r.2 ∧ r.1 = ((aN A / 2 : Nat) : Int) ∧ r.2 44 0 = 0 ∧ r.2 21 16 = 0 ∧ r.2 21 18 = 0) := by
  unfold f_KT_mirror
  rw [if_neg (by rw [hK.1.1]; omega)]
  unfold f_KT_mirror_11
  refine wp_for 11 (fun k x => x.1 = (k : Int) ∧ KT 4 (mrA A k) x.2) 0 _ (by omega) (by omega) (by exact ⟨rfl, hK⟩) ?_ ?_
  · rintro k ⟨y, t⟩ _ hk ⟨rfl, hT⟩
    have hw : wI ((k : Int) + 1) = ((k + 1 : Nat) : Int) := by rw [wI_id (by omega) (by omega)]; rfl
    simp only [f_KT_mirror_11b, f_KT_mirror_21, e_has (mrA_ok hA k) hT, Option.bind_some, wp_ite, wp_bind, wp_some, gE_l, Int.toNat_natCast, mrA_pb]
    refine ⟨fun c => by omega, fun _ => ⟨fun c => ⟨hw, ?_⟩, fun c => ?_⟩⟩
    · by_cases hp : pb A k = true
      · rw [if_pos ⟨by omega, by omega, hp⟩] at c; omega
      · rw [mrA_s' hp]; exact hT
    · by_cases hp : pb A k = true
      · refine (wp_flip (mrA_ok hA k) hT (k := k) (by rw [mrA_pb]; exact hp)).mono ?_
        intro t' h'
        rw [mrA_s hp]
        exact ⟨hw, h'⟩
      · rw [if_neg (fun q => hp q.2.2)] at c; omega
  · rintro ⟨y, t⟩ ⟨rfl, hT⟩
    simp only [f_KT_mirror_11b, wp_ite, wp_bind]
    refine ⟨fun _ => ?_, fun c => by omega⟩
    refine (wp_resettle (b := 4) rfl (mrA_ok hA 11).1 hT.1).mono ?_
    intro t2 h2
    have e3 := e_forget t2
    generalize g3 : gU (gU (gU t2 21 16 0) 21 18 0) 44 0 0 = t3 at e3
    have hK3 : KT 4 (mrA A 11) t3 := KT_c h2 (fun i hi => by rw [← g3]; simp [gU, gA, show 4 + i ≠ 44 by omega, show 4 + i ≠ 21 by omega])
    rw [e3]
    simp only [wp_some]
    rw [e_bridges (mrA_ok hA 11).1 hK3, (oc_half (mrA_ok hA 11)).1, (mrA_n A 11).2]
    simp only [wp_some, gE_r]
    refine ⟨hK3, trivial, ?_⟩
    rw [← g3]; simp [gU, gA, kup]
theorem wp_M_mirror {A : zA} (hA : okA A) {s : kM} (hM : MT A s) (h0 : aR A ≠ 0) : wp (f_M_mirror s) (fun r => MT (mrA A 11) r.2 ∧ r.1 = ((aN A / 2 : Nat) : Int)) := by
  unfold f_M_mirror
  rw [e_M_isTown hM.1, if_pos (by omega)]
  simp only [Option.bind_some, show ¬ ((1 : Int) = 0) by decide, if_false]
  unfold f_M_mirror_7
  refine wp_for 11 (fun k x => x.1 = (k : Int) ∧ MT (mrA A k) x.2) 0 _ (by omega) (by omega) (by exact ⟨rfl, hM⟩) ?_ ?_
  · rintro k ⟨y, t⟩ _ hk ⟨rfl, hT⟩
    have hw : wI ((k : Int) + 1) = ((k + 1 : Nat) : Int) := by rw [wI_id (by omega) (by omega)]; rfl
    simp only [f_M_mirror_7b, f_M_mirror_17, e_M_isBridge (mrA_ok hA k) hT, Option.bind_some, wp_ite, wp_bind, wp_some, gE_l, Int.toNat_natCast, mrA_pb]
    refine ⟨fun c => by omega, fun _ => ⟨fun c => ⟨hw, ?_⟩, fun c => ?_⟩⟩
    · by_cases hp : pb A k = true
      · rw [if_pos ⟨by omega, by omega, hp⟩] at c; omega
      · rw [mrA_s' hp]; exact hT
    · by_cases hp : pb A k = true
      · refine (wp_changes1 (mrA_ok hA k) hT (k := k) (by rw [mrA_pb]; exact hp)).mono ?_
        intro t' h'
        rw [mrA_s hp]
        exact ⟨hw, h'⟩
      · rw [if_neg (fun q => hp q.2.2)] at c; omega
  · rintro ⟨y, t⟩ ⟨rfl, hT⟩
    simp only [f_M_mirror_7b, e_M_many (mrA_ok hA 11).1 hT.1, Option.bind_some, wp_ite, wp_bind, wp_some, gE_r]
    refine ⟨fun _ => ⟨hT, by rw [(mrA_n A 11).2]⟩, fun c => by omega⟩
/-- a call that changes the town on both sides -/
theorem OB_town (hC : hRC RC) (hU : hRU RU) {s : kM} (hs : Rel RC RU s) {A A' : zA} (hA' : okA A') (hM : MT A s) {fK fM : kM → Option (Int × kM)} {v : Int} (WK WM : List Nat)
    (hK : wp (fK s) (fun r => KT 4 A' r.2 ∧ r.1 = v ∧ r.2 44 0 = 0 ∧ r.2 21 16 = 0 ∧ r.2 21 18 = 0)) (frK : ∀ t, fK s = some t → Fr WK s t.2)
    (hMm : ∀ g, MT A g → wp (fM g) (fun r => MT A' r.2 ∧ r.1 = v)) (frM : ∀ g t, fM g = some t → Fr WM g t.2)
    (wk : ∀ a, a ∈ WK → (4 ≤ a ∧ a ≤ 55)) (wm : ∀ a, a ∈ WM → (87 ≤ a ∧ a ≤ 104) ∨ (111 ≤ a ∧ a ≤ 122)) : ∃ v s1 s2, fK s = some (v, s1) ∧ fM s1 = some (v, s2) ∧ Rel RC RU s2 := by
  obtain ⟨⟨zv, s1⟩, e1, k1, hzv, k2⟩ := hK
  have f1 : ∀ a, ¬ (4 ≤ a ∧ a ≤ 55) → s1 a = s a := fun a h => frK _ e1 a (fun q => h (wk a q))
  have hM1 : MT A s1 := MT_k hM (fun a h1 h2 => f1 a (by omega))
  obtain ⟨⟨zw, s2⟩, e2, m1, hzw⟩ := hMm s1 hM1
  have f2 : ∀ a, ¬ ((87 ≤ a ∧ a ≤ 104) ∨ (111 ≤ a ∧ a ≤ 122)) → s2 a = s1 a := fun a h => frM _ _ e2 a (fun q => h (wm a q))
  dsimp only at k1 k2 m1
  have f3 : ∀ a, ¬ (4 ≤ a ∧ a ≤ 55) → ¬ ((87 ≤ a ∧ a ≤ 104) ∨ (111 ≤ a ∧ a ≤ 122)) → s2 a = s a := fun a h1 h2 => (f2 a h2).trans (f1 a h1)
  have hs' := hs
  obtain ⟨B, -, -, -, -, q5, -⟩ := hs'
  refine ⟨zv, s1, s2, e1, by rw [e2, show zw = zv from hzw.trans hzv.symm], Rel_town hC hU hs hA' (KT_c k1 (fun i hi => f2 _ (by omega))) m1 (fun a ha => f3 a (by omega) (by omega)) ?_ ?_ ?_ ?_ ?_⟩
  · rw [f3 3 (by decide) (by decide), f3 86 (by decide) (by decide)]; exact q5.1
  · rw [f3 3 (by decide) (by decide)]; exact ⟨rfl, rfl⟩
  · rw [f3 86 (by decide) (by decide)]; exact ⟨rfl, rfl⟩
  · rw [f3 85 (by decide) (by decide)]; exact ⟨rfl, rfl, rfl⟩
  · rw [f2 44 (by decide), f2 21 (by decide)]; exact k2
theorem O_mirror (hC : hRC RC) (hU : hRU RU) : OB RC RU f_KT_mirror f_M_mirror := by
  intro s hs
  have hs' := hs
  obtain ⟨A, hA, hK, hM, -⟩ := hs'
  by_cases h0 : aR A = 0
  · refine ⟨-1, s, s, ?_, ?_, hs⟩
    · unfold f_KT_mirror
      rw [if_pos (by rw [hK.1.1, h0]; rfl)]
    · unfold f_M_mirror
      rw [e_M_isTown hM.1, if_neg (by omega)]
      rfl
  · exact OB_town hC hU hs (mrA_ok hA 11) hM W_KT_mirror W_M_mirror (wp_KT_mirror hA hK h0) (fun t h => w_KT_mirror s t h) (fun g hg => wp_M_mirror hA hg h0) (fun g t h => w_M_mirror g t h) (by decide) (by decide)
end TOWN
