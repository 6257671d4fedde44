/-! SEARCH: the class's table of situations -/
theorem kand1023 (x : Int) : 0 ≤ kand x 1023 ∧ kand x 1023 < 1024 := by
  unfold kand
  rw [← Int32.toInt_toBitVec, Int32.toBitVec_and]
  have h : ((Int32.ofInt x).toBitVec &&& (Int32.ofInt 1023).toBitVec).toNat ≤ 1023 := by
    rw [BitVec.toNat_and]
    exact Nat.le_trans Nat.and_le_right (by decide)
  rw [i32_back _ (by omega)]
  omega
theorem ki2s_id {x : Int} (h1 : -32768 ≤ x) (h2 : x ≤ 32767) : ki2s x = x := by
  unfold ki2s
  rw [Int16.toInt_toInt32, Int32.toInt_toInt16, i32_toInt (by omega) (by omega), Int.bmod_eq_of_le_mul_two (by omega) (by omega)]
theorem ki2s_2 {x : Int} (h1 : -32768 ≤ x) (h2 : x ≤ 32767) : ki2s (ki2s x) = x := by
  have e := ki2s_id h1 h2
  rw [e, e]
def hsh (lo hi : Int) : Nat := (kand (wI (klushr (wL ((wL ((wL (lo * 31)) + hi)) * (-7046029254386353131))) 54)) 1023).toNat
theorem hsh_lt (lo hi : Int) : hsh lo hi < 1024 := by
  have := kand1023 (wI (klushr (wL ((wL ((wL (lo * 31)) + hi)) * (-7046029254386353131))) 54))
  unfold hsh
  omega
def KRp (l : List zE) (s : kM) : Prop := s 21 9 = ((l.length : Nat) : Int) ∧ l.length ≤ 300 ∧ ∀ (j : Nat) (e : zE), l[j]? = some e → s 22 j = ((plo e.1 : Nat) : Int) ∧ s 23 j = ((phi e.1 : Nat) : Int) ∧ s 24 j = ((aF e.1 : Nat) : Int) ∧ s 25 j = e.2.1 ∧ (0 < j → s 26 j = ((ky e.2.2 : Nat) : Int))
def slp (s : kM) : Nat → Bool := fun i => decide (0 < s 27 i)
def KHs (n : Nat) (s : kM) : Prop := (∀ i, i < 1024 → 0 ≤ s 27 i ∧ s 27 i ≤ (n : Int)) ∧ cq (slp s) 1024 = n ∧ ∀ j, j < n → ∃ d, d < 1024 ∧ s 27 ((hsh (s 22 j) (s 23 j) + d) % 1024) = (j : Int) + 1 ∧ ∀ d', d' < d → 0 < s 27 ((hsh (s 22 j) (s 23 j) + d') % 1024)
theorem cq_all {P : Nat → Bool} : ∀ n, (∀ i, i < n → P i = true) → cq P n = n
  | 0, _ => rfl
  | n + 1, h => by rw [cq_succ, cq_all n (fun i hi => h i (by omega)), if_pos (h n (by omega))]
theorem wp_freeSlot {n : Nat} {s : kM} (hH : KHs n s) (hl : n ≤ 300) (h9 : s 21 9 = (n : Int)) : wp (f_Search_freeSlot s) (fun r => (r = -1 ∧ ∃ j, j < n ∧ s 22 j = s 21 10 ∧ s 23 j = s 21 11) ∨ ∃ d, d < 1024 ∧ r = (((hsh (s 21 10) (s 21 11) + d) % 1024 : Nat) : Int) ∧ s 27 ((hsh (s 21 10) (s 21 11) + d) % 1024) = 0 ∧ (∀ d', d' < d → 0 < s 27 ((hsh (s 21 10) (s 21 11) + d') % 1024)) ∧ ∀ j, j < n → ¬ (s 22 j = s 21 10 ∧ s 23 j = s 21 11)) := by
  obtain ⟨a1, a2, a3⟩ := hH
  have hh := hsh_lt (s 21 10) (s 21 11)
  have e0 : kand (wI (klushr (wL ((wL ((wL ((s 21 10) * 31)) + (s 21 11))) * (-7046029254386353131))) 54)) 1023 = ((hsh (s 21 10) (s 21 11) : Nat) : Int) := by
    unfold hsh
    rw [Int.toNat_of_nonneg (kand1023 _).1]
  unfold f_Search_freeSlot f_Search_freeSlot_19
  rw [e0]
  clear e0
  generalize hz : hsh (s 21 10) (s 21 11) = zh at hh ⊢
  refine wp_for 1024 (fun d x => x.1 = (((zh + d) % 1024 : Nat) : Int) ∧ x.2 = (d : Int) ∧ ∀ d', d' < d → 0 < s 27 ((zh + d') % 1024) ∧ ∀ j : Nat, s 27 ((zh + d') % 1024) = (j : Int) + 1 → ¬ (s 22 j = s 21 10 ∧ s 23 j = s 21 11)) 0 _ (by omega) (by omega) (by exact ⟨by dsimp only; rw [Nat.add_zero, Nat.mod_eq_of_lt hh], rfl, fun d' hd => absurd hd (Nat.not_lt_zero _)⟩) ?_ ?_
  · rintro d ⟨y1, y2⟩ _ hd ⟨rfl, rfl, q1⟩
    have hm : (zh + d) % 1024 < 1024 := Nat.mod_lt _ (by decide)
    have hb := a1 _ hm
    dsimp only
    unfold f_Search_freeSlot_19b
    rw [if_neg (by omega), gI_n hm, Option.bind_some]
    by_cases h0 : s 27 ((zh + d) % 1024) ≤ 0
    · rw [if_pos h0, wp_some, gE_r]
      refine Or.inr ⟨d, hd, rfl, by omega, fun d' hd' => (q1 d' hd').1, fun j hj hc => ?_⟩
      obtain ⟨dj, b1, b2, b3⟩ := a3 j hj
      rw [hc.1, hc.2, hz] at b2 b3
      by_cases c1 : dj < d
      · exact (q1 dj c1).2 j b2 hc
      · by_cases c2 : dj = d
        · rw [c2] at b2
          omega
        · have := b3 d (by omega)
          omega
    · obtain ⟨j, hj⟩ : ∃ j : Nat, s 27 ((zh + d) % 1024) = (j : Int) + 1 := ⟨(s 27 ((zh + d) % 1024) - 1).toNat, by omega⟩
      have hjn : j < n := by omega
      have ej : wI (s 27 ((zh + d) % 1024) - 1) = (j : Int) := by rw [hj, wI_id (by omega) (by omega)]; omega
      have next : (¬ (s 22 j = s 21 10 ∧ s 23 j = s 21 11)) → wp (f_Search_freeSlot_56 (((zh + d) % 1024 : Nat) : Int) d s) (gE (fun x => x.1 = (((zh + (d + 1)) % 1024 : Nat) : Int) ∧ x.2 = ((d + 1 : Nat) : Int) ∧ ∀ d', d' < d + 1 → 0 < s 27 ((zh + d') % 1024) ∧ ∀ j : Nat, s 27 ((zh + d') % 1024) = (j : Int) + 1 → ¬ (s 22 j = s 21 10 ∧ s 23 j = s 21 11)) (fun r => (r = -1 ∧ ∃ j, j < n ∧ s 22 j = s 21 10 ∧ s 23 j = s 21 11) ∨ ∃ d, d < 1024 ∧ r = (((zh + d) % 1024 : Nat) : Int) ∧ s 27 ((zh + d) % 1024) = 0 ∧ (∀ d', d' < d → 0 < s 27 ((zh + d') % 1024)) ∧ ∀ j, j < n → ¬ (s 22 j = s 21 10 ∧ s 23 j = s 21 11))) := by
        intro hno
        clear ej
        unfold f_Search_freeSlot_56
        rw [wp_some, gE_l]
        dsimp only
        have ea : kand (wI ((((zh + d) % 1024 : Nat) : Int) + 1)) 1023 = (((zh + (d + 1)) % 1024 : Nat) : Int) := by
          rw [wI_s (by omega), show (1023 : Int) = ((1023 : Nat) : Int) from rfl, kand_n (by omega) (by omega), show (1023 : Nat) = 2 ^ 10 - 1 from rfl, Nat.and_two_pow_sub_one_eq_mod]
          congr 1
          omega
        rw [ea, wI_s (by clear ea; omega)]
        clear ea
        refine ⟨rfl, rfl, fun d' hd' => ?_⟩
        by_cases c : d' = d
        · rw [c]
          refine ⟨by omega, fun i hi => ?_⟩
          have : i = j := by omega
          rw [this]
          exact hno
        · exact q1 d' (by omega)
      rw [if_neg h0, Option.bind_some, ej, h9, if_neg (by clear ej; omega), gI_n (by clear ej; omega), Option.bind_some]
      by_cases c1 : s 22 j = s 21 10
      · rw [if_pos c1, Option.bind_some]
        by_cases c2 : s 23 j = s 21 11
        · rw [if_pos c2, wp_some, gE_r]
          exact Or.inl ⟨rfl, j, hjn, c1, c2⟩
        · rw [if_neg c2]
          exact next (fun z => c2 z.2)
      · rw [if_neg c1]
        exact next (fun z => c1 z.1)
  · rintro ⟨y1, y2⟩ ⟨rfl, rfl, q1⟩
    exfalso
    have hall : cq (slp s) 1024 = 1024 := cq_all 1024 (fun i hi => by
      unfold slp
      rw [decide_eq_true_eq]
      obtain ⟨d', b1, b2⟩ : ∃ d', d' < 1024 ∧ (zh + d') % 1024 = i := by
        by_cases c : zh ≤ i
        · exact ⟨i - zh, by omega, by rw [show zh + (i - zh) = i by omega]; exact Nat.mod_eq_of_lt hi⟩
        · exact ⟨i + 1024 - zh, by omega, by omega⟩
      have := (q1 d' b1).1
      rw [b2] at this
      exact this)
    omega
/-- one more -/
theorem wp_add {l : List zE} {s : kM} (hK : KRp l s) (hH : KHs l.length s) (hl : l.length < 300) {B : zA} (hB : okB B) {fr : Int} (hf1 : -1 ≤ fr) (hf2 : fr < 300) {m : Nat} {by_ : Int} (hb : 0 ≤ by_ ∧ by_ < 16384) (hbm : 0 < l.length → by_ = ((ky m : Nat) : Int)) (p10 : s 21 10 = ((plo B : Nat) : Int)) (p11 : s 21 11 = ((phi B : Nat) : Int)) (p12 : s 21 12 = ((aF B : Nat) : Int)) {d : Nat} (hd0 : s 27 ((hsh (s 21 10) (s 21 11) + d) % 1024) = 0) (hd : d < 1024) (hd1 : ∀ d', d' < d → 0 < s 27 ((hsh (s 21 10) (s 21 11) + d') % 1024)) : wp (f_Search_add (((hsh (s 21 10) (s 21 11) + d) % 1024 : Nat) : Int) fr by_ s) (fun t => KRp (l ++ [(B, fr, m)]) t ∧ KHs (l ++ [(B, fr, m)]).length t ∧ (∀ z, z < 21 ∨ 27 < z → t z = s z) ∧ ∀ i, i ≠ 9 → t 21 i = s 21 i) := by
  obtain ⟨k1, k2, k3⟩ := hK
  obtain ⟨a1, a2, a3⟩ := hH
  have hat : (hsh (s 21 10) (s 21 11) + d) % 1024 < 1024 := Nat.mod_lt _ (by decide)
  obtain ⟨zt, hzt⟩ : ∃ zt, zt = (hsh (s 21 10) (s 21 11) + d) % 1024 := ⟨_, rfl⟩
  obtain ⟨n, hn⟩ : ∃ n, n = l.length := ⟨_, rfl⟩
  rw [← hzt] at hat hd0 ⊢
  rw [← hn] at k1 hl a1 a2 a3 hbm
  have hF := okB_n hB
  have en : wI ((n : Int) + 1) = ((n + 1 : Nat) : Int) := wI_s (by omega)
  have ef : ki2s (ki2s fr) = fr := ki2s_2 (by omega) (by omega)
  have eb : ki2s (ki2s by_) = by_ := ki2s_2 (by omega) (by omega)
  have eF : ki2s (ki2s ((aF B : Nat) : Int)) = ((aF B : Nat) : Int) := ki2s_2 (by omega) (by omega)
  have e1 : ki2s (ki2s ((n + 1 : Nat) : Int)) = ((n + 1 : Nat) : Int) := ki2s_2 (by clear en ef eb eF; omega) (by clear en ef eb eF; omega)
  obtain ⟨G, hG⟩ : ∃ G, G = gU (gU (gU (gU (gU (gU (gU s 22 n ((plo B : Nat) : Int)) 23 n ((phi B : Nat) : Int)) 24 n ((aF B : Nat) : Int)) 25 n fr) 26 n by_) 21 9 ((n + 1 : Nat) : Int)) 27 zt ((n + 1 : Nat) : Int) := ⟨_, rfl⟩
  have ea : f_Search_add (zt : Int) fr by_ s = some G := by
    have i3 : gI 300 (n : Int) = some n := gI_n hl
    have it : gI 1024 (zt : Int) = some zt := gI_n hat
    unfold f_Search_add
    simp only [gLet_eq]
    rw [if_neg (by clear en ef eb eF e1; omega), k1, if_pos (by clear en ef eb eF e1; omega), i3, Option.bind_some, p10]
    simp only [gU_n _ _ _ (show (21 : Nat) ≠ 22 by decide), gU_n _ _ _ (show (21 : Nat) ≠ 23 by decide), gU_n _ _ _ (show (21 : Nat) ≠ 24 by decide), gU_n _ _ _ (show (21 : Nat) ≠ 25 by decide), gU_n _ _ _ (show (21 : Nat) ≠ 26 by decide), k1, p11, p12, i3, it, Option.bind_some, en, ef, eb, eF, gUs, e1]
    rw [hG]
  clear en ef eb eF e1
  rw [ea, wp_some]
  clear ea
  have c22 : ∀ j, j ≠ n → G 22 j = s 22 j := fun j hj => by rw [hG, gU_n _ _ _ (by decide), gU_n _ _ _ (by decide), gU_n _ _ _ (by decide), gU_n _ _ _ (by decide), gU_n _ _ _ (by decide), gU_n _ _ _ (by decide), gUo _ _ _ hj]
  have d22 : G 22 n = ((plo B : Nat) : Int) := by rw [hG, gU_n _ _ _ (by decide), gU_n _ _ _ (by decide), gU_n _ _ _ (by decide), gU_n _ _ _ (by decide), gU_n _ _ _ (by decide), gU_n _ _ _ (by decide), gUs]
  have c23 : ∀ j, j ≠ n → G 23 j = s 23 j := fun j hj => by rw [hG, gU_n _ _ _ (by decide), gU_n _ _ _ (by decide), gU_n _ _ _ (by decide), gU_n _ _ _ (by decide), gU_n _ _ _ (by decide), gUo _ _ _ hj, gU_n _ _ _ (by decide)]
  have d23 : G 23 n = ((phi B : Nat) : Int) := by rw [hG, gU_n _ _ _ (by decide), gU_n _ _ _ (by decide), gU_n _ _ _ (by decide), gU_n _ _ _ (by decide), gU_n _ _ _ (by decide), gUs]
  have c24 : ∀ j, j ≠ n → G 24 j = s 24 j := fun j hj => by rw [hG, gU_n _ _ _ (by decide), gU_n _ _ _ (by decide), gU_n _ _ _ (by decide), gU_n _ _ _ (by decide), gUo _ _ _ hj, gU_n _ _ _ (by decide), gU_n _ _ _ (by decide)]
  have d24 : G 24 n = ((aF B : Nat) : Int) := by rw [hG, gU_n _ _ _ (by decide), gU_n _ _ _ (by decide), gU_n _ _ _ (by decide), gU_n _ _ _ (by decide), gUs]
  have c25 : ∀ j, j ≠ n → G 25 j = s 25 j := fun j hj => by rw [hG, gU_n _ _ _ (by decide), gU_n _ _ _ (by decide), gU_n _ _ _ (by decide), gUo _ _ _ hj, gU_n _ _ _ (by decide), gU_n _ _ _ (by decide), gU_n _ _ _ (by decide)]
  have d25 : G 25 n = fr := by rw [hG, gU_n _ _ _ (by decide), gU_n _ _ _ (by decide), gU_n _ _ _ (by decide), gUs]
  have c26 : ∀ j, j ≠ n → G 26 j = s 26 j := fun j hj => by rw [hG, gU_n _ _ _ (by decide), gU_n _ _ _ (by decide), gUo _ _ _ hj, gU_n _ _ _ (by decide), gU_n _ _ _ (by decide), gU_n _ _ _ (by decide), gU_n _ _ _ (by decide)]
  have d26 : G 26 n = by_ := by rw [hG, gU_n _ _ _ (by decide), gU_n _ _ _ (by decide), gUs]
  have c27 : ∀ j, j ≠ zt → G 27 j = s 27 j := fun j hj => by rw [hG, gUo _ _ _ hj, gU_n _ _ _ (by decide), gU_n _ _ _ (by decide), gU_n _ _ _ (by decide), gU_n _ _ _ (by decide), gU_n _ _ _ (by decide), gU_n _ _ _ (by decide)]
  have d27 : G 27 zt = ((n + 1 : Nat) : Int) := by rw [hG, gUs]
  have d21 : G 21 9 = ((n + 1 : Nat) : Int) := by rw [hG, gU_n _ _ _ (by decide), gUs]
  have c21 : ∀ i, i ≠ 9 → G 21 i = s 21 i := fun i hi => by rw [hG, gU_n _ _ _ (by decide), gUo _ _ _ hi, gU_n _ _ _ (by decide), gU_n _ _ _ (by decide), gU_n _ _ _ (by decide), gU_n _ _ _ (by decide), gU_n _ _ _ (by decide)]
  have cz : ∀ z, z < 21 ∨ 27 < z → G z = s z := fun z hz => by rw [hG, gU_n _ _ _ (by omega), gU_n _ _ _ (by omega), gU_n _ _ _ (by omega), gU_n _ _ _ (by omega), gU_n _ _ _ (by omega), gU_n _ _ _ (by omega), gU_n _ _ _ (by omega)]
  clear hG
  have hlen : (l ++ [((B, fr, m) : zE)]).length = n + 1 := by rw [List.length_append, ← hn]; rfl
  have hpos : ∀ i, 0 < s 27 i → 0 < G 27 i := fun i hi => by
    by_cases c : i = zt
    · rw [c, d27]; omega
    · rw [c27 i c]; exact hi
  rw [hlen]
  refine ⟨⟨by rw [hlen]; exact d21, by rw [hlen]; omega, fun j e he => ?_⟩, ⟨fun i hi => ?_, ?_, fun j hj => ?_⟩, cz, c21⟩
  · by_cases hj : j < n
    · rw [List.getElem?_append_left (by omega)] at he
      rw [c22 j (by omega), c23 j (by omega), c24 j (by omega), c25 j (by omega), c26 j (by omega)]
      exact k3 j e he
    · rw [List.getElem?_append_right (by omega)] at he
      by_cases hj2 : j = n
      · rw [hj2, ← hn, Nat.sub_self] at he
        have he2 : some ((B, fr, m) : zE) = some e := he
        injection he2 with he3
        subst he3
        rw [hj2]
        exact ⟨d22, d23, d24, d25, fun h0 => by rw [d26]; exact hbm h0⟩
      · rw [List.getElem?_eq_none (show [((B, fr, m) : zE)].length ≤ j - l.length by show 1 ≤ _; omega)] at he
        cases he
  · by_cases c : i = zt
    · rw [c, d27]; omega
    · rw [c27 i c]
      have := a1 i hi
      omega
  · have hs : slp G = ins (slp s) zt := by
      funext i
      unfold slp ins
      by_cases c : i = zt
      · rw [c, d27, decide_eq_true (rfl : zt = zt), Bool.or_true, decide_eq_true_eq]
        omega
      · rw [c27 i c, decide_eq_false c, Bool.or_false]
    rw [hs, cq_ins (by unfold slp; rw [decide_eq_true_eq, hd0]; decide), a2, if_pos hat]
  · by_cases c : j = n
    · refine ⟨d, hd, ?_, fun d' hd' => ?_⟩
      · rw [c, d22, d23, ← p10, ← p11, ← hzt, d27]
        omega
      · rw [c, d22, d23, ← p10, ← p11]
        exact hpos _ (hd1 d' hd')
    · obtain ⟨dj, b1, b2, b3⟩ := a3 j (by omega)
      refine ⟨dj, b1, ?_, fun d' hd' => ?_⟩
      · rw [c22 j c, c23 j c, c27 _ (fun q => by rw [q, hd0] at b2; omega)]
        exact b2
      · rw [c22 j c, c23 j c]
        exact hpos _ (b3 d' hd')
