theorem fx_xor {c : Nat} (h : c < 22) : kxor (c : Int) 1 = ((fx c : Nat) : Int) := by
  have h1 : ∀ c : Fin 22, kxor ((c.val : Nat) : Int) 1 = ((fx c.val : Nat) : Int) := by decide +kernel
  exact h1 ⟨c, h⟩
theorem inP_of {p : Nat → Nat} {N q c : Nat} {f : Nat → Int} (hq : q < N) (hf : ∀ j, j < N → f j = p j) {x y : Int} (hx : x = c) (hy : y = fx c) (j : Nat) (hj : j < N + 2) : kup (kup (sf f N (N - 1 - q)) (q + 1) x) (q + 2) y j = ((inP p q c j : Nat) : Int) := by
  unfold kup sf inP
  by_cases h1 : j ≤ q
  · rw [if_neg (by omega), if_neg (by omega), if_neg (by omega), if_pos h1]
    exact hf j (by omega)
  · by_cases h2 : j = q + 1
    · rw [if_neg (by omega), if_pos h2, if_neg h1, if_pos h2, hx]
    · by_cases h3 : j = q + 2
      · rw [if_pos h3, if_neg h1, if_neg h2, if_pos h3, hy]
      · rw [if_neg h3, if_neg h2, if_pos (by omega), if_neg h1, if_neg h2, if_neg h3]
        exact hf (j - 2) (by omega)
theorem wp_insert {b : Nat} {A : zA} (hA : okB A) {s : kM} (hK : KR b A s) {q c : Nat} (hq : q < aN A) (hN : aN A ≤ 20) (hc : c < 22) : wp (f_Town_insert b q c s) (fun t => t b 0 = s b 0 ∧ t b 1 = ((if q < aF A then aF A + 2 else aF A : Nat) : Int) ∧ t b 2 = ((aN A + 2 : Nat) : Int) ∧ (∀ j, j < aN A + 2 → t (b + 1) j = ((inP (ap A) q c j : Nat) : Int)) ∧ t (b + 2) = s (b + 2)) := by
  have hn := okB_n hA
  obtain ⟨r1, r2, r3, r4, r5⟩ := hK
  unfold f_Town_insert
  rw [r3, wI_id (by omega) (by omega), if_pos (by omega), wI_id (by omega) (by omega)]
  unfold f_Town_insert_12
  refine wp_for (aN A - 1 - q) (fun r x => x.1 = (aN A : Int) - 1 - r ∧ x.2 = gA s (b + 1) (sf (s (b + 1)) (aN A) r)) 0 _ (by omega) (by omega) ⟨by simp, by rw [sf_0, gA_id]⟩ ?_ ?_
  · rintro r ⟨i, t⟩ _ hr ⟨rfl, rfl⟩
    simp only [f_Town_insert_12b, wp_ite, wp_bind, wp_gI, wp_gLet, wp_some, gE_l, gE_r, gA_s]
    rw [wI_id (x := (aN A : Int) - 1 - r + 2) (by omega) (by omega), wI_id (x := (aN A : Int) - 1 - r + -1) (by omega) (by omega)]
    refine ⟨fun c => by omega, fun _ => ⟨by omega, by omega, by omega, ?_⟩⟩
    rw [show ((aN A : Int) - 1 - r).toNat = aN A - 1 - r by omega, show ((aN A : Int) - 1 - r + 2).toNat = aN A + 1 - r by omega, gUA, sf_s _ _ _ (by omega)]
  · rintro ⟨i, t⟩ ⟨rfl, rfl⟩
    simp only [f_Town_insert_12b, wp_ite, wp_bind, wp_gI, wp_gLet, wp_some, wp_map, gE_r, gUA]
    refine ⟨fun _ => ?_, fun c => by omega⟩
    rw [wI_id (x := (q : Int) + 1) (by omega) (by omega), wI_id (x := (q : Int) + 2) (by omega) (by omega), show ((q : Int) + 1).toNat = q + 1 by omega, show ((q : Int) + 2).toNat = q + 2 by omega, fx_xor hc]
    refine ⟨by omega, by omega, ?_⟩
    generalize hg : gA s (b + 1) (kup (kup (sf (s (b + 1)) (aN A) (aN A - 1 - q)) (q + 1) (c : Int)) (q + 2) ((fx c : Nat) : Int)) = g
    have g0 : ∀ a, a ≠ b + 1 → g a = s a := fun a ha => by rw [← hg, gAn _ _ ha]
    have g1 : ∀ j, j < aN A + 2 → g (b + 1) j = ((inP (ap A) q c j : Nat) : Int) := fun j hj => by rw [← hg, gA_s]; exact inP_of hq r4 rfl rfl j hj
    have ro : f_Town_roadOf b (q : Int) g = some (if (aF A : Int) ≤ q then 1 else 0) := by
      unfold f_Town_roadOf
      rw [g0 b (by omega), r2]
      split <;> rfl
    rw [ro]
    simp only [wp_some, f_Town_insert_53, wp_gLet, g0 b (by omega : b ≠ b + 1), r2]
    by_cases hF : q < aF A
    · rw [if_neg (show ¬ (aF A : Int) ≤ q by omega), if_pos hF]
      refine ⟨fun _ => ?_, fun c => absurd rfl c⟩
      rw [wI_id (by omega) (by omega)]
      refine ⟨?_, ?_, ?_, ?_, ?_⟩
      · simp [gU, gA, kup, g0 b (by omega : b ≠ b + 1)]
      · simp [gU, gA, kup]
      · simp [gU, gA, kup, g0 b (by omega : b ≠ b + 1), r3]
        exact wI_id (by omega) (by omega)
      · intro j hj
        simp [gU, gA]
        exact g1 j hj
      · simp [gU, gA]
        exact g0 _ (by omega)
    · rw [if_pos (show (aF A : Int) ≤ q by omega), if_neg hF]
      refine ⟨fun c => by omega, fun _ => ?_⟩
      rw [wI_id (by omega) (by omega)]
      refine ⟨?_, ?_, ?_, ?_, ?_⟩
      · simp [gU, gA, kup, g0 b (by omega : b ≠ b + 1)]
      · simp [gU, gA, kup]
      · simp [gU, gA, kup, g0 b (by omega : b ≠ b + 1), r3]
        exact wI_id (by omega) (by omega)
      · intro j hj
        simp [gU, gA]
        exact g1 j hj
      · simp [gU, gA]
        exact g0 _ (by omega)
theorem e_leastFree {b : Nat} {A : zA} (hA : okB A) {s : kM} (hK : KT b A s) : f_Town_leastFree b s = some ((lz (mk (ap A) (aN A)) : Nat) : Int) := by
  unfold f_Town_leastFree
  rw [hK.2.1, e_tz (mk_lt hA.2.2.2.1)]
  rfl
/-- a boolean of the law as a number -/
def bn (x : Int) : Nat := if x = 0 then 0 else 1
theorem wp_KT_twist {A : zA} (hA : okA A) {s : kM} (hK : KT 4 A s) {q k : Nat} (x y : Int) (hq : q < aN A) (hk : lz (mk (ap A) (aN A)) = k) (hk11 : k < 11) (hN : aN A ≤ 20) (hp : ¬ pb A k = true) : wp (f_KT_twist q x y s) (fun r => KT 4 (twA A q k (bn x) (bn y)) r.2 ∧ r.1 = (k : Int) ∧ r.2 44 0 = 0 ∧ r.2 21 16 = 0 ∧ r.2 21 18 = 0) := by
  have ho : ∀ z, bn z ≤ 1 := fun z => by unfold bn; split <;> omega
  have hA' := okA_tw hA hq hN hk11 (ho x) (ho y) hp
  have key : ∀ (c h : Nat), c = 2 * k + bn x → h = bn y → wp (f_KT_twist_35 k q (2 * (k : Int)) (bn x) (gU s 6 k h)) (fun r => KT 4 (twA A q k (bn x) (bn y)) r.2 ∧ r.1 = (k : Int) ∧ r.2 44 0 = 0 ∧ r.2 21 16 = 0 ∧ r.2 21 18 = 0) := by
    rintro c h hc rfl
    have hx := ho x
    have hK1 : KR 4 (aR A, aF A, aN A, ap A, fun i => if i = k then bn y else ah A i) (gU s 6 k (bn y)) := by
      obtain ⟨r1, r2, r3, r4, r5⟩ := hK.1
      refine ⟨?_, ?_, ?_, ?_, ?_⟩
      · rw [gUn _ _ _ (by decide)]; exact r1
      · rw [gUn _ _ _ (by decide)]; exact r2
      · rw [gUn _ _ _ (by decide)]; exact r3
      · intro j hj; rw [gUn _ _ _ (by decide)]; exact r4 j hj
      · intro i hi
        show gU s 6 k (bn y) 6 i = ((if i = k then bn y else ah A i : Nat) : Int)
        by_cases h1 : i = k
        · rw [h1, gUs, if_pos rfl]
        · rw [gUo _ _ _ h1, if_neg h1]; exact r5 i hi
    unfold f_KT_twist_35
    rw [show (2 * (k : Int) + (bn x : Int)) = ((c : Nat) : Int) by omega, wI_id (by omega) (by omega)]
    simp only [wp_bind]
    refine (wp_insert (A := (aR A, aF A, aN A, ap A, fun i => if i = k then bn y else ah A i)) hA.1 hK1 hq hN (by omega)).mono ?_
    rintro t ⟨t0, t1, t2, t3, t4⟩
    have hK2 : KR 4 (twA A q k (bn x) (bn y)) t := by
      refine ⟨?_, t1, t2, ?_, ?_⟩
      · rw [t0]; exact hK1.1
      · intro j hj
        show t (4 + 1) j = ((inP (ap A) q (2 * k + bn x) j : Nat) : Int)
        rw [← hc]
        exact t3 j hj
      · intro i hi
        rw [t4]
        show gU s 6 k (bn y) 6 i = ((if i = k then bn y else ah A i : Nat) : Int)
        rcases (pr_tw hq (ho x)).mp hi with h1 | h1
        · rw [h1, gUs, if_pos rfl]
        · exact hK1.2.2.2.2 i h1
    refine (wp_resettle (b := 4) rfl hA'.1 hK2).mono ?_
    intro t5 h5
    rw [e_forget]
    simp only [wp_some]
    refine ⟨KT_c h5 (fun i hi => by simp [gU, gA, show 4 + i ≠ 44 by omega, show 4 + i ≠ 21 by omega]), trivial, ?_⟩
    simp [gU, gA, kup]
  unfold f_KT_twist
  rw [e_leastFree hA.1 hK, e_hasPlace hK, hk, if_pos (by omega)]
  simp only [Option.bind_some, show ¬ ((1 : Int) = 0) by decide, if_false]
  rw [if_pos (by omega)]
  have e2 : wI (2 * (k : Int)) = 2 * (k : Int) := wI_id (by omega) (by omega)
  unfold f_KT_twist_24
  rw [gI_n hk11, e2]
  simp only [Option.bind_some, gLet]
  have bx : bn x = if x = 0 then 0 else 1 := rfl
  have by' : bn y = if y = 0 then 0 else 1 := rfl
  by_cases hx : x = 0 <;> by_cases hy : y = 0
  · have := key (2 * k + bn x) (bn y) rfl rfl
    rw [if_pos hx] at bx; rw [if_pos hy] at by'
    rw [if_pos hy, if_pos hx]
    rw [bx, by'] at this ⊢
    exact this
  · have := key (2 * k + bn x) (bn y) rfl rfl
    rw [if_pos hx] at bx; rw [if_neg hy] at by'
    rw [if_neg hy, if_pos hx]
    rw [bx, by'] at this ⊢
    exact this
  · have := key (2 * k + bn x) (bn y) rfl rfl
    rw [if_neg hx] at bx; rw [if_pos hy] at by'
    rw [if_pos hy, if_neg hx]
    rw [bx, by'] at this ⊢
    exact this
  · have := key (2 * k + bn x) (bn y) rfl rfl
    rw [if_neg hx] at bx; rw [if_neg hy] at by'
    rw [if_neg hy, if_neg hx]
    rw [bx, by'] at this ⊢
    exact this
theorem wp_M_twist {A : zA} (hA : okA A) {s : kM} (hM : MT A s) {q k : Nat} (x y : Int) (hq : q < aN A) (hk : lz (mk (ap A) (aN A)) = k) (hk11 : k < 11) (hN : aN A ≤ 20) (hp : ¬ pb A k = true) : wp (f_M_twist q x y s) (fun r => MT (twA A q k (bn x) (bn y)) r.2 ∧ r.1 = (k : Int) ∧ r.2 86 3 = s 86 3 ∧ r.2 86 4 = s 86 4 ∧ r.2 86 5 = s 86 5) := by
  have ho : ∀ z, bn z ≤ 1 := fun z => by unfold bn; split <;> omega
  have hA' := okA_tw hA hq hN hk11 (ho x) (ho y) hp
  have hn := okB_n hA.1
  have oh := oc_half hA
  have hz := lz_spec (mk (ap A) (aN A))
  rw [hk] at hz
  obtain ⟨r1, r2, r3, r4, r5⟩ := hM.1
  -- the end: three more writes
  have fin : ∀ (c : Nat) (g : kM), (∀ a, a ≠ 87 → a ≠ 88 → g a = s a) → (∀ j, j < aN A + 2 → g 87 j = ((inP (ap A) q c j / 2 : Nat) : Int) ∧ g 88 j = ((inP (ap A) q c j % 2 : Nat) : Int)) → c = 2 * k + bn x → wp (f_M_twist_96 k (if (aF A : Int) ≤ q then 1 else 0) k (bn y) g) (fun r => MT (twA A q k (bn x) (bn y)) r.2 ∧ r.1 = (k : Int) ∧ r.2 86 3 = s 86 3 ∧ r.2 86 4 = s 86 4 ∧ r.2 86 5 = s 86 5) := by
    intro c g g0 g1 hc
    unfold f_M_twist_96
    have e1 : (if (aF A : Int) ≤ q then (1 : Int) else 0) = 0 ∨ (if (aF A : Int) ≤ q then (1 : Int) else 0) = 1 := by split <;> simp
    have fe : ∀ F2 S2 : Int, ∀ z, (∀ a, a ≠ 86 → z a = gU g 89 k (bn y) a) → z 86 0 = s 86 0 → z 86 1 = F2 → z 86 2 = S2 → F2 = ((if q < aF A then aF A + 2 else aF A : Nat) : Int) → S2 = ((aN A + 2 : Nat) : Int) - ((if q < aF A then aF A + 2 else aF A : Nat) : Int) → MR (twA A q k (bn x) (bn y)) z := by
      intro F2 S2 z z0 z1 z2 z3 z4 z5
      refine ⟨?_, ?_, ?_, ?_, ?_⟩
      · rw [z1]; exact r1
      · rw [z2, z4]; rfl
      · rw [z3, z5]; rfl
      · intro j hj
        rw [z0 87 (by decide), z0 88 (by decide), gUn _ _ _ (by decide), gUn _ _ _ (by decide)]
        show g 87 j = ((inP (ap A) q (2 * k + bn x) j / 2 : Nat) : Int) ∧ g 88 j = ((inP (ap A) q (2 * k + bn x) j % 2 : Nat) : Int)
        rw [← hc]
        exact g1 j hj
      · intro i hi
        rw [z0 89 (by decide)]
        show gU g 89 k (bn y) 89 i = ((if i = k then bn y else ah A i : Nat) : Int)
        by_cases h1 : i = k
        · rw [h1, gUs, if_pos rfl]
        · rw [gUo _ _ _ h1, if_neg h1, g0 89 (by decide) (by decide)]
          rcases (pr_tw hq (ho x)).mp hi with h2 | h2
          · exact absurd h2 h1
          · exact r5 i h2
    by_cases hF : q < aF A
    · rw [if_neg (show ¬ (aF A : Int) ≤ q by omega)]
      have w1 : wI (1 + 0) = ((1 : Nat) : Int) := by decide
      rw [gI_n hk11, w1, gI_n (show 1 < 6 by decide)]
      simp only [Option.bind_some, gLet, wp_bind]
      refine (wp_fr (wp_refresh hA'.1 (fe ((aF A : Int) + 2) ((aN A : Int) - aF A) _ (fun a ha => by rw [gU_n _ _ _ ha]) ?_ ?_ ?_ ?_ ?_)) (fun t ht => w_M_refresh _ t ht)).mono (fun t ht => by
        have e86 := ht.2 86 (by decide)
        rw [wp_some]
        dsimp only
        rw [e86]
        refine ⟨ht.1, rfl, ?_, ?_, ?_⟩ <;> rw [gUo _ _ _ (by decide), gUn _ _ _ (by decide), g0 86 (by decide) (by decide)])
      · rw [gUo _ _ _ (by decide), gUn _ _ _ (by decide), g0 86 (by decide) (by decide)]
      · rw [gUs, gUn _ _ _ (by decide), g0 86 (by decide) (by decide), r2, wI_id (by omega) (by omega)]
      · rw [gUo _ _ _ (by decide), gUn _ _ _ (by decide), g0 86 (by decide) (by decide), r3]
      · rw [if_pos hF]; rfl
      · rw [if_pos hF]; omega
    · rw [if_pos (show (aF A : Int) ≤ q by omega)]
      have w1 : wI (1 + 1) = ((2 : Nat) : Int) := by decide
      rw [gI_n hk11, w1, gI_n (show 2 < 6 by decide)]
      simp only [Option.bind_some, gLet, wp_bind]
      refine (wp_fr (wp_refresh hA'.1 (fe (aF A : Int) ((aN A : Int) - aF A + 2) _ (fun a ha => by rw [gU_n _ _ _ ha]) ?_ ?_ ?_ ?_ ?_)) (fun t ht => w_M_refresh _ t ht)).mono (fun t ht => by
        have e86 := ht.2 86 (by decide)
        rw [wp_some]
        dsimp only
        rw [e86]
        refine ⟨ht.1, rfl, ?_, ?_, ?_⟩ <;> rw [gUo _ _ _ (by decide), gUn _ _ _ (by decide), g0 86 (by decide) (by decide)])
      · rw [gUo _ _ _ (by decide), gUn _ _ _ (by decide), g0 86 (by decide) (by decide)]
      · rw [gUo _ _ _ (by decide), gUn _ _ _ (by decide), g0 86 (by decide) (by decide), r2]
      · rw [gUs, gUn _ _ _ (by decide), g0 86 (by decide) (by decide), r3, wI_id (by omega) (by omega)]
      · rw [if_neg hF]
      · rw [if_neg hF]; omega
  -- the passes
  have mid : wp (f_M_twist_27 q x y k (if (aF A : Int) ≤ q then 1 else 0) ((aN A : Int) - 1) s) (fun r => MT (twA A q k (bn x) (bn y)) r.2 ∧ r.1 = (k : Int) ∧ r.2 86 3 = s 86 3 ∧ r.2 86 4 = s 86 4 ∧ r.2 86 5 = s 86 5) := by
    unfold f_M_twist_27
    refine wp_for (aN A - 1 - q) (fun r z => z.1 = (aN A : Int) - 1 - r ∧ z.2 = gA (gA s 87 (sf (s 87) (aN A) r)) 88 (sf (s 88) (aN A) r)) 0 _ (by omega) (by omega) ⟨by simp, by rw [sf_0, sf_0, gA_id, gA_id]⟩ ?_ ?_
    · rintro r ⟨i, t⟩ _ hr ⟨rfl, rfl⟩
      simp only [f_M_twist_27b, wp_ite, wp_bind, wp_gI, wp_gLet, wp_some, gE_l]
      rw [wI_id (x := (aN A : Int) - 1 - r + 2) (by omega) (by omega), wI_id (x := (aN A : Int) - 1 - r + -1) (by omega) (by omega)]
      refine ⟨fun c => by omega, fun _ => ⟨by omega, by omega, by omega, by omega, by omega, ?_⟩⟩
      rw [show ((aN A : Int) - 1 - r).toNat = aN A - 1 - r by omega, show ((aN A : Int) - 1 - r + 2).toNat = aN A + 1 - r by omega]
      funext a j
      by_cases h87 : a = 87
      · subst h87
        rw [gUn _ _ _ (by decide), gU_s, gAn _ _ (by decide), gA_s, gAn _ _ (by decide), gA_s, sf_s _ _ _ (by omega)]
      · by_cases h88 : a = 88
        · subst h88
          rw [gU_s, gU_n _ _ _ (by decide), gA_s, gA_s, sf_s _ _ _ (by omega)]
        · rw [gUn _ _ _ h88, gUn _ _ _ h87, gAn _ _ h88, gAn _ _ h87, gAn _ _ h88, gAn _ _ h87]
    · rintro ⟨i, t⟩ ⟨rfl, rfl⟩
      have i1 : gI 22 ((q + 1 : Nat) : Int) = some (q + 1) := gI_n (by omega)
      have i2 : gI 22 ((q + 2 : Nat) : Int) = some (q + 2) := gI_n (by omega)
      have lq : (aN A : Int) - 1 - ((aN A - 1 - q : Nat) : Int) ≤ q := by omega
      obtain ⟨w1, w2⟩ : wI ((q : Int) + 1) = ((q + 1 : Nat) : Int) ∧ wI ((q : Int) + 2) = ((q + 2 : Nat) : Int) := ⟨by rw [wI_id (by omega) (by omega)]; rfl, by rw [wI_id (by omega) (by omega)]; rfl⟩
      unfold f_M_twist_27b f_M_twist_69 f_M_twist_87
      rw [w1, w2, i1, i2, if_pos lq]
      clear w1 w2
      simp only [Option.bind_some, gLet]
      generalize hg : gA (gA s 87 (sf (s 87) (aN A) (aN A - 1 - q))) 88 (sf (s 88) (aN A) (aN A - 1 - q)) = g
      have fin2 : ∀ o : Nat, bn x = o → o ≤ 1 → ∀ o' : Nat, o' = 1 - o → wp (f_M_twist_96 k (if (aF A : Int) ≤ q then 1 else 0) k (bn y) (gU (gU (gU (gU g 87 (q + 1) k) 88 (q + 1) o) 87 (q + 2) k) 88 (q + 2) o')) (fun r => MT (twA A q k (bn x) (bn y)) r.2 ∧ r.1 = (k : Int) ∧ r.2 86 3 = s 86 3 ∧ r.2 86 4 = s 86 4 ∧ r.2 86 5 = s 86 5) := by
        rintro o ho1 ho2 o' rfl
        refine fin (2 * k + o) _ ?_ ?_ (by rw [ho1])
        · intro a h7 h8
          rw [gU_n _ _ _ h8, gU_n _ _ _ h7, gU_n _ _ _ h8, gU_n _ _ _ h7, ← hg, gAn _ _ h8, gAn _ _ h7]
        · intro j hj
          have e7 : gU (gU (gU (gU g 87 (q + 1) k) 88 (q + 1) o) 87 (q + 2) k) 88 (q + 2) ((1 - o : Nat) : Int) 87 j = kup (kup (sf (s 87) (aN A) (aN A - 1 - q)) (q + 1) (k : Int)) (q + 2) (k : Int) j := by
            rw [gUn _ _ _ (by decide), gU_s, gU_n _ _ _ (by decide), gU_s, ← hg, gAn _ _ (by decide), gA_s]
          have e8 : gU (gU (gU (gU g 87 (q + 1) k) 88 (q + 1) o) 87 (q + 2) k) 88 (q + 2) ((1 - o : Nat) : Int) 88 j = kup (kup (sf (s 88) (aN A) (aN A - 1 - q)) (q + 1) (o : Int)) (q + 2) ((1 - o : Nat) : Int) j := by
            rw [gU_s, gU_n _ _ _ (by decide), gU_s, gU_n _ _ _ (by decide), ← hg, gA_s]
          rw [e7, e8]
          have hfo : fx (2 * k + o) = 2 * k + (1 - o) := by unfold fx; split <;> omega
          unfold kup sf inP
          by_cases h1 : j ≤ q
          · have a1 : ¬ j = q + 2 := by omega
            have a2 : ¬ j = q + 1 := by omega
            have a3 : ¬ (aN A + 2 ≤ j + (aN A - 1 - q) ∧ j < aN A + 2) := by omega
            simp only [if_neg a1, if_neg a2, if_neg a3, if_pos h1]
            exact r4 j (by omega)
          · by_cases h2 : j = q + 1
            · have a1 : ¬ j = q + 2 := by omega
              simp only [if_neg a1, if_pos h2, if_neg h1]
              omega
            · by_cases h3 : j = q + 2
              · simp only [if_pos h3, if_neg h1, if_neg h2, hfo]
                omega
              · have a3 : aN A + 2 ≤ j + (aN A - 1 - q) ∧ j < aN A + 2 := by omega
                simp only [if_neg h3, if_neg h2, if_pos a3, if_neg h1]
                exact r4 (j - 2) (by omega)
      have bx : bn x = if x = 0 then 0 else 1 := rfl
      have by' : bn y = if y = 0 then 0 else 1 := rfl
      by_cases hx : x = 0 <;> by_cases hy : y = 0
      · rw [if_pos hx] at bx; rw [if_pos hy] at by'
        have := fin2 0 bx (by decide) 1 rfl
        rw [by'] at this
        rw [if_pos hx, if_pos hx, if_pos hy, wp_map, bx, by']
        rw [bx] at this
        exact this
      · rw [if_pos hx] at bx; rw [if_neg hy] at by'
        have := fin2 0 bx (by decide) 1 rfl
        rw [by'] at this
        rw [if_pos hx, if_pos hx, if_neg hy, wp_map, bx, by']
        rw [bx] at this
        exact this
      · rw [if_neg hx] at bx; rw [if_pos hy] at by'
        have := fin2 1 bx (by decide) 0 rfl
        rw [by'] at this
        rw [if_neg hx, if_neg hx, if_pos hy, wp_map, bx, by']
        rw [bx] at this
        exact this
      · rw [if_neg hx] at bx; rw [if_neg hy] at by'
        have := fin2 1 bx (by decide) 0 rfl
        rw [by'] at this
        rw [if_neg hx, if_neg hx, if_neg hy, wp_map, bx, by']
        rw [bx] at this
        exact this
  -- the search of a free bridge
  unfold f_M_twist
  rw [e_M_isPlace hA.1 hM.1, if_pos (by omega), e_M_many hA.1 hM.1]
  simp only [Option.bind_some, show ¬ ((1 : Int) = 0) by decide, if_false]
  rw [if_neg (by omega)]
  unfold f_M_twist_12
  refine wp_for k (fun i z => z = (i : Int)) 0 _ (by omega) (by omega) rfl ?_ ?_
  · rintro i z _ hi rfl
    have hpi : pb A i = true := hz.2.1 i hi
    simp only [f_M_twist_12b, e_M_isBridge hA hM, Option.bind_some, wp_ite, wp_bind, wp_some, gE_l, Int.toNat_natCast]
    rw [if_pos ⟨by omega, by omega, hpi⟩]
    exact ⟨fun c => by omega, fun _ => by rw [wI_id (by omega) (by omega)]; rfl⟩
  · rintro z rfl
    simp only [f_M_twist_12b, e_M_isBridge hA hM, e_M_roadOf hM.1, e_M_places hA.1 hM.1, Option.bind_some, wp_ite, wp_bind, wp_some, wp_map, gE_r, Int.toNat_natCast]
    rw [if_neg (fun h => hp h.2.2), wI_id (by omega) (by omega)]
    exact ⟨fun _ => mid, fun c => absurd rfl c⟩
section TOWN
variable {RC : zA → kM → Prop} {RU : Nat → kM → Prop}
theorem O_twist (hC : hRC RC) (hU : hRU RU) (p x y : Int) : OB RC RU (f_KT_twist p x y) (f_M_twist p x y) := by
  intro s hs
  have hs' := hs
  obtain ⟨A, hA, hK, hM, -⟩ := hs'
  have oh := oc_half hA
  have lo := lz_oc (mk (ap A) (aN A))
  have hn := okB_n hA.1
  by_cases c : 0 ≤ p ∧ p < aN A
  · by_cases h11 : lz (mk (ap A) (aN A)) < 11
    · obtain ⟨q, rfl⟩ : ∃ q : Nat, p = (q : Int) := ⟨p.toNat, by omega⟩
      have hp : ¬ pb A (lz (mk (ap A) (aN A))) = true := by
        show ¬ (mk (ap A) (aN A)).testBit _ = true
        rw [(lz_spec _).2.2 h11]
        decide
      have h20 : aN A ≤ 20 := by have := lo.mp h11; omega
      have ho : ∀ z, bn z ≤ 1 := fun z => by unfold bn; split <;> omega
      exact OB_town2 hC hU hs (okA_tw hA (by omega) h20 h11 (ho x) (ho y) hp) hM W_KT_twist W_M_twist (wp_KT_twist hA hK x y (by omega) rfl h11 h20 hp) (fun t h => w_KT_twist q x y s t h) (fun g hg => wp_M_twist hA hg x y (by omega) rfl h11 h20 hp) (fun g t h => w_M_twist q x y g t h) (by decide) (by decide)
    · refine ⟨-1, s, s, ?_, ?_, hs⟩
      · unfold f_KT_twist
        rw [e_leastFree hA.1 hK, e_hasPlace hK, if_pos c]
        simp only [Option.bind_some, show ¬ ((1 : Int) = 0) by decide, if_false]
        rw [if_neg (by omega)]
      · unfold f_M_twist
        rw [e_M_isPlace hA.1 hM.1, if_pos c, e_M_many hA.1 hM.1]
        simp only [Option.bind_some, show ¬ ((1 : Int) = 0) by decide, if_false]
        rw [if_pos (by omega)]
  · refine ⟨-1, s, s, ?_, ?_, hs⟩
    · unfold f_KT_twist
      rw [e_leastFree hA.1 hK, e_hasPlace hK, if_neg c]
      rfl
    · unfold f_M_twist
      rw [e_M_isPlace hA.1 hM.1, if_neg c]
      rfl
end TOWN
