/-! SEARCH: a situation laid out again; what lies behind a move, packed -/
def G1 (A B : zA) : Prop := G0 A B ∧ ∀ k, pr B k → pr A k
theorem pr_mv {B : zA} {m k : Nat} (hB : okA B) (hP : PK B (2 * aN B) m = true) (h : pr (mvA B m) k) : pr B k := by
  unfold mvA at h
  split at h
  · exact pr_drp h
  · rename_i c
    obtain ⟨q1, q2, q3⟩ := mv_sl hB c hP
    exact pr_sw hB q1 (pr_sw (okA_sw hB q1) q2 (pr_sw (okA_sw (okA_sw hB q1) q2) q3 h))
theorem GM_1 (A : zA) : GM (G1 A) := by
  rintro B m ⟨h1, h2⟩ hm hP
  exact ⟨GM_0 A B m h1 hm hP, fun k hk => h2 k (pr_mv h1.1 hP hk)⟩
theorem G1_A {A : zA} (hA : okA A) : G1 A A := ⟨G0_A hA, fun _ h => h⟩
def KW (A : zA) (s : kM) : Prop := s 28 0 = ((aR A : Nat) : Int) ∧ ∀ k, pr A k → s 30 k = ((ah A k : Nat) : Int)
theorem e_dig {zw : Nat} (h : zw < 9223372036854775808) : wI (klnd (zw : Int) 31) = ((zw % 32 : Nat) : Int) := by
  rw [show (31 : Int) = ((31 : Nat) : Int) from rfl, klnd_n h (by decide), show (31 : Nat) = 2 ^ 5 - 1 from rfl, Nat.and_two_pow_sub_one_eq_mod, wI_id (by omega) (by omega)]
theorem wp_unpack {A : zA} {l : List zE} {s : kM} {k : Nat} {e : zE} (hk : l[k]? = some e) (hK : KRp l s) (hG : G1 A e.1) (hW : KW A s) : wp (f_Search_unpack k s) (fun t => KT 28 e.1 t) := by
  obtain ⟨k1, k2, k3⟩ := hK
  obtain ⟨r1, r2, r3, -, -⟩ := k3 k e hk
  have hkl : k < 300 := by have := (List.getElem?_eq_some_iff.mp hk).1; omega
  obtain ⟨B, hB⟩ : ∃ B, B = e.1 := ⟨_, rfl⟩
  rw [← hB] at hG r1 r2 r3 ⊢
  have hBA := hG.1.1
  have hn := okB_n hBA.1
  have hap : ∀ j, j < aN B → ap B j < 31 := fun j hj => by have := hBA.1.2.2.2.1 j hj; omega
  have hlo := plo_lt hBA.1
  have hhi := phi_lt hBA.1
  have i3 : gI 300 (k : Int) = some k := gI_n hkl
  unfold f_Search_unpack f_Search_unpack_6
  rw [gLet_eq]
  refine wp_for 22 (fun i x => x.1 = (i : Int) ∧ x.2 28 2 = ((mi i (aN B) : Nat) : Int) ∧ x.2 28 0 = s 28 0 ∧ (∀ j, j < mi i (aN B) → x.2 29 j = ((ap B j : Nat) : Int)) ∧ ∀ z, z ≠ 28 → z ≠ 29 → x.2 z = s z) 0 _ (by omega) (by omega) (by exact ⟨rfl, by dsimp only; rw [gUs, mi_0]; rfl, by dsimp only; rw [gUo _ _ _ (by decide)], fun j hj => by rw [mi_0] at hj; exact absurd hj (Nat.not_lt_zero _), fun z z1 _ => by dsimp only; rw [gU_n _ _ _ z1]⟩) ?_ ?_
  · rintro i ⟨y1, w⟩ _ hi ⟨rfl, q1, q2, q3, q4⟩
    dsimp only at q1 q2 q3 q4
    have step : ∀ zw : Nat, zw < 9223372036854775808 → zw % 32 = (if i < aN B then ap B i + 1 else 0) → wp (f_Search_unpack_31 k i (zw : Int) w) (gE (fun x => x.1 = ((i + 1 : Nat) : Int) ∧ x.2 28 2 = ((mi (i + 1) (aN B) : Nat) : Int) ∧ x.2 28 0 = s 28 0 ∧ (∀ j, j < mi (i + 1) (aN B) → x.2 29 j = ((ap B j : Nat) : Int)) ∧ ∀ z, z ≠ 28 → z ≠ 29 → x.2 z = s z) (fun t => KT 28 B t)) := by
      intro zw h1 h2
      unfold f_Search_unpack_31 f_Search_unpack_48
      rw [e_dig h1, h2]
      by_cases c : i < aN B
      · have hb := hBA.1.2.2.2.1 i c
        have m1 : mi i (aN B) = i := by unfold mi; rw [if_neg (by omega)]
        have m2 : mi (i + 1) (aN B) = i + 1 := by unfold mi; rw [if_neg (by omega)]
        rw [m1] at q1 q3
        have ec : wI (((ap B i + 1 : Nat) : Int) - 1) = ((ap B i : Nat) : Int) := by rw [wI_id (by omega) (by omega)]; omega
        rw [if_pos c, ec, if_neg (by clear ec; omega), if_neg (by clear ec; omega), m2]
        clear ec
        unfold f_Town_append
        rw [q1, if_neg (by omega), gI_n (by omega), Option.bind_some, gLet_eq, gLet_eq, Option.bind_some, wp_some, gE_l, gU_n _ _ _ (by decide), q1, wI_s (by omega)]
        refine ⟨rfl, by dsimp only; rw [gUs], by dsimp only; rw [gUo _ _ _ (by decide), gU_n _ _ _ (by decide)]; exact q2, fun j hj => ?_, fun z z1 z2 => by dsimp only; rw [gU_n _ _ _ z1, gU_n _ _ _ z2]; exact q4 z z1 z2⟩
        dsimp only
        rw [gU_n _ _ _ (by decide)]
        by_cases hj2 : j = i
        · rw [hj2, gUs]
        · rw [gUo _ _ _ hj2]
          exact q3 j (by omega)
      · have m1 : mi i (aN B) = aN B := by unfold mi; split <;> omega
        have m2 : mi (i + 1) (aN B) = aN B := by unfold mi; split <;> omega
        rw [m1] at q1 q3
        rw [if_neg c, if_pos (by decide), wp_some, gE_l, wI_s (by omega), m2]
        exact ⟨rfl, q1, q2, q3, q4⟩
    dsimp only
    unfold f_Search_unpack_6b
    rw [if_neg (by omega)]
    by_cases h12 : 12 ≤ i
    · have ei : wI ((i : Int) - 12) = ((i - 12 : Nat) : Int) := wI_sub2 (b := 12) h12 (by omega)
      have e5 : wI (5 * ((i - 12 : Nat) : Int)) = ((5 * (i - 12) : Nat) : Int) := by rw [wI_id (by clear ei; omega) (by clear ei; omega)]; clear ei; omega
      rw [if_pos (by clear ei e5; omega), i3, Option.bind_some, q4 23 (by decide) (by decide), r2, ei, e5, klshr_n (by clear ei e5; omega) (by clear ei e5; omega)]
      clear ei e5
      refine step _ (Nat.lt_of_le_of_lt (Nat.div_le_self _ _) (by omega)) ?_
      rw [Nat.pow_mul]
      show phi B / 32 ^ (i - 12) % 32 = _
      unfold phi
      rw [pkf_d _ (fun j hj => hap _ (by omega))]
      by_cases c : i < aN B
      · rw [if_pos (by omega), if_pos c, show 12 + (i - 12) = i by omega]
      · rw [if_neg (by omega), if_neg c]
    · have e5 : wI (5 * (i : Int)) = ((5 * i : Nat) : Int) := by rw [wI_id (by omega) (by omega)]; omega
      rw [if_neg (by clear e5; omega), i3, Option.bind_some, q4 22 (by decide) (by decide), r1, e5, klshr_n (by clear e5; omega) (by clear e5; omega)]
      clear e5
      refine step _ (Nat.lt_of_le_of_lt (Nat.div_le_self _ _) (by omega)) ?_
      rw [Nat.pow_mul]
      show plo B / 32 ^ i % 32 = _
      have hm : i < mi (aN B) 12 ↔ i < aN B := by unfold mi; split <;> omega
      unfold plo
      rw [pkf_d _ (fun j hj => hap _ (by unfold mi at hj; split at hj <;> omega))]
      by_cases c : i < aN B
      · rw [if_pos (hm.mpr c), if_pos c]
      · rw [if_neg (fun z => c (hm.mp z)), if_neg c]
  · rintro ⟨y1, w⟩ ⟨rfl, q1, q2, q3, q4⟩
    dsimp only at q1 q2 q3 q4
    rw [mi_N hn.2] at q1 q3
    dsimp only
    unfold f_Search_unpack_6b
    rw [if_pos (by decide), i3, Option.bind_some, gLet_eq, q4 24 (by decide) (by decide), r3]
    obtain ⟨t, f1, t1, t2, t3, t4, t5, t6⟩ := wp_settle (b := 28) rfl hBA.1 (s := gU w 28 1 ((aF B : Nat) : Int)) (gUs _ _ _ _) (by rw [gUo _ _ _ (by decide)]; exact q1) (fun j hj => by rw [gU_n _ _ _ (by decide)]; exact q3 j hj)
    rw [f1, Option.bind_some, wp_some, gE_r]
    refine ⟨⟨?_, by rw [t3, gUs], by rw [t4, gUo _ _ _ (by decide)]; exact q1, fun j hj => by rw [t5, gU_n _ _ _ (by decide)]; exact q3 j hj, fun i hi => ?_⟩, t1⟩
    · rw [t2, gUo _ _ _ (by decide), q2, hW.1, hG.1.2.1]
    · rw [t6, gU_n _ _ _ (by decide), q4 30 (by decide) (by decide), hG.1.2.2.1]
      exact hW.2 i (hG.2 i hi)
/-! a slide done twice is undone -/
def spn (x y p : Nat) : Nat := if p = x then y else if p = y then x else p
theorem spn_2 (x y p : Nat) : spn x y (spn x y p) = p := by
  unfold spn
  by_cases h1 : p = x
  · rw [if_pos h1]
    by_cases h2 : y = x
    · rw [if_pos h2]
      omega
    · rw [if_neg h2, if_pos rfl]
      exact h1.symm
  · rw [if_neg h1]
    by_cases h3 : p = y
    · rw [if_pos h3, if_pos rfl]
      exact h3.symm
    · rw [if_neg h3, if_neg h1, if_neg h3]
theorem spn_c {x y a b : Nat} (h1 : x ≠ a) (h2 : x ≠ b) (h3 : y ≠ a) (h4 : y ≠ b) (p : Nat) : spn x y (spn a b p) = spn a b (spn x y p) := by
  unfold spn
  by_cases c1 : p = x
  · simp only [c1, h1, h2, h3, h4, if_true, if_false]
  · by_cases c2 : p = y
    · simp only [c2, h3, h4, if_true, if_false]
      by_cases c5 : y = x
      · simp only [c5, h1, h2, if_true, if_false]
      · simp only [c5, h1, h2, if_true, if_false]
    · by_cases c3 : p = a
      · subst c3
        simp only [c1, c2, Ne.symm h2, Ne.symm h4, if_true, if_false]
      · by_cases c4 : p = b
        · subst c4
          simp only [c1, c2, c3, Ne.symm h1, Ne.symm h3, if_true, if_false]
        · simp only [c1, c2, c3, c4, if_false]
theorem tau_spn (A : zA) (j i : Nat) : tau A j i = spn j (nx (aF A) (aN A) j) i := rfl
theorem plc_pair (A : zA) (x : Nat) : (x / 2 = plc A x ∧ nx (aF A) (aN A) (x / 2) = plc A (xo x)) ∨ (x / 2 = plc A (xo x) ∧ nx (aF A) (aN A) (x / 2) = plc A x) := by
  unfold plc xo
  by_cases h : x % 2 = 0
  · rw [if_pos h, if_pos h, if_neg (by omega), show (x + 1) / 2 = x / 2 by omega]
    exact Or.inl ⟨rfl, rfl⟩
  · rw [if_neg h, if_neg h, if_pos (by omega), show (x - 1) / 2 = x / 2 by omega]
    exact Or.inr ⟨rfl, rfl⟩
/-- two pieces at a corner have no pass together -/
theorem dis2 {A : zA} (hA : okA A) {x y : Nat} (hx : x < 2 * aN A) (hy : y = sgm A x) (h1 : bre A x ≠ bre A y) (h2 : bre A x ≠ bre A (xo y)) (h3 : bre A y ≠ bre A (xo y)) : ∀ p q, (p = plc A x ∨ p = plc A (xo x)) → (q = plc A y ∨ q = plc A (xo y)) → p ≠ q := by
  have hb : bre A (xo x) = bre A y := by rw [hy]; exact (bre_sgm hA hx).symm
  have hl := plc_lt hA.1 (xo_lt hx)
  have hc : plc A y = otA A (plc A (xo x)) := by rw [hy]; exact tn_plc hA (xo_lt hx)
  rintro p q (hp | hp) (hq | hq) h
  · exact h1 (by unfold bre; rw [← hp, ← hq, h])
  · exact h2 (by unfold bre; rw [← hp, ← hq, h])
  · have := (ot_ot hA hl).2.2
    rw [← hc, ← hq, ← h, hp] at this
    omega
  · exact h3 (by rw [← hb]; unfold bre; rw [← hp, ← hq, h])
theorem sl_dis {A : zA} (hA : okA A) {x : Nat} (hx : x < 2 * aN A) (hc : cS A x = true) : ∀ p, spn (x / 2) (nx (aF A) (aN A) (x / 2)) (spn (sgm A x / 2) (nx (aF A) (aN A) (sgm A x / 2)) (spn (sgm A (sgm A x) / 2) (nx (aF A) (aN A) (sgm A (sgm A x) / 2)) (spn (x / 2) (nx (aF A) (aN A) (x / 2)) (spn (sgm A x / 2) (nx (aF A) (aN A) (sgm A x / 2)) (spn (sgm A (sgm A x) / 2) (nx (aF A) (aN A) (sgm A (sgm A x) / 2)) p))))) = p := by
  unfold cS at hc
  rw [decide_eq_true_eq] at hc
  obtain ⟨h3, n1, n2, n3, -⟩ := hc
  have h5 := (orb_all hA hx).2.2.2.2
  rw [h3] at h5
  have h6 : sgm A (sgm A (sgm A x)) = x := h5
  have hs := sgm_lt hA hx
  have hs2 := sgm_lt hA hs
  have e2 := bre_sgm hA hs
  have e3 := bre_sgm hA hs2
  rw [h6] at e3
  have d01 := dis2 hA hx rfl n1 (by rw [← e2]; exact n3) (by rw [← e2]; exact n2)
  have d12 := dis2 hA hs rfl n2 (by rw [← e3]; exact Ne.symm n1) (by rw [← e3]; exact Ne.symm n3)
  have e1 := bre_sgm hA hx
  have d20 := dis2 hA hs2 h6.symm (Ne.symm n3) (by rw [← e1]; exact Ne.symm n2) (by rw [← e1]; exact n1)
  have P := plc_pair A
  have p0 : ∀ y : Nat, (y / 2 = plc A y ∨ y / 2 = plc A (xo y)) ∧ (nx (aF A) (aN A) (y / 2) = plc A y ∨ nx (aF A) (aN A) (y / 2) = plc A (xo y)) := fun y => by
    rcases P y with ⟨a, b⟩ | ⟨a, b⟩
    · exact ⟨Or.inl a, Or.inr b⟩
    · exact ⟨Or.inr a, Or.inl b⟩
  intro p
  have c20 : ∀ q, spn (sgm A (sgm A x) / 2) (nx (aF A) (aN A) (sgm A (sgm A x) / 2)) (spn (x / 2) (nx (aF A) (aN A) (x / 2)) q) = spn (x / 2) (nx (aF A) (aN A) (x / 2)) (spn (sgm A (sgm A x) / 2) (nx (aF A) (aN A) (sgm A (sgm A x) / 2)) q) := spn_c (d20 _ _ (p0 _).1 (p0 _).1) (d20 _ _ (p0 _).1 (p0 _).2) (d20 _ _ (p0 _).2 (p0 _).1) (d20 _ _ (p0 _).2 (p0 _).2)
  have c01 : ∀ q, spn (x / 2) (nx (aF A) (aN A) (x / 2)) (spn (sgm A x / 2) (nx (aF A) (aN A) (sgm A x / 2)) q) = spn (sgm A x / 2) (nx (aF A) (aN A) (sgm A x / 2)) (spn (x / 2) (nx (aF A) (aN A) (x / 2)) q) := spn_c (d01 _ _ (p0 _).1 (p0 _).1) (d01 _ _ (p0 _).1 (p0 _).2) (d01 _ _ (p0 _).2 (p0 _).1) (d01 _ _ (p0 _).2 (p0 _).2)
  have c12 : ∀ q, spn (sgm A x / 2) (nx (aF A) (aN A) (sgm A x / 2)) (spn (sgm A (sgm A x) / 2) (nx (aF A) (aN A) (sgm A (sgm A x) / 2)) q) = spn (sgm A (sgm A x) / 2) (nx (aF A) (aN A) (sgm A (sgm A x) / 2)) (spn (sgm A x / 2) (nx (aF A) (aN A) (sgm A x / 2)) q) := spn_c (d12 _ _ (p0 _).1 (p0 _).1) (d12 _ _ (p0 _).1 (p0 _).2) (d12 _ _ (p0 _).2 (p0 _).1) (d12 _ _ (p0 _).2 (p0 _).2)
  rw [c20, c01, spn_2, c12, spn_2, spn_2]
