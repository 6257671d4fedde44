def A00 : zA := (0, 0, 0, fun _ => 0, fun _ => 0)
theorem PI_00 : PI A00 := ⟨⟨by decide, by decide, by decide, fun j h => absurd h (Nat.not_lt_zero j), fun i j h => absurd h (Nat.not_lt_zero i)⟩, fun _ => rfl, fun k h => by cases h⟩
/-- the text's fault; 0 if it tells a town -/
def dLd (A : zA) : Bool := decide ((FL A (2 * aN A)).length = aN A / 2 + 2 * grp A)
def tF (T : Nat → Int) (L : Nat) : Nat := if (pTn T L 3 0 A00).2.1 ≠ 0 then (pTn T L 3 0 A00).2.1 else if whB (pTn T L 3 0 A00).2.2 11 = true then (if dLd (pTn T L 3 0 A00).2.2 = true then 0 else flt L 7) else flt L 6
theorem grp_le {A : zA} (hA : okB A) : grp A ≤ 11 := by
  unfold grp
  split
  · split <;> omega
  · split <;> omega
theorem wp_K_read {T : Nat → Int} (hT : TB T) {L : Nat} {s : kM} (h : KTp T L 0 s ∨ (L ≤ 400 ∧ s 1 1 = (L : Int) ∧ s 2 = T)) : wp (f_TownText_read 11 17 s) (fun t => t 1 3 = ((tF T L : Nat) : Int) ∧ (tF T L = 0 → KT 11 (pTn T L 3 0 A00).2.2 t ∧ okA (pTn T L 3 0 A00).2.2)) := by
  have h' : L ≤ 400 ∧ s 1 1 = (L : Int) ∧ s 2 = T := by
    rcases h with h | h
    · exact ⟨h.1, h.2.2.1, h.2.2.2.2⟩
    · exact h
  clear h
  obtain ⟨hL, h1, h2⟩ := h'
  unfold f_TownText_read f_Town_clear
  rw [gLet_eq, gLet_eq, gLet_eq]
  obtain ⟨G, hG⟩ : ∃ G, G = gU (gU (gU s 11 0 0) 11 1 0) 11 2 0 := ⟨_, rfl⟩
  rw [← hG]
  have G1 : ∀ z, z ≠ 11 → G z = s z := fun z hz => by rw [hG, gU_n _ _ _ hz, gU_n _ _ _ hz, gU_n _ _ _ hz]
  have G2 : G 11 0 = 0 ∧ G 11 1 = 0 ∧ G 11 2 = 0 := by
    rw [hG]
    simp [gU_s, kup]
  clear hG
  obtain ⟨w, g1, g2, g3, g4, g5, g6, g7⟩ := wp_settle (b := 11) rfl PI_00.1 (s := G) G2.2.1 G2.2.2 (fun j hj => absurd hj (Nat.not_lt_zero j))
  have fr : ∀ z, z ∉ W_Town_settle 11 → w z = G z := w_Town_settle 11 G w g1
  rw [g1, Option.bind_some, Option.bind_some]
  unfold f_Tape_rewind
  rw [gLet_eq, gLet_eq, Option.bind_some]
  obtain ⟨H, hH⟩ : ∃ H, H = gU (gU w 1 2 0) 1 3 0 := ⟨_, rfl⟩
  rw [← hH]
  have H1 : ∀ z, z ≠ 1 → H z = w z := fun z hz => by rw [hH, gU_n _ _ _ hz, gU_n _ _ _ hz]
  have w1 : w 1 = s 1 := by rw [fr 1 (by decide), G1 1 (by decide)]
  have hKY : KY T L (0, 0, A00) H := by
    refine ⟨by rw [hH, gUs]; rfl, by rw [hH, gUo _ _ _ (by decide), gUo _ _ _ (by decide), w1]; exact h1, by rw [H1 2 (by decide), fr 2 (by decide), G1 2 (by decide)]; exact h2, fun _ => ⟨⟨hL, by show 0 ≤ L; omega, by rw [hH, gUo _ _ _ (by decide), gUo _ _ _ (by decide), w1]; exact h1, by rw [hH, gUo _ _ _ (by decide), gUs]; rfl, by rw [H1 2 (by decide), fr 2 (by decide), G1 2 (by decide)]; exact h2⟩, ⟨by rw [H1 11 (by decide), g3]; exact G2.1, by rw [H1 11 (by decide), g5]; exact G2.2.2, fun j hj => absurd hj (Nat.not_lt_zero j), fun k hk => by cases hk⟩, by rw [H1 11 (by decide), g4]; exact G2.2.1⟩⟩
  clear hH H1
  refine wp_readText hT PI_00 rfl hKY ?_
  intro t ht
  have hok := pTn_ok (T := T) (L := L) 3 0 A00 PI_00 (by omega) rfl
  obtain ⟨t1, t2, t3, t4⟩ := ht
  unfold tF f_TownText_read_35
  generalize hD : pTn T L 3 0 A00 = D at hok t1 t4 ⊢
  by_cases hf : D.2.1 = 0
  · obtain ⟨hPI, hpos, hR⟩ := hok hf
    obtain ⟨x1, x2, x3⟩ := t4 hf
    have hA := hPI.1
    rw [if_pos (by rw [t1, hf]; rfl), if_neg (fun z => z hf)]
    generalize D.2.2 = A at hPI hR x2 x3 hA ⊢
    obtain ⟨z1, z2, z3, z4⟩ := x2
    obtain ⟨q2, e1, k1, k2, k3, k4, k5, k6⟩ := wp_settle (b := 11) rfl hA (s := t) x3 z2 z3
    have fr2 : ∀ z, z ∉ W_Town_settle 11 → q2 z = t z := w_Town_settle 11 t q2 e1
    have hoc := oc_le (mk (ap A) (aN A)) 11
    have hbr : f_Town_bridges 11 q2 = some ((oc (mk (ap A) (aN A)) 11 : Nat) : Int) := by
      unfold f_Town_bridges
      rw [k1.1, e_bitCount (mk_lt hA.2.2.2.1)]
      rfl
    have q13 : q2 1 3 = 0 := by rw [fr2 1 (by decide), t1, hf]; rfl
    have q12 : q2 1 2 = (L : Int) := by rw [fr2 1 (by decide), x1.2.2.2.1, hpos]
    have ew : wI (2 * ((oc (mk (ap A) (aN A)) 11 : Nat) : Int)) = ((2 * oc (mk (ap A) (aN A)) 11 : Nat) : Int) := by rw [wI_id (by omega) (by omega)]; omega
    have hcnt := wh_cnt hA
    rw [e1, Option.bind_some, hbr, Option.bind_some, ew, k4, z2]
    clear ew
    by_cases hw : whB A 11 = true
    · have hwh : whA A := (whB_iff 11).mp hw
      have hoA := okA_wh hPI hR hwh
      have hK : KT 11 A q2 := ⟨⟨by rw [k2]; exact z1, by rw [k3]; exact x3, by rw [k4]; exact z2, by rw [k5]; exact z3, fun k hk => by rw [k6]; exact z4 k (pr_tld hA hwh hk)⟩, k1⟩
      rw [if_pos (by have := hcnt.mpr hwh; omega), if_pos hw]
      obtain ⟨u, e2, f0, s1, -, -, -, -, -⟩ := wp_survey (b := 17) (b1 := 11) (Or.inl (by decide)) hoA hK
      have hKu : KT 11 A u := frL_K (Or.inl (by decide)) hK f0
      have hg := grp_le hA
      have hn := okB_n hA
      have ew2 : wI (2 * ((grp A : Nat) : Int)) = ((2 * grp A : Nat) : Int) := by rw [wI_id (by omega) (by omega)]; omega
      rw [e2, Option.bind_some, e_bridges hA hKu, (oc_half hoA).1, Option.bind_some, e_groups hA hKu, Option.bind_some, ew2, wI_add2 (by clear ew2; omega), s1]
      clear ew2
      have u13 : u 1 3 = 0 := by rw [f0 1 (by decide) (by decide) (by decide) (by decide)]; exact q13
      by_cases hd : dLd A = true
      · have hd' := of_decide_eq_true hd
        rw [if_pos (by omega), if_pos hd, wp_some]
        exact ⟨u13, fun _ => ⟨hKu, hoA⟩⟩
      · have hd' : ¬ ((FL A (2 * aN A)).length = aN A / 2 + 2 * grp A) := fun z => hd (decide_eq_true z)
        have ef := e_fail (p := L) (c := 7) (s := u) (by omega) (by omega) (by rw [f0 1 (by decide) (by decide) (by decide) (by decide)]; exact q12)
        rw [if_pos u13, show ((7 : Nat) : Int) = 7 from rfl] at ef
        rw [if_neg (by omega), if_neg hd, ef, Option.bind_some, wp_some]
        exact ⟨gUs _ _ _ _, fun z => by unfold flt at z; omega⟩
    · have hnw : ¬ whA A := fun z => hw ((whB_iff 11).mpr z)
      have ef := e_fail (p := L) (c := 6) (s := q2) (by omega) (by omega) q12
      rw [if_pos q13, show ((6 : Nat) : Int) = 6 from rfl] at ef
      rw [if_neg (fun z => hnw (hcnt.mp (by omega))), if_neg hw, ef, Option.bind_some, wp_some]
      exact ⟨gUs _ _ _ _, fun z => by unfold flt at z; omega⟩
  · rw [if_neg (by rw [t1]; omega), wp_some, if_pos hf]
    exact ⟨t1, fun z => absurd z hf⟩
