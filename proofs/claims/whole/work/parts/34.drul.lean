theorem kpo_l {T : Nat → Int} {L : Nat} {c : List Int} {e : Nat} {s t : kM} (h1 : kfr s t) (h2 : KEr T L e t) : kpo T L c (.inl e) s t := ⟨h1, h2⟩
theorem kpo_r {T : Nat → Int} {L : Nat} {c c' : List Int} {p n : Nat} {s t : kM} (h1 : kfr s t) (h2 : KXr T L (c ++ c') p n t) : kpo T L c (.inr (c', p, n)) s t := ⟨h1, h2⟩
theorem flg_c (c : List Int) : flg c = 0 ∨ flg c = 1 := by unfold flg; split <;> simp
theorem kpo_t {T : Nat → Int} {L : Nat} {c : List Int} {r : pR} {s t u : kM} (h : kfr s t) (h2 : kpo T L c r t u) : kpo T L c r s u := ⟨kfr_t h h2.1, h2.2⟩
theorem e_37e {x2 x3 x4 : Int} {s : kM} (h : s 1 3 ≠ 0) : f_RuleText_readValue_37 x2 x3 x4 s = some s := by
  unfold f_RuleText_readValue_37
  rw [if_neg h]
theorem wp_27 {T : Nat → Int} {L : Nat} {c : List Int} {q n : Nat} {s : kM} (h : KXr T L c q n s) {x2 x3 x4 : Int} {R : List Int × Nat × Nat} (hr : n < 60 → wp (f_RuleText_readValue_37 x2 x3 x4 s) (kpo T L c (.inr R) s)) : wp (f_RuleText_readValue_27 x2 x3 x4 s) (kpo T L c (if n < 60 then .inr R else .inl (flt q 3)) s) := by
  unfold f_RuleText_readValue_27
  rw [if_pos h.2.1, h.2.2.1]
  by_cases hn : n < 60
  · rw [if_pos (by omega), if_pos hn]
    exact hr hn
  · have ef : f_Tape_fail 3 s = some (gU s 1 3 ((flt q 3 : Nat) : Int)) := e_failX (k := 3) h (by decide)
    have hne : gU s 1 3 ((flt q 3 : Nat) : Int) 1 3 ≠ 0 := by rw [gUs]; have := flt_0 q 3; omega
    rw [if_neg (by omega), if_neg hn, ef, Option.bind_some, e_37e hne, wp_some]
    exact kpo_l (kfr_1 _ _ _) (KXr_e h (flt_0 _ _))
theorem wp_K_value {T : Nat → Int} (hT : TB T) {L : Nat} : KIt T L (pV T L) f_RuleText_readValue := by
  intro c p n s hn hX
  have hL := hX.1.1
  have hb := bl_le (T := T) hX.1.2.1
  have hbb : bl T L (bl T L p) = bl T L p := bl_bl _ _ rfl
  have hX1 := KXr_u hX hb.2
  unfold f_RuleText_readValue pV
  rw [e_seesNumber hT hX.1, Option.bind_some]
  generalize bl T L p = q at hb hbb hX1
  obtain ⟨s1, hs1⟩ : ∃ s1, s1 = gU s 1 2 ((q : Nat) : Int) := ⟨_, rfl⟩
  have hfr : kfr s s1 := by rw [hs1]; exact kfr_1 _ _ _
  rw [← hs1] at hX1 ⊢
  clear hs1
  have eid : gU s1 1 2 ((q : Nat) : Int) = s1 := gU_id hX1.1.2.2.2.1
  by_cases hd : dgt T L q = true
  · have hdl := drn_le T L _ q rfl
    rw [if_pos hd, if_pos hd]
    dsimp only
    rw [if_neg (by decide)]
    unfold f_RuleText_readValue_9
    have en : f_Tape_seenNumber 99999 s1 = _ := e_seenNumber (m := 99999) hT hX1.1 hX1.2.1
    rw [hbb, if_pos hd, eid] at en
    rw [if_neg (by decide), en, Option.bind_some]
    have hv := val_lt T L q
    by_cases h5 : drn T L q ≤ 5
    · rw [if_pos ⟨h5, by omega⟩, if_pos h5]
      dsimp only
      unfold f_RuleText_readValue_19
      rw [if_neg (by decide)]
      refine (wp_27 hX1 (fun h6 => ?_)).mono (fun t ht => kpo_t hfr ht)
      unfold f_RuleText_readValue_37
      rw [if_pos hX1.2.1, gLet_eq]
      have hX2 := KXr_n hX1 h6
      obtain ⟨t, g, hX3, ft⟩ := e_emitX hX2 (x := ((val T L q : Nat) : Int)) (by omega)
      rw [g, Option.bind_some, if_neg (by decide), e_skipNumber hX3.1, Option.bind_some, wp_some]
      refine kpo_r (kfr_t (kfr_t (kfr_54 _ _ _) ft) (kfr_1 _ _ _)) (KXr_u hX3 (by omega))
    · rw [if_neg (fun q => h5 q.1), if_neg h5]
      dsimp only
      unfold f_RuleText_readValue_19 f_RuleText_readValue_27
      have hne : gU s1 1 3 ((flt q 1 : Nat) : Int) 1 3 ≠ 0 := by rw [gUs]; have := flt_0 q 1; omega
      rw [if_neg (by decide), if_neg hne, e_37e hne, wp_some]
      exact kpo_l (kfr_t hfr (kfr_1 _ _ _)) (KXr_e hX1 (flt_0 _ _))
  · rw [if_neg hd, if_neg hd]
    dsimp only
    rw [if_pos rfl, e_seenWord hX1.1 hbb, Option.bind_some]
    dsimp only
    unfold f_RuleText_readValue_9
    rw [if_pos rfl]
    unfold f_RuleText_readValue_19
    rw [if_pos rfl]
    by_cases hw : fw T L q 8 0 < 8
    · have hs := fw_std (T := T) (L := L) (q := q) 8 0 (by omega)
      rw [if_pos hw, if_pos hw, if_pos (by omega)]
      generalize fw T L q 8 0 = w at hw hs
      refine (wp_27 hX1 (fun h6 => ?_)).mono (fun t ht => kpo_t hfr ht)
      unfold f_RuleText_readValue_37
      rw [if_pos hX1.2.1, gLet_eq]
      have hX2 := KXr_n hX1 h6
      have hf2 : kfr s1 (gU s1 54 2 (wI (s1 54 2 + 1))) := kfr_54 _ _ _
      generalize gU s1 54 2 (wI (s1 54 2 + 1)) = s2 at hX2 hf2
      have ew : wI (-1 - (w : Int)) = -1 - (w : Int) := wI_id (by omega) (by omega)
      rw [ew]
      clear ew
      obtain ⟨⟨b1, b2, b3, b4, b5⟩, k2, k3, k4, k5⟩ := hX2
      obtain ⟨t, g, t1, t2, t3⟩ := e_emit k4 (-1 - (w : Int))
      have hTp : KTp T L q t := ⟨b1, b2, by rw [t2 1 (by decide) (by decide)]; exact b3, by rw [t2 1 (by decide) (by decide)]; exact b4, by rw [t2 2 (by decide) (by decide)]; exact b5⟩
      have hl := std_len b2 hs
      have et := e_takeWord hTp (show 5 + w < 30 by omega)
      rw [hbb] at et
      unfold wnm at hs
      rw [if_pos hs] at et
      rw [g, Option.bind_some, if_pos rfl, e_wn hw, Option.bind_some, et, Option.bind_some]
      dsimp only
      obtain ⟨u, hu⟩ : ∃ u, u = gU t 1 2 ((q + (kstrs.getD (5 + w) []).length : Nat) : Int) := ⟨_, rfl⟩
      have hTu : KTp T L (q + (wnm w).length) u := by rw [hu]; exact KTp_u hTp hl
      have u1 : ∀ z, z ≠ 1 → u z = t z := fun z hz => by rw [hu, gU_n _ _ _ hz]
      have u13 : u 1 3 = 0 := by rw [hu, gUo _ _ _ (by decide), t2 1 (by decide) (by decide)]; exact k2
      rw [← hu]
      clear hu et
      have u3 : u 54 3 = flg c := by rw [u1 54 (by decide), t3 3 (by decide)]; exact k5
      have fin : ∀ y : Int, (y = 0 ∨ y = 1) → kor (flg c) y = flg (c ++ [-1 - (w : Int)]) → wp (f_RuleText_readValue_69 (u 54 3) y u) (kpo T L c (.inr ([-1 - (w : Int)], q + (wnm w).length, n + 1)) s1) := by
        intro y hy hk
        unfold f_RuleText_readValue_69
        have hB : gB (flg (c ++ [-1 - (w : Int)])) = some () := if_pos (flg_c _)
        rw [u3, hk, hB, Option.bind_some, gLet_eq, wp_some]
        refine kpo_r (kfr_t hf2 (kfr_t (fun z z1 z2 z3 => ?_) (kfr_54 u 3 _))) ⟨⟨hTu.1, hTu.2.1, ?_, ?_, ?_⟩, ?_, ?_, ⟨?_, ?_⟩, gUs _ _ _ _⟩
        · rw [u1 z z1, t2 z z2 z3]
        · rw [gU_n _ _ _ (by decide)]; exact hTu.2.2.1
        · rw [gU_n _ _ _ (by decide)]; exact hTu.2.2.2.1
        · rw [gU_n _ _ _ (by decide)]; exact hTu.2.2.2.2
        · rw [gU_n _ _ _ (by decide)]; exact u13
        · rw [gUo _ _ _ (by decide), u1 54 (by decide), t3 2 (by decide)]; exact k3
        · rw [gUo _ _ _ (by decide), u1 54 (by decide)]; exact t1.1
        · rw [gU_n _ _ _ (by decide), u1 55 (by decide)]; exact t1.2
      by_cases h6 : w = 6
      · rw [if_pos (show ((w : Nat) : Int) = 6 by omega)]
        refine fin 1 (Or.inr rfl) ?_
        have : flg (c ++ [-1 - (w : Int)]) = 1 := if_pos (List.mem_append_right _ (by rw [List.mem_singleton, h6]; rfl))
        rw [this]
        rcases flg_c c with q | q <;> rw [q] <;> decide
      · rw [if_neg (show ¬ ((w : Nat) : Int) = 6 by omega)]
        refine fin 0 (Or.inl rfl) ?_
        rw [flg_app c (by omega)]
        rcases flg_c c with q | q <;> rw [q] <;> decide
    · have hne : gU s1 1 3 ((flt q 0 : Nat) : Int) 1 3 ≠ 0 := by rw [gUs]; have := flt_0 q 0; omega
      have ef : f_Tape_fail 0 s1 = some (gU s1 1 3 ((flt q 0 : Nat) : Int)) := e_failX (k := 0) hX1 (by decide)
      rw [if_neg hw, if_neg hw, if_neg (by decide), ef, Option.bind_some]
      unfold f_RuleText_readValue_27
      rw [if_neg hne, e_37e hne, wp_some]
      exact kpo_l (kfr_t hfr (kfr_1 _ _ _)) (KXr_e hX1 (flt_0 _ _))
