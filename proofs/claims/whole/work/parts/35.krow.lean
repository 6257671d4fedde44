/-! ROW -/
theorem srq_S {A : zA} (hA : okA A) (h0 : 0 < aN A) : SI (G1 A) (srq A) := SI_ot (GM_1 A) (SI_0 (G1_A hA) h0) (snn A)
theorem shv_p {A : zA} (h : 0 < shv A) : 0 < aN A ∧ ∃ k m, (srq A).2 = some (some (k, m)) ∧ shv A = ((dpl (srq A).1 300 k + 1 : Nat) : Int) := by
  unfold shv at h ⊢
  by_cases h0 : aN A = 0
  · rw [if_pos h0] at h
    omega
  · rw [if_neg h0] at h ⊢
    refine ⟨by omega, ?_⟩
    unfold srr at h ⊢
    cases hc : (srq A).2 with
    | none =>
      rw [hc] at h
      exact absurd (show (0 : Int) < -2 from h) (by decide)
    | some oo =>
      cases oo with
      | none =>
        rw [hc] at h
        exact absurd (show (0 : Int) < -3 from h) (by decide)
      | some q =>
        obtain ⟨k, m⟩ := q
        exact ⟨k, m, rfl, rfl⟩
theorem O_row {RU : Nat → kM → Prop} (hU : hRU RU) (x1 x2 : Int) : OB RC0 RU (f_KT_row x1 x2) (f_M_row x1 x2) := by
  intro s hr
  obtain ⟨A, hA, hK, hM, r1, r2, r3, r4, hRC⟩ := id hr
  by_cases h0 : aR A = 0
  · refine ⟨-1, s, s, ?_, ?_, hr⟩
    · unfold f_KT_row
      rw [hK.1.1, if_pos (by omega)]
    · unfold f_M_row
      rw [e_M_isTown hM.1, if_neg (by omega)]
      rfl
  · have hin : ∀ t : kM, MR A t → f_M_isTown t = some 1 := fun t h => by rw [e_M_isTown h, if_pos (by omega)]
    have k0 : ¬ s 4 0 = 0 := by rw [hK.1.1]; omega
    by_cases hx1 : x1 < 0
    · refine ⟨-1, s, s, ?_, ?_, hr⟩
      · unfold f_KT_row
        rw [if_neg k0, if_pos hx1]
      · unfold f_M_row
        rw [hin s hM.1, Option.bind_some, if_neg (by decide), if_pos hx1]
    · by_cases hx2 : 0 ≤ x2 ∧ x2 ≤ 3
      · obtain ⟨⟨zv, t⟩, f1, t1, t2, t3, t4, t5⟩ := wp_fewest hA hK hRC
        dsimp only at t1 t2 t3 t4 t5
        have hMt : MT A t := MT_k hM (fun z h1 h2 => t5 z (by omega))
        obtain ⟨⟨zw, u⟩, f2, u1, u2, u3, u4, u5⟩ := wp_finds hA hMt
        have d2 : ∀ z, z ∉ W_M_finds → u z = t z := w_M_finds t _ f2
        dsimp only at u1 u2 u3 u4 u5
        have hRel : Rel RC0 RU u := Rel_fd hU hA hK r1 r2 r3 r4 (fun z z1 z2 => by rw [d2 z z2, t5 z z1]) u2 (fun j hj => by rw [u3 j hj, t5 86 (by decide)]) (fun j hj => by rw [u4 j (by omega) (by omega) (by omega), t5 85 (by decide)]) (RC0_k t2 (fun z z1 z2 => d2 z (by simp [W_M_finds]; omega)))
        obtain ⟨j, rfl⟩ : ∃ j : Nat, x1 = (j : Int) := ⟨x1.toNat, by omega⟩
        obtain ⟨q, rfl⟩ : ∃ q : Nat, x2 = (q : Int) := ⟨x2.toNat, by omega⟩
        have eK : f_KT_row j q s = if 0 ≤ shv A then (if (j : Int) < shv A then ((f_Search_moveOfRow j t).bind fun q9 => (f_Land_partOfMove q9 q t).bind fun q10 => some (q10, t)) else (some ((-2), t))) else (some (shv A, t)) := by
          unfold f_KT_row
          rw [if_neg k0, if_neg hx1, if_neg (by omega), if_pos (by omega), f1, Option.bind_some, t1]
        have eM : f_M_row j q t = if shv A < 0 then f_M_row_21 (shv A) u else (if (j : Int) < shv A then (f_M_row_34 j q (u 85 53) (wI (shv A - 1)) u) else (f_M_row_21 (shv A) u)) := by
          unfold f_M_row
          rw [hin t hMt.1, Option.bind_some, if_neg (by decide), if_neg hx1, e_M_in, if_pos hx2, Option.bind_some, if_neg (by decide), f2, Option.bind_some, u1]
        by_cases c1 : shv A < 0
        · refine ⟨shv A, t, u, ?_, ?_, hRel⟩
          · rw [eK, if_neg (by omega)]
          · rw [eM, if_pos c1]
            unfold f_M_row_21
            rw [if_neg (by omega)]
        · by_cases c2 : (j : Int) < shv A
          · obtain ⟨hn, k, m, hc, hD⟩ := shv_p (A := A) (by omega)
            have hS := srq_S hA hn
            obtain ⟨a1, a2⟩ := t4 hn
            obtain ⟨a3, a4⟩ := a2 k m hc
            obtain ⟨b1, b2⟩ := u5 hn
            obtain ⟨b3, b4, b5⟩ := b2 k m hc
            obtain ⟨hm, e', he', -⟩ := hS.2.2 k m hc
            have hk := (List.getElem?_eq_some_iff.mp he').1
            have hj : j < dpl (srq A).1 300 k + 1 := by omega
            have hle := dpl_le (srq A).1 300 k
            have eo := e_moveOf hS a1 hk a3 a4 (by rw [t3]; exact hD) hj
            obtain ⟨zx, e34, ep⟩ := e_row34 hS b1 hm hk b4 b5 hj (q := q) (by omega)
            have ep' : f_Land_partOfMove ((ky (rwq (srq A).1 k m (dpl (srq A).1 300 k - j)) : Nat) : Int) q t = some zx := ep
            have ew : wI (((dpl (srq A).1 300 k + 1 : Nat) : Int) - 1) = ((dpl (srq A).1 300 k : Nat) : Int) := by rw [wI_id (by omega) (by omega)]; omega
            refine ⟨zx, t, u, ?_, ?_, hRel⟩
            · rw [eK, if_pos (by clear ew; omega), if_pos c2, eo, Option.bind_some, ep', Option.bind_some]
            · rw [eM, if_neg c1, if_pos c2, b3, hD, ew, e34]
          · refine ⟨-2, t, u, ?_, ?_, hRel⟩
            · rw [eK, if_pos (by omega), if_neg c2]
            · rw [eM, if_neg c1, if_neg c2]
              unfold f_M_row_21
              rw [if_pos (by omega)]
      · refine ⟨-1, s, s, ?_, ?_, hr⟩
        · unfold f_KT_row
          rw [if_neg k0, if_neg hx1]
          by_cases c : x2 < 0
          · rw [if_pos c]
          · rw [if_neg c, if_neg (by omega)]
        · unfold f_M_row
          rw [hin s hM.1, Option.bind_some, if_neg (by decide), if_neg hx1, e_M_in, if_neg hx2, Option.bind_some, if_pos rfl]
