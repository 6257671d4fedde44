theorem swr_c {f g : Nat → Int} {n a b : Nat} (h : ∀ j, j < 13 * n → f j = g j) (ha : a < n) (hb : b < n) : ∀ j, j < 13 * n → swr a b f j = swr a b g j := by
  intro j hj
  unfold swr
  rw [h j hj, h (13 * b + j % 13) (by omega), h (13 * a + j % 13) (by omega)]
theorem red_c {f g : Nat → Int} {n k : Nat} (hn : n ≤ 13) (h : ∀ j, j < 13 * n → f j = g j) (hk : k < n) (last : Int) : ∀ j, j < 13 * n → red k n last f j = red k n last g j := by
  intro j hj
  unfold red
  rw [h j hj, h (13 * k + k) (by omega), h (13 * k + j % 13) (by omega), h (13 * (j / 13) + k) (by omega)]
def dtv (n : Nat) : Nat → (Nat → Int) → Nat → Int → Int
  | 0, _, _, last => if 0 ≤ last then last else wL (-last)
  | m + 1, f, k, last => if fpv f k k (n - k) = n then 0 else dtv n m (red k n last (swr (fpv f k k (n - k)) k f)) (k + 1) (red k n last (swr (fpv f k k (n - k)) k f) (13 * k + k))
theorem dtv_s (n m : Nat) (f : Nat → Int) (k : Nat) (last : Int) : dtv n (m + 1) f k last = if fpv f k k (n - k) = n then 0 else dtv n m (red k n last (swr (fpv f k k (n - k)) k f)) (k + 1) (red k n last (swr (fpv f k k (n - k)) k f) (13 * k + k)) := rfl
theorem dtv_c (n : Nat) (hn : n ≤ 13) : ∀ m f g k last, (∀ j, j < 13 * n → f j = g j) → k + m = n → dtv n m f k last = dtv n m g k last
  | 0, _, _, _, _, _, _ => rfl
  | m + 1, f, g, k, last, h, hk => by
    have ep : fpv f k k (n - k) = fpv g k k (n - k) := fpv_c k _ _ (fun i h1 h2 => by rw [h _ (by omega)])
    have hl := fpv_le g k (n - k) k
    rw [dtv_s, dtv_s, ep]
    by_cases hz : fpv g k k (n - k) = n
    · rw [if_pos hz, if_pos hz]
    · have hs := swr_c h (a := fpv g k k (n - k)) (b := k) (by omega) (by omega)
      have hr := red_c hn hs (k := k) (by omega) last
      rw [if_neg hz, if_neg hz, hr (13 * k + k) (by omega)]
      exact dtv_c n hn m _ _ (k + 1) _ hr (by omega)
theorem wp_minor {n : Nat} (h1 : 1 ≤ n) (hn : n ≤ 11) {last : Int} (hl : last ≠ 0) (s : kM) : wp (f_Bows_minor_25 4 n last 0 s) (fun r => r.1 = dtv n n (s 50) 0 last ∧ ∀ z, z ≠ 50 → r.2 z = s z) := by
  obtain ⟨D, hD⟩ : ∃ D, D = dtv n n (s 50) 0 last := ⟨_, rfl⟩
  rw [← hD]
  unfold f_Bows_minor_25
  have hw : wI ((n : Int) - 1) = ((n - 1 : Nat) : Int) := by rw [wI_id (by omega) (by omega)]; omega
  refine wp_for (n - 1) (fun k x => x.2.1 = (k : Int) ∧ x.1 ≠ 0 ∧ dtv n (n - k) (x.2.2 50) k x.1 = D ∧ ∀ z, z ≠ 50 → x.2.2 z = s z) 0 _ (by omega) (by omega) (by exact ⟨rfl, hl, hD.symm, fun _ _ => rfl⟩) ?_ ?_
  · rintro k ⟨la, y, t⟩ _ hk ⟨rfl, q1, q2, qf⟩
    dsimp only at q1 q2 qf
    have nle : ¬ ((n - 1 : Nat) : Int) ≤ (k : Int) := by omega
    have hkl : k < 2147483647 := by omega
    have hpl := fpv_le (t 50) k (n - k) k
    rw [show n - k = (n - (k + 1)) + 1 by omega, dtv_s] at q2
    dsimp only
    unfold f_Bows_minor_25b
    rw [hw, if_neg nle, e_pivot (by omega) hn (by omega), Option.bind_some]
    clear hw
    by_cases hz : fpv (t 50) k k (n - k) = n
    · rw [if_pos hz] at q2 ⊢
      rw [if_pos (show (-1 : Int) < 0 by decide), wp_some, gE_r]
      exact ⟨q2, qf⟩
    · rw [if_neg hz] at q2 ⊢
      have nl : ¬ ((fpv (t 50) k k (n - k) : Nat) : Int) < 0 := by omega
      rw [if_neg nl, if_neg q1]
      obtain ⟨u, e1, u1, u2⟩ := wp_swapRows (a := fpv (t 50) k k (n - k)) (b := k) (by omega) (by omega) t
      obtain ⟨u', e2, p1, p2⟩ := wp_reduceBelow (k := k) (n := n) (by omega) hn q1 u
      have f1 : u 50 = swr (fpv (t 50) k k (n - k)) k (t 50) := funext u2
      have f2 : u' 50 = red k n la (u 50) := funext p2
      rw [← f1, ← f2] at q2
      rw [e1, Option.bind_some, e2, Option.bind_some, gI_rc (by omega) (by omega), Option.bind_some, wp_some, gE_l]
      dsimp only
      rw [wI_s hkl]
      refine ⟨rfl, ?_, q2, fun z hz => by rw [p1 z hz, u1 z hz]; exact qf z hz⟩
      have hnz := fpv_nz (t 50) k (n - k) k (by omega)
      rw [p2]
      unfold red
      rw [if_neg (by omega), u2]
      unfold swr
      rw [show (13 * k + k) / 13 = k by omega, show (13 * k + k) % 13 = k by omega]
      split
      · rename_i hh
        rw [← hh] at hnz
        exact hnz
      · rw [if_pos rfl]
        exact hnz
  · rintro ⟨la, y, t⟩ ⟨rfl, q1, q2, qf⟩
    dsimp only at q1 q2 qf
    have e1 : wI (wI (((n - 1 : Nat) : Int) * 13) + (n : Int)) = ((13 * (n - 1) + n : Nat) : Int) := by
      rw [wI_id (x := ((n - 1 : Nat) : Int) * 13) (by omega) (by omega), wI_id (by omega) (by omega)]
      omega
    have e2 : wI (((13 * (n - 1) + n : Nat) : Int) - 1) = ((13 * (n - 1) + (n - 1) : Nat) : Int) := by
      rw [wI_id (by omega) (by omega)]
      omega
    have e3 : gI 143 ((13 * (n - 1) + (n - 1) : Nat) : Int) = some (13 * (n - 1) + (n - 1)) := gI_n (by omega)
    dsimp only
    unfold f_Bows_minor_25b
    rw [hw, if_pos (Int.le_refl _), e1, e2, e3, Option.bind_some]
    clear hw e1 e2 e3
    rw [show n - (n - 1) = 0 + 1 by omega, dtv_s, show n - (n - 1) = 0 + 1 by omega, fpv_s] at q2
    unfold f_Math_abs
    by_cases h0 : t 50 (13 * (n - 1) + (n - 1)) = 0
    · rw [if_pos h0, if_pos (show fpv (t 50) (n - 1) (n - 1 + 1) 0 = n from by show n - 1 + 1 = n; omega)] at q2
      rw [h0, if_pos (Int.le_refl _), Option.bind_some, wp_some, gE_r]
      exact ⟨q2, qf⟩
    · rw [if_neg h0, if_neg (show ¬ n - 1 = n by omega)] at q2
      have er : red (n - 1) n la (swr (n - 1) (n - 1) (t 50)) (13 * (n - 1) + (n - 1)) = t 50 (13 * (n - 1) + (n - 1)) := by
        unfold red
        rw [if_neg (by omega)]
        unfold swr
        rw [if_pos (by omega), show (13 * (n - 1) + (n - 1)) % 13 = n - 1 by omega]
      rw [er] at q2
      have q3 : (if 0 ≤ t 50 (13 * (n - 1) + (n - 1)) then t 50 (13 * (n - 1) + (n - 1)) else wL (-t 50 (13 * (n - 1) + (n - 1)))) = D := q2
      by_cases hp : 0 ≤ t 50 (13 * (n - 1) + (n - 1))
      · rw [if_pos hp] at q3 ⊢
        rw [Option.bind_some, wp_some, gE_r]
        exact ⟨q3, qf⟩
      · rw [if_neg hp] at q3 ⊢
        rw [Option.bind_some, wp_some, gE_r]
        exact ⟨q3, qf⟩
theorem wp_M_det {n : Nat} (hn : n ≤ 11) {last : Int} (hl : last ≠ 0) (s : kM) : wp (f_M_determinant_25 n last 0 s) (fun r => r.1 = dtv n n (s 117) 0 last ∧ ∀ z, z ≠ 117 → r.2 z = s z) := by
  obtain ⟨D, hD⟩ : ∃ D, D = dtv n n (s 117) 0 last := ⟨_, rfl⟩
  rw [← hD]
  unfold f_M_determinant_25
  refine wp_for n (fun k x => x.2.1 = (k : Int) ∧ x.1 ≠ 0 ∧ dtv n (n - k) (x.2.2 117) k x.1 = D ∧ ∀ z, z ≠ 117 → x.2.2 z = s z) 0 _ (by omega) (by omega) (by exact ⟨rfl, hl, hD.symm, fun _ _ => rfl⟩) ?_ ?_
  · rintro k ⟨la, y, t⟩ _ hk ⟨rfl, q1, q2, qf⟩
    dsimp only at q1 q2 qf
    have nle : ¬ (n : Int) ≤ (k : Int) := by omega
    have hkl : k < 2147483647 := by omega
    have hpl := fpv_le (t 117) k (n - k) k
    rw [show n - k = (n - (k + 1)) + 1 by omega, dtv_s] at q2
    obtain ⟨zv, hzv⟩ : ∃ zv, zv = fpv (t 117) k k (n - k) := ⟨_, rfl⟩
    have hnz := fpv_nz (t 117) k (n - k) k
    rw [← hzv] at q2 hpl hnz
    -- behind the walk
    have at46 : wp (f_M_determinant_46 n la k zv t) (gE (fun x => x.2.1 = ((k + 1 : Nat) : Int) ∧ x.1 ≠ 0 ∧ dtv n (n - (k + 1)) (x.2.2 117) (k + 1) x.1 = D ∧ ∀ z, z ≠ 117 → x.2.2 z = s z) (fun r => r.1 = D ∧ ∀ z, z ≠ 117 → r.2 z = s z)) := by
      unfold f_M_determinant_46
      by_cases hz : zv = n
      · rw [if_pos hz] at q2
        rw [if_pos (show (zv : Int) = n by omega), wp_some, gE_r]
        exact ⟨q2, qf⟩
      · rw [if_neg hz] at q2
        rw [if_neg (show ¬ (zv : Int) = n by omega)]
        obtain ⟨u, e1, u1, u2⟩ := wp_swapsRows (a := zv) (b := k) (by omega) (by omega) t
        rw [e1, Option.bind_some, wI_s hkl]
        refine (wp_M_reduce (k := k) (n := n) (by omega) hn q1 u).mono ?_
        have f1 : u 117 = swr zv k (t 117) := funext u2
        rintro (⟨x1, x2, x3⟩ | r) hr
        · obtain ⟨⟨p1, p2⟩, p3, p4⟩ := hr
          dsimp only at p1 p2 p3 p4
          have f2 : x3 117 = red k n la (u 117) := funext p4
          rw [← f1, ← f2] at q2
          refine ⟨p2, ?_, ?_, fun z hz => by dsimp only; rw [p3 z hz, u1 z hz]; exact qf z hz⟩
          · dsimp only
            rw [p1]
            have hz2 := hnz (by omega)
            unfold red
            rw [if_neg (by omega), u2]
            unfold swr
            rw [show (13 * k + k) / 13 = k by omega, show (13 * k + k) % 13 = k by omega]
            split
            · rename_i hh
              rw [← hh] at hz2
              exact hz2
            · rw [if_pos rfl]
              exact hz2
          · dsimp only
            rw [p1]
            rw [← f2]
            exact q2
        · exact hr.elim
    dsimp only
    unfold f_M_determinant_25b f_M_determinant_30
    rw [if_neg nle]
    refine wp_for n (fun i x => x = (i : Int) ∧ fpv (t 117) k i (n - i) = zv) k _ (by omega) (by omega) (by exact ⟨rfl, hzv.symm⟩) ?_ ?_
    · rintro i y h3 h4 ⟨rfl, q⟩
      have nle2 : ¬ (n : Int) ≤ (i : Int) := by omega
      have hil : i < 2147483647 := by omega
      unfold f_M_determinant_30b
      rw [if_neg nle2, gI_cr (by omega) (by omega), Option.bind_some]
      rw [show n - i = (n - (i + 1)) + 1 by omega, fpv_s] at q
      by_cases h0 : t 117 (13 * i + k) = 0
      · rw [if_pos h0] at q
        rw [if_pos h0, wp_some, gE_l, wI_s hil]
        exact ⟨rfl, q⟩
      · rw [if_neg h0] at q
        rw [if_neg h0, wp_map, q]
        exact at46
    · rintro y ⟨rfl, q⟩
      unfold f_M_determinant_30b
      rw [Nat.sub_self] at q
      have q' : n = zv := q
      rw [if_pos (Int.le_refl _), wp_map, q']
      rw [q'] at at46
      exact at46
  · rintro ⟨la, y, t⟩ ⟨rfl, q1, q2, qf⟩
    dsimp only at q1 q2 qf
    rw [Nat.sub_self] at q2
    have q3 : (if 0 ≤ la then la else wL (-la)) = D := q2
    dsimp only
    unfold f_M_determinant_25b
    rw [if_pos (Int.le_refl _)]
    by_cases hp : 0 ≤ la
    · rw [if_pos hp] at q3 ⊢
      rw [wp_some, gE_r]
      exact ⟨q3, qf⟩
    · rw [if_neg hp] at q3 ⊢
      rw [wp_some, gE_r]
      exact ⟨q3, qf⟩
section TOWN
variable {RC : zA → kM → Prop} {RU : Nat → kM → Prop}
theorem O_determinant (hC : hRC RC) (hU : hRU RU) : OB RC RU f_KT_determinant f_M_determinant := by
  intro s hs
  have hs' := hs
  obtain ⟨A, hA, hK, hM, -⟩ := hs'
  have hn := okB_n hA.1
  have h13 := nbw_13 hA.1
  have hr11 := rw_le A 11
  by_cases h0 : aR A = 0
  · refine ⟨-1, s, s, ?_, ?_, hs⟩
    · unfold f_KT_determinant
      rw [hK.1.1, if_pos (by omega)]
    · unfold f_M_determinant
      rw [e_M_isTown hM.1, if_neg (by omega)]
      rfl
  · obtain ⟨t, e1, t1, t2, t3, t4⟩ := wp_fill hA hK
    -- the class
    have hk : ∃ zv u, f_KT_determinant s = some (zv, u) ∧ (∀ z, z ≠ 48 → z ≠ 49 → z ≠ 50 → u z = s z) ∧ zv = if nbw A ≤ rw_ A 11 + 1 then (dtv (nbw A - 1) (nbw A - 1) (mxf A 11) 0 1) else 0 := by
      have hw1 : wI (((rw_ A 11 : Nat) : Int) + 2) = ((rw_ A 11 + 2 : Nat) : Int) := by rw [wI_id (by omega) (by omega)]; omega
      unfold f_KT_determinant
      rw [hK.1.1, if_neg (show ¬ ((aR A : Nat) : Int) = 0 by omega)]
      unfold f_Bows_minor
      rw [e1, Option.bind_some, t2, t3, hw1]
      clear hw1
      by_cases hb : nbw A ≤ rw_ A 11 + 1
      · rw [if_pos hb, if_pos (show ((nbw A : Nat) : Int) < ((rw_ A 11 + 2 : Nat) : Int) by omega)]
        by_cases hb1 : nbw A ≤ 1
        · have hw2 : ¬ 0 < wI (((nbw A : Nat) : Int) - 1) := by rw [wI_id (by omega) (by omega)]; omega
          rw [if_neg hw2]
          refine ⟨1, t, rfl, t1, ?_⟩
          rw [show nbw A - 1 = 0 by omega]
          rfl
        · have hw2 : wI (((nbw A : Nat) : Int) - 1) = ((nbw A - 1 : Nat) : Int) := by rw [wI_id (by omega) (by omega)]; omega
          rw [hw2, if_pos (show 0 < ((nbw A - 1 : Nat) : Int) by omega)]
          obtain ⟨⟨zv, u⟩, e2, k2, fr⟩ := wp_minor (n := nbw A - 1) (by omega) (by omega) (last := 1) (by decide) t
          dsimp only at k2 fr
          rw [e2, Option.bind_some]
          refine ⟨zv, u, rfl, fun z z1 z2 z3 => ?_, ?_⟩
          · rw [fr z z3, t1 z z1 z2 z3]
          · rw [k2]
            exact dtv_c _ (by omega) _ _ _ _ _ (fun j hj => t4 j (by omega)) (by omega)
      · rw [if_neg hb, if_neg (show ¬ ((nbw A : Nat) : Int) < ((rw_ A 11 + 2 : Nat) : Int) by omega)]
        exact ⟨0, t, rfl, t1, rfl⟩
    obtain ⟨zv, u, k1, k2, k3⟩ := hk
    have hMu : MT A u := MT_k hM (fun a h1 h2 => k2 a (by omega) (by omega) (by omega))
    obtain ⟨⟨m1, m⟩, e2, m2, m3, m4, m5, m6⟩ := wp_fillsMatrix hA hMu
    dsimp only at m2 m3 m4 m5 m6
    subst m2
    have hm : ∃ u2, f_M_determinant u = some (zv, u2) ∧ ∀ z, z ≠ 117 → u2 z = m z := by
      have hw1 : wI (((rw_ A 11 : Nat) : Int) + 1) = ((rw_ A 11 + 1 : Nat) : Int) := wI_s (by omega)
      have em : f_M_determinant u = if ((nbw A : Nat) : Int) ≤ ((rw_ A 11 + 1 : Nat) : Int) then f_M_determinant_25 (wI (((nbw A : Nat) : Int) - 1)) 1 0 m else some (0, m) := by
        unfold f_M_determinant
        rw [e_M_isTown hMu.1, if_pos (by omega), Option.bind_some, if_neg (by decide), e2, Option.bind_some, ← hw1, ← m5]
      rw [em]
      clear hw1 em
      by_cases hb : nbw A ≤ rw_ A 11 + 1
      · rw [if_pos hb] at k3
        rw [if_pos (show ((nbw A : Nat) : Int) ≤ ((rw_ A 11 + 1 : Nat) : Int) by omega)]
        by_cases hb1 : nbw A = 0
        · have hw2 : wI (((nbw A : Nat) : Int) - 1) = -1 := by rw [hb1]; decide
          rw [hw2]
          refine ⟨m, ?_, fun _ _ => rfl⟩
          have : zv = 1 := by rw [k3, hb1]; rfl
          rw [this]
          unfold f_M_determinant_25
          apply wp_eq
          refine wp_for 0 (fun _ x => x = (1, 0, m)) 0 _ (by omega) (by omega) rfl (fun k x _ h => by omega) ?_
          rintro x rfl
          dsimp only
          unfold f_M_determinant_25b
          rw [if_pos (by decide), if_pos (by decide), wp_some, gE_r]
        · have hw2 : wI (((nbw A : Nat) : Int) - 1) = ((nbw A - 1 : Nat) : Int) := by rw [wI_id (by omega) (by omega)]; omega
          rw [hw2]
          obtain ⟨⟨zw, u2⟩, e3, p2, fr⟩ := wp_M_det (n := nbw A - 1) (by omega) (last := 1) (by decide) m
          dsimp only at p2 fr
          refine ⟨u2, ?_, fr⟩
          rw [e3, p2, k3]
          congr 2
          exact dtv_c _ (by omega) _ _ _ _ _ (fun j hj => m6 j (by omega)) (by omega)
      · rw [if_neg hb] at k3
        rw [if_neg (show ¬ ((nbw A : Nat) : Int) ≤ ((rw_ A 11 + 1 : Nat) : Int) by omega), k3]
        exact ⟨m, rfl, fun _ _ => rfl⟩
    obtain ⟨u2, e3, fr⟩ := hm
    refine ⟨zv, u, u2, k1, e3, Rel_fr hC hU hs (fun a h1 h2 => ?_) (fun i h1 h2 => ?_)⟩
    · have n114 : a ≠ 114 := fun z => by subst z; cases h2
      have n115 : a ≠ 115 := fun z => by subst z; cases h2
      have n117 : a ≠ 117 := fun z => by subst z; cases h2
      have n48 : a ≠ 48 := fun z => by subst z; cases h2
      have n49 : a ≠ 49 := fun z => by subst z; cases h2
      have n50 : a ≠ 50 := fun z => by subst z; cases h2
      rw [fr a n117, m3 a h1 n114 n115 n117, k2 a n48 n49 n50]
    · rw [fr 85 (by decide), m4 i h1, k2 85 (by decide) (by decide) (by decide)]
end TOWN
