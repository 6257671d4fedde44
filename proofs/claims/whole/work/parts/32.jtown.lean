theorem wp_M_town {T g : Nat → Int} (hT : TB T) {L : Nat} (hL : L ≤ 400) {B : zA} (hB : okA B) {s : kM} (hs : MT B s) (h21 : s 85 21 = (L : Int)) (h105 : s 105 = T) (hg : ∀ i, g i = s 85 i) : wp (f_M_town s) (fun r => tQ T L g B s r) := by
  unfold f_M_town f_M_starts
  rw [gLet_eq, gLet_eq, gLet_eq, gLet_eq, gLet_eq, Option.bind_some, gLet_eq, gLet_eq]
  obtain ⟨G, hG⟩ : ∃ G, G = gU (gU (gU (gU (gU (gU (gU s 85 22 0) 85 23 0) 85 26 0) 85 27 0) 85 28 0) 85 31 0) 85 32 0 := ⟨_, rfl⟩
  rw [← hG]
  have G1 : ∀ z, z ≠ 85 → G z = s z := fun z hz => by rw [hG, gU_n _ _ _ hz, gU_n _ _ _ hz, gU_n _ _ _ hz, gU_n _ _ _ hz, gU_n _ _ _ hz, gU_n _ _ _ hz, gU_n _ _ _ hz]
  have G2 : G 85 22 = 0 ∧ G 85 23 = 0 ∧ G 85 31 = 0 ∧ G 85 32 = 0 ∧ G 85 21 = s 85 21 ∧ G 85 25 = s 85 25 ∧ G 85 30 = s 85 30 := by
    rw [hG]
    simp [gU_s, kup]
  clear hG
  unfold f_M_town_10
  refine wp_for 3 (fun k x => x.1 = (k : Int) ∧ (∀ z, z ≠ 90 → x.2 z = G z) ∧ ∀ j, j < k → x.2 90 j = 0) 0 _ (by omega) (by omega) (by exact ⟨rfl, fun _ _ => rfl, fun j hj => by omega⟩) ?_ ?_
  · rintro k ⟨y, w⟩ _ hk ⟨rfl, q1, q2⟩
    dsimp only at q1 q2
    dsimp only
    unfold f_M_town_10b
    rw [if_neg (show ¬ (3 : Int) ≤ (k : Int) by omega), gI_n hk, Option.bind_some, gLet_eq, wp_some, gE_l]
    dsimp only
    rw [wI_s (by omega)]
    refine ⟨rfl, fun z hz => by rw [gU_n _ _ _ hz]; exact q1 z hz, fun j hj => ?_⟩
    by_cases hjk : j = k
    · rw [hjk, gUs]
    · rw [gUo _ _ _ hjk]
      exact q2 j (by omega)
  · rintro ⟨y, w⟩ ⟨rfl, q1, q2⟩
    dsimp only at q1 q2
    dsimp only
    unfold f_M_town_10b
    rw [if_pos (show (3 : Int) ≤ ((3 : Nat) : Int) by decide), wp_map]
    have w85 : w 85 = G 85 := q1 85 (by decide)
    have hm : m21 L g w := ⟨by rw [w85, G2.2.2.2.2.1]; exact h21, by rw [w85, G2.2.2.2.2.2.1, hg], by rw [w85, G2.2.2.2.2.2.2, hg]⟩
    have h105' : w 105 = T := by rw [q1 105 (by decide), G1 105 (by decide)]; exact h105
    have hTp : MTp T L 0 w := ⟨⟨hL, by omega⟩, hm.1, by rw [w85]; exact G2.1, h105'⟩
    have hX : MX T L g (0, 0, A00) w := by
      refine ⟨by rw [w85]; exact G2.2.1, hm, ⟨h105', 0, hTp⟩, fun _ => ⟨hTp, by rw [q2 0 (by decide)]; rfl, by rw [q2 1 (by decide)]; rfl, by rw [q2 2 (by decide)]; rfl, fun j hj => absurd hj (Nat.not_lt_zero j), fun k hk => (by cases hk), by rw [w85]; exact G2.2.2.1, by rw [w85]; exact G2.2.2.2.1⟩⟩
    refine (wp_M_text hT PI_00 rfl hX (Q := fun r => tQ T L g B s r) ?_).mono (fun a ha => ha)
    intro t ht ft
    have e : ∀ z, z ≠ 85 → ¬ (90 ≤ z ∧ z ≤ 93) → t z = s z := fun z z1 z2 => by rw [ft z z1 z2, q1 z (by omega), G1 z z1]
    exact wp_M_take hL hB hs (e 86 (by decide) (by decide)) (e 87 (by decide) (by decide)) (e 88 (by decide) (by decide)) (e 89 (by decide) (by decide)) (e 98 (by decide) (by decide)) (e 99 (by decide) (by decide)) ht
section TOWN
variable {RC : zA → kM → Prop} {RU : Nat → kM → Prop}
theorem Rel_T (hU : hRU RU) {s t : kM} (h : Rel RC RU s) {A' : zA} (hA : okA A') (hK : KT 4 A' t) (hM : MT A' t) (e : ∀ a, a = 0 ∨ a = 2 ∨ (56 ≤ a ∧ a < 85) ∨ (105 ≤ a ∧ a ≤ 110) ∨ 123 ≤ a → t a = s a) (ht : t 1 1 = 0 ∧ t 85 21 = 0) (hm : t 3 1 = t 86 3) (h3 : t 3 2 = s 3 2 ∧ t 3 3 = s 3 3) (h86 : t 86 4 = s 86 4 ∧ t 86 5 = s 86 5) (h85 : t 85 25 = s 85 25 ∧ t 85 30 = s 85 30) (hRC : RC A' t) : Rel RC RU t := by
  obtain ⟨A, q1, q2, q3, q4, q5, q6, q7, q8⟩ := h
  refine ⟨A', hA, hK, hM, ?_, ?_, RRule_c hU q6 (by rw [e 0 (by decide)]) h85 (by rw [e 900 (by decide)]) (e _ (by decide)) (fun a _ _ => e a (by omega)) (fun a _ _ => e a (by omega)), RImg_c q7 (fun a _ _ => e a (by omega)) (e _ (by decide)) (e _ (by decide)) (by rw [e 0 (by decide)]; omega), hRC⟩
  · obtain ⟨r1, r2, r3, r4, r5⟩ := q4
    refine ⟨by rw [ht.1, ht.2], by rw [ht.1]; decide, by rw [ht.1]; decide, by rw [e 2 (by decide), e 105 (by decide)]; exact r4, by rw [e 2 (by decide)]; exact r5⟩
  · obtain ⟨r1, r2, r3, r4, r5, r6, r7⟩ := q5
    unfold RScal
    rw [h3.1, h3.2, h86.1, h86.2, e 0 (by decide)]
    exact ⟨hm, r2, r3, r4, r5, r6, r7⟩
theorem O_town (hC : hRC RC) (hU : hRU RU) : OB RC RU f_KT_town f_M_town := by
  intro s hs
  have hs' := hs
  obtain ⟨B, hB, hK, hM, qT, qS, -, -, qC⟩ := hs'
  obtain ⟨r1, r2, r3, r4, r5⟩ := qT
  obtain ⟨L, hL⟩ : ∃ L : Nat, s 1 1 = (L : Int) := ⟨(s 1 1).toNat, by omega⟩
  have hL4 : L ≤ 400 := by omega
  have hTB : TB (s 2) := r5
  obtain ⟨t, e1, t1, t2⟩ := wp_K_read hTB (T := s 2) (L := L) (s := s) (Or.inr ⟨hL4, hL, rfl⟩)
  have ft : ∀ z, z ∉ W_TownText_read 11 17 → t z = s z := w_TownText_read 11 17 s t e1
  obtain ⟨G, hG⟩ : ∃ G, G = gU t 1 1 0 := ⟨_, rfl⟩
  have G1 : ∀ z, z ≠ 1 → G z = t z := fun z hz => by rw [hG, gU_n _ _ _ hz]
  have G11 : G 1 1 = 0 := by rw [hG, gUs]
  have G13 : G 1 3 = ((tF (s 2) L : Nat) : Int) := by rw [hG, gUo _ _ _ (by decide)]; exact t1
  have fG : ∀ z, z = 0 ∨ z = 2 ∨ (3 ≤ z ∧ z ≤ 9) ∨ 21 ≤ z → G z = s z := fun z hz => by rw [G1 z (by omega), ft z (by simp [W_TownText_read]; omega)]
  have hkt : f_KT_town s = if (G 1 3) = 0 then ((f_Town_copyFrom 4 11 G).bind fun q7 => gLet (gU q7 3 1 0) fun s9 => (f_KT_forget s9).bind fun q12 => (f_Town_bridges 4 q12).bind fun q14 => some (q14, q12)) else (some ((wI ((-2) - (G 1 3))), G)) := by
    unfold f_KT_town
    rw [e1, Option.bind_some, gLet_eq, ← hG]
  clear hG
  by_cases hf : tF (s 2) L = 0
  · obtain ⟨hK11, hoA⟩ := t2 hf
    have hK11G : KT 11 (pTn (s 2) L 3 0 A00).2.2 G := KT_c hK11 (fun i hi => G1 _ (by omega))
    obtain ⟨c, f1, c1⟩ := wp_copyFrom (b := 4) (c := 11) rfl rfl (by decide) hoA.1 hK11G.1
    have fc : ∀ z, z ∉ W_Town_copyFrom 4 11 → c z = G z := w_Town_copyFrom 4 11 G c f1
    obtain ⟨H, hH⟩ : ∃ H, H = gU (gU (gU (gU c 3 1 0) 21 16 0) 21 18 0) 44 0 0 := ⟨_, rfl⟩
    have H1 : ∀ z, z ≠ 3 → z ≠ 21 → z ≠ 44 → H z = c z := fun z z1 z2 z3 => by rw [hH, gU_n _ _ _ z3, gU_n _ _ _ z2, gU_n _ _ _ z2, gU_n _ _ _ z1]
    have c3 : c 3 = s 3 := by rw [fc 3 (by decide), fG 3 (by omega)]
    have H3 : H 3 1 = 0 ∧ H 3 2 = s 3 2 ∧ H 3 3 = s 3 3 := by
      rw [hH, gU_n _ _ _ (by decide), gU_n _ _ _ (by decide), gU_n _ _ _ (by decide)]
      refine ⟨gUs _ _ _ _, by rw [gUo _ _ _ (by decide), c3], by rw [gUo _ _ _ (by decide), c3]⟩
    have Hc : H 44 0 = 0 ∧ H 21 16 = 0 ∧ H 21 18 = 0 := by
      rw [hH]
      refine ⟨gUs _ _ _ _, by rw [gU_n _ _ _ (by decide), gUo _ _ _ (by decide), gUs], by rw [gU_n _ _ _ (by decide), gUs]⟩
    have hKH : KT 4 (pTn (s 2) L 3 0 A00).2.2 H := KT_c c1 (fun i hi => H1 _ (by omega) (by omega) (by omega))
    have hk : f_KT_town s = some (((aN (pTn (s 2) L 3 0 A00).2.2 / 2 : Nat) : Int), H) := by
      rw [hkt, if_pos (by rw [G13, hf]; rfl), f1, Option.bind_some, gLet_eq]
      unfold f_KT_forget f_Search_forget
      rw [gLet_eq, gLet_eq, Option.bind_some, gLet_eq, Option.bind_some, ← hH, e_bridges hoA.1 hKH, (oc_half hoA).1, Option.bind_some]
    clear hH
    have fH : ∀ z, z = 0 ∨ z = 2 ∨ 56 ≤ z → H z = s z := fun z hz => by rw [H1 z (by omega) (by omega) (by omega), fc z (by simp [W_Town_copyFrom]; omega), fG z (by omega)]
    have H11 : H 1 1 = 0 := by rw [H1 1 (by decide) (by decide) (by decide), fc 1 (by decide)]; exact G11
    have hMH : MT B H := MT_k hM (fun a h1 h2 => fH a (by omega))
    obtain ⟨⟨zv, w⟩, e2, a1, a2, a3, a4, a5, a6⟩ := wp_M_town (g := H 85) hTB hL4 hB hMH (by rw [fH 85 (by decide), ← r1]; exact hL) (by rw [fH 105 (by decide), ← r4]) (fun _ => rfl)
    have fw : ∀ z, z ∉ W_M_town → w z = H z := w_M_town H _ e2
    dsimp only at a1 a2 a3 a4 a5 a6
    rcases a6 with ⟨h, -⟩ | ⟨-, a7, a8, a9⟩
    · exact absurd hf h
    · refine ⟨_, H, w, hk, by rw [e2, a7], Rel_T hU hs hoA (KT_c hKH (fun i hi => fw _ (by simp [W_M_town]; omega))) a8 (fun a ha => ?_) ⟨by rw [fw 1 (by decide)]; exact H11, a1⟩ (by rw [fw 3 (by decide), H3.1, a9]) (by rw [fw 3 (by decide)]; exact H3.2) (by rw [a4, a5, fH 86 (by decide)]; exact ⟨rfl, rfl⟩) (by rw [a2, a3, fH 85 (by decide)]; exact ⟨rfl, rfl⟩) (hC.2 _ _ (by rw [fw 44 (by decide)]; exact Hc.1) (by rw [fw 21 (by decide)]; exact Hc.2.1) (by rw [fw 21 (by decide)]; exact Hc.2.2))⟩
      rw [fw a (by simp [W_M_town]; omega), fH a (by omega)]
  · have hk : f_KT_town s = some (wI (-2 - ((tF (s 2) L : Nat) : Int)), G) := by rw [hkt, if_neg (by rw [G13]; omega), G13]
    have hMG : MT B G := MT_k hM (fun a h1 h2 => fG a (by omega))
    obtain ⟨⟨zv, w⟩, e2, a1, a2, a3, a4, a5, a6⟩ := wp_M_town (g := G 85) hTB hL4 hB hMG (by rw [fG 85 (by decide), ← r1]; exact hL) (by rw [fG 105 (by decide), ← r4]) (fun _ => rfl)
    have fw : ∀ z, z ∉ W_M_town → w z = G z := w_M_town G _ e2
    dsimp only at a1 a2 a3 a4 a5 a6
    rcases a6 with ⟨-, a7, a8, a9⟩ | ⟨h, -⟩
    · have w3 : w 3 = s 3 := by rw [fw 3 (by decide), fG 3 (by decide)]
      refine ⟨_, G, w, hk, by rw [e2, a7], Rel_T hU hs hB (KT_c hK (fun i hi => by rw [fw _ (by simp [W_M_town]; omega), fG _ (by omega)])) a8 (fun a ha => ?_) ⟨by rw [fw 1 (by decide)]; exact G11, a1⟩ (by rw [w3, a9, fG 86 (by decide)]; exact qS.1) (by rw [w3]; exact ⟨rfl, rfl⟩) (by rw [a4, a5, fG 86 (by decide)]; exact ⟨rfl, rfl⟩) (by rw [a2, a3, fG 85 (by decide)]; exact ⟨rfl, rfl⟩) (hC.1 B s w qC (fun a h1 h2 => by rw [fw a (by simp [W_M_town]; omega), fG a (by omega)]))⟩
      rw [fw a (by simp [W_M_town]; omega), fG a (by omega)]
    · exact absurd h hf
end TOWN
