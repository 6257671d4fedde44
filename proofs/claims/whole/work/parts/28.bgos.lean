/-! the class's gossip -/
def KE (E : (Nat → Int) → Bool) (e : Int) (s : kM) : Prop := (e = -1 ∧ ∀ x, E x = false) ∨ ∃ k : Nat, e = (k : Int) ∧ (k : Int) < s 900 0 ∧ KBs k E s
theorem KE_c {E : (Nat → Int) → Bool} {e : Int} {s t : kM} (h : KE E e s) (h1 : ∀ z, z ≠ 51 → z ≠ 52 → z ≠ 53 → t z = s z) : KE E e t := by
  rcases h with h | ⟨k, k1, k2, k3⟩
  · exact Or.inl h
  · refine Or.inr ⟨k, k1, by rw [h1 900 (by decide) (by decide) (by decide)]; exact k2, fun u q1 q2 q3 => k3 u ?_ ?_ q3⟩
    · rw [q1, h1 _ (by omega) (by omega) (by omega)]
    · rw [q2, h1 _ (by omega) (by omega) (by omega)]
theorem tl_has {b : Bool} {to X : Nat} (h : X.testBit to = true) : tl b to X = X := by
  unfold tl
  split
  · rfl
  · apply Nat.eq_of_testBit_eq
    intro i
    rw [Nat.testBit_or, Nat.testBit_two_pow]
    by_cases hi : to = i
    · subst hi
      rw [h, Bool.true_or]
    · rw [decide_eq_false hi, Bool.or_false]
theorem wp_tell {E : (Nat → Int) → Bool} {e : Int} {t : kM} (hE : KE E e t) {X to : Nat} (hX : X < 2 ^ 22) (hto : to < 22) (h : t 51 2 = (X : Int)) : wp (f_Gossip_tell e to t) (fun u => u 51 2 = ((tl (E (kup (t 52) 3 to)) to X : Nat) : Int) ∧ (∀ z, z ≠ 51 → z ≠ 52 → z ≠ 53 → u z = t z) ∧ ∀ i, i ≠ 3 → u 52 i = t 52 i) := by
  have hX2 : X < 2147483648 := by omega
  have hp : 2 ^ to < 2 ^ 22 := Nat.pow_lt_pow_right (by decide) hto
  unfold f_Gossip_tell
  rw [h, kbit hX2 (by omega)]
  by_cases hb : X.testBit to = true
  · rw [if_pos hb, if_pos rfl, wp_some, tl_has hb]
    exact ⟨h, fun _ _ _ _ => rfl, fun _ _ => rfl⟩
  · rw [if_neg hb, if_neg (show ¬ (0 : Int) = 1 by decide), gLet_eq]
    -- it is told
    have yes : ∀ g : kM, g 51 = t 51 → (∀ z, z ≠ 51 → z ≠ 52 → z ≠ 53 → g z = t z) → (∀ i, i ≠ 3 → g 52 i = t 52 i) → E (kup (t 52) 3 to) = false → wp (f_Gossip_tell_24 e to g) (fun u => u 51 2 = ((tl (E (kup (t 52) 3 to)) to X : Nat) : Int) ∧ (∀ z, z ≠ 51 → z ≠ 52 → z ≠ 53 → u z = t z) ∧ ∀ i, i ≠ 3 → u 52 i = t 52 i) := by
      intro g g1 g2 g3 hf
      unfold f_Gossip_tell_24
      rw [gLet_eq, wp_some, g1, h, kone (by omega), kor_n hX2 (by omega), hf]
      refine ⟨?_, fun z z1 z2 z3 => by rw [gU_n _ _ _ z1]; exact g2 z z1 z2 z3, fun i hi => by rw [gUn _ _ _ (by decide)]; exact g3 i hi⟩
      rw [gUs]
      unfold tl
      rw [if_neg (by decide)]
    rcases hE with ⟨he, hf⟩ | ⟨k, k1, k2, k3⟩
    · rw [if_pos (by omega)]
      exact yes _ (gU_n _ _ _ (by decide)) (fun z z1 z2 z3 => gU_n _ _ _ z2) (fun i hi => gUo _ _ _ hi) (hf _)
    · have hR : gR (gU t 52 3 (to : Int)) (k : Int) = some (125 + 2 * k) := by
        unfold gR
        rw [gUn _ _ _ (by decide), if_pos ⟨by omega, k2⟩, Int.toNat_natCast]
      obtain ⟨⟨r, u⟩, e1, u1, u2⟩ := k3 (gU t 52 3 (to : Int)) (gU_n _ _ _ (by omega)) (gU_n _ _ _ (by omega)) (by rw [gUn _ _ _ (by decide)]; exact k2)
      dsimp only at u1 u2
      rw [gU_s] at u1
      subst k1
      rw [if_neg (show ¬ (k : Int) < 0 by omega), hR, Option.bind_some, e1, Option.bind_some]
      dsimp only
      by_cases hb2 : E (kup (t 52) 3 to) = true
      · rw [if_pos hb2] at u1
        rw [u1, if_neg (by decide), wp_some]
        refine ⟨?_, fun z z1 z2 z3 => by rw [u2 z z3, gU_n _ _ _ z2], fun i hi => by rw [u2 52 (by decide), gUo _ _ _ hi]⟩
        rw [u2 51 (by decide), gUn _ _ _ (by decide), h]
        unfold tl
        rw [if_pos hb2]
      · rw [if_neg hb2] at u1
        rw [u1, if_pos rfl]
        exact yes u (by rw [u2 51 (by decide), gU_n _ _ _ (by decide)]) (fun z z1 z2 z3 => by rw [u2 z z3, gU_n _ _ _ z2]) (fun i hi => by rw [u2 52 (by decide), gUo _ _ _ hi]) (by simpa using hb2)
/-- the words, but for the piece that it is told to -/
def WD (A : zA) (m q pa th : Nat) (x : Nat → Int) : Prop := x 0 = ((ap A pa / 2 : Nat) : Int) ∧ x 1 = ((ah A (ap A pa / 2) : Nat) : Int) ∧ x 2 = (q : Int) ∧ x 4 = (th : Int) ∧ x 5 = ((ap A pa % 2 : Nat) : Int) ∧ x 6 = (m : Int) ∧ x 7 = ((aN A / 2 : Nat) : Int)
theorem WD_E {E : (Nat → Int) → Bool} (h8 : Eok E) {A : zA} {m q pa th : Nat} {x : Nat → Int} (h : WD A m q pa th x) (to : Nat) : E (kup x 3 to) = E (wrd A m q pa to th) := by
  obtain ⟨x0, x1, x2, x4, x5, x6, x7⟩ := h
  apply h8
  intro i hi
  have : i = 0 ∨ i = 1 ∨ i = 2 ∨ i = 3 ∨ i = 4 ∨ i = 5 ∨ i = 6 ∨ i = 7 := by omega
  unfold kup wrd
  rcases this with rfl | rfl | rfl | rfl | rfl | rfl | rfl | rfl
  · exact x0
  · exact x1
  · exact x2
  · rfl
  · exact x4
  · exact x5
  · exact x6
  · exact x7
theorem WD_c {A : zA} {m q pa th : Nat} {x y : Nat → Int} (h : WD A m q pa th x) (h1 : ∀ i, i ≠ 3 → y i = x i) : WD A m q pa th y := by
  unfold WD at h ⊢
  rw [h1 0 (by decide), h1 1 (by decide), h1 2 (by decide), h1 4 (by decide), h1 5 (by decide), h1 6 (by decide), h1 7 (by decide)]
  exact h
theorem xor1_22 : ∀ x : Fin 22, x.val ^^^ 1 = if x.val % 2 = 1 then 2 * (x.val / 2) else 2 * (x.val / 2) + 1 := by decide
theorem ot_po {A : zA} (hA : okA A) {j : Nat} (hj : j < aN A) : po (ap A) (ap A j ^^^ 1) (aN A) = ((otA A j : Nat) : Int) := by
  have hp : pb A (ap A j / 2) = true := pb_iff.mpr ⟨j, hj, rfl⟩
  obtain ⟨h1, h2, h3, h4⟩ := oA_lt hA hp
  have hx := xor1_22 ⟨ap A j, hA.1.2.2.2.1 j hj⟩
  dsimp only at hx
  rw [hx]
  unfold otA
  by_cases h : ap A j % 2 = 1
  · rw [if_pos h, if_pos h, h3]
  · rw [if_neg h, if_neg h, h1]
/-- what one meeting rests on: who tells, when, how many bridges -/
def GW (A : zA) (m q X : Nat) (t : kM) : Prop := t 51 2 = (X : Int) ∧ t 52 2 = (q : Int) ∧ t 52 6 = (m : Int) ∧ t 52 7 = ((aN A / 2 : Nat) : Int)
theorem wp_meet {E : (Nat → Int) → Bool} (h8 : Eok E) {e : Int} {A : zA} (hA : okA A) {t : kM} (hE : KE E e t) (hK : KT 4 A t) {m q pa al X : Nat} (hX : X < 2 ^ aN A) (hpa : pa < aN A) (hal : al < aN A) (hG : GW A m q X t) : wp (f_Gossip_meet 4 e pa al t) (fun u => GW A m q (te E A m q pa al X) u ∧ ∀ z, z ≠ 51 → z ≠ 52 → z ≠ 53 → u z = t z) := by
  have hn := okB_n hA.1
  obtain ⟨g1, g2, g3, g4⟩ := hG
  have hot := ot_lt hA hpa
  have hpv := pv_lt hA.1 hot
  have hpp := ot_po hA hpa
  have hpq := hA.1.2.2.2.1 pa hpa
  have h22 : ∀ Y : Nat, Y < 2 ^ aN A → Y < 2 ^ 22 := fun Y hY => Nat.lt_of_lt_of_le hY (Nat.pow_le_pow_right (by decide) hn.2)
  have e5 : t (4 + 1) pa = ((ap A pa : Nat) : Int) := hK.1.2.2.2.1 pa hpa
  have ex : kxor ((ap A pa : Nat) : Int) 1 = ((ap A pa ^^^ 1 : Nat) : Int) := kxor_n (b := 1) (by omega) (by decide)
  have hx22 : ap A pa ^^^ 1 < 22 := by
    have hx := xor1_22 ⟨ap A pa, hpq⟩
    dsimp only at hx
    rw [hx]
    split <;> omega
  have e9 : t (4 + 5) (ap A pa ^^^ 1) = ((otA A pa : Nat) : Int) := by rw [hK.2.2.1 _ hx22, hpp]
  have es : kshr ((ap A pa : Nat) : Int) 1 = ((ap A pa / 2 : Nat) : Int) := kshr_n (k := 1) (by omega) (by omega)
  have ea : kand ((ap A pa : Nat) : Int) 1 = ((ap A pa % 2 : Nat) : Int) := kand1_n (by omega)
  have e6 : t (4 + 2) (ap A pa / 2) = ((ah A (ap A pa / 2) : Nat) : Int) := hK.1.2.2.2.2 _ ⟨pa, hpa, rfl⟩
  unfold f_Gossip_meet
  rw [gI_n (show pa < 22 by omega), Option.bind_some, e5, ex, gI_n hx22, Option.bind_some, e_hasPlace hK, e9, if_pos ⟨by omega, by omega⟩, Option.bind_some, if_neg (by decide), es, gI_n (show ap A pa / 2 < 11 by omega), gLet_eq, Option.bind_some, gLet_eq, gLet_eq, gLet_eq, gU_n _ _ _ (show 4 + 2 ≠ 52 by decide), e6, ea]
  obtain ⟨G, hG⟩ : ∃ G, G = gU (gU (gU (gU t 52 0 ((ap A pa / 2 : Nat) : Int)) 52 1 ((ah A (ap A pa / 2) : Nat) : Int)) 52 5 ((ap A pa % 2 : Nat) : Int)) 52 4 0 := ⟨_, rfl⟩
  rw [← hG]
  have G1 : ∀ z, z ≠ 52 → G z = t z := fun z hz => by rw [hG, gU_n _ _ _ hz, gU_n _ _ _ hz, gU_n _ _ _ hz, gU_n _ _ _ hz]
  have G2 : WD A m q pa 0 (G 52) := by
    rw [hG, gU_s, gU_s, gU_s, gU_s]
    exact ⟨rfl, rfl, g2, rfl, rfl, g3, g4⟩
  clear hG
  have hEG : KE E e G := KE_c hE (fun z _ z2 _ => G1 z z2)
  obtain ⟨u1, f1, a1, a2, a3⟩ := wp_tell hEG (to := al) (h22 X hX) (by omega) (by rw [G1 51 (by decide)]; exact g1)
  rw [WD_E h8 G2] at a1
  have hX1 : tl (E (wrd A m q pa al 0)) al X < 2 ^ aN A := tl_lt hal hX
  obtain ⟨H, hH⟩ : ∃ H, H = gU u1 52 4 1 := ⟨_, rfl⟩
  have H1 : ∀ z, z ≠ 52 → H z = u1 z := fun z hz => by rw [hH, gU_n _ _ _ hz]
  have H2 : WD A m q pa 1 (H 52) := by
    obtain ⟨x0, x1, x2, x4, x5, x6, x7⟩ := WD_c G2 a3
    rw [hH, gU_s]
    exact ⟨x0, x1, x2, rfl, x5, x6, x7⟩
  rw [f1, Option.bind_some, gLet_eq, ← hH]
  clear hH
  have hEH : KE E e H := KE_c hEG (fun z z1 z2 z3 => by rw [H1 z z2, a2 z z1 z2 z3])
  obtain ⟨u2, f2, b1, b2, b3⟩ := wp_tell hEH (to := otA A pa) (h22 _ hX1) (by omega) (by rw [H1 51 (by decide)]; exact a1)
  rw [WD_E h8 H2] at b1
  have hX2 := tl_lt (b := E (wrd A m q pa (otA A pa) 1)) hot hX1
  have W2 : WD A m q pa 1 (u2 52) := WD_c H2 b3
  have fr2 : ∀ z, z ≠ 51 → z ≠ 52 → z ≠ 53 → u2 z = t z := fun z z1 z2 z3 => by rw [b2 z z1 z2 z3, H1 z z2, a2 z z1 z2 z3, G1 z z2]
  have e8 : u2 (4 + 4) (otA A pa) = ((pv (aF A) (aN A) (otA A pa) : Nat) : Int) := by rw [fr2 _ (by decide) (by decide) (by decide)]; exact hK.2.2.2.2 _ hot
  obtain ⟨u3, f3, c1, c2, c3⟩ := wp_tell (KE_c hE fr2) (to := pv (aF A) (aN A) (otA A pa)) (h22 _ hX2) (by omega) b1
  rw [WD_E h8 W2] at c1
  have W3 : WD A m q pa 1 (u3 52) := WD_c W2 c3
  rw [f2, Option.bind_some, gI_n (show otA A pa < 22 by omega), Option.bind_some, e8, f3, Option.bind_some, wp_some]
  exact ⟨⟨c1, W3.2.2.1, W3.2.2.2.2.2.1, W3.2.2.2.2.2.2⟩, fun z z1 z2 z3 => by rw [c2 z z1 z2 z3, fr2 z z1 z2 z3]⟩
/-- whether the rule in force asks for the minute -/
def tmd (e : Int) (s : kM) : Prop := 0 ≤ e ∧ s (125 + 2 * e.toNat) 1 ≠ 0
theorem wp_passOn {E : (Nat → Int) → Bool} (h8 : Eok E) {e : Int} {A : zA} (hA : okA A) {t : kM} (hE : KE E e t) (hK : KT 4 A t) {m X : Nat} (hX : X < 2 ^ aN A) (h51 : t 51 2 = (X : Int)) (h527 : t 52 7 = ((aN A / 2 : Nat) : Int)) : wp (f_Gossip_passOn 4 e m t) (fun r => (r.2 51 2 = ((md E A m X : Nat) : Int) ∧ r.2 52 7 = ((aN A / 2 : Nat) : Int) ∧ ∀ z, z ≠ 51 → z ≠ 52 → z ≠ 53 → r.2 z = t z) ∧ (r.1 = 0 ∨ r.1 = 1) ∧ (r.1 = 0 → md E A m X = 2 ^ aN A - 1 ∨ (md E A m X = X ∧ ¬ tmd e t))) := by
  have hn := okB_n hA.1
  have h22 : ∀ Y : Nat, Y < 2 ^ aN A → Y < 2147483648 := fun Y hY => Nat.lt_of_lt_of_le hY (Nat.le_trans (Nat.pow_le_pow_right (by decide) hn.2) (by decide))
  have hpw : 2 ^ aN A ≤ 2 ^ 22 := Nat.pow_le_pow_right (by decide) hn.2
  have hpw0 : 0 < 2 ^ aN A := Nat.two_pow_pos _
  unfold f_Gossip_passOn
  rw [gLet_eq, h51]
  unfold f_Gossip_passOn_11
  refine wp_for (aN A) (fun q x => x.1 = (q : Int) ∧ x.2 51 2 = ((mdq E A m X q : Nat) : Int) ∧ x.2 52 6 = (m : Int) ∧ x.2 52 7 = ((aN A / 2 : Nat) : Int) ∧ ∀ z, z ≠ 51 → z ≠ 52 → z ≠ 53 → x.2 z = t z) 0 _ (by omega) (by omega) (by exact ⟨rfl, by dsimp only; rw [gUn _ _ _ (by decide)]; exact h51, by dsimp only; rw [gUs], by dsimp only; rw [gUo _ _ _ (by decide)]; exact h527, fun z _ z2 _ => gU_n _ _ _ z2⟩) ?_ ?_
  · rintro q ⟨y, w⟩ _ hq ⟨rfl, q1, q2, q3, q4⟩
    dsimp only at q1 q2 q3 q4
    have hKw : KT 4 A w := KT_c hK (fun i hi => q4 _ (by omega) (by omega) (by omega))
    have hEw : KE E e w := KE_c hE q4
    have hml := mdq_lt (E := E) hA (m := m) hX q (by omega)
    have hnx := nx_lt hA.1 hq
    have hpv := pv_lt hA.1 hq
    have w2 : w 4 2 = ((aN A : Nat) : Int) := hKw.1.2.2.1
    dsimp only
    unfold f_Gossip_passOn_11b
    rw [w2, if_neg (show ¬ ((aN A : Nat) : Int) ≤ (q : Int) by omega), kbit (h22 X hX) (by omega)]
    by_cases hb : X.testBit q = true
    · obtain ⟨G, hG⟩ : ∃ G, G = gU w 52 2 (q : Int) := ⟨_, rfl⟩
      have G1 : ∀ z, z ≠ 52 → G z = w z := fun z hz => by rw [hG, gU_n _ _ _ hz]
      have GG : GW A m q (mdq E A m X q) G := by
        refine ⟨by rw [G1 51 (by decide)]; exact q1, by rw [hG, gUs], by rw [hG, gUo _ _ _ (by decide)]; exact q2, by rw [hG, gUo _ _ _ (by decide)]; exact q3⟩
      rw [if_pos hb, if_pos rfl, gLet_eq, ← hG]
      clear hG
      have hKG : KT 4 A G := KT_c hKw (fun i hi => G1 _ (by omega))
      have e7 : G (4 + 3) q = ((nx (aF A) (aN A) q : Nat) : Int) := hKG.2.2.2.1 q hq
      obtain ⟨u1, f1, a1, a2⟩ := wp_meet h8 hA (KE_c hEw (fun z _ z2 _ => G1 z z2)) hKG (pa := nx (aF A) (aN A) q) (al := nx (aF A) (aN A) q) hml hnx hnx GG
      have hml2 := te_lt (E := E) hA (m := m) (q := q) hnx hnx hml
      have fr1 : ∀ z, z ≠ 51 → z ≠ 52 → z ≠ 53 → u1 z = w z := fun z z1 z2 z3 => by rw [a2 z z1 z2 z3, G1 z z2]
      have hKu : KT 4 A u1 := KT_c hKw (fun i hi => fr1 _ (by omega) (by omega) (by omega))
      have e8 : u1 (4 + 4) q = ((pv (aF A) (aN A) q : Nat) : Int) := hKu.2.2.2.2 q hq
      obtain ⟨u2, f2, b1, b2⟩ := wp_meet h8 hA (KE_c hEw fr1) hKu (pa := q) (al := pv (aF A) (aN A) q) hml2 hq hpv a1
      rw [gI_n (show q < 22 by omega), Option.bind_some, Option.bind_some, e7, f1, Option.bind_some, Option.bind_some, e8, f2, Option.bind_some]
      unfold f_Gossip_passOn_49
      rw [wp_some, gE_l]
      dsimp only
      rw [wI_s (by omega), mdq_s, if_pos hb]
      exact ⟨rfl, b1.1, b1.2.2.1, b1.2.2.2, fun z z1 z2 z3 => by rw [b2 z z1 z2 z3, fr1 z z1 z2 z3, q4 z z1 z2 z3]⟩
    · rw [if_neg hb, if_neg (by decide)]
      unfold f_Gossip_passOn_49
      rw [wp_some, gE_l]
      dsimp only
      rw [wI_s (by omega), mdq_s, if_neg hb]
      exact ⟨rfl, q1, q2, q3, q4⟩
  · rintro ⟨y, w⟩ ⟨rfl, q1, q2, q3, q4⟩
    dsimp only at q1 q2 q3 q4
    have w2 : w 4 2 = ((aN A : Nat) : Int) := by rw [q4 4 (by decide) (by decide) (by decide)]; exact hK.1.2.2.1
    have hml := mdq_lt (E := E) hA (m := m) hX (aN A) (Nat.le_refl _)
    have hw : wI (((2 ^ aN A : Nat) : Int) - 1) = ((2 ^ aN A - 1 : Nat) : Int) := by rw [wI_id (by omega) (by omega)]; omega
    have fin : ∀ (d : Int), (d = 0 ∨ d = 1) → (d = 0 → ¬ tmd e t) → wp (f_Gossip_passOn_59 4 e X d w) (fun r => (r.2 51 2 = ((md E A m X : Nat) : Int) ∧ r.2 52 7 = ((aN A / 2 : Nat) : Int) ∧ ∀ z, z ≠ 51 → z ≠ 52 → z ≠ 53 → r.2 z = t z) ∧ (r.1 = 0 ∨ r.1 = 1) ∧ (r.1 = 0 → md E A m X = 2 ^ aN A - 1 ∨ (md E A m X = X ∧ ¬ tmd e t))) := by
      intro d hd hd2
      unfold f_Gossip_passOn_59
      rw [w2, kone (by omega), hw, q1]
      clear hw
      by_cases c1 : mdq E A m X (aN A) = 2 ^ aN A - 1
      · rw [if_pos (by omega), wp_some]
        exact ⟨⟨q1, q3, q4⟩, Or.inl rfl, fun _ => Or.inl c1⟩
      · rw [if_neg (by omega)]
        by_cases c2 : mdq E A m X (aN A) = X
        · rw [if_pos (by omega)]
          by_cases c3 : d = 0
          · rw [if_pos c3, wp_some]
            exact ⟨⟨q1, q3, q4⟩, Or.inl rfl, fun _ => Or.inr ⟨c2, hd2 c3⟩⟩
          · rw [if_neg c3, wp_some]
            exact ⟨⟨q1, q3, q4⟩, Or.inr rfl, fun z => by cases z⟩
        · rw [if_neg (by omega), wp_some]
          exact ⟨⟨q1, q3, q4⟩, Or.inr rfl, fun z => by cases z⟩
    clear hw
    dsimp only
    unfold f_Gossip_passOn_11b f_Gossip_passOn_58
    rw [w2, if_pos (Int.le_refl _)]
    rcases hE with ⟨he, hf⟩ | ⟨k, k1, k2, k3⟩
    · rw [if_pos (by omega), wp_map]
      exact fin 0 (Or.inl rfl) (fun _ z => by have := z.1; omega)
    · subst k1
      have hR : gR w (k : Int) = some (125 + 2 * k) := by
        unfold gR
        rw [q4 900 (by decide) (by decide) (by decide), if_pos ⟨by omega, k2⟩, Int.toNat_natCast]
      have hw1 : w (125 + 2 * k) = t (125 + 2 * k) := q4 _ (by omega) (by omega) (by omega)
      rw [if_neg (show ¬ (k : Int) < 0 by omega), hR, Option.bind_some, hw1]
      by_cases ct : t (125 + 2 * k) 1 = 0
      · rw [if_pos ct, wp_map]
        exact fin 0 (Or.inl rfl) (fun _ z => z.2 (by rw [Int.toNat_natCast]; exact ct))
      · rw [if_neg ct, wp_map]
        exact fin 1 (Or.inr rfl) (fun z => by cases z)
theorem wp_gbegin {A : zA} (hA : okA A) {s : kM} (hK : KT 4 A s) {q : Nat} (hq : q < aN A) : wp (f_Gossip_begin 4 q s) (fun t => t 51 2 = ((2 ^ q : Nat) : Int) ∧ t 52 7 = ((aN A / 2 : Nat) : Int) ∧ ∀ z, z ≠ 51 → z ≠ 52 → t z = s z) := by
  have hn := okB_n hA.1
  have hK1 : KT 4 A (gU s 51 2 ((2 ^ q : Nat) : Int)) := KT_c hK (fun i hi => gU_n _ _ _ (by omega))
  unfold f_Gossip_begin
  rw [kone (by omega), gLet_eq, e_bridges hA.1 hK1, Option.bind_some, gLet_eq, wp_some, (oc_half hA).1]
  exact ⟨by rw [gUn _ _ _ (by decide), gUs], gUs _ _ _ _, fun z z1 z2 => by rw [gU_n _ _ _ z2, gU_n _ _ _ z1]⟩
