/-! the reference's gossip -/
def ME (E : (Nat → Int) → Bool) (s : kM) : Prop := (s 86 5 = -1 ∧ ∀ x, E x = false) ∨ ∃ k : Nat, s 86 5 = (k : Int) ∧ k < 6 ∧ MBs k E s
theorem ME_c {E : (Nat → Int) → Bool} {s t : kM} (h : ME E s) (h1 : ∀ z, z ≠ 112 → z ≠ 113 → t z = s z) : ME E t := by
  unfold ME
  rw [h1 86 (by decide) (by decide)]
  rcases h with h | ⟨k, k1, k2, k3⟩
  · exact Or.inl h
  · exact Or.inr ⟨k, k1, k2, fun u q => k3 u (MSl_r (MSl_e (fun a x y => h1 a (by omega) (by omega))) q)⟩
theorem wp_passesTo {E : (Nat → Int) → Bool} (h8 : Eok E) {A : zA} (hA : okA A) {g : kM} (hE : ME E g) (hM : MT A g) {m q pa to th : Nat} (hpa : pa < aN A) (hto : to < aN A) : wp (f_M_passesTo q to pa th m g) (fun r => r.1 = ((if E (wrd A m q pa to th) = true then 0 else 2 ^ to : Nat) : Int) ∧ ∀ z, z ≠ 112 → z ≠ 113 → r.2 z = g z) := by
  have hn := okB_n hA.1
  have hb : wp (f_M_isBarred q to pa th m g) (fun r => r.1 = (if E (wrd A m q pa to th) = true then 1 else 0) ∧ ∀ z, z ≠ 112 → z ≠ 113 → r.2 z = g z) := by
    unfold f_M_isBarred
    rcases hE with ⟨he, hf⟩ | ⟨k, k1, k2, k3⟩
    · rw [if_pos he, wp_some, hf]
      exact ⟨rfl, fun _ _ _ => rfl⟩
    · obtain ⟨m87, m88⟩ := hM.1.2.2.2.1 pa hpa
      have hpq := hA.1.2.2.2.1 pa hpa
      have m89 := hM.1.2.2.2.2 (ap A pa / 2) ⟨pa, hpa, rfl⟩
      have hw : wI (12 * (k : Int)) = ((12 * k : Nat) : Int) := by rw [wI_id (by omega) (by omega)]; omega
      have i22 : gI 22 (pa : Int) = some pa := gI_n (by omega)
      have i11 : gI 11 ((ap A pa / 2 : Nat) : Int) = some (ap A pa / 2) := gI_n (by omega)
      rw [k1, if_neg (show ¬ (k : Int) = -1 by omega), i22, Option.bind_some, m87, gLet_eq, Option.bind_some, gUn _ _ _ (by decide), m87, i11, Option.bind_some, gLet_eq, gLet_eq, gLet_eq, gLet_eq, Option.bind_some, gLet_eq, gLet_eq, gUn _ _ _ (by decide), gUn _ _ _ (by decide), gUn _ _ _ (by decide), gUn _ _ _ (by decide), gUn _ _ _ (by decide), gUn _ _ _ (by decide), m88, m89, hw]
      clear hw
      obtain ⟨G, hG⟩ : ∃ G, G = gU (gU (gU (gU (gU (gU (gU g 112 0 ((ap A pa / 2 : Nat) : Int)) 112 1 ((ah A (ap A pa / 2) : Nat) : Int)) 112 2 (q : Int)) 112 3 (to : Int)) 112 4 (th : Int)) 112 5 ((ap A pa % 2 : Nat) : Int)) 112 6 (m : Int) := ⟨_, rfl⟩
      rw [← hG]
      have G1 : ∀ z, z ≠ 112 → G z = g z := fun z hz => by rw [hG, gU_n _ _ _ hz, gU_n _ _ _ hz, gU_n _ _ _ hz, gU_n _ _ _ hz, gU_n _ _ _ hz, gU_n _ _ _ hz, gU_n _ _ _ hz]
      have G2 : kup (G 112) 7 ((aN A / 2 : Nat) : Int) = kup (G 112) 7 ((aN A / 2 : Nat) : Int) ∧ ∀ i, i < 8 → kup (G 112) 7 ((aN A / 2 : Nat) : Int) i = wrd A m q pa to th i := by
        refine ⟨rfl, fun i hi => ?_⟩
        rw [hG, gU_s, gU_s, gU_s, gU_s, gU_s, gU_s, gU_s]
        have : i = 0 ∨ i = 1 ∨ i = 2 ∨ i = 3 ∨ i = 4 ∨ i = 5 ∨ i = 6 ∨ i = 7 := by omega
        rcases this with rfl | rfl | rfl | rfl | rfl | rfl | rfl | rfl <;> rfl
      clear hG
      have hMG : MT A G := MT_k hM (fun a h1 h2 => G1 a (by omega))
      rw [e_M_many hA.1 hMG.1, Option.bind_some, gLet_eq]
      refine (k3 (gU G 112 7 ((aN A / 2 : Nat) : Int)) (MSl_e (fun a h1 h2 => by rw [gU_n _ _ _ (by omega), G1 a (by omega)]))).mono ?_
      rintro ⟨r, u⟩ ⟨u1, u2⟩
      dsimp only at u1 u2 ⊢
      rw [gU_s, h8 _ _ G2.2] at u1
      exact ⟨u1, fun z z1 z2 => by rw [u2 z z2, gU_n _ _ _ z1, G1 z z1]⟩
  obtain ⟨⟨r, u⟩, e1, u1, u2⟩ := hb
  dsimp only at u1 u2
  unfold f_M_passesTo
  rw [e1, Option.bind_some]
  dsimp only
  rw [u1]
  by_cases hb2 : E (wrd A m q pa to th) = true
  · rw [if_pos hb2, if_neg (by decide), if_pos hb2, wp_some]
    exact ⟨rfl, u2⟩
  · rw [if_neg hb2, if_pos rfl, if_neg hb2, wp_some, kone (by omega)]
    exact ⟨rfl, u2⟩
theorem tl_or {b : Bool} {to X : Nat} : tl b to X = X ||| (if b = true then 0 else 2 ^ to) := by
  unfold tl
  split
  · rw [Nat.or_zero]
  · rfl
theorem wp_M_tells {E : (Nat → Int) → Bool} (h8 : Eok E) {A : zA} (hA : okA A) {g : kM} (hE : ME E g) (hM : MT A g) {m q pa al : Nat} (hpa : pa < aN A) (hal : al < aN A) : wp (f_M_tells q pa al m g) (fun r => (∃ Y : Nat, r.1 = (Y : Int) ∧ Y < 2 ^ 22 ∧ ∀ X, X ||| Y = te E A m q pa al X) ∧ ∀ z, z ≠ 112 → z ≠ 113 → r.2 z = g z) := by
  have hn := okB_n hA.1
  have hot := ot_lt hA hpa
  have hpv := pv_lt hA.1 hot
  obtain ⟨m87, m88⟩ := hM.1.2.2.2.1 pa hpa
  have hpq := hA.1.2.2.2.1 pa hpa
  have i22 : gI 22 (pa : Int) = some pa := gI_n (by omega)
  have i11 : gI 11 ((ap A pa / 2 : Nat) : Int) = some (ap A pa / 2) := gI_n (by omega)
  have hp : pb A (ap A pa / 2) = true := pb_iff.mpr ⟨pa, hpa, rfl⟩
  obtain ⟨o1, o2, o3, o4⟩ := oA_lt hA hp
  have hb2 : ∀ (b : Bool) (to : Nat), to < aN A → (if b = true then 0 else 2 ^ to) < 2 ^ 22 := by
    intro b to h
    split
    · exact Nat.two_pow_pos _
    · exact Nat.pow_lt_pow_right (by decide) (by omega)
  have key : wp (f_M_tells_20 q pa al m ((otA A pa : Nat) : Int) g) (fun r => (∃ Y : Nat, r.1 = (Y : Int) ∧ Y < 2 ^ 22 ∧ ∀ X, X ||| Y = te E A m q pa al X) ∧ ∀ z, z ≠ 112 → z ≠ 113 → r.2 z = g z) := by
    unfold f_M_tells_20
    obtain ⟨⟨r1, g1⟩, e1, a1, a2⟩ := wp_passesTo h8 hA hE hM (m := m) (q := q) (th := 0) hpa hal
    dsimp only at a1 a2
    obtain ⟨⟨r2, g2⟩, e2, b1, b2⟩ := wp_passesTo h8 hA (ME_c hE a2) (MT_k hM (fun a h1 h2 => a2 a (by omega) (by omega))) (m := m) (q := q) (th := 1) hpa hot
    dsimp only at b1 b2
    have f2 : ∀ z, z ≠ 112 → z ≠ 113 → g2 z = g z := fun z z1 z2 => by rw [b2 z z1 z2, a2 z z1 z2]
    have hM2 : MT A g2 := MT_k hM (fun a h1 h2 => f2 a (by omega) (by omega))
    obtain ⟨⟨r3, g3⟩, e3, c1, c2⟩ := wp_passesTo h8 hA (ME_c hE f2) hM2 (m := m) (q := q) (th := 1) hpa hpv
    dsimp only at c1 c2
    have x1 := hb2 (E (wrd A m q pa al 0)) al hal
    have x2 := hb2 (E (wrd A m q pa (otA A pa) 1)) (otA A pa) hot
    have x3 := hb2 (E (wrd A m q pa (pv (aF A) (aN A) (otA A pa)) 1)) (pv (aF A) (aN A) (otA A pa)) hpv
    have y1 := Nat.or_lt_two_pow x1 x2
    have y2 := Nat.or_lt_two_pow y1 x3
    rw [show ((1 : Nat) : Int) = 1 from rfl] at e2 e3
    rw [show ((0 : Nat) : Int) = 0 from rfl] at e1
    rw [e1, Option.bind_some]
    dsimp only
    rw [e2, Option.bind_some]
    dsimp only
    rw [e_M_ahead hA.1 hM2.1 hot, Option.bind_some, e3, Option.bind_some, wp_some]
    dsimp only
    rw [a1, b1, c1, kor_n (by omega) (by omega), kor_n (by omega) (by omega)]
    refine ⟨⟨_, rfl, y2, fun X => ?_⟩, fun z z1 z2 => by rw [c2 z z1 z2, f2 z z1 z2]⟩
    unfold te
    rw [tl_or, tl_or, tl_or, Nat.or_assoc, Nat.or_assoc, Nat.or_assoc]
  unfold f_M_tells
  rw [i22, Option.bind_some, Option.bind_some, m88, m87, i11, Option.bind_some, Option.bind_some, (hM.2 _ (by omega)).1, (hM.2 _ (by omega)).2, o1, o3]
  unfold otA at key
  by_cases h : ap A pa % 2 = 1
  · rw [if_pos h] at key
    rw [if_pos (by omega)]
    exact key
  · rw [if_neg h] at key
    rw [if_neg (by omega)]
    exact key
theorem wp_M_minuteOf {E : (Nat → Int) → Bool} (h8 : Eok E) {A : zA} (hA : okA A) {g : kM} (hE : ME E g) (hM : MT A g) {m X : Nat} (hX : X < 2 ^ aN A) : wp (f_M_minuteOf X m g) (fun r => r.1 = ((md E A m X : Nat) : Int) ∧ ∀ z, z ≠ 112 → z ≠ 113 → r.2 z = g z) := by
  have hn := okB_n hA.1
  have hpw : 2 ^ aN A ≤ 2 ^ 22 := Nat.pow_le_pow_right (by decide) hn.2
  unfold f_M_minuteOf f_M_minuteOf_4
  refine wp_for (aN A) (fun q x => x.1 = ((mdq E A m X q : Nat) : Int) ∧ x.2.1 = (q : Int) ∧ ∀ z, z ≠ 112 → z ≠ 113 → x.2.2 z = g z) 0 _ (by omega) (by omega) (by exact ⟨rfl, rfl, fun _ _ _ => rfl⟩) ?_ ?_
  · rintro q ⟨y1, y2, w⟩ _ hq ⟨rfl, rfl, q1⟩
    dsimp only at q1
    have hMw : MT A w := MT_k hM (fun a h1 h2 => q1 a (by omega) (by omega))
    have hml := mdq_lt (E := E) hA (m := m) hX q (by omega)
    have hnx := nx_lt hA.1 hq
    have hpv := pv_lt hA.1 hq
    dsimp only
    unfold f_M_minuteOf_4b
    rw [e_M_places hA.1 hMw.1, Option.bind_some, if_neg (show ¬ ((aN A : Nat) : Int) ≤ (q : Int) by omega), kbit (by omega) (by omega)]
    by_cases hb : X.testBit q = true
    · obtain ⟨⟨r1, g1⟩, e1, ⟨Y1, a1, a2, a3⟩, a4⟩ := wp_M_tells h8 hA (ME_c hE q1) hMw (m := m) (q := q) (pa := nx (aF A) (aN A) q) (al := nx (aF A) (aN A) q) hnx hnx
      dsimp only at a1 a4
      have f1 : ∀ z, z ≠ 112 → z ≠ 113 → g1 z = g z := fun z z1 z2 => by rw [a4 z z1 z2, q1 z z1 z2]
      have hM1 : MT A g1 := MT_k hM (fun a h1 h2 => f1 a (by omega) (by omega))
      obtain ⟨⟨r2, g2⟩, e2, ⟨Y2, b1, b2, b3⟩, b4⟩ := wp_M_tells h8 hA (ME_c hE f1) hM1 (m := m) (q := q) (pa := q) (al := pv (aF A) (aN A) q) hq hpv
      dsimp only at b1 b4
      have z1 : mdq E A m X q ||| Y1 < 2 ^ 22 := Nat.or_lt_two_pow (by omega) a2
      rw [if_pos hb, if_pos rfl, e_M_next hA.1 hMw.1 hq, Option.bind_some, Option.bind_some, e1, Option.bind_some]
      dsimp only
      rw [e_M_ahead hA.1 hM1.1 hq, Option.bind_some, e2, Option.bind_some]
      dsimp only
      rw [a1, b1, kor_n (by omega) (by omega), kor_n (by omega) (by omega), a3, b3]
      unfold f_M_minuteOf_39
      rw [wp_some, gE_l]
      dsimp only
      rw [wI_s (by omega), mdq_s, if_pos hb]
      exact ⟨rfl, rfl, fun z z1 z2 => by rw [b4 z z1 z2, f1 z z1 z2]⟩
    · rw [if_neg hb, if_neg (by decide)]
      unfold f_M_minuteOf_39
      rw [wp_some, gE_l]
      dsimp only
      rw [wI_s (by omega), mdq_s, if_neg hb]
      exact ⟨rfl, rfl, q1⟩
  · rintro ⟨y1, y2, w⟩ ⟨rfl, rfl, q1⟩
    dsimp only at q1
    have hMw : MT A w := MT_k hM (fun a h1 h2 => q1 a (by omega) (by omega))
    dsimp only
    unfold f_M_minuteOf_4b
    rw [e_M_places hA.1 hMw.1, Option.bind_some, if_pos (Int.le_refl _), wp_some, gE_r]
    exact ⟨rfl, q1⟩
