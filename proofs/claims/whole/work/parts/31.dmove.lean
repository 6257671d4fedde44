theorem W_in {g t : kM} {L : List Nat} (h : Fr L g t) (hL : ∀ a, a ∈ L → a ∈ W_M_slide) : Fr W_M_slide g t := fun z hz => h z (fun q => hz (hL z q))
theorem bre_d {A : zA} (hA : okA A) {x : Nat} (hx : x < 2 * aN A) : pb A (bre A x) = true := bre_pb hA hx
theorem PK_aa {A : zA} (hA : okA A) {a : Nat} (ha : a < 11) : ¬ PK A (2 * aN A) (mA a a) = true := by
  intro q
  have hr := mA_r ha ha
  have e1 : mA a a = 11 + 11 * a + a := by unfold mA mi ma; rw [if_neg (by omega)]
  rcases (PK_iff _).mp q with q | ⟨x, k1, k2⟩
  · unfold OF at q
    rw [decide_eq_false (by omega), Bool.false_and] at q
    cases q
  · have hx : x < 2 * aN A := FL_mem _ k1
    have y1 := bre_lt hA.1 hx
    have y2 := bre_lt hA.1 (xo_lt hx)
    rcases k2 with ⟨k3, k2⟩ | ⟨-, k2⟩
    · have hd := (of_decide_eq_true k3).2.1
      rw [e1] at k2
      unfold aM mA mi ma at k2
      split at k2 <;> split at k2 <;> omega
    · have := mS_r (bre A x) (bre A (sgm A x)) (bre A (sgm A (sgm A x)))
      unfold sM at k2
      omega
theorem PK_ss {A : zA} (hA : okA A) {a b c : Nat} (ha : a < 11) (hb : b < 11) (hc : c < 11) (h : a = b ∨ b = c ∨ a = c) : ¬ PK A (2 * aN A) (mS a b c) = true := by
  intro q
  have hr := mS_r a b c
  have h1 := mi_lt hb hc
  have h2 := mi_lt ha h1.1
  have h3 := mi_lt ha h1.2
  have h4 := mid_lt ha hb hc
  have hq : mi a (mi b c) = a + b + c - mi a (mi b c) - ma a (ma b c) ∨ a + b + c - mi a (mi b c) - ma a (ma b c) = ma a (ma b c) := by
    unfold mi ma
    (repeat' split) <;> omega
  rcases (PK_iff _).mp q with q | ⟨x, k1, k2⟩
  · unfold OF at q
    rw [decide_eq_false (by omega), Bool.false_and] at q
    cases q
  · have hx : x < 2 * aN A := FL_mem _ k1
    have y1 := bre_lt hA.1 hx
    have y2 := bre_lt hA.1 (xo_lt hx)
    have y3 := bre_lt hA.1 (sgm_lt hA hx)
    have y4 := bre_lt hA.1 (sgm_lt hA (sgm_lt hA hx))
    rcases k2 with ⟨-, k2⟩ | ⟨k3, k2⟩
    · have := mA_r y1 y2
      unfold aM at k2
      omega
    · obtain ⟨-, d1, d2, d3, -⟩ := of_decide_eq_true k3
      obtain ⟨p, q, r, o1, o2, f1, f2, f3, o3⟩ := srt3 d1 d2 d3
      unfold sM mS at k2
      rw [f2, f3, f1] at k2
      clear f1 f2 f3
      generalize a + b + c - mi a (mi b c) - ma a (ma b c) = md' at k2 h4 hq
      generalize mi a (mi b c) = lo at k2 h2 hq
      generalize ma a (ma b c) = hi at k2 h3 hq
      have w1 : p < 11 ∧ q < 11 ∧ r < 11 := by omega
      clear o3
      have w2 : p = lo ∧ q = md' ∧ r = hi := by omega
      omega
/-- what a removal's end does -/
theorem rem_end {A : zA} (hA : okA A) {g : kM} (hM : MT A g) {X : Nat} (hX : X < 2 ^ 11) : wp ((f_M_removes X g).bind fun q4 => gLet (gU q4 86 3 (wI ((q4 86 3) + 1))) fun s6 => (gB 1).bind fun _ => some ((1 : Int), s6)) (fun r => r.1 = 1 ∧ MT (drp X A) r.2 ∧ r.2 86 3 = wI (g 86 3 + 1) ∧ r.2 86 4 = g 86 4 ∧ r.2 86 5 = g 86 5 ∧ ∀ i, r.2 85 i = g 85 i) := by
  obtain ⟨t, f1, t1, t2⟩ := wp_removes hA hM hX
  have fr : ∀ z, z ∉ W_M_removes → t z = g z := w_M_removes _ g t f1
  rw [f1, Option.bind_some, gLet_eq, show gB 1 = some () from rfl, Option.bind_some, wp_some, t2 3 (by omega)]
  refine ⟨rfl, ?_, ?_, ?_, ?_, fun i => ?_⟩
  · dsimp only
    exact MT_c t1 ⟨gUo _ _ _ (by decide), gUo _ _ _ (by decide), gUo _ _ _ (by decide)⟩ (gU_n _ _ _ (by decide)) (gU_n _ _ _ (by decide)) (gU_n _ _ _ (by decide)) (gU_n _ _ _ (by decide)) (gU_n _ _ _ (by decide))
  · dsimp only
    rw [gUs]
  · dsimp only
    rw [gUo _ _ _ (by decide), t2 4 (by omega)]
  · dsimp only
    rw [gUo _ _ _ (by decide), t2 5 (by omega)]
  · dsimp only
    rw [gU_n _ _ _ (by decide), fr 85 (by decide)]
section TOWN
variable {RC : zA → kM → Prop} {RU : Nat → kM → Prop}
theorem O_off (hC : hRC RC) (hU : hRU RU) (x : Int) : OB RC RU (f_KT_off x) (f_M_off x) := by
  intro s hs
  have hs' := hs
  obtain ⟨A, hA, hK, hM, -⟩ := hs'
  by_cases hx : 0 ≤ x ∧ x < 11 ∧ pb A x.toNat = true
  · obtain ⟨b, rfl⟩ : ∃ b : Nat, x = (b : Int) := ⟨x.toNat, by omega⟩
    rw [Int.toNat_natCast] at hx
    have hb : b < 11 := by omega
    have hp := PK_off hA hb
    refine OB_move hC hU hs hA hK hM (m := b) (by omega) ?_ ?_ (fun g t h => W_in (w_M_off _ g t h) (by decide))
    · unfold f_KT_off
      rw [e_has hA hK, Int.toNat_natCast, if_pos hx, Option.bind_some, if_neg (by decide), e_offKey hb, Option.bind_some]
    · intro g hg
      unfold f_M_off
      have ho := e_M_isOff hA hg (b : Int)
      rw [Int.toNat_natCast] at ho
      by_cases hP : PK A (2 * aN A) b = true
      · rw [if_pos ⟨⟨hx.1, hx.2.1⟩, hp.mp hP⟩] at ho
        rw [ho, Option.bind_some, if_neg (by decide), kone (by omega)]
        have e1 : mvA A b = drp (2 ^ b) A := by
          unfold mvA gb mv1
          rw [if_pos (by omega), if_pos hb, if_pos hb]
        refine (rem_end hA hg (Nat.pow_lt_pow_right (by decide) hb)).mono ?_
        rintro r ⟨r1, r2, r3, r4, r5, r6⟩
        exact ⟨Or.inl ⟨hP, r1, by rw [e1]; exact r2, r3, r4, r5⟩, fun i _ => r6 i⟩
      · rw [if_neg (fun q => hP (hp.mpr q.2))] at ho
        rw [ho, Option.bind_some, if_pos rfl, show gB 0 = some () from rfl, Option.bind_some, wp_some]
        exact ⟨Or.inr ⟨hP, rfl, fun _ _ _ _ _ _ _ => rfl⟩, fun _ _ => rfl⟩
  · refine ⟨0, s, s, ?_, ?_, hs⟩
    · unfold f_KT_off
      rw [e_has hA hK, if_neg hx, Option.bind_some, if_pos rfl]
    · unfold f_M_off
      rw [e_M_isOff hA hM, if_neg (fun q => hx ⟨q.1.1, q.1.2, q.2.1⟩), Option.bind_some, if_pos rfl, show gB 0 = some () from rfl, Option.bind_some]
theorem frL_r (b : Nat) (s : kM) : frL b s s := fun _ _ _ _ _ => rfl
theorem O_apart (hC : hRC RC) (hU : hRU RU) (x y : Int) : OB RC RU (f_KT_apart x y) (f_M_apart x y) := by
  intro s hs
  have hs' := hs
  obtain ⟨A, hA, hK, hM, -⟩ := hs'
  by_cases hx : (0 ≤ x ∧ x < 11 ∧ pb A x.toNat = true) ∧ (0 ≤ y ∧ y < 11 ∧ pb A y.toNat = true)
  · obtain ⟨a, rfl⟩ : ∃ b : Nat, x = (b : Int) := ⟨x.toNat, by omega⟩
    obtain ⟨b, rfl⟩ : ∃ b : Nat, y = (b : Int) := ⟨y.toNat, by omega⟩
    rw [Int.toNat_natCast, Int.toNat_natCast] at hx
    have ha : a < 11 := by omega
    have hb : b < 11 := by omega
    have hlt := mA_lt ha hb
    refine OB_move hC hU hs hA hK hM (m := mA a b) hlt ?_ ?_ (fun g t h => W_in (w_M_apart _ _ g t h) (by decide))
    · unfold f_KT_apart
      rw [e_has hA hK, Int.toNat_natCast, if_pos hx.1, Option.bind_some, if_neg (by decide), e_has hA hK, Int.toNat_natCast, if_pos hx.2, Option.bind_some, if_neg (by decide), e_apartKey ha hb, Option.bind_some]
    · intro g hg
      obtain ⟨w, e2, hw⟩ := wp_fillsLand hA hg
      have hMw : MT A w := MT_k hg (fun a h1 h2 => hw.1 a (by omega) (by omega) (by omega) (by omega) (by omega))
      have hap := e_M_isApart hA hMw hw hx.1.2.2 hx.2.2.2 ha hb
      unfold f_M_apart
      rw [e2, Option.bind_some]
      by_cases hc : a ≠ b ∧ (FL A (2 * aN A)).any (apc A a b) = true
      · have hP := (PK_ap hA ha hb hc.1).mpr hc.2
        have p1 : 2 ^ a < 2 ^ 11 := Nat.pow_lt_pow_right (by decide) ha
        have p2 : 2 ^ b < 2 ^ 11 := Nat.pow_lt_pow_right (by decide) hb
        rw [if_pos hc] at hap
        rw [hap, Option.bind_some, if_neg (by decide), kone (by omega), kone (by omega), kor_n (by omega) (by omega)]
        have e1 : mvA A (mA a b) = drp (2 ^ a ||| 2 ^ b) A := by
          have hr := mA_r ha hb
          have m1 : mv1 (mA a b) = mi a b := by
            have := mi_lt ha hb
            unfold mv1
            rw [if_neg (by omega), if_pos (by omega)]
            unfold mA
            omega
          have m2 : mv2 (mA a b) = ma a b := by
            have := mi_lt ha hb
            unfold mv2
            rw [if_pos (by omega)]
            unfold mA
            omega
          unfold mvA gb
          rw [if_pos (by omega), if_neg (by omega), if_pos (by omega), m1, m2]
          unfold mi ma
          by_cases h : b < a
          · rw [if_pos h, if_neg (by omega), Nat.or_comm]
          · rw [if_neg h, if_pos (by omega)]
        refine (rem_end hA hMw (Nat.or_lt_two_pow p1 p2)).mono ?_
        rintro r ⟨r1, r2, r3, r4, r5, r6⟩
        have w86 : w 86 = g 86 := hw.1 86 (by decide) (by decide) (by decide) (by decide) (by decide)
        rw [w86] at r3 r4 r5
        exact ⟨Or.inl ⟨hP, r1, by rw [e1]; exact r2, r3, r4, r5⟩, fun i hi => by rw [r6 i]; exact hw.2.1 i hi⟩
      · have hP : ¬ PK A (2 * aN A) (mA a b) = true := by
          by_cases hab : a = b
          · subst hab
            exact PK_aa hA ha
          · exact fun q => hc ⟨hab, (PK_ap hA ha hb hab).mp q⟩
        rw [if_neg hc] at hap
        rw [hap, Option.bind_some, if_pos rfl, show gB 0 = some () from rfl, Option.bind_some, wp_some]
        exact ⟨Or.inr ⟨hP, rfl, fun z z1 z2 z3 z4 z5 _ => hw.1 z z1 z2 z3 z4 z5⟩, hw.2.1⟩
  · obtain ⟨w, e2, hw⟩ := wp_fillsLand hA hM
    have hMw : MT A w := MT_k hM (fun a h1 h2 => hw.1 a (by omega) (by omega) (by omega) (by omega) (by omega))
    refine ⟨0, s, w, ?_, ?_, Rel_ld hC hU hs (frL_r 17 s) (fun z z1 z2 z3 z4 z5 _ => hw.1 z z1 z2 z3 z4 z5) hw.2.1⟩
    · unfold f_KT_apart
      rw [e_has hA hK, Option.bind_some]
      by_cases h1 : 0 ≤ x ∧ x < 11 ∧ pb A x.toNat = true
      · have h2 : ¬ (0 ≤ y ∧ y < 11 ∧ pb A y.toNat = true) := fun q => hx ⟨h1, q⟩
        have ey : f_Town_has 4 y s = some 0 := by rw [e_has hA hK, if_neg h2]
        rw [if_pos h1, if_neg (by decide), ey, Option.bind_some, if_pos rfl]
      · rw [if_neg h1, if_pos rfl]
    · have hz : f_M_isApart x y w = some 0 := by
        unfold f_M_isApart
        by_cases h1 : 0 ≤ x ∧ x < 11 ∧ pb A x.toNat = true
        · have h2 : ¬ (0 ≤ y ∧ y < 11 ∧ pb A y.toNat = true) := fun q => hx ⟨h1, q⟩
          have ex : f_M_isBridge x w = some 1 := by rw [e_M_isBridge hA hMw, if_pos h1]
          have ey : f_M_isBridge y w = some 0 := by rw [e_M_isBridge hA hMw, if_neg h2]
          rw [ex, Option.bind_some, if_neg (by decide), ey, Option.bind_some, if_pos rfl]
        · have ex : f_M_isBridge x w = some 0 := by rw [e_M_isBridge hA hMw, if_neg h1]
          rw [ex, Option.bind_some, if_pos rfl]
      unfold f_M_apart
      rw [e2, Option.bind_some, hz, Option.bind_some, if_pos rfl, show gB 0 = some () from rfl, Option.bind_some]
theorem O_slide (hC : hRC RC) (hU : hRU RU) (x y z : Int) : OB RC RU (f_KT_slide x y z) (f_M_slide x y z) := by
  intro s hs
  have hs' := hs
  obtain ⟨A, hA, hK, hM, -⟩ := hs'
  by_cases hx : (0 ≤ x ∧ x < 11 ∧ pb A x.toNat = true) ∧ (0 ≤ y ∧ y < 11 ∧ pb A y.toNat = true) ∧ (0 ≤ z ∧ z < 11 ∧ pb A z.toNat = true)
  · obtain ⟨a, rfl⟩ : ∃ b : Nat, x = (b : Int) := ⟨x.toNat, by omega⟩
    obtain ⟨b, rfl⟩ : ∃ b : Nat, y = (b : Int) := ⟨y.toNat, by omega⟩
    obtain ⟨c, rfl⟩ : ∃ b : Nat, z = (b : Int) := ⟨z.toNat, by omega⟩
    rw [Int.toNat_natCast, Int.toNat_natCast, Int.toNat_natCast] at hx
    have ha : a < 11 := by omega
    have hb : b < 11 := by omega
    have hc : c < 11 := by omega
    have hlt := mS_lt ha hb hc
    have ea : f_Town_has 4 (a : Int) s = some 1 := by rw [e_has hA hK, Int.toNat_natCast, if_pos hx.1]
    have eb : f_Town_has 4 (b : Int) s = some 1 := by rw [e_has hA hK, Int.toNat_natCast, if_pos hx.2.1]
    have ec : f_Town_has 4 (c : Int) s = some 1 := by rw [e_has hA hK, Int.toNat_natCast, if_pos hx.2.2]
    refine OB_move hC hU hs hA hK hM (m := mS a b c) hlt ?_ ?_ (fun g t h => w_M_slide _ _ _ g t h)
    · unfold f_KT_slide
      rw [ea, Option.bind_some, if_neg (by decide), eb, Option.bind_some, if_neg (by decide), ec, Option.bind_some, if_neg (by decide), e_slideKey ha hb hc, Option.bind_some]
    · intro g hg
      obtain ⟨w, e2, hw⟩ := wp_fillsLand hA hg
      have hMw : MT A w := MT_k hg (fun a h1 h2 => hw.1 a (by omega) (by omega) (by omega) (by omega) (by omega))
      obtain ⟨⟨r, u⟩, f1, u1, u2⟩ := wp_M_isSlide hA hMw hw hx.1.2.2 hx.2.1.2.2 hx.2.2.2.2 ha hb hc
      dsimp only at u1 u2
      have u86 : u 86 = g 86 := by rw [u1 86 (by decide), hw.1 86 (by decide) (by decide) (by decide) (by decide) (by decide)]
      have u85 : ∀ i, i ≠ 20 → u 85 i = g 85 i := fun i hi => by rw [u1 85 (by decide)]; exact hw.2.1 i hi
      have hMu : MT A u := MT_k hMw (fun a h1 h2 => u1 a (by omega))
      unfold f_M_slide
      rw [e2, Option.bind_some, f1, Option.bind_some]
      dsimp only
      rcases u2 with ⟨r0, hno⟩ | ⟨r1, hyes, x, ⟨x1, x2, x3⟩, x4⟩
      · have hP : ¬ PK A (2 * aN A) (mS a b c) = true := by
          by_cases hab : a = b
          · exact PK_ss hA ha hb hc (Or.inl hab)
          · by_cases hbc : b = c
            · exact PK_ss hA ha hb hc (Or.inr (Or.inl hbc))
            · by_cases hac : a = c
              · exact PK_ss hA ha hb hc (Or.inr (Or.inr hac))
              · exact fun q => hno ⟨hab, hbc, hac, (PK_sl hA ha hb hc hab hbc hac).mp q⟩
        rw [r0, if_pos rfl, show gB 0 = some () from rfl, Option.bind_some, wp_some]
        exact ⟨Or.inr ⟨hP, rfl, fun z z1 z2 z3 z4 z5 z6 => by dsimp only; rw [u1 z z6]; exact hw.1 z z1 z2 z3 z4 z5⟩, u85⟩
      · obtain ⟨hab, hbc, hac, hany⟩ := hyes
        have hP := (PK_sl hA ha hb hc hab hbc hac).mpr hany
        have hr := mS_r a b c
        obtain ⟨⟨k1, k2, k3⟩, k4⟩ := SK_min hA hr _ (Nat.le_refl _) hP
        have hxl : x < 2 * aN A := FL_mem _ x1
        have hk : SK A (2 * aN A) (mS a b c) < 2 * aN A := FL_mem _ k1
        have s1 := slc_sM hA hxl ha hb hc hab hbc hac
        have s2 := slc_sM hA hk ha hb hc hab hbc hac
        have g1 := k4 x x1 (s1.mp x2).1 (s1.mp x2).2
        have g2 := x3 _ k1 (s2.mpr ⟨k2, k3⟩)
        have hxe : x = SK A (2 * aN A) (mS a b c) := by omega
        have h1 := sgm_lt hA hxl
        have h2 := sgm_lt hA h1
        obtain ⟨t, f2, t1⟩ := wp_M_slides hA hMu (i := x / 2) (j := sgm A x / 2) (k := sgm A (sgm A x) / 2) (by omega) (by omega) (by omega) (x4 0 (by omega)) (x4 1 (by omega)) (x4 2 (by omega))
        have fr : ∀ z, z ∉ W_M_slides → t z = u z := w_M_slides u t f2
        have e1 : mvA A (mS a b c) = sw3 A (x / 2) (sgm A x / 2) (sgm A (sgm A x) / 2) := by
          unfold mvA
          rw [if_neg (by omega), ← hxe]
        rw [r1, if_neg (by decide), f2, Option.bind_some, gLet_eq, show gB 1 = some () from rfl, Option.bind_some, wp_some, fr 86 (by decide), u86]
        refine ⟨Or.inl ⟨hP, rfl, ?_, ?_, ?_, ?_⟩, fun i hi => ?_⟩
        · rw [e1]
          dsimp only
          exact MT_c t1 ⟨gUo _ _ _ (by decide), gUo _ _ _ (by decide), gUo _ _ _ (by decide)⟩ (gU_n _ _ _ (by decide)) (gU_n _ _ _ (by decide)) (gU_n _ _ _ (by decide)) (gU_n _ _ _ (by decide)) (gU_n _ _ _ (by decide))
        · dsimp only
          rw [gUs]
        · dsimp only
          rw [gUo _ _ _ (by decide), fr 86 (by decide), u86]
        · dsimp only
          rw [gUo _ _ _ (by decide), fr 86 (by decide), u86]
        · dsimp only
          rw [gU_n _ _ _ (by decide), fr 85 (by decide)]
          exact u85 i hi
  · obtain ⟨w, e2, hw⟩ := wp_fillsLand hA hM
    have hMw : MT A w := MT_k hM (fun a h1 h2 => hw.1 a (by omega) (by omega) (by omega) (by omega) (by omega))
    have kk : ∀ i : Int, f_Town_has 4 i s = some (if 0 ≤ i ∧ i < 11 ∧ pb A i.toNat = true then 1 else 0) := fun i => e_has hA hK i
    have mm : ∀ i : Int, f_M_isBridge i w = some (if 0 ≤ i ∧ i < 11 ∧ pb A i.toNat = true then 1 else 0) := fun i => e_M_isBridge hA hMw i
    have y1 : ∀ i : Int, (0 ≤ i ∧ i < 11 ∧ pb A i.toNat = true) → f_Town_has 4 i s = some 1 ∧ f_M_isBridge i w = some 1 := fun i h => by rw [kk, mm, if_pos h]; exact ⟨rfl, rfl⟩
    have y0 : ∀ i : Int, ¬ (0 ≤ i ∧ i < 11 ∧ pb A i.toNat = true) → f_Town_has 4 i s = some 0 ∧ f_M_isBridge i w = some 0 := fun i h => by rw [kk, mm, if_neg h]; exact ⟨rfl, rfl⟩
    have hz : f_M_isSlide x y z w = some (0, w) ∧ f_KT_slide x y z s = some (0, s) := by
      unfold f_M_isSlide f_KT_slide
      by_cases h1 : 0 ≤ x ∧ x < 11 ∧ pb A x.toNat = true
      · rw [(y1 x h1).1, (y1 x h1).2, Option.bind_some, Option.bind_some, if_neg (show ¬ (1 : Int) = 0 by decide), if_neg (show ¬ (1 : Int) = 0 by decide)]
        by_cases h2 : 0 ≤ y ∧ y < 11 ∧ pb A y.toNat = true
        · have h3 : ¬ (0 ≤ z ∧ z < 11 ∧ pb A z.toNat = true) := fun q => hx ⟨h1, h2, q⟩
          rw [(y1 y h2).1, (y1 y h2).2, Option.bind_some, Option.bind_some, if_neg (show ¬ (1 : Int) = 0 by decide), if_neg (show ¬ (1 : Int) = 0 by decide), (y0 z h3).1, (y0 z h3).2, Option.bind_some, Option.bind_some, if_pos rfl, if_pos rfl]
          exact ⟨rfl, rfl⟩
        · rw [(y0 y h2).1, (y0 y h2).2, Option.bind_some, Option.bind_some, if_pos rfl, if_pos rfl]
          exact ⟨rfl, rfl⟩
      · rw [(y0 x h1).1, (y0 x h1).2, Option.bind_some, Option.bind_some, if_pos rfl, if_pos rfl]
        exact ⟨rfl, rfl⟩
    refine ⟨0, s, w, hz.2, ?_, Rel_ld hC hU hs (frL_r 17 s) (fun z z1 z2 z3 z4 z5 _ => hw.1 z z1 z2 z3 z4 z5) hw.2.1⟩
    unfold f_M_slide
    rw [e2, Option.bind_some, hz.1, Option.bind_some, if_pos rfl, show gB 0 = some () from rfl, Option.bind_some]
end TOWN
