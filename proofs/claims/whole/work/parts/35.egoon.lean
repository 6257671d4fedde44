/-! SEARCH: the class goes on from one situation -/
theorem wp_perf2 {A : zA} (hA : okA A) {t : kM} (hT : TN A 11 (t 43)) (hL : KLs 40 (PK A (2 * aN A)) (SK A (2 * aN A)) t) (hX : ∀ j, j < aN A → t 31 j = ((nx (aF A) (aN A) j : Nat) : Int)) {m : Nat} (hm : m < 1463) (h3 : 132 ≤ m) (hP : PK A (2 * aN A) m = true) (hK : KR 28 (mvA A m) t) : wp (f_Land_perform 40 28 ((cq (PK A (2 * aN A)) m : Nat) : Int) t) (fun u => KR 28 (sw3 (mvA A m) (SK A (2 * aN A) m / 2) (sgm A (SK A (2 * aN A) m) / 2) (sgm A (sgm A (SK A (2 * aN A) m)) / 2)) u ∧ ∀ z, z ≠ 29 → u z = t z) := by
  have hn := okB_n hA.1
  have h48 := PK_48 hA (Nat.le_refl (2 * aN A))
  have hc := cq_lt hm hP
  obtain ⟨k1, k2⟩ := hL
  have ik : gI 48 ((cq (PK A (2 * aN A)) m : Nat) : Int) = some (cq (PK A (2 * aN A)) m) := gI_n (by omega)
  obtain ⟨ek, es⟩ := k2 m hm hP
  obtain ⟨p0, -, -, -⟩ := e_part hm t
  have hB := okA_mv hA hP
  have eB : mvA A m = sw3 A (SK A (2 * aN A) m / 2) (sgm A (SK A (2 * aN A) m) / 2) (sgm A (sgm A (SK A (2 * aN A) m)) / 2) := by unfold mvA; rw [if_neg (by omega)]
  unfold f_Land_perform
  rw [if_neg (by omega), k1, if_pos (show ((cq (PK A (2 * aN A)) m : Nat) : Int) < ((cq (PK A (2 * aN A)) 1463 : Nat) : Int) by omega), ik, Option.bind_some, ek, p0, Option.bind_some]
  have ekd : knd m = 3 := by unfold knd; rw [if_neg (by omega), if_neg (by omega)]
  rw [ekd, if_pos (by decide), Option.bind_some, es]
  have hx := SK_lt hA h3 hP
  rw [eB] at hB hK ⊢
  clear eB
  generalize SK A (2 * aN A) m = x at hx es hB hK ⊢
  have hs := sgm_lt hA hx
  have hs2 := sgm_lt hA hs
  obtain ⟨B, hBd⟩ : ∃ B, B = sw3 A (x / 2) (sgm A x / 2) (sgm A (sgm A x) / 2) := ⟨_, rfl⟩
  have bF : aF B = aF A := by rw [hBd]; rfl
  have bN : aN B = aN A := by rw [hBd]; rfl
  rw [← hBd] at hB hK ⊢
  clear hBd
  have d : ∀ y : Nat, y < 2 * aN A → kshr (y : Int) 1 = ((y / 2 : Nat) : Int) := fun y hy => kshr_n (k := 1) (by omega) (by omega)
  have hX' : ∀ j, j < aN B → t 31 j = ((nx (aF B) (aN B) j : Nat) : Int) := by rw [bF, bN]; exact hX
  obtain ⟨t1, f1, m1, e1⟩ := wp_swapAlong (b := 28) hB hK hX' (j := x / 2) (by omega)
  obtain ⟨t2, f2, m2, e2⟩ := wp_swapAlong (b := 28) (okA_sw hB (j := x / 2) (by omega)) m1 (by rw [e1 _ (by decide)]; exact hX') (j := sgm A x / 2) (by show sgm A x / 2 < aN B; omega)
  have hb3 : t2 43 = t 43 := by rw [e2 _ (by decide), e1 _ (by decide)]
  obtain ⟨t3, f3, m3, e3⟩ := wp_swapAlong (b := 28) (okA_sw (okA_sw hB (j := x / 2) (by omega)) (j := sgm A x / 2) (by show sgm A x / 2 < aN B; omega)) m2 (by rw [e2 _ (by decide), e1 _ (by decide)]; exact hX') (j := sgm A (sgm A x) / 2) (by show sgm A (sgm A x) / 2 < aN B; omega)
  rw [e_stepFrom (b := 40) hA hT hx, Option.bind_some, Option.bind_some, es, d x hx, f1, Option.bind_some, d _ hs, f2, Option.bind_some, e_stepFrom (b := 40) hA (by rw [hb3]; exact hT) hs, Option.bind_some, d _ hs2, f3, Option.bind_some, wp_some]
  exact ⟨m3, fun z z2 => by rw [e3 z z2, e2 z z2, e1 z z2]⟩
theorem gb_0 {m : Nat} (h : m < 132) : gb m ≠ 0 := by
  unfold gb
  split
  · exact Nat.ne_of_gt (Nat.two_pow_pos _)
  · have h1 : 2 ^ mv1 m ≤ 2 ^ mv1 m ||| 2 ^ mv2 m := Nat.left_le_or
    have h2 := Nat.two_pow_pos (mv1 m)
    omega
def pkb (A B : zA) (s t : kM) : Prop := KT 28 A t ∧ t 21 10 = ((plo B : Nat) : Int) ∧ t 21 11 = ((phi B : Nat) : Int) ∧ t 21 12 = ((aF B : Nat) : Int) ∧ (∀ z, z ≠ 21 → z ≠ 28 → z ≠ 29 → t z = s z) ∧ ∀ i, i ≠ 10 → i ≠ 11 → i ≠ 12 → t 21 i = s 21 i
theorem wp_behind {A : zA} (hA : okA A) {s : kM} (hK : KT 28 A s) (hT : TN A 11 (s 43)) (hL : KLs 40 (PK A (2 * aN A)) (SK A (2 * aN A)) s) {m : Nat} (hm : m < 1463) (hP : PK A (2 * aN A) m = true) : wp (f_Search_packBehind ((cq (PK A (2 * aN A)) m : Nat) : Int) s) (fun t => pkb A (mvA A m) s t) := by
  have h48 := PK_48 hA (Nat.le_refl (2 * aN A))
  have hg := e_gone hL (by omega) hm hP
  unfold f_Search_packBehind
  rw [hg, Option.bind_some]
  by_cases h3 : m < 132
  · have h0 := gb_0 h3
    obtain ⟨t, f1, t1, t2, t3, t4, t5⟩ := wp_pack hA hK.1 (gb_lt hm)
    have eB : mvA A m = drp (gb m) A := by unfold mvA; rw [if_pos h3]
    rw [if_neg (by omega), f1, Option.bind_some, wp_some, eB]
    exact ⟨KT_c hK (fun i hi => t4 _ (by omega)), t1, t2, t3, fun z z1 _ _ => t4 z z1, t5⟩
  · have h0 : gb m = 0 := by unfold gb; rw [if_neg (by omega), if_neg h3]
    have hB := okA_mv hA hP
    obtain ⟨q3, f1, a1, a2, a3⟩ := wp_perform (b := 40) (b1 := 28) (by decide) hA hK hT hL hm hP
    obtain ⟨q5, f2, b1, b2, b3, b4, b5⟩ := wp_pack hB a1 (X := 0) (by decide)
    have f2' : f_Search_pack 0 q3 = some q5 := f2
    have a1' : KR 28 (mvA A m) q5 := KR_c a1 (b4 _ (by decide)) (b4 _ (by decide)) (b4 _ (by decide))
    have c40 : q5 40 = s 40 := by rw [b4 _ (by decide), a2 _ (by decide) (by decide)]
    have c41 : q5 41 = s 41 := by rw [b4 _ (by decide), a2 _ (by decide) (by decide)]
    have c42 : q5 42 = s 42 := by rw [b4 _ (by decide), a2 _ (by decide) (by decide)]
    have c43 : q5 43 = s 43 := by rw [b4 _ (by decide), a2 _ (by decide) (by decide)]
    obtain ⟨q7, f3, d1, d2⟩ := wp_perf2 hA (t := q5) (by rw [c43]; exact hT) (KLs_c hL (by rw [c40]) c41 c42) (by rw [b4 31 (by decide), a2 31 (by decide) (by decide)]; exact hK.2.2.2.1) hm (by omega) hP a1'
    rw [h0, if_pos (show ((0 : Nat) : Int) = 0 from rfl), f1, Option.bind_some, f2', Option.bind_some, f3, Option.bind_some, wp_some]
    obtain ⟨o1, o2, o3⟩ := drp0 (mvA A m)
    obtain ⟨o4, o5⟩ := plo_c o2 (by rw [o2]; exact o3)
    have eB : mvA A m = sw3 A (SK A (2 * aN A) m / 2) (sgm A (SK A (2 * aN A) m) / 2) (sgm A (sgm A (SK A (2 * aN A) m)) / 2) := by unfold mvA; rw [if_neg h3]
    have hx := SK_lt hA (by omega) hP
    have hcS := (SK_min hA (show 132 ≤ m by omega) _ (Nat.le_refl _) hP).1.2.1
    have k0 : q7 28 0 = ((aR A : Nat) : Int) := by
      have : q7 28 0 = s 28 0 := by rw [d2 28 (by decide), b4 28 (by decide), a3 0 (by decide) (by decide)]
      rw [this]
      exact hK.1.1
    have kF : q7 28 1 = ((aF A : Nat) : Int) := by
      have := d1.2.1
      rw [eB] at this
      exact this
    have kN : q7 28 2 = ((aN A : Nat) : Int) := by
      have := d1.2.2.1
      rw [eB] at this
      exact this
    have kp_ : ∀ j, j < aN A → q7 29 j = ((ap A j : Nat) : Int) := fun j hj => by
      have := d1.2.2.2.1 j (by rw [eB]; exact hj)
      rw [this, eB]
      congr 1
      unfold sw3
      rw [sw_ap, sw_ap, sw_ap, sw_ap, sw_ap, sw_ap]
      exact congrArg (ap A) (sl_dis hA hx hcS j)
    have k30 : q7 30 = s 30 := by rw [d2 30 (by decide), b4 30 (by decide), a2 30 (by decide) (by decide)]
    have kz : ∀ z, z ≠ 21 → z ≠ 28 → z ≠ 29 → q7 z = s z := fun z z1 z2 z3 => by rw [d2 z z3, b4 z z1, a2 z z2 z3]
    refine ⟨⟨⟨k0, kF, kN, kp_, fun k hk => ?_⟩, ?_, ?_, ?_, ?_⟩, by rw [d2 21 (by decide), b1, o4], by rw [d2 21 (by decide), b2, o5], by rw [d2 21 (by decide), b3, o1], kz, fun i i1 i2 i3 => by rw [d2 21 (by decide), b5 i i1 i2 i3, a2 21 (by decide) (by decide)]⟩
    · rw [show q7 (28 + 2) = s 30 from k30]
      exact hK.1.2.2.2.2 k hk
    · have : q7 28 3 = s 28 3 := by rw [d2 28 (by decide), b4 28 (by decide), a3 3 (by decide) (by decide)]
      rw [this]
      exact hK.2.1
    · rw [show q7 (28 + 5) = s 33 from kz 33 (by decide) (by decide) (by decide)]
      exact hK.2.2.1
    · rw [show q7 (28 + 3) = s 31 from kz 31 (by decide) (by decide) (by decide)]
      exact hK.2.2.2.1
    · rw [show q7 (28 + 4) = s 32 from kz 32 (by decide) (by decide) (by decide)]
      exact hK.2.2.2.2
theorem old_iff {l : List zE} {B : zA} : oldb l B = true ↔ ∃ (j : Nat) (e : zE), l[j]? = some e ∧ smb e.1 B = true := by
  unfold oldb
  rw [List.any_eq_true]
  constructor
  · rintro ⟨e, h1, h2⟩
    obtain ⟨j, hj⟩ := List.mem_iff_getElem?.mp h1
    exact ⟨j, e, hj, h2⟩
  · rintro ⟨j, e, h1, h2⟩
    exact ⟨e, List.mem_iff_getElem?.mpr ⟨j, h1⟩, h2⟩
/-- the empty situation is not among those that came -/
theorem old_0 {G : zA → Prop} {x : zS} (h : SI G x) {B : zA} (hB : aN B = 0) : ¬ oldb x.1 B = true := by
  intro hc
  obtain ⟨j, e, h1, h2⟩ := old_iff.mp hc
  have := (h.2.1 j e h1).2.1
  unfold smb at h2
  rw [decide_eq_true_eq] at h2
  omega
def kOut (y : Option (Option (Nat × Nat))) (r : Int × kM) : Prop := match y with
  | none => r.1 = -2
  | some none => r.1 = -3
  | some (some q) => r.1 = 0 ∧ r.2 21 13 = (q.1 : Int) ∧ r.2 21 14 = ((ky q.2 : Nat) : Int)
def KSr (A : zA) (l : List zE) (s : kM) : Prop := KRp l s ∧ KHs l.length s ∧ KW A s
theorem KRp_c {l : List zE} {s t : kM} (h : KRp l s) (h1 : ∀ z, 22 ≤ z → z ≤ 26 → t z = s z) (h2 : t 21 9 = s 21 9) : KRp l t := by
  obtain ⟨a1, a2, a3⟩ := h
  refine ⟨by rw [h2]; exact a1, a2, fun j e he => ?_⟩
  rw [h1 22 (by decide) (by decide), h1 23 (by decide) (by decide), h1 24 (by decide) (by decide), h1 25 (by decide) (by decide), h1 26 (by decide) (by decide)]
  exact a3 j e he
theorem KHs_c {n : Nat} {s t : kM} (h : KHs n s) (h1 : t 22 = s 22) (h2 : t 23 = s 23) (h3 : t 27 = s 27) : KHs n t := by
  unfold KHs slp at h ⊢
  rw [h1, h2, h3]
  exact h
theorem wp_goOn {A : zA} {x : zS} {k : Nat} {e : zE} (hS : SI (G1 A) x) (hr : rnn x = true) (hk : x.1[k]? = some e) {s : kM} (hP : KSr A x.1 s) : wp (f_Search_goOnFrom k s) (fun r => kOut (goF x k).2 r ∧ KSr A (goF x k).1 r.2 ∧ ∀ i, 15 ≤ i → r.2 21 i = s 21 i) := by
  obtain ⟨h1, h2, h3⟩ := hP
  have hG := (hS.2.1 k e hk).1
  have hk3 : k < 300 := by have := (List.getElem?_eq_some_iff.mp hk).1; have := hS.1; omega
  rw [goF_e hk hr]
  obtain ⟨s1, f1, t1⟩ := wp_unpack hk h1 hG h3
  have w1 : ∀ z, z ∉ W_Search_unpack → s1 z = s z := w_Search_unpack k s s1 f1
  have hB := hG.1.1
  have aRe := hG.1.2.1
  have SII := SI_in (GM_1 A) hS hk
  generalize e.1 = B at t1 hB aRe hG SII ⊢
  obtain ⟨s2, f2, v1, -, -, -, -, v2, v3⟩ := wp_survey (b := 40) (b1 := 28) (by decide) hB t1
  have h48 := PK_48 hB (Nat.le_refl (2 * aN B))
  have z2 : ∀ z, z < 28 ∨ z = 30 → s2 z = s z := fun z hz => by rw [v1 z (by omega) (by omega) (by omega) (by omega), w1 z (by simp [W_Search_unpack]; omega)]
  have t1' : KT 28 B s2 := KT_c t1 (fun i hi => v1 _ (by omega) (by omega) (by omega) (by omega))
  unfold f_Search_goOnFrom f_Search_goOnFrom_10
  rw [f1, Option.bind_some, f2, Option.bind_some]
  generalize hPK : PK B (2 * aN B) = P at v3 h48 ⊢
  obtain ⟨Iv, hIv⟩ : ∃ Iv : Nat → kM → Prop, Iv = fun m w => rnn (inF B k x m) = true ∧ KRp (inF B k x m).1 w ∧ KHs (inF B k x m).1.length w ∧ KT 28 B w ∧ w 30 = s 30 ∧ (∀ z, 40 ≤ z → z ≤ 43 → w z = s2 z) ∧ ∀ i, 15 ≤ i → w 21 i = s 21 i := ⟨_, rfl⟩
  have kwI : ∀ w : kM, KT 28 B w → w 30 = s 30 → KW A w := fun w q1 q2 => ⟨by rw [q1.1.1, aRe], by rw [q2]; exact h3.2⟩
  refine wp_for (cq P 1463) (fun i y => y.1 = (i : Int) ∧ ∃ m, m ≤ 1463 ∧ cq P m = i ∧ Iv m y.2) 0 _ (by omega) (by omega) (by
    refine ⟨rfl, 0, by omega, rfl, ?_⟩
    rw [hIv]
    exact ⟨hr, KRp_c h1 (fun z a b => z2 z (by omega)) (by dsimp only; rw [z2 21 (by decide)]), KHs_c h2 (z2 _ (by decide)) (z2 _ (by decide)) (z2 _ (by decide)), t1', z2 30 (by decide), fun _ _ _ => rfl, fun i _ => by dsimp only; rw [z2 21 (by decide)]⟩) ?_ ?_
  · rintro i ⟨y1, w⟩ _ hi ⟨rfl, m, hm, hmi, hI⟩
    dsimp only at hI
    rw [hIv] at hI
    obtain ⟨g1, g2, g3, g4, g5, g6, g7⟩ := hI
    obtain ⟨m', hm', hPm, hci⟩ := cq_sur 1463 hi
    have hle : m ≤ m' := by
      by_cases c : m' < m
      · have := cq_lt c hPm
        omega
      · omega
    have eqm : inF B k x m' = inF B k x m := by
      have := in_same (A := B) (k := k) (x := x) (m := m) (m' - m) (by rw [hPK, show m + (m' - m) = m' by omega]; omega)
      rw [show m + (m' - m) = m' by omega] at this
      exact this
    obtain ⟨S1, S2⟩ := SII m' (by omega)
    rw [← eqm] at g1 g2 g3
    clear eqm
    obtain ⟨y, hy⟩ : ∃ y, y = inF B k x m' := ⟨_, rfl⟩
    have hnext : inF B k x (m' + 1) = cmf y (mvA B m') k m' := by
      rw [inF_s, if_pos (by rw [g1, hPK, hPm]; rfl), hy]
    rw [← hy] at g1 g2 g3 S1 S2
    have wL : KLs 40 P (SK B (2 * aN B)) w := KLs_c v3 (by rw [g6 40 (by decide) (by decide)]) (g6 41 (by decide) (by decide)) (g6 42 (by decide) (by decide))
    have wT : TN B 11 (w 43) := by rw [g6 43 (by decide) (by decide)]; exact v2
    obtain ⟨w40, wk⟩ := wL
    obtain ⟨ek, -⟩ := wk m' hm' hPm
    have wL' : KLs 40 (PK B (2 * aN B)) (SK B (2 * aN B)) w := by rw [hPK]; exact ⟨w40, wk⟩
    have hPm' : PK B (2 * aN B) m' = true := by rw [hPK]; exact hPm
    obtain ⟨q2, f3, b1, b2, b3, b4, b5, b6⟩ := wp_behind hB g4 wT wL' hm' hPm'
    rw [hPK, hci] at f3
    rw [hci] at ek
    have hGm : G1 A (mvA B m') := GM_1 A B m' hG hm' hPm'
    have G21 : ∀ i, 15 ≤ i → q2 21 i = s 21 i := fun i hi => by rw [b6 i (by omega) (by omega) (by omega)]; exact g7 i hi
    have gR' : KRp y.1 q2 := KRp_c g2 (fun z a b => b5 z (by omega) (by omega) (by omega)) (b6 9 (by decide) (by decide) (by decide))
    have gH' : KHs y.1.length q2 := KHs_c g3 (b5 _ (by decide) (by decide) (by decide)) (b5 _ (by decide) (by decide) (by decide)) (b5 _ (by decide) (by decide) (by decide))
    have g5' : q2 30 = s 30 := by rw [b5 30 (by decide) (by decide) (by decide)]; exact g5
    have g6' : ∀ z, 40 ≤ z → z ≤ 43 → q2 z = s2 z := fun z a b => by rw [b5 z (by omega) (by omega) (by omega)]; exact g6 z a b
    have gk : q2 41 i = ((ky m' : Nat) : Int) := by rw [b5 41 (by decide) (by decide) (by decide)]; exact ek
    have hkb := ky_b ⟨m', hm'⟩
    dsimp only at hkb
    have stop : ∀ (r : Int × kM), (cmf y (mvA B m') k m').2 ≠ none → kOut (cmf y (mvA B m') k m').2 r → KSr A (cmf y (mvA B m') k m').1 r.2 → (∀ i, 15 ≤ i → r.2 21 i = s 21 i) → kOut (inF B k x 1463).2 r ∧ KSr A (inF B k x 1463).1 r.2 ∧ ∀ i, 15 ≤ i → r.2 21 i = s 21 i := by
      intro r c1 c2 c3 c4
      have hst := in_stop (A := B) (k := k) (x := x) (m := m' + 1) (by
        rw [hnext]
        unfold rnn
        intro q
        exact c1 (Option.isNone_iff_eq_none.mp q)) (1463 - (m' + 1))
      rw [show m' + 1 + (1463 - (m' + 1)) = 1463 by omega, hnext] at hst
      rw [hst]
      exact ⟨c2, c3, c4⟩
    have hi48 : i < 48 := by omega
    dsimp only
    unfold f_Search_goOnFrom_10b
    rw [w40, if_neg (by omega), f3, Option.bind_some, b2]
    by_cases h0 : aN (mvA B m') = 0
    · have hp0 := plo_0.mpr h0
      have hno := old_0 S1 h0
      have ec : cmf y (mvA B m') k m' = (y.1, some (some (k, m'))) := by unfold cmf; rw [if_neg hno, if_pos h0]
      rw [if_pos (by rw [hp0]; rfl), gLet_eq, gI_n hi48, Option.bind_some, gLet_eq, wp_some, gE_r, gU_n _ _ _ (by decide), gk]
      refine stop _ (by rw [ec]; exact fun q => (by cases q)) ?_ ?_ (fun i hi => by dsimp only; rw [gUo _ _ _ (by omega), gUo _ _ _ (by omega)]; exact G21 i hi)
      · rw [ec]
        exact ⟨rfl, by dsimp only; rw [gUo _ _ _ (by decide), gUs], by dsimp only; rw [gUs]⟩
      · rw [ec]
        refine ⟨KRp_c gR' (fun z a b => by dsimp only; rw [gU_n _ _ _ (by omega), gU_n _ _ _ (by omega)]) (by dsimp only; rw [gUo _ _ _ (by decide), gUo _ _ _ (by decide)]), KHs_c gH' (by dsimp only; rw [gU_n _ _ _ (by decide), gU_n _ _ _ (by decide)]) (by dsimp only; rw [gU_n _ _ _ (by decide), gU_n _ _ _ (by decide)]) (by dsimp only; rw [gU_n _ _ _ (by decide), gU_n _ _ _ (by decide)]), kwI _ (KT_c b1 (fun i hi => by dsimp only; rw [gU_n _ _ _ (by omega), gU_n _ _ _ (by omega)])) (by dsimp only; rw [gU_n _ _ _ (by decide), gU_n _ _ _ (by decide)]; exact g5')⟩
    · have hp0 : ¬ plo (mvA B m') = 0 := fun q => h0 (plo_0.mp q)
      rw [if_neg (by omega)]
      obtain ⟨r, f4, hr4⟩ := wp_freeSlot gH' S1.1 gR'.1
      rw [f4, Option.bind_some]
      rw [b2, b3] at hr4
      have hmatch : ∀ j, j < y.1.length → ((q2 22 j = ((plo (mvA B m') : Nat) : Int) ∧ q2 23 j = ((phi (mvA B m') : Nat) : Int)) ↔ ∃ e', y.1[j]? = some e' ∧ smb e'.1 (mvA B m') = true) := by
        intro j hj
        have he := List.getElem?_eq_getElem hj
        obtain ⟨o1, o2, -, -, -⟩ := gR'.2.2 j _ he
        rw [o1, o2]
        have hpi := pk_inj (S1.2.1 j _ he).1.1 hGm.1
        constructor
        · rintro ⟨u1, u2⟩
          exact ⟨_, he, hpi.mp ⟨by omega, by omega⟩⟩
        · rintro ⟨e', u1, u2⟩
          rw [he] at u1
          injection u1 with u1
          rw [← u1] at u2
          obtain ⟨u3, u4⟩ := hpi.mpr u2
          exact ⟨by rw [u3], by rw [u4]⟩
      have cont : ∀ q : kM, (cmf y (mvA B m') k m').2 = none → KRp (cmf y (mvA B m') k m').1 q → KHs (cmf y (mvA B m') k m').1.length q → KT 28 B q → q 30 = s 30 → (∀ z, 40 ≤ z → z ≤ 43 → q z = s2 z) → (∀ i, 15 ≤ i → q 21 i = s 21 i) → wp (f_Search_goOnFrom_57 k i q) (gE (fun y => y.1 = ((i + 1 : Nat) : Int) ∧ ∃ m, m ≤ 1463 ∧ cq P m = i + 1 ∧ Iv m y.2) (fun r => kOut (inF B k x 1463).2 r ∧ KSr A (inF B k x 1463).1 r.2 ∧ ∀ i, 15 ≤ i → r.2 21 i = s 21 i)) := by
        intro q c1 c2 c3 c4 c5 c6 c7
        unfold f_Search_goOnFrom_57
        rw [wp_some, gE_l, wI_s (by omega)]
        refine ⟨rfl, m' + 1, by omega, by rw [cq_succ, if_pos hPm, hci], ?_⟩
        rw [hIv]
        dsimp only
        rw [hnext]
        exact ⟨by unfold rnn; rw [c1]; rfl, c2, c3, c4, c5, c6, c7⟩
      rcases hr4 with ⟨rfl, j, j1, j2⟩ | ⟨d, d1, d2, d3, d4, d5⟩
      · have hold : oldb y.1 (mvA B m') = true := by
          obtain ⟨e', u1, u2⟩ := (hmatch j j1).mp j2
          exact old_iff.mpr ⟨j, e', u1, u2⟩
        have ec : cmf y (mvA B m') k m' = y := by unfold cmf; rw [if_pos hold]
        rw [if_pos (by decide)]
        unfold f_Search_goOnFrom_46
        rw [if_pos (by decide)]
        refine cont q2 (by rw [ec]; exact Option.isNone_iff_eq_none.mp g1) (by rw [ec]; exact gR') (by rw [ec]; exact gH') b1 g5' g6' G21
      · have hno : ¬ oldb y.1 (mvA B m') = true := by
          intro q
          obtain ⟨j, e', u1, u2⟩ := old_iff.mp q
          have hj := (List.getElem?_eq_some_iff.mp u1).1
          exact d5 j hj ((hmatch j hj).mpr ⟨e', u1, u2⟩)
        have hpos : 0 < y.1.length := by
          have := (List.getElem?_eq_some_iff.mp (S2 k e hk)).1
          omega
        rw [if_neg (by rw [d2]; omega), gR'.1]
        by_cases h300 : y.1.length = 300
        · have ec : cmf y (mvA B m') k m' = (y.1, some none) := by unfold cmf; rw [if_neg hno, if_neg h0, if_pos h300]
          rw [if_neg (by omega), wp_some, gE_r]
          refine stop _ (by rw [ec]; exact fun q => (by cases q)) (by rw [ec]; exact rfl) (by rw [ec]; exact ⟨gR', gH', kwI _ b1 g5'⟩) G21
        · have hl3 : y.1.length < 300 := by have := S1.1; omega
          have ec : cmf y (mvA B m') k m' = (y.1 ++ [(mvA B m', (k : Int), m')], none) := by unfold cmf; rw [if_neg hno, if_neg h0, if_neg h300]
          rw [if_pos (by omega)]
          unfold f_Search_goOnFrom_46
          rw [if_neg (by rw [d2]; omega), gI_n hi48, Option.bind_some, gk, d2]
          obtain ⟨q4, f5, n1, n2, n3, n4⟩ := wp_add gR' gH' hl3 (B := mvA B m') hGm.1.1.1 (fr := (k : Int)) (by omega) (by omega) (m := m') (by_ := ((ky m' : Nat) : Int)) (by omega) (fun _ => rfl) b2 b3 b4 (d := d) (by rw [b2, b3]; exact d3) d1 (by rw [b2, b3]; exact d4)
          rw [b2, b3] at f5
          rw [f5, Option.bind_some]
          refine cont q4 (by rw [ec]) (by rw [ec]; exact n1) (by rw [ec]; exact n2) (KT_c b1 (fun i hi => n3 _ (by omega))) (by rw [n3 30 (by decide)]; exact g5') (fun z a b => by rw [n3 z (by omega)]; exact g6' z a b) (fun i hi => by rw [n4 i (by omega)]; exact G21 i hi)
  · rintro ⟨y1, w⟩ ⟨rfl, m, hm, hmi, hI⟩
    dsimp only at hI
    rw [hIv] at hI
    obtain ⟨g1, g2, g3, g4, g5, g6, g7⟩ := hI
    have eqm : inF B k x 1463 = inF B k x m := by
      have := in_same (A := B) (k := k) (x := x) (m := m) (1463 - m) (by rw [hPK, show m + (1463 - m) = 1463 by omega]; omega)
      rw [show m + (1463 - m) = 1463 by omega] at this
      exact this
    dsimp only
    unfold f_Search_goOnFrom_10b
    rw [g6 40 (by decide) (by decide), v3.1, if_pos (Int.le_refl _), wp_some, gE_r, eqm]
    refine ⟨?_, ⟨g2, g3, kwI _ g4 g5⟩, g7⟩
    rw [Option.isNone_iff_eq_none.mp g1]
    exact rfl
