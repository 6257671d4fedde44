/-! SEARCH: the reference finds -/
theorem wp_inn {A : zA} {x : zS} {k : Nat} {e : zE} (hS : SI (G1 A) x) (hr : rnn x = true) (hk : x.1[k]? = some e) {s : kM} (hO : MOu x 0 s) (hM : MT e.1 s) (hF : fLd e.1 s s) : wp (f_M_finds_35 0 k 0 s) (fun r => ∃ o w, r = .inl (o, ((k + 1 : Nat) : Int), w) ∧ MOu (goF x k) o w ∧ MT e.1 w ∧ (∀ z, z < 85 ∨ (89 ≤ z ∧ z ≤ 97) → w z = s z) ∧ (∀ i, i ≠ 52 → i ≠ 53 → w 85 i = s 85 i) ∧ ∀ i, 3 ≤ i → w 86 i = s 86 i) := by
  have hG := (hS.2.1 k e hk).1
  have hk3 : k < 300 := by have := (List.getElem?_eq_some_iff.mp hk).1; have := hS.1; omega
  have hGk : ∀ B, G1 A B → okA B := fun B h => h.1.1
  rw [goF_e hk hr]
  have SII := SI_in (GM_1 A) hS hk
  obtain ⟨B, hBd⟩ : ∃ B, B = e.1 := ⟨_, rfl⟩
  rw [← hBd] at hG hM hF SII ⊢
  have hB := hG.1.1
  unfold f_M_finds_35
  refine wp_for 1463 (fun m y => y.2.1 = (m : Int) ∧ MOu (inF B k x m) y.1 y.2.2 ∧ MT B y.2.2 ∧ fLd B y.2.2 y.2.2 ∧ (∀ z, z < 85 ∨ (89 ≤ z ∧ z ≤ 97) → y.2.2 z = s z) ∧ (∀ i, i ≠ 52 → i ≠ 53 → y.2.2 85 i = s 85 i) ∧ ∀ i, 3 ≤ i → y.2.2 86 i = s 86 i) 0 _ (by omega) (by omega) (by exact ⟨rfl, hO, hM, hF, fun _ _ => rfl, fun _ _ _ => rfl, fun _ _ => rfl⟩) ?_ ?_
  · rintro m ⟨o, y2, w⟩ _ hm ⟨rfl, q1, q2, q3, q4, q5, q6⟩
    dsimp only at q1 q2 q3 q4 q5 q6
    obtain ⟨S1, S2⟩ := SII m (by omega)
    dsimp only
    unfold f_M_finds_35b
    rw [if_neg (by omega)]
    have out : ¬ rnn (inF B k x m) = true → wp (Option.map Sum.inr (f_M_finds_61 o (k : Int) w)) (gE (fun (y : Int × Int × kM) => y.2.1 = ((m + 1 : Nat) : Int) ∧ MOu (inF B k x (m + 1)) y.1 y.2.2 ∧ MT B y.2.2 ∧ fLd B y.2.2 y.2.2 ∧ (∀ z, z < 85 ∨ (89 ≤ z ∧ z ≤ 97) → y.2.2 z = s z) ∧ (∀ i, i ≠ 52 → i ≠ 53 → y.2.2 85 i = s 85 i) ∧ ∀ i, 3 ≤ i → y.2.2 86 i = s 86 i) (fun r => ∃ o w, r = .inl (o, ((k + 1 : Nat) : Int), w) ∧ MOu (inF B k x 1463) o w ∧ MT B w ∧ (∀ z, z < 85 ∨ (89 ≤ z ∧ z ≤ 97) → w z = s z) ∧ (∀ i, i ≠ 52 → i ≠ 53 → w 85 i = s 85 i) ∧ ∀ i, 3 ≤ i → w 86 i = s 86 i)) := by
      intro hno
      have hst := in_stop hno (1463 - m)
      rw [show m + (1463 - m) = 1463 by omega] at hst
      rw [wp_map]
      unfold f_M_finds_61
      rw [wp_some, gE_r, wI_s (by omega), hst]
      exact ⟨o, w, rfl, q1, q2, q4, q5, q6⟩
    cases hc : (inF B k x m).2 with
    | some oo =>
      have hno : ¬ rnn (inF B k x m) = true := by unfold rnn; rw [hc]; exact Bool.false_ne_true
      cases oo with
      | none =>
        obtain ⟨-, o1, o2⟩ := MOu_o q1 hc
        rw [if_pos o2, if_neg (by rw [o1]; decide)]
        exact out hno
      | some q =>
        obtain ⟨-, o1, o2, -⟩ := MOu_f q1 hc
        rw [if_neg (by rw [o2]; omega)]
        exact out hno
    | none =>
      obtain ⟨o1, o2, o3, o4⟩ := MOu_n q1 hc
      have hrn : rnn (inF B k x m) = true := by unfold rnn; rw [hc]; rfl
      rw [if_pos o3, if_pos o2]
      obtain ⟨⟨c1, w1⟩, f1, a1, a2, a3⟩ := wp_canMove hB q2 q3 hm
      dsimp only at a1 a2 a3
      rw [f1, Option.bind_some]
      dsimp only
      have M1 : MT B w1 := MT_c q2 (by rw [a1 86 (by decide)]; exact ⟨rfl, rfl, rfl⟩) (a1 _ (by decide)) (a1 _ (by decide)) (a1 _ (by decide)) (a1 _ (by decide)) (a1 _ (by decide))
      by_cases hP : PK B (2 * aN B) m = true
      · rw [if_pos hP] at a2
        rw [if_neg (by rw [a2]; decide)]
        obtain ⟨w2, f2, M2⟩ := wp_does hB M1 hm hP (a3 hP)
        have d2 : ∀ z, z ∉ W_M_does → w2 z = w1 z := w_M_does m w1 w2 f2
        have hGm : G1 A (mvA B m) := GM_1 A B m hG (by omega) hP
        have e2 : ∀ z, z ≠ 116 → z ∉ W_M_does → w2 z = w z := fun z z1 z2 => by rw [d2 z z2, a1 z z1]
        have R2 : MRw (inF B k x m).1 w2 := MRw_u o1 (e2 120 (by decide) (by decide)) (fun j _ => ⟨by rw [e2 121 (by decide) (by decide)], by rw [e2 122 (by decide) (by decide)]⟩)
        have e85 : w2 85 = w 85 := e2 85 (by decide) (by decide)
        obtain ⟨⟨c3, w3⟩, f3, b1, b2⟩ := wp_comes hGk S1 R2 (by rw [e85]; exact o4) (by rw [e85]; exact o3) hGm.1.1 M2.1 (k : Int) (m : Int)
        have d3 : ∀ z, z ∉ W_M_comes → w3 z = w2 z := w_M_comes k m w2 _ f3
        dsimp only at b2
        have hR3 : Rw k B w3 := by rw [hBd]; exact (b1.1 k e (S2 k e hk)).1
        have r0 : w3 86 0 = ((aR B : Nat) : Int) := by
          rw [d3 86 (by decide), M2.1.1]
          have u1 : aR (mvA B m) = aR A := hGm.1.2.1
          have u2 : aR B = aR A := hG.1.2.1
          rw [u1, u2]
        have h89 : w3 89 = w 89 := by rw [d3 89 (by decide), e2 89 (by decide) (by decide)]
        obtain ⟨w4, f4, M4, b4⟩ := wp_laysRow hB (k := k) (by omega) hR3 r0 (by rw [h89]; exact q2.1.2.2.2.2)
        have d4 : ∀ z, z ∉ W_M_laysRow → w4 z = w3 z := w_M_laysRow k w3 w4 f4
        rw [f2, Option.bind_some, f3, Option.bind_some]
        dsimp only
        rw [f4, Option.bind_some]
        unfold f_M_finds_59
        rw [wp_some, gE_l, wI_s (by omega)]
        have hO3 := cmo_MOu hc b1
        dsimp only at hO3
        have hn1 : inF B k x (m + 1) = cmf (inF B k x m) (mvA B m) k m := by rw [inF_s, if_pos (by rw [hrn, hP]; rfl)]
        have e4 : ∀ z, z ≠ 116 → z ∉ W_M_does → z ∉ W_M_comes → w4 z = w z := fun z z1 z2 z3 => by rw [d4 z z2, d3 z z3, e2 z z1 z2]
        have k85 : ∀ i, i ≠ 52 → i ≠ 53 → w4 85 i = w 85 i := fun i i1 i2 => by rw [d4 85 (by decide), b2 i i1 i2, e85]
        refine ⟨rfl, ?_, M4, fLd_d q3 (e4 100 (by decide) (by decide) (by decide)) (e4 102 (by decide) (by decide) (by decide)) (e4 103 (by decide) (by decide) (by decide)) (k85 20 (by decide) (by decide)), fun z hz => ?_, fun i i1 i2 => ?_, fun i hi => ?_⟩
        · dsimp only
          rw [hn1]
          exact MOu_c hO3 (d4 120 (by decide)) (d4 121 (by decide)) (d4 122 (by decide)) (by rw [d4 85 (by decide)]) (by rw [d4 85 (by decide)])
        · dsimp only
          rw [e4 z (by omega) (by simp [W_M_does]; omega) (by simp [W_M_comes]; omega)]
          exact q4 z hz
        · dsimp only
          rw [k85 i i1 i2]
          exact q5 i i1 i2
        · dsimp only
          rw [b4 i (by omega) (by omega), d3 86 (by decide)]
          have : w2 86 i = w1 86 i := by
            by_cases h132 : m < 132
            · obtain ⟨u, g1, -, g2⟩ := wp_removes hB M1 (gb_lt hm)
              have hd : f_M_does m w1 = f_M_removes ((gb m : Nat) : Int) w1 := by
                obtain ⟨p0, p1, p2⟩ := e_bridgeOf hm w1
                obtain ⟨l1, l2, l3⟩ := mv_lt hm
                have k1 : kshl 1 ((mv1 m : Nat) : Int) = ((2 ^ mv1 m : Nat) : Int) := kone (by omega)
                have k2 : kshl 1 ((mv2 m : Nat) : Int) = ((2 ^ mv2 m : Nat) : Int) := kone (by omega)
                have g3 : 2 ^ mv1 m < 2 ^ 11 := Nat.pow_lt_pow_right (by decide) l1
                have g4 : 2 ^ mv2 m < 2 ^ 11 := Nat.pow_lt_pow_right (by decide) l2
                unfold f_M_does
                rw [p0, Option.bind_some, e_kindOf, Option.bind_some]
                by_cases h11 : m < 11
                · have ek : knd m = 1 := by unfold knd; rw [if_pos h11]
                  have eg : gb m = 2 ^ mv1 m := by unfold gb; rw [if_pos h11]
                  rw [ek, if_pos (by decide), k1, ← eg, g1, Option.bind_some]
                · have ek : knd m = 2 := by unfold knd; rw [if_neg h11, if_pos h132]
                  have eg : gb m = 2 ^ mv1 m ||| 2 ^ mv2 m := by unfold gb; rw [if_neg h11, if_pos h132]
                  rw [ek, if_neg (by decide), if_pos (by decide), p1, if_neg h11, Option.bind_some, k1, k2, kor_n (by omega) (by omega), ← eg, g1, Option.bind_some]
              rw [hd, g1] at f2
              rw [← Option.some.inj f2]
              exact g2 i hi
            · obtain ⟨p0, -, -⟩ := e_bridgeOf hm w1
              have ek : knd m = 3 := by unfold knd; rw [if_neg (by omega), if_neg h132]
              unfold f_M_does at f2
              rw [p0, Option.bind_some, e_kindOf, Option.bind_some, ek, if_neg (by decide), if_neg (by decide)] at f2
              obtain ⟨u, g1, g2⟩ := gbind f2
              have g2 := Option.some.inj g2
              have d5 : ∀ z, z ∉ W_M_slides → u z = w1 z := w_M_slides w1 u g1
              rw [← g2, d5 86 (by decide)]
          rw [this, a1 86 (by decide)]
          exact q6 i hi
      · rw [if_neg hP] at a2
        rw [if_pos a2]
        unfold f_M_finds_59
        rw [wp_some, gE_l, wI_s (by omega)]
        have hn1 : inF B k x (m + 1) = inF B k x m := by rw [inF_s, if_neg (fun z => hP ((Bool.and_eq_true_iff.mp z).2))]
        refine ⟨rfl, ?_, M1, fLd_c q3 a1, fun z hz => by dsimp only; rw [a1 z (by omega)]; exact q4 z hz, fun i i1 i2 => by dsimp only; rw [a1 85 (by decide)]; exact q5 i i1 i2, fun i hi => by dsimp only; rw [a1 86 (by decide)]; exact q6 i hi⟩
        dsimp only
        rw [hn1]
        exact MOu_c q1 (a1 120 (by decide)) (a1 121 (by decide)) (a1 122 (by decide)) (by rw [a1 85 (by decide)]) (by rw [a1 85 (by decide)])
  · rintro ⟨o, y2, w⟩ ⟨rfl, q1, q2, q3, q4, q5, q6⟩
    dsimp only at q1 q2 q3 q4 q5 q6
    dsimp only
    unfold f_M_finds_35b
    rw [if_pos (by decide), wp_map]
    unfold f_M_finds_61
    rw [wp_some, gE_r, wI_s (by omega)]
    exact ⟨o, w, rfl, q1, q2, q4, q5, q6⟩
/-! how deep the empty situation lies -/
theorem dpl_st {G : zA → Prop} {x : zS} (h : SI G x) : ∀ f k, k ≤ f → k < x.1.length → dpl x.1 (f + 1) k = dpl x.1 f k
  | 0, k, h1, _ => by
    have : k = 0 := by omega
    rw [this, dpl_0, dpl_0]
  | f + 1, k, h1, h2 => by
    rw [dpl_s x.1 (f + 1) k, dpl_s x.1 f k]
    by_cases h0 : k = 0
    · rw [if_pos h0, if_pos h0]
    · obtain ⟨e, he, h3⟩ := SI_fr h h2
      obtain ⟨h4, -⟩ := h3 (by omega)
      rw [if_neg h0, if_neg h0, dpl_st h f (frm x.1 k) (by omega) (by omega)]
theorem e_80 {G : zA → Prop} {x : zS} (h : SI G x) {s : kM} (hR : MRw x.1 s) {k0 : Nat} (hk : k0 < x.1.length) (h121 : s 121 x.1.length = (k0 : Int)) : f_M_finds_80 0 ((x.1.length : Nat) : Int) s = some (((dpl x.1 300 k0 + 1 : Nat) : Int), s) := by
  have hl := h.1
  unfold f_M_finds_80
  apply wp_eq
  refine wp_gL (fun n y => (n = 302 ∧ y = ((0 : Int), ((x.1.length : Nat) : Int))) ∨ ∃ j c : Nat, n = j ∧ y = ((c : Int), (j : Int)) ∧ j < x.1.length ∧ c ≤ 302 ∧ c + dpl x.1 300 j = dpl x.1 300 k0 + 1) ?_ gF 302 _ (Or.inl ⟨rfl, rfl⟩) (show 302 < 4096 by decide)
  rintro n y (⟨rfl, rfl⟩ | ⟨j, c, rfl, rfl, hj, hc, hD⟩)
  · dsimp only
    unfold f_M_finds_80b
    rw [gI_n (by omega), Option.bind_some, h121, if_neg (by omega), Option.bind_some, h121, wp_some, gE_l]
    refine ⟨k0, by omega, Or.inr ⟨k0, 1, rfl, ?_, hk, by omega, by omega⟩⟩
    rfl
  · have he := List.getElem?_eq_getElem hj
    obtain ⟨-, a2, -⟩ := hR n _ he
    dsimp only
    unfold f_M_finds_80b
    rw [gI_n (by omega), Option.bind_some, a2]
    by_cases h0 : n = 0
    · rw [(h.2.1 n _ he).2.2.1 h0, if_pos rfl, wp_some, gE_r]
      rw [h0, dpl_0] at hD
      rw [← hD]
      rfl
    · obtain ⟨e', he', h3⟩ := SI_fr h hj
      rw [he] at he'
      have he3 := Option.some.inj he'
      obtain ⟨h4, h5, -⟩ := h3 (by omega)
      rw [← he3] at h5
      have hle := dpl_le x.1 300 k0
      have hst : dpl x.1 300 (frm x.1 n) = dpl x.1 299 (frm x.1 n) := dpl_st h 299 (frm x.1 n) (by omega) (by omega)
      rw [dpl_s x.1 299 n, if_neg h0] at hD
      rw [← h5, if_neg (by omega), Option.bind_some, a2, ← h5, wp_some, gE_l, wI_s (by omega)]
      refine ⟨frm x.1 n, h4, Or.inr ⟨frm x.1 n, c + 1, rfl, rfl, by omega, by omega, ?_⟩⟩
      rw [hst]
      omega
theorem wp_63 {A : zA} (hA : okA A) {s : kM} (hM : MT A s) {x : zS} (h : SI (G1 A) x) {o : Int} {w : kM} (hO : MOu x o w) (h94 : ∀ j, j < 6 → w 94 j = s 86 j) (h95 : ∀ j, j < 22 → w 95 j = s 87 j) (h96 : ∀ j, j < 22 → w 96 j = s 88 j) (h97 : ∀ j, j < 11 → w 97 j = s 89 j) : wp (f_M_finds_63 o w) (fun r => r.1 = srr x ∧ MT A r.2 ∧ (∀ j, j < 6 → r.2 86 j = s 86 j) ∧ r.2 85 = w 85 ∧ MOu x o r.2) := by
  obtain ⟨t, f1, t1, t2, t3⟩ := wp_laysBack hA hM h94 h95 h96 h97
  have d1 : ∀ z, z ∉ W_M_laysBack → t z = w z := w_M_laysBack w t f1
  have hO' : MOu x o t := MOu_c hO (d1 120 (by decide)) (d1 121 (by decide)) (d1 122 (by decide)) (by rw [t3]) (by rw [t3])
  unfold f_M_finds_63 srr
  rw [f1, Option.bind_some]
  cases hc : x.2 with
  | none =>
    obtain ⟨-, o1, o2, -⟩ := MOu_n hO' hc
    rw [if_pos o2, if_pos o1, wp_some]
    exact ⟨rfl, t1, t2, t3, hO'⟩
  | some oo =>
    cases oo with
    | none =>
      obtain ⟨-, o1, o2⟩ := MOu_o hO' hc
      rw [if_pos o2, if_neg (by rw [o1]; decide), wp_some]
      exact ⟨rfl, t1, t2, t3, hO'⟩
    | some q =>
      obtain ⟨qk, qm⟩ := q
      obtain ⟨r1, o1, o2, o3, o4⟩ := MOu_f hO' hc
      obtain ⟨-, e', he', -⟩ := h.2.2 qk qm hc
      have hqk := (List.getElem?_eq_some_iff.mp he').1
      rw [if_neg (by rw [o2]; omega), o2, e_80 h r1 hqk o3, wp_some]
      exact ⟨rfl, t1, t2, t3, hO'⟩
/-- the reference's search of A as it ended -/
def MEd (A : zA) (s : kM) : Prop := 0 < aN A → MRw (srq A).1 s ∧ ∀ k m, (srq A).2 = some (some (k, m)) → s 85 53 = (((srq A).1.length : Nat) : Int) ∧ s 121 (srq A).1.length = (k : Int) ∧ s 122 (srq A).1.length = (m : Int)
theorem MEd_o {A : zA} {o : Int} {s : kM} (h : MOu (srq A) o s) : MEd A s := by
  intro _
  refine ⟨h.1, fun k m hc => ?_⟩
  obtain ⟨-, -, b1, b2, b3⟩ := MOu_f h hc
  exact ⟨b1, b2, b3⟩
def fnd (A : zA) (s : kM) (r : Int × kM) : Prop := r.1 = shv A ∧ MT A r.2 ∧ (∀ j, j < 6 → r.2 86 j = s 86 j) ∧ (∀ i, i ≠ 20 → i ≠ 52 → i ≠ 53 → r.2 85 i = s 85 i) ∧ MEd A r.2
theorem wp_finds {A : zA} (hA : okA A) {s : kM} (hM : MT A s) : wp (f_M_finds s) (fun r => fnd A s r) := by
  have hn := okB_n hA.1
  have ek : ∃ s1, f_M_keeps s = some s1 ∧ (∀ j, j < 6 → s1 94 j = s 86 j) ∧ (∀ j, j < 22 → s1 95 j = s 87 j) ∧ (∀ j, j < 22 → s1 96 j = s 88 j) ∧ (∀ j, j < 11 → s1 97 j = s 89 j) := by
    unfold f_M_keeps
    rw [e_M_lay (by decide) (by decide) (by decide), Option.bind_some, e_M_lay (by decide) (by decide) (by decide), Option.bind_some, e_M_lay (by decide) (by decide) (by decide), Option.bind_some, e_M_lay (by decide) (by decide) (by decide), Option.bind_some]
    refine ⟨_, rfl, fun j hj => ?_, fun j hj => ?_, fun j hj => ?_, fun j hj => ?_⟩
    · rw [gA_n _ _ (by decide), gA_n _ _ (by decide), gA_n _ _ (by decide), gA_s, if_pos hj]
    · rw [gA_n _ _ (by decide), gA_n _ _ (by decide), gA_s, if_pos hj, gA_n _ _ (by decide)]
    · rw [gA_n _ _ (by decide), gA_s, if_pos hj, gA_n _ _ (by decide), gA_n _ _ (by decide)]
    · rw [gA_s, if_pos hj, gA_n _ _ (by decide), gA_n _ _ (by decide), gA_n _ _ (by decide)]
  obtain ⟨s1, f1, k94, k95, k96, k97⟩ := ek
  have d1 : ∀ z, z ∉ W_M_keeps → s1 z = s z := w_M_keeps s s1 f1
  unfold f_M_finds
  rw [f1, Option.bind_some, gLet_eq, gLet_eq]
  obtain ⟨s2, hs2⟩ : ∃ s2, s2 = gU (gU s1 85 52 0) 85 53 (-1) := ⟨_, rfl⟩
  have c1 : ∀ z, z ≠ 85 → s2 z = s1 z := fun z hz => by rw [hs2, gU_n _ _ _ hz, gU_n _ _ _ hz]
  have c52 : s2 85 52 = ((([] : List zE).length : Nat) : Int) := by rw [hs2, gUo _ _ _ (by decide), gUs]; rfl
  have c53 : s2 85 53 = -1 := by rw [hs2, gUs]
  have c85 : ∀ i, i ≠ 52 → i ≠ 53 → s2 85 i = s 85 i := fun i a b => by rw [hs2, gUo _ _ _ b, gUo _ _ _ a, d1 85 (by decide)]
  rw [← hs2]
  clear hs2
  have cs : ∀ z, z ≠ 85 → z ∉ W_M_keeps → s2 z = s z := fun z z1 z2 => by rw [c1 z z1, d1 z z2]
  have hM2 : MT A s2 := MT_c hM (by rw [cs 86 (by decide) (by decide)]; exact ⟨rfl, rfl, rfl⟩) (cs _ (by decide) (by decide)) (cs _ (by decide) (by decide)) (cs _ (by decide) (by decide)) (cs _ (by decide) (by decide)) (cs _ (by decide) (by decide))
  have hSe : SI (G1 A) (([], none) : zS) := ⟨(show 0 ≤ 300 by decide), fun j e he => (by cases he), fun k m z => (by cases z)⟩
  obtain ⟨⟨o, w⟩, f2, b1, b2⟩ := wp_comes (fun B h => h.1.1) hSe (s := s2) (fun j e he => (by cases he)) c52 c53 hA hM2.1 (-1) (-1)
  have d2 : ∀ z, z ∉ W_M_comes → w z = s2 z := w_M_comes _ _ s2 _ f2
  dsimp only at b2
  rw [f2, Option.bind_some]
  dsimp only
  have kw : (∀ j, j < 6 → w 94 j = s 86 j) ∧ (∀ j, j < 22 → w 95 j = s 87 j) ∧ (∀ j, j < 22 → w 96 j = s 88 j) ∧ (∀ j, j < 11 → w 97 j = s 89 j) := ⟨fun j hj => by rw [d2 94 (by decide), c1 94 (by decide)]; exact k94 j hj, fun j hj => by rw [d2 95 (by decide), c1 95 (by decide)]; exact k95 j hj, fun j hj => by rw [d2 96 (by decide), c1 96 (by decide)]; exact k96 j hj, fun j hj => by rw [d2 97 (by decide), c1 97 (by decide)]; exact k97 j hj⟩
  have hno : ¬ oldb ([] : List zE) A = true := fun z => Bool.false_ne_true z
  obtain ⟨b3, b4⟩ := b1
  dsimp only at b3 b4
  unfold f_M_finds_15
  by_cases h0 : aN A = 0
  · rcases b4 with ⟨a1, -⟩ | ⟨-, -, a3, a4, a5, a6, a7⟩ | ⟨-, a2, -⟩ | ⟨-, a2, -⟩
    · exact absurd a1 hno
    · have a5' : w 85 53 = 0 := a5
      have a4' : w 85 52 = 1 := a4
      have a6' : w 121 0 = -1 := a6
      obtain ⟨t, g1, t1, t2, t3⟩ := wp_laysBack hA hM kw.1 kw.2.1 kw.2.2.1 kw.2.2.2
      have dt : ∀ z, z ∉ W_M_laysBack → t z = w z := w_M_laysBack w t g1
      refine ⟨(0, t), ?_, ?_⟩
      · refine gLr (n := 4095) ?_
        dsimp only
        unfold f_M_finds_15b
        rw [a4', if_neg (by decide), if_neg (by decide), a5', if_neg (by decide)]
        unfold f_M_finds_63
        rw [g1, Option.bind_some, t3, a5', if_neg (by decide)]
        have e80 : f_M_finds_80 0 0 t = some (0, t) := by
          unfold f_M_finds_80
          refine gLr (n := 4095) ?_
          show f_M_finds_80b 0 0 t = _
          unfold f_M_finds_80b
          rw [show gI 301 0 = some 0 from rfl, Option.bind_some, dt 121 (by decide), a6', if_pos rfl]
        rw [e80]
        rfl
      · refine ⟨?_, t1, t2, fun i i1 i2 i3 => ?_, fun z => by omega⟩
        · unfold shv
          rw [if_pos h0]
        · dsimp only
          rw [t3, b2 i i2 i3]
          exact c85 i i2 i3
    · exact absurd h0 a2
    · exact absurd h0 a2
  · rcases b4 with ⟨a1, -⟩ | ⟨-, a2, -⟩ | ⟨-, -, a3, -⟩ | ⟨-, -, -, a3, a4, a5, a6, a7, a8⟩
    · exact absurd a1 hno
    · exact absurd a2 h0
    · exact absurd a3 (by decide)
    · have hS0 : SI (G1 A) (sr0 A) := SI_0 (G1_A hA) (by omega)
      have SO := SI_ot (GM_1 A) hS0
      have hN := snn_e A
      have hO0 : MOu (sr0 A) o w := by
        refine ⟨fun j e he => ?_, a3, a5, a4⟩
        have he' : [((A, -1, 0) : zE)][j]? = some e := he
        by_cases hj : j = 0
        · subst hj
          have he2 : some ((A, -1, 0) : zE) = some e := he'
          have he3 := Option.some.inj he2
          subst he3
          exact ⟨a6, a7, fun z => absurd z (Nat.lt_irrefl 0)⟩
        · rw [List.getElem?_eq_none (show [((A, -1, 0) : zE)].length ≤ j by show 1 ≤ _; omega)] at he'
          cases he'
      have fin : ∀ k, k ≤ 300 → (¬ rnn (otF (sr0 A) k) = true ∨ (otF (sr0 A) k).1.length ≤ k) → srq A = otF (sr0 A) k := fun k hk hc => by
        have hst := ot_st hc (snn A - k)
        rw [show k + (snn A - k) = snn A by omega] at hst
        exact hst
      have es : shv A = srr (srq A) := by unfold shv; rw [if_neg h0]
      have last : ∀ (k : Nat) (o' : Int) (u : kM), srq A = otF (sr0 A) k → MOu (otF (sr0 A) k) o' u → (∀ z, 94 ≤ z ∧ z ≤ 97 → u z = w z) → (∀ i, i ≠ 20 → i ≠ 52 → i ≠ 53 → u 85 i = w 85 i) → wp (f_M_finds_63 o' u) (fun r => fnd A s r) := by
        intro k o' u u1 u2 u3 u4
        rw [← u1] at u2
        have hSS : SI (G1 A) (srq A) := by rw [u1]; exact SO k
        refine (wp_63 hA hM hSS u2 (by rw [u3 94 (by decide)]; exact kw.1) (by rw [u3 95 (by decide)]; exact kw.2.1) (by rw [u3 96 (by decide)]; exact kw.2.2.1) (by rw [u3 97 (by decide)]; exact kw.2.2.2)).mono ?_
        rintro r ⟨r1, r2, r3, r4, r5⟩
        refine ⟨by rw [r1, es], r2, r3, fun i i1 i2 i3 => ?_, MEd_o r5⟩
        rw [r4, u4 i i1 i2 i3, b2 i i2 i3]
        exact c85 i i2 i3
      refine wp_for (snn A) (fun k y => y.2.1 = (k : Int) ∧ MOu (otF (sr0 A) k) y.1 y.2.2 ∧ (∀ z, z < 85 ∨ (89 ≤ z ∧ z ≤ 97) → y.2.2 z = w z) ∧ y.2.2 86 0 = ((aR A : Nat) : Int) ∧ ∀ i, i ≠ 20 → i ≠ 52 → i ≠ 53 → y.2.2 85 i = w 85 i) 0 _ (by omega) (by omega) (by exact ⟨rfl, hO0, fun _ _ => rfl, by dsimp only; rw [d2 86 (by decide), cs 86 (by decide) (by decide)]; exact hM.1.1, fun _ _ _ _ => rfl⟩) ?_ ?_
      · rintro k ⟨o', y2, u⟩ _ hk ⟨rfl, q1, q2, q3, q4⟩
        dsimp only at q1 q2 q3 q4
        have q2' : ∀ z, 94 ≤ z ∧ z ≤ 97 → u z = w z := fun z hz => q2 z (by omega)
        dsimp only
        unfold f_M_finds_15b
        have outk : srq A = otF (sr0 A) k → wp (Option.map Sum.inr (f_M_finds_63 o' u)) (gE (fun (y : Int × Int × kM) => y.2.1 = ((k + 1 : Nat) : Int) ∧ MOu (otF (sr0 A) (k + 1)) y.1 y.2.2 ∧ (∀ z, z < 85 ∨ (89 ≤ z ∧ z ≤ 97) → y.2.2 z = w z) ∧ y.2.2 86 0 = ((aR A : Nat) : Int) ∧ ∀ i, i ≠ 20 → i ≠ 52 → i ≠ 53 → y.2.2 85 i = w 85 i) (fun r => fnd A s r)) := by
          intro hx
          rw [wp_map]
          exact last k o' u hx q1 q2' q4
        have h300 : ¬ (300 : Int) ≤ (k : Int) := by omega
        cases hc : (otF (sr0 A) k).2 with
        | some oo =>
          have hx := fin k (by omega) (Or.inl (by unfold rnn; rw [hc]; exact Bool.false_ne_true))
          cases oo with
          | none =>
            obtain ⟨-, o1, o2⟩ := MOu_o q1 hc
            rw [if_neg h300, if_pos o2, if_neg (show ¬ o' = 0 by rw [o1]; decide), ite_self]
            exact outk hx
          | some q =>
            obtain ⟨-, o1, o2, -⟩ := MOu_f q1 hc
            rw [if_neg h300, if_neg (show ¬ u 85 53 = -1 by rw [o2]; omega), ite_self]
            exact outk hx
        | none =>
          obtain ⟨o1, o2, o3, o4⟩ := MOu_n q1 hc
          have hrn : rnn (otF (sr0 A) k) = true := by unfold rnn; rw [hc]; rfl
          by_cases hlen : (otF (sr0 A) k).1.length ≤ k
          · rw [o4, if_pos (by omega)]
            exact outk (fin k (by omega) (Or.inr hlen))
          · have he := List.getElem?_eq_getElem (show k < (otF (sr0 A) k).1.length by omega)
            obtain ⟨gG, -⟩ := (SO k).2.1 k _ he
            rw [o4, if_neg (by omega), if_neg h300, if_pos o3, if_pos o2]
            obtain ⟨u1, g1, m1, n1⟩ := wp_laysRow gG.1.1 (k := k) (by omega) (o1 k _ he).1 (by rw [q3, gG.1.2.1]) (by
              intro i hi
              rw [q2 89 (by decide), d2 89 (by decide), cs 89 (by decide) (by decide), gG.1.2.2.1]
              exact hM.1.2.2.2.2 i (gG.2 i hi))
            have e1 : ∀ z, z ∉ W_M_laysRow → u1 z = u z := w_M_laysRow k u u1 g1
            obtain ⟨u2, g2, m2⟩ := wp_fillsLand gG.1.1 m1
            have hO2 : MOu (otF (sr0 A) k) 0 u2 := by
              rw [← o2]
              exact MOu_c q1 (by rw [m2.1 120 (by decide) (by decide) (by decide) (by decide) (by decide), e1 120 (by decide)]) (by rw [m2.1 121 (by decide) (by decide) (by decide) (by decide) (by decide), e1 121 (by decide)]) (by rw [m2.1 122 (by decide) (by decide) (by decide) (by decide) (by decide), e1 122 (by decide)]) (by rw [m2.2.1 53 (by decide), e1 85 (by decide)]) (by rw [m2.2.1 52 (by decide), e1 85 (by decide)])
            have z2 : ∀ z, z ≠ 85 → (z < 100 ∨ 103 < z) → u2 z = u1 z := fun z a b => m2.1 z a (by omega) (by omega) (by omega) (by omega)
            have hM3 := MT_c m1 (s' := u2) (by rw [z2 86 (by decide) (by decide)]; exact ⟨rfl, rfl, rfl⟩) (z2 _ (by decide) (by decide)) (z2 _ (by decide) (by decide)) (z2 _ (by decide) (by decide)) (z2 _ (by decide) (by decide)) (z2 _ (by decide) (by decide))
            obtain ⟨r, g3, o5, u3, rfl, p1, p2, p3, p4, p5⟩ := wp_inn (SO k) hrn he hO2 hM3 (fLd_d m2 rfl rfl rfl rfl)
            rw [← otF_s] at p1
            rw [o2, g1, Option.bind_some, g2, Option.bind_some, g3, wp_some, gE_l]
            refine ⟨rfl, p1, fun z hz => ?_, ?_, fun i i1 i2 i3 => ?_⟩
            · dsimp only
              rw [p3 z hz, z2 z (by omega) (by omega), e1 z (by simp [W_M_laysRow]; omega)]
              exact q2 z hz
            · dsimp only
              rw [p2.1.1, gG.1.2.1]
            · dsimp only
              rw [p4 i i2 i3, m2.2.1 i i1, e1 85 (by decide)]
              exact q4 i i1 i2 i3
      · rintro ⟨o', y2, u⟩ ⟨rfl, q1, q2, q3, q4⟩
        dsimp only at q1 q2 q3 q4
        dsimp only
        unfold f_M_finds_15b
        rw [if_pos (show (300 : Int) ≤ ((snn A : Nat) : Int) by omega), ite_self, wp_map]
        exact last (snn A) o' u rfl q1 (fun z hz => q2 z (by omega)) q4
