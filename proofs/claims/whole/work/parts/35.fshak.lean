/-! SEARCH: the class shakes a town out -/
def frm (l : List zE) (k : Nat) : Nat := match l[k]? with
  | none => 0
  | some e => e.2.1.toNat
def bym (l : List zE) (k : Nat) : Nat := match l[k]? with
  | none => 0
  | some e => e.2.2
theorem frm_e {l : List zE} {k : Nat} {e : zE} (h : l[k]? = some e) : frm l k = e.2.1.toNat ∧ bym l k = e.2.2 := by
  unfold frm bym
  rw [h]
  exact ⟨rfl, rfl⟩
def dpl (l : List zE) : Nat → Nat → Nat
  | 0, _ => 0
  | f + 1, k => if k = 0 then 0 else dpl l f (frm l k) + 1
theorem dpl_s (l : List zE) (f k : Nat) : dpl l (f + 1) k = if k = 0 then 0 else dpl l f (frm l k) + 1 := rfl
theorem dpl_0 (l : List zE) : ∀ f, dpl l f 0 = 0
  | 0 => rfl
  | f + 1 => by rw [dpl_s, if_pos rfl]
theorem dpl_le (l : List zE) : ∀ f k, dpl l f k ≤ f
  | 0, _ => Nat.le_refl 0
  | f + 1, k => by
    rw [dpl_s]
    have := dpl_le l f (frm l k)
    split <;> omega
/-- 300, said so that nobody computes with it -/
def snn (A : zA) : Nat := 300 + 0 * aN A
theorem snn_e (A : zA) : snn A = 300 := by
  unfold snn
  rw [Nat.zero_mul]
def srq (A : zA) : zS := otF (sr0 A) (snn A)
def srr (x : zS) : Int := match x.2 with
  | none => -2
  | some none => -3
  | some (some q) => ((dpl x.1 300 q.1 + 1 : Nat) : Int)
def shv (A : zA) : Int := if aN A = 0 then 0 else srr (srq A)
theorem SI_fr {G : zA → Prop} {x : zS} (h : SI G x) {k : Nat} (hk : k < x.1.length) : ∃ e, x.1[k]? = some e ∧ (0 < k → frm x.1 k < k ∧ ((frm x.1 k : Nat) : Int) = e.2.1 ∧ bym x.1 k = e.2.2 ∧ e.2.2 < 1463) := by
  have he := List.getElem?_eq_getElem hk
  refine ⟨_, he, fun h0 => ?_⟩
  obtain ⟨a1, a2⟩ := frm_e he
  obtain ⟨b1, b2, b3⟩ := (h.2.1 k _ he).2.2.2 h0
  rw [a1, a2]
  exact ⟨by omega, by omega, rfl, b3⟩
theorem e_depth {G : zA → Prop} {x : zS} (h : SI G x) {s : kM} (hK : KRp x.1 s) {k : Nat} (hk : k < x.1.length) : f_Search_depthOf k s = some ((dpl x.1 300 k : Nat) : Int) := by
  have hl := h.1
  unfold f_Search_depthOf f_Search_depthOf_6
  apply wp_eq
  refine wp_for 300 (fun n y => ∃ d j : Nat, y.1 = (d : Int) ∧ y.2.1 = (j : Int) ∧ y.2.2 = (n : Int) ∧ j < x.1.length ∧ d ≤ n ∧ dpl x.1 300 k = d + dpl x.1 (300 - n) j) 0 _ (by omega) (by omega) (by exact ⟨0, k, rfl, rfl, rfl, hk, by omega, by rw [Nat.zero_add]⟩) ?_ ?_
  · rintro n ⟨y1, y2, y3⟩ _ hn ⟨d, j, rfl, rfl, rfl, hj, hd, hD⟩
    dsimp only
    unfold f_Search_depthOf_6b
    rw [if_neg (by omega)]
    rw [show 300 - n = (300 - (n + 1)) + 1 by omega, dpl_s x.1 (300 - (n + 1)) j] at hD
    by_cases h0 : j = 0
    · rw [if_pos h0] at hD
      rw [if_pos (by omega), wp_some, gE_r, hD]
      rfl
    · rw [if_neg h0] at hD
      obtain ⟨e, he, h2⟩ := SI_fr h hj
      obtain ⟨h3, h4, h5, h6⟩ := h2 (by omega)
      obtain ⟨-, -, -, e4, -⟩ := hK.2.2 j e he
      rw [if_neg (by omega), hK.1, if_neg (by omega), gI_n (by omega), Option.bind_some, wp_some, gE_l, e4, wI_s (by omega), wI_s (by omega), ← h4]
      exact ⟨d + 1, frm x.1 j, rfl, rfl, rfl, by omega, by omega, by omega⟩
  · rintro ⟨y1, y2, y3⟩ ⟨d, j, rfl, rfl, rfl, hj, hd, hD⟩
    dsimp only
    unfold f_Search_depthOf_6b
    rw [if_pos (by decide), wp_some, gE_r, hD]
    rfl
theorem e_fill_SS (a n : Nat) (s : kM) (hn : n < 4096) : f_Arrays_fill_SS a n 0 s = some (gA s a (kfill 0 n (s a))) := by
  unfold f_Arrays_fill_SS f_Arrays_fill_SS_5
  apply wp_eq
  refine wp_for n (fun k x => x.1 = (k : Int) ∧ x.2 = gA s a (kfill 0 k (s a))) 0 _ (by omega) hn ⟨rfl, ?_⟩ ?_ ?_
  · rw [kfill_0, gA_id]
  · rintro k ⟨i, s'⟩ h1 h2 ⟨rfl, rfl⟩
    simp only [f_Arrays_fill_SS_5b, wp_ite, wp_bind, wp_gI, wp_gLet, wp_some, gE_l, gE_r]
    refine ⟨fun c => by omega, fun c => ⟨by omega, ?_, ?_⟩⟩
    · rw [wI_id (by omega) (by omega)]
      rfl
    · rw [Int.toNat_natCast, gUA, ki2s_id (by decide) (by decide), kfill_s]
  · rintro ⟨i, s'⟩ ⟨rfl, rfl⟩
    simp only [f_Arrays_fill_SS_5b, wp_ite, wp_bind, wp_gI, wp_gLet, wp_some, gE_l, gE_r]
    exact ⟨fun c => trivial, fun c => by omega⟩
theorem cq_none {P : Nat → Bool} : ∀ n, (∀ i, i < n → ¬ P i = true) → cq P n = 0
  | 0, _ => rfl
  | n + 1, h => by rw [cq_succ, cq_none n (fun i hi => h i (by omega)), if_neg (h n (by omega))]
/-- the class's search of A as it ended -/
def KEd (A : zA) (s : kM) : Prop := 0 < aN A → KRp (srq A).1 s ∧ ∀ k m, (srq A).2 = some (some (k, m)) → s 21 13 = (k : Int) ∧ s 21 14 = ((ky m : Nat) : Int)
theorem wp_shl {A : zA} (hA : okA A) (h0 : ¬ aN A = 0) {b1 : Nat} {s5 : kM} (hP0 : KSr A (sr0 A).1 s5) : wp (f_Search_shake_27 b1 0 s5) (fun r => r.1 = srr (srq A) ∧ (KRp (srq A).1 r.2 ∧ ∀ k m, (srq A).2 = some (some (k, m)) → r.2 21 13 = (k : Int) ∧ r.2 21 14 = ((ky m : Nat) : Int)) ∧ ∀ i, 15 ≤ i → r.2 21 i = s5 21 i) := by
  have hN := snn_e A
  have hS0 : SI (G1 A) (sr0 A) := SI_0 (G1_A hA) (by omega)
  have SO := SI_ot (GM_1 A) hS0
  unfold f_Search_shake_27
  have fin : ∀ k, k ≤ 300 → (¬ rnn (otF (sr0 A) k) = true ∨ (otF (sr0 A) k).1.length ≤ k) → srq A = otF (sr0 A) k := fun k hk hc => by
    have hst := ot_st hc (snn A - k)
    rw [show k + (snn A - k) = snn A by omega] at hst
    exact hst
  refine wp_for (snn A) (fun k y => y.1 = (k : Int) ∧ rnn (otF (sr0 A) k) = true ∧ KSr A (otF (sr0 A) k).1 y.2 ∧ ∀ i, 15 ≤ i → y.2 21 i = s5 21 i) 0 _ (by omega) (by omega) (by exact ⟨rfl, rfl, hP0, fun _ _ => rfl⟩) ?_ ?_
  · rintro k ⟨y1, w⟩ _ hk ⟨rfl, q1, q2, q3⟩
    dsimp only at q2 q3
    dsimp only
    unfold f_Search_shake_27b
    rw [q2.1.1]
    by_cases hlen : (otF (sr0 A) k).1.length ≤ k
    · have hfin := fin k (by omega) (Or.inr hlen)
      have hno : (otF (sr0 A) k).2 = none := Option.isNone_iff_eq_none.mp q1
      rw [if_pos (by omega), wp_some, gE_r, hfin]
      unfold srr
      rw [hno]
      exact ⟨rfl, ⟨q2.1, fun k m z => (by cases z)⟩, q3⟩
    · have he := List.getElem?_eq_getElem (show k < (otF (sr0 A) k).1.length by omega)
      rw [if_neg (by omega), if_neg (by omega)]
      obtain ⟨⟨r1, w1⟩, f7, g1, g2, g3⟩ := wp_goOn (SO k) q1 he q2
      rw [← otF_s] at g1 g2
      dsimp only at g2 g3
      rw [f7, Option.bind_some]
      dsimp only
      cases hc : (otF (sr0 A) (k + 1)).2 with
      | none =>
        rw [hc] at g1
        have g1' : r1 = -2 := g1
        rw [if_pos g1', wp_some, gE_l, wI_s (by omega)]
        exact ⟨rfl, by unfold rnn; rw [hc]; rfl, g2, fun i hi => by dsimp only; rw [g3 i hi]; exact q3 i hi⟩
      | some o =>
        have hfin := fin (k + 1) (by omega) (Or.inl (by unfold rnn; rw [hc]; exact Bool.false_ne_true))
        cases o with
        | none =>
          rw [hc] at g1
          have g1' : r1 = -3 := g1
          rw [if_neg (by rw [g1']; decide), if_pos g1', wp_some, gE_r, hfin]
          unfold srr
          rw [hc]
          exact ⟨rfl, ⟨g2.1, fun k m z => (by cases z)⟩, fun i hi => by dsimp only; rw [g3 i hi]; exact q3 i hi⟩
        | some q =>
          obtain ⟨qk, qm⟩ := q
          rw [hc] at g1
          obtain ⟨g4, g5, g6⟩ := g1
          dsimp only at g4 g5 g6
          obtain ⟨-, e', he', -⟩ := (SO (k + 1)).2.2 qk qm hc
          have hqk := (List.getElem?_eq_some_iff.mp he').1
          have hD := dpl_le (otF (sr0 A) (k + 1)).1 300 qk
          rw [if_neg (by rw [g4]; decide), if_neg (by rw [g4]; decide), g5, e_depth (SO (k + 1)) g2.1 hqk, Option.bind_some, wp_some, gE_r, hfin]
          unfold srr
          rw [hc]
          dsimp only
          rw [wI_s (by omega)]
          refine ⟨rfl, ⟨g2.1, fun k m z => ?_⟩, fun i hi => by rw [g3 i hi]; exact q3 i hi⟩
          injection z with z
          injection z with z
          injection z with z1 z2
          rw [← z1, ← z2]
          exact ⟨g5, g6⟩
  · rintro ⟨y1, w⟩ ⟨rfl, q1, q2, q3⟩
    dsimp only at q2 q3
    have hno : (otF (sr0 A) (snn A)).2 = none := Option.isNone_iff_eq_none.mp q1
    dsimp only
    unfold f_Search_shake_27b
    rw [q2.1.1, if_pos (by have := q2.1.2.1; omega), wp_some, gE_r]
    show _ = srr (otF (sr0 A) (snn A)) ∧ (KRp (otF (sr0 A) (snn A)).1 _ ∧ ∀ k m, (otF (sr0 A) (snn A)).2 = some (some (k, m)) → _) ∧ _
    unfold srr
    rw [hno]
    exact ⟨rfl, ⟨q2.1, fun k m z => (by cases z)⟩, q3⟩
theorem wp_shake {A : zA} (hA : okA A) {b1 : Nat} (hb : tT b1 = true) (hb2 : b1 = 4 ∨ b1 = 34) {s : kM} (hK : KR b1 A s) : wp (f_Search_shake b1 s) (fun r => r.1 = shv A ∧ KEd A r.2 ∧ ∀ i, 15 ≤ i → r.2 21 i = s 21 i) := by
  unfold f_Search_shake shv KEd
  rw [hK.2.2.1]
  by_cases h0 : aN A = 0
  · rw [if_pos (by omega), wp_some, if_pos h0]
    exact ⟨rfl, fun z => by omega, fun _ _ => rfl⟩
  · rw [if_neg (by omega), e_fill_SS _ _ _ (by decide), Option.bind_some, if_neg h0]
    obtain ⟨s1, hs1⟩ : ∃ s1, s1 = gA s 27 (kfill 0 1024 (s 27)) := ⟨_, rfl⟩
    have a1 : ∀ z, z ≠ 27 → s1 z = s z := fun z hz => by rw [hs1, gA_n _ _ hz]
    have a2 : ∀ i, i < 1024 → s1 27 i = 0 := fun i hi => by rw [hs1, gA_s]; unfold kfill; rw [if_pos hi]
    rw [← hs1]
    clear hs1
    obtain ⟨s2, f2, t2⟩ := wp_copyFrom (b := 28) (c := b1) rfl hb (by omega) hA.1 (s := s1) (KR_c hK (a1 _ (by omega)) (a1 _ (by omega)) (a1 _ (by omega)))
    have w2 : ∀ z, z ∉ W_Town_copyFrom 28 b1 → s2 z = s1 z := w_Town_copyFrom 28 b1 s1 s2 f2
    have b27 : ∀ z, z < 28 → s2 z = s1 z := fun z hz => w2 z (by simp [W_Town_copyFrom]; omega)
    rw [f2, Option.bind_some, gLet_eq]
    obtain ⟨s3, hs3⟩ : ∃ s3, s3 = gU s2 21 9 0 := ⟨_, rfl⟩
    have c1 : ∀ z, z ≠ 21 → s3 z = s2 z := fun z hz => by rw [hs3, gU_n _ _ _ hz]
    have c9 : s3 21 9 = 0 := by rw [hs3, gUs]
    have c2 : ∀ i, 15 ≤ i → s3 21 i = s 21 i := fun i hi => by rw [hs3, gUo _ _ _ (by omega), b27 21 (by decide), a1 21 (by decide)]
    have c27 : ∀ i, i < 1024 → s3 27 i = 0 := fun i hi => by rw [c1 27 (by decide), b27 27 (by decide)]; exact a2 i hi
    rw [← hs3]
    clear hs3
    have t3 : KT 28 A s3 := KT_c t2 (fun i hi => c1 _ (by omega))
    obtain ⟨s4, f4, p1, p2, p3, p4, p5⟩ := wp_pack hA t3.1 (X := 0) (by decide)
    have f4' : f_Search_pack 0 s3 = some s4 := f4
    obtain ⟨o1, o2, o3⟩ := drp0 A
    obtain ⟨o4, o5⟩ := plo_c o2 (by rw [o2]; exact o3)
    rw [o4] at p1
    rw [o5] at p2
    rw [o1] at p3
    have c27' : ∀ i, i < 1024 → s4 27 i = 0 := fun i hi => by rw [p4 27 (by decide)]; exact c27 i hi
    have hH0 : KHs ([] : List zE).length s4 := ⟨fun i hi => by rw [c27' i hi]; exact ⟨by decide, by decide⟩, cq_none 1024 (fun i hi => by unfold slp; rw [decide_eq_true_eq, c27' i hi]; decide), fun j hj => absurd hj (Nat.not_lt_zero j)⟩
    have hR0 : KRp [] s4 := ⟨by rw [p5 9 (by decide) (by decide) (by decide), c9]; rfl, by decide, fun j e he => (by cases he)⟩
    rw [f4', Option.bind_some]
    obtain ⟨r, f5, hr⟩ := wp_freeSlot hH0 (by decide) hR0.1
    rw [f5, Option.bind_some]
    rcases hr with ⟨-, j, j1, -⟩ | ⟨d, d1, d2, d3, d4, -⟩
    · exact absurd j1 (Nat.not_lt_zero j)
    obtain ⟨s5, f6, n1, n2, n3, n4⟩ := wp_add hR0 hH0 (by decide) (B := A) hA.1 (fr := -1) (by decide) (by decide) (m := 0) (by_ := 0) (by decide) (fun z => absurd z (Nat.lt_irrefl 0)) p1 p2 p3 d3 d1 d4
    rw [d2, f6, Option.bind_some]
    have t5 : KT 28 A s5 := KT_c t3 (fun i hi => by rw [n3 _ (by omega), p4 _ (by omega)])
    have hP0 : KSr A (sr0 A).1 s5 := ⟨n1, n2, t5.1.1, t5.1.2.2.2.2⟩
    have fr5 : ∀ i, 15 ≤ i → s5 21 i = s 21 i := fun i hi => by rw [n4 i (by omega), p5 i (by omega) (by omega) (by omega)]; exact c2 i hi
    refine (wp_shl hA h0 hP0).mono ?_
    rintro r ⟨r1, r2, r3⟩
    exact ⟨r1, fun _ => r2, fun i hi => by rw [r3 i hi]; exact fr5 i hi⟩
/-! the moves of a row -/
def anc (l : List zE) (k : Nat) : Nat → Nat
  | 0 => k
  | i + 1 => frm l (anc l k i)
def rwq (l : List zE) (k m : Nat) : Nat → Nat
  | 0 => m
  | i + 1 => bym l (anc l k i)
theorem anc_d {G : zA → Prop} {x : zS} (h : SI G x) {k : Nat} (hk : k < x.1.length) : ∀ i, i ≤ dpl x.1 300 k → anc x.1 k i < x.1.length ∧ dpl x.1 (300 - i) (anc x.1 k i) + i = dpl x.1 300 k
  | 0, _ => ⟨hk, rfl⟩
  | i + 1, hi => by
    obtain ⟨a1, a2⟩ := anc_d h hk i (by omega)
    have hle := dpl_le x.1 300 k
    rw [show 300 - i = (300 - (i + 1)) + 1 by omega, dpl_s x.1 (300 - (i + 1)) (anc x.1 k i)] at a2
    by_cases h0 : anc x.1 k i = 0
    · rw [if_pos h0] at a2
      omega
    · rw [if_neg h0] at a2
      obtain ⟨e, he, h2⟩ := SI_fr h a1
      obtain ⟨h3, -⟩ := h2 (by omega)
      exact ⟨show frm x.1 (anc x.1 k i) < _ by omega, by show dpl x.1 (300 - (i + 1)) (frm x.1 (anc x.1 k i)) + (i + 1) = _; omega⟩
theorem anc_p {G : zA → Prop} {x : zS} (h : SI G x) {k : Nat} (hk : k < x.1.length) {i : Nat} (hi : i < dpl x.1 300 k) : 0 < anc x.1 k i := by
  obtain ⟨a1, a2⟩ := anc_d h hk i (by omega)
  by_cases h0 : anc x.1 k i = 0
  · rw [h0, dpl_0] at a2
    omega
  · omega
theorem e_moveOf {G : zA → Prop} {x : zS} (h : SI G x) {s : kM} (hK : KRp x.1 s) {k m : Nat} (hk : k < x.1.length) (h13 : s 21 13 = (k : Int)) (h14 : s 21 14 = ((ky m : Nat) : Int)) (h15 : s 21 15 = ((dpl x.1 300 k + 1 : Nat) : Int)) {j : Nat} (hj : j < dpl x.1 300 k + 1) : f_Search_moveOfRow j s = some ((ky (rwq x.1 k m (dpl x.1 300 k - j)) : Nat) : Int) := by
  have hle := dpl_le x.1 300 k
  have hl := h.1
  have e1 : wI (((dpl x.1 300 k + 1 : Nat) : Int) - 1) = ((dpl x.1 300 k : Nat) : Int) := by rw [wI_id (by omega) (by omega)]; omega
  unfold f_Search_moveOfRow f_Search_moveOfRow_11
  rw [h13, h14, h15, e1]
  clear e1
  apply wp_eq
  refine wp_for (dpl x.1 300 k - j) (fun i y => y.1 = ((ky (rwq x.1 k m i) : Nat) : Int) ∧ y.2.1 = ((anc x.1 k i : Nat) : Int) ∧ y.2.2 = ((dpl x.1 300 k - i : Nat) : Int)) 0 _ (by omega) (by omega) (by exact ⟨rfl, rfl, rfl⟩) ?_ ?_
  · rintro i ⟨y1, y2, y3⟩ _ hi ⟨rfl, rfl, rfl⟩
    obtain ⟨a1, a2⟩ := anc_d h hk i (by omega)
    have a3 := anc_p h hk (i := i) (by omega)
    obtain ⟨e, he, h2⟩ := SI_fr h a1
    obtain ⟨h3, h4, h5, h6⟩ := h2 a3
    obtain ⟨-, -, -, e4, e5⟩ := hK.2.2 _ e he
    have ew : wI (((dpl x.1 300 k - i : Nat) : Int) + -1) = ((dpl x.1 300 k - (i + 1) : Nat) : Int) := by rw [wI_id (by omega) (by omega)]; omega
    dsimp only
    unfold f_Search_moveOfRow_11b
    rw [if_neg (by clear ew; omega), if_neg (by clear ew; omega), hK.1, if_neg (by clear ew; omega), gI_n (by clear ew; omega), Option.bind_some, Option.bind_some, wp_some, gE_l, e4, e5 a3, ew, ← h4, ← h5]
    exact ⟨rfl, rfl, rfl⟩
  · rintro ⟨y1, y2, y3⟩ ⟨rfl, rfl, rfl⟩
    dsimp only
    unfold f_Search_moveOfRow_11b
    rw [if_pos (by omega), wp_some, gE_r]
