/-! SEARCH: what the class keeps; SHAKEN, ROW -/
def fls (A : zA) (X : Nat) : Nat → zA
  | 0 => A
  | k + 1 => if X.testBit k = true then flA (fls A X k) k else fls A X k
theorem fls_s (A : zA) (X k : Nat) : fls A X (k + 1) = if X.testBit k = true then flA (fls A X k) k else fls A X k := rfl
/-- the fewest bridges to be changed, among the first n sets, and the least such set -/
def chF (A : zA) : Nat → Int × Nat
  | 0 => (-2, 0)
  | n + 1 => if n &&& mk (ap A) (aN A) = n ∧ ((chF A n).1 = -2 ∨ ((oc n 11 : Nat) : Int) < (chF A n).1) ∧ 0 ≤ shv (fls A n 11) then (((oc n 11 : Nat) : Int), n) else chF A n
theorem chF_s (A : zA) (n : Nat) : chF A (n + 1) = if n &&& mk (ap A) (aN A) = n ∧ ((chF A n).1 = -2 ∨ ((oc n 11 : Nat) : Int) < (chF A n).1) ∧ 0 ≤ shv (fls A n 11) then (((oc n 11 : Nat) : Int), n) else chF A n := rfl
def cnn (A : zA) : Nat := 2048 + 0 * aN A
theorem cnn_e (A : zA) : cnn A = 2048 := by
  unfold cnn
  rw [Nat.zero_mul]
def chv (A : zA) : Int := if (chF A (cnn A)).1 = -2 then -1 else (((chF A (cnn A)).2 : Nat) : Int)
def RC0 (A : zA) (s : kM) : Prop := BRC A s ∧ (s 21 16 ≠ 0 → s 21 15 = shv A ∧ KEd A s) ∧ (s 21 18 ≠ 0 → s 21 17 = chv A)
theorem KEd_c {A : zA} {s t : kM} (h : KEd A s) (h1 : ∀ z, 22 ≤ z → z ≤ 26 → t z = s z) (h2 : ∀ i, i = 9 ∨ i = 13 ∨ i = 14 → t 21 i = s 21 i) : KEd A t := by
  intro h0
  obtain ⟨a1, a2⟩ := h h0
  refine ⟨KRp_c a1 h1 (h2 9 (by decide)), fun k m hc => ?_⟩
  rw [h2 13 (by decide), h2 14 (by decide)]
  exact a2 k m hc
theorem hRC0 : hRC RC0 := by
  refine ⟨fun A s s' h h1 => ?_, fun A s h1 h2 h3 => ⟨fun z => absurd h1 z, fun z => absurd h2 z, fun z => absurd h3 z⟩⟩
  obtain ⟨a1, a2, a3⟩ := h
  have e21 : s' 21 = s 21 := h1 21 (by decide) (by decide)
  refine ⟨?_, fun z => ?_, fun z => ?_⟩
  · unfold BRC at a1 ⊢
    rw [h1 44 (by decide) (by decide), h1 45 (by decide) (by decide)]
    exact a1
  · rw [e21] at z ⊢
    exact ⟨(a2 z).1, KEd_c (a2 z).2 (fun y y1 y2 => h1 y (by omega) (by omega)) (fun i _ => by rw [e21])⟩
  · rw [e21] at z ⊢
    exact a3 z
theorem RC0_B : ∀ A s, RC0 A s → BRC A s := fun _ _ h => h.1
theorem RC0_B2 : ∀ A s s', RC0 A s → (∀ z, 21 ≤ z → z ≤ 43 → s' z = s z) → BRC A s' → RC0 A s' := by
  intro A s s' h h1 h2
  obtain ⟨a1, a2, a3⟩ := h
  have e21 : s' 21 = s 21 := h1 21 (by decide) (by decide)
  refine ⟨h2, fun z => ?_, fun z => ?_⟩
  · rw [e21] at z ⊢
    exact ⟨(a2 z).1, KEd_c (a2 z).2 (fun y y1 y2 => h1 y (by omega) (by omega)) (fun i _ => by rw [e21])⟩
  · rw [e21] at z ⊢
    exact a3 z
theorem wp_fewest {A : zA} (hA : okA A) {s : kM} (hK : KT 4 A s) (hR : RC0 A s) : wp (f_Search_fewestMoves 4 s) (fun r => r.1 = shv A ∧ RC0 A r.2 ∧ r.2 21 15 = shv A ∧ KEd A r.2 ∧ ∀ z, z < 21 ∨ 43 < z → r.2 z = s z) := by
  unfold f_Search_fewestMoves f_Search_fewestMoves_11
  by_cases h0 : s 21 16 = 0
  · obtain ⟨⟨zv, t⟩, f1, t1, t2, t3⟩ := wp_shake hA (b1 := 4) rfl (Or.inl rfl) hK.1
    have d1 : ∀ z, z ∉ W_Search_shake 4 → t z = s z := w_Search_shake 4 s _ f1
    dsimp only at t1 t2 t3
    rw [if_pos h0, f1, Option.bind_some, gLet_eq, gLet_eq, wp_some]
    dsimp only
    obtain ⟨G, hG⟩ : ∃ G, G = gU (gU t 21 15 zv) 21 16 1 := ⟨_, rfl⟩
    have g1 : ∀ z, z ≠ 21 → G z = t z := fun z hz => by rw [hG, gU_n _ _ _ hz, gU_n _ _ _ hz]
    have g15 : G 21 15 = shv A := by rw [hG, gUo _ _ _ (by decide), gUs]; exact t1
    have g2 : ∀ i, i ≠ 15 → i ≠ 16 → G 21 i = t 21 i := fun i a b => by rw [hG, gUo _ _ _ b, gUo _ _ _ a]
    rw [← hG]
    clear hG
    have hE : KEd A G := KEd_c t2 (fun z z1 z2 => g1 z (by omega)) (fun i hi => g2 i (by omega) (by omega))
    have fz : ∀ z, z < 21 ∨ 43 < z → G z = s z := fun z hz => by rw [g1 z (by omega), d1 z (by simp [W_Search_shake]; omega)]
    refine ⟨g15, ⟨?_, fun _ => ⟨g15, hE⟩, fun z => ?_⟩, g15, hE, fz⟩
    · have := hR.1
      unfold BRC at this ⊢
      rw [fz 44 (by decide), fz 45 (by decide)]
      exact this
    · rw [g2 18 (by decide) (by decide), t3 18 (by decide)] at z
      rw [g2 17 (by decide) (by decide), t3 17 (by decide)]
      exact hR.2.2 z
  · rw [if_neg h0, wp_some]
    exact ⟨(hR.2.1 h0).1, hR, (hR.2.1 h0).1, (hR.2.1 h0).2, fun _ _ => rfl⟩
section FIND
variable {RC : zA → kM → Prop} {RU : Nat → kM → Prop}
theorem Rel_fd (hU : hRU RU) {A : zA} {s t : kM} (q1 : okA A) (q2 : KT 4 A s) (q4 : RTape s) (q5 : RScal s) (q6 : RRule RU s) (q7 : RImg s) (e : ∀ z, (z < 21 ∨ 43 < z) → z ∉ W_M_finds → t z = s z) (hM : MT A t) (h86 : ∀ j, j < 6 → t 86 j = s 86 j) (h85 : ∀ j, j = 21 ∨ j = 25 ∨ j = 30 → t 85 j = s 85 j) (hc : RC A t) : Rel RC RU t := by
  refine ⟨A, q1, KT_c q2 (fun i hi => e _ (by omega) (by simp [W_M_finds]; omega)), hM, RTape_c q4 (e _ (by decide) (by decide)) (e _ (by decide) (by decide)) (h85 _ (by decide)) (e _ (by decide) (by decide)), RScal_c q5 ?_ ⟨h86 3 (by decide), h86 4 (by decide), h86 5 (by decide)⟩ ?_, RRule_c hU q6 ?_ ⟨h85 _ (by decide), h85 _ (by decide)⟩ ?_ (e _ (by decide) (by decide)) (fun a h1 h2 => e a (by omega) (by simp [W_M_finds]; omega)) (fun a h1 h2 => e a (by omega) (by simp [W_M_finds]; omega)), RImg_c q7 (fun a h1 h2 => e a (by omega) (by simp [W_M_finds]; omega)) (e _ (by decide) (by decide)) (e _ (by decide) (by decide)) ?_, hc⟩
  · rw [e 3 (by decide) (by decide)]; exact ⟨rfl, rfl, rfl⟩
  · rw [e 0 (by decide) (by decide)]
  · rw [e 0 (by decide) (by decide)]
  · rw [e 900 (by decide) (by decide)]
  · rw [e 0 (by decide) (by decide)]; omega
end FIND
theorem RC0_k {A : zA} {s t : kM} (h : RC0 A s) (h1 : ∀ z, 21 ≤ z → z ≤ 47 → t z = s z) : RC0 A t := hRC0.1 A s t h h1
theorem O_shaken {RU : Nat → kM → Prop} (hU : hRU RU) : OB RC0 RU f_KT_shaken f_M_shaken := by
  intro s hr
  obtain ⟨A, hA, hK, hM, r1, r2, r3, r4, hRC⟩ := id hr
  by_cases h0 : aR A = 0
  · refine ⟨-1, s, s, ?_, ?_, hr⟩
    · unfold f_KT_shaken
      rw [hK.1.1, if_pos (by omega)]
    · unfold f_M_shaken
      rw [e_M_isTown hM.1, if_neg (by omega)]
      rfl
  · obtain ⟨⟨zv, t⟩, f1, t1, t2, -, -, t5⟩ := wp_fewest hA hK hRC
    dsimp only at t1 t2 t5
    have hMt : MT A t := MT_k hM (fun z h1 h2 => t5 z (by omega))
    obtain ⟨⟨zw, u⟩, f2, u1, u2, u3, u4, u5⟩ := wp_finds hA hMt
    have d2 : ∀ z, z ∉ W_M_finds → u z = t z := w_M_finds t _ f2
    dsimp only at u1 u2 u3 u4
    have hin : f_M_isTown t = some 1 := by rw [e_M_isTown hMt.1, if_pos (by omega)]
    refine ⟨zv, t, u, ?_, ?_, Rel_fd hU hA hK r1 r2 r3 r4 (fun z z1 z2 => by rw [d2 z z2, t5 z z1]) u2 (fun j hj => by rw [u3 j hj, t5 86 (by decide)]) (fun j hj => by rw [u4 j (by omega) (by omega) (by omega), t5 85 (by decide)]) (RC0_k t2 (fun z z1 z2 => d2 z (by simp [W_M_finds]; omega)))⟩
    · unfold f_KT_shaken
      rw [hK.1.1, if_neg (by omega), f1, Option.bind_some]
    · unfold f_M_shaken
      rw [hin, Option.bind_some, if_neg (by decide), f2, Option.bind_some, u1, t1]
/-! the row: the reference goes back along it -/
def atq (l : List zE) (k : Nat) : Nat → Nat
  | 0 => l.length
  | i + 1 => anc l k i
theorem rwq_lt {G : zA → Prop} {x : zS} (h : SI G x) {k m : Nat} (hm : m < 1463) (hk : k < x.1.length) : ∀ i, i ≤ dpl x.1 300 k → rwq x.1 k m i < 1463
  | 0, _ => hm
  | i + 1, hi => by
    have a1 := (anc_d h hk i (by omega)).1
    have a3 := anc_p h hk (i := i) (by omega)
    obtain ⟨e, he, h2⟩ := SI_fr h a1
    obtain ⟨-, -, h5, h6⟩ := h2 a3
    show bym x.1 (anc x.1 k i) < 1463
    rw [h5]
    exact h6
theorem at_f {G : zA → Prop} {x : zS} (h : SI G x) {s : kM} (hR : MRw x.1 s) {k m : Nat} (hk : k < x.1.length) (h121 : s 121 x.1.length = (k : Int)) (h122 : s 122 x.1.length = (m : Int)) : ∀ i, i ≤ dpl x.1 300 k → atq x.1 k i ≤ x.1.length ∧ s 122 (atq x.1 k i) = ((rwq x.1 k m i : Nat) : Int) ∧ s 121 (atq x.1 k i) = ((anc x.1 k i : Nat) : Int)
  | 0, _ => ⟨Nat.le_refl _, h122, h121⟩
  | i + 1, hi => by
    have a1 := (anc_d h hk i (by omega)).1
    have a3 := anc_p h hk (i := i) (by omega)
    obtain ⟨e, he, h2⟩ := SI_fr h a1
    obtain ⟨h3, h4, h5, h6⟩ := h2 a3
    obtain ⟨-, b2, b3⟩ := hR _ e he
    refine ⟨Nat.le_of_lt a1, ?_, ?_⟩
    · show s 122 (anc x.1 k i) = ((bym x.1 (anc x.1 k i) : Nat) : Int)
      rw [b3 a3, h5]
    · show s 121 (anc x.1 k i) = ((frm x.1 (anc x.1 k i) : Nat) : Int)
      rw [b2, h4]
theorem e_row34 {G : zA → Prop} {x : zS} (h : SI G x) {s : kM} (hR : MRw x.1 s) {k m : Nat} (hm : m < 1463) (hk : k < x.1.length) (h121 : s 121 x.1.length = (k : Int)) (h122 : s 122 x.1.length = (m : Int)) {j : Nat} (hj : j < dpl x.1 300 k + 1) {q : Nat} (hq : q ≤ 3) : ∃ zv, f_M_row_34 j q ((x.1.length : Nat) : Int) ((dpl x.1 300 k : Nat) : Int) s = some (zv, s) ∧ f_Land_partOfMove ((ky (rwq x.1 k m (dpl x.1 300 k - j)) : Nat) : Int) q s = some zv := by
  have hl := h.1
  have hle := dpl_le x.1 300 k
  have hlt := rwq_lt h hm hk (dpl x.1 300 k - j) (by omega)
  obtain ⟨p0, p1, p2, p3⟩ := e_part hlt s
  obtain ⟨g0, g1, g2⟩ := e_bridgeOf hlt s
  have key : ∀ zv, (q = 0 → f_M_kindOf ((rwq x.1 k m (dpl x.1 300 k - j) : Nat) : Int) s = some zv) → (q ≠ 0 → f_M_bridgeOf ((rwq x.1 k m (dpl x.1 300 k - j) : Nat) : Int) (wI ((q : Int) - 1)) s = some zv) → f_M_row_34 j q ((x.1.length : Nat) : Int) ((dpl x.1 300 k : Nat) : Int) s = some (zv, s) := by
    intro zv c1 c2
    unfold f_M_row_34
    apply wp_eq
    refine wp_for (dpl x.1 300 k - j) (fun i y => y.1 = ((atq x.1 k i : Nat) : Int) ∧ y.2 = ((dpl x.1 300 k - i : Nat) : Int)) 0 _ (by omega) (by omega) (by exact ⟨rfl, rfl⟩) ?_ ?_
    · rintro i ⟨y1, y2⟩ _ hi ⟨rfl, rfl⟩
      obtain ⟨b1, b2, b3⟩ := at_f h hR hk h121 h122 i (by omega)
      have ew : wI (((dpl x.1 300 k - i : Nat) : Int) + -1) = ((dpl x.1 300 k - (i + 1) : Nat) : Int) := by rw [wI_id (by omega) (by omega)]; omega
      dsimp only
      unfold f_M_row_34b
      rw [if_neg (by clear ew; omega), gI_n (by clear ew; omega), Option.bind_some, wp_some, gE_l, b3, ew]
      exact ⟨rfl, rfl⟩
    · rintro ⟨y1, y2⟩ ⟨rfl, rfl⟩
      obtain ⟨b1, b2, b3⟩ := at_f h hR hk h121 h122 (dpl x.1 300 k - j) (by omega)
      dsimp only
      unfold f_M_row_34b
      rw [if_pos (by omega), gI_n (by omega), Option.bind_some, Option.bind_some, b2]
      by_cases c : q = 0
      · rw [if_pos (by omega), c1 c, Option.bind_some, wp_some, gE_r]
      · rw [if_neg (by omega), c2 c, Option.bind_some, wp_some, gE_r]
  have hq' : q = 0 ∨ q = 1 ∨ q = 2 ∨ q = 3 := by omega
  rcases hq' with rfl | rfl | rfl | rfl
  · exact ⟨_, key _ (fun _ => e_kindOf _ s) (fun z => absurd rfl z), p0⟩
  · exact ⟨_, key _ (fun z => by cases z) (fun _ => g0), p1⟩
  · exact ⟨_, key _ (fun z => by cases z) (fun _ => g1), p2⟩
  · exact ⟨_, key _ (fun z => by cases z) (fun _ => g2), p3⟩
